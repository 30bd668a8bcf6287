set_option maxHeartbeats 4000000 in
set_option maxRecDepth 100000 in
theorem c_Mo_in (l : Launch) (D : va_G) (cC cI cZ : ClassId)   (p0 : Int32) (p1 : Int32) (p2 : Int32) (r : Int32) (h : f_Mo_in p0 p1 p2 = r) : Met l yX11_in (.code yX11_in cX11_in 3 (some .boolean) :: TBL) (RM 0 0) (PcR [.int p0, .int p1, .int p2] D (TY cC cI cZ) []) (vp_Si (PO .boolean r)) 0 0 (fun _ => False) := by
  refine roOf (by decide) (Nat.le_of_ble_eq_true rfl) rfl ?_
  intro p e s m args below meth c Q ls X hP hl hret
  have X : Ctx p s m args c cX11_in 3 RX11 D (TY cC cI cZ) := X
  obtain ⟨hx, hb, hml, hown, htT, hK, hN⟩ := id X
  unfold f_Mo_in at h
  refine lv_iload_n hx hb dX11_in_0 rfl (lv_at hl 0 rfl) ?_
  refine lv_iload_n hx hb dX11_in_1 rfl (lv_at hl 1 rfl) ?_
  refine lv_icmp_lt (tgt := 14) hx hb dX11_in_2 (by decide) (fun c1 => ?_) (fun c1 => ?_)
  · have h := ip c1 h
    refine lv_iconst (v := (0 : Int32)) hx hb dX11_in_14 rfl ?_
    exact hret _ _ _ dX11_in_15 h rfl
  · have h := im c1 h
    refine lv_iload_n hx hb dX11_in_5 rfl (lv_at hl 0 rfl) ?_
    refine lv_iload_n hx hb dX11_in_6 rfl (lv_at hl 2 rfl) ?_
    refine lv_icmp_gt (tgt := 14) hx hb dX11_in_7 (by decide) (fun c2 => ?_) (fun c2 => ?_)
    · have h := ip c2 h
      refine lv_iconst (v := (0 : Int32)) hx hb dX11_in_14 rfl ?_
      exact hret _ _ _ dX11_in_15 h rfl
    · have h := im c2 h
      refine lv_iconst (v := (1 : Int32)) hx hb dX11_in_10 rfl ?_
      refine lv_goto (tgt := 15) hx hb dX11_in_11 (by decide) ?_
      exact hret _ _ _ dX11_in_15 h rfl
set_option maxHeartbeats 4000000 in
set_option maxRecDepth 100000 in
theorem c_Mo_remember (l : Launch) (D : va_G) (cC cI cZ : ClassId) (a_this : Nat) (a_now : Nat) (a_undos : Nat) (a_seen : Nat) (a_seenAs : Nat) (a_isKept : Nat) (a_kept : Nat) (a_text : Nat) (a_read : Nat) (a_fewest : Nat) (a_doors : Nat) (a_isSo : Nat) (v_undoMany : Int32) (v_undoAt : Int32) (v_seenMany : Int32) (v_letterMany : Int32) (v_readAt : Int32) (v_tokenAt : Int32) (v_token : Int32) (v_value : Int32) (v_faultAt : Int32) (v_readOnce : Int32) (v_greatUpper : Int64) (v_greatLower : Int64) (A_now : Nat → Int32) (A_undos : Nat → Int32) (A_seen : Nat → Int32) (A_seenAs : Nat → Int32) (A_isKept : Nat → Int32) (A_kept : Nat → Int32) (A_text : Nat → Int32) (A_read : Nat → Int32) (A_fewest : Nat → Int32) (A_doors : Nat → Int32) (A_isSo : Nat → Int32)  (sz : Nat) (z : Int32 × Int32 × (Nat → Int32)) (h : f_Mo_remember v_undoMany v_undoAt A_now A_undos = some z) : Met l yX11_remember (.code yX11_remember cX11_remember 2 none :: TBL) (RM 0 0) (PcM [.ref a_this] sz D (TY cC cI cZ) (k_Mo cC cI cZ a_this a_now a_undos a_seen a_seenAs a_isKept a_kept a_text a_read a_fewest a_doors a_isSo v_undoMany v_undoAt v_seenMany v_letterMany v_readAt v_tokenAt v_token v_value v_faultAt v_readOnce v_greatUpper v_greatLower A_now A_undos A_seen A_seenAs A_isKept A_kept A_text A_read A_fewest A_doors A_isSo)) (QM none D (k_Mo cC cI cZ a_this a_now a_undos a_seen a_seenAs a_isKept a_kept a_text a_read a_fewest a_doors a_isSo z.1 z.2.1 v_seenMany v_letterMany v_readAt v_tokenAt v_token v_value v_faultAt v_readOnce v_greatUpper v_greatLower A_now z.2.2 A_seen A_seenAs A_isKept A_kept A_text A_read A_fewest A_doors A_isSo) (va_A (k_Mo cC cI cZ a_this a_now a_undos a_seen a_seenAs a_isKept a_kept a_text a_read a_fewest a_doors a_isSo v_undoMany v_undoAt v_seenMany v_letterMany v_readAt v_tokenAt v_token v_value v_faultAt v_readOnce v_greatUpper v_greatLower A_now A_undos A_seen A_seenAs A_isKept A_kept A_text A_read A_fewest A_doors A_isSo) sz)) 0 0 (va_A (k_Mo cC cI cZ a_this a_now a_undos a_seen a_seenAs a_isKept a_kept a_text a_read a_fewest a_doors a_isSo v_undoMany v_undoAt v_seenMany v_letterMany v_readAt v_tokenAt v_token v_value v_faultAt v_readOnce v_greatUpper v_greatLower A_now A_undos A_seen A_seenAs A_isKept A_kept A_text A_read A_fewest A_doors A_isSo) sz) := by
  refine muOfV (by decide) (Nat.le_of_ble_eq_true rfl) rfl ?_
  intro p e s m args below meth c Q ls A X hP hD hS hA hl hret
  have X : Ctx p s m args c cX11_remember 2 RX11 D (TY cC cI cZ) := X
  obtain ⟨hx, hb, hml, hown, htT, hK, hN⟩ := id X
  unfold f_Mo_remember at h
  refine lv_iconst (v := (0 : Int32)) hx hb dX11_remember_0 rfl ?_
  refine lv_istore_n (lv' := [(1, .int (0 : Int32)), (0, .ref a_this)]) hx hb dX11_remember_1 rfl hl (by decide) rfl (fun ls hl => ?_)
  have LP2 : ∀ (n : Nat) (y2_1 : Int32) (A_undos_2 : Nat → Int32) (zq2 : (Nat → Int32)), f_Mo_remember_L2 v_undoAt A_now n y2_1 A_undos_2 = some zq2 → ∀ (H : Heap) (locs : List Loc) (ls : Array Slot), va_P D vwCl (k_Mo cC cI cZ a_this a_now a_undos a_seen a_seenAs a_isKept a_kept a_text a_read a_fewest a_doors a_isSo v_undoMany v_undoAt v_seenMany v_letterMany v_readAt v_tokenAt v_token v_value v_faultAt v_readOnce v_greatUpper v_greatLower A_now A_undos_2 A_seen A_seenAs A_isKept A_kept A_text A_read A_fewest A_doors A_isSo) H → va_D A (k_Mo cC cI cZ a_this a_now a_undos a_seen a_seenAs a_isKept a_kept a_text a_read a_fewest a_doors a_isSo v_undoMany v_undoAt v_seenMany v_letterMany v_readAt v_tokenAt v_token v_value v_faultAt v_readOnce v_greatUpper v_greatLower A_now A_undos_2 A_seen A_seenAs A_isKept A_kept A_text A_read A_fewest A_doors A_isSo) → va_S A s.heap H locs → lv_has ls 2 [(0, .ref a_this), (1, .int y2_1)] → (∀ (H : Heap) (locs : List Loc) (ls : Array Slot), va_P D vwCl (k_Mo cC cI cZ a_this a_now a_undos a_seen a_seenAs a_isKept a_kept a_text a_read a_fewest a_doors a_isSo v_undoMany v_undoAt v_seenMany v_letterMany v_readAt v_tokenAt v_token v_value v_faultAt v_readOnce v_greatUpper v_greatLower A_now zq2 A_seen A_seenAs A_isKept A_kept A_text A_read A_fewest A_doors A_isSo) H → va_D A (k_Mo cC cI cZ a_this a_now a_undos a_seen a_seenAs a_isKept a_kept a_text a_read a_fewest a_doors a_isSo v_undoMany v_undoAt v_seenMany v_letterMany v_readAt v_tokenAt v_token v_value v_faultAt v_readOnce v_greatUpper v_greatLower A_now zq2 A_seen A_seenAs A_isKept A_kept A_text A_read A_fewest A_doors A_isSo) → va_S A s.heap H locs → lv_has ls 2 [(0, .ref a_this)] → W p l e (RM 0 0) s m args below meth c H locs 0 0 Q (F0 m 34 ls [])) → W p l e (RM 0 0) s m args below meth c H locs 0 0 Q (F0 m 2 ls []) := by
    clear h
    intro n
    induction n with
    | zero =>
      intro y2_1 A_undos_2 zq2 h
      rw [f_Mo_remember_L2_0] at h
      cases h
    | succ n ih2 =>
      intro y2_1 A_undos_2 zq2 h H locs ls hP hD hS hl k2_0
      rw [f_Mo_remember_L2_s] at h
      refine lv_iload_n hx hb dX11_remember_2 rfl (lv_at hl 1 rfl) ?_
      refine lv_bipush (v := (31 : Int32)) hx hb dX11_remember_3 rfl ?_
      refine lv_icmp_ge (tgt := 34) hx hb dX11_remember_5 (by decide) (fun c2 => ?_) (fun c2 => ?_)
      · have h := ip c2 h
        obtain rfl := Option.some.inj h
        exact k2_0 _ _ _ hP hD hS (lv_sub hl [0] rfl)
      · have h := im c2 h
        refine lv_aload_n hx hb dX11_remember_8 rfl (lv_at hl 0 rfl) ?_
        refine va_get (ci := 11) (v := .ref a_undos) (C := RX11) (T := TX11) (N := 23) hx hb htT inlX11 hown hK hP 0 rfl rfl 3 (by decide) (htT _ q_7_1) (fun _ h9 => h9) rfl dX11_remember_9 ?_
        refine lv_bipush (v := (31 : Int32)) hx hb dX11_remember_12 rfl ?_
        refine lv_aload_n hx hb dX11_remember_14 rfl (lv_at hl 0 rfl) ?_
        refine va_get (ci := 11) (v := .int v_undoAt) (C := RX11) (T := TX11) (N := 23) hx hb htT inlX11 hown hK hP 0 rfl rfl 2 (by decide) (htT _ q_17_11) (fun _ h9 => h9) rfl dX11_remember_15 ?_
        refine lv_imul hx hb dX11_remember_18 ?_
        refine lv_iload_n hx hb dX11_remember_19 rfl (lv_at hl 1 rfl) ?_
        refine lv_iadd hx hb dX11_remember_20 ?_
        refine lv_aload_n hx hb dX11_remember_21 rfl (lv_at hl 0 rfl) ?_
        refine va_get (ci := 11) (v := .ref a_now) (C := RX11) (T := TX11) (N := 23) hx hb htT inlX11 hown hK hP 0 rfl rfl 0 (by decide) (htT _ q_7_0) (fun _ h9 => h9) rfl dX11_remember_22 ?_
        refine lv_iload_n hx hb dX11_remember_25 rfl (lv_at hl 1 rfl) ?_
        obtain ⟨g3, h⟩ := gd h
        refine va_iald hx hb hK hP 1 1 rfl rfl (inB_in g3) dX11_remember_26 ?_
        obtain ⟨g4, h⟩ := gd h
        refine va_iast hx hb hK hP hD hS 2 1 rfl rfl (inB_in g4) dX11_remember_27 (fun H locs hP hD hS => ?_)
        have hP : va_P D vwCl (k_Mo cC cI cZ a_this a_now a_undos a_seen a_seenAs a_isKept a_kept a_text a_read a_fewest a_doors a_isSo v_undoMany v_undoAt v_seenMany v_letterMany v_readAt v_tokenAt v_token v_value v_faultAt v_readOnce v_greatUpper v_greatLower A_now (upd A_undos_2 ((((31 : Int32) * v_undoAt) + y2_1)).toNatClampNeg (A_now (y2_1).toNatClampNeg)) A_seen A_seenAs A_isKept A_kept A_text A_read A_fewest A_doors A_isSo) H := hP
        have hD : va_D A (k_Mo cC cI cZ a_this a_now a_undos a_seen a_seenAs a_isKept a_kept a_text a_read a_fewest a_doors a_isSo v_undoMany v_undoAt v_seenMany v_letterMany v_readAt v_tokenAt v_token v_value v_faultAt v_readOnce v_greatUpper v_greatLower A_now (upd A_undos_2 ((((31 : Int32) * v_undoAt) + y2_1)).toNatClampNeg (A_now (y2_1).toNatClampNeg)) A_seen A_seenAs A_isKept A_kept A_text A_read A_fewest A_doors A_isSo) := hD
        refine lv_iinc (v := (y2_1 + (1 : Int32))) (lv' := [(1, .int (y2_1 + (1 : Int32))), (0, .ref a_this)]) hx hb dX11_remember_28 hl (k := 1) rfl rfl (by decide) rfl (fun ls hl => ?_)
        refine lv_goto (tgt := 2) hx hb dX11_remember_31 (by decide) ?_
        exact ih2 (y2_1 + (1 : Int32)) (upd A_undos_2 ((((31 : Int32) * v_undoAt) + y2_1)).toNatClampNeg (A_now (y2_1).toNatClampNeg)) _ h _ _ _ hP hD hS (lv_sub hl [1, 0] rfl) k2_0
  obtain ⟨z1, e1, h⟩ := bd h
  refine LP2 fu (0 : Int32) A_undos z1 e1 _ _ _ hP hD hS (lv_sub hl [1, 0] rfl) ?_
  intro H locs ls hP hD hS hl
  refine lv_aload_n hx hb dX11_remember_34 rfl (lv_at hl 0 rfl) ?_
  refine lv_aload_n hx hb dX11_remember_35 rfl (lv_at hl 0 rfl) ?_
  refine va_get (ci := 11) (v := .int v_undoAt) (C := RX11) (T := TX11) (N := 23) hx hb htT inlX11 hown hK hP 0 rfl rfl 2 (by decide) (htT _ q_17_11) (fun _ h9 => h9) rfl dX11_remember_36 ?_
  refine lv_iconst (v := (1 : Int32)) hx hb dX11_remember_39 rfl ?_
  refine lv_iadd hx hb dX11_remember_40 ?_
  refine lv_bipush (v := (10 : Int32)) hx hb dX11_remember_41 rfl ?_
  refine lv_irem hx hb dX11_remember_43 (by decide) ?_
  refine va_put (ci := 11) (v := .int ((v_undoAt + (1 : Int32)) - (v_undoAt + (1 : Int32)) / (10 : Int32) * (10 : Int32))) (ty := .int) (C := RX11) (T := TX11) (N := 23) hx hb htT inlX11 tyX11 tyX11_ok nmX11 hown hK hP hD hS 0 rfl rfl 2 (by decide) (htT _ q_17_11) (fun _ h9 => h9) rfl (tyX11_ok 2 (by decide)) rfl rfl (Nat.le_of_ble_eq_true rfl) dX11_remember_44 (fun H locs hP hD hS => ?_)
  have hP : va_P D vwCl (k_Mo cC cI cZ a_this a_now a_undos a_seen a_seenAs a_isKept a_kept a_text a_read a_fewest a_doors a_isSo v_undoMany ((v_undoAt + (1 : Int32)) - (v_undoAt + (1 : Int32)) / (10 : Int32) * (10 : Int32)) v_seenMany v_letterMany v_readAt v_tokenAt v_token v_value v_faultAt v_readOnce v_greatUpper v_greatLower A_now z1 A_seen A_seenAs A_isKept A_kept A_text A_read A_fewest A_doors A_isSo) H := hP
  have hD : va_D A (k_Mo cC cI cZ a_this a_now a_undos a_seen a_seenAs a_isKept a_kept a_text a_read a_fewest a_doors a_isSo v_undoMany ((v_undoAt + (1 : Int32)) - (v_undoAt + (1 : Int32)) / (10 : Int32) * (10 : Int32)) v_seenMany v_letterMany v_readAt v_tokenAt v_token v_value v_faultAt v_readOnce v_greatUpper v_greatLower A_now z1 A_seen A_seenAs A_isKept A_kept A_text A_read A_fewest A_doors A_isSo) := hD
  refine lv_aload_n hx hb dX11_remember_47 rfl (lv_at hl 0 rfl) ?_
  refine lv_dup hx hb dX11_remember_48 rfl ?_
  refine va_get (ci := 11) (v := .int v_undoMany) (C := RX11) (T := TX11) (N := 23) hx hb htT inlX11 hown hK hP 0 rfl rfl 1 (by decide) (htT _ q_14_0) (fun _ h9 => h9) rfl dX11_remember_49 ?_
  refine lv_aload_n hx hb dX11_remember_52 rfl (lv_at hl 0 rfl) ?_
  refine va_get (ci := 11) (v := .int v_undoMany) (C := RX11) (T := TX11) (N := 23) hx hb htT inlX11 hown hK hP 0 rfl rfl 1 (by decide) (htT _ q_14_0) (fun _ h9 => h9) rfl dX11_remember_53 ?_
  refine lv_bipush (v := (10 : Int32)) hx hb dX11_remember_56 rfl ?_
  refine lv_icmp_ge (tgt := 65) hx hb dX11_remember_58 (by decide) (fun c6 => ?_) (fun c6 => ?_)
  · have h := ip c6 h
    refine lv_iconst (v := (0 : Int32)) hx hb dX11_remember_65 rfl ?_
    refine lv_iadd hx hb dX11_remember_66 ?_
    refine va_put (ci := 11) (v := .int (v_undoMany + (0 : Int32))) (ty := .int) (C := RX11) (T := TX11) (N := 23) hx hb htT inlX11 tyX11 tyX11_ok nmX11 hown hK hP hD hS 0 rfl rfl 1 (by decide) (htT _ q_14_0) (fun _ h9 => h9) rfl (tyX11_ok 1 (by decide)) rfl rfl (Nat.le_of_ble_eq_true rfl) dX11_remember_67 (fun H locs hP hD hS => ?_)
    have hP : va_P D vwCl (k_Mo cC cI cZ a_this a_now a_undos a_seen a_seenAs a_isKept a_kept a_text a_read a_fewest a_doors a_isSo (v_undoMany + (0 : Int32)) ((v_undoAt + (1 : Int32)) - (v_undoAt + (1 : Int32)) / (10 : Int32) * (10 : Int32)) v_seenMany v_letterMany v_readAt v_tokenAt v_token v_value v_faultAt v_readOnce v_greatUpper v_greatLower A_now z1 A_seen A_seenAs A_isKept A_kept A_text A_read A_fewest A_doors A_isSo) H := hP
    have hD : va_D A (k_Mo cC cI cZ a_this a_now a_undos a_seen a_seenAs a_isKept a_kept a_text a_read a_fewest a_doors a_isSo (v_undoMany + (0 : Int32)) ((v_undoAt + (1 : Int32)) - (v_undoAt + (1 : Int32)) / (10 : Int32) * (10 : Int32)) v_seenMany v_letterMany v_readAt v_tokenAt v_token v_value v_faultAt v_readOnce v_greatUpper v_greatLower A_now z1 A_seen A_seenAs A_isKept A_kept A_text A_read A_fewest A_doors A_isSo) := hD
    obtain rfl := Option.some.inj h
    exact hret _ _ _ _ hP hS dX11_remember_70
  · have h := im c6 h
    refine lv_iconst (v := (1 : Int32)) hx hb dX11_remember_61 rfl ?_
    refine lv_goto (tgt := 66) hx hb dX11_remember_62 (by decide) ?_
    refine lv_iadd hx hb dX11_remember_66 ?_
    refine va_put (ci := 11) (v := .int (v_undoMany + (1 : Int32))) (ty := .int) (C := RX11) (T := TX11) (N := 23) hx hb htT inlX11 tyX11 tyX11_ok nmX11 hown hK hP hD hS 0 rfl rfl 1 (by decide) (htT _ q_14_0) (fun _ h9 => h9) rfl (tyX11_ok 1 (by decide)) rfl rfl (Nat.le_of_ble_eq_true rfl) dX11_remember_67 (fun H locs hP hD hS => ?_)
    have hP : va_P D vwCl (k_Mo cC cI cZ a_this a_now a_undos a_seen a_seenAs a_isKept a_kept a_text a_read a_fewest a_doors a_isSo (v_undoMany + (1 : Int32)) ((v_undoAt + (1 : Int32)) - (v_undoAt + (1 : Int32)) / (10 : Int32) * (10 : Int32)) v_seenMany v_letterMany v_readAt v_tokenAt v_token v_value v_faultAt v_readOnce v_greatUpper v_greatLower A_now z1 A_seen A_seenAs A_isKept A_kept A_text A_read A_fewest A_doors A_isSo) H := hP
    have hD : va_D A (k_Mo cC cI cZ a_this a_now a_undos a_seen a_seenAs a_isKept a_kept a_text a_read a_fewest a_doors a_isSo (v_undoMany + (1 : Int32)) ((v_undoAt + (1 : Int32)) - (v_undoAt + (1 : Int32)) / (10 : Int32) * (10 : Int32)) v_seenMany v_letterMany v_readAt v_tokenAt v_token v_value v_faultAt v_readOnce v_greatUpper v_greatLower A_now z1 A_seen A_seenAs A_isKept A_kept A_text A_read A_fewest A_doors A_isSo) := hD
    obtain rfl := Option.some.inj h
    exact hret _ _ _ _ hP hS dX11_remember_70
set_option maxHeartbeats 4000000 in
set_option maxRecDepth 100000 in
theorem c_Mo_comes (l : Launch) (D : va_G) (cC cI cZ : ClassId) (a_this : Nat) (a_now : Nat) (a_undos : Nat) (a_seen : Nat) (a_seenAs : Nat) (a_isKept : Nat) (a_kept : Nat) (a_text : Nat) (a_read : Nat) (a_fewest : Nat) (a_doors : Nat) (a_isSo : Nat) (v_undoMany : Int32) (v_undoAt : Int32) (v_seenMany : Int32) (v_letterMany : Int32) (v_readAt : Int32) (v_tokenAt : Int32) (v_token : Int32) (v_value : Int32) (v_faultAt : Int32) (v_readOnce : Int32) (v_greatUpper : Int64) (v_greatLower : Int64) (A_now : Nat → Int32) (A_undos : Nat → Int32) (A_seen : Nat → Int32) (A_seenAs : Nat → Int32) (A_isKept : Nat → Int32) (A_kept : Nat → Int32) (A_text : Nat → Int32) (A_read : Nat → Int32) (A_fewest : Nat → Int32) (A_doors : Nat → Int32) (A_isSo : Nat → Int32) (p1 : Int32) (p2 : Int32) (sz : Nat) (z : Int32 × Int32 × Int32 × (Nat → Int32) × (Nat → Int32)) (h : f_Mo_comes v_undoMany v_undoAt A_now A_undos p1 p2 = some z) : Met l yX11_comes (.code yX11_comes cX11_comes 4 (some .int) :: TBL) (RM 1 21) (PcM [.ref a_this, .int p1, .int p2] sz D (TY cC cI cZ) (k_Mo cC cI cZ a_this a_now a_undos a_seen a_seenAs a_isKept a_kept a_text a_read a_fewest a_doors a_isSo v_undoMany v_undoAt v_seenMany v_letterMany v_readAt v_tokenAt v_token v_value v_faultAt v_readOnce v_greatUpper v_greatLower A_now A_undos A_seen A_seenAs A_isKept A_kept A_text A_read A_fewest A_doors A_isSo)) (fun a st o t => QM (some (.int z.1)) D (k_Mo cC cI cZ a_this a_now a_undos a_seen a_seenAs a_isKept a_kept a_text a_read a_fewest a_doors a_isSo z.2.1 z.2.2.1 v_seenMany v_letterMany v_readAt v_tokenAt v_token v_value v_faultAt v_readOnce v_greatUpper v_greatLower z.2.2.2.1 z.2.2.2.2 A_seen A_seenAs A_isKept A_kept A_text A_read A_fewest A_doors A_isSo) (va_A (k_Mo cC cI cZ a_this a_now a_undos a_seen a_seenAs a_isKept a_kept a_text a_read a_fewest a_doors a_isSo v_undoMany v_undoAt v_seenMany v_letterMany v_readAt v_tokenAt v_token v_value v_faultAt v_readOnce v_greatUpper v_greatLower A_now A_undos A_seen A_seenAs A_isKept A_kept A_text A_read A_fewest A_doors A_isSo) sz) a st o t ∧ narrow .int (.int z.1) = .int z.1) 0 0 (va_A (k_Mo cC cI cZ a_this a_now a_undos a_seen a_seenAs a_isKept a_kept a_text a_read a_fewest a_doors a_isSo v_undoMany v_undoAt v_seenMany v_letterMany v_readAt v_tokenAt v_token v_value v_faultAt v_readOnce v_greatUpper v_greatLower A_now A_undos A_seen A_seenAs A_isKept A_kept A_text A_read A_fewest A_doors A_isSo) sz) := by
  refine muOf (by decide) (Nat.le_of_ble_eq_true rfl) rfl ?_
  intro p e s m args below meth c Q ls A X hP hD hS hA hl hret
  have X : Ctx p s m args c cX11_comes 4 RX11 D (TY cC cI cZ) := X
  obtain ⟨hx, hb, hml, hown, htT, hK, hN⟩ := id X
  unfold f_Mo_comes at h
  refine lv_aload_n hx hb dX11_comes_0 rfl (lv_at hl 0 rfl) ?_
  refine va_get (ci := 11) (v := .ref a_now) (C := RX11) (T := TX11) (N := 23) hx hb htT inlX11 hown hK hP 0 rfl rfl 0 (by decide) (htT _ q_7_0) (fun _ h9 => h9) rfl dX11_comes_1 ?_
  refine lv_iconst (v := (0 : Int32)) hx hb dX11_comes_4 rfl ?_
  obtain ⟨g1, h⟩ := gd h
  refine va_iald hx hb hK hP 1 1 rfl rfl (inB_in g1) dX11_comes_5 ?_
  refine lv_istore_n (lv' := [(3, .int (A_now ((0 : Int32)).toNatClampNeg)), (0, .ref a_this), (1, .int p1), (2, .int p2)]) hx hb dX11_comes_6 rfl hl (by decide) rfl (fun ls hl => ?_)
  refine lv_iload_n hx hb dX11_comes_7 rfl (lv_at hl 0 rfl) ?_
  refine lv_if_le (tgt := 28) hx hb dX11_comes_8 (by decide) (fun c2 => ?_) (fun c2 => ?_)
  · have h := ip c2 h
    refine lv_iload_n hx hb dX11_comes_28 rfl (lv_at hl 0 rfl) ?_
    refine lv_bipush (v := (14 : Int32)) hx hb dX11_comes_29 rfl ?_
    refine lv_icmp_ne (tgt := 37) hx hb dX11_comes_31 (by decide) (fun c3 => ?_) (fun c3 => ?_)
    · have h := im c3 h
      refine lv_aload_n hx hb dX11_comes_37 rfl (lv_at hl 1 rfl) ?_
      obtain ⟨z4, e4, h⟩ := bd h
      refine muVV (ws' := (k_Mo cC cI cZ a_this a_now a_undos a_seen a_seenAs a_isKept a_kept a_text a_read a_fewest a_doors a_isSo z4.1 z4.2.1 v_seenMany v_letterMany v_readAt v_tokenAt v_token v_value v_faultAt v_readOnce v_greatUpper v_greatLower A_now z4.2.2 A_seen A_seenAs A_isKept A_kept A_text A_read A_fewest A_doors A_isSo)) X [] [] (c_Mo_remember l D cC cI cZ a_this a_now a_undos a_seen a_seenAs a_isKept a_kept a_text a_read a_fewest a_doors a_isSo v_undoMany v_undoAt v_seenMany v_letterMany v_readAt v_tokenAt v_token v_value v_faultAt v_readOnce v_greatUpper v_greatLower A_now A_undos A_seen A_seenAs A_isKept A_kept A_text A_read A_fewest A_doors A_isSo _ z4 e4) gg_X11_120 hd_Mo_remember ⟨rfl, rfl, Nat.le_of_ble_eq_true rfl, Nat.le_of_ble_eq_true rfl⟩ ⟨Nat.zero_le _, Nat.zero_le _⟩ hP hD hS hA [0, 1, 2, 3, 4, 5, 6, 7, 8, 9, 10, 11] [] [0, 1, 2, 3, 4, 5, 6, 7, 8, 9, 10, 11] rfl rfl (by decide) (by decide) rfl rfl rfl rfl rfl hl.1 rfl (Nat.le_of_ble_eq_true rfl) dX11_comes_38 (fun H locs hP hD hS => ?_)
      refine lv_aload_n hx hb dX11_comes_41 rfl (lv_at hl 1 rfl) ?_
      refine va_get (ci := 11) (v := .ref a_now) (C := RX11) (T := TX11) (N := 23) hx hb htT inlX11 hown hK hP 0 rfl rfl 0 (by decide) (htT _ q_7_0) (fun _ h9 => h9) rfl dX11_comes_42 ?_
      refine lv_iconst (v := (3 : Int32)) hx hb dX11_comes_45 rfl ?_
      refine lv_iload_n hx hb dX11_comes_46 rfl (lv_at hl 0 rfl) ?_
      refine lv_iadd hx hb dX11_comes_47 ?_
      refine lv_iload_n hx hb dX11_comes_48 rfl (lv_at hl 2 rfl) ?_
      obtain ⟨g5, h⟩ := gd h
      refine va_iast hx hb hK hP hD hS 1 1 rfl rfl (inB_in g5) dX11_comes_49 (fun H locs hP hD hS => ?_)
      have hP : va_P D vwCl (k_Mo cC cI cZ a_this a_now a_undos a_seen a_seenAs a_isKept a_kept a_text a_read a_fewest a_doors a_isSo z4.1 z4.2.1 v_seenMany v_letterMany v_readAt v_tokenAt v_token v_value v_faultAt v_readOnce v_greatUpper v_greatLower (upd A_now (((3 : Int32) + (A_now ((0 : Int32)).toNatClampNeg))).toNatClampNeg p1) z4.2.2 A_seen A_seenAs A_isKept A_kept A_text A_read A_fewest A_doors A_isSo) H := hP
      have hD : va_D A (k_Mo cC cI cZ a_this a_now a_undos a_seen a_seenAs a_isKept a_kept a_text a_read a_fewest a_doors a_isSo z4.1 z4.2.1 v_seenMany v_letterMany v_readAt v_tokenAt v_token v_value v_faultAt v_readOnce v_greatUpper v_greatLower (upd A_now (((3 : Int32) + (A_now ((0 : Int32)).toNatClampNeg))).toNatClampNeg p1) z4.2.2 A_seen A_seenAs A_isKept A_kept A_text A_read A_fewest A_doors A_isSo) := hD
      refine lv_aload_n hx hb dX11_comes_50 rfl (lv_at hl 1 rfl) ?_
      refine va_get (ci := 11) (v := .ref a_now) (C := RX11) (T := TX11) (N := 23) hx hb htT inlX11 hown hK hP 0 rfl rfl 0 (by decide) (htT _ q_7_0) (fun _ h9 => h9) rfl dX11_comes_51 ?_
      refine lv_bipush (v := (17 : Int32)) hx hb dX11_comes_54 rfl ?_
      refine lv_iload_n hx hb dX11_comes_56 rfl (lv_at hl 0 rfl) ?_
      refine lv_iadd hx hb dX11_comes_57 ?_
      refine lv_iload_n hx hb dX11_comes_58 rfl (lv_at hl 3 rfl) ?_
      obtain ⟨g6, h⟩ := gd h
      refine va_iast hx hb hK hP hD hS 1 1 rfl rfl (inB_in g6) dX11_comes_59 (fun H locs hP hD hS => ?_)
      have hP : va_P D vwCl (k_Mo cC cI cZ a_this a_now a_undos a_seen a_seenAs a_isKept a_kept a_text a_read a_fewest a_doors a_isSo z4.1 z4.2.1 v_seenMany v_letterMany v_readAt v_tokenAt v_token v_value v_faultAt v_readOnce v_greatUpper v_greatLower (upd (upd A_now (((3 : Int32) + (A_now ((0 : Int32)).toNatClampNeg))).toNatClampNeg p1) (((17 : Int32) + (A_now ((0 : Int32)).toNatClampNeg))).toNatClampNeg p2) z4.2.2 A_seen A_seenAs A_isKept A_kept A_text A_read A_fewest A_doors A_isSo) H := hP
      have hD : va_D A (k_Mo cC cI cZ a_this a_now a_undos a_seen a_seenAs a_isKept a_kept a_text a_read a_fewest a_doors a_isSo z4.1 z4.2.1 v_seenMany v_letterMany v_readAt v_tokenAt v_token v_value v_faultAt v_readOnce v_greatUpper v_greatLower (upd (upd A_now (((3 : Int32) + (A_now ((0 : Int32)).toNatClampNeg))).toNatClampNeg p1) (((17 : Int32) + (A_now ((0 : Int32)).toNatClampNeg))).toNatClampNeg p2) z4.2.2 A_seen A_seenAs A_isKept A_kept A_text A_read A_fewest A_doors A_isSo) := hD
      refine lv_aload_n hx hb dX11_comes_60 rfl (lv_at hl 1 rfl) ?_
      refine va_get (ci := 11) (v := .ref a_now) (C := RX11) (T := TX11) (N := 23) hx hb htT inlX11 hown hK hP 0 rfl rfl 0 (by decide) (htT _ q_7_0) (fun _ h9 => h9) rfl dX11_comes_61 ?_
      refine lv_iconst (v := (0 : Int32)) hx hb dX11_comes_64 rfl ?_
      refine lv_dup2_11 hx hb dX11_comes_65 rfl rfl ?_
      obtain ⟨g7, h⟩ := gd h
      refine va_iald hx hb hK hP 1 1 rfl rfl (inB_in g7) dX11_comes_66 ?_
      refine lv_iconst (v := (1 : Int32)) hx hb dX11_comes_67 rfl ?_
      refine lv_iadd hx hb dX11_comes_68 ?_
      obtain ⟨g8, h⟩ := gd h
      refine va_iast hx hb hK hP hD hS 1 1 rfl rfl (inB_in g8) dX11_comes_69 (fun H locs hP hD hS => ?_)
      have hP : va_P D vwCl (k_Mo cC cI cZ a_this a_now a_undos a_seen a_seenAs a_isKept a_kept a_text a_read a_fewest a_doors a_isSo z4.1 z4.2.1 v_seenMany v_letterMany v_readAt v_tokenAt v_token v_value v_faultAt v_readOnce v_greatUpper v_greatLower (upd (upd (upd A_now (((3 : Int32) + (A_now ((0 : Int32)).toNatClampNeg))).toNatClampNeg p1) (((17 : Int32) + (A_now ((0 : Int32)).toNatClampNeg))).toNatClampNeg p2) ((0 : Int32)).toNatClampNeg (((upd (upd A_now (((3 : Int32) + (A_now ((0 : Int32)).toNatClampNeg))).toNatClampNeg p1) (((17 : Int32) + (A_now ((0 : Int32)).toNatClampNeg))).toNatClampNeg p2) ((0 : Int32)).toNatClampNeg) + (1 : Int32))) z4.2.2 A_seen A_seenAs A_isKept A_kept A_text A_read A_fewest A_doors A_isSo) H := hP
      have hD : va_D A (k_Mo cC cI cZ a_this a_now a_undos a_seen a_seenAs a_isKept a_kept a_text a_read a_fewest a_doors a_isSo z4.1 z4.2.1 v_seenMany v_letterMany v_readAt v_tokenAt v_token v_value v_faultAt v_readOnce v_greatUpper v_greatLower (upd (upd (upd A_now (((3 : Int32) + (A_now ((0 : Int32)).toNatClampNeg))).toNatClampNeg p1) (((17 : Int32) + (A_now ((0 : Int32)).toNatClampNeg))).toNatClampNeg p2) ((0 : Int32)).toNatClampNeg (((upd (upd A_now (((3 : Int32) + (A_now ((0 : Int32)).toNatClampNeg))).toNatClampNeg p1) (((17 : Int32) + (A_now ((0 : Int32)).toNatClampNeg))).toNatClampNeg p2) ((0 : Int32)).toNatClampNeg) + (1 : Int32))) z4.2.2 A_seen A_seenAs A_isKept A_kept A_text A_read A_fewest A_doors A_isSo) := hD
      refine lv_iload_n hx hb dX11_comes_70 rfl (lv_at hl 0 rfl) ?_
      obtain rfl := Option.some.inj h
      exact hret _ _ _ _ _ hP hS dX11_comes_71 rfl rfl
    · have h := ip c3 h
      refine lv_bipush (v := (-3 : Int32)) hx hb dX11_comes_34 rfl ?_
      obtain rfl := Option.some.inj h
      exact hret _ _ _ _ _ hP hS dX11_comes_36 rfl rfl
  · have h := im c2 h
    refine lv_iload_n hx hb dX11_comes_11 rfl (lv_at hl 2 rfl) ?_
    refine lv_aload_n hx hb dX11_comes_12 rfl (lv_at hl 1 rfl) ?_
    refine va_get (ci := 11) (v := .ref a_now) (C := RX11) (T := TX11) (N := 23) hx hb htT inlX11 hown hK hP 0 rfl rfl 0 (by decide) (htT _ q_7_0) (fun _ h9 => h9) rfl dX11_comes_13 ?_
    refine lv_iconst (v := (3 : Int32)) hx hb dX11_comes_16 rfl ?_
    refine lv_iload_n hx hb dX11_comes_17 rfl (lv_at hl 0 rfl) ?_
    refine lv_iadd hx hb dX11_comes_18 ?_
    refine lv_iconst (v := (1 : Int32)) hx hb dX11_comes_19 rfl ?_
    refine lv_isub hx hb dX11_comes_20 ?_
    obtain ⟨g9, h⟩ := gd h
    refine va_iald hx hb hK hP 1 1 rfl rfl (inB_in g9) dX11_comes_21 ?_
    refine lv_icmp_gt (tgt := 28) hx hb dX11_comes_22 (by decide) (fun c10 => ?_) (fun c10 => ?_)
    · have h := ip c10 h
      refine lv_iload_n hx hb dX11_comes_28 rfl (lv_at hl 0 rfl) ?_
      refine lv_bipush (v := (14 : Int32)) hx hb dX11_comes_29 rfl ?_
      refine lv_icmp_ne (tgt := 37) hx hb dX11_comes_31 (by decide) (fun c11 => ?_) (fun c11 => ?_)
      · have h := im c11 h
        refine lv_aload_n hx hb dX11_comes_37 rfl (lv_at hl 1 rfl) ?_
        obtain ⟨z12, e12, h⟩ := bd h
        refine muVV (ws' := (k_Mo cC cI cZ a_this a_now a_undos a_seen a_seenAs a_isKept a_kept a_text a_read a_fewest a_doors a_isSo z12.1 z12.2.1 v_seenMany v_letterMany v_readAt v_tokenAt v_token v_value v_faultAt v_readOnce v_greatUpper v_greatLower A_now z12.2.2 A_seen A_seenAs A_isKept A_kept A_text A_read A_fewest A_doors A_isSo)) X [] [] (c_Mo_remember l D cC cI cZ a_this a_now a_undos a_seen a_seenAs a_isKept a_kept a_text a_read a_fewest a_doors a_isSo v_undoMany v_undoAt v_seenMany v_letterMany v_readAt v_tokenAt v_token v_value v_faultAt v_readOnce v_greatUpper v_greatLower A_now A_undos A_seen A_seenAs A_isKept A_kept A_text A_read A_fewest A_doors A_isSo _ z12 e12) gg_X11_120 hd_Mo_remember ⟨rfl, rfl, Nat.le_of_ble_eq_true rfl, Nat.le_of_ble_eq_true rfl⟩ ⟨Nat.zero_le _, Nat.zero_le _⟩ hP hD hS hA [0, 1, 2, 3, 4, 5, 6, 7, 8, 9, 10, 11] [] [0, 1, 2, 3, 4, 5, 6, 7, 8, 9, 10, 11] rfl rfl (by decide) (by decide) rfl rfl rfl rfl rfl hl.1 rfl (Nat.le_of_ble_eq_true rfl) dX11_comes_38 (fun H locs hP hD hS => ?_)
        refine lv_aload_n hx hb dX11_comes_41 rfl (lv_at hl 1 rfl) ?_
        refine va_get (ci := 11) (v := .ref a_now) (C := RX11) (T := TX11) (N := 23) hx hb htT inlX11 hown hK hP 0 rfl rfl 0 (by decide) (htT _ q_7_0) (fun _ h9 => h9) rfl dX11_comes_42 ?_
        refine lv_iconst (v := (3 : Int32)) hx hb dX11_comes_45 rfl ?_
        refine lv_iload_n hx hb dX11_comes_46 rfl (lv_at hl 0 rfl) ?_
        refine lv_iadd hx hb dX11_comes_47 ?_
        refine lv_iload_n hx hb dX11_comes_48 rfl (lv_at hl 2 rfl) ?_
        obtain ⟨g13, h⟩ := gd h
        refine va_iast hx hb hK hP hD hS 1 1 rfl rfl (inB_in g13) dX11_comes_49 (fun H locs hP hD hS => ?_)
        have hP : va_P D vwCl (k_Mo cC cI cZ a_this a_now a_undos a_seen a_seenAs a_isKept a_kept a_text a_read a_fewest a_doors a_isSo z12.1 z12.2.1 v_seenMany v_letterMany v_readAt v_tokenAt v_token v_value v_faultAt v_readOnce v_greatUpper v_greatLower (upd A_now (((3 : Int32) + (A_now ((0 : Int32)).toNatClampNeg))).toNatClampNeg p1) z12.2.2 A_seen A_seenAs A_isKept A_kept A_text A_read A_fewest A_doors A_isSo) H := hP
        have hD : va_D A (k_Mo cC cI cZ a_this a_now a_undos a_seen a_seenAs a_isKept a_kept a_text a_read a_fewest a_doors a_isSo z12.1 z12.2.1 v_seenMany v_letterMany v_readAt v_tokenAt v_token v_value v_faultAt v_readOnce v_greatUpper v_greatLower (upd A_now (((3 : Int32) + (A_now ((0 : Int32)).toNatClampNeg))).toNatClampNeg p1) z12.2.2 A_seen A_seenAs A_isKept A_kept A_text A_read A_fewest A_doors A_isSo) := hD
        refine lv_aload_n hx hb dX11_comes_50 rfl (lv_at hl 1 rfl) ?_
        refine va_get (ci := 11) (v := .ref a_now) (C := RX11) (T := TX11) (N := 23) hx hb htT inlX11 hown hK hP 0 rfl rfl 0 (by decide) (htT _ q_7_0) (fun _ h9 => h9) rfl dX11_comes_51 ?_
        refine lv_bipush (v := (17 : Int32)) hx hb dX11_comes_54 rfl ?_
        refine lv_iload_n hx hb dX11_comes_56 rfl (lv_at hl 0 rfl) ?_
        refine lv_iadd hx hb dX11_comes_57 ?_
        refine lv_iload_n hx hb dX11_comes_58 rfl (lv_at hl 3 rfl) ?_
        obtain ⟨g14, h⟩ := gd h
        refine va_iast hx hb hK hP hD hS 1 1 rfl rfl (inB_in g14) dX11_comes_59 (fun H locs hP hD hS => ?_)
        have hP : va_P D vwCl (k_Mo cC cI cZ a_this a_now a_undos a_seen a_seenAs a_isKept a_kept a_text a_read a_fewest a_doors a_isSo z12.1 z12.2.1 v_seenMany v_letterMany v_readAt v_tokenAt v_token v_value v_faultAt v_readOnce v_greatUpper v_greatLower (upd (upd A_now (((3 : Int32) + (A_now ((0 : Int32)).toNatClampNeg))).toNatClampNeg p1) (((17 : Int32) + (A_now ((0 : Int32)).toNatClampNeg))).toNatClampNeg p2) z12.2.2 A_seen A_seenAs A_isKept A_kept A_text A_read A_fewest A_doors A_isSo) H := hP
        have hD : va_D A (k_Mo cC cI cZ a_this a_now a_undos a_seen a_seenAs a_isKept a_kept a_text a_read a_fewest a_doors a_isSo z12.1 z12.2.1 v_seenMany v_letterMany v_readAt v_tokenAt v_token v_value v_faultAt v_readOnce v_greatUpper v_greatLower (upd (upd A_now (((3 : Int32) + (A_now ((0 : Int32)).toNatClampNeg))).toNatClampNeg p1) (((17 : Int32) + (A_now ((0 : Int32)).toNatClampNeg))).toNatClampNeg p2) z12.2.2 A_seen A_seenAs A_isKept A_kept A_text A_read A_fewest A_doors A_isSo) := hD
        refine lv_aload_n hx hb dX11_comes_60 rfl (lv_at hl 1 rfl) ?_
        refine va_get (ci := 11) (v := .ref a_now) (C := RX11) (T := TX11) (N := 23) hx hb htT inlX11 hown hK hP 0 rfl rfl 0 (by decide) (htT _ q_7_0) (fun _ h9 => h9) rfl dX11_comes_61 ?_
        refine lv_iconst (v := (0 : Int32)) hx hb dX11_comes_64 rfl ?_
        refine lv_dup2_11 hx hb dX11_comes_65 rfl rfl ?_
        obtain ⟨g15, h⟩ := gd h
        refine va_iald hx hb hK hP 1 1 rfl rfl (inB_in g15) dX11_comes_66 ?_
        refine lv_iconst (v := (1 : Int32)) hx hb dX11_comes_67 rfl ?_
        refine lv_iadd hx hb dX11_comes_68 ?_
        obtain ⟨g16, h⟩ := gd h
        refine va_iast hx hb hK hP hD hS 1 1 rfl rfl (inB_in g16) dX11_comes_69 (fun H locs hP hD hS => ?_)
        have hP : va_P D vwCl (k_Mo cC cI cZ a_this a_now a_undos a_seen a_seenAs a_isKept a_kept a_text a_read a_fewest a_doors a_isSo z12.1 z12.2.1 v_seenMany v_letterMany v_readAt v_tokenAt v_token v_value v_faultAt v_readOnce v_greatUpper v_greatLower (upd (upd (upd A_now (((3 : Int32) + (A_now ((0 : Int32)).toNatClampNeg))).toNatClampNeg p1) (((17 : Int32) + (A_now ((0 : Int32)).toNatClampNeg))).toNatClampNeg p2) ((0 : Int32)).toNatClampNeg (((upd (upd A_now (((3 : Int32) + (A_now ((0 : Int32)).toNatClampNeg))).toNatClampNeg p1) (((17 : Int32) + (A_now ((0 : Int32)).toNatClampNeg))).toNatClampNeg p2) ((0 : Int32)).toNatClampNeg) + (1 : Int32))) z12.2.2 A_seen A_seenAs A_isKept A_kept A_text A_read A_fewest A_doors A_isSo) H := hP
        have hD : va_D A (k_Mo cC cI cZ a_this a_now a_undos a_seen a_seenAs a_isKept a_kept a_text a_read a_fewest a_doors a_isSo z12.1 z12.2.1 v_seenMany v_letterMany v_readAt v_tokenAt v_token v_value v_faultAt v_readOnce v_greatUpper v_greatLower (upd (upd (upd A_now (((3 : Int32) + (A_now ((0 : Int32)).toNatClampNeg))).toNatClampNeg p1) (((17 : Int32) + (A_now ((0 : Int32)).toNatClampNeg))).toNatClampNeg p2) ((0 : Int32)).toNatClampNeg (((upd (upd A_now (((3 : Int32) + (A_now ((0 : Int32)).toNatClampNeg))).toNatClampNeg p1) (((17 : Int32) + (A_now ((0 : Int32)).toNatClampNeg))).toNatClampNeg p2) ((0 : Int32)).toNatClampNeg) + (1 : Int32))) z12.2.2 A_seen A_seenAs A_isKept A_kept A_text A_read A_fewest A_doors A_isSo) := hD
        refine lv_iload_n hx hb dX11_comes_70 rfl (lv_at hl 0 rfl) ?_
        obtain rfl := Option.some.inj h
        exact hret _ _ _ _ _ hP hS dX11_comes_71 rfl rfl
      · have h := ip c11 h
        refine lv_bipush (v := (-3 : Int32)) hx hb dX11_comes_34 rfl ?_
        obtain rfl := Option.some.inj h
        exact hret _ _ _ _ _ hP hS dX11_comes_36 rfl rfl
    · have h := im c10 h
      refine lv_bipush (v := (-2 : Int32)) hx hb dX11_comes_25 rfl ?_
      obtain rfl := Option.some.inj h
      exact hret _ _ _ _ _ hP hS dX11_comes_27 rfl rfl
set_option maxHeartbeats 4000000 in
set_option maxRecDepth 100000 in
theorem c_Mo_adds (l : Launch) (D : va_G) (cC cI cZ : ClassId) (a_this : Nat) (a_now : Nat) (a_undos : Nat) (a_seen : Nat) (a_seenAs : Nat) (a_isKept : Nat) (a_kept : Nat) (a_text : Nat) (a_read : Nat) (a_fewest : Nat) (a_doors : Nat) (a_isSo : Nat) (v_undoMany : Int32) (v_undoAt : Int32) (v_seenMany : Int32) (v_letterMany : Int32) (v_readAt : Int32) (v_tokenAt : Int32) (v_token : Int32) (v_value : Int32) (v_faultAt : Int32) (v_readOnce : Int32) (v_greatUpper : Int64) (v_greatLower : Int64) (A_now : Nat → Int32) (A_undos : Nat → Int32) (A_seen : Nat → Int32) (A_seenAs : Nat → Int32) (A_isKept : Nat → Int32) (A_kept : Nat → Int32) (A_text : Nat → Int32) (A_read : Nat → Int32) (A_fewest : Nat → Int32) (A_doors : Nat → Int32) (A_isSo : Nat → Int32) (p1 : Int32) (p2 : Int32) (sz : Nat) (z : Int32 × Int32 × Int32 × (Nat → Int32) × (Nat → Int32)) (h : f_Mo_adds v_undoMany v_undoAt A_now A_undos p1 p2 = some z) : Met l yX11_adds (.code yX11_adds cX11_adds 3 (some .int) :: TBL) (RM 2 44) (PcM [.ref a_this, .int p1, .int p2] sz D (TY cC cI cZ) (k_Mo cC cI cZ a_this a_now a_undos a_seen a_seenAs a_isKept a_kept a_text a_read a_fewest a_doors a_isSo v_undoMany v_undoAt v_seenMany v_letterMany v_readAt v_tokenAt v_token v_value v_faultAt v_readOnce v_greatUpper v_greatLower A_now A_undos A_seen A_seenAs A_isKept A_kept A_text A_read A_fewest A_doors A_isSo)) (fun a st o t => QM (some (.int z.1)) D (k_Mo cC cI cZ a_this a_now a_undos a_seen a_seenAs a_isKept a_kept a_text a_read a_fewest a_doors a_isSo z.2.1 z.2.2.1 v_seenMany v_letterMany v_readAt v_tokenAt v_token v_value v_faultAt v_readOnce v_greatUpper v_greatLower z.2.2.2.1 z.2.2.2.2 A_seen A_seenAs A_isKept A_kept A_text A_read A_fewest A_doors A_isSo) (va_A (k_Mo cC cI cZ a_this a_now a_undos a_seen a_seenAs a_isKept a_kept a_text a_read a_fewest a_doors a_isSo v_undoMany v_undoAt v_seenMany v_letterMany v_readAt v_tokenAt v_token v_value v_faultAt v_readOnce v_greatUpper v_greatLower A_now A_undos A_seen A_seenAs A_isKept A_kept A_text A_read A_fewest A_doors A_isSo) sz) a st o t ∧ narrow .int (.int z.1) = .int z.1) 0 0 (va_A (k_Mo cC cI cZ a_this a_now a_undos a_seen a_seenAs a_isKept a_kept a_text a_read a_fewest a_doors a_isSo v_undoMany v_undoAt v_seenMany v_letterMany v_readAt v_tokenAt v_token v_value v_faultAt v_readOnce v_greatUpper v_greatLower A_now A_undos A_seen A_seenAs A_isKept A_kept A_text A_read A_fewest A_doors A_isSo) sz) := by
  refine muOf (by decide) (Nat.le_of_ble_eq_true rfl) rfl ?_
  intro p e s m args below meth c Q ls A X hP hD hS hA hl hret
  have X : Ctx p s m args c cX11_adds 3 RX11 D (TY cC cI cZ) := X
  obtain ⟨hx, hb, hml, hown, htT, hK, hN⟩ := id X
  unfold f_Mo_adds at h
  refine lv_iload_n hx hb dX11_adds_0 rfl (lv_at hl 1 rfl) ?_
  refine lv_iconst (v := (0 : Int32)) hx hb dX11_adds_1 rfl ?_
  refine lv_sipush (v := (999 : Int32)) hx hb dX11_adds_2 rfl ?_
  refine roS X [.int p1, .int (0 : Int32), .int (999 : Int32)] [] (c_Mo_in l D cC cI cZ p1 (0 : Int32) (999 : Int32) _ rfl) gg_X11_48 hd_Mo_in ⟨rfl, rfl, Nat.le_of_ble_eq_true rfl, Nat.le_of_ble_eq_true rfl⟩ ⟨Nat.zero_le _, Nat.zero_le _⟩ hP [] rfl hl.1 rfl (Nat.le_of_ble_eq_true rfl) dX11_adds_5 (fun n1 => ?_)
  refine lv_if_eq (tgt := 31) hx hb dX11_adds_8 (by decide) (fun c2 => ?_) (fun c2 => ?_)
  · have h := ip c2 h
    refine lv_iconst (v := (-1 : Int32)) hx hb dX11_adds_31 rfl ?_
    obtain rfl := Option.some.inj h
    exact hret _ _ _ _ _ hP hS dX11_adds_32 rfl rfl
  · have h := im c2 h
    refine lv_iload_n hx hb dX11_adds_11 rfl (lv_at hl 2 rfl) ?_
    refine lv_iconst (v := (0 : Int32)) hx hb dX11_adds_12 rfl ?_
    refine lv_sipush (v := (999 : Int32)) hx hb dX11_adds_13 rfl ?_
    refine roS X [.int p2, .int (0 : Int32), .int (999 : Int32)] [] (c_Mo_in l D cC cI cZ p2 (0 : Int32) (999 : Int32) _ rfl) gg_X11_48 hd_Mo_in ⟨rfl, rfl, Nat.le_of_ble_eq_true rfl, Nat.le_of_ble_eq_true rfl⟩ ⟨Nat.zero_le _, Nat.zero_le _⟩ hP [] rfl hl.1 rfl (Nat.le_of_ble_eq_true rfl) dX11_adds_16 (fun n3 => ?_)
    refine lv_if_eq (tgt := 31) hx hb dX11_adds_19 (by decide) (fun c4 => ?_) (fun c4 => ?_)
    · have h := ip c4 h
      refine lv_iconst (v := (-1 : Int32)) hx hb dX11_adds_31 rfl ?_
      obtain rfl := Option.some.inj h
      exact hret _ _ _ _ _ hP hS dX11_adds_32 rfl rfl
    · have h := im c4 h
      refine lv_aload_n hx hb dX11_adds_22 rfl (lv_at hl 0 rfl) ?_
      refine lv_iload_n hx hb dX11_adds_23 rfl (lv_at hl 1 rfl) ?_
      refine lv_iload_n hx hb dX11_adds_24 rfl (lv_at hl 2 rfl) ?_
      obtain ⟨z5, e5, h⟩ := bd h
      refine muV (ws' := (k_Mo cC cI cZ a_this a_now a_undos a_seen a_seenAs a_isKept a_kept a_text a_read a_fewest a_doors a_isSo z5.2.1 z5.2.2.1 v_seenMany v_letterMany v_readAt v_tokenAt v_token v_value v_faultAt v_readOnce v_greatUpper v_greatLower z5.2.2.2.1 z5.2.2.2.2 A_seen A_seenAs A_isKept A_kept A_text A_read A_fewest A_doors A_isSo)) X [.int p1, .int p2] [] (c_Mo_comes l D cC cI cZ a_this a_now a_undos a_seen a_seenAs a_isKept a_kept a_text a_read a_fewest a_doors a_isSo v_undoMany v_undoAt v_seenMany v_letterMany v_readAt v_tokenAt v_token v_value v_faultAt v_readOnce v_greatUpper v_greatLower A_now A_undos A_seen A_seenAs A_isKept A_kept A_text A_read A_fewest A_doors A_isSo p1 p2 _ z5 e5) gg_X11_123 hd_Mo_comes ⟨rfl, rfl, Nat.le_of_ble_eq_true rfl, Nat.le_of_ble_eq_true rfl⟩ ⟨Nat.zero_le _, Nat.zero_le _⟩ hP hD hS hA [0, 1, 2, 3, 4, 5, 6, 7, 8, 9, 10, 11] [] [0, 1, 2, 3, 4, 5, 6, 7, 8, 9, 10, 11] rfl rfl (by decide) (by decide) rfl rfl rfl rfl rfl hl.1 rfl (Nat.le_of_ble_eq_true rfl) dX11_adds_25 (fun H locs hP hD hS n5 => ?_)
      refine lv_goto (tgt := 32) hx hb dX11_adds_28 (by decide) ?_
      obtain rfl := Option.some.inj h
      exact hret _ _ _ _ _ hP hS dX11_adds_32 rfl rfl
set_option maxHeartbeats 4000000 in
set_option maxRecDepth 100000 in
theorem c_Mo_isReading (l : Launch) (D : va_G) (cC cI cZ : ClassId) (a_this : Nat) (a_now : Nat) (a_undos : Nat) (a_seen : Nat) (a_seenAs : Nat) (a_isKept : Nat) (a_kept : Nat) (a_text : Nat) (a_read : Nat) (a_fewest : Nat) (a_doors : Nat) (a_isSo : Nat) (v_undoMany : Int32) (v_undoAt : Int32) (v_seenMany : Int32) (v_letterMany : Int32) (v_readAt : Int32) (v_tokenAt : Int32) (v_token : Int32) (v_value : Int32) (v_faultAt : Int32) (v_readOnce : Int32) (v_greatUpper : Int64) (v_greatLower : Int64) (A_now : Nat → Int32) (A_undos : Nat → Int32) (A_seen : Nat → Int32) (A_seenAs : Nat → Int32) (A_isKept : Nat → Int32) (A_kept : Nat → Int32) (A_text : Nat → Int32) (A_read : Nat → Int32) (A_fewest : Nat → Int32) (A_doors : Nat → Int32) (A_isSo : Nat → Int32) (p1 : Int32) (r : Int32) (h : f_Mo_isReading A_now p1 = some r) : Met l yX11_isReading (.code yX11_isReading cX11_isReading 2 (some .boolean) :: TBL) (RM 1 22) (PcR [.ref a_this, .int p1] D (TY cC cI cZ) (k_Mo cC cI cZ a_this a_now a_undos a_seen a_seenAs a_isKept a_kept a_text a_read a_fewest a_doors a_isSo v_undoMany v_undoAt v_seenMany v_letterMany v_readAt v_tokenAt v_token v_value v_faultAt v_readOnce v_greatUpper v_greatLower A_now A_undos A_seen A_seenAs A_isKept A_kept A_text A_read A_fewest A_doors A_isSo)) (vp_Si (PO .boolean r)) 0 0 (fun _ => False) := by
  refine roOf (by decide) (Nat.le_of_ble_eq_true rfl) rfl ?_
  intro p e s m args below meth c Q ls X hP hl hret
  have X : Ctx p s m args c cX11_isReading 2 RX11 D (TY cC cI cZ) := X
  obtain ⟨hx, hb, hml, hown, htT, hK, hN⟩ := id X
  unfold f_Mo_isReading at h
  refine lv_iload_n hx hb dX11_isReading_0 rfl (lv_at hl 1 rfl) ?_
  refine lv_iconst (v := (0 : Int32)) hx hb dX11_isReading_1 rfl ?_
  refine lv_aload_n hx hb dX11_isReading_2 rfl (lv_at hl 0 rfl) ?_
  refine va_get (ci := 11) (v := .ref a_now) (C := RX11) (T := TX11) (N := 23) hx hb htT inlX11 hown hK hP 0 rfl rfl 0 (by decide) (htT _ q_7_0) (fun _ h9 => h9) rfl dX11_isReading_3 ?_
  refine lv_iconst (v := (0 : Int32)) hx hb dX11_isReading_6 rfl ?_
  obtain ⟨g1, h⟩ := gd h
  refine va_iald hx hb hK hP 1 1 rfl rfl (inB_in g1) dX11_isReading_7 ?_
  refine lv_iconst (v := (1 : Int32)) hx hb dX11_isReading_8 rfl ?_
  refine lv_isub hx hb dX11_isReading_9 ?_
  refine roS X [.int p1, .int (0 : Int32), .int ((A_now ((0 : Int32)).toNatClampNeg) - (1 : Int32))] [] (c_Mo_in l D cC cI cZ p1 (0 : Int32) ((A_now ((0 : Int32)).toNatClampNeg) - (1 : Int32)) _ rfl) gg_X11_48 hd_Mo_in ⟨rfl, rfl, Nat.le_of_ble_eq_true rfl, Nat.le_of_ble_eq_true rfl⟩ ⟨Nat.zero_le _, Nat.zero_le _⟩ hP [] rfl hl.1 rfl (Nat.le_of_ble_eq_true rfl) dX11_isReading_10 (fun n2 => ?_)
  exact hret _ _ _ dX11_isReading_13 (Option.some.inj h) n2
set_option maxHeartbeats 4000000 in
set_option maxRecDepth 100000 in
theorem c_Mo_isKnown (l : Launch) (D : va_G) (cC cI cZ : ClassId) (a_this : Nat) (a_now : Nat) (a_undos : Nat) (a_seen : Nat) (a_seenAs : Nat) (a_isKept : Nat) (a_kept : Nat) (a_text : Nat) (a_read : Nat) (a_fewest : Nat) (a_doors : Nat) (a_isSo : Nat) (v_undoMany : Int32) (v_undoAt : Int32) (v_seenMany : Int32) (v_letterMany : Int32) (v_readAt : Int32) (v_tokenAt : Int32) (v_token : Int32) (v_value : Int32) (v_faultAt : Int32) (v_readOnce : Int32) (v_greatUpper : Int64) (v_greatLower : Int64) (A_now : Nat → Int32) (A_undos : Nat → Int32) (A_seen : Nat → Int32) (A_seenAs : Nat → Int32) (A_isKept : Nat → Int32) (A_kept : Nat → Int32) (A_text : Nat → Int32) (A_read : Nat → Int32) (A_fewest : Nat → Int32) (A_doors : Nat → Int32) (A_isSo : Nat → Int32) (p1 : Int32) (r : Int32) (h : f_Mo_isKnown A_now p1 = some r) : Met l yX11_isKnown (.code yX11_isKnown cX11_isKnown 2 (some .boolean) :: TBL) (RM 2 43) (PcR [.ref a_this, .int p1] D (TY cC cI cZ) (k_Mo cC cI cZ a_this a_now a_undos a_seen a_seenAs a_isKept a_kept a_text a_read a_fewest a_doors a_isSo v_undoMany v_undoAt v_seenMany v_letterMany v_readAt v_tokenAt v_token v_value v_faultAt v_readOnce v_greatUpper v_greatLower A_now A_undos A_seen A_seenAs A_isKept A_kept A_text A_read A_fewest A_doors A_isSo)) (vp_Si (PO .boolean r)) 0 0 (fun _ => False) := by
  refine roOf (by decide) (Nat.le_of_ble_eq_true rfl) rfl ?_
  intro p e s m args below meth c Q ls X hP hl hret
  have X : Ctx p s m args c cX11_isKnown 2 RX11 D (TY cC cI cZ) := X
  obtain ⟨hx, hb, hml, hown, htT, hK, hN⟩ := id X
  unfold f_Mo_isKnown at h
  refine lv_aload_n hx hb dX11_isKnown_0 rfl (lv_at hl 0 rfl) ?_
  refine lv_iload_n hx hb dX11_isKnown_1 rfl (lv_at hl 1 rfl) ?_
  obtain ⟨r1, e1, h⟩ := bd h
  refine roV X [.int p1] [] (c_Mo_isReading l D cC cI cZ a_this a_now a_undos a_seen a_seenAs a_isKept a_kept a_text a_read a_fewest a_doors a_isSo v_undoMany v_undoAt v_seenMany v_letterMany v_readAt v_tokenAt v_token v_value v_faultAt v_readOnce v_greatUpper v_greatLower A_now A_undos A_seen A_seenAs A_isKept A_kept A_text A_read A_fewest A_doors A_isSo p1 r1 e1) gg_X11_113 hd_Mo_isReading ⟨rfl, rfl, Nat.le_of_ble_eq_true rfl, Nat.le_of_ble_eq_true rfl⟩ ⟨Nat.zero_le _, Nat.zero_le _⟩ hP [0, 1, 2, 3, 4, 5, 6, 7, 8, 9, 10, 11] rfl rfl rfl rfl hl.1 rfl (Nat.le_of_ble_eq_true rfl) dX11_isKnown_2 (fun n1 => ?_)
  refine lv_if_eq (tgt := 26) hx hb dX11_isKnown_5 (by decide) (fun c2 => ?_) (fun c2 => ?_)
  · have h := ip c2 h
    refine lv_iconst (v := (0 : Int32)) hx hb dX11_isKnown_26 rfl ?_
    exact hret _ _ _ dX11_isKnown_27 (Option.some.inj h) rfl
  · have h := im c2 h
    refine lv_aload_n hx hb dX11_isKnown_8 rfl (lv_at hl 0 rfl) ?_
    refine va_get (ci := 11) (v := .ref a_now) (C := RX11) (T := TX11) (N := 23) hx hb htT inlX11 hown hK hP 0 rfl rfl 0 (by decide) (htT _ q_7_0) (fun _ h9 => h9) rfl dX11_isKnown_9 ?_
    refine lv_bipush (v := (17 : Int32)) hx hb dX11_isKnown_12 rfl ?_
    refine lv_iload_n hx hb dX11_isKnown_14 rfl (lv_at hl 1 rfl) ?_
    refine lv_iadd hx hb dX11_isKnown_15 ?_
    obtain ⟨g3, h⟩ := gd h
    refine va_iald hx hb hK hP 1 1 rfl rfl (inB_in g3) dX11_isKnown_16 ?_
    refine lv_bipush (v := (-9 : Int32)) hx hb dX11_isKnown_17 rfl ?_
    refine lv_icmp_eq (tgt := 26) hx hb dX11_isKnown_19 (by decide) (fun c4 => ?_) (fun c4 => ?_)
    · have h := ip c4 h
      refine lv_iconst (v := (0 : Int32)) hx hb dX11_isKnown_26 rfl ?_
      exact hret _ _ _ dX11_isKnown_27 (Option.some.inj h) rfl
    · have h := im c4 h
      refine lv_iconst (v := (1 : Int32)) hx hb dX11_isKnown_22 rfl ?_
      refine lv_goto (tgt := 27) hx hb dX11_isKnown_23 (by decide) ?_
      exact hret _ _ _ dX11_isKnown_27 (Option.some.inj h) rfl
set_option maxHeartbeats 4000000 in
set_option maxRecDepth 100000 in
theorem c_Mo_isFirst (l : Launch) (D : va_G) (cC cI cZ : ClassId) (a_this : Nat) (a_now : Nat) (a_undos : Nat) (a_seen : Nat) (a_seenAs : Nat) (a_isKept : Nat) (a_kept : Nat) (a_text : Nat) (a_read : Nat) (a_fewest : Nat) (a_doors : Nat) (a_isSo : Nat) (v_undoMany : Int32) (v_undoAt : Int32) (v_seenMany : Int32) (v_letterMany : Int32) (v_readAt : Int32) (v_tokenAt : Int32) (v_token : Int32) (v_value : Int32) (v_faultAt : Int32) (v_readOnce : Int32) (v_greatUpper : Int64) (v_greatLower : Int64) (A_now : Nat → Int32) (A_undos : Nat → Int32) (A_seen : Nat → Int32) (A_seenAs : Nat → Int32) (A_isKept : Nat → Int32) (A_kept : Nat → Int32) (A_text : Nat → Int32) (A_read : Nat → Int32) (A_fewest : Nat → Int32) (A_doors : Nat → Int32) (A_isSo : Nat → Int32) (p1 : Int32) (r : Int32) (h : f_Mo_isFirst A_now p1 = some r) : Met l yX11_isFirst (.code yX11_isFirst cX11_isFirst 2 (some .boolean) :: TBL) (RM 3 64) (PcR [.ref a_this, .int p1] D (TY cC cI cZ) (k_Mo cC cI cZ a_this a_now a_undos a_seen a_seenAs a_isKept a_kept a_text a_read a_fewest a_doors a_isSo v_undoMany v_undoAt v_seenMany v_letterMany v_readAt v_tokenAt v_token v_value v_faultAt v_readOnce v_greatUpper v_greatLower A_now A_undos A_seen A_seenAs A_isKept A_kept A_text A_read A_fewest A_doors A_isSo)) (vp_Si (PO .boolean r)) 0 0 (fun _ => False) := by
  refine roOf (by decide) (Nat.le_of_ble_eq_true rfl) rfl ?_
  intro p e s m args below meth c Q ls X hP hl hret
  have X : Ctx p s m args c cX11_isFirst 2 RX11 D (TY cC cI cZ) := X
  obtain ⟨hx, hb, hml, hown, htT, hK, hN⟩ := id X
  unfold f_Mo_isFirst at h
  refine lv_aload_n hx hb dX11_isFirst_0 rfl (lv_at hl 0 rfl) ?_
  refine lv_iload_n hx hb dX11_isFirst_1 rfl (lv_at hl 1 rfl) ?_
  obtain ⟨r1, e1, h⟩ := bd h
  refine roV X [.int p1] [] (c_Mo_isKnown l D cC cI cZ a_this a_now a_undos a_seen a_seenAs a_isKept a_kept a_text a_read a_fewest a_doors a_isSo v_undoMany v_undoAt v_seenMany v_letterMany v_readAt v_tokenAt v_token v_value v_faultAt v_readOnce v_greatUpper v_greatLower A_now A_undos A_seen A_seenAs A_isKept A_kept A_text A_read A_fewest A_doors A_isSo p1 r1 e1) gg_X11_130 hd_Mo_isKnown ⟨rfl, rfl, Nat.le_of_ble_eq_true rfl, Nat.le_of_ble_eq_true rfl⟩ ⟨Nat.zero_le _, Nat.zero_le _⟩ hP [0, 1, 2, 3, 4, 5, 6, 7, 8, 9, 10, 11] rfl rfl rfl rfl hl.1 rfl (Nat.le_of_ble_eq_true rfl) dX11_isFirst_2 (fun n1 => ?_)
  refine lv_if_eq (tgt := 22) hx hb dX11_isFirst_5 (by decide) (fun c2 => ?_) (fun c2 => ?_)
  · have h := ip c2 h
    refine lv_iconst (v := (0 : Int32)) hx hb dX11_isFirst_22 rfl ?_
    exact hret _ _ _ dX11_isFirst_23 (Option.some.inj h) rfl
  · have h := im c2 h
    refine lv_aload_n hx hb dX11_isFirst_8 rfl (lv_at hl 0 rfl) ?_
    refine lv_iload_n hx hb dX11_isFirst_9 rfl (lv_at hl 1 rfl) ?_
    refine lv_iconst (v := (1 : Int32)) hx hb dX11_isFirst_10 rfl ?_
    refine lv_isub hx hb dX11_isFirst_11 ?_
    obtain ⟨r3, e3, h⟩ := bd h
    refine roV X [.int (p1 - (1 : Int32))] [] (c_Mo_isKnown l D cC cI cZ a_this a_now a_undos a_seen a_seenAs a_isKept a_kept a_text a_read a_fewest a_doors a_isSo v_undoMany v_undoAt v_seenMany v_letterMany v_readAt v_tokenAt v_token v_value v_faultAt v_readOnce v_greatUpper v_greatLower A_now A_undos A_seen A_seenAs A_isKept A_kept A_text A_read A_fewest A_doors A_isSo (p1 - (1 : Int32)) r3 e3) gg_X11_130 hd_Mo_isKnown ⟨rfl, rfl, Nat.le_of_ble_eq_true rfl, Nat.le_of_ble_eq_true rfl⟩ ⟨Nat.zero_le _, Nat.zero_le _⟩ hP [0, 1, 2, 3, 4, 5, 6, 7, 8, 9, 10, 11] rfl rfl rfl rfl hl.1 rfl (Nat.le_of_ble_eq_true rfl) dX11_isFirst_12 (fun n3 => ?_)
    refine lv_if_ne (tgt := 22) hx hb dX11_isFirst_15 (by decide) (fun c4 => ?_) (fun c4 => ?_)
    · have h := im c4 h
      refine lv_iconst (v := (0 : Int32)) hx hb dX11_isFirst_22 rfl ?_
      exact hret _ _ _ dX11_isFirst_23 (Option.some.inj h) rfl
    · have h := ip c4 h
      refine lv_iconst (v := (1 : Int32)) hx hb dX11_isFirst_18 rfl ?_
      refine lv_goto (tgt := 23) hx hb dX11_isFirst_19 (by decide) ?_
      exact hret _ _ _ dX11_isFirst_23 (Option.some.inj h) rfl
set_option maxHeartbeats 4000000 in
set_option maxRecDepth 100000 in
theorem c_Mo_stretchOf (l : Launch) (D : va_G) (cC cI cZ : ClassId) (a_this : Nat) (a_now : Nat) (a_undos : Nat) (a_seen : Nat) (a_seenAs : Nat) (a_isKept : Nat) (a_kept : Nat) (a_text : Nat) (a_read : Nat) (a_fewest : Nat) (a_doors : Nat) (a_isSo : Nat) (v_undoMany : Int32) (v_undoAt : Int32) (v_seenMany : Int32) (v_letterMany : Int32) (v_readAt : Int32) (v_tokenAt : Int32) (v_token : Int32) (v_value : Int32) (v_faultAt : Int32) (v_readOnce : Int32) (v_greatUpper : Int64) (v_greatLower : Int64) (A_now : Nat → Int32) (A_undos : Nat → Int32) (A_seen : Nat → Int32) (A_seenAs : Nat → Int32) (A_isKept : Nat → Int32) (A_kept : Nat → Int32) (A_text : Nat → Int32) (A_read : Nat → Int32) (A_fewest : Nat → Int32) (A_doors : Nat → Int32) (A_isSo : Nat → Int32) (p1 : Int32) (r : Int32) (h : f_Mo_stretchOf A_now p1 = some r) : Met l yX11_stretchOf (.code yX11_stretchOf cX11_stretchOf 4 (some .int) :: TBL) (RM 4 85) (PcR [.ref a_this, .int p1] D (TY cC cI cZ) (k_Mo cC cI cZ a_this a_now a_undos a_seen a_seenAs a_isKept a_kept a_text a_read a_fewest a_doors a_isSo v_undoMany v_undoAt v_seenMany v_letterMany v_readAt v_tokenAt v_token v_value v_faultAt v_readOnce v_greatUpper v_greatLower A_now A_undos A_seen A_seenAs A_isKept A_kept A_text A_read A_fewest A_doors A_isSo)) (vp_Si (PO .int r)) 0 0 (fun _ => False) := by
  refine roOf (by decide) (Nat.le_of_ble_eq_true rfl) rfl ?_
  intro p e s m args below meth c Q ls X hP hl hret
  have X : Ctx p s m args c cX11_stretchOf 4 RX11 D (TY cC cI cZ) := X
  obtain ⟨hx, hb, hml, hown, htT, hK, hN⟩ := id X
  unfold f_Mo_stretchOf at h
  refine lv_bipush (v := (-9 : Int32)) hx hb dX11_stretchOf_0 rfl ?_
  refine lv_istore_n (lv' := [(2, .int (-9 : Int32)), (0, .ref a_this), (1, .int p1)]) hx hb dX11_stretchOf_2 rfl hl (by decide) rfl (fun ls hl => ?_)
  refine lv_iconst (v := (0 : Int32)) hx hb dX11_stretchOf_3 rfl ?_
  refine lv_istore_n (lv' := [(3, .int (0 : Int32)), (2, .int (-9 : Int32)), (0, .ref a_this), (1, .int p1)]) hx hb dX11_stretchOf_4 rfl hl (by decide) rfl (fun ls hl => ?_)
  have LP5 : ∀ (n : Nat) (y5_2 : Int32) (y5_3 : Int32) (zq5 : Int32), f_Mo_stretchOf_L5 p1 A_now n y5_2 y5_3 = some zq5 → ∀ (ls : Array Slot), lv_has ls 4 [(0, .ref a_this), (1, .int p1), (2, .int y5_2), (3, .int y5_3)] → (∀ (ls : Array Slot), lv_has ls 4 [(0, .ref a_this), (1, .int p1), (2, .int zq5)] → W p l e (RM 4 85) s m args below meth c s.heap [] 0 0 Q (F0 m 42 ls [])) → W p l e (RM 4 85) s m args below meth c s.heap [] 0 0 Q (F0 m 5 ls []) := by
    clear h
    intro n
    induction n with
    | zero =>
      intro y5_2 y5_3 zq5 h
      rw [f_Mo_stretchOf_L5_0] at h
      cases h
    | succ n ih5 =>
      intro y5_2 y5_3 zq5 h ls hl k5_0
      rw [f_Mo_stretchOf_L5_s] at h
      refine lv_iload_n hx hb dX11_stretchOf_5 rfl (lv_at hl 3 rfl) ?_
      refine lv_iload_n hx hb dX11_stretchOf_6 rfl (lv_at hl 1 rfl) ?_
      refine lv_icmp_gt (tgt := 42) hx hb dX11_stretchOf_7 (by decide) (fun c2 => ?_) (fun c2 => ?_)
      · have h := ip c2 h
        obtain rfl := Option.some.inj h
        exact k5_0 _ (lv_sub hl [0, 1, 2] rfl)
      · have h := im c2 h
        refine lv_aload_n hx hb dX11_stretchOf_10 rfl (lv_at hl 0 rfl) ?_
        refine lv_iload_n hx hb dX11_stretchOf_11 rfl (lv_at hl 3 rfl) ?_
        obtain ⟨r3, e3, h⟩ := bd h
        refine roV X [.int y5_3] [] (c_Mo_isFirst l D cC cI cZ a_this a_now a_undos a_seen a_seenAs a_isKept a_kept a_text a_read a_fewest a_doors a_isSo v_undoMany v_undoAt v_seenMany v_letterMany v_readAt v_tokenAt v_token v_value v_faultAt v_readOnce v_greatUpper v_greatLower A_now A_undos A_seen A_seenAs A_isKept A_kept A_text A_read A_fewest A_doors A_isSo y5_3 r3 e3) gg_X11_133 hd_Mo_isFirst ⟨rfl, rfl, Nat.le_of_ble_eq_true rfl, Nat.le_of_ble_eq_true rfl⟩ ⟨Nat.zero_le _, Nat.zero_le _⟩ hP [0, 1, 2, 3, 4, 5, 6, 7, 8, 9, 10, 11] rfl rfl rfl rfl hl.1 rfl (Nat.le_of_ble_eq_true rfl) dX11_stretchOf_12 (fun n3 => ?_)
        refine lv_if_eq (tgt := 34) hx hb dX11_stretchOf_15 (by decide) (fun c4 => ?_) (fun c4 => ?_)
        · have h := ip c4 h
          refine lv_iload_n hx hb dX11_stretchOf_34 rfl (lv_at hl 2 rfl) ?_
          refine lv_istore_n (lv' := [(2, .int y5_2), (0, .ref a_this), (1, .int p1), (3, .int y5_3)]) hx hb dX11_stretchOf_35 rfl hl (by decide) rfl (fun ls hl => ?_)
          refine lv_iinc (v := (y5_3 + (1 : Int32))) (lv' := [(3, .int (y5_3 + (1 : Int32))), (2, .int y5_2), (0, .ref a_this), (1, .int p1)]) hx hb dX11_stretchOf_36 hl (k := 3) rfl rfl (by decide) rfl (fun ls hl => ?_)
          refine lv_goto (tgt := 5) hx hb dX11_stretchOf_39 (by decide) ?_
          exact ih5 y5_2 (y5_3 + (1 : Int32)) _ h _ (lv_sub hl [2, 3, 1, 0] rfl) k5_0
        · have h := im c4 h
          refine lv_iload_n hx hb dX11_stretchOf_18 rfl (lv_at hl 2 rfl) ?_
          refine lv_bipush (v := (-9 : Int32)) hx hb dX11_stretchOf_19 rfl ?_
          refine lv_icmp_ne (tgt := 28) hx hb dX11_stretchOf_21 (by decide) (fun c5 => ?_) (fun c5 => ?_)
          · have h := im c5 h
            refine lv_iload_n hx hb dX11_stretchOf_28 rfl (lv_at hl 2 rfl) ?_
            refine lv_iconst (v := (1 : Int32)) hx hb dX11_stretchOf_29 rfl ?_
            refine lv_iadd hx hb dX11_stretchOf_30 ?_
            refine lv_goto (tgt := 35) hx hb dX11_stretchOf_31 (by decide) ?_
            refine lv_istore_n (lv' := [(2, .int (y5_2 + (1 : Int32))), (0, .ref a_this), (1, .int p1), (3, .int y5_3)]) hx hb dX11_stretchOf_35 rfl hl (by decide) rfl (fun ls hl => ?_)
            refine lv_iinc (v := (y5_3 + (1 : Int32))) (lv' := [(3, .int (y5_3 + (1 : Int32))), (2, .int (y5_2 + (1 : Int32))), (0, .ref a_this), (1, .int p1)]) hx hb dX11_stretchOf_36 hl (k := 3) rfl rfl (by decide) rfl (fun ls hl => ?_)
            refine lv_goto (tgt := 5) hx hb dX11_stretchOf_39 (by decide) ?_
            exact ih5 (y5_2 + (1 : Int32)) (y5_3 + (1 : Int32)) _ h _ (lv_sub hl [2, 3, 1, 0] rfl) k5_0
          · have h := ip c5 h
            refine lv_iconst (v := (0 : Int32)) hx hb dX11_stretchOf_24 rfl ?_
            refine lv_goto (tgt := 35) hx hb dX11_stretchOf_25 (by decide) ?_
            refine lv_istore_n (lv' := [(2, .int (0 : Int32)), (0, .ref a_this), (1, .int p1), (3, .int y5_3)]) hx hb dX11_stretchOf_35 rfl hl (by decide) rfl (fun ls hl => ?_)
            refine lv_iinc (v := (y5_3 + (1 : Int32))) (lv' := [(3, .int (y5_3 + (1 : Int32))), (2, .int (0 : Int32)), (0, .ref a_this), (1, .int p1)]) hx hb dX11_stretchOf_36 hl (k := 3) rfl rfl (by decide) rfl (fun ls hl => ?_)
            refine lv_goto (tgt := 5) hx hb dX11_stretchOf_39 (by decide) ?_
            exact ih5 (0 : Int32) (y5_3 + (1 : Int32)) _ h _ (lv_sub hl [2, 3, 1, 0] rfl) k5_0
  obtain ⟨z1, e1, h⟩ := bd h
  refine LP5 fu (-9 : Int32) (0 : Int32) z1 e1 _ (lv_sub hl [2, 3, 1, 0] rfl) ?_
  intro ls hl
  refine lv_aload_n hx hb dX11_stretchOf_42 rfl (lv_at hl 0 rfl) ?_
  refine lv_iload_n hx hb dX11_stretchOf_43 rfl (lv_at hl 1 rfl) ?_
  obtain ⟨r6, e6, h⟩ := bd h
  refine roV X [.int p1] [] (c_Mo_isKnown l D cC cI cZ a_this a_now a_undos a_seen a_seenAs a_isKept a_kept a_text a_read a_fewest a_doors a_isSo v_undoMany v_undoAt v_seenMany v_letterMany v_readAt v_tokenAt v_token v_value v_faultAt v_readOnce v_greatUpper v_greatLower A_now A_undos A_seen A_seenAs A_isKept A_kept A_text A_read A_fewest A_doors A_isSo p1 r6 e6) gg_X11_130 hd_Mo_isKnown ⟨rfl, rfl, Nat.le_of_ble_eq_true rfl, Nat.le_of_ble_eq_true rfl⟩ ⟨Nat.zero_le _, Nat.zero_le _⟩ hP [0, 1, 2, 3, 4, 5, 6, 7, 8, 9, 10, 11] rfl rfl rfl rfl hl.1 rfl (Nat.le_of_ble_eq_true rfl) dX11_stretchOf_44 (fun n6 => ?_)
  refine lv_if_eq (tgt := 54) hx hb dX11_stretchOf_47 (by decide) (fun c7 => ?_) (fun c7 => ?_)
  · have h := ip c7 h
    refine lv_bipush (v := (-9 : Int32)) hx hb dX11_stretchOf_54 rfl ?_
    exact hret _ _ _ dX11_stretchOf_56 (Option.some.inj h) rfl
  · have h := im c7 h
    refine lv_iload_n hx hb dX11_stretchOf_50 rfl (lv_at hl 2 rfl) ?_
    refine lv_goto (tgt := 56) hx hb dX11_stretchOf_51 (by decide) ?_
    exact hret _ _ _ dX11_stretchOf_56 (Option.some.inj h) rfl
set_option maxHeartbeats 4000000 in
set_option maxRecDepth 100000 in
theorem c_Mo_isSide (l : Launch) (D : va_G) (cC cI cZ : ClassId) (a_this : Nat) (a_now : Nat) (a_undos : Nat) (a_seen : Nat) (a_seenAs : Nat) (a_isKept : Nat) (a_kept : Nat) (a_text : Nat) (a_read : Nat) (a_fewest : Nat) (a_doors : Nat) (a_isSo : Nat) (v_undoMany : Int32) (v_undoAt : Int32) (v_seenMany : Int32) (v_letterMany : Int32) (v_readAt : Int32) (v_tokenAt : Int32) (v_token : Int32) (v_value : Int32) (v_faultAt : Int32) (v_readOnce : Int32) (v_greatUpper : Int64) (v_greatLower : Int64) (A_now : Nat → Int32) (A_undos : Nat → Int32) (A_seen : Nat → Int32) (A_seenAs : Nat → Int32) (A_isKept : Nat → Int32) (A_kept : Nat → Int32) (A_text : Nat → Int32) (A_read : Nat → Int32) (A_fewest : Nat → Int32) (A_doors : Nat → Int32) (A_isSo : Nat → Int32) (p1 : Int32) (p2 : Int32) (r : Int32) (h : f_Mo_isSide A_now p1 p2 = some r) : Met l yX11_isSide (.code yX11_isSide cX11_isSide 3 (some .boolean) :: TBL) (RM 5 108) (PcR [.ref a_this, .int p1, .int p2] D (TY cC cI cZ) (k_Mo cC cI cZ a_this a_now a_undos a_seen a_seenAs a_isKept a_kept a_text a_read a_fewest a_doors a_isSo v_undoMany v_undoAt v_seenMany v_letterMany v_readAt v_tokenAt v_token v_value v_faultAt v_readOnce v_greatUpper v_greatLower A_now A_undos A_seen A_seenAs A_isKept A_kept A_text A_read A_fewest A_doors A_isSo)) (vp_Si (PO .boolean r)) 0 0 (fun _ => False) := by
  refine roOf (by decide) (Nat.le_of_ble_eq_true rfl) rfl ?_
  intro p e s m args below meth c Q ls X hP hl hret
  have X : Ctx p s m args c cX11_isSide 3 RX11 D (TY cC cI cZ) := X
  obtain ⟨hx, hb, hml, hown, htT, hK, hN⟩ := id X
  unfold f_Mo_isSide at h
  refine lv_aload_n hx hb dX11_isSide_0 rfl (lv_at hl 0 rfl) ?_
  refine lv_iload_n hx hb dX11_isSide_1 rfl (lv_at hl 1 rfl) ?_
  obtain ⟨r1, e1, h⟩ := bd h
  refine roV X [.int p1] [] (c_Mo_isKnown l D cC cI cZ a_this a_now a_undos a_seen a_seenAs a_isKept a_kept a_text a_read a_fewest a_doors a_isSo v_undoMany v_undoAt v_seenMany v_letterMany v_readAt v_tokenAt v_token v_value v_faultAt v_readOnce v_greatUpper v_greatLower A_now A_undos A_seen A_seenAs A_isKept A_kept A_text A_read A_fewest A_doors A_isSo p1 r1 e1) gg_X11_130 hd_Mo_isKnown ⟨rfl, rfl, Nat.le_of_ble_eq_true rfl, Nat.le_of_ble_eq_true rfl⟩ ⟨Nat.zero_le _, Nat.zero_le _⟩ hP [0, 1, 2, 3, 4, 5, 6, 7, 8, 9, 10, 11] rfl rfl rfl rfl hl.1 rfl (Nat.le_of_ble_eq_true rfl) dX11_isSide_2 (fun n1 => ?_)
  refine lv_if_eq (tgt := 33) hx hb dX11_isSide_5 (by decide) (fun c2 => ?_) (fun c2 => ?_)
  · have h := ip c2 h
    refine lv_iconst (v := (0 : Int32)) hx hb dX11_isSide_33 rfl ?_
    exact hret _ _ _ dX11_isSide_34 (Option.some.inj h) rfl
  · have h := im c2 h
    refine lv_aload_n hx hb dX11_isSide_8 rfl (lv_at hl 0 rfl) ?_
    refine lv_iload_n hx hb dX11_isSide_9 rfl (lv_at hl 2 rfl) ?_
    obtain ⟨r3, e3, h⟩ := bd h
    refine roV X [.int p2] [] (c_Mo_isKnown l D cC cI cZ a_this a_now a_undos a_seen a_seenAs a_isKept a_kept a_text a_read a_fewest a_doors a_isSo v_undoMany v_undoAt v_seenMany v_letterMany v_readAt v_tokenAt v_token v_value v_faultAt v_readOnce v_greatUpper v_greatLower A_now A_undos A_seen A_seenAs A_isKept A_kept A_text A_read A_fewest A_doors A_isSo p2 r3 e3) gg_X11_130 hd_Mo_isKnown ⟨rfl, rfl, Nat.le_of_ble_eq_true rfl, Nat.le_of_ble_eq_true rfl⟩ ⟨Nat.zero_le _, Nat.zero_le _⟩ hP [0, 1, 2, 3, 4, 5, 6, 7, 8, 9, 10, 11] rfl rfl rfl rfl hl.1 rfl (Nat.le_of_ble_eq_true rfl) dX11_isSide_10 (fun n3 => ?_)
    refine lv_if_eq (tgt := 33) hx hb dX11_isSide_13 (by decide) (fun c4 => ?_) (fun c4 => ?_)
    · have h := ip c4 h
      refine lv_iconst (v := (0 : Int32)) hx hb dX11_isSide_33 rfl ?_
      exact hret _ _ _ dX11_isSide_34 (Option.some.inj h) rfl
    · have h := im c4 h
      refine lv_aload_n hx hb dX11_isSide_16 rfl (lv_at hl 0 rfl) ?_
      refine lv_iload_n hx hb dX11_isSide_17 rfl (lv_at hl 1 rfl) ?_
      obtain ⟨r5, e5, h⟩ := bd h
      refine roV X [.int p1] [] (c_Mo_stretchOf l D cC cI cZ a_this a_now a_undos a_seen a_seenAs a_isKept a_kept a_text a_read a_fewest a_doors a_isSo v_undoMany v_undoAt v_seenMany v_letterMany v_readAt v_tokenAt v_token v_value v_faultAt v_readOnce v_greatUpper v_greatLower A_now A_undos A_seen A_seenAs A_isKept A_kept A_text A_read A_fewest A_doors A_isSo p1 r5 e5) gg_X11_183 hd_Mo_stretchOf ⟨rfl, rfl, Nat.le_of_ble_eq_true rfl, Nat.le_of_ble_eq_true rfl⟩ ⟨Nat.zero_le _, Nat.zero_le _⟩ hP [0, 1, 2, 3, 4, 5, 6, 7, 8, 9, 10, 11] rfl rfl rfl rfl hl.1 rfl (Nat.le_of_ble_eq_true rfl) dX11_isSide_18 (fun n5 => ?_)
      refine lv_aload_n hx hb dX11_isSide_21 rfl (lv_at hl 0 rfl) ?_
      refine lv_iload_n hx hb dX11_isSide_22 rfl (lv_at hl 2 rfl) ?_
      obtain ⟨r6, e6, h⟩ := bd h
      refine roV X [.int p2] [.int r5] (c_Mo_stretchOf l D cC cI cZ a_this a_now a_undos a_seen a_seenAs a_isKept a_kept a_text a_read a_fewest a_doors a_isSo v_undoMany v_undoAt v_seenMany v_letterMany v_readAt v_tokenAt v_token v_value v_faultAt v_readOnce v_greatUpper v_greatLower A_now A_undos A_seen A_seenAs A_isKept A_kept A_text A_read A_fewest A_doors A_isSo p2 r6 e6) gg_X11_183 hd_Mo_stretchOf ⟨rfl, rfl, Nat.le_of_ble_eq_true rfl, Nat.le_of_ble_eq_true rfl⟩ ⟨Nat.zero_le _, Nat.zero_le _⟩ hP [0, 1, 2, 3, 4, 5, 6, 7, 8, 9, 10, 11] rfl rfl rfl rfl hl.1 rfl (Nat.le_of_ble_eq_true rfl) dX11_isSide_23 (fun n6 => ?_)
      refine lv_icmp_ne (tgt := 33) hx hb dX11_isSide_26 (by decide) (fun c7 => ?_) (fun c7 => ?_)
      · have h := im c7 h
        refine lv_iconst (v := (0 : Int32)) hx hb dX11_isSide_33 rfl ?_
        exact hret _ _ _ dX11_isSide_34 (Option.some.inj h) rfl
      · have h := ip c7 h
        refine lv_iconst (v := (1 : Int32)) hx hb dX11_isSide_29 rfl ?_
        refine lv_goto (tgt := 34) hx hb dX11_isSide_30 (by decide) ?_
        exact hret _ _ _ dX11_isSide_34 (Option.some.inj h) rfl
set_option maxHeartbeats 4000000 in
set_option maxRecDepth 100000 in
theorem c_Mo_apartBy (l : Launch) (D : va_G) (cC cI cZ : ClassId) (a_this : Nat) (a_now : Nat) (a_undos : Nat) (a_seen : Nat) (a_seenAs : Nat) (a_isKept : Nat) (a_kept : Nat) (a_text : Nat) (a_read : Nat) (a_fewest : Nat) (a_doors : Nat) (a_isSo : Nat) (v_undoMany : Int32) (v_undoAt : Int32) (v_seenMany : Int32) (v_letterMany : Int32) (v_readAt : Int32) (v_tokenAt : Int32) (v_token : Int32) (v_value : Int32) (v_faultAt : Int32) (v_readOnce : Int32) (v_greatUpper : Int64) (v_greatLower : Int64) (A_now : Nat → Int32) (A_undos : Nat → Int32) (A_seen : Nat → Int32) (A_seenAs : Nat → Int32) (A_isKept : Nat → Int32) (A_kept : Nat → Int32) (A_text : Nat → Int32) (A_read : Nat → Int32) (A_fewest : Nat → Int32) (A_doors : Nat → Int32) (A_isSo : Nat → Int32) (p1 : Int32) (p2 : Int32) (p3 : Int32) (r : Int32) (h : f_Mo_apartBy A_now p1 p2 p3 = some r) : Met l yX11_apartBy (.code yX11_apartBy cX11_apartBy 6 (some .int) :: TBL) (RM 0 0) (PcR [.ref a_this, .int p1, .int p2, .int p3] D (TY cC cI cZ) (k_Mo cC cI cZ a_this a_now a_undos a_seen a_seenAs a_isKept a_kept a_text a_read a_fewest a_doors a_isSo v_undoMany v_undoAt v_seenMany v_letterMany v_readAt v_tokenAt v_token v_value v_faultAt v_readOnce v_greatUpper v_greatLower A_now A_undos A_seen A_seenAs A_isKept A_kept A_text A_read A_fewest A_doors A_isSo)) (vp_Si (PO .int r)) 0 0 (fun _ => False) := by
  refine roOf (by decide) (Nat.le_of_ble_eq_true rfl) rfl ?_
  intro p e s m args below meth c Q ls X hP hl hret
  have X : Ctx p s m args c cX11_apartBy 6 RX11 D (TY cC cI cZ) := X
  obtain ⟨hx, hb, hml, hown, htT, hK, hN⟩ := id X
  unfold f_Mo_apartBy at h
  refine lv_aload_n hx hb dX11_apartBy_0 rfl (lv_at hl 0 rfl) ?_
  refine va_get (ci := 11) (v := .ref a_now) (C := RX11) (T := TX11) (N := 23) hx hb htT inlX11 hown hK hP 0 rfl rfl 0 (by decide) (htT _ q_7_0) (fun _ h9 => h9) rfl dX11_apartBy_1 ?_
  refine lv_iconst (v := (3 : Int32)) hx hb dX11_apartBy_4 rfl ?_
  refine lv_iload_n hx hb dX11_apartBy_5 rfl (lv_at hl 3 rfl) ?_
  refine lv_iadd hx hb dX11_apartBy_6 ?_
  obtain ⟨g1, h⟩ := gd h
  refine va_iald hx hb hK hP 1 1 rfl rfl (inB_in g1) dX11_apartBy_7 ?_
  refine lv_aload_n hx hb dX11_apartBy_8 rfl (lv_at hl 0 rfl) ?_
  refine va_get (ci := 11) (v := .ref a_now) (C := RX11) (T := TX11) (N := 23) hx hb htT inlX11 hown hK hP 0 rfl rfl 0 (by decide) (htT _ q_7_0) (fun _ h9 => h9) rfl dX11_apartBy_9 ?_
  refine lv_iconst (v := (3 : Int32)) hx hb dX11_apartBy_12 rfl ?_
  refine lv_iload_n hx hb dX11_apartBy_13 rfl (lv_at hl 1 rfl) ?_
  refine lv_iadd hx hb dX11_apartBy_14 ?_
  obtain ⟨g2, h⟩ := gd h
  refine va_iald hx hb hK hP 1 1 rfl rfl (inB_in g2) dX11_apartBy_15 ?_
  refine lv_isub hx hb dX11_apartBy_16 ?_
  refine lv_istore (lv' := [(4, .int ((A_now (((3 : Int32) + p3)).toNatClampNeg) - (A_now (((3 : Int32) + p1)).toNatClampNeg))), (0, .ref a_this), (1, .int p1), (2, .int p2), (3, .int p3)]) hx hb dX11_apartBy_17 hl (by decide) rfl (fun ls hl => ?_)
  refine lv_aload_n hx hb dX11_apartBy_19 rfl (lv_at hl 1 rfl) ?_
  refine va_get (ci := 11) (v := .ref a_now) (C := RX11) (T := TX11) (N := 23) hx hb htT inlX11 hown hK hP 0 rfl rfl 0 (by decide) (htT _ q_7_0) (fun _ h9 => h9) rfl dX11_apartBy_20 ?_
  refine lv_bipush (v := (17 : Int32)) hx hb dX11_apartBy_23 rfl ?_
  refine lv_iload_n hx hb dX11_apartBy_25 rfl (lv_at hl 3 rfl) ?_
  refine lv_iadd hx hb dX11_apartBy_26 ?_
  obtain ⟨g3, h⟩ := gd h
  refine va_iald hx hb hK hP 1 1 rfl rfl (inB_in g3) dX11_apartBy_27 ?_
  refine lv_iload hx hb dX11_apartBy_28 (lv_at hl 0 rfl) ?_
  refine lv_imul hx hb dX11_apartBy_30 ?_
  refine lv_aload_n hx hb dX11_apartBy_31 rfl (lv_at hl 1 rfl) ?_
  refine va_get (ci := 11) (v := .ref a_now) (C := RX11) (T := TX11) (N := 23) hx hb htT inlX11 hown hK hP 0 rfl rfl 0 (by decide) (htT _ q_7_0) (fun _ h9 => h9) rfl dX11_apartBy_32 ?_
  refine lv_bipush (v := (17 : Int32)) hx hb dX11_apartBy_35 rfl ?_
  refine lv_iload_n hx hb dX11_apartBy_37 rfl (lv_at hl 2 rfl) ?_
  refine lv_iadd hx hb dX11_apartBy_38 ?_
  obtain ⟨g4, h⟩ := gd h
  refine va_iald hx hb hK hP 1 1 rfl rfl (inB_in g4) dX11_apartBy_39 ?_
  refine lv_aload_n hx hb dX11_apartBy_40 rfl (lv_at hl 1 rfl) ?_
  refine va_get (ci := 11) (v := .ref a_now) (C := RX11) (T := TX11) (N := 23) hx hb htT inlX11 hown hK hP 0 rfl rfl 0 (by decide) (htT _ q_7_0) (fun _ h9 => h9) rfl dX11_apartBy_41 ?_
  refine lv_iconst (v := (3 : Int32)) hx hb dX11_apartBy_44 rfl ?_
  refine lv_iload_n hx hb dX11_apartBy_45 rfl (lv_at hl 4 rfl) ?_
  refine lv_iadd hx hb dX11_apartBy_46 ?_
  obtain ⟨g5, h⟩ := gd h
  refine va_iald hx hb hK hP 1 1 rfl rfl (inB_in g5) dX11_apartBy_47 ?_
  refine lv_aload_n hx hb dX11_apartBy_48 rfl (lv_at hl 1 rfl) ?_
  refine va_get (ci := 11) (v := .ref a_now) (C := RX11) (T := TX11) (N := 23) hx hb htT inlX11 hown hK hP 0 rfl rfl 0 (by decide) (htT _ q_7_0) (fun _ h9 => h9) rfl dX11_apartBy_49 ?_
  refine lv_iconst (v := (3 : Int32)) hx hb dX11_apartBy_52 rfl ?_
  refine lv_iload_n hx hb dX11_apartBy_53 rfl (lv_at hl 3 rfl) ?_
  refine lv_iadd hx hb dX11_apartBy_54 ?_
  obtain ⟨g6, h⟩ := gd h
  refine va_iald hx hb hK hP 1 1 rfl rfl (inB_in g6) dX11_apartBy_55 ?_
  refine lv_isub hx hb dX11_apartBy_56 ?_
  refine lv_imul hx hb dX11_apartBy_57 ?_
  refine lv_isub hx hb dX11_apartBy_58 ?_
  refine lv_aload_n hx hb dX11_apartBy_59 rfl (lv_at hl 1 rfl) ?_
  refine va_get (ci := 11) (v := .ref a_now) (C := RX11) (T := TX11) (N := 23) hx hb htT inlX11 hown hK hP 0 rfl rfl 0 (by decide) (htT _ q_7_0) (fun _ h9 => h9) rfl dX11_apartBy_60 ?_
  refine lv_bipush (v := (17 : Int32)) hx hb dX11_apartBy_63 rfl ?_
  refine lv_iload_n hx hb dX11_apartBy_65 rfl (lv_at hl 4 rfl) ?_
  refine lv_iadd hx hb dX11_apartBy_66 ?_
  obtain ⟨g7, h⟩ := gd h
  refine va_iald hx hb hK hP 1 1 rfl rfl (inB_in g7) dX11_apartBy_67 ?_
  refine lv_aload_n hx hb dX11_apartBy_68 rfl (lv_at hl 1 rfl) ?_
  refine va_get (ci := 11) (v := .ref a_now) (C := RX11) (T := TX11) (N := 23) hx hb htT inlX11 hown hK hP 0 rfl rfl 0 (by decide) (htT _ q_7_0) (fun _ h9 => h9) rfl dX11_apartBy_69 ?_
  refine lv_iconst (v := (3 : Int32)) hx hb dX11_apartBy_72 rfl ?_
  refine lv_iload_n hx hb dX11_apartBy_73 rfl (lv_at hl 3 rfl) ?_
  refine lv_iadd hx hb dX11_apartBy_74 ?_
  obtain ⟨g8, h⟩ := gd h
  refine va_iald hx hb hK hP 1 1 rfl rfl (inB_in g8) dX11_apartBy_75 ?_
  refine lv_aload_n hx hb dX11_apartBy_76 rfl (lv_at hl 1 rfl) ?_
  refine va_get (ci := 11) (v := .ref a_now) (C := RX11) (T := TX11) (N := 23) hx hb htT inlX11 hown hK hP 0 rfl rfl 0 (by decide) (htT _ q_7_0) (fun _ h9 => h9) rfl dX11_apartBy_77 ?_
  refine lv_iconst (v := (3 : Int32)) hx hb dX11_apartBy_80 rfl ?_
  refine lv_iload_n hx hb dX11_apartBy_81 rfl (lv_at hl 2 rfl) ?_
  refine lv_iadd hx hb dX11_apartBy_82 ?_
  obtain ⟨g9, h⟩ := gd h
  refine va_iald hx hb hK hP 1 1 rfl rfl (inB_in g9) dX11_apartBy_83 ?_
  refine lv_isub hx hb dX11_apartBy_84 ?_
  refine lv_imul hx hb dX11_apartBy_85 ?_
  refine lv_isub hx hb dX11_apartBy_86 ?_
  refine lv_istore (lv' := [(5, .int ((((A_now (((17 : Int32) + p2)).toNatClampNeg) * ((A_now (((3 : Int32) + p3)).toNatClampNeg) - (A_now (((3 : Int32) + p1)).toNatClampNeg))) - ((A_now (((17 : Int32) + p1)).toNatClampNeg) * ((A_now (((3 : Int32) + p3)).toNatClampNeg) - (A_now (((3 : Int32) + p2)).toNatClampNeg)))) - ((A_now (((17 : Int32) + p3)).toNatClampNeg) * ((A_now (((3 : Int32) + p2)).toNatClampNeg) - (A_now (((3 : Int32) + p1)).toNatClampNeg))))), (4, .int ((A_now (((3 : Int32) + p3)).toNatClampNeg) - (A_now (((3 : Int32) + p1)).toNatClampNeg))), (0, .ref a_this), (1, .int p1), (2, .int p2), (3, .int p3)]) hx hb dX11_apartBy_87 hl (by decide) rfl (fun ls hl => ?_)
  refine lv_iload hx hb dX11_apartBy_89 (lv_at hl 0 rfl) ?_
  refine lv_if_ge (tgt := 100) hx hb dX11_apartBy_91 (by decide) (fun c10 => ?_) (fun c10 => ?_)
  · have h := ip c10 h
    refine lv_iload hx hb dX11_apartBy_100 (lv_at hl 0 rfl) ?_
    exact hret _ _ _ dX11_apartBy_102 (Option.some.inj h) rfl
  · have h := im c10 h
    refine lv_iload hx hb dX11_apartBy_94 (lv_at hl 0 rfl) ?_
    refine lv_ineg hx hb dX11_apartBy_96 ?_
    refine lv_goto (tgt := 102) hx hb dX11_apartBy_97 (by decide) ?_
    exact hret _ _ _ dX11_apartBy_102 (Option.some.inj h) rfl
set_option maxHeartbeats 4000000 in
set_option maxRecDepth 100000 in
theorem c_Mo_lowest (l : Launch) (D : va_G) (cC cI cZ : ClassId)   (p0 : Int64) (p2 : Int64) (p4 : Int32) (r : Int32) (h : f_Mo_lowest p0 p2 p4 = some r) : Met l yX11_lowest (.code yX11_lowest cX11_lowest 11 (some .int) :: TBL) (RM 0 0) (PcR [.long p0, .long p2, .int p4] D (TY cC cI cZ) []) (vp_Si (PO .int r)) 0 0 (fun _ => False) := by
  refine roOf (by decide) (Nat.le_of_ble_eq_true rfl) rfl ?_
  intro p e s m args below meth c Q ls X hP hl hret
  have X : Ctx p s m args c cX11_lowest 11 RX11 D (TY cC cI cZ) := X
  obtain ⟨hx, hb, hml, hown, htT, hK, hN⟩ := id X
  unfold f_Mo_lowest at h
  refine lv_lload_n hx hb dX11_lowest_0 rfl (lv_at hl 0 rfl) ?_
  refine lv_lstore (lv' := [(5, .long p0), (0, .long p0), (2, .long p2), (4, .int p4)]) hx hb dX11_lowest_1 hl (by decide) rfl (fun ls hl => ?_)
  refine lv_lload_n hx hb dX11_lowest_3 rfl (lv_at hl 2 rfl) ?_
  refine lv_lstore (lv' := [(7, .long p2), (5, .long p0), (0, .long p0), (2, .long p2), (4, .int p4)]) hx hb dX11_lowest_4 hl (by decide) rfl (fun ls hl => ?_)
  have LP6 : ∀ (n : Nat) (y6_5 : Int64) (y6_7 : Int64) (zq6 : Int64), f_Mo_lowest_L6 p0 p2 p4 n y6_5 y6_7 = some zq6 → ∀ (ls : Array Slot), lv_has ls 11 [(0, .long p0), (2, .long p2), (4, .int p4), (5, .long y6_5), (7, .long y6_7)] → (∀ (ls : Array Slot), lv_has ls 11 [(0, .long p0), (2, .long p2), (4, .int p4), (5, .long zq6)] → W p l e (RM 0 0) s m args below meth c s.heap [] 0 0 Q (F0 m 31 ls [])) → W p l e (RM 0 0) s m args below meth c s.heap [] 0 0 Q (F0 m 6 ls []) := by
    clear h
    intro n
    induction n with
    | zero =>
      intro y6_5 y6_7 zq6 h
      rw [f_Mo_lowest_L6_0] at h
      cases h
    | succ n ih6 =>
      intro y6_5 y6_7 zq6 h ls hl k6_0
      rw [f_Mo_lowest_L6_s] at h
      refine lv_lload hx hb dX11_lowest_6 (lv_at hl 4 rfl) ?_
      refine lv_lconst (v := (0 : Int64)) hx hb dX11_lowest_8 rfl ?_
      refine W.lcmp hx hb dX11_lowest_9 ?_
      refine lv_if_eq (tgt := 31) hx hb dX11_lowest_10 (by decide) (fun c2 => ?_) (fun c2 => ?_)
      · have h := ip c2 h
        obtain rfl := Option.some.inj h
        exact k6_0 _ (lv_sub hl [0, 1, 2, 3] rfl)
      · have h := im c2 h
        refine lv_lload hx hb dX11_lowest_13 (lv_at hl 3 rfl) ?_
        refine lv_lload hx hb dX11_lowest_15 (lv_at hl 4 rfl) ?_
        obtain ⟨g3, h⟩ := gd h
        refine lv_lrem hx hb dX11_lowest_17 (nzL_ne g3) ?_
        refine lv_lstore (lv' := [(9, .long (y6_5 - y6_5 / y6_7 * y6_7)), (0, .long p0), (2, .long p2), (4, .int p4), (5, .long y6_5), (7, .long y6_7)]) hx hb dX11_lowest_18 hl (by decide) rfl (fun ls hl => ?_)
        refine lv_lload hx hb dX11_lowest_20 (lv_at hl 5 rfl) ?_
        refine lv_lstore (lv' := [(5, .long y6_7), (9, .long (y6_5 - y6_5 / y6_7 * y6_7)), (0, .long p0), (2, .long p2), (4, .int p4), (7, .long y6_7)]) hx hb dX11_lowest_22 hl (by decide) rfl (fun ls hl => ?_)
        refine lv_lload hx hb dX11_lowest_24 (lv_at hl 1 rfl) ?_
        refine lv_lstore (lv' := [(7, .long (y6_5 - y6_5 / y6_7 * y6_7)), (5, .long y6_7), (9, .long (y6_5 - y6_5 / y6_7 * y6_7)), (0, .long p0), (2, .long p2), (4, .int p4)]) hx hb dX11_lowest_26 hl (by decide) rfl (fun ls hl => ?_)
        refine lv_goto (tgt := 6) hx hb dX11_lowest_28 (by decide) ?_
        exact ih6 y6_7 (y6_5 - y6_5 / y6_7 * y6_7) _ h _ (lv_sub hl [3, 4, 5, 1, 0] rfl) k6_0
  obtain ⟨z1, e1, h⟩ := bd h
  refine LP6 fu p0 p2 z1 e1 _ (lv_sub hl [2, 3, 4, 1, 0] rfl) ?_
  intro ls hl
  refine lv_iload hx hb dX11_lowest_31 (lv_at hl 2 rfl) ?_
  refine lv_if_eq (tgt := 43) hx hb dX11_lowest_33 (by decide) (fun c4 => ?_) (fun c4 => ?_)
  · have h := ip c4 h
    refine lv_lload_n hx hb dX11_lowest_43 rfl (lv_at hl 1 rfl) ?_
    refine lv_lload hx hb dX11_lowest_44 (lv_at hl 3 rfl) ?_
    obtain ⟨g5, h⟩ := gd h
    refine lv_ldiv hx hb dX11_lowest_46 (nzL_ne g5) ?_
    refine lv_l2i hx hb dX11_lowest_47 rfl ?_
    exact hret _ _ _ dX11_lowest_48 (Option.some.inj h) rfl
  · have h := im c4 h
    refine lv_lload_n hx hb dX11_lowest_36 rfl (lv_at hl 0 rfl) ?_
    refine lv_lload hx hb dX11_lowest_37 (lv_at hl 3 rfl) ?_
    obtain ⟨g6, h⟩ := gd h
    refine lv_ldiv hx hb dX11_lowest_39 (nzL_ne g6) ?_
    refine lv_goto (tgt := 47) hx hb dX11_lowest_40 (by decide) ?_
    refine lv_l2i hx hb dX11_lowest_47 rfl ?_
    exact hret _ _ _ dX11_lowest_48 (Option.some.inj h) rfl
set_option maxHeartbeats 4000000 in
set_option maxRecDepth 100000 in
theorem c_Mo_apart (l : Launch) (D : va_G) (cC cI cZ : ClassId) (a_this : Nat) (a_now : Nat) (a_undos : Nat) (a_seen : Nat) (a_seenAs : Nat) (a_isKept : Nat) (a_kept : Nat) (a_text : Nat) (a_read : Nat) (a_fewest : Nat) (a_doors : Nat) (a_isSo : Nat) (v_undoMany : Int32) (v_undoAt : Int32) (v_seenMany : Int32) (v_letterMany : Int32) (v_readAt : Int32) (v_tokenAt : Int32) (v_token : Int32) (v_value : Int32) (v_faultAt : Int32) (v_readOnce : Int32) (v_greatUpper : Int64) (v_greatLower : Int64) (A_now : Nat → Int32) (A_undos : Nat → Int32) (A_seen : Nat → Int32) (A_seenAs : Nat → Int32) (A_isKept : Nat → Int32) (A_kept : Nat → Int32) (A_text : Nat → Int32) (A_read : Nat → Int32) (A_fewest : Nat → Int32) (A_doors : Nat → Int32) (A_isSo : Nat → Int32) (p1 : Int32) (p2 : Int32) (p3 : Int32) (r : Int32) (h : f_Mo_apart A_now p1 p2 p3 = some r) : Met l yX11_apart (.code yX11_apart cX11_apart 8 (some .int) :: TBL) (RM 6 130) (PcR [.ref a_this, .int p1, .int p2, .int p3] D (TY cC cI cZ) (k_Mo cC cI cZ a_this a_now a_undos a_seen a_seenAs a_isKept a_kept a_text a_read a_fewest a_doors a_isSo v_undoMany v_undoAt v_seenMany v_letterMany v_readAt v_tokenAt v_token v_value v_faultAt v_readOnce v_greatUpper v_greatLower A_now A_undos A_seen A_seenAs A_isKept A_kept A_text A_read A_fewest A_doors A_isSo)) (vp_Si (PO .int r)) 0 0 (fun _ => False) := by
  refine roOf (by decide) (Nat.le_of_ble_eq_true rfl) rfl ?_
  intro p e s m args below meth c Q ls X hP hl hret
  have X : Ctx p s m args c cX11_apart 8 RX11 D (TY cC cI cZ) := X
  obtain ⟨hx, hb, hml, hown, htT, hK, hN⟩ := id X
  unfold f_Mo_apart at h
  refine lv_aload_n hx hb dX11_apart_0 rfl (lv_at hl 0 rfl) ?_
  refine lv_iload_n hx hb dX11_apart_1 rfl (lv_at hl 1 rfl) ?_
  refine lv_iload_n hx hb dX11_apart_2 rfl (lv_at hl 2 rfl) ?_
  obtain ⟨r1, e1, h⟩ := bd h
  refine roV X [.int p1, .int p2] [] (c_Mo_isSide l D cC cI cZ a_this a_now a_undos a_seen a_seenAs a_isKept a_kept a_text a_read a_fewest a_doors a_isSo v_undoMany v_undoAt v_seenMany v_letterMany v_readAt v_tokenAt v_token v_value v_faultAt v_readOnce v_greatUpper v_greatLower A_now A_undos A_seen A_seenAs A_isKept A_kept A_text A_read A_fewest A_doors A_isSo p1 p2 r1 e1) gg_X11_192 hd_Mo_isSide ⟨rfl, rfl, Nat.le_of_ble_eq_true rfl, Nat.le_of_ble_eq_true rfl⟩ ⟨Nat.zero_le _, Nat.zero_le _⟩ hP [0, 1, 2, 3, 4, 5, 6, 7, 8, 9, 10, 11] rfl rfl rfl rfl hl.1 rfl (Nat.le_of_ble_eq_true rfl) dX11_apart_3 (fun n1 => ?_)
  refine lv_if_eq (tgt := 23) hx hb dX11_apart_6 (by decide) (fun c2 => ?_) (fun c2 => ?_)
  · have h := ip c2 h
    refine lv_iconst (v := (-1 : Int32)) hx hb dX11_apart_23 rfl ?_
    exact hret _ _ _ dX11_apart_24 (Option.some.inj h) rfl
  · have h := im c2 h
    refine lv_iload_n hx hb dX11_apart_9 rfl (lv_at hl 1 rfl) ?_
    refine lv_iload_n hx hb dX11_apart_10 rfl (lv_at hl 2 rfl) ?_
    refine lv_icmp_ge (tgt := 23) hx hb dX11_apart_11 (by decide) (fun c3 => ?_) (fun c3 => ?_)
    · have h := ip c3 h
      refine lv_iconst (v := (-1 : Int32)) hx hb dX11_apart_23 rfl ?_
      exact hret _ _ _ dX11_apart_24 (Option.some.inj h) rfl
    · have h := im c3 h
      refine lv_iload_n hx hb dX11_apart_14 rfl (lv_at hl 3 rfl) ?_
      refine lv_iconst (v := (0 : Int32)) hx hb dX11_apart_15 rfl ?_
      refine lv_iconst (v := (2 : Int32)) hx hb dX11_apart_16 rfl ?_
      refine roS X [.int p3, .int (0 : Int32), .int (2 : Int32)] [] (c_Mo_in l D cC cI cZ p3 (0 : Int32) (2 : Int32) _ rfl) gg_X11_48 hd_Mo_in ⟨rfl, rfl, Nat.le_of_ble_eq_true rfl, Nat.le_of_ble_eq_true rfl⟩ ⟨Nat.zero_le _, Nat.zero_le _⟩ hP [] rfl hl.1 rfl (Nat.le_of_ble_eq_true rfl) dX11_apart_17 (fun n4 => ?_)
      refine lv_if_ne (tgt := 25) hx hb dX11_apart_20 (by decide) (fun c5 => ?_) (fun c5 => ?_)
      · have h := im c5 h
        refine lv_bipush (v := (-9 : Int32)) hx hb dX11_apart_25 rfl ?_
        refine lv_istore (lv' := [(4, .int (-9 : Int32)), (0, .ref a_this), (1, .int p1), (2, .int p2), (3, .int p3)]) hx hb dX11_apart_27 hl (by decide) rfl (fun ls hl => ?_)
        refine lv_iconst (v := (-1 : Int32)) hx hb dX11_apart_29 rfl ?_
        refine lv_istore (lv' := [(5, .int (-1 : Int32)), (4, .int (-9 : Int32)), (0, .ref a_this), (1, .int p1), (2, .int p2), (3, .int p3)]) hx hb dX11_apart_30 hl (by decide) rfl (fun ls hl => ?_)
        refine lv_iload_n hx hb dX11_apart_32 rfl (lv_at hl 3 rfl) ?_
        refine lv_iconst (v := (1 : Int32)) hx hb dX11_apart_33 rfl ?_
        refine lv_iadd hx hb dX11_apart_34 ?_
        refine lv_istore (lv' := [(6, .int (p1 + (1 : Int32))), (5, .int (-1 : Int32)), (4, .int (-9 : Int32)), (0, .ref a_this), (1, .int p1), (2, .int p2), (3, .int p3)]) hx hb dX11_apart_35 hl (by decide) rfl (fun ls hl => ?_)
        have LP37 : ∀ (n : Nat) (y37_4 : Int32) (y37_5 : Int32) (y37_6 : Int32) (zq37 : Int32 × Int32), f_Mo_apart_L37 p1 p2 p3 A_now n y37_4 y37_5 y37_6 = some zq37 → ∀ (ls : Array Slot), lv_has ls 8 [(0, .ref a_this), (1, .int p1), (2, .int p2), (3, .int p3), (4, .int y37_4), (5, .int y37_5), (6, .int y37_6)] → (∀ (ls : Array Slot), lv_has ls 8 [(0, .ref a_this), (1, .int p1), (2, .int p2), (3, .int p3), (4, .int zq37.1), (5, .int zq37.2)] → W p l e (RM 6 130) s m args below meth c s.heap [] 0 0 Q (F0 m 91 ls [])) → W p l e (RM 6 130) s m args below meth c s.heap [] 0 0 Q (F0 m 37 ls []) := by
          clear h
          intro n
          induction n with
          | zero =>
            intro y37_4 y37_5 y37_6 zq37 h
            rw [f_Mo_apart_L37_0] at h
            cases h
          | succ n ih37 =>
            intro y37_4 y37_5 y37_6 zq37 h ls hl k37_0
            rw [f_Mo_apart_L37_s] at h
            refine lv_iload hx hb dX11_apart_37 (lv_at hl 6 rfl) ?_
            refine lv_iload_n hx hb dX11_apart_39 rfl (lv_at hl 2 rfl) ?_
            refine lv_icmp_ge (tgt := 91) hx hb dX11_apart_40 (by decide) (fun c7 => ?_) (fun c7 => ?_)
            · have h := ip c7 h
              obtain rfl := Option.some.inj h
              exact k37_0 _ (lv_sub hl [0, 1, 2, 3, 4, 5] rfl)
            · have h := im c7 h
              refine lv_aload_n hx hb dX11_apart_43 rfl (lv_at hl 0 rfl) ?_
              refine lv_iload_n hx hb dX11_apart_44 rfl (lv_at hl 1 rfl) ?_
              refine lv_iload hx hb dX11_apart_45 (lv_at hl 6 rfl) ?_
              refine lv_iload_n hx hb dX11_apart_47 rfl (lv_at hl 2 rfl) ?_
              obtain ⟨r8, e8, h⟩ := bd h
              refine roV X [.int p1, .int y37_6, .int p2] [] (c_Mo_apartBy l D cC cI cZ a_this a_now a_undos a_seen a_seenAs a_isKept a_kept a_text a_read a_fewest a_doors a_isSo v_undoMany v_undoAt v_seenMany v_letterMany v_readAt v_tokenAt v_token v_value v_faultAt v_readOnce v_greatUpper v_greatLower A_now A_undos A_seen A_seenAs A_isKept A_kept A_text A_read A_fewest A_doors A_isSo p1 y37_6 p2 r8 e8) gg_X11_136 hd_Mo_apartBy ⟨rfl, rfl, Nat.le_of_ble_eq_true rfl, Nat.le_of_ble_eq_true rfl⟩ ⟨Nat.zero_le _, Nat.zero_le _⟩ hP [0, 1, 2, 3, 4, 5, 6, 7, 8, 9, 10, 11] rfl rfl rfl rfl hl.1 rfl (Nat.le_of_ble_eq_true rfl) dX11_apart_48 (fun n8 => ?_)
              refine lv_istore (lv' := [(7, .int r8), (0, .ref a_this), (1, .int p1), (2, .int p2), (3, .int p3), (4, .int y37_4), (5, .int y37_5), (6, .int y37_6)]) hx hb dX11_apart_51 hl (by decide) rfl (fun ls hl => ?_)
              refine lv_iload hx hb dX11_apart_53 (lv_at hl 0 rfl) ?_
              refine lv_iload hx hb dX11_apart_55 (lv_at hl 6 rfl) ?_
              refine lv_icmp_le (tgt := 65) hx hb dX11_apart_57 (by decide) (fun c9 => ?_) (fun c9 => ?_)
              · have h := ip c9 h
                refine lv_iload hx hb dX11_apart_65 (lv_at hl 5 rfl) ?_
                refine lv_istore (lv' := [(4, .int y37_4), (7, .int r8), (0, .ref a_this), (1, .int p1), (2, .int p2), (3, .int p3), (5, .int y37_5), (6, .int y37_6)]) hx hb dX11_apart_67 hl (by decide) rfl (fun ls hl => ?_)
                refine lv_iload hx hb dX11_apart_69 (lv_at hl 1 rfl) ?_
                refine lv_iload hx hb dX11_apart_71 (lv_at hl 6 rfl) ?_
                refine lv_icmp_le (tgt := 81) hx hb dX11_apart_73 (by decide) (fun _ => ?_) (fun c10 => absurd c9 c10)
                refine lv_iload hx hb dX11_apart_81 (lv_at hl 6 rfl) ?_
                refine lv_istore (lv' := [(5, .int y37_5), (4, .int y37_4), (7, .int r8), (0, .ref a_this), (1, .int p1), (2, .int p2), (3, .int p3), (6, .int y37_6)]) hx hb dX11_apart_83 hl (by decide) rfl (fun ls hl => ?_)
                refine lv_iinc (v := (y37_6 + (1 : Int32))) (lv' := [(6, .int (y37_6 + (1 : Int32))), (5, .int y37_5), (4, .int y37_4), (7, .int r8), (0, .ref a_this), (1, .int p1), (2, .int p2), (3, .int p3)]) hx hb dX11_apart_85 hl (k := 7) rfl rfl (by decide) rfl (fun ls hl => ?_)
                refine lv_goto (tgt := 37) hx hb dX11_apart_88 (by decide) ?_
                exact ih37 y37_4 y37_5 (y37_6 + (1 : Int32)) _ h _ (lv_sub hl [4, 5, 6, 7, 2, 1, 0] rfl) k37_0
              · have h := im c9 h
                refine lv_iload hx hb dX11_apart_60 (lv_at hl 7 rfl) ?_
                refine lv_goto (tgt := 67) hx hb dX11_apart_62 (by decide) ?_
                refine lv_istore (lv' := [(4, .int y37_6), (7, .int r8), (0, .ref a_this), (1, .int p1), (2, .int p2), (3, .int p3), (5, .int y37_5), (6, .int y37_6)]) hx hb dX11_apart_67 hl (by decide) rfl (fun ls hl => ?_)
                refine lv_iload hx hb dX11_apart_69 (lv_at hl 1 rfl) ?_
                refine lv_iload hx hb dX11_apart_71 (lv_at hl 6 rfl) ?_
                refine lv_icmp_le (tgt := 81) hx hb dX11_apart_73 (by decide) (fun c11 => absurd c11 c9) (fun _ => ?_)
                refine lv_iload hx hb dX11_apart_76 (lv_at hl 1 rfl) ?_
                refine lv_goto (tgt := 83) hx hb dX11_apart_78 (by decide) ?_
                refine lv_istore (lv' := [(5, .int r8), (4, .int y37_6), (7, .int r8), (0, .ref a_this), (1, .int p1), (2, .int p2), (3, .int p3), (6, .int y37_6)]) hx hb dX11_apart_83 hl (by decide) rfl (fun ls hl => ?_)
                refine lv_iinc (v := (y37_6 + (1 : Int32))) (lv' := [(6, .int (y37_6 + (1 : Int32))), (5, .int r8), (4, .int y37_6), (7, .int r8), (0, .ref a_this), (1, .int p1), (2, .int p2), (3, .int p3)]) hx hb dX11_apart_85 hl (k := 7) rfl rfl (by decide) rfl (fun ls hl => ?_)
                refine lv_goto (tgt := 37) hx hb dX11_apart_88 (by decide) ?_
                exact ih37 y37_6 r8 (y37_6 + (1 : Int32)) _ h _ (lv_sub hl [4, 5, 6, 7, 2, 1, 0] rfl) k37_0
        obtain ⟨z6, e6, h⟩ := bd h
        refine LP37 fu (-9 : Int32) (-1 : Int32) (p1 + (1 : Int32)) z6 e6 _ (lv_sub hl [3, 4, 5, 6, 2, 1, 0] rfl) ?_
        intro ls hl
        refine lv_iload hx hb dX11_apart_91 (lv_at hl 4 rfl) ?_
        refine lv_bipush (v := (-9 : Int32)) hx hb dX11_apart_93 rfl ?_
        refine lv_icmp_eq (tgt := 103) hx hb dX11_apart_95 (by decide) (fun c12 => ?_) (fun c12 => ?_)
        · have h := ip c12 h
          refine lv_iload hx hb dX11_apart_103 (lv_at hl 4 rfl) ?_
          refine lv_goto (tgt := 141) hx hb dX11_apart_105 (by decide) ?_
          exact hret _ _ _ dX11_apart_141 (Option.some.inj h) rfl
        · have h := im c12 h
          refine lv_iload_n hx hb dX11_apart_98 rfl (lv_at hl 3 rfl) ?_
          refine lv_iconst (v := (2 : Int32)) hx hb dX11_apart_99 rfl ?_
          refine lv_icmp_ne (tgt := 108) hx hb dX11_apart_100 (by decide) (fun c13 => ?_) (fun c13 => ?_)
          · have h := im c13 h
            refine lv_iload hx hb dX11_apart_108 (lv_at hl 5 rfl) ?_
            refine lv_i2l hx hb dX11_apart_110 rfl ?_
            refine lv_aload_n hx hb dX11_apart_111 rfl (lv_at hl 0 rfl) ?_
            refine va_get (ci := 11) (v := .ref a_now) (C := RX11) (T := TX11) (N := 23) hx hb htT inlX11 hown hK hP 0 rfl rfl 0 (by decide) (htT _ q_7_0) (fun _ h9 => h9) rfl dX11_apart_112 ?_
            refine lv_iconst (v := (3 : Int32)) hx hb dX11_apart_115 rfl ?_
            refine lv_iload_n hx hb dX11_apart_116 rfl (lv_at hl 2 rfl) ?_
            refine lv_iadd hx hb dX11_apart_117 ?_
            obtain ⟨g14, h⟩ := gd h
            refine va_iald hx hb hK hP 1 1 rfl rfl (inB_in g14) dX11_apart_118 ?_
            refine lv_aload_n hx hb dX11_apart_119 rfl (lv_at hl 0 rfl) ?_
            refine va_get (ci := 11) (v := .ref a_now) (C := RX11) (T := TX11) (N := 23) hx hb htT inlX11 hown hK hP 0 rfl rfl 0 (by decide) (htT _ q_7_0) (fun _ h9 => h9) rfl dX11_apart_120 ?_
            refine lv_iconst (v := (3 : Int32)) hx hb dX11_apart_123 rfl ?_
            refine lv_iload_n hx hb dX11_apart_124 rfl (lv_at hl 1 rfl) ?_
            refine lv_iadd hx hb dX11_apart_125 ?_
            obtain ⟨g15, h⟩ := gd h
            refine va_iald hx hb hK hP 1 1 rfl rfl (inB_in g15) dX11_apart_126 ?_
            refine lv_isub hx hb dX11_apart_127 ?_
            refine lv_i2l hx hb dX11_apart_128 rfl ?_
            refine lv_iload_n hx hb dX11_apart_129 rfl (lv_at hl 3 rfl) ?_
            refine lv_if_ne (tgt := 137) hx hb dX11_apart_130 (by decide) (fun c16 => ?_) (fun c16 => ?_)
            · have h := im c16 h
              refine lv_iconst (v := (0 : Int32)) hx hb dX11_apart_137 rfl ?_
              obtain ⟨r18, e18, h⟩ := bd h
              refine roS X [.long ((z6.2).toInt64), .long ((((A_now (((3 : Int32) + p2)).toNatClampNeg) - (A_now (((3 : Int32) + p1)).toNatClampNeg))).toInt64), .int (0 : Int32)] [] (c_Mo_lowest l D cC cI cZ ((z6.2).toInt64) ((((A_now (((3 : Int32) + p2)).toNatClampNeg) - (A_now (((3 : Int32) + p1)).toNatClampNeg))).toInt64) (0 : Int32) r18 e18) gg_X11_195 hd_Mo_lowest ⟨rfl, rfl, Nat.le_of_ble_eq_true rfl, Nat.le_of_ble_eq_true rfl⟩ ⟨Nat.zero_le _, Nat.zero_le _⟩ hP [] rfl hl.1 rfl (Nat.le_of_ble_eq_true rfl) dX11_apart_138 (fun n18 => ?_)
              exact hret _ _ _ dX11_apart_141 (Option.some.inj h) rfl
            · have h := ip c16 h
              refine lv_iconst (v := (1 : Int32)) hx hb dX11_apart_133 rfl ?_
              refine lv_goto (tgt := 138) hx hb dX11_apart_134 (by decide) ?_
              obtain ⟨r17, e17, h⟩ := bd h
              refine roS X [.long ((z6.2).toInt64), .long ((((A_now (((3 : Int32) + p2)).toNatClampNeg) - (A_now (((3 : Int32) + p1)).toNatClampNeg))).toInt64), .int (1 : Int32)] [] (c_Mo_lowest l D cC cI cZ ((z6.2).toInt64) ((((A_now (((3 : Int32) + p2)).toNatClampNeg) - (A_now (((3 : Int32) + p1)).toNatClampNeg))).toInt64) (1 : Int32) r17 e17) gg_X11_195 hd_Mo_lowest ⟨rfl, rfl, Nat.le_of_ble_eq_true rfl, Nat.le_of_ble_eq_true rfl⟩ ⟨Nat.zero_le _, Nat.zero_le _⟩ hP [] rfl hl.1 rfl (Nat.le_of_ble_eq_true rfl) dX11_apart_138 (fun n17 => ?_)
              exact hret _ _ _ dX11_apart_141 (Option.some.inj h) rfl
          · have h := ip c13 h
            refine lv_iload hx hb dX11_apart_103 (lv_at hl 4 rfl) ?_
            refine lv_goto (tgt := 141) hx hb dX11_apart_105 (by decide) ?_
            exact hret _ _ _ dX11_apart_141 (Option.some.inj h) rfl
      · have h := ip c5 h
        refine lv_iconst (v := (-1 : Int32)) hx hb dX11_apart_23 rfl ?_
        exact hret _ _ _ dX11_apart_24 (Option.some.inj h) rfl

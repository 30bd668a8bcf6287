set_option maxHeartbeats 4000000 in
set_option maxRecDepth 100000 in
theorem c_Mo_clear (l : Launch) (D : va_G) (cC cI cZ : ClassId) (a_this : Nat) (a_now : Nat) (a_undos : Nat) (a_seen : Nat) (a_seenAs : Nat) (a_isKept : Nat) (a_kept : Nat) (a_text : Nat) (a_read : Nat) (a_fewest : Nat) (a_doors : Nat) (a_isSo : Nat) (v_undoMany : Int32) (v_undoAt : Int32) (v_seenMany : Int32) (v_letterMany : Int32) (v_readAt : Int32) (v_tokenAt : Int32) (v_token : Int32) (v_value : Int32) (v_faultAt : Int32) (v_readOnce : Int32) (v_greatUpper : Int64) (v_greatLower : Int64) (A_now : Nat → Int32) (A_undos : Nat → Int32) (A_seen : Nat → Int32) (A_seenAs : Nat → Int32) (A_isKept : Nat → Int32) (A_kept : Nat → Int32) (A_text : Nat → Int32) (A_read : Nat → Int32) (A_fewest : Nat → Int32) (A_doors : Nat → Int32) (A_isSo : Nat → Int32)  (sz : Nat) (z : Int32 × Int32) (h : f_Mo_clear v_letterMany = some z) : Met l yX11_clear (.code yX11_clear cX11_clear 2 (some .int) :: TBL) (RM 0 0) (PcM [.ref a_this] sz D (TY cC cI cZ) (k_Mo cC cI cZ a_this a_now a_undos a_seen a_seenAs a_isKept a_kept a_text a_read a_fewest a_doors a_isSo v_undoMany v_undoAt v_seenMany v_letterMany v_readAt v_tokenAt v_token v_value v_faultAt v_readOnce v_greatUpper v_greatLower A_now A_undos A_seen A_seenAs A_isKept A_kept A_text A_read A_fewest A_doors A_isSo)) (fun a st o t => QM (some (.int z.1)) D (k_Mo cC cI cZ a_this a_now a_undos a_seen a_seenAs a_isKept a_kept a_text a_read a_fewest a_doors a_isSo v_undoMany v_undoAt v_seenMany z.2 v_readAt v_tokenAt v_token v_value v_faultAt v_readOnce v_greatUpper v_greatLower A_now A_undos A_seen A_seenAs A_isKept A_kept A_text A_read A_fewest A_doors A_isSo) (va_A (k_Mo cC cI cZ a_this a_now a_undos a_seen a_seenAs a_isKept a_kept a_text a_read a_fewest a_doors a_isSo v_undoMany v_undoAt v_seenMany v_letterMany v_readAt v_tokenAt v_token v_value v_faultAt v_readOnce v_greatUpper v_greatLower A_now A_undos A_seen A_seenAs A_isKept A_kept A_text A_read A_fewest A_doors A_isSo) sz) a st o t ∧ narrow .int (.int z.1) = .int z.1) 0 0 (va_A (k_Mo cC cI cZ a_this a_now a_undos a_seen a_seenAs a_isKept a_kept a_text a_read a_fewest a_doors a_isSo v_undoMany v_undoAt v_seenMany v_letterMany v_readAt v_tokenAt v_token v_value v_faultAt v_readOnce v_greatUpper v_greatLower A_now A_undos A_seen A_seenAs A_isKept A_kept A_text A_read A_fewest A_doors A_isSo) sz) := by
  refine muOf (by decide) (Nat.le_of_ble_eq_true rfl) rfl ?_
  intro p e s m args below meth c Q ls A X hP hD hS hA hl hret
  have X : Ctx p s m args c cX11_clear 2 RX11 D (TY cC cI cZ) := X
  obtain ⟨hx, hb, hml, hown, htT, hK, hN⟩ := id X
  unfold f_Mo_clear at h
  refine lv_aload_n hx hb dX11_clear_0 rfl (lv_at hl 0 rfl) ?_
  refine va_get (ci := 11) (v := .int v_letterMany) (C := RX11) (T := TX11) (N := 23) hx hb htT inlX11 hown hK hP 0 rfl rfl 9 (by decide) (htT _ q_8_11) (fun _ h9 => h9) rfl dX11_clear_1 ?_
  refine lv_istore_n (lv' := [(1, .int v_letterMany), (0, .ref a_this)]) hx hb dX11_clear_4 rfl hl (by decide) rfl (fun ls hl => ?_)
  refine lv_aload_n hx hb dX11_clear_5 rfl (lv_at hl 1 rfl) ?_
  refine lv_iconst (v := (0 : Int32)) hx hb dX11_clear_6 rfl ?_
  refine va_put (ci := 11) (v := .int (0 : Int32)) (ty := .int) (C := RX11) (T := TX11) (N := 23) hx hb htT inlX11 tyX11 tyX11_ok nmX11 hown hK hP hD hS 0 rfl rfl 9 (by decide) (htT _ q_8_11) (fun _ h9 => h9) rfl (tyX11_ok 9 (by decide)) rfl rfl (Nat.le_of_ble_eq_true rfl) dX11_clear_7 (fun H locs hP hD hS => ?_)
  have hP : va_P D vwCl (k_Mo cC cI cZ a_this a_now a_undos a_seen a_seenAs a_isKept a_kept a_text a_read a_fewest a_doors a_isSo v_undoMany v_undoAt v_seenMany (0 : Int32) v_readAt v_tokenAt v_token v_value v_faultAt v_readOnce v_greatUpper v_greatLower A_now A_undos A_seen A_seenAs A_isKept A_kept A_text A_read A_fewest A_doors A_isSo) H := hP
  have hD : va_D A (k_Mo cC cI cZ a_this a_now a_undos a_seen a_seenAs a_isKept a_kept a_text a_read a_fewest a_doors a_isSo v_undoMany v_undoAt v_seenMany (0 : Int32) v_readAt v_tokenAt v_token v_value v_faultAt v_readOnce v_greatUpper v_greatLower A_now A_undos A_seen A_seenAs A_isKept A_kept A_text A_read A_fewest A_doors A_isSo) := hD
  refine lv_iload_n hx hb dX11_clear_10 rfl (lv_at hl 0 rfl) ?_
  obtain rfl := Option.some.inj h
  exact hret _ _ _ _ _ hP hS dX11_clear_11 rfl rfl
set_option maxHeartbeats 4000000 in
set_option maxRecDepth 100000 in
theorem c_Mo_stretches (l : Launch) (D : va_G) (cC cI cZ : ClassId) (a_this : Nat) (a_now : Nat) (a_undos : Nat) (a_seen : Nat) (a_seenAs : Nat) (a_isKept : Nat) (a_kept : Nat) (a_text : Nat) (a_read : Nat) (a_fewest : Nat) (a_doors : Nat) (a_isSo : Nat) (v_undoMany : Int32) (v_undoAt : Int32) (v_seenMany : Int32) (v_letterMany : Int32) (v_readAt : Int32) (v_tokenAt : Int32) (v_token : Int32) (v_value : Int32) (v_faultAt : Int32) (v_readOnce : Int32) (v_greatUpper : Int64) (v_greatLower : Int64) (A_now : Nat → Int32) (A_undos : Nat → Int32) (A_seen : Nat → Int32) (A_seenAs : Nat → Int32) (A_isKept : Nat → Int32) (A_kept : Nat → Int32) (A_text : Nat → Int32) (A_read : Nat → Int32) (A_fewest : Nat → Int32) (A_doors : Nat → Int32) (A_isSo : Nat → Int32)  (r : Int32) (h : f_Mo_stretches A_now = some r) : Met l yX11_stretches (.code yX11_stretches cX11_stretches 3 (some .int) :: TBL) (RM 4 85) (PcR [.ref a_this] D (TY cC cI cZ) (k_Mo cC cI cZ a_this a_now a_undos a_seen a_seenAs a_isKept a_kept a_text a_read a_fewest a_doors a_isSo v_undoMany v_undoAt v_seenMany v_letterMany v_readAt v_tokenAt v_token v_value v_faultAt v_readOnce v_greatUpper v_greatLower A_now A_undos A_seen A_seenAs A_isKept A_kept A_text A_read A_fewest A_doors A_isSo)) (vp_Si (PO .int r)) 0 0 (fun _ => False) := by
  refine roOf (by decide) (Nat.le_of_ble_eq_true rfl) rfl ?_
  intro p e s m args below meth c Q ls X hP hl hret
  have X : Ctx p s m args c cX11_stretches 3 RX11 D (TY cC cI cZ) := X
  obtain ⟨hx, hb, hml, hown, htT, hK, hN⟩ := id X
  unfold f_Mo_stretches at h
  refine lv_iconst (v := (0 : Int32)) hx hb dX11_stretches_0 rfl ?_
  refine lv_istore_n (lv' := [(1, .int (0 : Int32)), (0, .ref a_this)]) hx hb dX11_stretches_1 rfl hl (by decide) rfl (fun ls hl => ?_)
  refine lv_iconst (v := (0 : Int32)) hx hb dX11_stretches_2 rfl ?_
  refine lv_istore_n (lv' := [(2, .int (0 : Int32)), (1, .int (0 : Int32)), (0, .ref a_this)]) hx hb dX11_stretches_3 rfl hl (by decide) rfl (fun ls hl => ?_)
  have LP4 : ∀ (n : Nat) (y4_1 : Int32) (y4_2 : Int32) (zq4 : Int32), f_Mo_stretches_L4 A_now n y4_1 y4_2 = some zq4 → ∀ (ls : Array Slot), lv_has ls 3 [(0, .ref a_this), (1, .int y4_1), (2, .int y4_2)] → (∀ (ls : Array Slot), lv_has ls 3 [(1, .int zq4)] → W p l e (RM 4 85) s m args below meth c s.heap [] 0 0 Q (F0 m 36 ls [])) → W p l e (RM 4 85) s m args below meth c s.heap [] 0 0 Q (F0 m 4 ls []) := by
    clear h
    intro n
    induction n with
    | zero =>
      intro y4_1 y4_2 zq4 h
      rw [f_Mo_stretches_L4_0] at h
      cases h
    | succ n ih4 =>
      intro y4_1 y4_2 zq4 h ls hl k4_0
      rw [f_Mo_stretches_L4_s] at h
      refine lv_iload_n hx hb dX11_stretches_4 rfl (lv_at hl 2 rfl) ?_
      refine lv_aload_n hx hb dX11_stretches_5 rfl (lv_at hl 0 rfl) ?_
      refine va_get (ci := 11) (v := .ref a_now) (C := RX11) (T := TX11) (N := 23) hx hb htT inlX11 hown hK hP 0 rfl rfl 0 (by decide) (htT _ q_7_0) (fun _ h9 => h9) rfl dX11_stretches_6 ?_
      refine lv_iconst (v := (0 : Int32)) hx hb dX11_stretches_9 rfl ?_
      obtain ⟨g2, h⟩ := gd h
      refine va_iald hx hb hK hP 1 1 rfl rfl (inB_in g2) dX11_stretches_10 ?_
      refine lv_icmp_ge (tgt := 36) hx hb dX11_stretches_11 (by decide) (fun c3 => ?_) (fun c3 => ?_)
      · have h := ip c3 h
        obtain rfl := Option.some.inj h
        exact k4_0 _ (lv_sub hl [1] rfl)
      · have h := im c3 h
        refine lv_iload_n hx hb dX11_stretches_14 rfl (lv_at hl 1 rfl) ?_
        refine lv_aload_n hx hb dX11_stretches_15 rfl (lv_at hl 0 rfl) ?_
        refine lv_iload_n hx hb dX11_stretches_16 rfl (lv_at hl 2 rfl) ?_
        obtain ⟨r4, e4, h⟩ := bd h
        refine roV X [.int y4_2] [.int y4_1] (c_Mo_isFirst l D cC cI cZ a_this a_now a_undos a_seen a_seenAs a_isKept a_kept a_text a_read a_fewest a_doors a_isSo v_undoMany v_undoAt v_seenMany v_letterMany v_readAt v_tokenAt v_token v_value v_faultAt v_readOnce v_greatUpper v_greatLower A_now A_undos A_seen A_seenAs A_isKept A_kept A_text A_read A_fewest A_doors A_isSo y4_2 r4 e4) gg_X11_133 hd_Mo_isFirst ⟨rfl, rfl, Nat.le_of_ble_eq_true rfl, Nat.le_of_ble_eq_true rfl⟩ ⟨Nat.zero_le _, Nat.zero_le _⟩ hP [0, 1, 2, 3, 4, 5, 6, 7, 8, 9, 10, 11] rfl rfl rfl rfl hl.1 rfl (Nat.le_of_ble_eq_true rfl) dX11_stretches_17 (fun n4 => ?_)
        refine lv_if_eq (tgt := 27) hx hb dX11_stretches_20 (by decide) (fun c5 => ?_) (fun c5 => ?_)
        · have h := ip c5 h
          refine lv_iconst (v := (0 : Int32)) hx hb dX11_stretches_27 rfl ?_
          refine lv_iadd hx hb dX11_stretches_28 ?_
          refine lv_istore_n (lv' := [(1, .int (y4_1 + (0 : Int32))), (0, .ref a_this), (2, .int y4_2)]) hx hb dX11_stretches_29 rfl hl (by decide) rfl (fun ls hl => ?_)
          refine lv_iinc (v := (y4_2 + (1 : Int32))) (lv' := [(2, .int (y4_2 + (1 : Int32))), (1, .int (y4_1 + (0 : Int32))), (0, .ref a_this)]) hx hb dX11_stretches_30 hl (k := 2) rfl rfl (by decide) rfl (fun ls hl => ?_)
          refine lv_goto (tgt := 4) hx hb dX11_stretches_33 (by decide) ?_
          exact ih4 (y4_1 + (0 : Int32)) (y4_2 + (1 : Int32)) _ h _ (lv_sub hl [2, 1, 0] rfl) k4_0
        · have h := im c5 h
          refine lv_iconst (v := (1 : Int32)) hx hb dX11_stretches_23 rfl ?_
          refine lv_goto (tgt := 28) hx hb dX11_stretches_24 (by decide) ?_
          refine lv_iadd hx hb dX11_stretches_28 ?_
          refine lv_istore_n (lv' := [(1, .int (y4_1 + (1 : Int32))), (0, .ref a_this), (2, .int y4_2)]) hx hb dX11_stretches_29 rfl hl (by decide) rfl (fun ls hl => ?_)
          refine lv_iinc (v := (y4_2 + (1 : Int32))) (lv' := [(2, .int (y4_2 + (1 : Int32))), (1, .int (y4_1 + (1 : Int32))), (0, .ref a_this)]) hx hb dX11_stretches_30 hl (k := 2) rfl rfl (by decide) rfl (fun ls hl => ?_)
          refine lv_goto (tgt := 4) hx hb dX11_stretches_33 (by decide) ?_
          exact ih4 (y4_1 + (1 : Int32)) (y4_2 + (1 : Int32)) _ h _ (lv_sub hl [2, 1, 0] rfl) k4_0
  obtain ⟨z1, e1, h⟩ := bd h
  refine LP4 fu (0 : Int32) (0 : Int32) z1 e1 _ (lv_sub hl [2, 1, 0] rfl) ?_
  intro ls hl
  refine lv_iload_n hx hb dX11_stretches_36 rfl (lv_at hl 0 rfl) ?_
  exact hret _ _ _ dX11_stretches_37 (Option.some.inj h) rfl
set_option maxHeartbeats 4000000 in
set_option maxRecDepth 100000 in
theorem c_Mo_greater (l : Launch) (D : va_G) (cC cI cZ : ClassId) (a_this : Nat) (a_now : Nat) (a_undos : Nat) (a_seen : Nat) (a_seenAs : Nat) (a_isKept : Nat) (a_kept : Nat) (a_text : Nat) (a_read : Nat) (a_fewest : Nat) (a_doors : Nat) (a_isSo : Nat) (v_undoMany : Int32) (v_undoAt : Int32) (v_seenMany : Int32) (v_letterMany : Int32) (v_readAt : Int32) (v_tokenAt : Int32) (v_token : Int32) (v_value : Int32) (v_faultAt : Int32) (v_readOnce : Int32) (v_greatUpper : Int64) (v_greatLower : Int64) (A_now : Nat → Int32) (A_undos : Nat → Int32) (A_seen : Nat → Int32) (A_seenAs : Nat → Int32) (A_isKept : Nat → Int32) (A_kept : Nat → Int32) (A_text : Nat → Int32) (A_read : Nat → Int32) (A_fewest : Nat → Int32) (A_doors : Nat → Int32) (A_isSo : Nat → Int32) (p1 : Int64) (p3 : Int64) (sz : Nat) (z : Int64 × Int64) (h : f_Mo_greater v_greatUpper v_greatLower p1 p3 = some z) : Met l yX11_greater (.code yX11_greater cX11_greater 5 none :: TBL) (RM 0 0) (PcM [.ref a_this, .long p1, .long p3] sz D (TY cC cI cZ) (k_Mo cC cI cZ a_this a_now a_undos a_seen a_seenAs a_isKept a_kept a_text a_read a_fewest a_doors a_isSo v_undoMany v_undoAt v_seenMany v_letterMany v_readAt v_tokenAt v_token v_value v_faultAt v_readOnce v_greatUpper v_greatLower A_now A_undos A_seen A_seenAs A_isKept A_kept A_text A_read A_fewest A_doors A_isSo)) (QM none D (k_Mo cC cI cZ a_this a_now a_undos a_seen a_seenAs a_isKept a_kept a_text a_read a_fewest a_doors a_isSo v_undoMany v_undoAt v_seenMany v_letterMany v_readAt v_tokenAt v_token v_value v_faultAt v_readOnce z.1 z.2 A_now A_undos A_seen A_seenAs A_isKept A_kept A_text A_read A_fewest A_doors A_isSo) (va_A (k_Mo cC cI cZ a_this a_now a_undos a_seen a_seenAs a_isKept a_kept a_text a_read a_fewest a_doors a_isSo v_undoMany v_undoAt v_seenMany v_letterMany v_readAt v_tokenAt v_token v_value v_faultAt v_readOnce v_greatUpper v_greatLower A_now A_undos A_seen A_seenAs A_isKept A_kept A_text A_read A_fewest A_doors A_isSo) sz)) 0 0 (va_A (k_Mo cC cI cZ a_this a_now a_undos a_seen a_seenAs a_isKept a_kept a_text a_read a_fewest a_doors a_isSo v_undoMany v_undoAt v_seenMany v_letterMany v_readAt v_tokenAt v_token v_value v_faultAt v_readOnce v_greatUpper v_greatLower A_now A_undos A_seen A_seenAs A_isKept A_kept A_text A_read A_fewest A_doors A_isSo) sz) := by
  refine muOfV (by decide) (Nat.le_of_ble_eq_true rfl) rfl ?_
  intro p e s m args below meth c Q ls A X hP hD hS hA hl hret
  have X : Ctx p s m args c cX11_greater 5 RX11 D (TY cC cI cZ) := X
  obtain ⟨hx, hb, hml, hown, htT, hK, hN⟩ := id X
  unfold f_Mo_greater at h
  refine lv_lload_n hx hb dX11_greater_0 rfl (lv_at hl 1 rfl) ?_
  refine lv_aload_n hx hb dX11_greater_1 rfl (lv_at hl 0 rfl) ?_
  refine va_get (ci := 11) (v := .long v_greatLower) (C := RX11) (T := TX11) (N := 23) hx hb htT inlX11 hown hK hP 0 rfl rfl 19 (by decide) (htT _ q_26_5) (fun _ h9 => h9) rfl dX11_greater_2 ?_
  refine lv_lmul hx hb dX11_greater_5 ?_
  refine lv_aload_n hx hb dX11_greater_6 rfl (lv_at hl 0 rfl) ?_
  refine va_get (ci := 11) (v := .long v_greatUpper) (C := RX11) (T := TX11) (N := 23) hx hb htT inlX11 hown hK hP 0 rfl rfl 18 (by decide) (htT _ q_26_4) (fun _ h9 => h9) rfl dX11_greater_7 ?_
  refine lv_lload_n hx hb dX11_greater_10 rfl (lv_at hl 2 rfl) ?_
  refine lv_lmul hx hb dX11_greater_11 ?_
  refine W.lcmp hx hb dX11_greater_12 ?_
  refine lv_if_le (tgt := 26) hx hb dX11_greater_13 (by decide) (fun c1 => ?_) (fun c1 => ?_)
  · have h := ip c1 h
    obtain rfl := Option.some.inj h
    exact hret _ _ _ _ hP hS dX11_greater_26
  · have h := im c1 h
    refine lv_aload_n hx hb dX11_greater_16 rfl (lv_at hl 0 rfl) ?_
    refine lv_lload_n hx hb dX11_greater_17 rfl (lv_at hl 1 rfl) ?_
    refine va_put (ci := 11) (v := .long p1) (ty := .long) (C := RX11) (T := TX11) (N := 23) hx hb htT inlX11 tyX11 tyX11_ok nmX11 hown hK hP hD hS 0 rfl rfl 18 (by decide) (htT _ q_26_4) (fun _ h9 => h9) rfl (tyX11_ok 18 (by decide)) rfl rfl (Nat.le_of_ble_eq_true rfl) dX11_greater_18 (fun H locs hP hD hS => ?_)
    have hP : va_P D vwCl (k_Mo cC cI cZ a_this a_now a_undos a_seen a_seenAs a_isKept a_kept a_text a_read a_fewest a_doors a_isSo v_undoMany v_undoAt v_seenMany v_letterMany v_readAt v_tokenAt v_token v_value v_faultAt v_readOnce p1 v_greatLower A_now A_undos A_seen A_seenAs A_isKept A_kept A_text A_read A_fewest A_doors A_isSo) H := hP
    have hD : va_D A (k_Mo cC cI cZ a_this a_now a_undos a_seen a_seenAs a_isKept a_kept a_text a_read a_fewest a_doors a_isSo v_undoMany v_undoAt v_seenMany v_letterMany v_readAt v_tokenAt v_token v_value v_faultAt v_readOnce p1 v_greatLower A_now A_undos A_seen A_seenAs A_isKept A_kept A_text A_read A_fewest A_doors A_isSo) := hD
    refine lv_aload_n hx hb dX11_greater_21 rfl (lv_at hl 0 rfl) ?_
    refine lv_lload_n hx hb dX11_greater_22 rfl (lv_at hl 2 rfl) ?_
    refine va_put (ci := 11) (v := .long p3) (ty := .long) (C := RX11) (T := TX11) (N := 23) hx hb htT inlX11 tyX11 tyX11_ok nmX11 hown hK hP hD hS 0 rfl rfl 19 (by decide) (htT _ q_26_5) (fun _ h9 => h9) rfl (tyX11_ok 19 (by decide)) rfl rfl (Nat.le_of_ble_eq_true rfl) dX11_greater_23 (fun H locs hP hD hS => ?_)
    have hP : va_P D vwCl (k_Mo cC cI cZ a_this a_now a_undos a_seen a_seenAs a_isKept a_kept a_text a_read a_fewest a_doors a_isSo v_undoMany v_undoAt v_seenMany v_letterMany v_readAt v_tokenAt v_token v_value v_faultAt v_readOnce p1 p3 A_now A_undos A_seen A_seenAs A_isKept A_kept A_text A_read A_fewest A_doors A_isSo) H := hP
    have hD : va_D A (k_Mo cC cI cZ a_this a_now a_undos a_seen a_seenAs a_isKept a_kept a_text a_read a_fewest a_doors a_isSo v_undoMany v_undoAt v_seenMany v_letterMany v_readAt v_tokenAt v_token v_value v_faultAt v_readOnce p1 p3 A_now A_undos A_seen A_seenAs A_isKept A_kept A_text A_read A_fewest A_doors A_isSo) := hD
    obtain rfl := Option.some.inj h
    exact hret _ _ _ _ hP hS dX11_greater_26
set_option maxHeartbeats 4000000 in
set_option maxRecDepth 100000 in
theorem c_Mo_layStrip (l : Launch) (D : va_G) (cC cI cZ : ClassId) (a_this : Nat) (a_now : Nat) (a_undos : Nat) (a_seen : Nat) (a_seenAs : Nat) (a_isKept : Nat) (a_kept : Nat) (a_text : Nat) (a_read : Nat) (a_fewest : Nat) (a_doors : Nat) (a_isSo : Nat) (v_undoMany : Int32) (v_undoAt : Int32) (v_seenMany : Int32) (v_letterMany : Int32) (v_readAt : Int32) (v_tokenAt : Int32) (v_token : Int32) (v_value : Int32) (v_faultAt : Int32) (v_readOnce : Int32) (v_greatUpper : Int64) (v_greatLower : Int64) (A_now : Nat → Int32) (A_undos : Nat → Int32) (A_seen : Nat → Int32) (A_seenAs : Nat → Int32) (A_isKept : Nat → Int32) (A_kept : Nat → Int32) (A_text : Nat → Int32) (A_read : Nat → Int32) (A_fewest : Nat → Int32) (A_doors : Nat → Int32) (A_isSo : Nat → Int32) (p1 : Int32) (p2 : Int32) (sz : Nat) (z : Int64 × Int64) (h : f_Mo_layStrip v_greatUpper v_greatLower A_now p1 p2 = some z) : Met l yX11_layStrip (.code yX11_layStrip cX11_layStrip 6 none :: TBL) (RM 1 25) (PcM [.ref a_this, .int p1, .int p2] sz D (TY cC cI cZ) (k_Mo cC cI cZ a_this a_now a_undos a_seen a_seenAs a_isKept a_kept a_text a_read a_fewest a_doors a_isSo v_undoMany v_undoAt v_seenMany v_letterMany v_readAt v_tokenAt v_token v_value v_faultAt v_readOnce v_greatUpper v_greatLower A_now A_undos A_seen A_seenAs A_isKept A_kept A_text A_read A_fewest A_doors A_isSo)) (QM none D (k_Mo cC cI cZ a_this a_now a_undos a_seen a_seenAs a_isKept a_kept a_text a_read a_fewest a_doors a_isSo v_undoMany v_undoAt v_seenMany v_letterMany v_readAt v_tokenAt v_token v_value v_faultAt v_readOnce z.1 z.2 A_now A_undos A_seen A_seenAs A_isKept A_kept A_text A_read A_fewest A_doors A_isSo) (va_A (k_Mo cC cI cZ a_this a_now a_undos a_seen a_seenAs a_isKept a_kept a_text a_read a_fewest a_doors a_isSo v_undoMany v_undoAt v_seenMany v_letterMany v_readAt v_tokenAt v_token v_value v_faultAt v_readOnce v_greatUpper v_greatLower A_now A_undos A_seen A_seenAs A_isKept A_kept A_text A_read A_fewest A_doors A_isSo) sz)) 0 0 (va_A (k_Mo cC cI cZ a_this a_now a_undos a_seen a_seenAs a_isKept a_kept a_text a_read a_fewest a_doors a_isSo v_undoMany v_undoAt v_seenMany v_letterMany v_readAt v_tokenAt v_token v_value v_faultAt v_readOnce v_greatUpper v_greatLower A_now A_undos A_seen A_seenAs A_isKept A_kept A_text A_read A_fewest A_doors A_isSo) sz) := by
  refine muOfV (by decide) (Nat.le_of_ble_eq_true rfl) rfl ?_
  intro p e s m args below meth c Q ls A X hP hD hS hA hl hret
  have X : Ctx p s m args c cX11_layStrip 6 RX11 D (TY cC cI cZ) := X
  obtain ⟨hx, hb, hml, hown, htT, hK, hN⟩ := id X
  unfold f_Mo_layStrip at h
  refine lv_aload_n hx hb dX11_layStrip_0 rfl (lv_at hl 0 rfl) ?_
  refine lv_lconst (v := (0 : Int64)) hx hb dX11_layStrip_1 rfl ?_
  refine va_put (ci := 11) (v := .long (0 : Int64)) (ty := .long) (C := RX11) (T := TX11) (N := 23) hx hb htT inlX11 tyX11 tyX11_ok nmX11 hown hK hP hD hS 0 rfl rfl 18 (by decide) (htT _ q_26_4) (fun _ h9 => h9) rfl (tyX11_ok 18 (by decide)) rfl rfl (Nat.le_of_ble_eq_true rfl) dX11_layStrip_2 (fun H locs hP hD hS => ?_)
  have hP : va_P D vwCl (k_Mo cC cI cZ a_this a_now a_undos a_seen a_seenAs a_isKept a_kept a_text a_read a_fewest a_doors a_isSo v_undoMany v_undoAt v_seenMany v_letterMany v_readAt v_tokenAt v_token v_value v_faultAt v_readOnce (0 : Int64) v_greatLower A_now A_undos A_seen A_seenAs A_isKept A_kept A_text A_read A_fewest A_doors A_isSo) H := hP
  have hD : va_D A (k_Mo cC cI cZ a_this a_now a_undos a_seen a_seenAs a_isKept a_kept a_text a_read a_fewest a_doors a_isSo v_undoMany v_undoAt v_seenMany v_letterMany v_readAt v_tokenAt v_token v_value v_faultAt v_readOnce (0 : Int64) v_greatLower A_now A_undos A_seen A_seenAs A_isKept A_kept A_text A_read A_fewest A_doors A_isSo) := hD
  refine lv_aload_n hx hb dX11_layStrip_5 rfl (lv_at hl 0 rfl) ?_
  refine lv_lconst (v := (1 : Int64)) hx hb dX11_layStrip_6 rfl ?_
  refine va_put (ci := 11) (v := .long (1 : Int64)) (ty := .long) (C := RX11) (T := TX11) (N := 23) hx hb htT inlX11 tyX11 tyX11_ok nmX11 hown hK hP hD hS 0 rfl rfl 19 (by decide) (htT _ q_26_5) (fun _ h9 => h9) rfl (tyX11_ok 19 (by decide)) rfl rfl (Nat.le_of_ble_eq_true rfl) dX11_layStrip_7 (fun H locs hP hD hS => ?_)
  have hP : va_P D vwCl (k_Mo cC cI cZ a_this a_now a_undos a_seen a_seenAs a_isKept a_kept a_text a_read a_fewest a_doors a_isSo v_undoMany v_undoAt v_seenMany v_letterMany v_readAt v_tokenAt v_token v_value v_faultAt v_readOnce (0 : Int64) (1 : Int64) A_now A_undos A_seen A_seenAs A_isKept A_kept A_text A_read A_fewest A_doors A_isSo) H := hP
  have hD : va_D A (k_Mo cC cI cZ a_this a_now a_undos a_seen a_seenAs a_isKept a_kept a_text a_read a_fewest a_doors a_isSo v_undoMany v_undoAt v_seenMany v_letterMany v_readAt v_tokenAt v_token v_value v_faultAt v_readOnce (0 : Int64) (1 : Int64) A_now A_undos A_seen A_seenAs A_isKept A_kept A_text A_read A_fewest A_doors A_isSo) := hD
  refine lv_iload_n hx hb dX11_layStrip_10 rfl (lv_at hl 1 rfl) ?_
  refine lv_istore_n (lv' := [(3, .int p1), (0, .ref a_this), (1, .int p1), (2, .int p2)]) hx hb dX11_layStrip_11 rfl hl (by decide) rfl (fun ls hl => ?_)
  have LP12 : ∀ (n : Nat) (y12_3 : Int32) (v_greatUpper_12 : Int64) (v_greatLower_12 : Int64) (zq12 : Int64 × Int64), f_Mo_layStrip_L12 p2 A_now n y12_3 v_greatUpper_12 v_greatLower_12 = some zq12 → ∀ (H : Heap) (locs : List Loc) (ls : Array Slot), va_P D vwCl (k_Mo cC cI cZ a_this a_now a_undos a_seen a_seenAs a_isKept a_kept a_text a_read a_fewest a_doors a_isSo v_undoMany v_undoAt v_seenMany v_letterMany v_readAt v_tokenAt v_token v_value v_faultAt v_readOnce v_greatUpper_12 v_greatLower_12 A_now A_undos A_seen A_seenAs A_isKept A_kept A_text A_read A_fewest A_doors A_isSo) H → va_D A (k_Mo cC cI cZ a_this a_now a_undos a_seen a_seenAs a_isKept a_kept a_text a_read a_fewest a_doors a_isSo v_undoMany v_undoAt v_seenMany v_letterMany v_readAt v_tokenAt v_token v_value v_faultAt v_readOnce v_greatUpper_12 v_greatLower_12 A_now A_undos A_seen A_seenAs A_isKept A_kept A_text A_read A_fewest A_doors A_isSo) → va_S A s.heap H locs → lv_has ls 6 [(0, .ref a_this), (2, .int p2), (3, .int y12_3)] → (∀ (H : Heap) (locs : List Loc) (ls : Array Slot), va_P D vwCl (k_Mo cC cI cZ a_this a_now a_undos a_seen a_seenAs a_isKept a_kept a_text a_read a_fewest a_doors a_isSo v_undoMany v_undoAt v_seenMany v_letterMany v_readAt v_tokenAt v_token v_value v_faultAt v_readOnce zq12.1 zq12.2 A_now A_undos A_seen A_seenAs A_isKept A_kept A_text A_read A_fewest A_doors A_isSo) H → va_D A (k_Mo cC cI cZ a_this a_now a_undos a_seen a_seenAs a_isKept a_kept a_text a_read a_fewest a_doors a_isSo v_undoMany v_undoAt v_seenMany v_letterMany v_readAt v_tokenAt v_token v_value v_faultAt v_readOnce zq12.1 zq12.2 A_now A_undos A_seen A_seenAs A_isKept A_kept A_text A_read A_fewest A_doors A_isSo) → va_S A s.heap H locs → lv_has ls 6 [] → W p l e (RM 1 25) s m args below meth c H locs 0 0 Q (F0 m 95 ls [])) → W p l e (RM 1 25) s m args below meth c H locs 0 0 Q (F0 m 12 ls []) := by
    clear h
    intro n
    induction n with
    | zero =>
      intro y12_3 v_greatUpper_12 v_greatLower_12 zq12 h
      rw [f_Mo_layStrip_L12_0] at h
      cases h
    | succ n ih12 =>
      intro y12_3 v_greatUpper_12 v_greatLower_12 zq12 h H locs ls hP hD hS hl k12_0
      rw [f_Mo_layStrip_L12_s] at h
      refine lv_iload_n hx hb dX11_layStrip_12 rfl (lv_at hl 2 rfl) ?_
      refine lv_iload_n hx hb dX11_layStrip_13 rfl (lv_at hl 1 rfl) ?_
      refine lv_icmp_gt (tgt := 95) hx hb dX11_layStrip_14 (by decide) (fun c2 => ?_) (fun c2 => ?_)
      · have h := ip c2 h
        obtain rfl := Option.some.inj h
        exact k12_0 _ _ _ hP hD hS (lv_sub hl [] rfl)
      · have h := im c2 h
        refine lv_iload_n hx hb dX11_layStrip_17 rfl (lv_at hl 2 rfl) ?_
        refine lv_iconst (v := (2 : Int32)) hx hb dX11_layStrip_18 rfl ?_
        refine lv_iadd hx hb dX11_layStrip_19 ?_
        refine lv_istore (lv' := [(4, .int (y12_3 + (2 : Int32))), (0, .ref a_this), (2, .int p2), (3, .int y12_3)]) hx hb dX11_layStrip_20 hl (by decide) rfl (fun ls hl => ?_)
        have LP22 : ∀ (n : Nat) (y22_4 : Int32) (v_greatUpper_22 : Int64) (v_greatLower_22 : Int64) (zq22 : Int64 × Int64), f_Mo_layStrip_L22 p2 y12_3 A_now n y22_4 v_greatUpper_22 v_greatLower_22 = some zq22 → ∀ (H : Heap) (locs : List Loc) (ls : Array Slot), va_P D vwCl (k_Mo cC cI cZ a_this a_now a_undos a_seen a_seenAs a_isKept a_kept a_text a_read a_fewest a_doors a_isSo v_undoMany v_undoAt v_seenMany v_letterMany v_readAt v_tokenAt v_token v_value v_faultAt v_readOnce v_greatUpper_22 v_greatLower_22 A_now A_undos A_seen A_seenAs A_isKept A_kept A_text A_read A_fewest A_doors A_isSo) H → va_D A (k_Mo cC cI cZ a_this a_now a_undos a_seen a_seenAs a_isKept a_kept a_text a_read a_fewest a_doors a_isSo v_undoMany v_undoAt v_seenMany v_letterMany v_readAt v_tokenAt v_token v_value v_faultAt v_readOnce v_greatUpper_22 v_greatLower_22 A_now A_undos A_seen A_seenAs A_isKept A_kept A_text A_read A_fewest A_doors A_isSo) → va_S A s.heap H locs → lv_has ls 6 [(0, .ref a_this), (2, .int p2), (3, .int y12_3), (4, .int y22_4)] → (∀ (H : Heap) (locs : List Loc) (ls : Array Slot), va_P D vwCl (k_Mo cC cI cZ a_this a_now a_undos a_seen a_seenAs a_isKept a_kept a_text a_read a_fewest a_doors a_isSo v_undoMany v_undoAt v_seenMany v_letterMany v_readAt v_tokenAt v_token v_value v_faultAt v_readOnce zq22.1 zq22.2 A_now A_undos A_seen A_seenAs A_isKept A_kept A_text A_read A_fewest A_doors A_isSo) H → va_D A (k_Mo cC cI cZ a_this a_now a_undos a_seen a_seenAs a_isKept a_kept a_text a_read a_fewest a_doors a_isSo v_undoMany v_undoAt v_seenMany v_letterMany v_readAt v_tokenAt v_token v_value v_faultAt v_readOnce zq22.1 zq22.2 A_now A_undos A_seen A_seenAs A_isKept A_kept A_text A_read A_fewest A_doors A_isSo) → va_S A s.heap H locs → lv_has ls 6 [(0, .ref a_this), (2, .int p2), (3, .int y12_3)] → W p l e (RM 1 25) s m args below meth c H locs 0 0 Q (F0 m 89 ls [])) → W p l e (RM 1 25) s m args below meth c H locs 0 0 Q (F0 m 22 ls []) := by
          clear h
          intro n
          induction n with
          | zero =>
            intro y22_4 v_greatUpper_22 v_greatLower_22 zq22 h
            rw [f_Mo_layStrip_L22_0] at h
            cases h
          | succ n ih22 =>
            intro y22_4 v_greatUpper_22 v_greatLower_22 zq22 h H locs ls hP hD hS hl k22_0
            rw [f_Mo_layStrip_L22_s] at h
            refine lv_iload hx hb dX11_layStrip_22 (lv_at hl 3 rfl) ?_
            refine lv_iload_n hx hb dX11_layStrip_24 rfl (lv_at hl 1 rfl) ?_
            refine lv_icmp_gt (tgt := 89) hx hb dX11_layStrip_25 (by decide) (fun c4 => ?_) (fun c4 => ?_)
            · have h := ip c4 h
              obtain rfl := Option.some.inj h
              exact k22_0 _ _ _ hP hD hS (lv_sub hl [0, 1, 2] rfl)
            · have h := im c4 h
              refine lv_iload_n hx hb dX11_layStrip_28 rfl (lv_at hl 2 rfl) ?_
              refine lv_iconst (v := (1 : Int32)) hx hb dX11_layStrip_29 rfl ?_
              refine lv_iadd hx hb dX11_layStrip_30 ?_
              refine lv_istore (lv' := [(5, .int (y12_3 + (1 : Int32))), (0, .ref a_this), (2, .int p2), (3, .int y12_3), (4, .int y22_4)]) hx hb dX11_layStrip_31 hl (by decide) rfl (fun ls hl => ?_)
              have LP33 : ∀ (n : Nat) (y33_5 : Int32) (v_greatUpper_33 : Int64) (v_greatLower_33 : Int64) (zq33 : Int64 × Int64), f_Mo_layStrip_L33 p2 y12_3 y22_4 A_now n y33_5 v_greatUpper_33 v_greatLower_33 = some zq33 → ∀ (H : Heap) (locs : List Loc) (ls : Array Slot), va_P D vwCl (k_Mo cC cI cZ a_this a_now a_undos a_seen a_seenAs a_isKept a_kept a_text a_read a_fewest a_doors a_isSo v_undoMany v_undoAt v_seenMany v_letterMany v_readAt v_tokenAt v_token v_value v_faultAt v_readOnce v_greatUpper_33 v_greatLower_33 A_now A_undos A_seen A_seenAs A_isKept A_kept A_text A_read A_fewest A_doors A_isSo) H → va_D A (k_Mo cC cI cZ a_this a_now a_undos a_seen a_seenAs a_isKept a_kept a_text a_read a_fewest a_doors a_isSo v_undoMany v_undoAt v_seenMany v_letterMany v_readAt v_tokenAt v_token v_value v_faultAt v_readOnce v_greatUpper_33 v_greatLower_33 A_now A_undos A_seen A_seenAs A_isKept A_kept A_text A_read A_fewest A_doors A_isSo) → va_S A s.heap H locs → lv_has ls 6 [(0, .ref a_this), (2, .int p2), (3, .int y12_3), (4, .int y22_4), (5, .int y33_5)] → (∀ (H : Heap) (locs : List Loc) (ls : Array Slot), va_P D vwCl (k_Mo cC cI cZ a_this a_now a_undos a_seen a_seenAs a_isKept a_kept a_text a_read a_fewest a_doors a_isSo v_undoMany v_undoAt v_seenMany v_letterMany v_readAt v_tokenAt v_token v_value v_faultAt v_readOnce zq33.1 zq33.2 A_now A_undos A_seen A_seenAs A_isKept A_kept A_text A_read A_fewest A_doors A_isSo) H → va_D A (k_Mo cC cI cZ a_this a_now a_undos a_seen a_seenAs a_isKept a_kept a_text a_read a_fewest a_doors a_isSo v_undoMany v_undoAt v_seenMany v_letterMany v_readAt v_tokenAt v_token v_value v_faultAt v_readOnce zq33.1 zq33.2 A_now A_undos A_seen A_seenAs A_isKept A_kept A_text A_read A_fewest A_doors A_isSo) → va_S A s.heap H locs → lv_has ls 6 [(0, .ref a_this), (2, .int p2), (3, .int y12_3), (4, .int y22_4)] → W p l e (RM 1 25) s m args below meth c H locs 0 0 Q (F0 m 83 ls [])) → W p l e (RM 1 25) s m args below meth c H locs 0 0 Q (F0 m 33 ls []) := by
                clear h
                intro n
                induction n with
                | zero =>
                  intro y33_5 v_greatUpper_33 v_greatLower_33 zq33 h
                  rw [f_Mo_layStrip_L33_0] at h
                  cases h
                | succ n ih33 =>
                  intro y33_5 v_greatUpper_33 v_greatLower_33 zq33 h H locs ls hP hD hS hl k33_0
                  rw [f_Mo_layStrip_L33_s] at h
                  refine lv_iload hx hb dX11_layStrip_33 (lv_at hl 4 rfl) ?_
                  refine lv_iload hx hb dX11_layStrip_35 (lv_at hl 3 rfl) ?_
                  refine lv_icmp_ge (tgt := 83) hx hb dX11_layStrip_37 (by decide) (fun c6 => ?_) (fun c6 => ?_)
                  · have h := ip c6 h
                    obtain rfl := Option.some.inj h
                    exact k33_0 _ _ _ hP hD hS (lv_sub hl [0, 1, 2, 3] rfl)
                  · have h := im c6 h
                    refine lv_aload_n hx hb dX11_layStrip_40 rfl (lv_at hl 0 rfl) ?_
                    refine lv_aload_n hx hb dX11_layStrip_41 rfl (lv_at hl 0 rfl) ?_
                    refine lv_iload_n hx hb dX11_layStrip_42 rfl (lv_at hl 2 rfl) ?_
                    refine lv_iload hx hb dX11_layStrip_43 (lv_at hl 4 rfl) ?_
                    refine lv_iload hx hb dX11_layStrip_45 (lv_at hl 3 rfl) ?_
                    obtain ⟨r7, e7, h⟩ := bd h
                    refine roV X [.int y12_3, .int y33_5, .int y22_4] [.ref a_this] (c_Mo_apartBy l D cC cI cZ a_this a_now a_undos a_seen a_seenAs a_isKept a_kept a_text a_read a_fewest a_doors a_isSo v_undoMany v_undoAt v_seenMany v_letterMany v_readAt v_tokenAt v_token v_value v_faultAt v_readOnce v_greatUpper_33 v_greatLower_33 A_now A_undos A_seen A_seenAs A_isKept A_kept A_text A_read A_fewest A_doors A_isSo y12_3 y33_5 y22_4 r7 e7) gg_X11_136 hd_Mo_apartBy ⟨rfl, rfl, Nat.le_of_ble_eq_true rfl, Nat.le_of_ble_eq_true rfl⟩ ⟨Nat.zero_le _, Nat.zero_le _⟩ hP [0, 1, 2, 3, 4, 5, 6, 7, 8, 9, 10, 11] rfl rfl rfl rfl hl.1 rfl (Nat.le_of_ble_eq_true rfl) dX11_layStrip_47 (fun n7 => ?_)
                    refine lv_i2l hx hb dX11_layStrip_50 rfl ?_
                    refine lv_ldc2 (v := (2 : Int64)) hx hb hown (htT _ q_26_10) dX11_layStrip_51 ?_
                    refine lv_aload_n hx hb dX11_layStrip_54 rfl (lv_at hl 0 rfl) ?_
                    refine va_get (ci := 11) (v := .ref a_now) (C := RX11) (T := TX11) (N := 23) hx hb htT inlX11 hown hK hP 0 rfl rfl 0 (by decide) (htT _ q_7_0) (fun _ h9 => h9) rfl dX11_layStrip_55 ?_
                    refine lv_iconst (v := (3 : Int32)) hx hb dX11_layStrip_58 rfl ?_
                    refine lv_iload hx hb dX11_layStrip_59 (lv_at hl 3 rfl) ?_
                    refine lv_iadd hx hb dX11_layStrip_61 ?_
                    obtain ⟨g8, h⟩ := gd h
                    refine va_iald hx hb hK hP 1 1 rfl rfl (inB_in g8) dX11_layStrip_62 ?_
                    refine lv_aload_n hx hb dX11_layStrip_63 rfl (lv_at hl 0 rfl) ?_
                    refine va_get (ci := 11) (v := .ref a_now) (C := RX11) (T := TX11) (N := 23) hx hb htT inlX11 hown hK hP 0 rfl rfl 0 (by decide) (htT _ q_7_0) (fun _ h9 => h9) rfl dX11_layStrip_64 ?_
                    refine lv_iconst (v := (3 : Int32)) hx hb dX11_layStrip_67 rfl ?_
                    refine lv_iload_n hx hb dX11_layStrip_68 rfl (lv_at hl 2 rfl) ?_
                    refine lv_iadd hx hb dX11_layStrip_69 ?_
                    obtain ⟨g9, h⟩ := gd h
                    refine va_iald hx hb hK hP 1 1 rfl rfl (inB_in g9) dX11_layStrip_70 ?_
                    refine lv_isub hx hb dX11_layStrip_71 ?_
                    refine lv_i2l hx hb dX11_layStrip_72 rfl ?_
                    refine lv_lmul hx hb dX11_layStrip_73 ?_
                    obtain ⟨z10, e10, h⟩ := bd h
                    refine muVV (ws' := (k_Mo cC cI cZ a_this a_now a_undos a_seen a_seenAs a_isKept a_kept a_text a_read a_fewest a_doors a_isSo v_undoMany v_undoAt v_seenMany v_letterMany v_readAt v_tokenAt v_token v_value v_faultAt v_readOnce z10.1 z10.2 A_now A_undos A_seen A_seenAs A_isKept A_kept A_text A_read A_fewest A_doors A_isSo)) X [.long ((r7).toInt64), .long ((2 : Int64) * (((A_now (((3 : Int32) + y22_4)).toNatClampNeg) - (A_now (((3 : Int32) + y12_3)).toNatClampNeg))).toInt64)] [] (c_Mo_greater l D cC cI cZ a_this a_now a_undos a_seen a_seenAs a_isKept a_kept a_text a_read a_fewest a_doors a_isSo v_undoMany v_undoAt v_seenMany v_letterMany v_readAt v_tokenAt v_token v_value v_faultAt v_readOnce v_greatUpper_33 v_greatLower_33 A_now A_undos A_seen A_seenAs A_isKept A_kept A_text A_read A_fewest A_doors A_isSo ((r7).toInt64) ((2 : Int64) * (((A_now (((3 : Int32) + y22_4)).toNatClampNeg) - (A_now (((3 : Int32) + y12_3)).toNatClampNeg))).toInt64) _ z10 e10) gg_X11_161 hd_Mo_greater ⟨rfl, rfl, Nat.le_of_ble_eq_true rfl, Nat.le_of_ble_eq_true rfl⟩ ⟨Nat.zero_le _, Nat.zero_le _⟩ hP hD hS hA [0, 1, 2, 3, 4, 5, 6, 7, 8, 9, 10, 11] [] [0, 1, 2, 3, 4, 5, 6, 7, 8, 9, 10, 11] rfl rfl (by decide) (by decide) rfl rfl rfl rfl rfl hl.1 rfl (Nat.le_of_ble_eq_true rfl) dX11_layStrip_74 (fun H locs hP hD hS => ?_)
                    refine lv_iinc (v := (y33_5 + (1 : Int32))) (lv' := [(5, .int (y33_5 + (1 : Int32))), (0, .ref a_this), (2, .int p2), (3, .int y12_3), (4, .int y22_4)]) hx hb dX11_layStrip_77 hl (k := 4) rfl rfl (by decide) rfl (fun ls hl => ?_)
                    refine lv_goto (tgt := 33) hx hb dX11_layStrip_80 (by decide) ?_
                    exact ih33 (y33_5 + (1 : Int32)) z10.1 z10.2 _ h _ _ _ hP hD hS (lv_sub hl [1, 2, 3, 4, 0] rfl) k33_0
              obtain ⟨z5, e5, h⟩ := bd h
              refine LP33 fu (y12_3 + (1 : Int32)) v_greatUpper_22 v_greatLower_22 z5 e5 _ _ _ hP hD hS (lv_sub hl [1, 2, 3, 4, 0] rfl) ?_
              intro H locs ls hP hD hS hl
              refine lv_iinc (v := (y22_4 + (1 : Int32))) (lv' := [(4, .int (y22_4 + (1 : Int32))), (0, .ref a_this), (2, .int p2), (3, .int y12_3)]) hx hb dX11_layStrip_83 hl (k := 3) rfl rfl (by decide) rfl (fun ls hl => ?_)
              refine lv_goto (tgt := 22) hx hb dX11_layStrip_86 (by decide) ?_
              exact ih22 (y22_4 + (1 : Int32)) z5.1 z5.2 _ h _ _ _ hP hD hS (lv_sub hl [1, 2, 3, 0] rfl) k22_0
        obtain ⟨z3, e3, h⟩ := bd h
        refine LP22 fu (y12_3 + (2 : Int32)) v_greatUpper_12 v_greatLower_12 z3 e3 _ _ _ hP hD hS (lv_sub hl [1, 2, 3, 0] rfl) ?_
        intro H locs ls hP hD hS hl
        refine lv_iinc (v := (y12_3 + (1 : Int32))) (lv' := [(3, .int (y12_3 + (1 : Int32))), (0, .ref a_this), (2, .int p2)]) hx hb dX11_layStrip_89 hl (k := 2) rfl rfl (by decide) rfl (fun ls hl => ?_)
        refine lv_goto (tgt := 12) hx hb dX11_layStrip_92 (by decide) ?_
        exact ih12 (y12_3 + (1 : Int32)) z3.1 z3.2 _ h _ _ _ hP hD hS (lv_sub hl [1, 2, 0] rfl) k12_0
  obtain ⟨z1, e1, h⟩ := bd h
  refine LP12 fu p1 (0 : Int64) (1 : Int64) z1 e1 _ _ _ hP hD hS (lv_sub hl [1, 3, 0] rfl) ?_
  intro H locs ls hP hD hS hl
  obtain rfl := Option.some.inj h
  exact hret _ _ _ _ hP hS dX11_layStrip_95
set_option maxHeartbeats 4000000 in
set_option maxRecDepth 100000 in
theorem c_Mo_isStrip (l : Launch) (D : va_G) (cC cI cZ : ClassId) (a_this : Nat) (a_now : Nat) (a_undos : Nat) (a_seen : Nat) (a_seenAs : Nat) (a_isKept : Nat) (a_kept : Nat) (a_text : Nat) (a_read : Nat) (a_fewest : Nat) (a_doors : Nat) (a_isSo : Nat) (v_undoMany : Int32) (v_undoAt : Int32) (v_seenMany : Int32) (v_letterMany : Int32) (v_readAt : Int32) (v_tokenAt : Int32) (v_token : Int32) (v_value : Int32) (v_faultAt : Int32) (v_readOnce : Int32) (v_greatUpper : Int64) (v_greatLower : Int64) (A_now : Nat → Int32) (A_undos : Nat → Int32) (A_seen : Nat → Int32) (A_seenAs : Nat → Int32) (A_isKept : Nat → Int32) (A_kept : Nat → Int32) (A_text : Nat → Int32) (A_read : Nat → Int32) (A_fewest : Nat → Int32) (A_doors : Nat → Int32) (A_isSo : Nat → Int32) (p1 : Int32) (p2 : Int32) (sz : Nat) (z : Int32 × Int64 × Int64) (h : f_Mo_isStrip v_greatUpper v_greatLower A_now p1 p2 = some z) : Met l yX11_isStrip (.code yX11_isStrip cX11_isStrip 3 (some .boolean) :: TBL) (RM 2 50) (PcM [.ref a_this, .int p1, .int p2] sz D (TY cC cI cZ) (k_Mo cC cI cZ a_this a_now a_undos a_seen a_seenAs a_isKept a_kept a_text a_read a_fewest a_doors a_isSo v_undoMany v_undoAt v_seenMany v_letterMany v_readAt v_tokenAt v_token v_value v_faultAt v_readOnce v_greatUpper v_greatLower A_now A_undos A_seen A_seenAs A_isKept A_kept A_text A_read A_fewest A_doors A_isSo)) (fun a st o t => QM (some (.int z.1)) D (k_Mo cC cI cZ a_this a_now a_undos a_seen a_seenAs a_isKept a_kept a_text a_read a_fewest a_doors a_isSo v_undoMany v_undoAt v_seenMany v_letterMany v_readAt v_tokenAt v_token v_value v_faultAt v_readOnce z.2.1 z.2.2 A_now A_undos A_seen A_seenAs A_isKept A_kept A_text A_read A_fewest A_doors A_isSo) (va_A (k_Mo cC cI cZ a_this a_now a_undos a_seen a_seenAs a_isKept a_kept a_text a_read a_fewest a_doors a_isSo v_undoMany v_undoAt v_seenMany v_letterMany v_readAt v_tokenAt v_token v_value v_faultAt v_readOnce v_greatUpper v_greatLower A_now A_undos A_seen A_seenAs A_isKept A_kept A_text A_read A_fewest A_doors A_isSo) sz) a st o t ∧ narrow .boolean (.int z.1) = .int z.1) 0 0 (va_A (k_Mo cC cI cZ a_this a_now a_undos a_seen a_seenAs a_isKept a_kept a_text a_read a_fewest a_doors a_isSo v_undoMany v_undoAt v_seenMany v_letterMany v_readAt v_tokenAt v_token v_value v_faultAt v_readOnce v_greatUpper v_greatLower A_now A_undos A_seen A_seenAs A_isKept A_kept A_text A_read A_fewest A_doors A_isSo) sz) := by
  refine muOf (by decide) (Nat.le_of_ble_eq_true rfl) rfl ?_
  intro p e s m args below meth c Q ls A X hP hD hS hA hl hret
  have X : Ctx p s m args c cX11_isStrip 3 RX11 D (TY cC cI cZ) := X
  obtain ⟨hx, hb, hml, hown, htT, hK, hN⟩ := id X
  unfold f_Mo_isStrip at h
  refine lv_aload_n hx hb dX11_isStrip_0 rfl (lv_at hl 0 rfl) ?_
  refine lv_iload_n hx hb dX11_isStrip_1 rfl (lv_at hl 1 rfl) ?_
  refine lv_iload_n hx hb dX11_isStrip_2 rfl (lv_at hl 2 rfl) ?_
  obtain ⟨z1, e1, h⟩ := bd h
  refine muVV (ws' := (k_Mo cC cI cZ a_this a_now a_undos a_seen a_seenAs a_isKept a_kept a_text a_read a_fewest a_doors a_isSo v_undoMany v_undoAt v_seenMany v_letterMany v_readAt v_tokenAt v_token v_value v_faultAt v_readOnce z1.1 z1.2 A_now A_undos A_seen A_seenAs A_isKept A_kept A_text A_read A_fewest A_doors A_isSo)) X [.int p1, .int p2] [] (c_Mo_layStrip l D cC cI cZ a_this a_now a_undos a_seen a_seenAs a_isKept a_kept a_text a_read a_fewest a_doors a_isSo v_undoMany v_undoAt v_seenMany v_letterMany v_readAt v_tokenAt v_token v_value v_faultAt v_readOnce v_greatUpper v_greatLower A_now A_undos A_seen A_seenAs A_isKept A_kept A_text A_read A_fewest A_doors A_isSo p1 p2 _ z1 e1) gg_X11_165 hd_Mo_layStrip ⟨rfl, rfl, Nat.le_of_ble_eq_true rfl, Nat.le_of_ble_eq_true rfl⟩ ⟨Nat.zero_le _, Nat.zero_le _⟩ hP hD hS hA [0, 1, 2, 3, 4, 5, 6, 7, 8, 9, 10, 11] [] [0, 1, 2, 3, 4, 5, 6, 7, 8, 9, 10, 11] rfl rfl (by decide) (by decide) rfl rfl rfl rfl rfl hl.1 rfl (Nat.le_of_ble_eq_true rfl) dX11_isStrip_3 (fun H locs hP hD hS => ?_)
  refine lv_aload_n hx hb dX11_isStrip_6 rfl (lv_at hl 0 rfl) ?_
  refine va_get (ci := 11) (v := .long z1.1) (C := RX11) (T := TX11) (N := 23) hx hb htT inlX11 hown hK hP 0 rfl rfl 18 (by decide) (htT _ q_26_4) (fun _ h9 => h9) rfl dX11_isStrip_7 ?_
  refine lv_aload_n hx hb dX11_isStrip_10 rfl (lv_at hl 0 rfl) ?_
  refine va_get (ci := 11) (v := .ref a_now) (C := RX11) (T := TX11) (N := 23) hx hb htT inlX11 hown hK hP 0 rfl rfl 0 (by decide) (htT _ q_7_0) (fun _ h9 => h9) rfl dX11_isStrip_11 ?_
  refine lv_iconst (v := (1 : Int32)) hx hb dX11_isStrip_14 rfl ?_
  obtain ⟨g2, h⟩ := gd h
  refine va_iald hx hb hK hP 1 1 rfl rfl (inB_in g2) dX11_isStrip_15 ?_
  refine lv_i2l hx hb dX11_isStrip_16 rfl ?_
  refine lv_aload_n hx hb dX11_isStrip_17 rfl (lv_at hl 0 rfl) ?_
  refine va_get (ci := 11) (v := .long z1.2) (C := RX11) (T := TX11) (N := 23) hx hb htT inlX11 hown hK hP 0 rfl rfl 19 (by decide) (htT _ q_26_5) (fun _ h9 => h9) rfl dX11_isStrip_18 ?_
  refine lv_lmul hx hb dX11_isStrip_21 ?_
  refine W.lcmp hx hb dX11_isStrip_22 ?_
  refine lv_if_gt (tgt := 30) hx hb dX11_isStrip_23 (by decide) (fun c3 => ?_) (fun c3 => ?_)
  · have h := ip c3 h
    refine lv_iconst (v := (0 : Int32)) hx hb dX11_isStrip_30 rfl ?_
    obtain rfl := Option.some.inj h
    exact hret _ _ _ _ _ hP hS dX11_isStrip_31 rfl rfl
  · have h := im c3 h
    refine lv_iconst (v := (1 : Int32)) hx hb dX11_isStrip_26 rfl ?_
    refine lv_goto (tgt := 31) hx hb dX11_isStrip_27 (by decide) ?_
    obtain rfl := Option.some.inj h
    exact hret _ _ _ _ _ hP hS dX11_isStrip_31 rfl rfl
set_option maxHeartbeats 4000000 in
set_option maxRecDepth 100000 in
theorem c_Mo_pieces (l : Launch) (D : va_G) (cC cI cZ : ClassId) (a_this : Nat) (a_now : Nat) (a_undos : Nat) (a_seen : Nat) (a_seenAs : Nat) (a_isKept : Nat) (a_kept : Nat) (a_text : Nat) (a_read : Nat) (a_fewest : Nat) (a_doors : Nat) (a_isSo : Nat) (v_undoMany : Int32) (v_undoAt : Int32) (v_seenMany : Int32) (v_letterMany : Int32) (v_readAt : Int32) (v_tokenAt : Int32) (v_token : Int32) (v_value : Int32) (v_faultAt : Int32) (v_readOnce : Int32) (v_greatUpper : Int64) (v_greatLower : Int64) (A_now : Nat → Int32) (A_undos : Nat → Int32) (A_seen : Nat → Int32) (A_seenAs : Nat → Int32) (A_isKept : Nat → Int32) (A_kept : Nat → Int32) (A_text : Nat → Int32) (A_read : Nat → Int32) (A_fewest : Nat → Int32) (A_doors : Nat → Int32) (A_isSo : Nat → Int32)  (sz : Nat) (z : Int32 × Int64 × Int64) (h : f_Mo_pieces v_greatUpper v_greatLower A_now = some z) : Met l yX11_pieces (.code yX11_pieces cX11_pieces 5 (some .int) :: TBL) (RM 4 85) (PcM [.ref a_this] sz D (TY cC cI cZ) (k_Mo cC cI cZ a_this a_now a_undos a_seen a_seenAs a_isKept a_kept a_text a_read a_fewest a_doors a_isSo v_undoMany v_undoAt v_seenMany v_letterMany v_readAt v_tokenAt v_token v_value v_faultAt v_readOnce v_greatUpper v_greatLower A_now A_undos A_seen A_seenAs A_isKept A_kept A_text A_read A_fewest A_doors A_isSo)) (fun a st o t => QM (some (.int z.1)) D (k_Mo cC cI cZ a_this a_now a_undos a_seen a_seenAs a_isKept a_kept a_text a_read a_fewest a_doors a_isSo v_undoMany v_undoAt v_seenMany v_letterMany v_readAt v_tokenAt v_token v_value v_faultAt v_readOnce z.2.1 z.2.2 A_now A_undos A_seen A_seenAs A_isKept A_kept A_text A_read A_fewest A_doors A_isSo) (va_A (k_Mo cC cI cZ a_this a_now a_undos a_seen a_seenAs a_isKept a_kept a_text a_read a_fewest a_doors a_isSo v_undoMany v_undoAt v_seenMany v_letterMany v_readAt v_tokenAt v_token v_value v_faultAt v_readOnce v_greatUpper v_greatLower A_now A_undos A_seen A_seenAs A_isKept A_kept A_text A_read A_fewest A_doors A_isSo) sz) a st o t ∧ narrow .int (.int z.1) = .int z.1) 0 0 (va_A (k_Mo cC cI cZ a_this a_now a_undos a_seen a_seenAs a_isKept a_kept a_text a_read a_fewest a_doors a_isSo v_undoMany v_undoAt v_seenMany v_letterMany v_readAt v_tokenAt v_token v_value v_faultAt v_readOnce v_greatUpper v_greatLower A_now A_undos A_seen A_seenAs A_isKept A_kept A_text A_read A_fewest A_doors A_isSo) sz) := by
  refine muOf (by decide) (Nat.le_of_ble_eq_true rfl) rfl ?_
  intro p e s m args below meth c Q ls A X hP hD hS hA hl hret
  have X : Ctx p s m args c cX11_pieces 5 RX11 D (TY cC cI cZ) := X
  obtain ⟨hx, hb, hml, hown, htT, hK, hN⟩ := id X
  unfold f_Mo_pieces at h
  refine lv_iconst (v := (0 : Int32)) hx hb dX11_pieces_0 rfl ?_
  refine lv_istore_n (lv' := [(1, .int (0 : Int32)), (0, .ref a_this)]) hx hb dX11_pieces_1 rfl hl (by decide) rfl (fun ls hl => ?_)
  refine lv_iconst (v := (0 : Int32)) hx hb dX11_pieces_2 rfl ?_
  refine lv_istore_n (lv' := [(2, .int (0 : Int32)), (1, .int (0 : Int32)), (0, .ref a_this)]) hx hb dX11_pieces_3 rfl hl (by decide) rfl (fun ls hl => ?_)
  refine lv_iconst (v := (0 : Int32)) hx hb dX11_pieces_4 rfl ?_
  refine lv_istore_n (lv' := [(3, .int (0 : Int32)), (2, .int (0 : Int32)), (1, .int (0 : Int32)), (0, .ref a_this)]) hx hb dX11_pieces_5 rfl hl (by decide) rfl (fun ls hl => ?_)
  have LP6 : ∀ (n : Nat) (y6_1 : Int32) (y6_2 : Int32) (y6_3 : Int32) (v_greatUpper_6 : Int64) (v_greatLower_6 : Int64) (zq6 : Int32 × Int64 × Int64), f_Mo_pieces_L6 A_now n y6_1 y6_2 y6_3 v_greatUpper_6 v_greatLower_6 = some zq6 → ∀ (H : Heap) (locs : List Loc) (ls : Array Slot), va_P D vwCl (k_Mo cC cI cZ a_this a_now a_undos a_seen a_seenAs a_isKept a_kept a_text a_read a_fewest a_doors a_isSo v_undoMany v_undoAt v_seenMany v_letterMany v_readAt v_tokenAt v_token v_value v_faultAt v_readOnce v_greatUpper_6 v_greatLower_6 A_now A_undos A_seen A_seenAs A_isKept A_kept A_text A_read A_fewest A_doors A_isSo) H → va_D A (k_Mo cC cI cZ a_this a_now a_undos a_seen a_seenAs a_isKept a_kept a_text a_read a_fewest a_doors a_isSo v_undoMany v_undoAt v_seenMany v_letterMany v_readAt v_tokenAt v_token v_value v_faultAt v_readOnce v_greatUpper_6 v_greatLower_6 A_now A_undos A_seen A_seenAs A_isKept A_kept A_text A_read A_fewest A_doors A_isSo) → va_S A s.heap H locs → lv_has ls 5 [(0, .ref a_this), (1, .int y6_1), (2, .int y6_2), (3, .int y6_3)] → (∀ (H : Heap) (locs : List Loc) (ls : Array Slot), va_P D vwCl (k_Mo cC cI cZ a_this a_now a_undos a_seen a_seenAs a_isKept a_kept a_text a_read a_fewest a_doors a_isSo v_undoMany v_undoAt v_seenMany v_letterMany v_readAt v_tokenAt v_token v_value v_faultAt v_readOnce zq6.2.1 zq6.2.2 A_now A_undos A_seen A_seenAs A_isKept A_kept A_text A_read A_fewest A_doors A_isSo) H → va_D A (k_Mo cC cI cZ a_this a_now a_undos a_seen a_seenAs a_isKept a_kept a_text a_read a_fewest a_doors a_isSo v_undoMany v_undoAt v_seenMany v_letterMany v_readAt v_tokenAt v_token v_value v_faultAt v_readOnce zq6.2.1 zq6.2.2 A_now A_undos A_seen A_seenAs A_isKept A_kept A_text A_read A_fewest A_doors A_isSo) → va_S A s.heap H locs → lv_has ls 5 [(1, .int zq6.1)] → W p l e (RM 4 85) s m args below meth c H locs 0 0 Q (F0 m 80 ls [])) → W p l e (RM 4 85) s m args below meth c H locs 0 0 Q (F0 m 6 ls []) := by
    clear h
    intro n
    induction n with
    | zero =>
      intro y6_1 y6_2 y6_3 v_greatUpper_6 v_greatLower_6 zq6 h
      rw [f_Mo_pieces_L6_0] at h
      cases h
    | succ n ih6 =>
      intro y6_1 y6_2 y6_3 v_greatUpper_6 v_greatLower_6 zq6 h H locs ls hP hD hS hl k6_0
      rw [f_Mo_pieces_L6_s] at h
      refine lv_iload_n hx hb dX11_pieces_6 rfl (lv_at hl 3 rfl) ?_
      refine lv_aload_n hx hb dX11_pieces_7 rfl (lv_at hl 0 rfl) ?_
      refine va_get (ci := 11) (v := .ref a_now) (C := RX11) (T := TX11) (N := 23) hx hb htT inlX11 hown hK hP 0 rfl rfl 0 (by decide) (htT _ q_7_0) (fun _ h9 => h9) rfl dX11_pieces_8 ?_
      refine lv_iconst (v := (0 : Int32)) hx hb dX11_pieces_11 rfl ?_
      obtain ⟨g2, h⟩ := gd h
      refine va_iald hx hb hK hP 1 1 rfl rfl (inB_in g2) dX11_pieces_12 ?_
      refine lv_icmp_ge (tgt := 80) hx hb dX11_pieces_13 (by decide) (fun c3 => ?_) (fun c3 => ?_)
      · have h := ip c3 h
        obtain rfl := Option.some.inj h
        exact k6_0 _ _ _ hP hD hS (lv_sub hl [1] rfl)
      · have h := im c3 h
        refine lv_aload_n hx hb dX11_pieces_16 rfl (lv_at hl 0 rfl) ?_
        refine lv_iload_n hx hb dX11_pieces_17 rfl (lv_at hl 3 rfl) ?_
        obtain ⟨r4, e4, h⟩ := bd h
        refine roV X [.int y6_3] [] (c_Mo_isKnown l D cC cI cZ a_this a_now a_undos a_seen a_seenAs a_isKept a_kept a_text a_read a_fewest a_doors a_isSo v_undoMany v_undoAt v_seenMany v_letterMany v_readAt v_tokenAt v_token v_value v_faultAt v_readOnce v_greatUpper_6 v_greatLower_6 A_now A_undos A_seen A_seenAs A_isKept A_kept A_text A_read A_fewest A_doors A_isSo y6_3 r4 e4) gg_X11_130 hd_Mo_isKnown ⟨rfl, rfl, Nat.le_of_ble_eq_true rfl, Nat.le_of_ble_eq_true rfl⟩ ⟨Nat.zero_le _, Nat.zero_le _⟩ hP [0, 1, 2, 3, 4, 5, 6, 7, 8, 9, 10, 11] rfl rfl rfl rfl hl.1 rfl (Nat.le_of_ble_eq_true rfl) dX11_pieces_18 (fun n4 => ?_)
        refine lv_if_eq (tgt := 74) hx hb dX11_pieces_21 (by decide) (fun c5 => ?_) (fun c5 => ?_)
        · have h := ip c5 h
          refine lv_iinc (v := (y6_3 + (1 : Int32))) (lv' := [(3, .int (y6_3 + (1 : Int32))), (0, .ref a_this), (1, .int y6_1), (2, .int y6_2)]) hx hb dX11_pieces_74 hl (k := 3) rfl rfl (by decide) rfl (fun ls hl => ?_)
          refine lv_goto (tgt := 6) hx hb dX11_pieces_77 (by decide) ?_
          exact ih6 y6_1 y6_2 (y6_3 + (1 : Int32)) v_greatUpper_6 v_greatLower_6 _ h _ _ _ hP hD hS (lv_sub hl [1, 2, 3, 0] rfl) k6_0
        · have h := im c5 h
          refine lv_aload_n hx hb dX11_pieces_24 rfl (lv_at hl 0 rfl) ?_
          refine lv_iload_n hx hb dX11_pieces_25 rfl (lv_at hl 3 rfl) ?_
          obtain ⟨r6, e6, h⟩ := bd h
          refine roV X [.int y6_3] [] (c_Mo_isFirst l D cC cI cZ a_this a_now a_undos a_seen a_seenAs a_isKept a_kept a_text a_read a_fewest a_doors a_isSo v_undoMany v_undoAt v_seenMany v_letterMany v_readAt v_tokenAt v_token v_value v_faultAt v_readOnce v_greatUpper_6 v_greatLower_6 A_now A_undos A_seen A_seenAs A_isKept A_kept A_text A_read A_fewest A_doors A_isSo y6_3 r6 e6) gg_X11_133 hd_Mo_isFirst ⟨rfl, rfl, Nat.le_of_ble_eq_true rfl, Nat.le_of_ble_eq_true rfl⟩ ⟨Nat.zero_le _, Nat.zero_le _⟩ hP [0, 1, 2, 3, 4, 5, 6, 7, 8, 9, 10, 11] rfl rfl rfl rfl hl.1 rfl (Nat.le_of_ble_eq_true rfl) dX11_pieces_26 (fun n6 => ?_)
          refine lv_if_ne (tgt := 41) hx hb dX11_pieces_29 (by decide) (fun c7 => ?_) (fun c7 => ?_)
          · have h := im c7 h
            refine lv_iconst (v := (1 : Int32)) hx hb dX11_pieces_41 rfl ?_
            refine lv_goto (tgt := 46) hx hb dX11_pieces_42 (by decide) ?_
            refine lv_istore (lv' := [(4, .int (1 : Int32)), (0, .ref a_this), (1, .int y6_1), (2, .int y6_2), (3, .int y6_3)]) hx hb dX11_pieces_46 hl (by decide) rfl (fun ls hl => ?_)
            refine lv_iload hx hb dX11_pieces_48 (lv_at hl 0 rfl) ?_
            refine lv_if_eq (tgt := 57) hx hb dX11_pieces_50 (by decide) (fun c14 => absurd c14 (by decide)) (fun _ => ?_)
            refine lv_iload_n hx hb dX11_pieces_53 rfl (lv_at hl 4 rfl) ?_
            refine lv_goto (tgt := 58) hx hb dX11_pieces_54 (by decide) ?_
            refine lv_istore_n (lv' := [(2, .int y6_3), (4, .int (1 : Int32)), (0, .ref a_this), (1, .int y6_1), (3, .int y6_3)]) hx hb dX11_pieces_58 rfl hl (by decide) rfl (fun ls hl => ?_)
            refine lv_iload_n hx hb dX11_pieces_59 rfl (lv_at hl 3 rfl) ?_
            refine lv_iload hx hb dX11_pieces_60 (lv_at hl 1 rfl) ?_
            refine lv_if_eq (tgt := 71) hx hb dX11_pieces_62 (by decide) (fun c15 => absurd c15 (by decide)) (fun _ => ?_)
            refine lv_iconst (v := (1 : Int32)) hx hb dX11_pieces_65 rfl ?_
            refine lv_iload_n hx hb dX11_pieces_66 rfl (lv_at hl 4 rfl) ?_
            refine lv_ishl hx hb dX11_pieces_67 ?_
            refine lv_goto (tgt := 72) hx hb dX11_pieces_68 (by decide) ?_
            refine lv_ior hx hb dX11_pieces_72 ?_
            refine lv_istore_n (lv' := [(1, .int (y6_1 ||| ((1 : Int32) <<< (y6_3 &&& 31)))), (2, .int y6_3), (4, .int (1 : Int32)), (0, .ref a_this), (3, .int y6_3)]) hx hb dX11_pieces_73 rfl hl (by decide) rfl (fun ls hl => ?_)
            refine lv_iinc (v := (y6_3 + (1 : Int32))) (lv' := [(3, .int (y6_3 + (1 : Int32))), (1, .int (y6_1 ||| ((1 : Int32) <<< (y6_3 &&& 31)))), (2, .int y6_3), (4, .int (1 : Int32)), (0, .ref a_this)]) hx hb dX11_pieces_74 hl (k := 4) rfl rfl (by decide) rfl (fun ls hl => ?_)
            refine lv_goto (tgt := 6) hx hb dX11_pieces_77 (by decide) ?_
            exact ih6 (y6_1 ||| ((1 : Int32) <<< (y6_3 &&& 31))) y6_3 (y6_3 + (1 : Int32)) v_greatUpper_6 v_greatLower_6 _ h _ _ _ hP hD hS (lv_sub hl [4, 1, 2, 0] rfl) k6_0
          · have h := ip c7 h
            refine lv_aload_n hx hb dX11_pieces_32 rfl (lv_at hl 0 rfl) ?_
            refine lv_iload_n hx hb dX11_pieces_33 rfl (lv_at hl 2 rfl) ?_
            refine lv_iload_n hx hb dX11_pieces_34 rfl (lv_at hl 3 rfl) ?_
            obtain ⟨z8, e8, h⟩ := bd h
            refine muV (ws' := (k_Mo cC cI cZ a_this a_now a_undos a_seen a_seenAs a_isKept a_kept a_text a_read a_fewest a_doors a_isSo v_undoMany v_undoAt v_seenMany v_letterMany v_readAt v_tokenAt v_token v_value v_faultAt v_readOnce z8.2.1 z8.2.2 A_now A_undos A_seen A_seenAs A_isKept A_kept A_text A_read A_fewest A_doors A_isSo)) X [.int y6_2, .int y6_3] [] (c_Mo_isStrip l D cC cI cZ a_this a_now a_undos a_seen a_seenAs a_isKept a_kept a_text a_read a_fewest a_doors a_isSo v_undoMany v_undoAt v_seenMany v_letterMany v_readAt v_tokenAt v_token v_value v_faultAt v_readOnce v_greatUpper_6 v_greatLower_6 A_now A_undos A_seen A_seenAs A_isKept A_kept A_text A_read A_fewest A_doors A_isSo y6_2 y6_3 _ z8 e8) gg_X11_169 hd_Mo_isStrip ⟨rfl, rfl, Nat.le_of_ble_eq_true rfl, Nat.le_of_ble_eq_true rfl⟩ ⟨Nat.zero_le _, Nat.zero_le _⟩ hP hD hS hA [0, 1, 2, 3, 4, 5, 6, 7, 8, 9, 10, 11] [] [0, 1, 2, 3, 4, 5, 6, 7, 8, 9, 10, 11] rfl rfl (by decide) (by decide) rfl rfl rfl rfl rfl hl.1 rfl (Nat.le_of_ble_eq_true rfl) dX11_pieces_35 (fun H locs hP hD hS n8 => ?_)
            refine lv_if_ne (tgt := 45) hx hb dX11_pieces_38 (by decide) (fun c9 => ?_) (fun c9 => ?_)
            · have h := im c9 h
              refine lv_iconst (v := (0 : Int32)) hx hb dX11_pieces_45 rfl ?_
              refine lv_istore (lv' := [(4, .int (0 : Int32)), (0, .ref a_this), (1, .int y6_1), (2, .int y6_2), (3, .int y6_3)]) hx hb dX11_pieces_46 hl (by decide) rfl (fun ls hl => ?_)
              refine lv_iload hx hb dX11_pieces_48 (lv_at hl 0 rfl) ?_
              refine lv_if_eq (tgt := 57) hx hb dX11_pieces_50 (by decide) (fun _ => ?_) (fun c12 => absurd (by decide) c12)
              refine lv_iload_n hx hb dX11_pieces_57 rfl (lv_at hl 3 rfl) ?_
              refine lv_istore_n (lv' := [(2, .int y6_2), (4, .int (0 : Int32)), (0, .ref a_this), (1, .int y6_1), (3, .int y6_3)]) hx hb dX11_pieces_58 rfl hl (by decide) rfl (fun ls hl => ?_)
              refine lv_iload_n hx hb dX11_pieces_59 rfl (lv_at hl 3 rfl) ?_
              refine lv_iload hx hb dX11_pieces_60 (lv_at hl 1 rfl) ?_
              refine lv_if_eq (tgt := 71) hx hb dX11_pieces_62 (by decide) (fun _ => ?_) (fun c13 => absurd (by decide) c13)
              refine lv_iconst (v := (0 : Int32)) hx hb dX11_pieces_71 rfl ?_
              refine lv_ior hx hb dX11_pieces_72 ?_
              refine lv_istore_n (lv' := [(1, .int (y6_1 ||| (0 : Int32))), (2, .int y6_2), (4, .int (0 : Int32)), (0, .ref a_this), (3, .int y6_3)]) hx hb dX11_pieces_73 rfl hl (by decide) rfl (fun ls hl => ?_)
              refine lv_iinc (v := (y6_3 + (1 : Int32))) (lv' := [(3, .int (y6_3 + (1 : Int32))), (1, .int (y6_1 ||| (0 : Int32))), (2, .int y6_2), (4, .int (0 : Int32)), (0, .ref a_this)]) hx hb dX11_pieces_74 hl (k := 4) rfl rfl (by decide) rfl (fun ls hl => ?_)
              refine lv_goto (tgt := 6) hx hb dX11_pieces_77 (by decide) ?_
              exact ih6 (y6_1 ||| (0 : Int32)) y6_2 (y6_3 + (1 : Int32)) z8.2.1 z8.2.2 _ h _ _ _ hP hD hS (lv_sub hl [4, 1, 2, 0] rfl) k6_0
            · have h := ip c9 h
              refine lv_iconst (v := (1 : Int32)) hx hb dX11_pieces_41 rfl ?_
              refine lv_goto (tgt := 46) hx hb dX11_pieces_42 (by decide) ?_
              refine lv_istore (lv' := [(4, .int (1 : Int32)), (0, .ref a_this), (1, .int y6_1), (2, .int y6_2), (3, .int y6_3)]) hx hb dX11_pieces_46 hl (by decide) rfl (fun ls hl => ?_)
              refine lv_iload hx hb dX11_pieces_48 (lv_at hl 0 rfl) ?_
              refine lv_if_eq (tgt := 57) hx hb dX11_pieces_50 (by decide) (fun c10 => absurd c10 (by decide)) (fun _ => ?_)
              refine lv_iload_n hx hb dX11_pieces_53 rfl (lv_at hl 4 rfl) ?_
              refine lv_goto (tgt := 58) hx hb dX11_pieces_54 (by decide) ?_
              refine lv_istore_n (lv' := [(2, .int y6_3), (4, .int (1 : Int32)), (0, .ref a_this), (1, .int y6_1), (3, .int y6_3)]) hx hb dX11_pieces_58 rfl hl (by decide) rfl (fun ls hl => ?_)
              refine lv_iload_n hx hb dX11_pieces_59 rfl (lv_at hl 3 rfl) ?_
              refine lv_iload hx hb dX11_pieces_60 (lv_at hl 1 rfl) ?_
              refine lv_if_eq (tgt := 71) hx hb dX11_pieces_62 (by decide) (fun c11 => absurd c11 (by decide)) (fun _ => ?_)
              refine lv_iconst (v := (1 : Int32)) hx hb dX11_pieces_65 rfl ?_
              refine lv_iload_n hx hb dX11_pieces_66 rfl (lv_at hl 4 rfl) ?_
              refine lv_ishl hx hb dX11_pieces_67 ?_
              refine lv_goto (tgt := 72) hx hb dX11_pieces_68 (by decide) ?_
              refine lv_ior hx hb dX11_pieces_72 ?_
              refine lv_istore_n (lv' := [(1, .int (y6_1 ||| ((1 : Int32) <<< (y6_3 &&& 31)))), (2, .int y6_3), (4, .int (1 : Int32)), (0, .ref a_this), (3, .int y6_3)]) hx hb dX11_pieces_73 rfl hl (by decide) rfl (fun ls hl => ?_)
              refine lv_iinc (v := (y6_3 + (1 : Int32))) (lv' := [(3, .int (y6_3 + (1 : Int32))), (1, .int (y6_1 ||| ((1 : Int32) <<< (y6_3 &&& 31)))), (2, .int y6_3), (4, .int (1 : Int32)), (0, .ref a_this)]) hx hb dX11_pieces_74 hl (k := 4) rfl rfl (by decide) rfl (fun ls hl => ?_)
              refine lv_goto (tgt := 6) hx hb dX11_pieces_77 (by decide) ?_
              exact ih6 (y6_1 ||| ((1 : Int32) <<< (y6_3 &&& 31))) y6_3 (y6_3 + (1 : Int32)) z8.2.1 z8.2.2 _ h _ _ _ hP hD hS (lv_sub hl [4, 1, 2, 0] rfl) k6_0
  obtain ⟨z1, e1, h⟩ := bd h
  refine LP6 fu (0 : Int32) (0 : Int32) (0 : Int32) v_greatUpper v_greatLower z1 e1 _ _ _ hP hD hS (lv_sub hl [3, 2, 1, 0] rfl) ?_
  intro H locs ls hP hD hS hl
  refine lv_iload_n hx hb dX11_pieces_80 rfl (lv_at hl 0 rfl) ?_
  obtain rfl := Option.some.inj h
  exact hret _ _ _ _ _ hP hS dX11_pieces_81 rfl rfl
set_option maxHeartbeats 4000000 in
set_option maxRecDepth 100000 in
theorem c_Mo_least (l : Launch) (D : va_G) (cC cI cZ : ClassId) (a_this : Nat) (a_now : Nat) (a_undos : Nat) (a_seen : Nat) (a_seenAs : Nat) (a_isKept : Nat) (a_kept : Nat) (a_text : Nat) (a_read : Nat) (a_fewest : Nat) (a_doors : Nat) (a_isSo : Nat) (v_undoMany : Int32) (v_undoAt : Int32) (v_seenMany : Int32) (v_letterMany : Int32) (v_readAt : Int32) (v_tokenAt : Int32) (v_token : Int32) (v_value : Int32) (v_faultAt : Int32) (v_readOnce : Int32) (v_greatUpper : Int64) (v_greatLower : Int64) (A_now : Nat → Int32) (A_undos : Nat → Int32) (A_seen : Nat → Int32) (A_seenAs : Nat → Int32) (A_isKept : Nat → Int32) (A_kept : Nat → Int32) (A_text : Nat → Int32) (A_read : Nat → Int32) (A_fewest : Nat → Int32) (A_doors : Nat → Int32) (A_isSo : Nat → Int32)  (sz : Nat) (z : Int32 × (Nat → Int32)) (h : f_Mo_least A_now A_fewest = some z) : Met l yX11_least (.code yX11_least cX11_least 5 (some .int) :: TBL) (RM 4 85) (PcM [.ref a_this] sz D (TY cC cI cZ) (k_Mo cC cI cZ a_this a_now a_undos a_seen a_seenAs a_isKept a_kept a_text a_read a_fewest a_doors a_isSo v_undoMany v_undoAt v_seenMany v_letterMany v_readAt v_tokenAt v_token v_value v_faultAt v_readOnce v_greatUpper v_greatLower A_now A_undos A_seen A_seenAs A_isKept A_kept A_text A_read A_fewest A_doors A_isSo)) (fun a st o t => QM (some (.int z.1)) D (k_Mo cC cI cZ a_this a_now a_undos a_seen a_seenAs a_isKept a_kept a_text a_read a_fewest a_doors a_isSo v_undoMany v_undoAt v_seenMany v_letterMany v_readAt v_tokenAt v_token v_value v_faultAt v_readOnce v_greatUpper v_greatLower A_now A_undos A_seen A_seenAs A_isKept A_kept A_text A_read z.2 A_doors A_isSo) (va_A (k_Mo cC cI cZ a_this a_now a_undos a_seen a_seenAs a_isKept a_kept a_text a_read a_fewest a_doors a_isSo v_undoMany v_undoAt v_seenMany v_letterMany v_readAt v_tokenAt v_token v_value v_faultAt v_readOnce v_greatUpper v_greatLower A_now A_undos A_seen A_seenAs A_isKept A_kept A_text A_read A_fewest A_doors A_isSo) sz) a st o t ∧ narrow .int (.int z.1) = .int z.1) 0 0 (va_A (k_Mo cC cI cZ a_this a_now a_undos a_seen a_seenAs a_isKept a_kept a_text a_read a_fewest a_doors a_isSo v_undoMany v_undoAt v_seenMany v_letterMany v_readAt v_tokenAt v_token v_value v_faultAt v_readOnce v_greatUpper v_greatLower A_now A_undos A_seen A_seenAs A_isKept A_kept A_text A_read A_fewest A_doors A_isSo) sz) := by
  refine muOf (by decide) (Nat.le_of_ble_eq_true rfl) rfl ?_
  intro p e s m args below meth c Q ls A X hP hD hS hA hl hret
  have X : Ctx p s m args c cX11_least 5 RX11 D (TY cC cI cZ) := X
  obtain ⟨hx, hb, hml, hown, htT, hK, hN⟩ := id X
  unfold f_Mo_least at h
  refine lv_iconst (v := (0 : Int32)) hx hb dX11_least_0 rfl ?_
  refine lv_istore_n (lv' := [(1, .int (0 : Int32)), (0, .ref a_this)]) hx hb dX11_least_1 rfl hl (by decide) rfl (fun ls hl => ?_)
  refine lv_aload_n hx hb dX11_least_2 rfl (lv_at hl 1 rfl) ?_
  refine va_get (ci := 11) (v := .ref a_now) (C := RX11) (T := TX11) (N := 23) hx hb htT inlX11 hown hK hP 0 rfl rfl 0 (by decide) (htT _ q_7_0) (fun _ h9 => h9) rfl dX11_least_3 ?_
  refine lv_iconst (v := (0 : Int32)) hx hb dX11_least_6 rfl ?_
  obtain ⟨g1, h⟩ := gd h
  refine va_iald hx hb hK hP 1 1 rfl rfl (inB_in g1) dX11_least_7 ?_
  refine lv_iconst (v := (1 : Int32)) hx hb dX11_least_8 rfl ?_
  refine lv_isub hx hb dX11_least_9 ?_
  refine lv_istore_n (lv' := [(2, .int ((A_now ((0 : Int32)).toNatClampNeg) - (1 : Int32))), (1, .int (0 : Int32)), (0, .ref a_this)]) hx hb dX11_least_10 rfl hl (by decide) rfl (fun ls hl => ?_)
  have LP11 : ∀ (n : Nat) (y11_2 : Int32) (A_fewest_11 : Nat → Int32) (zq11 : (Nat → Int32)), f_Mo_least_L11 (0 : Int32) A_now n y11_2 A_fewest_11 = some zq11 → ∀ (H : Heap) (locs : List Loc) (ls : Array Slot), va_P D vwCl (k_Mo cC cI cZ a_this a_now a_undos a_seen a_seenAs a_isKept a_kept a_text a_read a_fewest a_doors a_isSo v_undoMany v_undoAt v_seenMany v_letterMany v_readAt v_tokenAt v_token v_value v_faultAt v_readOnce v_greatUpper v_greatLower A_now A_undos A_seen A_seenAs A_isKept A_kept A_text A_read A_fewest_11 A_doors A_isSo) H → va_D A (k_Mo cC cI cZ a_this a_now a_undos a_seen a_seenAs a_isKept a_kept a_text a_read a_fewest a_doors a_isSo v_undoMany v_undoAt v_seenMany v_letterMany v_readAt v_tokenAt v_token v_value v_faultAt v_readOnce v_greatUpper v_greatLower A_now A_undos A_seen A_seenAs A_isKept A_kept A_text A_read A_fewest_11 A_doors A_isSo) → va_S A s.heap H locs → lv_has ls 5 [(0, .ref a_this), (1, .int (0 : Int32)), (2, .int y11_2)] → (∀ (H : Heap) (locs : List Loc) (ls : Array Slot), va_P D vwCl (k_Mo cC cI cZ a_this a_now a_undos a_seen a_seenAs a_isKept a_kept a_text a_read a_fewest a_doors a_isSo v_undoMany v_undoAt v_seenMany v_letterMany v_readAt v_tokenAt v_token v_value v_faultAt v_readOnce v_greatUpper v_greatLower A_now A_undos A_seen A_seenAs A_isKept A_kept A_text A_read zq11 A_doors A_isSo) H → va_D A (k_Mo cC cI cZ a_this a_now a_undos a_seen a_seenAs a_isKept a_kept a_text a_read a_fewest a_doors a_isSo v_undoMany v_undoAt v_seenMany v_letterMany v_readAt v_tokenAt v_token v_value v_faultAt v_readOnce v_greatUpper v_greatLower A_now A_undos A_seen A_seenAs A_isKept A_kept A_text A_read zq11 A_doors A_isSo) → va_S A s.heap H locs → lv_has ls 5 [(0, .ref a_this), (1, .int (0 : Int32))] → W p l e (RM 4 85) s m args below meth c H locs 0 0 Q (F0 m 150 ls [])) → W p l e (RM 4 85) s m args below meth c H locs 0 0 Q (F0 m 11 ls []) := by
    clear h
    intro n
    induction n with
    | zero =>
      intro y11_2 A_fewest_11 zq11 h
      rw [f_Mo_least_L11_0] at h
      cases h
    | succ n ih11 =>
      intro y11_2 A_fewest_11 zq11 h H locs ls hP hD hS hl k11_0
      rw [f_Mo_least_L11_s] at h
      refine lv_iload_n hx hb dX11_least_11 rfl (lv_at hl 2 rfl) ?_
      refine lv_if_lt (tgt := 150) hx hb dX11_least_12 (by decide) (fun c3 => ?_) (fun c3 => ?_)
      · have h := ip c3 h
        obtain rfl := Option.some.inj h
        exact k11_0 _ _ _ hP hD hS (lv_sub hl [0, 1] rfl)
      · have h := im c3 h
        refine lv_aload_n hx hb dX11_least_15 rfl (lv_at hl 0 rfl) ?_
        refine va_get (ci := 11) (v := .ref a_fewest) (C := RX11) (T := TX11) (N := 23) hx hb htT inlX11 hown hK hP 0 rfl rfl 20 (by decide) (htT _ q_7_9) (fun _ h9 => h9) rfl dX11_least_16 ?_
        refine lv_iload_n hx hb dX11_least_19 rfl (lv_at hl 2 rfl) ?_
        refine lv_iconst (v := (1 : Int32)) hx hb dX11_least_20 rfl ?_
        obtain ⟨g4, h⟩ := gd h
        refine va_iast hx hb hK hP hD hS 9 1 rfl rfl (inB_in g4) dX11_least_21 (fun H locs hP hD hS => ?_)
        have hP : va_P D vwCl (k_Mo cC cI cZ a_this a_now a_undos a_seen a_seenAs a_isKept a_kept a_text a_read a_fewest a_doors a_isSo v_undoMany v_undoAt v_seenMany v_letterMany v_readAt v_tokenAt v_token v_value v_faultAt v_readOnce v_greatUpper v_greatLower A_now A_undos A_seen A_seenAs A_isKept A_kept A_text A_read (upd A_fewest_11 (y11_2).toNatClampNeg (1 : Int32)) A_doors A_isSo) H := hP
        have hD : va_D A (k_Mo cC cI cZ a_this a_now a_undos a_seen a_seenAs a_isKept a_kept a_text a_read a_fewest a_doors a_isSo v_undoMany v_undoAt v_seenMany v_letterMany v_readAt v_tokenAt v_token v_value v_faultAt v_readOnce v_greatUpper v_greatLower A_now A_undos A_seen A_seenAs A_isKept A_kept A_text A_read (upd A_fewest_11 (y11_2).toNatClampNeg (1 : Int32)) A_doors A_isSo) := hD
        refine lv_aload_n hx hb dX11_least_22 rfl (lv_at hl 0 rfl) ?_
        refine lv_iload_n hx hb dX11_least_23 rfl (lv_at hl 2 rfl) ?_
        obtain ⟨r5, e5, h⟩ := bd h
        refine roV X [.int y11_2] [] (c_Mo_isKnown l D cC cI cZ a_this a_now a_undos a_seen a_seenAs a_isKept a_kept a_text a_read a_fewest a_doors a_isSo v_undoMany v_undoAt v_seenMany v_letterMany v_readAt v_tokenAt v_token v_value v_faultAt v_readOnce v_greatUpper v_greatLower A_now A_undos A_seen A_seenAs A_isKept A_kept A_text A_read (upd A_fewest_11 (y11_2).toNatClampNeg (1 : Int32)) A_doors A_isSo y11_2 r5 e5) gg_X11_130 hd_Mo_isKnown ⟨rfl, rfl, Nat.le_of_ble_eq_true rfl, Nat.le_of_ble_eq_true rfl⟩ ⟨Nat.zero_le _, Nat.zero_le _⟩ hP [0, 1, 2, 3, 4, 5, 6, 7, 8, 9, 10, 11] rfl rfl rfl rfl hl.1 rfl (Nat.le_of_ble_eq_true rfl) dX11_least_24 (fun n5 => ?_)
        refine lv_if_eq (tgt := 144) hx hb dX11_least_27 (by decide) (fun c6 => ?_) (fun c6 => ?_)
        · have h := ip c6 h
          refine lv_iinc (v := (y11_2 + (-1 : Int32))) (lv' := [(2, .int (y11_2 + (-1 : Int32))), (0, .ref a_this), (1, .int (0 : Int32))]) hx hb dX11_least_144 hl (k := 2) rfl rfl (by decide) rfl (fun ls hl => ?_)
          refine lv_goto (tgt := 11) hx hb dX11_least_147 (by decide) ?_
          exact ih11 (y11_2 + (-1 : Int32)) (upd A_fewest_11 (y11_2).toNatClampNeg (1 : Int32)) _ h _ _ _ hP hD hS (lv_sub hl [1, 2, 0] rfl) k11_0
        · have h := im c6 h
          refine lv_aload_n hx hb dX11_least_30 rfl (lv_at hl 0 rfl) ?_
          refine lv_iload_n hx hb dX11_least_31 rfl (lv_at hl 2 rfl) ?_
          obtain ⟨r7, e7, h⟩ := bd h
          refine roV X [.int y11_2] [] (c_Mo_isLast l D cC cI cZ a_this a_now a_undos a_seen a_seenAs a_isKept a_kept a_text a_read a_fewest a_doors a_isSo v_undoMany v_undoAt v_seenMany v_letterMany v_readAt v_tokenAt v_token v_value v_faultAt v_readOnce v_greatUpper v_greatLower A_now A_undos A_seen A_seenAs A_isKept A_kept A_text A_read (upd A_fewest_11 (y11_2).toNatClampNeg (1 : Int32)) A_doors A_isSo y11_2 r7 e7) gg_X11_140 hd_Mo_isLast ⟨rfl, rfl, Nat.le_of_ble_eq_true rfl, Nat.le_of_ble_eq_true rfl⟩ ⟨Nat.zero_le _, Nat.zero_le _⟩ hP [0, 1, 2, 3, 4, 5, 6, 7, 8, 9, 10, 11] rfl rfl rfl rfl hl.1 rfl (Nat.le_of_ble_eq_true rfl) dX11_least_32 (fun n7 => ?_)
          refine lv_if_ne (tgt := 144) hx hb dX11_least_35 (by decide) (fun c8 => ?_) (fun c8 => ?_)
          · have h := im c8 h
            refine lv_iinc (v := (y11_2 + (-1 : Int32))) (lv' := [(2, .int (y11_2 + (-1 : Int32))), (0, .ref a_this), (1, .int (0 : Int32))]) hx hb dX11_least_144 hl (k := 2) rfl rfl (by decide) rfl (fun ls hl => ?_)
            refine lv_goto (tgt := 11) hx hb dX11_least_147 (by decide) ?_
            exact ih11 (y11_2 + (-1 : Int32)) (upd A_fewest_11 (y11_2).toNatClampNeg (1 : Int32)) _ h _ _ _ hP hD hS (lv_sub hl [1, 2, 0] rfl) k11_0
          · have h := ip c8 h
            refine lv_aload_n hx hb dX11_least_38 rfl (lv_at hl 0 rfl) ?_
            refine va_get (ci := 11) (v := .ref a_fewest) (C := RX11) (T := TX11) (N := 23) hx hb htT inlX11 hown hK hP 0 rfl rfl 20 (by decide) (htT _ q_7_9) (fun _ h9 => h9) rfl dX11_least_39 ?_
            refine lv_iload_n hx hb dX11_least_42 rfl (lv_at hl 2 rfl) ?_
            refine lv_bipush (v := (15 : Int32)) hx hb dX11_least_43 rfl ?_
            obtain ⟨g9, h⟩ := gd h
            refine va_iast hx hb hK hP hD hS 9 1 rfl rfl (inB_in g9) dX11_least_45 (fun H locs hP hD hS => ?_)
            have hP : va_P D vwCl (k_Mo cC cI cZ a_this a_now a_undos a_seen a_seenAs a_isKept a_kept a_text a_read a_fewest a_doors a_isSo v_undoMany v_undoAt v_seenMany v_letterMany v_readAt v_tokenAt v_token v_value v_faultAt v_readOnce v_greatUpper v_greatLower A_now A_undos A_seen A_seenAs A_isKept A_kept A_text A_read (upd (upd A_fewest_11 (y11_2).toNatClampNeg (1 : Int32)) (y11_2).toNatClampNeg (15 : Int32)) A_doors A_isSo) H := hP
            have hD : va_D A (k_Mo cC cI cZ a_this a_now a_undos a_seen a_seenAs a_isKept a_kept a_text a_read a_fewest a_doors a_isSo v_undoMany v_undoAt v_seenMany v_letterMany v_readAt v_tokenAt v_token v_value v_faultAt v_readOnce v_greatUpper v_greatLower A_now A_undos A_seen A_seenAs A_isKept A_kept A_text A_read (upd (upd A_fewest_11 (y11_2).toNatClampNeg (1 : Int32)) (y11_2).toNatClampNeg (15 : Int32)) A_doors A_isSo) := hD
            refine lv_iload_n hx hb dX11_least_46 rfl (lv_at hl 2 rfl) ?_
            refine lv_iconst (v := (1 : Int32)) hx hb dX11_least_47 rfl ?_
            refine lv_iadd hx hb dX11_least_48 ?_
            refine lv_istore_n (lv' := [(3, .int (y11_2 + (1 : Int32))), (0, .ref a_this), (1, .int (0 : Int32)), (2, .int y11_2)]) hx hb dX11_least_49 rfl hl (by decide) rfl (fun ls hl => ?_)
            have LP50 : ∀ (n : Nat) (y50_3 : Int32) (A_fewest_50 : Nat → Int32) (zq50 : Nat × (Nat → Int32)), f_Mo_least_L50 (0 : Int32) y11_2 A_now n y50_3 A_fewest_50 = some zq50 → ∀ (H : Heap) (locs : List Loc) (ls : Array Slot), va_P D vwCl (k_Mo cC cI cZ a_this a_now a_undos a_seen a_seenAs a_isKept a_kept a_text a_read a_fewest a_doors a_isSo v_undoMany v_undoAt v_seenMany v_letterMany v_readAt v_tokenAt v_token v_value v_faultAt v_readOnce v_greatUpper v_greatLower A_now A_undos A_seen A_seenAs A_isKept A_kept A_text A_read A_fewest_50 A_doors A_isSo) H → va_D A (k_Mo cC cI cZ a_this a_now a_undos a_seen a_seenAs a_isKept a_kept a_text a_read a_fewest a_doors a_isSo v_undoMany v_undoAt v_seenMany v_letterMany v_readAt v_tokenAt v_token v_value v_faultAt v_readOnce v_greatUpper v_greatLower A_now A_undos A_seen A_seenAs A_isKept A_kept A_text A_read A_fewest_50 A_doors A_isSo) → va_S A s.heap H locs → lv_has ls 5 [(0, .ref a_this), (1, .int (0 : Int32)), (2, .int y11_2), (3, .int y50_3)] → (zq50.1 = 0 → ∀ (H : Heap) (locs : List Loc) (ls : Array Slot), va_P D vwCl (k_Mo cC cI cZ a_this a_now a_undos a_seen a_seenAs a_isKept a_kept a_text a_read a_fewest a_doors a_isSo v_undoMany v_undoAt v_seenMany v_letterMany v_readAt v_tokenAt v_token v_value v_faultAt v_readOnce v_greatUpper v_greatLower A_now A_undos A_seen A_seenAs A_isKept A_kept A_text A_read zq50.2 A_doors A_isSo) H → va_D A (k_Mo cC cI cZ a_this a_now a_undos a_seen a_seenAs a_isKept a_kept a_text a_read a_fewest a_doors a_isSo v_undoMany v_undoAt v_seenMany v_letterMany v_readAt v_tokenAt v_token v_value v_faultAt v_readOnce v_greatUpper v_greatLower A_now A_undos A_seen A_seenAs A_isKept A_kept A_text A_read zq50.2 A_doors A_isSo) → va_S A s.heap H locs → lv_has ls 5 [(0, .ref a_this), (1, .int (0 : Int32)), (2, .int y11_2)] → W p l e (RM 4 85) s m args below meth c H locs 0 0 Q (F0 m 135 ls [])) → (zq50.1 = 1 → ∀ (H : Heap) (locs : List Loc) (ls : Array Slot), va_P D vwCl (k_Mo cC cI cZ a_this a_now a_undos a_seen a_seenAs a_isKept a_kept a_text a_read a_fewest a_doors a_isSo v_undoMany v_undoAt v_seenMany v_letterMany v_readAt v_tokenAt v_token v_value v_faultAt v_readOnce v_greatUpper v_greatLower A_now A_undos A_seen A_seenAs A_isKept A_kept A_text A_read zq50.2 A_doors A_isSo) H → va_D A (k_Mo cC cI cZ a_this a_now a_undos a_seen a_seenAs a_isKept a_kept a_text a_read a_fewest a_doors a_isSo v_undoMany v_undoAt v_seenMany v_letterMany v_readAt v_tokenAt v_token v_value v_faultAt v_readOnce v_greatUpper v_greatLower A_now A_undos A_seen A_seenAs A_isKept A_kept A_text A_read zq50.2 A_doors A_isSo) → va_S A s.heap H locs → lv_has ls 5 [(0, .ref a_this), (1, .int (0 : Int32)), (2, .int y11_2)] → W p l e (RM 4 85) s m args below meth c H locs 0 0 Q (F0 m 144 ls [])) → W p l e (RM 4 85) s m args below meth c H locs 0 0 Q (F0 m 50 ls []) := by
              clear h
              intro n
              induction n with
              | zero =>
                intro y50_3 A_fewest_50 zq50 h
                rw [f_Mo_least_L50_0] at h
                cases h
              | succ n ih50 =>
                intro y50_3 A_fewest_50 zq50 h H locs ls hP hD hS hl k50_0 k50_1
                rw [f_Mo_least_L50_s] at h
                refine lv_aload_n hx hb dX11_least_50 rfl (lv_at hl 0 rfl) ?_
                refine lv_iload_n hx hb dX11_least_51 rfl (lv_at hl 3 rfl) ?_
                obtain ⟨r11, e11, h⟩ := bd h
                refine roV X [.int y50_3] [] (c_Mo_isKnown l D cC cI cZ a_this a_now a_undos a_seen a_seenAs a_isKept a_kept a_text a_read a_fewest a_doors a_isSo v_undoMany v_undoAt v_seenMany v_letterMany v_readAt v_tokenAt v_token v_value v_faultAt v_readOnce v_greatUpper v_greatLower A_now A_undos A_seen A_seenAs A_isKept A_kept A_text A_read A_fewest_50 A_doors A_isSo y50_3 r11 e11) gg_X11_130 hd_Mo_isKnown ⟨rfl, rfl, Nat.le_of_ble_eq_true rfl, Nat.le_of_ble_eq_true rfl⟩ ⟨Nat.zero_le _, Nat.zero_le _⟩ hP [0, 1, 2, 3, 4, 5, 6, 7, 8, 9, 10, 11] rfl rfl rfl rfl hl.1 rfl (Nat.le_of_ble_eq_true rfl) dX11_least_52 (fun n11 => ?_)
                refine lv_if_eq (tgt := 144) hx hb dX11_least_55 (by decide) (fun c12 => ?_) (fun c12 => ?_)
                · have h := ip c12 h
                  obtain rfl := Option.some.inj h
                  exact k50_1 rfl _ _ _ hP hD hS (lv_sub hl [0, 1, 2] rfl)
                · have h := im c12 h
                  refine lv_aload_n hx hb dX11_least_58 rfl (lv_at hl 0 rfl) ?_
                  refine lv_iload_n hx hb dX11_least_59 rfl (lv_at hl 2 rfl) ?_
                  refine lv_iload_n hx hb dX11_least_60 rfl (lv_at hl 3 rfl) ?_
                  refine lv_aload_n hx hb dX11_least_61 rfl (lv_at hl 0 rfl) ?_
                  refine va_get (ci := 11) (v := .ref a_now) (C := RX11) (T := TX11) (N := 23) hx hb htT inlX11 hown hK hP 0 rfl rfl 0 (by decide) (htT _ q_7_0) (fun _ h9 => h9) rfl dX11_least_62 ?_
                  refine lv_iconst (v := (1 : Int32)) hx hb dX11_least_65 rfl ?_
                  obtain ⟨g13, h⟩ := gd h
                  refine va_iald hx hb hK hP 1 1 rfl rfl (inB_in g13) dX11_least_66 ?_
                  obtain ⟨r14, e14, h⟩ := bd h
                  refine roV X [.int y11_2, .int y50_3, .int (A_now ((1 : Int32)).toNatClampNeg)] [] (c_Mo_whyNot l D cC cI cZ a_this a_now a_undos a_seen a_seenAs a_isKept a_kept a_text a_read a_fewest a_doors a_isSo v_undoMany v_undoAt v_seenMany v_letterMany v_readAt v_tokenAt v_token v_value v_faultAt v_readOnce v_greatUpper v_greatLower A_now A_undos A_seen A_seenAs A_isKept A_kept A_text A_read A_fewest_50 A_doors A_isSo y11_2 y50_3 (A_now ((1 : Int32)).toNatClampNeg) r14 e14) gg_X11_143 hd_Mo_whyNot ⟨rfl, rfl, Nat.le_of_ble_eq_true rfl, Nat.le_of_ble_eq_true rfl⟩ ⟨Nat.zero_le _, Nat.zero_le _⟩ hP [0, 1, 2, 3, 4, 5, 6, 7, 8, 9, 10, 11] rfl rfl rfl rfl hl.1 rfl (Nat.le_of_ble_eq_true rfl) dX11_least_67 (fun n14 => ?_)
                  refine lv_bipush (v := (-9 : Int32)) hx hb dX11_least_70 rfl ?_
                  refine lv_icmp_ne (tgt := 96) hx hb dX11_least_72 (by decide) (fun c15 => ?_) (fun c15 => ?_)
                  · have h := im c15 h
                    refine lv_iconst (v := (0 : Int32)) hx hb dX11_least_96 rfl ?_
                    refine lv_istore (lv' := [(4, .int (0 : Int32)), (0, .ref a_this), (1, .int (0 : Int32)), (2, .int y11_2), (3, .int y50_3)]) hx hb dX11_least_97 hl (by decide) rfl (fun ls hl => ?_)
                    refine lv_aload_n hx hb dX11_least_99 rfl (lv_at hl 1 rfl) ?_
                    refine va_get (ci := 11) (v := .ref a_fewest) (C := RX11) (T := TX11) (N := 23) hx hb htT inlX11 hown hK hP 0 rfl rfl 20 (by decide) (htT _ q_7_9) (fun _ h9 => h9) rfl dX11_least_100 ?_
                    refine lv_iload_n hx hb dX11_least_103 rfl (lv_at hl 3 rfl) ?_
                    refine lv_iload hx hb dX11_least_104 (lv_at hl 0 rfl) ?_
                    refine lv_if_eq (tgt := 120) hx hb dX11_least_106 (by decide) (fun _ => ?_) (fun c29 => absurd (by decide) c29)
                    refine lv_aload_n hx hb dX11_least_120 rfl (lv_at hl 1 rfl) ?_
                    refine va_get (ci := 11) (v := .ref a_fewest) (C := RX11) (T := TX11) (N := 23) hx hb htT inlX11 hown hK hP 0 rfl rfl 20 (by decide) (htT _ q_7_9) (fun _ h9 => h9) rfl dX11_least_121 ?_
                    refine lv_iload_n hx hb dX11_least_124 rfl (lv_at hl 3 rfl) ?_
                    obtain ⟨g30, h⟩ := gd h
                    refine va_iald hx hb hK hP 9 1 rfl rfl (inB_in g30) dX11_least_125 ?_
                    obtain ⟨g31, h⟩ := gd h
                    refine va_iast hx hb hK hP hD hS 9 1 rfl rfl (inB_in g31) dX11_least_126 (fun H locs hP hD hS => ?_)
                    have hP : va_P D vwCl (k_Mo cC cI cZ a_this a_now a_undos a_seen a_seenAs a_isKept a_kept a_text a_read a_fewest a_doors a_isSo v_undoMany v_undoAt v_seenMany v_letterMany v_readAt v_tokenAt v_token v_value v_faultAt v_readOnce v_greatUpper v_greatLower A_now A_undos A_seen A_seenAs A_isKept A_kept A_text A_read (upd A_fewest_50 (y11_2).toNatClampNeg (A_fewest_50 (y11_2).toNatClampNeg)) A_doors A_isSo) H := hP
                    have hD : va_D A (k_Mo cC cI cZ a_this a_now a_undos a_seen a_seenAs a_isKept a_kept a_text a_read a_fewest a_doors a_isSo v_undoMany v_undoAt v_seenMany v_letterMany v_readAt v_tokenAt v_token v_value v_faultAt v_readOnce v_greatUpper v_greatLower A_now A_undos A_seen A_seenAs A_isKept A_kept A_text A_read (upd A_fewest_50 (y11_2).toNatClampNeg (A_fewest_50 (y11_2).toNatClampNeg)) A_doors A_isSo) := hD
                    refine lv_aload_n hx hb dX11_least_127 rfl (lv_at hl 1 rfl) ?_
                    refine lv_iload_n hx hb dX11_least_128 rfl (lv_at hl 4 rfl) ?_
                    obtain ⟨r32, e32, h⟩ := bd h
                    refine roV X [.int y50_3] [] (c_Mo_isLast l D cC cI cZ a_this a_now a_undos a_seen a_seenAs a_isKept a_kept a_text a_read a_fewest a_doors a_isSo v_undoMany v_undoAt v_seenMany v_letterMany v_readAt v_tokenAt v_token v_value v_faultAt v_readOnce v_greatUpper v_greatLower A_now A_undos A_seen A_seenAs A_isKept A_kept A_text A_read (upd A_fewest_50 (y11_2).toNatClampNeg (A_fewest_50 (y11_2).toNatClampNeg)) A_doors A_isSo y50_3 r32 e32) gg_X11_140 hd_Mo_isLast ⟨rfl, rfl, Nat.le_of_ble_eq_true rfl, Nat.le_of_ble_eq_true rfl⟩ ⟨Nat.zero_le _, Nat.zero_le _⟩ hP [0, 1, 2, 3, 4, 5, 6, 7, 8, 9, 10, 11] rfl rfl rfl rfl hl.1 rfl (Nat.le_of_ble_eq_true rfl) dX11_least_129 (fun n32 => ?_)
                    refine lv_if_eq (tgt := 138) hx hb dX11_least_132 (by decide) (fun c33 => ?_) (fun c33 => ?_)
                    · have h := ip c33 h
                      refine lv_iinc (v := (y50_3 + (1 : Int32))) (lv' := [(3, .int (y50_3 + (1 : Int32))), (4, .int (0 : Int32)), (0, .ref a_this), (1, .int (0 : Int32)), (2, .int y11_2)]) hx hb dX11_least_138 hl (k := 4) rfl rfl (by decide) rfl (fun ls hl => ?_)
                      refine lv_goto (tgt := 50) hx hb dX11_least_141 (by decide) ?_
                      exact ih50 (y50_3 + (1 : Int32)) (upd A_fewest_50 (y11_2).toNatClampNeg (A_fewest_50 (y11_2).toNatClampNeg)) _ h _ _ _ hP hD hS (lv_sub hl [2, 3, 4, 0] rfl) k50_0 k50_1
                    · have h := im c33 h
                      obtain rfl := Option.some.inj h
                      exact k50_0 rfl _ _ _ hP hD hS (lv_sub hl [1, 2, 3] rfl)
                  · have h := ip c15 h
                    refine lv_aload_n hx hb dX11_least_75 rfl (lv_at hl 0 rfl) ?_
                    refine va_get (ci := 11) (v := .ref a_fewest) (C := RX11) (T := TX11) (N := 23) hx hb htT inlX11 hown hK hP 0 rfl rfl 20 (by decide) (htT _ q_7_9) (fun _ h9 => h9) rfl dX11_least_76 ?_
                    refine lv_iload_n hx hb dX11_least_79 rfl (lv_at hl 3 rfl) ?_
                    obtain ⟨g16, h⟩ := gd h
                    refine va_iald hx hb hK hP 9 1 rfl rfl (inB_in g16) dX11_least_80 ?_
                    refine lv_iconst (v := (1 : Int32)) hx hb dX11_least_81 rfl ?_
                    refine lv_iadd hx hb dX11_least_82 ?_
                    refine lv_aload_n hx hb dX11_least_83 rfl (lv_at hl 0 rfl) ?_
                    refine va_get (ci := 11) (v := .ref a_fewest) (C := RX11) (T := TX11) (N := 23) hx hb htT inlX11 hown hK hP 0 rfl rfl 20 (by decide) (htT _ q_7_9) (fun _ h9 => h9) rfl dX11_least_84 ?_
                    refine lv_iload_n hx hb dX11_least_87 rfl (lv_at hl 2 rfl) ?_
                    obtain ⟨g17, h⟩ := gd h
                    refine va_iald hx hb hK hP 9 1 rfl rfl (inB_in g17) dX11_least_88 ?_
                    refine lv_icmp_ge (tgt := 96) hx hb dX11_least_89 (by decide) (fun c18 => ?_) (fun c18 => ?_)
                    · have h := ip c18 h
                      refine lv_iconst (v := (0 : Int32)) hx hb dX11_least_96 rfl ?_
                      refine lv_istore (lv' := [(4, .int (0 : Int32)), (0, .ref a_this), (1, .int (0 : Int32)), (2, .int y11_2), (3, .int y50_3)]) hx hb dX11_least_97 hl (by decide) rfl (fun ls hl => ?_)
                      refine lv_aload_n hx hb dX11_least_99 rfl (lv_at hl 1 rfl) ?_
                      refine va_get (ci := 11) (v := .ref a_fewest) (C := RX11) (T := TX11) (N := 23) hx hb htT inlX11 hown hK hP 0 rfl rfl 20 (by decide) (htT _ q_7_9) (fun _ h9 => h9) rfl dX11_least_100 ?_
                      refine lv_iload_n hx hb dX11_least_103 rfl (lv_at hl 3 rfl) ?_
                      refine lv_iload hx hb dX11_least_104 (lv_at hl 0 rfl) ?_
                      refine lv_if_eq (tgt := 120) hx hb dX11_least_106 (by decide) (fun _ => ?_) (fun c19 => absurd (by decide) c19)
                      refine lv_aload_n hx hb dX11_least_120 rfl (lv_at hl 1 rfl) ?_
                      refine va_get (ci := 11) (v := .ref a_fewest) (C := RX11) (T := TX11) (N := 23) hx hb htT inlX11 hown hK hP 0 rfl rfl 20 (by decide) (htT _ q_7_9) (fun _ h9 => h9) rfl dX11_least_121 ?_
                      refine lv_iload_n hx hb dX11_least_124 rfl (lv_at hl 3 rfl) ?_
                      obtain ⟨g20, h⟩ := gd h
                      refine va_iald hx hb hK hP 9 1 rfl rfl (inB_in g20) dX11_least_125 ?_
                      obtain ⟨g21, h⟩ := gd h
                      refine va_iast hx hb hK hP hD hS 9 1 rfl rfl (inB_in g21) dX11_least_126 (fun H locs hP hD hS => ?_)
                      have hP : va_P D vwCl (k_Mo cC cI cZ a_this a_now a_undos a_seen a_seenAs a_isKept a_kept a_text a_read a_fewest a_doors a_isSo v_undoMany v_undoAt v_seenMany v_letterMany v_readAt v_tokenAt v_token v_value v_faultAt v_readOnce v_greatUpper v_greatLower A_now A_undos A_seen A_seenAs A_isKept A_kept A_text A_read (upd A_fewest_50 (y11_2).toNatClampNeg (A_fewest_50 (y11_2).toNatClampNeg)) A_doors A_isSo) H := hP
                      have hD : va_D A (k_Mo cC cI cZ a_this a_now a_undos a_seen a_seenAs a_isKept a_kept a_text a_read a_fewest a_doors a_isSo v_undoMany v_undoAt v_seenMany v_letterMany v_readAt v_tokenAt v_token v_value v_faultAt v_readOnce v_greatUpper v_greatLower A_now A_undos A_seen A_seenAs A_isKept A_kept A_text A_read (upd A_fewest_50 (y11_2).toNatClampNeg (A_fewest_50 (y11_2).toNatClampNeg)) A_doors A_isSo) := hD
                      refine lv_aload_n hx hb dX11_least_127 rfl (lv_at hl 1 rfl) ?_
                      refine lv_iload_n hx hb dX11_least_128 rfl (lv_at hl 4 rfl) ?_
                      obtain ⟨r22, e22, h⟩ := bd h
                      refine roV X [.int y50_3] [] (c_Mo_isLast l D cC cI cZ a_this a_now a_undos a_seen a_seenAs a_isKept a_kept a_text a_read a_fewest a_doors a_isSo v_undoMany v_undoAt v_seenMany v_letterMany v_readAt v_tokenAt v_token v_value v_faultAt v_readOnce v_greatUpper v_greatLower A_now A_undos A_seen A_seenAs A_isKept A_kept A_text A_read (upd A_fewest_50 (y11_2).toNatClampNeg (A_fewest_50 (y11_2).toNatClampNeg)) A_doors A_isSo y50_3 r22 e22) gg_X11_140 hd_Mo_isLast ⟨rfl, rfl, Nat.le_of_ble_eq_true rfl, Nat.le_of_ble_eq_true rfl⟩ ⟨Nat.zero_le _, Nat.zero_le _⟩ hP [0, 1, 2, 3, 4, 5, 6, 7, 8, 9, 10, 11] rfl rfl rfl rfl hl.1 rfl (Nat.le_of_ble_eq_true rfl) dX11_least_129 (fun n22 => ?_)
                      refine lv_if_eq (tgt := 138) hx hb dX11_least_132 (by decide) (fun c23 => ?_) (fun c23 => ?_)
                      · have h := ip c23 h
                        refine lv_iinc (v := (y50_3 + (1 : Int32))) (lv' := [(3, .int (y50_3 + (1 : Int32))), (4, .int (0 : Int32)), (0, .ref a_this), (1, .int (0 : Int32)), (2, .int y11_2)]) hx hb dX11_least_138 hl (k := 4) rfl rfl (by decide) rfl (fun ls hl => ?_)
                        refine lv_goto (tgt := 50) hx hb dX11_least_141 (by decide) ?_
                        exact ih50 (y50_3 + (1 : Int32)) (upd A_fewest_50 (y11_2).toNatClampNeg (A_fewest_50 (y11_2).toNatClampNeg)) _ h _ _ _ hP hD hS (lv_sub hl [2, 3, 4, 0] rfl) k50_0 k50_1
                      · have h := im c23 h
                        obtain rfl := Option.some.inj h
                        exact k50_0 rfl _ _ _ hP hD hS (lv_sub hl [1, 2, 3] rfl)
                    · have h := im c18 h
                      refine lv_iconst (v := (1 : Int32)) hx hb dX11_least_92 rfl ?_
                      refine lv_goto (tgt := 97) hx hb dX11_least_93 (by decide) ?_
                      refine lv_istore (lv' := [(4, .int (1 : Int32)), (0, .ref a_this), (1, .int (0 : Int32)), (2, .int y11_2), (3, .int y50_3)]) hx hb dX11_least_97 hl (by decide) rfl (fun ls hl => ?_)
                      refine lv_aload_n hx hb dX11_least_99 rfl (lv_at hl 1 rfl) ?_
                      refine va_get (ci := 11) (v := .ref a_fewest) (C := RX11) (T := TX11) (N := 23) hx hb htT inlX11 hown hK hP 0 rfl rfl 20 (by decide) (htT _ q_7_9) (fun _ h9 => h9) rfl dX11_least_100 ?_
                      refine lv_iload_n hx hb dX11_least_103 rfl (lv_at hl 3 rfl) ?_
                      refine lv_iload hx hb dX11_least_104 (lv_at hl 0 rfl) ?_
                      refine lv_if_eq (tgt := 120) hx hb dX11_least_106 (by decide) (fun c24 => absurd c24 (by decide)) (fun _ => ?_)
                      refine lv_aload_n hx hb dX11_least_109 rfl (lv_at hl 1 rfl) ?_
                      refine va_get (ci := 11) (v := .ref a_fewest) (C := RX11) (T := TX11) (N := 23) hx hb htT inlX11 hown hK hP 0 rfl rfl 20 (by decide) (htT _ q_7_9) (fun _ h9 => h9) rfl dX11_least_110 ?_
                      refine lv_iload_n hx hb dX11_least_113 rfl (lv_at hl 4 rfl) ?_
                      obtain ⟨g25, h⟩ := gd h
                      refine va_iald hx hb hK hP 9 1 rfl rfl (inB_in g25) dX11_least_114 ?_
                      refine lv_iconst (v := (1 : Int32)) hx hb dX11_least_115 rfl ?_
                      refine lv_iadd hx hb dX11_least_116 ?_
                      refine lv_goto (tgt := 126) hx hb dX11_least_117 (by decide) ?_
                      obtain ⟨g26, h⟩ := gd h
                      refine va_iast hx hb hK hP hD hS 9 1 rfl rfl (inB_in g26) dX11_least_126 (fun H locs hP hD hS => ?_)
                      have hP : va_P D vwCl (k_Mo cC cI cZ a_this a_now a_undos a_seen a_seenAs a_isKept a_kept a_text a_read a_fewest a_doors a_isSo v_undoMany v_undoAt v_seenMany v_letterMany v_readAt v_tokenAt v_token v_value v_faultAt v_readOnce v_greatUpper v_greatLower A_now A_undos A_seen A_seenAs A_isKept A_kept A_text A_read (upd A_fewest_50 (y11_2).toNatClampNeg ((A_fewest_50 (y50_3).toNatClampNeg) + (1 : Int32))) A_doors A_isSo) H := hP
                      have hD : va_D A (k_Mo cC cI cZ a_this a_now a_undos a_seen a_seenAs a_isKept a_kept a_text a_read a_fewest a_doors a_isSo v_undoMany v_undoAt v_seenMany v_letterMany v_readAt v_tokenAt v_token v_value v_faultAt v_readOnce v_greatUpper v_greatLower A_now A_undos A_seen A_seenAs A_isKept A_kept A_text A_read (upd A_fewest_50 (y11_2).toNatClampNeg ((A_fewest_50 (y50_3).toNatClampNeg) + (1 : Int32))) A_doors A_isSo) := hD
                      refine lv_aload_n hx hb dX11_least_127 rfl (lv_at hl 1 rfl) ?_
                      refine lv_iload_n hx hb dX11_least_128 rfl (lv_at hl 4 rfl) ?_
                      obtain ⟨r27, e27, h⟩ := bd h
                      refine roV X [.int y50_3] [] (c_Mo_isLast l D cC cI cZ a_this a_now a_undos a_seen a_seenAs a_isKept a_kept a_text a_read a_fewest a_doors a_isSo v_undoMany v_undoAt v_seenMany v_letterMany v_readAt v_tokenAt v_token v_value v_faultAt v_readOnce v_greatUpper v_greatLower A_now A_undos A_seen A_seenAs A_isKept A_kept A_text A_read (upd A_fewest_50 (y11_2).toNatClampNeg ((A_fewest_50 (y50_3).toNatClampNeg) + (1 : Int32))) A_doors A_isSo y50_3 r27 e27) gg_X11_140 hd_Mo_isLast ⟨rfl, rfl, Nat.le_of_ble_eq_true rfl, Nat.le_of_ble_eq_true rfl⟩ ⟨Nat.zero_le _, Nat.zero_le _⟩ hP [0, 1, 2, 3, 4, 5, 6, 7, 8, 9, 10, 11] rfl rfl rfl rfl hl.1 rfl (Nat.le_of_ble_eq_true rfl) dX11_least_129 (fun n27 => ?_)
                      refine lv_if_eq (tgt := 138) hx hb dX11_least_132 (by decide) (fun c28 => ?_) (fun c28 => ?_)
                      · have h := ip c28 h
                        refine lv_iinc (v := (y50_3 + (1 : Int32))) (lv' := [(3, .int (y50_3 + (1 : Int32))), (4, .int (1 : Int32)), (0, .ref a_this), (1, .int (0 : Int32)), (2, .int y11_2)]) hx hb dX11_least_138 hl (k := 4) rfl rfl (by decide) rfl (fun ls hl => ?_)
                        refine lv_goto (tgt := 50) hx hb dX11_least_141 (by decide) ?_
                        exact ih50 (y50_3 + (1 : Int32)) (upd A_fewest_50 (y11_2).toNatClampNeg ((A_fewest_50 (y50_3).toNatClampNeg) + (1 : Int32))) _ h _ _ _ hP hD hS (lv_sub hl [2, 3, 4, 0] rfl) k50_0 k50_1
                      · have h := im c28 h
                        obtain rfl := Option.some.inj h
                        exact k50_0 rfl _ _ _ hP hD hS (lv_sub hl [1, 2, 3] rfl)
            obtain ⟨z10, e10, h⟩ := bd h
            refine LP50 fu (y11_2 + (1 : Int32)) (upd (upd A_fewest_11 (y11_2).toNatClampNeg (1 : Int32)) (y11_2).toNatClampNeg (15 : Int32)) z10 e10 _ _ _ hP hD hS (lv_sub hl [1, 2, 3, 0] rfl) ?_ ?_
            · intro t10 H locs ls hP hD hS hl
              have h := ip t10 h
              refine lv_goto (tgt := 144) hx hb dX11_least_135 (by decide) ?_
              refine lv_iinc (v := (y11_2 + (-1 : Int32))) (lv' := [(2, .int (y11_2 + (-1 : Int32))), (0, .ref a_this), (1, .int (0 : Int32))]) hx hb dX11_least_144 hl (k := 2) rfl rfl (by decide) rfl (fun ls hl => ?_)
              refine lv_goto (tgt := 11) hx hb dX11_least_147 (by decide) ?_
              exact ih11 (y11_2 + (-1 : Int32)) z10.2 _ h _ _ _ hP hD hS (lv_sub hl [1, 2, 0] rfl) k11_0
            · intro t10 H locs ls hP hD hS hl
              have h := im (by rw [t10]; decide) h
              refine lv_iinc (v := (y11_2 + (-1 : Int32))) (lv' := [(2, .int (y11_2 + (-1 : Int32))), (0, .ref a_this), (1, .int (0 : Int32))]) hx hb dX11_least_144 hl (k := 2) rfl rfl (by decide) rfl (fun ls hl => ?_)
              refine lv_goto (tgt := 11) hx hb dX11_least_147 (by decide) ?_
              exact ih11 (y11_2 + (-1 : Int32)) z10.2 _ h _ _ _ hP hD hS (lv_sub hl [1, 2, 0] rfl) k11_0
  obtain ⟨z2, e2, h⟩ := bd h
  refine LP11 fu ((A_now ((0 : Int32)).toNatClampNeg) - (1 : Int32)) A_fewest z2 e2 _ _ _ hP hD hS (lv_sub hl [2, 1, 0] rfl) ?_
  intro H locs ls hP hD hS hl
  refine lv_iconst (v := (0 : Int32)) hx hb dX11_least_150 rfl ?_
  refine lv_istore_n (lv' := [(2, .int (0 : Int32)), (0, .ref a_this), (1, .int (0 : Int32))]) hx hb dX11_least_151 rfl hl (by decide) rfl (fun ls hl => ?_)
  have LP152 : ∀ (n : Nat) (y152_1 : Int32) (y152_2 : Int32) (zq152 : Int32), f_Mo_least_L152 A_now z2 n y152_1 y152_2 = some zq152 → ∀ (H : Heap) (locs : List Loc) (ls : Array Slot), va_P D vwCl (k_Mo cC cI cZ a_this a_now a_undos a_seen a_seenAs a_isKept a_kept a_text a_read a_fewest a_doors a_isSo v_undoMany v_undoAt v_seenMany v_letterMany v_readAt v_tokenAt v_token v_value v_faultAt v_readOnce v_greatUpper v_greatLower A_now A_undos A_seen A_seenAs A_isKept A_kept A_text A_read z2 A_doors A_isSo) H → va_D A (k_Mo cC cI cZ a_this a_now a_undos a_seen a_seenAs a_isKept a_kept a_text a_read a_fewest a_doors a_isSo v_undoMany v_undoAt v_seenMany v_letterMany v_readAt v_tokenAt v_token v_value v_faultAt v_readOnce v_greatUpper v_greatLower A_now A_undos A_seen A_seenAs A_isKept A_kept A_text A_read z2 A_doors A_isSo) → va_S A s.heap H locs → lv_has ls 5 [(0, .ref a_this), (1, .int y152_1), (2, .int y152_2)] → (∀ (H : Heap) (locs : List Loc) (ls : Array Slot), va_P D vwCl (k_Mo cC cI cZ a_this a_now a_undos a_seen a_seenAs a_isKept a_kept a_text a_read a_fewest a_doors a_isSo v_undoMany v_undoAt v_seenMany v_letterMany v_readAt v_tokenAt v_token v_value v_faultAt v_readOnce v_greatUpper v_greatLower A_now A_undos A_seen A_seenAs A_isKept A_kept A_text A_read z2 A_doors A_isSo) H → va_D A (k_Mo cC cI cZ a_this a_now a_undos a_seen a_seenAs a_isKept a_kept a_text a_read a_fewest a_doors a_isSo v_undoMany v_undoAt v_seenMany v_letterMany v_readAt v_tokenAt v_token v_value v_faultAt v_readOnce v_greatUpper v_greatLower A_now A_undos A_seen A_seenAs A_isKept A_kept A_text A_read z2 A_doors A_isSo) → va_S A s.heap H locs → lv_has ls 5 [(1, .int zq152)] → W p l e (RM 4 85) s m args below meth c H locs 0 0 Q (F0 m 251 ls [])) → W p l e (RM 4 85) s m args below meth c H locs 0 0 Q (F0 m 152 ls []) := by
    clear h
    intro n
    induction n with
    | zero =>
      intro y152_1 y152_2 zq152 h
      rw [f_Mo_least_L152_0] at h
      cases h
    | succ n ih152 =>
      intro y152_1 y152_2 zq152 h H locs ls hP hD hS hl k152_0
      rw [f_Mo_least_L152_s] at h
      refine lv_iload_n hx hb dX11_least_152 rfl (lv_at hl 2 rfl) ?_
      refine lv_aload_n hx hb dX11_least_153 rfl (lv_at hl 0 rfl) ?_
      refine va_get (ci := 11) (v := .ref a_now) (C := RX11) (T := TX11) (N := 23) hx hb htT inlX11 hown hK hP 0 rfl rfl 0 (by decide) (htT _ q_7_0) (fun _ h9 => h9) rfl dX11_least_154 ?_
      refine lv_iconst (v := (0 : Int32)) hx hb dX11_least_157 rfl ?_
      obtain ⟨g35, h⟩ := gd h
      refine va_iald hx hb hK hP 1 1 rfl rfl (inB_in g35) dX11_least_158 ?_
      refine lv_icmp_ge (tgt := 251) hx hb dX11_least_159 (by decide) (fun c36 => ?_) (fun c36 => ?_)
      · have h := ip c36 h
        obtain rfl := Option.some.inj h
        exact k152_0 _ _ _ hP hD hS (lv_sub hl [1] rfl)
      · have h := im c36 h
        refine lv_aload_n hx hb dX11_least_162 rfl (lv_at hl 0 rfl) ?_
        refine lv_iload_n hx hb dX11_least_163 rfl (lv_at hl 2 rfl) ?_
        obtain ⟨r37, e37, h⟩ := bd h
        refine roV X [.int y152_2] [] (c_Mo_isFirst l D cC cI cZ a_this a_now a_undos a_seen a_seenAs a_isKept a_kept a_text a_read a_fewest a_doors a_isSo v_undoMany v_undoAt v_seenMany v_letterMany v_readAt v_tokenAt v_token v_value v_faultAt v_readOnce v_greatUpper v_greatLower A_now A_undos A_seen A_seenAs A_isKept A_kept A_text A_read z2 A_doors A_isSo y152_2 r37 e37) gg_X11_133 hd_Mo_isFirst ⟨rfl, rfl, Nat.le_of_ble_eq_true rfl, Nat.le_of_ble_eq_true rfl⟩ ⟨Nat.zero_le _, Nat.zero_le _⟩ hP [0, 1, 2, 3, 4, 5, 6, 7, 8, 9, 10, 11] rfl rfl rfl rfl hl.1 rfl (Nat.le_of_ble_eq_true rfl) dX11_least_164 (fun n37 => ?_)
        refine lv_if_eq (tgt := 245) hx hb dX11_least_167 (by decide) (fun c38 => ?_) (fun c38 => ?_)
        · have h := ip c38 h
          refine lv_iinc (v := (y152_2 + (1 : Int32))) (lv' := [(2, .int (y152_2 + (1 : Int32))), (0, .ref a_this), (1, .int y152_1)]) hx hb dX11_least_245 hl (k := 2) rfl rfl (by decide) rfl (fun ls hl => ?_)
          refine lv_goto (tgt := 152) hx hb dX11_least_248 (by decide) ?_
          exact ih152 y152_1 (y152_2 + (1 : Int32)) _ h _ _ _ hP hD hS (lv_sub hl [1, 2, 0] rfl) k152_0
        · have h := im c38 h
          refine lv_iload_n hx hb dX11_least_170 rfl (lv_at hl 2 rfl) ?_
          refine lv_istore_n (lv' := [(3, .int y152_2), (0, .ref a_this), (1, .int y152_1), (2, .int y152_2)]) hx hb dX11_least_171 rfl hl (by decide) rfl (fun ls hl => ?_)
          refine lv_iload_n hx hb dX11_least_172 rfl (lv_at hl 2 rfl) ?_
          refine lv_iconst (v := (1 : Int32)) hx hb dX11_least_173 rfl ?_
          refine lv_iload_n hx hb dX11_least_174 rfl (lv_at hl 0 rfl) ?_
          refine lv_ishl hx hb dX11_least_175 ?_
          refine lv_ior hx hb dX11_least_176 ?_
          refine lv_istore_n (lv' := [(1, .int (y152_1 ||| ((1 : Int32) <<< (y152_2 &&& 31)))), (3, .int y152_2), (0, .ref a_this), (2, .int y152_2)]) hx hb dX11_least_177 rfl hl (by decide) rfl (fun ls hl => ?_)
          have LP178 : ∀ (n : Nat) (y178_1 : Int32) (y178_3 : Int32) (zq178 : Int32), f_Mo_least_L178 y152_2 A_now z2 n y178_1 y178_3 = some zq178 → ∀ (H : Heap) (locs : List Loc) (ls : Array Slot), va_P D vwCl (k_Mo cC cI cZ a_this a_now a_undos a_seen a_seenAs a_isKept a_kept a_text a_read a_fewest a_doors a_isSo v_undoMany v_undoAt v_seenMany v_letterMany v_readAt v_tokenAt v_token v_value v_faultAt v_readOnce v_greatUpper v_greatLower A_now A_undos A_seen A_seenAs A_isKept A_kept A_text A_read z2 A_doors A_isSo) H → va_D A (k_Mo cC cI cZ a_this a_now a_undos a_seen a_seenAs a_isKept a_kept a_text a_read a_fewest a_doors a_isSo v_undoMany v_undoAt v_seenMany v_letterMany v_readAt v_tokenAt v_token v_value v_faultAt v_readOnce v_greatUpper v_greatLower A_now A_undos A_seen A_seenAs A_isKept A_kept A_text A_read z2 A_doors A_isSo) → va_S A s.heap H locs → lv_has ls 5 [(0, .ref a_this), (1, .int y178_1), (2, .int y152_2), (3, .int y178_3)] → (∀ (H : Heap) (locs : List Loc) (ls : Array Slot), va_P D vwCl (k_Mo cC cI cZ a_this a_now a_undos a_seen a_seenAs a_isKept a_kept a_text a_read a_fewest a_doors a_isSo v_undoMany v_undoAt v_seenMany v_letterMany v_readAt v_tokenAt v_token v_value v_faultAt v_readOnce v_greatUpper v_greatLower A_now A_undos A_seen A_seenAs A_isKept A_kept A_text A_read z2 A_doors A_isSo) H → va_D A (k_Mo cC cI cZ a_this a_now a_undos a_seen a_seenAs a_isKept a_kept a_text a_read a_fewest a_doors a_isSo v_undoMany v_undoAt v_seenMany v_letterMany v_readAt v_tokenAt v_token v_value v_faultAt v_readOnce v_greatUpper v_greatLower A_now A_undos A_seen A_seenAs A_isKept A_kept A_text A_read z2 A_doors A_isSo) → va_S A s.heap H locs → lv_has ls 5 [(0, .ref a_this), (1, .int zq178), (2, .int y152_2)] → W p l e (RM 4 85) s m args below meth c H locs 0 0 Q (F0 m 245 ls [])) → W p l e (RM 4 85) s m args below meth c H locs 0 0 Q (F0 m 178 ls []) := by
            clear h
            intro n
            induction n with
            | zero =>
              intro y178_1 y178_3 zq178 h
              rw [f_Mo_least_L178_0] at h
              cases h
            | succ n ih178 =>
              intro y178_1 y178_3 zq178 h H locs ls hP hD hS hl k178_0
              rw [f_Mo_least_L178_s] at h
              refine lv_aload_n hx hb dX11_least_178 rfl (lv_at hl 0 rfl) ?_
              refine lv_iload_n hx hb dX11_least_179 rfl (lv_at hl 3 rfl) ?_
              obtain ⟨r40, e40, h⟩ := bd h
              refine roV X [.int y178_3] [] (c_Mo_isLast l D cC cI cZ a_this a_now a_undos a_seen a_seenAs a_isKept a_kept a_text a_read a_fewest a_doors a_isSo v_undoMany v_undoAt v_seenMany v_letterMany v_readAt v_tokenAt v_token v_value v_faultAt v_readOnce v_greatUpper v_greatLower A_now A_undos A_seen A_seenAs A_isKept A_kept A_text A_read z2 A_doors A_isSo y178_3 r40 e40) gg_X11_140 hd_Mo_isLast ⟨rfl, rfl, Nat.le_of_ble_eq_true rfl, Nat.le_of_ble_eq_true rfl⟩ ⟨Nat.zero_le _, Nat.zero_le _⟩ hP [0, 1, 2, 3, 4, 5, 6, 7, 8, 9, 10, 11] rfl rfl rfl rfl hl.1 rfl (Nat.le_of_ble_eq_true rfl) dX11_least_180 (fun n40 => ?_)
              refine lv_if_ne (tgt := 245) hx hb dX11_least_183 (by decide) (fun c41 => ?_) (fun c41 => ?_)
              · have h := im c41 h
                obtain rfl := Option.some.inj h
                exact k178_0 _ _ _ hP hD hS (lv_sub hl [0, 1, 2] rfl)
              · have h := ip c41 h
                refine lv_iload_n hx hb dX11_least_186 rfl (lv_at hl 3 rfl) ?_
                refine lv_iconst (v := (1 : Int32)) hx hb dX11_least_187 rfl ?_
                refine lv_iadd hx hb dX11_least_188 ?_
                refine lv_istore (lv' := [(4, .int (y178_3 + (1 : Int32))), (0, .ref a_this), (1, .int y178_1), (2, .int y152_2), (3, .int y178_3)]) hx hb dX11_least_189 hl (by decide) rfl (fun ls hl => ?_)
                have LP191 : ∀ (n : Nat) (y191_4 : Int32) (zq191 : Int32), f_Mo_least_L191 y178_1 y152_2 y178_3 A_now z2 n y191_4 = some zq191 → ∀ (H : Heap) (locs : List Loc) (ls : Array Slot), va_P D vwCl (k_Mo cC cI cZ a_this a_now a_undos a_seen a_seenAs a_isKept a_kept a_text a_read a_fewest a_doors a_isSo v_undoMany v_undoAt v_seenMany v_letterMany v_readAt v_tokenAt v_token v_value v_faultAt v_readOnce v_greatUpper v_greatLower A_now A_undos A_seen A_seenAs A_isKept A_kept A_text A_read z2 A_doors A_isSo) H → va_D A (k_Mo cC cI cZ a_this a_now a_undos a_seen a_seenAs a_isKept a_kept a_text a_read a_fewest a_doors a_isSo v_undoMany v_undoAt v_seenMany v_letterMany v_readAt v_tokenAt v_token v_value v_faultAt v_readOnce v_greatUpper v_greatLower A_now A_undos A_seen A_seenAs A_isKept A_kept A_text A_read z2 A_doors A_isSo) → va_S A s.heap H locs → lv_has ls 5 [(0, .ref a_this), (1, .int y178_1), (2, .int y152_2), (3, .int y178_3), (4, .int y191_4)] → (∀ (H : Heap) (locs : List Loc) (ls : Array Slot), va_P D vwCl (k_Mo cC cI cZ a_this a_now a_undos a_seen a_seenAs a_isKept a_kept a_text a_read a_fewest a_doors a_isSo v_undoMany v_undoAt v_seenMany v_letterMany v_readAt v_tokenAt v_token v_value v_faultAt v_readOnce v_greatUpper v_greatLower A_now A_undos A_seen A_seenAs A_isKept A_kept A_text A_read z2 A_doors A_isSo) H → va_D A (k_Mo cC cI cZ a_this a_now a_undos a_seen a_seenAs a_isKept a_kept a_text a_read a_fewest a_doors a_isSo v_undoMany v_undoAt v_seenMany v_letterMany v_readAt v_tokenAt v_token v_value v_faultAt v_readOnce v_greatUpper v_greatLower A_now A_undos A_seen A_seenAs A_isKept A_kept A_text A_read z2 A_doors A_isSo) → va_S A s.heap H locs → lv_has ls 5 [(0, .ref a_this), (1, .int y178_1), (2, .int y152_2), (4, .int zq191)] → W p l e (RM 4 85) s m args below meth c H locs 0 0 Q (F0 m 233 ls [])) → W p l e (RM 4 85) s m args below meth c H locs 0 0 Q (F0 m 191 ls []) := by
                  clear h
                  intro n
                  induction n with
                  | zero =>
                    intro y191_4 zq191 h
                    rw [f_Mo_least_L191_0] at h
                    cases h
                  | succ n ih191 =>
                    intro y191_4 zq191 h H locs ls hP hD hS hl k191_0
                    rw [f_Mo_least_L191_s] at h
                    refine lv_aload_n hx hb dX11_least_191 rfl (lv_at hl 0 rfl) ?_
                    refine lv_iload_n hx hb dX11_least_192 rfl (lv_at hl 3 rfl) ?_
                    refine lv_iload hx hb dX11_least_193 (lv_at hl 4 rfl) ?_
                    refine lv_aload_n hx hb dX11_least_195 rfl (lv_at hl 0 rfl) ?_
                    refine va_get (ci := 11) (v := .ref a_now) (C := RX11) (T := TX11) (N := 23) hx hb htT inlX11 hown hK hP 0 rfl rfl 0 (by decide) (htT _ q_7_0) (fun _ h9 => h9) rfl dX11_least_196 ?_
                    refine lv_iconst (v := (1 : Int32)) hx hb dX11_least_199 rfl ?_
                    obtain ⟨g43, h⟩ := gd h
                    refine va_iald hx hb hK hP 1 1 rfl rfl (inB_in g43) dX11_least_200 ?_
                    obtain ⟨r44, e44, h⟩ := bd h
                    refine roV X [.int y178_3, .int y191_4, .int (A_now ((1 : Int32)).toNatClampNeg)] [] (c_Mo_whyNot l D cC cI cZ a_this a_now a_undos a_seen a_seenAs a_isKept a_kept a_text a_read a_fewest a_doors a_isSo v_undoMany v_undoAt v_seenMany v_letterMany v_readAt v_tokenAt v_token v_value v_faultAt v_readOnce v_greatUpper v_greatLower A_now A_undos A_seen A_seenAs A_isKept A_kept A_text A_read z2 A_doors A_isSo y178_3 y191_4 (A_now ((1 : Int32)).toNatClampNeg) r44 e44) gg_X11_143 hd_Mo_whyNot ⟨rfl, rfl, Nat.le_of_ble_eq_true rfl, Nat.le_of_ble_eq_true rfl⟩ ⟨Nat.zero_le _, Nat.zero_le _⟩ hP [0, 1, 2, 3, 4, 5, 6, 7, 8, 9, 10, 11] rfl rfl rfl rfl hl.1 rfl (Nat.le_of_ble_eq_true rfl) dX11_least_201 (fun n44 => ?_)
                    refine lv_bipush (v := (-9 : Int32)) hx hb dX11_least_204 rfl ?_
                    refine lv_icmp_ne (tgt := 227) hx hb dX11_least_206 (by decide) (fun c45 => ?_) (fun c45 => ?_)
                    · have h := im c45 h
                      refine lv_iinc (v := (y191_4 + (1 : Int32))) (lv' := [(4, .int (y191_4 + (1 : Int32))), (0, .ref a_this), (1, .int y178_1), (2, .int y152_2), (3, .int y178_3)]) hx hb dX11_least_227 hl (k := 4) rfl rfl (by decide) rfl (fun ls hl => ?_)
                      refine lv_goto (tgt := 191) hx hb dX11_least_230 (by decide) ?_
                      exact ih191 (y191_4 + (1 : Int32)) _ h _ _ _ hP hD hS (lv_sub hl [1, 2, 3, 4, 0] rfl) k191_0
                    · have h := ip c45 h
                      refine lv_aload_n hx hb dX11_least_209 rfl (lv_at hl 0 rfl) ?_
                      refine va_get (ci := 11) (v := .ref a_fewest) (C := RX11) (T := TX11) (N := 23) hx hb htT inlX11 hown hK hP 0 rfl rfl 20 (by decide) (htT _ q_7_9) (fun _ h9 => h9) rfl dX11_least_210 ?_
                      refine lv_iload hx hb dX11_least_213 (lv_at hl 4 rfl) ?_
                      obtain ⟨g46, h⟩ := gd h
                      refine va_iald hx hb hK hP 9 1 rfl rfl (inB_in g46) dX11_least_215 ?_
                      refine lv_iconst (v := (1 : Int32)) hx hb dX11_least_216 rfl ?_
                      refine lv_iadd hx hb dX11_least_217 ?_
                      refine lv_aload_n hx hb dX11_least_218 rfl (lv_at hl 0 rfl) ?_
                      refine va_get (ci := 11) (v := .ref a_fewest) (C := RX11) (T := TX11) (N := 23) hx hb htT inlX11 hown hK hP 0 rfl rfl 20 (by decide) (htT _ q_7_9) (fun _ h9 => h9) rfl dX11_least_219 ?_
                      refine lv_iload_n hx hb dX11_least_222 rfl (lv_at hl 3 rfl) ?_
                      obtain ⟨g47, h⟩ := gd h
                      refine va_iald hx hb hK hP 9 1 rfl rfl (inB_in g47) dX11_least_223 ?_
                      refine lv_icmp_eq (tgt := 233) hx hb dX11_least_224 (by decide) (fun c48 => ?_) (fun c48 => ?_)
                      · have h := ip c48 h
                        obtain rfl := Option.some.inj h
                        exact k191_0 _ _ _ hP hD hS (lv_sub hl [0, 1, 2, 4] rfl)
                      · have h := im c48 h
                        refine lv_iinc (v := (y191_4 + (1 : Int32))) (lv' := [(4, .int (y191_4 + (1 : Int32))), (0, .ref a_this), (1, .int y178_1), (2, .int y152_2), (3, .int y178_3)]) hx hb dX11_least_227 hl (k := 4) rfl rfl (by decide) rfl (fun ls hl => ?_)
                        refine lv_goto (tgt := 191) hx hb dX11_least_230 (by decide) ?_
                        exact ih191 (y191_4 + (1 : Int32)) _ h _ _ _ hP hD hS (lv_sub hl [1, 2, 3, 4, 0] rfl) k191_0
                obtain ⟨z42, e42, h⟩ := bd h
                refine LP191 fu (y178_3 + (1 : Int32)) z42 e42 _ _ _ hP hD hS (lv_sub hl [1, 2, 3, 4, 0] rfl) ?_
                intro H locs ls hP hD hS hl
                refine lv_iload hx hb dX11_least_233 (lv_at hl 3 rfl) ?_
                refine lv_istore_n (lv' := [(3, .int z42), (0, .ref a_this), (1, .int y178_1), (2, .int y152_2), (4, .int z42)]) hx hb dX11_least_235 rfl hl (by decide) rfl (fun ls hl => ?_)
                refine lv_iload_n hx hb dX11_least_236 rfl (lv_at hl 2 rfl) ?_
                refine lv_iconst (v := (1 : Int32)) hx hb dX11_least_237 rfl ?_
                refine lv_iload_n hx hb dX11_least_238 rfl (lv_at hl 0 rfl) ?_
                refine lv_ishl hx hb dX11_least_239 ?_
                refine lv_ior hx hb dX11_least_240 ?_
                refine lv_istore_n (lv' := [(1, .int (y178_1 ||| ((1 : Int32) <<< (z42 &&& 31)))), (3, .int z42), (0, .ref a_this), (2, .int y152_2), (4, .int z42)]) hx hb dX11_least_241 rfl hl (by decide) rfl (fun ls hl => ?_)
                refine lv_goto (tgt := 178) hx hb dX11_least_242 (by decide) ?_
                exact ih178 (y178_1 ||| ((1 : Int32) <<< (z42 &&& 31))) z42 _ h _ _ _ hP hD hS (lv_sub hl [2, 0, 3, 1] rfl) k178_0
          obtain ⟨z39, e39, h⟩ := bd h
          refine LP178 fu (y152_1 ||| ((1 : Int32) <<< (y152_2 &&& 31))) y152_2 z39 e39 _ _ _ hP hD hS (lv_sub hl [2, 0, 3, 1] rfl) ?_
          intro H locs ls hP hD hS hl
          refine lv_iinc (v := (y152_2 + (1 : Int32))) (lv' := [(2, .int (y152_2 + (1 : Int32))), (0, .ref a_this), (1, .int z39)]) hx hb dX11_least_245 hl (k := 2) rfl rfl (by decide) rfl (fun ls hl => ?_)
          refine lv_goto (tgt := 152) hx hb dX11_least_248 (by decide) ?_
          exact ih152 z39 (y152_2 + (1 : Int32)) _ h _ _ _ hP hD hS (lv_sub hl [1, 2, 0] rfl) k152_0
  obtain ⟨z34, e34, h⟩ := bd h
  refine LP152 fu (0 : Int32) (0 : Int32) z34 e34 _ _ _ hP hD hS (lv_sub hl [1, 2, 0] rfl) ?_
  intro H locs ls hP hD hS hl
  refine lv_iload_n hx hb dX11_least_251 rfl (lv_at hl 0 rfl) ?_
  obtain rfl := Option.some.inj h
  exact hret _ _ _ _ _ hP hS dX11_least_252 rfl rfl
set_option maxHeartbeats 4000000 in
set_option maxRecDepth 100000 in
theorem c_Mo_keptAhead (l : Launch) (D : va_G) (cC cI cZ : ClassId) (a_this : Nat) (a_now : Nat) (a_undos : Nat) (a_seen : Nat) (a_seenAs : Nat) (a_isKept : Nat) (a_kept : Nat) (a_text : Nat) (a_read : Nat) (a_fewest : Nat) (a_doors : Nat) (a_isSo : Nat) (v_undoMany : Int32) (v_undoAt : Int32) (v_seenMany : Int32) (v_letterMany : Int32) (v_readAt : Int32) (v_tokenAt : Int32) (v_token : Int32) (v_value : Int32) (v_faultAt : Int32) (v_readOnce : Int32) (v_greatUpper : Int64) (v_greatLower : Int64) (A_now : Nat → Int32) (A_undos : Nat → Int32) (A_seen : Nat → Int32) (A_seenAs : Nat → Int32) (A_isKept : Nat → Int32) (A_kept : Nat → Int32) (A_text : Nat → Int32) (A_read : Nat → Int32) (A_fewest : Nat → Int32) (A_doors : Nat → Int32) (A_isSo : Nat → Int32) (p1 : Int32) (p2 : Int32) (r : Int32) (h : f_Mo_keptAhead p1 p2 = some r) : Met l yX11_keptAhead (.code yX11_keptAhead cX11_keptAhead 4 (some .int) :: TBL) (RM 1 21) (PcR [.ref a_this, .int p1, .int p2] D (TY cC cI cZ) (k_Mo cC cI cZ a_this a_now a_undos a_seen a_seenAs a_isKept a_kept a_text a_read a_fewest a_doors a_isSo v_undoMany v_undoAt v_seenMany v_letterMany v_readAt v_tokenAt v_token v_value v_faultAt v_readOnce v_greatUpper v_greatLower A_now A_undos A_seen A_seenAs A_isKept A_kept A_text A_read A_fewest A_doors A_isSo)) (vp_Si (PO .int r)) 0 0 (fun _ => False) := by
  refine roOf (by decide) (Nat.le_of_ble_eq_true rfl) rfl ?_
  intro p e s m args below meth c Q ls X hP hl hret
  have X : Ctx p s m args c cX11_keptAhead 4 RX11 D (TY cC cI cZ) := X
  obtain ⟨hx, hb, hml, hown, htT, hK, hN⟩ := id X
  unfold f_Mo_keptAhead at h
  refine lv_iload_n hx hb dX11_keptAhead_0 rfl (lv_at hl 2 rfl) ?_
  refine lv_iconst (v := (1 : Int32)) hx hb dX11_keptAhead_1 rfl ?_
  refine lv_isub hx hb dX11_keptAhead_2 ?_
  refine lv_istore_n (lv' := [(3, .int (p2 - (1 : Int32))), (0, .ref a_this), (1, .int p1), (2, .int p2)]) hx hb dX11_keptAhead_3 rfl hl (by decide) rfl (fun ls hl => ?_)
  have LP4 : ∀ (n : Nat) (y4_3 : Int32) (zq4 : Int32), f_Mo_keptAhead_L4 p1 n y4_3 = some zq4 → ∀ (ls : Array Slot), lv_has ls 4 [(1, .int p1), (3, .int y4_3)] → (∀ (ls : Array Slot), lv_has ls 4 [(3, .int zq4)] → W p l e (RM 1 21) s m args below meth c s.heap [] 0 0 Q (F0 m 18 ls [])) → W p l e (RM 1 21) s m args below meth c s.heap [] 0 0 Q (F0 m 4 ls []) := by
    clear h
    intro n
    induction n with
    | zero =>
      intro y4_3 zq4 h
      rw [f_Mo_keptAhead_L4_0] at h
      cases h
    | succ n ih4 =>
      intro y4_3 zq4 h ls hl k4_0
      rw [f_Mo_keptAhead_L4_s] at h
      refine lv_iload_n hx hb dX11_keptAhead_4 rfl (lv_at hl 0 rfl) ?_
      refine lv_iload_n hx hb dX11_keptAhead_5 rfl (lv_at hl 1 rfl) ?_
      refine roS X [.int p1, .int y4_3] [] (c_Mo_has l D cC cI cZ p1 y4_3 _ rfl) gg_X11_87 hd_Mo_has ⟨rfl, rfl, Nat.le_of_ble_eq_true rfl, Nat.le_of_ble_eq_true rfl⟩ ⟨Nat.zero_le _, Nat.zero_le _⟩ hP [] rfl hl.1 rfl (Nat.le_of_ble_eq_true rfl) dX11_keptAhead_6 (fun n2 => ?_)
      refine lv_if_ne (tgt := 18) hx hb dX11_keptAhead_9 (by decide) (fun c3 => ?_) (fun c3 => ?_)
      · have h := im c3 h
        obtain rfl := Option.some.inj h
        exact k4_0 _ (lv_sub hl [1] rfl)
      · have h := ip c3 h
        refine lv_iinc (v := (y4_3 + (-1 : Int32))) (lv' := [(3, .int (y4_3 + (-1 : Int32))), (1, .int p1)]) hx hb dX11_keptAhead_12 hl (k := 1) rfl rfl (by decide) rfl (fun ls hl => ?_)
        refine lv_goto (tgt := 4) hx hb dX11_keptAhead_15 (by decide) ?_
        exact ih4 (y4_3 + (-1 : Int32)) _ h _ (lv_sub hl [1, 0] rfl) k4_0
  obtain ⟨z1, e1, h⟩ := bd h
  refine LP4 fu (p2 - (1 : Int32)) z1 e1 _ (lv_sub hl [2, 0] rfl) ?_
  intro ls hl
  refine lv_iload_n hx hb dX11_keptAhead_18 rfl (lv_at hl 0 rfl) ?_
  exact hret _ _ _ dX11_keptAhead_19 (Option.some.inj h) rfl
set_option maxHeartbeats 4000000 in
set_option maxRecDepth 100000 in
theorem c_Mo_sentAt (l : Launch) (D : va_G) (cC cI cZ : ClassId) (a_this : Nat) (a_now : Nat) (a_undos : Nat) (a_seen : Nat) (a_seenAs : Nat) (a_isKept : Nat) (a_kept : Nat) (a_text : Nat) (a_read : Nat) (a_fewest : Nat) (a_doors : Nat) (a_isSo : Nat) (v_undoMany : Int32) (v_undoAt : Int32) (v_seenMany : Int32) (v_letterMany : Int32) (v_readAt : Int32) (v_tokenAt : Int32) (v_token : Int32) (v_value : Int32) (v_faultAt : Int32) (v_readOnce : Int32) (v_greatUpper : Int64) (v_greatLower : Int64) (A_now : Nat → Int32) (A_undos : Nat → Int32) (A_seen : Nat → Int32) (A_seenAs : Nat → Int32) (A_isKept : Nat → Int32) (A_kept : Nat → Int32) (A_text : Nat → Int32) (A_read : Nat → Int32) (A_fewest : Nat → Int32) (A_doors : Nat → Int32) (A_isSo : Nat → Int32) (p1 : Int32) (p2 : Int32) (r : Int32) (h : f_Mo_sentAt A_now p1 p2 = some r) : Met l yX11_sentAt (.code yX11_sentAt cX11_sentAt 4 (some .int) :: TBL) (RM 4 85) (PcR [.ref a_this, .int p1, .int p2] D (TY cC cI cZ) (k_Mo cC cI cZ a_this a_now a_undos a_seen a_seenAs a_isKept a_kept a_text a_read a_fewest a_doors a_isSo v_undoMany v_undoAt v_seenMany v_letterMany v_readAt v_tokenAt v_token v_value v_faultAt v_readOnce v_greatUpper v_greatLower A_now A_undos A_seen A_seenAs A_isKept A_kept A_text A_read A_fewest A_doors A_isSo)) (vp_Si (PO .int r)) 0 0 (fun _ => False) := by
  refine roOf (by decide) (Nat.le_of_ble_eq_true rfl) rfl ?_
  intro p e s m args below meth c Q ls X hP hl hret
  have X : Ctx p s m args c cX11_sentAt 4 RX11 D (TY cC cI cZ) := X
  obtain ⟨hx, hb, hml, hown, htT, hK, hN⟩ := id X
  unfold f_Mo_sentAt at h
  refine lv_aload_n hx hb dX11_sentAt_0 rfl (lv_at hl 0 rfl) ?_
  refine lv_iload_n hx hb dX11_sentAt_1 rfl (lv_at hl 2 rfl) ?_
  obtain ⟨r1, e1, h⟩ := bd h
  refine roV X [.int p2] [] (c_Mo_isFirst l D cC cI cZ a_this a_now a_undos a_seen a_seenAs a_isKept a_kept a_text a_read a_fewest a_doors a_isSo v_undoMany v_undoAt v_seenMany v_letterMany v_readAt v_tokenAt v_token v_value v_faultAt v_readOnce v_greatUpper v_greatLower A_now A_undos A_seen A_seenAs A_isKept A_kept A_text A_read A_fewest A_doors A_isSo p2 r1 e1) gg_X11_133 hd_Mo_isFirst ⟨rfl, rfl, Nat.le_of_ble_eq_true rfl, Nat.le_of_ble_eq_true rfl⟩ ⟨Nat.zero_le _, Nat.zero_le _⟩ hP [0, 1, 2, 3, 4, 5, 6, 7, 8, 9, 10, 11] rfl rfl rfl rfl hl.1 rfl (Nat.le_of_ble_eq_true rfl) dX11_sentAt_2 (fun n1 => ?_)
  refine lv_if_ne (tgt := 33) hx hb dX11_sentAt_5 (by decide) (fun c2 => ?_) (fun c2 => ?_)
  · have h := im c2 h
    refine lv_iconst (v := (1 : Int32)) hx hb dX11_sentAt_33 rfl ?_
    refine lv_goto (tgt := 38) hx hb dX11_sentAt_34 (by decide) ?_
    refine lv_istore_n (lv' := [(3, .int (1 : Int32)), (0, .ref a_this), (1, .int p1), (2, .int p2)]) hx hb dX11_sentAt_38 rfl hl (by decide) rfl (fun ls hl => ?_)
    refine lv_aload_n hx hb dX11_sentAt_39 rfl (lv_at hl 1 rfl) ?_
    refine va_get (ci := 11) (v := .ref a_now) (C := RX11) (T := TX11) (N := 23) hx hb htT inlX11 hown hK hP 0 rfl rfl 0 (by decide) (htT _ q_7_0) (fun _ h9 => h9) rfl dX11_sentAt_40 ?_
    refine lv_iconst (v := (3 : Int32)) hx hb dX11_sentAt_43 rfl ?_
    refine lv_iload_n hx hb dX11_sentAt_44 rfl (lv_at hl 0 rfl) ?_
    refine lv_if_eq (tgt := 52) hx hb dX11_sentAt_45 (by decide) (fun c14 => absurd c14 (by decide)) (fun _ => ?_)
    refine lv_iload_n hx hb dX11_sentAt_48 rfl (lv_at hl 3 rfl) ?_
    refine lv_goto (tgt := 55) hx hb dX11_sentAt_49 (by decide) ?_
    refine lv_iadd hx hb dX11_sentAt_55 ?_
    obtain ⟨g15, h⟩ := gd h
    refine va_iald hx hb hK hP 1 1 rfl rfl (inB_in g15) dX11_sentAt_56 ?_
    exact hret _ _ _ dX11_sentAt_57 (Option.some.inj h) rfl
  · have h := ip c2 h
    refine lv_aload_n hx hb dX11_sentAt_8 rfl (lv_at hl 0 rfl) ?_
    refine lv_iload_n hx hb dX11_sentAt_9 rfl (lv_at hl 2 rfl) ?_
    obtain ⟨r3, e3, h⟩ := bd h
    refine roV X [.int p2] [] (c_Mo_isLast l D cC cI cZ a_this a_now a_undos a_seen a_seenAs a_isKept a_kept a_text a_read a_fewest a_doors a_isSo v_undoMany v_undoAt v_seenMany v_letterMany v_readAt v_tokenAt v_token v_value v_faultAt v_readOnce v_greatUpper v_greatLower A_now A_undos A_seen A_seenAs A_isKept A_kept A_text A_read A_fewest A_doors A_isSo p2 r3 e3) gg_X11_140 hd_Mo_isLast ⟨rfl, rfl, Nat.le_of_ble_eq_true rfl, Nat.le_of_ble_eq_true rfl⟩ ⟨Nat.zero_le _, Nat.zero_le _⟩ hP [0, 1, 2, 3, 4, 5, 6, 7, 8, 9, 10, 11] rfl rfl rfl rfl hl.1 rfl (Nat.le_of_ble_eq_true rfl) dX11_sentAt_10 (fun n3 => ?_)
    refine lv_if_ne (tgt := 33) hx hb dX11_sentAt_13 (by decide) (fun c4 => ?_) (fun c4 => ?_)
    · have h := im c4 h
      refine lv_iconst (v := (1 : Int32)) hx hb dX11_sentAt_33 rfl ?_
      refine lv_goto (tgt := 38) hx hb dX11_sentAt_34 (by decide) ?_
      refine lv_istore_n (lv' := [(3, .int (1 : Int32)), (0, .ref a_this), (1, .int p1), (2, .int p2)]) hx hb dX11_sentAt_38 rfl hl (by decide) rfl (fun ls hl => ?_)
      refine lv_aload_n hx hb dX11_sentAt_39 rfl (lv_at hl 1 rfl) ?_
      refine va_get (ci := 11) (v := .ref a_now) (C := RX11) (T := TX11) (N := 23) hx hb htT inlX11 hown hK hP 0 rfl rfl 0 (by decide) (htT _ q_7_0) (fun _ h9 => h9) rfl dX11_sentAt_40 ?_
      refine lv_iconst (v := (3 : Int32)) hx hb dX11_sentAt_43 rfl ?_
      refine lv_iload_n hx hb dX11_sentAt_44 rfl (lv_at hl 0 rfl) ?_
      refine lv_if_eq (tgt := 52) hx hb dX11_sentAt_45 (by decide) (fun c12 => absurd c12 (by decide)) (fun _ => ?_)
      refine lv_iload_n hx hb dX11_sentAt_48 rfl (lv_at hl 3 rfl) ?_
      refine lv_goto (tgt := 55) hx hb dX11_sentAt_49 (by decide) ?_
      refine lv_iadd hx hb dX11_sentAt_55 ?_
      obtain ⟨g13, h⟩ := gd h
      refine va_iald hx hb hK hP 1 1 rfl rfl (inB_in g13) dX11_sentAt_56 ?_
      exact hret _ _ _ dX11_sentAt_57 (Option.some.inj h) rfl
    · have h := ip c4 h
      refine lv_iload_n hx hb dX11_sentAt_16 rfl (lv_at hl 2 rfl) ?_
      refine lv_aload_n hx hb dX11_sentAt_17 rfl (lv_at hl 0 rfl) ?_
      refine lv_iload_n hx hb dX11_sentAt_18 rfl (lv_at hl 1 rfl) ?_
      refine lv_iload_n hx hb dX11_sentAt_19 rfl (lv_at hl 2 rfl) ?_
      obtain ⟨r5, e5, h⟩ := bd h
      refine roV X [.int p1, .int p2] [.int p2] (c_Mo_keptAhead l D cC cI cZ a_this a_now a_undos a_seen a_seenAs a_isKept a_kept a_text a_read a_fewest a_doors a_isSo v_undoMany v_undoAt v_seenMany v_letterMany v_readAt v_tokenAt v_token v_value v_faultAt v_readOnce v_greatUpper v_greatLower A_now A_undos A_seen A_seenAs A_isKept A_kept A_text A_read A_fewest A_doors A_isSo p1 p2 r5 e5) gg_X11_149 hd_Mo_keptAhead ⟨rfl, rfl, Nat.le_of_ble_eq_true rfl, Nat.le_of_ble_eq_true rfl⟩ ⟨Nat.zero_le _, Nat.zero_le _⟩ hP [0, 1, 2, 3, 4, 5, 6, 7, 8, 9, 10, 11] rfl rfl rfl rfl hl.1 rfl (Nat.le_of_ble_eq_true rfl) dX11_sentAt_20 (fun n5 => ?_)
      refine lv_aload_n hx hb dX11_sentAt_23 rfl (lv_at hl 0 rfl) ?_
      refine va_get (ci := 11) (v := .ref a_now) (C := RX11) (T := TX11) (N := 23) hx hb htT inlX11 hown hK hP 0 rfl rfl 0 (by decide) (htT _ q_7_0) (fun _ h9 => h9) rfl dX11_sentAt_24 ?_
      refine lv_iconst (v := (2 : Int32)) hx hb dX11_sentAt_27 rfl ?_
      obtain ⟨g6, h⟩ := gd h
      refine va_iald hx hb hK hP 1 1 rfl rfl (inB_in g6) dX11_sentAt_28 ?_
      refine lv_iadd hx hb dX11_sentAt_29 ?_
      refine lv_icmp_ne (tgt := 37) hx hb dX11_sentAt_30 (by decide) (fun c7 => ?_) (fun c7 => ?_)
      · have h := im c7 h
        refine lv_iconst (v := (0 : Int32)) hx hb dX11_sentAt_37 rfl ?_
        refine lv_istore_n (lv' := [(3, .int (0 : Int32)), (0, .ref a_this), (1, .int p1), (2, .int p2)]) hx hb dX11_sentAt_38 rfl hl (by decide) rfl (fun ls hl => ?_)
        refine lv_aload_n hx hb dX11_sentAt_39 rfl (lv_at hl 1 rfl) ?_
        refine va_get (ci := 11) (v := .ref a_now) (C := RX11) (T := TX11) (N := 23) hx hb htT inlX11 hown hK hP 0 rfl rfl 0 (by decide) (htT _ q_7_0) (fun _ h9 => h9) rfl dX11_sentAt_40 ?_
        refine lv_iconst (v := (3 : Int32)) hx hb dX11_sentAt_43 rfl ?_
        refine lv_iload_n hx hb dX11_sentAt_44 rfl (lv_at hl 0 rfl) ?_
        refine lv_if_eq (tgt := 52) hx hb dX11_sentAt_45 (by decide) (fun _ => ?_) (fun c10 => absurd (by decide) c10)
        refine lv_iload_n hx hb dX11_sentAt_52 rfl (lv_at hl 3 rfl) ?_
        refine lv_iconst (v := (1 : Int32)) hx hb dX11_sentAt_53 rfl ?_
        refine lv_iadd hx hb dX11_sentAt_54 ?_
        refine lv_iadd hx hb dX11_sentAt_55 ?_
        obtain ⟨g11, h⟩ := gd h
        refine va_iald hx hb hK hP 1 1 rfl rfl (inB_in g11) dX11_sentAt_56 ?_
        exact hret _ _ _ dX11_sentAt_57 (Option.some.inj h) rfl
      · have h := ip c7 h
        refine lv_iconst (v := (1 : Int32)) hx hb dX11_sentAt_33 rfl ?_
        refine lv_goto (tgt := 38) hx hb dX11_sentAt_34 (by decide) ?_
        refine lv_istore_n (lv' := [(3, .int (1 : Int32)), (0, .ref a_this), (1, .int p1), (2, .int p2)]) hx hb dX11_sentAt_38 rfl hl (by decide) rfl (fun ls hl => ?_)
        refine lv_aload_n hx hb dX11_sentAt_39 rfl (lv_at hl 1 rfl) ?_
        refine va_get (ci := 11) (v := .ref a_now) (C := RX11) (T := TX11) (N := 23) hx hb htT inlX11 hown hK hP 0 rfl rfl 0 (by decide) (htT _ q_7_0) (fun _ h9 => h9) rfl dX11_sentAt_40 ?_
        refine lv_iconst (v := (3 : Int32)) hx hb dX11_sentAt_43 rfl ?_
        refine lv_iload_n hx hb dX11_sentAt_44 rfl (lv_at hl 0 rfl) ?_
        refine lv_if_eq (tgt := 52) hx hb dX11_sentAt_45 (by decide) (fun c8 => absurd c8 (by decide)) (fun _ => ?_)
        refine lv_iload_n hx hb dX11_sentAt_48 rfl (lv_at hl 3 rfl) ?_
        refine lv_goto (tgt := 55) hx hb dX11_sentAt_49 (by decide) ?_
        refine lv_iadd hx hb dX11_sentAt_55 ?_
        obtain ⟨g9, h⟩ := gd h
        refine va_iald hx hb hK hP 1 1 rfl rfl (inB_in g9) dX11_sentAt_56 ?_
        exact hret _ _ _ dX11_sentAt_57 (Option.some.inj h) rfl
set_option maxHeartbeats 4000000 in
set_option maxRecDepth 100000 in
theorem c_Mo_late (l : Launch) (D : va_G) (cC cI cZ : ClassId) (a_this : Nat) (a_now : Nat) (a_undos : Nat) (a_seen : Nat) (a_seenAs : Nat) (a_isKept : Nat) (a_kept : Nat) (a_text : Nat) (a_read : Nat) (a_fewest : Nat) (a_doors : Nat) (a_isSo : Nat) (v_undoMany : Int32) (v_undoAt : Int32) (v_seenMany : Int32) (v_letterMany : Int32) (v_readAt : Int32) (v_tokenAt : Int32) (v_token : Int32) (v_value : Int32) (v_faultAt : Int32) (v_readOnce : Int32) (v_greatUpper : Int64) (v_greatLower : Int64) (A_now : Nat → Int32) (A_undos : Nat → Int32) (A_seen : Nat → Int32) (A_seenAs : Nat → Int32) (A_isKept : Nat → Int32) (A_kept : Nat → Int32) (A_text : Nat → Int32) (A_read : Nat → Int32) (A_fewest : Nat → Int32) (A_doors : Nat → Int32) (A_isSo : Nat → Int32)  (r : Int32) (h : f_Mo_late A_now = some r) : Met l yX11_late (.code yX11_late cX11_late 6 (some .int) :: TBL) (RM 6 132) (PcR [.ref a_this] D (TY cC cI cZ) (k_Mo cC cI cZ a_this a_now a_undos a_seen a_seenAs a_isKept a_kept a_text a_read a_fewest a_doors a_isSo v_undoMany v_undoAt v_seenMany v_letterMany v_readAt v_tokenAt v_token v_value v_faultAt v_readOnce v_greatUpper v_greatLower A_now A_undos A_seen A_seenAs A_isKept A_kept A_text A_read A_fewest A_doors A_isSo)) (vp_Si (PO .int r)) 0 0 (fun _ => False) := by
  refine roOf (by decide) (Nat.le_of_ble_eq_true rfl) rfl ?_
  intro p e s m args below meth c Q ls X hP hl hret
  have X : Ctx p s m args c cX11_late 6 RX11 D (TY cC cI cZ) := X
  obtain ⟨hx, hb, hml, hown, htT, hK, hN⟩ := id X
  unfold f_Mo_late at h
  refine lv_aload_n hx hb dX11_late_0 rfl (lv_at hl 0 rfl) ?_
  refine lv_aload_n hx hb dX11_late_1 rfl (lv_at hl 0 rfl) ?_
  refine va_get (ci := 11) (v := .ref a_now) (C := RX11) (T := TX11) (N := 23) hx hb htT inlX11 hown hK hP 0 rfl rfl 0 (by decide) (htT _ q_7_0) (fun _ h9 => h9) rfl dX11_late_2 ?_
  refine lv_iconst (v := (1 : Int32)) hx hb dX11_late_5 rfl ?_
  obtain ⟨g1, h⟩ := gd h
  refine va_iald hx hb hK hP 1 1 rfl rfl (inB_in g1) dX11_late_6 ?_
  obtain ⟨r2, e2, h⟩ := bd h
  refine roV X [.int (A_now ((1 : Int32)).toNatClampNeg)] [] (c_Mo_door l D cC cI cZ a_this a_now a_undos a_seen a_seenAs a_isKept a_kept a_text a_read a_fewest a_doors a_isSo v_undoMany v_undoAt v_seenMany v_letterMany v_readAt v_tokenAt v_token v_value v_faultAt v_readOnce v_greatUpper v_greatLower A_now A_undos A_seen A_seenAs A_isKept A_kept A_text A_read A_fewest A_doors A_isSo (A_now ((1 : Int32)).toNatClampNeg) r2 e2) gg_X11_172 hd_Mo_door ⟨rfl, rfl, Nat.le_of_ble_eq_true rfl, Nat.le_of_ble_eq_true rfl⟩ ⟨Nat.zero_le _, Nat.zero_le _⟩ hP [0, 1, 2, 3, 4, 5, 6, 7, 8, 9, 10, 11] rfl rfl rfl rfl hl.1 rfl (Nat.le_of_ble_eq_true rfl) dX11_late_7 (fun n2 => ?_)
  refine lv_istore_n (lv' := [(1, .int r2), (0, .ref a_this)]) hx hb dX11_late_10 rfl hl (by decide) rfl (fun ls hl => ?_)
  refine lv_bipush (v := (-9 : Int32)) hx hb dX11_late_11 rfl ?_
  refine lv_istore_n (lv' := [(2, .int (-9 : Int32)), (1, .int r2), (0, .ref a_this)]) hx hb dX11_late_13 rfl hl (by decide) rfl (fun ls hl => ?_)
  refine lv_iconst (v := (0 : Int32)) hx hb dX11_late_14 rfl ?_
  refine lv_istore_n (lv' := [(3, .int (0 : Int32)), (2, .int (-9 : Int32)), (1, .int r2), (0, .ref a_this)]) hx hb dX11_late_15 rfl hl (by decide) rfl (fun ls hl => ?_)
  have LP16 : ∀ (n : Nat) (y16_2 : Int32) (y16_3 : Int32) (zq16 : Int32), f_Mo_late_L16 r2 A_now n y16_2 y16_3 = some zq16 → ∀ (ls : Array Slot), lv_has ls 6 [(0, .ref a_this), (1, .int r2), (2, .int y16_2), (3, .int y16_3)] → (∀ (ls : Array Slot), lv_has ls 6 [(2, .int zq16)] → W p l e (RM 6 132) s m args below meth c s.heap [] 0 0 Q (F0 m 89 ls [])) → W p l e (RM 6 132) s m args below meth c s.heap [] 0 0 Q (F0 m 16 ls []) := by
    clear h
    intro n
    induction n with
    | zero =>
      intro y16_2 y16_3 zq16 h
      rw [f_Mo_late_L16_0] at h
      cases h
    | succ n ih16 =>
      intro y16_2 y16_3 zq16 h ls hl k16_0
      rw [f_Mo_late_L16_s] at h
      refine lv_iload_n hx hb dX11_late_16 rfl (lv_at hl 3 rfl) ?_
      refine lv_aload_n hx hb dX11_late_17 rfl (lv_at hl 0 rfl) ?_
      refine va_get (ci := 11) (v := .ref a_now) (C := RX11) (T := TX11) (N := 23) hx hb htT inlX11 hown hK hP 0 rfl rfl 0 (by decide) (htT _ q_7_0) (fun _ h9 => h9) rfl dX11_late_18 ?_
      refine lv_iconst (v := (0 : Int32)) hx hb dX11_late_21 rfl ?_
      obtain ⟨g4, h⟩ := gd h
      refine va_iald hx hb hK hP 1 1 rfl rfl (inB_in g4) dX11_late_22 ?_
      refine lv_icmp_ge (tgt := 89) hx hb dX11_late_23 (by decide) (fun c5 => ?_) (fun c5 => ?_)
      · have h := ip c5 h
        obtain rfl := Option.some.inj h
        exact k16_0 _ (lv_sub hl [2] rfl)
      · have h := im c5 h
        refine lv_aload_n hx hb dX11_late_26 rfl (lv_at hl 0 rfl) ?_
        refine lv_iload_n hx hb dX11_late_27 rfl (lv_at hl 3 rfl) ?_
        obtain ⟨r6, e6, h⟩ := bd h
        refine roV X [.int y16_3] [] (c_Mo_isKnown l D cC cI cZ a_this a_now a_undos a_seen a_seenAs a_isKept a_kept a_text a_read a_fewest a_doors a_isSo v_undoMany v_undoAt v_seenMany v_letterMany v_readAt v_tokenAt v_token v_value v_faultAt v_readOnce v_greatUpper v_greatLower A_now A_undos A_seen A_seenAs A_isKept A_kept A_text A_read A_fewest A_doors A_isSo y16_3 r6 e6) gg_X11_130 hd_Mo_isKnown ⟨rfl, rfl, Nat.le_of_ble_eq_true rfl, Nat.le_of_ble_eq_true rfl⟩ ⟨Nat.zero_le _, Nat.zero_le _⟩ hP [0, 1, 2, 3, 4, 5, 6, 7, 8, 9, 10, 11] rfl rfl rfl rfl hl.1 rfl (Nat.le_of_ble_eq_true rfl) dX11_late_28 (fun n6 => ?_)
        refine lv_if_eq (tgt := 83) hx hb dX11_late_31 (by decide) (fun c7 => ?_) (fun c7 => ?_)
        · have h := ip c7 h
          refine lv_iinc (v := (y16_3 + (1 : Int32))) (lv' := [(3, .int (y16_3 + (1 : Int32))), (0, .ref a_this), (1, .int r2), (2, .int y16_2)]) hx hb dX11_late_83 hl (k := 3) rfl rfl (by decide) rfl (fun ls hl => ?_)
          refine lv_goto (tgt := 16) hx hb dX11_late_86 (by decide) ?_
          exact ih16 y16_2 (y16_3 + (1 : Int32)) _ h _ (lv_sub hl [1, 2, 3, 0] rfl) k16_0
        · have h := im c7 h
          refine lv_iload_n hx hb dX11_late_34 rfl (lv_at hl 3 rfl) ?_
          refine lv_istore (lv' := [(4, .int y16_3), (0, .ref a_this), (1, .int r2), (2, .int y16_2), (3, .int y16_3)]) hx hb dX11_late_35 hl (by decide) rfl (fun ls hl => ?_)
          have LP37 : ∀ (n : Nat) (y37_4 : Int32) (zq37 : Int32), f_Mo_late_L37 r2 y16_2 y16_3 n y37_4 = some zq37 → ∀ (ls : Array Slot), lv_has ls 6 [(0, .ref a_this), (1, .int r2), (2, .int y16_2), (3, .int y16_3), (4, .int y37_4)] → (∀ (ls : Array Slot), lv_has ls 6 [(0, .ref a_this), (1, .int r2), (2, .int y16_2), (3, .int y16_3), (4, .int zq37)] → W p l e (RM 6 132) s m args below meth c s.heap [] 0 0 Q (F0 m 52 ls [])) → W p l e (RM 6 132) s m args below meth c s.heap [] 0 0 Q (F0 m 37 ls []) := by
            clear h
            intro n
            induction n with
            | zero =>
              intro y37_4 zq37 h
              rw [f_Mo_late_L37_0] at h
              cases h
            | succ n ih37 =>
              intro y37_4 zq37 h ls hl k37_0
              rw [f_Mo_late_L37_s] at h
              refine lv_iload_n hx hb dX11_late_37 rfl (lv_at hl 1 rfl) ?_
              refine lv_iload hx hb dX11_late_38 (lv_at hl 4 rfl) ?_
              refine roS X [.int r2, .int y37_4] [] (c_Mo_has l D cC cI cZ r2 y37_4 _ rfl) gg_X11_87 hd_Mo_has ⟨rfl, rfl, Nat.le_of_ble_eq_true rfl, Nat.le_of_ble_eq_true rfl⟩ ⟨Nat.zero_le _, Nat.zero_le _⟩ hP [] rfl hl.1 rfl (Nat.le_of_ble_eq_true rfl) dX11_late_40 (fun n9 => ?_)
              refine lv_if_ne (tgt := 52) hx hb dX11_late_43 (by decide) (fun c10 => ?_) (fun c10 => ?_)
              · have h := im c10 h
                obtain rfl := Option.some.inj h
                exact k37_0 _ (lv_sub hl [0, 1, 2, 3, 4] rfl)
              · have h := ip c10 h
                refine lv_iinc (v := (y37_4 + (1 : Int32))) (lv' := [(4, .int (y37_4 + (1 : Int32))), (0, .ref a_this), (1, .int r2), (2, .int y16_2), (3, .int y16_3)]) hx hb dX11_late_46 hl (k := 4) rfl rfl (by decide) rfl (fun ls hl => ?_)
                refine lv_goto (tgt := 37) hx hb dX11_late_49 (by decide) ?_
                exact ih37 (y37_4 + (1 : Int32)) _ h _ (lv_sub hl [1, 2, 3, 4, 0] rfl) k37_0
          obtain ⟨z8, e8, h⟩ := bd h
          refine LP37 fu y16_3 z8 e8 _ (lv_sub hl [1, 2, 3, 4, 0] rfl) ?_
          intro ls hl
          refine lv_aload_n hx hb dX11_late_52 rfl (lv_at hl 0 rfl) ?_
          refine lv_iload_n hx hb dX11_late_53 rfl (lv_at hl 1 rfl) ?_
          refine lv_iload hx hb dX11_late_54 (lv_at hl 4 rfl) ?_
          obtain ⟨r11, e11, h⟩ := bd h
          refine roV X [.int r2, .int z8] [] (c_Mo_sentAt l D cC cI cZ a_this a_now a_undos a_seen a_seenAs a_isKept a_kept a_text a_read a_fewest a_doors a_isSo v_undoMany v_undoAt v_seenMany v_letterMany v_readAt v_tokenAt v_token v_value v_faultAt v_readOnce v_greatUpper v_greatLower A_now A_undos A_seen A_seenAs A_isKept A_kept A_text A_read A_fewest A_doors A_isSo r2 z8 r11 e11) gg_X11_189 hd_Mo_sentAt ⟨rfl, rfl, Nat.le_of_ble_eq_true rfl, Nat.le_of_ble_eq_true rfl⟩ ⟨Nat.zero_le _, Nat.zero_le _⟩ hP [0, 1, 2, 3, 4, 5, 6, 7, 8, 9, 10, 11] rfl rfl rfl rfl hl.1 rfl (Nat.le_of_ble_eq_true rfl) dX11_late_56 (fun n11 => ?_)
          refine lv_aload_n hx hb dX11_late_59 rfl (lv_at hl 0 rfl) ?_
          refine va_get (ci := 11) (v := .ref a_now) (C := RX11) (T := TX11) (N := 23) hx hb htT inlX11 hown hK hP 0 rfl rfl 0 (by decide) (htT _ q_7_0) (fun _ h9 => h9) rfl dX11_late_60 ?_
          refine lv_iconst (v := (3 : Int32)) hx hb dX11_late_63 rfl ?_
          refine lv_iload_n hx hb dX11_late_64 rfl (lv_at hl 3 rfl) ?_
          refine lv_iadd hx hb dX11_late_65 ?_
          obtain ⟨g12, h⟩ := gd h
          refine va_iald hx hb hK hP 1 1 rfl rfl (inB_in g12) dX11_late_66 ?_
          refine lv_isub hx hb dX11_late_67 ?_
          refine lv_istore (lv' := [(5, .int (r11 - (A_now (((3 : Int32) + y16_3)).toNatClampNeg))), (0, .ref a_this), (1, .int r2), (2, .int y16_2), (3, .int y16_3), (4, .int z8)]) hx hb dX11_late_68 hl (by decide) rfl (fun ls hl => ?_)
          refine lv_iload hx hb dX11_late_70 (lv_at hl 0 rfl) ?_
          refine lv_iload_n hx hb dX11_late_72 rfl (lv_at hl 3 rfl) ?_
          refine lv_icmp_le (tgt := 81) hx hb dX11_late_73 (by decide) (fun c13 => ?_) (fun c13 => ?_)
          · have h := ip c13 h
            refine lv_iload_n hx hb dX11_late_81 rfl (lv_at hl 3 rfl) ?_
            refine lv_istore_n (lv' := [(2, .int y16_2), (5, .int (r11 - (A_now (((3 : Int32) + y16_3)).toNatClampNeg))), (0, .ref a_this), (1, .int r2), (3, .int y16_3), (4, .int z8)]) hx hb dX11_late_82 rfl hl (by decide) rfl (fun ls hl => ?_)
            refine lv_iinc (v := (y16_3 + (1 : Int32))) (lv' := [(3, .int (y16_3 + (1 : Int32))), (2, .int y16_2), (5, .int (r11 - (A_now (((3 : Int32) + y16_3)).toNatClampNeg))), (0, .ref a_this), (1, .int r2), (4, .int z8)]) hx hb dX11_late_83 hl (k := 4) rfl rfl (by decide) rfl (fun ls hl => ?_)
            refine lv_goto (tgt := 16) hx hb dX11_late_86 (by decide) ?_
            exact ih16 y16_2 (y16_3 + (1 : Int32)) _ h _ (lv_sub hl [3, 4, 1, 0] rfl) k16_0
          · have h := im c13 h
            refine lv_iload hx hb dX11_late_76 (lv_at hl 0 rfl) ?_
            refine lv_goto (tgt := 82) hx hb dX11_late_78 (by decide) ?_
            refine lv_istore_n (lv' := [(2, .int (r11 - (A_now (((3 : Int32) + y16_3)).toNatClampNeg))), (5, .int (r11 - (A_now (((3 : Int32) + y16_3)).toNatClampNeg))), (0, .ref a_this), (1, .int r2), (3, .int y16_3), (4, .int z8)]) hx hb dX11_late_82 rfl hl (by decide) rfl (fun ls hl => ?_)
            refine lv_iinc (v := (y16_3 + (1 : Int32))) (lv' := [(3, .int (y16_3 + (1 : Int32))), (2, .int (r11 - (A_now (((3 : Int32) + y16_3)).toNatClampNeg))), (5, .int (r11 - (A_now (((3 : Int32) + y16_3)).toNatClampNeg))), (0, .ref a_this), (1, .int r2), (4, .int z8)]) hx hb dX11_late_83 hl (k := 4) rfl rfl (by decide) rfl (fun ls hl => ?_)
            refine lv_goto (tgt := 16) hx hb dX11_late_86 (by decide) ?_
            exact ih16 (r11 - (A_now (((3 : Int32) + y16_3)).toNatClampNeg)) (y16_3 + (1 : Int32)) _ h _ (lv_sub hl [3, 4, 1, 0] rfl) k16_0
  obtain ⟨z3, e3, h⟩ := bd h
  refine LP16 fu (-9 : Int32) (0 : Int32) z3 e3 _ (lv_sub hl [3, 2, 1, 0] rfl) ?_
  intro ls hl
  refine lv_iload_n hx hb dX11_late_89 rfl (lv_at hl 0 rfl) ?_
  exact hret _ _ _ dX11_late_90 (Option.some.inj h) rfl
set_option maxHeartbeats 4000000 in
set_option maxRecDepth 100000 in
theorem c_Mo_count (l : Launch) (D : va_G) (cC cI cZ : ClassId) (a_this : Nat) (a_now : Nat) (a_undos : Nat) (a_seen : Nat) (a_seenAs : Nat) (a_isKept : Nat) (a_kept : Nat) (a_text : Nat) (a_read : Nat) (a_fewest : Nat) (a_doors : Nat) (a_isSo : Nat) (v_undoMany : Int32) (v_undoAt : Int32) (v_seenMany : Int32) (v_letterMany : Int32) (v_readAt : Int32) (v_tokenAt : Int32) (v_token : Int32) (v_value : Int32) (v_faultAt : Int32) (v_readOnce : Int32) (v_greatUpper : Int64) (v_greatLower : Int64) (A_now : Nat → Int32) (A_undos : Nat → Int32) (A_seen : Nat → Int32) (A_seenAs : Nat → Int32) (A_isKept : Nat → Int32) (A_kept : Nat → Int32) (A_text : Nat → Int32) (A_read : Nat → Int32) (A_fewest : Nat → Int32) (A_doors : Nat → Int32) (A_isSo : Nat → Int32) (p1 : Int32) (sz : Nat) (z : Int32 × Int64 × Int64 × (Nat → Int32)) (h : f_Mo_count v_undoMany v_seenMany v_letterMany v_greatUpper v_greatLower A_now A_fewest p1 = some z) : Met l yX11_count (.code yX11_count cX11_count 2 (some .int) :: TBL) (RM 7 157) (PcM [.ref a_this, .int p1] sz D (TY cC cI cZ) (k_Mo cC cI cZ a_this a_now a_undos a_seen a_seenAs a_isKept a_kept a_text a_read a_fewest a_doors a_isSo v_undoMany v_undoAt v_seenMany v_letterMany v_readAt v_tokenAt v_token v_value v_faultAt v_readOnce v_greatUpper v_greatLower A_now A_undos A_seen A_seenAs A_isKept A_kept A_text A_read A_fewest A_doors A_isSo)) (fun a st o t => QM (some (.int z.1)) D (k_Mo cC cI cZ a_this a_now a_undos a_seen a_seenAs a_isKept a_kept a_text a_read a_fewest a_doors a_isSo v_undoMany v_undoAt v_seenMany v_letterMany v_readAt v_tokenAt v_token v_value v_faultAt v_readOnce z.2.1 z.2.2.1 A_now A_undos A_seen A_seenAs A_isKept A_kept A_text A_read z.2.2.2 A_doors A_isSo) (va_A (k_Mo cC cI cZ a_this a_now a_undos a_seen a_seenAs a_isKept a_kept a_text a_read a_fewest a_doors a_isSo v_undoMany v_undoAt v_seenMany v_letterMany v_readAt v_tokenAt v_token v_value v_faultAt v_readOnce v_greatUpper v_greatLower A_now A_undos A_seen A_seenAs A_isKept A_kept A_text A_read A_fewest A_doors A_isSo) sz) a st o t ∧ narrow .int (.int z.1) = .int z.1) 0 0 (va_A (k_Mo cC cI cZ a_this a_now a_undos a_seen a_seenAs a_isKept a_kept a_text a_read a_fewest a_doors a_isSo v_undoMany v_undoAt v_seenMany v_letterMany v_readAt v_tokenAt v_token v_value v_faultAt v_readOnce v_greatUpper v_greatLower A_now A_undos A_seen A_seenAs A_isKept A_kept A_text A_read A_fewest A_doors A_isSo) sz) := by
  refine muOf (by decide) (Nat.le_of_ble_eq_true rfl) rfl ?_
  intro p e s m args below meth c Q ls A X hP hD hS hA hl hret
  have X : Ctx p s m args c cX11_count 2 RX11 D (TY cC cI cZ) := X
  obtain ⟨hx, hb, hml, hown, htT, hK, hN⟩ := id X
  unfold f_Mo_count at h
  refine lv_iload_n hx hb dX11_count_0 rfl (lv_at hl 1 rfl) ?_
  by_cases c1 : p1 = (0 : Int32)
  · have h := ip c1 h
    refine lv_tableIn (off := 59) (tgt := 60) hx hb dX11_count_1 (by rw [c1]; decide) (by rw [c1]; decide) (by rw [c1]; rfl) (by decide) ?_
    refine lv_aload_n hx hb dX11_count_60 rfl (lv_at hl 0 rfl) ?_
    refine va_get (ci := 11) (v := .ref a_now) (C := RX11) (T := TX11) (N := 23) hx hb htT inlX11 hown hK hP 0 rfl rfl 0 (by decide) (htT _ q_7_0) (fun _ h9 => h9) rfl dX11_count_61 ?_
    refine lv_iconst (v := (0 : Int32)) hx hb dX11_count_64 rfl ?_
    obtain ⟨g2, h⟩ := gd h
    refine va_iald hx hb hK hP 1 1 rfl rfl (inB_in g2) dX11_count_65 ?_
    obtain rfl := Option.some.inj h
    exact hret _ _ _ _ _ hP hS dX11_count_66 rfl rfl
  · have h := im c1 h
    by_cases c3 : p1 = (1 : Int32)
    · have h := ip c3 h
      refine lv_tableIn (off := 66) (tgt := 67) hx hb dX11_count_1 (by rw [c3]; decide) (by rw [c3]; decide) (by rw [c3]; rfl) (by decide) ?_
      refine lv_aload_n hx hb dX11_count_67 rfl (lv_at hl 0 rfl) ?_
      refine va_get (ci := 11) (v := .ref a_now) (C := RX11) (T := TX11) (N := 23) hx hb htT inlX11 hown hK hP 0 rfl rfl 0 (by decide) (htT _ q_7_0) (fun _ h9 => h9) rfl dX11_count_68 ?_
      refine lv_iconst (v := (1 : Int32)) hx hb dX11_count_71 rfl ?_
      obtain ⟨g4, h⟩ := gd h
      refine va_iald hx hb hK hP 1 1 rfl rfl (inB_in g4) dX11_count_72 ?_
      obtain rfl := Option.some.inj h
      exact hret _ _ _ _ _ hP hS dX11_count_73 rfl rfl
    · have h := im c3 h
      by_cases c5 : p1 = (2 : Int32)
      · have h := ip c5 h
        refine lv_tableIn (off := 73) (tgt := 74) hx hb dX11_count_1 (by rw [c5]; decide) (by rw [c5]; decide) (by rw [c5]; rfl) (by decide) ?_
        refine lv_aload_n hx hb dX11_count_74 rfl (lv_at hl 0 rfl) ?_
        refine va_get (ci := 11) (v := .ref a_now) (C := RX11) (T := TX11) (N := 23) hx hb htT inlX11 hown hK hP 0 rfl rfl 0 (by decide) (htT _ q_7_0) (fun _ h9 => h9) rfl dX11_count_75 ?_
        refine lv_iconst (v := (2 : Int32)) hx hb dX11_count_78 rfl ?_
        obtain ⟨g6, h⟩ := gd h
        refine va_iald hx hb hK hP 1 1 rfl rfl (inB_in g6) dX11_count_79 ?_
        obtain rfl := Option.some.inj h
        exact hret _ _ _ _ _ hP hS dX11_count_80 rfl rfl
      · have h := im c5 h
        by_cases c7 : p1 = (3 : Int32)
        · have h := ip c7 h
          refine lv_tableIn (off := 80) (tgt := 81) hx hb dX11_count_1 (by rw [c7]; decide) (by rw [c7]; decide) (by rw [c7]; rfl) (by decide) ?_
          refine lv_aload_n hx hb dX11_count_81 rfl (lv_at hl 0 rfl) ?_
          obtain ⟨r8, e8, h⟩ := bd h
          refine roV X [] [] (c_Mo_stretches l D cC cI cZ a_this a_now a_undos a_seen a_seenAs a_isKept a_kept a_text a_read a_fewest a_doors a_isSo v_undoMany v_undoAt v_seenMany v_letterMany v_readAt v_tokenAt v_token v_value v_faultAt v_readOnce v_greatUpper v_greatLower A_now A_undos A_seen A_seenAs A_isKept A_kept A_text A_read A_fewest A_doors A_isSo r8 e8) gg_X11_202 hd_Mo_stretches ⟨rfl, rfl, Nat.le_of_ble_eq_true rfl, Nat.le_of_ble_eq_true rfl⟩ ⟨Nat.zero_le _, Nat.zero_le _⟩ hP [0, 1, 2, 3, 4, 5, 6, 7, 8, 9, 10, 11] rfl rfl rfl rfl hl.1 rfl (Nat.le_of_ble_eq_true rfl) dX11_count_82 (fun n8 => ?_)
          obtain rfl := Option.some.inj h
          exact hret _ _ _ _ _ hP hS dX11_count_85 rfl rfl
        · have h := im c7 h
          by_cases c9 : p1 = (4 : Int32)
          · have h := ip c9 h
            refine lv_tableIn (off := 85) (tgt := 86) hx hb dX11_count_1 (by rw [c9]; decide) (by rw [c9]; decide) (by rw [c9]; rfl) (by decide) ?_
            refine lv_aload_n hx hb dX11_count_86 rfl (lv_at hl 0 rfl) ?_
            refine lv_aload_n hx hb dX11_count_87 rfl (lv_at hl 0 rfl) ?_
            refine va_get (ci := 11) (v := .ref a_now) (C := RX11) (T := TX11) (N := 23) hx hb htT inlX11 hown hK hP 0 rfl rfl 0 (by decide) (htT _ q_7_0) (fun _ h9 => h9) rfl dX11_count_88 ?_
            refine lv_iconst (v := (1 : Int32)) hx hb dX11_count_91 rfl ?_
            obtain ⟨g10, h⟩ := gd h
            refine va_iald hx hb hK hP 1 1 rfl rfl (inB_in g10) dX11_count_92 ?_
            obtain ⟨r11, e11, h⟩ := bd h
            refine roV X [.int (A_now ((1 : Int32)).toNatClampNeg)] [] (c_Mo_door l D cC cI cZ a_this a_now a_undos a_seen a_seenAs a_isKept a_kept a_text a_read a_fewest a_doors a_isSo v_undoMany v_undoAt v_seenMany v_letterMany v_readAt v_tokenAt v_token v_value v_faultAt v_readOnce v_greatUpper v_greatLower A_now A_undos A_seen A_seenAs A_isKept A_kept A_text A_read A_fewest A_doors A_isSo (A_now ((1 : Int32)).toNatClampNeg) r11 e11) gg_X11_172 hd_Mo_door ⟨rfl, rfl, Nat.le_of_ble_eq_true rfl, Nat.le_of_ble_eq_true rfl⟩ ⟨Nat.zero_le _, Nat.zero_le _⟩ hP [0, 1, 2, 3, 4, 5, 6, 7, 8, 9, 10, 11] rfl rfl rfl rfl hl.1 rfl (Nat.le_of_ble_eq_true rfl) dX11_count_93 (fun n11 => ?_)
            obtain ⟨r12, e12, h⟩ := bd h
            refine roS X [.int r11] [] (c_Mo_bits l D cC cI cZ r11 r12 e12) gg_X11_186 hd_Mo_bits ⟨rfl, rfl, Nat.le_of_ble_eq_true rfl, Nat.le_of_ble_eq_true rfl⟩ ⟨Nat.zero_le _, Nat.zero_le _⟩ hP [] rfl hl.1 rfl (Nat.le_of_ble_eq_true rfl) dX11_count_96 (fun n12 => ?_)
            obtain rfl := Option.some.inj h
            exact hret _ _ _ _ _ hP hS dX11_count_99 rfl rfl
          · have h := im c9 h
            by_cases c13 : p1 = (5 : Int32)
            · have h := ip c13 h
              refine lv_tableIn (off := 99) (tgt := 100) hx hb dX11_count_1 (by rw [c13]; decide) (by rw [c13]; decide) (by rw [c13]; rfl) (by decide) ?_
              refine lv_aload_n hx hb dX11_count_100 rfl (lv_at hl 0 rfl) ?_
              obtain ⟨z14, e14, h⟩ := bd h
              refine muV (ws' := (k_Mo cC cI cZ a_this a_now a_undos a_seen a_seenAs a_isKept a_kept a_text a_read a_fewest a_doors a_isSo v_undoMany v_undoAt v_seenMany v_letterMany v_readAt v_tokenAt v_token v_value v_faultAt v_readOnce z14.2.1 z14.2.2 A_now A_undos A_seen A_seenAs A_isKept A_kept A_text A_read A_fewest A_doors A_isSo)) X [] [] (c_Mo_pieces l D cC cI cZ a_this a_now a_undos a_seen a_seenAs a_isKept a_kept a_text a_read a_fewest a_doors a_isSo v_undoMany v_undoAt v_seenMany v_letterMany v_readAt v_tokenAt v_token v_value v_faultAt v_readOnce v_greatUpper v_greatLower A_now A_undos A_seen A_seenAs A_isKept A_kept A_text A_read A_fewest A_doors A_isSo _ z14 e14) gg_X11_180 hd_Mo_pieces ⟨rfl, rfl, Nat.le_of_ble_eq_true rfl, Nat.le_of_ble_eq_true rfl⟩ ⟨Nat.zero_le _, Nat.zero_le _⟩ hP hD hS hA [0, 1, 2, 3, 4, 5, 6, 7, 8, 9, 10, 11] [] [0, 1, 2, 3, 4, 5, 6, 7, 8, 9, 10, 11] rfl rfl (by decide) (by decide) rfl rfl rfl rfl rfl hl.1 rfl (Nat.le_of_ble_eq_true rfl) dX11_count_101 (fun H locs hP hD hS n14 => ?_)
              obtain ⟨r15, e15, h⟩ := bd h
              refine roS X [.int z14.1] [] (c_Mo_bits l D cC cI cZ z14.1 r15 e15) gg_X11_186 hd_Mo_bits ⟨rfl, rfl, Nat.le_of_ble_eq_true rfl, Nat.le_of_ble_eq_true rfl⟩ ⟨Nat.zero_le _, Nat.zero_le _⟩ hP [] rfl hl.1 rfl (Nat.le_of_ble_eq_true rfl) dX11_count_104 (fun n15 => ?_)
              obtain rfl := Option.some.inj h
              exact hret _ _ _ _ _ hP hS dX11_count_107 rfl rfl
            · have h := im c13 h
              by_cases c16 : p1 = (6 : Int32)
              · have h := ip c16 h
                refine lv_tableIn (off := 107) (tgt := 108) hx hb dX11_count_1 (by rw [c16]; decide) (by rw [c16]; decide) (by rw [c16]; rfl) (by decide) ?_
                refine lv_aload_n hx hb dX11_count_108 rfl (lv_at hl 0 rfl) ?_
                obtain ⟨z17, e17, h⟩ := bd h
                refine muV (ws' := (k_Mo cC cI cZ a_this a_now a_undos a_seen a_seenAs a_isKept a_kept a_text a_read a_fewest a_doors a_isSo v_undoMany v_undoAt v_seenMany v_letterMany v_readAt v_tokenAt v_token v_value v_faultAt v_readOnce v_greatUpper v_greatLower A_now A_undos A_seen A_seenAs A_isKept A_kept A_text A_read z17.2 A_doors A_isSo)) X [] [] (c_Mo_least l D cC cI cZ a_this a_now a_undos a_seen a_seenAs a_isKept a_kept a_text a_read a_fewest a_doors a_isSo v_undoMany v_undoAt v_seenMany v_letterMany v_readAt v_tokenAt v_token v_value v_faultAt v_readOnce v_greatUpper v_greatLower A_now A_undos A_seen A_seenAs A_isKept A_kept A_text A_read A_fewest A_doors A_isSo _ z17 e17) gg_X11_176 hd_Mo_least ⟨rfl, rfl, Nat.le_of_ble_eq_true rfl, Nat.le_of_ble_eq_true rfl⟩ ⟨Nat.zero_le _, Nat.zero_le _⟩ hP hD hS hA [0, 1, 2, 3, 4, 5, 6, 7, 8, 9, 10, 11] [] [0, 1, 2, 3, 4, 5, 6, 7, 8, 9, 10, 11] rfl rfl (by decide) (by decide) rfl rfl rfl rfl rfl hl.1 rfl (Nat.le_of_ble_eq_true rfl) dX11_count_109 (fun H locs hP hD hS n17 => ?_)
                obtain ⟨r18, e18, h⟩ := bd h
                refine roS X [.int z17.1] [] (c_Mo_bits l D cC cI cZ z17.1 r18 e18) gg_X11_186 hd_Mo_bits ⟨rfl, rfl, Nat.le_of_ble_eq_true rfl, Nat.le_of_ble_eq_true rfl⟩ ⟨Nat.zero_le _, Nat.zero_le _⟩ hP [] rfl hl.1 rfl (Nat.le_of_ble_eq_true rfl) dX11_count_112 (fun n18 => ?_)
                obtain rfl := Option.some.inj h
                exact hret _ _ _ _ _ hP hS dX11_count_115 rfl rfl
              · have h := im c16 h
                by_cases c19 : p1 = (7 : Int32)
                · have h := ip c19 h
                  refine lv_tableIn (off := 115) (tgt := 116) hx hb dX11_count_1 (by rw [c19]; decide) (by rw [c19]; decide) (by rw [c19]; rfl) (by decide) ?_
                  refine lv_aload_n hx hb dX11_count_116 rfl (lv_at hl 0 rfl) ?_
                  obtain ⟨r20, e20, h⟩ := bd h
                  refine roV X [] [] (c_Mo_late l D cC cI cZ a_this a_now a_undos a_seen a_seenAs a_isKept a_kept a_text a_read a_fewest a_doors a_isSo v_undoMany v_undoAt v_seenMany v_letterMany v_readAt v_tokenAt v_token v_value v_faultAt v_readOnce v_greatUpper v_greatLower A_now A_undos A_seen A_seenAs A_isKept A_kept A_text A_read A_fewest A_doors A_isSo r20 e20) gg_X11_205 hd_Mo_late ⟨rfl, rfl, Nat.le_of_ble_eq_true rfl, Nat.le_of_ble_eq_true rfl⟩ ⟨Nat.zero_le _, Nat.zero_le _⟩ hP [0, 1, 2, 3, 4, 5, 6, 7, 8, 9, 10, 11] rfl rfl rfl rfl hl.1 rfl (Nat.le_of_ble_eq_true rfl) dX11_count_117 (fun n20 => ?_)
                  obtain rfl := Option.some.inj h
                  exact hret _ _ _ _ _ hP hS dX11_count_120 rfl rfl
                · have h := im c19 h
                  by_cases c21 : p1 = (8 : Int32)
                  · have h := ip c21 h
                    refine lv_tableIn (off := 120) (tgt := 121) hx hb dX11_count_1 (by rw [c21]; decide) (by rw [c21]; decide) (by rw [c21]; rfl) (by decide) ?_
                    refine lv_aload_n hx hb dX11_count_121 rfl (lv_at hl 0 rfl) ?_
                    refine va_get (ci := 11) (v := .int v_seenMany) (C := RX11) (T := TX11) (N := 23) hx hb htT inlX11 hown hK hP 0 rfl rfl 4 (by decide) (htT _ q_14_1) (fun _ h9 => h9) rfl dX11_count_122 ?_
                    obtain rfl := Option.some.inj h
                    exact hret _ _ _ _ _ hP hS dX11_count_125 rfl rfl
                  · have h := im c21 h
                    by_cases c22 : p1 = (9 : Int32)
                    · have h := ip c22 h
                      refine lv_tableIn (off := 125) (tgt := 126) hx hb dX11_count_1 (by rw [c22]; decide) (by rw [c22]; decide) (by rw [c22]; rfl) (by decide) ?_
                      refine lv_aload_n hx hb dX11_count_126 rfl (lv_at hl 0 rfl) ?_
                      refine va_get (ci := 11) (v := .int v_letterMany) (C := RX11) (T := TX11) (N := 23) hx hb htT inlX11 hown hK hP 0 rfl rfl 9 (by decide) (htT _ q_8_11) (fun _ h9 => h9) rfl dX11_count_127 ?_
                      obtain rfl := Option.some.inj h
                      exact hret _ _ _ _ _ hP hS dX11_count_130 rfl rfl
                    · have h := im c22 h
                      by_cases c23 : p1 = (10 : Int32)
                      · have h := ip c23 h
                        refine lv_tableIn (off := 130) (tgt := 131) hx hb dX11_count_1 (by rw [c23]; decide) (by rw [c23]; decide) (by rw [c23]; rfl) (by decide) ?_
                        refine lv_aload_n hx hb dX11_count_131 rfl (lv_at hl 0 rfl) ?_
                        refine va_get (ci := 11) (v := .int v_undoMany) (C := RX11) (T := TX11) (N := 23) hx hb htT inlX11 hown hK hP 0 rfl rfl 1 (by decide) (htT _ q_14_0) (fun _ h9 => h9) rfl dX11_count_132 ?_
                        obtain rfl := Option.some.inj h
                        exact hret _ _ _ _ _ hP hS dX11_count_135 rfl rfl
                      · have h := im c23 h
                        refine lv_tableOut (tgt := 136) hx hb dX11_count_1 (by have t0 : ¬ (p1).toInt = 0 := lv_neT c1 (by decide); have t1 : ¬ (p1).toInt = 1 := lv_neT c3 (by decide); have t2 : ¬ (p1).toInt = 2 := lv_neT c5 (by decide); have t3 : ¬ (p1).toInt = 3 := lv_neT c7 (by decide); have t4 : ¬ (p1).toInt = 4 := lv_neT c9 (by decide); have t5 : ¬ (p1).toInt = 5 := lv_neT c13 (by decide); have t6 : ¬ (p1).toInt = 6 := lv_neT c16 (by decide); have t7 : ¬ (p1).toInt = 7 := lv_neT c19 (by decide); have t8 : ¬ (p1).toInt = 8 := lv_neT c21 (by decide); have t9 : ¬ (p1).toInt = 9 := lv_neT c22 (by decide); have t10 : ¬ (p1).toInt = 10 := lv_neT c23 (by decide); omega) (by decide) ?_
                        refine lv_iconst (v := (-1 : Int32)) hx hb dX11_count_136 rfl ?_
                        obtain rfl := Option.some.inj h
                        exact hret _ _ _ _ _ hP hS dX11_count_137 rfl rfl
set_option maxHeartbeats 4000000 in
set_option maxRecDepth 100000 in
theorem c_Mo_delays (l : Launch) (D : va_G) (cC cI cZ : ClassId) (a_this : Nat) (a_now : Nat) (a_undos : Nat) (a_seen : Nat) (a_seenAs : Nat) (a_isKept : Nat) (a_kept : Nat) (a_text : Nat) (a_read : Nat) (a_fewest : Nat) (a_doors : Nat) (a_isSo : Nat) (v_undoMany : Int32) (v_undoAt : Int32) (v_seenMany : Int32) (v_letterMany : Int32) (v_readAt : Int32) (v_tokenAt : Int32) (v_token : Int32) (v_value : Int32) (v_faultAt : Int32) (v_readOnce : Int32) (v_greatUpper : Int64) (v_greatLower : Int64) (A_now : Nat → Int32) (A_undos : Nat → Int32) (A_seen : Nat → Int32) (A_seenAs : Nat → Int32) (A_isKept : Nat → Int32) (A_kept : Nat → Int32) (A_text : Nat → Int32) (A_read : Nat → Int32) (A_fewest : Nat → Int32) (A_doors : Nat → Int32) (A_isSo : Nat → Int32) (p1 : Int32) (sz : Nat) (z : Int32 × Int32 × Int32 × (Nat → Int32) × (Nat → Int32)) (h : f_Mo_delays v_undoMany v_undoAt A_now A_undos p1 = some z) : Met l yX11_delays (.code yX11_delays cX11_delays 2 (some .int) :: TBL) (RM 2 44) (PcM [.ref a_this, .int p1] sz D (TY cC cI cZ) (k_Mo cC cI cZ a_this a_now a_undos a_seen a_seenAs a_isKept a_kept a_text a_read a_fewest a_doors a_isSo v_undoMany v_undoAt v_seenMany v_letterMany v_readAt v_tokenAt v_token v_value v_faultAt v_readOnce v_greatUpper v_greatLower A_now A_undos A_seen A_seenAs A_isKept A_kept A_text A_read A_fewest A_doors A_isSo)) (fun a st o t => QM (some (.int z.1)) D (k_Mo cC cI cZ a_this a_now a_undos a_seen a_seenAs a_isKept a_kept a_text a_read a_fewest a_doors a_isSo z.2.1 z.2.2.1 v_seenMany v_letterMany v_readAt v_tokenAt v_token v_value v_faultAt v_readOnce v_greatUpper v_greatLower z.2.2.2.1 z.2.2.2.2 A_seen A_seenAs A_isKept A_kept A_text A_read A_fewest A_doors A_isSo) (va_A (k_Mo cC cI cZ a_this a_now a_undos a_seen a_seenAs a_isKept a_kept a_text a_read a_fewest a_doors a_isSo v_undoMany v_undoAt v_seenMany v_letterMany v_readAt v_tokenAt v_token v_value v_faultAt v_readOnce v_greatUpper v_greatLower A_now A_undos A_seen A_seenAs A_isKept A_kept A_text A_read A_fewest A_doors A_isSo) sz) a st o t ∧ narrow .int (.int z.1) = .int z.1) 0 0 (va_A (k_Mo cC cI cZ a_this a_now a_undos a_seen a_seenAs a_isKept a_kept a_text a_read a_fewest a_doors a_isSo v_undoMany v_undoAt v_seenMany v_letterMany v_readAt v_tokenAt v_token v_value v_faultAt v_readOnce v_greatUpper v_greatLower A_now A_undos A_seen A_seenAs A_isKept A_kept A_text A_read A_fewest A_doors A_isSo) sz) := by
  refine muOf (by decide) (Nat.le_of_ble_eq_true rfl) rfl ?_
  intro p e s m args below meth c Q ls A X hP hD hS hA hl hret
  have X : Ctx p s m args c cX11_delays 2 RX11 D (TY cC cI cZ) := X
  obtain ⟨hx, hb, hml, hown, htT, hK, hN⟩ := id X
  unfold f_Mo_delays at h
  refine lv_iload_n hx hb dX11_delays_0 rfl (lv_at hl 1 rfl) ?_
  refine lv_iconst (v := (1 : Int32)) hx hb dX11_delays_1 rfl ?_
  refine lv_bipush (v := (14 : Int32)) hx hb dX11_delays_2 rfl ?_
  refine roS X [.int p1, .int (1 : Int32), .int (14 : Int32)] [] (c_Mo_in l D cC cI cZ p1 (1 : Int32) (14 : Int32) _ rfl) gg_X11_48 hd_Mo_in ⟨rfl, rfl, Nat.le_of_ble_eq_true rfl, Nat.le_of_ble_eq_true rfl⟩ ⟨Nat.zero_le _, Nat.zero_le _⟩ hP [] rfl hl.1 rfl (Nat.le_of_ble_eq_true rfl) dX11_delays_4 (fun n1 => ?_)
  refine lv_if_eq (tgt := 19) hx hb dX11_delays_7 (by decide) (fun c2 => ?_) (fun c2 => ?_)
  · have h := ip c2 h
    refine lv_iconst (v := (-1 : Int32)) hx hb dX11_delays_19 rfl ?_
    obtain rfl := Option.some.inj h
    exact hret _ _ _ _ _ hP hS dX11_delays_20 rfl rfl
  · have h := im c2 h
    refine lv_aload_n hx hb dX11_delays_10 rfl (lv_at hl 0 rfl) ?_
    refine lv_iconst (v := (2 : Int32)) hx hb dX11_delays_11 rfl ?_
    refine lv_iload_n hx hb dX11_delays_12 rfl (lv_at hl 1 rfl) ?_
    obtain ⟨z3, e3, h⟩ := bd h
    refine muV (ws' := (k_Mo cC cI cZ a_this a_now a_undos a_seen a_seenAs a_isKept a_kept a_text a_read a_fewest a_doors a_isSo z3.2.1 z3.2.2.1 v_seenMany v_letterMany v_readAt v_tokenAt v_token v_value v_faultAt v_readOnce v_greatUpper v_greatLower z3.2.2.2.1 z3.2.2.2.2 A_seen A_seenAs A_isKept A_kept A_text A_read A_fewest A_doors A_isSo)) X [.int (2 : Int32), .int p1] [] (c_Mo_becomes l D cC cI cZ a_this a_now a_undos a_seen a_seenAs a_isKept a_kept a_text a_read a_fewest a_doors a_isSo v_undoMany v_undoAt v_seenMany v_letterMany v_readAt v_tokenAt v_token v_value v_faultAt v_readOnce v_greatUpper v_greatLower A_now A_undos A_seen A_seenAs A_isKept A_kept A_text A_read A_fewest A_doors A_isSo (2 : Int32) p1 _ z3 e3) gg_X11_127 hd_Mo_becomes ⟨rfl, rfl, Nat.le_of_ble_eq_true rfl, Nat.le_of_ble_eq_true rfl⟩ ⟨Nat.zero_le _, Nat.zero_le _⟩ hP hD hS hA [0, 1, 2, 3, 4, 5, 6, 7, 8, 9, 10, 11] [] [0, 1, 2, 3, 4, 5, 6, 7, 8, 9, 10, 11] rfl rfl (by decide) (by decide) rfl rfl rfl rfl rfl hl.1 rfl (Nat.le_of_ble_eq_true rfl) dX11_delays_13 (fun H locs hP hD hS n3 => ?_)
    refine lv_goto (tgt := 20) hx hb dX11_delays_16 (by decide) ?_
    obtain rfl := Option.some.inj h
    exact hret _ _ _ _ _ hP hS dX11_delays_20 rfl rfl

set_option maxHeartbeats 4000000 in
set_option maxRecDepth 100000 in
theorem c_Mo_isFigure (l : Launch) (D : va_G) (cC cI cZ : ClassId) (a_this : Nat) (a_now : Nat) (a_undos : Nat) (a_seen : Nat) (a_seenAs : Nat) (a_isKept : Nat) (a_kept : Nat) (a_text : Nat) (a_read : Nat) (a_fewest : Nat) (a_doors : Nat) (a_isSo : Nat) (v_undoMany : Int32) (v_undoAt : Int32) (v_seenMany : Int32) (v_letterMany : Int32) (v_readAt : Int32) (v_tokenAt : Int32) (v_token : Int32) (v_value : Int32) (v_faultAt : Int32) (v_readOnce : Int32) (v_greatUpper : Int64) (v_greatLower : Int64) (A_now : Nat → Int32) (A_undos : Nat → Int32) (A_seen : Nat → Int32) (A_seenAs : Nat → Int32) (A_isKept : Nat → Int32) (A_kept : Nat → Int32) (A_text : Nat → Int32) (A_read : Nat → Int32) (A_fewest : Nat → Int32) (A_doors : Nat → Int32) (A_isSo : Nat → Int32)  (r : Int32) (h : f_Mo_isFigure v_letterMany v_readAt A_text = some r) : Met l yX11_isFigure (.code yX11_isFigure cX11_isFigure 1 (some .boolean) :: TBL) (RM 1 22) (PcR [.ref a_this] D (TY cC cI cZ) (k_Mo cC cI cZ a_this a_now a_undos a_seen a_seenAs a_isKept a_kept a_text a_read a_fewest a_doors a_isSo v_undoMany v_undoAt v_seenMany v_letterMany v_readAt v_tokenAt v_token v_value v_faultAt v_readOnce v_greatUpper v_greatLower A_now A_undos A_seen A_seenAs A_isKept A_kept A_text A_read A_fewest A_doors A_isSo)) (vp_Si (PO .boolean r)) 0 0 (fun _ => False) := by
  refine roOf (by decide) (Nat.le_of_ble_eq_true rfl) rfl ?_
  intro p e s m args below meth c Q ls X hP hl hret
  have X : Ctx p s m args c cX11_isFigure 1 RX11 D (TY cC cI cZ) := X
  obtain ⟨hx, hb, hml, hown, htT, hK, hN⟩ := id X
  unfold f_Mo_isFigure at h
  refine lv_aload_n hx hb dX11_isFigure_0 rfl (lv_at hl 0 rfl) ?_
  refine va_get (ci := 11) (v := .int v_readAt) (C := RX11) (T := TX11) (N := 23) hx hb htT inlX11 hown hK hP 0 rfl rfl 11 (by decide) (htT _ q_13_22) (fun _ h9 => h9) rfl dX11_isFigure_1 ?_
  refine lv_aload_n hx hb dX11_isFigure_4 rfl (lv_at hl 0 rfl) ?_
  refine va_get (ci := 11) (v := .int v_letterMany) (C := RX11) (T := TX11) (N := 23) hx hb htT inlX11 hown hK hP 0 rfl rfl 9 (by decide) (htT _ q_8_11) (fun _ h9 => h9) rfl dX11_isFigure_5 ?_
  refine lv_icmp_ge (tgt := 34) hx hb dX11_isFigure_8 (by decide) (fun c1 => ?_) (fun c1 => ?_)
  · have h := ip c1 h
    refine lv_iconst (v := (0 : Int32)) hx hb dX11_isFigure_34 rfl ?_
    exact hret _ _ _ dX11_isFigure_35 (Option.some.inj h) rfl
  · have h := im c1 h
    refine lv_aload_n hx hb dX11_isFigure_11 rfl (lv_at hl 0 rfl) ?_
    refine va_get (ci := 11) (v := .ref a_text) (C := RX11) (T := TX11) (N := 23) hx hb htT inlX11 hown hK hP 0 rfl rfl 10 (by decide) (htT _ q_7_7) (fun _ h9 => h9) rfl dX11_isFigure_12 ?_
    refine lv_aload_n hx hb dX11_isFigure_15 rfl (lv_at hl 0 rfl) ?_
    refine va_get (ci := 11) (v := .int v_readAt) (C := RX11) (T := TX11) (N := 23) hx hb htT inlX11 hown hK hP 0 rfl rfl 11 (by decide) (htT _ q_13_22) (fun _ h9 => h9) rfl dX11_isFigure_16 ?_
    obtain ⟨g2, h⟩ := gd h
    refine va_iald hx hb hK hP 7 1 rfl rfl (inB_in g2) dX11_isFigure_19 ?_
    refine lv_bipush (v := (48 : Int32)) hx hb dX11_isFigure_20 rfl ?_
    refine lv_bipush (v := (57 : Int32)) hx hb dX11_isFigure_22 rfl ?_
    refine roS X [.int (A_text (v_readAt).toNatClampNeg), .int (48 : Int32), .int (57 : Int32)] [] (c_Mo_in l D cC cI cZ (A_text (v_readAt).toNatClampNeg) (48 : Int32) (57 : Int32) _ rfl) gg_X11_48 hd_Mo_in ⟨rfl, rfl, Nat.le_of_ble_eq_true rfl, Nat.le_of_ble_eq_true rfl⟩ ⟨Nat.zero_le _, Nat.zero_le _⟩ hP [] rfl hl.1 rfl (Nat.le_of_ble_eq_true rfl) dX11_isFigure_24 (fun n3 => ?_)
    refine lv_if_eq (tgt := 34) hx hb dX11_isFigure_27 (by decide) (fun c4 => ?_) (fun c4 => ?_)
    · have h := ip c4 h
      refine lv_iconst (v := (0 : Int32)) hx hb dX11_isFigure_34 rfl ?_
      exact hret _ _ _ dX11_isFigure_35 (Option.some.inj h) rfl
    · have h := im c4 h
      refine lv_iconst (v := (1 : Int32)) hx hb dX11_isFigure_30 rfl ?_
      refine lv_goto (tgt := 35) hx hb dX11_isFigure_31 (by decide) ?_
      exact hret _ _ _ dX11_isFigure_35 (Option.some.inj h) rfl
set_option maxHeartbeats 4000000 in
set_option maxRecDepth 100000 in
theorem c_Mo_next (l : Launch) (D : va_G) (cC cI cZ : ClassId) (a_this : Nat) (a_now : Nat) (a_undos : Nat) (a_seen : Nat) (a_seenAs : Nat) (a_isKept : Nat) (a_kept : Nat) (a_text : Nat) (a_read : Nat) (a_fewest : Nat) (a_doors : Nat) (a_isSo : Nat) (v_undoMany : Int32) (v_undoAt : Int32) (v_seenMany : Int32) (v_letterMany : Int32) (v_readAt : Int32) (v_tokenAt : Int32) (v_token : Int32) (v_value : Int32) (v_faultAt : Int32) (v_readOnce : Int32) (v_greatUpper : Int64) (v_greatLower : Int64) (A_now : Nat → Int32) (A_undos : Nat → Int32) (A_seen : Nat → Int32) (A_seenAs : Nat → Int32) (A_isKept : Nat → Int32) (A_kept : Nat → Int32) (A_text : Nat → Int32) (A_read : Nat → Int32) (A_fewest : Nat → Int32) (A_doors : Nat → Int32) (A_isSo : Nat → Int32)  (sz : Nat) (z : Int32 × Int32 × Int32 × Int32) (h : f_Mo_next v_letterMany v_readAt v_tokenAt v_token v_value A_text = some z) : Met l yX11_next (.code yX11_next cX11_next 2 none :: TBL) (RM 2 42) (PcM [.ref a_this] sz D (TY cC cI cZ) (k_Mo cC cI cZ a_this a_now a_undos a_seen a_seenAs a_isKept a_kept a_text a_read a_fewest a_doors a_isSo v_undoMany v_undoAt v_seenMany v_letterMany v_readAt v_tokenAt v_token v_value v_faultAt v_readOnce v_greatUpper v_greatLower A_now A_undos A_seen A_seenAs A_isKept A_kept A_text A_read A_fewest A_doors A_isSo)) (QM none D (k_Mo cC cI cZ a_this a_now a_undos a_seen a_seenAs a_isKept a_kept a_text a_read a_fewest a_doors a_isSo v_undoMany v_undoAt v_seenMany v_letterMany z.1 z.2.1 z.2.2.1 z.2.2.2 v_faultAt v_readOnce v_greatUpper v_greatLower A_now A_undos A_seen A_seenAs A_isKept A_kept A_text A_read A_fewest A_doors A_isSo) (va_A (k_Mo cC cI cZ a_this a_now a_undos a_seen a_seenAs a_isKept a_kept a_text a_read a_fewest a_doors a_isSo v_undoMany v_undoAt v_seenMany v_letterMany v_readAt v_tokenAt v_token v_value v_faultAt v_readOnce v_greatUpper v_greatLower A_now A_undos A_seen A_seenAs A_isKept A_kept A_text A_read A_fewest A_doors A_isSo) sz)) 0 0 (va_A (k_Mo cC cI cZ a_this a_now a_undos a_seen a_seenAs a_isKept a_kept a_text a_read a_fewest a_doors a_isSo v_undoMany v_undoAt v_seenMany v_letterMany v_readAt v_tokenAt v_token v_value v_faultAt v_readOnce v_greatUpper v_greatLower A_now A_undos A_seen A_seenAs A_isKept A_kept A_text A_read A_fewest A_doors A_isSo) sz) := by
  refine muOfV (by decide) (Nat.le_of_ble_eq_true rfl) rfl ?_
  intro p e s m args below meth c Q ls A X hP hD hS hA hl hret
  have X : Ctx p s m args c cX11_next 2 RX11 D (TY cC cI cZ) := X
  obtain ⟨hx, hb, hml, hown, htT, hK, hN⟩ := id X
  unfold f_Mo_next at h
  refine lv_aload_n hx hb dX11_next_0 rfl (lv_at hl 0 rfl) ?_
  obtain ⟨z1, e1, h⟩ := bd h
  refine muVV (ws' := (k_Mo cC cI cZ a_this a_now a_undos a_seen a_seenAs a_isKept a_kept a_text a_read a_fewest a_doors a_isSo v_undoMany v_undoAt v_seenMany v_letterMany z1 v_tokenAt v_token v_value v_faultAt v_readOnce v_greatUpper v_greatLower A_now A_undos A_seen A_seenAs A_isKept A_kept A_text A_read A_fewest A_doors A_isSo)) X [] [] (c_Mo_blanks l D cC cI cZ a_this a_now a_undos a_seen a_seenAs a_isKept a_kept a_text a_read a_fewest a_doors a_isSo v_undoMany v_undoAt v_seenMany v_letterMany v_readAt v_tokenAt v_token v_value v_faultAt v_readOnce v_greatUpper v_greatLower A_now A_undos A_seen A_seenAs A_isKept A_kept A_text A_read A_fewest A_doors A_isSo _ z1 e1) gg_X11_59 hd_Mo_blanks ⟨rfl, rfl, Nat.le_of_ble_eq_true rfl, Nat.le_of_ble_eq_true rfl⟩ ⟨Nat.zero_le _, Nat.zero_le _⟩ hP hD hS hA [0, 1, 2, 3, 4, 5, 6, 7, 8, 9, 10, 11] [] [0, 1, 2, 3, 4, 5, 6, 7, 8, 9, 10, 11] rfl rfl (by decide) (by decide) rfl rfl rfl rfl rfl hl.1 rfl (Nat.le_of_ble_eq_true rfl) dX11_next_1 (fun H locs hP hD hS => ?_)
  refine lv_aload_n hx hb dX11_next_4 rfl (lv_at hl 0 rfl) ?_
  refine lv_aload_n hx hb dX11_next_5 rfl (lv_at hl 0 rfl) ?_
  refine va_get (ci := 11) (v := .int z1) (C := RX11) (T := TX11) (N := 23) hx hb htT inlX11 hown hK hP 0 rfl rfl 11 (by decide) (htT _ q_13_22) (fun _ h9 => h9) rfl dX11_next_6 ?_
  refine va_put (ci := 11) (v := .int z1) (ty := .int) (C := RX11) (T := TX11) (N := 23) hx hb htT inlX11 tyX11 tyX11_ok nmX11 hown hK hP hD hS 0 rfl rfl 12 (by decide) (htT _ q_14_15) (fun _ h9 => h9) rfl (tyX11_ok 12 (by decide)) rfl rfl (Nat.le_of_ble_eq_true rfl) dX11_next_9 (fun H locs hP hD hS => ?_)
  have hP : va_P D vwCl (k_Mo cC cI cZ a_this a_now a_undos a_seen a_seenAs a_isKept a_kept a_text a_read a_fewest a_doors a_isSo v_undoMany v_undoAt v_seenMany v_letterMany z1 z1 v_token v_value v_faultAt v_readOnce v_greatUpper v_greatLower A_now A_undos A_seen A_seenAs A_isKept A_kept A_text A_read A_fewest A_doors A_isSo) H := hP
  have hD : va_D A (k_Mo cC cI cZ a_this a_now a_undos a_seen a_seenAs a_isKept a_kept a_text a_read a_fewest a_doors a_isSo v_undoMany v_undoAt v_seenMany v_letterMany z1 z1 v_token v_value v_faultAt v_readOnce v_greatUpper v_greatLower A_now A_undos A_seen A_seenAs A_isKept A_kept A_text A_read A_fewest A_doors A_isSo) := hD
  refine lv_aload_n hx hb dX11_next_12 rfl (lv_at hl 0 rfl) ?_
  refine va_get (ci := 11) (v := .int z1) (C := RX11) (T := TX11) (N := 23) hx hb htT inlX11 hown hK hP 0 rfl rfl 11 (by decide) (htT _ q_13_22) (fun _ h9 => h9) rfl dX11_next_13 ?_
  refine lv_aload_n hx hb dX11_next_16 rfl (lv_at hl 0 rfl) ?_
  refine va_get (ci := 11) (v := .int v_letterMany) (C := RX11) (T := TX11) (N := 23) hx hb htT inlX11 hown hK hP 0 rfl rfl 9 (by decide) (htT _ q_8_11) (fun _ h9 => h9) rfl dX11_next_17 ?_
  refine lv_icmp_ne (tgt := 31) hx hb dX11_next_20 (by decide) (fun c2 => ?_) (fun c2 => ?_)
  · have h := im c2 h
    refine lv_aload_n hx hb dX11_next_31 rfl (lv_at hl 0 rfl) ?_
    obtain ⟨r3, e3, h⟩ := bd h
    refine roV X [] [] (c_Mo_isFigure l D cC cI cZ a_this a_now a_undos a_seen a_seenAs a_isKept a_kept a_text a_read a_fewest a_doors a_isSo v_undoMany v_undoAt v_seenMany v_letterMany z1 z1 v_token v_value v_faultAt v_readOnce v_greatUpper v_greatLower A_now A_undos A_seen A_seenAs A_isKept A_kept A_text A_read A_fewest A_doors A_isSo r3 e3) gg_X11_68 hd_Mo_isFigure ⟨rfl, rfl, Nat.le_of_ble_eq_true rfl, Nat.le_of_ble_eq_true rfl⟩ ⟨Nat.zero_le _, Nat.zero_le _⟩ hP [0, 1, 2, 3, 4, 5, 6, 7, 8, 9, 10, 11] rfl rfl rfl rfl hl.1 rfl (Nat.le_of_ble_eq_true rfl) dX11_next_32 (fun n3 => ?_)
    refine lv_if_eq (tgt := 154) hx hb dX11_next_35 (by decide) (fun c4 => ?_) (fun c4 => ?_)
    · have h := ip c4 h
      refine lv_aload_n hx hb dX11_next_154 rfl (lv_at hl 0 rfl) ?_
      refine va_get (ci := 11) (v := .ref a_text) (C := RX11) (T := TX11) (N := 23) hx hb htT inlX11 hown hK hP 0 rfl rfl 10 (by decide) (htT _ q_7_7) (fun _ h9 => h9) rfl dX11_next_155 ?_
      refine lv_aload_n hx hb dX11_next_158 rfl (lv_at hl 0 rfl) ?_
      refine va_get (ci := 11) (v := .int z1) (C := RX11) (T := TX11) (N := 23) hx hb htT inlX11 hown hK hP 0 rfl rfl 11 (by decide) (htT _ q_13_22) (fun _ h9 => h9) rfl dX11_next_159 ?_
      obtain ⟨g5, h⟩ := gd h
      refine va_iald hx hb hK hP 7 1 rfl rfl (inB_in g5) dX11_next_162 ?_
      refine lv_istore_n (lv' := [(1, .int (A_text (z1).toNatClampNeg)), (0, .ref a_this)]) hx hb dX11_next_163 rfl hl (by decide) rfl (fun ls hl => ?_)
      refine lv_aload_n hx hb dX11_next_164 rfl (lv_at hl 1 rfl) ?_
      refine lv_iload_n hx hb dX11_next_165 rfl (lv_at hl 0 rfl) ?_
      refine lv_bipush (v := (112 : Int32)) hx hb dX11_next_166 rfl ?_
      refine lv_icmp_eq (tgt := 195) hx hb dX11_next_168 (by decide) (fun c6 => ?_) (fun c6 => ?_)
      · have h := ip c6 h
        refine lv_iload_n hx hb dX11_next_195 rfl (lv_at hl 0 rfl) ?_
        refine lv_goto (tgt := 201) hx hb dX11_next_196 (by decide) ?_
        refine va_put (ci := 11) (v := .int (A_text (z1).toNatClampNeg)) (ty := .int) (C := RX11) (T := TX11) (N := 23) hx hb htT inlX11 tyX11 tyX11_ok nmX11 hown hK hP hD hS 0 rfl rfl 13 (by decide) (htT _ q_14_10) (fun _ h9 => h9) rfl (tyX11_ok 13 (by decide)) rfl rfl (Nat.le_of_ble_eq_true rfl) dX11_next_201 (fun H locs hP hD hS => ?_)
        have hP : va_P D vwCl (k_Mo cC cI cZ a_this a_now a_undos a_seen a_seenAs a_isKept a_kept a_text a_read a_fewest a_doors a_isSo v_undoMany v_undoAt v_seenMany v_letterMany z1 z1 (A_text (z1).toNatClampNeg) v_value v_faultAt v_readOnce v_greatUpper v_greatLower A_now A_undos A_seen A_seenAs A_isKept A_kept A_text A_read A_fewest A_doors A_isSo) H := hP
        have hD : va_D A (k_Mo cC cI cZ a_this a_now a_undos a_seen a_seenAs a_isKept a_kept a_text a_read a_fewest a_doors a_isSo v_undoMany v_undoAt v_seenMany v_letterMany z1 z1 (A_text (z1).toNatClampNeg) v_value v_faultAt v_readOnce v_greatUpper v_greatLower A_now A_undos A_seen A_seenAs A_isKept A_kept A_text A_read A_fewest A_doors A_isSo) := hD
        refine lv_aload_n hx hb dX11_next_204 rfl (lv_at hl 1 rfl) ?_
        refine lv_dup hx hb dX11_next_205 rfl ?_
        refine va_get (ci := 11) (v := .int z1) (C := RX11) (T := TX11) (N := 23) hx hb htT inlX11 hown hK hP 0 rfl rfl 11 (by decide) (htT _ q_13_22) (fun _ h9 => h9) rfl dX11_next_206 ?_
        refine lv_iconst (v := (1 : Int32)) hx hb dX11_next_209 rfl ?_
        refine lv_iadd hx hb dX11_next_210 ?_
        refine va_put (ci := 11) (v := .int (z1 + (1 : Int32))) (ty := .int) (C := RX11) (T := TX11) (N := 23) hx hb htT inlX11 tyX11 tyX11_ok nmX11 hown hK hP hD hS 0 rfl rfl 11 (by decide) (htT _ q_13_22) (fun _ h9 => h9) rfl (tyX11_ok 11 (by decide)) rfl rfl (Nat.le_of_ble_eq_true rfl) dX11_next_211 (fun H locs hP hD hS => ?_)
        have hP : va_P D vwCl (k_Mo cC cI cZ a_this a_now a_undos a_seen a_seenAs a_isKept a_kept a_text a_read a_fewest a_doors a_isSo v_undoMany v_undoAt v_seenMany v_letterMany (z1 + (1 : Int32)) z1 (A_text (z1).toNatClampNeg) v_value v_faultAt v_readOnce v_greatUpper v_greatLower A_now A_undos A_seen A_seenAs A_isKept A_kept A_text A_read A_fewest A_doors A_isSo) H := hP
        have hD : va_D A (k_Mo cC cI cZ a_this a_now a_undos a_seen a_seenAs a_isKept a_kept a_text a_read a_fewest a_doors a_isSo v_undoMany v_undoAt v_seenMany v_letterMany (z1 + (1 : Int32)) z1 (A_text (z1).toNatClampNeg) v_value v_faultAt v_readOnce v_greatUpper v_greatLower A_now A_undos A_seen A_seenAs A_isKept A_kept A_text A_read A_fewest A_doors A_isSo) := hD
        obtain rfl := Option.some.inj h
        exact hret _ _ _ _ hP hS dX11_next_214
      · have h := im c6 h
        refine lv_iload_n hx hb dX11_next_171 rfl (lv_at hl 0 rfl) ?_
        refine lv_bipush (v := (100 : Int32)) hx hb dX11_next_172 rfl ?_
        refine lv_icmp_eq (tgt := 195) hx hb dX11_next_174 (by decide) (fun c7 => ?_) (fun c7 => ?_)
        · have h := ip c7 h
          refine lv_iload_n hx hb dX11_next_195 rfl (lv_at hl 0 rfl) ?_
          refine lv_goto (tgt := 201) hx hb dX11_next_196 (by decide) ?_
          refine va_put (ci := 11) (v := .int (A_text (z1).toNatClampNeg)) (ty := .int) (C := RX11) (T := TX11) (N := 23) hx hb htT inlX11 tyX11 tyX11_ok nmX11 hown hK hP hD hS 0 rfl rfl 13 (by decide) (htT _ q_14_10) (fun _ h9 => h9) rfl (tyX11_ok 13 (by decide)) rfl rfl (Nat.le_of_ble_eq_true rfl) dX11_next_201 (fun H locs hP hD hS => ?_)
          have hP : va_P D vwCl (k_Mo cC cI cZ a_this a_now a_undos a_seen a_seenAs a_isKept a_kept a_text a_read a_fewest a_doors a_isSo v_undoMany v_undoAt v_seenMany v_letterMany z1 z1 (A_text (z1).toNatClampNeg) v_value v_faultAt v_readOnce v_greatUpper v_greatLower A_now A_undos A_seen A_seenAs A_isKept A_kept A_text A_read A_fewest A_doors A_isSo) H := hP
          have hD : va_D A (k_Mo cC cI cZ a_this a_now a_undos a_seen a_seenAs a_isKept a_kept a_text a_read a_fewest a_doors a_isSo v_undoMany v_undoAt v_seenMany v_letterMany z1 z1 (A_text (z1).toNatClampNeg) v_value v_faultAt v_readOnce v_greatUpper v_greatLower A_now A_undos A_seen A_seenAs A_isKept A_kept A_text A_read A_fewest A_doors A_isSo) := hD
          refine lv_aload_n hx hb dX11_next_204 rfl (lv_at hl 1 rfl) ?_
          refine lv_dup hx hb dX11_next_205 rfl ?_
          refine va_get (ci := 11) (v := .int z1) (C := RX11) (T := TX11) (N := 23) hx hb htT inlX11 hown hK hP 0 rfl rfl 11 (by decide) (htT _ q_13_22) (fun _ h9 => h9) rfl dX11_next_206 ?_
          refine lv_iconst (v := (1 : Int32)) hx hb dX11_next_209 rfl ?_
          refine lv_iadd hx hb dX11_next_210 ?_
          refine va_put (ci := 11) (v := .int (z1 + (1 : Int32))) (ty := .int) (C := RX11) (T := TX11) (N := 23) hx hb htT inlX11 tyX11 tyX11_ok nmX11 hown hK hP hD hS 0 rfl rfl 11 (by decide) (htT _ q_13_22) (fun _ h9 => h9) rfl (tyX11_ok 11 (by decide)) rfl rfl (Nat.le_of_ble_eq_true rfl) dX11_next_211 (fun H locs hP hD hS => ?_)
          have hP : va_P D vwCl (k_Mo cC cI cZ a_this a_now a_undos a_seen a_seenAs a_isKept a_kept a_text a_read a_fewest a_doors a_isSo v_undoMany v_undoAt v_seenMany v_letterMany (z1 + (1 : Int32)) z1 (A_text (z1).toNatClampNeg) v_value v_faultAt v_readOnce v_greatUpper v_greatLower A_now A_undos A_seen A_seenAs A_isKept A_kept A_text A_read A_fewest A_doors A_isSo) H := hP
          have hD : va_D A (k_Mo cC cI cZ a_this a_now a_undos a_seen a_seenAs a_isKept a_kept a_text a_read a_fewest a_doors a_isSo v_undoMany v_undoAt v_seenMany v_letterMany (z1 + (1 : Int32)) z1 (A_text (z1).toNatClampNeg) v_value v_faultAt v_readOnce v_greatUpper v_greatLower A_now A_undos A_seen A_seenAs A_isKept A_kept A_text A_read A_fewest A_doors A_isSo) := hD
          obtain rfl := Option.some.inj h
          exact hret _ _ _ _ hP hS dX11_next_214
        · have h := im c7 h
          refine lv_iload_n hx hb dX11_next_177 rfl (lv_at hl 0 rfl) ?_
          refine lv_bipush (v := (114 : Int32)) hx hb dX11_next_178 rfl ?_
          refine lv_icmp_eq (tgt := 195) hx hb dX11_next_180 (by decide) (fun c8 => ?_) (fun c8 => ?_)
          · have h := ip c8 h
            refine lv_iload_n hx hb dX11_next_195 rfl (lv_at hl 0 rfl) ?_
            refine lv_goto (tgt := 201) hx hb dX11_next_196 (by decide) ?_
            refine va_put (ci := 11) (v := .int (A_text (z1).toNatClampNeg)) (ty := .int) (C := RX11) (T := TX11) (N := 23) hx hb htT inlX11 tyX11 tyX11_ok nmX11 hown hK hP hD hS 0 rfl rfl 13 (by decide) (htT _ q_14_10) (fun _ h9 => h9) rfl (tyX11_ok 13 (by decide)) rfl rfl (Nat.le_of_ble_eq_true rfl) dX11_next_201 (fun H locs hP hD hS => ?_)
            have hP : va_P D vwCl (k_Mo cC cI cZ a_this a_now a_undos a_seen a_seenAs a_isKept a_kept a_text a_read a_fewest a_doors a_isSo v_undoMany v_undoAt v_seenMany v_letterMany z1 z1 (A_text (z1).toNatClampNeg) v_value v_faultAt v_readOnce v_greatUpper v_greatLower A_now A_undos A_seen A_seenAs A_isKept A_kept A_text A_read A_fewest A_doors A_isSo) H := hP
            have hD : va_D A (k_Mo cC cI cZ a_this a_now a_undos a_seen a_seenAs a_isKept a_kept a_text a_read a_fewest a_doors a_isSo v_undoMany v_undoAt v_seenMany v_letterMany z1 z1 (A_text (z1).toNatClampNeg) v_value v_faultAt v_readOnce v_greatUpper v_greatLower A_now A_undos A_seen A_seenAs A_isKept A_kept A_text A_read A_fewest A_doors A_isSo) := hD
            refine lv_aload_n hx hb dX11_next_204 rfl (lv_at hl 1 rfl) ?_
            refine lv_dup hx hb dX11_next_205 rfl ?_
            refine va_get (ci := 11) (v := .int z1) (C := RX11) (T := TX11) (N := 23) hx hb htT inlX11 hown hK hP 0 rfl rfl 11 (by decide) (htT _ q_13_22) (fun _ h9 => h9) rfl dX11_next_206 ?_
            refine lv_iconst (v := (1 : Int32)) hx hb dX11_next_209 rfl ?_
            refine lv_iadd hx hb dX11_next_210 ?_
            refine va_put (ci := 11) (v := .int (z1 + (1 : Int32))) (ty := .int) (C := RX11) (T := TX11) (N := 23) hx hb htT inlX11 tyX11 tyX11_ok nmX11 hown hK hP hD hS 0 rfl rfl 11 (by decide) (htT _ q_13_22) (fun _ h9 => h9) rfl (tyX11_ok 11 (by decide)) rfl rfl (Nat.le_of_ble_eq_true rfl) dX11_next_211 (fun H locs hP hD hS => ?_)
            have hP : va_P D vwCl (k_Mo cC cI cZ a_this a_now a_undos a_seen a_seenAs a_isKept a_kept a_text a_read a_fewest a_doors a_isSo v_undoMany v_undoAt v_seenMany v_letterMany (z1 + (1 : Int32)) z1 (A_text (z1).toNatClampNeg) v_value v_faultAt v_readOnce v_greatUpper v_greatLower A_now A_undos A_seen A_seenAs A_isKept A_kept A_text A_read A_fewest A_doors A_isSo) H := hP
            have hD : va_D A (k_Mo cC cI cZ a_this a_now a_undos a_seen a_seenAs a_isKept a_kept a_text a_read a_fewest a_doors a_isSo v_undoMany v_undoAt v_seenMany v_letterMany (z1 + (1 : Int32)) z1 (A_text (z1).toNatClampNeg) v_value v_faultAt v_readOnce v_greatUpper v_greatLower A_now A_undos A_seen A_seenAs A_isKept A_kept A_text A_read A_fewest A_doors A_isSo) := hD
            obtain rfl := Option.some.inj h
            exact hret _ _ _ _ hP hS dX11_next_214
          · have h := im c8 h
            refine lv_iload_n hx hb dX11_next_183 rfl (lv_at hl 0 rfl) ?_
            refine lv_bipush (v := (117 : Int32)) hx hb dX11_next_184 rfl ?_
            refine lv_icmp_eq (tgt := 195) hx hb dX11_next_186 (by decide) (fun c9 => ?_) (fun c9 => ?_)
            · have h := ip c9 h
              refine lv_iload_n hx hb dX11_next_195 rfl (lv_at hl 0 rfl) ?_
              refine lv_goto (tgt := 201) hx hb dX11_next_196 (by decide) ?_
              refine va_put (ci := 11) (v := .int (A_text (z1).toNatClampNeg)) (ty := .int) (C := RX11) (T := TX11) (N := 23) hx hb htT inlX11 tyX11 tyX11_ok nmX11 hown hK hP hD hS 0 rfl rfl 13 (by decide) (htT _ q_14_10) (fun _ h9 => h9) rfl (tyX11_ok 13 (by decide)) rfl rfl (Nat.le_of_ble_eq_true rfl) dX11_next_201 (fun H locs hP hD hS => ?_)
              have hP : va_P D vwCl (k_Mo cC cI cZ a_this a_now a_undos a_seen a_seenAs a_isKept a_kept a_text a_read a_fewest a_doors a_isSo v_undoMany v_undoAt v_seenMany v_letterMany z1 z1 (A_text (z1).toNatClampNeg) v_value v_faultAt v_readOnce v_greatUpper v_greatLower A_now A_undos A_seen A_seenAs A_isKept A_kept A_text A_read A_fewest A_doors A_isSo) H := hP
              have hD : va_D A (k_Mo cC cI cZ a_this a_now a_undos a_seen a_seenAs a_isKept a_kept a_text a_read a_fewest a_doors a_isSo v_undoMany v_undoAt v_seenMany v_letterMany z1 z1 (A_text (z1).toNatClampNeg) v_value v_faultAt v_readOnce v_greatUpper v_greatLower A_now A_undos A_seen A_seenAs A_isKept A_kept A_text A_read A_fewest A_doors A_isSo) := hD
              refine lv_aload_n hx hb dX11_next_204 rfl (lv_at hl 1 rfl) ?_
              refine lv_dup hx hb dX11_next_205 rfl ?_
              refine va_get (ci := 11) (v := .int z1) (C := RX11) (T := TX11) (N := 23) hx hb htT inlX11 hown hK hP 0 rfl rfl 11 (by decide) (htT _ q_13_22) (fun _ h9 => h9) rfl dX11_next_206 ?_
              refine lv_iconst (v := (1 : Int32)) hx hb dX11_next_209 rfl ?_
              refine lv_iadd hx hb dX11_next_210 ?_
              refine va_put (ci := 11) (v := .int (z1 + (1 : Int32))) (ty := .int) (C := RX11) (T := TX11) (N := 23) hx hb htT inlX11 tyX11 tyX11_ok nmX11 hown hK hP hD hS 0 rfl rfl 11 (by decide) (htT _ q_13_22) (fun _ h9 => h9) rfl (tyX11_ok 11 (by decide)) rfl rfl (Nat.le_of_ble_eq_true rfl) dX11_next_211 (fun H locs hP hD hS => ?_)
              have hP : va_P D vwCl (k_Mo cC cI cZ a_this a_now a_undos a_seen a_seenAs a_isKept a_kept a_text a_read a_fewest a_doors a_isSo v_undoMany v_undoAt v_seenMany v_letterMany (z1 + (1 : Int32)) z1 (A_text (z1).toNatClampNeg) v_value v_faultAt v_readOnce v_greatUpper v_greatLower A_now A_undos A_seen A_seenAs A_isKept A_kept A_text A_read A_fewest A_doors A_isSo) H := hP
              have hD : va_D A (k_Mo cC cI cZ a_this a_now a_undos a_seen a_seenAs a_isKept a_kept a_text a_read a_fewest a_doors a_isSo v_undoMany v_undoAt v_seenMany v_letterMany (z1 + (1 : Int32)) z1 (A_text (z1).toNatClampNeg) v_value v_faultAt v_readOnce v_greatUpper v_greatLower A_now A_undos A_seen A_seenAs A_isKept A_kept A_text A_read A_fewest A_doors A_isSo) := hD
              obtain rfl := Option.some.inj h
              exact hret _ _ _ _ hP hS dX11_next_214
            · have h := im c9 h
              refine lv_iload_n hx hb dX11_next_189 rfl (lv_at hl 0 rfl) ?_
              refine lv_bipush (v := (59 : Int32)) hx hb dX11_next_190 rfl ?_
              refine lv_icmp_ne (tgt := 199) hx hb dX11_next_192 (by decide) (fun c10 => ?_) (fun c10 => ?_)
              · have h := im c10 h
                refine lv_bipush (v := (-2 : Int32)) hx hb dX11_next_199 rfl ?_
                refine va_put (ci := 11) (v := .int (-2 : Int32)) (ty := .int) (C := RX11) (T := TX11) (N := 23) hx hb htT inlX11 tyX11 tyX11_ok nmX11 hown hK hP hD hS 0 rfl rfl 13 (by decide) (htT _ q_14_10) (fun _ h9 => h9) rfl (tyX11_ok 13 (by decide)) rfl rfl (Nat.le_of_ble_eq_true rfl) dX11_next_201 (fun H locs hP hD hS => ?_)
                have hP : va_P D vwCl (k_Mo cC cI cZ a_this a_now a_undos a_seen a_seenAs a_isKept a_kept a_text a_read a_fewest a_doors a_isSo v_undoMany v_undoAt v_seenMany v_letterMany z1 z1 (-2 : Int32) v_value v_faultAt v_readOnce v_greatUpper v_greatLower A_now A_undos A_seen A_seenAs A_isKept A_kept A_text A_read A_fewest A_doors A_isSo) H := hP
                have hD : va_D A (k_Mo cC cI cZ a_this a_now a_undos a_seen a_seenAs a_isKept a_kept a_text a_read a_fewest a_doors a_isSo v_undoMany v_undoAt v_seenMany v_letterMany z1 z1 (-2 : Int32) v_value v_faultAt v_readOnce v_greatUpper v_greatLower A_now A_undos A_seen A_seenAs A_isKept A_kept A_text A_read A_fewest A_doors A_isSo) := hD
                refine lv_aload_n hx hb dX11_next_204 rfl (lv_at hl 1 rfl) ?_
                refine lv_dup hx hb dX11_next_205 rfl ?_
                refine va_get (ci := 11) (v := .int z1) (C := RX11) (T := TX11) (N := 23) hx hb htT inlX11 hown hK hP 0 rfl rfl 11 (by decide) (htT _ q_13_22) (fun _ h9 => h9) rfl dX11_next_206 ?_
                refine lv_iconst (v := (1 : Int32)) hx hb dX11_next_209 rfl ?_
                refine lv_iadd hx hb dX11_next_210 ?_
                refine va_put (ci := 11) (v := .int (z1 + (1 : Int32))) (ty := .int) (C := RX11) (T := TX11) (N := 23) hx hb htT inlX11 tyX11 tyX11_ok nmX11 hown hK hP hD hS 0 rfl rfl 11 (by decide) (htT _ q_13_22) (fun _ h9 => h9) rfl (tyX11_ok 11 (by decide)) rfl rfl (Nat.le_of_ble_eq_true rfl) dX11_next_211 (fun H locs hP hD hS => ?_)
                have hP : va_P D vwCl (k_Mo cC cI cZ a_this a_now a_undos a_seen a_seenAs a_isKept a_kept a_text a_read a_fewest a_doors a_isSo v_undoMany v_undoAt v_seenMany v_letterMany (z1 + (1 : Int32)) z1 (-2 : Int32) v_value v_faultAt v_readOnce v_greatUpper v_greatLower A_now A_undos A_seen A_seenAs A_isKept A_kept A_text A_read A_fewest A_doors A_isSo) H := hP
                have hD : va_D A (k_Mo cC cI cZ a_this a_now a_undos a_seen a_seenAs a_isKept a_kept a_text a_read a_fewest a_doors a_isSo v_undoMany v_undoAt v_seenMany v_letterMany (z1 + (1 : Int32)) z1 (-2 : Int32) v_value v_faultAt v_readOnce v_greatUpper v_greatLower A_now A_undos A_seen A_seenAs A_isKept A_kept A_text A_read A_fewest A_doors A_isSo) := hD
                obtain rfl := Option.some.inj h
                exact hret _ _ _ _ hP hS dX11_next_214
              · have h := ip c10 h
                refine lv_iload_n hx hb dX11_next_195 rfl (lv_at hl 0 rfl) ?_
                refine lv_goto (tgt := 201) hx hb dX11_next_196 (by decide) ?_
                refine va_put (ci := 11) (v := .int (A_text (z1).toNatClampNeg)) (ty := .int) (C := RX11) (T := TX11) (N := 23) hx hb htT inlX11 tyX11 tyX11_ok nmX11 hown hK hP hD hS 0 rfl rfl 13 (by decide) (htT _ q_14_10) (fun _ h9 => h9) rfl (tyX11_ok 13 (by decide)) rfl rfl (Nat.le_of_ble_eq_true rfl) dX11_next_201 (fun H locs hP hD hS => ?_)
                have hP : va_P D vwCl (k_Mo cC cI cZ a_this a_now a_undos a_seen a_seenAs a_isKept a_kept a_text a_read a_fewest a_doors a_isSo v_undoMany v_undoAt v_seenMany v_letterMany z1 z1 (A_text (z1).toNatClampNeg) v_value v_faultAt v_readOnce v_greatUpper v_greatLower A_now A_undos A_seen A_seenAs A_isKept A_kept A_text A_read A_fewest A_doors A_isSo) H := hP
                have hD : va_D A (k_Mo cC cI cZ a_this a_now a_undos a_seen a_seenAs a_isKept a_kept a_text a_read a_fewest a_doors a_isSo v_undoMany v_undoAt v_seenMany v_letterMany z1 z1 (A_text (z1).toNatClampNeg) v_value v_faultAt v_readOnce v_greatUpper v_greatLower A_now A_undos A_seen A_seenAs A_isKept A_kept A_text A_read A_fewest A_doors A_isSo) := hD
                refine lv_aload_n hx hb dX11_next_204 rfl (lv_at hl 1 rfl) ?_
                refine lv_dup hx hb dX11_next_205 rfl ?_
                refine va_get (ci := 11) (v := .int z1) (C := RX11) (T := TX11) (N := 23) hx hb htT inlX11 hown hK hP 0 rfl rfl 11 (by decide) (htT _ q_13_22) (fun _ h9 => h9) rfl dX11_next_206 ?_
                refine lv_iconst (v := (1 : Int32)) hx hb dX11_next_209 rfl ?_
                refine lv_iadd hx hb dX11_next_210 ?_
                refine va_put (ci := 11) (v := .int (z1 + (1 : Int32))) (ty := .int) (C := RX11) (T := TX11) (N := 23) hx hb htT inlX11 tyX11 tyX11_ok nmX11 hown hK hP hD hS 0 rfl rfl 11 (by decide) (htT _ q_13_22) (fun _ h9 => h9) rfl (tyX11_ok 11 (by decide)) rfl rfl (Nat.le_of_ble_eq_true rfl) dX11_next_211 (fun H locs hP hD hS => ?_)
                have hP : va_P D vwCl (k_Mo cC cI cZ a_this a_now a_undos a_seen a_seenAs a_isKept a_kept a_text a_read a_fewest a_doors a_isSo v_undoMany v_undoAt v_seenMany v_letterMany (z1 + (1 : Int32)) z1 (A_text (z1).toNatClampNeg) v_value v_faultAt v_readOnce v_greatUpper v_greatLower A_now A_undos A_seen A_seenAs A_isKept A_kept A_text A_read A_fewest A_doors A_isSo) H := hP
                have hD : va_D A (k_Mo cC cI cZ a_this a_now a_undos a_seen a_seenAs a_isKept a_kept a_text a_read a_fewest a_doors a_isSo v_undoMany v_undoAt v_seenMany v_letterMany (z1 + (1 : Int32)) z1 (A_text (z1).toNatClampNeg) v_value v_faultAt v_readOnce v_greatUpper v_greatLower A_now A_undos A_seen A_seenAs A_isKept A_kept A_text A_read A_fewest A_doors A_isSo) := hD
                obtain rfl := Option.some.inj h
                exact hret _ _ _ _ hP hS dX11_next_214
    · have h := im c4 h
      refine lv_aload_n hx hb dX11_next_38 rfl (lv_at hl 0 rfl) ?_
      refine lv_iconst (v := (0 : Int32)) hx hb dX11_next_39 rfl ?_
      refine va_put (ci := 11) (v := .int (0 : Int32)) (ty := .int) (C := RX11) (T := TX11) (N := 23) hx hb htT inlX11 tyX11 tyX11_ok nmX11 hown hK hP hD hS 0 rfl rfl 14 (by decide) (htT _ q_14_16) (fun _ h9 => h9) rfl (tyX11_ok 14 (by decide)) rfl rfl (Nat.le_of_ble_eq_true rfl) dX11_next_40 (fun H locs hP hD hS => ?_)
      have hP : va_P D vwCl (k_Mo cC cI cZ a_this a_now a_undos a_seen a_seenAs a_isKept a_kept a_text a_read a_fewest a_doors a_isSo v_undoMany v_undoAt v_seenMany v_letterMany z1 z1 v_token (0 : Int32) v_faultAt v_readOnce v_greatUpper v_greatLower A_now A_undos A_seen A_seenAs A_isKept A_kept A_text A_read A_fewest A_doors A_isSo) H := hP
      have hD : va_D A (k_Mo cC cI cZ a_this a_now a_undos a_seen a_seenAs a_isKept a_kept a_text a_read a_fewest a_doors a_isSo v_undoMany v_undoAt v_seenMany v_letterMany z1 z1 v_token (0 : Int32) v_faultAt v_readOnce v_greatUpper v_greatLower A_now A_undos A_seen A_seenAs A_isKept A_kept A_text A_read A_fewest A_doors A_isSo) := hD
      have LP43 : ∀ (n : Nat) (v_readAt_43 : Int32) (v_value_43 : Int32) (zq43 : Int32 × Int32), f_Mo_next_L43 v_letterMany A_text n v_readAt_43 v_value_43 = some zq43 → ∀ (H : Heap) (locs : List Loc) (ls : Array Slot), va_P D vwCl (k_Mo cC cI cZ a_this a_now a_undos a_seen a_seenAs a_isKept a_kept a_text a_read a_fewest a_doors a_isSo v_undoMany v_undoAt v_seenMany v_letterMany v_readAt_43 z1 v_token v_value_43 v_faultAt v_readOnce v_greatUpper v_greatLower A_now A_undos A_seen A_seenAs A_isKept A_kept A_text A_read A_fewest A_doors A_isSo) H → va_D A (k_Mo cC cI cZ a_this a_now a_undos a_seen a_seenAs a_isKept a_kept a_text a_read a_fewest a_doors a_isSo v_undoMany v_undoAt v_seenMany v_letterMany v_readAt_43 z1 v_token v_value_43 v_faultAt v_readOnce v_greatUpper v_greatLower A_now A_undos A_seen A_seenAs A_isKept A_kept A_text A_read A_fewest A_doors A_isSo) → va_S A s.heap H locs → lv_has ls 2 [(0, .ref a_this)] → (∀ (H : Heap) (locs : List Loc) (ls : Array Slot), va_P D vwCl (k_Mo cC cI cZ a_this a_now a_undos a_seen a_seenAs a_isKept a_kept a_text a_read a_fewest a_doors a_isSo v_undoMany v_undoAt v_seenMany v_letterMany zq43.1 z1 v_token zq43.2 v_faultAt v_readOnce v_greatUpper v_greatLower A_now A_undos A_seen A_seenAs A_isKept A_kept A_text A_read A_fewest A_doors A_isSo) H → va_D A (k_Mo cC cI cZ a_this a_now a_undos a_seen a_seenAs a_isKept a_kept a_text a_read a_fewest a_doors a_isSo v_undoMany v_undoAt v_seenMany v_letterMany zq43.1 z1 v_token zq43.2 v_faultAt v_readOnce v_greatUpper v_greatLower A_now A_undos A_seen A_seenAs A_isKept A_kept A_text A_read A_fewest A_doors A_isSo) → va_S A s.heap H locs → lv_has ls 2 [(0, .ref a_this)] → W p l e (RM 2 42) s m args below meth c H locs 0 0 Q (F0 m 104 ls [])) → W p l e (RM 2 42) s m args below meth c H locs 0 0 Q (F0 m 43 ls []) := by
        clear h
        intro n
        induction n with
        | zero =>
          intro v_readAt_43 v_value_43 zq43 h
          rw [f_Mo_next_L43_0] at h
          cases h
        | succ n ih43 =>
          intro v_readAt_43 v_value_43 zq43 h H locs ls hP hD hS hl k43_0
          rw [f_Mo_next_L43_s] at h
          refine lv_aload_n hx hb dX11_next_43 rfl (lv_at hl 0 rfl) ?_
          obtain ⟨r12, e12, h⟩ := bd h
          refine roV X [] [] (c_Mo_isFigure l D cC cI cZ a_this a_now a_undos a_seen a_seenAs a_isKept a_kept a_text a_read a_fewest a_doors a_isSo v_undoMany v_undoAt v_seenMany v_letterMany v_readAt_43 z1 v_token v_value_43 v_faultAt v_readOnce v_greatUpper v_greatLower A_now A_undos A_seen A_seenAs A_isKept A_kept A_text A_read A_fewest A_doors A_isSo r12 e12) gg_X11_68 hd_Mo_isFigure ⟨rfl, rfl, Nat.le_of_ble_eq_true rfl, Nat.le_of_ble_eq_true rfl⟩ ⟨Nat.zero_le _, Nat.zero_le _⟩ hP [0, 1, 2, 3, 4, 5, 6, 7, 8, 9, 10, 11] rfl rfl rfl rfl hl.1 rfl (Nat.le_of_ble_eq_true rfl) dX11_next_44 (fun n12 => ?_)
          refine lv_if_eq (tgt := 104) hx hb dX11_next_47 (by decide) (fun c13 => ?_) (fun c13 => ?_)
          · have h := ip c13 h
            obtain rfl := Option.some.inj h
            exact k43_0 _ _ _ hP hD hS (lv_sub hl [0] rfl)
          · have h := im c13 h
            refine lv_aload_n hx hb dX11_next_50 rfl (lv_at hl 0 rfl) ?_
            refine lv_aload_n hx hb dX11_next_51 rfl (lv_at hl 0 rfl) ?_
            refine va_get (ci := 11) (v := .int v_value_43) (C := RX11) (T := TX11) (N := 23) hx hb htT inlX11 hown hK hP 0 rfl rfl 14 (by decide) (htT _ q_14_16) (fun _ h9 => h9) rfl dX11_next_52 ?_
            refine lv_sipush (v := (9999 : Int32)) hx hb dX11_next_55 rfl ?_
            refine lv_icmp_le (tgt := 68) hx hb dX11_next_58 (by decide) (fun c14 => ?_) (fun c14 => ?_)
            · have h := ip c14 h
              refine lv_bipush (v := (10 : Int32)) hx hb dX11_next_68 rfl ?_
              refine lv_aload_n hx hb dX11_next_70 rfl (lv_at hl 0 rfl) ?_
              refine va_get (ci := 11) (v := .int v_value_43) (C := RX11) (T := TX11) (N := 23) hx hb htT inlX11 hown hK hP 0 rfl rfl 14 (by decide) (htT _ q_14_16) (fun _ h9 => h9) rfl dX11_next_71 ?_
              refine lv_imul hx hb dX11_next_74 ?_
              refine lv_aload_n hx hb dX11_next_75 rfl (lv_at hl 0 rfl) ?_
              refine va_get (ci := 11) (v := .ref a_text) (C := RX11) (T := TX11) (N := 23) hx hb htT inlX11 hown hK hP 0 rfl rfl 10 (by decide) (htT _ q_7_7) (fun _ h9 => h9) rfl dX11_next_76 ?_
              refine lv_aload_n hx hb dX11_next_79 rfl (lv_at hl 0 rfl) ?_
              refine va_get (ci := 11) (v := .int v_readAt_43) (C := RX11) (T := TX11) (N := 23) hx hb htT inlX11 hown hK hP 0 rfl rfl 11 (by decide) (htT _ q_13_22) (fun _ h9 => h9) rfl dX11_next_80 ?_
              obtain ⟨g15, h⟩ := gd h
              refine va_iald hx hb hK hP 7 1 rfl rfl (inB_in g15) dX11_next_83 ?_
              refine lv_iadd hx hb dX11_next_84 ?_
              refine lv_bipush (v := (48 : Int32)) hx hb dX11_next_85 rfl ?_
              refine lv_isub hx hb dX11_next_87 ?_
              refine va_put (ci := 11) (v := .int ((((10 : Int32) * v_value_43) + (A_text (v_readAt_43).toNatClampNeg)) - (48 : Int32))) (ty := .int) (C := RX11) (T := TX11) (N := 23) hx hb htT inlX11 tyX11 tyX11_ok nmX11 hown hK hP hD hS 0 rfl rfl 14 (by decide) (htT _ q_14_16) (fun _ h9 => h9) rfl (tyX11_ok 14 (by decide)) rfl rfl (Nat.le_of_ble_eq_true rfl) dX11_next_88 (fun H locs hP hD hS => ?_)
              have hP : va_P D vwCl (k_Mo cC cI cZ a_this a_now a_undos a_seen a_seenAs a_isKept a_kept a_text a_read a_fewest a_doors a_isSo v_undoMany v_undoAt v_seenMany v_letterMany v_readAt_43 z1 v_token ((((10 : Int32) * v_value_43) + (A_text (v_readAt_43).toNatClampNeg)) - (48 : Int32)) v_faultAt v_readOnce v_greatUpper v_greatLower A_now A_undos A_seen A_seenAs A_isKept A_kept A_text A_read A_fewest A_doors A_isSo) H := hP
              have hD : va_D A (k_Mo cC cI cZ a_this a_now a_undos a_seen a_seenAs a_isKept a_kept a_text a_read a_fewest a_doors a_isSo v_undoMany v_undoAt v_seenMany v_letterMany v_readAt_43 z1 v_token ((((10 : Int32) * v_value_43) + (A_text (v_readAt_43).toNatClampNeg)) - (48 : Int32)) v_faultAt v_readOnce v_greatUpper v_greatLower A_now A_undos A_seen A_seenAs A_isKept A_kept A_text A_read A_fewest A_doors A_isSo) := hD
              refine lv_aload_n hx hb dX11_next_91 rfl (lv_at hl 0 rfl) ?_
              refine lv_dup hx hb dX11_next_92 rfl ?_
              refine va_get (ci := 11) (v := .int v_readAt_43) (C := RX11) (T := TX11) (N := 23) hx hb htT inlX11 hown hK hP 0 rfl rfl 11 (by decide) (htT _ q_13_22) (fun _ h9 => h9) rfl dX11_next_93 ?_
              refine lv_iconst (v := (1 : Int32)) hx hb dX11_next_96 rfl ?_
              refine lv_iadd hx hb dX11_next_97 ?_
              refine va_put (ci := 11) (v := .int (v_readAt_43 + (1 : Int32))) (ty := .int) (C := RX11) (T := TX11) (N := 23) hx hb htT inlX11 tyX11 tyX11_ok nmX11 hown hK hP hD hS 0 rfl rfl 11 (by decide) (htT _ q_13_22) (fun _ h9 => h9) rfl (tyX11_ok 11 (by decide)) rfl rfl (Nat.le_of_ble_eq_true rfl) dX11_next_98 (fun H locs hP hD hS => ?_)
              have hP : va_P D vwCl (k_Mo cC cI cZ a_this a_now a_undos a_seen a_seenAs a_isKept a_kept a_text a_read a_fewest a_doors a_isSo v_undoMany v_undoAt v_seenMany v_letterMany (v_readAt_43 + (1 : Int32)) z1 v_token ((((10 : Int32) * v_value_43) + (A_text (v_readAt_43).toNatClampNeg)) - (48 : Int32)) v_faultAt v_readOnce v_greatUpper v_greatLower A_now A_undos A_seen A_seenAs A_isKept A_kept A_text A_read A_fewest A_doors A_isSo) H := hP
              have hD : va_D A (k_Mo cC cI cZ a_this a_now a_undos a_seen a_seenAs a_isKept a_kept a_text a_read a_fewest a_doors a_isSo v_undoMany v_undoAt v_seenMany v_letterMany (v_readAt_43 + (1 : Int32)) z1 v_token ((((10 : Int32) * v_value_43) + (A_text (v_readAt_43).toNatClampNeg)) - (48 : Int32)) v_faultAt v_readOnce v_greatUpper v_greatLower A_now A_undos A_seen A_seenAs A_isKept A_kept A_text A_read A_fewest A_doors A_isSo) := hD
              refine lv_goto (tgt := 43) hx hb dX11_next_101 (by decide) ?_
              exact ih43 (v_readAt_43 + (1 : Int32)) ((((10 : Int32) * v_value_43) + (A_text (v_readAt_43).toNatClampNeg)) - (48 : Int32)) _ h _ _ _ hP hD hS (lv_sub hl [0] rfl) k43_0
            · have h := im c14 h
              refine lv_aload_n hx hb dX11_next_61 rfl (lv_at hl 0 rfl) ?_
              refine va_get (ci := 11) (v := .int v_value_43) (C := RX11) (T := TX11) (N := 23) hx hb htT inlX11 hown hK hP 0 rfl rfl 14 (by decide) (htT _ q_14_16) (fun _ h9 => h9) rfl dX11_next_62 ?_
              refine lv_goto (tgt := 88) hx hb dX11_next_65 (by decide) ?_
              refine va_put (ci := 11) (v := .int v_value_43) (ty := .int) (C := RX11) (T := TX11) (N := 23) hx hb htT inlX11 tyX11 tyX11_ok nmX11 hown hK hP hD hS 0 rfl rfl 14 (by decide) (htT _ q_14_16) (fun _ h9 => h9) rfl (tyX11_ok 14 (by decide)) rfl rfl (Nat.le_of_ble_eq_true rfl) dX11_next_88 (fun H locs hP hD hS => ?_)
              have hP : va_P D vwCl (k_Mo cC cI cZ a_this a_now a_undos a_seen a_seenAs a_isKept a_kept a_text a_read a_fewest a_doors a_isSo v_undoMany v_undoAt v_seenMany v_letterMany v_readAt_43 z1 v_token v_value_43 v_faultAt v_readOnce v_greatUpper v_greatLower A_now A_undos A_seen A_seenAs A_isKept A_kept A_text A_read A_fewest A_doors A_isSo) H := hP
              have hD : va_D A (k_Mo cC cI cZ a_this a_now a_undos a_seen a_seenAs a_isKept a_kept a_text a_read a_fewest a_doors a_isSo v_undoMany v_undoAt v_seenMany v_letterMany v_readAt_43 z1 v_token v_value_43 v_faultAt v_readOnce v_greatUpper v_greatLower A_now A_undos A_seen A_seenAs A_isKept A_kept A_text A_read A_fewest A_doors A_isSo) := hD
              refine lv_aload_n hx hb dX11_next_91 rfl (lv_at hl 0 rfl) ?_
              refine lv_dup hx hb dX11_next_92 rfl ?_
              refine va_get (ci := 11) (v := .int v_readAt_43) (C := RX11) (T := TX11) (N := 23) hx hb htT inlX11 hown hK hP 0 rfl rfl 11 (by decide) (htT _ q_13_22) (fun _ h9 => h9) rfl dX11_next_93 ?_
              refine lv_iconst (v := (1 : Int32)) hx hb dX11_next_96 rfl ?_
              refine lv_iadd hx hb dX11_next_97 ?_
              refine va_put (ci := 11) (v := .int (v_readAt_43 + (1 : Int32))) (ty := .int) (C := RX11) (T := TX11) (N := 23) hx hb htT inlX11 tyX11 tyX11_ok nmX11 hown hK hP hD hS 0 rfl rfl 11 (by decide) (htT _ q_13_22) (fun _ h9 => h9) rfl (tyX11_ok 11 (by decide)) rfl rfl (Nat.le_of_ble_eq_true rfl) dX11_next_98 (fun H locs hP hD hS => ?_)
              have hP : va_P D vwCl (k_Mo cC cI cZ a_this a_now a_undos a_seen a_seenAs a_isKept a_kept a_text a_read a_fewest a_doors a_isSo v_undoMany v_undoAt v_seenMany v_letterMany (v_readAt_43 + (1 : Int32)) z1 v_token v_value_43 v_faultAt v_readOnce v_greatUpper v_greatLower A_now A_undos A_seen A_seenAs A_isKept A_kept A_text A_read A_fewest A_doors A_isSo) H := hP
              have hD : va_D A (k_Mo cC cI cZ a_this a_now a_undos a_seen a_seenAs a_isKept a_kept a_text a_read a_fewest a_doors a_isSo v_undoMany v_undoAt v_seenMany v_letterMany (v_readAt_43 + (1 : Int32)) z1 v_token v_value_43 v_faultAt v_readOnce v_greatUpper v_greatLower A_now A_undos A_seen A_seenAs A_isKept A_kept A_text A_read A_fewest A_doors A_isSo) := hD
              refine lv_goto (tgt := 43) hx hb dX11_next_101 (by decide) ?_
              exact ih43 (v_readAt_43 + (1 : Int32)) v_value_43 _ h _ _ _ hP hD hS (lv_sub hl [0] rfl) k43_0
      obtain ⟨z11, e11, h⟩ := bd h
      refine LP43 fu z1 (0 : Int32) z11 e11 _ _ _ hP hD hS (lv_sub hl [0] rfl) ?_
      intro H locs ls hP hD hS hl
      refine lv_aload_n hx hb dX11_next_104 rfl (lv_at hl 0 rfl) ?_
      refine lv_aload_n hx hb dX11_next_105 rfl (lv_at hl 0 rfl) ?_
      refine va_get (ci := 11) (v := .int z11.2) (C := RX11) (T := TX11) (N := 23) hx hb htT inlX11 hown hK hP 0 rfl rfl 14 (by decide) (htT _ q_14_16) (fun _ h9 => h9) rfl dX11_next_106 ?_
      refine lv_sipush (v := (9999 : Int32)) hx hb dX11_next_109 rfl ?_
      refine lv_icmp_gt (tgt := 142) hx hb dX11_next_112 (by decide) (fun c16 => ?_) (fun c16 => ?_)
      · have h := ip c16 h
        refine lv_bipush (v := (-2 : Int32)) hx hb dX11_next_142 rfl ?_
        refine lv_goto (tgt := 148) hx hb dX11_next_144 (by decide) ?_
        refine va_put (ci := 11) (v := .int (-2 : Int32)) (ty := .int) (C := RX11) (T := TX11) (N := 23) hx hb htT inlX11 tyX11 tyX11_ok nmX11 hown hK hP hD hS 0 rfl rfl 13 (by decide) (htT _ q_14_10) (fun _ h9 => h9) rfl (tyX11_ok 13 (by decide)) rfl rfl (Nat.le_of_ble_eq_true rfl) dX11_next_148 (fun H locs hP hD hS => ?_)
        have hP : va_P D vwCl (k_Mo cC cI cZ a_this a_now a_undos a_seen a_seenAs a_isKept a_kept a_text a_read a_fewest a_doors a_isSo v_undoMany v_undoAt v_seenMany v_letterMany z11.1 z1 (-2 : Int32) z11.2 v_faultAt v_readOnce v_greatUpper v_greatLower A_now A_undos A_seen A_seenAs A_isKept A_kept A_text A_read A_fewest A_doors A_isSo) H := hP
        have hD : va_D A (k_Mo cC cI cZ a_this a_now a_undos a_seen a_seenAs a_isKept a_kept a_text a_read a_fewest a_doors a_isSo v_undoMany v_undoAt v_seenMany v_letterMany z11.1 z1 (-2 : Int32) z11.2 v_faultAt v_readOnce v_greatUpper v_greatLower A_now A_undos A_seen A_seenAs A_isKept A_kept A_text A_read A_fewest A_doors A_isSo) := hD
        refine lv_goto (tgt := 214) hx hb dX11_next_151 (by decide) ?_
        obtain rfl := Option.some.inj h
        exact hret _ _ _ _ hP hS dX11_next_214
      · have h := im c16 h
        refine lv_aload_n hx hb dX11_next_115 rfl (lv_at hl 0 rfl) ?_
        refine va_get (ci := 11) (v := .ref a_text) (C := RX11) (T := TX11) (N := 23) hx hb htT inlX11 hown hK hP 0 rfl rfl 10 (by decide) (htT _ q_7_7) (fun _ h9 => h9) rfl dX11_next_116 ?_
        refine lv_aload_n hx hb dX11_next_119 rfl (lv_at hl 0 rfl) ?_
        refine va_get (ci := 11) (v := .int z1) (C := RX11) (T := TX11) (N := 23) hx hb htT inlX11 hown hK hP 0 rfl rfl 12 (by decide) (htT _ q_14_15) (fun _ h9 => h9) rfl dX11_next_120 ?_
        obtain ⟨g17, h⟩ := gd h
        refine va_iald hx hb hK hP 7 1 rfl rfl (inB_in g17) dX11_next_123 ?_
        refine lv_bipush (v := (48 : Int32)) hx hb dX11_next_124 rfl ?_
        refine lv_icmp_ne (tgt := 147) hx hb dX11_next_126 (by decide) (fun c18 => ?_) (fun c18 => ?_)
        · have h := im c18 h
          refine lv_iconst (v := (0 : Int32)) hx hb dX11_next_147 rfl ?_
          refine va_put (ci := 11) (v := .int (0 : Int32)) (ty := .int) (C := RX11) (T := TX11) (N := 23) hx hb htT inlX11 tyX11 tyX11_ok nmX11 hown hK hP hD hS 0 rfl rfl 13 (by decide) (htT _ q_14_10) (fun _ h9 => h9) rfl (tyX11_ok 13 (by decide)) rfl rfl (Nat.le_of_ble_eq_true rfl) dX11_next_148 (fun H locs hP hD hS => ?_)
          have hP : va_P D vwCl (k_Mo cC cI cZ a_this a_now a_undos a_seen a_seenAs a_isKept a_kept a_text a_read a_fewest a_doors a_isSo v_undoMany v_undoAt v_seenMany v_letterMany z11.1 z1 (0 : Int32) z11.2 v_faultAt v_readOnce v_greatUpper v_greatLower A_now A_undos A_seen A_seenAs A_isKept A_kept A_text A_read A_fewest A_doors A_isSo) H := hP
          have hD : va_D A (k_Mo cC cI cZ a_this a_now a_undos a_seen a_seenAs a_isKept a_kept a_text a_read a_fewest a_doors a_isSo v_undoMany v_undoAt v_seenMany v_letterMany z11.1 z1 (0 : Int32) z11.2 v_faultAt v_readOnce v_greatUpper v_greatLower A_now A_undos A_seen A_seenAs A_isKept A_kept A_text A_read A_fewest A_doors A_isSo) := hD
          refine lv_goto (tgt := 214) hx hb dX11_next_151 (by decide) ?_
          obtain rfl := Option.some.inj h
          exact hret _ _ _ _ hP hS dX11_next_214
        · have h := ip c18 h
          refine lv_aload_n hx hb dX11_next_129 rfl (lv_at hl 0 rfl) ?_
          refine va_get (ci := 11) (v := .int z11.1) (C := RX11) (T := TX11) (N := 23) hx hb htT inlX11 hown hK hP 0 rfl rfl 11 (by decide) (htT _ q_13_22) (fun _ h9 => h9) rfl dX11_next_130 ?_
          refine lv_aload_n hx hb dX11_next_133 rfl (lv_at hl 0 rfl) ?_
          refine va_get (ci := 11) (v := .int z1) (C := RX11) (T := TX11) (N := 23) hx hb htT inlX11 hown hK hP 0 rfl rfl 12 (by decide) (htT _ q_14_15) (fun _ h9 => h9) rfl dX11_next_134 ?_
          refine lv_isub hx hb dX11_next_137 ?_
          refine lv_iconst (v := (1 : Int32)) hx hb dX11_next_138 rfl ?_
          refine lv_icmp_le (tgt := 147) hx hb dX11_next_139 (by decide) (fun c19 => ?_) (fun c19 => ?_)
          · have h := ip c19 h
            refine lv_iconst (v := (0 : Int32)) hx hb dX11_next_147 rfl ?_
            refine va_put (ci := 11) (v := .int (0 : Int32)) (ty := .int) (C := RX11) (T := TX11) (N := 23) hx hb htT inlX11 tyX11 tyX11_ok nmX11 hown hK hP hD hS 0 rfl rfl 13 (by decide) (htT _ q_14_10) (fun _ h9 => h9) rfl (tyX11_ok 13 (by decide)) rfl rfl (Nat.le_of_ble_eq_true rfl) dX11_next_148 (fun H locs hP hD hS => ?_)
            have hP : va_P D vwCl (k_Mo cC cI cZ a_this a_now a_undos a_seen a_seenAs a_isKept a_kept a_text a_read a_fewest a_doors a_isSo v_undoMany v_undoAt v_seenMany v_letterMany z11.1 z1 (0 : Int32) z11.2 v_faultAt v_readOnce v_greatUpper v_greatLower A_now A_undos A_seen A_seenAs A_isKept A_kept A_text A_read A_fewest A_doors A_isSo) H := hP
            have hD : va_D A (k_Mo cC cI cZ a_this a_now a_undos a_seen a_seenAs a_isKept a_kept a_text a_read a_fewest a_doors a_isSo v_undoMany v_undoAt v_seenMany v_letterMany z11.1 z1 (0 : Int32) z11.2 v_faultAt v_readOnce v_greatUpper v_greatLower A_now A_undos A_seen A_seenAs A_isKept A_kept A_text A_read A_fewest A_doors A_isSo) := hD
            refine lv_goto (tgt := 214) hx hb dX11_next_151 (by decide) ?_
            obtain rfl := Option.some.inj h
            exact hret _ _ _ _ hP hS dX11_next_214
          · have h := im c19 h
            refine lv_bipush (v := (-2 : Int32)) hx hb dX11_next_142 rfl ?_
            refine lv_goto (tgt := 148) hx hb dX11_next_144 (by decide) ?_
            refine va_put (ci := 11) (v := .int (-2 : Int32)) (ty := .int) (C := RX11) (T := TX11) (N := 23) hx hb htT inlX11 tyX11 tyX11_ok nmX11 hown hK hP hD hS 0 rfl rfl 13 (by decide) (htT _ q_14_10) (fun _ h9 => h9) rfl (tyX11_ok 13 (by decide)) rfl rfl (Nat.le_of_ble_eq_true rfl) dX11_next_148 (fun H locs hP hD hS => ?_)
            have hP : va_P D vwCl (k_Mo cC cI cZ a_this a_now a_undos a_seen a_seenAs a_isKept a_kept a_text a_read a_fewest a_doors a_isSo v_undoMany v_undoAt v_seenMany v_letterMany z11.1 z1 (-2 : Int32) z11.2 v_faultAt v_readOnce v_greatUpper v_greatLower A_now A_undos A_seen A_seenAs A_isKept A_kept A_text A_read A_fewest A_doors A_isSo) H := hP
            have hD : va_D A (k_Mo cC cI cZ a_this a_now a_undos a_seen a_seenAs a_isKept a_kept a_text a_read a_fewest a_doors a_isSo v_undoMany v_undoAt v_seenMany v_letterMany z11.1 z1 (-2 : Int32) z11.2 v_faultAt v_readOnce v_greatUpper v_greatLower A_now A_undos A_seen A_seenAs A_isKept A_kept A_text A_read A_fewest A_doors A_isSo) := hD
            refine lv_goto (tgt := 214) hx hb dX11_next_151 (by decide) ?_
            obtain rfl := Option.some.inj h
            exact hret _ _ _ _ hP hS dX11_next_214
  · have h := ip c2 h
    refine lv_aload_n hx hb dX11_next_23 rfl (lv_at hl 0 rfl) ?_
    refine lv_iconst (v := (-1 : Int32)) hx hb dX11_next_24 rfl ?_
    refine va_put (ci := 11) (v := .int (-1 : Int32)) (ty := .int) (C := RX11) (T := TX11) (N := 23) hx hb htT inlX11 tyX11 tyX11_ok nmX11 hown hK hP hD hS 0 rfl rfl 13 (by decide) (htT _ q_14_10) (fun _ h9 => h9) rfl (tyX11_ok 13 (by decide)) rfl rfl (Nat.le_of_ble_eq_true rfl) dX11_next_25 (fun H locs hP hD hS => ?_)
    have hP : va_P D vwCl (k_Mo cC cI cZ a_this a_now a_undos a_seen a_seenAs a_isKept a_kept a_text a_read a_fewest a_doors a_isSo v_undoMany v_undoAt v_seenMany v_letterMany z1 z1 (-1 : Int32) v_value v_faultAt v_readOnce v_greatUpper v_greatLower A_now A_undos A_seen A_seenAs A_isKept A_kept A_text A_read A_fewest A_doors A_isSo) H := hP
    have hD : va_D A (k_Mo cC cI cZ a_this a_now a_undos a_seen a_seenAs a_isKept a_kept a_text a_read a_fewest a_doors a_isSo v_undoMany v_undoAt v_seenMany v_letterMany z1 z1 (-1 : Int32) v_value v_faultAt v_readOnce v_greatUpper v_greatLower A_now A_undos A_seen A_seenAs A_isKept A_kept A_text A_read A_fewest A_doors A_isSo) := hD
    refine lv_goto (tgt := 214) hx hb dX11_next_28 (by decide) ?_
    obtain rfl := Option.some.inj h
    exact hret _ _ _ _ hP hS dX11_next_214
set_option maxHeartbeats 4000000 in
set_option maxRecDepth 100000 in
theorem c_Mo_fails (l : Launch) (D : va_G) (cC cI cZ : ClassId) (a_this : Nat) (a_now : Nat) (a_undos : Nat) (a_seen : Nat) (a_seenAs : Nat) (a_isKept : Nat) (a_kept : Nat) (a_text : Nat) (a_read : Nat) (a_fewest : Nat) (a_doors : Nat) (a_isSo : Nat) (v_undoMany : Int32) (v_undoAt : Int32) (v_seenMany : Int32) (v_letterMany : Int32) (v_readAt : Int32) (v_tokenAt : Int32) (v_token : Int32) (v_value : Int32) (v_faultAt : Int32) (v_readOnce : Int32) (v_greatUpper : Int64) (v_greatLower : Int64) (A_now : Nat → Int32) (A_undos : Nat → Int32) (A_seen : Nat → Int32) (A_seenAs : Nat → Int32) (A_isKept : Nat → Int32) (A_kept : Nat → Int32) (A_text : Nat → Int32) (A_read : Nat → Int32) (A_fewest : Nat → Int32) (A_doors : Nat → Int32) (A_isSo : Nat → Int32)  (sz : Nat) (z : Int32 × Int32) (h : f_Mo_fails v_tokenAt v_faultAt = some z) : Met l yX11_fails (.code yX11_fails cX11_fails 1 (some .boolean) :: TBL) (RM 0 0) (PcM [.ref a_this] sz D (TY cC cI cZ) (k_Mo cC cI cZ a_this a_now a_undos a_seen a_seenAs a_isKept a_kept a_text a_read a_fewest a_doors a_isSo v_undoMany v_undoAt v_seenMany v_letterMany v_readAt v_tokenAt v_token v_value v_faultAt v_readOnce v_greatUpper v_greatLower A_now A_undos A_seen A_seenAs A_isKept A_kept A_text A_read A_fewest A_doors A_isSo)) (fun a st o t => QM (some (.int z.1)) D (k_Mo cC cI cZ a_this a_now a_undos a_seen a_seenAs a_isKept a_kept a_text a_read a_fewest a_doors a_isSo v_undoMany v_undoAt v_seenMany v_letterMany v_readAt v_tokenAt v_token v_value z.2 v_readOnce v_greatUpper v_greatLower A_now A_undos A_seen A_seenAs A_isKept A_kept A_text A_read A_fewest A_doors A_isSo) (va_A (k_Mo cC cI cZ a_this a_now a_undos a_seen a_seenAs a_isKept a_kept a_text a_read a_fewest a_doors a_isSo v_undoMany v_undoAt v_seenMany v_letterMany v_readAt v_tokenAt v_token v_value v_faultAt v_readOnce v_greatUpper v_greatLower A_now A_undos A_seen A_seenAs A_isKept A_kept A_text A_read A_fewest A_doors A_isSo) sz) a st o t ∧ narrow .boolean (.int z.1) = .int z.1) 0 0 (va_A (k_Mo cC cI cZ a_this a_now a_undos a_seen a_seenAs a_isKept a_kept a_text a_read a_fewest a_doors a_isSo v_undoMany v_undoAt v_seenMany v_letterMany v_readAt v_tokenAt v_token v_value v_faultAt v_readOnce v_greatUpper v_greatLower A_now A_undos A_seen A_seenAs A_isKept A_kept A_text A_read A_fewest A_doors A_isSo) sz) := by
  refine muOf (by decide) (Nat.le_of_ble_eq_true rfl) rfl ?_
  intro p e s m args below meth c Q ls A X hP hD hS hA hl hret
  have X : Ctx p s m args c cX11_fails 1 RX11 D (TY cC cI cZ) := X
  obtain ⟨hx, hb, hml, hown, htT, hK, hN⟩ := id X
  unfold f_Mo_fails at h
  refine lv_aload_n hx hb dX11_fails_0 rfl (lv_at hl 0 rfl) ?_
  refine lv_aload_n hx hb dX11_fails_1 rfl (lv_at hl 0 rfl) ?_
  refine va_get (ci := 11) (v := .int v_tokenAt) (C := RX11) (T := TX11) (N := 23) hx hb htT inlX11 hown hK hP 0 rfl rfl 12 (by decide) (htT _ q_14_15) (fun _ h9 => h9) rfl dX11_fails_2 ?_
  refine va_put (ci := 11) (v := .int v_tokenAt) (ty := .int) (C := RX11) (T := TX11) (N := 23) hx hb htT inlX11 tyX11 tyX11_ok nmX11 hown hK hP hD hS 0 rfl rfl 15 (by decide) (htT _ q_13_23) (fun _ h9 => h9) rfl (tyX11_ok 15 (by decide)) rfl rfl (Nat.le_of_ble_eq_true rfl) dX11_fails_5 (fun H locs hP hD hS => ?_)
  have hP : va_P D vwCl (k_Mo cC cI cZ a_this a_now a_undos a_seen a_seenAs a_isKept a_kept a_text a_read a_fewest a_doors a_isSo v_undoMany v_undoAt v_seenMany v_letterMany v_readAt v_tokenAt v_token v_value v_tokenAt v_readOnce v_greatUpper v_greatLower A_now A_undos A_seen A_seenAs A_isKept A_kept A_text A_read A_fewest A_doors A_isSo) H := hP
  have hD : va_D A (k_Mo cC cI cZ a_this a_now a_undos a_seen a_seenAs a_isKept a_kept a_text a_read a_fewest a_doors a_isSo v_undoMany v_undoAt v_seenMany v_letterMany v_readAt v_tokenAt v_token v_value v_tokenAt v_readOnce v_greatUpper v_greatLower A_now A_undos A_seen A_seenAs A_isKept A_kept A_text A_read A_fewest A_doors A_isSo) := hD
  refine lv_iconst (v := (0 : Int32)) hx hb dX11_fails_8 rfl ?_
  obtain rfl := Option.some.inj h
  exact hret _ _ _ _ _ hP hS dX11_fails_9 rfl rfl
set_option maxHeartbeats 4000000 in
set_option maxRecDepth 100000 in
theorem c_Mo_ends (l : Launch) (D : va_G) (cC cI cZ : ClassId) (a_this : Nat) (a_now : Nat) (a_undos : Nat) (a_seen : Nat) (a_seenAs : Nat) (a_isKept : Nat) (a_kept : Nat) (a_text : Nat) (a_read : Nat) (a_fewest : Nat) (a_doors : Nat) (a_isSo : Nat) (v_undoMany : Int32) (v_undoAt : Int32) (v_seenMany : Int32) (v_letterMany : Int32) (v_readAt : Int32) (v_tokenAt : Int32) (v_token : Int32) (v_value : Int32) (v_faultAt : Int32) (v_readOnce : Int32) (v_greatUpper : Int64) (v_greatLower : Int64) (A_now : Nat → Int32) (A_undos : Nat → Int32) (A_seen : Nat → Int32) (A_seenAs : Nat → Int32) (A_isKept : Nat → Int32) (A_kept : Nat → Int32) (A_text : Nat → Int32) (A_read : Nat → Int32) (A_fewest : Nat → Int32) (A_doors : Nat → Int32) (A_isSo : Nat → Int32)  (sz : Nat) (z : Int32 × Int32 × Int32 × Int32 × Int32 × Int32) (h : f_Mo_ends v_letterMany v_readAt v_tokenAt v_token v_value v_faultAt A_text = some z) : Met l yX11_ends (.code yX11_ends cX11_ends 1 (some .boolean) :: TBL) (RM 3 63) (PcM [.ref a_this] sz D (TY cC cI cZ) (k_Mo cC cI cZ a_this a_now a_undos a_seen a_seenAs a_isKept a_kept a_text a_read a_fewest a_doors a_isSo v_undoMany v_undoAt v_seenMany v_letterMany v_readAt v_tokenAt v_token v_value v_faultAt v_readOnce v_greatUpper v_greatLower A_now A_undos A_seen A_seenAs A_isKept A_kept A_text A_read A_fewest A_doors A_isSo)) (fun a st o t => QM (some (.int z.1)) D (k_Mo cC cI cZ a_this a_now a_undos a_seen a_seenAs a_isKept a_kept a_text a_read a_fewest a_doors a_isSo v_undoMany v_undoAt v_seenMany v_letterMany z.2.1 z.2.2.1 z.2.2.2.1 z.2.2.2.2.1 z.2.2.2.2.2 v_readOnce v_greatUpper v_greatLower A_now A_undos A_seen A_seenAs A_isKept A_kept A_text A_read A_fewest A_doors A_isSo) (va_A (k_Mo cC cI cZ a_this a_now a_undos a_seen a_seenAs a_isKept a_kept a_text a_read a_fewest a_doors a_isSo v_undoMany v_undoAt v_seenMany v_letterMany v_readAt v_tokenAt v_token v_value v_faultAt v_readOnce v_greatUpper v_greatLower A_now A_undos A_seen A_seenAs A_isKept A_kept A_text A_read A_fewest A_doors A_isSo) sz) a st o t ∧ narrow .boolean (.int z.1) = .int z.1) 0 0 (va_A (k_Mo cC cI cZ a_this a_now a_undos a_seen a_seenAs a_isKept a_kept a_text a_read a_fewest a_doors a_isSo v_undoMany v_undoAt v_seenMany v_letterMany v_readAt v_tokenAt v_token v_value v_faultAt v_readOnce v_greatUpper v_greatLower A_now A_undos A_seen A_seenAs A_isKept A_kept A_text A_read A_fewest A_doors A_isSo) sz) := by
  refine muOf (by decide) (Nat.le_of_ble_eq_true rfl) rfl ?_
  intro p e s m args below meth c Q ls A X hP hD hS hA hl hret
  have X : Ctx p s m args c cX11_ends 1 RX11 D (TY cC cI cZ) := X
  obtain ⟨hx, hb, hml, hown, htT, hK, hN⟩ := id X
  unfold f_Mo_ends at h
  refine lv_aload_n hx hb dX11_ends_0 rfl (lv_at hl 0 rfl) ?_
  obtain ⟨z1, e1, h⟩ := bd h
  refine muVV (ws' := (k_Mo cC cI cZ a_this a_now a_undos a_seen a_seenAs a_isKept a_kept a_text a_read a_fewest a_doors a_isSo v_undoMany v_undoAt v_seenMany v_letterMany z1.1 z1.2.1 z1.2.2.1 z1.2.2.2 v_faultAt v_readOnce v_greatUpper v_greatLower A_now A_undos A_seen A_seenAs A_isKept A_kept A_text A_read A_fewest A_doors A_isSo)) X [] [] (c_Mo_next l D cC cI cZ a_this a_now a_undos a_seen a_seenAs a_isKept a_kept a_text a_read a_fewest a_doors a_isSo v_undoMany v_undoAt v_seenMany v_letterMany v_readAt v_tokenAt v_token v_value v_faultAt v_readOnce v_greatUpper v_greatLower A_now A_undos A_seen A_seenAs A_isKept A_kept A_text A_read A_fewest A_doors A_isSo _ z1 e1) gg_X11_78 hd_Mo_next ⟨rfl, rfl, Nat.le_of_ble_eq_true rfl, Nat.le_of_ble_eq_true rfl⟩ ⟨Nat.zero_le _, Nat.zero_le _⟩ hP hD hS hA [0, 1, 2, 3, 4, 5, 6, 7, 8, 9, 10, 11] [] [0, 1, 2, 3, 4, 5, 6, 7, 8, 9, 10, 11] rfl rfl (by decide) (by decide) rfl rfl rfl rfl rfl hl.1 rfl (Nat.le_of_ble_eq_true rfl) dX11_ends_1 (fun H locs hP hD hS => ?_)
  refine lv_aload_n hx hb dX11_ends_4 rfl (lv_at hl 0 rfl) ?_
  refine va_get (ci := 11) (v := .int z1.2.2.1) (C := RX11) (T := TX11) (N := 23) hx hb htT inlX11 hown hK hP 0 rfl rfl 13 (by decide) (htT _ q_14_10) (fun _ h9 => h9) rfl dX11_ends_5 ?_
  refine lv_bipush (v := (59 : Int32)) hx hb dX11_ends_8 rfl ?_
  refine lv_icmp_eq (tgt := 20) hx hb dX11_ends_10 (by decide) (fun c2 => ?_) (fun c2 => ?_)
  · have h := ip c2 h
    refine lv_iconst (v := (1 : Int32)) hx hb dX11_ends_20 rfl ?_
    refine lv_goto (tgt := 25) hx hb dX11_ends_21 (by decide) ?_
    obtain rfl := Option.some.inj h
    exact hret _ _ _ _ _ hP hS dX11_ends_25 rfl rfl
  · have h := im c2 h
    refine lv_aload_n hx hb dX11_ends_13 rfl (lv_at hl 0 rfl) ?_
    obtain ⟨z3, e3, h⟩ := bd h
    refine muV (ws' := (k_Mo cC cI cZ a_this a_now a_undos a_seen a_seenAs a_isKept a_kept a_text a_read a_fewest a_doors a_isSo v_undoMany v_undoAt v_seenMany v_letterMany z1.1 z1.2.1 z1.2.2.1 z1.2.2.2 z3.2 v_readOnce v_greatUpper v_greatLower A_now A_undos A_seen A_seenAs A_isKept A_kept A_text A_read A_fewest A_doors A_isSo)) X [] [] (c_Mo_fails l D cC cI cZ a_this a_now a_undos a_seen a_seenAs a_isKept a_kept a_text a_read a_fewest a_doors a_isSo v_undoMany v_undoAt v_seenMany v_letterMany z1.1 z1.2.1 z1.2.2.1 z1.2.2.2 v_faultAt v_readOnce v_greatUpper v_greatLower A_now A_undos A_seen A_seenAs A_isKept A_kept A_text A_read A_fewest A_doors A_isSo _ z3 e3) gg_X11_81 hd_Mo_fails ⟨rfl, rfl, Nat.le_of_ble_eq_true rfl, Nat.le_of_ble_eq_true rfl⟩ ⟨Nat.zero_le _, Nat.zero_le _⟩ hP hD hS hA [0, 1, 2, 3, 4, 5, 6, 7, 8, 9, 10, 11] [] [0, 1, 2, 3, 4, 5, 6, 7, 8, 9, 10, 11] rfl rfl (by decide) (by decide) rfl rfl rfl rfl rfl hl.1 rfl (Nat.le_of_ble_eq_true rfl) dX11_ends_14 (fun H locs hP hD hS n3 => ?_)
    refine lv_if_eq (tgt := 24) hx hb dX11_ends_17 (by decide) (fun c4 => ?_) (fun c4 => ?_)
    · have h := ip c4 h
      refine lv_iconst (v := (0 : Int32)) hx hb dX11_ends_24 rfl ?_
      obtain rfl := Option.some.inj h
      exact hret _ _ _ _ _ hP hS dX11_ends_25 rfl rfl
    · have h := im c4 h
      refine lv_iconst (v := (1 : Int32)) hx hb dX11_ends_20 rfl ?_
      refine lv_goto (tgt := 25) hx hb dX11_ends_21 (by decide) ?_
      obtain rfl := Option.some.inj h
      exact hret _ _ _ _ _ hP hS dX11_ends_25 rfl rfl
set_option maxHeartbeats 4000000 in
set_option maxRecDepth 100000 in
theorem c_Mo_forget (l : Launch) (D : va_G) (cC cI cZ : ClassId) (a_this : Nat) (a_now : Nat) (a_undos : Nat) (a_seen : Nat) (a_seenAs : Nat) (a_isKept : Nat) (a_kept : Nat) (a_text : Nat) (a_read : Nat) (a_fewest : Nat) (a_doors : Nat) (a_isSo : Nat) (v_undoMany : Int32) (v_undoAt : Int32) (v_seenMany : Int32) (v_letterMany : Int32) (v_readAt : Int32) (v_tokenAt : Int32) (v_token : Int32) (v_value : Int32) (v_faultAt : Int32) (v_readOnce : Int32) (v_greatUpper : Int64) (v_greatLower : Int64) (A_now : Nat → Int32) (A_undos : Nat → Int32) (A_seen : Nat → Int32) (A_seenAs : Nat → Int32) (A_isKept : Nat → Int32) (A_kept : Nat → Int32) (A_text : Nat → Int32) (A_read : Nat → Int32) (A_fewest : Nat → Int32) (A_doors : Nat → Int32) (A_isSo : Nat → Int32)  (sz : Nat) (z : Int32 × Int32) (h : f_Mo_forget v_seenMany = some z) : Met l yX11_forget (.code yX11_forget cX11_forget 2 (some .int) :: TBL) (RM 0 0) (PcM [.ref a_this] sz D (TY cC cI cZ) (k_Mo cC cI cZ a_this a_now a_undos a_seen a_seenAs a_isKept a_kept a_text a_read a_fewest a_doors a_isSo v_undoMany v_undoAt v_seenMany v_letterMany v_readAt v_tokenAt v_token v_value v_faultAt v_readOnce v_greatUpper v_greatLower A_now A_undos A_seen A_seenAs A_isKept A_kept A_text A_read A_fewest A_doors A_isSo)) (fun a st o t => QM (some (.int z.1)) D (k_Mo cC cI cZ a_this a_now a_undos a_seen a_seenAs a_isKept a_kept a_text a_read a_fewest a_doors a_isSo v_undoMany v_undoAt z.2 v_letterMany v_readAt v_tokenAt v_token v_value v_faultAt v_readOnce v_greatUpper v_greatLower A_now A_undos A_seen A_seenAs A_isKept A_kept A_text A_read A_fewest A_doors A_isSo) (va_A (k_Mo cC cI cZ a_this a_now a_undos a_seen a_seenAs a_isKept a_kept a_text a_read a_fewest a_doors a_isSo v_undoMany v_undoAt v_seenMany v_letterMany v_readAt v_tokenAt v_token v_value v_faultAt v_readOnce v_greatUpper v_greatLower A_now A_undos A_seen A_seenAs A_isKept A_kept A_text A_read A_fewest A_doors A_isSo) sz) a st o t ∧ narrow .int (.int z.1) = .int z.1) 0 0 (va_A (k_Mo cC cI cZ a_this a_now a_undos a_seen a_seenAs a_isKept a_kept a_text a_read a_fewest a_doors a_isSo v_undoMany v_undoAt v_seenMany v_letterMany v_readAt v_tokenAt v_token v_value v_faultAt v_readOnce v_greatUpper v_greatLower A_now A_undos A_seen A_seenAs A_isKept A_kept A_text A_read A_fewest A_doors A_isSo) sz) := by
  refine muOf (by decide) (Nat.le_of_ble_eq_true rfl) rfl ?_
  intro p e s m args below meth c Q ls A X hP hD hS hA hl hret
  have X : Ctx p s m args c cX11_forget 2 RX11 D (TY cC cI cZ) := X
  obtain ⟨hx, hb, hml, hown, htT, hK, hN⟩ := id X
  unfold f_Mo_forget at h
  refine lv_aload_n hx hb dX11_forget_0 rfl (lv_at hl 0 rfl) ?_
  refine va_get (ci := 11) (v := .int v_seenMany) (C := RX11) (T := TX11) (N := 23) hx hb htT inlX11 hown hK hP 0 rfl rfl 4 (by decide) (htT _ q_14_1) (fun _ h9 => h9) rfl dX11_forget_1 ?_
  refine lv_istore_n (lv' := [(1, .int v_seenMany), (0, .ref a_this)]) hx hb dX11_forget_4 rfl hl (by decide) rfl (fun ls hl => ?_)
  refine lv_aload_n hx hb dX11_forget_5 rfl (lv_at hl 1 rfl) ?_
  refine lv_iconst (v := (0 : Int32)) hx hb dX11_forget_6 rfl ?_
  refine va_put (ci := 11) (v := .int (0 : Int32)) (ty := .int) (C := RX11) (T := TX11) (N := 23) hx hb htT inlX11 tyX11 tyX11_ok nmX11 hown hK hP hD hS 0 rfl rfl 4 (by decide) (htT _ q_14_1) (fun _ h9 => h9) rfl (tyX11_ok 4 (by decide)) rfl rfl (Nat.le_of_ble_eq_true rfl) dX11_forget_7 (fun H locs hP hD hS => ?_)
  have hP : va_P D vwCl (k_Mo cC cI cZ a_this a_now a_undos a_seen a_seenAs a_isKept a_kept a_text a_read a_fewest a_doors a_isSo v_undoMany v_undoAt (0 : Int32) v_letterMany v_readAt v_tokenAt v_token v_value v_faultAt v_readOnce v_greatUpper v_greatLower A_now A_undos A_seen A_seenAs A_isKept A_kept A_text A_read A_fewest A_doors A_isSo) H := hP
  have hD : va_D A (k_Mo cC cI cZ a_this a_now a_undos a_seen a_seenAs a_isKept a_kept a_text a_read a_fewest a_doors a_isSo v_undoMany v_undoAt (0 : Int32) v_letterMany v_readAt v_tokenAt v_token v_value v_faultAt v_readOnce v_greatUpper v_greatLower A_now A_undos A_seen A_seenAs A_isKept A_kept A_text A_read A_fewest A_doors A_isSo) := hD
  refine lv_iload_n hx hb dX11_forget_10 rfl (lv_at hl 0 rfl) ?_
  obtain rfl := Option.some.inj h
  exact hret _ _ _ _ _ hP hS dX11_forget_11 rfl rfl
set_option maxHeartbeats 4000000 in
set_option maxRecDepth 100000 in
theorem c_Mo_keep (l : Launch) (D : va_G) (cC cI cZ : ClassId) (a_this : Nat) (a_now : Nat) (a_undos : Nat) (a_seen : Nat) (a_seenAs : Nat) (a_isKept : Nat) (a_kept : Nat) (a_text : Nat) (a_read : Nat) (a_fewest : Nat) (a_doors : Nat) (a_isSo : Nat) (v_undoMany : Int32) (v_undoAt : Int32) (v_seenMany : Int32) (v_letterMany : Int32) (v_readAt : Int32) (v_tokenAt : Int32) (v_token : Int32) (v_value : Int32) (v_faultAt : Int32) (v_readOnce : Int32) (v_greatUpper : Int64) (v_greatLower : Int64) (A_now : Nat → Int32) (A_undos : Nat → Int32) (A_seen : Nat → Int32) (A_seenAs : Nat → Int32) (A_isKept : Nat → Int32) (A_kept : Nat → Int32) (A_text : Nat → Int32) (A_read : Nat → Int32) (A_fewest : Nat → Int32) (A_doors : Nat → Int32) (A_isSo : Nat → Int32) (p1 : Int32) (sz : Nat) (z : Int32 × (Nat → Int32) × (Nat → Int32)) (h : f_Mo_keep A_now A_isKept A_kept p1 = some z) : Met l yX11_keep (.code yX11_keep cX11_keep 3 (some .int) :: TBL) (RM 1 22) (PcM [.ref a_this, .int p1] sz D (TY cC cI cZ) (k_Mo cC cI cZ a_this a_now a_undos a_seen a_seenAs a_isKept a_kept a_text a_read a_fewest a_doors a_isSo v_undoMany v_undoAt v_seenMany v_letterMany v_readAt v_tokenAt v_token v_value v_faultAt v_readOnce v_greatUpper v_greatLower A_now A_undos A_seen A_seenAs A_isKept A_kept A_text A_read A_fewest A_doors A_isSo)) (fun a st o t => QM (some (.int z.1)) D (k_Mo cC cI cZ a_this a_now a_undos a_seen a_seenAs a_isKept a_kept a_text a_read a_fewest a_doors a_isSo v_undoMany v_undoAt v_seenMany v_letterMany v_readAt v_tokenAt v_token v_value v_faultAt v_readOnce v_greatUpper v_greatLower A_now A_undos A_seen A_seenAs z.2.1 z.2.2 A_text A_read A_fewest A_doors A_isSo) (va_A (k_Mo cC cI cZ a_this a_now a_undos a_seen a_seenAs a_isKept a_kept a_text a_read a_fewest a_doors a_isSo v_undoMany v_undoAt v_seenMany v_letterMany v_readAt v_tokenAt v_token v_value v_faultAt v_readOnce v_greatUpper v_greatLower A_now A_undos A_seen A_seenAs A_isKept A_kept A_text A_read A_fewest A_doors A_isSo) sz) a st o t ∧ narrow .int (.int z.1) = .int z.1) 0 0 (va_A (k_Mo cC cI cZ a_this a_now a_undos a_seen a_seenAs a_isKept a_kept a_text a_read a_fewest a_doors a_isSo v_undoMany v_undoAt v_seenMany v_letterMany v_readAt v_tokenAt v_token v_value v_faultAt v_readOnce v_greatUpper v_greatLower A_now A_undos A_seen A_seenAs A_isKept A_kept A_text A_read A_fewest A_doors A_isSo) sz) := by
  refine muOf (by decide) (Nat.le_of_ble_eq_true rfl) rfl ?_
  intro p e s m args below meth c Q ls A X hP hD hS hA hl hret
  have X : Ctx p s m args c cX11_keep 3 RX11 D (TY cC cI cZ) := X
  obtain ⟨hx, hb, hml, hown, htT, hK, hN⟩ := id X
  unfold f_Mo_keep at h
  refine lv_iload_n hx hb dX11_keep_0 rfl (lv_at hl 1 rfl) ?_
  refine lv_iconst (v := (0 : Int32)) hx hb dX11_keep_1 rfl ?_
  refine lv_iconst (v := (1 : Int32)) hx hb dX11_keep_2 rfl ?_
  refine roS X [.int p1, .int (0 : Int32), .int (1 : Int32)] [] (c_Mo_in l D cC cI cZ p1 (0 : Int32) (1 : Int32) _ rfl) gg_X11_48 hd_Mo_in ⟨rfl, rfl, Nat.le_of_ble_eq_true rfl, Nat.le_of_ble_eq_true rfl⟩ ⟨Nat.zero_le _, Nat.zero_le _⟩ hP [] rfl hl.1 rfl (Nat.le_of_ble_eq_true rfl) dX11_keep_3 (fun n1 => ?_)
  refine lv_if_ne (tgt := 11) hx hb dX11_keep_6 (by decide) (fun c2 => ?_) (fun c2 => ?_)
  · have h := im c2 h
    refine lv_aload_n hx hb dX11_keep_11 rfl (lv_at hl 0 rfl) ?_
    refine va_get (ci := 11) (v := .ref a_isKept) (C := RX11) (T := TX11) (N := 23) hx hb htT inlX11 hown hK hP 0 rfl rfl 7 (by decide) (htT _ q_7_5) (fun _ h9 => h9) rfl dX11_keep_12 ?_
    refine lv_iload_n hx hb dX11_keep_15 rfl (lv_at hl 1 rfl) ?_
    refine lv_iconst (v := (1 : Int32)) hx hb dX11_keep_16 rfl ?_
    obtain ⟨g3, h⟩ := gd h
    refine va_zast hx hb hK hP hD hS 5 2 rfl rfl (inB_in g3) dX11_keep_17 (fun H locs hP hD hS => ?_)
    have hP : va_P D vwCl (k_Mo cC cI cZ a_this a_now a_undos a_seen a_seenAs a_isKept a_kept a_text a_read a_fewest a_doors a_isSo v_undoMany v_undoAt v_seenMany v_letterMany v_readAt v_tokenAt v_token v_value v_faultAt v_readOnce v_greatUpper v_greatLower A_now A_undos A_seen A_seenAs (upd A_isKept (p1).toNatClampNeg (vp_nar .boolean (1 : Int32))) A_kept A_text A_read A_fewest A_doors A_isSo) H := hP
    have hD : va_D A (k_Mo cC cI cZ a_this a_now a_undos a_seen a_seenAs a_isKept a_kept a_text a_read a_fewest a_doors a_isSo v_undoMany v_undoAt v_seenMany v_letterMany v_readAt v_tokenAt v_token v_value v_faultAt v_readOnce v_greatUpper v_greatLower A_now A_undos A_seen A_seenAs (upd A_isKept (p1).toNatClampNeg (vp_nar .boolean (1 : Int32))) A_kept A_text A_read A_fewest A_doors A_isSo) := hD
    refine lv_iconst (v := (0 : Int32)) hx hb dX11_keep_18 rfl ?_
    refine lv_istore_n (lv' := [(2, .int (0 : Int32)), (0, .ref a_this), (1, .int p1)]) hx hb dX11_keep_19 rfl hl (by decide) rfl (fun ls hl => ?_)
    have LP20 : ∀ (n : Nat) (y20_2 : Int32) (A_kept_20 : Nat → Int32) (zq20 : (Nat → Int32)), f_Mo_keep_L20 p1 A_now n y20_2 A_kept_20 = some zq20 → ∀ (H : Heap) (locs : List Loc) (ls : Array Slot), va_P D vwCl (k_Mo cC cI cZ a_this a_now a_undos a_seen a_seenAs a_isKept a_kept a_text a_read a_fewest a_doors a_isSo v_undoMany v_undoAt v_seenMany v_letterMany v_readAt v_tokenAt v_token v_value v_faultAt v_readOnce v_greatUpper v_greatLower A_now A_undos A_seen A_seenAs (upd A_isKept (p1).toNatClampNeg (vp_nar .boolean (1 : Int32))) A_kept_20 A_text A_read A_fewest A_doors A_isSo) H → va_D A (k_Mo cC cI cZ a_this a_now a_undos a_seen a_seenAs a_isKept a_kept a_text a_read a_fewest a_doors a_isSo v_undoMany v_undoAt v_seenMany v_letterMany v_readAt v_tokenAt v_token v_value v_faultAt v_readOnce v_greatUpper v_greatLower A_now A_undos A_seen A_seenAs (upd A_isKept (p1).toNatClampNeg (vp_nar .boolean (1 : Int32))) A_kept_20 A_text A_read A_fewest A_doors A_isSo) → va_S A s.heap H locs → lv_has ls 3 [(0, .ref a_this), (1, .int p1), (2, .int y20_2)] → (∀ (H : Heap) (locs : List Loc) (ls : Array Slot), va_P D vwCl (k_Mo cC cI cZ a_this a_now a_undos a_seen a_seenAs a_isKept a_kept a_text a_read a_fewest a_doors a_isSo v_undoMany v_undoAt v_seenMany v_letterMany v_readAt v_tokenAt v_token v_value v_faultAt v_readOnce v_greatUpper v_greatLower A_now A_undos A_seen A_seenAs (upd A_isKept (p1).toNatClampNeg (vp_nar .boolean (1 : Int32))) zq20 A_text A_read A_fewest A_doors A_isSo) H → va_D A (k_Mo cC cI cZ a_this a_now a_undos a_seen a_seenAs a_isKept a_kept a_text a_read a_fewest a_doors a_isSo v_undoMany v_undoAt v_seenMany v_letterMany v_readAt v_tokenAt v_token v_value v_faultAt v_readOnce v_greatUpper v_greatLower A_now A_undos A_seen A_seenAs (upd A_isKept (p1).toNatClampNeg (vp_nar .boolean (1 : Int32))) zq20 A_text A_read A_fewest A_doors A_isSo) → va_S A s.heap H locs → lv_has ls 3 [(0, .ref a_this)] → W p l e (RM 1 22) s m args below meth c H locs 0 0 Q (F0 m 49 ls [])) → W p l e (RM 1 22) s m args below meth c H locs 0 0 Q (F0 m 20 ls []) := by
      clear h
      intro n
      induction n with
      | zero =>
        intro y20_2 A_kept_20 zq20 h
        rw [f_Mo_keep_L20_0] at h
        cases h
      | succ n ih20 =>
        intro y20_2 A_kept_20 zq20 h H locs ls hP hD hS hl k20_0
        rw [f_Mo_keep_L20_s] at h
        refine lv_iload_n hx hb dX11_keep_20 rfl (lv_at hl 2 rfl) ?_
        refine lv_bipush (v := (31 : Int32)) hx hb dX11_keep_21 rfl ?_
        refine lv_icmp_ge (tgt := 49) hx hb dX11_keep_23 (by decide) (fun c5 => ?_) (fun c5 => ?_)
        · have h := ip c5 h
          obtain rfl := Option.some.inj h
          exact k20_0 _ _ _ hP hD hS (lv_sub hl [0] rfl)
        · have h := im c5 h
          refine lv_aload_n hx hb dX11_keep_26 rfl (lv_at hl 0 rfl) ?_
          refine va_get (ci := 11) (v := .ref a_kept) (C := RX11) (T := TX11) (N := 23) hx hb htT inlX11 hown hK hP 0 rfl rfl 8 (by decide) (htT _ q_7_6) (fun _ h9 => h9) rfl dX11_keep_27 ?_
          refine lv_bipush (v := (31 : Int32)) hx hb dX11_keep_30 rfl ?_
          refine lv_iload_n hx hb dX11_keep_32 rfl (lv_at hl 1 rfl) ?_
          refine lv_imul hx hb dX11_keep_33 ?_
          refine lv_iload_n hx hb dX11_keep_34 rfl (lv_at hl 2 rfl) ?_
          refine lv_iadd hx hb dX11_keep_35 ?_
          refine lv_aload_n hx hb dX11_keep_36 rfl (lv_at hl 0 rfl) ?_
          refine va_get (ci := 11) (v := .ref a_now) (C := RX11) (T := TX11) (N := 23) hx hb htT inlX11 hown hK hP 0 rfl rfl 0 (by decide) (htT _ q_7_0) (fun _ h9 => h9) rfl dX11_keep_37 ?_
          refine lv_iload_n hx hb dX11_keep_40 rfl (lv_at hl 2 rfl) ?_
          obtain ⟨g6, h⟩ := gd h
          refine va_iald hx hb hK hP 1 1 rfl rfl (inB_in g6) dX11_keep_41 ?_
          obtain ⟨g7, h⟩ := gd h
          refine va_iast hx hb hK hP hD hS 6 1 rfl rfl (inB_in g7) dX11_keep_42 (fun H locs hP hD hS => ?_)
          have hP : va_P D vwCl (k_Mo cC cI cZ a_this a_now a_undos a_seen a_seenAs a_isKept a_kept a_text a_read a_fewest a_doors a_isSo v_undoMany v_undoAt v_seenMany v_letterMany v_readAt v_tokenAt v_token v_value v_faultAt v_readOnce v_greatUpper v_greatLower A_now A_undos A_seen A_seenAs (upd A_isKept (p1).toNatClampNeg (vp_nar .boolean (1 : Int32))) (upd A_kept_20 ((((31 : Int32) * p1) + y20_2)).toNatClampNeg (A_now (y20_2).toNatClampNeg)) A_text A_read A_fewest A_doors A_isSo) H := hP
          have hD : va_D A (k_Mo cC cI cZ a_this a_now a_undos a_seen a_seenAs a_isKept a_kept a_text a_read a_fewest a_doors a_isSo v_undoMany v_undoAt v_seenMany v_letterMany v_readAt v_tokenAt v_token v_value v_faultAt v_readOnce v_greatUpper v_greatLower A_now A_undos A_seen A_seenAs (upd A_isKept (p1).toNatClampNeg (vp_nar .boolean (1 : Int32))) (upd A_kept_20 ((((31 : Int32) * p1) + y20_2)).toNatClampNeg (A_now (y20_2).toNatClampNeg)) A_text A_read A_fewest A_doors A_isSo) := hD
          refine lv_iinc (v := (y20_2 + (1 : Int32))) (lv' := [(2, .int (y20_2 + (1 : Int32))), (0, .ref a_this), (1, .int p1)]) hx hb dX11_keep_43 hl (k := 2) rfl rfl (by decide) rfl (fun ls hl => ?_)
          refine lv_goto (tgt := 20) hx hb dX11_keep_46 (by decide) ?_
          exact ih20 (y20_2 + (1 : Int32)) (upd A_kept_20 ((((31 : Int32) * p1) + y20_2)).toNatClampNeg (A_now (y20_2).toNatClampNeg)) _ h _ _ _ hP hD hS (lv_sub hl [1, 2, 0] rfl) k20_0
    obtain ⟨z4, e4, h⟩ := bd h
    refine LP20 fu (0 : Int32) A_kept z4 e4 _ _ _ hP hD hS (lv_sub hl [1, 2, 0] rfl) ?_
    intro H locs ls hP hD hS hl
    refine lv_aload_n hx hb dX11_keep_49 rfl (lv_at hl 0 rfl) ?_
    refine va_get (ci := 11) (v := .ref a_now) (C := RX11) (T := TX11) (N := 23) hx hb htT inlX11 hown hK hP 0 rfl rfl 0 (by decide) (htT _ q_7_0) (fun _ h9 => h9) rfl dX11_keep_50 ?_
    refine lv_iconst (v := (0 : Int32)) hx hb dX11_keep_53 rfl ?_
    obtain ⟨g8, h⟩ := gd h
    refine va_iald hx hb hK hP 1 1 rfl rfl (inB_in g8) dX11_keep_54 ?_
    obtain rfl := Option.some.inj h
    exact hret _ _ _ _ _ hP hS dX11_keep_55 rfl rfl
  · have h := ip c2 h
    refine lv_iconst (v := (-1 : Int32)) hx hb dX11_keep_9 rfl ?_
    obtain rfl := Option.some.inj h
    exact hret _ _ _ _ _ hP hS dX11_keep_10 rfl rfl
set_option maxHeartbeats 4000000 in
set_option maxRecDepth 100000 in
theorem c_Mo_misses (l : Launch) (D : va_G) (cC cI cZ : ClassId) (a_this : Nat) (a_now : Nat) (a_undos : Nat) (a_seen : Nat) (a_seenAs : Nat) (a_isKept : Nat) (a_kept : Nat) (a_text : Nat) (a_read : Nat) (a_fewest : Nat) (a_doors : Nat) (a_isSo : Nat) (v_undoMany : Int32) (v_undoAt : Int32) (v_seenMany : Int32) (v_letterMany : Int32) (v_readAt : Int32) (v_tokenAt : Int32) (v_token : Int32) (v_value : Int32) (v_faultAt : Int32) (v_readOnce : Int32) (v_greatUpper : Int64) (v_greatLower : Int64) (A_now : Nat → Int32) (A_undos : Nat → Int32) (A_seen : Nat → Int32) (A_seenAs : Nat → Int32) (A_isKept : Nat → Int32) (A_kept : Nat → Int32) (A_text : Nat → Int32) (A_read : Nat → Int32) (A_fewest : Nat → Int32) (A_doors : Nat → Int32) (A_isSo : Nat → Int32) (p1 : Int32) (sz : Nat) (z : Int32 × Int32 × Int32 × (Nat → Int32) × (Nat → Int32)) (h : f_Mo_misses v_undoMany v_undoAt A_now A_undos p1 = some z) : Met l yX11_misses (.code yX11_misses cX11_misses 2 (some .int) :: TBL) (RM 2 44) (PcM [.ref a_this, .int p1] sz D (TY cC cI cZ) (k_Mo cC cI cZ a_this a_now a_undos a_seen a_seenAs a_isKept a_kept a_text a_read a_fewest a_doors a_isSo v_undoMany v_undoAt v_seenMany v_letterMany v_readAt v_tokenAt v_token v_value v_faultAt v_readOnce v_greatUpper v_greatLower A_now A_undos A_seen A_seenAs A_isKept A_kept A_text A_read A_fewest A_doors A_isSo)) (fun a st o t => QM (some (.int z.1)) D (k_Mo cC cI cZ a_this a_now a_undos a_seen a_seenAs a_isKept a_kept a_text a_read a_fewest a_doors a_isSo z.2.1 z.2.2.1 v_seenMany v_letterMany v_readAt v_tokenAt v_token v_value v_faultAt v_readOnce v_greatUpper v_greatLower z.2.2.2.1 z.2.2.2.2 A_seen A_seenAs A_isKept A_kept A_text A_read A_fewest A_doors A_isSo) (va_A (k_Mo cC cI cZ a_this a_now a_undos a_seen a_seenAs a_isKept a_kept a_text a_read a_fewest a_doors a_isSo v_undoMany v_undoAt v_seenMany v_letterMany v_readAt v_tokenAt v_token v_value v_faultAt v_readOnce v_greatUpper v_greatLower A_now A_undos A_seen A_seenAs A_isKept A_kept A_text A_read A_fewest A_doors A_isSo) sz) a st o t ∧ narrow .int (.int z.1) = .int z.1) 0 0 (va_A (k_Mo cC cI cZ a_this a_now a_undos a_seen a_seenAs a_isKept a_kept a_text a_read a_fewest a_doors a_isSo v_undoMany v_undoAt v_seenMany v_letterMany v_readAt v_tokenAt v_token v_value v_faultAt v_readOnce v_greatUpper v_greatLower A_now A_undos A_seen A_seenAs A_isKept A_kept A_text A_read A_fewest A_doors A_isSo) sz) := by
  refine muOf (by decide) (Nat.le_of_ble_eq_true rfl) rfl ?_
  intro p e s m args below meth c Q ls A X hP hD hS hA hl hret
  have X : Ctx p s m args c cX11_misses 2 RX11 D (TY cC cI cZ) := X
  obtain ⟨hx, hb, hml, hown, htT, hK, hN⟩ := id X
  unfold f_Mo_misses at h
  refine lv_iload_n hx hb dX11_misses_0 rfl (lv_at hl 1 rfl) ?_
  refine lv_iconst (v := (0 : Int32)) hx hb dX11_misses_1 rfl ?_
  refine lv_sipush (v := (999 : Int32)) hx hb dX11_misses_2 rfl ?_
  refine roS X [.int p1, .int (0 : Int32), .int (999 : Int32)] [] (c_Mo_in l D cC cI cZ p1 (0 : Int32) (999 : Int32) _ rfl) gg_X11_48 hd_Mo_in ⟨rfl, rfl, Nat.le_of_ble_eq_true rfl, Nat.le_of_ble_eq_true rfl⟩ ⟨Nat.zero_le _, Nat.zero_le _⟩ hP [] rfl hl.1 rfl (Nat.le_of_ble_eq_true rfl) dX11_misses_5 (fun n1 => ?_)
  refine lv_if_eq (tgt := 21) hx hb dX11_misses_8 (by decide) (fun c2 => ?_) (fun c2 => ?_)
  · have h := ip c2 h
    refine lv_iconst (v := (-1 : Int32)) hx hb dX11_misses_21 rfl ?_
    obtain rfl := Option.some.inj h
    exact hret _ _ _ _ _ hP hS dX11_misses_22 rfl rfl
  · have h := im c2 h
    refine lv_aload_n hx hb dX11_misses_11 rfl (lv_at hl 0 rfl) ?_
    refine lv_iload_n hx hb dX11_misses_12 rfl (lv_at hl 1 rfl) ?_
    refine lv_bipush (v := (-9 : Int32)) hx hb dX11_misses_13 rfl ?_
    obtain ⟨z3, e3, h⟩ := bd h
    refine muV (ws' := (k_Mo cC cI cZ a_this a_now a_undos a_seen a_seenAs a_isKept a_kept a_text a_read a_fewest a_doors a_isSo z3.2.1 z3.2.2.1 v_seenMany v_letterMany v_readAt v_tokenAt v_token v_value v_faultAt v_readOnce v_greatUpper v_greatLower z3.2.2.2.1 z3.2.2.2.2 A_seen A_seenAs A_isKept A_kept A_text A_read A_fewest A_doors A_isSo)) X [.int p1, .int (-9 : Int32)] [] (c_Mo_comes l D cC cI cZ a_this a_now a_undos a_seen a_seenAs a_isKept a_kept a_text a_read a_fewest a_doors a_isSo v_undoMany v_undoAt v_seenMany v_letterMany v_readAt v_tokenAt v_token v_value v_faultAt v_readOnce v_greatUpper v_greatLower A_now A_undos A_seen A_seenAs A_isKept A_kept A_text A_read A_fewest A_doors A_isSo p1 (-9 : Int32) _ z3 e3) gg_X11_123 hd_Mo_comes ⟨rfl, rfl, Nat.le_of_ble_eq_true rfl, Nat.le_of_ble_eq_true rfl⟩ ⟨Nat.zero_le _, Nat.zero_le _⟩ hP hD hS hA [0, 1, 2, 3, 4, 5, 6, 7, 8, 9, 10, 11] [] [0, 1, 2, 3, 4, 5, 6, 7, 8, 9, 10, 11] rfl rfl (by decide) (by decide) rfl rfl rfl rfl rfl hl.1 rfl (Nat.le_of_ble_eq_true rfl) dX11_misses_15 (fun H locs hP hD hS n3 => ?_)
    refine lv_goto (tgt := 22) hx hb dX11_misses_18 (by decide) ?_
    obtain rfl := Option.some.inj h
    exact hret _ _ _ _ _ hP hS dX11_misses_22 rfl rfl
set_option maxHeartbeats 4000000 in
set_option maxRecDepth 100000 in
theorem c_Mo_number (l : Launch) (D : va_G) (cC cI cZ : ClassId) (a_this : Nat) (a_now : Nat) (a_undos : Nat) (a_seen : Nat) (a_seenAs : Nat) (a_isKept : Nat) (a_kept : Nat) (a_text : Nat) (a_read : Nat) (a_fewest : Nat) (a_doors : Nat) (a_isSo : Nat) (v_undoMany : Int32) (v_undoAt : Int32) (v_seenMany : Int32) (v_letterMany : Int32) (v_readAt : Int32) (v_tokenAt : Int32) (v_token : Int32) (v_value : Int32) (v_faultAt : Int32) (v_readOnce : Int32) (v_greatUpper : Int64) (v_greatLower : Int64) (A_now : Nat → Int32) (A_undos : Nat → Int32) (A_seen : Nat → Int32) (A_seenAs : Nat → Int32) (A_isKept : Nat → Int32) (A_kept : Nat → Int32) (A_text : Nat → Int32) (A_read : Nat → Int32) (A_fewest : Nat → Int32) (A_doors : Nat → Int32) (A_isSo : Nat → Int32) (p1 : Int32) (p2 : Int32) (sz : Nat) (z : Int32 × Int32 × Int32 × Int32 × Int32 × Int32) (h : f_Mo_number v_letterMany v_readAt v_tokenAt v_token v_value v_faultAt A_text p1 p2 = some z) : Met l yX11_number (.code yX11_number cX11_number 3 (some .boolean) :: TBL) (RM 3 63) (PcM [.ref a_this, .int p1, .int p2] sz D (TY cC cI cZ) (k_Mo cC cI cZ a_this a_now a_undos a_seen a_seenAs a_isKept a_kept a_text a_read a_fewest a_doors a_isSo v_undoMany v_undoAt v_seenMany v_letterMany v_readAt v_tokenAt v_token v_value v_faultAt v_readOnce v_greatUpper v_greatLower A_now A_undos A_seen A_seenAs A_isKept A_kept A_text A_read A_fewest A_doors A_isSo)) (fun a st o t => QM (some (.int z.1)) D (k_Mo cC cI cZ a_this a_now a_undos a_seen a_seenAs a_isKept a_kept a_text a_read a_fewest a_doors a_isSo v_undoMany v_undoAt v_seenMany v_letterMany z.2.1 z.2.2.1 z.2.2.2.1 z.2.2.2.2.1 z.2.2.2.2.2 v_readOnce v_greatUpper v_greatLower A_now A_undos A_seen A_seenAs A_isKept A_kept A_text A_read A_fewest A_doors A_isSo) (va_A (k_Mo cC cI cZ a_this a_now a_undos a_seen a_seenAs a_isKept a_kept a_text a_read a_fewest a_doors a_isSo v_undoMany v_undoAt v_seenMany v_letterMany v_readAt v_tokenAt v_token v_value v_faultAt v_readOnce v_greatUpper v_greatLower A_now A_undos A_seen A_seenAs A_isKept A_kept A_text A_read A_fewest A_doors A_isSo) sz) a st o t ∧ narrow .boolean (.int z.1) = .int z.1) 0 0 (va_A (k_Mo cC cI cZ a_this a_now a_undos a_seen a_seenAs a_isKept a_kept a_text a_read a_fewest a_doors a_isSo v_undoMany v_undoAt v_seenMany v_letterMany v_readAt v_tokenAt v_token v_value v_faultAt v_readOnce v_greatUpper v_greatLower A_now A_undos A_seen A_seenAs A_isKept A_kept A_text A_read A_fewest A_doors A_isSo) sz) := by
  refine muOf (by decide) (Nat.le_of_ble_eq_true rfl) rfl ?_
  intro p e s m args below meth c Q ls A X hP hD hS hA hl hret
  have X : Ctx p s m args c cX11_number 3 RX11 D (TY cC cI cZ) := X
  obtain ⟨hx, hb, hml, hown, htT, hK, hN⟩ := id X
  unfold f_Mo_number at h
  refine lv_aload_n hx hb dX11_number_0 rfl (lv_at hl 0 rfl) ?_
  obtain ⟨z1, e1, h⟩ := bd h
  refine muVV (ws' := (k_Mo cC cI cZ a_this a_now a_undos a_seen a_seenAs a_isKept a_kept a_text a_read a_fewest a_doors a_isSo v_undoMany v_undoAt v_seenMany v_letterMany z1.1 z1.2.1 z1.2.2.1 z1.2.2.2 v_faultAt v_readOnce v_greatUpper v_greatLower A_now A_undos A_seen A_seenAs A_isKept A_kept A_text A_read A_fewest A_doors A_isSo)) X [] [] (c_Mo_next l D cC cI cZ a_this a_now a_undos a_seen a_seenAs a_isKept a_kept a_text a_read a_fewest a_doors a_isSo v_undoMany v_undoAt v_seenMany v_letterMany v_readAt v_tokenAt v_token v_value v_faultAt v_readOnce v_greatUpper v_greatLower A_now A_undos A_seen A_seenAs A_isKept A_kept A_text A_read A_fewest A_doors A_isSo _ z1 e1) gg_X11_78 hd_Mo_next ⟨rfl, rfl, Nat.le_of_ble_eq_true rfl, Nat.le_of_ble_eq_true rfl⟩ ⟨Nat.zero_le _, Nat.zero_le _⟩ hP hD hS hA [0, 1, 2, 3, 4, 5, 6, 7, 8, 9, 10, 11] [] [0, 1, 2, 3, 4, 5, 6, 7, 8, 9, 10, 11] rfl rfl (by decide) (by decide) rfl rfl rfl rfl rfl hl.1 rfl (Nat.le_of_ble_eq_true rfl) dX11_number_1 (fun H locs hP hD hS => ?_)
  refine lv_aload_n hx hb dX11_number_4 rfl (lv_at hl 0 rfl) ?_
  refine va_get (ci := 11) (v := .int z1.2.2.1) (C := RX11) (T := TX11) (N := 23) hx hb htT inlX11 hown hK hP 0 rfl rfl 13 (by decide) (htT _ q_14_10) (fun _ h9 => h9) rfl dX11_number_5 ?_
  refine lv_if_ne (tgt := 23) hx hb dX11_number_8 (by decide) (fun c2 => ?_) (fun c2 => ?_)
  · have h := im c2 h
    refine lv_aload_n hx hb dX11_number_23 rfl (lv_at hl 0 rfl) ?_
    obtain ⟨z7, e7, h⟩ := bd h
    refine muV (ws' := (k_Mo cC cI cZ a_this a_now a_undos a_seen a_seenAs a_isKept a_kept a_text a_read a_fewest a_doors a_isSo v_undoMany v_undoAt v_seenMany v_letterMany z1.1 z1.2.1 z1.2.2.1 z1.2.2.2 z7.2 v_readOnce v_greatUpper v_greatLower A_now A_undos A_seen A_seenAs A_isKept A_kept A_text A_read A_fewest A_doors A_isSo)) X [] [] (c_Mo_fails l D cC cI cZ a_this a_now a_undos a_seen a_seenAs a_isKept a_kept a_text a_read a_fewest a_doors a_isSo v_undoMany v_undoAt v_seenMany v_letterMany z1.1 z1.2.1 z1.2.2.1 z1.2.2.2 v_faultAt v_readOnce v_greatUpper v_greatLower A_now A_undos A_seen A_seenAs A_isKept A_kept A_text A_read A_fewest A_doors A_isSo _ z7 e7) gg_X11_81 hd_Mo_fails ⟨rfl, rfl, Nat.le_of_ble_eq_true rfl, Nat.le_of_ble_eq_true rfl⟩ ⟨Nat.zero_le _, Nat.zero_le _⟩ hP hD hS hA [0, 1, 2, 3, 4, 5, 6, 7, 8, 9, 10, 11] [] [0, 1, 2, 3, 4, 5, 6, 7, 8, 9, 10, 11] rfl rfl (by decide) (by decide) rfl rfl rfl rfl rfl hl.1 rfl (Nat.le_of_ble_eq_true rfl) dX11_number_24 (fun H locs hP hD hS n7 => ?_)
    refine lv_if_eq (tgt := 34) hx hb dX11_number_27 (by decide) (fun c8 => ?_) (fun c8 => ?_)
    · have h := ip c8 h
      refine lv_iconst (v := (0 : Int32)) hx hb dX11_number_34 rfl ?_
      obtain rfl := Option.some.inj h
      exact hret _ _ _ _ _ hP hS dX11_number_35 rfl rfl
    · have h := im c8 h
      refine lv_iconst (v := (1 : Int32)) hx hb dX11_number_30 rfl ?_
      refine lv_goto (tgt := 35) hx hb dX11_number_31 (by decide) ?_
      obtain rfl := Option.some.inj h
      exact hret _ _ _ _ _ hP hS dX11_number_35 rfl rfl
  · have h := ip c2 h
    refine lv_aload_n hx hb dX11_number_11 rfl (lv_at hl 0 rfl) ?_
    refine va_get (ci := 11) (v := .int z1.2.2.2) (C := RX11) (T := TX11) (N := 23) hx hb htT inlX11 hown hK hP 0 rfl rfl 14 (by decide) (htT _ q_14_16) (fun _ h9 => h9) rfl dX11_number_12 ?_
    refine lv_iload_n hx hb dX11_number_15 rfl (lv_at hl 1 rfl) ?_
    refine lv_iload_n hx hb dX11_number_16 rfl (lv_at hl 2 rfl) ?_
    refine roS X [.int z1.2.2.2, .int p1, .int p2] [] (c_Mo_in l D cC cI cZ z1.2.2.2 p1 p2 _ rfl) gg_X11_48 hd_Mo_in ⟨rfl, rfl, Nat.le_of_ble_eq_true rfl, Nat.le_of_ble_eq_true rfl⟩ ⟨Nat.zero_le _, Nat.zero_le _⟩ hP [] rfl hl.1 rfl (Nat.le_of_ble_eq_true rfl) dX11_number_17 (fun n3 => ?_)
    refine lv_if_ne (tgt := 30) hx hb dX11_number_20 (by decide) (fun c4 => ?_) (fun c4 => ?_)
    · have h := im c4 h
      refine lv_iconst (v := (1 : Int32)) hx hb dX11_number_30 rfl ?_
      refine lv_goto (tgt := 35) hx hb dX11_number_31 (by decide) ?_
      obtain rfl := Option.some.inj h
      exact hret _ _ _ _ _ hP hS dX11_number_35 rfl rfl
    · have h := ip c4 h
      refine lv_aload_n hx hb dX11_number_23 rfl (lv_at hl 0 rfl) ?_
      obtain ⟨z5, e5, h⟩ := bd h
      refine muV (ws' := (k_Mo cC cI cZ a_this a_now a_undos a_seen a_seenAs a_isKept a_kept a_text a_read a_fewest a_doors a_isSo v_undoMany v_undoAt v_seenMany v_letterMany z1.1 z1.2.1 z1.2.2.1 z1.2.2.2 z5.2 v_readOnce v_greatUpper v_greatLower A_now A_undos A_seen A_seenAs A_isKept A_kept A_text A_read A_fewest A_doors A_isSo)) X [] [] (c_Mo_fails l D cC cI cZ a_this a_now a_undos a_seen a_seenAs a_isKept a_kept a_text a_read a_fewest a_doors a_isSo v_undoMany v_undoAt v_seenMany v_letterMany z1.1 z1.2.1 z1.2.2.1 z1.2.2.2 v_faultAt v_readOnce v_greatUpper v_greatLower A_now A_undos A_seen A_seenAs A_isKept A_kept A_text A_read A_fewest A_doors A_isSo _ z5 e5) gg_X11_81 hd_Mo_fails ⟨rfl, rfl, Nat.le_of_ble_eq_true rfl, Nat.le_of_ble_eq_true rfl⟩ ⟨Nat.zero_le _, Nat.zero_le _⟩ hP hD hS hA [0, 1, 2, 3, 4, 5, 6, 7, 8, 9, 10, 11] [] [0, 1, 2, 3, 4, 5, 6, 7, 8, 9, 10, 11] rfl rfl (by decide) (by decide) rfl rfl rfl rfl rfl hl.1 rfl (Nat.le_of_ble_eq_true rfl) dX11_number_24 (fun H locs hP hD hS n5 => ?_)
      refine lv_if_eq (tgt := 34) hx hb dX11_number_27 (by decide) (fun c6 => ?_) (fun c6 => ?_)
      · have h := ip c6 h
        refine lv_iconst (v := (0 : Int32)) hx hb dX11_number_34 rfl ?_
        obtain rfl := Option.some.inj h
        exact hret _ _ _ _ _ hP hS dX11_number_35 rfl rfl
      · have h := im c6 h
        refine lv_iconst (v := (1 : Int32)) hx hb dX11_number_30 rfl ?_
        refine lv_goto (tgt := 35) hx hb dX11_number_31 (by decide) ?_
        obtain rfl := Option.some.inj h
        exact hret _ _ _ _ _ hP hS dX11_number_35 rfl rfl
set_option maxHeartbeats 4000000 in
set_option maxRecDepth 100000 in
theorem c_Mo_promises (l : Launch) (D : va_G) (cC cI cZ : ClassId) (a_this : Nat) (a_now : Nat) (a_undos : Nat) (a_seen : Nat) (a_seenAs : Nat) (a_isKept : Nat) (a_kept : Nat) (a_text : Nat) (a_read : Nat) (a_fewest : Nat) (a_doors : Nat) (a_isSo : Nat) (v_undoMany : Int32) (v_undoAt : Int32) (v_seenMany : Int32) (v_letterMany : Int32) (v_readAt : Int32) (v_tokenAt : Int32) (v_token : Int32) (v_value : Int32) (v_faultAt : Int32) (v_readOnce : Int32) (v_greatUpper : Int64) (v_greatLower : Int64) (A_now : Nat → Int32) (A_undos : Nat → Int32) (A_seen : Nat → Int32) (A_seenAs : Nat → Int32) (A_isKept : Nat → Int32) (A_kept : Nat → Int32) (A_text : Nat → Int32) (A_read : Nat → Int32) (A_fewest : Nat → Int32) (A_doors : Nat → Int32) (A_isSo : Nat → Int32) (p1 : Int32) (sz : Nat) (z : Int32 × Int32 × Int32 × (Nat → Int32) × (Nat → Int32)) (h : f_Mo_promises v_undoMany v_undoAt A_now A_undos p1 = some z) : Met l yX11_promises (.code yX11_promises cX11_promises 2 (some .int) :: TBL) (RM 2 44) (PcM [.ref a_this, .int p1] sz D (TY cC cI cZ) (k_Mo cC cI cZ a_this a_now a_undos a_seen a_seenAs a_isKept a_kept a_text a_read a_fewest a_doors a_isSo v_undoMany v_undoAt v_seenMany v_letterMany v_readAt v_tokenAt v_token v_value v_faultAt v_readOnce v_greatUpper v_greatLower A_now A_undos A_seen A_seenAs A_isKept A_kept A_text A_read A_fewest A_doors A_isSo)) (fun a st o t => QM (some (.int z.1)) D (k_Mo cC cI cZ a_this a_now a_undos a_seen a_seenAs a_isKept a_kept a_text a_read a_fewest a_doors a_isSo z.2.1 z.2.2.1 v_seenMany v_letterMany v_readAt v_tokenAt v_token v_value v_faultAt v_readOnce v_greatUpper v_greatLower z.2.2.2.1 z.2.2.2.2 A_seen A_seenAs A_isKept A_kept A_text A_read A_fewest A_doors A_isSo) (va_A (k_Mo cC cI cZ a_this a_now a_undos a_seen a_seenAs a_isKept a_kept a_text a_read a_fewest a_doors a_isSo v_undoMany v_undoAt v_seenMany v_letterMany v_readAt v_tokenAt v_token v_value v_faultAt v_readOnce v_greatUpper v_greatLower A_now A_undos A_seen A_seenAs A_isKept A_kept A_text A_read A_fewest A_doors A_isSo) sz) a st o t ∧ narrow .int (.int z.1) = .int z.1) 0 0 (va_A (k_Mo cC cI cZ a_this a_now a_undos a_seen a_seenAs a_isKept a_kept a_text a_read a_fewest a_doors a_isSo v_undoMany v_undoAt v_seenMany v_letterMany v_readAt v_tokenAt v_token v_value v_faultAt v_readOnce v_greatUpper v_greatLower A_now A_undos A_seen A_seenAs A_isKept A_kept A_text A_read A_fewest A_doors A_isSo) sz) := by
  refine muOf (by decide) (Nat.le_of_ble_eq_true rfl) rfl ?_
  intro p e s m args below meth c Q ls A X hP hD hS hA hl hret
  have X : Ctx p s m args c cX11_promises 2 RX11 D (TY cC cI cZ) := X
  obtain ⟨hx, hb, hml, hown, htT, hK, hN⟩ := id X
  unfold f_Mo_promises at h
  refine lv_iload_n hx hb dX11_promises_0 rfl (lv_at hl 1 rfl) ?_
  refine lv_iconst (v := (0 : Int32)) hx hb dX11_promises_1 rfl ?_
  refine lv_bipush (v := (99 : Int32)) hx hb dX11_promises_2 rfl ?_
  refine roS X [.int p1, .int (0 : Int32), .int (99 : Int32)] [] (c_Mo_in l D cC cI cZ p1 (0 : Int32) (99 : Int32) _ rfl) gg_X11_48 hd_Mo_in ⟨rfl, rfl, Nat.le_of_ble_eq_true rfl, Nat.le_of_ble_eq_true rfl⟩ ⟨Nat.zero_le _, Nat.zero_le _⟩ hP [] rfl hl.1 rfl (Nat.le_of_ble_eq_true rfl) dX11_promises_4 (fun n1 => ?_)
  refine lv_if_eq (tgt := 19) hx hb dX11_promises_7 (by decide) (fun c2 => ?_) (fun c2 => ?_)
  · have h := ip c2 h
    refine lv_iconst (v := (-1 : Int32)) hx hb dX11_promises_19 rfl ?_
    obtain rfl := Option.some.inj h
    exact hret _ _ _ _ _ hP hS dX11_promises_20 rfl rfl
  · have h := im c2 h
    refine lv_aload_n hx hb dX11_promises_10 rfl (lv_at hl 0 rfl) ?_
    refine lv_iconst (v := (1 : Int32)) hx hb dX11_promises_11 rfl ?_
    refine lv_iload_n hx hb dX11_promises_12 rfl (lv_at hl 1 rfl) ?_
    obtain ⟨z3, e3, h⟩ := bd h
    refine muV (ws' := (k_Mo cC cI cZ a_this a_now a_undos a_seen a_seenAs a_isKept a_kept a_text a_read a_fewest a_doors a_isSo z3.2.1 z3.2.2.1 v_seenMany v_letterMany v_readAt v_tokenAt v_token v_value v_faultAt v_readOnce v_greatUpper v_greatLower z3.2.2.2.1 z3.2.2.2.2 A_seen A_seenAs A_isKept A_kept A_text A_read A_fewest A_doors A_isSo)) X [.int (1 : Int32), .int p1] [] (c_Mo_becomes l D cC cI cZ a_this a_now a_undos a_seen a_seenAs a_isKept a_kept a_text a_read a_fewest a_doors a_isSo v_undoMany v_undoAt v_seenMany v_letterMany v_readAt v_tokenAt v_token v_value v_faultAt v_readOnce v_greatUpper v_greatLower A_now A_undos A_seen A_seenAs A_isKept A_kept A_text A_read A_fewest A_doors A_isSo (1 : Int32) p1 _ z3 e3) gg_X11_127 hd_Mo_becomes ⟨rfl, rfl, Nat.le_of_ble_eq_true rfl, Nat.le_of_ble_eq_true rfl⟩ ⟨Nat.zero_le _, Nat.zero_le _⟩ hP hD hS hA [0, 1, 2, 3, 4, 5, 6, 7, 8, 9, 10, 11] [] [0, 1, 2, 3, 4, 5, 6, 7, 8, 9, 10, 11] rfl rfl (by decide) (by decide) rfl rfl rfl rfl rfl hl.1 rfl (Nat.le_of_ble_eq_true rfl) dX11_promises_13 (fun H locs hP hD hS n3 => ?_)
    refine lv_goto (tgt := 20) hx hb dX11_promises_16 (by decide) ?_
    obtain rfl := Option.some.inj h
    exact hret _ _ _ _ _ hP hS dX11_promises_20 rfl rfl
set_option maxHeartbeats 4000000 in
set_option maxRecDepth 100000 in
theorem c_Mo_reading (l : Launch) (D : va_G) (cC cI cZ : ClassId) (a_this : Nat) (a_now : Nat) (a_undos : Nat) (a_seen : Nat) (a_seenAs : Nat) (a_isKept : Nat) (a_kept : Nat) (a_text : Nat) (a_read : Nat) (a_fewest : Nat) (a_doors : Nat) (a_isSo : Nat) (v_undoMany : Int32) (v_undoAt : Int32) (v_seenMany : Int32) (v_letterMany : Int32) (v_readAt : Int32) (v_tokenAt : Int32) (v_token : Int32) (v_value : Int32) (v_faultAt : Int32) (v_readOnce : Int32) (v_greatUpper : Int64) (v_greatLower : Int64) (A_now : Nat → Int32) (A_undos : Nat → Int32) (A_seen : Nat → Int32) (A_seenAs : Nat → Int32) (A_isKept : Nat → Int32) (A_kept : Nat → Int32) (A_text : Nat → Int32) (A_read : Nat → Int32) (A_fewest : Nat → Int32) (A_doors : Nat → Int32) (A_isSo : Nat → Int32) (p1 : Int32) (p2 : Int32) (sz : Nat) (z : Int32 × Int64 × Int64 × (Nat → Int32)) (h : f_Mo_reading v_greatUpper v_greatLower A_now A_fewest p1 p2 = some z) : Met l yX11_reading (.code yX11_reading cX11_reading 5 (some .int) :: TBL) (RM 6 132) (PcM [.ref a_this, .int p1, .int p2] sz D (TY cC cI cZ) (k_Mo cC cI cZ a_this a_now a_undos a_seen a_seenAs a_isKept a_kept a_text a_read a_fewest a_doors a_isSo v_undoMany v_undoAt v_seenMany v_letterMany v_readAt v_tokenAt v_token v_value v_faultAt v_readOnce v_greatUpper v_greatLower A_now A_undos A_seen A_seenAs A_isKept A_kept A_text A_read A_fewest A_doors A_isSo)) (fun a st o t => QM (some (.int z.1)) D (k_Mo cC cI cZ a_this a_now a_undos a_seen a_seenAs a_isKept a_kept a_text a_read a_fewest a_doors a_isSo v_undoMany v_undoAt v_seenMany v_letterMany v_readAt v_tokenAt v_token v_value v_faultAt v_readOnce z.2.1 z.2.2.1 A_now A_undos A_seen A_seenAs A_isKept A_kept A_text A_read z.2.2.2 A_doors A_isSo) (va_A (k_Mo cC cI cZ a_this a_now a_undos a_seen a_seenAs a_isKept a_kept a_text a_read a_fewest a_doors a_isSo v_undoMany v_undoAt v_seenMany v_letterMany v_readAt v_tokenAt v_token v_value v_faultAt v_readOnce v_greatUpper v_greatLower A_now A_undos A_seen A_seenAs A_isKept A_kept A_text A_read A_fewest A_doors A_isSo) sz) a st o t ∧ narrow .int (.int z.1) = .int z.1) 0 0 (va_A (k_Mo cC cI cZ a_this a_now a_undos a_seen a_seenAs a_isKept a_kept a_text a_read a_fewest a_doors a_isSo v_undoMany v_undoAt v_seenMany v_letterMany v_readAt v_tokenAt v_token v_value v_faultAt v_readOnce v_greatUpper v_greatLower A_now A_undos A_seen A_seenAs A_isKept A_kept A_text A_read A_fewest A_doors A_isSo) sz) := by
  refine muOf (by decide) (Nat.le_of_ble_eq_true rfl) rfl ?_
  intro p e s m args below meth c Q ls A X hP hD hS hA hl hret
  have X : Ctx p s m args c cX11_reading 5 RX11 D (TY cC cI cZ) := X
  obtain ⟨hx, hb, hml, hown, htT, hK, hN⟩ := id X
  unfold f_Mo_reading at h
  refine lv_aload_n hx hb dX11_reading_0 rfl (lv_at hl 0 rfl) ?_
  refine lv_iload_n hx hb dX11_reading_1 rfl (lv_at hl 1 rfl) ?_
  obtain ⟨r1, e1, h⟩ := bd h
  refine roV X [.int p1] [] (c_Mo_isReading l D cC cI cZ a_this a_now a_undos a_seen a_seenAs a_isKept a_kept a_text a_read a_fewest a_doors a_isSo v_undoMany v_undoAt v_seenMany v_letterMany v_readAt v_tokenAt v_token v_value v_faultAt v_readOnce v_greatUpper v_greatLower A_now A_undos A_seen A_seenAs A_isKept A_kept A_text A_read A_fewest A_doors A_isSo p1 r1 e1) gg_X11_113 hd_Mo_isReading ⟨rfl, rfl, Nat.le_of_ble_eq_true rfl, Nat.le_of_ble_eq_true rfl⟩ ⟨Nat.zero_le _, Nat.zero_le _⟩ hP [0, 1, 2, 3, 4, 5, 6, 7, 8, 9, 10, 11] rfl rfl rfl rfl hl.1 rfl (Nat.le_of_ble_eq_true rfl) dX11_reading_2 (fun n1 => ?_)
  refine lv_if_eq (tgt := 18) hx hb dX11_reading_5 (by decide) (fun c2 => ?_) (fun c2 => ?_)
  · have h := ip c2 h
    refine lv_iconst (v := (-1 : Int32)) hx hb dX11_reading_18 rfl ?_
    obtain rfl := Option.some.inj h
    exact hret _ _ _ _ _ hP hS dX11_reading_19 rfl rfl
  · have h := im c2 h
    refine lv_iload_n hx hb dX11_reading_8 rfl (lv_at hl 2 rfl) ?_
    refine lv_iconst (v := (0 : Int32)) hx hb dX11_reading_9 rfl ?_
    refine lv_bipush (v := (6 : Int32)) hx hb dX11_reading_10 rfl ?_
    refine roS X [.int p2, .int (0 : Int32), .int (6 : Int32)] [] (c_Mo_in l D cC cI cZ p2 (0 : Int32) (6 : Int32) _ rfl) gg_X11_48 hd_Mo_in ⟨rfl, rfl, Nat.le_of_ble_eq_true rfl, Nat.le_of_ble_eq_true rfl⟩ ⟨Nat.zero_le _, Nat.zero_le _⟩ hP [] rfl hl.1 rfl (Nat.le_of_ble_eq_true rfl) dX11_reading_12 (fun n3 => ?_)
    refine lv_if_ne (tgt := 20) hx hb dX11_reading_15 (by decide) (fun c4 => ?_) (fun c4 => ?_)
    · have h := im c4 h
      refine lv_aload_n hx hb dX11_reading_20 rfl (lv_at hl 0 rfl) ?_
      refine lv_iload_n hx hb dX11_reading_21 rfl (lv_at hl 1 rfl) ?_
      obtain ⟨r5, e5, h⟩ := bd h
      refine roV X [.int p1] [] (c_Mo_isKnown l D cC cI cZ a_this a_now a_undos a_seen a_seenAs a_isKept a_kept a_text a_read a_fewest a_doors a_isSo v_undoMany v_undoAt v_seenMany v_letterMany v_readAt v_tokenAt v_token v_value v_faultAt v_readOnce v_greatUpper v_greatLower A_now A_undos A_seen A_seenAs A_isKept A_kept A_text A_read A_fewest A_doors A_isSo p1 r5 e5) gg_X11_130 hd_Mo_isKnown ⟨rfl, rfl, Nat.le_of_ble_eq_true rfl, Nat.le_of_ble_eq_true rfl⟩ ⟨Nat.zero_le _, Nat.zero_le _⟩ hP [0, 1, 2, 3, 4, 5, 6, 7, 8, 9, 10, 11] rfl rfl rfl rfl hl.1 rfl (Nat.le_of_ble_eq_true rfl) dX11_reading_22 (fun n5 => ?_)
      refine lv_istore_n (lv' := [(3, .int r5), (0, .ref a_this), (1, .int p1), (2, .int p2)]) hx hb dX11_reading_25 rfl hl (by decide) rfl (fun ls hl => ?_)
      refine lv_iload_n hx hb dX11_reading_26 rfl (lv_at hl 3 rfl) ?_
      refine lv_iconst (v := (4 : Int32)) hx hb dX11_reading_27 rfl ?_
      refine lv_icmp_eq (tgt := 36) hx hb dX11_reading_28 (by decide) (fun c6 => ?_) (fun c6 => ?_)
      · have h := ip c6 h
        refine lv_aload_n hx hb dX11_reading_36 rfl (lv_at hl 1 rfl) ?_
        refine lv_aload_n hx hb dX11_reading_37 rfl (lv_at hl 1 rfl) ?_
        refine va_get (ci := 11) (v := .ref a_now) (C := RX11) (T := TX11) (N := 23) hx hb htT inlX11 hown hK hP 0 rfl rfl 0 (by decide) (htT _ q_7_0) (fun _ h9 => h9) rfl dX11_reading_38 ?_
        refine lv_iconst (v := (1 : Int32)) hx hb dX11_reading_41 rfl ?_
        obtain ⟨g7, h⟩ := gd h
        refine va_iald hx hb hK hP 1 1 rfl rfl (inB_in g7) dX11_reading_42 ?_
        obtain ⟨r8, e8, h⟩ := bd h
        refine roV X [.int (A_now ((1 : Int32)).toNatClampNeg)] [] (c_Mo_door l D cC cI cZ a_this a_now a_undos a_seen a_seenAs a_isKept a_kept a_text a_read a_fewest a_doors a_isSo v_undoMany v_undoAt v_seenMany v_letterMany v_readAt v_tokenAt v_token v_value v_faultAt v_readOnce v_greatUpper v_greatLower A_now A_undos A_seen A_seenAs A_isKept A_kept A_text A_read A_fewest A_doors A_isSo (A_now ((1 : Int32)).toNatClampNeg) r8 e8) gg_X11_172 hd_Mo_door ⟨rfl, rfl, Nat.le_of_ble_eq_true rfl, Nat.le_of_ble_eq_true rfl⟩ ⟨Nat.zero_le _, Nat.zero_le _⟩ hP [0, 1, 2, 3, 4, 5, 6, 7, 8, 9, 10, 11] rfl rfl rfl rfl hl.1 rfl (Nat.le_of_ble_eq_true rfl) dX11_reading_43 (fun n8 => ?_)
        refine lv_goto (tgt := 75) hx hb dX11_reading_46 (by decide) ?_
        refine lv_istore (lv' := [(4, .int r8), (3, .int r5), (0, .ref a_this), (1, .int p1), (2, .int p2)]) hx hb dX11_reading_75 hl (by decide) rfl (fun ls hl => ?_)
        refine lv_iload_n hx hb dX11_reading_77 rfl (lv_at hl 4 rfl) ?_
        have q9 := c6
        refine lv_tableIn (off := 108) (tgt := 186) hx hb dX11_reading_78 (by rw [q9]; decide) (by rw [q9]; decide) (by rw [q9]; rfl) (by decide) ?_
        refine lv_iload hx hb dX11_reading_186 (lv_at hl 0 rfl) ?_
        refine lv_iload_n hx hb dX11_reading_188 rfl (lv_at hl 3 rfl) ?_
        refine roS X [.int r8, .int p1] [] (c_Mo_has l D cC cI cZ r8 p1 _ rfl) gg_X11_87 hd_Mo_has ⟨rfl, rfl, Nat.le_of_ble_eq_true rfl, Nat.le_of_ble_eq_true rfl⟩ ⟨Nat.zero_le _, Nat.zero_le _⟩ hP [] rfl hl.1 rfl (Nat.le_of_ble_eq_true rfl) dX11_reading_189 (fun n10 => ?_)
        refine lv_if_eq (tgt := 199) hx hb dX11_reading_192 (by decide) (fun c11 => ?_) (fun c11 => ?_)
        · have h := ip c11 h
          refine lv_iconst (v := (0 : Int32)) hx hb dX11_reading_199 rfl ?_
          obtain rfl := Option.some.inj h
          exact hret _ _ _ _ _ hP hS dX11_reading_200 rfl rfl
        · have h := im c11 h
          refine lv_iconst (v := (1 : Int32)) hx hb dX11_reading_195 rfl ?_
          refine lv_goto (tgt := 200) hx hb dX11_reading_196 (by decide) ?_
          obtain rfl := Option.some.inj h
          exact hret _ _ _ _ _ hP hS dX11_reading_200 rfl rfl
      · have h := im c6 h
        refine lv_iload_n hx hb dX11_reading_31 rfl (lv_at hl 3 rfl) ?_
        refine lv_iconst (v := (5 : Int32)) hx hb dX11_reading_32 rfl ?_
        refine lv_icmp_ne (tgt := 49) hx hb dX11_reading_33 (by decide) (fun c12 => ?_) (fun c12 => ?_)
        · have h := im c12 h
          refine lv_iload_n hx hb dX11_reading_49 rfl (lv_at hl 3 rfl) ?_
          refine lv_bipush (v := (6 : Int32)) hx hb dX11_reading_50 rfl ?_
          refine lv_icmp_ne (tgt := 62) hx hb dX11_reading_52 (by decide) (fun c19 => ?_) (fun c19 => ?_)
          · have h := im c19 h
            refine lv_iload_n hx hb dX11_reading_62 rfl (lv_at hl 3 rfl) ?_
            refine lv_iconst (v := (3 : Int32)) hx hb dX11_reading_63 rfl ?_
            refine lv_icmp_ne (tgt := 74) hx hb dX11_reading_64 (by decide) (fun c32 => ?_) (fun c32 => ?_)
            · have h := im c32 h
              refine lv_iconst (v := (0 : Int32)) hx hb dX11_reading_74 rfl ?_
              refine lv_istore (lv' := [(4, .int (0 : Int32)), (3, .int r5), (0, .ref a_this), (1, .int p1), (2, .int p2)]) hx hb dX11_reading_75 hl (by decide) rfl (fun ls hl => ?_)
              refine lv_iload_n hx hb dX11_reading_77 rfl (lv_at hl 4 rfl) ?_
              by_cases c37 : p2 = (0 : Int32)
              · have h := ip c37 h
                refine lv_tableIn (off := 38) (tgt := 116) hx hb dX11_reading_78 (by rw [c37]; decide) (by rw [c37]; decide) (by rw [c37]; rfl) (by decide) ?_
                refine lv_aload_n hx hb dX11_reading_116 rfl (lv_at hl 2 rfl) ?_
                refine va_get (ci := 11) (v := .ref a_now) (C := RX11) (T := TX11) (N := 23) hx hb htT inlX11 hown hK hP 0 rfl rfl 0 (by decide) (htT _ q_7_0) (fun _ h9 => h9) rfl dX11_reading_117 ?_
                refine lv_iconst (v := (3 : Int32)) hx hb dX11_reading_120 rfl ?_
                refine lv_iload_n hx hb dX11_reading_121 rfl (lv_at hl 3 rfl) ?_
                refine lv_iadd hx hb dX11_reading_122 ?_
                obtain ⟨g38, h⟩ := gd h
                refine va_iald hx hb hK hP 1 1 rfl rfl (inB_in g38) dX11_reading_123 ?_
                obtain rfl := Option.some.inj h
                exact hret _ _ _ _ _ hP hS dX11_reading_124 rfl rfl
              · have h := im c37 h
                by_cases c39 : p2 = (1 : Int32)
                · have h := ip c39 h
                  refine lv_tableIn (off := 47) (tgt := 125) hx hb dX11_reading_78 (by rw [c39]; decide) (by rw [c39]; decide) (by rw [c39]; rfl) (by decide) ?_
                  refine lv_aload_n hx hb dX11_reading_125 rfl (lv_at hl 2 rfl) ?_
                  refine va_get (ci := 11) (v := .ref a_now) (C := RX11) (T := TX11) (N := 23) hx hb htT inlX11 hown hK hP 0 rfl rfl 0 (by decide) (htT _ q_7_0) (fun _ h9 => h9) rfl dX11_reading_126 ?_
                  refine lv_bipush (v := (17 : Int32)) hx hb dX11_reading_129 rfl ?_
                  refine lv_iload_n hx hb dX11_reading_131 rfl (lv_at hl 3 rfl) ?_
                  refine lv_iadd hx hb dX11_reading_132 ?_
                  obtain ⟨g40, h⟩ := gd h
                  refine va_iald hx hb hK hP 1 1 rfl rfl (inB_in g40) dX11_reading_133 ?_
                  obtain rfl := Option.some.inj h
                  exact hret _ _ _ _ _ hP hS dX11_reading_134 rfl rfl
                · have h := im c39 h
                  by_cases c41 : p2 = (2 : Int32)
                  · have h := ip c41 h
                    refine lv_tableIn (off := 57) (tgt := 135) hx hb dX11_reading_78 (by rw [c41]; decide) (by rw [c41]; decide) (by rw [c41]; rfl) (by decide) ?_
                    refine lv_aload_n hx hb dX11_reading_135 rfl (lv_at hl 2 rfl) ?_
                    refine lv_iload_n hx hb dX11_reading_136 rfl (lv_at hl 3 rfl) ?_
                    obtain ⟨r42, e42, h⟩ := bd h
                    refine roV X [.int p1] [] (c_Mo_stretchOf l D cC cI cZ a_this a_now a_undos a_seen a_seenAs a_isKept a_kept a_text a_read a_fewest a_doors a_isSo v_undoMany v_undoAt v_seenMany v_letterMany v_readAt v_tokenAt v_token v_value v_faultAt v_readOnce v_greatUpper v_greatLower A_now A_undos A_seen A_seenAs A_isKept A_kept A_text A_read A_fewest A_doors A_isSo p1 r42 e42) gg_X11_183 hd_Mo_stretchOf ⟨rfl, rfl, Nat.le_of_ble_eq_true rfl, Nat.le_of_ble_eq_true rfl⟩ ⟨Nat.zero_le _, Nat.zero_le _⟩ hP [0, 1, 2, 3, 4, 5, 6, 7, 8, 9, 10, 11] rfl rfl rfl rfl hl.1 rfl (Nat.le_of_ble_eq_true rfl) dX11_reading_137 (fun n42 => ?_)
                    obtain rfl := Option.some.inj h
                    exact hret _ _ _ _ _ hP hS dX11_reading_140 rfl rfl
                  · have h := im c41 h
                    refine lv_tableOut (tgt := 186) hx hb dX11_reading_78 (by have t0 : ¬ (p2).toInt = 3 := lv_neT c32 (by decide); have t1 : ¬ (p2).toInt = 4 := lv_neT c6 (by decide); have t2 : ¬ (p2).toInt = 5 := lv_neT c12 (by decide); have t3 : ¬ (p2).toInt = 0 := lv_neT c37 (by decide); have t4 : ¬ (p2).toInt = 1 := lv_neT c39 (by decide); have t5 : ¬ (p2).toInt = 2 := lv_neT c41 (by decide); omega) (by decide) ?_
                    refine lv_iload hx hb dX11_reading_186 (lv_at hl 0 rfl) ?_
                    refine lv_iload_n hx hb dX11_reading_188 rfl (lv_at hl 3 rfl) ?_
                    refine roS X [.int (0 : Int32), .int p1] [] (c_Mo_has l D cC cI cZ (0 : Int32) p1 _ rfl) gg_X11_87 hd_Mo_has ⟨rfl, rfl, Nat.le_of_ble_eq_true rfl, Nat.le_of_ble_eq_true rfl⟩ ⟨Nat.zero_le _, Nat.zero_le _⟩ hP [] rfl hl.1 rfl (Nat.le_of_ble_eq_true rfl) dX11_reading_189 (fun n43 => ?_)
                    refine lv_if_eq (tgt := 199) hx hb dX11_reading_192 (by decide) (fun c44 => ?_) (fun c44 => ?_)
                    · have h := ip c44 h
                      refine lv_iconst (v := (0 : Int32)) hx hb dX11_reading_199 rfl ?_
                      obtain rfl := Option.some.inj h
                      exact hret _ _ _ _ _ hP hS dX11_reading_200 rfl rfl
                    · have h := im c44 h
                      refine lv_iconst (v := (1 : Int32)) hx hb dX11_reading_195 rfl ?_
                      refine lv_goto (tgt := 200) hx hb dX11_reading_196 (by decide) ?_
                      obtain rfl := Option.some.inj h
                      exact hret _ _ _ _ _ hP hS dX11_reading_200 rfl rfl
            · have h := ip c32 h
              refine lv_aload_n hx hb dX11_reading_67 rfl (lv_at hl 1 rfl) ?_
              obtain ⟨z33, e33, h⟩ := bd h
              refine muV (ws' := (k_Mo cC cI cZ a_this a_now a_undos a_seen a_seenAs a_isKept a_kept a_text a_read a_fewest a_doors a_isSo v_undoMany v_undoAt v_seenMany v_letterMany v_readAt v_tokenAt v_token v_value v_faultAt v_readOnce z33.2.1 z33.2.2 A_now A_undos A_seen A_seenAs A_isKept A_kept A_text A_read A_fewest A_doors A_isSo)) X [] [] (c_Mo_pieces l D cC cI cZ a_this a_now a_undos a_seen a_seenAs a_isKept a_kept a_text a_read a_fewest a_doors a_isSo v_undoMany v_undoAt v_seenMany v_letterMany v_readAt v_tokenAt v_token v_value v_faultAt v_readOnce v_greatUpper v_greatLower A_now A_undos A_seen A_seenAs A_isKept A_kept A_text A_read A_fewest A_doors A_isSo _ z33 e33) gg_X11_180 hd_Mo_pieces ⟨rfl, rfl, Nat.le_of_ble_eq_true rfl, Nat.le_of_ble_eq_true rfl⟩ ⟨Nat.zero_le _, Nat.zero_le _⟩ hP hD hS hA [0, 1, 2, 3, 4, 5, 6, 7, 8, 9, 10, 11] [] [0, 1, 2, 3, 4, 5, 6, 7, 8, 9, 10, 11] rfl rfl (by decide) (by decide) rfl rfl rfl rfl rfl hl.1 rfl (Nat.le_of_ble_eq_true rfl) dX11_reading_68 (fun H locs hP hD hS n33 => ?_)
              refine lv_goto (tgt := 75) hx hb dX11_reading_71 (by decide) ?_
              refine lv_istore (lv' := [(4, .int z33.1), (3, .int r5), (0, .ref a_this), (1, .int p1), (2, .int p2)]) hx hb dX11_reading_75 hl (by decide) rfl (fun ls hl => ?_)
              refine lv_iload_n hx hb dX11_reading_77 rfl (lv_at hl 4 rfl) ?_
              have q34 := c32
              refine lv_tableIn (off := 63) (tgt := 141) hx hb dX11_reading_78 (by rw [q34]; decide) (by rw [q34]; decide) (by rw [q34]; rfl) (by decide) ?_
              refine lv_iload_n hx hb dX11_reading_141 rfl (lv_at hl 1 rfl) ?_
              refine lv_if_eq (tgt := 161) hx hb dX11_reading_142 (by decide) (fun c35 => ?_) (fun c35 => ?_)
              · have h := ip c35 h
                refine lv_bipush (v := (-9 : Int32)) hx hb dX11_reading_161 rfl ?_
                obtain rfl := Option.some.inj h
                exact hret _ _ _ _ _ hP hS dX11_reading_163 rfl rfl
              · have h := im c35 h
                refine lv_iload hx hb dX11_reading_145 (lv_at hl 0 rfl) ?_
                refine lv_iconst (v := (2 : Int32)) hx hb dX11_reading_147 rfl ?_
                refine lv_iload_n hx hb dX11_reading_148 rfl (lv_at hl 3 rfl) ?_
                refine lv_ishl hx hb dX11_reading_149 ?_
                refine lv_iconst (v := (1 : Int32)) hx hb dX11_reading_150 rfl ?_
                refine lv_isub hx hb dX11_reading_151 ?_
                refine lv_iand hx hb dX11_reading_152 ?_
                obtain ⟨r36, e36, h⟩ := bd h
                refine roS X [.int (z33.1 &&& (((2 : Int32) <<< (p1 &&& 31)) - (1 : Int32)))] [] (c_Mo_bits l D cC cI cZ (z33.1 &&& (((2 : Int32) <<< (p1 &&& 31)) - (1 : Int32))) r36 e36) gg_X11_186 hd_Mo_bits ⟨rfl, rfl, Nat.le_of_ble_eq_true rfl, Nat.le_of_ble_eq_true rfl⟩ ⟨Nat.zero_le _, Nat.zero_le _⟩ hP [] rfl hl.1 rfl (Nat.le_of_ble_eq_true rfl) dX11_reading_153 (fun n36 => ?_)
                refine lv_iconst (v := (1 : Int32)) hx hb dX11_reading_156 rfl ?_
                refine lv_isub hx hb dX11_reading_157 ?_
                refine lv_goto (tgt := 163) hx hb dX11_reading_158 (by decide) ?_
                obtain rfl := Option.some.inj h
                exact hret _ _ _ _ _ hP hS dX11_reading_163 rfl rfl
          · have h := ip c19 h
            refine lv_aload_n hx hb dX11_reading_55 rfl (lv_at hl 1 rfl) ?_
            obtain ⟨z20, e20, h⟩ := bd h
            refine muV (ws' := (k_Mo cC cI cZ a_this a_now a_undos a_seen a_seenAs a_isKept a_kept a_text a_read a_fewest a_doors a_isSo v_undoMany v_undoAt v_seenMany v_letterMany v_readAt v_tokenAt v_token v_value v_faultAt v_readOnce v_greatUpper v_greatLower A_now A_undos A_seen A_seenAs A_isKept A_kept A_text A_read z20.2 A_doors A_isSo)) X [] [] (c_Mo_least l D cC cI cZ a_this a_now a_undos a_seen a_seenAs a_isKept a_kept a_text a_read a_fewest a_doors a_isSo v_undoMany v_undoAt v_seenMany v_letterMany v_readAt v_tokenAt v_token v_value v_faultAt v_readOnce v_greatUpper v_greatLower A_now A_undos A_seen A_seenAs A_isKept A_kept A_text A_read A_fewest A_doors A_isSo _ z20 e20) gg_X11_176 hd_Mo_least ⟨rfl, rfl, Nat.le_of_ble_eq_true rfl, Nat.le_of_ble_eq_true rfl⟩ ⟨Nat.zero_le _, Nat.zero_le _⟩ hP hD hS hA [0, 1, 2, 3, 4, 5, 6, 7, 8, 9, 10, 11] [] [0, 1, 2, 3, 4, 5, 6, 7, 8, 9, 10, 11] rfl rfl (by decide) (by decide) rfl rfl rfl rfl rfl hl.1 rfl (Nat.le_of_ble_eq_true rfl) dX11_reading_56 (fun H locs hP hD hS n20 => ?_)
            refine lv_goto (tgt := 75) hx hb dX11_reading_59 (by decide) ?_
            refine lv_istore (lv' := [(4, .int z20.1), (3, .int r5), (0, .ref a_this), (1, .int p1), (2, .int p2)]) hx hb dX11_reading_75 hl (by decide) rfl (fun ls hl => ?_)
            refine lv_iload_n hx hb dX11_reading_77 rfl (lv_at hl 4 rfl) ?_
            by_cases c21 : p2 = (0 : Int32)
            · have h := ip c21 h
              refine lv_tableIn (off := 38) (tgt := 116) hx hb dX11_reading_78 (by rw [c21]; decide) (by rw [c21]; decide) (by rw [c21]; rfl) (by decide) ?_
              refine lv_aload_n hx hb dX11_reading_116 rfl (lv_at hl 2 rfl) ?_
              refine va_get (ci := 11) (v := .ref a_now) (C := RX11) (T := TX11) (N := 23) hx hb htT inlX11 hown hK hP 0 rfl rfl 0 (by decide) (htT _ q_7_0) (fun _ h9 => h9) rfl dX11_reading_117 ?_
              refine lv_iconst (v := (3 : Int32)) hx hb dX11_reading_120 rfl ?_
              refine lv_iload_n hx hb dX11_reading_121 rfl (lv_at hl 3 rfl) ?_
              refine lv_iadd hx hb dX11_reading_122 ?_
              obtain ⟨g22, h⟩ := gd h
              refine va_iald hx hb hK hP 1 1 rfl rfl (inB_in g22) dX11_reading_123 ?_
              obtain rfl := Option.some.inj h
              exact hret _ _ _ _ _ hP hS dX11_reading_124 rfl rfl
            · have h := im c21 h
              by_cases c23 : p2 = (1 : Int32)
              · have h := ip c23 h
                refine lv_tableIn (off := 47) (tgt := 125) hx hb dX11_reading_78 (by rw [c23]; decide) (by rw [c23]; decide) (by rw [c23]; rfl) (by decide) ?_
                refine lv_aload_n hx hb dX11_reading_125 rfl (lv_at hl 2 rfl) ?_
                refine va_get (ci := 11) (v := .ref a_now) (C := RX11) (T := TX11) (N := 23) hx hb htT inlX11 hown hK hP 0 rfl rfl 0 (by decide) (htT _ q_7_0) (fun _ h9 => h9) rfl dX11_reading_126 ?_
                refine lv_bipush (v := (17 : Int32)) hx hb dX11_reading_129 rfl ?_
                refine lv_iload_n hx hb dX11_reading_131 rfl (lv_at hl 3 rfl) ?_
                refine lv_iadd hx hb dX11_reading_132 ?_
                obtain ⟨g24, h⟩ := gd h
                refine va_iald hx hb hK hP 1 1 rfl rfl (inB_in g24) dX11_reading_133 ?_
                obtain rfl := Option.some.inj h
                exact hret _ _ _ _ _ hP hS dX11_reading_134 rfl rfl
              · have h := im c23 h
                by_cases c25 : p2 = (2 : Int32)
                · have h := ip c25 h
                  refine lv_tableIn (off := 57) (tgt := 135) hx hb dX11_reading_78 (by rw [c25]; decide) (by rw [c25]; decide) (by rw [c25]; rfl) (by decide) ?_
                  refine lv_aload_n hx hb dX11_reading_135 rfl (lv_at hl 2 rfl) ?_
                  refine lv_iload_n hx hb dX11_reading_136 rfl (lv_at hl 3 rfl) ?_
                  obtain ⟨r26, e26, h⟩ := bd h
                  refine roV X [.int p1] [] (c_Mo_stretchOf l D cC cI cZ a_this a_now a_undos a_seen a_seenAs a_isKept a_kept a_text a_read a_fewest a_doors a_isSo v_undoMany v_undoAt v_seenMany v_letterMany v_readAt v_tokenAt v_token v_value v_faultAt v_readOnce v_greatUpper v_greatLower A_now A_undos A_seen A_seenAs A_isKept A_kept A_text A_read z20.2 A_doors A_isSo p1 r26 e26) gg_X11_183 hd_Mo_stretchOf ⟨rfl, rfl, Nat.le_of_ble_eq_true rfl, Nat.le_of_ble_eq_true rfl⟩ ⟨Nat.zero_le _, Nat.zero_le _⟩ hP [0, 1, 2, 3, 4, 5, 6, 7, 8, 9, 10, 11] rfl rfl rfl rfl hl.1 rfl (Nat.le_of_ble_eq_true rfl) dX11_reading_137 (fun n26 => ?_)
                  obtain rfl := Option.some.inj h
                  exact hret _ _ _ _ _ hP hS dX11_reading_140 rfl rfl
                · have h := im c25 h
                  by_cases c27 : p2 = (3 : Int32)
                  · have h := ip c27 h
                    refine lv_tableIn (off := 63) (tgt := 141) hx hb dX11_reading_78 (by rw [c27]; decide) (by rw [c27]; decide) (by rw [c27]; rfl) (by decide) ?_
                    refine lv_iload_n hx hb dX11_reading_141 rfl (lv_at hl 1 rfl) ?_
                    refine lv_if_eq (tgt := 161) hx hb dX11_reading_142 (by decide) (fun c28 => ?_) (fun c28 => ?_)
                    · have h := ip c28 h
                      refine lv_bipush (v := (-9 : Int32)) hx hb dX11_reading_161 rfl ?_
                      obtain rfl := Option.some.inj h
                      exact hret _ _ _ _ _ hP hS dX11_reading_163 rfl rfl
                    · have h := im c28 h
                      refine lv_iload hx hb dX11_reading_145 (lv_at hl 0 rfl) ?_
                      refine lv_iconst (v := (2 : Int32)) hx hb dX11_reading_147 rfl ?_
                      refine lv_iload_n hx hb dX11_reading_148 rfl (lv_at hl 3 rfl) ?_
                      refine lv_ishl hx hb dX11_reading_149 ?_
                      refine lv_iconst (v := (1 : Int32)) hx hb dX11_reading_150 rfl ?_
                      refine lv_isub hx hb dX11_reading_151 ?_
                      refine lv_iand hx hb dX11_reading_152 ?_
                      obtain ⟨r29, e29, h⟩ := bd h
                      refine roS X [.int (z20.1 &&& (((2 : Int32) <<< (p1 &&& 31)) - (1 : Int32)))] [] (c_Mo_bits l D cC cI cZ (z20.1 &&& (((2 : Int32) <<< (p1 &&& 31)) - (1 : Int32))) r29 e29) gg_X11_186 hd_Mo_bits ⟨rfl, rfl, Nat.le_of_ble_eq_true rfl, Nat.le_of_ble_eq_true rfl⟩ ⟨Nat.zero_le _, Nat.zero_le _⟩ hP [] rfl hl.1 rfl (Nat.le_of_ble_eq_true rfl) dX11_reading_153 (fun n29 => ?_)
                      refine lv_iconst (v := (1 : Int32)) hx hb dX11_reading_156 rfl ?_
                      refine lv_isub hx hb dX11_reading_157 ?_
                      refine lv_goto (tgt := 163) hx hb dX11_reading_158 (by decide) ?_
                      obtain rfl := Option.some.inj h
                      exact hret _ _ _ _ _ hP hS dX11_reading_163 rfl rfl
                  · have h := im c27 h
                    refine lv_tableOut (tgt := 186) hx hb dX11_reading_78 (by have t0 : ¬ (p2).toInt = 4 := lv_neT c6 (by decide); have t1 : ¬ (p2).toInt = 5 := lv_neT c12 (by decide); have t2 : ¬ (p2).toInt = 0 := lv_neT c21 (by decide); have t3 : ¬ (p2).toInt = 1 := lv_neT c23 (by decide); have t4 : ¬ (p2).toInt = 2 := lv_neT c25 (by decide); have t5 : ¬ (p2).toInt = 3 := lv_neT c27 (by decide); omega) (by decide) ?_
                    refine lv_iload hx hb dX11_reading_186 (lv_at hl 0 rfl) ?_
                    refine lv_iload_n hx hb dX11_reading_188 rfl (lv_at hl 3 rfl) ?_
                    refine roS X [.int z20.1, .int p1] [] (c_Mo_has l D cC cI cZ z20.1 p1 _ rfl) gg_X11_87 hd_Mo_has ⟨rfl, rfl, Nat.le_of_ble_eq_true rfl, Nat.le_of_ble_eq_true rfl⟩ ⟨Nat.zero_le _, Nat.zero_le _⟩ hP [] rfl hl.1 rfl (Nat.le_of_ble_eq_true rfl) dX11_reading_189 (fun n30 => ?_)
                    refine lv_if_eq (tgt := 199) hx hb dX11_reading_192 (by decide) (fun c31 => ?_) (fun c31 => ?_)
                    · have h := ip c31 h
                      refine lv_iconst (v := (0 : Int32)) hx hb dX11_reading_199 rfl ?_
                      obtain rfl := Option.some.inj h
                      exact hret _ _ _ _ _ hP hS dX11_reading_200 rfl rfl
                    · have h := im c31 h
                      refine lv_iconst (v := (1 : Int32)) hx hb dX11_reading_195 rfl ?_
                      refine lv_goto (tgt := 200) hx hb dX11_reading_196 (by decide) ?_
                      obtain rfl := Option.some.inj h
                      exact hret _ _ _ _ _ hP hS dX11_reading_200 rfl rfl
        · have h := ip c12 h
          refine lv_aload_n hx hb dX11_reading_36 rfl (lv_at hl 1 rfl) ?_
          refine lv_aload_n hx hb dX11_reading_37 rfl (lv_at hl 1 rfl) ?_
          refine va_get (ci := 11) (v := .ref a_now) (C := RX11) (T := TX11) (N := 23) hx hb htT inlX11 hown hK hP 0 rfl rfl 0 (by decide) (htT _ q_7_0) (fun _ h9 => h9) rfl dX11_reading_38 ?_
          refine lv_iconst (v := (1 : Int32)) hx hb dX11_reading_41 rfl ?_
          obtain ⟨g13, h⟩ := gd h
          refine va_iald hx hb hK hP 1 1 rfl rfl (inB_in g13) dX11_reading_42 ?_
          obtain ⟨r14, e14, h⟩ := bd h
          refine roV X [.int (A_now ((1 : Int32)).toNatClampNeg)] [] (c_Mo_door l D cC cI cZ a_this a_now a_undos a_seen a_seenAs a_isKept a_kept a_text a_read a_fewest a_doors a_isSo v_undoMany v_undoAt v_seenMany v_letterMany v_readAt v_tokenAt v_token v_value v_faultAt v_readOnce v_greatUpper v_greatLower A_now A_undos A_seen A_seenAs A_isKept A_kept A_text A_read A_fewest A_doors A_isSo (A_now ((1 : Int32)).toNatClampNeg) r14 e14) gg_X11_172 hd_Mo_door ⟨rfl, rfl, Nat.le_of_ble_eq_true rfl, Nat.le_of_ble_eq_true rfl⟩ ⟨Nat.zero_le _, Nat.zero_le _⟩ hP [0, 1, 2, 3, 4, 5, 6, 7, 8, 9, 10, 11] rfl rfl rfl rfl hl.1 rfl (Nat.le_of_ble_eq_true rfl) dX11_reading_43 (fun n14 => ?_)
          refine lv_goto (tgt := 75) hx hb dX11_reading_46 (by decide) ?_
          refine lv_istore (lv' := [(4, .int r14), (3, .int r5), (0, .ref a_this), (1, .int p1), (2, .int p2)]) hx hb dX11_reading_75 hl (by decide) rfl (fun ls hl => ?_)
          refine lv_iload_n hx hb dX11_reading_77 rfl (lv_at hl 4 rfl) ?_
          have q15 := c12
          refine lv_tableIn (off := 86) (tgt := 164) hx hb dX11_reading_78 (by rw [q15]; decide) (by rw [q15]; decide) (by rw [q15]; rfl) (by decide) ?_
          refine lv_iload hx hb dX11_reading_164 (lv_at hl 0 rfl) ?_
          refine lv_iload_n hx hb dX11_reading_166 rfl (lv_at hl 3 rfl) ?_
          refine roS X [.int r14, .int p1] [] (c_Mo_has l D cC cI cZ r14 p1 _ rfl) gg_X11_87 hd_Mo_has ⟨rfl, rfl, Nat.le_of_ble_eq_true rfl, Nat.le_of_ble_eq_true rfl⟩ ⟨Nat.zero_le _, Nat.zero_le _⟩ hP [] rfl hl.1 rfl (Nat.le_of_ble_eq_true rfl) dX11_reading_167 (fun n16 => ?_)
          refine lv_if_eq (tgt := 183) hx hb dX11_reading_170 (by decide) (fun c17 => ?_) (fun c17 => ?_)
          · have h := ip c17 h
            refine lv_bipush (v := (-9 : Int32)) hx hb dX11_reading_183 rfl ?_
            obtain rfl := Option.some.inj h
            exact hret _ _ _ _ _ hP hS dX11_reading_185 rfl rfl
          · have h := im c17 h
            refine lv_aload_n hx hb dX11_reading_173 rfl (lv_at hl 2 rfl) ?_
            refine lv_iload hx hb dX11_reading_174 (lv_at hl 0 rfl) ?_
            refine lv_iload_n hx hb dX11_reading_176 rfl (lv_at hl 3 rfl) ?_
            obtain ⟨r18, e18, h⟩ := bd h
            refine roV X [.int r14, .int p1] [] (c_Mo_sentAt l D cC cI cZ a_this a_now a_undos a_seen a_seenAs a_isKept a_kept a_text a_read a_fewest a_doors a_isSo v_undoMany v_undoAt v_seenMany v_letterMany v_readAt v_tokenAt v_token v_value v_faultAt v_readOnce v_greatUpper v_greatLower A_now A_undos A_seen A_seenAs A_isKept A_kept A_text A_read A_fewest A_doors A_isSo r14 p1 r18 e18) gg_X11_189 hd_Mo_sentAt ⟨rfl, rfl, Nat.le_of_ble_eq_true rfl, Nat.le_of_ble_eq_true rfl⟩ ⟨Nat.zero_le _, Nat.zero_le _⟩ hP [0, 1, 2, 3, 4, 5, 6, 7, 8, 9, 10, 11] rfl rfl rfl rfl hl.1 rfl (Nat.le_of_ble_eq_true rfl) dX11_reading_177 (fun n18 => ?_)
            refine lv_goto (tgt := 185) hx hb dX11_reading_180 (by decide) ?_
            obtain rfl := Option.some.inj h
            exact hret _ _ _ _ _ hP hS dX11_reading_185 rfl rfl
    · have h := ip c4 h
      refine lv_iconst (v := (-1 : Int32)) hx hb dX11_reading_18 rfl ?_
      obtain rfl := Option.some.inj h
      exact hret _ _ _ _ _ hP hS dX11_reading_19 rfl rfl
set_option maxHeartbeats 4000000 in
set_option maxRecDepth 100000 in
theorem c_Mo_readsOnce (l : Launch) (D : va_G) (cC cI cZ : ClassId) (a_this : Nat) (a_now : Nat) (a_undos : Nat) (a_seen : Nat) (a_seenAs : Nat) (a_isKept : Nat) (a_kept : Nat) (a_text : Nat) (a_read : Nat) (a_fewest : Nat) (a_doors : Nat) (a_isSo : Nat) (v_undoMany : Int32) (v_undoAt : Int32) (v_seenMany : Int32) (v_letterMany : Int32) (v_readAt : Int32) (v_tokenAt : Int32) (v_token : Int32) (v_value : Int32) (v_faultAt : Int32) (v_readOnce : Int32) (v_greatUpper : Int64) (v_greatLower : Int64) (A_now : Nat → Int32) (A_undos : Nat → Int32) (A_seen : Nat → Int32) (A_seenAs : Nat → Int32) (A_isKept : Nat → Int32) (A_kept : Nat → Int32) (A_text : Nat → Int32) (A_read : Nat → Int32) (A_fewest : Nat → Int32) (A_doors : Nat → Int32) (A_isSo : Nat → Int32) (p1 : Int32) (p2 : Int32) (p3 : Int32) (sz : Nat) (z : Int32 × Int32 × Int32 × Int32 × Int32 × Int32 × Int32 × (Nat → Int32)) (h : f_Mo_readsOnce v_letterMany v_readAt v_tokenAt v_token v_value v_faultAt v_readOnce A_text A_read p1 p2 p3 = some z) : Met l yX11_readsOnce (.code yX11_readsOnce cX11_readsOnce 4 (some .boolean) :: TBL) (RM 4 85) (PcM [.ref a_this, .int p1, .int p2, .int p3] sz D (TY cC cI cZ) (k_Mo cC cI cZ a_this a_now a_undos a_seen a_seenAs a_isKept a_kept a_text a_read a_fewest a_doors a_isSo v_undoMany v_undoAt v_seenMany v_letterMany v_readAt v_tokenAt v_token v_value v_faultAt v_readOnce v_greatUpper v_greatLower A_now A_undos A_seen A_seenAs A_isKept A_kept A_text A_read A_fewest A_doors A_isSo)) (fun a st o t => QM (some (.int z.1)) D (k_Mo cC cI cZ a_this a_now a_undos a_seen a_seenAs a_isKept a_kept a_text a_read a_fewest a_doors a_isSo v_undoMany v_undoAt v_seenMany v_letterMany z.2.1 z.2.2.1 z.2.2.2.1 z.2.2.2.2.1 z.2.2.2.2.2.1 z.2.2.2.2.2.2.1 v_greatUpper v_greatLower A_now A_undos A_seen A_seenAs A_isKept A_kept A_text z.2.2.2.2.2.2.2 A_fewest A_doors A_isSo) (va_A (k_Mo cC cI cZ a_this a_now a_undos a_seen a_seenAs a_isKept a_kept a_text a_read a_fewest a_doors a_isSo v_undoMany v_undoAt v_seenMany v_letterMany v_readAt v_tokenAt v_token v_value v_faultAt v_readOnce v_greatUpper v_greatLower A_now A_undos A_seen A_seenAs A_isKept A_kept A_text A_read A_fewest A_doors A_isSo) sz) a st o t ∧ narrow .boolean (.int z.1) = .int z.1) 0 0 (va_A (k_Mo cC cI cZ a_this a_now a_undos a_seen a_seenAs a_isKept a_kept a_text a_read a_fewest a_doors a_isSo v_undoMany v_undoAt v_seenMany v_letterMany v_readAt v_tokenAt v_token v_value v_faultAt v_readOnce v_greatUpper v_greatLower A_now A_undos A_seen A_seenAs A_isKept A_kept A_text A_read A_fewest A_doors A_isSo) sz) := by
  refine muOf (by decide) (Nat.le_of_ble_eq_true rfl) rfl ?_
  intro p e s m args below meth c Q ls A X hP hD hS hA hl hret
  have X : Ctx p s m args c cX11_readsOnce 4 RX11 D (TY cC cI cZ) := X
  obtain ⟨hx, hb, hml, hown, htT, hK, hN⟩ := id X
  unfold f_Mo_readsOnce at h
  refine lv_aload_n hx hb dX11_readsOnce_0 rfl (lv_at hl 0 rfl) ?_
  refine va_get (ci := 11) (v := .int v_readOnce) (C := RX11) (T := TX11) (N := 23) hx hb htT inlX11 hown hK hP 0 rfl rfl 16 (by decide) (htT _ q_13_21) (fun _ h9 => h9) rfl dX11_readsOnce_1 ?_
  refine lv_iload_n hx hb dX11_readsOnce_4 rfl (lv_at hl 1 rfl) ?_
  refine roS X [.int v_readOnce, .int p1] [] (c_Mo_has l D cC cI cZ v_readOnce p1 _ rfl) gg_X11_87 hd_Mo_has ⟨rfl, rfl, Nat.le_of_ble_eq_true rfl, Nat.le_of_ble_eq_true rfl⟩ ⟨Nat.zero_le _, Nat.zero_le _⟩ hP [] rfl hl.1 rfl (Nat.le_of_ble_eq_true rfl) dX11_readsOnce_5 (fun n1 => ?_)
  refine lv_if_eq (tgt := 16) hx hb dX11_readsOnce_8 (by decide) (fun c2 => ?_) (fun c2 => ?_)
  · have h := ip c2 h
    refine lv_aload_n hx hb dX11_readsOnce_16 rfl (lv_at hl 0 rfl) ?_
    refine lv_dup hx hb dX11_readsOnce_17 rfl ?_
    refine va_get (ci := 11) (v := .int v_readOnce) (C := RX11) (T := TX11) (N := 23) hx hb htT inlX11 hown hK hP 0 rfl rfl 16 (by decide) (htT _ q_13_21) (fun _ h9 => h9) rfl dX11_readsOnce_18 ?_
    refine lv_iconst (v := (1 : Int32)) hx hb dX11_readsOnce_21 rfl ?_
    refine lv_iload_n hx hb dX11_readsOnce_22 rfl (lv_at hl 1 rfl) ?_
    refine lv_ishl hx hb dX11_readsOnce_23 ?_
    refine lv_ior hx hb dX11_readsOnce_24 ?_
    refine va_put (ci := 11) (v := .int (v_readOnce ||| ((1 : Int32) <<< (p1 &&& 31)))) (ty := .int) (C := RX11) (T := TX11) (N := 23) hx hb htT inlX11 tyX11 tyX11_ok nmX11 hown hK hP hD hS 0 rfl rfl 16 (by decide) (htT _ q_13_21) (fun _ h9 => h9) rfl (tyX11_ok 16 (by decide)) rfl rfl (Nat.le_of_ble_eq_true rfl) dX11_readsOnce_25 (fun H locs hP hD hS => ?_)
    have hP : va_P D vwCl (k_Mo cC cI cZ a_this a_now a_undos a_seen a_seenAs a_isKept a_kept a_text a_read a_fewest a_doors a_isSo v_undoMany v_undoAt v_seenMany v_letterMany v_readAt v_tokenAt v_token v_value v_faultAt (v_readOnce ||| ((1 : Int32) <<< (p1 &&& 31))) v_greatUpper v_greatLower A_now A_undos A_seen A_seenAs A_isKept A_kept A_text A_read A_fewest A_doors A_isSo) H := hP
    have hD : va_D A (k_Mo cC cI cZ a_this a_now a_undos a_seen a_seenAs a_isKept a_kept a_text a_read a_fewest a_doors a_isSo v_undoMany v_undoAt v_seenMany v_letterMany v_readAt v_tokenAt v_token v_value v_faultAt (v_readOnce ||| ((1 : Int32) <<< (p1 &&& 31))) v_greatUpper v_greatLower A_now A_undos A_seen A_seenAs A_isKept A_kept A_text A_read A_fewest A_doors A_isSo) := hD
    refine lv_aload_n hx hb dX11_readsOnce_28 rfl (lv_at hl 0 rfl) ?_
    refine lv_iload_n hx hb dX11_readsOnce_29 rfl (lv_at hl 2 rfl) ?_
    refine lv_iload_n hx hb dX11_readsOnce_30 rfl (lv_at hl 3 rfl) ?_
    obtain ⟨z3, e3, h⟩ := bd h
    refine muV (ws' := (k_Mo cC cI cZ a_this a_now a_undos a_seen a_seenAs a_isKept a_kept a_text a_read a_fewest a_doors a_isSo v_undoMany v_undoAt v_seenMany v_letterMany z3.2.1 z3.2.2.1 z3.2.2.2.1 z3.2.2.2.2.1 z3.2.2.2.2.2 (v_readOnce ||| ((1 : Int32) <<< (p1 &&& 31))) v_greatUpper v_greatLower A_now A_undos A_seen A_seenAs A_isKept A_kept A_text A_read A_fewest A_doors A_isSo)) X [.int p2, .int p3] [] (c_Mo_number l D cC cI cZ a_this a_now a_undos a_seen a_seenAs a_isKept a_kept a_text a_read a_fewest a_doors a_isSo v_undoMany v_undoAt v_seenMany v_letterMany v_readAt v_tokenAt v_token v_value v_faultAt (v_readOnce ||| ((1 : Int32) <<< (p1 &&& 31))) v_greatUpper v_greatLower A_now A_undos A_seen A_seenAs A_isKept A_kept A_text A_read A_fewest A_doors A_isSo p2 p3 _ z3 e3) gg_X11_91 hd_Mo_number ⟨rfl, rfl, Nat.le_of_ble_eq_true rfl, Nat.le_of_ble_eq_true rfl⟩ ⟨Nat.zero_le _, Nat.zero_le _⟩ hP hD hS hA [0, 1, 2, 3, 4, 5, 6, 7, 8, 9, 10, 11] [] [0, 1, 2, 3, 4, 5, 6, 7, 8, 9, 10, 11] rfl rfl (by decide) (by decide) rfl rfl rfl rfl rfl hl.1 rfl (Nat.le_of_ble_eq_true rfl) dX11_readsOnce_31 (fun H locs hP hD hS n3 => ?_)
    refine lv_if_ne (tgt := 39) hx hb dX11_readsOnce_34 (by decide) (fun c4 => ?_) (fun c4 => ?_)
    · have h := im c4 h
      refine lv_aload_n hx hb dX11_readsOnce_39 rfl (lv_at hl 0 rfl) ?_
      refine va_get (ci := 11) (v := .ref a_read) (C := RX11) (T := TX11) (N := 23) hx hb htT inlX11 hown hK hP 0 rfl rfl 17 (by decide) (htT _ q_7_8) (fun _ h9 => h9) rfl dX11_readsOnce_40 ?_
      refine lv_iload_n hx hb dX11_readsOnce_43 rfl (lv_at hl 1 rfl) ?_
      refine lv_aload_n hx hb dX11_readsOnce_44 rfl (lv_at hl 0 rfl) ?_
      refine va_get (ci := 11) (v := .int z3.2.2.2.2.1) (C := RX11) (T := TX11) (N := 23) hx hb htT inlX11 hown hK hP 0 rfl rfl 14 (by decide) (htT _ q_14_16) (fun _ h9 => h9) rfl dX11_readsOnce_45 ?_
      obtain ⟨g5, h⟩ := gd h
      refine va_iast hx hb hK hP hD hS 8 1 rfl rfl (inB_in g5) dX11_readsOnce_48 (fun H locs hP hD hS => ?_)
      have hP : va_P D vwCl (k_Mo cC cI cZ a_this a_now a_undos a_seen a_seenAs a_isKept a_kept a_text a_read a_fewest a_doors a_isSo v_undoMany v_undoAt v_seenMany v_letterMany z3.2.1 z3.2.2.1 z3.2.2.2.1 z3.2.2.2.2.1 z3.2.2.2.2.2 (v_readOnce ||| ((1 : Int32) <<< (p1 &&& 31))) v_greatUpper v_greatLower A_now A_undos A_seen A_seenAs A_isKept A_kept A_text (upd A_read (p1).toNatClampNeg z3.2.2.2.2.1) A_fewest A_doors A_isSo) H := hP
      have hD : va_D A (k_Mo cC cI cZ a_this a_now a_undos a_seen a_seenAs a_isKept a_kept a_text a_read a_fewest a_doors a_isSo v_undoMany v_undoAt v_seenMany v_letterMany z3.2.1 z3.2.2.1 z3.2.2.2.1 z3.2.2.2.2.1 z3.2.2.2.2.2 (v_readOnce ||| ((1 : Int32) <<< (p1 &&& 31))) v_greatUpper v_greatLower A_now A_undos A_seen A_seenAs A_isKept A_kept A_text (upd A_read (p1).toNatClampNeg z3.2.2.2.2.1) A_fewest A_doors A_isSo) := hD
      refine lv_aload_n hx hb dX11_readsOnce_49 rfl (lv_at hl 0 rfl) ?_
      obtain ⟨z6, e6, h⟩ := bd h
      refine muV (ws' := (k_Mo cC cI cZ a_this a_now a_undos a_seen a_seenAs a_isKept a_kept a_text a_read a_fewest a_doors a_isSo v_undoMany v_undoAt v_seenMany v_letterMany z6.2.1 z6.2.2.1 z6.2.2.2.1 z6.2.2.2.2.1 z6.2.2.2.2.2 (v_readOnce ||| ((1 : Int32) <<< (p1 &&& 31))) v_greatUpper v_greatLower A_now A_undos A_seen A_seenAs A_isKept A_kept A_text (upd A_read (p1).toNatClampNeg z3.2.2.2.2.1) A_fewest A_doors A_isSo)) X [] [] (c_Mo_ends l D cC cI cZ a_this a_now a_undos a_seen a_seenAs a_isKept a_kept a_text a_read a_fewest a_doors a_isSo v_undoMany v_undoAt v_seenMany v_letterMany z3.2.1 z3.2.2.1 z3.2.2.2.1 z3.2.2.2.2.1 z3.2.2.2.2.2 (v_readOnce ||| ((1 : Int32) <<< (p1 &&& 31))) v_greatUpper v_greatLower A_now A_undos A_seen A_seenAs A_isKept A_kept A_text (upd A_read (p1).toNatClampNeg z3.2.2.2.2.1) A_fewest A_doors A_isSo _ z6 e6) gg_X11_94 hd_Mo_ends ⟨rfl, rfl, Nat.le_of_ble_eq_true rfl, Nat.le_of_ble_eq_true rfl⟩ ⟨Nat.zero_le _, Nat.zero_le _⟩ hP hD hS hA [0, 1, 2, 3, 4, 5, 6, 7, 8, 9, 10, 11] [] [0, 1, 2, 3, 4, 5, 6, 7, 8, 9, 10, 11] rfl rfl (by decide) (by decide) rfl rfl rfl rfl rfl hl.1 rfl (Nat.le_of_ble_eq_true rfl) dX11_readsOnce_50 (fun H locs hP hD hS n6 => ?_)
      obtain rfl := Option.some.inj h
      exact hret _ _ _ _ _ hP hS dX11_readsOnce_53 rfl n6
    · have h := ip c4 h
      refine lv_iconst (v := (0 : Int32)) hx hb dX11_readsOnce_37 rfl ?_
      obtain rfl := Option.some.inj h
      exact hret _ _ _ _ _ hP hS dX11_readsOnce_38 rfl rfl
  · have h := im c2 h
    refine lv_aload_n hx hb dX11_readsOnce_11 rfl (lv_at hl 0 rfl) ?_
    obtain ⟨z7, e7, h⟩ := bd h
    refine muV (ws' := (k_Mo cC cI cZ a_this a_now a_undos a_seen a_seenAs a_isKept a_kept a_text a_read a_fewest a_doors a_isSo v_undoMany v_undoAt v_seenMany v_letterMany v_readAt v_tokenAt v_token v_value z7.2 v_readOnce v_greatUpper v_greatLower A_now A_undos A_seen A_seenAs A_isKept A_kept A_text A_read A_fewest A_doors A_isSo)) X [] [] (c_Mo_fails l D cC cI cZ a_this a_now a_undos a_seen a_seenAs a_isKept a_kept a_text a_read a_fewest a_doors a_isSo v_undoMany v_undoAt v_seenMany v_letterMany v_readAt v_tokenAt v_token v_value v_faultAt v_readOnce v_greatUpper v_greatLower A_now A_undos A_seen A_seenAs A_isKept A_kept A_text A_read A_fewest A_doors A_isSo _ z7 e7) gg_X11_81 hd_Mo_fails ⟨rfl, rfl, Nat.le_of_ble_eq_true rfl, Nat.le_of_ble_eq_true rfl⟩ ⟨Nat.zero_le _, Nat.zero_le _⟩ hP hD hS hA [0, 1, 2, 3, 4, 5, 6, 7, 8, 9, 10, 11] [] [0, 1, 2, 3, 4, 5, 6, 7, 8, 9, 10, 11] rfl rfl (by decide) (by decide) rfl rfl rfl rfl rfl hl.1 rfl (Nat.le_of_ble_eq_true rfl) dX11_readsOnce_12 (fun H locs hP hD hS n7 => ?_)
    obtain rfl := Option.some.inj h
    exact hret _ _ _ _ _ hP hS dX11_readsOnce_15 rfl n7
set_option maxHeartbeats 4000000 in
set_option maxRecDepth 100000 in
theorem c_Mo_readsOne (l : Launch) (D : va_G) (cC cI cZ : ClassId) (a_this : Nat) (a_now : Nat) (a_undos : Nat) (a_seen : Nat) (a_seenAs : Nat) (a_isKept : Nat) (a_kept : Nat) (a_text : Nat) (a_read : Nat) (a_fewest : Nat) (a_doors : Nat) (a_isSo : Nat) (v_undoMany : Int32) (v_undoAt : Int32) (v_seenMany : Int32) (v_letterMany : Int32) (v_readAt : Int32) (v_tokenAt : Int32) (v_token : Int32) (v_value : Int32) (v_faultAt : Int32) (v_readOnce : Int32) (v_greatUpper : Int64) (v_greatLower : Int64) (A_now : Nat → Int32) (A_undos : Nat → Int32) (A_seen : Nat → Int32) (A_seenAs : Nat → Int32) (A_isKept : Nat → Int32) (A_kept : Nat → Int32) (A_text : Nat → Int32) (A_read : Nat → Int32) (A_fewest : Nat → Int32) (A_doors : Nat → Int32) (A_isSo : Nat → Int32) (p1 : Int32) (sz : Nat) (z : Int32 × Int32 × Int32 × Int32 × Int32 × Int32 × (Nat → Int32)) (h : f_Mo_readsOne v_letterMany v_readAt v_tokenAt v_token v_value v_faultAt A_text A_read p1 = some z) : Met l yX11_readsOne (.code yX11_readsOne cX11_readsOne 3 (some .boolean) :: TBL) (RM 4 85) (PcM [.ref a_this, .int p1] sz D (TY cC cI cZ) (k_Mo cC cI cZ a_this a_now a_undos a_seen a_seenAs a_isKept a_kept a_text a_read a_fewest a_doors a_isSo v_undoMany v_undoAt v_seenMany v_letterMany v_readAt v_tokenAt v_token v_value v_faultAt v_readOnce v_greatUpper v_greatLower A_now A_undos A_seen A_seenAs A_isKept A_kept A_text A_read A_fewest A_doors A_isSo)) (fun a st o t => QM (some (.int z.1)) D (k_Mo cC cI cZ a_this a_now a_undos a_seen a_seenAs a_isKept a_kept a_text a_read a_fewest a_doors a_isSo v_undoMany v_undoAt v_seenMany v_letterMany z.2.1 z.2.2.1 z.2.2.2.1 z.2.2.2.2.1 z.2.2.2.2.2.1 v_readOnce v_greatUpper v_greatLower A_now A_undos A_seen A_seenAs A_isKept A_kept A_text z.2.2.2.2.2.2 A_fewest A_doors A_isSo) (va_A (k_Mo cC cI cZ a_this a_now a_undos a_seen a_seenAs a_isKept a_kept a_text a_read a_fewest a_doors a_isSo v_undoMany v_undoAt v_seenMany v_letterMany v_readAt v_tokenAt v_token v_value v_faultAt v_readOnce v_greatUpper v_greatLower A_now A_undos A_seen A_seenAs A_isKept A_kept A_text A_read A_fewest A_doors A_isSo) sz) a st o t ∧ narrow .boolean (.int z.1) = .int z.1) 0 0 (va_A (k_Mo cC cI cZ a_this a_now a_undos a_seen a_seenAs a_isKept a_kept a_text a_read a_fewest a_doors a_isSo v_undoMany v_undoAt v_seenMany v_letterMany v_readAt v_tokenAt v_token v_value v_faultAt v_readOnce v_greatUpper v_greatLower A_now A_undos A_seen A_seenAs A_isKept A_kept A_text A_read A_fewest A_doors A_isSo) sz) := by
  refine muOf (by decide) (Nat.le_of_ble_eq_true rfl) rfl ?_
  intro p e s m args below meth c Q ls A X hP hD hS hA hl hret
  have X : Ctx p s m args c cX11_readsOne 3 RX11 D (TY cC cI cZ) := X
  obtain ⟨hx, hb, hml, hown, htT, hK, hN⟩ := id X
  unfold f_Mo_readsOne at h
  refine lv_aload_n hx hb dX11_readsOne_0 rfl (lv_at hl 0 rfl) ?_
  refine va_get (ci := 11) (v := .ref a_read) (C := RX11) (T := TX11) (N := 23) hx hb htT inlX11 hown hK hP 0 rfl rfl 17 (by decide) (htT _ q_7_8) (fun _ h9 => h9) rfl dX11_readsOne_1 ?_
  refine lv_iconst (v := (0 : Int32)) hx hb dX11_readsOne_4 rfl ?_
  obtain ⟨g1, h⟩ := gd h
  refine va_iald hx hb hK hP 8 1 rfl rfl (inB_in g1) dX11_readsOne_5 ?_
  refine lv_istore_n (lv' := [(2, .int (A_read ((0 : Int32)).toNatClampNeg)), (0, .ref a_this), (1, .int p1)]) hx hb dX11_readsOne_6 rfl hl (by decide) rfl (fun ls hl => ?_)
  refine lv_iload_n hx hb dX11_readsOne_7 rfl (lv_at hl 0 rfl) ?_
  refine lv_bipush (v := (14 : Int32)) hx hb dX11_readsOne_8 rfl ?_
  refine lv_icmp_ne (tgt := 18) hx hb dX11_readsOne_10 (by decide) (fun c2 => ?_) (fun c2 => ?_)
  · have h := im c2 h
    refine lv_aload_n hx hb dX11_readsOne_18 rfl (lv_at hl 1 rfl) ?_
    refine lv_iload_n hx hb dX11_readsOne_19 rfl (lv_at hl 0 rfl) ?_
    refine lv_if_ne (tgt := 27) hx hb dX11_readsOne_20 (by decide) (fun c4 => ?_) (fun c4 => ?_)
    · have h := im c4 h
      refine lv_aload_n hx hb dX11_readsOne_27 rfl (lv_at hl 1 rfl) ?_
      refine va_get (ci := 11) (v := .ref a_read) (C := RX11) (T := TX11) (N := 23) hx hb htT inlX11 hown hK hP 0 rfl rfl 17 (by decide) (htT _ q_7_8) (fun _ h9 => h9) rfl dX11_readsOne_28 ?_
      refine lv_iconst (v := (3 : Int32)) hx hb dX11_readsOne_31 rfl ?_
      refine lv_iload_n hx hb dX11_readsOne_32 rfl (lv_at hl 0 rfl) ?_
      refine lv_iadd hx hb dX11_readsOne_33 ?_
      refine lv_iconst (v := (1 : Int32)) hx hb dX11_readsOne_34 rfl ?_
      refine lv_isub hx hb dX11_readsOne_35 ?_
      obtain ⟨g19, h⟩ := gd h
      refine va_iald hx hb hK hP 8 1 rfl rfl (inB_in g19) dX11_readsOne_36 ?_
      refine lv_iconst (v := (1 : Int32)) hx hb dX11_readsOne_37 rfl ?_
      refine lv_iadd hx hb dX11_readsOne_38 ?_
      refine lv_sipush (v := (999 : Int32)) hx hb dX11_readsOne_39 rfl ?_
      obtain ⟨z20, e20, h⟩ := bd h
      refine muV (ws' := (k_Mo cC cI cZ a_this a_now a_undos a_seen a_seenAs a_isKept a_kept a_text a_read a_fewest a_doors a_isSo v_undoMany v_undoAt v_seenMany v_letterMany z20.2.1 z20.2.2.1 z20.2.2.2.1 z20.2.2.2.2.1 z20.2.2.2.2.2 v_readOnce v_greatUpper v_greatLower A_now A_undos A_seen A_seenAs A_isKept A_kept A_text A_read A_fewest A_doors A_isSo)) X [.int ((A_read ((((3 : Int32) + (A_read ((0 : Int32)).toNatClampNeg)) - (1 : Int32))).toNatClampNeg) + (1 : Int32)), .int (999 : Int32)] [] (c_Mo_number l D cC cI cZ a_this a_now a_undos a_seen a_seenAs a_isKept a_kept a_text a_read a_fewest a_doors a_isSo v_undoMany v_undoAt v_seenMany v_letterMany v_readAt v_tokenAt v_token v_value v_faultAt v_readOnce v_greatUpper v_greatLower A_now A_undos A_seen A_seenAs A_isKept A_kept A_text A_read A_fewest A_doors A_isSo ((A_read ((((3 : Int32) + (A_read ((0 : Int32)).toNatClampNeg)) - (1 : Int32))).toNatClampNeg) + (1 : Int32)) (999 : Int32) _ z20 e20) gg_X11_91 hd_Mo_number ⟨rfl, rfl, Nat.le_of_ble_eq_true rfl, Nat.le_of_ble_eq_true rfl⟩ ⟨Nat.zero_le _, Nat.zero_le _⟩ hP hD hS hA [0, 1, 2, 3, 4, 5, 6, 7, 8, 9, 10, 11] [] [0, 1, 2, 3, 4, 5, 6, 7, 8, 9, 10, 11] rfl rfl (by decide) (by decide) rfl rfl rfl rfl rfl hl.1 rfl (Nat.le_of_ble_eq_true rfl) dX11_readsOne_42 (fun H locs hP hD hS n20 => ?_)
      refine lv_if_ne (tgt := 50) hx hb dX11_readsOne_45 (by decide) (fun c21 => ?_) (fun c21 => ?_)
      · have h := im c21 h
        refine lv_aload_n hx hb dX11_readsOne_50 rfl (lv_at hl 1 rfl) ?_
        refine va_get (ci := 11) (v := .ref a_read) (C := RX11) (T := TX11) (N := 23) hx hb htT inlX11 hown hK hP 0 rfl rfl 17 (by decide) (htT _ q_7_8) (fun _ h9 => h9) rfl dX11_readsOne_51 ?_
        refine lv_iconst (v := (3 : Int32)) hx hb dX11_readsOne_54 rfl ?_
        refine lv_iload_n hx hb dX11_readsOne_55 rfl (lv_at hl 0 rfl) ?_
        refine lv_iadd hx hb dX11_readsOne_56 ?_
        refine lv_aload_n hx hb dX11_readsOne_57 rfl (lv_at hl 1 rfl) ?_
        refine va_get (ci := 11) (v := .int z20.2.2.2.2.1) (C := RX11) (T := TX11) (N := 23) hx hb htT inlX11 hown hK hP 0 rfl rfl 14 (by decide) (htT _ q_14_16) (fun _ h9 => h9) rfl dX11_readsOne_58 ?_
        obtain ⟨g22, h⟩ := gd h
        refine va_iast hx hb hK hP hD hS 8 1 rfl rfl (inB_in g22) dX11_readsOne_61 (fun H locs hP hD hS => ?_)
        have hP : va_P D vwCl (k_Mo cC cI cZ a_this a_now a_undos a_seen a_seenAs a_isKept a_kept a_text a_read a_fewest a_doors a_isSo v_undoMany v_undoAt v_seenMany v_letterMany z20.2.1 z20.2.2.1 z20.2.2.2.1 z20.2.2.2.2.1 z20.2.2.2.2.2 v_readOnce v_greatUpper v_greatLower A_now A_undos A_seen A_seenAs A_isKept A_kept A_text (upd A_read (((3 : Int32) + (A_read ((0 : Int32)).toNatClampNeg))).toNatClampNeg z20.2.2.2.2.1) A_fewest A_doors A_isSo) H := hP
        have hD : va_D A (k_Mo cC cI cZ a_this a_now a_undos a_seen a_seenAs a_isKept a_kept a_text a_read a_fewest a_doors a_isSo v_undoMany v_undoAt v_seenMany v_letterMany z20.2.1 z20.2.2.1 z20.2.2.2.1 z20.2.2.2.2.1 z20.2.2.2.2.2 v_readOnce v_greatUpper v_greatLower A_now A_undos A_seen A_seenAs A_isKept A_kept A_text (upd A_read (((3 : Int32) + (A_read ((0 : Int32)).toNatClampNeg))).toNatClampNeg z20.2.2.2.2.1) A_fewest A_doors A_isSo) := hD
        refine lv_aload_n hx hb dX11_readsOne_62 rfl (lv_at hl 1 rfl) ?_
        refine va_get (ci := 11) (v := .ref a_read) (C := RX11) (T := TX11) (N := 23) hx hb htT inlX11 hown hK hP 0 rfl rfl 17 (by decide) (htT _ q_7_8) (fun _ h9 => h9) rfl dX11_readsOne_63 ?_
        refine lv_bipush (v := (17 : Int32)) hx hb dX11_readsOne_66 rfl ?_
        refine lv_iload_n hx hb dX11_readsOne_68 rfl (lv_at hl 0 rfl) ?_
        refine lv_iadd hx hb dX11_readsOne_69 ?_
        refine lv_bipush (v := (-9 : Int32)) hx hb dX11_readsOne_70 rfl ?_
        obtain ⟨g23, h⟩ := gd h
        refine va_iast hx hb hK hP hD hS 8 1 rfl rfl (inB_in g23) dX11_readsOne_72 (fun H locs hP hD hS => ?_)
        have hP : va_P D vwCl (k_Mo cC cI cZ a_this a_now a_undos a_seen a_seenAs a_isKept a_kept a_text a_read a_fewest a_doors a_isSo v_undoMany v_undoAt v_seenMany v_letterMany z20.2.1 z20.2.2.1 z20.2.2.2.1 z20.2.2.2.2.1 z20.2.2.2.2.2 v_readOnce v_greatUpper v_greatLower A_now A_undos A_seen A_seenAs A_isKept A_kept A_text (upd (upd A_read (((3 : Int32) + (A_read ((0 : Int32)).toNatClampNeg))).toNatClampNeg z20.2.2.2.2.1) (((17 : Int32) + (A_read ((0 : Int32)).toNatClampNeg))).toNatClampNeg (-9 : Int32)) A_fewest A_doors A_isSo) H := hP
        have hD : va_D A (k_Mo cC cI cZ a_this a_now a_undos a_seen a_seenAs a_isKept a_kept a_text a_read a_fewest a_doors a_isSo v_undoMany v_undoAt v_seenMany v_letterMany z20.2.1 z20.2.2.1 z20.2.2.2.1 z20.2.2.2.2.1 z20.2.2.2.2.2 v_readOnce v_greatUpper v_greatLower A_now A_undos A_seen A_seenAs A_isKept A_kept A_text (upd (upd A_read (((3 : Int32) + (A_read ((0 : Int32)).toNatClampNeg))).toNatClampNeg z20.2.2.2.2.1) (((17 : Int32) + (A_read ((0 : Int32)).toNatClampNeg))).toNatClampNeg (-9 : Int32)) A_fewest A_doors A_isSo) := hD
        refine lv_iload_n hx hb dX11_readsOne_73 rfl (lv_at hl 2 rfl) ?_
        refine lv_if_eq (tgt := 103) hx hb dX11_readsOne_74 (by decide) (fun c24 => ?_) (fun c24 => ?_)
        · have h := ip c24 h
          refine lv_aload_n hx hb dX11_readsOne_103 rfl (lv_at hl 1 rfl) ?_
          refine va_get (ci := 11) (v := .ref a_read) (C := RX11) (T := TX11) (N := 23) hx hb htT inlX11 hown hK hP 0 rfl rfl 17 (by decide) (htT _ q_7_8) (fun _ h9 => h9) rfl dX11_readsOne_104 ?_
          refine lv_iconst (v := (0 : Int32)) hx hb dX11_readsOne_107 rfl ?_
          refine lv_dup2_11 hx hb dX11_readsOne_108 rfl rfl ?_
          obtain ⟨g25, h⟩ := gd h
          refine va_iald hx hb hK hP 8 1 rfl rfl (inB_in g25) dX11_readsOne_109 ?_
          refine lv_iconst (v := (1 : Int32)) hx hb dX11_readsOne_110 rfl ?_
          refine lv_iadd hx hb dX11_readsOne_111 ?_
          obtain ⟨g26, h⟩ := gd h
          refine va_iast hx hb hK hP hD hS 8 1 rfl rfl (inB_in g26) dX11_readsOne_112 (fun H locs hP hD hS => ?_)
          have hP : va_P D vwCl (k_Mo cC cI cZ a_this a_now a_undos a_seen a_seenAs a_isKept a_kept a_text a_read a_fewest a_doors a_isSo v_undoMany v_undoAt v_seenMany v_letterMany z20.2.1 z20.2.2.1 z20.2.2.2.1 z20.2.2.2.2.1 z20.2.2.2.2.2 v_readOnce v_greatUpper v_greatLower A_now A_undos A_seen A_seenAs A_isKept A_kept A_text (upd (upd (upd A_read (((3 : Int32) + (A_read ((0 : Int32)).toNatClampNeg))).toNatClampNeg z20.2.2.2.2.1) (((17 : Int32) + (A_read ((0 : Int32)).toNatClampNeg))).toNatClampNeg (-9 : Int32)) ((0 : Int32)).toNatClampNeg (((upd (upd A_read (((3 : Int32) + (A_read ((0 : Int32)).toNatClampNeg))).toNatClampNeg z20.2.2.2.2.1) (((17 : Int32) + (A_read ((0 : Int32)).toNatClampNeg))).toNatClampNeg (-9 : Int32)) ((0 : Int32)).toNatClampNeg) + (1 : Int32))) A_fewest A_doors A_isSo) H := hP
          have hD : va_D A (k_Mo cC cI cZ a_this a_now a_undos a_seen a_seenAs a_isKept a_kept a_text a_read a_fewest a_doors a_isSo v_undoMany v_undoAt v_seenMany v_letterMany z20.2.1 z20.2.2.1 z20.2.2.2.1 z20.2.2.2.2.1 z20.2.2.2.2.2 v_readOnce v_greatUpper v_greatLower A_now A_undos A_seen A_seenAs A_isKept A_kept A_text (upd (upd (upd A_read (((3 : Int32) + (A_read ((0 : Int32)).toNatClampNeg))).toNatClampNeg z20.2.2.2.2.1) (((17 : Int32) + (A_read ((0 : Int32)).toNatClampNeg))).toNatClampNeg (-9 : Int32)) ((0 : Int32)).toNatClampNeg (((upd (upd A_read (((3 : Int32) + (A_read ((0 : Int32)).toNatClampNeg))).toNatClampNeg z20.2.2.2.2.1) (((17 : Int32) + (A_read ((0 : Int32)).toNatClampNeg))).toNatClampNeg (-9 : Int32)) ((0 : Int32)).toNatClampNeg) + (1 : Int32))) A_fewest A_doors A_isSo) := hD
          refine lv_aload_n hx hb dX11_readsOne_113 rfl (lv_at hl 1 rfl) ?_
          obtain ⟨z27, e27, h⟩ := bd h
          refine muV (ws' := (k_Mo cC cI cZ a_this a_now a_undos a_seen a_seenAs a_isKept a_kept a_text a_read a_fewest a_doors a_isSo v_undoMany v_undoAt v_seenMany v_letterMany z27.2.1 z27.2.2.1 z27.2.2.2.1 z27.2.2.2.2.1 z27.2.2.2.2.2 v_readOnce v_greatUpper v_greatLower A_now A_undos A_seen A_seenAs A_isKept A_kept A_text (upd (upd (upd A_read (((3 : Int32) + (A_read ((0 : Int32)).toNatClampNeg))).toNatClampNeg z20.2.2.2.2.1) (((17 : Int32) + (A_read ((0 : Int32)).toNatClampNeg))).toNatClampNeg (-9 : Int32)) ((0 : Int32)).toNatClampNeg (((upd (upd A_read (((3 : Int32) + (A_read ((0 : Int32)).toNatClampNeg))).toNatClampNeg z20.2.2.2.2.1) (((17 : Int32) + (A_read ((0 : Int32)).toNatClampNeg))).toNatClampNeg (-9 : Int32)) ((0 : Int32)).toNatClampNeg) + (1 : Int32))) A_fewest A_doors A_isSo)) X [] [] (c_Mo_ends l D cC cI cZ a_this a_now a_undos a_seen a_seenAs a_isKept a_kept a_text a_read a_fewest a_doors a_isSo v_undoMany v_undoAt v_seenMany v_letterMany z20.2.1 z20.2.2.1 z20.2.2.2.1 z20.2.2.2.2.1 z20.2.2.2.2.2 v_readOnce v_greatUpper v_greatLower A_now A_undos A_seen A_seenAs A_isKept A_kept A_text (upd (upd (upd A_read (((3 : Int32) + (A_read ((0 : Int32)).toNatClampNeg))).toNatClampNeg z20.2.2.2.2.1) (((17 : Int32) + (A_read ((0 : Int32)).toNatClampNeg))).toNatClampNeg (-9 : Int32)) ((0 : Int32)).toNatClampNeg (((upd (upd A_read (((3 : Int32) + (A_read ((0 : Int32)).toNatClampNeg))).toNatClampNeg z20.2.2.2.2.1) (((17 : Int32) + (A_read ((0 : Int32)).toNatClampNeg))).toNatClampNeg (-9 : Int32)) ((0 : Int32)).toNatClampNeg) + (1 : Int32))) A_fewest A_doors A_isSo _ z27 e27) gg_X11_94 hd_Mo_ends ⟨rfl, rfl, Nat.le_of_ble_eq_true rfl, Nat.le_of_ble_eq_true rfl⟩ ⟨Nat.zero_le _, Nat.zero_le _⟩ hP hD hS hA [0, 1, 2, 3, 4, 5, 6, 7, 8, 9, 10, 11] [] [0, 1, 2, 3, 4, 5, 6, 7, 8, 9, 10, 11] rfl rfl (by decide) (by decide) rfl rfl rfl rfl rfl hl.1 rfl (Nat.le_of_ble_eq_true rfl) dX11_readsOne_114 (fun H locs hP hD hS n27 => ?_)
          obtain rfl := Option.some.inj h
          exact hret _ _ _ _ _ hP hS dX11_readsOne_117 rfl n27
        · have h := im c24 h
          refine lv_aload_n hx hb dX11_readsOne_77 rfl (lv_at hl 1 rfl) ?_
          refine lv_iconst (v := (0 : Int32)) hx hb dX11_readsOne_78 rfl ?_
          refine lv_sipush (v := (999 : Int32)) hx hb dX11_readsOne_79 rfl ?_
          obtain ⟨z28, e28, h⟩ := bd h
          refine muV (ws' := (k_Mo cC cI cZ a_this a_now a_undos a_seen a_seenAs a_isKept a_kept a_text a_read a_fewest a_doors a_isSo v_undoMany v_undoAt v_seenMany v_letterMany z28.2.1 z28.2.2.1 z28.2.2.2.1 z28.2.2.2.2.1 z28.2.2.2.2.2 v_readOnce v_greatUpper v_greatLower A_now A_undos A_seen A_seenAs A_isKept A_kept A_text (upd (upd A_read (((3 : Int32) + (A_read ((0 : Int32)).toNatClampNeg))).toNatClampNeg z20.2.2.2.2.1) (((17 : Int32) + (A_read ((0 : Int32)).toNatClampNeg))).toNatClampNeg (-9 : Int32)) A_fewest A_doors A_isSo)) X [.int (0 : Int32), .int (999 : Int32)] [] (c_Mo_number l D cC cI cZ a_this a_now a_undos a_seen a_seenAs a_isKept a_kept a_text a_read a_fewest a_doors a_isSo v_undoMany v_undoAt v_seenMany v_letterMany z20.2.1 z20.2.2.1 z20.2.2.2.1 z20.2.2.2.2.1 z20.2.2.2.2.2 v_readOnce v_greatUpper v_greatLower A_now A_undos A_seen A_seenAs A_isKept A_kept A_text (upd (upd A_read (((3 : Int32) + (A_read ((0 : Int32)).toNatClampNeg))).toNatClampNeg z20.2.2.2.2.1) (((17 : Int32) + (A_read ((0 : Int32)).toNatClampNeg))).toNatClampNeg (-9 : Int32)) A_fewest A_doors A_isSo (0 : Int32) (999 : Int32) _ z28 e28) gg_X11_91 hd_Mo_number ⟨rfl, rfl, Nat.le_of_ble_eq_true rfl, Nat.le_of_ble_eq_true rfl⟩ ⟨Nat.zero_le _, Nat.zero_le _⟩ hP hD hS hA [0, 1, 2, 3, 4, 5, 6, 7, 8, 9, 10, 11] [] [0, 1, 2, 3, 4, 5, 6, 7, 8, 9, 10, 11] rfl rfl (by decide) (by decide) rfl rfl rfl rfl rfl hl.1 rfl (Nat.le_of_ble_eq_true rfl) dX11_readsOne_82 (fun H locs hP hD hS n28 => ?_)
          refine lv_if_ne (tgt := 90) hx hb dX11_readsOne_85 (by decide) (fun c29 => ?_) (fun c29 => ?_)
          · have h := im c29 h
            refine lv_aload_n hx hb dX11_readsOne_90 rfl (lv_at hl 1 rfl) ?_
            refine va_get (ci := 11) (v := .ref a_read) (C := RX11) (T := TX11) (N := 23) hx hb htT inlX11 hown hK hP 0 rfl rfl 17 (by decide) (htT _ q_7_8) (fun _ h9 => h9) rfl dX11_readsOne_91 ?_
            refine lv_bipush (v := (17 : Int32)) hx hb dX11_readsOne_94 rfl ?_
            refine lv_iload_n hx hb dX11_readsOne_96 rfl (lv_at hl 0 rfl) ?_
            refine lv_iadd hx hb dX11_readsOne_97 ?_
            refine lv_aload_n hx hb dX11_readsOne_98 rfl (lv_at hl 1 rfl) ?_
            refine va_get (ci := 11) (v := .int z28.2.2.2.2.1) (C := RX11) (T := TX11) (N := 23) hx hb htT inlX11 hown hK hP 0 rfl rfl 14 (by decide) (htT _ q_14_16) (fun _ h9 => h9) rfl dX11_readsOne_99 ?_
            obtain ⟨g30, h⟩ := gd h
            refine va_iast hx hb hK hP hD hS 8 1 rfl rfl (inB_in g30) dX11_readsOne_102 (fun H locs hP hD hS => ?_)
            have hP : va_P D vwCl (k_Mo cC cI cZ a_this a_now a_undos a_seen a_seenAs a_isKept a_kept a_text a_read a_fewest a_doors a_isSo v_undoMany v_undoAt v_seenMany v_letterMany z28.2.1 z28.2.2.1 z28.2.2.2.1 z28.2.2.2.2.1 z28.2.2.2.2.2 v_readOnce v_greatUpper v_greatLower A_now A_undos A_seen A_seenAs A_isKept A_kept A_text (upd (upd (upd A_read (((3 : Int32) + (A_read ((0 : Int32)).toNatClampNeg))).toNatClampNeg z20.2.2.2.2.1) (((17 : Int32) + (A_read ((0 : Int32)).toNatClampNeg))).toNatClampNeg (-9 : Int32)) (((17 : Int32) + (A_read ((0 : Int32)).toNatClampNeg))).toNatClampNeg z28.2.2.2.2.1) A_fewest A_doors A_isSo) H := hP
            have hD : va_D A (k_Mo cC cI cZ a_this a_now a_undos a_seen a_seenAs a_isKept a_kept a_text a_read a_fewest a_doors a_isSo v_undoMany v_undoAt v_seenMany v_letterMany z28.2.1 z28.2.2.1 z28.2.2.2.1 z28.2.2.2.2.1 z28.2.2.2.2.2 v_readOnce v_greatUpper v_greatLower A_now A_undos A_seen A_seenAs A_isKept A_kept A_text (upd (upd (upd A_read (((3 : Int32) + (A_read ((0 : Int32)).toNatClampNeg))).toNatClampNeg z20.2.2.2.2.1) (((17 : Int32) + (A_read ((0 : Int32)).toNatClampNeg))).toNatClampNeg (-9 : Int32)) (((17 : Int32) + (A_read ((0 : Int32)).toNatClampNeg))).toNatClampNeg z28.2.2.2.2.1) A_fewest A_doors A_isSo) := hD
            refine lv_aload_n hx hb dX11_readsOne_103 rfl (lv_at hl 1 rfl) ?_
            refine va_get (ci := 11) (v := .ref a_read) (C := RX11) (T := TX11) (N := 23) hx hb htT inlX11 hown hK hP 0 rfl rfl 17 (by decide) (htT _ q_7_8) (fun _ h9 => h9) rfl dX11_readsOne_104 ?_
            refine lv_iconst (v := (0 : Int32)) hx hb dX11_readsOne_107 rfl ?_
            refine lv_dup2_11 hx hb dX11_readsOne_108 rfl rfl ?_
            obtain ⟨g31, h⟩ := gd h
            refine va_iald hx hb hK hP 8 1 rfl rfl (inB_in g31) dX11_readsOne_109 ?_
            refine lv_iconst (v := (1 : Int32)) hx hb dX11_readsOne_110 rfl ?_
            refine lv_iadd hx hb dX11_readsOne_111 ?_
            obtain ⟨g32, h⟩ := gd h
            refine va_iast hx hb hK hP hD hS 8 1 rfl rfl (inB_in g32) dX11_readsOne_112 (fun H locs hP hD hS => ?_)
            have hP : va_P D vwCl (k_Mo cC cI cZ a_this a_now a_undos a_seen a_seenAs a_isKept a_kept a_text a_read a_fewest a_doors a_isSo v_undoMany v_undoAt v_seenMany v_letterMany z28.2.1 z28.2.2.1 z28.2.2.2.1 z28.2.2.2.2.1 z28.2.2.2.2.2 v_readOnce v_greatUpper v_greatLower A_now A_undos A_seen A_seenAs A_isKept A_kept A_text (upd (upd (upd (upd A_read (((3 : Int32) + (A_read ((0 : Int32)).toNatClampNeg))).toNatClampNeg z20.2.2.2.2.1) (((17 : Int32) + (A_read ((0 : Int32)).toNatClampNeg))).toNatClampNeg (-9 : Int32)) (((17 : Int32) + (A_read ((0 : Int32)).toNatClampNeg))).toNatClampNeg z28.2.2.2.2.1) ((0 : Int32)).toNatClampNeg (((upd (upd (upd A_read (((3 : Int32) + (A_read ((0 : Int32)).toNatClampNeg))).toNatClampNeg z20.2.2.2.2.1) (((17 : Int32) + (A_read ((0 : Int32)).toNatClampNeg))).toNatClampNeg (-9 : Int32)) (((17 : Int32) + (A_read ((0 : Int32)).toNatClampNeg))).toNatClampNeg z28.2.2.2.2.1) ((0 : Int32)).toNatClampNeg) + (1 : Int32))) A_fewest A_doors A_isSo) H := hP
            have hD : va_D A (k_Mo cC cI cZ a_this a_now a_undos a_seen a_seenAs a_isKept a_kept a_text a_read a_fewest a_doors a_isSo v_undoMany v_undoAt v_seenMany v_letterMany z28.2.1 z28.2.2.1 z28.2.2.2.1 z28.2.2.2.2.1 z28.2.2.2.2.2 v_readOnce v_greatUpper v_greatLower A_now A_undos A_seen A_seenAs A_isKept A_kept A_text (upd (upd (upd (upd A_read (((3 : Int32) + (A_read ((0 : Int32)).toNatClampNeg))).toNatClampNeg z20.2.2.2.2.1) (((17 : Int32) + (A_read ((0 : Int32)).toNatClampNeg))).toNatClampNeg (-9 : Int32)) (((17 : Int32) + (A_read ((0 : Int32)).toNatClampNeg))).toNatClampNeg z28.2.2.2.2.1) ((0 : Int32)).toNatClampNeg (((upd (upd (upd A_read (((3 : Int32) + (A_read ((0 : Int32)).toNatClampNeg))).toNatClampNeg z20.2.2.2.2.1) (((17 : Int32) + (A_read ((0 : Int32)).toNatClampNeg))).toNatClampNeg (-9 : Int32)) (((17 : Int32) + (A_read ((0 : Int32)).toNatClampNeg))).toNatClampNeg z28.2.2.2.2.1) ((0 : Int32)).toNatClampNeg) + (1 : Int32))) A_fewest A_doors A_isSo) := hD
            refine lv_aload_n hx hb dX11_readsOne_113 rfl (lv_at hl 1 rfl) ?_
            obtain ⟨z33, e33, h⟩ := bd h
            refine muV (ws' := (k_Mo cC cI cZ a_this a_now a_undos a_seen a_seenAs a_isKept a_kept a_text a_read a_fewest a_doors a_isSo v_undoMany v_undoAt v_seenMany v_letterMany z33.2.1 z33.2.2.1 z33.2.2.2.1 z33.2.2.2.2.1 z33.2.2.2.2.2 v_readOnce v_greatUpper v_greatLower A_now A_undos A_seen A_seenAs A_isKept A_kept A_text (upd (upd (upd (upd A_read (((3 : Int32) + (A_read ((0 : Int32)).toNatClampNeg))).toNatClampNeg z20.2.2.2.2.1) (((17 : Int32) + (A_read ((0 : Int32)).toNatClampNeg))).toNatClampNeg (-9 : Int32)) (((17 : Int32) + (A_read ((0 : Int32)).toNatClampNeg))).toNatClampNeg z28.2.2.2.2.1) ((0 : Int32)).toNatClampNeg (((upd (upd (upd A_read (((3 : Int32) + (A_read ((0 : Int32)).toNatClampNeg))).toNatClampNeg z20.2.2.2.2.1) (((17 : Int32) + (A_read ((0 : Int32)).toNatClampNeg))).toNatClampNeg (-9 : Int32)) (((17 : Int32) + (A_read ((0 : Int32)).toNatClampNeg))).toNatClampNeg z28.2.2.2.2.1) ((0 : Int32)).toNatClampNeg) + (1 : Int32))) A_fewest A_doors A_isSo)) X [] [] (c_Mo_ends l D cC cI cZ a_this a_now a_undos a_seen a_seenAs a_isKept a_kept a_text a_read a_fewest a_doors a_isSo v_undoMany v_undoAt v_seenMany v_letterMany z28.2.1 z28.2.2.1 z28.2.2.2.1 z28.2.2.2.2.1 z28.2.2.2.2.2 v_readOnce v_greatUpper v_greatLower A_now A_undos A_seen A_seenAs A_isKept A_kept A_text (upd (upd (upd (upd A_read (((3 : Int32) + (A_read ((0 : Int32)).toNatClampNeg))).toNatClampNeg z20.2.2.2.2.1) (((17 : Int32) + (A_read ((0 : Int32)).toNatClampNeg))).toNatClampNeg (-9 : Int32)) (((17 : Int32) + (A_read ((0 : Int32)).toNatClampNeg))).toNatClampNeg z28.2.2.2.2.1) ((0 : Int32)).toNatClampNeg (((upd (upd (upd A_read (((3 : Int32) + (A_read ((0 : Int32)).toNatClampNeg))).toNatClampNeg z20.2.2.2.2.1) (((17 : Int32) + (A_read ((0 : Int32)).toNatClampNeg))).toNatClampNeg (-9 : Int32)) (((17 : Int32) + (A_read ((0 : Int32)).toNatClampNeg))).toNatClampNeg z28.2.2.2.2.1) ((0 : Int32)).toNatClampNeg) + (1 : Int32))) A_fewest A_doors A_isSo _ z33 e33) gg_X11_94 hd_Mo_ends ⟨rfl, rfl, Nat.le_of_ble_eq_true rfl, Nat.le_of_ble_eq_true rfl⟩ ⟨Nat.zero_le _, Nat.zero_le _⟩ hP hD hS hA [0, 1, 2, 3, 4, 5, 6, 7, 8, 9, 10, 11] [] [0, 1, 2, 3, 4, 5, 6, 7, 8, 9, 10, 11] rfl rfl (by decide) (by decide) rfl rfl rfl rfl rfl hl.1 rfl (Nat.le_of_ble_eq_true rfl) dX11_readsOne_114 (fun H locs hP hD hS n33 => ?_)
            obtain rfl := Option.some.inj h
            exact hret _ _ _ _ _ hP hS dX11_readsOne_117 rfl n33
          · have h := ip c29 h
            refine lv_iconst (v := (0 : Int32)) hx hb dX11_readsOne_88 rfl ?_
            obtain rfl := Option.some.inj h
            exact hret _ _ _ _ _ hP hS dX11_readsOne_89 rfl rfl
      · have h := ip c21 h
        refine lv_iconst (v := (0 : Int32)) hx hb dX11_readsOne_48 rfl ?_
        obtain rfl := Option.some.inj h
        exact hret _ _ _ _ _ hP hS dX11_readsOne_49 rfl rfl
    · have h := ip c4 h
      refine lv_iconst (v := (0 : Int32)) hx hb dX11_readsOne_23 rfl ?_
      refine lv_goto (tgt := 39) hx hb dX11_readsOne_24 (by decide) ?_
      refine lv_sipush (v := (999 : Int32)) hx hb dX11_readsOne_39 rfl ?_
      obtain ⟨z5, e5, h⟩ := bd h
      refine muV (ws' := (k_Mo cC cI cZ a_this a_now a_undos a_seen a_seenAs a_isKept a_kept a_text a_read a_fewest a_doors a_isSo v_undoMany v_undoAt v_seenMany v_letterMany z5.2.1 z5.2.2.1 z5.2.2.2.1 z5.2.2.2.2.1 z5.2.2.2.2.2 v_readOnce v_greatUpper v_greatLower A_now A_undos A_seen A_seenAs A_isKept A_kept A_text A_read A_fewest A_doors A_isSo)) X [.int (0 : Int32), .int (999 : Int32)] [] (c_Mo_number l D cC cI cZ a_this a_now a_undos a_seen a_seenAs a_isKept a_kept a_text a_read a_fewest a_doors a_isSo v_undoMany v_undoAt v_seenMany v_letterMany v_readAt v_tokenAt v_token v_value v_faultAt v_readOnce v_greatUpper v_greatLower A_now A_undos A_seen A_seenAs A_isKept A_kept A_text A_read A_fewest A_doors A_isSo (0 : Int32) (999 : Int32) _ z5 e5) gg_X11_91 hd_Mo_number ⟨rfl, rfl, Nat.le_of_ble_eq_true rfl, Nat.le_of_ble_eq_true rfl⟩ ⟨Nat.zero_le _, Nat.zero_le _⟩ hP hD hS hA [0, 1, 2, 3, 4, 5, 6, 7, 8, 9, 10, 11] [] [0, 1, 2, 3, 4, 5, 6, 7, 8, 9, 10, 11] rfl rfl (by decide) (by decide) rfl rfl rfl rfl rfl hl.1 rfl (Nat.le_of_ble_eq_true rfl) dX11_readsOne_42 (fun H locs hP hD hS n5 => ?_)
      refine lv_if_ne (tgt := 50) hx hb dX11_readsOne_45 (by decide) (fun c6 => ?_) (fun c6 => ?_)
      · have h := im c6 h
        refine lv_aload_n hx hb dX11_readsOne_50 rfl (lv_at hl 1 rfl) ?_
        refine va_get (ci := 11) (v := .ref a_read) (C := RX11) (T := TX11) (N := 23) hx hb htT inlX11 hown hK hP 0 rfl rfl 17 (by decide) (htT _ q_7_8) (fun _ h9 => h9) rfl dX11_readsOne_51 ?_
        refine lv_iconst (v := (3 : Int32)) hx hb dX11_readsOne_54 rfl ?_
        refine lv_iload_n hx hb dX11_readsOne_55 rfl (lv_at hl 0 rfl) ?_
        refine lv_iadd hx hb dX11_readsOne_56 ?_
        refine lv_aload_n hx hb dX11_readsOne_57 rfl (lv_at hl 1 rfl) ?_
        refine va_get (ci := 11) (v := .int z5.2.2.2.2.1) (C := RX11) (T := TX11) (N := 23) hx hb htT inlX11 hown hK hP 0 rfl rfl 14 (by decide) (htT _ q_14_16) (fun _ h9 => h9) rfl dX11_readsOne_58 ?_
        obtain ⟨g7, h⟩ := gd h
        refine va_iast hx hb hK hP hD hS 8 1 rfl rfl (inB_in g7) dX11_readsOne_61 (fun H locs hP hD hS => ?_)
        have hP : va_P D vwCl (k_Mo cC cI cZ a_this a_now a_undos a_seen a_seenAs a_isKept a_kept a_text a_read a_fewest a_doors a_isSo v_undoMany v_undoAt v_seenMany v_letterMany z5.2.1 z5.2.2.1 z5.2.2.2.1 z5.2.2.2.2.1 z5.2.2.2.2.2 v_readOnce v_greatUpper v_greatLower A_now A_undos A_seen A_seenAs A_isKept A_kept A_text (upd A_read (((3 : Int32) + (A_read ((0 : Int32)).toNatClampNeg))).toNatClampNeg z5.2.2.2.2.1) A_fewest A_doors A_isSo) H := hP
        have hD : va_D A (k_Mo cC cI cZ a_this a_now a_undos a_seen a_seenAs a_isKept a_kept a_text a_read a_fewest a_doors a_isSo v_undoMany v_undoAt v_seenMany v_letterMany z5.2.1 z5.2.2.1 z5.2.2.2.1 z5.2.2.2.2.1 z5.2.2.2.2.2 v_readOnce v_greatUpper v_greatLower A_now A_undos A_seen A_seenAs A_isKept A_kept A_text (upd A_read (((3 : Int32) + (A_read ((0 : Int32)).toNatClampNeg))).toNatClampNeg z5.2.2.2.2.1) A_fewest A_doors A_isSo) := hD
        refine lv_aload_n hx hb dX11_readsOne_62 rfl (lv_at hl 1 rfl) ?_
        refine va_get (ci := 11) (v := .ref a_read) (C := RX11) (T := TX11) (N := 23) hx hb htT inlX11 hown hK hP 0 rfl rfl 17 (by decide) (htT _ q_7_8) (fun _ h9 => h9) rfl dX11_readsOne_63 ?_
        refine lv_bipush (v := (17 : Int32)) hx hb dX11_readsOne_66 rfl ?_
        refine lv_iload_n hx hb dX11_readsOne_68 rfl (lv_at hl 0 rfl) ?_
        refine lv_iadd hx hb dX11_readsOne_69 ?_
        refine lv_bipush (v := (-9 : Int32)) hx hb dX11_readsOne_70 rfl ?_
        obtain ⟨g8, h⟩ := gd h
        refine va_iast hx hb hK hP hD hS 8 1 rfl rfl (inB_in g8) dX11_readsOne_72 (fun H locs hP hD hS => ?_)
        have hP : va_P D vwCl (k_Mo cC cI cZ a_this a_now a_undos a_seen a_seenAs a_isKept a_kept a_text a_read a_fewest a_doors a_isSo v_undoMany v_undoAt v_seenMany v_letterMany z5.2.1 z5.2.2.1 z5.2.2.2.1 z5.2.2.2.2.1 z5.2.2.2.2.2 v_readOnce v_greatUpper v_greatLower A_now A_undos A_seen A_seenAs A_isKept A_kept A_text (upd (upd A_read (((3 : Int32) + (A_read ((0 : Int32)).toNatClampNeg))).toNatClampNeg z5.2.2.2.2.1) (((17 : Int32) + (A_read ((0 : Int32)).toNatClampNeg))).toNatClampNeg (-9 : Int32)) A_fewest A_doors A_isSo) H := hP
        have hD : va_D A (k_Mo cC cI cZ a_this a_now a_undos a_seen a_seenAs a_isKept a_kept a_text a_read a_fewest a_doors a_isSo v_undoMany v_undoAt v_seenMany v_letterMany z5.2.1 z5.2.2.1 z5.2.2.2.1 z5.2.2.2.2.1 z5.2.2.2.2.2 v_readOnce v_greatUpper v_greatLower A_now A_undos A_seen A_seenAs A_isKept A_kept A_text (upd (upd A_read (((3 : Int32) + (A_read ((0 : Int32)).toNatClampNeg))).toNatClampNeg z5.2.2.2.2.1) (((17 : Int32) + (A_read ((0 : Int32)).toNatClampNeg))).toNatClampNeg (-9 : Int32)) A_fewest A_doors A_isSo) := hD
        refine lv_iload_n hx hb dX11_readsOne_73 rfl (lv_at hl 2 rfl) ?_
        refine lv_if_eq (tgt := 103) hx hb dX11_readsOne_74 (by decide) (fun c9 => ?_) (fun c9 => ?_)
        · have h := ip c9 h
          refine lv_aload_n hx hb dX11_readsOne_103 rfl (lv_at hl 1 rfl) ?_
          refine va_get (ci := 11) (v := .ref a_read) (C := RX11) (T := TX11) (N := 23) hx hb htT inlX11 hown hK hP 0 rfl rfl 17 (by decide) (htT _ q_7_8) (fun _ h9 => h9) rfl dX11_readsOne_104 ?_
          refine lv_iconst (v := (0 : Int32)) hx hb dX11_readsOne_107 rfl ?_
          refine lv_dup2_11 hx hb dX11_readsOne_108 rfl rfl ?_
          obtain ⟨g10, h⟩ := gd h
          refine va_iald hx hb hK hP 8 1 rfl rfl (inB_in g10) dX11_readsOne_109 ?_
          refine lv_iconst (v := (1 : Int32)) hx hb dX11_readsOne_110 rfl ?_
          refine lv_iadd hx hb dX11_readsOne_111 ?_
          obtain ⟨g11, h⟩ := gd h
          refine va_iast hx hb hK hP hD hS 8 1 rfl rfl (inB_in g11) dX11_readsOne_112 (fun H locs hP hD hS => ?_)
          have hP : va_P D vwCl (k_Mo cC cI cZ a_this a_now a_undos a_seen a_seenAs a_isKept a_kept a_text a_read a_fewest a_doors a_isSo v_undoMany v_undoAt v_seenMany v_letterMany z5.2.1 z5.2.2.1 z5.2.2.2.1 z5.2.2.2.2.1 z5.2.2.2.2.2 v_readOnce v_greatUpper v_greatLower A_now A_undos A_seen A_seenAs A_isKept A_kept A_text (upd (upd (upd A_read (((3 : Int32) + (A_read ((0 : Int32)).toNatClampNeg))).toNatClampNeg z5.2.2.2.2.1) (((17 : Int32) + (A_read ((0 : Int32)).toNatClampNeg))).toNatClampNeg (-9 : Int32)) ((0 : Int32)).toNatClampNeg (((upd (upd A_read (((3 : Int32) + (A_read ((0 : Int32)).toNatClampNeg))).toNatClampNeg z5.2.2.2.2.1) (((17 : Int32) + (A_read ((0 : Int32)).toNatClampNeg))).toNatClampNeg (-9 : Int32)) ((0 : Int32)).toNatClampNeg) + (1 : Int32))) A_fewest A_doors A_isSo) H := hP
          have hD : va_D A (k_Mo cC cI cZ a_this a_now a_undos a_seen a_seenAs a_isKept a_kept a_text a_read a_fewest a_doors a_isSo v_undoMany v_undoAt v_seenMany v_letterMany z5.2.1 z5.2.2.1 z5.2.2.2.1 z5.2.2.2.2.1 z5.2.2.2.2.2 v_readOnce v_greatUpper v_greatLower A_now A_undos A_seen A_seenAs A_isKept A_kept A_text (upd (upd (upd A_read (((3 : Int32) + (A_read ((0 : Int32)).toNatClampNeg))).toNatClampNeg z5.2.2.2.2.1) (((17 : Int32) + (A_read ((0 : Int32)).toNatClampNeg))).toNatClampNeg (-9 : Int32)) ((0 : Int32)).toNatClampNeg (((upd (upd A_read (((3 : Int32) + (A_read ((0 : Int32)).toNatClampNeg))).toNatClampNeg z5.2.2.2.2.1) (((17 : Int32) + (A_read ((0 : Int32)).toNatClampNeg))).toNatClampNeg (-9 : Int32)) ((0 : Int32)).toNatClampNeg) + (1 : Int32))) A_fewest A_doors A_isSo) := hD
          refine lv_aload_n hx hb dX11_readsOne_113 rfl (lv_at hl 1 rfl) ?_
          obtain ⟨z12, e12, h⟩ := bd h
          refine muV (ws' := (k_Mo cC cI cZ a_this a_now a_undos a_seen a_seenAs a_isKept a_kept a_text a_read a_fewest a_doors a_isSo v_undoMany v_undoAt v_seenMany v_letterMany z12.2.1 z12.2.2.1 z12.2.2.2.1 z12.2.2.2.2.1 z12.2.2.2.2.2 v_readOnce v_greatUpper v_greatLower A_now A_undos A_seen A_seenAs A_isKept A_kept A_text (upd (upd (upd A_read (((3 : Int32) + (A_read ((0 : Int32)).toNatClampNeg))).toNatClampNeg z5.2.2.2.2.1) (((17 : Int32) + (A_read ((0 : Int32)).toNatClampNeg))).toNatClampNeg (-9 : Int32)) ((0 : Int32)).toNatClampNeg (((upd (upd A_read (((3 : Int32) + (A_read ((0 : Int32)).toNatClampNeg))).toNatClampNeg z5.2.2.2.2.1) (((17 : Int32) + (A_read ((0 : Int32)).toNatClampNeg))).toNatClampNeg (-9 : Int32)) ((0 : Int32)).toNatClampNeg) + (1 : Int32))) A_fewest A_doors A_isSo)) X [] [] (c_Mo_ends l D cC cI cZ a_this a_now a_undos a_seen a_seenAs a_isKept a_kept a_text a_read a_fewest a_doors a_isSo v_undoMany v_undoAt v_seenMany v_letterMany z5.2.1 z5.2.2.1 z5.2.2.2.1 z5.2.2.2.2.1 z5.2.2.2.2.2 v_readOnce v_greatUpper v_greatLower A_now A_undos A_seen A_seenAs A_isKept A_kept A_text (upd (upd (upd A_read (((3 : Int32) + (A_read ((0 : Int32)).toNatClampNeg))).toNatClampNeg z5.2.2.2.2.1) (((17 : Int32) + (A_read ((0 : Int32)).toNatClampNeg))).toNatClampNeg (-9 : Int32)) ((0 : Int32)).toNatClampNeg (((upd (upd A_read (((3 : Int32) + (A_read ((0 : Int32)).toNatClampNeg))).toNatClampNeg z5.2.2.2.2.1) (((17 : Int32) + (A_read ((0 : Int32)).toNatClampNeg))).toNatClampNeg (-9 : Int32)) ((0 : Int32)).toNatClampNeg) + (1 : Int32))) A_fewest A_doors A_isSo _ z12 e12) gg_X11_94 hd_Mo_ends ⟨rfl, rfl, Nat.le_of_ble_eq_true rfl, Nat.le_of_ble_eq_true rfl⟩ ⟨Nat.zero_le _, Nat.zero_le _⟩ hP hD hS hA [0, 1, 2, 3, 4, 5, 6, 7, 8, 9, 10, 11] [] [0, 1, 2, 3, 4, 5, 6, 7, 8, 9, 10, 11] rfl rfl (by decide) (by decide) rfl rfl rfl rfl rfl hl.1 rfl (Nat.le_of_ble_eq_true rfl) dX11_readsOne_114 (fun H locs hP hD hS n12 => ?_)
          obtain rfl := Option.some.inj h
          exact hret _ _ _ _ _ hP hS dX11_readsOne_117 rfl n12
        · have h := im c9 h
          refine lv_aload_n hx hb dX11_readsOne_77 rfl (lv_at hl 1 rfl) ?_
          refine lv_iconst (v := (0 : Int32)) hx hb dX11_readsOne_78 rfl ?_
          refine lv_sipush (v := (999 : Int32)) hx hb dX11_readsOne_79 rfl ?_
          obtain ⟨z13, e13, h⟩ := bd h
          refine muV (ws' := (k_Mo cC cI cZ a_this a_now a_undos a_seen a_seenAs a_isKept a_kept a_text a_read a_fewest a_doors a_isSo v_undoMany v_undoAt v_seenMany v_letterMany z13.2.1 z13.2.2.1 z13.2.2.2.1 z13.2.2.2.2.1 z13.2.2.2.2.2 v_readOnce v_greatUpper v_greatLower A_now A_undos A_seen A_seenAs A_isKept A_kept A_text (upd (upd A_read (((3 : Int32) + (A_read ((0 : Int32)).toNatClampNeg))).toNatClampNeg z5.2.2.2.2.1) (((17 : Int32) + (A_read ((0 : Int32)).toNatClampNeg))).toNatClampNeg (-9 : Int32)) A_fewest A_doors A_isSo)) X [.int (0 : Int32), .int (999 : Int32)] [] (c_Mo_number l D cC cI cZ a_this a_now a_undos a_seen a_seenAs a_isKept a_kept a_text a_read a_fewest a_doors a_isSo v_undoMany v_undoAt v_seenMany v_letterMany z5.2.1 z5.2.2.1 z5.2.2.2.1 z5.2.2.2.2.1 z5.2.2.2.2.2 v_readOnce v_greatUpper v_greatLower A_now A_undos A_seen A_seenAs A_isKept A_kept A_text (upd (upd A_read (((3 : Int32) + (A_read ((0 : Int32)).toNatClampNeg))).toNatClampNeg z5.2.2.2.2.1) (((17 : Int32) + (A_read ((0 : Int32)).toNatClampNeg))).toNatClampNeg (-9 : Int32)) A_fewest A_doors A_isSo (0 : Int32) (999 : Int32) _ z13 e13) gg_X11_91 hd_Mo_number ⟨rfl, rfl, Nat.le_of_ble_eq_true rfl, Nat.le_of_ble_eq_true rfl⟩ ⟨Nat.zero_le _, Nat.zero_le _⟩ hP hD hS hA [0, 1, 2, 3, 4, 5, 6, 7, 8, 9, 10, 11] [] [0, 1, 2, 3, 4, 5, 6, 7, 8, 9, 10, 11] rfl rfl (by decide) (by decide) rfl rfl rfl rfl rfl hl.1 rfl (Nat.le_of_ble_eq_true rfl) dX11_readsOne_82 (fun H locs hP hD hS n13 => ?_)
          refine lv_if_ne (tgt := 90) hx hb dX11_readsOne_85 (by decide) (fun c14 => ?_) (fun c14 => ?_)
          · have h := im c14 h
            refine lv_aload_n hx hb dX11_readsOne_90 rfl (lv_at hl 1 rfl) ?_
            refine va_get (ci := 11) (v := .ref a_read) (C := RX11) (T := TX11) (N := 23) hx hb htT inlX11 hown hK hP 0 rfl rfl 17 (by decide) (htT _ q_7_8) (fun _ h9 => h9) rfl dX11_readsOne_91 ?_
            refine lv_bipush (v := (17 : Int32)) hx hb dX11_readsOne_94 rfl ?_
            refine lv_iload_n hx hb dX11_readsOne_96 rfl (lv_at hl 0 rfl) ?_
            refine lv_iadd hx hb dX11_readsOne_97 ?_
            refine lv_aload_n hx hb dX11_readsOne_98 rfl (lv_at hl 1 rfl) ?_
            refine va_get (ci := 11) (v := .int z13.2.2.2.2.1) (C := RX11) (T := TX11) (N := 23) hx hb htT inlX11 hown hK hP 0 rfl rfl 14 (by decide) (htT _ q_14_16) (fun _ h9 => h9) rfl dX11_readsOne_99 ?_
            obtain ⟨g15, h⟩ := gd h
            refine va_iast hx hb hK hP hD hS 8 1 rfl rfl (inB_in g15) dX11_readsOne_102 (fun H locs hP hD hS => ?_)
            have hP : va_P D vwCl (k_Mo cC cI cZ a_this a_now a_undos a_seen a_seenAs a_isKept a_kept a_text a_read a_fewest a_doors a_isSo v_undoMany v_undoAt v_seenMany v_letterMany z13.2.1 z13.2.2.1 z13.2.2.2.1 z13.2.2.2.2.1 z13.2.2.2.2.2 v_readOnce v_greatUpper v_greatLower A_now A_undos A_seen A_seenAs A_isKept A_kept A_text (upd (upd (upd A_read (((3 : Int32) + (A_read ((0 : Int32)).toNatClampNeg))).toNatClampNeg z5.2.2.2.2.1) (((17 : Int32) + (A_read ((0 : Int32)).toNatClampNeg))).toNatClampNeg (-9 : Int32)) (((17 : Int32) + (A_read ((0 : Int32)).toNatClampNeg))).toNatClampNeg z13.2.2.2.2.1) A_fewest A_doors A_isSo) H := hP
            have hD : va_D A (k_Mo cC cI cZ a_this a_now a_undos a_seen a_seenAs a_isKept a_kept a_text a_read a_fewest a_doors a_isSo v_undoMany v_undoAt v_seenMany v_letterMany z13.2.1 z13.2.2.1 z13.2.2.2.1 z13.2.2.2.2.1 z13.2.2.2.2.2 v_readOnce v_greatUpper v_greatLower A_now A_undos A_seen A_seenAs A_isKept A_kept A_text (upd (upd (upd A_read (((3 : Int32) + (A_read ((0 : Int32)).toNatClampNeg))).toNatClampNeg z5.2.2.2.2.1) (((17 : Int32) + (A_read ((0 : Int32)).toNatClampNeg))).toNatClampNeg (-9 : Int32)) (((17 : Int32) + (A_read ((0 : Int32)).toNatClampNeg))).toNatClampNeg z13.2.2.2.2.1) A_fewest A_doors A_isSo) := hD
            refine lv_aload_n hx hb dX11_readsOne_103 rfl (lv_at hl 1 rfl) ?_
            refine va_get (ci := 11) (v := .ref a_read) (C := RX11) (T := TX11) (N := 23) hx hb htT inlX11 hown hK hP 0 rfl rfl 17 (by decide) (htT _ q_7_8) (fun _ h9 => h9) rfl dX11_readsOne_104 ?_
            refine lv_iconst (v := (0 : Int32)) hx hb dX11_readsOne_107 rfl ?_
            refine lv_dup2_11 hx hb dX11_readsOne_108 rfl rfl ?_
            obtain ⟨g16, h⟩ := gd h
            refine va_iald hx hb hK hP 8 1 rfl rfl (inB_in g16) dX11_readsOne_109 ?_
            refine lv_iconst (v := (1 : Int32)) hx hb dX11_readsOne_110 rfl ?_
            refine lv_iadd hx hb dX11_readsOne_111 ?_
            obtain ⟨g17, h⟩ := gd h
            refine va_iast hx hb hK hP hD hS 8 1 rfl rfl (inB_in g17) dX11_readsOne_112 (fun H locs hP hD hS => ?_)
            have hP : va_P D vwCl (k_Mo cC cI cZ a_this a_now a_undos a_seen a_seenAs a_isKept a_kept a_text a_read a_fewest a_doors a_isSo v_undoMany v_undoAt v_seenMany v_letterMany z13.2.1 z13.2.2.1 z13.2.2.2.1 z13.2.2.2.2.1 z13.2.2.2.2.2 v_readOnce v_greatUpper v_greatLower A_now A_undos A_seen A_seenAs A_isKept A_kept A_text (upd (upd (upd (upd A_read (((3 : Int32) + (A_read ((0 : Int32)).toNatClampNeg))).toNatClampNeg z5.2.2.2.2.1) (((17 : Int32) + (A_read ((0 : Int32)).toNatClampNeg))).toNatClampNeg (-9 : Int32)) (((17 : Int32) + (A_read ((0 : Int32)).toNatClampNeg))).toNatClampNeg z13.2.2.2.2.1) ((0 : Int32)).toNatClampNeg (((upd (upd (upd A_read (((3 : Int32) + (A_read ((0 : Int32)).toNatClampNeg))).toNatClampNeg z5.2.2.2.2.1) (((17 : Int32) + (A_read ((0 : Int32)).toNatClampNeg))).toNatClampNeg (-9 : Int32)) (((17 : Int32) + (A_read ((0 : Int32)).toNatClampNeg))).toNatClampNeg z13.2.2.2.2.1) ((0 : Int32)).toNatClampNeg) + (1 : Int32))) A_fewest A_doors A_isSo) H := hP
            have hD : va_D A (k_Mo cC cI cZ a_this a_now a_undos a_seen a_seenAs a_isKept a_kept a_text a_read a_fewest a_doors a_isSo v_undoMany v_undoAt v_seenMany v_letterMany z13.2.1 z13.2.2.1 z13.2.2.2.1 z13.2.2.2.2.1 z13.2.2.2.2.2 v_readOnce v_greatUpper v_greatLower A_now A_undos A_seen A_seenAs A_isKept A_kept A_text (upd (upd (upd (upd A_read (((3 : Int32) + (A_read ((0 : Int32)).toNatClampNeg))).toNatClampNeg z5.2.2.2.2.1) (((17 : Int32) + (A_read ((0 : Int32)).toNatClampNeg))).toNatClampNeg (-9 : Int32)) (((17 : Int32) + (A_read ((0 : Int32)).toNatClampNeg))).toNatClampNeg z13.2.2.2.2.1) ((0 : Int32)).toNatClampNeg (((upd (upd (upd A_read (((3 : Int32) + (A_read ((0 : Int32)).toNatClampNeg))).toNatClampNeg z5.2.2.2.2.1) (((17 : Int32) + (A_read ((0 : Int32)).toNatClampNeg))).toNatClampNeg (-9 : Int32)) (((17 : Int32) + (A_read ((0 : Int32)).toNatClampNeg))).toNatClampNeg z13.2.2.2.2.1) ((0 : Int32)).toNatClampNeg) + (1 : Int32))) A_fewest A_doors A_isSo) := hD
            refine lv_aload_n hx hb dX11_readsOne_113 rfl (lv_at hl 1 rfl) ?_
            obtain ⟨z18, e18, h⟩ := bd h
            refine muV (ws' := (k_Mo cC cI cZ a_this a_now a_undos a_seen a_seenAs a_isKept a_kept a_text a_read a_fewest a_doors a_isSo v_undoMany v_undoAt v_seenMany v_letterMany z18.2.1 z18.2.2.1 z18.2.2.2.1 z18.2.2.2.2.1 z18.2.2.2.2.2 v_readOnce v_greatUpper v_greatLower A_now A_undos A_seen A_seenAs A_isKept A_kept A_text (upd (upd (upd (upd A_read (((3 : Int32) + (A_read ((0 : Int32)).toNatClampNeg))).toNatClampNeg z5.2.2.2.2.1) (((17 : Int32) + (A_read ((0 : Int32)).toNatClampNeg))).toNatClampNeg (-9 : Int32)) (((17 : Int32) + (A_read ((0 : Int32)).toNatClampNeg))).toNatClampNeg z13.2.2.2.2.1) ((0 : Int32)).toNatClampNeg (((upd (upd (upd A_read (((3 : Int32) + (A_read ((0 : Int32)).toNatClampNeg))).toNatClampNeg z5.2.2.2.2.1) (((17 : Int32) + (A_read ((0 : Int32)).toNatClampNeg))).toNatClampNeg (-9 : Int32)) (((17 : Int32) + (A_read ((0 : Int32)).toNatClampNeg))).toNatClampNeg z13.2.2.2.2.1) ((0 : Int32)).toNatClampNeg) + (1 : Int32))) A_fewest A_doors A_isSo)) X [] [] (c_Mo_ends l D cC cI cZ a_this a_now a_undos a_seen a_seenAs a_isKept a_kept a_text a_read a_fewest a_doors a_isSo v_undoMany v_undoAt v_seenMany v_letterMany z13.2.1 z13.2.2.1 z13.2.2.2.1 z13.2.2.2.2.1 z13.2.2.2.2.2 v_readOnce v_greatUpper v_greatLower A_now A_undos A_seen A_seenAs A_isKept A_kept A_text (upd (upd (upd (upd A_read (((3 : Int32) + (A_read ((0 : Int32)).toNatClampNeg))).toNatClampNeg z5.2.2.2.2.1) (((17 : Int32) + (A_read ((0 : Int32)).toNatClampNeg))).toNatClampNeg (-9 : Int32)) (((17 : Int32) + (A_read ((0 : Int32)).toNatClampNeg))).toNatClampNeg z13.2.2.2.2.1) ((0 : Int32)).toNatClampNeg (((upd (upd (upd A_read (((3 : Int32) + (A_read ((0 : Int32)).toNatClampNeg))).toNatClampNeg z5.2.2.2.2.1) (((17 : Int32) + (A_read ((0 : Int32)).toNatClampNeg))).toNatClampNeg (-9 : Int32)) (((17 : Int32) + (A_read ((0 : Int32)).toNatClampNeg))).toNatClampNeg z13.2.2.2.2.1) ((0 : Int32)).toNatClampNeg) + (1 : Int32))) A_fewest A_doors A_isSo _ z18 e18) gg_X11_94 hd_Mo_ends ⟨rfl, rfl, Nat.le_of_ble_eq_true rfl, Nat.le_of_ble_eq_true rfl⟩ ⟨Nat.zero_le _, Nat.zero_le _⟩ hP hD hS hA [0, 1, 2, 3, 4, 5, 6, 7, 8, 9, 10, 11] [] [0, 1, 2, 3, 4, 5, 6, 7, 8, 9, 10, 11] rfl rfl (by decide) (by decide) rfl rfl rfl rfl rfl hl.1 rfl (Nat.le_of_ble_eq_true rfl) dX11_readsOne_114 (fun H locs hP hD hS n18 => ?_)
            obtain rfl := Option.some.inj h
            exact hret _ _ _ _ _ hP hS dX11_readsOne_117 rfl n18
          · have h := ip c14 h
            refine lv_iconst (v := (0 : Int32)) hx hb dX11_readsOne_88 rfl ?_
            obtain rfl := Option.some.inj h
            exact hret _ _ _ _ _ hP hS dX11_readsOne_89 rfl rfl
      · have h := ip c6 h
        refine lv_iconst (v := (0 : Int32)) hx hb dX11_readsOne_48 rfl ?_
        obtain rfl := Option.some.inj h
        exact hret _ _ _ _ _ hP hS dX11_readsOne_49 rfl rfl
  · have h := ip c2 h
    refine lv_aload_n hx hb dX11_readsOne_13 rfl (lv_at hl 1 rfl) ?_
    obtain ⟨z3, e3, h⟩ := bd h
    refine muV (ws' := (k_Mo cC cI cZ a_this a_now a_undos a_seen a_seenAs a_isKept a_kept a_text a_read a_fewest a_doors a_isSo v_undoMany v_undoAt v_seenMany v_letterMany v_readAt v_tokenAt v_token v_value z3.2 v_readOnce v_greatUpper v_greatLower A_now A_undos A_seen A_seenAs A_isKept A_kept A_text A_read A_fewest A_doors A_isSo)) X [] [] (c_Mo_fails l D cC cI cZ a_this a_now a_undos a_seen a_seenAs a_isKept a_kept a_text a_read a_fewest a_doors a_isSo v_undoMany v_undoAt v_seenMany v_letterMany v_readAt v_tokenAt v_token v_value v_faultAt v_readOnce v_greatUpper v_greatLower A_now A_undos A_seen A_seenAs A_isKept A_kept A_text A_read A_fewest A_doors A_isSo _ z3 e3) gg_X11_81 hd_Mo_fails ⟨rfl, rfl, Nat.le_of_ble_eq_true rfl, Nat.le_of_ble_eq_true rfl⟩ ⟨Nat.zero_le _, Nat.zero_le _⟩ hP hD hS hA [0, 1, 2, 3, 4, 5, 6, 7, 8, 9, 10, 11] [] [0, 1, 2, 3, 4, 5, 6, 7, 8, 9, 10, 11] rfl rfl (by decide) (by decide) rfl rfl rfl rfl rfl hl.1 rfl (Nat.le_of_ble_eq_true rfl) dX11_readsOne_14 (fun H locs hP hD hS n3 => ?_)
    obtain rfl := Option.some.inj h
    exact hret _ _ _ _ _ hP hS dX11_readsOne_17 rfl n3

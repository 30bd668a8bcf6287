set_option maxHeartbeats 4000000 in
set_option maxRecDepth 100000 in
theorem c_Mo_isLast (l : Launch) (D : va_G) (cC cI cZ : ClassId) (a_this : Nat) (a_now : Nat) (a_undos : Nat) (a_seen : Nat) (a_seenAs : Nat) (a_isKept : Nat) (a_kept : Nat) (a_text : Nat) (a_read : Nat) (a_fewest : Nat) (a_doors : Nat) (a_isSo : Nat) (v_undoMany : Int32) (v_undoAt : Int32) (v_seenMany : Int32) (v_letterMany : Int32) (v_readAt : Int32) (v_tokenAt : Int32) (v_token : Int32) (v_value : Int32) (v_faultAt : Int32) (v_readOnce : Int32) (v_greatUpper : Int64) (v_greatLower : Int64) (A_now : Nat → Int32) (A_undos : Nat → Int32) (A_seen : Nat → Int32) (A_seenAs : Nat → Int32) (A_isKept : Nat → Int32) (A_kept : Nat → Int32) (A_text : Nat → Int32) (A_read : Nat → Int32) (A_fewest : Nat → Int32) (A_doors : Nat → Int32) (A_isSo : Nat → Int32) (p1 : Int32) (r : Int32) (h : f_Mo_isLast A_now p1 = some r) : Met l yX11_isLast (.code yX11_isLast cX11_isLast 2 (some .boolean) :: TBL) (RM 3 64) (PcR [.ref a_this, .int p1] D (TY cC cI cZ) (k_Mo cC cI cZ a_this a_now a_undos a_seen a_seenAs a_isKept a_kept a_text a_read a_fewest a_doors a_isSo v_undoMany v_undoAt v_seenMany v_letterMany v_readAt v_tokenAt v_token v_value v_faultAt v_readOnce v_greatUpper v_greatLower A_now A_undos A_seen A_seenAs A_isKept A_kept A_text A_read A_fewest A_doors A_isSo)) (vp_Si (PO .boolean r)) 0 0 (fun _ => False) := by
  refine roOf (by decide) (Nat.le_of_ble_eq_true rfl) rfl ?_
  intro p e s m args below meth c Q ls X hP hl hret
  have X : Ctx p s m args c cX11_isLast 2 RX11 D (TY cC cI cZ) := X
  obtain ⟨hx, hb, hml, hown, htT, hK, hN⟩ := id X
  unfold f_Mo_isLast at h
  refine lv_aload_n hx hb dX11_isLast_0 rfl (lv_at hl 0 rfl) ?_
  refine lv_iload_n hx hb dX11_isLast_1 rfl (lv_at hl 1 rfl) ?_
  obtain ⟨r1, e1, h⟩ := bd h
  refine roV X [.int p1] [] (c_Mo_isKnown l D cC cI cZ a_this a_now a_undos a_seen a_seenAs a_isKept a_kept a_text a_read a_fewest a_doors a_isSo v_undoMany v_undoAt v_seenMany v_letterMany v_readAt v_tokenAt v_token v_value v_faultAt v_readOnce v_greatUpper v_greatLower A_now A_undos A_seen A_seenAs A_isKept A_kept A_text A_read A_fewest A_doors A_isSo p1 r1 e1) gg_X11_130 hd_Mo_isKnown ⟨rfl, rfl, Nat.le_of_ble_eq_true rfl, Nat.le_of_ble_eq_true rfl⟩ ⟨Nat.zero_le _, Nat.zero_le _⟩ hP [0, 1, 2, 3, 4, 5, 6, 7, 8, 9, 10, 11] rfl rfl rfl rfl hl.1 rfl (Nat.le_of_ble_eq_true rfl) dX11_isLast_2 (fun n1 => ?_)
  refine lv_if_eq (tgt := 22) hx hb dX11_isLast_5 (by decide) (fun c2 => ?_) (fun c2 => ?_)
  · have h := ip c2 h
    refine lv_iconst (v := (0 : Int32)) hx hb dX11_isLast_22 rfl ?_
    exact hret _ _ _ dX11_isLast_23 (Option.some.inj h) rfl
  · have h := im c2 h
    refine lv_aload_n hx hb dX11_isLast_8 rfl (lv_at hl 0 rfl) ?_
    refine lv_iload_n hx hb dX11_isLast_9 rfl (lv_at hl 1 rfl) ?_
    refine lv_iconst (v := (1 : Int32)) hx hb dX11_isLast_10 rfl ?_
    refine lv_iadd hx hb dX11_isLast_11 ?_
    obtain ⟨r3, e3, h⟩ := bd h
    refine roV X [.int (p1 + (1 : Int32))] [] (c_Mo_isKnown l D cC cI cZ a_this a_now a_undos a_seen a_seenAs a_isKept a_kept a_text a_read a_fewest a_doors a_isSo v_undoMany v_undoAt v_seenMany v_letterMany v_readAt v_tokenAt v_token v_value v_faultAt v_readOnce v_greatUpper v_greatLower A_now A_undos A_seen A_seenAs A_isKept A_kept A_text A_read A_fewest A_doors A_isSo (p1 + (1 : Int32)) r3 e3) gg_X11_130 hd_Mo_isKnown ⟨rfl, rfl, Nat.le_of_ble_eq_true rfl, Nat.le_of_ble_eq_true rfl⟩ ⟨Nat.zero_le _, Nat.zero_le _⟩ hP [0, 1, 2, 3, 4, 5, 6, 7, 8, 9, 10, 11] rfl rfl rfl rfl hl.1 rfl (Nat.le_of_ble_eq_true rfl) dX11_isLast_12 (fun n3 => ?_)
    refine lv_if_ne (tgt := 22) hx hb dX11_isLast_15 (by decide) (fun c4 => ?_) (fun c4 => ?_)
    · have h := im c4 h
      refine lv_iconst (v := (0 : Int32)) hx hb dX11_isLast_22 rfl ?_
      exact hret _ _ _ dX11_isLast_23 (Option.some.inj h) rfl
    · have h := ip c4 h
      refine lv_iconst (v := (1 : Int32)) hx hb dX11_isLast_18 rfl ?_
      refine lv_goto (tgt := 23) hx hb dX11_isLast_19 (by decide) ?_
      exact hret _ _ _ dX11_isLast_23 (Option.some.inj h) rfl
set_option maxHeartbeats 4000000 in
set_option maxRecDepth 100000 in
theorem c_Mo_whyNot (l : Launch) (D : va_G) (cC cI cZ : ClassId) (a_this : Nat) (a_now : Nat) (a_undos : Nat) (a_seen : Nat) (a_seenAs : Nat) (a_isKept : Nat) (a_kept : Nat) (a_text : Nat) (a_read : Nat) (a_fewest : Nat) (a_doors : Nat) (a_isSo : Nat) (v_undoMany : Int32) (v_undoAt : Int32) (v_seenMany : Int32) (v_letterMany : Int32) (v_readAt : Int32) (v_tokenAt : Int32) (v_token : Int32) (v_value : Int32) (v_faultAt : Int32) (v_readOnce : Int32) (v_greatUpper : Int64) (v_greatLower : Int64) (A_now : Nat → Int32) (A_undos : Nat → Int32) (A_seen : Nat → Int32) (A_seenAs : Nat → Int32) (A_isKept : Nat → Int32) (A_kept : Nat → Int32) (A_text : Nat → Int32) (A_read : Nat → Int32) (A_fewest : Nat → Int32) (A_doors : Nat → Int32) (A_isSo : Nat → Int32) (p1 : Int32) (p2 : Int32) (p3 : Int32) (r : Int32) (h : f_Mo_whyNot A_now p1 p2 p3 = some r) : Met l yX11_whyNot (.code yX11_whyNot cX11_whyNot 5 (some .int) :: TBL) (RM 1 25) (PcR [.ref a_this, .int p1, .int p2, .int p3] D (TY cC cI cZ) (k_Mo cC cI cZ a_this a_now a_undos a_seen a_seenAs a_isKept a_kept a_text a_read a_fewest a_doors a_isSo v_undoMany v_undoAt v_seenMany v_letterMany v_readAt v_tokenAt v_token v_value v_faultAt v_readOnce v_greatUpper v_greatLower A_now A_undos A_seen A_seenAs A_isKept A_kept A_text A_read A_fewest A_doors A_isSo)) (vp_Si (PO .int r)) 0 0 (fun _ => False) := by
  refine roOf (by decide) (Nat.le_of_ble_eq_true rfl) rfl ?_
  intro p e s m args below meth c Q ls X hP hl hret
  have X : Ctx p s m args c cX11_whyNot 5 RX11 D (TY cC cI cZ) := X
  obtain ⟨hx, hb, hml, hown, htT, hK, hN⟩ := id X
  unfold f_Mo_whyNot at h
  refine lv_iload_n hx hb dX11_whyNot_0 rfl (lv_at hl 1 rfl) ?_
  refine lv_iconst (v := (1 : Int32)) hx hb dX11_whyNot_1 rfl ?_
  refine lv_iadd hx hb dX11_whyNot_2 ?_
  refine lv_istore (lv' := [(4, .int (p1 + (1 : Int32))), (0, .ref a_this), (1, .int p1), (2, .int p2), (3, .int p3)]) hx hb dX11_whyNot_3 hl (by decide) rfl (fun ls hl => ?_)
  have LP5 : ∀ (n : Nat) (y5_4 : Int32) (zq5 : Nat × Int32), f_Mo_whyNot_L5 p1 p2 p3 A_now n y5_4 = some zq5 → ∀ (ls : Array Slot), lv_has ls 5 [(0, .ref a_this), (1, .int p1), (2, .int p2), (3, .int p3), (4, .int y5_4)] → (zq5.1 = 0 → ∀ (ls : Array Slot), lv_has ls 5 [(4, .int zq5.2)] → W p l e (RM 1 25) s m args below meth c s.heap [] 0 0 Q (F0 m 41 ls [])) → (zq5.1 = 1 → ∀ (ls : Array Slot), lv_has ls 5 [] → W p l e (RM 1 25) s m args below meth c s.heap [] 0 0 Q (F0 m 50 ls [])) → W p l e (RM 1 25) s m args below meth c s.heap [] 0 0 Q (F0 m 5 ls []) := by
    clear h
    intro n
    induction n with
    | zero =>
      intro y5_4 zq5 h
      rw [f_Mo_whyNot_L5_0] at h
      cases h
    | succ n ih5 =>
      intro y5_4 zq5 h ls hl k5_0 k5_1
      rw [f_Mo_whyNot_L5_s] at h
      refine lv_iload hx hb dX11_whyNot_5 (lv_at hl 4 rfl) ?_
      refine lv_iload_n hx hb dX11_whyNot_7 rfl (lv_at hl 2 rfl) ?_
      refine lv_icmp_ge (tgt := 50) hx hb dX11_whyNot_8 (by decide) (fun c2 => ?_) (fun c2 => ?_)
      · have h := ip c2 h
        obtain rfl := Option.some.inj h
        exact k5_1 rfl _ (lv_sub hl [] rfl)
      · have h := im c2 h
        refine lv_aload_n hx hb dX11_whyNot_11 rfl (lv_at hl 0 rfl) ?_
        refine lv_iload_n hx hb dX11_whyNot_12 rfl (lv_at hl 1 rfl) ?_
        refine lv_iload hx hb dX11_whyNot_13 (lv_at hl 4 rfl) ?_
        refine lv_iload_n hx hb dX11_whyNot_15 rfl (lv_at hl 2 rfl) ?_
        obtain ⟨r3, e3, h⟩ := bd h
        refine roV X [.int p1, .int y5_4, .int p2] [] (c_Mo_apartBy l D cC cI cZ a_this a_now a_undos a_seen a_seenAs a_isKept a_kept a_text a_read a_fewest a_doors a_isSo v_undoMany v_undoAt v_seenMany v_letterMany v_readAt v_tokenAt v_token v_value v_faultAt v_readOnce v_greatUpper v_greatLower A_now A_undos A_seen A_seenAs A_isKept A_kept A_text A_read A_fewest A_doors A_isSo p1 y5_4 p2 r3 e3) gg_X11_136 hd_Mo_apartBy ⟨rfl, rfl, Nat.le_of_ble_eq_true rfl, Nat.le_of_ble_eq_true rfl⟩ ⟨Nat.zero_le _, Nat.zero_le _⟩ hP [0, 1, 2, 3, 4, 5, 6, 7, 8, 9, 10, 11] rfl rfl rfl rfl hl.1 rfl (Nat.le_of_ble_eq_true rfl) dX11_whyNot_16 (fun n3 => ?_)
        refine lv_iload_n hx hb dX11_whyNot_19 rfl (lv_at hl 3 rfl) ?_
        refine lv_aload_n hx hb dX11_whyNot_20 rfl (lv_at hl 0 rfl) ?_
        refine va_get (ci := 11) (v := .ref a_now) (C := RX11) (T := TX11) (N := 23) hx hb htT inlX11 hown hK hP 0 rfl rfl 0 (by decide) (htT _ q_7_0) (fun _ h9 => h9) rfl dX11_whyNot_21 ?_
        refine lv_iconst (v := (3 : Int32)) hx hb dX11_whyNot_24 rfl ?_
        refine lv_iload_n hx hb dX11_whyNot_25 rfl (lv_at hl 2 rfl) ?_
        refine lv_iadd hx hb dX11_whyNot_26 ?_
        obtain ⟨g4, h⟩ := gd h
        refine va_iald hx hb hK hP 1 1 rfl rfl (inB_in g4) dX11_whyNot_27 ?_
        refine lv_aload_n hx hb dX11_whyNot_28 rfl (lv_at hl 0 rfl) ?_
        refine va_get (ci := 11) (v := .ref a_now) (C := RX11) (T := TX11) (N := 23) hx hb htT inlX11 hown hK hP 0 rfl rfl 0 (by decide) (htT _ q_7_0) (fun _ h9 => h9) rfl dX11_whyNot_29 ?_
        refine lv_iconst (v := (3 : Int32)) hx hb dX11_whyNot_32 rfl ?_
        refine lv_iload_n hx hb dX11_whyNot_33 rfl (lv_at hl 1 rfl) ?_
        refine lv_iadd hx hb dX11_whyNot_34 ?_
        obtain ⟨g5, h⟩ := gd h
        refine va_iald hx hb hK hP 1 1 rfl rfl (inB_in g5) dX11_whyNot_35 ?_
        refine lv_isub hx hb dX11_whyNot_36 ?_
        refine lv_imul hx hb dX11_whyNot_37 ?_
        refine lv_icmp_le (tgt := 44) hx hb dX11_whyNot_38 (by decide) (fun c6 => ?_) (fun c6 => ?_)
        · have h := ip c6 h
          refine lv_iinc (v := (y5_4 + (1 : Int32))) (lv' := [(4, .int (y5_4 + (1 : Int32))), (0, .ref a_this), (1, .int p1), (2, .int p2), (3, .int p3)]) hx hb dX11_whyNot_44 hl (k := 4) rfl rfl (by decide) rfl (fun ls hl => ?_)
          refine lv_goto (tgt := 5) hx hb dX11_whyNot_47 (by decide) ?_
          exact ih5 (y5_4 + (1 : Int32)) _ h _ (lv_sub hl [1, 2, 3, 4, 0] rfl) k5_0 k5_1
        · have h := im c6 h
          obtain rfl := Option.some.inj h
          exact k5_0 rfl _ (lv_sub hl [4] rfl)
  obtain ⟨z1, e1, h⟩ := bd h
  refine LP5 fu (p1 + (1 : Int32)) z1 e1 _ (lv_sub hl [1, 2, 3, 4, 0] rfl) ?_ ?_
  · intro t1 ls hl
    have h := ip t1 h
    refine lv_iload hx hb dX11_whyNot_41 (lv_at hl 0 rfl) ?_
    exact hret _ _ _ dX11_whyNot_43 (Option.some.inj h) rfl
  · intro t1 ls hl
    have h := im (by rw [t1]; decide) h
    refine lv_bipush (v := (-9 : Int32)) hx hb dX11_whyNot_50 rfl ?_
    exact hret _ _ _ dX11_whyNot_52 (Option.some.inj h) rfl
set_option maxHeartbeats 4000000 in
set_option maxRecDepth 100000 in
theorem c_Mo_doorFrom (l : Launch) (D : va_G) (cC cI cZ : ClassId) (a_this : Nat) (a_now : Nat) (a_undos : Nat) (a_seen : Nat) (a_seenAs : Nat) (a_isKept : Nat) (a_kept : Nat) (a_text : Nat) (a_read : Nat) (a_fewest : Nat) (a_doors : Nat) (a_isSo : Nat) (v_undoMany : Int32) (v_undoAt : Int32) (v_seenMany : Int32) (v_letterMany : Int32) (v_readAt : Int32) (v_tokenAt : Int32) (v_token : Int32) (v_value : Int32) (v_faultAt : Int32) (v_readOnce : Int32) (v_greatUpper : Int64) (v_greatLower : Int64) (A_now : Nat → Int32) (A_undos : Nat → Int32) (A_seen : Nat → Int32) (A_seenAs : Nat → Int32) (A_isKept : Nat → Int32) (A_kept : Nat → Int32) (A_text : Nat → Int32) (A_read : Nat → Int32) (A_fewest : Nat → Int32) (A_doors : Nat → Int32) (A_isSo : Nat → Int32) (p1 : Int32) (p2 : Int32) (r : Int32) (h : f_Mo_doorFrom A_now p1 p2 = some r) : Met l yX11_doorFrom (.code yX11_doorFrom cX11_doorFrom 4 (some .int) :: TBL) (RM 4 85) (PcR [.ref a_this, .int p1, .int p2] D (TY cC cI cZ) (k_Mo cC cI cZ a_this a_now a_undos a_seen a_seenAs a_isKept a_kept a_text a_read a_fewest a_doors a_isSo v_undoMany v_undoAt v_seenMany v_letterMany v_readAt v_tokenAt v_token v_value v_faultAt v_readOnce v_greatUpper v_greatLower A_now A_undos A_seen A_seenAs A_isKept A_kept A_text A_read A_fewest A_doors A_isSo)) (vp_Si (PO .int r)) 0 0 (fun _ => False) := by
  refine roOf (by decide) (Nat.le_of_ble_eq_true rfl) rfl ?_
  intro p e s m args below meth c Q ls X hP hl hret
  have X : Ctx p s m args c cX11_doorFrom 4 RX11 D (TY cC cI cZ) := X
  obtain ⟨hx, hb, hml, hown, htT, hK, hN⟩ := id X
  unfold f_Mo_doorFrom at h
  refine lv_iload_n hx hb dX11_doorFrom_0 rfl (lv_at hl 1 rfl) ?_
  refine lv_istore_n (lv' := [(3, .int p1), (0, .ref a_this), (1, .int p1), (2, .int p2)]) hx hb dX11_doorFrom_1 rfl hl (by decide) rfl (fun ls hl => ?_)
  have LP2 : ∀ (n : Nat) (y2_3 : Int32) (zq2 : Int32), f_Mo_doorFrom_L2 p1 p2 A_now n y2_3 = some zq2 → ∀ (ls : Array Slot), lv_has ls 4 [(0, .ref a_this), (1, .int p1), (2, .int p2), (3, .int y2_3)] → (∀ (ls : Array Slot), lv_has ls 4 [(3, .int zq2)] → W p l e (RM 4 85) s m args below meth c s.heap [] 0 0 Q (F0 m 42 ls [])) → W p l e (RM 4 85) s m args below meth c s.heap [] 0 0 Q (F0 m 2 ls []) := by
    clear h
    intro n
    induction n with
    | zero =>
      intro y2_3 zq2 h
      rw [f_Mo_doorFrom_L2_0] at h
      cases h
    | succ n ih2 =>
      intro y2_3 zq2 h ls hl k2_0
      rw [f_Mo_doorFrom_L2_s] at h
      refine lv_aload_n hx hb dX11_doorFrom_2 rfl (lv_at hl 0 rfl) ?_
      refine lv_iload_n hx hb dX11_doorFrom_3 rfl (lv_at hl 3 rfl) ?_
      obtain ⟨r2, e2, h⟩ := bd h
      refine roV X [.int y2_3] [] (c_Mo_isLast l D cC cI cZ a_this a_now a_undos a_seen a_seenAs a_isKept a_kept a_text a_read a_fewest a_doors a_isSo v_undoMany v_undoAt v_seenMany v_letterMany v_readAt v_tokenAt v_token v_value v_faultAt v_readOnce v_greatUpper v_greatLower A_now A_undos A_seen A_seenAs A_isKept A_kept A_text A_read A_fewest A_doors A_isSo y2_3 r2 e2) gg_X11_140 hd_Mo_isLast ⟨rfl, rfl, Nat.le_of_ble_eq_true rfl, Nat.le_of_ble_eq_true rfl⟩ ⟨Nat.zero_le _, Nat.zero_le _⟩ hP [0, 1, 2, 3, 4, 5, 6, 7, 8, 9, 10, 11] rfl rfl rfl rfl hl.1 rfl (Nat.le_of_ble_eq_true rfl) dX11_doorFrom_4 (fun n2 => ?_)
      refine lv_if_ne (tgt := 42) hx hb dX11_doorFrom_7 (by decide) (fun c3 => ?_) (fun c3 => ?_)
      · have h := im c3 h
        obtain rfl := Option.some.inj h
        exact k2_0 _ (lv_sub hl [3] rfl)
      · have h := ip c3 h
        refine lv_iload_n hx hb dX11_doorFrom_10 rfl (lv_at hl 3 rfl) ?_
        refine lv_iload_n hx hb dX11_doorFrom_11 rfl (lv_at hl 1 rfl) ?_
        refine lv_aload_n hx hb dX11_doorFrom_12 rfl (lv_at hl 0 rfl) ?_
        refine va_get (ci := 11) (v := .ref a_now) (C := RX11) (T := TX11) (N := 23) hx hb htT inlX11 hown hK hP 0 rfl rfl 0 (by decide) (htT _ q_7_0) (fun _ h9 => h9) rfl dX11_doorFrom_13 ?_
        refine lv_iconst (v := (2 : Int32)) hx hb dX11_doorFrom_16 rfl ?_
        obtain ⟨g4, h⟩ := gd h
        refine va_iald hx hb hK hP 1 1 rfl rfl (inB_in g4) dX11_doorFrom_17 ?_
        refine lv_iadd hx hb dX11_doorFrom_18 ?_
        refine lv_icmp_ge (tgt := 42) hx hb dX11_doorFrom_19 (by decide) (fun c5 => ?_) (fun c5 => ?_)
        · have h := ip c5 h
          obtain rfl := Option.some.inj h
          exact k2_0 _ (lv_sub hl [3] rfl)
        · have h := im c5 h
          refine lv_aload_n hx hb dX11_doorFrom_22 rfl (lv_at hl 0 rfl) ?_
          refine lv_iload_n hx hb dX11_doorFrom_23 rfl (lv_at hl 1 rfl) ?_
          refine lv_iload_n hx hb dX11_doorFrom_24 rfl (lv_at hl 3 rfl) ?_
          refine lv_iconst (v := (1 : Int32)) hx hb dX11_doorFrom_25 rfl ?_
          refine lv_iadd hx hb dX11_doorFrom_26 ?_
          refine lv_iload_n hx hb dX11_doorFrom_27 rfl (lv_at hl 2 rfl) ?_
          obtain ⟨r6, e6, h⟩ := bd h
          refine roV X [.int p1, .int (y2_3 + (1 : Int32)), .int p2] [] (c_Mo_whyNot l D cC cI cZ a_this a_now a_undos a_seen a_seenAs a_isKept a_kept a_text a_read a_fewest a_doors a_isSo v_undoMany v_undoAt v_seenMany v_letterMany v_readAt v_tokenAt v_token v_value v_faultAt v_readOnce v_greatUpper v_greatLower A_now A_undos A_seen A_seenAs A_isKept A_kept A_text A_read A_fewest A_doors A_isSo p1 (y2_3 + (1 : Int32)) p2 r6 e6) gg_X11_143 hd_Mo_whyNot ⟨rfl, rfl, Nat.le_of_ble_eq_true rfl, Nat.le_of_ble_eq_true rfl⟩ ⟨Nat.zero_le _, Nat.zero_le _⟩ hP [0, 1, 2, 3, 4, 5, 6, 7, 8, 9, 10, 11] rfl rfl rfl rfl hl.1 rfl (Nat.le_of_ble_eq_true rfl) dX11_doorFrom_28 (fun n6 => ?_)
          refine lv_bipush (v := (-9 : Int32)) hx hb dX11_doorFrom_31 rfl ?_
          refine lv_icmp_ne (tgt := 42) hx hb dX11_doorFrom_33 (by decide) (fun c7 => ?_) (fun c7 => ?_)
          · have h := im c7 h
            obtain rfl := Option.some.inj h
            exact k2_0 _ (lv_sub hl [3] rfl)
          · have h := ip c7 h
            refine lv_iinc (v := (y2_3 + (1 : Int32))) (lv' := [(3, .int (y2_3 + (1 : Int32))), (0, .ref a_this), (1, .int p1), (2, .int p2)]) hx hb dX11_doorFrom_36 hl (k := 3) rfl rfl (by decide) rfl (fun ls hl => ?_)
            refine lv_goto (tgt := 2) hx hb dX11_doorFrom_39 (by decide) ?_
            exact ih2 (y2_3 + (1 : Int32)) _ h _ (lv_sub hl [1, 2, 3, 0] rfl) k2_0
  obtain ⟨z1, e1, h⟩ := bd h
  refine LP2 fu p1 z1 e1 _ (lv_sub hl [1, 2, 3, 0] rfl) ?_
  intro ls hl
  refine lv_iload_n hx hb dX11_doorFrom_42 rfl (lv_at hl 0 rfl) ?_
  exact hret _ _ _ dX11_doorFrom_43 (Option.some.inj h) rfl
set_option maxHeartbeats 4000000 in
set_option maxRecDepth 100000 in
theorem c_Mo_door (l : Launch) (D : va_G) (cC cI cZ : ClassId) (a_this : Nat) (a_now : Nat) (a_undos : Nat) (a_seen : Nat) (a_seenAs : Nat) (a_isKept : Nat) (a_kept : Nat) (a_text : Nat) (a_read : Nat) (a_fewest : Nat) (a_doors : Nat) (a_isSo : Nat) (v_undoMany : Int32) (v_undoAt : Int32) (v_seenMany : Int32) (v_letterMany : Int32) (v_readAt : Int32) (v_tokenAt : Int32) (v_token : Int32) (v_value : Int32) (v_faultAt : Int32) (v_readOnce : Int32) (v_greatUpper : Int64) (v_greatLower : Int64) (A_now : Nat → Int32) (A_undos : Nat → Int32) (A_seen : Nat → Int32) (A_seenAs : Nat → Int32) (A_isKept : Nat → Int32) (A_kept : Nat → Int32) (A_text : Nat → Int32) (A_read : Nat → Int32) (A_fewest : Nat → Int32) (A_doors : Nat → Int32) (A_isSo : Nat → Int32) (p1 : Int32) (r : Int32) (h : f_Mo_door A_now p1 = some r) : Met l yX11_door (.code yX11_door cX11_door 5 (some .int) :: TBL) (RM 5 108) (PcR [.ref a_this, .int p1] D (TY cC cI cZ) (k_Mo cC cI cZ a_this a_now a_undos a_seen a_seenAs a_isKept a_kept a_text a_read a_fewest a_doors a_isSo v_undoMany v_undoAt v_seenMany v_letterMany v_readAt v_tokenAt v_token v_value v_faultAt v_readOnce v_greatUpper v_greatLower A_now A_undos A_seen A_seenAs A_isKept A_kept A_text A_read A_fewest A_doors A_isSo)) (vp_Si (PO .int r)) 0 0 (fun _ => False) := by
  refine roOf (by decide) (Nat.le_of_ble_eq_true rfl) rfl ?_
  intro p e s m args below meth c Q ls X hP hl hret
  have X : Ctx p s m args c cX11_door 5 RX11 D (TY cC cI cZ) := X
  obtain ⟨hx, hb, hml, hown, htT, hK, hN⟩ := id X
  unfold f_Mo_door at h
  refine lv_iconst (v := (0 : Int32)) hx hb dX11_door_0 rfl ?_
  refine lv_istore_n (lv' := [(2, .int (0 : Int32)), (0, .ref a_this), (1, .int p1)]) hx hb dX11_door_1 rfl hl (by decide) rfl (fun ls hl => ?_)
  refine lv_iconst (v := (0 : Int32)) hx hb dX11_door_2 rfl ?_
  refine lv_istore_n (lv' := [(3, .int (0 : Int32)), (2, .int (0 : Int32)), (0, .ref a_this), (1, .int p1)]) hx hb dX11_door_3 rfl hl (by decide) rfl (fun ls hl => ?_)
  have LP4 : ∀ (n : Nat) (y4_2 : Int32) (y4_3 : Int32) (zq4 : Int32), f_Mo_door_L4 p1 A_now n y4_2 y4_3 = some zq4 → ∀ (ls : Array Slot), lv_has ls 5 [(0, .ref a_this), (1, .int p1), (2, .int y4_2), (3, .int y4_3)] → (∀ (ls : Array Slot), lv_has ls 5 [(2, .int zq4)] → W p l e (RM 5 108) s m args below meth c s.heap [] 0 0 Q (F0 m 66 ls [])) → W p l e (RM 5 108) s m args below meth c s.heap [] 0 0 Q (F0 m 4 ls []) := by
    clear h
    intro n
    induction n with
    | zero =>
      intro y4_2 y4_3 zq4 h
      rw [f_Mo_door_L4_0] at h
      cases h
    | succ n ih4 =>
      intro y4_2 y4_3 zq4 h ls hl k4_0
      rw [f_Mo_door_L4_s] at h
      refine lv_iload_n hx hb dX11_door_4 rfl (lv_at hl 3 rfl) ?_
      refine lv_aload_n hx hb dX11_door_5 rfl (lv_at hl 0 rfl) ?_
      refine va_get (ci := 11) (v := .ref a_now) (C := RX11) (T := TX11) (N := 23) hx hb htT inlX11 hown hK hP 0 rfl rfl 0 (by decide) (htT _ q_7_0) (fun _ h9 => h9) rfl dX11_door_6 ?_
      refine lv_iconst (v := (0 : Int32)) hx hb dX11_door_9 rfl ?_
      obtain ⟨g2, h⟩ := gd h
      refine va_iald hx hb hK hP 1 1 rfl rfl (inB_in g2) dX11_door_10 ?_
      refine lv_icmp_ge (tgt := 66) hx hb dX11_door_11 (by decide) (fun c3 => ?_) (fun c3 => ?_)
      · have h := ip c3 h
        obtain rfl := Option.some.inj h
        exact k4_0 _ (lv_sub hl [2] rfl)
      · have h := im c3 h
        refine lv_aload_n hx hb dX11_door_14 rfl (lv_at hl 0 rfl) ?_
        refine lv_iload_n hx hb dX11_door_15 rfl (lv_at hl 3 rfl) ?_
        obtain ⟨r4, e4, h⟩ := bd h
        refine roV X [.int y4_3] [] (c_Mo_isFirst l D cC cI cZ a_this a_now a_undos a_seen a_seenAs a_isKept a_kept a_text a_read a_fewest a_doors a_isSo v_undoMany v_undoAt v_seenMany v_letterMany v_readAt v_tokenAt v_token v_value v_faultAt v_readOnce v_greatUpper v_greatLower A_now A_undos A_seen A_seenAs A_isKept A_kept A_text A_read A_fewest A_doors A_isSo y4_3 r4 e4) gg_X11_133 hd_Mo_isFirst ⟨rfl, rfl, Nat.le_of_ble_eq_true rfl, Nat.le_of_ble_eq_true rfl⟩ ⟨Nat.zero_le _, Nat.zero_le _⟩ hP [0, 1, 2, 3, 4, 5, 6, 7, 8, 9, 10, 11] rfl rfl rfl rfl hl.1 rfl (Nat.le_of_ble_eq_true rfl) dX11_door_16 (fun n4 => ?_)
        refine lv_if_eq (tgt := 60) hx hb dX11_door_19 (by decide) (fun c5 => ?_) (fun c5 => ?_)
        · have h := ip c5 h
          refine lv_iinc (v := (y4_3 + (1 : Int32))) (lv' := [(3, .int (y4_3 + (1 : Int32))), (0, .ref a_this), (1, .int p1), (2, .int y4_2)]) hx hb dX11_door_60 hl (k := 3) rfl rfl (by decide) rfl (fun ls hl => ?_)
          refine lv_goto (tgt := 4) hx hb dX11_door_63 (by decide) ?_
          exact ih4 y4_2 (y4_3 + (1 : Int32)) _ h _ (lv_sub hl [1, 2, 3, 0] rfl) k4_0
        · have h := im c5 h
          refine lv_iload_n hx hb dX11_door_22 rfl (lv_at hl 3 rfl) ?_
          refine lv_istore (lv' := [(4, .int y4_3), (0, .ref a_this), (1, .int p1), (2, .int y4_2), (3, .int y4_3)]) hx hb dX11_door_23 hl (by decide) rfl (fun ls hl => ?_)
          refine lv_iload_n hx hb dX11_door_25 rfl (lv_at hl 3 rfl) ?_
          refine lv_iconst (v := (1 : Int32)) hx hb dX11_door_26 rfl ?_
          refine lv_iload hx hb dX11_door_27 (lv_at hl 0 rfl) ?_
          refine lv_ishl hx hb dX11_door_29 ?_
          refine lv_ior hx hb dX11_door_30 ?_
          refine lv_istore_n (lv' := [(2, .int (y4_2 ||| ((1 : Int32) <<< (y4_3 &&& 31)))), (4, .int y4_3), (0, .ref a_this), (1, .int p1), (3, .int y4_3)]) hx hb dX11_door_31 rfl hl (by decide) rfl (fun ls hl => ?_)
          have LP32 : ∀ (n : Nat) (y32_2 : Int32) (y32_4 : Int32) (zq32 : Int32), f_Mo_door_L32 p1 y4_3 A_now n y32_2 y32_4 = some zq32 → ∀ (ls : Array Slot), lv_has ls 5 [(0, .ref a_this), (1, .int p1), (2, .int y32_2), (3, .int y4_3), (4, .int y32_4)] → (∀ (ls : Array Slot), lv_has ls 5 [(0, .ref a_this), (1, .int p1), (2, .int zq32), (3, .int y4_3)] → W p l e (RM 5 108) s m args below meth c s.heap [] 0 0 Q (F0 m 60 ls [])) → W p l e (RM 5 108) s m args below meth c s.heap [] 0 0 Q (F0 m 32 ls []) := by
            clear h
            intro n
            induction n with
            | zero =>
              intro y32_2 y32_4 zq32 h
              rw [f_Mo_door_L32_0] at h
              cases h
            | succ n ih32 =>
              intro y32_2 y32_4 zq32 h ls hl k32_0
              rw [f_Mo_door_L32_s] at h
              refine lv_aload_n hx hb dX11_door_32 rfl (lv_at hl 0 rfl) ?_
              refine lv_iload hx hb dX11_door_33 (lv_at hl 4 rfl) ?_
              obtain ⟨r7, e7, h⟩ := bd h
              refine roV X [.int y32_4] [] (c_Mo_isLast l D cC cI cZ a_this a_now a_undos a_seen a_seenAs a_isKept a_kept a_text a_read a_fewest a_doors a_isSo v_undoMany v_undoAt v_seenMany v_letterMany v_readAt v_tokenAt v_token v_value v_faultAt v_readOnce v_greatUpper v_greatLower A_now A_undos A_seen A_seenAs A_isKept A_kept A_text A_read A_fewest A_doors A_isSo y32_4 r7 e7) gg_X11_140 hd_Mo_isLast ⟨rfl, rfl, Nat.le_of_ble_eq_true rfl, Nat.le_of_ble_eq_true rfl⟩ ⟨Nat.zero_le _, Nat.zero_le _⟩ hP [0, 1, 2, 3, 4, 5, 6, 7, 8, 9, 10, 11] rfl rfl rfl rfl hl.1 rfl (Nat.le_of_ble_eq_true rfl) dX11_door_35 (fun n7 => ?_)
              refine lv_if_ne (tgt := 60) hx hb dX11_door_38 (by decide) (fun c8 => ?_) (fun c8 => ?_)
              · have h := im c8 h
                obtain rfl := Option.some.inj h
                exact k32_0 _ (lv_sub hl [0, 1, 2, 3] rfl)
              · have h := ip c8 h
                refine lv_aload_n hx hb dX11_door_41 rfl (lv_at hl 0 rfl) ?_
                refine lv_iload hx hb dX11_door_42 (lv_at hl 4 rfl) ?_
                refine lv_iload_n hx hb dX11_door_44 rfl (lv_at hl 1 rfl) ?_
                obtain ⟨r9, e9, h⟩ := bd h
                refine roV X [.int y32_4, .int p1] [] (c_Mo_doorFrom l D cC cI cZ a_this a_now a_undos a_seen a_seenAs a_isKept a_kept a_text a_read a_fewest a_doors a_isSo v_undoMany v_undoAt v_seenMany v_letterMany v_readAt v_tokenAt v_token v_value v_faultAt v_readOnce v_greatUpper v_greatLower A_now A_undos A_seen A_seenAs A_isKept A_kept A_text A_read A_fewest A_doors A_isSo y32_4 p1 r9 e9) gg_X11_146 hd_Mo_doorFrom ⟨rfl, rfl, Nat.le_of_ble_eq_true rfl, Nat.le_of_ble_eq_true rfl⟩ ⟨Nat.zero_le _, Nat.zero_le _⟩ hP [0, 1, 2, 3, 4, 5, 6, 7, 8, 9, 10, 11] rfl rfl rfl rfl hl.1 rfl (Nat.le_of_ble_eq_true rfl) dX11_door_45 (fun n9 => ?_)
                refine lv_istore (lv' := [(4, .int r9), (0, .ref a_this), (1, .int p1), (2, .int y32_2), (3, .int y4_3)]) hx hb dX11_door_48 hl (by decide) rfl (fun ls hl => ?_)
                refine lv_iload_n hx hb dX11_door_50 rfl (lv_at hl 3 rfl) ?_
                refine lv_iconst (v := (1 : Int32)) hx hb dX11_door_51 rfl ?_
                refine lv_iload hx hb dX11_door_52 (lv_at hl 0 rfl) ?_
                refine lv_ishl hx hb dX11_door_54 ?_
                refine lv_ior hx hb dX11_door_55 ?_
                refine lv_istore_n (lv' := [(2, .int (y32_2 ||| ((1 : Int32) <<< (r9 &&& 31)))), (4, .int r9), (0, .ref a_this), (1, .int p1), (3, .int y4_3)]) hx hb dX11_door_56 rfl hl (by decide) rfl (fun ls hl => ?_)
                refine lv_goto (tgt := 32) hx hb dX11_door_57 (by decide) ?_
                exact ih32 (y32_2 ||| ((1 : Int32) <<< (r9 &&& 31))) r9 _ h _ (lv_sub hl [2, 3, 0, 4, 1] rfl) k32_0
          obtain ⟨z6, e6, h⟩ := bd h
          refine LP32 fu (y4_2 ||| ((1 : Int32) <<< (y4_3 &&& 31))) y4_3 z6 e6 _ (lv_sub hl [2, 3, 0, 4, 1] rfl) ?_
          intro ls hl
          refine lv_iinc (v := (y4_3 + (1 : Int32))) (lv' := [(3, .int (y4_3 + (1 : Int32))), (0, .ref a_this), (1, .int p1), (2, .int z6)]) hx hb dX11_door_60 hl (k := 3) rfl rfl (by decide) rfl (fun ls hl => ?_)
          refine lv_goto (tgt := 4) hx hb dX11_door_63 (by decide) ?_
          exact ih4 z6 (y4_3 + (1 : Int32)) _ h _ (lv_sub hl [1, 2, 3, 0] rfl) k4_0
  obtain ⟨z1, e1, h⟩ := bd h
  refine LP4 fu (0 : Int32) (0 : Int32) z1 e1 _ (lv_sub hl [2, 3, 1, 0] rfl) ?_
  intro ls hl
  refine lv_iload_n hx hb dX11_door_66 rfl (lv_at hl 0 rfl) ?_
  exact hret _ _ _ dX11_door_67 (Option.some.inj h) rfl
set_option maxHeartbeats 4000000 in
set_option maxRecDepth 100000 in
theorem c_Mo_has (l : Launch) (D : va_G) (cC cI cZ : ClassId)   (p0 : Int32) (p1 : Int32) (r : Int32) (h : f_Mo_has p0 p1 = r) : Met l yX11_has (.code yX11_has cX11_has 2 (some .boolean) :: TBL) (RM 0 0) (PcR [.int p0, .int p1] D (TY cC cI cZ) []) (vp_Si (PO .boolean r)) 0 0 (fun _ => False) := by
  refine roOf (by decide) (Nat.le_of_ble_eq_true rfl) rfl ?_
  intro p e s m args below meth c Q ls X hP hl hret
  have X : Ctx p s m args c cX11_has 2 RX11 D (TY cC cI cZ) := X
  obtain ⟨hx, hb, hml, hown, htT, hK, hN⟩ := id X
  unfold f_Mo_has at h
  refine lv_iload_n hx hb dX11_has_0 rfl (lv_at hl 0 rfl) ?_
  refine lv_iload_n hx hb dX11_has_1 rfl (lv_at hl 1 rfl) ?_
  refine lv_ishr hx hb dX11_has_2 ?_
  refine lv_iconst (v := (1 : Int32)) hx hb dX11_has_3 rfl ?_
  refine lv_iand hx hb dX11_has_4 ?_
  refine lv_iconst (v := (1 : Int32)) hx hb dX11_has_5 rfl ?_
  refine lv_icmp_ne (tgt := 13) hx hb dX11_has_6 (by decide) (fun c1 => ?_) (fun c1 => ?_)
  · have h := im c1 h
    refine lv_iconst (v := (0 : Int32)) hx hb dX11_has_13 rfl ?_
    exact hret _ _ _ dX11_has_14 h rfl
  · have h := ip c1 h
    refine lv_iconst (v := (1 : Int32)) hx hb dX11_has_9 rfl ?_
    refine lv_goto (tgt := 14) hx hb dX11_has_10 (by decide) ?_
    exact hret _ _ _ dX11_has_14 h rfl
set_option maxHeartbeats 4000000 in
set_option maxRecDepth 100000 in
theorem c_Mo_layUnseen (l : Launch) (D : va_G) (cC cI cZ : ClassId) (a_this : Nat) (a_now : Nat) (a_undos : Nat) (a_seen : Nat) (a_seenAs : Nat) (a_isKept : Nat) (a_kept : Nat) (a_text : Nat) (a_read : Nat) (a_fewest : Nat) (a_doors : Nat) (a_isSo : Nat) (v_undoMany : Int32) (v_undoAt : Int32) (v_seenMany : Int32) (v_letterMany : Int32) (v_readAt : Int32) (v_tokenAt : Int32) (v_token : Int32) (v_value : Int32) (v_faultAt : Int32) (v_readOnce : Int32) (v_greatUpper : Int64) (v_greatLower : Int64) (A_now : Nat → Int32) (A_undos : Nat → Int32) (A_seen : Nat → Int32) (A_seenAs : Nat → Int32) (A_isKept : Nat → Int32) (A_kept : Nat → Int32) (A_text : Nat → Int32) (A_read : Nat → Int32) (A_fewest : Nat → Int32) (A_doors : Nat → Int32) (A_isSo : Nat → Int32)  (sz : Nat) (z : Int32 × (Nat → Int32) × (Nat → Int32)) (h : f_Mo_layUnseen v_seenMany A_now A_seen A_seenAs A_doors A_isSo = some z) : Met l yX11_layUnseen (.code yX11_layUnseen cX11_layUnseen 5 (some .int) :: TBL) (RM 6 132) (PcM [.ref a_this] sz D (TY cC cI cZ) (k_Mo cC cI cZ a_this a_now a_undos a_seen a_seenAs a_isKept a_kept a_text a_read a_fewest a_doors a_isSo v_undoMany v_undoAt v_seenMany v_letterMany v_readAt v_tokenAt v_token v_value v_faultAt v_readOnce v_greatUpper v_greatLower A_now A_undos A_seen A_seenAs A_isKept A_kept A_text A_read A_fewest A_doors A_isSo)) (fun a st o t => QM (some (.int z.1)) D (k_Mo cC cI cZ a_this a_now a_undos a_seen a_seenAs a_isKept a_kept a_text a_read a_fewest a_doors a_isSo v_undoMany v_undoAt v_seenMany v_letterMany v_readAt v_tokenAt v_token v_value v_faultAt v_readOnce v_greatUpper v_greatLower A_now A_undos A_seen A_seenAs A_isKept A_kept A_text A_read A_fewest z.2.1 z.2.2) (va_A (k_Mo cC cI cZ a_this a_now a_undos a_seen a_seenAs a_isKept a_kept a_text a_read a_fewest a_doors a_isSo v_undoMany v_undoAt v_seenMany v_letterMany v_readAt v_tokenAt v_token v_value v_faultAt v_readOnce v_greatUpper v_greatLower A_now A_undos A_seen A_seenAs A_isKept A_kept A_text A_read A_fewest A_doors A_isSo) sz) a st o t ∧ narrow .int (.int z.1) = .int z.1) 0 0 (va_A (k_Mo cC cI cZ a_this a_now a_undos a_seen a_seenAs a_isKept a_kept a_text a_read a_fewest a_doors a_isSo v_undoMany v_undoAt v_seenMany v_letterMany v_readAt v_tokenAt v_token v_value v_faultAt v_readOnce v_greatUpper v_greatLower A_now A_undos A_seen A_seenAs A_isKept A_kept A_text A_read A_fewest A_doors A_isSo) sz) := by
  refine muOf (by decide) (Nat.le_of_ble_eq_true rfl) rfl ?_
  intro p e s m args below meth c Q ls A X hP hD hS hA hl hret
  have X : Ctx p s m args c cX11_layUnseen 5 RX11 D (TY cC cI cZ) := X
  obtain ⟨hx, hb, hml, hown, htT, hK, hN⟩ := id X
  unfold f_Mo_layUnseen at h
  refine lv_iconst (v := (0 : Int32)) hx hb dX11_layUnseen_0 rfl ?_
  refine lv_istore_n (lv' := [(1, .int (0 : Int32)), (0, .ref a_this)]) hx hb dX11_layUnseen_1 rfl hl (by decide) rfl (fun ls hl => ?_)
  refine lv_iconst (v := (0 : Int32)) hx hb dX11_layUnseen_2 rfl ?_
  refine lv_istore_n (lv' := [(2, .int (0 : Int32)), (1, .int (0 : Int32)), (0, .ref a_this)]) hx hb dX11_layUnseen_3 rfl hl (by decide) rfl (fun ls hl => ?_)
  have LP4 : ∀ (n : Nat) (y4_1 : Int32) (y4_2 : Int32) (A_doors_4 : Nat → Int32) (A_isSo_4 : Nat → Int32) (zq4 : Int32 × (Nat → Int32) × (Nat → Int32)), f_Mo_layUnseen_L4 v_seenMany A_now A_seen A_seenAs n y4_1 y4_2 A_doors_4 A_isSo_4 = some zq4 → ∀ (H : Heap) (locs : List Loc) (ls : Array Slot), va_P D vwCl (k_Mo cC cI cZ a_this a_now a_undos a_seen a_seenAs a_isKept a_kept a_text a_read a_fewest a_doors a_isSo v_undoMany v_undoAt v_seenMany v_letterMany v_readAt v_tokenAt v_token v_value v_faultAt v_readOnce v_greatUpper v_greatLower A_now A_undos A_seen A_seenAs A_isKept A_kept A_text A_read A_fewest A_doors_4 A_isSo_4) H → va_D A (k_Mo cC cI cZ a_this a_now a_undos a_seen a_seenAs a_isKept a_kept a_text a_read a_fewest a_doors a_isSo v_undoMany v_undoAt v_seenMany v_letterMany v_readAt v_tokenAt v_token v_value v_faultAt v_readOnce v_greatUpper v_greatLower A_now A_undos A_seen A_seenAs A_isKept A_kept A_text A_read A_fewest A_doors_4 A_isSo_4) → va_S A s.heap H locs → lv_has ls 5 [(0, .ref a_this), (1, .int y4_1), (2, .int y4_2)] → (∀ (H : Heap) (locs : List Loc) (ls : Array Slot), va_P D vwCl (k_Mo cC cI cZ a_this a_now a_undos a_seen a_seenAs a_isKept a_kept a_text a_read a_fewest a_doors a_isSo v_undoMany v_undoAt v_seenMany v_letterMany v_readAt v_tokenAt v_token v_value v_faultAt v_readOnce v_greatUpper v_greatLower A_now A_undos A_seen A_seenAs A_isKept A_kept A_text A_read A_fewest zq4.2.1 zq4.2.2) H → va_D A (k_Mo cC cI cZ a_this a_now a_undos a_seen a_seenAs a_isKept a_kept a_text a_read a_fewest a_doors a_isSo v_undoMany v_undoAt v_seenMany v_letterMany v_readAt v_tokenAt v_token v_value v_faultAt v_readOnce v_greatUpper v_greatLower A_now A_undos A_seen A_seenAs A_isKept A_kept A_text A_read A_fewest zq4.2.1 zq4.2.2) → va_S A s.heap H locs → lv_has ls 5 [(1, .int zq4.1)] → W p l e (RM 6 132) s m args below meth c H locs 0 0 Q (F0 m 110 ls [])) → W p l e (RM 6 132) s m args below meth c H locs 0 0 Q (F0 m 4 ls []) := by
    clear h
    intro n
    induction n with
    | zero =>
      intro y4_1 y4_2 A_doors_4 A_isSo_4 zq4 h
      rw [f_Mo_layUnseen_L4_0] at h
      cases h
    | succ n ih4 =>
      intro y4_1 y4_2 A_doors_4 A_isSo_4 zq4 h H locs ls hP hD hS hl k4_0
      rw [f_Mo_layUnseen_L4_s] at h
      refine lv_iload_n hx hb dX11_layUnseen_4 rfl (lv_at hl 2 rfl) ?_
      refine lv_bipush (v := (100 : Int32)) hx hb dX11_layUnseen_5 rfl ?_
      refine lv_icmp_ge (tgt := 110) hx hb dX11_layUnseen_7 (by decide) (fun c2 => ?_) (fun c2 => ?_)
      · have h := ip c2 h
        obtain rfl := Option.some.inj h
        exact k4_0 _ _ _ hP hD hS (lv_sub hl [1] rfl)
      · have h := im c2 h
        refine lv_aload_n hx hb dX11_layUnseen_10 rfl (lv_at hl 0 rfl) ?_
        refine va_get (ci := 11) (v := .ref a_doors) (C := RX11) (T := TX11) (N := 23) hx hb htT inlX11 hown hK hP 0 rfl rfl 21 (by decide) (htT _ q_7_10) (fun _ h9 => h9) rfl dX11_layUnseen_11 ?_
        refine lv_iload_n hx hb dX11_layUnseen_14 rfl (lv_at hl 2 rfl) ?_
        refine lv_aload_n hx hb dX11_layUnseen_15 rfl (lv_at hl 0 rfl) ?_
        refine lv_iload_n hx hb dX11_layUnseen_16 rfl (lv_at hl 2 rfl) ?_
        obtain ⟨r3, e3, h⟩ := bd h
        refine roV X [.int y4_2] [.int y4_2, .ref a_doors] (c_Mo_door l D cC cI cZ a_this a_now a_undos a_seen a_seenAs a_isKept a_kept a_text a_read a_fewest a_doors a_isSo v_undoMany v_undoAt v_seenMany v_letterMany v_readAt v_tokenAt v_token v_value v_faultAt v_readOnce v_greatUpper v_greatLower A_now A_undos A_seen A_seenAs A_isKept A_kept A_text A_read A_fewest A_doors_4 A_isSo_4 y4_2 r3 e3) gg_X11_172 hd_Mo_door ⟨rfl, rfl, Nat.le_of_ble_eq_true rfl, Nat.le_of_ble_eq_true rfl⟩ ⟨Nat.zero_le _, Nat.zero_le _⟩ hP [0, 1, 2, 3, 4, 5, 6, 7, 8, 9, 10, 11] rfl rfl rfl rfl hl.1 rfl (Nat.le_of_ble_eq_true rfl) dX11_layUnseen_17 (fun n3 => ?_)
        obtain ⟨g4, h⟩ := gd h
        refine va_iast hx hb hK hP hD hS 10 1 rfl rfl (inB_in g4) dX11_layUnseen_20 (fun H locs hP hD hS => ?_)
        have hP : va_P D vwCl (k_Mo cC cI cZ a_this a_now a_undos a_seen a_seenAs a_isKept a_kept a_text a_read a_fewest a_doors a_isSo v_undoMany v_undoAt v_seenMany v_letterMany v_readAt v_tokenAt v_token v_value v_faultAt v_readOnce v_greatUpper v_greatLower A_now A_undos A_seen A_seenAs A_isKept A_kept A_text A_read A_fewest (upd A_doors_4 (y4_2).toNatClampNeg r3) A_isSo_4) H := hP
        have hD : va_D A (k_Mo cC cI cZ a_this a_now a_undos a_seen a_seenAs a_isKept a_kept a_text a_read a_fewest a_doors a_isSo v_undoMany v_undoAt v_seenMany v_letterMany v_readAt v_tokenAt v_token v_value v_faultAt v_readOnce v_greatUpper v_greatLower A_now A_undos A_seen A_seenAs A_isKept A_kept A_text A_read A_fewest (upd A_doors_4 (y4_2).toNatClampNeg r3) A_isSo_4) := hD
        refine lv_iconst (v := (1 : Int32)) hx hb dX11_layUnseen_21 rfl ?_
        refine lv_istore_n (lv' := [(3, .int (1 : Int32)), (0, .ref a_this), (1, .int y4_1), (2, .int y4_2)]) hx hb dX11_layUnseen_22 rfl hl (by decide) rfl (fun ls hl => ?_)
        refine lv_iconst (v := (0 : Int32)) hx hb dX11_layUnseen_23 rfl ?_
        refine lv_istore (lv' := [(4, .int (0 : Int32)), (3, .int (1 : Int32)), (0, .ref a_this), (1, .int y4_1), (2, .int y4_2)]) hx hb dX11_layUnseen_24 hl (by decide) rfl (fun ls hl => ?_)
        have LP26 : ∀ (n : Nat) (y26_3 : Int32) (y26_4 : Int32) (zq26 : Int32), f_Mo_layUnseen_L26 y4_1 y4_2 v_seenMany A_seen A_seenAs (upd A_doors_4 (y4_2).toNatClampNeg r3) n y26_3 y26_4 = some zq26 → ∀ (H : Heap) (locs : List Loc) (ls : Array Slot), va_P D vwCl (k_Mo cC cI cZ a_this a_now a_undos a_seen a_seenAs a_isKept a_kept a_text a_read a_fewest a_doors a_isSo v_undoMany v_undoAt v_seenMany v_letterMany v_readAt v_tokenAt v_token v_value v_faultAt v_readOnce v_greatUpper v_greatLower A_now A_undos A_seen A_seenAs A_isKept A_kept A_text A_read A_fewest (upd A_doors_4 (y4_2).toNatClampNeg r3) A_isSo_4) H → va_D A (k_Mo cC cI cZ a_this a_now a_undos a_seen a_seenAs a_isKept a_kept a_text a_read a_fewest a_doors a_isSo v_undoMany v_undoAt v_seenMany v_letterMany v_readAt v_tokenAt v_token v_value v_faultAt v_readOnce v_greatUpper v_greatLower A_now A_undos A_seen A_seenAs A_isKept A_kept A_text A_read A_fewest (upd A_doors_4 (y4_2).toNatClampNeg r3) A_isSo_4) → va_S A s.heap H locs → lv_has ls 5 [(0, .ref a_this), (1, .int y4_1), (2, .int y4_2), (3, .int y26_3), (4, .int y26_4)] → (∀ (H : Heap) (locs : List Loc) (ls : Array Slot), va_P D vwCl (k_Mo cC cI cZ a_this a_now a_undos a_seen a_seenAs a_isKept a_kept a_text a_read a_fewest a_doors a_isSo v_undoMany v_undoAt v_seenMany v_letterMany v_readAt v_tokenAt v_token v_value v_faultAt v_readOnce v_greatUpper v_greatLower A_now A_undos A_seen A_seenAs A_isKept A_kept A_text A_read A_fewest (upd A_doors_4 (y4_2).toNatClampNeg r3) A_isSo_4) H → va_D A (k_Mo cC cI cZ a_this a_now a_undos a_seen a_seenAs a_isKept a_kept a_text a_read a_fewest a_doors a_isSo v_undoMany v_undoAt v_seenMany v_letterMany v_readAt v_tokenAt v_token v_value v_faultAt v_readOnce v_greatUpper v_greatLower A_now A_undos A_seen A_seenAs A_isKept A_kept A_text A_read A_fewest (upd A_doors_4 (y4_2).toNatClampNeg r3) A_isSo_4) → va_S A s.heap H locs → lv_has ls 5 [(0, .ref a_this), (1, .int y4_1), (2, .int y4_2), (3, .int zq26)] → W p l e (RM 6 132) s m args below meth c H locs 0 0 Q (F0 m 85 ls [])) → W p l e (RM 6 132) s m args below meth c H locs 0 0 Q (F0 m 26 ls []) := by
          clear h
          intro n
          induction n with
          | zero =>
            intro y26_3 y26_4 zq26 h
            rw [f_Mo_layUnseen_L26_0] at h
            cases h
          | succ n ih26 =>
            intro y26_3 y26_4 zq26 h H locs ls hP hD hS hl k26_0
            rw [f_Mo_layUnseen_L26_s] at h
            refine lv_iload hx hb dX11_layUnseen_26 (lv_at hl 4 rfl) ?_
            refine lv_aload_n hx hb dX11_layUnseen_28 rfl (lv_at hl 0 rfl) ?_
            refine va_get (ci := 11) (v := .int v_seenMany) (C := RX11) (T := TX11) (N := 23) hx hb htT inlX11 hown hK hP 0 rfl rfl 4 (by decide) (htT _ q_14_1) (fun _ h9 => h9) rfl dX11_layUnseen_29 ?_
            refine lv_icmp_ge (tgt := 85) hx hb dX11_layUnseen_32 (by decide) (fun c6 => ?_) (fun c6 => ?_)
            · have h := ip c6 h
              obtain rfl := Option.some.inj h
              exact k26_0 _ _ _ hP hD hS (lv_sub hl [0, 1, 2, 3] rfl)
            · have h := im c6 h
              refine lv_iload_n hx hb dX11_layUnseen_35 rfl (lv_at hl 3 rfl) ?_
              refine lv_if_eq (tgt := 77) hx hb dX11_layUnseen_36 (by decide) (fun c7 => ?_) (fun c7 => ?_)
              · have h := ip c7 h
                refine lv_iconst (v := (0 : Int32)) hx hb dX11_layUnseen_77 rfl ?_
                refine lv_istore_n (lv' := [(3, .int (0 : Int32)), (0, .ref a_this), (1, .int y4_1), (2, .int y4_2), (4, .int y26_4)]) hx hb dX11_layUnseen_78 rfl hl (by decide) rfl (fun ls hl => ?_)
                refine lv_iinc (v := (y26_4 + (1 : Int32))) (lv' := [(4, .int (y26_4 + (1 : Int32))), (3, .int (0 : Int32)), (0, .ref a_this), (1, .int y4_1), (2, .int y4_2)]) hx hb dX11_layUnseen_79 hl (k := 4) rfl rfl (by decide) rfl (fun ls hl => ?_)
                refine lv_goto (tgt := 26) hx hb dX11_layUnseen_82 (by decide) ?_
                exact ih26 (0 : Int32) (y26_4 + (1 : Int32)) _ h _ _ _ hP hD hS (lv_sub hl [2, 3, 4, 1, 0] rfl) k26_0
              · have h := im c7 h
                refine lv_aload_n hx hb dX11_layUnseen_39 rfl (lv_at hl 0 rfl) ?_
                refine va_get (ci := 11) (v := .ref a_doors) (C := RX11) (T := TX11) (N := 23) hx hb htT inlX11 hown hK hP 0 rfl rfl 21 (by decide) (htT _ q_7_10) (fun _ h9 => h9) rfl dX11_layUnseen_40 ?_
                refine lv_iload_n hx hb dX11_layUnseen_43 rfl (lv_at hl 2 rfl) ?_
                obtain ⟨g8, h⟩ := gd h
                refine va_iald hx hb hK hP 10 1 rfl rfl (inB_in g8) dX11_layUnseen_44 ?_
                refine lv_aload_n hx hb dX11_layUnseen_45 rfl (lv_at hl 0 rfl) ?_
                refine va_get (ci := 11) (v := .ref a_seen) (C := RX11) (T := TX11) (N := 23) hx hb htT inlX11 hown hK hP 0 rfl rfl 5 (by decide) (htT _ q_7_2) (fun _ h9 => h9) rfl dX11_layUnseen_46 ?_
                refine lv_iload hx hb dX11_layUnseen_49 (lv_at hl 4 rfl) ?_
                obtain ⟨g9, h⟩ := gd h
                refine va_iald hx hb hK hP 3 1 rfl rfl (inB_in g9) dX11_layUnseen_51 ?_
                refine roS X [.int ((upd A_doors_4 (y4_2).toNatClampNeg r3) (y4_2).toNatClampNeg), .int (A_seen (y26_4).toNatClampNeg)] [] (c_Mo_has l D cC cI cZ ((upd A_doors_4 (y4_2).toNatClampNeg r3) (y4_2).toNatClampNeg) (A_seen (y26_4).toNatClampNeg) _ rfl) gg_X11_87 hd_Mo_has ⟨rfl, rfl, Nat.le_of_ble_eq_true rfl, Nat.le_of_ble_eq_true rfl⟩ ⟨Nat.zero_le _, Nat.zero_le _⟩ hP [] rfl hl.1 rfl (Nat.le_of_ble_eq_true rfl) dX11_layUnseen_52 (fun n10 => ?_)
                refine lv_if_eq (tgt := 62) hx hb dX11_layUnseen_55 (by decide) (fun c11 => ?_) (fun c11 => ?_)
                · have h := ip c11 h
                  refine lv_iconst (v := (0 : Int32)) hx hb dX11_layUnseen_62 rfl ?_
                  refine lv_aload_n hx hb dX11_layUnseen_63 rfl (lv_at hl 0 rfl) ?_
                  refine va_get (ci := 11) (v := .ref a_seenAs) (C := RX11) (T := TX11) (N := 23) hx hb htT inlX11 hown hK hP 0 rfl rfl 6 (by decide) (htT _ q_7_3) (fun _ h9 => h9) rfl dX11_layUnseen_64 ?_
                  refine lv_iload hx hb dX11_layUnseen_67 (lv_at hl 4 rfl) ?_
                  obtain ⟨g12, h⟩ := gd h
                  refine va_iald hx hb hK hP 4 1 rfl rfl (inB_in g12) dX11_layUnseen_69 ?_
                  refine lv_icmp_ne (tgt := 77) hx hb dX11_layUnseen_70 (by decide) (fun c13 => ?_) (fun c13 => ?_)
                  · have h := im c13 h
                    refine lv_iconst (v := (0 : Int32)) hx hb dX11_layUnseen_77 rfl ?_
                    refine lv_istore_n (lv' := [(3, .int (0 : Int32)), (0, .ref a_this), (1, .int y4_1), (2, .int y4_2), (4, .int y26_4)]) hx hb dX11_layUnseen_78 rfl hl (by decide) rfl (fun ls hl => ?_)
                    refine lv_iinc (v := (y26_4 + (1 : Int32))) (lv' := [(4, .int (y26_4 + (1 : Int32))), (3, .int (0 : Int32)), (0, .ref a_this), (1, .int y4_1), (2, .int y4_2)]) hx hb dX11_layUnseen_79 hl (k := 4) rfl rfl (by decide) rfl (fun ls hl => ?_)
                    refine lv_goto (tgt := 26) hx hb dX11_layUnseen_82 (by decide) ?_
                    exact ih26 (0 : Int32) (y26_4 + (1 : Int32)) _ h _ _ _ hP hD hS (lv_sub hl [2, 3, 4, 1, 0] rfl) k26_0
                  · have h := ip c13 h
                    refine lv_iconst (v := (1 : Int32)) hx hb dX11_layUnseen_73 rfl ?_
                    refine lv_goto (tgt := 78) hx hb dX11_layUnseen_74 (by decide) ?_
                    refine lv_istore_n (lv' := [(3, .int (1 : Int32)), (0, .ref a_this), (1, .int y4_1), (2, .int y4_2), (4, .int y26_4)]) hx hb dX11_layUnseen_78 rfl hl (by decide) rfl (fun ls hl => ?_)
                    refine lv_iinc (v := (y26_4 + (1 : Int32))) (lv' := [(4, .int (y26_4 + (1 : Int32))), (3, .int (1 : Int32)), (0, .ref a_this), (1, .int y4_1), (2, .int y4_2)]) hx hb dX11_layUnseen_79 hl (k := 4) rfl rfl (by decide) rfl (fun ls hl => ?_)
                    refine lv_goto (tgt := 26) hx hb dX11_layUnseen_82 (by decide) ?_
                    exact ih26 (1 : Int32) (y26_4 + (1 : Int32)) _ h _ _ _ hP hD hS (lv_sub hl [2, 3, 4, 1, 0] rfl) k26_0
                · have h := im c11 h
                  refine lv_iconst (v := (1 : Int32)) hx hb dX11_layUnseen_58 rfl ?_
                  refine lv_goto (tgt := 63) hx hb dX11_layUnseen_59 (by decide) ?_
                  refine lv_aload_n hx hb dX11_layUnseen_63 rfl (lv_at hl 0 rfl) ?_
                  refine va_get (ci := 11) (v := .ref a_seenAs) (C := RX11) (T := TX11) (N := 23) hx hb htT inlX11 hown hK hP 0 rfl rfl 6 (by decide) (htT _ q_7_3) (fun _ h9 => h9) rfl dX11_layUnseen_64 ?_
                  refine lv_iload hx hb dX11_layUnseen_67 (lv_at hl 4 rfl) ?_
                  obtain ⟨g14, h⟩ := gd h
                  refine va_iald hx hb hK hP 4 1 rfl rfl (inB_in g14) dX11_layUnseen_69 ?_
                  refine lv_icmp_ne (tgt := 77) hx hb dX11_layUnseen_70 (by decide) (fun c15 => ?_) (fun c15 => ?_)
                  · have h := im c15 h
                    refine lv_iconst (v := (0 : Int32)) hx hb dX11_layUnseen_77 rfl ?_
                    refine lv_istore_n (lv' := [(3, .int (0 : Int32)), (0, .ref a_this), (1, .int y4_1), (2, .int y4_2), (4, .int y26_4)]) hx hb dX11_layUnseen_78 rfl hl (by decide) rfl (fun ls hl => ?_)
                    refine lv_iinc (v := (y26_4 + (1 : Int32))) (lv' := [(4, .int (y26_4 + (1 : Int32))), (3, .int (0 : Int32)), (0, .ref a_this), (1, .int y4_1), (2, .int y4_2)]) hx hb dX11_layUnseen_79 hl (k := 4) rfl rfl (by decide) rfl (fun ls hl => ?_)
                    refine lv_goto (tgt := 26) hx hb dX11_layUnseen_82 (by decide) ?_
                    exact ih26 (0 : Int32) (y26_4 + (1 : Int32)) _ h _ _ _ hP hD hS (lv_sub hl [2, 3, 4, 1, 0] rfl) k26_0
                  · have h := ip c15 h
                    refine lv_iconst (v := (1 : Int32)) hx hb dX11_layUnseen_73 rfl ?_
                    refine lv_goto (tgt := 78) hx hb dX11_layUnseen_74 (by decide) ?_
                    refine lv_istore_n (lv' := [(3, .int (1 : Int32)), (0, .ref a_this), (1, .int y4_1), (2, .int y4_2), (4, .int y26_4)]) hx hb dX11_layUnseen_78 rfl hl (by decide) rfl (fun ls hl => ?_)
                    refine lv_iinc (v := (y26_4 + (1 : Int32))) (lv' := [(4, .int (y26_4 + (1 : Int32))), (3, .int (1 : Int32)), (0, .ref a_this), (1, .int y4_1), (2, .int y4_2)]) hx hb dX11_layUnseen_79 hl (k := 4) rfl rfl (by decide) rfl (fun ls hl => ?_)
                    refine lv_goto (tgt := 26) hx hb dX11_layUnseen_82 (by decide) ?_
                    exact ih26 (1 : Int32) (y26_4 + (1 : Int32)) _ h _ _ _ hP hD hS (lv_sub hl [2, 3, 4, 1, 0] rfl) k26_0
        obtain ⟨z5, e5, h⟩ := bd h
        refine LP26 fu (1 : Int32) (0 : Int32) z5 e5 _ _ _ hP hD hS (lv_sub hl [2, 3, 4, 1, 0] rfl) ?_
        intro H locs ls hP hD hS hl
        refine lv_aload_n hx hb dX11_layUnseen_85 rfl (lv_at hl 0 rfl) ?_
        refine va_get (ci := 11) (v := .ref a_isSo) (C := RX11) (T := TX11) (N := 23) hx hb htT inlX11 hown hK hP 0 rfl rfl 22 (by decide) (htT _ q_7_11) (fun _ h9 => h9) rfl dX11_layUnseen_86 ?_
        refine lv_iload_n hx hb dX11_layUnseen_89 rfl (lv_at hl 2 rfl) ?_
        refine lv_iload_n hx hb dX11_layUnseen_90 rfl (lv_at hl 3 rfl) ?_
        obtain ⟨g16, h⟩ := gd h
        refine va_zast hx hb hK hP hD hS 11 2 rfl rfl (inB_in g16) dX11_layUnseen_91 (fun H locs hP hD hS => ?_)
        have hP : va_P D vwCl (k_Mo cC cI cZ a_this a_now a_undos a_seen a_seenAs a_isKept a_kept a_text a_read a_fewest a_doors a_isSo v_undoMany v_undoAt v_seenMany v_letterMany v_readAt v_tokenAt v_token v_value v_faultAt v_readOnce v_greatUpper v_greatLower A_now A_undos A_seen A_seenAs A_isKept A_kept A_text A_read A_fewest (upd A_doors_4 (y4_2).toNatClampNeg r3) (upd A_isSo_4 (y4_2).toNatClampNeg (vp_nar .boolean z5))) H := hP
        have hD : va_D A (k_Mo cC cI cZ a_this a_now a_undos a_seen a_seenAs a_isKept a_kept a_text a_read a_fewest a_doors a_isSo v_undoMany v_undoAt v_seenMany v_letterMany v_readAt v_tokenAt v_token v_value v_faultAt v_readOnce v_greatUpper v_greatLower A_now A_undos A_seen A_seenAs A_isKept A_kept A_text A_read A_fewest (upd A_doors_4 (y4_2).toNatClampNeg r3) (upd A_isSo_4 (y4_2).toNatClampNeg (vp_nar .boolean z5))) := hD
        refine lv_iload_n hx hb dX11_layUnseen_92 rfl (lv_at hl 1 rfl) ?_
        refine lv_iload_n hx hb dX11_layUnseen_93 rfl (lv_at hl 3 rfl) ?_
        refine lv_if_eq (tgt := 101) hx hb dX11_layUnseen_94 (by decide) (fun c17 => ?_) (fun c17 => ?_)
        · have h := ip c17 h
          refine lv_iconst (v := (0 : Int32)) hx hb dX11_layUnseen_101 rfl ?_
          refine lv_iadd hx hb dX11_layUnseen_102 ?_
          refine lv_istore_n (lv' := [(1, .int (y4_1 + (0 : Int32))), (0, .ref a_this), (2, .int y4_2), (3, .int z5)]) hx hb dX11_layUnseen_103 rfl hl (by decide) rfl (fun ls hl => ?_)
          refine lv_iinc (v := (y4_2 + (1 : Int32))) (lv' := [(2, .int (y4_2 + (1 : Int32))), (1, .int (y4_1 + (0 : Int32))), (0, .ref a_this), (3, .int z5)]) hx hb dX11_layUnseen_104 hl (k := 2) rfl rfl (by decide) rfl (fun ls hl => ?_)
          refine lv_goto (tgt := 4) hx hb dX11_layUnseen_107 (by decide) ?_
          exact ih4 (y4_1 + (0 : Int32)) (y4_2 + (1 : Int32)) (upd A_doors_4 (y4_2).toNatClampNeg r3) (upd A_isSo_4 (y4_2).toNatClampNeg (vp_nar .boolean z5)) _ h _ _ _ hP hD hS (lv_sub hl [2, 1, 0] rfl) k4_0
        · have h := im c17 h
          refine lv_iconst (v := (1 : Int32)) hx hb dX11_layUnseen_97 rfl ?_
          refine lv_goto (tgt := 102) hx hb dX11_layUnseen_98 (by decide) ?_
          refine lv_iadd hx hb dX11_layUnseen_102 ?_
          refine lv_istore_n (lv' := [(1, .int (y4_1 + (1 : Int32))), (0, .ref a_this), (2, .int y4_2), (3, .int z5)]) hx hb dX11_layUnseen_103 rfl hl (by decide) rfl (fun ls hl => ?_)
          refine lv_iinc (v := (y4_2 + (1 : Int32))) (lv' := [(2, .int (y4_2 + (1 : Int32))), (1, .int (y4_1 + (1 : Int32))), (0, .ref a_this), (3, .int z5)]) hx hb dX11_layUnseen_104 hl (k := 2) rfl rfl (by decide) rfl (fun ls hl => ?_)
          refine lv_goto (tgt := 4) hx hb dX11_layUnseen_107 (by decide) ?_
          exact ih4 (y4_1 + (1 : Int32)) (y4_2 + (1 : Int32)) (upd A_doors_4 (y4_2).toNatClampNeg r3) (upd A_isSo_4 (y4_2).toNatClampNeg (vp_nar .boolean z5)) _ h _ _ _ hP hD hS (lv_sub hl [2, 1, 0] rfl) k4_0
  obtain ⟨z1, e1, h⟩ := bd h
  refine LP4 fu (0 : Int32) (0 : Int32) A_doors A_isSo z1 e1 _ _ _ hP hD hS (lv_sub hl [2, 1, 0] rfl) ?_
  intro H locs ls hP hD hS hl
  refine lv_iload_n hx hb dX11_layUnseen_110 rfl (lv_at hl 0 rfl) ?_
  obtain rfl := Option.some.inj h
  exact hret _ _ _ _ _ hP hS dX11_layUnseen_111 rfl rfl
set_option maxHeartbeats 4000000 in
set_option maxRecDepth 100000 in
theorem c_Mo_ask (l : Launch) (D : va_G) (cC cI cZ : ClassId) (a_this : Nat) (a_now : Nat) (a_undos : Nat) (a_seen : Nat) (a_seenAs : Nat) (a_isKept : Nat) (a_kept : Nat) (a_text : Nat) (a_read : Nat) (a_fewest : Nat) (a_doors : Nat) (a_isSo : Nat) (v_undoMany : Int32) (v_undoAt : Int32) (v_seenMany : Int32) (v_letterMany : Int32) (v_readAt : Int32) (v_tokenAt : Int32) (v_token : Int32) (v_value : Int32) (v_faultAt : Int32) (v_readOnce : Int32) (v_greatUpper : Int64) (v_greatLower : Int64) (A_now : Nat → Int32) (A_undos : Nat → Int32) (A_seen : Nat → Int32) (A_seenAs : Nat → Int32) (A_isKept : Nat → Int32) (A_kept : Nat → Int32) (A_text : Nat → Int32) (A_read : Nat → Int32) (A_fewest : Nat → Int32) (A_doors : Nat → Int32) (A_isSo : Nat → Int32)  (sz : Nat) (z : Int32 × (Nat → Int32) × (Nat → Int32)) (h : f_Mo_ask v_seenMany A_now A_seen A_seenAs A_doors A_isSo = some z) : Met l yX11_ask (.code yX11_ask cX11_ask 8 (some .int) :: TBL) (RM 7 156) (PcM [.ref a_this] sz D (TY cC cI cZ) (k_Mo cC cI cZ a_this a_now a_undos a_seen a_seenAs a_isKept a_kept a_text a_read a_fewest a_doors a_isSo v_undoMany v_undoAt v_seenMany v_letterMany v_readAt v_tokenAt v_token v_value v_faultAt v_readOnce v_greatUpper v_greatLower A_now A_undos A_seen A_seenAs A_isKept A_kept A_text A_read A_fewest A_doors A_isSo)) (fun a st o t => QM (some (.int z.1)) D (k_Mo cC cI cZ a_this a_now a_undos a_seen a_seenAs a_isKept a_kept a_text a_read a_fewest a_doors a_isSo v_undoMany v_undoAt v_seenMany v_letterMany v_readAt v_tokenAt v_token v_value v_faultAt v_readOnce v_greatUpper v_greatLower A_now A_undos A_seen A_seenAs A_isKept A_kept A_text A_read A_fewest z.2.1 z.2.2) (va_A (k_Mo cC cI cZ a_this a_now a_undos a_seen a_seenAs a_isKept a_kept a_text a_read a_fewest a_doors a_isSo v_undoMany v_undoAt v_seenMany v_letterMany v_readAt v_tokenAt v_token v_value v_faultAt v_readOnce v_greatUpper v_greatLower A_now A_undos A_seen A_seenAs A_isKept A_kept A_text A_read A_fewest A_doors A_isSo) sz) a st o t ∧ narrow .int (.int z.1) = .int z.1) 0 0 (va_A (k_Mo cC cI cZ a_this a_now a_undos a_seen a_seenAs a_isKept a_kept a_text a_read a_fewest a_doors a_isSo v_undoMany v_undoAt v_seenMany v_letterMany v_readAt v_tokenAt v_token v_value v_faultAt v_readOnce v_greatUpper v_greatLower A_now A_undos A_seen A_seenAs A_isKept A_kept A_text A_read A_fewest A_doors A_isSo) sz) := by
  refine muOf (by decide) (Nat.le_of_ble_eq_true rfl) rfl ?_
  intro p e s m args below meth c Q ls A X hP hD hS hA hl hret
  have X : Ctx p s m args c cX11_ask 8 RX11 D (TY cC cI cZ) := X
  obtain ⟨hx, hb, hml, hown, htT, hK, hN⟩ := id X
  unfold f_Mo_ask at h
  refine lv_aload_n hx hb dX11_ask_0 rfl (lv_at hl 0 rfl) ?_
  obtain ⟨z1, e1, h⟩ := bd h
  refine muV (ws' := (k_Mo cC cI cZ a_this a_now a_undos a_seen a_seenAs a_isKept a_kept a_text a_read a_fewest a_doors a_isSo v_undoMany v_undoAt v_seenMany v_letterMany v_readAt v_tokenAt v_token v_value v_faultAt v_readOnce v_greatUpper v_greatLower A_now A_undos A_seen A_seenAs A_isKept A_kept A_text A_read A_fewest z1.2.1 z1.2.2)) X [] [] (c_Mo_layUnseen l D cC cI cZ a_this a_now a_undos a_seen a_seenAs a_isKept a_kept a_text a_read a_fewest a_doors a_isSo v_undoMany v_undoAt v_seenMany v_letterMany v_readAt v_tokenAt v_token v_value v_faultAt v_readOnce v_greatUpper v_greatLower A_now A_undos A_seen A_seenAs A_isKept A_kept A_text A_read A_fewest A_doors A_isSo _ z1 e1) gg_X11_199 hd_Mo_layUnseen ⟨rfl, rfl, Nat.le_of_ble_eq_true rfl, Nat.le_of_ble_eq_true rfl⟩ ⟨Nat.zero_le _, Nat.zero_le _⟩ hP hD hS hA [0, 1, 2, 3, 4, 5, 6, 7, 8, 9, 10, 11] [] [0, 1, 2, 3, 4, 5, 6, 7, 8, 9, 10, 11] rfl rfl (by decide) (by decide) rfl rfl rfl rfl rfl hl.1 rfl (Nat.le_of_ble_eq_true rfl) dX11_ask_1 (fun H locs hP hD hS n1 => ?_)
  refine lv_istore_n (lv' := [(1, .int z1.1), (0, .ref a_this)]) hx hb dX11_ask_4 rfl hl (by decide) rfl (fun ls hl => ?_)
  refine lv_bipush (v := (-9 : Int32)) hx hb dX11_ask_5 rfl ?_
  refine lv_istore_n (lv' := [(2, .int (-9 : Int32)), (1, .int z1.1), (0, .ref a_this)]) hx hb dX11_ask_7 rfl hl (by decide) rfl (fun ls hl => ?_)
  refine lv_bipush (v := (101 : Int32)) hx hb dX11_ask_8 rfl ?_
  refine lv_istore_n (lv' := [(3, .int (101 : Int32)), (2, .int (-9 : Int32)), (1, .int z1.1), (0, .ref a_this)]) hx hb dX11_ask_10 rfl hl (by decide) rfl (fun ls hl => ?_)
  refine lv_iconst (v := (0 : Int32)) hx hb dX11_ask_11 rfl ?_
  refine lv_istore (lv' := [(4, .int (0 : Int32)), (3, .int (101 : Int32)), (2, .int (-9 : Int32)), (1, .int z1.1), (0, .ref a_this)]) hx hb dX11_ask_12 hl (by decide) rfl (fun ls hl => ?_)
  have LP14 : ∀ (n : Nat) (y14_2 : Int32) (y14_3 : Int32) (y14_4 : Int32) (zq14 : Int32), f_Mo_ask_L14 z1.1 A_now z1.2.1 z1.2.2 n y14_2 y14_3 y14_4 = some zq14 → ∀ (H : Heap) (locs : List Loc) (ls : Array Slot), va_P D vwCl (k_Mo cC cI cZ a_this a_now a_undos a_seen a_seenAs a_isKept a_kept a_text a_read a_fewest a_doors a_isSo v_undoMany v_undoAt v_seenMany v_letterMany v_readAt v_tokenAt v_token v_value v_faultAt v_readOnce v_greatUpper v_greatLower A_now A_undos A_seen A_seenAs A_isKept A_kept A_text A_read A_fewest z1.2.1 z1.2.2) H → va_D A (k_Mo cC cI cZ a_this a_now a_undos a_seen a_seenAs a_isKept a_kept a_text a_read a_fewest a_doors a_isSo v_undoMany v_undoAt v_seenMany v_letterMany v_readAt v_tokenAt v_token v_value v_faultAt v_readOnce v_greatUpper v_greatLower A_now A_undos A_seen A_seenAs A_isKept A_kept A_text A_read A_fewest z1.2.1 z1.2.2) → va_S A s.heap H locs → lv_has ls 8 [(0, .ref a_this), (1, .int z1.1), (2, .int y14_2), (3, .int y14_3), (4, .int y14_4)] → (∀ (H : Heap) (locs : List Loc) (ls : Array Slot), va_P D vwCl (k_Mo cC cI cZ a_this a_now a_undos a_seen a_seenAs a_isKept a_kept a_text a_read a_fewest a_doors a_isSo v_undoMany v_undoAt v_seenMany v_letterMany v_readAt v_tokenAt v_token v_value v_faultAt v_readOnce v_greatUpper v_greatLower A_now A_undos A_seen A_seenAs A_isKept A_kept A_text A_read A_fewest z1.2.1 z1.2.2) H → va_D A (k_Mo cC cI cZ a_this a_now a_undos a_seen a_seenAs a_isKept a_kept a_text a_read a_fewest a_doors a_isSo v_undoMany v_undoAt v_seenMany v_letterMany v_readAt v_tokenAt v_token v_value v_faultAt v_readOnce v_greatUpper v_greatLower A_now A_undos A_seen A_seenAs A_isKept A_kept A_text A_read A_fewest z1.2.1 z1.2.2) → va_S A s.heap H locs → lv_has ls 8 [(2, .int zq14)] → W p l e (RM 7 156) s m args below meth c H locs 0 0 Q (F0 m 156 ls [])) → W p l e (RM 7 156) s m args below meth c H locs 0 0 Q (F0 m 14 ls []) := by
    clear h
    intro n
    induction n with
    | zero =>
      intro y14_2 y14_3 y14_4 zq14 h
      rw [f_Mo_ask_L14_0] at h
      cases h
    | succ n ih14 =>
      intro y14_2 y14_3 y14_4 zq14 h H locs ls hP hD hS hl k14_0
      rw [f_Mo_ask_L14_s] at h
      refine lv_iload hx hb dX11_ask_14 (lv_at hl 4 rfl) ?_
      refine lv_aload_n hx hb dX11_ask_16 rfl (lv_at hl 0 rfl) ?_
      refine va_get (ci := 11) (v := .ref a_now) (C := RX11) (T := TX11) (N := 23) hx hb htT inlX11 hown hK hP 0 rfl rfl 0 (by decide) (htT _ q_7_0) (fun _ h9 => h9) rfl dX11_ask_17 ?_
      refine lv_iconst (v := (0 : Int32)) hx hb dX11_ask_20 rfl ?_
      obtain ⟨g3, h⟩ := gd h
      refine va_iald hx hb hK hP 1 1 rfl rfl (inB_in g3) dX11_ask_21 ?_
      refine lv_icmp_ge (tgt := 156) hx hb dX11_ask_22 (by decide) (fun c4 => ?_) (fun c4 => ?_)
      · have h := ip c4 h
        obtain rfl := Option.some.inj h
        exact k14_0 _ _ _ hP hD hS (lv_sub hl [2] rfl)
      · have h := im c4 h
        refine lv_iload_n hx hb dX11_ask_25 rfl (lv_at hl 1 rfl) ?_
        refine lv_iconst (v := (1 : Int32)) hx hb dX11_ask_26 rfl ?_
        refine lv_icmp_le (tgt := 156) hx hb dX11_ask_27 (by decide) (fun c5 => ?_) (fun c5 => ?_)
        · have h := ip c5 h
          obtain rfl := Option.some.inj h
          exact k14_0 _ _ _ hP hD hS (lv_sub hl [2] rfl)
        · have h := im c5 h
          refine lv_iconst (v := (0 : Int32)) hx hb dX11_ask_30 rfl ?_
          refine lv_istore (lv' := [(5, .int (0 : Int32)), (0, .ref a_this), (1, .int z1.1), (2, .int y14_2), (3, .int y14_3), (4, .int y14_4)]) hx hb dX11_ask_31 hl (by decide) rfl (fun ls hl => ?_)
          refine lv_iconst (v := (0 : Int32)) hx hb dX11_ask_33 rfl ?_
          refine lv_istore (lv' := [(6, .int (0 : Int32)), (5, .int (0 : Int32)), (0, .ref a_this), (1, .int z1.1), (2, .int y14_2), (3, .int y14_3), (4, .int y14_4)]) hx hb dX11_ask_34 hl (by decide) rfl (fun ls hl => ?_)
          have LP36 : ∀ (n : Nat) (y36_5 : Int32) (y36_6 : Int32) (zq36 : Int32), f_Mo_ask_L36 z1.1 y14_2 y14_3 y14_4 z1.2.1 z1.2.2 n y36_5 y36_6 = some zq36 → ∀ (H : Heap) (locs : List Loc) (ls : Array Slot), va_P D vwCl (k_Mo cC cI cZ a_this a_now a_undos a_seen a_seenAs a_isKept a_kept a_text a_read a_fewest a_doors a_isSo v_undoMany v_undoAt v_seenMany v_letterMany v_readAt v_tokenAt v_token v_value v_faultAt v_readOnce v_greatUpper v_greatLower A_now A_undos A_seen A_seenAs A_isKept A_kept A_text A_read A_fewest z1.2.1 z1.2.2) H → va_D A (k_Mo cC cI cZ a_this a_now a_undos a_seen a_seenAs a_isKept a_kept a_text a_read a_fewest a_doors a_isSo v_undoMany v_undoAt v_seenMany v_letterMany v_readAt v_tokenAt v_token v_value v_faultAt v_readOnce v_greatUpper v_greatLower A_now A_undos A_seen A_seenAs A_isKept A_kept A_text A_read A_fewest z1.2.1 z1.2.2) → va_S A s.heap H locs → lv_has ls 8 [(0, .ref a_this), (1, .int z1.1), (2, .int y14_2), (3, .int y14_3), (4, .int y14_4), (5, .int y36_5), (6, .int y36_6)] → (∀ (H : Heap) (locs : List Loc) (ls : Array Slot), va_P D vwCl (k_Mo cC cI cZ a_this a_now a_undos a_seen a_seenAs a_isKept a_kept a_text a_read a_fewest a_doors a_isSo v_undoMany v_undoAt v_seenMany v_letterMany v_readAt v_tokenAt v_token v_value v_faultAt v_readOnce v_greatUpper v_greatLower A_now A_undos A_seen A_seenAs A_isKept A_kept A_text A_read A_fewest z1.2.1 z1.2.2) H → va_D A (k_Mo cC cI cZ a_this a_now a_undos a_seen a_seenAs a_isKept a_kept a_text a_read a_fewest a_doors a_isSo v_undoMany v_undoAt v_seenMany v_letterMany v_readAt v_tokenAt v_token v_value v_faultAt v_readOnce v_greatUpper v_greatLower A_now A_undos A_seen A_seenAs A_isKept A_kept A_text A_read A_fewest z1.2.1 z1.2.2) → va_S A s.heap H locs → lv_has ls 8 [(0, .ref a_this), (1, .int z1.1), (2, .int y14_2), (3, .int y14_3), (4, .int y14_4), (5, .int zq36)] → W p l e (RM 7 156) s m args below meth c H locs 0 0 Q (F0 m 84 ls [])) → W p l e (RM 7 156) s m args below meth c H locs 0 0 Q (F0 m 36 ls []) := by
            clear h
            intro n
            induction n with
            | zero =>
              intro y36_5 y36_6 zq36 h
              rw [f_Mo_ask_L36_0] at h
              cases h
            | succ n ih36 =>
              intro y36_5 y36_6 zq36 h H locs ls hP hD hS hl k36_0
              rw [f_Mo_ask_L36_s] at h
              refine lv_iload hx hb dX11_ask_36 (lv_at hl 6 rfl) ?_
              refine lv_bipush (v := (100 : Int32)) hx hb dX11_ask_38 rfl ?_
              refine lv_icmp_ge (tgt := 84) hx hb dX11_ask_40 (by decide) (fun c7 => ?_) (fun c7 => ?_)
              · have h := ip c7 h
                obtain rfl := Option.some.inj h
                exact k36_0 _ _ _ hP hD hS (lv_sub hl [0, 1, 2, 3, 4, 5] rfl)
              · have h := im c7 h
                refine lv_iload hx hb dX11_ask_43 (lv_at hl 5 rfl) ?_
                refine lv_aload_n hx hb dX11_ask_45 rfl (lv_at hl 0 rfl) ?_
                refine va_get (ci := 11) (v := .ref a_isSo) (C := RX11) (T := TX11) (N := 23) hx hb htT inlX11 hown hK hP 0 rfl rfl 22 (by decide) (htT _ q_7_11) (fun _ h9 => h9) rfl dX11_ask_46 ?_
                refine lv_iload hx hb dX11_ask_49 (lv_at hl 6 rfl) ?_
                obtain ⟨g8, h⟩ := gd h
                refine va_zald hx hb hK hP 11 2 rfl rfl (inB_in g8) dX11_ask_51 ?_
                refine lv_if_eq (tgt := 74) hx hb dX11_ask_52 (by decide) (fun c9 => ?_) (fun c9 => ?_)
                · have h := ip c9 h
                  refine lv_iconst (v := (0 : Int32)) hx hb dX11_ask_74 rfl ?_
                  refine lv_iadd hx hb dX11_ask_75 ?_
                  refine lv_istore (lv' := [(5, .int (y36_5 + (0 : Int32))), (0, .ref a_this), (1, .int z1.1), (2, .int y14_2), (3, .int y14_3), (4, .int y14_4), (6, .int y36_6)]) hx hb dX11_ask_76 hl (by decide) rfl (fun ls hl => ?_)
                  refine lv_iinc (v := (y36_6 + (1 : Int32))) (lv' := [(6, .int (y36_6 + (1 : Int32))), (5, .int (y36_5 + (0 : Int32))), (0, .ref a_this), (1, .int z1.1), (2, .int y14_2), (3, .int y14_3), (4, .int y14_4)]) hx hb dX11_ask_78 hl (k := 6) rfl rfl (by decide) rfl (fun ls hl => ?_)
                  refine lv_goto (tgt := 36) hx hb dX11_ask_81 (by decide) ?_
                  exact ih36 (y36_5 + (0 : Int32)) (y36_6 + (1 : Int32)) _ h _ _ _ hP hD hS (lv_sub hl [2, 3, 4, 5, 6, 1, 0] rfl) k36_0
                · have h := im c9 h
                  refine lv_aload_n hx hb dX11_ask_55 rfl (lv_at hl 0 rfl) ?_
                  refine va_get (ci := 11) (v := .ref a_doors) (C := RX11) (T := TX11) (N := 23) hx hb htT inlX11 hown hK hP 0 rfl rfl 21 (by decide) (htT _ q_7_10) (fun _ h9 => h9) rfl dX11_ask_56 ?_
                  refine lv_iload hx hb dX11_ask_59 (lv_at hl 6 rfl) ?_
                  obtain ⟨g10, h⟩ := gd h
                  refine va_iald hx hb hK hP 10 1 rfl rfl (inB_in g10) dX11_ask_61 ?_
                  refine lv_iload hx hb dX11_ask_62 (lv_at hl 4 rfl) ?_
                  refine roS X [.int (z1.2.1 (y36_6).toNatClampNeg), .int y14_4] [.int y36_5] (c_Mo_has l D cC cI cZ (z1.2.1 (y36_6).toNatClampNeg) y14_4 _ rfl) gg_X11_87 hd_Mo_has ⟨rfl, rfl, Nat.le_of_ble_eq_true rfl, Nat.le_of_ble_eq_true rfl⟩ ⟨Nat.zero_le _, Nat.zero_le _⟩ hP [] rfl hl.1 rfl (Nat.le_of_ble_eq_true rfl) dX11_ask_64 (fun n11 => ?_)
                  refine lv_if_eq (tgt := 74) hx hb dX11_ask_67 (by decide) (fun c12 => ?_) (fun c12 => ?_)
                  · have h := ip c12 h
                    refine lv_iconst (v := (0 : Int32)) hx hb dX11_ask_74 rfl ?_
                    refine lv_iadd hx hb dX11_ask_75 ?_
                    refine lv_istore (lv' := [(5, .int (y36_5 + (0 : Int32))), (0, .ref a_this), (1, .int z1.1), (2, .int y14_2), (3, .int y14_3), (4, .int y14_4), (6, .int y36_6)]) hx hb dX11_ask_76 hl (by decide) rfl (fun ls hl => ?_)
                    refine lv_iinc (v := (y36_6 + (1 : Int32))) (lv' := [(6, .int (y36_6 + (1 : Int32))), (5, .int (y36_5 + (0 : Int32))), (0, .ref a_this), (1, .int z1.1), (2, .int y14_2), (3, .int y14_3), (4, .int y14_4)]) hx hb dX11_ask_78 hl (k := 6) rfl rfl (by decide) rfl (fun ls hl => ?_)
                    refine lv_goto (tgt := 36) hx hb dX11_ask_81 (by decide) ?_
                    exact ih36 (y36_5 + (0 : Int32)) (y36_6 + (1 : Int32)) _ h _ _ _ hP hD hS (lv_sub hl [2, 3, 4, 5, 6, 1, 0] rfl) k36_0
                  · have h := im c12 h
                    refine lv_iconst (v := (1 : Int32)) hx hb dX11_ask_70 rfl ?_
                    refine lv_goto (tgt := 75) hx hb dX11_ask_71 (by decide) ?_
                    refine lv_iadd hx hb dX11_ask_75 ?_
                    refine lv_istore (lv' := [(5, .int (y36_5 + (1 : Int32))), (0, .ref a_this), (1, .int z1.1), (2, .int y14_2), (3, .int y14_3), (4, .int y14_4), (6, .int y36_6)]) hx hb dX11_ask_76 hl (by decide) rfl (fun ls hl => ?_)
                    refine lv_iinc (v := (y36_6 + (1 : Int32))) (lv' := [(6, .int (y36_6 + (1 : Int32))), (5, .int (y36_5 + (1 : Int32))), (0, .ref a_this), (1, .int z1.1), (2, .int y14_2), (3, .int y14_3), (4, .int y14_4)]) hx hb dX11_ask_78 hl (k := 6) rfl rfl (by decide) rfl (fun ls hl => ?_)
                    refine lv_goto (tgt := 36) hx hb dX11_ask_81 (by decide) ?_
                    exact ih36 (y36_5 + (1 : Int32)) (y36_6 + (1 : Int32)) _ h _ _ _ hP hD hS (lv_sub hl [2, 3, 4, 5, 6, 1, 0] rfl) k36_0
          obtain ⟨z6, e6, h⟩ := bd h
          refine LP36 fu (0 : Int32) (0 : Int32) z6 e6 _ _ _ hP hD hS (lv_sub hl [2, 3, 4, 5, 6, 1, 0] rfl) ?_
          intro H locs ls hP hD hS hl
          refine lv_iload hx hb dX11_ask_84 (lv_at hl 5 rfl) ?_
          refine lv_iload_n hx hb dX11_ask_86 rfl (lv_at hl 1 rfl) ?_
          refine lv_iload hx hb dX11_ask_87 (lv_at hl 5 rfl) ?_
          refine lv_isub hx hb dX11_ask_89 ?_
          refine lv_icmp_le (tgt := 98) hx hb dX11_ask_90 (by decide) (fun c13 => ?_) (fun c13 => ?_)
          · have h := ip c13 h
            refine lv_iload_n hx hb dX11_ask_98 rfl (lv_at hl 1 rfl) ?_
            refine lv_iload hx hb dX11_ask_99 (lv_at hl 5 rfl) ?_
            refine lv_isub hx hb dX11_ask_101 ?_
            refine lv_istore (lv' := [(6, .int (z1.1 - z6)), (0, .ref a_this), (1, .int z1.1), (2, .int y14_2), (3, .int y14_3), (4, .int y14_4), (5, .int z6)]) hx hb dX11_ask_102 hl (by decide) rfl (fun ls hl => ?_)
            refine lv_aload_n hx hb dX11_ask_104 rfl (lv_at hl 1 rfl) ?_
            refine lv_iload hx hb dX11_ask_105 (lv_at hl 5 rfl) ?_
            obtain ⟨r14, e14, h⟩ := bd h
            refine roV X [.int y14_4] [] (c_Mo_isKnown l D cC cI cZ a_this a_now a_undos a_seen a_seenAs a_isKept a_kept a_text a_read a_fewest a_doors a_isSo v_undoMany v_undoAt v_seenMany v_letterMany v_readAt v_tokenAt v_token v_value v_faultAt v_readOnce v_greatUpper v_greatLower A_now A_undos A_seen A_seenAs A_isKept A_kept A_text A_read A_fewest z1.2.1 z1.2.2 y14_4 r14 e14) gg_X11_130 hd_Mo_isKnown ⟨rfl, rfl, Nat.le_of_ble_eq_true rfl, Nat.le_of_ble_eq_true rfl⟩ ⟨Nat.zero_le _, Nat.zero_le _⟩ hP [0, 1, 2, 3, 4, 5, 6, 7, 8, 9, 10, 11] rfl rfl rfl rfl hl.1 rfl (Nat.le_of_ble_eq_true rfl) dX11_ask_107 (fun n14 => ?_)
            refine lv_if_eq (tgt := 123) hx hb dX11_ask_110 (by decide) (fun c15 => ?_) (fun c15 => ?_)
            · have h := ip c15 h
              refine lv_iconst (v := (0 : Int32)) hx hb dX11_ask_123 rfl ?_
              refine lv_istore (lv' := [(7, .int (0 : Int32)), (6, .int (z1.1 - z6)), (0, .ref a_this), (1, .int z1.1), (2, .int y14_2), (3, .int y14_3), (4, .int y14_4), (5, .int z6)]) hx hb dX11_ask_124 hl (by decide) rfl (fun ls hl => ?_)
              refine lv_iload hx hb dX11_ask_126 (lv_at hl 0 rfl) ?_
              refine lv_if_eq (tgt := 136) hx hb dX11_ask_128 (by decide) (fun _ => ?_) (fun c16 => absurd (by decide) c16)
              refine lv_iload_n hx hb dX11_ask_136 rfl (lv_at hl 4 rfl) ?_
              refine lv_istore_n (lv' := [(2, .int y14_2), (7, .int (0 : Int32)), (6, .int (z1.1 - z6)), (0, .ref a_this), (1, .int z1.1), (3, .int y14_3), (4, .int y14_4), (5, .int z6)]) hx hb dX11_ask_137 rfl hl (by decide) rfl (fun ls hl => ?_)
              refine lv_iload hx hb dX11_ask_138 (lv_at hl 1 rfl) ?_
              refine lv_if_eq (tgt := 148) hx hb dX11_ask_140 (by decide) (fun _ => ?_) (fun c17 => absurd (by decide) c17)
              refine lv_iload_n hx hb dX11_ask_148 rfl (lv_at hl 5 rfl) ?_
              refine lv_istore_n (lv' := [(3, .int y14_3), (2, .int y14_2), (7, .int (0 : Int32)), (6, .int (z1.1 - z6)), (0, .ref a_this), (1, .int z1.1), (4, .int y14_4), (5, .int z6)]) hx hb dX11_ask_149 rfl hl (by decide) rfl (fun ls hl => ?_)
              refine lv_iinc (v := (y14_4 + (1 : Int32))) (lv' := [(4, .int (y14_4 + (1 : Int32))), (3, .int y14_3), (2, .int y14_2), (7, .int (0 : Int32)), (6, .int (z1.1 - z6)), (0, .ref a_this), (1, .int z1.1), (5, .int z6)]) hx hb dX11_ask_150 hl (k := 6) rfl rfl (by decide) rfl (fun ls hl => ?_)
              refine lv_goto (tgt := 14) hx hb dX11_ask_153 (by decide) ?_
              exact ih14 y14_2 y14_3 (y14_4 + (1 : Int32)) _ h _ _ _ hP hD hS (lv_sub hl [5, 6, 2, 1, 0] rfl) k14_0
            · have h := im c15 h
              refine lv_iload hx hb dX11_ask_113 (lv_at hl 0 rfl) ?_
              refine lv_iload_n hx hb dX11_ask_115 rfl (lv_at hl 4 rfl) ?_
              refine lv_icmp_ge (tgt := 123) hx hb dX11_ask_116 (by decide) (fun c18 => ?_) (fun c18 => ?_)
              · have h := ip c18 h
                refine lv_iconst (v := (0 : Int32)) hx hb dX11_ask_123 rfl ?_
                refine lv_istore (lv' := [(7, .int (0 : Int32)), (6, .int (z1.1 - z6)), (0, .ref a_this), (1, .int z1.1), (2, .int y14_2), (3, .int y14_3), (4, .int y14_4), (5, .int z6)]) hx hb dX11_ask_124 hl (by decide) rfl (fun ls hl => ?_)
                refine lv_iload hx hb dX11_ask_126 (lv_at hl 0 rfl) ?_
                refine lv_if_eq (tgt := 136) hx hb dX11_ask_128 (by decide) (fun _ => ?_) (fun c19 => absurd (by decide) c19)
                refine lv_iload_n hx hb dX11_ask_136 rfl (lv_at hl 4 rfl) ?_
                refine lv_istore_n (lv' := [(2, .int y14_2), (7, .int (0 : Int32)), (6, .int (z1.1 - z6)), (0, .ref a_this), (1, .int z1.1), (3, .int y14_3), (4, .int y14_4), (5, .int z6)]) hx hb dX11_ask_137 rfl hl (by decide) rfl (fun ls hl => ?_)
                refine lv_iload hx hb dX11_ask_138 (lv_at hl 1 rfl) ?_
                refine lv_if_eq (tgt := 148) hx hb dX11_ask_140 (by decide) (fun _ => ?_) (fun c20 => absurd (by decide) c20)
                refine lv_iload_n hx hb dX11_ask_148 rfl (lv_at hl 5 rfl) ?_
                refine lv_istore_n (lv' := [(3, .int y14_3), (2, .int y14_2), (7, .int (0 : Int32)), (6, .int (z1.1 - z6)), (0, .ref a_this), (1, .int z1.1), (4, .int y14_4), (5, .int z6)]) hx hb dX11_ask_149 rfl hl (by decide) rfl (fun ls hl => ?_)
                refine lv_iinc (v := (y14_4 + (1 : Int32))) (lv' := [(4, .int (y14_4 + (1 : Int32))), (3, .int y14_3), (2, .int y14_2), (7, .int (0 : Int32)), (6, .int (z1.1 - z6)), (0, .ref a_this), (1, .int z1.1), (5, .int z6)]) hx hb dX11_ask_150 hl (k := 6) rfl rfl (by decide) rfl (fun ls hl => ?_)
                refine lv_goto (tgt := 14) hx hb dX11_ask_153 (by decide) ?_
                exact ih14 y14_2 y14_3 (y14_4 + (1 : Int32)) _ h _ _ _ hP hD hS (lv_sub hl [5, 6, 2, 1, 0] rfl) k14_0
              · have h := im c18 h
                refine lv_iconst (v := (1 : Int32)) hx hb dX11_ask_119 rfl ?_
                refine lv_goto (tgt := 124) hx hb dX11_ask_120 (by decide) ?_
                refine lv_istore (lv' := [(7, .int (1 : Int32)), (6, .int (z1.1 - z6)), (0, .ref a_this), (1, .int z1.1), (2, .int y14_2), (3, .int y14_3), (4, .int y14_4), (5, .int z6)]) hx hb dX11_ask_124 hl (by decide) rfl (fun ls hl => ?_)
                refine lv_iload hx hb dX11_ask_126 (lv_at hl 0 rfl) ?_
                refine lv_if_eq (tgt := 136) hx hb dX11_ask_128 (by decide) (fun c21 => absurd c21 (by decide)) (fun _ => ?_)
                refine lv_iload hx hb dX11_ask_131 (lv_at hl 6 rfl) ?_
                refine lv_goto (tgt := 137) hx hb dX11_ask_133 (by decide) ?_
                refine lv_istore_n (lv' := [(2, .int y14_4), (7, .int (1 : Int32)), (6, .int (z1.1 - z6)), (0, .ref a_this), (1, .int z1.1), (3, .int y14_3), (4, .int y14_4), (5, .int z6)]) hx hb dX11_ask_137 rfl hl (by decide) rfl (fun ls hl => ?_)
                refine lv_iload hx hb dX11_ask_138 (lv_at hl 1 rfl) ?_
                refine lv_if_eq (tgt := 148) hx hb dX11_ask_140 (by decide) (fun c22 => absurd c22 (by decide)) (fun _ => ?_)
                refine lv_iload hx hb dX11_ask_143 (lv_at hl 2 rfl) ?_
                refine lv_goto (tgt := 149) hx hb dX11_ask_145 (by decide) ?_
                refine lv_istore_n (lv' := [(3, .int (z1.1 - z6)), (2, .int y14_4), (7, .int (1 : Int32)), (6, .int (z1.1 - z6)), (0, .ref a_this), (1, .int z1.1), (4, .int y14_4), (5, .int z6)]) hx hb dX11_ask_149 rfl hl (by decide) rfl (fun ls hl => ?_)
                refine lv_iinc (v := (y14_4 + (1 : Int32))) (lv' := [(4, .int (y14_4 + (1 : Int32))), (3, .int (z1.1 - z6)), (2, .int y14_4), (7, .int (1 : Int32)), (6, .int (z1.1 - z6)), (0, .ref a_this), (1, .int z1.1), (5, .int z6)]) hx hb dX11_ask_150 hl (k := 6) rfl rfl (by decide) rfl (fun ls hl => ?_)
                refine lv_goto (tgt := 14) hx hb dX11_ask_153 (by decide) ?_
                exact ih14 y14_4 (z1.1 - z6) (y14_4 + (1 : Int32)) _ h _ _ _ hP hD hS (lv_sub hl [5, 6, 2, 1, 0] rfl) k14_0
          · have h := im c13 h
            refine lv_iload hx hb dX11_ask_93 (lv_at hl 5 rfl) ?_
            refine lv_goto (tgt := 102) hx hb dX11_ask_95 (by decide) ?_
            refine lv_istore (lv' := [(6, .int z6), (0, .ref a_this), (1, .int z1.1), (2, .int y14_2), (3, .int y14_3), (4, .int y14_4), (5, .int z6)]) hx hb dX11_ask_102 hl (by decide) rfl (fun ls hl => ?_)
            refine lv_aload_n hx hb dX11_ask_104 rfl (lv_at hl 1 rfl) ?_
            refine lv_iload hx hb dX11_ask_105 (lv_at hl 5 rfl) ?_
            obtain ⟨r23, e23, h⟩ := bd h
            refine roV X [.int y14_4] [] (c_Mo_isKnown l D cC cI cZ a_this a_now a_undos a_seen a_seenAs a_isKept a_kept a_text a_read a_fewest a_doors a_isSo v_undoMany v_undoAt v_seenMany v_letterMany v_readAt v_tokenAt v_token v_value v_faultAt v_readOnce v_greatUpper v_greatLower A_now A_undos A_seen A_seenAs A_isKept A_kept A_text A_read A_fewest z1.2.1 z1.2.2 y14_4 r23 e23) gg_X11_130 hd_Mo_isKnown ⟨rfl, rfl, Nat.le_of_ble_eq_true rfl, Nat.le_of_ble_eq_true rfl⟩ ⟨Nat.zero_le _, Nat.zero_le _⟩ hP [0, 1, 2, 3, 4, 5, 6, 7, 8, 9, 10, 11] rfl rfl rfl rfl hl.1 rfl (Nat.le_of_ble_eq_true rfl) dX11_ask_107 (fun n23 => ?_)
            refine lv_if_eq (tgt := 123) hx hb dX11_ask_110 (by decide) (fun c24 => ?_) (fun c24 => ?_)
            · have h := ip c24 h
              refine lv_iconst (v := (0 : Int32)) hx hb dX11_ask_123 rfl ?_
              refine lv_istore (lv' := [(7, .int (0 : Int32)), (6, .int z6), (0, .ref a_this), (1, .int z1.1), (2, .int y14_2), (3, .int y14_3), (4, .int y14_4), (5, .int z6)]) hx hb dX11_ask_124 hl (by decide) rfl (fun ls hl => ?_)
              refine lv_iload hx hb dX11_ask_126 (lv_at hl 0 rfl) ?_
              refine lv_if_eq (tgt := 136) hx hb dX11_ask_128 (by decide) (fun _ => ?_) (fun c25 => absurd (by decide) c25)
              refine lv_iload_n hx hb dX11_ask_136 rfl (lv_at hl 4 rfl) ?_
              refine lv_istore_n (lv' := [(2, .int y14_2), (7, .int (0 : Int32)), (6, .int z6), (0, .ref a_this), (1, .int z1.1), (3, .int y14_3), (4, .int y14_4), (5, .int z6)]) hx hb dX11_ask_137 rfl hl (by decide) rfl (fun ls hl => ?_)
              refine lv_iload hx hb dX11_ask_138 (lv_at hl 1 rfl) ?_
              refine lv_if_eq (tgt := 148) hx hb dX11_ask_140 (by decide) (fun _ => ?_) (fun c26 => absurd (by decide) c26)
              refine lv_iload_n hx hb dX11_ask_148 rfl (lv_at hl 5 rfl) ?_
              refine lv_istore_n (lv' := [(3, .int y14_3), (2, .int y14_2), (7, .int (0 : Int32)), (6, .int z6), (0, .ref a_this), (1, .int z1.1), (4, .int y14_4), (5, .int z6)]) hx hb dX11_ask_149 rfl hl (by decide) rfl (fun ls hl => ?_)
              refine lv_iinc (v := (y14_4 + (1 : Int32))) (lv' := [(4, .int (y14_4 + (1 : Int32))), (3, .int y14_3), (2, .int y14_2), (7, .int (0 : Int32)), (6, .int z6), (0, .ref a_this), (1, .int z1.1), (5, .int z6)]) hx hb dX11_ask_150 hl (k := 6) rfl rfl (by decide) rfl (fun ls hl => ?_)
              refine lv_goto (tgt := 14) hx hb dX11_ask_153 (by decide) ?_
              exact ih14 y14_2 y14_3 (y14_4 + (1 : Int32)) _ h _ _ _ hP hD hS (lv_sub hl [5, 6, 2, 1, 0] rfl) k14_0
            · have h := im c24 h
              refine lv_iload hx hb dX11_ask_113 (lv_at hl 0 rfl) ?_
              refine lv_iload_n hx hb dX11_ask_115 rfl (lv_at hl 4 rfl) ?_
              refine lv_icmp_ge (tgt := 123) hx hb dX11_ask_116 (by decide) (fun c27 => ?_) (fun c27 => ?_)
              · have h := ip c27 h
                refine lv_iconst (v := (0 : Int32)) hx hb dX11_ask_123 rfl ?_
                refine lv_istore (lv' := [(7, .int (0 : Int32)), (6, .int z6), (0, .ref a_this), (1, .int z1.1), (2, .int y14_2), (3, .int y14_3), (4, .int y14_4), (5, .int z6)]) hx hb dX11_ask_124 hl (by decide) rfl (fun ls hl => ?_)
                refine lv_iload hx hb dX11_ask_126 (lv_at hl 0 rfl) ?_
                refine lv_if_eq (tgt := 136) hx hb dX11_ask_128 (by decide) (fun _ => ?_) (fun c28 => absurd (by decide) c28)
                refine lv_iload_n hx hb dX11_ask_136 rfl (lv_at hl 4 rfl) ?_
                refine lv_istore_n (lv' := [(2, .int y14_2), (7, .int (0 : Int32)), (6, .int z6), (0, .ref a_this), (1, .int z1.1), (3, .int y14_3), (4, .int y14_4), (5, .int z6)]) hx hb dX11_ask_137 rfl hl (by decide) rfl (fun ls hl => ?_)
                refine lv_iload hx hb dX11_ask_138 (lv_at hl 1 rfl) ?_
                refine lv_if_eq (tgt := 148) hx hb dX11_ask_140 (by decide) (fun _ => ?_) (fun c29 => absurd (by decide) c29)
                refine lv_iload_n hx hb dX11_ask_148 rfl (lv_at hl 5 rfl) ?_
                refine lv_istore_n (lv' := [(3, .int y14_3), (2, .int y14_2), (7, .int (0 : Int32)), (6, .int z6), (0, .ref a_this), (1, .int z1.1), (4, .int y14_4), (5, .int z6)]) hx hb dX11_ask_149 rfl hl (by decide) rfl (fun ls hl => ?_)
                refine lv_iinc (v := (y14_4 + (1 : Int32))) (lv' := [(4, .int (y14_4 + (1 : Int32))), (3, .int y14_3), (2, .int y14_2), (7, .int (0 : Int32)), (6, .int z6), (0, .ref a_this), (1, .int z1.1), (5, .int z6)]) hx hb dX11_ask_150 hl (k := 6) rfl rfl (by decide) rfl (fun ls hl => ?_)
                refine lv_goto (tgt := 14) hx hb dX11_ask_153 (by decide) ?_
                exact ih14 y14_2 y14_3 (y14_4 + (1 : Int32)) _ h _ _ _ hP hD hS (lv_sub hl [5, 6, 2, 1, 0] rfl) k14_0
              · have h := im c27 h
                refine lv_iconst (v := (1 : Int32)) hx hb dX11_ask_119 rfl ?_
                refine lv_goto (tgt := 124) hx hb dX11_ask_120 (by decide) ?_
                refine lv_istore (lv' := [(7, .int (1 : Int32)), (6, .int z6), (0, .ref a_this), (1, .int z1.1), (2, .int y14_2), (3, .int y14_3), (4, .int y14_4), (5, .int z6)]) hx hb dX11_ask_124 hl (by decide) rfl (fun ls hl => ?_)
                refine lv_iload hx hb dX11_ask_126 (lv_at hl 0 rfl) ?_
                refine lv_if_eq (tgt := 136) hx hb dX11_ask_128 (by decide) (fun c30 => absurd c30 (by decide)) (fun _ => ?_)
                refine lv_iload hx hb dX11_ask_131 (lv_at hl 6 rfl) ?_
                refine lv_goto (tgt := 137) hx hb dX11_ask_133 (by decide) ?_
                refine lv_istore_n (lv' := [(2, .int y14_4), (7, .int (1 : Int32)), (6, .int z6), (0, .ref a_this), (1, .int z1.1), (3, .int y14_3), (4, .int y14_4), (5, .int z6)]) hx hb dX11_ask_137 rfl hl (by decide) rfl (fun ls hl => ?_)
                refine lv_iload hx hb dX11_ask_138 (lv_at hl 1 rfl) ?_
                refine lv_if_eq (tgt := 148) hx hb dX11_ask_140 (by decide) (fun c31 => absurd c31 (by decide)) (fun _ => ?_)
                refine lv_iload hx hb dX11_ask_143 (lv_at hl 2 rfl) ?_
                refine lv_goto (tgt := 149) hx hb dX11_ask_145 (by decide) ?_
                refine lv_istore_n (lv' := [(3, .int z6), (2, .int y14_4), (7, .int (1 : Int32)), (6, .int z6), (0, .ref a_this), (1, .int z1.1), (4, .int y14_4), (5, .int z6)]) hx hb dX11_ask_149 rfl hl (by decide) rfl (fun ls hl => ?_)
                refine lv_iinc (v := (y14_4 + (1 : Int32))) (lv' := [(4, .int (y14_4 + (1 : Int32))), (3, .int z6), (2, .int y14_4), (7, .int (1 : Int32)), (6, .int z6), (0, .ref a_this), (1, .int z1.1), (5, .int z6)]) hx hb dX11_ask_150 hl (k := 6) rfl rfl (by decide) rfl (fun ls hl => ?_)
                refine lv_goto (tgt := 14) hx hb dX11_ask_153 (by decide) ?_
                exact ih14 y14_4 z6 (y14_4 + (1 : Int32)) _ h _ _ _ hP hD hS (lv_sub hl [5, 6, 2, 1, 0] rfl) k14_0
  obtain ⟨z2, e2, h⟩ := bd h
  refine LP14 fu (-9 : Int32) (101 : Int32) (0 : Int32) z2 e2 _ _ _ hP hD hS (lv_sub hl [4, 3, 2, 1, 0] rfl) ?_
  intro H locs ls hP hD hS hl
  refine lv_iload_n hx hb dX11_ask_156 rfl (lv_at hl 0 rfl) ?_
  obtain rfl := Option.some.inj h
  exact hret _ _ _ _ _ hP hS dX11_ask_157 rfl rfl
set_option maxHeartbeats 4000000 in
set_option maxRecDepth 100000 in
theorem c_Mo_back (l : Launch) (D : va_G) (cC cI cZ : ClassId) (a_this : Nat) (a_now : Nat) (a_undos : Nat) (a_seen : Nat) (a_seenAs : Nat) (a_isKept : Nat) (a_kept : Nat) (a_text : Nat) (a_read : Nat) (a_fewest : Nat) (a_doors : Nat) (a_isSo : Nat) (v_undoMany : Int32) (v_undoAt : Int32) (v_seenMany : Int32) (v_letterMany : Int32) (v_readAt : Int32) (v_tokenAt : Int32) (v_token : Int32) (v_value : Int32) (v_faultAt : Int32) (v_readOnce : Int32) (v_greatUpper : Int64) (v_greatLower : Int64) (A_now : Nat → Int32) (A_undos : Nat → Int32) (A_seen : Nat → Int32) (A_seenAs : Nat → Int32) (A_isKept : Nat → Int32) (A_kept : Nat → Int32) (A_text : Nat → Int32) (A_read : Nat → Int32) (A_fewest : Nat → Int32) (A_doors : Nat → Int32) (A_isSo : Nat → Int32) (p1 : Int32) (sz : Nat) (z : Int32 × Int32 × (Nat → Int32)) (h : f_Mo_back v_undoMany A_now A_isKept A_kept p1 = some z) : Met l yX11_back (.code yX11_back cX11_back 3 (some .int) :: TBL) (RM 1 22) (PcM [.ref a_this, .int p1] sz D (TY cC cI cZ) (k_Mo cC cI cZ a_this a_now a_undos a_seen a_seenAs a_isKept a_kept a_text a_read a_fewest a_doors a_isSo v_undoMany v_undoAt v_seenMany v_letterMany v_readAt v_tokenAt v_token v_value v_faultAt v_readOnce v_greatUpper v_greatLower A_now A_undos A_seen A_seenAs A_isKept A_kept A_text A_read A_fewest A_doors A_isSo)) (fun a st o t => QM (some (.int z.1)) D (k_Mo cC cI cZ a_this a_now a_undos a_seen a_seenAs a_isKept a_kept a_text a_read a_fewest a_doors a_isSo z.2.1 v_undoAt v_seenMany v_letterMany v_readAt v_tokenAt v_token v_value v_faultAt v_readOnce v_greatUpper v_greatLower z.2.2 A_undos A_seen A_seenAs A_isKept A_kept A_text A_read A_fewest A_doors A_isSo) (va_A (k_Mo cC cI cZ a_this a_now a_undos a_seen a_seenAs a_isKept a_kept a_text a_read a_fewest a_doors a_isSo v_undoMany v_undoAt v_seenMany v_letterMany v_readAt v_tokenAt v_token v_value v_faultAt v_readOnce v_greatUpper v_greatLower A_now A_undos A_seen A_seenAs A_isKept A_kept A_text A_read A_fewest A_doors A_isSo) sz) a st o t ∧ narrow .int (.int z.1) = .int z.1) 0 0 (va_A (k_Mo cC cI cZ a_this a_now a_undos a_seen a_seenAs a_isKept a_kept a_text a_read a_fewest a_doors a_isSo v_undoMany v_undoAt v_seenMany v_letterMany v_readAt v_tokenAt v_token v_value v_faultAt v_readOnce v_greatUpper v_greatLower A_now A_undos A_seen A_seenAs A_isKept A_kept A_text A_read A_fewest A_doors A_isSo) sz) := by
  refine muOf (by decide) (Nat.le_of_ble_eq_true rfl) rfl ?_
  intro p e s m args below meth c Q ls A X hP hD hS hA hl hret
  have X : Ctx p s m args c cX11_back 3 RX11 D (TY cC cI cZ) := X
  obtain ⟨hx, hb, hml, hown, htT, hK, hN⟩ := id X
  unfold f_Mo_back at h
  refine lv_iload_n hx hb dX11_back_0 rfl (lv_at hl 1 rfl) ?_
  refine lv_iconst (v := (0 : Int32)) hx hb dX11_back_1 rfl ?_
  refine lv_iconst (v := (1 : Int32)) hx hb dX11_back_2 rfl ?_
  refine roS X [.int p1, .int (0 : Int32), .int (1 : Int32)] [] (c_Mo_in l D cC cI cZ p1 (0 : Int32) (1 : Int32) _ rfl) gg_X11_48 hd_Mo_in ⟨rfl, rfl, Nat.le_of_ble_eq_true rfl, Nat.le_of_ble_eq_true rfl⟩ ⟨Nat.zero_le _, Nat.zero_le _⟩ hP [] rfl hl.1 rfl (Nat.le_of_ble_eq_true rfl) dX11_back_3 (fun n1 => ?_)
  refine lv_if_ne (tgt := 11) hx hb dX11_back_6 (by decide) (fun c2 => ?_) (fun c2 => ?_)
  · have h := im c2 h
    refine lv_aload_n hx hb dX11_back_11 rfl (lv_at hl 0 rfl) ?_
    refine va_get (ci := 11) (v := .ref a_isKept) (C := RX11) (T := TX11) (N := 23) hx hb htT inlX11 hown hK hP 0 rfl rfl 7 (by decide) (htT _ q_7_5) (fun _ h9 => h9) rfl dX11_back_12 ?_
    refine lv_iload_n hx hb dX11_back_15 rfl (lv_at hl 1 rfl) ?_
    obtain ⟨g3, h⟩ := gd h
    refine va_zald hx hb hK hP 5 2 rfl rfl (inB_in g3) dX11_back_16 ?_
    refine lv_if_ne (tgt := 23) hx hb dX11_back_17 (by decide) (fun c4 => ?_) (fun c4 => ?_)
    · have h := im c4 h
      refine lv_iconst (v := (0 : Int32)) hx hb dX11_back_23 rfl ?_
      refine lv_istore_n (lv' := [(2, .int (0 : Int32)), (0, .ref a_this), (1, .int p1)]) hx hb dX11_back_24 rfl hl (by decide) rfl (fun ls hl => ?_)
      have LP25 : ∀ (n : Nat) (y25_2 : Int32) (A_now_25 : Nat → Int32) (zq25 : (Nat → Int32)), f_Mo_back_L25 p1 A_kept n y25_2 A_now_25 = some zq25 → ∀ (H : Heap) (locs : List Loc) (ls : Array Slot), va_P D vwCl (k_Mo cC cI cZ a_this a_now a_undos a_seen a_seenAs a_isKept a_kept a_text a_read a_fewest a_doors a_isSo v_undoMany v_undoAt v_seenMany v_letterMany v_readAt v_tokenAt v_token v_value v_faultAt v_readOnce v_greatUpper v_greatLower A_now_25 A_undos A_seen A_seenAs A_isKept A_kept A_text A_read A_fewest A_doors A_isSo) H → va_D A (k_Mo cC cI cZ a_this a_now a_undos a_seen a_seenAs a_isKept a_kept a_text a_read a_fewest a_doors a_isSo v_undoMany v_undoAt v_seenMany v_letterMany v_readAt v_tokenAt v_token v_value v_faultAt v_readOnce v_greatUpper v_greatLower A_now_25 A_undos A_seen A_seenAs A_isKept A_kept A_text A_read A_fewest A_doors A_isSo) → va_S A s.heap H locs → lv_has ls 3 [(0, .ref a_this), (1, .int p1), (2, .int y25_2)] → (∀ (H : Heap) (locs : List Loc) (ls : Array Slot), va_P D vwCl (k_Mo cC cI cZ a_this a_now a_undos a_seen a_seenAs a_isKept a_kept a_text a_read a_fewest a_doors a_isSo v_undoMany v_undoAt v_seenMany v_letterMany v_readAt v_tokenAt v_token v_value v_faultAt v_readOnce v_greatUpper v_greatLower zq25 A_undos A_seen A_seenAs A_isKept A_kept A_text A_read A_fewest A_doors A_isSo) H → va_D A (k_Mo cC cI cZ a_this a_now a_undos a_seen a_seenAs a_isKept a_kept a_text a_read a_fewest a_doors a_isSo v_undoMany v_undoAt v_seenMany v_letterMany v_readAt v_tokenAt v_token v_value v_faultAt v_readOnce v_greatUpper v_greatLower zq25 A_undos A_seen A_seenAs A_isKept A_kept A_text A_read A_fewest A_doors A_isSo) → va_S A s.heap H locs → lv_has ls 3 [(0, .ref a_this)] → W p l e (RM 1 22) s m args below meth c H locs 0 0 Q (F0 m 54 ls [])) → W p l e (RM 1 22) s m args below meth c H locs 0 0 Q (F0 m 25 ls []) := by
        clear h
        intro n
        induction n with
        | zero =>
          intro y25_2 A_now_25 zq25 h
          rw [f_Mo_back_L25_0] at h
          cases h
        | succ n ih25 =>
          intro y25_2 A_now_25 zq25 h H locs ls hP hD hS hl k25_0
          rw [f_Mo_back_L25_s] at h
          refine lv_iload_n hx hb dX11_back_25 rfl (lv_at hl 2 rfl) ?_
          refine lv_bipush (v := (31 : Int32)) hx hb dX11_back_26 rfl ?_
          refine lv_icmp_ge (tgt := 54) hx hb dX11_back_28 (by decide) (fun c6 => ?_) (fun c6 => ?_)
          · have h := ip c6 h
            obtain rfl := Option.some.inj h
            exact k25_0 _ _ _ hP hD hS (lv_sub hl [0] rfl)
          · have h := im c6 h
            refine lv_aload_n hx hb dX11_back_31 rfl (lv_at hl 0 rfl) ?_
            refine va_get (ci := 11) (v := .ref a_now) (C := RX11) (T := TX11) (N := 23) hx hb htT inlX11 hown hK hP 0 rfl rfl 0 (by decide) (htT _ q_7_0) (fun _ h9 => h9) rfl dX11_back_32 ?_
            refine lv_iload_n hx hb dX11_back_35 rfl (lv_at hl 2 rfl) ?_
            refine lv_aload_n hx hb dX11_back_36 rfl (lv_at hl 0 rfl) ?_
            refine va_get (ci := 11) (v := .ref a_kept) (C := RX11) (T := TX11) (N := 23) hx hb htT inlX11 hown hK hP 0 rfl rfl 8 (by decide) (htT _ q_7_6) (fun _ h9 => h9) rfl dX11_back_37 ?_
            refine lv_bipush (v := (31 : Int32)) hx hb dX11_back_40 rfl ?_
            refine lv_iload_n hx hb dX11_back_42 rfl (lv_at hl 1 rfl) ?_
            refine lv_imul hx hb dX11_back_43 ?_
            refine lv_iload_n hx hb dX11_back_44 rfl (lv_at hl 2 rfl) ?_
            refine lv_iadd hx hb dX11_back_45 ?_
            obtain ⟨g7, h⟩ := gd h
            refine va_iald hx hb hK hP 6 1 rfl rfl (inB_in g7) dX11_back_46 ?_
            obtain ⟨g8, h⟩ := gd h
            refine va_iast hx hb hK hP hD hS 1 1 rfl rfl (inB_in g8) dX11_back_47 (fun H locs hP hD hS => ?_)
            have hP : va_P D vwCl (k_Mo cC cI cZ a_this a_now a_undos a_seen a_seenAs a_isKept a_kept a_text a_read a_fewest a_doors a_isSo v_undoMany v_undoAt v_seenMany v_letterMany v_readAt v_tokenAt v_token v_value v_faultAt v_readOnce v_greatUpper v_greatLower (upd A_now_25 (y25_2).toNatClampNeg (A_kept ((((31 : Int32) * p1) + y25_2)).toNatClampNeg)) A_undos A_seen A_seenAs A_isKept A_kept A_text A_read A_fewest A_doors A_isSo) H := hP
            have hD : va_D A (k_Mo cC cI cZ a_this a_now a_undos a_seen a_seenAs a_isKept a_kept a_text a_read a_fewest a_doors a_isSo v_undoMany v_undoAt v_seenMany v_letterMany v_readAt v_tokenAt v_token v_value v_faultAt v_readOnce v_greatUpper v_greatLower (upd A_now_25 (y25_2).toNatClampNeg (A_kept ((((31 : Int32) * p1) + y25_2)).toNatClampNeg)) A_undos A_seen A_seenAs A_isKept A_kept A_text A_read A_fewest A_doors A_isSo) := hD
            refine lv_iinc (v := (y25_2 + (1 : Int32))) (lv' := [(2, .int (y25_2 + (1 : Int32))), (0, .ref a_this), (1, .int p1)]) hx hb dX11_back_48 hl (k := 2) rfl rfl (by decide) rfl (fun ls hl => ?_)
            refine lv_goto (tgt := 25) hx hb dX11_back_51 (by decide) ?_
            exact ih25 (y25_2 + (1 : Int32)) (upd A_now_25 (y25_2).toNatClampNeg (A_kept ((((31 : Int32) * p1) + y25_2)).toNatClampNeg)) _ h _ _ _ hP hD hS (lv_sub hl [1, 2, 0] rfl) k25_0
      obtain ⟨z5, e5, h⟩ := bd h
      refine LP25 fu (0 : Int32) A_now z5 e5 _ _ _ hP hD hS (lv_sub hl [1, 2, 0] rfl) ?_
      intro H locs ls hP hD hS hl
      refine lv_aload_n hx hb dX11_back_54 rfl (lv_at hl 0 rfl) ?_
      refine lv_iconst (v := (0 : Int32)) hx hb dX11_back_55 rfl ?_
      refine va_put (ci := 11) (v := .int (0 : Int32)) (ty := .int) (C := RX11) (T := TX11) (N := 23) hx hb htT inlX11 tyX11 tyX11_ok nmX11 hown hK hP hD hS 0 rfl rfl 1 (by decide) (htT _ q_14_0) (fun _ h9 => h9) rfl (tyX11_ok 1 (by decide)) rfl rfl (Nat.le_of_ble_eq_true rfl) dX11_back_56 (fun H locs hP hD hS => ?_)
      have hP : va_P D vwCl (k_Mo cC cI cZ a_this a_now a_undos a_seen a_seenAs a_isKept a_kept a_text a_read a_fewest a_doors a_isSo (0 : Int32) v_undoAt v_seenMany v_letterMany v_readAt v_tokenAt v_token v_value v_faultAt v_readOnce v_greatUpper v_greatLower z5 A_undos A_seen A_seenAs A_isKept A_kept A_text A_read A_fewest A_doors A_isSo) H := hP
      have hD : va_D A (k_Mo cC cI cZ a_this a_now a_undos a_seen a_seenAs a_isKept a_kept a_text a_read a_fewest a_doors a_isSo (0 : Int32) v_undoAt v_seenMany v_letterMany v_readAt v_tokenAt v_token v_value v_faultAt v_readOnce v_greatUpper v_greatLower z5 A_undos A_seen A_seenAs A_isKept A_kept A_text A_read A_fewest A_doors A_isSo) := hD
      refine lv_aload_n hx hb dX11_back_59 rfl (lv_at hl 0 rfl) ?_
      refine va_get (ci := 11) (v := .ref a_now) (C := RX11) (T := TX11) (N := 23) hx hb htT inlX11 hown hK hP 0 rfl rfl 0 (by decide) (htT _ q_7_0) (fun _ h9 => h9) rfl dX11_back_60 ?_
      refine lv_iconst (v := (0 : Int32)) hx hb dX11_back_63 rfl ?_
      obtain ⟨g9, h⟩ := gd h
      refine va_iald hx hb hK hP 1 1 rfl rfl (inB_in g9) dX11_back_64 ?_
      obtain rfl := Option.some.inj h
      exact hret _ _ _ _ _ hP hS dX11_back_65 rfl rfl
    · have h := ip c4 h
      refine lv_bipush (v := (-2 : Int32)) hx hb dX11_back_20 rfl ?_
      obtain rfl := Option.some.inj h
      exact hret _ _ _ _ _ hP hS dX11_back_22 rfl rfl
  · have h := ip c2 h
    refine lv_iconst (v := (-1 : Int32)) hx hb dX11_back_9 rfl ?_
    obtain rfl := Option.some.inj h
    exact hret _ _ _ _ _ hP hS dX11_back_10 rfl rfl
set_option maxHeartbeats 4000000 in
set_option maxRecDepth 100000 in
theorem c_Mo_becomes (l : Launch) (D : va_G) (cC cI cZ : ClassId) (a_this : Nat) (a_now : Nat) (a_undos : Nat) (a_seen : Nat) (a_seenAs : Nat) (a_isKept : Nat) (a_kept : Nat) (a_text : Nat) (a_read : Nat) (a_fewest : Nat) (a_doors : Nat) (a_isSo : Nat) (v_undoMany : Int32) (v_undoAt : Int32) (v_seenMany : Int32) (v_letterMany : Int32) (v_readAt : Int32) (v_tokenAt : Int32) (v_token : Int32) (v_value : Int32) (v_faultAt : Int32) (v_readOnce : Int32) (v_greatUpper : Int64) (v_greatLower : Int64) (A_now : Nat → Int32) (A_undos : Nat → Int32) (A_seen : Nat → Int32) (A_seenAs : Nat → Int32) (A_isKept : Nat → Int32) (A_kept : Nat → Int32) (A_text : Nat → Int32) (A_read : Nat → Int32) (A_fewest : Nat → Int32) (A_doors : Nat → Int32) (A_isSo : Nat → Int32) (p1 : Int32) (p2 : Int32) (sz : Nat) (z : Int32 × Int32 × Int32 × (Nat → Int32) × (Nat → Int32)) (h : f_Mo_becomes v_undoMany v_undoAt A_now A_undos p1 p2 = some z) : Met l yX11_becomes (.code yX11_becomes cX11_becomes 4 (some .int) :: TBL) (RM 1 21) (PcM [.ref a_this, .int p1, .int p2] sz D (TY cC cI cZ) (k_Mo cC cI cZ a_this a_now a_undos a_seen a_seenAs a_isKept a_kept a_text a_read a_fewest a_doors a_isSo v_undoMany v_undoAt v_seenMany v_letterMany v_readAt v_tokenAt v_token v_value v_faultAt v_readOnce v_greatUpper v_greatLower A_now A_undos A_seen A_seenAs A_isKept A_kept A_text A_read A_fewest A_doors A_isSo)) (fun a st o t => QM (some (.int z.1)) D (k_Mo cC cI cZ a_this a_now a_undos a_seen a_seenAs a_isKept a_kept a_text a_read a_fewest a_doors a_isSo z.2.1 z.2.2.1 v_seenMany v_letterMany v_readAt v_tokenAt v_token v_value v_faultAt v_readOnce v_greatUpper v_greatLower z.2.2.2.1 z.2.2.2.2 A_seen A_seenAs A_isKept A_kept A_text A_read A_fewest A_doors A_isSo) (va_A (k_Mo cC cI cZ a_this a_now a_undos a_seen a_seenAs a_isKept a_kept a_text a_read a_fewest a_doors a_isSo v_undoMany v_undoAt v_seenMany v_letterMany v_readAt v_tokenAt v_token v_value v_faultAt v_readOnce v_greatUpper v_greatLower A_now A_undos A_seen A_seenAs A_isKept A_kept A_text A_read A_fewest A_doors A_isSo) sz) a st o t ∧ narrow .int (.int z.1) = .int z.1) 0 0 (va_A (k_Mo cC cI cZ a_this a_now a_undos a_seen a_seenAs a_isKept a_kept a_text a_read a_fewest a_doors a_isSo v_undoMany v_undoAt v_seenMany v_letterMany v_readAt v_tokenAt v_token v_value v_faultAt v_readOnce v_greatUpper v_greatLower A_now A_undos A_seen A_seenAs A_isKept A_kept A_text A_read A_fewest A_doors A_isSo) sz) := by
  refine muOf (by decide) (Nat.le_of_ble_eq_true rfl) rfl ?_
  intro p e s m args below meth c Q ls A X hP hD hS hA hl hret
  have X : Ctx p s m args c cX11_becomes 4 RX11 D (TY cC cI cZ) := X
  obtain ⟨hx, hb, hml, hown, htT, hK, hN⟩ := id X
  unfold f_Mo_becomes at h
  refine lv_aload_n hx hb dX11_becomes_0 rfl (lv_at hl 0 rfl) ?_
  refine va_get (ci := 11) (v := .ref a_now) (C := RX11) (T := TX11) (N := 23) hx hb htT inlX11 hown hK hP 0 rfl rfl 0 (by decide) (htT _ q_7_0) (fun _ h9 => h9) rfl dX11_becomes_1 ?_
  refine lv_iload_n hx hb dX11_becomes_4 rfl (lv_at hl 1 rfl) ?_
  obtain ⟨g1, h⟩ := gd h
  refine va_iald hx hb hK hP 1 1 rfl rfl (inB_in g1) dX11_becomes_5 ?_
  refine lv_istore_n (lv' := [(3, .int (A_now (p1).toNatClampNeg)), (0, .ref a_this), (1, .int p1), (2, .int p2)]) hx hb dX11_becomes_6 rfl hl (by decide) rfl (fun ls hl => ?_)
  refine lv_aload_n hx hb dX11_becomes_7 rfl (lv_at hl 1 rfl) ?_
  obtain ⟨z2, e2, h⟩ := bd h
  refine muVV (ws' := (k_Mo cC cI cZ a_this a_now a_undos a_seen a_seenAs a_isKept a_kept a_text a_read a_fewest a_doors a_isSo z2.1 z2.2.1 v_seenMany v_letterMany v_readAt v_tokenAt v_token v_value v_faultAt v_readOnce v_greatUpper v_greatLower A_now z2.2.2 A_seen A_seenAs A_isKept A_kept A_text A_read A_fewest A_doors A_isSo)) X [] [] (c_Mo_remember l D cC cI cZ a_this a_now a_undos a_seen a_seenAs a_isKept a_kept a_text a_read a_fewest a_doors a_isSo v_undoMany v_undoAt v_seenMany v_letterMany v_readAt v_tokenAt v_token v_value v_faultAt v_readOnce v_greatUpper v_greatLower A_now A_undos A_seen A_seenAs A_isKept A_kept A_text A_read A_fewest A_doors A_isSo _ z2 e2) gg_X11_120 hd_Mo_remember ⟨rfl, rfl, Nat.le_of_ble_eq_true rfl, Nat.le_of_ble_eq_true rfl⟩ ⟨Nat.zero_le _, Nat.zero_le _⟩ hP hD hS hA [0, 1, 2, 3, 4, 5, 6, 7, 8, 9, 10, 11] [] [0, 1, 2, 3, 4, 5, 6, 7, 8, 9, 10, 11] rfl rfl (by decide) (by decide) rfl rfl rfl rfl rfl hl.1 rfl (Nat.le_of_ble_eq_true rfl) dX11_becomes_8 (fun H locs hP hD hS => ?_)
  refine lv_aload_n hx hb dX11_becomes_11 rfl (lv_at hl 1 rfl) ?_
  refine va_get (ci := 11) (v := .ref a_now) (C := RX11) (T := TX11) (N := 23) hx hb htT inlX11 hown hK hP 0 rfl rfl 0 (by decide) (htT _ q_7_0) (fun _ h9 => h9) rfl dX11_becomes_12 ?_
  refine lv_iload_n hx hb dX11_becomes_15 rfl (lv_at hl 2 rfl) ?_
  refine lv_iload_n hx hb dX11_becomes_16 rfl (lv_at hl 3 rfl) ?_
  obtain ⟨g3, h⟩ := gd h
  refine va_iast hx hb hK hP hD hS 1 1 rfl rfl (inB_in g3) dX11_becomes_17 (fun H locs hP hD hS => ?_)
  have hP : va_P D vwCl (k_Mo cC cI cZ a_this a_now a_undos a_seen a_seenAs a_isKept a_kept a_text a_read a_fewest a_doors a_isSo z2.1 z2.2.1 v_seenMany v_letterMany v_readAt v_tokenAt v_token v_value v_faultAt v_readOnce v_greatUpper v_greatLower (upd A_now (p1).toNatClampNeg p2) z2.2.2 A_seen A_seenAs A_isKept A_kept A_text A_read A_fewest A_doors A_isSo) H := hP
  have hD : va_D A (k_Mo cC cI cZ a_this a_now a_undos a_seen a_seenAs a_isKept a_kept a_text a_read a_fewest a_doors a_isSo z2.1 z2.2.1 v_seenMany v_letterMany v_readAt v_tokenAt v_token v_value v_faultAt v_readOnce v_greatUpper v_greatLower (upd A_now (p1).toNatClampNeg p2) z2.2.2 A_seen A_seenAs A_isKept A_kept A_text A_read A_fewest A_doors A_isSo) := hD
  refine lv_iload_n hx hb dX11_becomes_18 rfl (lv_at hl 0 rfl) ?_
  obtain rfl := Option.some.inj h
  exact hret _ _ _ _ _ hP hS dX11_becomes_19 rfl rfl
set_option maxHeartbeats 4000000 in
set_option maxRecDepth 100000 in
theorem c_Mo_begins (l : Launch) (D : va_G) (cC cI cZ : ClassId) (a_o0 : Nat) (A_o0 : Nat → Int32)  (sz : Nat) (z : (Nat → Int32)) (h : f_Mo_begins A_o0 = some z) : Met l yX11_begins (.code yX11_begins cX11_begins 2 none :: TBL) (RM 0 0) (PcM [.ref a_o0] sz D (TY cC cI cZ) ([(a_o0, .inl (cI, 31, .inl A_o0))])) (QM none D ([(a_o0, .inl (cI, 31, .inl z))]) (va_A ([(a_o0, .inl (cI, 31, .inl A_o0))]) sz)) 0 0 (va_A ([(a_o0, .inl (cI, 31, .inl A_o0))]) sz) := by
  refine muOfV (by decide) (Nat.le_of_ble_eq_true rfl) rfl ?_
  intro p e s m args below meth c Q ls A X hP hD hS hA hl hret
  have X : Ctx p s m args c cX11_begins 2 RX11 D (TY cC cI cZ) := X
  obtain ⟨hx, hb, hml, hown, htT, hK, hN⟩ := id X
  unfold f_Mo_begins at h
  refine lv_iconst (v := (0 : Int32)) hx hb dX11_begins_0 rfl ?_
  refine lv_istore_n (lv' := [(1, .int (0 : Int32)), (0, .ref a_o0)]) hx hb dX11_begins_1 rfl hl (by decide) rfl (fun ls hl => ?_)
  have LP2 : ∀ (n : Nat) (y2_1 : Int32) (A_o0_2 : Nat → Int32) (zq2 : (Nat → Int32)), f_Mo_begins_L2  n y2_1 A_o0_2 = some zq2 → ∀ (H : Heap) (locs : List Loc) (ls : Array Slot), va_P D vwCl ([(a_o0, .inl (cI, 31, .inl A_o0_2))]) H → va_D A ([(a_o0, .inl (cI, 31, .inl A_o0_2))]) → va_S A s.heap H locs → lv_has ls 2 [(0, .ref a_o0), (1, .int y2_1)] → (∀ (H : Heap) (locs : List Loc) (ls : Array Slot), va_P D vwCl ([(a_o0, .inl (cI, 31, .inl zq2))]) H → va_D A ([(a_o0, .inl (cI, 31, .inl zq2))]) → va_S A s.heap H locs → lv_has ls 2 [(0, .ref a_o0)] → W p l e (RM 0 0) s m args below meth c H locs 0 0 Q (F0 m 18 ls [])) → W p l e (RM 0 0) s m args below meth c H locs 0 0 Q (F0 m 2 ls []) := by
    clear h
    intro n
    induction n with
    | zero =>
      intro y2_1 A_o0_2 zq2 h
      rw [f_Mo_begins_L2_0] at h
      cases h
    | succ n ih2 =>
      intro y2_1 A_o0_2 zq2 h H locs ls hP hD hS hl k2_0
      rw [f_Mo_begins_L2_s] at h
      refine lv_iload_n hx hb dX11_begins_2 rfl (lv_at hl 1 rfl) ?_
      refine lv_bipush (v := (31 : Int32)) hx hb dX11_begins_3 rfl ?_
      refine lv_icmp_ge (tgt := 18) hx hb dX11_begins_5 (by decide) (fun c2 => ?_) (fun c2 => ?_)
      · have h := ip c2 h
        obtain rfl := Option.some.inj h
        exact k2_0 _ _ _ hP hD hS (lv_sub hl [0] rfl)
      · have h := im c2 h
        refine lv_aload_n hx hb dX11_begins_8 rfl (lv_at hl 0 rfl) ?_
        refine lv_iload_n hx hb dX11_begins_9 rfl (lv_at hl 1 rfl) ?_
        refine lv_iconst (v := (0 : Int32)) hx hb dX11_begins_10 rfl ?_
        obtain ⟨g3, h⟩ := gd h
        refine va_iast hx hb hK hP hD hS 0 1 rfl rfl (inB_in g3) dX11_begins_11 (fun H locs hP hD hS => ?_)
        have hP : va_P D vwCl ([(a_o0, .inl (cI, 31, .inl (upd A_o0_2 (y2_1).toNatClampNeg (0 : Int32))))]) H := hP
        have hD : va_D A ([(a_o0, .inl (cI, 31, .inl (upd A_o0_2 (y2_1).toNatClampNeg (0 : Int32))))]) := hD
        refine lv_iinc (v := (y2_1 + (1 : Int32))) (lv' := [(1, .int (y2_1 + (1 : Int32))), (0, .ref a_o0)]) hx hb dX11_begins_12 hl (k := 1) rfl rfl (by decide) rfl (fun ls hl => ?_)
        refine lv_goto (tgt := 2) hx hb dX11_begins_15 (by decide) ?_
        exact ih2 (y2_1 + (1 : Int32)) (upd A_o0_2 (y2_1).toNatClampNeg (0 : Int32)) _ h _ _ _ hP hD hS (lv_sub hl [1, 0] rfl) k2_0
  obtain ⟨z1, e1, h⟩ := bd h
  refine LP2 fu (0 : Int32) A_o0 z1 e1 _ _ _ hP hD hS (lv_sub hl [1, 0] rfl) ?_
  intro H locs ls hP hD hS hl
  refine lv_aload_n hx hb dX11_begins_18 rfl (lv_at hl 0 rfl) ?_
  refine lv_iconst (v := (1 : Int32)) hx hb dX11_begins_19 rfl ?_
  refine lv_iconst (v := (5 : Int32)) hx hb dX11_begins_20 rfl ?_
  obtain ⟨g4, h⟩ := gd h
  refine va_iast hx hb hK hP hD hS 0 1 rfl rfl (inB_in g4) dX11_begins_21 (fun H locs hP hD hS => ?_)
  have hP : va_P D vwCl ([(a_o0, .inl (cI, 31, .inl (upd z1 ((1 : Int32)).toNatClampNeg (5 : Int32))))]) H := hP
  have hD : va_D A ([(a_o0, .inl (cI, 31, .inl (upd z1 ((1 : Int32)).toNatClampNeg (5 : Int32))))]) := hD
  refine lv_aload_n hx hb dX11_begins_22 rfl (lv_at hl 0 rfl) ?_
  refine lv_iconst (v := (2 : Int32)) hx hb dX11_begins_23 rfl ?_
  refine lv_bipush (v := (14 : Int32)) hx hb dX11_begins_24 rfl ?_
  obtain ⟨g5, h⟩ := gd h
  refine va_iast hx hb hK hP hD hS 0 1 rfl rfl (inB_in g5) dX11_begins_26 (fun H locs hP hD hS => ?_)
  have hP : va_P D vwCl ([(a_o0, .inl (cI, 31, .inl (upd (upd z1 ((1 : Int32)).toNatClampNeg (5 : Int32)) ((2 : Int32)).toNatClampNeg (14 : Int32))))]) H := hP
  have hD : va_D A ([(a_o0, .inl (cI, 31, .inl (upd (upd z1 ((1 : Int32)).toNatClampNeg (5 : Int32)) ((2 : Int32)).toNatClampNeg (14 : Int32))))]) := hD
  obtain rfl := Option.some.inj h
  exact hret _ _ _ _ hP hS dX11_begins_27
set_option maxHeartbeats 4000000 in
set_option maxRecDepth 100000 in
theorem c_Mo_bits (l : Launch) (D : va_G) (cC cI cZ : ClassId)   (p0 : Int32) (r : Int32) (h : f_Mo_bits p0 = some r) : Met l yX11_bits (.code yX11_bits cX11_bits 3 (some .int) :: TBL) (RM 0 0) (PcR [.int p0] D (TY cC cI cZ) []) (vp_Si (PO .int r)) 0 0 (fun _ => False) := by
  refine roOf (by decide) (Nat.le_of_ble_eq_true rfl) rfl ?_
  intro p e s m args below meth c Q ls X hP hl hret
  have X : Ctx p s m args c cX11_bits 3 RX11 D (TY cC cI cZ) := X
  obtain ⟨hx, hb, hml, hown, htT, hK, hN⟩ := id X
  unfold f_Mo_bits at h
  refine lv_iconst (v := (0 : Int32)) hx hb dX11_bits_0 rfl ?_
  refine lv_istore_n (lv' := [(1, .int (0 : Int32)), (0, .int p0)]) hx hb dX11_bits_1 rfl hl (by decide) rfl (fun ls hl => ?_)
  refine lv_iload_n hx hb dX11_bits_2 rfl (lv_at hl 1 rfl) ?_
  refine lv_istore_n (lv' := [(2, .int p0), (1, .int (0 : Int32)), (0, .int p0)]) hx hb dX11_bits_3 rfl hl (by decide) rfl (fun ls hl => ?_)
  have LP4 : ∀ (n : Nat) (y4_1 : Int32) (y4_2 : Int32) (zq4 : Int32), f_Mo_bits_L4  n y4_1 y4_2 = some zq4 → ∀ (ls : Array Slot), lv_has ls 3 [(1, .int y4_1), (2, .int y4_2)] → (∀ (ls : Array Slot), lv_has ls 3 [(1, .int zq4)] → W p l e (RM 0 0) s m args below meth c s.heap [] 0 0 Q (F0 m 20 ls [])) → W p l e (RM 0 0) s m args below meth c s.heap [] 0 0 Q (F0 m 4 ls []) := by
    clear h
    intro n
    induction n with
    | zero =>
      intro y4_1 y4_2 zq4 h
      rw [f_Mo_bits_L4_0] at h
      cases h
    | succ n ih4 =>
      intro y4_1 y4_2 zq4 h ls hl k4_0
      rw [f_Mo_bits_L4_s] at h
      refine lv_iload_n hx hb dX11_bits_4 rfl (lv_at hl 1 rfl) ?_
      refine lv_if_eq (tgt := 20) hx hb dX11_bits_5 (by decide) (fun c2 => ?_) (fun c2 => ?_)
      · have h := ip c2 h
        obtain rfl := Option.some.inj h
        exact k4_0 _ (lv_sub hl [0] rfl)
      · have h := im c2 h
        refine lv_iinc (v := (y4_1 + (1 : Int32))) (lv' := [(1, .int (y4_1 + (1 : Int32))), (2, .int y4_2)]) hx hb dX11_bits_8 hl (k := 0) rfl rfl (by decide) rfl (fun ls hl => ?_)
        refine lv_iload_n hx hb dX11_bits_11 rfl (lv_at hl 1 rfl) ?_
        refine lv_iload_n hx hb dX11_bits_12 rfl (lv_at hl 1 rfl) ?_
        refine lv_iconst (v := (1 : Int32)) hx hb dX11_bits_13 rfl ?_
        refine lv_isub hx hb dX11_bits_14 ?_
        refine lv_iand hx hb dX11_bits_15 ?_
        refine lv_istore_n (lv' := [(2, .int (y4_2 &&& (y4_2 - (1 : Int32)))), (1, .int (y4_1 + (1 : Int32)))]) hx hb dX11_bits_16 rfl hl (by decide) rfl (fun ls hl => ?_)
        refine lv_goto (tgt := 4) hx hb dX11_bits_17 (by decide) ?_
        exact ih4 (y4_1 + (1 : Int32)) (y4_2 &&& (y4_2 - (1 : Int32))) _ h _ (lv_sub hl [1, 0] rfl) k4_0
  obtain ⟨z1, e1, h⟩ := bd h
  refine LP4 fu (0 : Int32) p0 z1 e1 _ (lv_sub hl [1, 0] rfl) ?_
  intro ls hl
  refine lv_iload_n hx hb dX11_bits_20 rfl (lv_at hl 0 rfl) ?_
  exact hret _ _ _ dX11_bits_21 (Option.some.inj h) rfl
set_option maxHeartbeats 4000000 in
set_option maxRecDepth 100000 in
theorem c_Mo_blanks (l : Launch) (D : va_G) (cC cI cZ : ClassId) (a_this : Nat) (a_now : Nat) (a_undos : Nat) (a_seen : Nat) (a_seenAs : Nat) (a_isKept : Nat) (a_kept : Nat) (a_text : Nat) (a_read : Nat) (a_fewest : Nat) (a_doors : Nat) (a_isSo : Nat) (v_undoMany : Int32) (v_undoAt : Int32) (v_seenMany : Int32) (v_letterMany : Int32) (v_readAt : Int32) (v_tokenAt : Int32) (v_token : Int32) (v_value : Int32) (v_faultAt : Int32) (v_readOnce : Int32) (v_greatUpper : Int64) (v_greatLower : Int64) (A_now : Nat → Int32) (A_undos : Nat → Int32) (A_seen : Nat → Int32) (A_seenAs : Nat → Int32) (A_isKept : Nat → Int32) (A_kept : Nat → Int32) (A_text : Nat → Int32) (A_read : Nat → Int32) (A_fewest : Nat → Int32) (A_doors : Nat → Int32) (A_isSo : Nat → Int32)  (sz : Nat) (z : Int32) (h : f_Mo_blanks v_letterMany v_readAt A_text = some z) : Met l yX11_blanks (.code yX11_blanks cX11_blanks 1 none :: TBL) (RM 0 0) (PcM [.ref a_this] sz D (TY cC cI cZ) (k_Mo cC cI cZ a_this a_now a_undos a_seen a_seenAs a_isKept a_kept a_text a_read a_fewest a_doors a_isSo v_undoMany v_undoAt v_seenMany v_letterMany v_readAt v_tokenAt v_token v_value v_faultAt v_readOnce v_greatUpper v_greatLower A_now A_undos A_seen A_seenAs A_isKept A_kept A_text A_read A_fewest A_doors A_isSo)) (QM none D (k_Mo cC cI cZ a_this a_now a_undos a_seen a_seenAs a_isKept a_kept a_text a_read a_fewest a_doors a_isSo v_undoMany v_undoAt v_seenMany v_letterMany z v_tokenAt v_token v_value v_faultAt v_readOnce v_greatUpper v_greatLower A_now A_undos A_seen A_seenAs A_isKept A_kept A_text A_read A_fewest A_doors A_isSo) (va_A (k_Mo cC cI cZ a_this a_now a_undos a_seen a_seenAs a_isKept a_kept a_text a_read a_fewest a_doors a_isSo v_undoMany v_undoAt v_seenMany v_letterMany v_readAt v_tokenAt v_token v_value v_faultAt v_readOnce v_greatUpper v_greatLower A_now A_undos A_seen A_seenAs A_isKept A_kept A_text A_read A_fewest A_doors A_isSo) sz)) 0 0 (va_A (k_Mo cC cI cZ a_this a_now a_undos a_seen a_seenAs a_isKept a_kept a_text a_read a_fewest a_doors a_isSo v_undoMany v_undoAt v_seenMany v_letterMany v_readAt v_tokenAt v_token v_value v_faultAt v_readOnce v_greatUpper v_greatLower A_now A_undos A_seen A_seenAs A_isKept A_kept A_text A_read A_fewest A_doors A_isSo) sz) := by
  refine muOfV (by decide) (Nat.le_of_ble_eq_true rfl) rfl ?_
  intro p e s m args below meth c Q ls A X hP hD hS hA hl hret
  have X : Ctx p s m args c cX11_blanks 1 RX11 D (TY cC cI cZ) := X
  obtain ⟨hx, hb, hml, hown, htT, hK, hN⟩ := id X
  unfold f_Mo_blanks at h
  have LP0 : ∀ (n : Nat) (v_readAt_0 : Int32) (zq0 : Int32), f_Mo_blanks_L0 v_letterMany A_text n v_readAt_0 = some zq0 → ∀ (H : Heap) (locs : List Loc) (ls : Array Slot), va_P D vwCl (k_Mo cC cI cZ a_this a_now a_undos a_seen a_seenAs a_isKept a_kept a_text a_read a_fewest a_doors a_isSo v_undoMany v_undoAt v_seenMany v_letterMany v_readAt_0 v_tokenAt v_token v_value v_faultAt v_readOnce v_greatUpper v_greatLower A_now A_undos A_seen A_seenAs A_isKept A_kept A_text A_read A_fewest A_doors A_isSo) H → va_D A (k_Mo cC cI cZ a_this a_now a_undos a_seen a_seenAs a_isKept a_kept a_text a_read a_fewest a_doors a_isSo v_undoMany v_undoAt v_seenMany v_letterMany v_readAt_0 v_tokenAt v_token v_value v_faultAt v_readOnce v_greatUpper v_greatLower A_now A_undos A_seen A_seenAs A_isKept A_kept A_text A_read A_fewest A_doors A_isSo) → va_S A s.heap H locs → lv_has ls 1 [(0, .ref a_this)] → (∀ (H : Heap) (locs : List Loc) (ls : Array Slot), va_P D vwCl (k_Mo cC cI cZ a_this a_now a_undos a_seen a_seenAs a_isKept a_kept a_text a_read a_fewest a_doors a_isSo v_undoMany v_undoAt v_seenMany v_letterMany zq0 v_tokenAt v_token v_value v_faultAt v_readOnce v_greatUpper v_greatLower A_now A_undos A_seen A_seenAs A_isKept A_kept A_text A_read A_fewest A_doors A_isSo) H → va_D A (k_Mo cC cI cZ a_this a_now a_undos a_seen a_seenAs a_isKept a_kept a_text a_read a_fewest a_doors a_isSo v_undoMany v_undoAt v_seenMany v_letterMany zq0 v_tokenAt v_token v_value v_faultAt v_readOnce v_greatUpper v_greatLower A_now A_undos A_seen A_seenAs A_isKept A_kept A_text A_read A_fewest A_doors A_isSo) → va_S A s.heap H locs → lv_has ls 1 [] → W p l e (RM 0 0) s m args below meth c H locs 0 0 Q (F0 m 38 ls [])) → W p l e (RM 0 0) s m args below meth c H locs 0 0 Q (F0 m 0 ls []) := by
    clear h
    intro n
    induction n with
    | zero =>
      intro v_readAt_0 zq0 h
      rw [f_Mo_blanks_L0_0] at h
      cases h
    | succ n ih0 =>
      intro v_readAt_0 zq0 h H locs ls hP hD hS hl k0_0
      rw [f_Mo_blanks_L0_s] at h
      refine lv_aload_n hx hb dX11_blanks_0 rfl (lv_at hl 0 rfl) ?_
      refine va_get (ci := 11) (v := .int v_readAt_0) (C := RX11) (T := TX11) (N := 23) hx hb htT inlX11 hown hK hP 0 rfl rfl 11 (by decide) (htT _ q_13_22) (fun _ h9 => h9) rfl dX11_blanks_1 ?_
      refine lv_aload_n hx hb dX11_blanks_4 rfl (lv_at hl 0 rfl) ?_
      refine va_get (ci := 11) (v := .int v_letterMany) (C := RX11) (T := TX11) (N := 23) hx hb htT inlX11 hown hK hP 0 rfl rfl 9 (by decide) (htT _ q_8_11) (fun _ h9 => h9) rfl dX11_blanks_5 ?_
      refine lv_icmp_ge (tgt := 38) hx hb dX11_blanks_8 (by decide) (fun c2 => ?_) (fun c2 => ?_)
      · have h := ip c2 h
        obtain rfl := Option.some.inj h
        exact k0_0 _ _ _ hP hD hS (lv_sub hl [] rfl)
      · have h := im c2 h
        refine lv_aload_n hx hb dX11_blanks_11 rfl (lv_at hl 0 rfl) ?_
        refine va_get (ci := 11) (v := .ref a_text) (C := RX11) (T := TX11) (N := 23) hx hb htT inlX11 hown hK hP 0 rfl rfl 10 (by decide) (htT _ q_7_7) (fun _ h9 => h9) rfl dX11_blanks_12 ?_
        refine lv_aload_n hx hb dX11_blanks_15 rfl (lv_at hl 0 rfl) ?_
        refine va_get (ci := 11) (v := .int v_readAt_0) (C := RX11) (T := TX11) (N := 23) hx hb htT inlX11 hown hK hP 0 rfl rfl 11 (by decide) (htT _ q_13_22) (fun _ h9 => h9) rfl dX11_blanks_16 ?_
        obtain ⟨g3, h⟩ := gd h
        refine va_iald hx hb hK hP 7 1 rfl rfl (inB_in g3) dX11_blanks_19 ?_
        refine lv_bipush (v := (32 : Int32)) hx hb dX11_blanks_20 rfl ?_
        refine lv_icmp_ne (tgt := 38) hx hb dX11_blanks_22 (by decide) (fun c4 => ?_) (fun c4 => ?_)
        · have h := im c4 h
          obtain rfl := Option.some.inj h
          exact k0_0 _ _ _ hP hD hS (lv_sub hl [] rfl)
        · have h := ip c4 h
          refine lv_aload_n hx hb dX11_blanks_25 rfl (lv_at hl 0 rfl) ?_
          refine lv_dup hx hb dX11_blanks_26 rfl ?_
          refine va_get (ci := 11) (v := .int v_readAt_0) (C := RX11) (T := TX11) (N := 23) hx hb htT inlX11 hown hK hP 0 rfl rfl 11 (by decide) (htT _ q_13_22) (fun _ h9 => h9) rfl dX11_blanks_27 ?_
          refine lv_iconst (v := (1 : Int32)) hx hb dX11_blanks_30 rfl ?_
          refine lv_iadd hx hb dX11_blanks_31 ?_
          refine va_put (ci := 11) (v := .int (v_readAt_0 + (1 : Int32))) (ty := .int) (C := RX11) (T := TX11) (N := 23) hx hb htT inlX11 tyX11 tyX11_ok nmX11 hown hK hP hD hS 0 rfl rfl 11 (by decide) (htT _ q_13_22) (fun _ h9 => h9) rfl (tyX11_ok 11 (by decide)) rfl rfl (Nat.le_of_ble_eq_true rfl) dX11_blanks_32 (fun H locs hP hD hS => ?_)
          have hP : va_P D vwCl (k_Mo cC cI cZ a_this a_now a_undos a_seen a_seenAs a_isKept a_kept a_text a_read a_fewest a_doors a_isSo v_undoMany v_undoAt v_seenMany v_letterMany (v_readAt_0 + (1 : Int32)) v_tokenAt v_token v_value v_faultAt v_readOnce v_greatUpper v_greatLower A_now A_undos A_seen A_seenAs A_isKept A_kept A_text A_read A_fewest A_doors A_isSo) H := hP
          have hD : va_D A (k_Mo cC cI cZ a_this a_now a_undos a_seen a_seenAs a_isKept a_kept a_text a_read a_fewest a_doors a_isSo v_undoMany v_undoAt v_seenMany v_letterMany (v_readAt_0 + (1 : Int32)) v_tokenAt v_token v_value v_faultAt v_readOnce v_greatUpper v_greatLower A_now A_undos A_seen A_seenAs A_isKept A_kept A_text A_read A_fewest A_doors A_isSo) := hD
          refine lv_goto (tgt := 0) hx hb dX11_blanks_35 (by decide) ?_
          exact ih0 (v_readAt_0 + (1 : Int32)) _ h _ _ _ hP hD hS (lv_sub hl [0] rfl) k0_0
  obtain ⟨z1, e1, h⟩ := bd h
  refine LP0 fu v_readAt z1 e1 _ _ _ hP hD hS (lv_sub hl [0] rfl) ?_
  intro H locs ls hP hD hS hl
  obtain rfl := Option.some.inj h
  exact hret _ _ _ _ hP hS dX11_blanks_38

set_option maxHeartbeats 4000000 in
set_option maxRecDepth 100000 in
theorem c_TR_bitAt (l : Launch) (D : va_G) (cC cI cZ : ClassId)   (p0 : Int32) (p1 : Int32) (r : Int32) (h : f_TR_bitAt p0 p1 = r) : Met l yX10_bitAt (.code yX10_bitAt cX10_bitAt 2 (some .int) :: TBL) (RM 0 0) (PcR [.int p0, .int p1] D (TY cC cI cZ) []) (vp_Si (PO .int r)) 0 0 (fun _ => False) := by
  refine roOf (by decide) (Nat.le_of_ble_eq_true rfl) rfl ?_
  intro p e s m args below meth c Q ls X hP hl hret
  have X : Ctx p s m args c cX10_bitAt 2 RX10 D (TY cC cI cZ) := X
  obtain ⟨hx, hb, hml, hown, htT, hK, hN⟩ := id X
  unfold f_TR_bitAt at h
  refine lv_iload_n hx hb dX10_bitAt_0 rfl (lv_at hl 0 rfl) ?_
  refine lv_iload_n hx hb dX10_bitAt_1 rfl (lv_at hl 1 rfl) ?_
  refine lv_iushr hx hb dX10_bitAt_2 rfl ?_
  refine lv_iconst (v := (1 : Int32)) hx hb dX10_bitAt_3 rfl ?_
  refine lv_iand hx hb dX10_bitAt_4 ?_
  exact hret _ _ _ dX10_bitAt_5 h rfl
set_option maxHeartbeats 4000000 in
set_option maxRecDepth 100000 in
theorem c_TR_isWithin (l : Launch) (D : va_G) (cC cI cZ : ClassId)   (p0 : Int32) (p1 : Int32) (p2 : Int32) (r : Int32) (h : f_TR_isWithin p0 p1 p2 = r) : Met l yX10_isWithin (.code yX10_isWithin cX10_isWithin 3 (some .boolean) :: TBL) (RM 0 0) (PcR [.int p0, .int p1, .int p2] D (TY cC cI cZ) []) (vp_Si (PO .boolean r)) 0 0 (fun _ => False) := by
  refine roOf (by decide) (Nat.le_of_ble_eq_true rfl) rfl ?_
  intro p e s m args below meth c Q ls X hP hl hret
  have X : Ctx p s m args c cX10_isWithin 3 RX10 D (TY cC cI cZ) := X
  obtain ⟨hx, hb, hml, hown, htT, hK, hN⟩ := id X
  unfold f_TR_isWithin at h
  refine lv_iload_n hx hb dX10_isWithin_0 rfl (lv_at hl 0 rfl) ?_
  refine lv_iload_n hx hb dX10_isWithin_1 rfl (lv_at hl 1 rfl) ?_
  refine lv_icmp_lt (tgt := 14) hx hb dX10_isWithin_2 (by decide) (fun c1 => ?_) (fun c1 => ?_)
  · have h := ip c1 h
    refine lv_iconst (v := (0 : Int32)) hx hb dX10_isWithin_14 rfl ?_
    exact hret _ _ _ dX10_isWithin_15 h rfl
  · have h := im c1 h
    refine lv_iload_n hx hb dX10_isWithin_5 rfl (lv_at hl 0 rfl) ?_
    refine lv_iload_n hx hb dX10_isWithin_6 rfl (lv_at hl 2 rfl) ?_
    refine lv_icmp_gt (tgt := 14) hx hb dX10_isWithin_7 (by decide) (fun c2 => ?_) (fun c2 => ?_)
    · have h := ip c2 h
      refine lv_iconst (v := (0 : Int32)) hx hb dX10_isWithin_14 rfl ?_
      exact hret _ _ _ dX10_isWithin_15 h rfl
    · have h := im c2 h
      refine lv_iconst (v := (1 : Int32)) hx hb dX10_isWithin_10 rfl ?_
      refine lv_goto (tgt := 15) hx hb dX10_isWithin_11 (by decide) ?_
      exact hret _ _ _ dX10_isWithin_15 h rfl
set_option maxHeartbeats 4000000 in
set_option maxRecDepth 100000 in
theorem c_Fraction_commonDivisor (l : Launch) (D : va_G) (cC cI cZ : ClassId)   (p0 : Int32) (p1 : Int32) (r : Int32) (h : f_Fraction_commonDivisor p0 p1 = some r) : Met l yX0_commonDivisor (.code yX0_commonDivisor cX0_commonDivisor 6 (some .int) :: TBL) (RM 0 0) (PcR [.int p0, .int p1] D (TY cC cI cZ) []) (vp_Si (PO .int r)) 0 0 (fun _ => False) := by
  refine roOf (by decide) (Nat.le_of_ble_eq_true rfl) rfl ?_
  intro p e s m args below meth c Q ls X hP hl hret
  have X : Ctx p s m args c cX0_commonDivisor 6 RX0 D (TY cC cI cZ) := X
  obtain ⟨hx, hb, hml, hown, htT, hK, hN⟩ := id X
  unfold f_Fraction_commonDivisor at h
  refine lv_iload_n hx hb dX0_commonDivisor_0 rfl (lv_at hl 0 rfl) ?_
  refine lv_istore_n (lv' := [(2, .int p0), (0, .int p0), (1, .int p1)]) hx hb dX0_commonDivisor_1 rfl hl (by decide) rfl (fun ls hl => ?_)
  refine lv_iload_n hx hb dX0_commonDivisor_2 rfl (lv_at hl 2 rfl) ?_
  refine lv_istore_n (lv' := [(3, .int p1), (2, .int p0), (0, .int p0), (1, .int p1)]) hx hb dX0_commonDivisor_3 rfl hl (by decide) rfl (fun ls hl => ?_)
  refine lv_iconst (v := (0 : Int32)) hx hb dX0_commonDivisor_4 rfl ?_
  refine lv_istore (lv' := [(4, .int (0 : Int32)), (3, .int p1), (2, .int p0), (0, .int p0), (1, .int p1)]) hx hb dX0_commonDivisor_5 hl (by decide) rfl (fun ls hl => ?_)
  have LP7 : ∀ (n : Nat) (y7_2 : Int32) (y7_3 : Int32) (y7_4 : Int32) (zq7 : Int32), f_Fraction_commonDivisor_L7  n y7_2 y7_3 y7_4 = some zq7 → ∀ (ls : Array Slot), lv_has ls 6 [(2, .int y7_2), (3, .int y7_3), (4, .int y7_4)] → (∀ (ls : Array Slot), lv_has ls 6 [(2, .int zq7)] → W p l e (RM 0 0) s m args below meth c s.heap [] 0 0 Q (F0 m 34 ls [])) → W p l e (RM 0 0) s m args below meth c s.heap [] 0 0 Q (F0 m 7 ls []) := by
    clear h
    intro n
    induction n with
    | zero =>
      intro y7_2 y7_3 y7_4 zq7 h
      rw [f_Fraction_commonDivisor_L7_0] at h
      cases h
    | succ n ih7 =>
      intro y7_2 y7_3 y7_4 zq7 h ls hl k7_0
      rw [f_Fraction_commonDivisor_L7_s] at h
      refine lv_iload hx hb dX0_commonDivisor_7 (lv_at hl 2 rfl) ?_
      refine lv_bipush (v := (64 : Int32)) hx hb dX0_commonDivisor_9 rfl ?_
      refine lv_icmp_ge (tgt := 34) hx hb dX0_commonDivisor_11 (by decide) (fun c2 => ?_) (fun c2 => ?_)
      · have h := ip c2 h
        obtain rfl := Option.some.inj h
        exact k7_0 _ (lv_sub hl [0] rfl)
      · have h := im c2 h
        refine lv_iload_n hx hb dX0_commonDivisor_14 rfl (lv_at hl 1 rfl) ?_
        refine lv_if_eq (tgt := 34) hx hb dX0_commonDivisor_15 (by decide) (fun c3 => ?_) (fun c3 => ?_)
        · have h := ip c3 h
          obtain rfl := Option.some.inj h
          exact k7_0 _ (lv_sub hl [0] rfl)
        · have h := im c3 h
          refine lv_iload_n hx hb dX0_commonDivisor_18 rfl (lv_at hl 0 rfl) ?_
          refine lv_iload_n hx hb dX0_commonDivisor_19 rfl (lv_at hl 1 rfl) ?_
          obtain ⟨g4, h⟩ := gd h
          refine lv_irem hx hb dX0_commonDivisor_20 (nz_ne g4) ?_
          refine lv_istore (lv' := [(5, .int (y7_2 - y7_2 / y7_3 * y7_3)), (2, .int y7_2), (3, .int y7_3), (4, .int y7_4)]) hx hb dX0_commonDivisor_21 hl (by decide) rfl (fun ls hl => ?_)
          refine lv_iload_n hx hb dX0_commonDivisor_23 rfl (lv_at hl 2 rfl) ?_
          refine lv_istore_n (lv' := [(2, .int y7_3), (5, .int (y7_2 - y7_2 / y7_3 * y7_3)), (3, .int y7_3), (4, .int y7_4)]) hx hb dX0_commonDivisor_24 rfl hl (by decide) rfl (fun ls hl => ?_)
          refine lv_iload hx hb dX0_commonDivisor_25 (lv_at hl 1 rfl) ?_
          refine lv_istore_n (lv' := [(3, .int (y7_2 - y7_2 / y7_3 * y7_3)), (2, .int y7_3), (5, .int (y7_2 - y7_2 / y7_3 * y7_3)), (4, .int y7_4)]) hx hb dX0_commonDivisor_27 rfl hl (by decide) rfl (fun ls hl => ?_)
          refine lv_iinc (v := (y7_4 + (1 : Int32))) (lv' := [(4, .int (y7_4 + (1 : Int32))), (3, .int (y7_2 - y7_2 / y7_3 * y7_3)), (2, .int y7_3), (5, .int (y7_2 - y7_2 / y7_3 * y7_3))]) hx hb dX0_commonDivisor_28 hl (k := 3) rfl rfl (by decide) rfl (fun ls hl => ?_)
          refine lv_goto (tgt := 7) hx hb dX0_commonDivisor_31 (by decide) ?_
          exact ih7 y7_3 (y7_2 - y7_2 / y7_3 * y7_3) (y7_4 + (1 : Int32)) _ h _ (lv_sub hl [2, 1, 0] rfl) k7_0
  obtain ⟨z1, e1, h⟩ := bd h
  refine LP7 fu p0 p1 (0 : Int32) z1 e1 _ (lv_sub hl [2, 1, 0] rfl) ?_
  intro ls hl
  refine lv_iload_n hx hb dX0_commonDivisor_34 rfl (lv_at hl 0 rfl) ?_
  exact hret _ _ _ dX0_commonDivisor_35 (Option.some.inj h) rfl
set_option maxHeartbeats 4000000 in
set_option maxRecDepth 100000 in
theorem c_Fraction_assign (l : Launch) (D : va_G) (cC cI cZ : ClassId) (a_this : Nat) (v_upper : Int32) (v_lower : Int32) (p1 : Int32) (p2 : Int32) (sz : Nat) (z : Int32 × Int32) (h : f_Fraction_assign v_upper v_lower p1 p2 = some z) : Met l yX0_assign (.code yX0_assign cX0_assign 4 none :: TBL) (RM 1 25) (PcM [.ref a_this, .int p1, .int p2] sz D (TY cC cI cZ) (k_Fraction cC cI cZ a_this v_upper v_lower)) (QM none D (k_Fraction cC cI cZ a_this z.1 z.2) (va_A (k_Fraction cC cI cZ a_this v_upper v_lower) sz)) 0 0 (va_A (k_Fraction cC cI cZ a_this v_upper v_lower) sz) := by
  refine muOfV (by decide) (Nat.le_of_ble_eq_true rfl) rfl ?_
  intro p e s m args below meth c Q ls A X hP hD hS hA hl hret
  have X : Ctx p s m args c cX0_assign 4 RX0 D (TY cC cI cZ) := X
  obtain ⟨hx, hb, hml, hown, htT, hK, hN⟩ := id X
  unfold f_Fraction_assign at h
  refine lv_iload_n hx hb dX0_assign_0 rfl (lv_at hl 1 rfl) ?_
  refine lv_iload_n hx hb dX0_assign_1 rfl (lv_at hl 2 rfl) ?_
  obtain ⟨r1, e1, h⟩ := bd h
  refine roS X [.int p1, .int p2] [] (c_Fraction_commonDivisor l D cC cI cZ p1 p2 r1 e1) gg_X0_16 hd_Fraction_commonDivisor ⟨rfl, rfl, Nat.le_of_ble_eq_true rfl, Nat.le_of_ble_eq_true rfl⟩ ⟨Nat.zero_le _, Nat.zero_le _⟩ hP [] rfl hl.1 rfl (Nat.le_of_ble_eq_true rfl) dX0_assign_2 (fun n1 => ?_)
  refine lv_istore_n (lv' := [(3, .int r1), (0, .ref a_this), (1, .int p1), (2, .int p2)]) hx hb dX0_assign_5 rfl hl (by decide) rfl (fun ls hl => ?_)
  refine lv_iload_n hx hb dX0_assign_6 rfl (lv_at hl 0 rfl) ?_
  refine lv_iconst (v := (1 : Int32)) hx hb dX0_assign_7 rfl ?_
  refine lv_icmp_ge (tgt := 12) hx hb dX0_assign_8 (by decide) (fun c2 => ?_) (fun c2 => ?_)
  · have h := ip c2 h
    refine lv_aload_n hx hb dX0_assign_12 rfl (lv_at hl 1 rfl) ?_
    refine lv_iload_n hx hb dX0_assign_13 rfl (lv_at hl 2 rfl) ?_
    refine lv_iload_n hx hb dX0_assign_14 rfl (lv_at hl 0 rfl) ?_
    obtain ⟨g3, h⟩ := gd h
    refine lv_idiv hx hb dX0_assign_15 (nz_ne g3) ?_
    refine va_put (ci := 0) (v := .int (p1 / r1)) (ty := .int) (C := RX0) (T := TX0) (N := 2) hx hb htT inlX0 tyX0 tyX0_ok nmX0 hown hK hP hD hS 0 rfl rfl 0 (by decide) (htT _ q_6_18) (fun _ h9 => h9) rfl (tyX0_ok 0 (by decide)) rfl rfl (Nat.le_of_ble_eq_true rfl) dX0_assign_16 (fun H locs hP hD hS => ?_)
    have hP : va_P D vwCl (k_Fraction cC cI cZ a_this (p1 / r1) v_lower) H := hP
    have hD : va_D A (k_Fraction cC cI cZ a_this (p1 / r1) v_lower) := hD
    refine lv_aload_n hx hb dX0_assign_19 rfl (lv_at hl 1 rfl) ?_
    refine lv_iload_n hx hb dX0_assign_20 rfl (lv_at hl 3 rfl) ?_
    refine lv_iload_n hx hb dX0_assign_21 rfl (lv_at hl 0 rfl) ?_
    obtain ⟨g4, h⟩ := gd h
    refine lv_idiv hx hb dX0_assign_22 (nz_ne g4) ?_
    refine va_put (ci := 0) (v := .int (p2 / r1)) (ty := .int) (C := RX0) (T := TX0) (N := 2) hx hb htT inlX0 tyX0 tyX0_ok nmX0 hown hK hP hD hS 0 rfl rfl 1 (by decide) (htT _ q_6_19) (fun _ h9 => h9) rfl (tyX0_ok 1 (by decide)) rfl rfl (Nat.le_of_ble_eq_true rfl) dX0_assign_23 (fun H locs hP hD hS => ?_)
    have hP : va_P D vwCl (k_Fraction cC cI cZ a_this (p1 / r1) (p2 / r1)) H := hP
    have hD : va_D A (k_Fraction cC cI cZ a_this (p1 / r1) (p2 / r1)) := hD
    obtain rfl := Option.some.inj h
    exact hret _ _ _ _ hP hS dX0_assign_26
  · have h := im c2 h
    obtain rfl := Option.some.inj h
    exact hret _ _ _ _ hP hS dX0_assign_11
set_option maxHeartbeats 4000000 in
set_option maxRecDepth 100000 in
theorem c_Fraction_isBelow (l : Launch) (D : va_G) (cC cI cZ : ClassId) (a_this : Nat) (v_upper : Int32) (v_lower : Int32) (p1 : Int32) (p2 : Int32) (r : Int32) (h : f_Fraction_isBelow v_upper v_lower p1 p2 = r) : Met l yX0_isBelow (.code yX0_isBelow cX0_isBelow 3 (some .boolean) :: TBL) (RM 0 0) (PcR [.ref a_this, .int p1, .int p2] D (TY cC cI cZ) (k_Fraction cC cI cZ a_this v_upper v_lower)) (vp_Si (PO .boolean r)) 0 0 (fun _ => False) := by
  refine roOf (by decide) (Nat.le_of_ble_eq_true rfl) rfl ?_
  intro p e s m args below meth c Q ls X hP hl hret
  have X : Ctx p s m args c cX0_isBelow 3 RX0 D (TY cC cI cZ) := X
  obtain ⟨hx, hb, hml, hown, htT, hK, hN⟩ := id X
  unfold f_Fraction_isBelow at h
  refine lv_aload_n hx hb dX0_isBelow_0 rfl (lv_at hl 0 rfl) ?_
  refine va_get (ci := 0) (v := .int v_upper) (C := RX0) (T := TX0) (N := 2) hx hb htT inlX0 hown hK hP 0 rfl rfl 0 (by decide) (htT _ q_6_18) (fun _ h9 => h9) rfl dX0_isBelow_1 ?_
  refine lv_i2l hx hb dX0_isBelow_4 rfl ?_
  refine lv_iload_n hx hb dX0_isBelow_5 rfl (lv_at hl 2 rfl) ?_
  refine lv_i2l hx hb dX0_isBelow_6 rfl ?_
  refine lv_lmul hx hb dX0_isBelow_7 ?_
  refine lv_iload_n hx hb dX0_isBelow_8 rfl (lv_at hl 1 rfl) ?_
  refine lv_i2l hx hb dX0_isBelow_9 rfl ?_
  refine lv_aload_n hx hb dX0_isBelow_10 rfl (lv_at hl 0 rfl) ?_
  refine va_get (ci := 0) (v := .int v_lower) (C := RX0) (T := TX0) (N := 2) hx hb htT inlX0 hown hK hP 0 rfl rfl 1 (by decide) (htT _ q_6_19) (fun _ h9 => h9) rfl dX0_isBelow_11 ?_
  refine lv_i2l hx hb dX0_isBelow_14 rfl ?_
  refine lv_lmul hx hb dX0_isBelow_15 ?_
  refine W.lcmp hx hb dX0_isBelow_16 ?_
  refine lv_if_ge (tgt := 24) hx hb dX0_isBelow_17 (by decide) (fun c1 => ?_) (fun c1 => ?_)
  · have h := ip c1 h
    refine lv_iconst (v := (0 : Int32)) hx hb dX0_isBelow_24 rfl ?_
    exact hret _ _ _ dX0_isBelow_25 h rfl
  · have h := im c1 h
    refine lv_iconst (v := (1 : Int32)) hx hb dX0_isBelow_20 rfl ?_
    refine lv_goto (tgt := 25) hx hb dX0_isBelow_21 (by decide) ?_
    exact hret _ _ _ dX0_isBelow_25 h rfl
set_option maxHeartbeats 4000000 in
set_option maxRecDepth 100000 in
theorem c_Fraction_part (l : Launch) (D : va_G) (cC cI cZ : ClassId) (a_this : Nat) (v_upper : Int32) (v_lower : Int32) (p1 : Int32) (r : Int32) (h : f_Fraction_part v_upper v_lower p1 = r) : Met l yX0_part (.code yX0_part cX0_part 2 (some .int) :: TBL) (RM 0 0) (PcR [.ref a_this, .int p1] D (TY cC cI cZ) (k_Fraction cC cI cZ a_this v_upper v_lower)) (vp_Si (PO .int r)) 0 0 (fun _ => False) := by
  refine roOf (by decide) (Nat.le_of_ble_eq_true rfl) rfl ?_
  intro p e s m args below meth c Q ls X hP hl hret
  have X : Ctx p s m args c cX0_part 2 RX0 D (TY cC cI cZ) := X
  obtain ⟨hx, hb, hml, hown, htT, hK, hN⟩ := id X
  unfold f_Fraction_part at h
  refine lv_iload_n hx hb dX0_part_0 rfl (lv_at hl 1 rfl) ?_
  refine lv_if_ne (tgt := 11) hx hb dX0_part_1 (by decide) (fun c1 => ?_) (fun c1 => ?_)
  · have h := im c1 h
    refine lv_aload_n hx hb dX0_part_11 rfl (lv_at hl 0 rfl) ?_
    refine va_get (ci := 0) (v := .int v_lower) (C := RX0) (T := TX0) (N := 2) hx hb htT inlX0 hown hK hP 0 rfl rfl 1 (by decide) (htT _ q_6_19) (fun _ h9 => h9) rfl dX0_part_12 ?_
    exact hret _ _ _ dX0_part_15 h rfl
  · have h := ip c1 h
    refine lv_aload_n hx hb dX0_part_4 rfl (lv_at hl 0 rfl) ?_
    refine va_get (ci := 0) (v := .int v_upper) (C := RX0) (T := TX0) (N := 2) hx hb htT inlX0 hown hK hP 0 rfl rfl 0 (by decide) (htT _ q_6_18) (fun _ h9 => h9) rfl dX0_part_5 ?_
    refine lv_goto (tgt := 15) hx hb dX0_part_8 (by decide) ?_
    exact hret _ _ _ dX0_part_15 h rfl
set_option maxHeartbeats 4000000 in
set_option maxRecDepth 100000 in
theorem c_Integer_bitCount (l : Launch) (D : va_G) (cC cI cZ : ClassId)   (p0 : Int32) (r : Int32) (h : f_Integer_bitCount p0 = r) : Met l yJ6_bitCount_0f7a4 (.code yJ6_bitCount_0f7a4 cJ6_bitCount_0f7a4 1 (some .int) :: TBL) (RM 0 0) (PcR [.int p0] D (TY cC cI cZ) []) (vp_Si (PO .int r)) 0 0 (fun _ => False) := by
  refine roOf (by decide) (Nat.le_of_ble_eq_true rfl) rfl ?_
  intro p e s m args below meth c Q ls X hP hl hret
  have X : Ctx p s m args c cJ6_bitCount_0f7a4 1 RJ6 D (TY cC cI cZ) := X
  obtain ⟨hx, hb, hml, hown, htT, hK, hN⟩ := id X
  unfold f_Integer_bitCount at h
  refine lv_iload_n hx hb dJ6_bitCount_0f7a4_0 rfl (lv_at hl 0 rfl) ?_
  refine lv_iload_n hx hb dJ6_bitCount_0f7a4_1 rfl (lv_at hl 0 rfl) ?_
  refine lv_iconst (v := (1 : Int32)) hx hb dJ6_bitCount_0f7a4_2 rfl ?_
  refine lv_iushr hx hb dJ6_bitCount_0f7a4_3 rfl ?_
  refine lv_ldcw (v := (1431655765 : Int32)) hx hb hown (htT _ q_34_18) dJ6_bitCount_0f7a4_4 ?_
  refine lv_iand hx hb dJ6_bitCount_0f7a4_7 ?_
  refine lv_isub hx hb dJ6_bitCount_0f7a4_8 ?_
  refine lv_istore_n (lv' := [(0, .int (p0 - (((p0).toUInt32 >>> (((1 : Int32)).toUInt32 &&& Int32.toUInt32 31)).toInt32 &&& (1431655765 : Int32))))]) hx hb dJ6_bitCount_0f7a4_9 rfl hl (by decide) rfl (fun ls hl => ?_)
  refine lv_iload_n hx hb dJ6_bitCount_0f7a4_10 rfl (lv_at hl 0 rfl) ?_
  refine lv_ldcw (v := (858993459 : Int32)) hx hb hown (htT _ q_34_19) dJ6_bitCount_0f7a4_11 ?_
  refine lv_iand hx hb dJ6_bitCount_0f7a4_14 ?_
  refine lv_iload_n hx hb dJ6_bitCount_0f7a4_15 rfl (lv_at hl 0 rfl) ?_
  refine lv_iconst (v := (2 : Int32)) hx hb dJ6_bitCount_0f7a4_16 rfl ?_
  refine lv_iushr hx hb dJ6_bitCount_0f7a4_17 rfl ?_
  refine lv_ldcw (v := (858993459 : Int32)) hx hb hown (htT _ q_34_19) dJ6_bitCount_0f7a4_18 ?_
  refine lv_iand hx hb dJ6_bitCount_0f7a4_21 ?_
  refine lv_iadd hx hb dJ6_bitCount_0f7a4_22 ?_
  refine lv_istore_n (lv' := [(0, .int (((p0 - (((p0).toUInt32 >>> (((1 : Int32)).toUInt32 &&& Int32.toUInt32 31)).toInt32 &&& (1431655765 : Int32))) &&& (858993459 : Int32)) + ((((p0 - (((p0).toUInt32 >>> (((1 : Int32)).toUInt32 &&& Int32.toUInt32 31)).toInt32 &&& (1431655765 : Int32)))).toUInt32 >>> (((2 : Int32)).toUInt32 &&& Int32.toUInt32 31)).toInt32 &&& (858993459 : Int32))))]) hx hb dJ6_bitCount_0f7a4_23 rfl hl (by decide) rfl (fun ls hl => ?_)
  refine lv_iload_n hx hb dJ6_bitCount_0f7a4_24 rfl (lv_at hl 0 rfl) ?_
  refine lv_iload_n hx hb dJ6_bitCount_0f7a4_25 rfl (lv_at hl 0 rfl) ?_
  refine lv_iconst (v := (4 : Int32)) hx hb dJ6_bitCount_0f7a4_26 rfl ?_
  refine lv_iushr hx hb dJ6_bitCount_0f7a4_27 rfl ?_
  refine lv_iadd hx hb dJ6_bitCount_0f7a4_28 ?_
  refine lv_ldcw (v := (252645135 : Int32)) hx hb hown (htT _ q_34_20) dJ6_bitCount_0f7a4_29 ?_
  refine lv_iand hx hb dJ6_bitCount_0f7a4_32 ?_
  refine lv_istore_n (lv' := [(0, .int (((((p0 - (((p0).toUInt32 >>> (((1 : Int32)).toUInt32 &&& Int32.toUInt32 31)).toInt32 &&& (1431655765 : Int32))) &&& (858993459 : Int32)) + ((((p0 - (((p0).toUInt32 >>> (((1 : Int32)).toUInt32 &&& Int32.toUInt32 31)).toInt32 &&& (1431655765 : Int32)))).toUInt32 >>> (((2 : Int32)).toUInt32 &&& Int32.toUInt32 31)).toInt32 &&& (858993459 : Int32))) + (((((p0 - (((p0).toUInt32 >>> (((1 : Int32)).toUInt32 &&& Int32.toUInt32 31)).toInt32 &&& (1431655765 : Int32))) &&& (858993459 : Int32)) + ((((p0 - (((p0).toUInt32 >>> (((1 : Int32)).toUInt32 &&& Int32.toUInt32 31)).toInt32 &&& (1431655765 : Int32)))).toUInt32 >>> (((2 : Int32)).toUInt32 &&& Int32.toUInt32 31)).toInt32 &&& (858993459 : Int32)))).toUInt32 >>> (((4 : Int32)).toUInt32 &&& Int32.toUInt32 31)).toInt32) &&& (252645135 : Int32)))]) hx hb dJ6_bitCount_0f7a4_33 rfl hl (by decide) rfl (fun ls hl => ?_)
  refine lv_iload_n hx hb dJ6_bitCount_0f7a4_34 rfl (lv_at hl 0 rfl) ?_
  refine lv_iload_n hx hb dJ6_bitCount_0f7a4_35 rfl (lv_at hl 0 rfl) ?_
  refine lv_bipush (v := (8 : Int32)) hx hb dJ6_bitCount_0f7a4_36 rfl ?_
  refine lv_iushr hx hb dJ6_bitCount_0f7a4_38 rfl ?_
  refine lv_iadd hx hb dJ6_bitCount_0f7a4_39 ?_
  refine lv_istore_n (lv' := [(0, .int ((((((p0 - (((p0).toUInt32 >>> (((1 : Int32)).toUInt32 &&& Int32.toUInt32 31)).toInt32 &&& (1431655765 : Int32))) &&& (858993459 : Int32)) + ((((p0 - (((p0).toUInt32 >>> (((1 : Int32)).toUInt32 &&& Int32.toUInt32 31)).toInt32 &&& (1431655765 : Int32)))).toUInt32 >>> (((2 : Int32)).toUInt32 &&& Int32.toUInt32 31)).toInt32 &&& (858993459 : Int32))) + (((((p0 - (((p0).toUInt32 >>> (((1 : Int32)).toUInt32 &&& Int32.toUInt32 31)).toInt32 &&& (1431655765 : Int32))) &&& (858993459 : Int32)) + ((((p0 - (((p0).toUInt32 >>> (((1 : Int32)).toUInt32 &&& Int32.toUInt32 31)).toInt32 &&& (1431655765 : Int32)))).toUInt32 >>> (((2 : Int32)).toUInt32 &&& Int32.toUInt32 31)).toInt32 &&& (858993459 : Int32)))).toUInt32 >>> (((4 : Int32)).toUInt32 &&& Int32.toUInt32 31)).toInt32) &&& (252645135 : Int32)) + (((((((p0 - (((p0).toUInt32 >>> (((1 : Int32)).toUInt32 &&& Int32.toUInt32 31)).toInt32 &&& (1431655765 : Int32))) &&& (858993459 : Int32)) + ((((p0 - (((p0).toUInt32 >>> (((1 : Int32)).toUInt32 &&& Int32.toUInt32 31)).toInt32 &&& (1431655765 : Int32)))).toUInt32 >>> (((2 : Int32)).toUInt32 &&& Int32.toUInt32 31)).toInt32 &&& (858993459 : Int32))) + (((((p0 - (((p0).toUInt32 >>> (((1 : Int32)).toUInt32 &&& Int32.toUInt32 31)).toInt32 &&& (1431655765 : Int32))) &&& (858993459 : Int32)) + ((((p0 - (((p0).toUInt32 >>> (((1 : Int32)).toUInt32 &&& Int32.toUInt32 31)).toInt32 &&& (1431655765 : Int32)))).toUInt32 >>> (((2 : Int32)).toUInt32 &&& Int32.toUInt32 31)).toInt32 &&& (858993459 : Int32)))).toUInt32 >>> (((4 : Int32)).toUInt32 &&& Int32.toUInt32 31)).toInt32) &&& (252645135 : Int32))).toUInt32 >>> (((8 : Int32)).toUInt32 &&& Int32.toUInt32 31)).toInt32))]) hx hb dJ6_bitCount_0f7a4_40 rfl hl (by decide) rfl (fun ls hl => ?_)
  refine lv_iload_n hx hb dJ6_bitCount_0f7a4_41 rfl (lv_at hl 0 rfl) ?_
  refine lv_iload_n hx hb dJ6_bitCount_0f7a4_42 rfl (lv_at hl 0 rfl) ?_
  refine lv_bipush (v := (16 : Int32)) hx hb dJ6_bitCount_0f7a4_43 rfl ?_
  refine lv_iushr hx hb dJ6_bitCount_0f7a4_45 rfl ?_
  refine lv_iadd hx hb dJ6_bitCount_0f7a4_46 ?_
  refine lv_istore_n (lv' := [(0, .int (((((((p0 - (((p0).toUInt32 >>> (((1 : Int32)).toUInt32 &&& Int32.toUInt32 31)).toInt32 &&& (1431655765 : Int32))) &&& (858993459 : Int32)) + ((((p0 - (((p0).toUInt32 >>> (((1 : Int32)).toUInt32 &&& Int32.toUInt32 31)).toInt32 &&& (1431655765 : Int32)))).toUInt32 >>> (((2 : Int32)).toUInt32 &&& Int32.toUInt32 31)).toInt32 &&& (858993459 : Int32))) + (((((p0 - (((p0).toUInt32 >>> (((1 : Int32)).toUInt32 &&& Int32.toUInt32 31)).toInt32 &&& (1431655765 : Int32))) &&& (858993459 : Int32)) + ((((p0 - (((p0).toUInt32 >>> (((1 : Int32)).toUInt32 &&& Int32.toUInt32 31)).toInt32 &&& (1431655765 : Int32)))).toUInt32 >>> (((2 : Int32)).toUInt32 &&& Int32.toUInt32 31)).toInt32 &&& (858993459 : Int32)))).toUInt32 >>> (((4 : Int32)).toUInt32 &&& Int32.toUInt32 31)).toInt32) &&& (252645135 : Int32)) + (((((((p0 - (((p0).toUInt32 >>> (((1 : Int32)).toUInt32 &&& Int32.toUInt32 31)).toInt32 &&& (1431655765 : Int32))) &&& (858993459 : Int32)) + ((((p0 - (((p0).toUInt32 >>> (((1 : Int32)).toUInt32 &&& Int32.toUInt32 31)).toInt32 &&& (1431655765 : Int32)))).toUInt32 >>> (((2 : Int32)).toUInt32 &&& Int32.toUInt32 31)).toInt32 &&& (858993459 : Int32))) + (((((p0 - (((p0).toUInt32 >>> (((1 : Int32)).toUInt32 &&& Int32.toUInt32 31)).toInt32 &&& (1431655765 : Int32))) &&& (858993459 : Int32)) + ((((p0 - (((p0).toUInt32 >>> (((1 : Int32)).toUInt32 &&& Int32.toUInt32 31)).toInt32 &&& (1431655765 : Int32)))).toUInt32 >>> (((2 : Int32)).toUInt32 &&& Int32.toUInt32 31)).toInt32 &&& (858993459 : Int32)))).toUInt32 >>> (((4 : Int32)).toUInt32 &&& Int32.toUInt32 31)).toInt32) &&& (252645135 : Int32))).toUInt32 >>> (((8 : Int32)).toUInt32 &&& Int32.toUInt32 31)).toInt32) + ((((((((p0 - (((p0).toUInt32 >>> (((1 : Int32)).toUInt32 &&& Int32.toUInt32 31)).toInt32 &&& (1431655765 : Int32))) &&& (858993459 : Int32)) + ((((p0 - (((p0).toUInt32 >>> (((1 : Int32)).toUInt32 &&& Int32.toUInt32 31)).toInt32 &&& (1431655765 : Int32)))).toUInt32 >>> (((2 : Int32)).toUInt32 &&& Int32.toUInt32 31)).toInt32 &&& (858993459 : Int32))) + (((((p0 - (((p0).toUInt32 >>> (((1 : Int32)).toUInt32 &&& Int32.toUInt32 31)).toInt32 &&& (1431655765 : Int32))) &&& (858993459 : Int32)) + ((((p0 - (((p0).toUInt32 >>> (((1 : Int32)).toUInt32 &&& Int32.toUInt32 31)).toInt32 &&& (1431655765 : Int32)))).toUInt32 >>> (((2 : Int32)).toUInt32 &&& Int32.toUInt32 31)).toInt32 &&& (858993459 : Int32)))).toUInt32 >>> (((4 : Int32)).toUInt32 &&& Int32.toUInt32 31)).toInt32) &&& (252645135 : Int32)) + (((((((p0 - (((p0).toUInt32 >>> (((1 : Int32)).toUInt32 &&& Int32.toUInt32 31)).toInt32 &&& (1431655765 : Int32))) &&& (858993459 : Int32)) + ((((p0 - (((p0).toUInt32 >>> (((1 : Int32)).toUInt32 &&& Int32.toUInt32 31)).toInt32 &&& (1431655765 : Int32)))).toUInt32 >>> (((2 : Int32)).toUInt32 &&& Int32.toUInt32 31)).toInt32 &&& (858993459 : Int32))) + (((((p0 - (((p0).toUInt32 >>> (((1 : Int32)).toUInt32 &&& Int32.toUInt32 31)).toInt32 &&& (1431655765 : Int32))) &&& (858993459 : Int32)) + ((((p0 - (((p0).toUInt32 >>> (((1 : Int32)).toUInt32 &&& Int32.toUInt32 31)).toInt32 &&& (1431655765 : Int32)))).toUInt32 >>> (((2 : Int32)).toUInt32 &&& Int32.toUInt32 31)).toInt32 &&& (858993459 : Int32)))).toUInt32 >>> (((4 : Int32)).toUInt32 &&& Int32.toUInt32 31)).toInt32) &&& (252645135 : Int32))).toUInt32 >>> (((8 : Int32)).toUInt32 &&& Int32.toUInt32 31)).toInt32)).toUInt32 >>> (((16 : Int32)).toUInt32 &&& Int32.toUInt32 31)).toInt32))]) hx hb dJ6_bitCount_0f7a4_47 rfl hl (by decide) rfl (fun ls hl => ?_)
  refine lv_iload_n hx hb dJ6_bitCount_0f7a4_48 rfl (lv_at hl 0 rfl) ?_
  refine lv_bipush (v := (63 : Int32)) hx hb dJ6_bitCount_0f7a4_49 rfl ?_
  refine lv_iand hx hb dJ6_bitCount_0f7a4_51 ?_
  exact hret _ _ _ dJ6_bitCount_0f7a4_52 h rfl
set_option maxHeartbeats 4000000 in
set_option maxRecDepth 100000 in
theorem c_Text_isBlank (l : Launch) (D : va_G) (cC cI cZ : ClassId) (a_this : Nat) (a_letters : Nat) (v_length : Int32) (A_letters : Nat → Int32) (p1 : Int32) (r : Int32) (h : f_Text_isBlank v_length A_letters p1 = some r) : Met l yX8_isBlank (.code yX8_isBlank cX8_isBlank 2 (some .boolean) :: TBL) (RM 0 0) (PcR [.ref a_this, .int p1] D (TY cC cI cZ) (k_Text cC cI cZ a_this a_letters v_length A_letters)) (vp_Si (PO .boolean r)) 0 0 (fun _ => False) := by
  refine roOf (by decide) (Nat.le_of_ble_eq_true rfl) rfl ?_
  intro p e s m args below meth c Q ls X hP hl hret
  have X : Ctx p s m args c cX8_isBlank 2 RX8 D (TY cC cI cZ) := X
  obtain ⟨hx, hb, hml, hown, htT, hK, hN⟩ := id X
  unfold f_Text_isBlank at h
  refine lv_iload_n hx hb dX8_isBlank_0 rfl (lv_at hl 1 rfl) ?_
  refine lv_if_lt (tgt := 27) hx hb dX8_isBlank_1 (by decide) (fun c1 => ?_) (fun c1 => ?_)
  · have h := ip c1 h
    refine lv_iconst (v := (0 : Int32)) hx hb dX8_isBlank_27 rfl ?_
    exact hret _ _ _ dX8_isBlank_28 (Option.some.inj h) rfl
  · have h := im c1 h
    refine lv_iload_n hx hb dX8_isBlank_4 rfl (lv_at hl 1 rfl) ?_
    refine lv_aload_n hx hb dX8_isBlank_5 rfl (lv_at hl 0 rfl) ?_
    refine va_get (ci := 8) (v := .int v_length) (C := RX8) (T := TX8) (N := 2) hx hb htT inlX8 hown hK hP 0 rfl rfl 1 (by decide) (htT _ q_3_10) (fun _ h9 => h9) rfl dX8_isBlank_6 ?_
    refine lv_icmp_ge (tgt := 27) hx hb dX8_isBlank_9 (by decide) (fun c2 => ?_) (fun c2 => ?_)
    · have h := ip c2 h
      refine lv_iconst (v := (0 : Int32)) hx hb dX8_isBlank_27 rfl ?_
      exact hret _ _ _ dX8_isBlank_28 (Option.some.inj h) rfl
    · have h := im c2 h
      refine lv_aload_n hx hb dX8_isBlank_12 rfl (lv_at hl 0 rfl) ?_
      refine va_get (ci := 8) (v := .ref a_letters) (C := RX8) (T := TX8) (N := 2) hx hb htT inlX8 hown hK hP 0 rfl rfl 0 (by decide) (htT _ q_3_9) (fun _ h9 => h9) rfl dX8_isBlank_13 ?_
      refine lv_iload_n hx hb dX8_isBlank_16 rfl (lv_at hl 1 rfl) ?_
      obtain ⟨g3, h⟩ := gd h
      refine va_cald hx hb hK hP 1 0 rfl rfl (inB_in g3) dX8_isBlank_17 ?_
      refine lv_bipush (v := (32 : Int32)) hx hb dX8_isBlank_18 rfl ?_
      refine lv_icmp_ne (tgt := 27) hx hb dX8_isBlank_20 (by decide) (fun c4 => ?_) (fun c4 => ?_)
      · have h := im c4 h
        refine lv_iconst (v := (0 : Int32)) hx hb dX8_isBlank_27 rfl ?_
        exact hret _ _ _ dX8_isBlank_28 (Option.some.inj h) rfl
      · have h := ip c4 h
        refine lv_iconst (v := (1 : Int32)) hx hb dX8_isBlank_23 rfl ?_
        refine lv_goto (tgt := 28) hx hb dX8_isBlank_24 (by decide) ?_
        exact hret _ _ _ dX8_isBlank_28 (Option.some.inj h) rfl
set_option maxHeartbeats 4000000 in
set_option maxRecDepth 100000 in
theorem c_Text_isDigit (l : Launch) (D : va_G) (cC cI cZ : ClassId) (a_this : Nat) (a_letters : Nat) (v_length : Int32) (A_letters : Nat → Int32) (p1 : Int32) (r : Int32) (h : f_Text_isDigit v_length A_letters p1 = some r) : Met l yX8_isDigit (.code yX8_isDigit cX8_isDigit 2 (some .boolean) :: TBL) (RM 0 0) (PcR [.ref a_this, .int p1] D (TY cC cI cZ) (k_Text cC cI cZ a_this a_letters v_length A_letters)) (vp_Si (PO .boolean r)) 0 0 (fun _ => False) := by
  refine roOf (by decide) (Nat.le_of_ble_eq_true rfl) rfl ?_
  intro p e s m args below meth c Q ls X hP hl hret
  have X : Ctx p s m args c cX8_isDigit 2 RX8 D (TY cC cI cZ) := X
  obtain ⟨hx, hb, hml, hown, htT, hK, hN⟩ := id X
  unfold f_Text_isDigit at h
  refine lv_iload_n hx hb dX8_isDigit_0 rfl (lv_at hl 1 rfl) ?_
  refine lv_if_lt (tgt := 38) hx hb dX8_isDigit_1 (by decide) (fun c1 => ?_) (fun c1 => ?_)
  · have h := ip c1 h
    refine lv_iconst (v := (0 : Int32)) hx hb dX8_isDigit_38 rfl ?_
    exact hret _ _ _ dX8_isDigit_39 (Option.some.inj h) rfl
  · have h := im c1 h
    refine lv_iload_n hx hb dX8_isDigit_4 rfl (lv_at hl 1 rfl) ?_
    refine lv_aload_n hx hb dX8_isDigit_5 rfl (lv_at hl 0 rfl) ?_
    refine va_get (ci := 8) (v := .int v_length) (C := RX8) (T := TX8) (N := 2) hx hb htT inlX8 hown hK hP 0 rfl rfl 1 (by decide) (htT _ q_3_10) (fun _ h9 => h9) rfl dX8_isDigit_6 ?_
    refine lv_icmp_ge (tgt := 38) hx hb dX8_isDigit_9 (by decide) (fun c2 => ?_) (fun c2 => ?_)
    · have h := ip c2 h
      refine lv_iconst (v := (0 : Int32)) hx hb dX8_isDigit_38 rfl ?_
      exact hret _ _ _ dX8_isDigit_39 (Option.some.inj h) rfl
    · have h := im c2 h
      refine lv_aload_n hx hb dX8_isDigit_12 rfl (lv_at hl 0 rfl) ?_
      refine va_get (ci := 8) (v := .ref a_letters) (C := RX8) (T := TX8) (N := 2) hx hb htT inlX8 hown hK hP 0 rfl rfl 0 (by decide) (htT _ q_3_9) (fun _ h9 => h9) rfl dX8_isDigit_13 ?_
      refine lv_iload_n hx hb dX8_isDigit_16 rfl (lv_at hl 1 rfl) ?_
      obtain ⟨g3, h⟩ := gd h
      refine va_cald hx hb hK hP 1 0 rfl rfl (inB_in g3) dX8_isDigit_17 ?_
      refine lv_bipush (v := (48 : Int32)) hx hb dX8_isDigit_18 rfl ?_
      refine lv_icmp_lt (tgt := 38) hx hb dX8_isDigit_20 (by decide) (fun c4 => ?_) (fun c4 => ?_)
      · have h := ip c4 h
        refine lv_iconst (v := (0 : Int32)) hx hb dX8_isDigit_38 rfl ?_
        exact hret _ _ _ dX8_isDigit_39 (Option.some.inj h) rfl
      · have h := im c4 h
        refine lv_aload_n hx hb dX8_isDigit_23 rfl (lv_at hl 0 rfl) ?_
        refine va_get (ci := 8) (v := .ref a_letters) (C := RX8) (T := TX8) (N := 2) hx hb htT inlX8 hown hK hP 0 rfl rfl 0 (by decide) (htT _ q_3_9) (fun _ h9 => h9) rfl dX8_isDigit_24 ?_
        refine lv_iload_n hx hb dX8_isDigit_27 rfl (lv_at hl 1 rfl) ?_
        obtain ⟨g5, h⟩ := gd h
        refine va_cald hx hb hK hP 1 0 rfl rfl (inB_in g5) dX8_isDigit_28 ?_
        refine lv_bipush (v := (57 : Int32)) hx hb dX8_isDigit_29 rfl ?_
        refine lv_icmp_gt (tgt := 38) hx hb dX8_isDigit_31 (by decide) (fun c6 => ?_) (fun c6 => ?_)
        · have h := ip c6 h
          refine lv_iconst (v := (0 : Int32)) hx hb dX8_isDigit_38 rfl ?_
          exact hret _ _ _ dX8_isDigit_39 (Option.some.inj h) rfl
        · have h := im c6 h
          refine lv_iconst (v := (1 : Int32)) hx hb dX8_isDigit_34 rfl ?_
          refine lv_goto (tgt := 39) hx hb dX8_isDigit_35 (by decide) ?_
          exact hret _ _ _ dX8_isDigit_39 (Option.some.inj h) rfl
set_option maxHeartbeats 4000000 in
set_option maxRecDepth 100000 in
theorem c_Text_letterAt (l : Launch) (D : va_G) (cC cI cZ : ClassId) (a_this : Nat) (a_letters : Nat) (v_length : Int32) (A_letters : Nat → Int32) (p1 : Int32) (r : Int32) (h : f_Text_letterAt v_length A_letters p1 = some r) : Met l yX8_letterAt (.code yX8_letterAt cX8_letterAt 2 (some .char) :: TBL) (RM 0 0) (PcR [.ref a_this, .int p1] D (TY cC cI cZ) (k_Text cC cI cZ a_this a_letters v_length A_letters)) (vp_Si (PO .char r)) 0 0 (fun _ => False) := by
  refine roOf (by decide) (Nat.le_of_ble_eq_true rfl) rfl ?_
  intro p e s m args below meth c Q ls X hP hl hret
  have X : Ctx p s m args c cX8_letterAt 2 RX8 D (TY cC cI cZ) := X
  obtain ⟨hx, hb, hml, hown, htT, hK, hN⟩ := id X
  unfold f_Text_letterAt at h
  refine lv_iload_n hx hb dX8_letterAt_0 rfl (lv_at hl 1 rfl) ?_
  refine lv_if_lt (tgt := 21) hx hb dX8_letterAt_1 (by decide) (fun c1 => ?_) (fun c1 => ?_)
  · have h := ip c1 h
    refine lv_iconst (v := (0 : Int32)) hx hb dX8_letterAt_21 rfl ?_
    obtain ⟨gc, h⟩ := gd h
    exact hret _ _ _ dX8_letterAt_22 (Option.some.inj h) (okC_n gc)
  · have h := im c1 h
    refine lv_iload_n hx hb dX8_letterAt_4 rfl (lv_at hl 1 rfl) ?_
    refine lv_aload_n hx hb dX8_letterAt_5 rfl (lv_at hl 0 rfl) ?_
    refine va_get (ci := 8) (v := .int v_length) (C := RX8) (T := TX8) (N := 2) hx hb htT inlX8 hown hK hP 0 rfl rfl 1 (by decide) (htT _ q_3_10) (fun _ h9 => h9) rfl dX8_letterAt_6 ?_
    refine lv_icmp_ge (tgt := 21) hx hb dX8_letterAt_9 (by decide) (fun c2 => ?_) (fun c2 => ?_)
    · have h := ip c2 h
      refine lv_iconst (v := (0 : Int32)) hx hb dX8_letterAt_21 rfl ?_
      obtain ⟨gc, h⟩ := gd h
      exact hret _ _ _ dX8_letterAt_22 (Option.some.inj h) (okC_n gc)
    · have h := im c2 h
      refine lv_aload_n hx hb dX8_letterAt_12 rfl (lv_at hl 0 rfl) ?_
      refine va_get (ci := 8) (v := .ref a_letters) (C := RX8) (T := TX8) (N := 2) hx hb htT inlX8 hown hK hP 0 rfl rfl 0 (by decide) (htT _ q_3_9) (fun _ h9 => h9) rfl dX8_letterAt_13 ?_
      refine lv_iload_n hx hb dX8_letterAt_16 rfl (lv_at hl 1 rfl) ?_
      obtain ⟨g3, h⟩ := gd h
      refine va_cald hx hb hK hP 1 0 rfl rfl (inB_in g3) dX8_letterAt_17 ?_
      refine lv_goto (tgt := 22) hx hb dX8_letterAt_18 (by decide) ?_
      obtain ⟨gc, h⟩ := gd h
      exact hret _ _ _ dX8_letterAt_22 (Option.some.inj h) (okC_n gc)
set_option maxHeartbeats 4000000 in
set_option maxRecDepth 100000 in
theorem c_Seen_agreesWith (l : Launch) (D : va_G) (cC cI cZ : ClassId) (a_this : Nat) (v_size : Int32) (v_keptMask : Int32) (v_droppedMask : Int32) (p1 : Int32) (r : Int32) (h : f_Seen_agreesWith v_keptMask v_droppedMask p1 = r) : Met l yX5_agreesWith (.code yX5_agreesWith cX5_agreesWith 2 (some .boolean) :: TBL) (RM 0 0) (PcR [.ref a_this, .int p1] D (TY cC cI cZ) (k_Seen cC cI cZ a_this v_size v_keptMask v_droppedMask)) (vp_Si (PO .boolean r)) 0 0 (fun _ => False) := by
  refine roOf (by decide) (Nat.le_of_ble_eq_true rfl) rfl ?_
  intro p e s m args below meth c Q ls X hP hl hret
  have X : Ctx p s m args c cX5_agreesWith 2 RX5 D (TY cC cI cZ) := X
  obtain ⟨hx, hb, hml, hown, htT, hK, hN⟩ := id X
  unfold f_Seen_agreesWith at h
  refine lv_iload_n hx hb dX5_agreesWith_0 rfl (lv_at hl 1 rfl) ?_
  refine lv_aload_n hx hb dX5_agreesWith_1 rfl (lv_at hl 0 rfl) ?_
  refine va_get (ci := 5) (v := .int v_keptMask) (C := RX5) (T := TX5) (N := 3) hx hb htT inlX5 hown hK hP 0 rfl rfl 1 (by decide) (htT _ q_6_0) (fun _ h9 => h9) rfl dX5_agreesWith_2 ?_
  refine lv_iand hx hb dX5_agreesWith_5 ?_
  refine lv_aload_n hx hb dX5_agreesWith_6 rfl (lv_at hl 0 rfl) ?_
  refine va_get (ci := 5) (v := .int v_keptMask) (C := RX5) (T := TX5) (N := 3) hx hb htT inlX5 hown hK hP 0 rfl rfl 1 (by decide) (htT _ q_6_0) (fun _ h9 => h9) rfl dX5_agreesWith_7 ?_
  refine lv_icmp_ne (tgt := 26) hx hb dX5_agreesWith_10 (by decide) (fun c1 => ?_) (fun c1 => ?_)
  · have h := im c1 h
    refine lv_iconst (v := (0 : Int32)) hx hb dX5_agreesWith_26 rfl ?_
    exact hret _ _ _ dX5_agreesWith_27 h rfl
  · have h := ip c1 h
    refine lv_iload_n hx hb dX5_agreesWith_13 rfl (lv_at hl 1 rfl) ?_
    refine lv_aload_n hx hb dX5_agreesWith_14 rfl (lv_at hl 0 rfl) ?_
    refine va_get (ci := 5) (v := .int v_droppedMask) (C := RX5) (T := TX5) (N := 3) hx hb htT inlX5 hown hK hP 0 rfl rfl 2 (by decide) (htT _ q_6_1) (fun _ h9 => h9) rfl dX5_agreesWith_15 ?_
    refine lv_iand hx hb dX5_agreesWith_18 ?_
    refine lv_if_ne (tgt := 26) hx hb dX5_agreesWith_19 (by decide) (fun c2 => ?_) (fun c2 => ?_)
    · have h := im c2 h
      refine lv_iconst (v := (0 : Int32)) hx hb dX5_agreesWith_26 rfl ?_
      exact hret _ _ _ dX5_agreesWith_27 h rfl
    · have h := ip c2 h
      refine lv_iconst (v := (1 : Int32)) hx hb dX5_agreesWith_22 rfl ?_
      refine lv_goto (tgt := 27) hx hb dX5_agreesWith_23 (by decide) ?_
      exact hret _ _ _ dX5_agreesWith_27 h rfl
set_option maxHeartbeats 4000000 in
set_option maxRecDepth 100000 in
theorem c_Seen_isFull (l : Launch) (D : va_G) (cC cI cZ : ClassId) (a_this : Nat) (v_size : Int32) (v_keptMask : Int32) (v_droppedMask : Int32)  (r : Int32) (h : f_Seen_isFull v_size = r) : Met l yX5_isFull (.code yX5_isFull cX5_isFull 1 (some .boolean) :: TBL) (RM 0 0) (PcR [.ref a_this] D (TY cC cI cZ) (k_Seen cC cI cZ a_this v_size v_keptMask v_droppedMask)) (vp_Si (PO .boolean r)) 0 0 (fun _ => False) := by
  refine roOf (by decide) (Nat.le_of_ble_eq_true rfl) rfl ?_
  intro p e s m args below meth c Q ls X hP hl hret
  have X : Ctx p s m args c cX5_isFull 1 RX5 D (TY cC cI cZ) := X
  obtain ⟨hx, hb, hml, hown, htT, hK, hN⟩ := id X
  unfold f_Seen_isFull at h
  refine lv_aload_n hx hb dX5_isFull_0 rfl (lv_at hl 0 rfl) ?_
  refine va_get (ci := 5) (v := .int v_size) (C := RX5) (T := TX5) (N := 3) hx hb htT inlX5 hown hK hP 0 rfl rfl 0 (by decide) (htT _ q_5_23) (fun _ h9 => h9) rfl dX5_isFull_1 ?_
  refine lv_bipush (v := (6 : Int32)) hx hb dX5_isFull_4 rfl ?_
  refine lv_icmp_lt (tgt := 13) hx hb dX5_isFull_6 (by decide) (fun c1 => ?_) (fun c1 => ?_)
  · have h := ip c1 h
    refine lv_iconst (v := (0 : Int32)) hx hb dX5_isFull_13 rfl ?_
    exact hret _ _ _ dX5_isFull_14 h rfl
  · have h := im c1 h
    refine lv_iconst (v := (1 : Int32)) hx hb dX5_isFull_9 rfl ?_
    refine lv_goto (tgt := 14) hx hb dX5_isFull_10 (by decide) ?_
    exact hret _ _ _ dX5_isFull_14 h rfl
set_option maxHeartbeats 4000000 in
set_option maxRecDepth 100000 in
theorem c_Seen_put (l : Launch) (D : va_G) (cC cI cZ : ClassId) (a_this : Nat) (v_size : Int32) (v_keptMask : Int32) (v_droppedMask : Int32) (p1 : Int32) (p2 : Int32) (sz : Nat) (z : Int32 × Int32 × Int32 × Int32) (h : f_Seen_put v_size v_keptMask v_droppedMask p1 p2 = some z) : Met l yX5_put (.code yX5_put cX5_put 3 (some .int) :: TBL) (RM 0 0) (PcM [.ref a_this, .int p1, .int p2] sz D (TY cC cI cZ) (k_Seen cC cI cZ a_this v_size v_keptMask v_droppedMask)) (fun a st o t => QM (some (.int z.1)) D (k_Seen cC cI cZ a_this z.2.1 z.2.2.1 z.2.2.2) (va_A (k_Seen cC cI cZ a_this v_size v_keptMask v_droppedMask) sz) a st o t ∧ narrow .int (.int z.1) = .int z.1) 0 0 (va_A (k_Seen cC cI cZ a_this v_size v_keptMask v_droppedMask) sz) := by
  refine muOf (by decide) (Nat.le_of_ble_eq_true rfl) rfl ?_
  intro p e s m args below meth c Q ls A X hP hD hS hA hl hret
  have X : Ctx p s m args c cX5_put 3 RX5 D (TY cC cI cZ) := X
  obtain ⟨hx, hb, hml, hown, htT, hK, hN⟩ := id X
  unfold f_Seen_put at h
  refine lv_iload_n hx hb dX5_put_0 rfl (lv_at hl 2 rfl) ?_
  refine lv_iconst (v := (1 : Int32)) hx hb dX5_put_1 rfl ?_
  refine lv_icmp_ne (tgt := 20) hx hb dX5_put_2 (by decide) (fun c1 => ?_) (fun c1 => ?_)
  · have h := im c1 h
    refine lv_aload_n hx hb dX5_put_20 rfl (lv_at hl 0 rfl) ?_
    refine lv_dup hx hb dX5_put_21 rfl ?_
    refine va_get (ci := 5) (v := .int v_droppedMask) (C := RX5) (T := TX5) (N := 3) hx hb htT inlX5 hown hK hP 0 rfl rfl 2 (by decide) (htT _ q_6_1) (fun _ h9 => h9) rfl dX5_put_22 ?_
    refine lv_iconst (v := (1 : Int32)) hx hb dX5_put_25 rfl ?_
    refine lv_iload_n hx hb dX5_put_26 rfl (lv_at hl 1 rfl) ?_
    refine lv_ishl hx hb dX5_put_27 ?_
    refine lv_ior hx hb dX5_put_28 ?_
    refine va_put (ci := 5) (v := .int (v_droppedMask ||| ((1 : Int32) <<< (p1 &&& 31)))) (ty := .int) (C := RX5) (T := TX5) (N := 3) hx hb htT inlX5 tyX5 tyX5_ok nmX5 hown hK hP hD hS 0 rfl rfl 2 (by decide) (htT _ q_6_1) (fun _ h9 => h9) rfl (tyX5_ok 2 (by decide)) rfl rfl (Nat.le_of_ble_eq_true rfl) dX5_put_29 (fun H locs hP hD hS => ?_)
    have hP : va_P D vwCl (k_Seen cC cI cZ a_this v_size v_keptMask (v_droppedMask ||| ((1 : Int32) <<< (p1 &&& 31)))) H := hP
    have hD : va_D A (k_Seen cC cI cZ a_this v_size v_keptMask (v_droppedMask ||| ((1 : Int32) <<< (p1 &&& 31)))) := hD
    refine lv_aload_n hx hb dX5_put_32 rfl (lv_at hl 0 rfl) ?_
    refine lv_dup hx hb dX5_put_33 rfl ?_
    refine va_get (ci := 5) (v := .int v_size) (C := RX5) (T := TX5) (N := 3) hx hb htT inlX5 hown hK hP 0 rfl rfl 0 (by decide) (htT _ q_5_23) (fun _ h9 => h9) rfl dX5_put_34 ?_
    refine lv_iconst (v := (1 : Int32)) hx hb dX5_put_37 rfl ?_
    refine lv_iadd hx hb dX5_put_38 ?_
    refine va_put (ci := 5) (v := .int (v_size + (1 : Int32))) (ty := .int) (C := RX5) (T := TX5) (N := 3) hx hb htT inlX5 tyX5 tyX5_ok nmX5 hown hK hP hD hS 0 rfl rfl 0 (by decide) (htT _ q_5_23) (fun _ h9 => h9) rfl (tyX5_ok 0 (by decide)) rfl rfl (Nat.le_of_ble_eq_true rfl) dX5_put_39 (fun H locs hP hD hS => ?_)
    have hP : va_P D vwCl (k_Seen cC cI cZ a_this (v_size + (1 : Int32)) v_keptMask (v_droppedMask ||| ((1 : Int32) <<< (p1 &&& 31)))) H := hP
    have hD : va_D A (k_Seen cC cI cZ a_this (v_size + (1 : Int32)) v_keptMask (v_droppedMask ||| ((1 : Int32) <<< (p1 &&& 31)))) := hD
    refine lv_aload_n hx hb dX5_put_42 rfl (lv_at hl 0 rfl) ?_
    refine va_get (ci := 5) (v := .int (v_size + (1 : Int32))) (C := RX5) (T := TX5) (N := 3) hx hb htT inlX5 hown hK hP 0 rfl rfl 0 (by decide) (htT _ q_5_23) (fun _ h9 => h9) rfl dX5_put_43 ?_
    obtain rfl := Option.some.inj h
    exact hret _ _ _ _ _ hP hS dX5_put_46 rfl rfl
  · have h := ip c1 h
    refine lv_aload_n hx hb dX5_put_5 rfl (lv_at hl 0 rfl) ?_
    refine lv_dup hx hb dX5_put_6 rfl ?_
    refine va_get (ci := 5) (v := .int v_keptMask) (C := RX5) (T := TX5) (N := 3) hx hb htT inlX5 hown hK hP 0 rfl rfl 1 (by decide) (htT _ q_6_0) (fun _ h9 => h9) rfl dX5_put_7 ?_
    refine lv_iconst (v := (1 : Int32)) hx hb dX5_put_10 rfl ?_
    refine lv_iload_n hx hb dX5_put_11 rfl (lv_at hl 1 rfl) ?_
    refine lv_ishl hx hb dX5_put_12 ?_
    refine lv_ior hx hb dX5_put_13 ?_
    refine va_put (ci := 5) (v := .int (v_keptMask ||| ((1 : Int32) <<< (p1 &&& 31)))) (ty := .int) (C := RX5) (T := TX5) (N := 3) hx hb htT inlX5 tyX5 tyX5_ok nmX5 hown hK hP hD hS 0 rfl rfl 1 (by decide) (htT _ q_6_0) (fun _ h9 => h9) rfl (tyX5_ok 1 (by decide)) rfl rfl (Nat.le_of_ble_eq_true rfl) dX5_put_14 (fun H locs hP hD hS => ?_)
    have hP : va_P D vwCl (k_Seen cC cI cZ a_this v_size (v_keptMask ||| ((1 : Int32) <<< (p1 &&& 31))) v_droppedMask) H := hP
    have hD : va_D A (k_Seen cC cI cZ a_this v_size (v_keptMask ||| ((1 : Int32) <<< (p1 &&& 31))) v_droppedMask) := hD
    refine lv_goto (tgt := 32) hx hb dX5_put_17 (by decide) ?_
    refine lv_aload_n hx hb dX5_put_32 rfl (lv_at hl 0 rfl) ?_
    refine lv_dup hx hb dX5_put_33 rfl ?_
    refine va_get (ci := 5) (v := .int v_size) (C := RX5) (T := TX5) (N := 3) hx hb htT inlX5 hown hK hP 0 rfl rfl 0 (by decide) (htT _ q_5_23) (fun _ h9 => h9) rfl dX5_put_34 ?_
    refine lv_iconst (v := (1 : Int32)) hx hb dX5_put_37 rfl ?_
    refine lv_iadd hx hb dX5_put_38 ?_
    refine va_put (ci := 5) (v := .int (v_size + (1 : Int32))) (ty := .int) (C := RX5) (T := TX5) (N := 3) hx hb htT inlX5 tyX5 tyX5_ok nmX5 hown hK hP hD hS 0 rfl rfl 0 (by decide) (htT _ q_5_23) (fun _ h9 => h9) rfl (tyX5_ok 0 (by decide)) rfl rfl (Nat.le_of_ble_eq_true rfl) dX5_put_39 (fun H locs hP hD hS => ?_)
    have hP : va_P D vwCl (k_Seen cC cI cZ a_this (v_size + (1 : Int32)) (v_keptMask ||| ((1 : Int32) <<< (p1 &&& 31))) v_droppedMask) H := hP
    have hD : va_D A (k_Seen cC cI cZ a_this (v_size + (1 : Int32)) (v_keptMask ||| ((1 : Int32) <<< (p1 &&& 31))) v_droppedMask) := hD
    refine lv_aload_n hx hb dX5_put_42 rfl (lv_at hl 0 rfl) ?_
    refine va_get (ci := 5) (v := .int (v_size + (1 : Int32))) (C := RX5) (T := TX5) (N := 3) hx hb htT inlX5 hown hK hP 0 rfl rfl 0 (by decide) (htT _ q_5_23) (fun _ h9 => h9) rfl dX5_put_43 ?_
    obtain rfl := Option.some.inj h
    exact hret _ _ _ _ _ hP hS dX5_put_46 rfl rfl
set_option maxHeartbeats 4000000 in
set_option maxRecDepth 100000 in
theorem c_Seen_wipe (l : Launch) (D : va_G) (cC cI cZ : ClassId) (a_this : Nat) (v_size : Int32) (v_keptMask : Int32) (v_droppedMask : Int32)  (sz : Nat) (z : Int32 × Int32 × Int32 × Int32) (h : f_Seen_wipe v_size v_keptMask v_droppedMask = some z) : Met l yX5_wipe (.code yX5_wipe cX5_wipe 2 (some .int) :: TBL) (RM 0 0) (PcM [.ref a_this] sz D (TY cC cI cZ) (k_Seen cC cI cZ a_this v_size v_keptMask v_droppedMask)) (fun a st o t => QM (some (.int z.1)) D (k_Seen cC cI cZ a_this z.2.1 z.2.2.1 z.2.2.2) (va_A (k_Seen cC cI cZ a_this v_size v_keptMask v_droppedMask) sz) a st o t ∧ narrow .int (.int z.1) = .int z.1) 0 0 (va_A (k_Seen cC cI cZ a_this v_size v_keptMask v_droppedMask) sz) := by
  refine muOf (by decide) (Nat.le_of_ble_eq_true rfl) rfl ?_
  intro p e s m args below meth c Q ls A X hP hD hS hA hl hret
  have X : Ctx p s m args c cX5_wipe 2 RX5 D (TY cC cI cZ) := X
  obtain ⟨hx, hb, hml, hown, htT, hK, hN⟩ := id X
  unfold f_Seen_wipe at h
  refine lv_aload_n hx hb dX5_wipe_0 rfl (lv_at hl 0 rfl) ?_
  refine va_get (ci := 5) (v := .int v_size) (C := RX5) (T := TX5) (N := 3) hx hb htT inlX5 hown hK hP 0 rfl rfl 0 (by decide) (htT _ q_5_23) (fun _ h9 => h9) rfl dX5_wipe_1 ?_
  refine lv_istore_n (lv' := [(1, .int v_size), (0, .ref a_this)]) hx hb dX5_wipe_4 rfl hl (by decide) rfl (fun ls hl => ?_)
  refine lv_aload_n hx hb dX5_wipe_5 rfl (lv_at hl 1 rfl) ?_
  refine lv_iconst (v := (0 : Int32)) hx hb dX5_wipe_6 rfl ?_
  refine va_put (ci := 5) (v := .int (0 : Int32)) (ty := .int) (C := RX5) (T := TX5) (N := 3) hx hb htT inlX5 tyX5 tyX5_ok nmX5 hown hK hP hD hS 0 rfl rfl 0 (by decide) (htT _ q_5_23) (fun _ h9 => h9) rfl (tyX5_ok 0 (by decide)) rfl rfl (Nat.le_of_ble_eq_true rfl) dX5_wipe_7 (fun H locs hP hD hS => ?_)
  have hP : va_P D vwCl (k_Seen cC cI cZ a_this (0 : Int32) v_keptMask v_droppedMask) H := hP
  have hD : va_D A (k_Seen cC cI cZ a_this (0 : Int32) v_keptMask v_droppedMask) := hD
  refine lv_aload_n hx hb dX5_wipe_10 rfl (lv_at hl 1 rfl) ?_
  refine lv_iconst (v := (0 : Int32)) hx hb dX5_wipe_11 rfl ?_
  refine va_put (ci := 5) (v := .int (0 : Int32)) (ty := .int) (C := RX5) (T := TX5) (N := 3) hx hb htT inlX5 tyX5 tyX5_ok nmX5 hown hK hP hD hS 0 rfl rfl 1 (by decide) (htT _ q_6_0) (fun _ h9 => h9) rfl (tyX5_ok 1 (by decide)) rfl rfl (Nat.le_of_ble_eq_true rfl) dX5_wipe_12 (fun H locs hP hD hS => ?_)
  have hP : va_P D vwCl (k_Seen cC cI cZ a_this (0 : Int32) (0 : Int32) v_droppedMask) H := hP
  have hD : va_D A (k_Seen cC cI cZ a_this (0 : Int32) (0 : Int32) v_droppedMask) := hD
  refine lv_aload_n hx hb dX5_wipe_15 rfl (lv_at hl 1 rfl) ?_
  refine lv_iconst (v := (0 : Int32)) hx hb dX5_wipe_16 rfl ?_
  refine va_put (ci := 5) (v := .int (0 : Int32)) (ty := .int) (C := RX5) (T := TX5) (N := 3) hx hb htT inlX5 tyX5 tyX5_ok nmX5 hown hK hP hD hS 0 rfl rfl 2 (by decide) (htT _ q_6_1) (fun _ h9 => h9) rfl (tyX5_ok 2 (by decide)) rfl rfl (Nat.le_of_ble_eq_true rfl) dX5_wipe_17 (fun H locs hP hD hS => ?_)
  have hP : va_P D vwCl (k_Seen cC cI cZ a_this (0 : Int32) (0 : Int32) (0 : Int32)) H := hP
  have hD : va_D A (k_Seen cC cI cZ a_this (0 : Int32) (0 : Int32) (0 : Int32)) := hD
  refine lv_iload_n hx hb dX5_wipe_20 rfl (lv_at hl 0 rfl) ?_
  obtain rfl := Option.some.inj h
  exact hret _ _ _ _ _ hP hS dX5_wipe_21 rfl rfl
set_option maxHeartbeats 4000000 in
set_option maxRecDepth 100000 in
theorem c_Text_wipe (l : Launch) (D : va_G) (cC cI cZ : ClassId) (a_this : Nat) (a_letters : Nat) (v_length : Int32) (A_letters : Nat → Int32)  (sz : Nat) (z : Int32 × Int32) (h : f_Text_wipe v_length = some z) : Met l yX8_wipe (.code yX8_wipe cX8_wipe 2 (some .int) :: TBL) (RM 0 0) (PcM [.ref a_this] sz D (TY cC cI cZ) (k_Text cC cI cZ a_this a_letters v_length A_letters)) (fun a st o t => QM (some (.int z.1)) D (k_Text cC cI cZ a_this a_letters z.2 A_letters) (va_A (k_Text cC cI cZ a_this a_letters v_length A_letters) sz) a st o t ∧ narrow .int (.int z.1) = .int z.1) 0 0 (va_A (k_Text cC cI cZ a_this a_letters v_length A_letters) sz) := by
  refine muOf (by decide) (Nat.le_of_ble_eq_true rfl) rfl ?_
  intro p e s m args below meth c Q ls A X hP hD hS hA hl hret
  have X : Ctx p s m args c cX8_wipe 2 RX8 D (TY cC cI cZ) := X
  obtain ⟨hx, hb, hml, hown, htT, hK, hN⟩ := id X
  unfold f_Text_wipe at h
  refine lv_aload_n hx hb dX8_wipe_0 rfl (lv_at hl 0 rfl) ?_
  refine va_get (ci := 8) (v := .int v_length) (C := RX8) (T := TX8) (N := 2) hx hb htT inlX8 hown hK hP 0 rfl rfl 1 (by decide) (htT _ q_3_10) (fun _ h9 => h9) rfl dX8_wipe_1 ?_
  refine lv_istore_n (lv' := [(1, .int v_length), (0, .ref a_this)]) hx hb dX8_wipe_4 rfl hl (by decide) rfl (fun ls hl => ?_)
  refine lv_aload_n hx hb dX8_wipe_5 rfl (lv_at hl 1 rfl) ?_
  refine lv_iconst (v := (0 : Int32)) hx hb dX8_wipe_6 rfl ?_
  refine va_put (ci := 8) (v := .int (0 : Int32)) (ty := .int) (C := RX8) (T := TX8) (N := 2) hx hb htT inlX8 tyX8 tyX8_ok nmX8 hown hK hP hD hS 0 rfl rfl 1 (by decide) (htT _ q_3_10) (fun _ h9 => h9) rfl (tyX8_ok 1 (by decide)) rfl rfl (Nat.le_of_ble_eq_true rfl) dX8_wipe_7 (fun H locs hP hD hS => ?_)
  have hP : va_P D vwCl (k_Text cC cI cZ a_this a_letters (0 : Int32) A_letters) H := hP
  have hD : va_D A (k_Text cC cI cZ a_this a_letters (0 : Int32) A_letters) := hD
  refine lv_iload_n hx hb dX8_wipe_10 rfl (lv_at hl 0 rfl) ?_
  obtain rfl := Option.some.inj h
  exact hret _ _ _ _ _ hP hS dX8_wipe_11 rfl rfl
set_option maxHeartbeats 4000000 in
set_option maxRecDepth 100000 in
theorem c_Text_isFull (l : Launch) (D : va_G) (cC cI cZ : ClassId) (a_this : Nat) (a_letters : Nat) (v_length : Int32) (A_letters : Nat → Int32)  (r : Int32) (h : f_Text_isFull v_length = r) : Met l yX8_isFull (.code yX8_isFull cX8_isFull 1 (some .boolean) :: TBL) (RM 0 0) (PcR [.ref a_this] D (TY cC cI cZ) (k_Text cC cI cZ a_this a_letters v_length A_letters)) (vp_Si (PO .boolean r)) 0 0 (fun _ => False) := by
  refine roOf (by decide) (Nat.le_of_ble_eq_true rfl) rfl ?_
  intro p e s m args below meth c Q ls X hP hl hret
  have X : Ctx p s m args c cX8_isFull 1 RX8 D (TY cC cI cZ) := X
  obtain ⟨hx, hb, hml, hown, htT, hK, hN⟩ := id X
  unfold f_Text_isFull at h
  refine lv_aload_n hx hb dX8_isFull_0 rfl (lv_at hl 0 rfl) ?_
  refine va_get (ci := 8) (v := .int v_length) (C := RX8) (T := TX8) (N := 2) hx hb htT inlX8 hown hK hP 0 rfl rfl 1 (by decide) (htT _ q_3_10) (fun _ h9 => h9) rfl dX8_isFull_1 ?_
  refine lv_bipush (v := (120 : Int32)) hx hb dX8_isFull_4 rfl ?_
  refine lv_icmp_lt (tgt := 13) hx hb dX8_isFull_6 (by decide) (fun c1 => ?_) (fun c1 => ?_)
  · have h := ip c1 h
    refine lv_iconst (v := (0 : Int32)) hx hb dX8_isFull_13 rfl ?_
    exact hret _ _ _ dX8_isFull_14 h rfl
  · have h := im c1 h
    refine lv_iconst (v := (1 : Int32)) hx hb dX8_isFull_9 rfl ?_
    refine lv_goto (tgt := 14) hx hb dX8_isFull_10 (by decide) ?_
    exact hret _ _ _ dX8_isFull_14 h rfl
set_option maxHeartbeats 4000000 in
set_option maxRecDepth 100000 in
theorem c_Text_put (l : Launch) (D : va_G) (cC cI cZ : ClassId) (a_this : Nat) (a_letters : Nat) (v_length : Int32) (A_letters : Nat → Int32) (p1 : Int32) (sz : Nat) (z : Int32 × Int32 × (Nat → Int32)) (h : f_Text_put v_length A_letters p1 = some z) : Met l yX8_put (.code yX8_put cX8_put 2 (some .int) :: TBL) (RM 1 20) (PcM [.ref a_this, .int p1] sz D (TY cC cI cZ) (k_Text cC cI cZ a_this a_letters v_length A_letters)) (fun a st o t => QM (some (.int z.1)) D (k_Text cC cI cZ a_this a_letters z.2.1 z.2.2) (va_A (k_Text cC cI cZ a_this a_letters v_length A_letters) sz) a st o t ∧ narrow .int (.int z.1) = .int z.1) 0 0 (va_A (k_Text cC cI cZ a_this a_letters v_length A_letters) sz) := by
  refine muOf (by decide) (Nat.le_of_ble_eq_true rfl) rfl ?_
  intro p e s m args below meth c Q ls A X hP hD hS hA hl hret
  have X : Ctx p s m args c cX8_put 2 RX8 D (TY cC cI cZ) := X
  obtain ⟨hx, hb, hml, hown, htT, hK, hN⟩ := id X
  unfold f_Text_put at h
  refine lv_aload_n hx hb dX8_put_0 rfl (lv_at hl 0 rfl) ?_
  refine roV X [] [] (c_Text_isFull l D cC cI cZ a_this a_letters v_length A_letters _ rfl) gg_X8_19 hd_Text_isFull ⟨rfl, rfl, Nat.le_of_ble_eq_true rfl, Nat.le_of_ble_eq_true rfl⟩ ⟨Nat.zero_le _, Nat.zero_le _⟩ hP [0, 1] rfl rfl rfl rfl hl.1 rfl (Nat.le_of_ble_eq_true rfl) dX8_put_1 (fun n1 => ?_)
  refine lv_if_eq (tgt := 10) hx hb dX8_put_4 (by decide) (fun c2 => ?_) (fun c2 => ?_)
  · have h := ip c2 h
    refine lv_aload_n hx hb dX8_put_10 rfl (lv_at hl 0 rfl) ?_
    refine va_get (ci := 8) (v := .ref a_letters) (C := RX8) (T := TX8) (N := 2) hx hb htT inlX8 hown hK hP 0 rfl rfl 0 (by decide) (htT _ q_3_9) (fun _ h9 => h9) rfl dX8_put_11 ?_
    refine lv_aload_n hx hb dX8_put_14 rfl (lv_at hl 0 rfl) ?_
    refine va_get (ci := 8) (v := .int v_length) (C := RX8) (T := TX8) (N := 2) hx hb htT inlX8 hown hK hP 0 rfl rfl 1 (by decide) (htT _ q_3_10) (fun _ h9 => h9) rfl dX8_put_15 ?_
    refine lv_iload_n hx hb dX8_put_18 rfl (lv_at hl 1 rfl) ?_
    obtain ⟨g3, h⟩ := gd h
    refine va_cast hx hb hK hP hD hS 1 0 rfl rfl (inB_in g3) dX8_put_19 (fun H locs hP hD hS => ?_)
    have hP : va_P D vwCl (k_Text cC cI cZ a_this a_letters v_length (upd A_letters (v_length).toNatClampNeg (vp_nar .char p1))) H := hP
    have hD : va_D A (k_Text cC cI cZ a_this a_letters v_length (upd A_letters (v_length).toNatClampNeg (vp_nar .char p1))) := hD
    refine lv_aload_n hx hb dX8_put_20 rfl (lv_at hl 0 rfl) ?_
    refine lv_dup hx hb dX8_put_21 rfl ?_
    refine va_get (ci := 8) (v := .int v_length) (C := RX8) (T := TX8) (N := 2) hx hb htT inlX8 hown hK hP 0 rfl rfl 1 (by decide) (htT _ q_3_10) (fun _ h9 => h9) rfl dX8_put_22 ?_
    refine lv_iconst (v := (1 : Int32)) hx hb dX8_put_25 rfl ?_
    refine lv_iadd hx hb dX8_put_26 ?_
    refine va_put (ci := 8) (v := .int (v_length + (1 : Int32))) (ty := .int) (C := RX8) (T := TX8) (N := 2) hx hb htT inlX8 tyX8 tyX8_ok nmX8 hown hK hP hD hS 0 rfl rfl 1 (by decide) (htT _ q_3_10) (fun _ h9 => h9) rfl (tyX8_ok 1 (by decide)) rfl rfl (Nat.le_of_ble_eq_true rfl) dX8_put_27 (fun H locs hP hD hS => ?_)
    have hP : va_P D vwCl (k_Text cC cI cZ a_this a_letters (v_length + (1 : Int32)) (upd A_letters (v_length).toNatClampNeg (vp_nar .char p1))) H := hP
    have hD : va_D A (k_Text cC cI cZ a_this a_letters (v_length + (1 : Int32)) (upd A_letters (v_length).toNatClampNeg (vp_nar .char p1))) := hD
    refine lv_aload_n hx hb dX8_put_30 rfl (lv_at hl 0 rfl) ?_
    refine va_get (ci := 8) (v := .int (v_length + (1 : Int32))) (C := RX8) (T := TX8) (N := 2) hx hb htT inlX8 hown hK hP 0 rfl rfl 1 (by decide) (htT _ q_3_10) (fun _ h9 => h9) rfl dX8_put_31 ?_
    obtain rfl := Option.some.inj h
    exact hret _ _ _ _ _ hP hS dX8_put_34 rfl rfl
  · have h := im c2 h
    refine lv_bipush (v := (-3 : Int32)) hx hb dX8_put_7 rfl ?_
    obtain rfl := Option.some.inj h
    exact hret _ _ _ _ _ hP hS dX8_put_9 rfl rfl

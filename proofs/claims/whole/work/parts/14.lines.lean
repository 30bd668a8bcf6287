set_option maxHeartbeats 4000000 in
set_option maxRecDepth 100000 in
theorem c_Lines_offset (l : Launch) (D : va_G) (cC cI cZ : ClassId) (a_this : Nat) (a_stretch : Nat) (a_needs : Nat) (a_log : Nat) (a_log_times : Nat) (a_log_values : Nat) (v_stretches : Int32) (A_stretch : Nat → Int32) (A_needs : Nat → Int32) (v_log_size : Int32) (v_log_promise : Int32) (v_log_delay : Int32) (A_log_times : Nat → Int32) (A_log_values : Nat → Int32) (p1 : Int32) (p2 : Int32) (p3 : Int32) (r : Int32) (h : f_Lines_offset v_log_size A_log_times A_log_values p1 p2 p3 = some r) : Met l yX2_offset (.code yX2_offset cX2_offset 6 (some .int) :: TBL) (RM 1 21) (PcR [.ref a_this, .int p1, .int p2, .int p3] D (TY cC cI cZ) (k_Lines cC cI cZ a_this a_stretch a_needs a_log a_log_times a_log_values v_stretches A_stretch A_needs v_log_size v_log_promise v_log_delay A_log_times A_log_values)) (vp_Si (PO .int r)) 0 0 (fun _ => False) := by
  refine roOf (by decide) (Nat.le_of_ble_eq_true rfl) rfl ?_
  intro p e s m args below meth c Q ls X hP hl hret
  have X : Ctx p s m args c cX2_offset 6 RX2 D (TY cC cI cZ) := X
  obtain ⟨hx, hb, hml, hown, htT, hK, hN⟩ := id X
  unfold f_Lines_offset at h
  refine lv_aload_n hx hb dX2_offset_0 rfl (lv_at hl 0 rfl) ?_
  refine va_get (ci := 2) (v := .ref a_log) (C := RX2) (T := TX2) (N := 4) hx hb htT inlX2 hown hK hP 0 rfl rfl 0 (by decide) (htT _ q_5_1) (fun _ h9 => h9) rfl dX2_offset_1 ?_
  refine lv_iload_n hx hb dX2_offset_4 rfl (lv_at hl 1 rfl) ?_
  refine roV X [.int p1] [] (c_Log_has l D cC cI cZ a_log a_log_times a_log_values v_log_size v_log_promise v_log_delay A_log_times A_log_values p1 _ rfl) gg_X2_53 hd_Log_has ⟨rfl, rfl, Nat.le_of_ble_eq_true rfl, Nat.le_of_ble_eq_true rfl⟩ ⟨Nat.zero_le _, Nat.zero_le _⟩ hP [3, 4, 5] rfl rfl rfl rfl hl.1 rfl (Nat.le_of_ble_eq_true rfl) dX2_offset_5 (fun n1 => ?_)
  refine lv_if_eq (tgt := 33) hx hb dX2_offset_8 (by decide) (fun c2 => ?_) (fun c2 => ?_)
  · have h := ip c2 h
    refine lv_iconst (v := (0 : Int32)) hx hb dX2_offset_33 rfl ?_
    exact hret _ _ _ dX2_offset_34 (Option.some.inj h) rfl
  · have h := im c2 h
    refine lv_aload_n hx hb dX2_offset_11 rfl (lv_at hl 0 rfl) ?_
    refine va_get (ci := 2) (v := .ref a_log) (C := RX2) (T := TX2) (N := 4) hx hb htT inlX2 hown hK hP 0 rfl rfl 0 (by decide) (htT _ q_5_1) (fun _ h9 => h9) rfl dX2_offset_12 ?_
    refine lv_iload_n hx hb dX2_offset_15 rfl (lv_at hl 2 rfl) ?_
    refine roV X [.int p2] [] (c_Log_has l D cC cI cZ a_log a_log_times a_log_values v_log_size v_log_promise v_log_delay A_log_times A_log_values p2 _ rfl) gg_X2_53 hd_Log_has ⟨rfl, rfl, Nat.le_of_ble_eq_true rfl, Nat.le_of_ble_eq_true rfl⟩ ⟨Nat.zero_le _, Nat.zero_le _⟩ hP [3, 4, 5] rfl rfl rfl rfl hl.1 rfl (Nat.le_of_ble_eq_true rfl) dX2_offset_16 (fun n3 => ?_)
    refine lv_if_eq (tgt := 33) hx hb dX2_offset_19 (by decide) (fun c4 => ?_) (fun c4 => ?_)
    · have h := ip c4 h
      refine lv_iconst (v := (0 : Int32)) hx hb dX2_offset_33 rfl ?_
      exact hret _ _ _ dX2_offset_34 (Option.some.inj h) rfl
    · have h := im c4 h
      refine lv_aload_n hx hb dX2_offset_22 rfl (lv_at hl 0 rfl) ?_
      refine va_get (ci := 2) (v := .ref a_log) (C := RX2) (T := TX2) (N := 4) hx hb htT inlX2 hown hK hP 0 rfl rfl 0 (by decide) (htT _ q_5_1) (fun _ h9 => h9) rfl dX2_offset_23 ?_
      refine lv_iload_n hx hb dX2_offset_26 rfl (lv_at hl 3 rfl) ?_
      refine roV X [.int p3] [] (c_Log_has l D cC cI cZ a_log a_log_times a_log_values v_log_size v_log_promise v_log_delay A_log_times A_log_values p3 _ rfl) gg_X2_53 hd_Log_has ⟨rfl, rfl, Nat.le_of_ble_eq_true rfl, Nat.le_of_ble_eq_true rfl⟩ ⟨Nat.zero_le _, Nat.zero_le _⟩ hP [3, 4, 5] rfl rfl rfl rfl hl.1 rfl (Nat.le_of_ble_eq_true rfl) dX2_offset_27 (fun n5 => ?_)
      refine lv_if_ne (tgt := 35) hx hb dX2_offset_30 (by decide) (fun c6 => ?_) (fun c6 => ?_)
      · have h := im c6 h
        refine lv_aload_n hx hb dX2_offset_35 rfl (lv_at hl 0 rfl) ?_
        refine va_get (ci := 2) (v := .ref a_log) (C := RX2) (T := TX2) (N := 4) hx hb htT inlX2 hown hK hP 0 rfl rfl 0 (by decide) (htT _ q_5_1) (fun _ h9 => h9) rfl dX2_offset_36 ?_
        refine va_getN (ci := 3) (v := .ref a_log_values) (C := RX3) (T := TX3) (N := 5) hx hb htT inlX3 hown hK hP 3 rfl rfl 1 (by decide) (va_Nw.use rfl (hN _ qn_5)) (fun _ h9 => h9) rfl dX2_offset_39 ?_
        refine lv_iload_n hx hb dX2_offset_42 rfl (lv_at hl 2 rfl) ?_
        obtain ⟨g7, h⟩ := gd h
        refine va_iald hx hb hK hP 5 1 rfl rfl (inB_in g7) dX2_offset_43 ?_
        refine lv_aload_n hx hb dX2_offset_44 rfl (lv_at hl 0 rfl) ?_
        refine va_get (ci := 2) (v := .ref a_log) (C := RX2) (T := TX2) (N := 4) hx hb htT inlX2 hown hK hP 0 rfl rfl 0 (by decide) (htT _ q_5_1) (fun _ h9 => h9) rfl dX2_offset_45 ?_
        refine va_getN (ci := 3) (v := .ref a_log_values) (C := RX3) (T := TX3) (N := 5) hx hb htT inlX3 hown hK hP 3 rfl rfl 1 (by decide) (va_Nw.use rfl (hN _ qn_5)) (fun _ h9 => h9) rfl dX2_offset_48 ?_
        refine lv_iload_n hx hb dX2_offset_51 rfl (lv_at hl 1 rfl) ?_
        obtain ⟨g8, h⟩ := gd h
        refine va_iald hx hb hK hP 5 1 rfl rfl (inB_in g8) dX2_offset_52 ?_
        refine lv_isub hx hb dX2_offset_53 ?_
        refine lv_aload_n hx hb dX2_offset_54 rfl (lv_at hl 0 rfl) ?_
        refine va_get (ci := 2) (v := .ref a_log) (C := RX2) (T := TX2) (N := 4) hx hb htT inlX2 hown hK hP 0 rfl rfl 0 (by decide) (htT _ q_5_1) (fun _ h9 => h9) rfl dX2_offset_55 ?_
        refine va_getN (ci := 3) (v := .ref a_log_times) (C := RX3) (T := TX3) (N := 5) hx hb htT inlX3 hown hK hP 3 rfl rfl 0 (by decide) (va_Nw.use rfl (hN _ qn_3)) (fun _ h9 => h9) rfl dX2_offset_58 ?_
        refine lv_iload_n hx hb dX2_offset_61 rfl (lv_at hl 3 rfl) ?_
        obtain ⟨g9, h⟩ := gd h
        refine va_iald hx hb hK hP 4 1 rfl rfl (inB_in g9) dX2_offset_62 ?_
        refine lv_aload_n hx hb dX2_offset_63 rfl (lv_at hl 0 rfl) ?_
        refine va_get (ci := 2) (v := .ref a_log) (C := RX2) (T := TX2) (N := 4) hx hb htT inlX2 hown hK hP 0 rfl rfl 0 (by decide) (htT _ q_5_1) (fun _ h9 => h9) rfl dX2_offset_64 ?_
        refine va_getN (ci := 3) (v := .ref a_log_times) (C := RX3) (T := TX3) (N := 5) hx hb htT inlX3 hown hK hP 3 rfl rfl 0 (by decide) (va_Nw.use rfl (hN _ qn_3)) (fun _ h9 => h9) rfl dX2_offset_67 ?_
        refine lv_iload_n hx hb dX2_offset_70 rfl (lv_at hl 1 rfl) ?_
        obtain ⟨g10, h⟩ := gd h
        refine va_iald hx hb hK hP 4 1 rfl rfl (inB_in g10) dX2_offset_71 ?_
        refine lv_isub hx hb dX2_offset_72 ?_
        refine lv_imul hx hb dX2_offset_73 ?_
        refine lv_istore (lv' := [(4, .int (((A_log_values (p2).toNatClampNeg) - (A_log_values (p1).toNatClampNeg)) * ((A_log_times (p3).toNatClampNeg) - (A_log_times (p1).toNatClampNeg)))), (0, .ref a_this), (1, .int p1), (2, .int p2), (3, .int p3)]) hx hb dX2_offset_74 hl (by decide) rfl (fun ls hl => ?_)
        refine lv_aload_n hx hb dX2_offset_76 rfl (lv_at hl 1 rfl) ?_
        refine va_get (ci := 2) (v := .ref a_log) (C := RX2) (T := TX2) (N := 4) hx hb htT inlX2 hown hK hP 0 rfl rfl 0 (by decide) (htT _ q_5_1) (fun _ h9 => h9) rfl dX2_offset_77 ?_
        refine va_getN (ci := 3) (v := .ref a_log_values) (C := RX3) (T := TX3) (N := 5) hx hb htT inlX3 hown hK hP 3 rfl rfl 1 (by decide) (va_Nw.use rfl (hN _ qn_5)) (fun _ h9 => h9) rfl dX2_offset_80 ?_
        refine lv_iload_n hx hb dX2_offset_83 rfl (lv_at hl 4 rfl) ?_
        obtain ⟨g11, h⟩ := gd h
        refine va_iald hx hb hK hP 5 1 rfl rfl (inB_in g11) dX2_offset_84 ?_
        refine lv_aload_n hx hb dX2_offset_85 rfl (lv_at hl 1 rfl) ?_
        refine va_get (ci := 2) (v := .ref a_log) (C := RX2) (T := TX2) (N := 4) hx hb htT inlX2 hown hK hP 0 rfl rfl 0 (by decide) (htT _ q_5_1) (fun _ h9 => h9) rfl dX2_offset_86 ?_
        refine va_getN (ci := 3) (v := .ref a_log_values) (C := RX3) (T := TX3) (N := 5) hx hb htT inlX3 hown hK hP 3 rfl rfl 1 (by decide) (va_Nw.use rfl (hN _ qn_5)) (fun _ h9 => h9) rfl dX2_offset_89 ?_
        refine lv_iload_n hx hb dX2_offset_92 rfl (lv_at hl 2 rfl) ?_
        obtain ⟨g12, h⟩ := gd h
        refine va_iald hx hb hK hP 5 1 rfl rfl (inB_in g12) dX2_offset_93 ?_
        refine lv_isub hx hb dX2_offset_94 ?_
        refine lv_aload_n hx hb dX2_offset_95 rfl (lv_at hl 1 rfl) ?_
        refine va_get (ci := 2) (v := .ref a_log) (C := RX2) (T := TX2) (N := 4) hx hb htT inlX2 hown hK hP 0 rfl rfl 0 (by decide) (htT _ q_5_1) (fun _ h9 => h9) rfl dX2_offset_96 ?_
        refine va_getN (ci := 3) (v := .ref a_log_times) (C := RX3) (T := TX3) (N := 5) hx hb htT inlX3 hown hK hP 3 rfl rfl 0 (by decide) (va_Nw.use rfl (hN _ qn_3)) (fun _ h9 => h9) rfl dX2_offset_99 ?_
        refine lv_iload_n hx hb dX2_offset_102 rfl (lv_at hl 3 rfl) ?_
        obtain ⟨g13, h⟩ := gd h
        refine va_iald hx hb hK hP 4 1 rfl rfl (inB_in g13) dX2_offset_103 ?_
        refine lv_aload_n hx hb dX2_offset_104 rfl (lv_at hl 1 rfl) ?_
        refine va_get (ci := 2) (v := .ref a_log) (C := RX2) (T := TX2) (N := 4) hx hb htT inlX2 hown hK hP 0 rfl rfl 0 (by decide) (htT _ q_5_1) (fun _ h9 => h9) rfl dX2_offset_105 ?_
        refine va_getN (ci := 3) (v := .ref a_log_times) (C := RX3) (T := TX3) (N := 5) hx hb htT inlX3 hown hK hP 3 rfl rfl 0 (by decide) (va_Nw.use rfl (hN _ qn_3)) (fun _ h9 => h9) rfl dX2_offset_108 ?_
        refine lv_iload_n hx hb dX2_offset_111 rfl (lv_at hl 2 rfl) ?_
        obtain ⟨g14, h⟩ := gd h
        refine va_iald hx hb hK hP 4 1 rfl rfl (inB_in g14) dX2_offset_112 ?_
        refine lv_isub hx hb dX2_offset_113 ?_
        refine lv_imul hx hb dX2_offset_114 ?_
        refine lv_istore (lv' := [(5, .int (((A_log_values (p3).toNatClampNeg) - (A_log_values (p1).toNatClampNeg)) * ((A_log_times (p2).toNatClampNeg) - (A_log_times (p1).toNatClampNeg)))), (4, .int (((A_log_values (p2).toNatClampNeg) - (A_log_values (p1).toNatClampNeg)) * ((A_log_times (p3).toNatClampNeg) - (A_log_times (p1).toNatClampNeg)))), (0, .ref a_this), (1, .int p1), (2, .int p2), (3, .int p3)]) hx hb dX2_offset_115 hl (by decide) rfl (fun ls hl => ?_)
        refine lv_iload hx hb dX2_offset_117 (lv_at hl 1 rfl) ?_
        refine lv_iload hx hb dX2_offset_119 (lv_at hl 0 rfl) ?_
        refine lv_isub hx hb dX2_offset_121 ?_
        refine va_mabs hx hb (hml.trans hl.1.symm) hown (htT _ q_21_16) (htT _ q_21_17) (htT _ q_16_16) (htT _ q_21_18) (Nat.le_of_ble_eq_true rfl) (Nat.le_of_ble_eq_true rfl) (Nat.zero_le _) (Nat.zero_le _) dX2_offset_122 ?_
        exact hret _ _ _ dX2_offset_125 (Option.some.inj h) rfl
      · have h := ip c6 h
        refine lv_iconst (v := (0 : Int32)) hx hb dX2_offset_33 rfl ?_
        exact hret _ _ _ dX2_offset_34 (Option.some.inj h) rfl
set_option maxHeartbeats 4000000 in
set_option maxRecDepth 100000 in
theorem c_Lines_farthest (l : Launch) (D : va_G) (cC cI cZ : ClassId) (a_this : Nat) (a_stretch : Nat) (a_needs : Nat) (a_log : Nat) (a_log_times : Nat) (a_log_values : Nat) (v_stretches : Int32) (A_stretch : Nat → Int32) (A_needs : Nat → Int32) (v_log_size : Int32) (v_log_promise : Int32) (v_log_delay : Int32) (A_log_times : Nat → Int32) (A_log_values : Nat → Int32) (p1 : Int32) (p2 : Int32) (r : Int32) (h : f_Lines_farthest v_log_size A_log_times A_log_values p1 p2 = some r) : Met l yX2_farthest (.code yX2_farthest cX2_farthest 7 (some .int) :: TBL) (RM 2 46) (PcR [.ref a_this, .int p1, .int p2] D (TY cC cI cZ) (k_Lines cC cI cZ a_this a_stretch a_needs a_log a_log_times a_log_values v_stretches A_stretch A_needs v_log_size v_log_promise v_log_delay A_log_times A_log_values)) (vp_Si (PO .int r)) 0 0 (fun _ => False) := by
  refine roOf (by decide) (Nat.le_of_ble_eq_true rfl) rfl ?_
  intro p e s m args below meth c Q ls X hP hl hret
  have X : Ctx p s m args c cX2_farthest 7 RX2 D (TY cC cI cZ) := X
  obtain ⟨hx, hb, hml, hown, htT, hK, hN⟩ := id X
  unfold f_Lines_farthest at h
  refine lv_bipush (v := (-9 : Int32)) hx hb dX2_farthest_0 rfl ?_
  refine lv_istore_n (lv' := [(3, .int (-9 : Int32)), (0, .ref a_this), (1, .int p1), (2, .int p2)]) hx hb dX2_farthest_2 rfl hl (by decide) rfl (fun ls hl => ?_)
  refine lv_iconst (v := (-1 : Int32)) hx hb dX2_farthest_3 rfl ?_
  refine lv_istore (lv' := [(4, .int (-1 : Int32)), (3, .int (-9 : Int32)), (0, .ref a_this), (1, .int p1), (2, .int p2)]) hx hb dX2_farthest_4 hl (by decide) rfl (fun ls hl => ?_)
  refine lv_iload_n hx hb dX2_farthest_6 rfl (lv_at hl 3 rfl) ?_
  refine lv_iconst (v := (1 : Int32)) hx hb dX2_farthest_7 rfl ?_
  refine lv_iadd hx hb dX2_farthest_8 ?_
  refine lv_istore (lv' := [(5, .int (p1 + (1 : Int32))), (4, .int (-1 : Int32)), (3, .int (-9 : Int32)), (0, .ref a_this), (1, .int p1), (2, .int p2)]) hx hb dX2_farthest_9 hl (by decide) rfl (fun ls hl => ?_)
  have LP11 : ∀ (n : Nat) (y11_3 : Int32) (y11_4 : Int32) (y11_5 : Int32) (zq11 : Int32), f_Lines_farthest_L11 p1 p2 v_log_size A_log_times A_log_values n y11_3 y11_4 y11_5 = some zq11 → ∀ (ls : Array Slot), lv_has ls 7 [(0, .ref a_this), (1, .int p1), (2, .int p2), (3, .int y11_3), (4, .int y11_4), (5, .int y11_5)] → (∀ (ls : Array Slot), lv_has ls 7 [(3, .int zq11)] → W p l e (RM 2 46) s m args below meth c s.heap [] 0 0 Q (F0 m 47 ls [])) → W p l e (RM 2 46) s m args below meth c s.heap [] 0 0 Q (F0 m 11 ls []) := by
    clear h
    intro n
    induction n with
    | zero =>
      intro y11_3 y11_4 y11_5 zq11 h
      rw [f_Lines_farthest_L11_0] at h
      cases h
    | succ n ih11 =>
      intro y11_3 y11_4 y11_5 zq11 h ls hl k11_0
      rw [f_Lines_farthest_L11_s] at h
      refine lv_iload hx hb dX2_farthest_11 (lv_at hl 5 rfl) ?_
      refine lv_iload_n hx hb dX2_farthest_13 rfl (lv_at hl 2 rfl) ?_
      refine lv_icmp_ge (tgt := 47) hx hb dX2_farthest_14 (by decide) (fun c2 => ?_) (fun c2 => ?_)
      · have h := ip c2 h
        obtain rfl := Option.some.inj h
        exact k11_0 _ (lv_sub hl [3] rfl)
      · have h := im c2 h
        refine lv_aload_n hx hb dX2_farthest_17 rfl (lv_at hl 0 rfl) ?_
        refine lv_iload_n hx hb dX2_farthest_18 rfl (lv_at hl 1 rfl) ?_
        refine lv_iload hx hb dX2_farthest_19 (lv_at hl 5 rfl) ?_
        refine lv_iload_n hx hb dX2_farthest_21 rfl (lv_at hl 2 rfl) ?_
        obtain ⟨r3, e3, h⟩ := bd h
        refine roV X [.int p1, .int y11_5, .int p2] [] (c_Lines_offset l D cC cI cZ a_this a_stretch a_needs a_log a_log_times a_log_values v_stretches A_stretch A_needs v_log_size v_log_promise v_log_delay A_log_times A_log_values p1 y11_5 p2 r3 e3) gg_X2_49 hd_Lines_offset ⟨rfl, rfl, Nat.le_of_ble_eq_true rfl, Nat.le_of_ble_eq_true rfl⟩ ⟨Nat.zero_le _, Nat.zero_le _⟩ hP [0, 1, 2, 3, 4, 5] rfl rfl rfl rfl hl.1 rfl (Nat.le_of_ble_eq_true rfl) dX2_farthest_22 (fun n3 => ?_)
        refine lv_istore (lv' := [(6, .int r3), (0, .ref a_this), (1, .int p1), (2, .int p2), (3, .int y11_3), (4, .int y11_4), (5, .int y11_5)]) hx hb dX2_farthest_25 hl (by decide) rfl (fun ls hl => ?_)
        refine lv_iload hx hb dX2_farthest_27 (lv_at hl 0 rfl) ?_
        refine lv_iload hx hb dX2_farthest_29 (lv_at hl 5 rfl) ?_
        refine lv_icmp_le (tgt := 41) hx hb dX2_farthest_31 (by decide) (fun c4 => ?_) (fun c4 => ?_)
        · have h := ip c4 h
          refine lv_iinc (v := (y11_5 + (1 : Int32))) (lv' := [(5, .int (y11_5 + (1 : Int32))), (6, .int r3), (0, .ref a_this), (1, .int p1), (2, .int p2), (3, .int y11_3), (4, .int y11_4)]) hx hb dX2_farthest_41 hl (k := 6) rfl rfl (by decide) rfl (fun ls hl => ?_)
          refine lv_goto (tgt := 11) hx hb dX2_farthest_44 (by decide) ?_
          exact ih11 y11_3 y11_4 (y11_5 + (1 : Int32)) _ h _ (lv_sub hl [2, 3, 4, 5, 6, 0] rfl) k11_0
        · have h := im c4 h
          refine lv_iload hx hb dX2_farthest_34 (lv_at hl 0 rfl) ?_
          refine lv_istore (lv' := [(4, .int r3), (6, .int r3), (0, .ref a_this), (1, .int p1), (2, .int p2), (3, .int y11_3), (5, .int y11_5)]) hx hb dX2_farthest_36 hl (by decide) rfl (fun ls hl => ?_)
          refine lv_iload hx hb dX2_farthest_38 (lv_at hl 6 rfl) ?_
          refine lv_istore_n (lv' := [(3, .int y11_5), (4, .int r3), (6, .int r3), (0, .ref a_this), (1, .int p1), (2, .int p2), (5, .int y11_5)]) hx hb dX2_farthest_40 rfl hl (by decide) rfl (fun ls hl => ?_)
          refine lv_iinc (v := (y11_5 + (1 : Int32))) (lv' := [(5, .int (y11_5 + (1 : Int32))), (3, .int y11_5), (4, .int r3), (6, .int r3), (0, .ref a_this), (1, .int p1), (2, .int p2)]) hx hb dX2_farthest_41 hl (k := 6) rfl rfl (by decide) rfl (fun ls hl => ?_)
          refine lv_goto (tgt := 11) hx hb dX2_farthest_44 (by decide) ?_
          exact ih11 y11_5 r3 (y11_5 + (1 : Int32)) _ h _ (lv_sub hl [4, 5, 6, 1, 2, 0] rfl) k11_0
  obtain ⟨z1, e1, h⟩ := bd h
  refine LP11 fu (-9 : Int32) (-1 : Int32) (p1 + (1 : Int32)) z1 e1 _ (lv_sub hl [3, 4, 5, 2, 1, 0] rfl) ?_
  intro ls hl
  refine lv_iload_n hx hb dX2_farthest_47 rfl (lv_at hl 0 rfl) ?_
  exact hret _ _ _ dX2_farthest_48 (Option.some.inj h) rfl
set_option maxHeartbeats 4000000 in
set_option maxRecDepth 100000 in
theorem c_Lines_span (l : Launch) (D : va_G) (cC cI cZ : ClassId) (a_this : Nat) (a_stretch : Nat) (a_needs : Nat) (a_log : Nat) (a_log_times : Nat) (a_log_values : Nat) (v_stretches : Int32) (A_stretch : Nat → Int32) (A_needs : Nat → Int32) (v_log_size : Int32) (v_log_promise : Int32) (v_log_delay : Int32) (A_log_times : Nat → Int32) (A_log_values : Nat → Int32) (p1 : Int32) (p2 : Int32) (r : Int32) (h : f_Lines_span v_log_size A_log_times p1 p2 = some r) : Met l yX2_span (.code yX2_span cX2_span 3 (some .int) :: TBL) (RM 2 42) (PcR [.ref a_this, .int p1, .int p2] D (TY cC cI cZ) (k_Lines cC cI cZ a_this a_stretch a_needs a_log a_log_times a_log_values v_stretches A_stretch A_needs v_log_size v_log_promise v_log_delay A_log_times A_log_values)) (vp_Si (PO .int r)) 0 0 (fun _ => False) := by
  refine roOf (by decide) (Nat.le_of_ble_eq_true rfl) rfl ?_
  intro p e s m args below meth c Q ls X hP hl hret
  have X : Ctx p s m args c cX2_span 3 RX2 D (TY cC cI cZ) := X
  obtain ⟨hx, hb, hml, hown, htT, hK, hN⟩ := id X
  unfold f_Lines_span at h
  refine lv_aload_n hx hb dX2_span_0 rfl (lv_at hl 0 rfl) ?_
  refine va_get (ci := 2) (v := .ref a_log) (C := RX2) (T := TX2) (N := 4) hx hb htT inlX2 hown hK hP 0 rfl rfl 0 (by decide) (htT _ q_5_1) (fun _ h9 => h9) rfl dX2_span_1 ?_
  refine lv_iload_n hx hb dX2_span_4 rfl (lv_at hl 2 rfl) ?_
  obtain ⟨r1, e1, h⟩ := bd h
  refine roV X [.int p2] [] (c_Log_timeAt l D cC cI cZ a_log a_log_times a_log_values v_log_size v_log_promise v_log_delay A_log_times A_log_values p2 r1 e1) gg_X2_56 hd_Log_timeAt ⟨rfl, rfl, Nat.le_of_ble_eq_true rfl, Nat.le_of_ble_eq_true rfl⟩ ⟨Nat.zero_le _, Nat.zero_le _⟩ hP [3, 4, 5] rfl rfl rfl rfl hl.1 rfl (Nat.le_of_ble_eq_true rfl) dX2_span_5 (fun n1 => ?_)
  refine lv_aload_n hx hb dX2_span_8 rfl (lv_at hl 0 rfl) ?_
  refine va_get (ci := 2) (v := .ref a_log) (C := RX2) (T := TX2) (N := 4) hx hb htT inlX2 hown hK hP 0 rfl rfl 0 (by decide) (htT _ q_5_1) (fun _ h9 => h9) rfl dX2_span_9 ?_
  refine lv_iload_n hx hb dX2_span_12 rfl (lv_at hl 1 rfl) ?_
  obtain ⟨r2, e2, h⟩ := bd h
  refine roV X [.int p1] [.int r1] (c_Log_timeAt l D cC cI cZ a_log a_log_times a_log_values v_log_size v_log_promise v_log_delay A_log_times A_log_values p1 r2 e2) gg_X2_56 hd_Log_timeAt ⟨rfl, rfl, Nat.le_of_ble_eq_true rfl, Nat.le_of_ble_eq_true rfl⟩ ⟨Nat.zero_le _, Nat.zero_le _⟩ hP [3, 4, 5] rfl rfl rfl rfl hl.1 rfl (Nat.le_of_ble_eq_true rfl) dX2_span_13 (fun n2 => ?_)
  refine lv_isub hx hb dX2_span_16 ?_
  exact hret _ _ _ dX2_span_17 (Option.some.inj h) rfl
set_option maxHeartbeats 4000000 in
set_option maxRecDepth 100000 in
theorem c_Lines_firstBeyond (l : Launch) (D : va_G) (cC cI cZ : ClassId) (a_this : Nat) (a_stretch : Nat) (a_needs : Nat) (a_log : Nat) (a_log_times : Nat) (a_log_values : Nat) (v_stretches : Int32) (A_stretch : Nat → Int32) (A_needs : Nat → Int32) (v_log_size : Int32) (v_log_promise : Int32) (v_log_delay : Int32) (A_log_times : Nat → Int32) (A_log_values : Nat → Int32) (p1 : Int32) (p2 : Int32) (p3 : Int32) (r : Int32) (h : f_Lines_firstBeyond v_log_size A_log_times A_log_values p1 p2 p3 = some r) : Met l yX2_firstBeyond (.code yX2_firstBeyond cX2_firstBeyond 6 (some .int) :: TBL) (RM 3 64) (PcR [.ref a_this, .int p1, .int p2, .int p3] D (TY cC cI cZ) (k_Lines cC cI cZ a_this a_stretch a_needs a_log a_log_times a_log_values v_stretches A_stretch A_needs v_log_size v_log_promise v_log_delay A_log_times A_log_values)) (vp_Si (PO .int r)) 0 0 (fun _ => False) := by
  refine roOf (by decide) (Nat.le_of_ble_eq_true rfl) rfl ?_
  intro p e s m args below meth c Q ls X hP hl hret
  have X : Ctx p s m args c cX2_firstBeyond 6 RX2 D (TY cC cI cZ) := X
  obtain ⟨hx, hb, hml, hown, htT, hK, hN⟩ := id X
  unfold f_Lines_firstBeyond at h
  refine lv_iload_n hx hb dX2_firstBeyond_0 rfl (lv_at hl 3 rfl) ?_
  refine lv_aload_n hx hb dX2_firstBeyond_1 rfl (lv_at hl 0 rfl) ?_
  refine lv_iload_n hx hb dX2_firstBeyond_2 rfl (lv_at hl 1 rfl) ?_
  refine lv_iload_n hx hb dX2_firstBeyond_3 rfl (lv_at hl 2 rfl) ?_
  obtain ⟨r1, e1, h⟩ := bd h
  refine roV X [.int p1, .int p2] [.int p3] (c_Lines_span l D cC cI cZ a_this a_stretch a_needs a_log a_log_times a_log_values v_stretches A_stretch A_needs v_log_size v_log_promise v_log_delay A_log_times A_log_values p1 p2 r1 e1) gg_X2_46 hd_Lines_span ⟨rfl, rfl, Nat.le_of_ble_eq_true rfl, Nat.le_of_ble_eq_true rfl⟩ ⟨Nat.zero_le _, Nat.zero_le _⟩ hP [0, 1, 2, 3, 4, 5] rfl rfl rfl rfl hl.1 rfl (Nat.le_of_ble_eq_true rfl) dX2_firstBeyond_4 (fun n1 => ?_)
  refine lv_imul hx hb dX2_firstBeyond_7 ?_
  refine lv_istore (lv' := [(4, .int (p3 * r1)), (0, .ref a_this), (1, .int p1), (2, .int p2), (3, .int p3)]) hx hb dX2_firstBeyond_8 hl (by decide) rfl (fun ls hl => ?_)
  refine lv_iload_n hx hb dX2_firstBeyond_10 rfl (lv_at hl 2 rfl) ?_
  refine lv_iconst (v := (1 : Int32)) hx hb dX2_firstBeyond_11 rfl ?_
  refine lv_iadd hx hb dX2_firstBeyond_12 ?_
  refine lv_istore (lv' := [(5, .int (p1 + (1 : Int32))), (4, .int (p3 * r1)), (0, .ref a_this), (1, .int p1), (2, .int p2), (3, .int p3)]) hx hb dX2_firstBeyond_13 hl (by decide) rfl (fun ls hl => ?_)
  have LP15 : ∀ (n : Nat) (y15_5 : Int32) (zq15 : Nat × Int32), f_Lines_firstBeyond_L15 p1 p2 (p3 * r1) v_log_size A_log_times A_log_values n y15_5 = some zq15 → ∀ (ls : Array Slot), lv_has ls 6 [(0, .ref a_this), (1, .int p1), (2, .int p2), (4, .int (p3 * r1)), (5, .int y15_5)] → (zq15.1 = 0 → ∀ (ls : Array Slot), lv_has ls 6 [(5, .int zq15.2)] → W p l e (RM 3 64) s m args below meth c s.heap [] 0 0 Q (F0 m 34 ls [])) → (zq15.1 = 1 → ∀ (ls : Array Slot), lv_has ls 6 [] → W p l e (RM 3 64) s m args below meth c s.heap [] 0 0 Q (F0 m 43 ls [])) → W p l e (RM 3 64) s m args below meth c s.heap [] 0 0 Q (F0 m 15 ls []) := by
    clear h
    intro n
    induction n with
    | zero =>
      intro y15_5 zq15 h
      rw [f_Lines_firstBeyond_L15_0] at h
      cases h
    | succ n ih15 =>
      intro y15_5 zq15 h ls hl k15_0 k15_1
      rw [f_Lines_firstBeyond_L15_s] at h
      refine lv_iload hx hb dX2_firstBeyond_15 (lv_at hl 4 rfl) ?_
      refine lv_iload_n hx hb dX2_firstBeyond_17 rfl (lv_at hl 2 rfl) ?_
      refine lv_icmp_ge (tgt := 43) hx hb dX2_firstBeyond_18 (by decide) (fun c3 => ?_) (fun c3 => ?_)
      · have h := ip c3 h
        obtain rfl := Option.some.inj h
        exact k15_1 rfl _ (lv_sub hl [] rfl)
      · have h := im c3 h
        refine lv_aload_n hx hb dX2_firstBeyond_21 rfl (lv_at hl 0 rfl) ?_
        refine lv_iload_n hx hb dX2_firstBeyond_22 rfl (lv_at hl 1 rfl) ?_
        refine lv_iload hx hb dX2_firstBeyond_23 (lv_at hl 4 rfl) ?_
        refine lv_iload_n hx hb dX2_firstBeyond_25 rfl (lv_at hl 2 rfl) ?_
        obtain ⟨r4, e4, h⟩ := bd h
        refine roV X [.int p1, .int y15_5, .int p2] [] (c_Lines_offset l D cC cI cZ a_this a_stretch a_needs a_log a_log_times a_log_values v_stretches A_stretch A_needs v_log_size v_log_promise v_log_delay A_log_times A_log_values p1 y15_5 p2 r4 e4) gg_X2_49 hd_Lines_offset ⟨rfl, rfl, Nat.le_of_ble_eq_true rfl, Nat.le_of_ble_eq_true rfl⟩ ⟨Nat.zero_le _, Nat.zero_le _⟩ hP [0, 1, 2, 3, 4, 5] rfl rfl rfl rfl hl.1 rfl (Nat.le_of_ble_eq_true rfl) dX2_firstBeyond_26 (fun n4 => ?_)
        refine lv_iload hx hb dX2_firstBeyond_29 (lv_at hl 3 rfl) ?_
        refine lv_icmp_le (tgt := 37) hx hb dX2_firstBeyond_31 (by decide) (fun c5 => ?_) (fun c5 => ?_)
        · have h := ip c5 h
          refine lv_iinc (v := (y15_5 + (1 : Int32))) (lv' := [(5, .int (y15_5 + (1 : Int32))), (0, .ref a_this), (1, .int p1), (2, .int p2), (4, .int (p3 * r1))]) hx hb dX2_firstBeyond_37 hl (k := 4) rfl rfl (by decide) rfl (fun ls hl => ?_)
          refine lv_goto (tgt := 15) hx hb dX2_firstBeyond_40 (by decide) ?_
          exact ih15 (y15_5 + (1 : Int32)) _ h _ (lv_sub hl [1, 2, 3, 4, 0] rfl) k15_0 k15_1
        · have h := im c5 h
          obtain rfl := Option.some.inj h
          exact k15_0 rfl _ (lv_sub hl [4] rfl)
  obtain ⟨z2, e2, h⟩ := bd h
  refine LP15 fu (p1 + (1 : Int32)) z2 e2 _ (lv_sub hl [2, 3, 4, 1, 0] rfl) ?_ ?_
  · intro t2 ls hl
    have h := ip t2 h
    refine lv_iload hx hb dX2_firstBeyond_34 (lv_at hl 0 rfl) ?_
    exact hret _ _ _ dX2_firstBeyond_36 (Option.some.inj h) rfl
  · intro t2 ls hl
    have h := im (by rw [t2]; decide) h
    refine lv_bipush (v := (-9 : Int32)) hx hb dX2_firstBeyond_43 rfl ?_
    exact hret _ _ _ dX2_firstBeyond_45 (Option.some.inj h) rfl
set_option maxHeartbeats 4000000 in
set_option maxRecDepth 100000 in
theorem c_Lines_measureNeedsFrom (l : Launch) (D : va_G) (cC cI cZ : ClassId) (a_this : Nat) (a_stretch : Nat) (a_needs : Nat) (a_log : Nat) (a_log_times : Nat) (a_log_values : Nat) (v_stretches : Int32) (A_stretch : Nat → Int32) (A_needs : Nat → Int32) (v_log_size : Int32) (v_log_promise : Int32) (v_log_delay : Int32) (A_log_times : Nat → Int32) (A_log_values : Nat → Int32) (p1 : Int32) (sz : Nat) (z : (Nat → Int32)) (h : f_Lines_measureNeedsFrom A_needs v_log_size A_log_times A_log_values p1 = some z) : Met l yX2_measureNeedsFrom (.code yX2_measureNeedsFrom cX2_measureNeedsFrom 6 none :: TBL) (RM 3 72) (PcM [.ref a_this, .int p1] sz D (TY cC cI cZ) (k_Lines cC cI cZ a_this a_stretch a_needs a_log a_log_times a_log_values v_stretches A_stretch A_needs v_log_size v_log_promise v_log_delay A_log_times A_log_values)) (QM none D (k_Lines cC cI cZ a_this a_stretch a_needs a_log a_log_times a_log_values v_stretches A_stretch z v_log_size v_log_promise v_log_delay A_log_times A_log_values) (va_A (k_Lines cC cI cZ a_this a_stretch a_needs a_log a_log_times a_log_values v_stretches A_stretch A_needs v_log_size v_log_promise v_log_delay A_log_times A_log_values) sz)) 0 0 (va_A (k_Lines cC cI cZ a_this a_stretch a_needs a_log a_log_times a_log_values v_stretches A_stretch A_needs v_log_size v_log_promise v_log_delay A_log_times A_log_values) sz) := by
  refine muOfV (by decide) (Nat.le_of_ble_eq_true rfl) rfl ?_
  intro p e s m args below meth c Q ls A X hP hD hS hA hl hret
  have X : Ctx p s m args c cX2_measureNeedsFrom 6 RX2 D (TY cC cI cZ) := X
  obtain ⟨hx, hb, hml, hown, htT, hK, hN⟩ := id X
  unfold f_Lines_measureNeedsFrom at h
  refine lv_aload_n hx hb dX2_measureNeedsFrom_0 rfl (lv_at hl 0 rfl) ?_
  refine va_get (ci := 2) (v := .ref a_log) (C := RX2) (T := TX2) (N := 4) hx hb htT inlX2 hown hK hP 0 rfl rfl 0 (by decide) (htT _ q_5_1) (fun _ h9 => h9) rfl dX2_measureNeedsFrom_1 ?_
  refine lv_iload_n hx hb dX2_measureNeedsFrom_4 rfl (lv_at hl 1 rfl) ?_
  obtain ⟨r1, e1, h⟩ := bd h
  refine roV X [.int p1] [] (c_Log_isKnown l D cC cI cZ a_log a_log_times a_log_values v_log_size v_log_promise v_log_delay A_log_times A_log_values p1 r1 e1) gg_X2_35 hd_Log_isKnown ⟨rfl, rfl, Nat.le_of_ble_eq_true rfl, Nat.le_of_ble_eq_true rfl⟩ ⟨Nat.zero_le _, Nat.zero_le _⟩ hP [3, 4, 5] rfl rfl rfl rfl hl.1 rfl (Nat.le_of_ble_eq_true rfl) dX2_measureNeedsFrom_5 (fun n1 => ?_)
  refine lv_if_ne (tgt := 12) hx hb dX2_measureNeedsFrom_8 (by decide) (fun c2 => ?_) (fun c2 => ?_)
  · have h := im c2 h
    refine lv_iload_n hx hb dX2_measureNeedsFrom_12 rfl (lv_at hl 1 rfl) ?_
    refine lv_iconst (v := (1 : Int32)) hx hb dX2_measureNeedsFrom_13 rfl ?_
    refine lv_iadd hx hb dX2_measureNeedsFrom_14 ?_
    refine lv_istore_n (lv' := [(2, .int (p1 + (1 : Int32))), (0, .ref a_this), (1, .int p1)]) hx hb dX2_measureNeedsFrom_15 rfl hl (by decide) rfl (fun ls hl => ?_)
    have LP16 : ∀ (n : Nat) (y16_2 : Int32) (A_needs_16 : Nat → Int32) (zq16 : (Nat → Int32)), f_Lines_measureNeedsFrom_L16 p1 v_log_size A_log_times A_log_values n y16_2 A_needs_16 = some zq16 → ∀ (H : Heap) (locs : List Loc) (ls : Array Slot), va_P D vwCl (k_Lines cC cI cZ a_this a_stretch a_needs a_log a_log_times a_log_values v_stretches A_stretch A_needs_16 v_log_size v_log_promise v_log_delay A_log_times A_log_values) H → va_D A (k_Lines cC cI cZ a_this a_stretch a_needs a_log a_log_times a_log_values v_stretches A_stretch A_needs_16 v_log_size v_log_promise v_log_delay A_log_times A_log_values) → va_S A s.heap H locs → lv_has ls 6 [(0, .ref a_this), (1, .int p1), (2, .int y16_2)] → (∀ (H : Heap) (locs : List Loc) (ls : Array Slot), va_P D vwCl (k_Lines cC cI cZ a_this a_stretch a_needs a_log a_log_times a_log_values v_stretches A_stretch zq16 v_log_size v_log_promise v_log_delay A_log_times A_log_values) H → va_D A (k_Lines cC cI cZ a_this a_stretch a_needs a_log a_log_times a_log_values v_stretches A_stretch zq16 v_log_size v_log_promise v_log_delay A_log_times A_log_values) → va_S A s.heap H locs → lv_has ls 6 [] → W p l e (RM 3 72) s m args below meth c H locs 0 0 Q (F0 m 107 ls [])) → W p l e (RM 3 72) s m args below meth c H locs 0 0 Q (F0 m 16 ls []) := by
      clear h
      intro n
      induction n with
      | zero =>
        intro y16_2 A_needs_16 zq16 h
        rw [f_Lines_measureNeedsFrom_L16_0] at h
        cases h
      | succ n ih16 =>
        intro y16_2 A_needs_16 zq16 h H locs ls hP hD hS hl k16_0
        rw [f_Lines_measureNeedsFrom_L16_s] at h
        refine lv_iload_n hx hb dX2_measureNeedsFrom_16 rfl (lv_at hl 2 rfl) ?_
        refine lv_bipush (v := (14 : Int32)) hx hb dX2_measureNeedsFrom_17 rfl ?_
        refine lv_icmp_ge (tgt := 107) hx hb dX2_measureNeedsFrom_19 (by decide) (fun c4 => ?_) (fun c4 => ?_)
        · have h := ip c4 h
          obtain rfl := Option.some.inj h
          exact k16_0 _ _ _ hP hD hS (lv_sub hl [] rfl)
        · have h := im c4 h
          refine lv_aload_n hx hb dX2_measureNeedsFrom_22 rfl (lv_at hl 0 rfl) ?_
          refine va_get (ci := 2) (v := .ref a_log) (C := RX2) (T := TX2) (N := 4) hx hb htT inlX2 hown hK hP 0 rfl rfl 0 (by decide) (htT _ q_5_1) (fun _ h9 => h9) rfl dX2_measureNeedsFrom_23 ?_
          refine lv_iload_n hx hb dX2_measureNeedsFrom_26 rfl (lv_at hl 2 rfl) ?_
          obtain ⟨r5, e5, h⟩ := bd h
          refine roV X [.int y16_2] [] (c_Log_isKnown l D cC cI cZ a_log a_log_times a_log_values v_log_size v_log_promise v_log_delay A_log_times A_log_values y16_2 r5 e5) gg_X2_35 hd_Log_isKnown ⟨rfl, rfl, Nat.le_of_ble_eq_true rfl, Nat.le_of_ble_eq_true rfl⟩ ⟨Nat.zero_le _, Nat.zero_le _⟩ hP [3, 4, 5] rfl rfl rfl rfl hl.1 rfl (Nat.le_of_ble_eq_true rfl) dX2_measureNeedsFrom_27 (fun n5 => ?_)
          refine lv_if_eq (tgt := 107) hx hb dX2_measureNeedsFrom_30 (by decide) (fun c6 => ?_) (fun c6 => ?_)
          · have h := ip c6 h
            obtain rfl := Option.some.inj h
            exact k16_0 _ _ _ hP hD hS (lv_sub hl [] rfl)
          · have h := im c6 h
            refine lv_aload_n hx hb dX2_measureNeedsFrom_33 rfl (lv_at hl 0 rfl) ?_
            refine lv_iload_n hx hb dX2_measureNeedsFrom_34 rfl (lv_at hl 1 rfl) ?_
            refine lv_iload_n hx hb dX2_measureNeedsFrom_35 rfl (lv_at hl 2 rfl) ?_
            obtain ⟨r7, e7, h⟩ := bd h
            refine roV X [.int p1, .int y16_2] [] (c_Lines_farthest l D cC cI cZ a_this a_stretch a_needs a_log a_log_times a_log_values v_stretches A_stretch A_needs_16 v_log_size v_log_promise v_log_delay A_log_times A_log_values p1 y16_2 r7 e7) gg_X2_42 hd_Lines_farthest ⟨rfl, rfl, Nat.le_of_ble_eq_true rfl, Nat.le_of_ble_eq_true rfl⟩ ⟨Nat.zero_le _, Nat.zero_le _⟩ hP [0, 1, 2, 3, 4, 5] rfl rfl rfl rfl hl.1 rfl (Nat.le_of_ble_eq_true rfl) dX2_measureNeedsFrom_36 (fun n7 => ?_)
            refine lv_istore_n (lv' := [(3, .int r7), (0, .ref a_this), (1, .int p1), (2, .int y16_2)]) hx hb dX2_measureNeedsFrom_39 rfl hl (by decide) rfl (fun ls hl => ?_)
            refine lv_aload_n hx hb dX2_measureNeedsFrom_40 rfl (lv_at hl 1 rfl) ?_
            refine lv_iload_n hx hb dX2_measureNeedsFrom_41 rfl (lv_at hl 2 rfl) ?_
            refine lv_iload_n hx hb dX2_measureNeedsFrom_42 rfl (lv_at hl 3 rfl) ?_
            obtain ⟨r8, e8, h⟩ := bd h
            refine roV X [.int p1, .int y16_2] [] (c_Lines_span l D cC cI cZ a_this a_stretch a_needs a_log a_log_times a_log_values v_stretches A_stretch A_needs_16 v_log_size v_log_promise v_log_delay A_log_times A_log_values p1 y16_2 r8 e8) gg_X2_46 hd_Lines_span ⟨rfl, rfl, Nat.le_of_ble_eq_true rfl, Nat.le_of_ble_eq_true rfl⟩ ⟨Nat.zero_le _, Nat.zero_le _⟩ hP [0, 1, 2, 3, 4, 5] rfl rfl rfl rfl hl.1 rfl (Nat.le_of_ble_eq_true rfl) dX2_measureNeedsFrom_43 (fun n8 => ?_)
            refine lv_istore (lv' := [(4, .int r8), (3, .int r7), (0, .ref a_this), (1, .int p1), (2, .int y16_2)]) hx hb dX2_measureNeedsFrom_46 hl (by decide) rfl (fun ls hl => ?_)
            refine lv_iload_n hx hb dX2_measureNeedsFrom_48 rfl (lv_at hl 1 rfl) ?_
            refine lv_bipush (v := (-9 : Int32)) hx hb dX2_measureNeedsFrom_49 rfl ?_
            refine lv_icmp_eq (tgt := 63) hx hb dX2_measureNeedsFrom_51 (by decide) (fun c9 => ?_) (fun c9 => ?_)
            · have h := ip c9 h
              refine lv_iconst (v := (0 : Int32)) hx hb dX2_measureNeedsFrom_63 rfl ?_
              refine lv_istore (lv' := [(5, .int (0 : Int32)), (4, .int r8), (3, .int r7), (0, .ref a_this), (1, .int p1), (2, .int y16_2)]) hx hb dX2_measureNeedsFrom_64 hl (by decide) rfl (fun ls hl => ?_)
              refine lv_aload_n hx hb dX2_measureNeedsFrom_66 rfl (lv_at hl 3 rfl) ?_
              refine va_get (ci := 2) (v := .ref a_needs) (C := RX2) (T := TX2) (N := 4) hx hb htT inlX2 hown hK hP 0 rfl rfl 2 (by decide) (htT _ q_5_3) (fun _ h9 => h9) rfl dX2_measureNeedsFrom_67 ?_
              refine lv_iload_n hx hb dX2_measureNeedsFrom_70 rfl (lv_at hl 4 rfl) ?_
              refine lv_bipush (v := (14 : Int32)) hx hb dX2_measureNeedsFrom_71 rfl ?_
              refine lv_imul hx hb dX2_measureNeedsFrom_73 ?_
              refine lv_iload_n hx hb dX2_measureNeedsFrom_74 rfl (lv_at hl 5 rfl) ?_
              refine lv_iadd hx hb dX2_measureNeedsFrom_75 ?_
              refine lv_iload hx hb dX2_measureNeedsFrom_76 (lv_at hl 0 rfl) ?_
              refine lv_if_eq (tgt := 99) hx hb dX2_measureNeedsFrom_78 (by decide) (fun _ => ?_) (fun c10 => absurd (by decide) c10)
              refine lv_iconst (v := (0 : Int32)) hx hb dX2_measureNeedsFrom_99 rfl ?_
              obtain ⟨g11, h⟩ := gd h
              refine va_iast hx hb hK hP hD hS 2 1 rfl rfl (inB_in g11) dX2_measureNeedsFrom_100 (fun H locs hP hD hS => ?_)
              have hP : va_P D vwCl (k_Lines cC cI cZ a_this a_stretch a_needs a_log a_log_times a_log_values v_stretches A_stretch (upd A_needs_16 (((p1 * (14 : Int32)) + y16_2)).toNatClampNeg (0 : Int32)) v_log_size v_log_promise v_log_delay A_log_times A_log_values) H := hP
              have hD : va_D A (k_Lines cC cI cZ a_this a_stretch a_needs a_log a_log_times a_log_values v_stretches A_stretch (upd A_needs_16 (((p1 * (14 : Int32)) + y16_2)).toNatClampNeg (0 : Int32)) v_log_size v_log_promise v_log_delay A_log_times A_log_values) := hD
              refine lv_iinc (v := (y16_2 + (1 : Int32))) (lv' := [(2, .int (y16_2 + (1 : Int32))), (5, .int (0 : Int32)), (4, .int r8), (3, .int r7), (0, .ref a_this), (1, .int p1)]) hx hb dX2_measureNeedsFrom_101 hl (k := 5) rfl rfl (by decide) rfl (fun ls hl => ?_)
              refine lv_goto (tgt := 16) hx hb dX2_measureNeedsFrom_104 (by decide) ?_
              exact ih16 (y16_2 + (1 : Int32)) (upd A_needs_16 (((p1 * (14 : Int32)) + y16_2)).toNatClampNeg (0 : Int32)) _ h _ _ _ hP hD hS (lv_sub hl [4, 5, 0] rfl) k16_0
            · have h := im c9 h
              refine lv_iload hx hb dX2_measureNeedsFrom_54 (lv_at hl 0 rfl) ?_
              refine lv_if_le (tgt := 63) hx hb dX2_measureNeedsFrom_56 (by decide) (fun c12 => ?_) (fun c12 => ?_)
              · have h := ip c12 h
                refine lv_iconst (v := (0 : Int32)) hx hb dX2_measureNeedsFrom_63 rfl ?_
                refine lv_istore (lv' := [(5, .int (0 : Int32)), (4, .int r8), (3, .int r7), (0, .ref a_this), (1, .int p1), (2, .int y16_2)]) hx hb dX2_measureNeedsFrom_64 hl (by decide) rfl (fun ls hl => ?_)
                refine lv_aload_n hx hb dX2_measureNeedsFrom_66 rfl (lv_at hl 3 rfl) ?_
                refine va_get (ci := 2) (v := .ref a_needs) (C := RX2) (T := TX2) (N := 4) hx hb htT inlX2 hown hK hP 0 rfl rfl 2 (by decide) (htT _ q_5_3) (fun _ h9 => h9) rfl dX2_measureNeedsFrom_67 ?_
                refine lv_iload_n hx hb dX2_measureNeedsFrom_70 rfl (lv_at hl 4 rfl) ?_
                refine lv_bipush (v := (14 : Int32)) hx hb dX2_measureNeedsFrom_71 rfl ?_
                refine lv_imul hx hb dX2_measureNeedsFrom_73 ?_
                refine lv_iload_n hx hb dX2_measureNeedsFrom_74 rfl (lv_at hl 5 rfl) ?_
                refine lv_iadd hx hb dX2_measureNeedsFrom_75 ?_
                refine lv_iload hx hb dX2_measureNeedsFrom_76 (lv_at hl 0 rfl) ?_
                refine lv_if_eq (tgt := 99) hx hb dX2_measureNeedsFrom_78 (by decide) (fun _ => ?_) (fun c13 => absurd (by decide) c13)
                refine lv_iconst (v := (0 : Int32)) hx hb dX2_measureNeedsFrom_99 rfl ?_
                obtain ⟨g14, h⟩ := gd h
                refine va_iast hx hb hK hP hD hS 2 1 rfl rfl (inB_in g14) dX2_measureNeedsFrom_100 (fun H locs hP hD hS => ?_)
                have hP : va_P D vwCl (k_Lines cC cI cZ a_this a_stretch a_needs a_log a_log_times a_log_values v_stretches A_stretch (upd A_needs_16 (((p1 * (14 : Int32)) + y16_2)).toNatClampNeg (0 : Int32)) v_log_size v_log_promise v_log_delay A_log_times A_log_values) H := hP
                have hD : va_D A (k_Lines cC cI cZ a_this a_stretch a_needs a_log a_log_times a_log_values v_stretches A_stretch (upd A_needs_16 (((p1 * (14 : Int32)) + y16_2)).toNatClampNeg (0 : Int32)) v_log_size v_log_promise v_log_delay A_log_times A_log_values) := hD
                refine lv_iinc (v := (y16_2 + (1 : Int32))) (lv' := [(2, .int (y16_2 + (1 : Int32))), (5, .int (0 : Int32)), (4, .int r8), (3, .int r7), (0, .ref a_this), (1, .int p1)]) hx hb dX2_measureNeedsFrom_101 hl (k := 5) rfl rfl (by decide) rfl (fun ls hl => ?_)
                refine lv_goto (tgt := 16) hx hb dX2_measureNeedsFrom_104 (by decide) ?_
                exact ih16 (y16_2 + (1 : Int32)) (upd A_needs_16 (((p1 * (14 : Int32)) + y16_2)).toNatClampNeg (0 : Int32)) _ h _ _ _ hP hD hS (lv_sub hl [4, 5, 0] rfl) k16_0
              · have h := im c12 h
                refine lv_iconst (v := (1 : Int32)) hx hb dX2_measureNeedsFrom_59 rfl ?_
                refine lv_goto (tgt := 64) hx hb dX2_measureNeedsFrom_60 (by decide) ?_
                refine lv_istore (lv' := [(5, .int (1 : Int32)), (4, .int r8), (3, .int r7), (0, .ref a_this), (1, .int p1), (2, .int y16_2)]) hx hb dX2_measureNeedsFrom_64 hl (by decide) rfl (fun ls hl => ?_)
                refine lv_aload_n hx hb dX2_measureNeedsFrom_66 rfl (lv_at hl 3 rfl) ?_
                refine va_get (ci := 2) (v := .ref a_needs) (C := RX2) (T := TX2) (N := 4) hx hb htT inlX2 hown hK hP 0 rfl rfl 2 (by decide) (htT _ q_5_3) (fun _ h9 => h9) rfl dX2_measureNeedsFrom_67 ?_
                refine lv_iload_n hx hb dX2_measureNeedsFrom_70 rfl (lv_at hl 4 rfl) ?_
                refine lv_bipush (v := (14 : Int32)) hx hb dX2_measureNeedsFrom_71 rfl ?_
                refine lv_imul hx hb dX2_measureNeedsFrom_73 ?_
                refine lv_iload_n hx hb dX2_measureNeedsFrom_74 rfl (lv_at hl 5 rfl) ?_
                refine lv_iadd hx hb dX2_measureNeedsFrom_75 ?_
                refine lv_iload hx hb dX2_measureNeedsFrom_76 (lv_at hl 0 rfl) ?_
                refine lv_if_eq (tgt := 99) hx hb dX2_measureNeedsFrom_78 (by decide) (fun c15 => absurd c15 (by decide)) (fun _ => ?_)
                refine lv_aload_n hx hb dX2_measureNeedsFrom_81 rfl (lv_at hl 3 rfl) ?_
                refine lv_iload_n hx hb dX2_measureNeedsFrom_82 rfl (lv_at hl 4 rfl) ?_
                refine lv_iload_n hx hb dX2_measureNeedsFrom_83 rfl (lv_at hl 2 rfl) ?_
                refine lv_iload_n hx hb dX2_measureNeedsFrom_84 rfl (lv_at hl 5 rfl) ?_
                obtain ⟨r16, e16, h⟩ := bd h
                refine roV X [.int p1, .int r7, .int y16_2] [.int ((p1 * (14 : Int32)) + y16_2), .ref a_needs] (c_Lines_offset l D cC cI cZ a_this a_stretch a_needs a_log a_log_times a_log_values v_stretches A_stretch A_needs_16 v_log_size v_log_promise v_log_delay A_log_times A_log_values p1 r7 y16_2 r16 e16) gg_X2_49 hd_Lines_offset ⟨rfl, rfl, Nat.le_of_ble_eq_true rfl, Nat.le_of_ble_eq_true rfl⟩ ⟨Nat.zero_le _, Nat.zero_le _⟩ hP [0, 1, 2, 3, 4, 5] rfl rfl rfl rfl hl.1 rfl (Nat.le_of_ble_eq_true rfl) dX2_measureNeedsFrom_85 (fun n16 => ?_)
                refine lv_iload hx hb dX2_measureNeedsFrom_88 (lv_at hl 1 rfl) ?_
                refine lv_iadd hx hb dX2_measureNeedsFrom_90 ?_
                refine lv_iconst (v := (1 : Int32)) hx hb dX2_measureNeedsFrom_91 rfl ?_
                refine lv_isub hx hb dX2_measureNeedsFrom_92 ?_
                refine lv_iload hx hb dX2_measureNeedsFrom_93 (lv_at hl 1 rfl) ?_
                obtain ⟨g17, h⟩ := gd h
                refine lv_idiv hx hb dX2_measureNeedsFrom_95 (nz_ne g17) ?_
                refine lv_goto (tgt := 100) hx hb dX2_measureNeedsFrom_96 (by decide) ?_
                obtain ⟨g18, h⟩ := gd h
                refine va_iast hx hb hK hP hD hS 2 1 rfl rfl (inB_in g18) dX2_measureNeedsFrom_100 (fun H locs hP hD hS => ?_)
                have hP : va_P D vwCl (k_Lines cC cI cZ a_this a_stretch a_needs a_log a_log_times a_log_values v_stretches A_stretch (upd A_needs_16 (((p1 * (14 : Int32)) + y16_2)).toNatClampNeg (((r16 + r8) - (1 : Int32)) / r8)) v_log_size v_log_promise v_log_delay A_log_times A_log_values) H := hP
                have hD : va_D A (k_Lines cC cI cZ a_this a_stretch a_needs a_log a_log_times a_log_values v_stretches A_stretch (upd A_needs_16 (((p1 * (14 : Int32)) + y16_2)).toNatClampNeg (((r16 + r8) - (1 : Int32)) / r8)) v_log_size v_log_promise v_log_delay A_log_times A_log_values) := hD
                refine lv_iinc (v := (y16_2 + (1 : Int32))) (lv' := [(2, .int (y16_2 + (1 : Int32))), (5, .int (1 : Int32)), (4, .int r8), (3, .int r7), (0, .ref a_this), (1, .int p1)]) hx hb dX2_measureNeedsFrom_101 hl (k := 5) rfl rfl (by decide) rfl (fun ls hl => ?_)
                refine lv_goto (tgt := 16) hx hb dX2_measureNeedsFrom_104 (by decide) ?_
                exact ih16 (y16_2 + (1 : Int32)) (upd A_needs_16 (((p1 * (14 : Int32)) + y16_2)).toNatClampNeg (((r16 + r8) - (1 : Int32)) / r8)) _ h _ _ _ hP hD hS (lv_sub hl [4, 5, 0] rfl) k16_0
    obtain ⟨z3, e3, h⟩ := bd h
    refine LP16 fu (p1 + (1 : Int32)) A_needs z3 e3 _ _ _ hP hD hS (lv_sub hl [1, 2, 0] rfl) ?_
    intro H locs ls hP hD hS hl
    obtain rfl := Option.some.inj h
    exact hret _ _ _ _ hP hS dX2_measureNeedsFrom_107
  · have h := ip c2 h
    obtain rfl := Option.some.inj h
    exact hret _ _ _ _ hP hS dX2_measureNeedsFrom_11
set_option maxHeartbeats 4000000 in
set_option maxRecDepth 100000 in
theorem c_Lines_measureAll (l : Launch) (D : va_G) (cC cI cZ : ClassId) (a_this : Nat) (a_stretch : Nat) (a_needs : Nat) (a_log : Nat) (a_log_times : Nat) (a_log_values : Nat) (v_stretches : Int32) (A_stretch : Nat → Int32) (A_needs : Nat → Int32) (v_log_size : Int32) (v_log_promise : Int32) (v_log_delay : Int32) (A_log_times : Nat → Int32) (A_log_values : Nat → Int32)  (sz : Nat) (z : Int32 × (Nat → Int32) × (Nat → Int32)) (h : f_Lines_measureAll v_stretches A_stretch A_needs v_log_size A_log_times A_log_values = some z) : Met l yX2_measureAll (.code yX2_measureAll cX2_measureAll 2 none :: TBL) (RM 4 97) (PcM [.ref a_this] sz D (TY cC cI cZ) (k_Lines cC cI cZ a_this a_stretch a_needs a_log a_log_times a_log_values v_stretches A_stretch A_needs v_log_size v_log_promise v_log_delay A_log_times A_log_values)) (QM none D (k_Lines cC cI cZ a_this a_stretch a_needs a_log a_log_times a_log_values z.1 z.2.1 z.2.2 v_log_size v_log_promise v_log_delay A_log_times A_log_values) (va_A (k_Lines cC cI cZ a_this a_stretch a_needs a_log a_log_times a_log_values v_stretches A_stretch A_needs v_log_size v_log_promise v_log_delay A_log_times A_log_values) sz)) 0 0 (va_A (k_Lines cC cI cZ a_this a_stretch a_needs a_log a_log_times a_log_values v_stretches A_stretch A_needs v_log_size v_log_promise v_log_delay A_log_times A_log_values) sz) := by
  refine muOfV (by decide) (Nat.le_of_ble_eq_true rfl) rfl ?_
  intro p e s m args below meth c Q ls A X hP hD hS hA hl hret
  have X : Ctx p s m args c cX2_measureAll 2 RX2 D (TY cC cI cZ) := X
  obtain ⟨hx, hb, hml, hown, htT, hK, hN⟩ := id X
  unfold f_Lines_measureAll at h
  refine lv_aload_n hx hb dX2_measureAll_0 rfl (lv_at hl 0 rfl) ?_
  refine lv_iconst (v := (0 : Int32)) hx hb dX2_measureAll_1 rfl ?_
  refine va_put (ci := 2) (v := .int (0 : Int32)) (ty := .int) (C := RX2) (T := TX2) (N := 4) hx hb htT inlX2 tyX2 tyX2_ok nmX2 hown hK hP hD hS 0 rfl rfl 3 (by decide) (htT _ q_5_4) (fun _ h9 => h9) rfl (tyX2_ok 3 (by decide)) rfl rfl (Nat.le_of_ble_eq_true rfl) dX2_measureAll_2 (fun H locs hP hD hS => ?_)
  have hP : va_P D vwCl (k_Lines cC cI cZ a_this a_stretch a_needs a_log a_log_times a_log_values (0 : Int32) A_stretch A_needs v_log_size v_log_promise v_log_delay A_log_times A_log_values) H := hP
  have hD : va_D A (k_Lines cC cI cZ a_this a_stretch a_needs a_log a_log_times a_log_values (0 : Int32) A_stretch A_needs v_log_size v_log_promise v_log_delay A_log_times A_log_values) := hD
  refine lv_iconst (v := (0 : Int32)) hx hb dX2_measureAll_5 rfl ?_
  refine lv_istore_n (lv' := [(1, .int (0 : Int32)), (0, .ref a_this)]) hx hb dX2_measureAll_6 rfl hl (by decide) rfl (fun ls hl => ?_)
  have LP7 : ∀ (n : Nat) (y7_1 : Int32) (v_stretches_7 : Int32) (A_stretch_7 : Nat → Int32) (A_needs_7 : Nat → Int32) (zq7 : Int32 × (Nat → Int32) × (Nat → Int32)), f_Lines_measureAll_L7 v_log_size A_log_times A_log_values n y7_1 v_stretches_7 A_stretch_7 A_needs_7 = some zq7 → ∀ (H : Heap) (locs : List Loc) (ls : Array Slot), va_P D vwCl (k_Lines cC cI cZ a_this a_stretch a_needs a_log a_log_times a_log_values v_stretches_7 A_stretch_7 A_needs_7 v_log_size v_log_promise v_log_delay A_log_times A_log_values) H → va_D A (k_Lines cC cI cZ a_this a_stretch a_needs a_log a_log_times a_log_values v_stretches_7 A_stretch_7 A_needs_7 v_log_size v_log_promise v_log_delay A_log_times A_log_values) → va_S A s.heap H locs → lv_has ls 2 [(0, .ref a_this), (1, .int y7_1)] → (∀ (H : Heap) (locs : List Loc) (ls : Array Slot), va_P D vwCl (k_Lines cC cI cZ a_this a_stretch a_needs a_log a_log_times a_log_values zq7.1 zq7.2.1 zq7.2.2 v_log_size v_log_promise v_log_delay A_log_times A_log_values) H → va_D A (k_Lines cC cI cZ a_this a_stretch a_needs a_log a_log_times a_log_values zq7.1 zq7.2.1 zq7.2.2 v_log_size v_log_promise v_log_delay A_log_times A_log_values) → va_S A s.heap H locs → lv_has ls 2 [] → W p l e (RM 4 97) s m args below meth c H locs 0 0 Q (F0 m 84 ls [])) → W p l e (RM 4 97) s m args below meth c H locs 0 0 Q (F0 m 7 ls []) := by
    clear h
    intro n
    induction n with
    | zero =>
      intro y7_1 v_stretches_7 A_stretch_7 A_needs_7 zq7 h
      rw [f_Lines_measureAll_L7_0] at h
      cases h
    | succ n ih7 =>
      intro y7_1 v_stretches_7 A_stretch_7 A_needs_7 zq7 h H locs ls hP hD hS hl k7_0
      rw [f_Lines_measureAll_L7_s] at h
      refine lv_iload_n hx hb dX2_measureAll_7 rfl (lv_at hl 1 rfl) ?_
      refine lv_aload_n hx hb dX2_measureAll_8 rfl (lv_at hl 0 rfl) ?_
      refine va_get (ci := 2) (v := .ref a_log) (C := RX2) (T := TX2) (N := 4) hx hb htT inlX2 hown hK hP 0 rfl rfl 0 (by decide) (htT _ q_5_1) (fun _ h9 => h9) rfl dX2_measureAll_9 ?_
      refine va_getN (ci := 3) (v := .int v_log_size) (C := RX3) (T := TX3) (N := 5) hx hb htT inlX3 hown hK hP 3 rfl rfl 2 (by decide) (va_Nw.use rfl (hN _ qn_6)) (fun _ h9 => h9) rfl dX2_measureAll_12 ?_
      refine lv_icmp_ge (tgt := 84) hx hb dX2_measureAll_15 (by decide) (fun c2 => ?_) (fun c2 => ?_)
      · have h := ip c2 h
        obtain rfl := Option.some.inj h
        exact k7_0 _ _ _ hP hD hS (lv_sub hl [] rfl)
      · have h := im c2 h
        refine lv_iload_n hx hb dX2_measureAll_18 rfl (lv_at hl 1 rfl) ?_
        refine lv_bipush (v := (14 : Int32)) hx hb dX2_measureAll_19 rfl ?_
        refine lv_icmp_ge (tgt := 84) hx hb dX2_measureAll_21 (by decide) (fun c3 => ?_) (fun c3 => ?_)
        · have h := ip c3 h
          obtain rfl := Option.some.inj h
          exact k7_0 _ _ _ hP hD hS (lv_sub hl [] rfl)
        · have h := im c3 h
          refine lv_aload_n hx hb dX2_measureAll_24 rfl (lv_at hl 0 rfl) ?_
          refine va_get (ci := 2) (v := .ref a_log) (C := RX2) (T := TX2) (N := 4) hx hb htT inlX2 hown hK hP 0 rfl rfl 0 (by decide) (htT _ q_5_1) (fun _ h9 => h9) rfl dX2_measureAll_25 ?_
          refine lv_iload_n hx hb dX2_measureAll_28 rfl (lv_at hl 1 rfl) ?_
          obtain ⟨r4, e4, h⟩ := bd h
          refine roV X [.int y7_1] [] (c_Log_isFirst l D cC cI cZ a_log a_log_times a_log_values v_log_size v_log_promise v_log_delay A_log_times A_log_values y7_1 r4 e4) gg_X2_31 hd_Log_isFirst ⟨rfl, rfl, Nat.le_of_ble_eq_true rfl, Nat.le_of_ble_eq_true rfl⟩ ⟨Nat.zero_le _, Nat.zero_le _⟩ hP [3, 4, 5] rfl rfl rfl rfl hl.1 rfl (Nat.le_of_ble_eq_true rfl) dX2_measureAll_29 (fun n4 => ?_)
          refine lv_if_eq (tgt := 45) hx hb dX2_measureAll_32 (by decide) (fun c5 => ?_) (fun c5 => ?_)
          · have h := ip c5 h
            refine lv_aload_n hx hb dX2_measureAll_45 rfl (lv_at hl 0 rfl) ?_
            refine va_get (ci := 2) (v := .ref a_stretch) (C := RX2) (T := TX2) (N := 4) hx hb htT inlX2 hown hK hP 0 rfl rfl 1 (by decide) (htT _ q_5_2) (fun _ h9 => h9) rfl dX2_measureAll_46 ?_
            refine lv_iload_n hx hb dX2_measureAll_49 rfl (lv_at hl 1 rfl) ?_
            refine lv_aload_n hx hb dX2_measureAll_50 rfl (lv_at hl 0 rfl) ?_
            refine va_get (ci := 2) (v := .ref a_log) (C := RX2) (T := TX2) (N := 4) hx hb htT inlX2 hown hK hP 0 rfl rfl 0 (by decide) (htT _ q_5_1) (fun _ h9 => h9) rfl dX2_measureAll_51 ?_
            refine lv_iload_n hx hb dX2_measureAll_54 rfl (lv_at hl 1 rfl) ?_
            obtain ⟨r6, e6, h⟩ := bd h
            refine roV X [.int y7_1] [.int y7_1, .ref a_stretch] (c_Log_isKnown l D cC cI cZ a_log a_log_times a_log_values v_log_size v_log_promise v_log_delay A_log_times A_log_values y7_1 r6 e6) gg_X2_35 hd_Log_isKnown ⟨rfl, rfl, Nat.le_of_ble_eq_true rfl, Nat.le_of_ble_eq_true rfl⟩ ⟨Nat.zero_le _, Nat.zero_le _⟩ hP [3, 4, 5] rfl rfl rfl rfl hl.1 rfl (Nat.le_of_ble_eq_true rfl) dX2_measureAll_55 (fun n6 => ?_)
            refine lv_if_eq (tgt := 70) hx hb dX2_measureAll_58 (by decide) (fun c7 => ?_) (fun c7 => ?_)
            · have h := ip c7 h
              refine lv_bipush (v := (-9 : Int32)) hx hb dX2_measureAll_70 rfl ?_
              obtain ⟨g8, h⟩ := gd h
              refine va_iast hx hb hK hP hD hS 1 1 rfl rfl (inB_in g8) dX2_measureAll_72 (fun H locs hP hD hS => ?_)
              have hP : va_P D vwCl (k_Lines cC cI cZ a_this a_stretch a_needs a_log a_log_times a_log_values v_stretches_7 (upd A_stretch_7 (y7_1).toNatClampNeg (-9 : Int32)) A_needs_7 v_log_size v_log_promise v_log_delay A_log_times A_log_values) H := hP
              have hD : va_D A (k_Lines cC cI cZ a_this a_stretch a_needs a_log a_log_times a_log_values v_stretches_7 (upd A_stretch_7 (y7_1).toNatClampNeg (-9 : Int32)) A_needs_7 v_log_size v_log_promise v_log_delay A_log_times A_log_values) := hD
              refine lv_aload_n hx hb dX2_measureAll_73 rfl (lv_at hl 0 rfl) ?_
              refine lv_iload_n hx hb dX2_measureAll_74 rfl (lv_at hl 1 rfl) ?_
              obtain ⟨z9, e9, h⟩ := bd h
              refine muVV (ws' := (k_Lines cC cI cZ a_this a_stretch a_needs a_log a_log_times a_log_values v_stretches_7 (upd A_stretch_7 (y7_1).toNatClampNeg (-9 : Int32)) z9 v_log_size v_log_promise v_log_delay A_log_times A_log_values)) X [.int y7_1] [] (c_Lines_measureNeedsFrom l D cC cI cZ a_this a_stretch a_needs a_log a_log_times a_log_values v_stretches_7 (upd A_stretch_7 (y7_1).toNatClampNeg (-9 : Int32)) A_needs_7 v_log_size v_log_promise v_log_delay A_log_times A_log_values y7_1 _ z9 e9) gg_X2_38 hd_Lines_measureNeedsFrom ⟨rfl, rfl, Nat.le_of_ble_eq_true rfl, Nat.le_of_ble_eq_true rfl⟩ ⟨Nat.zero_le _, Nat.zero_le _⟩ hP hD hS hA [0, 1, 2, 3, 4, 5] [] [0, 1, 2, 3, 4, 5] rfl rfl (by decide) (by decide) rfl rfl rfl rfl rfl hl.1 rfl (Nat.le_of_ble_eq_true rfl) dX2_measureAll_75 (fun H locs hP hD hS => ?_)
              refine lv_iinc (v := (y7_1 + (1 : Int32))) (lv' := [(1, .int (y7_1 + (1 : Int32))), (0, .ref a_this)]) hx hb dX2_measureAll_78 hl (k := 1) rfl rfl (by decide) rfl (fun ls hl => ?_)
              refine lv_goto (tgt := 7) hx hb dX2_measureAll_81 (by decide) ?_
              exact ih7 (y7_1 + (1 : Int32)) v_stretches_7 (upd A_stretch_7 (y7_1).toNatClampNeg (-9 : Int32)) z9 _ h _ _ _ hP hD hS (lv_sub hl [1, 0] rfl) k7_0
            · have h := im c7 h
              refine lv_aload_n hx hb dX2_measureAll_61 rfl (lv_at hl 0 rfl) ?_
              refine va_get (ci := 2) (v := .int v_stretches_7) (C := RX2) (T := TX2) (N := 4) hx hb htT inlX2 hown hK hP 0 rfl rfl 3 (by decide) (htT _ q_5_4) (fun _ h9 => h9) rfl dX2_measureAll_62 ?_
              refine lv_iconst (v := (1 : Int32)) hx hb dX2_measureAll_65 rfl ?_
              refine lv_isub hx hb dX2_measureAll_66 ?_
              refine lv_goto (tgt := 72) hx hb dX2_measureAll_67 (by decide) ?_
              obtain ⟨g10, h⟩ := gd h
              refine va_iast hx hb hK hP hD hS 1 1 rfl rfl (inB_in g10) dX2_measureAll_72 (fun H locs hP hD hS => ?_)
              have hP : va_P D vwCl (k_Lines cC cI cZ a_this a_stretch a_needs a_log a_log_times a_log_values v_stretches_7 (upd A_stretch_7 (y7_1).toNatClampNeg (v_stretches_7 - (1 : Int32))) A_needs_7 v_log_size v_log_promise v_log_delay A_log_times A_log_values) H := hP
              have hD : va_D A (k_Lines cC cI cZ a_this a_stretch a_needs a_log a_log_times a_log_values v_stretches_7 (upd A_stretch_7 (y7_1).toNatClampNeg (v_stretches_7 - (1 : Int32))) A_needs_7 v_log_size v_log_promise v_log_delay A_log_times A_log_values) := hD
              refine lv_aload_n hx hb dX2_measureAll_73 rfl (lv_at hl 0 rfl) ?_
              refine lv_iload_n hx hb dX2_measureAll_74 rfl (lv_at hl 1 rfl) ?_
              obtain ⟨z11, e11, h⟩ := bd h
              refine muVV (ws' := (k_Lines cC cI cZ a_this a_stretch a_needs a_log a_log_times a_log_values v_stretches_7 (upd A_stretch_7 (y7_1).toNatClampNeg (v_stretches_7 - (1 : Int32))) z11 v_log_size v_log_promise v_log_delay A_log_times A_log_values)) X [.int y7_1] [] (c_Lines_measureNeedsFrom l D cC cI cZ a_this a_stretch a_needs a_log a_log_times a_log_values v_stretches_7 (upd A_stretch_7 (y7_1).toNatClampNeg (v_stretches_7 - (1 : Int32))) A_needs_7 v_log_size v_log_promise v_log_delay A_log_times A_log_values y7_1 _ z11 e11) gg_X2_38 hd_Lines_measureNeedsFrom ⟨rfl, rfl, Nat.le_of_ble_eq_true rfl, Nat.le_of_ble_eq_true rfl⟩ ⟨Nat.zero_le _, Nat.zero_le _⟩ hP hD hS hA [0, 1, 2, 3, 4, 5] [] [0, 1, 2, 3, 4, 5] rfl rfl (by decide) (by decide) rfl rfl rfl rfl rfl hl.1 rfl (Nat.le_of_ble_eq_true rfl) dX2_measureAll_75 (fun H locs hP hD hS => ?_)
              refine lv_iinc (v := (y7_1 + (1 : Int32))) (lv' := [(1, .int (y7_1 + (1 : Int32))), (0, .ref a_this)]) hx hb dX2_measureAll_78 hl (k := 1) rfl rfl (by decide) rfl (fun ls hl => ?_)
              refine lv_goto (tgt := 7) hx hb dX2_measureAll_81 (by decide) ?_
              exact ih7 (y7_1 + (1 : Int32)) v_stretches_7 (upd A_stretch_7 (y7_1).toNatClampNeg (v_stretches_7 - (1 : Int32))) z11 _ h _ _ _ hP hD hS (lv_sub hl [1, 0] rfl) k7_0
          · have h := im c5 h
            refine lv_aload_n hx hb dX2_measureAll_35 rfl (lv_at hl 0 rfl) ?_
            refine lv_dup hx hb dX2_measureAll_36 rfl ?_
            refine va_get (ci := 2) (v := .int v_stretches_7) (C := RX2) (T := TX2) (N := 4) hx hb htT inlX2 hown hK hP 0 rfl rfl 3 (by decide) (htT _ q_5_4) (fun _ h9 => h9) rfl dX2_measureAll_37 ?_
            refine lv_iconst (v := (1 : Int32)) hx hb dX2_measureAll_40 rfl ?_
            refine lv_iadd hx hb dX2_measureAll_41 ?_
            refine va_put (ci := 2) (v := .int (v_stretches_7 + (1 : Int32))) (ty := .int) (C := RX2) (T := TX2) (N := 4) hx hb htT inlX2 tyX2 tyX2_ok nmX2 hown hK hP hD hS 0 rfl rfl 3 (by decide) (htT _ q_5_4) (fun _ h9 => h9) rfl (tyX2_ok 3 (by decide)) rfl rfl (Nat.le_of_ble_eq_true rfl) dX2_measureAll_42 (fun H locs hP hD hS => ?_)
            have hP : va_P D vwCl (k_Lines cC cI cZ a_this a_stretch a_needs a_log a_log_times a_log_values (v_stretches_7 + (1 : Int32)) A_stretch_7 A_needs_7 v_log_size v_log_promise v_log_delay A_log_times A_log_values) H := hP
            have hD : va_D A (k_Lines cC cI cZ a_this a_stretch a_needs a_log a_log_times a_log_values (v_stretches_7 + (1 : Int32)) A_stretch_7 A_needs_7 v_log_size v_log_promise v_log_delay A_log_times A_log_values) := hD
            refine lv_aload_n hx hb dX2_measureAll_45 rfl (lv_at hl 0 rfl) ?_
            refine va_get (ci := 2) (v := .ref a_stretch) (C := RX2) (T := TX2) (N := 4) hx hb htT inlX2 hown hK hP 0 rfl rfl 1 (by decide) (htT _ q_5_2) (fun _ h9 => h9) rfl dX2_measureAll_46 ?_
            refine lv_iload_n hx hb dX2_measureAll_49 rfl (lv_at hl 1 rfl) ?_
            refine lv_aload_n hx hb dX2_measureAll_50 rfl (lv_at hl 0 rfl) ?_
            refine va_get (ci := 2) (v := .ref a_log) (C := RX2) (T := TX2) (N := 4) hx hb htT inlX2 hown hK hP 0 rfl rfl 0 (by decide) (htT _ q_5_1) (fun _ h9 => h9) rfl dX2_measureAll_51 ?_
            refine lv_iload_n hx hb dX2_measureAll_54 rfl (lv_at hl 1 rfl) ?_
            obtain ⟨r12, e12, h⟩ := bd h
            refine roV X [.int y7_1] [.int y7_1, .ref a_stretch] (c_Log_isKnown l D cC cI cZ a_log a_log_times a_log_values v_log_size v_log_promise v_log_delay A_log_times A_log_values y7_1 r12 e12) gg_X2_35 hd_Log_isKnown ⟨rfl, rfl, Nat.le_of_ble_eq_true rfl, Nat.le_of_ble_eq_true rfl⟩ ⟨Nat.zero_le _, Nat.zero_le _⟩ hP [3, 4, 5] rfl rfl rfl rfl hl.1 rfl (Nat.le_of_ble_eq_true rfl) dX2_measureAll_55 (fun n12 => ?_)
            refine lv_if_eq (tgt := 70) hx hb dX2_measureAll_58 (by decide) (fun c13 => ?_) (fun c13 => ?_)
            · have h := ip c13 h
              refine lv_bipush (v := (-9 : Int32)) hx hb dX2_measureAll_70 rfl ?_
              obtain ⟨g14, h⟩ := gd h
              refine va_iast hx hb hK hP hD hS 1 1 rfl rfl (inB_in g14) dX2_measureAll_72 (fun H locs hP hD hS => ?_)
              have hP : va_P D vwCl (k_Lines cC cI cZ a_this a_stretch a_needs a_log a_log_times a_log_values (v_stretches_7 + (1 : Int32)) (upd A_stretch_7 (y7_1).toNatClampNeg (-9 : Int32)) A_needs_7 v_log_size v_log_promise v_log_delay A_log_times A_log_values) H := hP
              have hD : va_D A (k_Lines cC cI cZ a_this a_stretch a_needs a_log a_log_times a_log_values (v_stretches_7 + (1 : Int32)) (upd A_stretch_7 (y7_1).toNatClampNeg (-9 : Int32)) A_needs_7 v_log_size v_log_promise v_log_delay A_log_times A_log_values) := hD
              refine lv_aload_n hx hb dX2_measureAll_73 rfl (lv_at hl 0 rfl) ?_
              refine lv_iload_n hx hb dX2_measureAll_74 rfl (lv_at hl 1 rfl) ?_
              obtain ⟨z15, e15, h⟩ := bd h
              refine muVV (ws' := (k_Lines cC cI cZ a_this a_stretch a_needs a_log a_log_times a_log_values (v_stretches_7 + (1 : Int32)) (upd A_stretch_7 (y7_1).toNatClampNeg (-9 : Int32)) z15 v_log_size v_log_promise v_log_delay A_log_times A_log_values)) X [.int y7_1] [] (c_Lines_measureNeedsFrom l D cC cI cZ a_this a_stretch a_needs a_log a_log_times a_log_values (v_stretches_7 + (1 : Int32)) (upd A_stretch_7 (y7_1).toNatClampNeg (-9 : Int32)) A_needs_7 v_log_size v_log_promise v_log_delay A_log_times A_log_values y7_1 _ z15 e15) gg_X2_38 hd_Lines_measureNeedsFrom ⟨rfl, rfl, Nat.le_of_ble_eq_true rfl, Nat.le_of_ble_eq_true rfl⟩ ⟨Nat.zero_le _, Nat.zero_le _⟩ hP hD hS hA [0, 1, 2, 3, 4, 5] [] [0, 1, 2, 3, 4, 5] rfl rfl (by decide) (by decide) rfl rfl rfl rfl rfl hl.1 rfl (Nat.le_of_ble_eq_true rfl) dX2_measureAll_75 (fun H locs hP hD hS => ?_)
              refine lv_iinc (v := (y7_1 + (1 : Int32))) (lv' := [(1, .int (y7_1 + (1 : Int32))), (0, .ref a_this)]) hx hb dX2_measureAll_78 hl (k := 1) rfl rfl (by decide) rfl (fun ls hl => ?_)
              refine lv_goto (tgt := 7) hx hb dX2_measureAll_81 (by decide) ?_
              exact ih7 (y7_1 + (1 : Int32)) (v_stretches_7 + (1 : Int32)) (upd A_stretch_7 (y7_1).toNatClampNeg (-9 : Int32)) z15 _ h _ _ _ hP hD hS (lv_sub hl [1, 0] rfl) k7_0
            · have h := im c13 h
              refine lv_aload_n hx hb dX2_measureAll_61 rfl (lv_at hl 0 rfl) ?_
              refine va_get (ci := 2) (v := .int (v_stretches_7 + (1 : Int32))) (C := RX2) (T := TX2) (N := 4) hx hb htT inlX2 hown hK hP 0 rfl rfl 3 (by decide) (htT _ q_5_4) (fun _ h9 => h9) rfl dX2_measureAll_62 ?_
              refine lv_iconst (v := (1 : Int32)) hx hb dX2_measureAll_65 rfl ?_
              refine lv_isub hx hb dX2_measureAll_66 ?_
              refine lv_goto (tgt := 72) hx hb dX2_measureAll_67 (by decide) ?_
              obtain ⟨g16, h⟩ := gd h
              refine va_iast hx hb hK hP hD hS 1 1 rfl rfl (inB_in g16) dX2_measureAll_72 (fun H locs hP hD hS => ?_)
              have hP : va_P D vwCl (k_Lines cC cI cZ a_this a_stretch a_needs a_log a_log_times a_log_values (v_stretches_7 + (1 : Int32)) (upd A_stretch_7 (y7_1).toNatClampNeg ((v_stretches_7 + (1 : Int32)) - (1 : Int32))) A_needs_7 v_log_size v_log_promise v_log_delay A_log_times A_log_values) H := hP
              have hD : va_D A (k_Lines cC cI cZ a_this a_stretch a_needs a_log a_log_times a_log_values (v_stretches_7 + (1 : Int32)) (upd A_stretch_7 (y7_1).toNatClampNeg ((v_stretches_7 + (1 : Int32)) - (1 : Int32))) A_needs_7 v_log_size v_log_promise v_log_delay A_log_times A_log_values) := hD
              refine lv_aload_n hx hb dX2_measureAll_73 rfl (lv_at hl 0 rfl) ?_
              refine lv_iload_n hx hb dX2_measureAll_74 rfl (lv_at hl 1 rfl) ?_
              obtain ⟨z17, e17, h⟩ := bd h
              refine muVV (ws' := (k_Lines cC cI cZ a_this a_stretch a_needs a_log a_log_times a_log_values (v_stretches_7 + (1 : Int32)) (upd A_stretch_7 (y7_1).toNatClampNeg ((v_stretches_7 + (1 : Int32)) - (1 : Int32))) z17 v_log_size v_log_promise v_log_delay A_log_times A_log_values)) X [.int y7_1] [] (c_Lines_measureNeedsFrom l D cC cI cZ a_this a_stretch a_needs a_log a_log_times a_log_values (v_stretches_7 + (1 : Int32)) (upd A_stretch_7 (y7_1).toNatClampNeg ((v_stretches_7 + (1 : Int32)) - (1 : Int32))) A_needs_7 v_log_size v_log_promise v_log_delay A_log_times A_log_values y7_1 _ z17 e17) gg_X2_38 hd_Lines_measureNeedsFrom ⟨rfl, rfl, Nat.le_of_ble_eq_true rfl, Nat.le_of_ble_eq_true rfl⟩ ⟨Nat.zero_le _, Nat.zero_le _⟩ hP hD hS hA [0, 1, 2, 3, 4, 5] [] [0, 1, 2, 3, 4, 5] rfl rfl (by decide) (by decide) rfl rfl rfl rfl rfl hl.1 rfl (Nat.le_of_ble_eq_true rfl) dX2_measureAll_75 (fun H locs hP hD hS => ?_)
              refine lv_iinc (v := (y7_1 + (1 : Int32))) (lv' := [(1, .int (y7_1 + (1 : Int32))), (0, .ref a_this)]) hx hb dX2_measureAll_78 hl (k := 1) rfl rfl (by decide) rfl (fun ls hl => ?_)
              refine lv_goto (tgt := 7) hx hb dX2_measureAll_81 (by decide) ?_
              exact ih7 (y7_1 + (1 : Int32)) (v_stretches_7 + (1 : Int32)) (upd A_stretch_7 (y7_1).toNatClampNeg ((v_stretches_7 + (1 : Int32)) - (1 : Int32))) z17 _ h _ _ _ hP hD hS (lv_sub hl [1, 0] rfl) k7_0
  obtain ⟨z1, e1, h⟩ := bd h
  refine LP7 fu (0 : Int32) (0 : Int32) A_stretch A_needs z1 e1 _ _ _ hP hD hS (lv_sub hl [1, 0] rfl) ?_
  intro H locs ls hP hD hS hl
  obtain rfl := Option.some.inj h
  exact hret _ _ _ _ hP hS dX2_measureAll_84
set_option maxHeartbeats 4000000 in
set_option maxRecDepth 100000 in
theorem c_Lines_measureStrip (l : Launch) (D : va_G) (cC cI cZ : ClassId) (a_this : Nat) (a_stretch : Nat) (a_needs : Nat) (a_log : Nat) (a_log_times : Nat) (a_log_values : Nat) (a_o3 : Nat) (v_stretches : Int32) (A_stretch : Nat → Int32) (A_needs : Nat → Int32) (v_log_size : Int32) (v_log_promise : Int32) (v_log_delay : Int32) (A_log_times : Nat → Int32) (A_log_values : Nat → Int32) (v_o3_upper : Int32) (v_o3_lower : Int32) (p1 : Int32) (p2 : Int32) (sz : Nat) (z : Int32 × Int32) (h : f_Lines_measureStrip v_log_size A_log_times A_log_values v_o3_upper v_o3_lower p1 p2 = some z) : Met l yX2_measureStrip (.code yX2_measureStrip cX2_measureStrip 8 none :: TBL) (RM 3 72) (PcM [.ref a_this, .int p1, .int p2, .ref a_o3] sz D (TY cC cI cZ) (k_Lines cC cI cZ a_this a_stretch a_needs a_log a_log_times a_log_values v_stretches A_stretch A_needs v_log_size v_log_promise v_log_delay A_log_times A_log_values ++ k_Fraction cC cI cZ a_o3 v_o3_upper v_o3_lower)) (QM none D (k_Lines cC cI cZ a_this a_stretch a_needs a_log a_log_times a_log_values v_stretches A_stretch A_needs v_log_size v_log_promise v_log_delay A_log_times A_log_values ++ k_Fraction cC cI cZ a_o3 z.1 z.2) (va_A (k_Lines cC cI cZ a_this a_stretch a_needs a_log a_log_times a_log_values v_stretches A_stretch A_needs v_log_size v_log_promise v_log_delay A_log_times A_log_values ++ k_Fraction cC cI cZ a_o3 v_o3_upper v_o3_lower) sz)) 0 0 (va_A (k_Lines cC cI cZ a_this a_stretch a_needs a_log a_log_times a_log_values v_stretches A_stretch A_needs v_log_size v_log_promise v_log_delay A_log_times A_log_values ++ k_Fraction cC cI cZ a_o3 v_o3_upper v_o3_lower) sz) := by
  refine muOfV (by decide) (Nat.le_of_ble_eq_true rfl) rfl ?_
  intro p e s m args below meth c Q ls A X hP hD hS hA hl hret
  have X : Ctx p s m args c cX2_measureStrip 8 RX2 D (TY cC cI cZ) := X
  obtain ⟨hx, hb, hml, hown, htT, hK, hN⟩ := id X
  unfold f_Lines_measureStrip at h
  refine lv_aload_n hx hb dX2_measureStrip_0 rfl (lv_at hl 3 rfl) ?_
  refine lv_iconst (v := (0 : Int32)) hx hb dX2_measureStrip_1 rfl ?_
  refine lv_iconst (v := (1 : Int32)) hx hb dX2_measureStrip_2 rfl ?_
  obtain ⟨z1, e1, h⟩ := bd h
  refine muVV (ws' := (k_Lines cC cI cZ a_this a_stretch a_needs a_log a_log_times a_log_values v_stretches A_stretch A_needs v_log_size v_log_promise v_log_delay A_log_times A_log_values ++ k_Fraction cC cI cZ a_o3 z1.1 z1.2)) X [.int (0 : Int32), .int (1 : Int32)] [] (c_Fraction_assign l D cC cI cZ a_o3 v_o3_upper v_o3_lower (0 : Int32) (1 : Int32) _ z1 e1) gg_X2_71 hd_Fraction_assign ⟨rfl, rfl, Nat.le_of_ble_eq_true rfl, Nat.le_of_ble_eq_true rfl⟩ ⟨Nat.zero_le _, Nat.zero_le _⟩ hP hD hS hA [6] [0, 1, 2, 3, 4, 5] [0, 1, 2, 3, 4, 5, 6] rfl rfl (by decide) (by decide) rfl rfl rfl rfl rfl hl.1 rfl (Nat.le_of_ble_eq_true rfl) dX2_measureStrip_3 (fun H locs hP hD hS => ?_)
  refine lv_iload_n hx hb dX2_measureStrip_6 rfl (lv_at hl 1 rfl) ?_
  refine lv_istore (lv' := [(4, .int p1), (0, .ref a_this), (1, .int p1), (2, .int p2), (3, .ref a_o3)]) hx hb dX2_measureStrip_7 hl (by decide) rfl (fun ls hl => ?_)
  have LP9 : ∀ (n : Nat) (y9_4 : Int32) (v_o3_upper_9 : Int32) (v_o3_lower_9 : Int32) (zq9 : Int32 × Int32), f_Lines_measureStrip_L9 p2 v_log_size A_log_times A_log_values n y9_4 v_o3_upper_9 v_o3_lower_9 = some zq9 → ∀ (H : Heap) (locs : List Loc) (ls : Array Slot), va_P D vwCl (k_Lines cC cI cZ a_this a_stretch a_needs a_log a_log_times a_log_values v_stretches A_stretch A_needs v_log_size v_log_promise v_log_delay A_log_times A_log_values ++ k_Fraction cC cI cZ a_o3 v_o3_upper_9 v_o3_lower_9) H → va_D A (k_Lines cC cI cZ a_this a_stretch a_needs a_log a_log_times a_log_values v_stretches A_stretch A_needs v_log_size v_log_promise v_log_delay A_log_times A_log_values ++ k_Fraction cC cI cZ a_o3 v_o3_upper_9 v_o3_lower_9) → va_S A s.heap H locs → lv_has ls 8 [(0, .ref a_this), (2, .int p2), (3, .ref a_o3), (4, .int y9_4)] → (∀ (H : Heap) (locs : List Loc) (ls : Array Slot), va_P D vwCl (k_Lines cC cI cZ a_this a_stretch a_needs a_log a_log_times a_log_values v_stretches A_stretch A_needs v_log_size v_log_promise v_log_delay A_log_times A_log_values ++ k_Fraction cC cI cZ a_o3 zq9.1 zq9.2) H → va_D A (k_Lines cC cI cZ a_this a_stretch a_needs a_log a_log_times a_log_values v_stretches A_stretch A_needs v_log_size v_log_promise v_log_delay A_log_times A_log_values ++ k_Fraction cC cI cZ a_o3 zq9.1 zq9.2) → va_S A s.heap H locs → lv_has ls 8 [] → W p l e (RM 3 72) s m args below meth c H locs 0 0 Q (F0 m 88 ls [])) → W p l e (RM 3 72) s m args below meth c H locs 0 0 Q (F0 m 9 ls []) := by
    clear h
    intro n
    induction n with
    | zero =>
      intro y9_4 v_o3_upper_9 v_o3_lower_9 zq9 h
      rw [f_Lines_measureStrip_L9_0] at h
      cases h
    | succ n ih9 =>
      intro y9_4 v_o3_upper_9 v_o3_lower_9 zq9 h H locs ls hP hD hS hl k9_0
      rw [f_Lines_measureStrip_L9_s] at h
      refine lv_iload hx hb dX2_measureStrip_9 (lv_at hl 3 rfl) ?_
      refine lv_iload_n hx hb dX2_measureStrip_11 rfl (lv_at hl 1 rfl) ?_
      refine lv_icmp_ge (tgt := 88) hx hb dX2_measureStrip_12 (by decide) (fun c3 => ?_) (fun c3 => ?_)
      · have h := ip c3 h
        obtain rfl := Option.some.inj h
        exact k9_0 _ _ _ hP hD hS (lv_sub hl [] rfl)
      · have h := im c3 h
        refine lv_iload hx hb dX2_measureStrip_15 (lv_at hl 3 rfl) ?_
        refine lv_iconst (v := (2 : Int32)) hx hb dX2_measureStrip_17 rfl ?_
        refine lv_iadd hx hb dX2_measureStrip_18 ?_
        refine lv_istore (lv' := [(5, .int (y9_4 + (2 : Int32))), (0, .ref a_this), (2, .int p2), (3, .ref a_o3), (4, .int y9_4)]) hx hb dX2_measureStrip_19 hl (by decide) rfl (fun ls hl => ?_)
        have LP21 : ∀ (n : Nat) (y21_5 : Int32) (v_o3_upper_21 : Int32) (v_o3_lower_21 : Int32) (zq21 : Int32 × Int32), f_Lines_measureStrip_L21 p2 y9_4 v_log_size A_log_times A_log_values n y21_5 v_o3_upper_21 v_o3_lower_21 = some zq21 → ∀ (H : Heap) (locs : List Loc) (ls : Array Slot), va_P D vwCl (k_Lines cC cI cZ a_this a_stretch a_needs a_log a_log_times a_log_values v_stretches A_stretch A_needs v_log_size v_log_promise v_log_delay A_log_times A_log_values ++ k_Fraction cC cI cZ a_o3 v_o3_upper_21 v_o3_lower_21) H → va_D A (k_Lines cC cI cZ a_this a_stretch a_needs a_log a_log_times a_log_values v_stretches A_stretch A_needs v_log_size v_log_promise v_log_delay A_log_times A_log_values ++ k_Fraction cC cI cZ a_o3 v_o3_upper_21 v_o3_lower_21) → va_S A s.heap H locs → lv_has ls 8 [(0, .ref a_this), (2, .int p2), (3, .ref a_o3), (4, .int y9_4), (5, .int y21_5)] → (∀ (H : Heap) (locs : List Loc) (ls : Array Slot), va_P D vwCl (k_Lines cC cI cZ a_this a_stretch a_needs a_log a_log_times a_log_values v_stretches A_stretch A_needs v_log_size v_log_promise v_log_delay A_log_times A_log_values ++ k_Fraction cC cI cZ a_o3 zq21.1 zq21.2) H → va_D A (k_Lines cC cI cZ a_this a_stretch a_needs a_log a_log_times a_log_values v_stretches A_stretch A_needs v_log_size v_log_promise v_log_delay A_log_times A_log_values ++ k_Fraction cC cI cZ a_o3 zq21.1 zq21.2) → va_S A s.heap H locs → lv_has ls 8 [(0, .ref a_this), (2, .int p2), (3, .ref a_o3), (4, .int y9_4)] → W p l e (RM 3 72) s m args below meth c H locs 0 0 Q (F0 m 82 ls [])) → W p l e (RM 3 72) s m args below meth c H locs 0 0 Q (F0 m 21 ls []) := by
          clear h
          intro n
          induction n with
          | zero =>
            intro y21_5 v_o3_upper_21 v_o3_lower_21 zq21 h
            rw [f_Lines_measureStrip_L21_0] at h
            cases h
          | succ n ih21 =>
            intro y21_5 v_o3_upper_21 v_o3_lower_21 zq21 h H locs ls hP hD hS hl k21_0
            rw [f_Lines_measureStrip_L21_s] at h
            refine lv_iload hx hb dX2_measureStrip_21 (lv_at hl 4 rfl) ?_
            refine lv_iload_n hx hb dX2_measureStrip_23 rfl (lv_at hl 1 rfl) ?_
            refine lv_icmp_gt (tgt := 82) hx hb dX2_measureStrip_24 (by decide) (fun c5 => ?_) (fun c5 => ?_)
            · have h := ip c5 h
              obtain rfl := Option.some.inj h
              exact k21_0 _ _ _ hP hD hS (lv_sub hl [0, 1, 2, 3] rfl)
            · have h := im c5 h
              refine lv_aload_n hx hb dX2_measureStrip_27 rfl (lv_at hl 0 rfl) ?_
              refine lv_iload hx hb dX2_measureStrip_28 (lv_at hl 3 rfl) ?_
              refine lv_aload_n hx hb dX2_measureStrip_30 rfl (lv_at hl 0 rfl) ?_
              refine lv_iload hx hb dX2_measureStrip_31 (lv_at hl 3 rfl) ?_
              refine lv_iload hx hb dX2_measureStrip_33 (lv_at hl 4 rfl) ?_
              obtain ⟨r6, e6, h⟩ := bd h
              refine roV X [.int y9_4, .int y21_5] [.int y9_4, .ref a_this] (c_Lines_farthest l D cC cI cZ a_this a_stretch a_needs a_log a_log_times a_log_values v_stretches A_stretch A_needs v_log_size v_log_promise v_log_delay A_log_times A_log_values y9_4 y21_5 r6 e6) gg_X2_42 hd_Lines_farthest ⟨rfl, rfl, Nat.le_of_ble_eq_true rfl, Nat.le_of_ble_eq_true rfl⟩ ⟨Nat.zero_le _, Nat.zero_le _⟩ hP [0, 1, 2, 3, 4, 5] rfl rfl rfl rfl hl.1 rfl (Nat.le_of_ble_eq_true rfl) dX2_measureStrip_35 (fun n6 => ?_)
              refine lv_iload hx hb dX2_measureStrip_38 (lv_at hl 4 rfl) ?_
              obtain ⟨r7, e7, h⟩ := bd h
              refine roV X [.int y9_4, .int r6, .int y21_5] [] (c_Lines_offset l D cC cI cZ a_this a_stretch a_needs a_log a_log_times a_log_values v_stretches A_stretch A_needs v_log_size v_log_promise v_log_delay A_log_times A_log_values y9_4 r6 y21_5 r7 e7) gg_X2_49 hd_Lines_offset ⟨rfl, rfl, Nat.le_of_ble_eq_true rfl, Nat.le_of_ble_eq_true rfl⟩ ⟨Nat.zero_le _, Nat.zero_le _⟩ hP [0, 1, 2, 3, 4, 5] rfl rfl rfl rfl hl.1 rfl (Nat.le_of_ble_eq_true rfl) dX2_measureStrip_40 (fun n7 => ?_)
              refine lv_istore (lv' := [(6, .int r7), (0, .ref a_this), (2, .int p2), (3, .ref a_o3), (4, .int y9_4), (5, .int y21_5)]) hx hb dX2_measureStrip_43 hl (by decide) rfl (fun ls hl => ?_)
              refine lv_iconst (v := (2 : Int32)) hx hb dX2_measureStrip_45 rfl ?_
              refine lv_aload_n hx hb dX2_measureStrip_46 rfl (lv_at hl 1 rfl) ?_
              refine lv_iload hx hb dX2_measureStrip_47 (lv_at hl 4 rfl) ?_
              refine lv_iload hx hb dX2_measureStrip_49 (lv_at hl 5 rfl) ?_
              obtain ⟨r8, e8, h⟩ := bd h
              refine roV X [.int y9_4, .int y21_5] [.int (2 : Int32)] (c_Lines_span l D cC cI cZ a_this a_stretch a_needs a_log a_log_times a_log_values v_stretches A_stretch A_needs v_log_size v_log_promise v_log_delay A_log_times A_log_values y9_4 y21_5 r8 e8) gg_X2_46 hd_Lines_span ⟨rfl, rfl, Nat.le_of_ble_eq_true rfl, Nat.le_of_ble_eq_true rfl⟩ ⟨Nat.zero_le _, Nat.zero_le _⟩ hP [0, 1, 2, 3, 4, 5] rfl rfl rfl rfl hl.1 rfl (Nat.le_of_ble_eq_true rfl) dX2_measureStrip_51 (fun n8 => ?_)
              refine lv_imul hx hb dX2_measureStrip_54 ?_
              refine lv_istore (lv' := [(7, .int ((2 : Int32) * r8)), (6, .int r7), (0, .ref a_this), (2, .int p2), (3, .ref a_o3), (4, .int y9_4), (5, .int y21_5)]) hx hb dX2_measureStrip_55 hl (by decide) rfl (fun ls hl => ?_)
              refine lv_aload_n hx hb dX2_measureStrip_57 rfl (lv_at hl 4 rfl) ?_
              refine lv_iload hx hb dX2_measureStrip_58 (lv_at hl 1 rfl) ?_
              refine lv_iload hx hb dX2_measureStrip_60 (lv_at hl 0 rfl) ?_
              refine roV X [.int r7, .int ((2 : Int32) * r8)] [] (c_Fraction_isBelow l D cC cI cZ a_o3 v_o3_upper_21 v_o3_lower_21 r7 ((2 : Int32) * r8) _ rfl) gg_X2_77 hd_Fraction_isBelow ⟨rfl, rfl, Nat.le_of_ble_eq_true rfl, Nat.le_of_ble_eq_true rfl⟩ ⟨Nat.zero_le _, Nat.zero_le _⟩ hP [6] rfl rfl rfl rfl hl.1 rfl (Nat.le_of_ble_eq_true rfl) dX2_measureStrip_62 (fun n9 => ?_)
              refine lv_if_eq (tgt := 76) hx hb dX2_measureStrip_65 (by decide) (fun c10 => ?_) (fun c10 => ?_)
              · have h := ip c10 h
                refine lv_iinc (v := (y21_5 + (1 : Int32))) (lv' := [(5, .int (y21_5 + (1 : Int32))), (7, .int ((2 : Int32) * r8)), (6, .int r7), (0, .ref a_this), (2, .int p2), (3, .ref a_o3), (4, .int y9_4)]) hx hb dX2_measureStrip_76 hl (k := 6) rfl rfl (by decide) rfl (fun ls hl => ?_)
                refine lv_goto (tgt := 21) hx hb dX2_measureStrip_79 (by decide) ?_
                exact ih21 (y21_5 + (1 : Int32)) v_o3_upper_21 v_o3_lower_21 _ h _ _ _ hP hD hS (lv_sub hl [3, 4, 5, 6, 0] rfl) k21_0
              · have h := im c10 h
                refine lv_aload_n hx hb dX2_measureStrip_68 rfl (lv_at hl 4 rfl) ?_
                refine lv_iload hx hb dX2_measureStrip_69 (lv_at hl 1 rfl) ?_
                refine lv_iload hx hb dX2_measureStrip_71 (lv_at hl 0 rfl) ?_
                obtain ⟨z11, e11, h⟩ := bd h
                refine muVV (ws' := (k_Lines cC cI cZ a_this a_stretch a_needs a_log a_log_times a_log_values v_stretches A_stretch A_needs v_log_size v_log_promise v_log_delay A_log_times A_log_values ++ k_Fraction cC cI cZ a_o3 z11.1 z11.2)) X [.int r7, .int ((2 : Int32) * r8)] [] (c_Fraction_assign l D cC cI cZ a_o3 v_o3_upper_21 v_o3_lower_21 r7 ((2 : Int32) * r8) _ z11 e11) gg_X2_71 hd_Fraction_assign ⟨rfl, rfl, Nat.le_of_ble_eq_true rfl, Nat.le_of_ble_eq_true rfl⟩ ⟨Nat.zero_le _, Nat.zero_le _⟩ hP hD hS hA [6] [0, 1, 2, 3, 4, 5] [0, 1, 2, 3, 4, 5, 6] rfl rfl (by decide) (by decide) rfl rfl rfl rfl rfl hl.1 rfl (Nat.le_of_ble_eq_true rfl) dX2_measureStrip_73 (fun H locs hP hD hS => ?_)
                refine lv_iinc (v := (y21_5 + (1 : Int32))) (lv' := [(5, .int (y21_5 + (1 : Int32))), (7, .int ((2 : Int32) * r8)), (6, .int r7), (0, .ref a_this), (2, .int p2), (3, .ref a_o3), (4, .int y9_4)]) hx hb dX2_measureStrip_76 hl (k := 6) rfl rfl (by decide) rfl (fun ls hl => ?_)
                refine lv_goto (tgt := 21) hx hb dX2_measureStrip_79 (by decide) ?_
                exact ih21 (y21_5 + (1 : Int32)) z11.1 z11.2 _ h _ _ _ hP hD hS (lv_sub hl [3, 4, 5, 6, 0] rfl) k21_0
        obtain ⟨z4, e4, h⟩ := bd h
        refine LP21 fu (y9_4 + (2 : Int32)) v_o3_upper_9 v_o3_lower_9 z4 e4 _ _ _ hP hD hS (lv_sub hl [1, 2, 3, 4, 0] rfl) ?_
        intro H locs ls hP hD hS hl
        refine lv_iinc (v := (y9_4 + (1 : Int32))) (lv' := [(4, .int (y9_4 + (1 : Int32))), (0, .ref a_this), (2, .int p2), (3, .ref a_o3)]) hx hb dX2_measureStrip_82 hl (k := 3) rfl rfl (by decide) rfl (fun ls hl => ?_)
        refine lv_goto (tgt := 9) hx hb dX2_measureStrip_85 (by decide) ?_
        exact ih9 (y9_4 + (1 : Int32)) z4.1 z4.2 _ h _ _ _ hP hD hS (lv_sub hl [1, 2, 3, 0] rfl) k9_0
  obtain ⟨z2, e2, h⟩ := bd h
  refine LP9 fu p1 z1.1 z1.2 z2 e2 _ _ _ hP hD hS (lv_sub hl [1, 3, 4, 0] rfl) ?_
  intro H locs ls hP hD hS hl
  obtain rfl := Option.some.inj h
  exact hret _ _ _ _ hP hS dX2_measureStrip_88
set_option maxHeartbeats 4000000 in
set_option maxRecDepth 100000 in
theorem c_Lines_measureValue (l : Launch) (D : va_G) (cC cI cZ : ClassId) (a_this : Nat) (a_stretch : Nat) (a_needs : Nat) (a_log : Nat) (a_log_times : Nat) (a_log_values : Nat) (a_o4 : Nat) (v_stretches : Int32) (A_stretch : Nat → Int32) (A_needs : Nat → Int32) (v_log_size : Int32) (v_log_promise : Int32) (v_log_delay : Int32) (A_log_times : Nat → Int32) (A_log_values : Nat → Int32) (v_o4_upper : Int32) (v_o4_lower : Int32) (p1 : Int32) (p2 : Int32) (p3 : Int32) (sz : Nat) (z : Int32 × Int32) (h : f_Lines_measureValue v_log_size A_log_times A_log_values v_o4_upper v_o4_lower p1 p2 p3 = some z) : Met l yX2_measureValue (.code yX2_measureValue cX2_measureValue 8 none :: TBL) (RM 3 64) (PcM [.ref a_this, .int p1, .int p2, .int p3, .ref a_o4] sz D (TY cC cI cZ) (k_Lines cC cI cZ a_this a_stretch a_needs a_log a_log_times a_log_values v_stretches A_stretch A_needs v_log_size v_log_promise v_log_delay A_log_times A_log_values ++ k_Fraction cC cI cZ a_o4 v_o4_upper v_o4_lower)) (QM none D (k_Lines cC cI cZ a_this a_stretch a_needs a_log a_log_times a_log_values v_stretches A_stretch A_needs v_log_size v_log_promise v_log_delay A_log_times A_log_values ++ k_Fraction cC cI cZ a_o4 z.1 z.2) (va_A (k_Lines cC cI cZ a_this a_stretch a_needs a_log a_log_times a_log_values v_stretches A_stretch A_needs v_log_size v_log_promise v_log_delay A_log_times A_log_values ++ k_Fraction cC cI cZ a_o4 v_o4_upper v_o4_lower) sz)) 0 0 (va_A (k_Lines cC cI cZ a_this a_stretch a_needs a_log a_log_times a_log_values v_stretches A_stretch A_needs v_log_size v_log_promise v_log_delay A_log_times A_log_values ++ k_Fraction cC cI cZ a_o4 v_o4_upper v_o4_lower) sz) := by
  refine muOfV (by decide) (Nat.le_of_ble_eq_true rfl) rfl ?_
  intro p e s m args below meth c Q ls A X hP hD hS hA hl hret
  have X : Ctx p s m args c cX2_measureValue 8 RX2 D (TY cC cI cZ) := X
  obtain ⟨hx, hb, hml, hown, htT, hK, hN⟩ := id X
  unfold f_Lines_measureValue at h
  refine lv_iload_n hx hb dX2_measureValue_0 rfl (lv_at hl 1 rfl) ?_
  refine lv_iload_n hx hb dX2_measureValue_1 rfl (lv_at hl 2 rfl) ?_
  refine lv_icmp_ne (tgt := 20) hx hb dX2_measureValue_2 (by decide) (fun c1 => ?_) (fun c1 => ?_)
  · have h := im c1 h
    refine lv_iload_n hx hb dX2_measureValue_20 rfl (lv_at hl 3 rfl) ?_
    refine lv_aload_n hx hb dX2_measureValue_21 rfl (lv_at hl 0 rfl) ?_
    refine va_get (ci := 2) (v := .ref a_log) (C := RX2) (T := TX2) (N := 4) hx hb htT inlX2 hown hK hP 0 rfl rfl 0 (by decide) (htT _ q_5_1) (fun _ h9 => h9) rfl dX2_measureValue_22 ?_
    refine lv_iload_n hx hb dX2_measureValue_25 rfl (lv_at hl 1 rfl) ?_
    obtain ⟨r4, e4, h⟩ := bd h
    refine roV X [.int p1] [.int p3] (c_Log_timeAt l D cC cI cZ a_log a_log_times a_log_values v_log_size v_log_promise v_log_delay A_log_times A_log_values p1 r4 e4) gg_X2_56 hd_Log_timeAt ⟨rfl, rfl, Nat.le_of_ble_eq_true rfl, Nat.le_of_ble_eq_true rfl⟩ ⟨Nat.zero_le _, Nat.zero_le _⟩ hP [3, 4, 5] rfl rfl rfl rfl hl.1 rfl (Nat.le_of_ble_eq_true rfl) dX2_measureValue_26 (fun n4 => ?_)
    refine lv_isub hx hb dX2_measureValue_29 ?_
    refine lv_istore (lv' := [(5, .int (p3 - r4)), (0, .ref a_this), (1, .int p1), (2, .int p2), (3, .int p3), (4, .ref a_o4)]) hx hb dX2_measureValue_30 hl (by decide) rfl (fun ls hl => ?_)
    refine lv_aload_n hx hb dX2_measureValue_32 rfl (lv_at hl 1 rfl) ?_
    refine va_get (ci := 2) (v := .ref a_log) (C := RX2) (T := TX2) (N := 4) hx hb htT inlX2 hown hK hP 0 rfl rfl 0 (by decide) (htT _ q_5_1) (fun _ h9 => h9) rfl dX2_measureValue_33 ?_
    refine lv_iload_n hx hb dX2_measureValue_36 rfl (lv_at hl 3 rfl) ?_
    obtain ⟨r5, e5, h⟩ := bd h
    refine roV X [.int p2] [] (c_Log_timeAt l D cC cI cZ a_log a_log_times a_log_values v_log_size v_log_promise v_log_delay A_log_times A_log_values p2 r5 e5) gg_X2_56 hd_Log_timeAt ⟨rfl, rfl, Nat.le_of_ble_eq_true rfl, Nat.le_of_ble_eq_true rfl⟩ ⟨Nat.zero_le _, Nat.zero_le _⟩ hP [3, 4, 5] rfl rfl rfl rfl hl.1 rfl (Nat.le_of_ble_eq_true rfl) dX2_measureValue_37 (fun n5 => ?_)
    refine lv_iload_n hx hb dX2_measureValue_40 rfl (lv_at hl 4 rfl) ?_
    refine lv_isub hx hb dX2_measureValue_41 ?_
    refine lv_istore (lv' := [(6, .int (r5 - p3)), (5, .int (p3 - r4)), (0, .ref a_this), (1, .int p1), (2, .int p2), (3, .int p3), (4, .ref a_o4)]) hx hb dX2_measureValue_42 hl (by decide) rfl (fun ls hl => ?_)
    refine lv_aload_n hx hb dX2_measureValue_44 rfl (lv_at hl 2 rfl) ?_
    refine va_get (ci := 2) (v := .ref a_log) (C := RX2) (T := TX2) (N := 4) hx hb htT inlX2 hown hK hP 0 rfl rfl 0 (by decide) (htT _ q_5_1) (fun _ h9 => h9) rfl dX2_measureValue_45 ?_
    refine lv_iload_n hx hb dX2_measureValue_48 rfl (lv_at hl 3 rfl) ?_
    obtain ⟨r6, e6, h⟩ := bd h
    refine roV X [.int p1] [] (c_Log_valueAt l D cC cI cZ a_log a_log_times a_log_values v_log_size v_log_promise v_log_delay A_log_times A_log_values p1 r6 e6) gg_X2_81 hd_Log_valueAt ⟨rfl, rfl, Nat.le_of_ble_eq_true rfl, Nat.le_of_ble_eq_true rfl⟩ ⟨Nat.zero_le _, Nat.zero_le _⟩ hP [3, 4, 5] rfl rfl rfl rfl hl.1 rfl (Nat.le_of_ble_eq_true rfl) dX2_measureValue_49 (fun n6 => ?_)
    refine lv_iload hx hb dX2_measureValue_52 (lv_at hl 0 rfl) ?_
    refine lv_imul hx hb dX2_measureValue_54 ?_
    refine lv_aload_n hx hb dX2_measureValue_55 rfl (lv_at hl 2 rfl) ?_
    refine va_get (ci := 2) (v := .ref a_log) (C := RX2) (T := TX2) (N := 4) hx hb htT inlX2 hown hK hP 0 rfl rfl 0 (by decide) (htT _ q_5_1) (fun _ h9 => h9) rfl dX2_measureValue_56 ?_
    refine lv_iload_n hx hb dX2_measureValue_59 rfl (lv_at hl 4 rfl) ?_
    obtain ⟨r7, e7, h⟩ := bd h
    refine roV X [.int p2] [.int (r6 * (r5 - p3))] (c_Log_valueAt l D cC cI cZ a_log a_log_times a_log_values v_log_size v_log_promise v_log_delay A_log_times A_log_values p2 r7 e7) gg_X2_81 hd_Log_valueAt ⟨rfl, rfl, Nat.le_of_ble_eq_true rfl, Nat.le_of_ble_eq_true rfl⟩ ⟨Nat.zero_le _, Nat.zero_le _⟩ hP [3, 4, 5] rfl rfl rfl rfl hl.1 rfl (Nat.le_of_ble_eq_true rfl) dX2_measureValue_60 (fun n7 => ?_)
    refine lv_iload hx hb dX2_measureValue_63 (lv_at hl 1 rfl) ?_
    refine lv_imul hx hb dX2_measureValue_65 ?_
    refine lv_iadd hx hb dX2_measureValue_66 ?_
    refine lv_istore (lv' := [(7, .int ((r6 * (r5 - p3)) + (r7 * (p3 - r4)))), (6, .int (r5 - p3)), (5, .int (p3 - r4)), (0, .ref a_this), (1, .int p1), (2, .int p2), (3, .int p3), (4, .ref a_o4)]) hx hb dX2_measureValue_67 hl (by decide) rfl (fun ls hl => ?_)
    refine lv_aload hx hb dX2_measureValue_69 (lv_at hl 7 rfl) ?_
    refine lv_iload hx hb dX2_measureValue_71 (lv_at hl 0 rfl) ?_
    refine lv_aload_n hx hb dX2_measureValue_73 rfl (lv_at hl 3 rfl) ?_
    refine lv_iload_n hx hb dX2_measureValue_74 rfl (lv_at hl 4 rfl) ?_
    refine lv_iload_n hx hb dX2_measureValue_75 rfl (lv_at hl 5 rfl) ?_
    obtain ⟨r8, e8, h⟩ := bd h
    refine roV X [.int p1, .int p2] [.int ((r6 * (r5 - p3)) + (r7 * (p3 - r4))), .ref a_o4] (c_Lines_span l D cC cI cZ a_this a_stretch a_needs a_log a_log_times a_log_values v_stretches A_stretch A_needs v_log_size v_log_promise v_log_delay A_log_times A_log_values p1 p2 r8 e8) gg_X2_46 hd_Lines_span ⟨rfl, rfl, Nat.le_of_ble_eq_true rfl, Nat.le_of_ble_eq_true rfl⟩ ⟨Nat.zero_le _, Nat.zero_le _⟩ hP [0, 1, 2, 3, 4, 5] rfl rfl rfl rfl hl.1 rfl (Nat.le_of_ble_eq_true rfl) dX2_measureValue_76 (fun n8 => ?_)
    obtain ⟨z9, e9, h⟩ := bd h
    refine muVV (ws' := (k_Lines cC cI cZ a_this a_stretch a_needs a_log a_log_times a_log_values v_stretches A_stretch A_needs v_log_size v_log_promise v_log_delay A_log_times A_log_values ++ k_Fraction cC cI cZ a_o4 z9.1 z9.2)) X [.int ((r6 * (r5 - p3)) + (r7 * (p3 - r4))), .int r8] [] (c_Fraction_assign l D cC cI cZ a_o4 v_o4_upper v_o4_lower ((r6 * (r5 - p3)) + (r7 * (p3 - r4))) r8 _ z9 e9) gg_X2_71 hd_Fraction_assign ⟨rfl, rfl, Nat.le_of_ble_eq_true rfl, Nat.le_of_ble_eq_true rfl⟩ ⟨Nat.zero_le _, Nat.zero_le _⟩ hP hD hS hA [6] [0, 1, 2, 3, 4, 5] [0, 1, 2, 3, 4, 5, 6] rfl rfl (by decide) (by decide) rfl rfl rfl rfl rfl hl.1 rfl (Nat.le_of_ble_eq_true rfl) dX2_measureValue_79 (fun H locs hP hD hS => ?_)
    obtain rfl := Option.some.inj h
    exact hret _ _ _ _ hP hS dX2_measureValue_82
  · have h := ip c1 h
    refine lv_aload hx hb dX2_measureValue_5 (lv_at hl 4 rfl) ?_
    refine lv_aload_n hx hb dX2_measureValue_7 rfl (lv_at hl 0 rfl) ?_
    refine va_get (ci := 2) (v := .ref a_log) (C := RX2) (T := TX2) (N := 4) hx hb htT inlX2 hown hK hP 0 rfl rfl 0 (by decide) (htT _ q_5_1) (fun _ h9 => h9) rfl dX2_measureValue_8 ?_
    refine lv_iload_n hx hb dX2_measureValue_11 rfl (lv_at hl 1 rfl) ?_
    obtain ⟨r2, e2, h⟩ := bd h
    refine roV X [.int p1] [.ref a_o4] (c_Log_valueAt l D cC cI cZ a_log a_log_times a_log_values v_log_size v_log_promise v_log_delay A_log_times A_log_values p1 r2 e2) gg_X2_81 hd_Log_valueAt ⟨rfl, rfl, Nat.le_of_ble_eq_true rfl, Nat.le_of_ble_eq_true rfl⟩ ⟨Nat.zero_le _, Nat.zero_le _⟩ hP [3, 4, 5] rfl rfl rfl rfl hl.1 rfl (Nat.le_of_ble_eq_true rfl) dX2_measureValue_12 (fun n2 => ?_)
    refine lv_iconst (v := (1 : Int32)) hx hb dX2_measureValue_15 rfl ?_
    obtain ⟨z3, e3, h⟩ := bd h
    refine muVV (ws' := (k_Lines cC cI cZ a_this a_stretch a_needs a_log a_log_times a_log_values v_stretches A_stretch A_needs v_log_size v_log_promise v_log_delay A_log_times A_log_values ++ k_Fraction cC cI cZ a_o4 z3.1 z3.2)) X [.int r2, .int (1 : Int32)] [] (c_Fraction_assign l D cC cI cZ a_o4 v_o4_upper v_o4_lower r2 (1 : Int32) _ z3 e3) gg_X2_71 hd_Fraction_assign ⟨rfl, rfl, Nat.le_of_ble_eq_true rfl, Nat.le_of_ble_eq_true rfl⟩ ⟨Nat.zero_le _, Nat.zero_le _⟩ hP hD hS hA [6] [0, 1, 2, 3, 4, 5] [0, 1, 2, 3, 4, 5, 6] rfl rfl (by decide) (by decide) rfl rfl rfl rfl rfl hl.1 rfl (Nat.le_of_ble_eq_true rfl) dX2_measureValue_16 (fun H locs hP hD hS => ?_)
    obtain rfl := Option.some.inj h
    exact hret _ _ _ _ hP hS dX2_measureValue_19
set_option maxHeartbeats 4000000 in
set_option maxRecDepth 100000 in
theorem c_Lines_needOf (l : Launch) (D : va_G) (cC cI cZ : ClassId) (a_this : Nat) (a_stretch : Nat) (a_needs : Nat) (a_log : Nat) (a_log_times : Nat) (a_log_values : Nat) (v_stretches : Int32) (A_stretch : Nat → Int32) (A_needs : Nat → Int32) (v_log_size : Int32) (v_log_promise : Int32) (v_log_delay : Int32) (A_log_times : Nat → Int32) (A_log_values : Nat → Int32) (p1 : Int32) (p2 : Int32) (r : Int32) (h : f_Lines_needOf A_needs p1 p2 = some r) : Met l yX2_needOf (.code yX2_needOf cX2_needOf 4 (some .int) :: TBL) (RM 0 0) (PcR [.ref a_this, .int p1, .int p2] D (TY cC cI cZ) (k_Lines cC cI cZ a_this a_stretch a_needs a_log a_log_times a_log_values v_stretches A_stretch A_needs v_log_size v_log_promise v_log_delay A_log_times A_log_values)) (vp_Si (PO .int r)) 0 0 (fun _ => False) := by
  refine roOf (by decide) (Nat.le_of_ble_eq_true rfl) rfl ?_
  intro p e s m args below meth c Q ls X hP hl hret
  have X : Ctx p s m args c cX2_needOf 4 RX2 D (TY cC cI cZ) := X
  obtain ⟨hx, hb, hml, hown, htT, hK, hN⟩ := id X
  unfold f_Lines_needOf at h
  refine lv_iload_n hx hb dX2_needOf_0 rfl (lv_at hl 1 rfl) ?_
  refine lv_if_lt (tgt := 19) hx hb dX2_needOf_1 (by decide) (fun c1 => ?_) (fun c1 => ?_)
  · have h := ip c1 h
    refine lv_iconst (v := (0 : Int32)) hx hb dX2_needOf_19 rfl ?_
    refine lv_istore_n (lv' := [(3, .int (0 : Int32)), (0, .ref a_this), (1, .int p1), (2, .int p2)]) hx hb dX2_needOf_20 rfl hl (by decide) rfl (fun ls hl => ?_)
    refine lv_iload_n hx hb dX2_needOf_21 rfl (lv_at hl 0 rfl) ?_
    refine lv_if_eq (tgt := 39) hx hb dX2_needOf_22 (by decide) (fun _ => ?_) (fun c2 => absurd (by decide) c2)
    refine lv_iconst (v := (0 : Int32)) hx hb dX2_needOf_39 rfl ?_
    exact hret _ _ _ dX2_needOf_40 (Option.some.inj h) rfl
  · have h := im c1 h
    refine lv_iload_n hx hb dX2_needOf_4 rfl (lv_at hl 1 rfl) ?_
    refine lv_iload_n hx hb dX2_needOf_5 rfl (lv_at hl 2 rfl) ?_
    refine lv_icmp_ge (tgt := 19) hx hb dX2_needOf_6 (by decide) (fun c3 => ?_) (fun c3 => ?_)
    · have h := ip c3 h
      refine lv_iconst (v := (0 : Int32)) hx hb dX2_needOf_19 rfl ?_
      refine lv_istore_n (lv' := [(3, .int (0 : Int32)), (0, .ref a_this), (1, .int p1), (2, .int p2)]) hx hb dX2_needOf_20 rfl hl (by decide) rfl (fun ls hl => ?_)
      refine lv_iload_n hx hb dX2_needOf_21 rfl (lv_at hl 0 rfl) ?_
      refine lv_if_eq (tgt := 39) hx hb dX2_needOf_22 (by decide) (fun _ => ?_) (fun c4 => absurd (by decide) c4)
      refine lv_iconst (v := (0 : Int32)) hx hb dX2_needOf_39 rfl ?_
      exact hret _ _ _ dX2_needOf_40 (Option.some.inj h) rfl
    · have h := im c3 h
      refine lv_iload_n hx hb dX2_needOf_9 rfl (lv_at hl 2 rfl) ?_
      refine lv_bipush (v := (14 : Int32)) hx hb dX2_needOf_10 rfl ?_
      refine lv_icmp_ge (tgt := 19) hx hb dX2_needOf_12 (by decide) (fun c5 => ?_) (fun c5 => ?_)
      · have h := ip c5 h
        refine lv_iconst (v := (0 : Int32)) hx hb dX2_needOf_19 rfl ?_
        refine lv_istore_n (lv' := [(3, .int (0 : Int32)), (0, .ref a_this), (1, .int p1), (2, .int p2)]) hx hb dX2_needOf_20 rfl hl (by decide) rfl (fun ls hl => ?_)
        refine lv_iload_n hx hb dX2_needOf_21 rfl (lv_at hl 0 rfl) ?_
        refine lv_if_eq (tgt := 39) hx hb dX2_needOf_22 (by decide) (fun _ => ?_) (fun c6 => absurd (by decide) c6)
        refine lv_iconst (v := (0 : Int32)) hx hb dX2_needOf_39 rfl ?_
        exact hret _ _ _ dX2_needOf_40 (Option.some.inj h) rfl
      · have h := im c5 h
        refine lv_iconst (v := (1 : Int32)) hx hb dX2_needOf_15 rfl ?_
        refine lv_goto (tgt := 20) hx hb dX2_needOf_16 (by decide) ?_
        refine lv_istore_n (lv' := [(3, .int (1 : Int32)), (0, .ref a_this), (1, .int p1), (2, .int p2)]) hx hb dX2_needOf_20 rfl hl (by decide) rfl (fun ls hl => ?_)
        refine lv_iload_n hx hb dX2_needOf_21 rfl (lv_at hl 0 rfl) ?_
        refine lv_if_eq (tgt := 39) hx hb dX2_needOf_22 (by decide) (fun c7 => absurd c7 (by decide)) (fun _ => ?_)
        refine lv_aload_n hx hb dX2_needOf_25 rfl (lv_at hl 1 rfl) ?_
        refine va_get (ci := 2) (v := .ref a_needs) (C := RX2) (T := TX2) (N := 4) hx hb htT inlX2 hown hK hP 0 rfl rfl 2 (by decide) (htT _ q_5_3) (fun _ h9 => h9) rfl dX2_needOf_26 ?_
        refine lv_iload_n hx hb dX2_needOf_29 rfl (lv_at hl 2 rfl) ?_
        refine lv_bipush (v := (14 : Int32)) hx hb dX2_needOf_30 rfl ?_
        refine lv_imul hx hb dX2_needOf_32 ?_
        refine lv_iload_n hx hb dX2_needOf_33 rfl (lv_at hl 3 rfl) ?_
        refine lv_iadd hx hb dX2_needOf_34 ?_
        obtain ⟨g8, h⟩ := gd h
        refine va_iald hx hb hK hP 2 1 rfl rfl (inB_in g8) dX2_needOf_35 ?_
        refine lv_goto (tgt := 40) hx hb dX2_needOf_36 (by decide) ?_
        exact hret _ _ _ dX2_needOf_40 (Option.some.inj h) rfl
set_option maxHeartbeats 4000000 in
set_option maxRecDepth 100000 in
theorem c_Lines_stretchAt (l : Launch) (D : va_G) (cC cI cZ : ClassId) (a_this : Nat) (a_stretch : Nat) (a_needs : Nat) (a_log : Nat) (a_log_times : Nat) (a_log_values : Nat) (v_stretches : Int32) (A_stretch : Nat → Int32) (A_needs : Nat → Int32) (v_log_size : Int32) (v_log_promise : Int32) (v_log_delay : Int32) (A_log_times : Nat → Int32) (A_log_values : Nat → Int32) (p1 : Int32) (r : Int32) (h : f_Lines_stretchAt A_stretch v_log_size p1 = some r) : Met l yX2_stretchAt (.code yX2_stretchAt cX2_stretchAt 2 (some .int) :: TBL) (RM 1 21) (PcR [.ref a_this, .int p1] D (TY cC cI cZ) (k_Lines cC cI cZ a_this a_stretch a_needs a_log a_log_times a_log_values v_stretches A_stretch A_needs v_log_size v_log_promise v_log_delay A_log_times A_log_values)) (vp_Si (PO .int r)) 0 0 (fun _ => False) := by
  refine roOf (by decide) (Nat.le_of_ble_eq_true rfl) rfl ?_
  intro p e s m args below meth c Q ls X hP hl hret
  have X : Ctx p s m args c cX2_stretchAt 2 RX2 D (TY cC cI cZ) := X
  obtain ⟨hx, hb, hml, hown, htT, hK, hN⟩ := id X
  unfold f_Lines_stretchAt at h
  refine lv_aload_n hx hb dX2_stretchAt_0 rfl (lv_at hl 0 rfl) ?_
  refine va_get (ci := 2) (v := .ref a_log) (C := RX2) (T := TX2) (N := 4) hx hb htT inlX2 hown hK hP 0 rfl rfl 0 (by decide) (htT _ q_5_1) (fun _ h9 => h9) rfl dX2_stretchAt_1 ?_
  refine lv_iload_n hx hb dX2_stretchAt_4 rfl (lv_at hl 1 rfl) ?_
  refine roV X [.int p1] [] (c_Log_has l D cC cI cZ a_log a_log_times a_log_values v_log_size v_log_promise v_log_delay A_log_times A_log_values p1 _ rfl) gg_X2_53 hd_Log_has ⟨rfl, rfl, Nat.le_of_ble_eq_true rfl, Nat.le_of_ble_eq_true rfl⟩ ⟨Nat.zero_le _, Nat.zero_le _⟩ hP [3, 4, 5] rfl rfl rfl rfl hl.1 rfl (Nat.le_of_ble_eq_true rfl) dX2_stretchAt_5 (fun n1 => ?_)
  refine lv_if_eq (tgt := 26) hx hb dX2_stretchAt_8 (by decide) (fun c2 => ?_) (fun c2 => ?_)
  · have h := ip c2 h
    refine lv_bipush (v := (-9 : Int32)) hx hb dX2_stretchAt_26 rfl ?_
    exact hret _ _ _ dX2_stretchAt_28 (Option.some.inj h) rfl
  · have h := im c2 h
    refine lv_iload_n hx hb dX2_stretchAt_11 rfl (lv_at hl 1 rfl) ?_
    refine lv_bipush (v := (14 : Int32)) hx hb dX2_stretchAt_12 rfl ?_
    refine lv_icmp_ge (tgt := 26) hx hb dX2_stretchAt_14 (by decide) (fun c3 => ?_) (fun c3 => ?_)
    · have h := ip c3 h
      refine lv_bipush (v := (-9 : Int32)) hx hb dX2_stretchAt_26 rfl ?_
      exact hret _ _ _ dX2_stretchAt_28 (Option.some.inj h) rfl
    · have h := im c3 h
      refine lv_aload_n hx hb dX2_stretchAt_17 rfl (lv_at hl 0 rfl) ?_
      refine va_get (ci := 2) (v := .ref a_stretch) (C := RX2) (T := TX2) (N := 4) hx hb htT inlX2 hown hK hP 0 rfl rfl 1 (by decide) (htT _ q_5_2) (fun _ h9 => h9) rfl dX2_stretchAt_18 ?_
      refine lv_iload_n hx hb dX2_stretchAt_21 rfl (lv_at hl 1 rfl) ?_
      obtain ⟨g4, h⟩ := gd h
      refine va_iald hx hb hK hP 1 1 rfl rfl (inB_in g4) dX2_stretchAt_22 ?_
      refine lv_goto (tgt := 28) hx hb dX2_stretchAt_23 (by decide) ?_
      exact hret _ _ _ dX2_stretchAt_28 (Option.some.inj h) rfl

set_option maxHeartbeats 4000000 in
set_option maxRecDepth 100000 in
theorem c_Shelf_holds (l : Launch) (D : va_G) (cC cI cZ : ClassId) (a_this : Nat) (a_cells : Nat) (v_places : Int32) (v_filled : Int32) (n_cells : Nat) (A_cells : Nat → Int32) (p1 : Int32) (r : Int32) (h : f_Shelf_holds v_places v_filled p1 = r) : Met l yX6_holds (.code yX6_holds cX6_holds 2 (some .boolean) :: TBL) (RM 1 21) (PcR [.ref a_this, .int p1] D (TY cC cI cZ) (k_Shelf cC cI cZ a_this a_cells v_places v_filled n_cells A_cells)) (vp_Si (PO .boolean r)) 0 0 (fun _ => False) := by
  refine roOf (by decide) (Nat.le_of_ble_eq_true rfl) rfl ?_
  intro p e s m args below meth c Q ls X hP hl hret
  have X : Ctx p s m args c cX6_holds 2 RX6 D (TY cC cI cZ) := X
  obtain ⟨hx, hb, hml, hown, htT, hK, hN⟩ := id X
  unfold f_Shelf_holds at h
  refine lv_iload_n hx hb dX6_holds_0 rfl (lv_at hl 1 rfl) ?_
  refine lv_if_lt (tgt := 28) hx hb dX6_holds_1 (by decide) (fun c1 => ?_) (fun c1 => ?_)
  · have h := ip c1 h
    refine lv_iconst (v := (0 : Int32)) hx hb dX6_holds_28 rfl ?_
    exact hret _ _ _ dX6_holds_29 h rfl
  · have h := im c1 h
    refine lv_iload_n hx hb dX6_holds_4 rfl (lv_at hl 1 rfl) ?_
    refine lv_aload_n hx hb dX6_holds_5 rfl (lv_at hl 0 rfl) ?_
    refine va_get (ci := 6) (v := .int v_places) (C := RX6) (T := TX6) (N := 3) hx hb htT inlX6 hown hK hP 0 rfl rfl 0 (by decide) (htT _ q_4_17) (fun _ h9 => h9) rfl dX6_holds_6 ?_
    refine lv_icmp_ge (tgt := 28) hx hb dX6_holds_9 (by decide) (fun c2 => ?_) (fun c2 => ?_)
    · have h := ip c2 h
      refine lv_iconst (v := (0 : Int32)) hx hb dX6_holds_28 rfl ?_
      exact hret _ _ _ dX6_holds_29 h rfl
    · have h := im c2 h
      refine lv_aload_n hx hb dX6_holds_12 rfl (lv_at hl 0 rfl) ?_
      refine va_get (ci := 6) (v := .int v_filled) (C := RX6) (T := TX6) (N := 3) hx hb htT inlX6 hown hK hP 0 rfl rfl 2 (by decide) (htT _ q_4_19) (fun _ h9 => h9) rfl dX6_holds_13 ?_
      refine lv_iload_n hx hb dX6_holds_16 rfl (lv_at hl 1 rfl) ?_
      refine roSN X [.int v_filled, .int p1] [] (c_TR_bitAt l D cC cI cZ v_filled p1 _ rfl) q_20_2 qn_30 q_1_2 q_20_1 hd_TR_bitAt ⟨rfl, rfl, Nat.le_of_ble_eq_true rfl, Nat.le_of_ble_eq_true rfl⟩ ⟨Nat.zero_le _, Nat.zero_le _⟩ hP [] rfl hl.1 rfl (Nat.le_of_ble_eq_true rfl) dX6_holds_17 (fun n3 => ?_)
      refine lv_iconst (v := (1 : Int32)) hx hb dX6_holds_20 rfl ?_
      refine lv_icmp_ne (tgt := 28) hx hb dX6_holds_21 (by decide) (fun c4 => ?_) (fun c4 => ?_)
      · have h := im c4 h
        refine lv_iconst (v := (0 : Int32)) hx hb dX6_holds_28 rfl ?_
        exact hret _ _ _ dX6_holds_29 h rfl
      · have h := ip c4 h
        refine lv_iconst (v := (1 : Int32)) hx hb dX6_holds_24 rfl ?_
        refine lv_goto (tgt := 29) hx hb dX6_holds_25 (by decide) ?_
        exact hret _ _ _ dX6_holds_29 h rfl
set_option maxHeartbeats 4000000 in
set_option maxRecDepth 100000 in
theorem c_Shelf_take (l : Launch) (D : va_G) (cC cI cZ : ClassId) (a_this : Nat) (a_cells : Nat) (a_o2 : Nat) (a_o2_times : Nat) (a_o2_values : Nat) (v_places : Int32) (v_filled : Int32) (n_cells : Nat) (A_cells : Nat → Int32) (v_o2_size : Int32) (v_o2_promise : Int32) (v_o2_delay : Int32) (A_o2_times : Nat → Int32) (A_o2_values : Nat → Int32) (p1 : Int32) (sz : Nat) (z : Int32 × Int32 × Int32 × (Nat → Int32) × (Nat → Int32)) (h : f_Shelf_take v_places v_filled n_cells A_cells v_o2_size v_o2_promise v_o2_delay A_o2_times A_o2_values p1 = some z) : Met l yX6_take (.code yX6_take cX6_take 5 none :: TBL) (RM 2 42) (PcM [.ref a_this, .int p1, .ref a_o2] sz D (TY cC cI cZ) (k_Shelf cC cI cZ a_this a_cells v_places v_filled n_cells A_cells ++ k_Log cC cI cZ a_o2 a_o2_times a_o2_values v_o2_size v_o2_promise v_o2_delay A_o2_times A_o2_values)) (QM none D (k_Shelf cC cI cZ a_this a_cells v_places v_filled n_cells A_cells ++ k_Log cC cI cZ a_o2 a_o2_times a_o2_values z.1 z.2.1 z.2.2.1 z.2.2.2.1 z.2.2.2.2) (va_A (k_Shelf cC cI cZ a_this a_cells v_places v_filled n_cells A_cells ++ k_Log cC cI cZ a_o2 a_o2_times a_o2_values v_o2_size v_o2_promise v_o2_delay A_o2_times A_o2_values) sz)) 0 0 (va_A (k_Shelf cC cI cZ a_this a_cells v_places v_filled n_cells A_cells ++ k_Log cC cI cZ a_o2 a_o2_times a_o2_values v_o2_size v_o2_promise v_o2_delay A_o2_times A_o2_values) sz) := by
  refine muOfV (by decide) (Nat.le_of_ble_eq_true rfl) rfl ?_
  intro p e s m args below meth c Q ls A X hP hD hS hA hl hret
  have X : Ctx p s m args c cX6_take 5 RX6 D (TY cC cI cZ) := X
  obtain ⟨hx, hb, hml, hown, htT, hK, hN⟩ := id X
  unfold f_Shelf_take at h
  refine lv_aload_n hx hb dX6_take_0 rfl (lv_at hl 0 rfl) ?_
  refine lv_iload_n hx hb dX6_take_1 rfl (lv_at hl 1 rfl) ?_
  refine roV X [.int p1] [] (c_Shelf_holds l D cC cI cZ a_this a_cells v_places v_filled n_cells A_cells p1 _ rfl) gg_X6_43 hd_Shelf_holds ⟨rfl, rfl, Nat.le_of_ble_eq_true rfl, Nat.le_of_ble_eq_true rfl⟩ ⟨Nat.zero_le _, Nat.zero_le _⟩ hP [0, 1] rfl rfl rfl rfl hl.1 rfl (Nat.le_of_ble_eq_true rfl) dX6_take_2 (fun n1 => ?_)
  refine lv_if_ne (tgt := 9) hx hb dX6_take_5 (by decide) (fun c2 => ?_) (fun c2 => ?_)
  · have h := im c2 h
    refine lv_iload_n hx hb dX6_take_9 rfl (lv_at hl 1 rfl) ?_
    refine lv_bipush (v := (31 : Int32)) hx hb dX6_take_10 rfl ?_
    refine lv_imul hx hb dX6_take_12 ?_
    refine lv_istore_n (lv' := [(3, .int (p1 * (31 : Int32))), (0, .ref a_this), (1, .int p1), (2, .ref a_o2)]) hx hb dX6_take_13 rfl hl (by decide) rfl (fun ls hl => ?_)
    refine lv_aload_n hx hb dX6_take_14 rfl (lv_at hl 3 rfl) ?_
    refine lv_aload_n hx hb dX6_take_15 rfl (lv_at hl 1 rfl) ?_
    refine va_get (ci := 6) (v := .ref a_cells) (C := RX6) (T := TX6) (N := 3) hx hb htT inlX6 hown hK hP 0 rfl rfl 1 (by decide) (htT _ q_4_18) (fun _ h9 => h9) rfl dX6_take_16 ?_
    refine lv_iload_n hx hb dX6_take_19 rfl (lv_at hl 0 rfl) ?_
    refine lv_iconst (v := (0 : Int32)) hx hb dX6_take_20 rfl ?_
    refine lv_iadd hx hb dX6_take_21 ?_
    obtain ⟨g3, h⟩ := gd h
    refine va_iald hx hb hK hP 1 1 rfl rfl (inB_in g3) dX6_take_22 ?_
    refine va_putN (ci := 3) (v := .int (A_cells (((p1 * (31 : Int32)) + (0 : Int32))).toNatClampNeg)) (ty := .int) (C := RX3) (T := TX3) (N := 5) hx hb htT inlX3 tyX3 tyX3_ok nmX3 hown hK hP hD hS 2 rfl rfl 2 (by decide) (va_Nw.use rfl (hN _ qn_7)) (fun _ h9 => h9) rfl (tyX3_ok 2 (by decide)) rfl rfl (Nat.le_of_ble_eq_true rfl) dX6_take_23 (fun H locs hP hD hS => ?_)
    have hP : va_P D vwCl (k_Shelf cC cI cZ a_this a_cells v_places v_filled n_cells A_cells ++ k_Log cC cI cZ a_o2 a_o2_times a_o2_values (A_cells (((p1 * (31 : Int32)) + (0 : Int32))).toNatClampNeg) v_o2_promise v_o2_delay A_o2_times A_o2_values) H := hP
    have hD : va_D A (k_Shelf cC cI cZ a_this a_cells v_places v_filled n_cells A_cells ++ k_Log cC cI cZ a_o2 a_o2_times a_o2_values (A_cells (((p1 * (31 : Int32)) + (0 : Int32))).toNatClampNeg) v_o2_promise v_o2_delay A_o2_times A_o2_values) := hD
    refine lv_aload_n hx hb dX6_take_26 rfl (lv_at hl 3 rfl) ?_
    refine lv_aload_n hx hb dX6_take_27 rfl (lv_at hl 1 rfl) ?_
    refine va_get (ci := 6) (v := .ref a_cells) (C := RX6) (T := TX6) (N := 3) hx hb htT inlX6 hown hK hP 0 rfl rfl 1 (by decide) (htT _ q_4_18) (fun _ h9 => h9) rfl dX6_take_28 ?_
    refine lv_iload_n hx hb dX6_take_31 rfl (lv_at hl 0 rfl) ?_
    refine lv_iconst (v := (1 : Int32)) hx hb dX6_take_32 rfl ?_
    refine lv_iadd hx hb dX6_take_33 ?_
    obtain ⟨g4, h⟩ := gd h
    refine va_iald hx hb hK hP 1 1 rfl rfl (inB_in g4) dX6_take_34 ?_
    refine va_putN (ci := 3) (v := .int (A_cells (((p1 * (31 : Int32)) + (1 : Int32))).toNatClampNeg)) (ty := .int) (C := RX3) (T := TX3) (N := 5) hx hb htT inlX3 tyX3 tyX3_ok nmX3 hown hK hP hD hS 2 rfl rfl 3 (by decide) (va_Nw.use rfl (hN _ qn_13)) (fun _ h9 => h9) rfl (tyX3_ok 3 (by decide)) rfl rfl (Nat.le_of_ble_eq_true rfl) dX6_take_35 (fun H locs hP hD hS => ?_)
    have hP : va_P D vwCl (k_Shelf cC cI cZ a_this a_cells v_places v_filled n_cells A_cells ++ k_Log cC cI cZ a_o2 a_o2_times a_o2_values (A_cells (((p1 * (31 : Int32)) + (0 : Int32))).toNatClampNeg) (A_cells (((p1 * (31 : Int32)) + (1 : Int32))).toNatClampNeg) v_o2_delay A_o2_times A_o2_values) H := hP
    have hD : va_D A (k_Shelf cC cI cZ a_this a_cells v_places v_filled n_cells A_cells ++ k_Log cC cI cZ a_o2 a_o2_times a_o2_values (A_cells (((p1 * (31 : Int32)) + (0 : Int32))).toNatClampNeg) (A_cells (((p1 * (31 : Int32)) + (1 : Int32))).toNatClampNeg) v_o2_delay A_o2_times A_o2_values) := hD
    refine lv_aload_n hx hb dX6_take_38 rfl (lv_at hl 3 rfl) ?_
    refine lv_aload_n hx hb dX6_take_39 rfl (lv_at hl 1 rfl) ?_
    refine va_get (ci := 6) (v := .ref a_cells) (C := RX6) (T := TX6) (N := 3) hx hb htT inlX6 hown hK hP 0 rfl rfl 1 (by decide) (htT _ q_4_18) (fun _ h9 => h9) rfl dX6_take_40 ?_
    refine lv_iload_n hx hb dX6_take_43 rfl (lv_at hl 0 rfl) ?_
    refine lv_iconst (v := (2 : Int32)) hx hb dX6_take_44 rfl ?_
    refine lv_iadd hx hb dX6_take_45 ?_
    obtain ⟨g5, h⟩ := gd h
    refine va_iald hx hb hK hP 1 1 rfl rfl (inB_in g5) dX6_take_46 ?_
    refine va_putN (ci := 3) (v := .int (A_cells (((p1 * (31 : Int32)) + (2 : Int32))).toNatClampNeg)) (ty := .int) (C := RX3) (T := TX3) (N := 5) hx hb htT inlX3 tyX3 tyX3_ok nmX3 hown hK hP hD hS 2 rfl rfl 4 (by decide) (va_Nw.use rfl (hN _ qn_16)) (fun _ h9 => h9) rfl (tyX3_ok 4 (by decide)) rfl rfl (Nat.le_of_ble_eq_true rfl) dX6_take_47 (fun H locs hP hD hS => ?_)
    have hP : va_P D vwCl (k_Shelf cC cI cZ a_this a_cells v_places v_filled n_cells A_cells ++ k_Log cC cI cZ a_o2 a_o2_times a_o2_values (A_cells (((p1 * (31 : Int32)) + (0 : Int32))).toNatClampNeg) (A_cells (((p1 * (31 : Int32)) + (1 : Int32))).toNatClampNeg) (A_cells (((p1 * (31 : Int32)) + (2 : Int32))).toNatClampNeg) A_o2_times A_o2_values) H := hP
    have hD : va_D A (k_Shelf cC cI cZ a_this a_cells v_places v_filled n_cells A_cells ++ k_Log cC cI cZ a_o2 a_o2_times a_o2_values (A_cells (((p1 * (31 : Int32)) + (0 : Int32))).toNatClampNeg) (A_cells (((p1 * (31 : Int32)) + (1 : Int32))).toNatClampNeg) (A_cells (((p1 * (31 : Int32)) + (2 : Int32))).toNatClampNeg) A_o2_times A_o2_values) := hD
    refine lv_iconst (v := (0 : Int32)) hx hb dX6_take_50 rfl ?_
    refine lv_istore (lv' := [(4, .int (0 : Int32)), (3, .int (p1 * (31 : Int32))), (0, .ref a_this), (1, .int p1), (2, .ref a_o2)]) hx hb dX6_take_51 hl (by decide) rfl (fun ls hl => ?_)
    have LP53 : ∀ (n : Nat) (y53_4 : Int32) (A_o2_times_53 : Nat → Int32) (A_o2_values_53 : Nat → Int32) (zq53 : (Nat → Int32) × (Nat → Int32)), f_Shelf_take_L53 (p1 * (31 : Int32)) n_cells A_cells n y53_4 A_o2_times_53 A_o2_values_53 = some zq53 → ∀ (H : Heap) (locs : List Loc) (ls : Array Slot), va_P D vwCl (k_Shelf cC cI cZ a_this a_cells v_places v_filled n_cells A_cells ++ k_Log cC cI cZ a_o2 a_o2_times a_o2_values (A_cells (((p1 * (31 : Int32)) + (0 : Int32))).toNatClampNeg) (A_cells (((p1 * (31 : Int32)) + (1 : Int32))).toNatClampNeg) (A_cells (((p1 * (31 : Int32)) + (2 : Int32))).toNatClampNeg) A_o2_times_53 A_o2_values_53) H → va_D A (k_Shelf cC cI cZ a_this a_cells v_places v_filled n_cells A_cells ++ k_Log cC cI cZ a_o2 a_o2_times a_o2_values (A_cells (((p1 * (31 : Int32)) + (0 : Int32))).toNatClampNeg) (A_cells (((p1 * (31 : Int32)) + (1 : Int32))).toNatClampNeg) (A_cells (((p1 * (31 : Int32)) + (2 : Int32))).toNatClampNeg) A_o2_times_53 A_o2_values_53) → va_S A s.heap H locs → lv_has ls 5 [(0, .ref a_this), (2, .ref a_o2), (3, .int (p1 * (31 : Int32))), (4, .int y53_4)] → (∀ (H : Heap) (locs : List Loc) (ls : Array Slot), va_P D vwCl (k_Shelf cC cI cZ a_this a_cells v_places v_filled n_cells A_cells ++ k_Log cC cI cZ a_o2 a_o2_times a_o2_values (A_cells (((p1 * (31 : Int32)) + (0 : Int32))).toNatClampNeg) (A_cells (((p1 * (31 : Int32)) + (1 : Int32))).toNatClampNeg) (A_cells (((p1 * (31 : Int32)) + (2 : Int32))).toNatClampNeg) zq53.1 zq53.2) H → va_D A (k_Shelf cC cI cZ a_this a_cells v_places v_filled n_cells A_cells ++ k_Log cC cI cZ a_o2 a_o2_times a_o2_values (A_cells (((p1 * (31 : Int32)) + (0 : Int32))).toNatClampNeg) (A_cells (((p1 * (31 : Int32)) + (1 : Int32))).toNatClampNeg) (A_cells (((p1 * (31 : Int32)) + (2 : Int32))).toNatClampNeg) zq53.1 zq53.2) → va_S A s.heap H locs → lv_has ls 5 [] → W p l e (RM 2 42) s m args below meth c H locs 0 0 Q (F0 m 103 ls [])) → W p l e (RM 2 42) s m args below meth c H locs 0 0 Q (F0 m 53 ls []) := by
      clear h
      intro n
      induction n with
      | zero =>
        intro y53_4 A_o2_times_53 A_o2_values_53 zq53 h
        rw [f_Shelf_take_L53_0] at h
        cases h
      | succ n ih53 =>
        intro y53_4 A_o2_times_53 A_o2_values_53 zq53 h H locs ls hP hD hS hl k53_0
        rw [f_Shelf_take_L53_s] at h
        refine lv_iload hx hb dX6_take_53 (lv_at hl 3 rfl) ?_
        refine lv_bipush (v := (14 : Int32)) hx hb dX6_take_55 rfl ?_
        refine lv_icmp_ge (tgt := 103) hx hb dX6_take_57 (by decide) (fun c7 => ?_) (fun c7 => ?_)
        · have h := ip c7 h
          obtain rfl := Option.some.inj h
          exact k53_0 _ _ _ hP hD hS (lv_sub hl [] rfl)
        · have h := im c7 h
          refine lv_aload_n hx hb dX6_take_60 rfl (lv_at hl 1 rfl) ?_
          refine va_getN (ci := 3) (v := .ref a_o2_times) (C := RX3) (T := TX3) (N := 5) hx hb htT inlX3 hown hK hP 2 rfl rfl 0 (by decide) (va_Nw.use rfl (hN _ qn_2)) (fun _ h9 => h9) rfl dX6_take_61 ?_
          refine lv_iload hx hb dX6_take_64 (lv_at hl 3 rfl) ?_
          refine lv_aload_n hx hb dX6_take_66 rfl (lv_at hl 0 rfl) ?_
          refine va_get (ci := 6) (v := .ref a_cells) (C := RX6) (T := TX6) (N := 3) hx hb htT inlX6 hown hK hP 0 rfl rfl 1 (by decide) (htT _ q_4_18) (fun _ h9 => h9) rfl dX6_take_67 ?_
          refine lv_iload_n hx hb dX6_take_70 rfl (lv_at hl 2 rfl) ?_
          refine lv_iconst (v := (3 : Int32)) hx hb dX6_take_71 rfl ?_
          refine lv_iadd hx hb dX6_take_72 ?_
          refine lv_iload hx hb dX6_take_73 (lv_at hl 3 rfl) ?_
          refine lv_iadd hx hb dX6_take_75 ?_
          obtain ⟨g8, h⟩ := gd h
          refine va_iald hx hb hK hP 1 1 rfl rfl (inB_in g8) dX6_take_76 ?_
          obtain ⟨g9, h⟩ := gd h
          refine va_iast hx hb hK hP hD hS 3 1 rfl rfl (inB_in g9) dX6_take_77 (fun H locs hP hD hS => ?_)
          have hP : va_P D vwCl (k_Shelf cC cI cZ a_this a_cells v_places v_filled n_cells A_cells ++ k_Log cC cI cZ a_o2 a_o2_times a_o2_values (A_cells (((p1 * (31 : Int32)) + (0 : Int32))).toNatClampNeg) (A_cells (((p1 * (31 : Int32)) + (1 : Int32))).toNatClampNeg) (A_cells (((p1 * (31 : Int32)) + (2 : Int32))).toNatClampNeg) (upd A_o2_times_53 (y53_4).toNatClampNeg (A_cells ((((p1 * (31 : Int32)) + (3 : Int32)) + y53_4)).toNatClampNeg)) A_o2_values_53) H := hP
          have hD : va_D A (k_Shelf cC cI cZ a_this a_cells v_places v_filled n_cells A_cells ++ k_Log cC cI cZ a_o2 a_o2_times a_o2_values (A_cells (((p1 * (31 : Int32)) + (0 : Int32))).toNatClampNeg) (A_cells (((p1 * (31 : Int32)) + (1 : Int32))).toNatClampNeg) (A_cells (((p1 * (31 : Int32)) + (2 : Int32))).toNatClampNeg) (upd A_o2_times_53 (y53_4).toNatClampNeg (A_cells ((((p1 * (31 : Int32)) + (3 : Int32)) + y53_4)).toNatClampNeg)) A_o2_values_53) := hD
          refine lv_aload_n hx hb dX6_take_78 rfl (lv_at hl 1 rfl) ?_
          refine va_getN (ci := 3) (v := .ref a_o2_values) (C := RX3) (T := TX3) (N := 5) hx hb htT inlX3 hown hK hP 2 rfl rfl 1 (by decide) (va_Nw.use rfl (hN _ qn_4)) (fun _ h9 => h9) rfl dX6_take_79 ?_
          refine lv_iload hx hb dX6_take_82 (lv_at hl 3 rfl) ?_
          refine lv_aload_n hx hb dX6_take_84 rfl (lv_at hl 0 rfl) ?_
          refine va_get (ci := 6) (v := .ref a_cells) (C := RX6) (T := TX6) (N := 3) hx hb htT inlX6 hown hK hP 0 rfl rfl 1 (by decide) (htT _ q_4_18) (fun _ h9 => h9) rfl dX6_take_85 ?_
          refine lv_iload_n hx hb dX6_take_88 rfl (lv_at hl 2 rfl) ?_
          refine lv_bipush (v := (17 : Int32)) hx hb dX6_take_89 rfl ?_
          refine lv_iadd hx hb dX6_take_91 ?_
          refine lv_iload hx hb dX6_take_92 (lv_at hl 3 rfl) ?_
          refine lv_iadd hx hb dX6_take_94 ?_
          obtain ⟨g10, h⟩ := gd h
          refine va_iald hx hb hK hP 1 1 rfl rfl (inB_in g10) dX6_take_95 ?_
          obtain ⟨g11, h⟩ := gd h
          refine va_iast hx hb hK hP hD hS 4 1 rfl rfl (inB_in g11) dX6_take_96 (fun H locs hP hD hS => ?_)
          have hP : va_P D vwCl (k_Shelf cC cI cZ a_this a_cells v_places v_filled n_cells A_cells ++ k_Log cC cI cZ a_o2 a_o2_times a_o2_values (A_cells (((p1 * (31 : Int32)) + (0 : Int32))).toNatClampNeg) (A_cells (((p1 * (31 : Int32)) + (1 : Int32))).toNatClampNeg) (A_cells (((p1 * (31 : Int32)) + (2 : Int32))).toNatClampNeg) (upd A_o2_times_53 (y53_4).toNatClampNeg (A_cells ((((p1 * (31 : Int32)) + (3 : Int32)) + y53_4)).toNatClampNeg)) (upd A_o2_values_53 (y53_4).toNatClampNeg (A_cells ((((p1 * (31 : Int32)) + (17 : Int32)) + y53_4)).toNatClampNeg))) H := hP
          have hD : va_D A (k_Shelf cC cI cZ a_this a_cells v_places v_filled n_cells A_cells ++ k_Log cC cI cZ a_o2 a_o2_times a_o2_values (A_cells (((p1 * (31 : Int32)) + (0 : Int32))).toNatClampNeg) (A_cells (((p1 * (31 : Int32)) + (1 : Int32))).toNatClampNeg) (A_cells (((p1 * (31 : Int32)) + (2 : Int32))).toNatClampNeg) (upd A_o2_times_53 (y53_4).toNatClampNeg (A_cells ((((p1 * (31 : Int32)) + (3 : Int32)) + y53_4)).toNatClampNeg)) (upd A_o2_values_53 (y53_4).toNatClampNeg (A_cells ((((p1 * (31 : Int32)) + (17 : Int32)) + y53_4)).toNatClampNeg))) := hD
          refine lv_iinc (v := (y53_4 + (1 : Int32))) (lv' := [(4, .int (y53_4 + (1 : Int32))), (0, .ref a_this), (2, .ref a_o2), (3, .int (p1 * (31 : Int32)))]) hx hb dX6_take_97 hl (k := 3) rfl rfl (by decide) rfl (fun ls hl => ?_)
          refine lv_goto (tgt := 53) hx hb dX6_take_100 (by decide) ?_
          exact ih53 (y53_4 + (1 : Int32)) (upd A_o2_times_53 (y53_4).toNatClampNeg (A_cells ((((p1 * (31 : Int32)) + (3 : Int32)) + y53_4)).toNatClampNeg)) (upd A_o2_values_53 (y53_4).toNatClampNeg (A_cells ((((p1 * (31 : Int32)) + (17 : Int32)) + y53_4)).toNatClampNeg)) _ h _ _ _ hP hD hS (lv_sub hl [1, 2, 3, 0] rfl) k53_0
    obtain ⟨z6, e6, h⟩ := bd h
    refine LP53 fu (0 : Int32) A_o2_times A_o2_values z6 e6 _ _ _ hP hD hS (lv_sub hl [2, 4, 1, 0] rfl) ?_
    intro H locs ls hP hD hS hl
    obtain rfl := Option.some.inj h
    exact hret _ _ _ _ hP hS dX6_take_103
  · have h := ip c2 h
    obtain rfl := Option.some.inj h
    exact hret _ _ _ _ hP hS dX6_take_8
set_option maxHeartbeats 4000000 in
set_option maxRecDepth 100000 in
theorem c_History_pop (l : Launch) (D : va_G) (cC cI cZ : ClassId) (a_this : Nat) (a_ring : Nat) (a_ring_cells : Nat) (a_o1 : Nat) (a_o1_times : Nat) (a_o1_values : Nat) (v_next : Int32) (v_size : Int32) (v_ring_places : Int32) (v_ring_filled : Int32) (n_ring_cells : Nat) (A_ring_cells : Nat → Int32) (v_o1_size : Int32) (v_o1_promise : Int32) (v_o1_delay : Int32) (A_o1_times : Nat → Int32) (A_o1_values : Nat → Int32)  (sz : Nat) (z : Int32 × Int32 × Int32 × Int32 × Int32 × (Nat → Int32) × (Nat → Int32)) (h : f_History_pop v_next v_size v_ring_places v_ring_filled n_ring_cells A_ring_cells v_o1_size v_o1_promise v_o1_delay A_o1_times A_o1_values = some z) : Met l yX1_pop (.code yX1_pop cX1_pop 2 none :: TBL) (RM 3 66) (PcM [.ref a_this, .ref a_o1] sz D (TY cC cI cZ) (k_History cC cI cZ a_this a_ring a_ring_cells v_next v_size v_ring_places v_ring_filled n_ring_cells A_ring_cells ++ k_Log cC cI cZ a_o1 a_o1_times a_o1_values v_o1_size v_o1_promise v_o1_delay A_o1_times A_o1_values)) (QM none D (k_History cC cI cZ a_this a_ring a_ring_cells z.1 z.2.1 v_ring_places v_ring_filled n_ring_cells A_ring_cells ++ k_Log cC cI cZ a_o1 a_o1_times a_o1_values z.2.2.1 z.2.2.2.1 z.2.2.2.2.1 z.2.2.2.2.2.1 z.2.2.2.2.2.2) (va_A (k_History cC cI cZ a_this a_ring a_ring_cells v_next v_size v_ring_places v_ring_filled n_ring_cells A_ring_cells ++ k_Log cC cI cZ a_o1 a_o1_times a_o1_values v_o1_size v_o1_promise v_o1_delay A_o1_times A_o1_values) sz)) 0 0 (va_A (k_History cC cI cZ a_this a_ring a_ring_cells v_next v_size v_ring_places v_ring_filled n_ring_cells A_ring_cells ++ k_Log cC cI cZ a_o1 a_o1_times a_o1_values v_o1_size v_o1_promise v_o1_delay A_o1_times A_o1_values) sz) := by
  refine muOfV (by decide) (Nat.le_of_ble_eq_true rfl) rfl ?_
  intro p e s m args below meth c Q ls A X hP hD hS hA hl hret
  have X : Ctx p s m args c cX1_pop 2 RX1 D (TY cC cI cZ) := X
  obtain ⟨hx, hb, hml, hown, htT, hK, hN⟩ := id X
  unfold f_History_pop at h
  refine lv_aload_n hx hb dX1_pop_0 rfl (lv_at hl 0 rfl) ?_
  refine va_get (ci := 1) (v := .int v_size) (C := RX1) (T := TX1) (N := 3) hx hb htT inlX1 hown hK hP 0 rfl rfl 2 (by decide) (htT _ q_4_12) (fun _ h9 => h9) rfl dX1_pop_1 ?_
  refine lv_if_ne (tgt := 8) hx hb dX1_pop_4 (by decide) (fun c1 => ?_) (fun c1 => ?_)
  · have h := im c1 h
    refine lv_aload_n hx hb dX1_pop_8 rfl (lv_at hl 0 rfl) ?_
    refine lv_aload_n hx hb dX1_pop_9 rfl (lv_at hl 0 rfl) ?_
    refine va_get (ci := 1) (v := .int v_next) (C := RX1) (T := TX1) (N := 3) hx hb htT inlX1 hown hK hP 0 rfl rfl 1 (by decide) (htT _ q_4_11) (fun _ h9 => h9) rfl dX1_pop_10 ?_
    refine lv_if_le (tgt := 25) hx hb dX1_pop_13 (by decide) (fun c2 => ?_) (fun c2 => ?_)
    · have h := ip c2 h
      refine lv_bipush (v := (9 : Int32)) hx hb dX1_pop_25 rfl ?_
      refine va_put (ci := 1) (v := .int (9 : Int32)) (ty := .int) (C := RX1) (T := TX1) (N := 3) hx hb htT inlX1 tyX1 tyX1_ok nmX1 hown hK hP hD hS 0 rfl rfl 1 (by decide) (htT _ q_4_11) (fun _ h9 => h9) rfl (tyX1_ok 1 (by decide)) rfl rfl (Nat.le_of_ble_eq_true rfl) dX1_pop_27 (fun H locs hP hD hS => ?_)
      have hP : va_P D vwCl (k_History cC cI cZ a_this a_ring a_ring_cells (9 : Int32) v_size v_ring_places v_ring_filled n_ring_cells A_ring_cells ++ k_Log cC cI cZ a_o1 a_o1_times a_o1_values v_o1_size v_o1_promise v_o1_delay A_o1_times A_o1_values) H := hP
      have hD : va_D A (k_History cC cI cZ a_this a_ring a_ring_cells (9 : Int32) v_size v_ring_places v_ring_filled n_ring_cells A_ring_cells ++ k_Log cC cI cZ a_o1 a_o1_times a_o1_values v_o1_size v_o1_promise v_o1_delay A_o1_times A_o1_values) := hD
      refine lv_aload_n hx hb dX1_pop_30 rfl (lv_at hl 0 rfl) ?_
      refine lv_dup hx hb dX1_pop_31 rfl ?_
      refine va_get (ci := 1) (v := .int v_size) (C := RX1) (T := TX1) (N := 3) hx hb htT inlX1 hown hK hP 0 rfl rfl 2 (by decide) (htT _ q_4_12) (fun _ h9 => h9) rfl dX1_pop_32 ?_
      refine lv_iconst (v := (1 : Int32)) hx hb dX1_pop_35 rfl ?_
      refine lv_isub hx hb dX1_pop_36 ?_
      refine va_put (ci := 1) (v := .int (v_size - (1 : Int32))) (ty := .int) (C := RX1) (T := TX1) (N := 3) hx hb htT inlX1 tyX1 tyX1_ok nmX1 hown hK hP hD hS 0 rfl rfl 2 (by decide) (htT _ q_4_12) (fun _ h9 => h9) rfl (tyX1_ok 2 (by decide)) rfl rfl (Nat.le_of_ble_eq_true rfl) dX1_pop_37 (fun H locs hP hD hS => ?_)
      have hP : va_P D vwCl (k_History cC cI cZ a_this a_ring a_ring_cells (9 : Int32) (v_size - (1 : Int32)) v_ring_places v_ring_filled n_ring_cells A_ring_cells ++ k_Log cC cI cZ a_o1 a_o1_times a_o1_values v_o1_size v_o1_promise v_o1_delay A_o1_times A_o1_values) H := hP
      have hD : va_D A (k_History cC cI cZ a_this a_ring a_ring_cells (9 : Int32) (v_size - (1 : Int32)) v_ring_places v_ring_filled n_ring_cells A_ring_cells ++ k_Log cC cI cZ a_o1 a_o1_times a_o1_values v_o1_size v_o1_promise v_o1_delay A_o1_times A_o1_values) := hD
      refine lv_aload_n hx hb dX1_pop_40 rfl (lv_at hl 0 rfl) ?_
      refine va_get (ci := 1) (v := .ref a_ring) (C := RX1) (T := TX1) (N := 3) hx hb htT inlX1 hown hK hP 0 rfl rfl 0 (by decide) (htT _ q_4_10) (fun _ h9 => h9) rfl dX1_pop_41 ?_
      refine lv_aload_n hx hb dX1_pop_44 rfl (lv_at hl 0 rfl) ?_
      refine va_get (ci := 1) (v := .int (9 : Int32)) (C := RX1) (T := TX1) (N := 3) hx hb htT inlX1 hown hK hP 0 rfl rfl 1 (by decide) (htT _ q_4_11) (fun _ h9 => h9) rfl dX1_pop_45 ?_
      refine lv_aload_n hx hb dX1_pop_48 rfl (lv_at hl 1 rfl) ?_
      obtain ⟨z3, e3, h⟩ := bd h
      refine muVV (ws' := (k_History cC cI cZ a_this a_ring a_ring_cells (9 : Int32) (v_size - (1 : Int32)) v_ring_places v_ring_filled n_ring_cells A_ring_cells ++ k_Log cC cI cZ a_o1 a_o1_times a_o1_values z3.1 z3.2.1 z3.2.2.1 z3.2.2.2.1 z3.2.2.2.2)) X [.int (9 : Int32), .ref a_o1] [] (c_Shelf_take l D cC cI cZ a_ring a_ring_cells a_o1 a_o1_times a_o1_values v_ring_places v_ring_filled n_ring_cells A_ring_cells v_o1_size v_o1_promise v_o1_delay A_o1_times A_o1_values (9 : Int32) _ z3 e3) gg_X1_37 hd_Shelf_take ⟨rfl, rfl, Nat.le_of_ble_eq_true rfl, Nat.le_of_ble_eq_true rfl⟩ ⟨Nat.zero_le _, Nat.zero_le _⟩ hP hD hS hA [1, 2, 3, 4, 5] [0] [0, 1, 2, 3, 4, 5] rfl rfl (by decide) (by decide) rfl rfl rfl rfl rfl hl.1 rfl (Nat.le_of_ble_eq_true rfl) dX1_pop_49 (fun H locs hP hD hS => ?_)
      obtain rfl := Option.some.inj h
      exact hret _ _ _ _ hP hS dX1_pop_52
    · have h := im c2 h
      refine lv_aload_n hx hb dX1_pop_16 rfl (lv_at hl 0 rfl) ?_
      refine va_get (ci := 1) (v := .int v_next) (C := RX1) (T := TX1) (N := 3) hx hb htT inlX1 hown hK hP 0 rfl rfl 1 (by decide) (htT _ q_4_11) (fun _ h9 => h9) rfl dX1_pop_17 ?_
      refine lv_iconst (v := (1 : Int32)) hx hb dX1_pop_20 rfl ?_
      refine lv_isub hx hb dX1_pop_21 ?_
      refine lv_goto (tgt := 27) hx hb dX1_pop_22 (by decide) ?_
      refine va_put (ci := 1) (v := .int (v_next - (1 : Int32))) (ty := .int) (C := RX1) (T := TX1) (N := 3) hx hb htT inlX1 tyX1 tyX1_ok nmX1 hown hK hP hD hS 0 rfl rfl 1 (by decide) (htT _ q_4_11) (fun _ h9 => h9) rfl (tyX1_ok 1 (by decide)) rfl rfl (Nat.le_of_ble_eq_true rfl) dX1_pop_27 (fun H locs hP hD hS => ?_)
      have hP : va_P D vwCl (k_History cC cI cZ a_this a_ring a_ring_cells (v_next - (1 : Int32)) v_size v_ring_places v_ring_filled n_ring_cells A_ring_cells ++ k_Log cC cI cZ a_o1 a_o1_times a_o1_values v_o1_size v_o1_promise v_o1_delay A_o1_times A_o1_values) H := hP
      have hD : va_D A (k_History cC cI cZ a_this a_ring a_ring_cells (v_next - (1 : Int32)) v_size v_ring_places v_ring_filled n_ring_cells A_ring_cells ++ k_Log cC cI cZ a_o1 a_o1_times a_o1_values v_o1_size v_o1_promise v_o1_delay A_o1_times A_o1_values) := hD
      refine lv_aload_n hx hb dX1_pop_30 rfl (lv_at hl 0 rfl) ?_
      refine lv_dup hx hb dX1_pop_31 rfl ?_
      refine va_get (ci := 1) (v := .int v_size) (C := RX1) (T := TX1) (N := 3) hx hb htT inlX1 hown hK hP 0 rfl rfl 2 (by decide) (htT _ q_4_12) (fun _ h9 => h9) rfl dX1_pop_32 ?_
      refine lv_iconst (v := (1 : Int32)) hx hb dX1_pop_35 rfl ?_
      refine lv_isub hx hb dX1_pop_36 ?_
      refine va_put (ci := 1) (v := .int (v_size - (1 : Int32))) (ty := .int) (C := RX1) (T := TX1) (N := 3) hx hb htT inlX1 tyX1 tyX1_ok nmX1 hown hK hP hD hS 0 rfl rfl 2 (by decide) (htT _ q_4_12) (fun _ h9 => h9) rfl (tyX1_ok 2 (by decide)) rfl rfl (Nat.le_of_ble_eq_true rfl) dX1_pop_37 (fun H locs hP hD hS => ?_)
      have hP : va_P D vwCl (k_History cC cI cZ a_this a_ring a_ring_cells (v_next - (1 : Int32)) (v_size - (1 : Int32)) v_ring_places v_ring_filled n_ring_cells A_ring_cells ++ k_Log cC cI cZ a_o1 a_o1_times a_o1_values v_o1_size v_o1_promise v_o1_delay A_o1_times A_o1_values) H := hP
      have hD : va_D A (k_History cC cI cZ a_this a_ring a_ring_cells (v_next - (1 : Int32)) (v_size - (1 : Int32)) v_ring_places v_ring_filled n_ring_cells A_ring_cells ++ k_Log cC cI cZ a_o1 a_o1_times a_o1_values v_o1_size v_o1_promise v_o1_delay A_o1_times A_o1_values) := hD
      refine lv_aload_n hx hb dX1_pop_40 rfl (lv_at hl 0 rfl) ?_
      refine va_get (ci := 1) (v := .ref a_ring) (C := RX1) (T := TX1) (N := 3) hx hb htT inlX1 hown hK hP 0 rfl rfl 0 (by decide) (htT _ q_4_10) (fun _ h9 => h9) rfl dX1_pop_41 ?_
      refine lv_aload_n hx hb dX1_pop_44 rfl (lv_at hl 0 rfl) ?_
      refine va_get (ci := 1) (v := .int (v_next - (1 : Int32))) (C := RX1) (T := TX1) (N := 3) hx hb htT inlX1 hown hK hP 0 rfl rfl 1 (by decide) (htT _ q_4_11) (fun _ h9 => h9) rfl dX1_pop_45 ?_
      refine lv_aload_n hx hb dX1_pop_48 rfl (lv_at hl 1 rfl) ?_
      obtain ⟨z4, e4, h⟩ := bd h
      refine muVV (ws' := (k_History cC cI cZ a_this a_ring a_ring_cells (v_next - (1 : Int32)) (v_size - (1 : Int32)) v_ring_places v_ring_filled n_ring_cells A_ring_cells ++ k_Log cC cI cZ a_o1 a_o1_times a_o1_values z4.1 z4.2.1 z4.2.2.1 z4.2.2.2.1 z4.2.2.2.2)) X [.int (v_next - (1 : Int32)), .ref a_o1] [] (c_Shelf_take l D cC cI cZ a_ring a_ring_cells a_o1 a_o1_times a_o1_values v_ring_places v_ring_filled n_ring_cells A_ring_cells v_o1_size v_o1_promise v_o1_delay A_o1_times A_o1_values (v_next - (1 : Int32)) _ z4 e4) gg_X1_37 hd_Shelf_take ⟨rfl, rfl, Nat.le_of_ble_eq_true rfl, Nat.le_of_ble_eq_true rfl⟩ ⟨Nat.zero_le _, Nat.zero_le _⟩ hP hD hS hA [1, 2, 3, 4, 5] [0] [0, 1, 2, 3, 4, 5] rfl rfl (by decide) (by decide) rfl rfl rfl rfl rfl hl.1 rfl (Nat.le_of_ble_eq_true rfl) dX1_pop_49 (fun H locs hP hD hS => ?_)
      obtain rfl := Option.some.inj h
      exact hret _ _ _ _ hP hS dX1_pop_52
  · have h := ip c1 h
    obtain rfl := Option.some.inj h
    exact hret _ _ _ _ hP hS dX1_pop_7
set_option maxHeartbeats 4000000 in
set_option maxRecDepth 100000 in
theorem c_Shelf_put (l : Launch) (D : va_G) (cC cI cZ : ClassId) (a_this : Nat) (a_cells : Nat) (a_o2 : Nat) (a_o2_times : Nat) (a_o2_values : Nat) (v_places : Int32) (v_filled : Int32) (n_cells : Nat) (A_cells : Nat → Int32) (v_o2_size : Int32) (v_o2_promise : Int32) (v_o2_delay : Int32) (A_o2_times : Nat → Int32) (A_o2_values : Nat → Int32) (p1 : Int32) (sz : Nat) (z : Int32 × (Nat → Int32)) (h : f_Shelf_put v_places v_filled n_cells A_cells v_o2_size v_o2_promise v_o2_delay A_o2_times A_o2_values p1 = some z) : Met l yX6_put (.code yX6_put cX6_put 5 none :: TBL) (RM 0 0) (PcM [.ref a_this, .int p1, .ref a_o2] sz D (TY cC cI cZ) (k_Shelf cC cI cZ a_this a_cells v_places v_filled n_cells A_cells ++ k_Log cC cI cZ a_o2 a_o2_times a_o2_values v_o2_size v_o2_promise v_o2_delay A_o2_times A_o2_values)) (QM none D (k_Shelf cC cI cZ a_this a_cells v_places z.1 n_cells z.2 ++ k_Log cC cI cZ a_o2 a_o2_times a_o2_values v_o2_size v_o2_promise v_o2_delay A_o2_times A_o2_values) (va_A (k_Shelf cC cI cZ a_this a_cells v_places v_filled n_cells A_cells ++ k_Log cC cI cZ a_o2 a_o2_times a_o2_values v_o2_size v_o2_promise v_o2_delay A_o2_times A_o2_values) sz)) 0 0 (va_A (k_Shelf cC cI cZ a_this a_cells v_places v_filled n_cells A_cells ++ k_Log cC cI cZ a_o2 a_o2_times a_o2_values v_o2_size v_o2_promise v_o2_delay A_o2_times A_o2_values) sz) := by
  refine muOfV (by decide) (Nat.le_of_ble_eq_true rfl) rfl ?_
  intro p e s m args below meth c Q ls A X hP hD hS hA hl hret
  have X : Ctx p s m args c cX6_put 5 RX6 D (TY cC cI cZ) := X
  obtain ⟨hx, hb, hml, hown, htT, hK, hN⟩ := id X
  unfold f_Shelf_put at h
  refine lv_iload_n hx hb dX6_put_0 rfl (lv_at hl 1 rfl) ?_
  refine lv_if_lt (tgt := 12) hx hb dX6_put_1 (by decide) (fun c1 => ?_) (fun c1 => ?_)
  · have h := ip c1 h
    obtain rfl := Option.some.inj h
    exact hret _ _ _ _ hP hS dX6_put_12
  · have h := im c1 h
    refine lv_iload_n hx hb dX6_put_4 rfl (lv_at hl 1 rfl) ?_
    refine lv_aload_n hx hb dX6_put_5 rfl (lv_at hl 0 rfl) ?_
    refine va_get (ci := 6) (v := .int v_places) (C := RX6) (T := TX6) (N := 3) hx hb htT inlX6 hown hK hP 0 rfl rfl 0 (by decide) (htT _ q_4_17) (fun _ h9 => h9) rfl dX6_put_6 ?_
    refine lv_icmp_lt (tgt := 13) hx hb dX6_put_9 (by decide) (fun c2 => ?_) (fun c2 => ?_)
    · have h := ip c2 h
      refine lv_iload_n hx hb dX6_put_13 rfl (lv_at hl 1 rfl) ?_
      refine lv_bipush (v := (31 : Int32)) hx hb dX6_put_14 rfl ?_
      refine lv_imul hx hb dX6_put_16 ?_
      refine lv_istore_n (lv' := [(3, .int (p1 * (31 : Int32))), (0, .ref a_this), (1, .int p1), (2, .ref a_o2)]) hx hb dX6_put_17 rfl hl (by decide) rfl (fun ls hl => ?_)
      refine lv_aload_n hx hb dX6_put_18 rfl (lv_at hl 1 rfl) ?_
      refine va_get (ci := 6) (v := .ref a_cells) (C := RX6) (T := TX6) (N := 3) hx hb htT inlX6 hown hK hP 0 rfl rfl 1 (by decide) (htT _ q_4_18) (fun _ h9 => h9) rfl dX6_put_19 ?_
      refine lv_iload_n hx hb dX6_put_22 rfl (lv_at hl 0 rfl) ?_
      refine lv_iconst (v := (0 : Int32)) hx hb dX6_put_23 rfl ?_
      refine lv_iadd hx hb dX6_put_24 ?_
      refine lv_aload_n hx hb dX6_put_25 rfl (lv_at hl 3 rfl) ?_
      refine va_getN (ci := 3) (v := .int v_o2_size) (C := RX3) (T := TX3) (N := 5) hx hb htT inlX3 hown hK hP 2 rfl rfl 2 (by decide) (va_Nw.use rfl (hN _ qn_7)) (fun _ h9 => h9) rfl dX6_put_26 ?_
      obtain ⟨g3, h⟩ := gd h
      refine va_iast hx hb hK hP hD hS 1 1 rfl rfl (inB_in g3) dX6_put_29 (fun H locs hP hD hS => ?_)
      have hP : va_P D vwCl (k_Shelf cC cI cZ a_this a_cells v_places v_filled n_cells (upd A_cells (((p1 * (31 : Int32)) + (0 : Int32))).toNatClampNeg v_o2_size) ++ k_Log cC cI cZ a_o2 a_o2_times a_o2_values v_o2_size v_o2_promise v_o2_delay A_o2_times A_o2_values) H := hP
      have hD : va_D A (k_Shelf cC cI cZ a_this a_cells v_places v_filled n_cells (upd A_cells (((p1 * (31 : Int32)) + (0 : Int32))).toNatClampNeg v_o2_size) ++ k_Log cC cI cZ a_o2 a_o2_times a_o2_values v_o2_size v_o2_promise v_o2_delay A_o2_times A_o2_values) := hD
      refine lv_aload_n hx hb dX6_put_30 rfl (lv_at hl 1 rfl) ?_
      refine va_get (ci := 6) (v := .ref a_cells) (C := RX6) (T := TX6) (N := 3) hx hb htT inlX6 hown hK hP 0 rfl rfl 1 (by decide) (htT _ q_4_18) (fun _ h9 => h9) rfl dX6_put_31 ?_
      refine lv_iload_n hx hb dX6_put_34 rfl (lv_at hl 0 rfl) ?_
      refine lv_iconst (v := (1 : Int32)) hx hb dX6_put_35 rfl ?_
      refine lv_iadd hx hb dX6_put_36 ?_
      refine lv_aload_n hx hb dX6_put_37 rfl (lv_at hl 3 rfl) ?_
      refine va_getN (ci := 3) (v := .int v_o2_promise) (C := RX3) (T := TX3) (N := 5) hx hb htT inlX3 hown hK hP 2 rfl rfl 3 (by decide) (va_Nw.use rfl (hN _ qn_13)) (fun _ h9 => h9) rfl dX6_put_38 ?_
      obtain ⟨g4, h⟩ := gd h
      refine va_iast hx hb hK hP hD hS 1 1 rfl rfl (inB_in g4) dX6_put_41 (fun H locs hP hD hS => ?_)
      have hP : va_P D vwCl (k_Shelf cC cI cZ a_this a_cells v_places v_filled n_cells (upd (upd A_cells (((p1 * (31 : Int32)) + (0 : Int32))).toNatClampNeg v_o2_size) (((p1 * (31 : Int32)) + (1 : Int32))).toNatClampNeg v_o2_promise) ++ k_Log cC cI cZ a_o2 a_o2_times a_o2_values v_o2_size v_o2_promise v_o2_delay A_o2_times A_o2_values) H := hP
      have hD : va_D A (k_Shelf cC cI cZ a_this a_cells v_places v_filled n_cells (upd (upd A_cells (((p1 * (31 : Int32)) + (0 : Int32))).toNatClampNeg v_o2_size) (((p1 * (31 : Int32)) + (1 : Int32))).toNatClampNeg v_o2_promise) ++ k_Log cC cI cZ a_o2 a_o2_times a_o2_values v_o2_size v_o2_promise v_o2_delay A_o2_times A_o2_values) := hD
      refine lv_aload_n hx hb dX6_put_42 rfl (lv_at hl 1 rfl) ?_
      refine va_get (ci := 6) (v := .ref a_cells) (C := RX6) (T := TX6) (N := 3) hx hb htT inlX6 hown hK hP 0 rfl rfl 1 (by decide) (htT _ q_4_18) (fun _ h9 => h9) rfl dX6_put_43 ?_
      refine lv_iload_n hx hb dX6_put_46 rfl (lv_at hl 0 rfl) ?_
      refine lv_iconst (v := (2 : Int32)) hx hb dX6_put_47 rfl ?_
      refine lv_iadd hx hb dX6_put_48 ?_
      refine lv_aload_n hx hb dX6_put_49 rfl (lv_at hl 3 rfl) ?_
      refine va_getN (ci := 3) (v := .int v_o2_delay) (C := RX3) (T := TX3) (N := 5) hx hb htT inlX3 hown hK hP 2 rfl rfl 4 (by decide) (va_Nw.use rfl (hN _ qn_16)) (fun _ h9 => h9) rfl dX6_put_50 ?_
      obtain ⟨g5, h⟩ := gd h
      refine va_iast hx hb hK hP hD hS 1 1 rfl rfl (inB_in g5) dX6_put_53 (fun H locs hP hD hS => ?_)
      have hP : va_P D vwCl (k_Shelf cC cI cZ a_this a_cells v_places v_filled n_cells (upd (upd (upd A_cells (((p1 * (31 : Int32)) + (0 : Int32))).toNatClampNeg v_o2_size) (((p1 * (31 : Int32)) + (1 : Int32))).toNatClampNeg v_o2_promise) (((p1 * (31 : Int32)) + (2 : Int32))).toNatClampNeg v_o2_delay) ++ k_Log cC cI cZ a_o2 a_o2_times a_o2_values v_o2_size v_o2_promise v_o2_delay A_o2_times A_o2_values) H := hP
      have hD : va_D A (k_Shelf cC cI cZ a_this a_cells v_places v_filled n_cells (upd (upd (upd A_cells (((p1 * (31 : Int32)) + (0 : Int32))).toNatClampNeg v_o2_size) (((p1 * (31 : Int32)) + (1 : Int32))).toNatClampNeg v_o2_promise) (((p1 * (31 : Int32)) + (2 : Int32))).toNatClampNeg v_o2_delay) ++ k_Log cC cI cZ a_o2 a_o2_times a_o2_values v_o2_size v_o2_promise v_o2_delay A_o2_times A_o2_values) := hD
      refine lv_iconst (v := (0 : Int32)) hx hb dX6_put_54 rfl ?_
      refine lv_istore (lv' := [(4, .int (0 : Int32)), (3, .int (p1 * (31 : Int32))), (0, .ref a_this), (1, .int p1), (2, .ref a_o2)]) hx hb dX6_put_55 hl (by decide) rfl (fun ls hl => ?_)
      have LP57 : ∀ (n : Nat) (y57_4 : Int32) (A_cells_57 : Nat → Int32) (zq57 : (Nat → Int32)), f_Shelf_put_L57 p1 (p1 * (31 : Int32)) n_cells A_o2_times A_o2_values n y57_4 A_cells_57 = some zq57 → ∀ (H : Heap) (locs : List Loc) (ls : Array Slot), va_P D vwCl (k_Shelf cC cI cZ a_this a_cells v_places v_filled n_cells A_cells_57 ++ k_Log cC cI cZ a_o2 a_o2_times a_o2_values v_o2_size v_o2_promise v_o2_delay A_o2_times A_o2_values) H → va_D A (k_Shelf cC cI cZ a_this a_cells v_places v_filled n_cells A_cells_57 ++ k_Log cC cI cZ a_o2 a_o2_times a_o2_values v_o2_size v_o2_promise v_o2_delay A_o2_times A_o2_values) → va_S A s.heap H locs → lv_has ls 5 [(0, .ref a_this), (1, .int p1), (2, .ref a_o2), (3, .int (p1 * (31 : Int32))), (4, .int y57_4)] → (∀ (H : Heap) (locs : List Loc) (ls : Array Slot), va_P D vwCl (k_Shelf cC cI cZ a_this a_cells v_places v_filled n_cells zq57 ++ k_Log cC cI cZ a_o2 a_o2_times a_o2_values v_o2_size v_o2_promise v_o2_delay A_o2_times A_o2_values) H → va_D A (k_Shelf cC cI cZ a_this a_cells v_places v_filled n_cells zq57 ++ k_Log cC cI cZ a_o2 a_o2_times a_o2_values v_o2_size v_o2_promise v_o2_delay A_o2_times A_o2_values) → va_S A s.heap H locs → lv_has ls 5 [(0, .ref a_this), (1, .int p1)] → W p l e (RM 0 0) s m args below meth c H locs 0 0 Q (F0 m 107 ls [])) → W p l e (RM 0 0) s m args below meth c H locs 0 0 Q (F0 m 57 ls []) := by
        clear h
        intro n
        induction n with
        | zero =>
          intro y57_4 A_cells_57 zq57 h
          rw [f_Shelf_put_L57_0] at h
          cases h
        | succ n ih57 =>
          intro y57_4 A_cells_57 zq57 h H locs ls hP hD hS hl k57_0
          rw [f_Shelf_put_L57_s] at h
          refine lv_iload hx hb dX6_put_57 (lv_at hl 4 rfl) ?_
          refine lv_bipush (v := (14 : Int32)) hx hb dX6_put_59 rfl ?_
          refine lv_icmp_ge (tgt := 107) hx hb dX6_put_61 (by decide) (fun c7 => ?_) (fun c7 => ?_)
          · have h := ip c7 h
            obtain rfl := Option.some.inj h
            exact k57_0 _ _ _ hP hD hS (lv_sub hl [0, 1] rfl)
          · have h := im c7 h
            refine lv_aload_n hx hb dX6_put_64 rfl (lv_at hl 0 rfl) ?_
            refine va_get (ci := 6) (v := .ref a_cells) (C := RX6) (T := TX6) (N := 3) hx hb htT inlX6 hown hK hP 0 rfl rfl 1 (by decide) (htT _ q_4_18) (fun _ h9 => h9) rfl dX6_put_65 ?_
            refine lv_iload_n hx hb dX6_put_68 rfl (lv_at hl 3 rfl) ?_
            refine lv_iconst (v := (3 : Int32)) hx hb dX6_put_69 rfl ?_
            refine lv_iadd hx hb dX6_put_70 ?_
            refine lv_iload hx hb dX6_put_71 (lv_at hl 4 rfl) ?_
            refine lv_iadd hx hb dX6_put_73 ?_
            refine lv_aload_n hx hb dX6_put_74 rfl (lv_at hl 2 rfl) ?_
            refine va_getN (ci := 3) (v := .ref a_o2_times) (C := RX3) (T := TX3) (N := 5) hx hb htT inlX3 hown hK hP 2 rfl rfl 0 (by decide) (va_Nw.use rfl (hN _ qn_2)) (fun _ h9 => h9) rfl dX6_put_75 ?_
            refine lv_iload hx hb dX6_put_78 (lv_at hl 4 rfl) ?_
            obtain ⟨g8, h⟩ := gd h
            refine va_iald hx hb hK hP 3 1 rfl rfl (inB_in g8) dX6_put_80 ?_
            obtain ⟨g9, h⟩ := gd h
            refine va_iast hx hb hK hP hD hS 1 1 rfl rfl (inB_in g9) dX6_put_81 (fun H locs hP hD hS => ?_)
            have hP : va_P D vwCl (k_Shelf cC cI cZ a_this a_cells v_places v_filled n_cells (upd A_cells_57 ((((p1 * (31 : Int32)) + (3 : Int32)) + y57_4)).toNatClampNeg (A_o2_times (y57_4).toNatClampNeg)) ++ k_Log cC cI cZ a_o2 a_o2_times a_o2_values v_o2_size v_o2_promise v_o2_delay A_o2_times A_o2_values) H := hP
            have hD : va_D A (k_Shelf cC cI cZ a_this a_cells v_places v_filled n_cells (upd A_cells_57 ((((p1 * (31 : Int32)) + (3 : Int32)) + y57_4)).toNatClampNeg (A_o2_times (y57_4).toNatClampNeg)) ++ k_Log cC cI cZ a_o2 a_o2_times a_o2_values v_o2_size v_o2_promise v_o2_delay A_o2_times A_o2_values) := hD
            refine lv_aload_n hx hb dX6_put_82 rfl (lv_at hl 0 rfl) ?_
            refine va_get (ci := 6) (v := .ref a_cells) (C := RX6) (T := TX6) (N := 3) hx hb htT inlX6 hown hK hP 0 rfl rfl 1 (by decide) (htT _ q_4_18) (fun _ h9 => h9) rfl dX6_put_83 ?_
            refine lv_iload_n hx hb dX6_put_86 rfl (lv_at hl 3 rfl) ?_
            refine lv_bipush (v := (17 : Int32)) hx hb dX6_put_87 rfl ?_
            refine lv_iadd hx hb dX6_put_89 ?_
            refine lv_iload hx hb dX6_put_90 (lv_at hl 4 rfl) ?_
            refine lv_iadd hx hb dX6_put_92 ?_
            refine lv_aload_n hx hb dX6_put_93 rfl (lv_at hl 2 rfl) ?_
            refine va_getN (ci := 3) (v := .ref a_o2_values) (C := RX3) (T := TX3) (N := 5) hx hb htT inlX3 hown hK hP 2 rfl rfl 1 (by decide) (va_Nw.use rfl (hN _ qn_4)) (fun _ h9 => h9) rfl dX6_put_94 ?_
            refine lv_iload hx hb dX6_put_97 (lv_at hl 4 rfl) ?_
            obtain ⟨g10, h⟩ := gd h
            refine va_iald hx hb hK hP 4 1 rfl rfl (inB_in g10) dX6_put_99 ?_
            obtain ⟨g11, h⟩ := gd h
            refine va_iast hx hb hK hP hD hS 1 1 rfl rfl (inB_in g11) dX6_put_100 (fun H locs hP hD hS => ?_)
            have hP : va_P D vwCl (k_Shelf cC cI cZ a_this a_cells v_places v_filled n_cells (upd (upd A_cells_57 ((((p1 * (31 : Int32)) + (3 : Int32)) + y57_4)).toNatClampNeg (A_o2_times (y57_4).toNatClampNeg)) ((((p1 * (31 : Int32)) + (17 : Int32)) + y57_4)).toNatClampNeg (A_o2_values (y57_4).toNatClampNeg)) ++ k_Log cC cI cZ a_o2 a_o2_times a_o2_values v_o2_size v_o2_promise v_o2_delay A_o2_times A_o2_values) H := hP
            have hD : va_D A (k_Shelf cC cI cZ a_this a_cells v_places v_filled n_cells (upd (upd A_cells_57 ((((p1 * (31 : Int32)) + (3 : Int32)) + y57_4)).toNatClampNeg (A_o2_times (y57_4).toNatClampNeg)) ((((p1 * (31 : Int32)) + (17 : Int32)) + y57_4)).toNatClampNeg (A_o2_values (y57_4).toNatClampNeg)) ++ k_Log cC cI cZ a_o2 a_o2_times a_o2_values v_o2_size v_o2_promise v_o2_delay A_o2_times A_o2_values) := hD
            refine lv_iinc (v := (y57_4 + (1 : Int32))) (lv' := [(4, .int (y57_4 + (1 : Int32))), (0, .ref a_this), (1, .int p1), (2, .ref a_o2), (3, .int (p1 * (31 : Int32)))]) hx hb dX6_put_101 hl (k := 4) rfl rfl (by decide) rfl (fun ls hl => ?_)
            refine lv_goto (tgt := 57) hx hb dX6_put_104 (by decide) ?_
            exact ih57 (y57_4 + (1 : Int32)) (upd (upd A_cells_57 ((((p1 * (31 : Int32)) + (3 : Int32)) + y57_4)).toNatClampNeg (A_o2_times (y57_4).toNatClampNeg)) ((((p1 * (31 : Int32)) + (17 : Int32)) + y57_4)).toNatClampNeg (A_o2_values (y57_4).toNatClampNeg)) _ h _ _ _ hP hD hS (lv_sub hl [1, 2, 3, 4, 0] rfl) k57_0
      obtain ⟨z6, e6, h⟩ := bd h
      refine LP57 fu (0 : Int32) (upd (upd (upd A_cells (((p1 * (31 : Int32)) + (0 : Int32))).toNatClampNeg v_o2_size) (((p1 * (31 : Int32)) + (1 : Int32))).toNatClampNeg v_o2_promise) (((p1 * (31 : Int32)) + (2 : Int32))).toNatClampNeg v_o2_delay) z6 e6 _ _ _ hP hD hS (lv_sub hl [2, 3, 4, 1, 0] rfl) ?_
      intro H locs ls hP hD hS hl
      refine lv_aload_n hx hb dX6_put_107 rfl (lv_at hl 0 rfl) ?_
      refine lv_dup hx hb dX6_put_108 rfl ?_
      refine va_get (ci := 6) (v := .int v_filled) (C := RX6) (T := TX6) (N := 3) hx hb htT inlX6 hown hK hP 0 rfl rfl 2 (by decide) (htT _ q_4_19) (fun _ h9 => h9) rfl dX6_put_109 ?_
      refine lv_iconst (v := (1 : Int32)) hx hb dX6_put_112 rfl ?_
      refine lv_iload_n hx hb dX6_put_113 rfl (lv_at hl 1 rfl) ?_
      refine lv_ishl hx hb dX6_put_114 ?_
      refine lv_ior hx hb dX6_put_115 ?_
      refine va_put (ci := 6) (v := .int (v_filled ||| ((1 : Int32) <<< (p1 &&& 31)))) (ty := .int) (C := RX6) (T := TX6) (N := 3) hx hb htT inlX6 tyX6 tyX6_ok nmX6 hown hK hP hD hS 0 rfl rfl 2 (by decide) (htT _ q_4_19) (fun _ h9 => h9) rfl (tyX6_ok 2 (by decide)) rfl rfl (Nat.le_of_ble_eq_true rfl) dX6_put_116 (fun H locs hP hD hS => ?_)
      have hP : va_P D vwCl (k_Shelf cC cI cZ a_this a_cells v_places (v_filled ||| ((1 : Int32) <<< (p1 &&& 31))) n_cells z6 ++ k_Log cC cI cZ a_o2 a_o2_times a_o2_values v_o2_size v_o2_promise v_o2_delay A_o2_times A_o2_values) H := hP
      have hD : va_D A (k_Shelf cC cI cZ a_this a_cells v_places (v_filled ||| ((1 : Int32) <<< (p1 &&& 31))) n_cells z6 ++ k_Log cC cI cZ a_o2 a_o2_times a_o2_values v_o2_size v_o2_promise v_o2_delay A_o2_times A_o2_values) := hD
      obtain rfl := Option.some.inj h
      exact hret _ _ _ _ hP hS dX6_put_119
    · have h := im c2 h
      obtain rfl := Option.some.inj h
      exact hret _ _ _ _ hP hS dX6_put_12
set_option maxHeartbeats 4000000 in
set_option maxRecDepth 100000 in
theorem c_History_push (l : Launch) (D : va_G) (cC cI cZ : ClassId) (a_this : Nat) (a_ring : Nat) (a_ring_cells : Nat) (a_o1 : Nat) (a_o1_times : Nat) (a_o1_values : Nat) (v_next : Int32) (v_size : Int32) (v_ring_places : Int32) (v_ring_filled : Int32) (n_ring_cells : Nat) (A_ring_cells : Nat → Int32) (v_o1_size : Int32) (v_o1_promise : Int32) (v_o1_delay : Int32) (A_o1_times : Nat → Int32) (A_o1_values : Nat → Int32)  (sz : Nat) (z : Int32 × Int32 × Int32 × (Nat → Int32)) (h : f_History_push v_next v_size v_ring_places v_ring_filled n_ring_cells A_ring_cells v_o1_size v_o1_promise v_o1_delay A_o1_times A_o1_values = some z) : Met l yX1_push (.code yX1_push cX1_push 2 none :: TBL) (RM 1 24) (PcM [.ref a_this, .ref a_o1] sz D (TY cC cI cZ) (k_History cC cI cZ a_this a_ring a_ring_cells v_next v_size v_ring_places v_ring_filled n_ring_cells A_ring_cells ++ k_Log cC cI cZ a_o1 a_o1_times a_o1_values v_o1_size v_o1_promise v_o1_delay A_o1_times A_o1_values)) (QM none D (k_History cC cI cZ a_this a_ring a_ring_cells z.1 z.2.1 v_ring_places z.2.2.1 n_ring_cells z.2.2.2 ++ k_Log cC cI cZ a_o1 a_o1_times a_o1_values v_o1_size v_o1_promise v_o1_delay A_o1_times A_o1_values) (va_A (k_History cC cI cZ a_this a_ring a_ring_cells v_next v_size v_ring_places v_ring_filled n_ring_cells A_ring_cells ++ k_Log cC cI cZ a_o1 a_o1_times a_o1_values v_o1_size v_o1_promise v_o1_delay A_o1_times A_o1_values) sz)) 0 0 (va_A (k_History cC cI cZ a_this a_ring a_ring_cells v_next v_size v_ring_places v_ring_filled n_ring_cells A_ring_cells ++ k_Log cC cI cZ a_o1 a_o1_times a_o1_values v_o1_size v_o1_promise v_o1_delay A_o1_times A_o1_values) sz) := by
  refine muOfV (by decide) (Nat.le_of_ble_eq_true rfl) rfl ?_
  intro p e s m args below meth c Q ls A X hP hD hS hA hl hret
  have X : Ctx p s m args c cX1_push 2 RX1 D (TY cC cI cZ) := X
  obtain ⟨hx, hb, hml, hown, htT, hK, hN⟩ := id X
  unfold f_History_push at h
  refine lv_aload_n hx hb dX1_push_0 rfl (lv_at hl 0 rfl) ?_
  refine va_get (ci := 1) (v := .ref a_ring) (C := RX1) (T := TX1) (N := 3) hx hb htT inlX1 hown hK hP 0 rfl rfl 0 (by decide) (htT _ q_4_10) (fun _ h9 => h9) rfl dX1_push_1 ?_
  refine lv_aload_n hx hb dX1_push_4 rfl (lv_at hl 0 rfl) ?_
  refine va_get (ci := 1) (v := .int v_next) (C := RX1) (T := TX1) (N := 3) hx hb htT inlX1 hown hK hP 0 rfl rfl 1 (by decide) (htT _ q_4_11) (fun _ h9 => h9) rfl dX1_push_5 ?_
  refine lv_aload_n hx hb dX1_push_8 rfl (lv_at hl 1 rfl) ?_
  obtain ⟨z1, e1, h⟩ := bd h
  refine muVV (ws' := (k_History cC cI cZ a_this a_ring a_ring_cells v_next v_size v_ring_places z1.1 n_ring_cells z1.2 ++ k_Log cC cI cZ a_o1 a_o1_times a_o1_values v_o1_size v_o1_promise v_o1_delay A_o1_times A_o1_values)) X [.int v_next, .ref a_o1] [] (c_Shelf_put l D cC cI cZ a_ring a_ring_cells a_o1 a_o1_times a_o1_values v_ring_places v_ring_filled n_ring_cells A_ring_cells v_o1_size v_o1_promise v_o1_delay A_o1_times A_o1_values v_next _ z1 e1) gg_X1_27 hd_Shelf_put ⟨rfl, rfl, Nat.le_of_ble_eq_true rfl, Nat.le_of_ble_eq_true rfl⟩ ⟨Nat.zero_le _, Nat.zero_le _⟩ hP hD hS hA [1, 2, 3, 4, 5] [0] [0, 1, 2, 3, 4, 5] rfl rfl (by decide) (by decide) rfl rfl rfl rfl rfl hl.1 rfl (Nat.le_of_ble_eq_true rfl) dX1_push_9 (fun H locs hP hD hS => ?_)
  refine lv_aload_n hx hb dX1_push_12 rfl (lv_at hl 0 rfl) ?_
  refine lv_aload_n hx hb dX1_push_13 rfl (lv_at hl 0 rfl) ?_
  refine va_get (ci := 1) (v := .int v_next) (C := RX1) (T := TX1) (N := 3) hx hb htT inlX1 hown hK hP 0 rfl rfl 1 (by decide) (htT _ q_4_11) (fun _ h9 => h9) rfl dX1_push_14 ?_
  refine lv_iconst (v := (1 : Int32)) hx hb dX1_push_17 rfl ?_
  refine lv_iadd hx hb dX1_push_18 ?_
  refine lv_bipush (v := (10 : Int32)) hx hb dX1_push_19 rfl ?_
  refine lv_icmp_ge (tgt := 33) hx hb dX1_push_21 (by decide) (fun c2 => ?_) (fun c2 => ?_)
  · have h := ip c2 h
    refine lv_iconst (v := (0 : Int32)) hx hb dX1_push_33 rfl ?_
    refine va_put (ci := 1) (v := .int (0 : Int32)) (ty := .int) (C := RX1) (T := TX1) (N := 3) hx hb htT inlX1 tyX1 tyX1_ok nmX1 hown hK hP hD hS 0 rfl rfl 1 (by decide) (htT _ q_4_11) (fun _ h9 => h9) rfl (tyX1_ok 1 (by decide)) rfl rfl (Nat.le_of_ble_eq_true rfl) dX1_push_34 (fun H locs hP hD hS => ?_)
    have hP : va_P D vwCl (k_History cC cI cZ a_this a_ring a_ring_cells (0 : Int32) v_size v_ring_places z1.1 n_ring_cells z1.2 ++ k_Log cC cI cZ a_o1 a_o1_times a_o1_values v_o1_size v_o1_promise v_o1_delay A_o1_times A_o1_values) H := hP
    have hD : va_D A (k_History cC cI cZ a_this a_ring a_ring_cells (0 : Int32) v_size v_ring_places z1.1 n_ring_cells z1.2 ++ k_Log cC cI cZ a_o1 a_o1_times a_o1_values v_o1_size v_o1_promise v_o1_delay A_o1_times A_o1_values) := hD
    refine lv_aload_n hx hb dX1_push_37 rfl (lv_at hl 0 rfl) ?_
    refine lv_aload_n hx hb dX1_push_38 rfl (lv_at hl 0 rfl) ?_
    refine va_get (ci := 1) (v := .int v_size) (C := RX1) (T := TX1) (N := 3) hx hb htT inlX1 hown hK hP 0 rfl rfl 2 (by decide) (htT _ q_4_12) (fun _ h9 => h9) rfl dX1_push_39 ?_
    refine lv_iconst (v := (1 : Int32)) hx hb dX1_push_42 rfl ?_
    refine lv_iadd hx hb dX1_push_43 ?_
    refine lv_bipush (v := (10 : Int32)) hx hb dX1_push_44 rfl ?_
    refine va_mmin hx hb (hml.trans hl.1.symm) hown (htT _ q_16_14) (htT _ q_16_15) (htT _ q_16_16) (htT _ q_16_17) (Nat.le_of_ble_eq_true rfl) (Nat.le_of_ble_eq_true rfl) (Nat.zero_le _) (Nat.zero_le _) dX1_push_46 ?_
    refine va_put (ci := 1) (v := .int (if (10 : Int32) < (v_size + (1 : Int32)) then (10 : Int32) else (v_size + (1 : Int32)))) (ty := .int) (C := RX1) (T := TX1) (N := 3) hx hb htT inlX1 tyX1 tyX1_ok nmX1 hown hK hP hD hS 0 rfl rfl 2 (by decide) (htT _ q_4_12) (fun _ h9 => h9) rfl (tyX1_ok 2 (by decide)) rfl rfl (Nat.le_of_ble_eq_true rfl) dX1_push_49 (fun H locs hP hD hS => ?_)
    have hP : va_P D vwCl (k_History cC cI cZ a_this a_ring a_ring_cells (0 : Int32) (if (10 : Int32) < (v_size + (1 : Int32)) then (10 : Int32) else (v_size + (1 : Int32))) v_ring_places z1.1 n_ring_cells z1.2 ++ k_Log cC cI cZ a_o1 a_o1_times a_o1_values v_o1_size v_o1_promise v_o1_delay A_o1_times A_o1_values) H := hP
    have hD : va_D A (k_History cC cI cZ a_this a_ring a_ring_cells (0 : Int32) (if (10 : Int32) < (v_size + (1 : Int32)) then (10 : Int32) else (v_size + (1 : Int32))) v_ring_places z1.1 n_ring_cells z1.2 ++ k_Log cC cI cZ a_o1 a_o1_times a_o1_values v_o1_size v_o1_promise v_o1_delay A_o1_times A_o1_values) := hD
    obtain rfl := Option.some.inj h
    exact hret _ _ _ _ hP hS dX1_push_52
  · have h := im c2 h
    refine lv_aload_n hx hb dX1_push_24 rfl (lv_at hl 0 rfl) ?_
    refine va_get (ci := 1) (v := .int v_next) (C := RX1) (T := TX1) (N := 3) hx hb htT inlX1 hown hK hP 0 rfl rfl 1 (by decide) (htT _ q_4_11) (fun _ h9 => h9) rfl dX1_push_25 ?_
    refine lv_iconst (v := (1 : Int32)) hx hb dX1_push_28 rfl ?_
    refine lv_iadd hx hb dX1_push_29 ?_
    refine lv_goto (tgt := 34) hx hb dX1_push_30 (by decide) ?_
    refine va_put (ci := 1) (v := .int (v_next + (1 : Int32))) (ty := .int) (C := RX1) (T := TX1) (N := 3) hx hb htT inlX1 tyX1 tyX1_ok nmX1 hown hK hP hD hS 0 rfl rfl 1 (by decide) (htT _ q_4_11) (fun _ h9 => h9) rfl (tyX1_ok 1 (by decide)) rfl rfl (Nat.le_of_ble_eq_true rfl) dX1_push_34 (fun H locs hP hD hS => ?_)
    have hP : va_P D vwCl (k_History cC cI cZ a_this a_ring a_ring_cells (v_next + (1 : Int32)) v_size v_ring_places z1.1 n_ring_cells z1.2 ++ k_Log cC cI cZ a_o1 a_o1_times a_o1_values v_o1_size v_o1_promise v_o1_delay A_o1_times A_o1_values) H := hP
    have hD : va_D A (k_History cC cI cZ a_this a_ring a_ring_cells (v_next + (1 : Int32)) v_size v_ring_places z1.1 n_ring_cells z1.2 ++ k_Log cC cI cZ a_o1 a_o1_times a_o1_values v_o1_size v_o1_promise v_o1_delay A_o1_times A_o1_values) := hD
    refine lv_aload_n hx hb dX1_push_37 rfl (lv_at hl 0 rfl) ?_
    refine lv_aload_n hx hb dX1_push_38 rfl (lv_at hl 0 rfl) ?_
    refine va_get (ci := 1) (v := .int v_size) (C := RX1) (T := TX1) (N := 3) hx hb htT inlX1 hown hK hP 0 rfl rfl 2 (by decide) (htT _ q_4_12) (fun _ h9 => h9) rfl dX1_push_39 ?_
    refine lv_iconst (v := (1 : Int32)) hx hb dX1_push_42 rfl ?_
    refine lv_iadd hx hb dX1_push_43 ?_
    refine lv_bipush (v := (10 : Int32)) hx hb dX1_push_44 rfl ?_
    refine va_mmin hx hb (hml.trans hl.1.symm) hown (htT _ q_16_14) (htT _ q_16_15) (htT _ q_16_16) (htT _ q_16_17) (Nat.le_of_ble_eq_true rfl) (Nat.le_of_ble_eq_true rfl) (Nat.zero_le _) (Nat.zero_le _) dX1_push_46 ?_
    refine va_put (ci := 1) (v := .int (if (10 : Int32) < (v_size + (1 : Int32)) then (10 : Int32) else (v_size + (1 : Int32)))) (ty := .int) (C := RX1) (T := TX1) (N := 3) hx hb htT inlX1 tyX1 tyX1_ok nmX1 hown hK hP hD hS 0 rfl rfl 2 (by decide) (htT _ q_4_12) (fun _ h9 => h9) rfl (tyX1_ok 2 (by decide)) rfl rfl (Nat.le_of_ble_eq_true rfl) dX1_push_49 (fun H locs hP hD hS => ?_)
    have hP : va_P D vwCl (k_History cC cI cZ a_this a_ring a_ring_cells (v_next + (1 : Int32)) (if (10 : Int32) < (v_size + (1 : Int32)) then (10 : Int32) else (v_size + (1 : Int32))) v_ring_places z1.1 n_ring_cells z1.2 ++ k_Log cC cI cZ a_o1 a_o1_times a_o1_values v_o1_size v_o1_promise v_o1_delay A_o1_times A_o1_values) H := hP
    have hD : va_D A (k_History cC cI cZ a_this a_ring a_ring_cells (v_next + (1 : Int32)) (if (10 : Int32) < (v_size + (1 : Int32)) then (10 : Int32) else (v_size + (1 : Int32))) v_ring_places z1.1 n_ring_cells z1.2 ++ k_Log cC cI cZ a_o1 a_o1_times a_o1_values v_o1_size v_o1_promise v_o1_delay A_o1_times A_o1_values) := hD
    obtain rfl := Option.some.inj h
    exact hret _ _ _ _ hP hS dX1_push_52
set_option maxHeartbeats 4000000 in
set_option maxRecDepth 100000 in
theorem c_History_wipe (l : Launch) (D : va_G) (cC cI cZ : ClassId) (a_this : Nat) (a_ring : Nat) (a_ring_cells : Nat) (v_next : Int32) (v_size : Int32) (v_ring_places : Int32) (v_ring_filled : Int32) (n_ring_cells : Nat) (A_ring_cells : Nat → Int32)  (sz : Nat) (z : Int32) (h : f_History_wipe v_size = some z) : Met l yX1_wipe (.code yX1_wipe cX1_wipe 1 none :: TBL) (RM 0 0) (PcM [.ref a_this] sz D (TY cC cI cZ) (k_History cC cI cZ a_this a_ring a_ring_cells v_next v_size v_ring_places v_ring_filled n_ring_cells A_ring_cells)) (QM none D (k_History cC cI cZ a_this a_ring a_ring_cells v_next z v_ring_places v_ring_filled n_ring_cells A_ring_cells) (va_A (k_History cC cI cZ a_this a_ring a_ring_cells v_next v_size v_ring_places v_ring_filled n_ring_cells A_ring_cells) sz)) 0 0 (va_A (k_History cC cI cZ a_this a_ring a_ring_cells v_next v_size v_ring_places v_ring_filled n_ring_cells A_ring_cells) sz) := by
  refine muOfV (by decide) (Nat.le_of_ble_eq_true rfl) rfl ?_
  intro p e s m args below meth c Q ls A X hP hD hS hA hl hret
  have X : Ctx p s m args c cX1_wipe 1 RX1 D (TY cC cI cZ) := X
  obtain ⟨hx, hb, hml, hown, htT, hK, hN⟩ := id X
  unfold f_History_wipe at h
  refine lv_aload_n hx hb dX1_wipe_0 rfl (lv_at hl 0 rfl) ?_
  refine lv_iconst (v := (0 : Int32)) hx hb dX1_wipe_1 rfl ?_
  refine va_put (ci := 1) (v := .int (0 : Int32)) (ty := .int) (C := RX1) (T := TX1) (N := 3) hx hb htT inlX1 tyX1 tyX1_ok nmX1 hown hK hP hD hS 0 rfl rfl 2 (by decide) (htT _ q_4_12) (fun _ h9 => h9) rfl (tyX1_ok 2 (by decide)) rfl rfl (Nat.le_of_ble_eq_true rfl) dX1_wipe_2 (fun H locs hP hD hS => ?_)
  have hP : va_P D vwCl (k_History cC cI cZ a_this a_ring a_ring_cells v_next (0 : Int32) v_ring_places v_ring_filled n_ring_cells A_ring_cells) H := hP
  have hD : va_D A (k_History cC cI cZ a_this a_ring a_ring_cells v_next (0 : Int32) v_ring_places v_ring_filled n_ring_cells A_ring_cells) := hD
  obtain rfl := Option.some.inj h
  exact hret _ _ _ _ hP hS dX1_wipe_5
set_option maxHeartbeats 4000000 in
set_option maxRecDepth 100000 in
theorem c_Shelf_wipe (l : Launch) (D : va_G) (cC cI cZ : ClassId) (a_this : Nat) (a_cells : Nat) (v_places : Int32) (v_filled : Int32) (n_cells : Nat) (A_cells : Nat → Int32)  (sz : Nat) (z : Int32) (h : f_Shelf_wipe v_filled = some z) : Met l yX6_wipe (.code yX6_wipe cX6_wipe 1 none :: TBL) (RM 0 0) (PcM [.ref a_this] sz D (TY cC cI cZ) (k_Shelf cC cI cZ a_this a_cells v_places v_filled n_cells A_cells)) (QM none D (k_Shelf cC cI cZ a_this a_cells v_places z n_cells A_cells) (va_A (k_Shelf cC cI cZ a_this a_cells v_places v_filled n_cells A_cells) sz)) 0 0 (va_A (k_Shelf cC cI cZ a_this a_cells v_places v_filled n_cells A_cells) sz) := by
  refine muOfV (by decide) (Nat.le_of_ble_eq_true rfl) rfl ?_
  intro p e s m args below meth c Q ls A X hP hD hS hA hl hret
  have X : Ctx p s m args c cX6_wipe 1 RX6 D (TY cC cI cZ) := X
  obtain ⟨hx, hb, hml, hown, htT, hK, hN⟩ := id X
  unfold f_Shelf_wipe at h
  refine lv_aload_n hx hb dX6_wipe_0 rfl (lv_at hl 0 rfl) ?_
  refine lv_iconst (v := (0 : Int32)) hx hb dX6_wipe_1 rfl ?_
  refine va_put (ci := 6) (v := .int (0 : Int32)) (ty := .int) (C := RX6) (T := TX6) (N := 3) hx hb htT inlX6 tyX6 tyX6_ok nmX6 hown hK hP hD hS 0 rfl rfl 2 (by decide) (htT _ q_4_19) (fun _ h9 => h9) rfl (tyX6_ok 2 (by decide)) rfl rfl (Nat.le_of_ble_eq_true rfl) dX6_wipe_2 (fun H locs hP hD hS => ?_)
  have hP : va_P D vwCl (k_Shelf cC cI cZ a_this a_cells v_places (0 : Int32) n_cells A_cells) H := hP
  have hD : va_D A (k_Shelf cC cI cZ a_this a_cells v_places (0 : Int32) n_cells A_cells) := hD
  obtain rfl := Option.some.inj h
  exact hret _ _ _ _ hP hS dX6_wipe_5

set_option maxHeartbeats 4000000 in
set_option maxRecDepth 100000 in
theorem c_Log_has (l : Launch) (D : va_G) (cC cI cZ : ClassId) (a_this : Nat) (a_times : Nat) (a_values : Nat) (v_size : Int32) (v_promise : Int32) (v_delay : Int32) (A_times : Nat → Int32) (A_values : Nat → Int32) (p1 : Int32) (r : Int32) (h : f_Log_has v_size p1 = r) : Met l yX3_has (.code yX3_has cX3_has 2 (some .boolean) :: TBL) (RM 0 0) (PcR [.ref a_this, .int p1] D (TY cC cI cZ) (k_Log cC cI cZ a_this a_times a_values v_size v_promise v_delay A_times A_values)) (vp_Si (PO .boolean r)) 0 0 (fun _ => False) := by
  refine roOf (by decide) (Nat.le_of_ble_eq_true rfl) rfl ?_
  intro p e s m args below meth c Q ls X hP hl hret
  have X : Ctx p s m args c cX3_has 2 RX3 D (TY cC cI cZ) := X
  obtain ⟨hx, hb, hml, hown, htT, hK, hN⟩ := id X
  unfold f_Log_has at h
  refine lv_iload_n hx hb dX3_has_0 rfl (lv_at hl 1 rfl) ?_
  refine lv_if_lt (tgt := 16) hx hb dX3_has_1 (by decide) (fun c1 => ?_) (fun c1 => ?_)
  · have h := ip c1 h
    refine lv_iconst (v := (0 : Int32)) hx hb dX3_has_16 rfl ?_
    exact hret _ _ _ dX3_has_17 h rfl
  · have h := im c1 h
    refine lv_iload_n hx hb dX3_has_4 rfl (lv_at hl 1 rfl) ?_
    refine lv_aload_n hx hb dX3_has_5 rfl (lv_at hl 0 rfl) ?_
    refine va_get (ci := 3) (v := .int v_size) (C := RX3) (T := TX3) (N := 5) hx hb htT inlX3 hown hK hP 0 rfl rfl 2 (by decide) (htT _ q_4_1) (fun _ h9 => h9) rfl dX3_has_6 ?_
    refine lv_icmp_ge (tgt := 16) hx hb dX3_has_9 (by decide) (fun c2 => ?_) (fun c2 => ?_)
    · have h := ip c2 h
      refine lv_iconst (v := (0 : Int32)) hx hb dX3_has_16 rfl ?_
      exact hret _ _ _ dX3_has_17 h rfl
    · have h := im c2 h
      refine lv_iconst (v := (1 : Int32)) hx hb dX3_has_12 rfl ?_
      refine lv_goto (tgt := 17) hx hb dX3_has_13 (by decide) ?_
      exact hret _ _ _ dX3_has_17 h rfl
set_option maxHeartbeats 4000000 in
set_option maxRecDepth 100000 in
theorem c_Log_timeAt (l : Launch) (D : va_G) (cC cI cZ : ClassId) (a_this : Nat) (a_times : Nat) (a_values : Nat) (v_size : Int32) (v_promise : Int32) (v_delay : Int32) (A_times : Nat → Int32) (A_values : Nat → Int32) (p1 : Int32) (r : Int32) (h : f_Log_timeAt v_size A_times p1 = some r) : Met l yX3_timeAt (.code yX3_timeAt cX3_timeAt 2 (some .int) :: TBL) (RM 1 21) (PcR [.ref a_this, .int p1] D (TY cC cI cZ) (k_Log cC cI cZ a_this a_times a_values v_size v_promise v_delay A_times A_values)) (vp_Si (PO .int r)) 0 0 (fun _ => False) := by
  refine roOf (by decide) (Nat.le_of_ble_eq_true rfl) rfl ?_
  intro p e s m args below meth c Q ls X hP hl hret
  have X : Ctx p s m args c cX3_timeAt 2 RX3 D (TY cC cI cZ) := X
  obtain ⟨hx, hb, hml, hown, htT, hK, hN⟩ := id X
  unfold f_Log_timeAt at h
  refine lv_aload_n hx hb dX3_timeAt_0 rfl (lv_at hl 0 rfl) ?_
  refine lv_iload_n hx hb dX3_timeAt_1 rfl (lv_at hl 1 rfl) ?_
  refine roV X [.int p1] [] (c_Log_has l D cC cI cZ a_this a_times a_values v_size v_promise v_delay A_times A_values p1 _ rfl) gg_X3_28 hd_Log_has ⟨rfl, rfl, Nat.le_of_ble_eq_true rfl, Nat.le_of_ble_eq_true rfl⟩ ⟨Nat.zero_le _, Nat.zero_le _⟩ hP [0, 1, 2] rfl rfl rfl rfl hl.1 rfl (Nat.le_of_ble_eq_true rfl) dX3_timeAt_2 (fun n1 => ?_)
  refine lv_if_eq (tgt := 17) hx hb dX3_timeAt_5 (by decide) (fun c2 => ?_) (fun c2 => ?_)
  · have h := ip c2 h
    refine lv_bipush (v := (-9 : Int32)) hx hb dX3_timeAt_17 rfl ?_
    exact hret _ _ _ dX3_timeAt_19 (Option.some.inj h) rfl
  · have h := im c2 h
    refine lv_aload_n hx hb dX3_timeAt_8 rfl (lv_at hl 0 rfl) ?_
    refine va_get (ci := 3) (v := .ref a_times) (C := RX3) (T := TX3) (N := 5) hx hb htT inlX3 hown hK hP 0 rfl rfl 0 (by decide) (htT _ q_3_23) (fun _ h9 => h9) rfl dX3_timeAt_9 ?_
    refine lv_iload_n hx hb dX3_timeAt_12 rfl (lv_at hl 1 rfl) ?_
    obtain ⟨g3, h⟩ := gd h
    refine va_iald hx hb hK hP 1 1 rfl rfl (inB_in g3) dX3_timeAt_13 ?_
    refine lv_goto (tgt := 19) hx hb dX3_timeAt_14 (by decide) ?_
    exact hret _ _ _ dX3_timeAt_19 (Option.some.inj h) rfl
set_option maxHeartbeats 4000000 in
set_option maxRecDepth 100000 in
theorem c_Log_isKnown (l : Launch) (D : va_G) (cC cI cZ : ClassId) (a_this : Nat) (a_times : Nat) (a_values : Nat) (v_size : Int32) (v_promise : Int32) (v_delay : Int32) (A_times : Nat → Int32) (A_values : Nat → Int32) (p1 : Int32) (r : Int32) (h : f_Log_isKnown v_size A_values p1 = some r) : Met l yX3_isKnown (.code yX3_isKnown cX3_isKnown 2 (some .boolean) :: TBL) (RM 1 21) (PcR [.ref a_this, .int p1] D (TY cC cI cZ) (k_Log cC cI cZ a_this a_times a_values v_size v_promise v_delay A_times A_values)) (vp_Si (PO .boolean r)) 0 0 (fun _ => False) := by
  refine roOf (by decide) (Nat.le_of_ble_eq_true rfl) rfl ?_
  intro p e s m args below meth c Q ls X hP hl hret
  have X : Ctx p s m args c cX3_isKnown 2 RX3 D (TY cC cI cZ) := X
  obtain ⟨hx, hb, hml, hown, htT, hK, hN⟩ := id X
  unfold f_Log_isKnown at h
  refine lv_aload_n hx hb dX3_isKnown_0 rfl (lv_at hl 0 rfl) ?_
  refine lv_iload_n hx hb dX3_isKnown_1 rfl (lv_at hl 1 rfl) ?_
  refine roV X [.int p1] [] (c_Log_has l D cC cI cZ a_this a_times a_values v_size v_promise v_delay A_times A_values p1 _ rfl) gg_X3_28 hd_Log_has ⟨rfl, rfl, Nat.le_of_ble_eq_true rfl, Nat.le_of_ble_eq_true rfl⟩ ⟨Nat.zero_le _, Nat.zero_le _⟩ hP [0, 1, 2] rfl rfl rfl rfl hl.1 rfl (Nat.le_of_ble_eq_true rfl) dX3_isKnown_2 (fun n1 => ?_)
  refine lv_if_eq (tgt := 23) hx hb dX3_isKnown_5 (by decide) (fun c2 => ?_) (fun c2 => ?_)
  · have h := ip c2 h
    refine lv_iconst (v := (0 : Int32)) hx hb dX3_isKnown_23 rfl ?_
    exact hret _ _ _ dX3_isKnown_24 (Option.some.inj h) rfl
  · have h := im c2 h
    refine lv_aload_n hx hb dX3_isKnown_8 rfl (lv_at hl 0 rfl) ?_
    refine va_get (ci := 3) (v := .ref a_values) (C := RX3) (T := TX3) (N := 5) hx hb htT inlX3 hown hK hP 0 rfl rfl 1 (by decide) (htT _ q_4_0) (fun _ h9 => h9) rfl dX3_isKnown_9 ?_
    refine lv_iload_n hx hb dX3_isKnown_12 rfl (lv_at hl 1 rfl) ?_
    obtain ⟨g3, h⟩ := gd h
    refine va_iald hx hb hK hP 2 1 rfl rfl (inB_in g3) dX3_isKnown_13 ?_
    refine lv_bipush (v := (-9 : Int32)) hx hb dX3_isKnown_14 rfl ?_
    refine lv_icmp_eq (tgt := 23) hx hb dX3_isKnown_16 (by decide) (fun c4 => ?_) (fun c4 => ?_)
    · have h := ip c4 h
      refine lv_iconst (v := (0 : Int32)) hx hb dX3_isKnown_23 rfl ?_
      exact hret _ _ _ dX3_isKnown_24 (Option.some.inj h) rfl
    · have h := im c4 h
      refine lv_iconst (v := (1 : Int32)) hx hb dX3_isKnown_19 rfl ?_
      refine lv_goto (tgt := 24) hx hb dX3_isKnown_20 (by decide) ?_
      exact hret _ _ _ dX3_isKnown_24 (Option.some.inj h) rfl
set_option maxHeartbeats 4000000 in
set_option maxRecDepth 100000 in
theorem c_Log_isFirst (l : Launch) (D : va_G) (cC cI cZ : ClassId) (a_this : Nat) (a_times : Nat) (a_values : Nat) (v_size : Int32) (v_promise : Int32) (v_delay : Int32) (A_times : Nat → Int32) (A_values : Nat → Int32) (p1 : Int32) (r : Int32) (h : f_Log_isFirst v_size A_values p1 = some r) : Met l yX3_isFirst (.code yX3_isFirst cX3_isFirst 2 (some .boolean) :: TBL) (RM 2 42) (PcR [.ref a_this, .int p1] D (TY cC cI cZ) (k_Log cC cI cZ a_this a_times a_values v_size v_promise v_delay A_times A_values)) (vp_Si (PO .boolean r)) 0 0 (fun _ => False) := by
  refine roOf (by decide) (Nat.le_of_ble_eq_true rfl) rfl ?_
  intro p e s m args below meth c Q ls X hP hl hret
  have X : Ctx p s m args c cX3_isFirst 2 RX3 D (TY cC cI cZ) := X
  obtain ⟨hx, hb, hml, hown, htT, hK, hN⟩ := id X
  unfold f_Log_isFirst at h
  refine lv_aload_n hx hb dX3_isFirst_0 rfl (lv_at hl 0 rfl) ?_
  refine lv_iload_n hx hb dX3_isFirst_1 rfl (lv_at hl 1 rfl) ?_
  obtain ⟨r1, e1, h⟩ := bd h
  refine roV X [.int p1] [] (c_Log_isKnown l D cC cI cZ a_this a_times a_values v_size v_promise v_delay A_times A_values p1 r1 e1) gg_X3_32 hd_Log_isKnown ⟨rfl, rfl, Nat.le_of_ble_eq_true rfl, Nat.le_of_ble_eq_true rfl⟩ ⟨Nat.zero_le _, Nat.zero_le _⟩ hP [0, 1, 2] rfl rfl rfl rfl hl.1 rfl (Nat.le_of_ble_eq_true rfl) dX3_isFirst_2 (fun n1 => ?_)
  refine lv_if_eq (tgt := 22) hx hb dX3_isFirst_5 (by decide) (fun c2 => ?_) (fun c2 => ?_)
  · have h := ip c2 h
    refine lv_iconst (v := (0 : Int32)) hx hb dX3_isFirst_22 rfl ?_
    exact hret _ _ _ dX3_isFirst_23 (Option.some.inj h) rfl
  · have h := im c2 h
    refine lv_aload_n hx hb dX3_isFirst_8 rfl (lv_at hl 0 rfl) ?_
    refine lv_iload_n hx hb dX3_isFirst_9 rfl (lv_at hl 1 rfl) ?_
    refine lv_iconst (v := (1 : Int32)) hx hb dX3_isFirst_10 rfl ?_
    refine lv_isub hx hb dX3_isFirst_11 ?_
    obtain ⟨r3, e3, h⟩ := bd h
    refine roV X [.int (p1 - (1 : Int32))] [] (c_Log_isKnown l D cC cI cZ a_this a_times a_values v_size v_promise v_delay A_times A_values (p1 - (1 : Int32)) r3 e3) gg_X3_32 hd_Log_isKnown ⟨rfl, rfl, Nat.le_of_ble_eq_true rfl, Nat.le_of_ble_eq_true rfl⟩ ⟨Nat.zero_le _, Nat.zero_le _⟩ hP [0, 1, 2] rfl rfl rfl rfl hl.1 rfl (Nat.le_of_ble_eq_true rfl) dX3_isFirst_12 (fun n3 => ?_)
    refine lv_if_ne (tgt := 22) hx hb dX3_isFirst_15 (by decide) (fun c4 => ?_) (fun c4 => ?_)
    · have h := im c4 h
      refine lv_iconst (v := (0 : Int32)) hx hb dX3_isFirst_22 rfl ?_
      exact hret _ _ _ dX3_isFirst_23 (Option.some.inj h) rfl
    · have h := ip c4 h
      refine lv_iconst (v := (1 : Int32)) hx hb dX3_isFirst_18 rfl ?_
      refine lv_goto (tgt := 23) hx hb dX3_isFirst_19 (by decide) ?_
      exact hret _ _ _ dX3_isFirst_23 (Option.some.inj h) rfl
set_option maxHeartbeats 4000000 in
set_option maxRecDepth 100000 in
theorem c_Log_valueAt (l : Launch) (D : va_G) (cC cI cZ : ClassId) (a_this : Nat) (a_times : Nat) (a_values : Nat) (v_size : Int32) (v_promise : Int32) (v_delay : Int32) (A_times : Nat → Int32) (A_values : Nat → Int32) (p1 : Int32) (r : Int32) (h : f_Log_valueAt v_size A_values p1 = some r) : Met l yX3_valueAt (.code yX3_valueAt cX3_valueAt 2 (some .int) :: TBL) (RM 1 21) (PcR [.ref a_this, .int p1] D (TY cC cI cZ) (k_Log cC cI cZ a_this a_times a_values v_size v_promise v_delay A_times A_values)) (vp_Si (PO .int r)) 0 0 (fun _ => False) := by
  refine roOf (by decide) (Nat.le_of_ble_eq_true rfl) rfl ?_
  intro p e s m args below meth c Q ls X hP hl hret
  have X : Ctx p s m args c cX3_valueAt 2 RX3 D (TY cC cI cZ) := X
  obtain ⟨hx, hb, hml, hown, htT, hK, hN⟩ := id X
  unfold f_Log_valueAt at h
  refine lv_aload_n hx hb dX3_valueAt_0 rfl (lv_at hl 0 rfl) ?_
  refine lv_iload_n hx hb dX3_valueAt_1 rfl (lv_at hl 1 rfl) ?_
  refine roV X [.int p1] [] (c_Log_has l D cC cI cZ a_this a_times a_values v_size v_promise v_delay A_times A_values p1 _ rfl) gg_X3_28 hd_Log_has ⟨rfl, rfl, Nat.le_of_ble_eq_true rfl, Nat.le_of_ble_eq_true rfl⟩ ⟨Nat.zero_le _, Nat.zero_le _⟩ hP [0, 1, 2] rfl rfl rfl rfl hl.1 rfl (Nat.le_of_ble_eq_true rfl) dX3_valueAt_2 (fun n1 => ?_)
  refine lv_if_eq (tgt := 17) hx hb dX3_valueAt_5 (by decide) (fun c2 => ?_) (fun c2 => ?_)
  · have h := ip c2 h
    refine lv_bipush (v := (-9 : Int32)) hx hb dX3_valueAt_17 rfl ?_
    exact hret _ _ _ dX3_valueAt_19 (Option.some.inj h) rfl
  · have h := im c2 h
    refine lv_aload_n hx hb dX3_valueAt_8 rfl (lv_at hl 0 rfl) ?_
    refine va_get (ci := 3) (v := .ref a_values) (C := RX3) (T := TX3) (N := 5) hx hb htT inlX3 hown hK hP 0 rfl rfl 1 (by decide) (htT _ q_4_0) (fun _ h9 => h9) rfl dX3_valueAt_9 ?_
    refine lv_iload_n hx hb dX3_valueAt_12 rfl (lv_at hl 1 rfl) ?_
    obtain ⟨g3, h⟩ := gd h
    refine va_iald hx hb hK hP 2 1 rfl rfl (inB_in g3) dX3_valueAt_13 ?_
    refine lv_goto (tgt := 19) hx hb dX3_valueAt_14 (by decide) ?_
    exact hret _ _ _ dX3_valueAt_19 (Option.some.inj h) rfl
set_option maxHeartbeats 4000000 in
set_option maxRecDepth 100000 in
theorem c_Log_isFull (l : Launch) (D : va_G) (cC cI cZ : ClassId) (a_this : Nat) (a_times : Nat) (a_values : Nat) (v_size : Int32) (v_promise : Int32) (v_delay : Int32) (A_times : Nat → Int32) (A_values : Nat → Int32)  (r : Int32) (h : f_Log_isFull v_size = r) : Met l yX3_isFull (.code yX3_isFull cX3_isFull 1 (some .boolean) :: TBL) (RM 0 0) (PcR [.ref a_this] D (TY cC cI cZ) (k_Log cC cI cZ a_this a_times a_values v_size v_promise v_delay A_times A_values)) (vp_Si (PO .boolean r)) 0 0 (fun _ => False) := by
  refine roOf (by decide) (Nat.le_of_ble_eq_true rfl) rfl ?_
  intro p e s m args below meth c Q ls X hP hl hret
  have X : Ctx p s m args c cX3_isFull 1 RX3 D (TY cC cI cZ) := X
  obtain ⟨hx, hb, hml, hown, htT, hK, hN⟩ := id X
  unfold f_Log_isFull at h
  refine lv_aload_n hx hb dX3_isFull_0 rfl (lv_at hl 0 rfl) ?_
  refine va_get (ci := 3) (v := .int v_size) (C := RX3) (T := TX3) (N := 5) hx hb htT inlX3 hown hK hP 0 rfl rfl 2 (by decide) (htT _ q_4_1) (fun _ h9 => h9) rfl dX3_isFull_1 ?_
  refine lv_bipush (v := (14 : Int32)) hx hb dX3_isFull_4 rfl ?_
  refine lv_icmp_lt (tgt := 13) hx hb dX3_isFull_6 (by decide) (fun c1 => ?_) (fun c1 => ?_)
  · have h := ip c1 h
    refine lv_iconst (v := (0 : Int32)) hx hb dX3_isFull_13 rfl ?_
    exact hret _ _ _ dX3_isFull_14 h rfl
  · have h := im c1 h
    refine lv_iconst (v := (1 : Int32)) hx hb dX3_isFull_9 rfl ?_
    refine lv_goto (tgt := 14) hx hb dX3_isFull_10 (by decide) ?_
    exact hret _ _ _ dX3_isFull_14 h rfl
set_option maxHeartbeats 4000000 in
set_option maxRecDepth 100000 in
theorem c_Log_append (l : Launch) (D : va_G) (cC cI cZ : ClassId) (a_this : Nat) (a_times : Nat) (a_values : Nat) (v_size : Int32) (v_promise : Int32) (v_delay : Int32) (A_times : Nat → Int32) (A_values : Nat → Int32) (p1 : Int32) (p2 : Int32) (sz : Nat) (z : Int32 × Int32 × (Nat → Int32) × (Nat → Int32)) (h : f_Log_append v_size A_times A_values p1 p2 = some z) : Met l yX3_append (.code yX3_append cX3_append 3 (some .int) :: TBL) (RM 1 20) (PcM [.ref a_this, .int p1, .int p2] sz D (TY cC cI cZ) (k_Log cC cI cZ a_this a_times a_values v_size v_promise v_delay A_times A_values)) (fun a st o t => QM (some (.int z.1)) D (k_Log cC cI cZ a_this a_times a_values z.2.1 v_promise v_delay z.2.2.1 z.2.2.2) (va_A (k_Log cC cI cZ a_this a_times a_values v_size v_promise v_delay A_times A_values) sz) a st o t ∧ narrow .int (.int z.1) = .int z.1) 0 0 (va_A (k_Log cC cI cZ a_this a_times a_values v_size v_promise v_delay A_times A_values) sz) := by
  refine muOf (by decide) (Nat.le_of_ble_eq_true rfl) rfl ?_
  intro p e s m args below meth c Q ls A X hP hD hS hA hl hret
  have X : Ctx p s m args c cX3_append 3 RX3 D (TY cC cI cZ) := X
  obtain ⟨hx, hb, hml, hown, htT, hK, hN⟩ := id X
  unfold f_Log_append at h
  refine lv_aload_n hx hb dX3_append_0 rfl (lv_at hl 0 rfl) ?_
  refine roV X [] [] (c_Log_isFull l D cC cI cZ a_this a_times a_values v_size v_promise v_delay A_times A_values _ rfl) gg_X3_39 hd_Log_isFull ⟨rfl, rfl, Nat.le_of_ble_eq_true rfl, Nat.le_of_ble_eq_true rfl⟩ ⟨Nat.zero_le _, Nat.zero_le _⟩ hP [0, 1, 2] rfl rfl rfl rfl hl.1 rfl (Nat.le_of_ble_eq_true rfl) dX3_append_1 (fun n1 => ?_)
  refine lv_if_eq (tgt := 10) hx hb dX3_append_4 (by decide) (fun c2 => ?_) (fun c2 => ?_)
  · have h := ip c2 h
    refine lv_aload_n hx hb dX3_append_10 rfl (lv_at hl 0 rfl) ?_
    refine va_get (ci := 3) (v := .ref a_times) (C := RX3) (T := TX3) (N := 5) hx hb htT inlX3 hown hK hP 0 rfl rfl 0 (by decide) (htT _ q_3_23) (fun _ h9 => h9) rfl dX3_append_11 ?_
    refine lv_aload_n hx hb dX3_append_14 rfl (lv_at hl 0 rfl) ?_
    refine va_get (ci := 3) (v := .int v_size) (C := RX3) (T := TX3) (N := 5) hx hb htT inlX3 hown hK hP 0 rfl rfl 2 (by decide) (htT _ q_4_1) (fun _ h9 => h9) rfl dX3_append_15 ?_
    refine lv_iload_n hx hb dX3_append_18 rfl (lv_at hl 1 rfl) ?_
    obtain ⟨g3, h⟩ := gd h
    refine va_iast hx hb hK hP hD hS 1 1 rfl rfl (inB_in g3) dX3_append_19 (fun H locs hP hD hS => ?_)
    have hP : va_P D vwCl (k_Log cC cI cZ a_this a_times a_values v_size v_promise v_delay (upd A_times (v_size).toNatClampNeg p1) A_values) H := hP
    have hD : va_D A (k_Log cC cI cZ a_this a_times a_values v_size v_promise v_delay (upd A_times (v_size).toNatClampNeg p1) A_values) := hD
    refine lv_aload_n hx hb dX3_append_20 rfl (lv_at hl 0 rfl) ?_
    refine va_get (ci := 3) (v := .ref a_values) (C := RX3) (T := TX3) (N := 5) hx hb htT inlX3 hown hK hP 0 rfl rfl 1 (by decide) (htT _ q_4_0) (fun _ h9 => h9) rfl dX3_append_21 ?_
    refine lv_aload_n hx hb dX3_append_24 rfl (lv_at hl 0 rfl) ?_
    refine va_get (ci := 3) (v := .int v_size) (C := RX3) (T := TX3) (N := 5) hx hb htT inlX3 hown hK hP 0 rfl rfl 2 (by decide) (htT _ q_4_1) (fun _ h9 => h9) rfl dX3_append_25 ?_
    refine lv_iload_n hx hb dX3_append_28 rfl (lv_at hl 2 rfl) ?_
    obtain ⟨g4, h⟩ := gd h
    refine va_iast hx hb hK hP hD hS 2 1 rfl rfl (inB_in g4) dX3_append_29 (fun H locs hP hD hS => ?_)
    have hP : va_P D vwCl (k_Log cC cI cZ a_this a_times a_values v_size v_promise v_delay (upd A_times (v_size).toNatClampNeg p1) (upd A_values (v_size).toNatClampNeg p2)) H := hP
    have hD : va_D A (k_Log cC cI cZ a_this a_times a_values v_size v_promise v_delay (upd A_times (v_size).toNatClampNeg p1) (upd A_values (v_size).toNatClampNeg p2)) := hD
    refine lv_aload_n hx hb dX3_append_30 rfl (lv_at hl 0 rfl) ?_
    refine lv_dup hx hb dX3_append_31 rfl ?_
    refine va_get (ci := 3) (v := .int v_size) (C := RX3) (T := TX3) (N := 5) hx hb htT inlX3 hown hK hP 0 rfl rfl 2 (by decide) (htT _ q_4_1) (fun _ h9 => h9) rfl dX3_append_32 ?_
    refine lv_iconst (v := (1 : Int32)) hx hb dX3_append_35 rfl ?_
    refine lv_iadd hx hb dX3_append_36 ?_
    refine va_put (ci := 3) (v := .int (v_size + (1 : Int32))) (ty := .int) (C := RX3) (T := TX3) (N := 5) hx hb htT inlX3 tyX3 tyX3_ok nmX3 hown hK hP hD hS 0 rfl rfl 2 (by decide) (htT _ q_4_1) (fun _ h9 => h9) rfl (tyX3_ok 2 (by decide)) rfl rfl (Nat.le_of_ble_eq_true rfl) dX3_append_37 (fun H locs hP hD hS => ?_)
    have hP : va_P D vwCl (k_Log cC cI cZ a_this a_times a_values (v_size + (1 : Int32)) v_promise v_delay (upd A_times (v_size).toNatClampNeg p1) (upd A_values (v_size).toNatClampNeg p2)) H := hP
    have hD : va_D A (k_Log cC cI cZ a_this a_times a_values (v_size + (1 : Int32)) v_promise v_delay (upd A_times (v_size).toNatClampNeg p1) (upd A_values (v_size).toNatClampNeg p2)) := hD
    refine lv_aload_n hx hb dX3_append_40 rfl (lv_at hl 0 rfl) ?_
    refine va_get (ci := 3) (v := .int (v_size + (1 : Int32))) (C := RX3) (T := TX3) (N := 5) hx hb htT inlX3 hown hK hP 0 rfl rfl 2 (by decide) (htT _ q_4_1) (fun _ h9 => h9) rfl dX3_append_41 ?_
    refine lv_iconst (v := (1 : Int32)) hx hb dX3_append_44 rfl ?_
    refine lv_isub hx hb dX3_append_45 ?_
    obtain rfl := Option.some.inj h
    exact hret _ _ _ _ _ hP hS dX3_append_46 rfl rfl
  · have h := im c2 h
    refine lv_bipush (v := (-3 : Int32)) hx hb dX3_append_7 rfl ?_
    obtain rfl := Option.some.inj h
    exact hret _ _ _ _ _ hP hS dX3_append_9 rfl rfl
set_option maxHeartbeats 4000000 in
set_option maxRecDepth 100000 in
theorem c_Log_copy (l : Launch) (D : va_G) (cC cI cZ : ClassId) (a_this : Nat) (a_times : Nat) (a_values : Nat) (a_o1 : Nat) (a_o1_times : Nat) (a_o1_values : Nat) (v_size : Int32) (v_promise : Int32) (v_delay : Int32) (A_times : Nat → Int32) (A_values : Nat → Int32) (v_o1_size : Int32) (v_o1_promise : Int32) (v_o1_delay : Int32) (A_o1_times : Nat → Int32) (A_o1_values : Nat → Int32)  (sz : Nat) (z : Int32 × Int32 × Int32 × (Nat → Int32) × (Nat → Int32)) (h : f_Log_copy v_size v_promise v_delay A_times A_values v_o1_size v_o1_promise v_o1_delay A_o1_times A_o1_values = some z) : Met l yX3_copy (.code yX3_copy cX3_copy 3 none :: TBL) (RM 0 0) (PcM [.ref a_this, .ref a_o1] sz D (TY cC cI cZ) (k_Log cC cI cZ a_this a_times a_values v_size v_promise v_delay A_times A_values ++ k_Log cC cI cZ a_o1 a_o1_times a_o1_values v_o1_size v_o1_promise v_o1_delay A_o1_times A_o1_values)) (QM none D (k_Log cC cI cZ a_this a_times a_values z.1 z.2.1 z.2.2.1 z.2.2.2.1 z.2.2.2.2 ++ k_Log cC cI cZ a_o1 a_o1_times a_o1_values v_o1_size v_o1_promise v_o1_delay A_o1_times A_o1_values) (va_A (k_Log cC cI cZ a_this a_times a_values v_size v_promise v_delay A_times A_values ++ k_Log cC cI cZ a_o1 a_o1_times a_o1_values v_o1_size v_o1_promise v_o1_delay A_o1_times A_o1_values) sz)) 0 0 (va_A (k_Log cC cI cZ a_this a_times a_values v_size v_promise v_delay A_times A_values ++ k_Log cC cI cZ a_o1 a_o1_times a_o1_values v_o1_size v_o1_promise v_o1_delay A_o1_times A_o1_values) sz) := by
  refine muOfV (by decide) (Nat.le_of_ble_eq_true rfl) rfl ?_
  intro p e s m args below meth c Q ls A X hP hD hS hA hl hret
  have X : Ctx p s m args c cX3_copy 3 RX3 D (TY cC cI cZ) := X
  obtain ⟨hx, hb, hml, hown, htT, hK, hN⟩ := id X
  unfold f_Log_copy at h
  refine lv_iconst (v := (0 : Int32)) hx hb dX3_copy_0 rfl ?_
  refine lv_istore_n (lv' := [(2, .int (0 : Int32)), (0, .ref a_this), (1, .ref a_o1)]) hx hb dX3_copy_1 rfl hl (by decide) rfl (fun ls hl => ?_)
  have LP2 : ∀ (n : Nat) (y2_2 : Int32) (A_times_2 : Nat → Int32) (A_values_2 : Nat → Int32) (zq2 : (Nat → Int32) × (Nat → Int32)), f_Log_copy_L2 A_o1_times A_o1_values n y2_2 A_times_2 A_values_2 = some zq2 → ∀ (H : Heap) (locs : List Loc) (ls : Array Slot), va_P D vwCl (k_Log cC cI cZ a_this a_times a_values v_size v_promise v_delay A_times_2 A_values_2 ++ k_Log cC cI cZ a_o1 a_o1_times a_o1_values v_o1_size v_o1_promise v_o1_delay A_o1_times A_o1_values) H → va_D A (k_Log cC cI cZ a_this a_times a_values v_size v_promise v_delay A_times_2 A_values_2 ++ k_Log cC cI cZ a_o1 a_o1_times a_o1_values v_o1_size v_o1_promise v_o1_delay A_o1_times A_o1_values) → va_S A s.heap H locs → lv_has ls 3 [(0, .ref a_this), (1, .ref a_o1), (2, .int y2_2)] → (∀ (H : Heap) (locs : List Loc) (ls : Array Slot), va_P D vwCl (k_Log cC cI cZ a_this a_times a_values v_size v_promise v_delay zq2.1 zq2.2 ++ k_Log cC cI cZ a_o1 a_o1_times a_o1_values v_o1_size v_o1_promise v_o1_delay A_o1_times A_o1_values) H → va_D A (k_Log cC cI cZ a_this a_times a_values v_size v_promise v_delay zq2.1 zq2.2 ++ k_Log cC cI cZ a_o1 a_o1_times a_o1_values v_o1_size v_o1_promise v_o1_delay A_o1_times A_o1_values) → va_S A s.heap H locs → lv_has ls 3 [(0, .ref a_this), (1, .ref a_o1)] → W p l e (RM 0 0) s m args below meth c H locs 0 0 Q (F0 m 38 ls [])) → W p l e (RM 0 0) s m args below meth c H locs 0 0 Q (F0 m 2 ls []) := by
    clear h
    intro n
    induction n with
    | zero =>
      intro y2_2 A_times_2 A_values_2 zq2 h
      rw [f_Log_copy_L2_0] at h
      cases h
    | succ n ih2 =>
      intro y2_2 A_times_2 A_values_2 zq2 h H locs ls hP hD hS hl k2_0
      rw [f_Log_copy_L2_s] at h
      refine lv_iload_n hx hb dX3_copy_2 rfl (lv_at hl 2 rfl) ?_
      refine lv_bipush (v := (14 : Int32)) hx hb dX3_copy_3 rfl ?_
      refine lv_icmp_ge (tgt := 38) hx hb dX3_copy_5 (by decide) (fun c2 => ?_) (fun c2 => ?_)
      · have h := ip c2 h
        obtain rfl := Option.some.inj h
        exact k2_0 _ _ _ hP hD hS (lv_sub hl [0, 1] rfl)
      · have h := im c2 h
        refine lv_aload_n hx hb dX3_copy_8 rfl (lv_at hl 0 rfl) ?_
        refine va_get (ci := 3) (v := .ref a_times) (C := RX3) (T := TX3) (N := 5) hx hb htT inlX3 hown hK hP 0 rfl rfl 0 (by decide) (htT _ q_3_23) (fun _ h9 => h9) rfl dX3_copy_9 ?_
        refine lv_iload_n hx hb dX3_copy_12 rfl (lv_at hl 2 rfl) ?_
        refine lv_aload_n hx hb dX3_copy_13 rfl (lv_at hl 1 rfl) ?_
        refine va_get (ci := 3) (v := .ref a_o1_times) (C := RX3) (T := TX3) (N := 5) hx hb htT inlX3 hown hK hP 3 rfl rfl 0 (by decide) (htT _ q_3_23) (fun _ h9 => h9) rfl dX3_copy_14 ?_
        refine lv_iload_n hx hb dX3_copy_17 rfl (lv_at hl 2 rfl) ?_
        obtain ⟨g3, h⟩ := gd h
        refine va_iald hx hb hK hP 4 1 rfl rfl (inB_in g3) dX3_copy_18 ?_
        obtain ⟨g4, h⟩ := gd h
        refine va_iast hx hb hK hP hD hS 1 1 rfl rfl (inB_in g4) dX3_copy_19 (fun H locs hP hD hS => ?_)
        have hP : va_P D vwCl (k_Log cC cI cZ a_this a_times a_values v_size v_promise v_delay (upd A_times_2 (y2_2).toNatClampNeg (A_o1_times (y2_2).toNatClampNeg)) A_values_2 ++ k_Log cC cI cZ a_o1 a_o1_times a_o1_values v_o1_size v_o1_promise v_o1_delay A_o1_times A_o1_values) H := hP
        have hD : va_D A (k_Log cC cI cZ a_this a_times a_values v_size v_promise v_delay (upd A_times_2 (y2_2).toNatClampNeg (A_o1_times (y2_2).toNatClampNeg)) A_values_2 ++ k_Log cC cI cZ a_o1 a_o1_times a_o1_values v_o1_size v_o1_promise v_o1_delay A_o1_times A_o1_values) := hD
        refine lv_aload_n hx hb dX3_copy_20 rfl (lv_at hl 0 rfl) ?_
        refine va_get (ci := 3) (v := .ref a_values) (C := RX3) (T := TX3) (N := 5) hx hb htT inlX3 hown hK hP 0 rfl rfl 1 (by decide) (htT _ q_4_0) (fun _ h9 => h9) rfl dX3_copy_21 ?_
        refine lv_iload_n hx hb dX3_copy_24 rfl (lv_at hl 2 rfl) ?_
        refine lv_aload_n hx hb dX3_copy_25 rfl (lv_at hl 1 rfl) ?_
        refine va_get (ci := 3) (v := .ref a_o1_values) (C := RX3) (T := TX3) (N := 5) hx hb htT inlX3 hown hK hP 3 rfl rfl 1 (by decide) (htT _ q_4_0) (fun _ h9 => h9) rfl dX3_copy_26 ?_
        refine lv_iload_n hx hb dX3_copy_29 rfl (lv_at hl 2 rfl) ?_
        obtain ⟨g5, h⟩ := gd h
        refine va_iald hx hb hK hP 5 1 rfl rfl (inB_in g5) dX3_copy_30 ?_
        obtain ⟨g6, h⟩ := gd h
        refine va_iast hx hb hK hP hD hS 2 1 rfl rfl (inB_in g6) dX3_copy_31 (fun H locs hP hD hS => ?_)
        have hP : va_P D vwCl (k_Log cC cI cZ a_this a_times a_values v_size v_promise v_delay (upd A_times_2 (y2_2).toNatClampNeg (A_o1_times (y2_2).toNatClampNeg)) (upd A_values_2 (y2_2).toNatClampNeg (A_o1_values (y2_2).toNatClampNeg)) ++ k_Log cC cI cZ a_o1 a_o1_times a_o1_values v_o1_size v_o1_promise v_o1_delay A_o1_times A_o1_values) H := hP
        have hD : va_D A (k_Log cC cI cZ a_this a_times a_values v_size v_promise v_delay (upd A_times_2 (y2_2).toNatClampNeg (A_o1_times (y2_2).toNatClampNeg)) (upd A_values_2 (y2_2).toNatClampNeg (A_o1_values (y2_2).toNatClampNeg)) ++ k_Log cC cI cZ a_o1 a_o1_times a_o1_values v_o1_size v_o1_promise v_o1_delay A_o1_times A_o1_values) := hD
        refine lv_iinc (v := (y2_2 + (1 : Int32))) (lv' := [(2, .int (y2_2 + (1 : Int32))), (0, .ref a_this), (1, .ref a_o1)]) hx hb dX3_copy_32 hl (k := 2) rfl rfl (by decide) rfl (fun ls hl => ?_)
        refine lv_goto (tgt := 2) hx hb dX3_copy_35 (by decide) ?_
        exact ih2 (y2_2 + (1 : Int32)) (upd A_times_2 (y2_2).toNatClampNeg (A_o1_times (y2_2).toNatClampNeg)) (upd A_values_2 (y2_2).toNatClampNeg (A_o1_values (y2_2).toNatClampNeg)) _ h _ _ _ hP hD hS (lv_sub hl [1, 2, 0] rfl) k2_0
  obtain ⟨z1, e1, h⟩ := bd h
  refine LP2 fu (0 : Int32) A_times A_values z1 e1 _ _ _ hP hD hS (lv_sub hl [1, 2, 0] rfl) ?_
  intro H locs ls hP hD hS hl
  refine lv_aload_n hx hb dX3_copy_38 rfl (lv_at hl 0 rfl) ?_
  refine lv_aload_n hx hb dX3_copy_39 rfl (lv_at hl 1 rfl) ?_
  refine va_get (ci := 3) (v := .int v_o1_size) (C := RX3) (T := TX3) (N := 5) hx hb htT inlX3 hown hK hP 3 rfl rfl 2 (by decide) (htT _ q_4_1) (fun _ h9 => h9) rfl dX3_copy_40 ?_
  refine va_put (ci := 3) (v := .int v_o1_size) (ty := .int) (C := RX3) (T := TX3) (N := 5) hx hb htT inlX3 tyX3 tyX3_ok nmX3 hown hK hP hD hS 0 rfl rfl 2 (by decide) (htT _ q_4_1) (fun _ h9 => h9) rfl (tyX3_ok 2 (by decide)) rfl rfl (Nat.le_of_ble_eq_true rfl) dX3_copy_43 (fun H locs hP hD hS => ?_)
  have hP : va_P D vwCl (k_Log cC cI cZ a_this a_times a_values v_o1_size v_promise v_delay z1.1 z1.2 ++ k_Log cC cI cZ a_o1 a_o1_times a_o1_values v_o1_size v_o1_promise v_o1_delay A_o1_times A_o1_values) H := hP
  have hD : va_D A (k_Log cC cI cZ a_this a_times a_values v_o1_size v_promise v_delay z1.1 z1.2 ++ k_Log cC cI cZ a_o1 a_o1_times a_o1_values v_o1_size v_o1_promise v_o1_delay A_o1_times A_o1_values) := hD
  refine lv_aload_n hx hb dX3_copy_46 rfl (lv_at hl 0 rfl) ?_
  refine lv_aload_n hx hb dX3_copy_47 rfl (lv_at hl 1 rfl) ?_
  refine va_get (ci := 3) (v := .int v_o1_promise) (C := RX3) (T := TX3) (N := 5) hx hb htT inlX3 hown hK hP 3 rfl rfl 3 (by decide) (htT _ q_4_2) (fun _ h9 => h9) rfl dX3_copy_48 ?_
  refine va_put (ci := 3) (v := .int v_o1_promise) (ty := .int) (C := RX3) (T := TX3) (N := 5) hx hb htT inlX3 tyX3 tyX3_ok nmX3 hown hK hP hD hS 0 rfl rfl 3 (by decide) (htT _ q_4_2) (fun _ h9 => h9) rfl (tyX3_ok 3 (by decide)) rfl rfl (Nat.le_of_ble_eq_true rfl) dX3_copy_51 (fun H locs hP hD hS => ?_)
  have hP : va_P D vwCl (k_Log cC cI cZ a_this a_times a_values v_o1_size v_o1_promise v_delay z1.1 z1.2 ++ k_Log cC cI cZ a_o1 a_o1_times a_o1_values v_o1_size v_o1_promise v_o1_delay A_o1_times A_o1_values) H := hP
  have hD : va_D A (k_Log cC cI cZ a_this a_times a_values v_o1_size v_o1_promise v_delay z1.1 z1.2 ++ k_Log cC cI cZ a_o1 a_o1_times a_o1_values v_o1_size v_o1_promise v_o1_delay A_o1_times A_o1_values) := hD
  refine lv_aload_n hx hb dX3_copy_54 rfl (lv_at hl 0 rfl) ?_
  refine lv_aload_n hx hb dX3_copy_55 rfl (lv_at hl 1 rfl) ?_
  refine va_get (ci := 3) (v := .int v_o1_delay) (C := RX3) (T := TX3) (N := 5) hx hb htT inlX3 hown hK hP 3 rfl rfl 4 (by decide) (htT _ q_4_3) (fun _ h9 => h9) rfl dX3_copy_56 ?_
  refine va_put (ci := 3) (v := .int v_o1_delay) (ty := .int) (C := RX3) (T := TX3) (N := 5) hx hb htT inlX3 tyX3 tyX3_ok nmX3 hown hK hP hD hS 0 rfl rfl 4 (by decide) (htT _ q_4_3) (fun _ h9 => h9) rfl (tyX3_ok 4 (by decide)) rfl rfl (Nat.le_of_ble_eq_true rfl) dX3_copy_59 (fun H locs hP hD hS => ?_)
  have hP : va_P D vwCl (k_Log cC cI cZ a_this a_times a_values v_o1_size v_o1_promise v_o1_delay z1.1 z1.2 ++ k_Log cC cI cZ a_o1 a_o1_times a_o1_values v_o1_size v_o1_promise v_o1_delay A_o1_times A_o1_values) H := hP
  have hD : va_D A (k_Log cC cI cZ a_this a_times a_values v_o1_size v_o1_promise v_o1_delay z1.1 z1.2 ++ k_Log cC cI cZ a_o1 a_o1_times a_o1_values v_o1_size v_o1_promise v_o1_delay A_o1_times A_o1_values) := hD
  obtain rfl := Option.some.inj h
  exact hret _ _ _ _ hP hS dX3_copy_62
set_option maxHeartbeats 4000000 in
set_option maxRecDepth 100000 in
theorem c_Log_firstFrom (l : Launch) (D : va_G) (cC cI cZ : ClassId) (a_this : Nat) (a_times : Nat) (a_values : Nat) (v_size : Int32) (v_promise : Int32) (v_delay : Int32) (A_times : Nat → Int32) (A_values : Nat → Int32) (p1 : Int32) (p2 : Int32) (r : Int32) (h : f_Log_firstFrom v_size A_times p1 p2 = some r) : Met l yX3_firstFrom (.code yX3_firstFrom cX3_firstFrom 4 (some .int) :: TBL) (RM 1 21) (PcR [.ref a_this, .int p1, .int p2] D (TY cC cI cZ) (k_Log cC cI cZ a_this a_times a_values v_size v_promise v_delay A_times A_values)) (vp_Si (PO .int r)) 0 0 (fun _ => False) := by
  refine roOf (by decide) (Nat.le_of_ble_eq_true rfl) rfl ?_
  intro p e s m args below meth c Q ls X hP hl hret
  have X : Ctx p s m args c cX3_firstFrom 4 RX3 D (TY cC cI cZ) := X
  obtain ⟨hx, hb, hml, hown, htT, hK, hN⟩ := id X
  unfold f_Log_firstFrom at h
  refine lv_iconst (v := (0 : Int32)) hx hb dX3_firstFrom_0 rfl ?_
  refine lv_istore_n (lv' := [(3, .int (0 : Int32)), (0, .ref a_this), (1, .int p1), (2, .int p2)]) hx hb dX3_firstFrom_1 rfl hl (by decide) rfl (fun ls hl => ?_)
  have LP2 : ∀ (n : Nat) (y2_3 : Int32) (zq2 : Nat × Int32), f_Log_firstFrom_L2 p1 p2 v_size A_times n y2_3 = some zq2 → ∀ (ls : Array Slot), lv_has ls 4 [(0, .ref a_this), (1, .int p1), (2, .int p2), (3, .int y2_3)] → (zq2.1 = 0 → ∀ (ls : Array Slot), lv_has ls 4 [(3, .int zq2.2)] → W p l e (RM 1 21) s m args below meth c s.heap [] 0 0 Q (F0 m 29 ls [])) → (zq2.1 = 1 → ∀ (ls : Array Slot), lv_has ls 4 [] → W p l e (RM 1 21) s m args below meth c s.heap [] 0 0 Q (F0 m 37 ls [])) → W p l e (RM 1 21) s m args below meth c s.heap [] 0 0 Q (F0 m 2 ls []) := by
    clear h
    intro n
    induction n with
    | zero =>
      intro y2_3 zq2 h
      rw [f_Log_firstFrom_L2_0] at h
      cases h
    | succ n ih2 =>
      intro y2_3 zq2 h ls hl k2_0 k2_1
      rw [f_Log_firstFrom_L2_s] at h
      refine lv_iload_n hx hb dX3_firstFrom_2 rfl (lv_at hl 3 rfl) ?_
      refine lv_aload_n hx hb dX3_firstFrom_3 rfl (lv_at hl 0 rfl) ?_
      refine va_get (ci := 3) (v := .int v_size) (C := RX3) (T := TX3) (N := 5) hx hb htT inlX3 hown hK hP 0 rfl rfl 2 (by decide) (htT _ q_4_1) (fun _ h9 => h9) rfl dX3_firstFrom_4 ?_
      refine lv_icmp_ge (tgt := 37) hx hb dX3_firstFrom_7 (by decide) (fun c2 => ?_) (fun c2 => ?_)
      · have h := ip c2 h
        obtain rfl := Option.some.inj h
        exact k2_1 rfl _ (lv_sub hl [] rfl)
      · have h := im c2 h
        refine lv_iload_n hx hb dX3_firstFrom_10 rfl (lv_at hl 2 rfl) ?_
        refine lv_iload_n hx hb dX3_firstFrom_11 rfl (lv_at hl 3 rfl) ?_
        refine roSN X [.int p2, .int y2_3] [] (c_TR_bitAt l D cC cI cZ p2 y2_3 _ rfl) q_20_2 qn_32 q_1_2 q_20_1 hd_TR_bitAt ⟨rfl, rfl, Nat.le_of_ble_eq_true rfl, Nat.le_of_ble_eq_true rfl⟩ ⟨Nat.zero_le _, Nat.zero_le _⟩ hP [] rfl hl.1 rfl (Nat.le_of_ble_eq_true rfl) dX3_firstFrom_12 (fun n3 => ?_)
        refine lv_iconst (v := (1 : Int32)) hx hb dX3_firstFrom_15 rfl ?_
        refine lv_icmp_ne (tgt := 31) hx hb dX3_firstFrom_16 (by decide) (fun c4 => ?_) (fun c4 => ?_)
        · have h := im c4 h
          refine lv_iinc (v := (y2_3 + (1 : Int32))) (lv' := [(3, .int (y2_3 + (1 : Int32))), (0, .ref a_this), (1, .int p1), (2, .int p2)]) hx hb dX3_firstFrom_31 hl (k := 3) rfl rfl (by decide) rfl (fun ls hl => ?_)
          refine lv_goto (tgt := 2) hx hb dX3_firstFrom_34 (by decide) ?_
          exact ih2 (y2_3 + (1 : Int32)) _ h _ (lv_sub hl [1, 2, 3, 0] rfl) k2_0 k2_1
        · have h := ip c4 h
          refine lv_aload_n hx hb dX3_firstFrom_19 rfl (lv_at hl 0 rfl) ?_
          refine va_get (ci := 3) (v := .ref a_times) (C := RX3) (T := TX3) (N := 5) hx hb htT inlX3 hown hK hP 0 rfl rfl 0 (by decide) (htT _ q_3_23) (fun _ h9 => h9) rfl dX3_firstFrom_20 ?_
          refine lv_iload_n hx hb dX3_firstFrom_23 rfl (lv_at hl 3 rfl) ?_
          obtain ⟨g5, h⟩ := gd h
          refine va_iald hx hb hK hP 1 1 rfl rfl (inB_in g5) dX3_firstFrom_24 ?_
          refine lv_iload_n hx hb dX3_firstFrom_25 rfl (lv_at hl 1 rfl) ?_
          refine lv_icmp_lt (tgt := 31) hx hb dX3_firstFrom_26 (by decide) (fun c6 => ?_) (fun c6 => ?_)
          · have h := ip c6 h
            refine lv_iinc (v := (y2_3 + (1 : Int32))) (lv' := [(3, .int (y2_3 + (1 : Int32))), (0, .ref a_this), (1, .int p1), (2, .int p2)]) hx hb dX3_firstFrom_31 hl (k := 3) rfl rfl (by decide) rfl (fun ls hl => ?_)
            refine lv_goto (tgt := 2) hx hb dX3_firstFrom_34 (by decide) ?_
            exact ih2 (y2_3 + (1 : Int32)) _ h _ (lv_sub hl [1, 2, 3, 0] rfl) k2_0 k2_1
          · have h := im c6 h
            obtain rfl := Option.some.inj h
            exact k2_0 rfl _ (lv_sub hl [3] rfl)
  obtain ⟨z1, e1, h⟩ := bd h
  refine LP2 fu (0 : Int32) z1 e1 _ (lv_sub hl [1, 2, 3, 0] rfl) ?_ ?_
  · intro t1 ls hl
    have h := ip t1 h
    refine lv_iload_n hx hb dX3_firstFrom_29 rfl (lv_at hl 0 rfl) ?_
    exact hret _ _ _ dX3_firstFrom_30 (Option.some.inj h) rfl
  · intro t1 ls hl
    have h := im (by rw [t1]; decide) h
    refine lv_bipush (v := (-9 : Int32)) hx hb dX3_firstFrom_37 rfl ?_
    exact hret _ _ _ dX3_firstFrom_39 (Option.some.inj h) rfl
set_option maxHeartbeats 4000000 in
set_option maxRecDepth 100000 in
theorem c_Log_isLast (l : Launch) (D : va_G) (cC cI cZ : ClassId) (a_this : Nat) (a_times : Nat) (a_values : Nat) (v_size : Int32) (v_promise : Int32) (v_delay : Int32) (A_times : Nat → Int32) (A_values : Nat → Int32) (p1 : Int32) (r : Int32) (h : f_Log_isLast v_size A_values p1 = some r) : Met l yX3_isLast (.code yX3_isLast cX3_isLast 2 (some .boolean) :: TBL) (RM 2 42) (PcR [.ref a_this, .int p1] D (TY cC cI cZ) (k_Log cC cI cZ a_this a_times a_values v_size v_promise v_delay A_times A_values)) (vp_Si (PO .boolean r)) 0 0 (fun _ => False) := by
  refine roOf (by decide) (Nat.le_of_ble_eq_true rfl) rfl ?_
  intro p e s m args below meth c Q ls X hP hl hret
  have X : Ctx p s m args c cX3_isLast 2 RX3 D (TY cC cI cZ) := X
  obtain ⟨hx, hb, hml, hown, htT, hK, hN⟩ := id X
  unfold f_Log_isLast at h
  refine lv_aload_n hx hb dX3_isLast_0 rfl (lv_at hl 0 rfl) ?_
  refine lv_iload_n hx hb dX3_isLast_1 rfl (lv_at hl 1 rfl) ?_
  obtain ⟨r1, e1, h⟩ := bd h
  refine roV X [.int p1] [] (c_Log_isKnown l D cC cI cZ a_this a_times a_values v_size v_promise v_delay A_times A_values p1 r1 e1) gg_X3_32 hd_Log_isKnown ⟨rfl, rfl, Nat.le_of_ble_eq_true rfl, Nat.le_of_ble_eq_true rfl⟩ ⟨Nat.zero_le _, Nat.zero_le _⟩ hP [0, 1, 2] rfl rfl rfl rfl hl.1 rfl (Nat.le_of_ble_eq_true rfl) dX3_isLast_2 (fun n1 => ?_)
  refine lv_if_eq (tgt := 22) hx hb dX3_isLast_5 (by decide) (fun c2 => ?_) (fun c2 => ?_)
  · have h := ip c2 h
    refine lv_iconst (v := (0 : Int32)) hx hb dX3_isLast_22 rfl ?_
    exact hret _ _ _ dX3_isLast_23 (Option.some.inj h) rfl
  · have h := im c2 h
    refine lv_aload_n hx hb dX3_isLast_8 rfl (lv_at hl 0 rfl) ?_
    refine lv_iload_n hx hb dX3_isLast_9 rfl (lv_at hl 1 rfl) ?_
    refine lv_iconst (v := (1 : Int32)) hx hb dX3_isLast_10 rfl ?_
    refine lv_iadd hx hb dX3_isLast_11 ?_
    obtain ⟨r3, e3, h⟩ := bd h
    refine roV X [.int (p1 + (1 : Int32))] [] (c_Log_isKnown l D cC cI cZ a_this a_times a_values v_size v_promise v_delay A_times A_values (p1 + (1 : Int32)) r3 e3) gg_X3_32 hd_Log_isKnown ⟨rfl, rfl, Nat.le_of_ble_eq_true rfl, Nat.le_of_ble_eq_true rfl⟩ ⟨Nat.zero_le _, Nat.zero_le _⟩ hP [0, 1, 2] rfl rfl rfl rfl hl.1 rfl (Nat.le_of_ble_eq_true rfl) dX3_isLast_12 (fun n3 => ?_)
    refine lv_if_ne (tgt := 22) hx hb dX3_isLast_15 (by decide) (fun c4 => ?_) (fun c4 => ?_)
    · have h := im c4 h
      refine lv_iconst (v := (0 : Int32)) hx hb dX3_isLast_22 rfl ?_
      exact hret _ _ _ dX3_isLast_23 (Option.some.inj h) rfl
    · have h := ip c4 h
      refine lv_iconst (v := (1 : Int32)) hx hb dX3_isLast_18 rfl ?_
      refine lv_goto (tgt := 23) hx hb dX3_isLast_19 (by decide) ?_
      exact hret _ _ _ dX3_isLast_23 (Option.some.inj h) rfl
set_option maxHeartbeats 4000000 in
set_option maxRecDepth 100000 in
theorem c_Log_isLater (l : Launch) (D : va_G) (cC cI cZ : ClassId) (a_this : Nat) (a_times : Nat) (a_values : Nat) (v_size : Int32) (v_promise : Int32) (v_delay : Int32) (A_times : Nat → Int32) (A_values : Nat → Int32) (p1 : Int32) (r : Int32) (h : f_Log_isLater v_size A_times p1 = some r) : Met l yX3_isLater (.code yX3_isLater cX3_isLater 2 (some .boolean) :: TBL) (RM 2 42) (PcR [.ref a_this, .int p1] D (TY cC cI cZ) (k_Log cC cI cZ a_this a_times a_values v_size v_promise v_delay A_times A_values)) (vp_Si (PO .boolean r)) 0 0 (fun _ => False) := by
  refine roOf (by decide) (Nat.le_of_ble_eq_true rfl) rfl ?_
  intro p e s m args below meth c Q ls X hP hl hret
  have X : Ctx p s m args c cX3_isLater 2 RX3 D (TY cC cI cZ) := X
  obtain ⟨hx, hb, hml, hown, htT, hK, hN⟩ := id X
  unfold f_Log_isLater at h
  refine lv_aload_n hx hb dX3_isLater_0 rfl (lv_at hl 0 rfl) ?_
  refine va_get (ci := 3) (v := .int v_size) (C := RX3) (T := TX3) (N := 5) hx hb htT inlX3 hown hK hP 0 rfl rfl 2 (by decide) (htT _ q_4_1) (fun _ h9 => h9) rfl dX3_isLater_1 ?_
  refine lv_if_eq (tgt := 21) hx hb dX3_isLater_4 (by decide) (fun c1 => ?_) (fun c1 => ?_)
  · have h := ip c1 h
    refine lv_iconst (v := (1 : Int32)) hx hb dX3_isLater_21 rfl ?_
    refine lv_goto (tgt := 26) hx hb dX3_isLater_22 (by decide) ?_
    exact hret _ _ _ dX3_isLater_26 (Option.some.inj h) rfl
  · have h := im c1 h
    refine lv_iload_n hx hb dX3_isLater_7 rfl (lv_at hl 1 rfl) ?_
    refine lv_aload_n hx hb dX3_isLater_8 rfl (lv_at hl 0 rfl) ?_
    refine lv_aload_n hx hb dX3_isLater_9 rfl (lv_at hl 0 rfl) ?_
    refine va_get (ci := 3) (v := .int v_size) (C := RX3) (T := TX3) (N := 5) hx hb htT inlX3 hown hK hP 0 rfl rfl 2 (by decide) (htT _ q_4_1) (fun _ h9 => h9) rfl dX3_isLater_10 ?_
    refine lv_iconst (v := (1 : Int32)) hx hb dX3_isLater_13 rfl ?_
    refine lv_isub hx hb dX3_isLater_14 ?_
    obtain ⟨r2, e2, h⟩ := bd h
    refine roV X [.int (v_size - (1 : Int32))] [.int p1] (c_Log_timeAt l D cC cI cZ a_this a_times a_values v_size v_promise v_delay A_times A_values (v_size - (1 : Int32)) r2 e2) gg_X3_35 hd_Log_timeAt ⟨rfl, rfl, Nat.le_of_ble_eq_true rfl, Nat.le_of_ble_eq_true rfl⟩ ⟨Nat.zero_le _, Nat.zero_le _⟩ hP [0, 1, 2] rfl rfl rfl rfl hl.1 rfl (Nat.le_of_ble_eq_true rfl) dX3_isLater_15 (fun n2 => ?_)
    refine lv_icmp_le (tgt := 25) hx hb dX3_isLater_18 (by decide) (fun c3 => ?_) (fun c3 => ?_)
    · have h := ip c3 h
      refine lv_iconst (v := (0 : Int32)) hx hb dX3_isLater_25 rfl ?_
      exact hret _ _ _ dX3_isLater_26 (Option.some.inj h) rfl
    · have h := im c3 h
      refine lv_iconst (v := (1 : Int32)) hx hb dX3_isLater_21 rfl ?_
      refine lv_goto (tgt := 26) hx hb dX3_isLater_22 (by decide) ?_
      exact hret _ _ _ dX3_isLater_26 (Option.some.inj h) rfl
set_option maxHeartbeats 4000000 in
set_option maxRecDepth 100000 in
theorem c_Log_lastUpTo (l : Launch) (D : va_G) (cC cI cZ : ClassId) (a_this : Nat) (a_times : Nat) (a_values : Nat) (v_size : Int32) (v_promise : Int32) (v_delay : Int32) (A_times : Nat → Int32) (A_values : Nat → Int32) (p1 : Int32) (p2 : Int32) (r : Int32) (h : f_Log_lastUpTo v_size A_times p1 p2 = some r) : Met l yX3_lastUpTo (.code yX3_lastUpTo cX3_lastUpTo 5 (some .int) :: TBL) (RM 1 21) (PcR [.ref a_this, .int p1, .int p2] D (TY cC cI cZ) (k_Log cC cI cZ a_this a_times a_values v_size v_promise v_delay A_times A_values)) (vp_Si (PO .int r)) 0 0 (fun _ => False) := by
  refine roOf (by decide) (Nat.le_of_ble_eq_true rfl) rfl ?_
  intro p e s m args below meth c Q ls X hP hl hret
  have X : Ctx p s m args c cX3_lastUpTo 5 RX3 D (TY cC cI cZ) := X
  obtain ⟨hx, hb, hml, hown, htT, hK, hN⟩ := id X
  unfold f_Log_lastUpTo at h
  refine lv_bipush (v := (-9 : Int32)) hx hb dX3_lastUpTo_0 rfl ?_
  refine lv_istore_n (lv' := [(3, .int (-9 : Int32)), (0, .ref a_this), (1, .int p1), (2, .int p2)]) hx hb dX3_lastUpTo_2 rfl hl (by decide) rfl (fun ls hl => ?_)
  refine lv_iconst (v := (0 : Int32)) hx hb dX3_lastUpTo_3 rfl ?_
  refine lv_istore (lv' := [(4, .int (0 : Int32)), (3, .int (-9 : Int32)), (0, .ref a_this), (1, .int p1), (2, .int p2)]) hx hb dX3_lastUpTo_4 hl (by decide) rfl (fun ls hl => ?_)
  have LP6 : ∀ (n : Nat) (y6_3 : Int32) (y6_4 : Int32) (zq6 : Int32), f_Log_lastUpTo_L6 p1 p2 v_size A_times n y6_3 y6_4 = some zq6 → ∀ (ls : Array Slot), lv_has ls 5 [(0, .ref a_this), (1, .int p1), (2, .int p2), (3, .int y6_3), (4, .int y6_4)] → (∀ (ls : Array Slot), lv_has ls 5 [(3, .int zq6)] → W p l e (RM 1 21) s m args below meth c s.heap [] 0 0 Q (F0 m 45 ls [])) → W p l e (RM 1 21) s m args below meth c s.heap [] 0 0 Q (F0 m 6 ls []) := by
    clear h
    intro n
    induction n with
    | zero =>
      intro y6_3 y6_4 zq6 h
      rw [f_Log_lastUpTo_L6_0] at h
      cases h
    | succ n ih6 =>
      intro y6_3 y6_4 zq6 h ls hl k6_0
      rw [f_Log_lastUpTo_L6_s] at h
      refine lv_iload hx hb dX3_lastUpTo_6 (lv_at hl 4 rfl) ?_
      refine lv_aload_n hx hb dX3_lastUpTo_8 rfl (lv_at hl 0 rfl) ?_
      refine va_get (ci := 3) (v := .int v_size) (C := RX3) (T := TX3) (N := 5) hx hb htT inlX3 hown hK hP 0 rfl rfl 2 (by decide) (htT _ q_4_1) (fun _ h9 => h9) rfl dX3_lastUpTo_9 ?_
      refine lv_icmp_ge (tgt := 45) hx hb dX3_lastUpTo_12 (by decide) (fun c2 => ?_) (fun c2 => ?_)
      · have h := ip c2 h
        obtain rfl := Option.some.inj h
        exact k6_0 _ (lv_sub hl [3] rfl)
      · have h := im c2 h
        refine lv_iload_n hx hb dX3_lastUpTo_15 rfl (lv_at hl 2 rfl) ?_
        refine lv_iload hx hb dX3_lastUpTo_16 (lv_at hl 4 rfl) ?_
        refine roSN X [.int p2, .int y6_4] [] (c_TR_bitAt l D cC cI cZ p2 y6_4 _ rfl) q_20_2 qn_32 q_1_2 q_20_1 hd_TR_bitAt ⟨rfl, rfl, Nat.le_of_ble_eq_true rfl, Nat.le_of_ble_eq_true rfl⟩ ⟨Nat.zero_le _, Nat.zero_le _⟩ hP [] rfl hl.1 rfl (Nat.le_of_ble_eq_true rfl) dX3_lastUpTo_18 (fun n3 => ?_)
        refine lv_iconst (v := (1 : Int32)) hx hb dX3_lastUpTo_21 rfl ?_
        refine lv_icmp_ne (tgt := 39) hx hb dX3_lastUpTo_22 (by decide) (fun c4 => ?_) (fun c4 => ?_)
        · have h := im c4 h
          refine lv_iinc (v := (y6_4 + (1 : Int32))) (lv' := [(4, .int (y6_4 + (1 : Int32))), (0, .ref a_this), (1, .int p1), (2, .int p2), (3, .int y6_3)]) hx hb dX3_lastUpTo_39 hl (k := 4) rfl rfl (by decide) rfl (fun ls hl => ?_)
          refine lv_goto (tgt := 6) hx hb dX3_lastUpTo_42 (by decide) ?_
          exact ih6 y6_3 (y6_4 + (1 : Int32)) _ h _ (lv_sub hl [1, 2, 3, 4, 0] rfl) k6_0
        · have h := ip c4 h
          refine lv_aload_n hx hb dX3_lastUpTo_25 rfl (lv_at hl 0 rfl) ?_
          refine va_get (ci := 3) (v := .ref a_times) (C := RX3) (T := TX3) (N := 5) hx hb htT inlX3 hown hK hP 0 rfl rfl 0 (by decide) (htT _ q_3_23) (fun _ h9 => h9) rfl dX3_lastUpTo_26 ?_
          refine lv_iload hx hb dX3_lastUpTo_29 (lv_at hl 4 rfl) ?_
          obtain ⟨g5, h⟩ := gd h
          refine va_iald hx hb hK hP 1 1 rfl rfl (inB_in g5) dX3_lastUpTo_31 ?_
          refine lv_iload_n hx hb dX3_lastUpTo_32 rfl (lv_at hl 1 rfl) ?_
          refine lv_icmp_gt (tgt := 39) hx hb dX3_lastUpTo_33 (by decide) (fun c6 => ?_) (fun c6 => ?_)
          · have h := ip c6 h
            refine lv_iinc (v := (y6_4 + (1 : Int32))) (lv' := [(4, .int (y6_4 + (1 : Int32))), (0, .ref a_this), (1, .int p1), (2, .int p2), (3, .int y6_3)]) hx hb dX3_lastUpTo_39 hl (k := 4) rfl rfl (by decide) rfl (fun ls hl => ?_)
            refine lv_goto (tgt := 6) hx hb dX3_lastUpTo_42 (by decide) ?_
            exact ih6 y6_3 (y6_4 + (1 : Int32)) _ h _ (lv_sub hl [1, 2, 3, 4, 0] rfl) k6_0
          · have h := im c6 h
            refine lv_iload hx hb dX3_lastUpTo_36 (lv_at hl 4 rfl) ?_
            refine lv_istore_n (lv' := [(3, .int y6_4), (0, .ref a_this), (1, .int p1), (2, .int p2), (4, .int y6_4)]) hx hb dX3_lastUpTo_38 rfl hl (by decide) rfl (fun ls hl => ?_)
            refine lv_iinc (v := (y6_4 + (1 : Int32))) (lv' := [(4, .int (y6_4 + (1 : Int32))), (3, .int y6_4), (0, .ref a_this), (1, .int p1), (2, .int p2)]) hx hb dX3_lastUpTo_39 hl (k := 4) rfl rfl (by decide) rfl (fun ls hl => ?_)
            refine lv_goto (tgt := 6) hx hb dX3_lastUpTo_42 (by decide) ?_
            exact ih6 y6_4 (y6_4 + (1 : Int32)) _ h _ (lv_sub hl [2, 3, 4, 1, 0] rfl) k6_0
  obtain ⟨z1, e1, h⟩ := bd h
  refine LP6 fu (-9 : Int32) (0 : Int32) z1 e1 _ (lv_sub hl [2, 3, 4, 1, 0] rfl) ?_
  intro ls hl
  refine lv_iload_n hx hb dX3_lastUpTo_45 rfl (lv_at hl 0 rfl) ?_
  exact hret _ _ _ dX3_lastUpTo_46 (Option.some.inj h) rfl
set_option maxHeartbeats 4000000 in
set_option maxRecDepth 100000 in
theorem c_Log_remove (l : Launch) (D : va_G) (cC cI cZ : ClassId) (a_this : Nat) (a_times : Nat) (a_values : Nat) (v_size : Int32) (v_promise : Int32) (v_delay : Int32) (A_times : Nat → Int32) (A_values : Nat → Int32) (p1 : Int32) (sz : Nat) (z : Int32 × (Nat → Int32) × (Nat → Int32)) (h : f_Log_remove v_size A_times A_values p1 = some z) : Met l yX3_remove (.code yX3_remove cX3_remove 3 none :: TBL) (RM 1 21) (PcM [.ref a_this, .int p1] sz D (TY cC cI cZ) (k_Log cC cI cZ a_this a_times a_values v_size v_promise v_delay A_times A_values)) (QM none D (k_Log cC cI cZ a_this a_times a_values z.1 v_promise v_delay z.2.1 z.2.2) (va_A (k_Log cC cI cZ a_this a_times a_values v_size v_promise v_delay A_times A_values) sz)) 0 0 (va_A (k_Log cC cI cZ a_this a_times a_values v_size v_promise v_delay A_times A_values) sz) := by
  refine muOfV (by decide) (Nat.le_of_ble_eq_true rfl) rfl ?_
  intro p e s m args below meth c Q ls A X hP hD hS hA hl hret
  have X : Ctx p s m args c cX3_remove 3 RX3 D (TY cC cI cZ) := X
  obtain ⟨hx, hb, hml, hown, htT, hK, hN⟩ := id X
  unfold f_Log_remove at h
  refine lv_aload_n hx hb dX3_remove_0 rfl (lv_at hl 0 rfl) ?_
  refine lv_iload_n hx hb dX3_remove_1 rfl (lv_at hl 1 rfl) ?_
  refine roV X [.int p1] [] (c_Log_has l D cC cI cZ a_this a_times a_values v_size v_promise v_delay A_times A_values p1 _ rfl) gg_X3_28 hd_Log_has ⟨rfl, rfl, Nat.le_of_ble_eq_true rfl, Nat.le_of_ble_eq_true rfl⟩ ⟨Nat.zero_le _, Nat.zero_le _⟩ hP [0, 1, 2] rfl rfl rfl rfl hl.1 rfl (Nat.le_of_ble_eq_true rfl) dX3_remove_2 (fun n1 => ?_)
  refine lv_if_ne (tgt := 9) hx hb dX3_remove_5 (by decide) (fun c2 => ?_) (fun c2 => ?_)
  · have h := im c2 h
    refine lv_iload_n hx hb dX3_remove_9 rfl (lv_at hl 1 rfl) ?_
    refine lv_istore_n (lv' := [(2, .int p1), (0, .ref a_this), (1, .int p1)]) hx hb dX3_remove_10 rfl hl (by decide) rfl (fun ls hl => ?_)
    have LP11 : ∀ (n : Nat) (y11_2 : Int32) (A_times_11 : Nat → Int32) (A_values_11 : Nat → Int32) (zq11 : (Nat → Int32) × (Nat → Int32)), f_Log_remove_L11 v_size n y11_2 A_times_11 A_values_11 = some zq11 → ∀ (H : Heap) (locs : List Loc) (ls : Array Slot), va_P D vwCl (k_Log cC cI cZ a_this a_times a_values v_size v_promise v_delay A_times_11 A_values_11) H → va_D A (k_Log cC cI cZ a_this a_times a_values v_size v_promise v_delay A_times_11 A_values_11) → va_S A s.heap H locs → lv_has ls 3 [(0, .ref a_this), (2, .int y11_2)] → (∀ (H : Heap) (locs : List Loc) (ls : Array Slot), va_P D vwCl (k_Log cC cI cZ a_this a_times a_values v_size v_promise v_delay zq11.1 zq11.2) H → va_D A (k_Log cC cI cZ a_this a_times a_values v_size v_promise v_delay zq11.1 zq11.2) → va_S A s.heap H locs → lv_has ls 3 [(0, .ref a_this)] → W p l e (RM 1 21) s m args below meth c H locs 0 0 Q (F0 m 55 ls [])) → W p l e (RM 1 21) s m args below meth c H locs 0 0 Q (F0 m 11 ls []) := by
      clear h
      intro n
      induction n with
      | zero =>
        intro y11_2 A_times_11 A_values_11 zq11 h
        rw [f_Log_remove_L11_0] at h
        cases h
      | succ n ih11 =>
        intro y11_2 A_times_11 A_values_11 zq11 h H locs ls hP hD hS hl k11_0
        rw [f_Log_remove_L11_s] at h
        refine lv_iload_n hx hb dX3_remove_11 rfl (lv_at hl 1 rfl) ?_
        refine lv_iconst (v := (1 : Int32)) hx hb dX3_remove_12 rfl ?_
        refine lv_iadd hx hb dX3_remove_13 ?_
        refine lv_aload_n hx hb dX3_remove_14 rfl (lv_at hl 0 rfl) ?_
        refine va_get (ci := 3) (v := .int v_size) (C := RX3) (T := TX3) (N := 5) hx hb htT inlX3 hown hK hP 0 rfl rfl 2 (by decide) (htT _ q_4_1) (fun _ h9 => h9) rfl dX3_remove_15 ?_
        refine lv_icmp_ge (tgt := 55) hx hb dX3_remove_18 (by decide) (fun c4 => ?_) (fun c4 => ?_)
        · have h := ip c4 h
          obtain rfl := Option.some.inj h
          exact k11_0 _ _ _ hP hD hS (lv_sub hl [0] rfl)
        · have h := im c4 h
          refine lv_aload_n hx hb dX3_remove_21 rfl (lv_at hl 0 rfl) ?_
          refine va_get (ci := 3) (v := .ref a_times) (C := RX3) (T := TX3) (N := 5) hx hb htT inlX3 hown hK hP 0 rfl rfl 0 (by decide) (htT _ q_3_23) (fun _ h9 => h9) rfl dX3_remove_22 ?_
          refine lv_iload_n hx hb dX3_remove_25 rfl (lv_at hl 1 rfl) ?_
          refine lv_aload_n hx hb dX3_remove_26 rfl (lv_at hl 0 rfl) ?_
          refine va_get (ci := 3) (v := .ref a_times) (C := RX3) (T := TX3) (N := 5) hx hb htT inlX3 hown hK hP 0 rfl rfl 0 (by decide) (htT _ q_3_23) (fun _ h9 => h9) rfl dX3_remove_27 ?_
          refine lv_iload_n hx hb dX3_remove_30 rfl (lv_at hl 1 rfl) ?_
          refine lv_iconst (v := (1 : Int32)) hx hb dX3_remove_31 rfl ?_
          refine lv_iadd hx hb dX3_remove_32 ?_
          obtain ⟨g5, h⟩ := gd h
          refine va_iald hx hb hK hP 1 1 rfl rfl (inB_in g5) dX3_remove_33 ?_
          obtain ⟨g6, h⟩ := gd h
          refine va_iast hx hb hK hP hD hS 1 1 rfl rfl (inB_in g6) dX3_remove_34 (fun H locs hP hD hS => ?_)
          have hP : va_P D vwCl (k_Log cC cI cZ a_this a_times a_values v_size v_promise v_delay (upd A_times_11 (y11_2).toNatClampNeg (A_times_11 ((y11_2 + (1 : Int32))).toNatClampNeg)) A_values_11) H := hP
          have hD : va_D A (k_Log cC cI cZ a_this a_times a_values v_size v_promise v_delay (upd A_times_11 (y11_2).toNatClampNeg (A_times_11 ((y11_2 + (1 : Int32))).toNatClampNeg)) A_values_11) := hD
          refine lv_aload_n hx hb dX3_remove_35 rfl (lv_at hl 0 rfl) ?_
          refine va_get (ci := 3) (v := .ref a_values) (C := RX3) (T := TX3) (N := 5) hx hb htT inlX3 hown hK hP 0 rfl rfl 1 (by decide) (htT _ q_4_0) (fun _ h9 => h9) rfl dX3_remove_36 ?_
          refine lv_iload_n hx hb dX3_remove_39 rfl (lv_at hl 1 rfl) ?_
          refine lv_aload_n hx hb dX3_remove_40 rfl (lv_at hl 0 rfl) ?_
          refine va_get (ci := 3) (v := .ref a_values) (C := RX3) (T := TX3) (N := 5) hx hb htT inlX3 hown hK hP 0 rfl rfl 1 (by decide) (htT _ q_4_0) (fun _ h9 => h9) rfl dX3_remove_41 ?_
          refine lv_iload_n hx hb dX3_remove_44 rfl (lv_at hl 1 rfl) ?_
          refine lv_iconst (v := (1 : Int32)) hx hb dX3_remove_45 rfl ?_
          refine lv_iadd hx hb dX3_remove_46 ?_
          obtain ⟨g7, h⟩ := gd h
          refine va_iald hx hb hK hP 2 1 rfl rfl (inB_in g7) dX3_remove_47 ?_
          obtain ⟨g8, h⟩ := gd h
          refine va_iast hx hb hK hP hD hS 2 1 rfl rfl (inB_in g8) dX3_remove_48 (fun H locs hP hD hS => ?_)
          have hP : va_P D vwCl (k_Log cC cI cZ a_this a_times a_values v_size v_promise v_delay (upd A_times_11 (y11_2).toNatClampNeg (A_times_11 ((y11_2 + (1 : Int32))).toNatClampNeg)) (upd A_values_11 (y11_2).toNatClampNeg (A_values_11 ((y11_2 + (1 : Int32))).toNatClampNeg))) H := hP
          have hD : va_D A (k_Log cC cI cZ a_this a_times a_values v_size v_promise v_delay (upd A_times_11 (y11_2).toNatClampNeg (A_times_11 ((y11_2 + (1 : Int32))).toNatClampNeg)) (upd A_values_11 (y11_2).toNatClampNeg (A_values_11 ((y11_2 + (1 : Int32))).toNatClampNeg))) := hD
          refine lv_iinc (v := (y11_2 + (1 : Int32))) (lv' := [(2, .int (y11_2 + (1 : Int32))), (0, .ref a_this)]) hx hb dX3_remove_49 hl (k := 1) rfl rfl (by decide) rfl (fun ls hl => ?_)
          refine lv_goto (tgt := 11) hx hb dX3_remove_52 (by decide) ?_
          exact ih11 (y11_2 + (1 : Int32)) (upd A_times_11 (y11_2).toNatClampNeg (A_times_11 ((y11_2 + (1 : Int32))).toNatClampNeg)) (upd A_values_11 (y11_2).toNatClampNeg (A_values_11 ((y11_2 + (1 : Int32))).toNatClampNeg)) _ h _ _ _ hP hD hS (lv_sub hl [1, 0] rfl) k11_0
    obtain ⟨z3, e3, h⟩ := bd h
    refine LP11 fu p1 A_times A_values z3 e3 _ _ _ hP hD hS (lv_sub hl [1, 0] rfl) ?_
    intro H locs ls hP hD hS hl
    refine lv_aload_n hx hb dX3_remove_55 rfl (lv_at hl 0 rfl) ?_
    refine lv_dup hx hb dX3_remove_56 rfl ?_
    refine va_get (ci := 3) (v := .int v_size) (C := RX3) (T := TX3) (N := 5) hx hb htT inlX3 hown hK hP 0 rfl rfl 2 (by decide) (htT _ q_4_1) (fun _ h9 => h9) rfl dX3_remove_57 ?_
    refine lv_iconst (v := (1 : Int32)) hx hb dX3_remove_60 rfl ?_
    refine lv_isub hx hb dX3_remove_61 ?_
    refine va_put (ci := 3) (v := .int (v_size - (1 : Int32))) (ty := .int) (C := RX3) (T := TX3) (N := 5) hx hb htT inlX3 tyX3 tyX3_ok nmX3 hown hK hP hD hS 0 rfl rfl 2 (by decide) (htT _ q_4_1) (fun _ h9 => h9) rfl (tyX3_ok 2 (by decide)) rfl rfl (Nat.le_of_ble_eq_true rfl) dX3_remove_62 (fun H locs hP hD hS => ?_)
    have hP : va_P D vwCl (k_Log cC cI cZ a_this a_times a_values (v_size - (1 : Int32)) v_promise v_delay z3.1 z3.2) H := hP
    have hD : va_D A (k_Log cC cI cZ a_this a_times a_values (v_size - (1 : Int32)) v_promise v_delay z3.1 z3.2) := hD
    obtain rfl := Option.some.inj h
    exact hret _ _ _ _ hP hS dX3_remove_65
  · have h := ip c2 h
    obtain rfl := Option.some.inj h
    exact hret _ _ _ _ hP hS dX3_remove_8
set_option maxHeartbeats 4000000 in
set_option maxRecDepth 100000 in
theorem c_Log_startAnew (l : Launch) (D : va_G) (cC cI cZ : ClassId) (a_this : Nat) (a_times : Nat) (a_values : Nat) (v_size : Int32) (v_promise : Int32) (v_delay : Int32) (A_times : Nat → Int32) (A_values : Nat → Int32)  (sz : Nat) (z : Int32 × Int32 × Int32) (h : f_Log_startAnew v_size v_promise v_delay = some z) : Met l yX3_startAnew (.code yX3_startAnew cX3_startAnew 1 none :: TBL) (RM 0 0) (PcM [.ref a_this] sz D (TY cC cI cZ) (k_Log cC cI cZ a_this a_times a_values v_size v_promise v_delay A_times A_values)) (QM none D (k_Log cC cI cZ a_this a_times a_values z.1 z.2.1 z.2.2 A_times A_values) (va_A (k_Log cC cI cZ a_this a_times a_values v_size v_promise v_delay A_times A_values) sz)) 0 0 (va_A (k_Log cC cI cZ a_this a_times a_values v_size v_promise v_delay A_times A_values) sz) := by
  refine muOfV (by decide) (Nat.le_of_ble_eq_true rfl) rfl ?_
  intro p e s m args below meth c Q ls A X hP hD hS hA hl hret
  have X : Ctx p s m args c cX3_startAnew 1 RX3 D (TY cC cI cZ) := X
  obtain ⟨hx, hb, hml, hown, htT, hK, hN⟩ := id X
  unfold f_Log_startAnew at h
  refine lv_aload_n hx hb dX3_startAnew_0 rfl (lv_at hl 0 rfl) ?_
  refine lv_iconst (v := (0 : Int32)) hx hb dX3_startAnew_1 rfl ?_
  refine va_put (ci := 3) (v := .int (0 : Int32)) (ty := .int) (C := RX3) (T := TX3) (N := 5) hx hb htT inlX3 tyX3 tyX3_ok nmX3 hown hK hP hD hS 0 rfl rfl 2 (by decide) (htT _ q_4_1) (fun _ h9 => h9) rfl (tyX3_ok 2 (by decide)) rfl rfl (Nat.le_of_ble_eq_true rfl) dX3_startAnew_2 (fun H locs hP hD hS => ?_)
  have hP : va_P D vwCl (k_Log cC cI cZ a_this a_times a_values (0 : Int32) v_promise v_delay A_times A_values) H := hP
  have hD : va_D A (k_Log cC cI cZ a_this a_times a_values (0 : Int32) v_promise v_delay A_times A_values) := hD
  refine lv_aload_n hx hb dX3_startAnew_5 rfl (lv_at hl 0 rfl) ?_
  refine lv_iconst (v := (5 : Int32)) hx hb dX3_startAnew_6 rfl ?_
  refine va_put (ci := 3) (v := .int (5 : Int32)) (ty := .int) (C := RX3) (T := TX3) (N := 5) hx hb htT inlX3 tyX3 tyX3_ok nmX3 hown hK hP hD hS 0 rfl rfl 3 (by decide) (htT _ q_4_2) (fun _ h9 => h9) rfl (tyX3_ok 3 (by decide)) rfl rfl (Nat.le_of_ble_eq_true rfl) dX3_startAnew_7 (fun H locs hP hD hS => ?_)
  have hP : va_P D vwCl (k_Log cC cI cZ a_this a_times a_values (0 : Int32) (5 : Int32) v_delay A_times A_values) H := hP
  have hD : va_D A (k_Log cC cI cZ a_this a_times a_values (0 : Int32) (5 : Int32) v_delay A_times A_values) := hD
  refine lv_aload_n hx hb dX3_startAnew_10 rfl (lv_at hl 0 rfl) ?_
  refine lv_bipush (v := (14 : Int32)) hx hb dX3_startAnew_11 rfl ?_
  refine va_put (ci := 3) (v := .int (14 : Int32)) (ty := .int) (C := RX3) (T := TX3) (N := 5) hx hb htT inlX3 tyX3 tyX3_ok nmX3 hown hK hP hD hS 0 rfl rfl 4 (by decide) (htT _ q_4_3) (fun _ h9 => h9) rfl (tyX3_ok 4 (by decide)) rfl rfl (Nat.le_of_ble_eq_true rfl) dX3_startAnew_13 (fun H locs hP hD hS => ?_)
  have hP : va_P D vwCl (k_Log cC cI cZ a_this a_times a_values (0 : Int32) (5 : Int32) (14 : Int32) A_times A_values) H := hP
  have hD : va_D A (k_Log cC cI cZ a_this a_times a_values (0 : Int32) (5 : Int32) (14 : Int32) A_times A_values) := hD
  obtain rfl := Option.some.inj h
  exact hret _ _ _ _ hP hS dX3_startAnew_16

set_option maxHeartbeats 4000000 in
set_option maxRecDepth 100000 in
theorem c_Parser_readDigits (l : Launch) (D : va_G) (cC cI cZ : ClassId) (a_this : Nat) (a_text : Nat) (a_text_letters : Nat) (a_draft : Nat) (a_draft_times : Nat) (a_draft_values : Nat) (v_at : Int32) (v_kind : Int32) (v_place : Int32) (v_number : Int32) (v_isPromiseTold : Int32) (v_isDelayTold : Int32) (v_text_length : Int32) (A_text_letters : Nat → Int32) (v_draft_size : Int32) (v_draft_promise : Int32) (v_draft_delay : Int32) (A_draft_times : Nat → Int32) (A_draft_values : Nat → Int32)  (sz : Nat) (z : Int32 × Int32 × Int32) (h : f_Parser_readDigits v_at v_kind v_place v_number v_text_length A_text_letters = some z) : Met l yX4_readDigits (.code yX4_readDigits cX4_readDigits 2 none :: TBL) (RM 1 21) (PcM [.ref a_this] sz D (TY cC cI cZ) (k_Parser cC cI cZ a_this a_text a_text_letters a_draft a_draft_times a_draft_values v_at v_kind v_place v_number v_isPromiseTold v_isDelayTold v_text_length A_text_letters v_draft_size v_draft_promise v_draft_delay A_draft_times A_draft_values)) (QM none D (k_Parser cC cI cZ a_this a_text a_text_letters a_draft a_draft_times a_draft_values z.1 z.2.1 v_place z.2.2 v_isPromiseTold v_isDelayTold v_text_length A_text_letters v_draft_size v_draft_promise v_draft_delay A_draft_times A_draft_values) (va_A (k_Parser cC cI cZ a_this a_text a_text_letters a_draft a_draft_times a_draft_values v_at v_kind v_place v_number v_isPromiseTold v_isDelayTold v_text_length A_text_letters v_draft_size v_draft_promise v_draft_delay A_draft_times A_draft_values) sz)) 0 0 (va_A (k_Parser cC cI cZ a_this a_text a_text_letters a_draft a_draft_times a_draft_values v_at v_kind v_place v_number v_isPromiseTold v_isDelayTold v_text_length A_text_letters v_draft_size v_draft_promise v_draft_delay A_draft_times A_draft_values) sz) := by
  refine muOfV (by decide) (Nat.le_of_ble_eq_true rfl) rfl ?_
  intro p e s m args below meth c Q ls A X hP hD hS hA hl hret
  have X : Ctx p s m args c cX4_readDigits 2 RX4 D (TY cC cI cZ) := X
  obtain ⟨hx, hb, hml, hown, htT, hK, hN⟩ := id X
  unfold f_Parser_readDigits at h
  refine lv_aload_n hx hb dX4_readDigits_0 rfl (lv_at hl 0 rfl) ?_
  refine lv_iconst (v := (0 : Int32)) hx hb dX4_readDigits_1 rfl ?_
  refine va_put (ci := 4) (v := .int (0 : Int32)) (ty := .int) (C := RX4) (T := TX4) (N := 8) hx hb htT inlX4 tyX4 tyX4_ok nmX4 hown hK hP hD hS 0 rfl rfl 5 (by decide) (htT _ q_10_12) (fun _ h9 => h9) rfl (tyX4_ok 5 (by decide)) rfl rfl (Nat.le_of_ble_eq_true rfl) dX4_readDigits_2 (fun H locs hP hD hS => ?_)
  have hP : va_P D vwCl (k_Parser cC cI cZ a_this a_text a_text_letters a_draft a_draft_times a_draft_values v_at v_kind v_place (0 : Int32) v_isPromiseTold v_isDelayTold v_text_length A_text_letters v_draft_size v_draft_promise v_draft_delay A_draft_times A_draft_values) H := hP
  have hD : va_D A (k_Parser cC cI cZ a_this a_text a_text_letters a_draft a_draft_times a_draft_values v_at v_kind v_place (0 : Int32) v_isPromiseTold v_isDelayTold v_text_length A_text_letters v_draft_size v_draft_promise v_draft_delay A_draft_times A_draft_values) := hD
  have LP5 : ∀ (n : Nat) (v_at_5 : Int32) (v_number_5 : Int32) (zq5 : Int32 × Int32), f_Parser_readDigits_L5 v_text_length A_text_letters n v_at_5 v_number_5 = some zq5 → ∀ (H : Heap) (locs : List Loc) (ls : Array Slot), va_P D vwCl (k_Parser cC cI cZ a_this a_text a_text_letters a_draft a_draft_times a_draft_values v_at_5 v_kind v_place v_number_5 v_isPromiseTold v_isDelayTold v_text_length A_text_letters v_draft_size v_draft_promise v_draft_delay A_draft_times A_draft_values) H → va_D A (k_Parser cC cI cZ a_this a_text a_text_letters a_draft a_draft_times a_draft_values v_at_5 v_kind v_place v_number_5 v_isPromiseTold v_isDelayTold v_text_length A_text_letters v_draft_size v_draft_promise v_draft_delay A_draft_times A_draft_values) → va_S A s.heap H locs → lv_has ls 2 [(0, .ref a_this)] → (∀ (H : Heap) (locs : List Loc) (ls : Array Slot), va_P D vwCl (k_Parser cC cI cZ a_this a_text a_text_letters a_draft a_draft_times a_draft_values zq5.1 v_kind v_place zq5.2 v_isPromiseTold v_isDelayTold v_text_length A_text_letters v_draft_size v_draft_promise v_draft_delay A_draft_times A_draft_values) H → va_D A (k_Parser cC cI cZ a_this a_text a_text_letters a_draft a_draft_times a_draft_values zq5.1 v_kind v_place zq5.2 v_isPromiseTold v_isDelayTold v_text_length A_text_letters v_draft_size v_draft_promise v_draft_delay A_draft_times A_draft_values) → va_S A s.heap H locs → lv_has ls 2 [(0, .ref a_this)] → W p l e (RM 1 21) s m args below meth c H locs 0 0 Q (F0 m 77 ls [])) → W p l e (RM 1 21) s m args below meth c H locs 0 0 Q (F0 m 5 ls []) := by
    clear h
    intro n
    induction n with
    | zero =>
      intro v_at_5 v_number_5 zq5 h
      rw [f_Parser_readDigits_L5_0] at h
      cases h
    | succ n ih5 =>
      intro v_at_5 v_number_5 zq5 h H locs ls hP hD hS hl k5_0
      rw [f_Parser_readDigits_L5_s] at h
      refine lv_aload_n hx hb dX4_readDigits_5 rfl (lv_at hl 0 rfl) ?_
      refine va_get (ci := 4) (v := .int v_at_5) (C := RX4) (T := TX4) (N := 8) hx hb htT inlX4 hown hK hP 0 rfl rfl 2 (by decide) (htT _ q_9_11) (fun _ h9 => h9) rfl dX4_readDigits_6 ?_
      refine lv_bipush (v := (120 : Int32)) hx hb dX4_readDigits_9 rfl ?_
      refine lv_icmp_ge (tgt := 77) hx hb dX4_readDigits_11 (by decide) (fun c2 => ?_) (fun c2 => ?_)
      · have h := ip c2 h
        obtain rfl := Option.some.inj h
        exact k5_0 _ _ _ hP hD hS (lv_sub hl [0] rfl)
      · have h := im c2 h
        refine lv_aload_n hx hb dX4_readDigits_14 rfl (lv_at hl 0 rfl) ?_
        refine va_get (ci := 4) (v := .ref a_text) (C := RX4) (T := TX4) (N := 8) hx hb htT inlX4 hown hK hP 0 rfl rfl 0 (by decide) (htT _ q_3_15) (fun _ h9 => h9) rfl dX4_readDigits_15 ?_
        refine lv_aload_n hx hb dX4_readDigits_18 rfl (lv_at hl 0 rfl) ?_
        refine va_get (ci := 4) (v := .int v_at_5) (C := RX4) (T := TX4) (N := 8) hx hb htT inlX4 hown hK hP 0 rfl rfl 2 (by decide) (htT _ q_9_11) (fun _ h9 => h9) rfl dX4_readDigits_19 ?_
        obtain ⟨r3, e3, h⟩ := bd h
        refine roV X [.int v_at_5] [] (c_Text_isDigit l D cC cI cZ a_text a_text_letters v_text_length A_text_letters v_at_5 r3 e3) gg_X4_95 hd_Text_isDigit ⟨rfl, rfl, Nat.le_of_ble_eq_true rfl, Nat.le_of_ble_eq_true rfl⟩ ⟨Nat.zero_le _, Nat.zero_le _⟩ hP [1, 2] rfl rfl rfl rfl hl.1 rfl (Nat.le_of_ble_eq_true rfl) dX4_readDigits_22 (fun n3 => ?_)
        refine lv_if_eq (tgt := 77) hx hb dX4_readDigits_25 (by decide) (fun c4 => ?_) (fun c4 => ?_)
        · have h := ip c4 h
          obtain rfl := Option.some.inj h
          exact k5_0 _ _ _ hP hD hS (lv_sub hl [0] rfl)
        · have h := im c4 h
          refine lv_aload_n hx hb dX4_readDigits_28 rfl (lv_at hl 0 rfl) ?_
          refine va_get (ci := 4) (v := .int v_number_5) (C := RX4) (T := TX4) (N := 8) hx hb htT inlX4 hown hK hP 0 rfl rfl 5 (by decide) (htT _ q_10_12) (fun _ h9 => h9) rfl dX4_readDigits_29 ?_
          refine lv_sipush (v := (9999 : Int32)) hx hb dX4_readDigits_32 rfl ?_
          refine lv_icmp_gt (tgt := 64) hx hb dX4_readDigits_35 (by decide) (fun c5 => ?_) (fun c5 => ?_)
          · have h := ip c5 h
            refine lv_aload_n hx hb dX4_readDigits_64 rfl (lv_at hl 0 rfl) ?_
            refine lv_dup hx hb dX4_readDigits_65 rfl ?_
            refine va_get (ci := 4) (v := .int v_at_5) (C := RX4) (T := TX4) (N := 8) hx hb htT inlX4 hown hK hP 0 rfl rfl 2 (by decide) (htT _ q_9_11) (fun _ h9 => h9) rfl dX4_readDigits_66 ?_
            refine lv_iconst (v := (1 : Int32)) hx hb dX4_readDigits_69 rfl ?_
            refine lv_iadd hx hb dX4_readDigits_70 ?_
            refine va_put (ci := 4) (v := .int (v_at_5 + (1 : Int32))) (ty := .int) (C := RX4) (T := TX4) (N := 8) hx hb htT inlX4 tyX4 tyX4_ok nmX4 hown hK hP hD hS 0 rfl rfl 2 (by decide) (htT _ q_9_11) (fun _ h9 => h9) rfl (tyX4_ok 2 (by decide)) rfl rfl (Nat.le_of_ble_eq_true rfl) dX4_readDigits_71 (fun H locs hP hD hS => ?_)
            have hP : va_P D vwCl (k_Parser cC cI cZ a_this a_text a_text_letters a_draft a_draft_times a_draft_values (v_at_5 + (1 : Int32)) v_kind v_place v_number_5 v_isPromiseTold v_isDelayTold v_text_length A_text_letters v_draft_size v_draft_promise v_draft_delay A_draft_times A_draft_values) H := hP
            have hD : va_D A (k_Parser cC cI cZ a_this a_text a_text_letters a_draft a_draft_times a_draft_values (v_at_5 + (1 : Int32)) v_kind v_place v_number_5 v_isPromiseTold v_isDelayTold v_text_length A_text_letters v_draft_size v_draft_promise v_draft_delay A_draft_times A_draft_values) := hD
            refine lv_goto (tgt := 5) hx hb dX4_readDigits_74 (by decide) ?_
            exact ih5 (v_at_5 + (1 : Int32)) v_number_5 _ h _ _ _ hP hD hS (lv_sub hl [0] rfl) k5_0
          · have h := im c5 h
            refine lv_aload_n hx hb dX4_readDigits_38 rfl (lv_at hl 0 rfl) ?_
            refine lv_aload_n hx hb dX4_readDigits_39 rfl (lv_at hl 0 rfl) ?_
            refine va_get (ci := 4) (v := .int v_number_5) (C := RX4) (T := TX4) (N := 8) hx hb htT inlX4 hown hK hP 0 rfl rfl 5 (by decide) (htT _ q_10_12) (fun _ h9 => h9) rfl dX4_readDigits_40 ?_
            refine lv_bipush (v := (10 : Int32)) hx hb dX4_readDigits_43 rfl ?_
            refine lv_imul hx hb dX4_readDigits_45 ?_
            refine lv_aload_n hx hb dX4_readDigits_46 rfl (lv_at hl 0 rfl) ?_
            refine va_get (ci := 4) (v := .ref a_text) (C := RX4) (T := TX4) (N := 8) hx hb htT inlX4 hown hK hP 0 rfl rfl 0 (by decide) (htT _ q_3_15) (fun _ h9 => h9) rfl dX4_readDigits_47 ?_
            refine lv_aload_n hx hb dX4_readDigits_50 rfl (lv_at hl 0 rfl) ?_
            refine va_get (ci := 4) (v := .int v_at_5) (C := RX4) (T := TX4) (N := 8) hx hb htT inlX4 hown hK hP 0 rfl rfl 2 (by decide) (htT _ q_9_11) (fun _ h9 => h9) rfl dX4_readDigits_51 ?_
            obtain ⟨r6, e6, h⟩ := bd h
            refine roV X [.int v_at_5] [.int (v_number_5 * (10 : Int32)), .ref a_this] (c_Text_letterAt l D cC cI cZ a_text a_text_letters v_text_length A_text_letters v_at_5 r6 e6) gg_X4_101 hd_Text_letterAt ⟨rfl, rfl, Nat.le_of_ble_eq_true rfl, Nat.le_of_ble_eq_true rfl⟩ ⟨Nat.zero_le _, Nat.zero_le _⟩ hP [1, 2] rfl rfl rfl rfl hl.1 rfl (Nat.le_of_ble_eq_true rfl) dX4_readDigits_54 (fun n6 => ?_)
            refine lv_bipush (v := (48 : Int32)) hx hb dX4_readDigits_57 rfl ?_
            refine lv_isub hx hb dX4_readDigits_59 ?_
            refine lv_iadd hx hb dX4_readDigits_60 ?_
            refine va_put (ci := 4) (v := .int ((v_number_5 * (10 : Int32)) + (r6 - (48 : Int32)))) (ty := .int) (C := RX4) (T := TX4) (N := 8) hx hb htT inlX4 tyX4 tyX4_ok nmX4 hown hK hP hD hS 0 rfl rfl 5 (by decide) (htT _ q_10_12) (fun _ h9 => h9) rfl (tyX4_ok 5 (by decide)) rfl rfl (Nat.le_of_ble_eq_true rfl) dX4_readDigits_61 (fun H locs hP hD hS => ?_)
            have hP : va_P D vwCl (k_Parser cC cI cZ a_this a_text a_text_letters a_draft a_draft_times a_draft_values v_at_5 v_kind v_place ((v_number_5 * (10 : Int32)) + (r6 - (48 : Int32))) v_isPromiseTold v_isDelayTold v_text_length A_text_letters v_draft_size v_draft_promise v_draft_delay A_draft_times A_draft_values) H := hP
            have hD : va_D A (k_Parser cC cI cZ a_this a_text a_text_letters a_draft a_draft_times a_draft_values v_at_5 v_kind v_place ((v_number_5 * (10 : Int32)) + (r6 - (48 : Int32))) v_isPromiseTold v_isDelayTold v_text_length A_text_letters v_draft_size v_draft_promise v_draft_delay A_draft_times A_draft_values) := hD
            refine lv_aload_n hx hb dX4_readDigits_64 rfl (lv_at hl 0 rfl) ?_
            refine lv_dup hx hb dX4_readDigits_65 rfl ?_
            refine va_get (ci := 4) (v := .int v_at_5) (C := RX4) (T := TX4) (N := 8) hx hb htT inlX4 hown hK hP 0 rfl rfl 2 (by decide) (htT _ q_9_11) (fun _ h9 => h9) rfl dX4_readDigits_66 ?_
            refine lv_iconst (v := (1 : Int32)) hx hb dX4_readDigits_69 rfl ?_
            refine lv_iadd hx hb dX4_readDigits_70 ?_
            refine va_put (ci := 4) (v := .int (v_at_5 + (1 : Int32))) (ty := .int) (C := RX4) (T := TX4) (N := 8) hx hb htT inlX4 tyX4 tyX4_ok nmX4 hown hK hP hD hS 0 rfl rfl 2 (by decide) (htT _ q_9_11) (fun _ h9 => h9) rfl (tyX4_ok 2 (by decide)) rfl rfl (Nat.le_of_ble_eq_true rfl) dX4_readDigits_71 (fun H locs hP hD hS => ?_)
            have hP : va_P D vwCl (k_Parser cC cI cZ a_this a_text a_text_letters a_draft a_draft_times a_draft_values (v_at_5 + (1 : Int32)) v_kind v_place ((v_number_5 * (10 : Int32)) + (r6 - (48 : Int32))) v_isPromiseTold v_isDelayTold v_text_length A_text_letters v_draft_size v_draft_promise v_draft_delay A_draft_times A_draft_values) H := hP
            have hD : va_D A (k_Parser cC cI cZ a_this a_text a_text_letters a_draft a_draft_times a_draft_values (v_at_5 + (1 : Int32)) v_kind v_place ((v_number_5 * (10 : Int32)) + (r6 - (48 : Int32))) v_isPromiseTold v_isDelayTold v_text_length A_text_letters v_draft_size v_draft_promise v_draft_delay A_draft_times A_draft_values) := hD
            refine lv_goto (tgt := 5) hx hb dX4_readDigits_74 (by decide) ?_
            exact ih5 (v_at_5 + (1 : Int32)) ((v_number_5 * (10 : Int32)) + (r6 - (48 : Int32))) _ h _ _ _ hP hD hS (lv_sub hl [0] rfl) k5_0
  obtain ⟨z1, e1, h⟩ := bd h
  refine LP5 fu v_at (0 : Int32) z1 e1 _ _ _ hP hD hS (lv_sub hl [0] rfl) ?_
  intro H locs ls hP hD hS hl
  refine lv_aload_n hx hb dX4_readDigits_77 rfl (lv_at hl 0 rfl) ?_
  refine va_get (ci := 4) (v := .ref a_text) (C := RX4) (T := TX4) (N := 8) hx hb htT inlX4 hown hK hP 0 rfl rfl 0 (by decide) (htT _ q_3_15) (fun _ h9 => h9) rfl dX4_readDigits_78 ?_
  refine lv_aload_n hx hb dX4_readDigits_81 rfl (lv_at hl 0 rfl) ?_
  refine va_get (ci := 4) (v := .int v_place) (C := RX4) (T := TX4) (N := 8) hx hb htT inlX4 hown hK hP 0 rfl rfl 4 (by decide) (htT _ q_9_15) (fun _ h9 => h9) rfl dX4_readDigits_82 ?_
  obtain ⟨r7, e7, h⟩ := bd h
  refine roV X [.int v_place] [] (c_Text_letterAt l D cC cI cZ a_text a_text_letters v_text_length A_text_letters v_place r7 e7) gg_X4_101 hd_Text_letterAt ⟨rfl, rfl, Nat.le_of_ble_eq_true rfl, Nat.le_of_ble_eq_true rfl⟩ ⟨Nat.zero_le _, Nat.zero_le _⟩ hP [1, 2] rfl rfl rfl rfl hl.1 rfl (Nat.le_of_ble_eq_true rfl) dX4_readDigits_85 (fun n7 => ?_)
  refine lv_bipush (v := (48 : Int32)) hx hb dX4_readDigits_88 rfl ?_
  refine lv_icmp_ne (tgt := 110) hx hb dX4_readDigits_90 (by decide) (fun c8 => ?_) (fun c8 => ?_)
  · have h := im c8 h
    refine lv_iconst (v := (0 : Int32)) hx hb dX4_readDigits_110 rfl ?_
    refine lv_istore_n (lv' := [(1, .int (0 : Int32)), (0, .ref a_this)]) hx hb dX4_readDigits_111 rfl hl (by decide) rfl (fun ls hl => ?_)
    refine lv_aload_n hx hb dX4_readDigits_112 rfl (lv_at hl 1 rfl) ?_
    refine lv_iload_n hx hb dX4_readDigits_113 rfl (lv_at hl 0 rfl) ?_
    refine lv_if_ne (tgt := 127) hx hb dX4_readDigits_114 (by decide) (fun c13 => absurd (by decide) c13) (fun _ => ?_)
    refine lv_aload_n hx hb dX4_readDigits_117 rfl (lv_at hl 1 rfl) ?_
    refine va_get (ci := 4) (v := .int z1.2) (C := RX4) (T := TX4) (N := 8) hx hb htT inlX4 hown hK hP 0 rfl rfl 5 (by decide) (htT _ q_10_12) (fun _ h9 => h9) rfl dX4_readDigits_118 ?_
    refine lv_sipush (v := (9999 : Int32)) hx hb dX4_readDigits_121 rfl ?_
    refine lv_icmp_le (tgt := 131) hx hb dX4_readDigits_124 (by decide) (fun c14 => ?_) (fun c14 => ?_)
    · have h := ip c14 h
      refine lv_iconst (v := (1 : Int32)) hx hb dX4_readDigits_131 rfl ?_
      refine va_put (ci := 4) (v := .int (1 : Int32)) (ty := .int) (C := RX4) (T := TX4) (N := 8) hx hb htT inlX4 tyX4 tyX4_ok nmX4 hown hK hP hD hS 0 rfl rfl 3 (by decide) (htT _ q_9_14) (fun _ h9 => h9) rfl (tyX4_ok 3 (by decide)) rfl rfl (Nat.le_of_ble_eq_true rfl) dX4_readDigits_132 (fun H locs hP hD hS => ?_)
      have hP : va_P D vwCl (k_Parser cC cI cZ a_this a_text a_text_letters a_draft a_draft_times a_draft_values z1.1 (1 : Int32) v_place z1.2 v_isPromiseTold v_isDelayTold v_text_length A_text_letters v_draft_size v_draft_promise v_draft_delay A_draft_times A_draft_values) H := hP
      have hD : va_D A (k_Parser cC cI cZ a_this a_text a_text_letters a_draft a_draft_times a_draft_values z1.1 (1 : Int32) v_place z1.2 v_isPromiseTold v_isDelayTold v_text_length A_text_letters v_draft_size v_draft_promise v_draft_delay A_draft_times A_draft_values) := hD
      obtain rfl := Option.some.inj h
      exact hret _ _ _ _ hP hS dX4_readDigits_135
    · have h := im c14 h
      refine lv_iconst (v := (2 : Int32)) hx hb dX4_readDigits_127 rfl ?_
      refine lv_goto (tgt := 132) hx hb dX4_readDigits_128 (by decide) ?_
      refine va_put (ci := 4) (v := .int (2 : Int32)) (ty := .int) (C := RX4) (T := TX4) (N := 8) hx hb htT inlX4 tyX4 tyX4_ok nmX4 hown hK hP hD hS 0 rfl rfl 3 (by decide) (htT _ q_9_14) (fun _ h9 => h9) rfl (tyX4_ok 3 (by decide)) rfl rfl (Nat.le_of_ble_eq_true rfl) dX4_readDigits_132 (fun H locs hP hD hS => ?_)
      have hP : va_P D vwCl (k_Parser cC cI cZ a_this a_text a_text_letters a_draft a_draft_times a_draft_values z1.1 (2 : Int32) v_place z1.2 v_isPromiseTold v_isDelayTold v_text_length A_text_letters v_draft_size v_draft_promise v_draft_delay A_draft_times A_draft_values) H := hP
      have hD : va_D A (k_Parser cC cI cZ a_this a_text a_text_letters a_draft a_draft_times a_draft_values z1.1 (2 : Int32) v_place z1.2 v_isPromiseTold v_isDelayTold v_text_length A_text_letters v_draft_size v_draft_promise v_draft_delay A_draft_times A_draft_values) := hD
      obtain rfl := Option.some.inj h
      exact hret _ _ _ _ hP hS dX4_readDigits_135
  · have h := ip c8 h
    refine lv_aload_n hx hb dX4_readDigits_93 rfl (lv_at hl 0 rfl) ?_
    refine va_get (ci := 4) (v := .int z1.1) (C := RX4) (T := TX4) (N := 8) hx hb htT inlX4 hown hK hP 0 rfl rfl 2 (by decide) (htT _ q_9_11) (fun _ h9 => h9) rfl dX4_readDigits_94 ?_
    refine lv_aload_n hx hb dX4_readDigits_97 rfl (lv_at hl 0 rfl) ?_
    refine va_get (ci := 4) (v := .int v_place) (C := RX4) (T := TX4) (N := 8) hx hb htT inlX4 hown hK hP 0 rfl rfl 4 (by decide) (htT _ q_9_15) (fun _ h9 => h9) rfl dX4_readDigits_98 ?_
    refine lv_isub hx hb dX4_readDigits_101 ?_
    refine lv_iconst (v := (1 : Int32)) hx hb dX4_readDigits_102 rfl ?_
    refine lv_icmp_le (tgt := 110) hx hb dX4_readDigits_103 (by decide) (fun c9 => ?_) (fun c9 => ?_)
    · have h := ip c9 h
      refine lv_iconst (v := (0 : Int32)) hx hb dX4_readDigits_110 rfl ?_
      refine lv_istore_n (lv' := [(1, .int (0 : Int32)), (0, .ref a_this)]) hx hb dX4_readDigits_111 rfl hl (by decide) rfl (fun ls hl => ?_)
      refine lv_aload_n hx hb dX4_readDigits_112 rfl (lv_at hl 1 rfl) ?_
      refine lv_iload_n hx hb dX4_readDigits_113 rfl (lv_at hl 0 rfl) ?_
      refine lv_if_ne (tgt := 127) hx hb dX4_readDigits_114 (by decide) (fun c10 => absurd (by decide) c10) (fun _ => ?_)
      refine lv_aload_n hx hb dX4_readDigits_117 rfl (lv_at hl 1 rfl) ?_
      refine va_get (ci := 4) (v := .int z1.2) (C := RX4) (T := TX4) (N := 8) hx hb htT inlX4 hown hK hP 0 rfl rfl 5 (by decide) (htT _ q_10_12) (fun _ h9 => h9) rfl dX4_readDigits_118 ?_
      refine lv_sipush (v := (9999 : Int32)) hx hb dX4_readDigits_121 rfl ?_
      refine lv_icmp_le (tgt := 131) hx hb dX4_readDigits_124 (by decide) (fun c11 => ?_) (fun c11 => ?_)
      · have h := ip c11 h
        refine lv_iconst (v := (1 : Int32)) hx hb dX4_readDigits_131 rfl ?_
        refine va_put (ci := 4) (v := .int (1 : Int32)) (ty := .int) (C := RX4) (T := TX4) (N := 8) hx hb htT inlX4 tyX4 tyX4_ok nmX4 hown hK hP hD hS 0 rfl rfl 3 (by decide) (htT _ q_9_14) (fun _ h9 => h9) rfl (tyX4_ok 3 (by decide)) rfl rfl (Nat.le_of_ble_eq_true rfl) dX4_readDigits_132 (fun H locs hP hD hS => ?_)
        have hP : va_P D vwCl (k_Parser cC cI cZ a_this a_text a_text_letters a_draft a_draft_times a_draft_values z1.1 (1 : Int32) v_place z1.2 v_isPromiseTold v_isDelayTold v_text_length A_text_letters v_draft_size v_draft_promise v_draft_delay A_draft_times A_draft_values) H := hP
        have hD : va_D A (k_Parser cC cI cZ a_this a_text a_text_letters a_draft a_draft_times a_draft_values z1.1 (1 : Int32) v_place z1.2 v_isPromiseTold v_isDelayTold v_text_length A_text_letters v_draft_size v_draft_promise v_draft_delay A_draft_times A_draft_values) := hD
        obtain rfl := Option.some.inj h
        exact hret _ _ _ _ hP hS dX4_readDigits_135
      · have h := im c11 h
        refine lv_iconst (v := (2 : Int32)) hx hb dX4_readDigits_127 rfl ?_
        refine lv_goto (tgt := 132) hx hb dX4_readDigits_128 (by decide) ?_
        refine va_put (ci := 4) (v := .int (2 : Int32)) (ty := .int) (C := RX4) (T := TX4) (N := 8) hx hb htT inlX4 tyX4 tyX4_ok nmX4 hown hK hP hD hS 0 rfl rfl 3 (by decide) (htT _ q_9_14) (fun _ h9 => h9) rfl (tyX4_ok 3 (by decide)) rfl rfl (Nat.le_of_ble_eq_true rfl) dX4_readDigits_132 (fun H locs hP hD hS => ?_)
        have hP : va_P D vwCl (k_Parser cC cI cZ a_this a_text a_text_letters a_draft a_draft_times a_draft_values z1.1 (2 : Int32) v_place z1.2 v_isPromiseTold v_isDelayTold v_text_length A_text_letters v_draft_size v_draft_promise v_draft_delay A_draft_times A_draft_values) H := hP
        have hD : va_D A (k_Parser cC cI cZ a_this a_text a_text_letters a_draft a_draft_times a_draft_values z1.1 (2 : Int32) v_place z1.2 v_isPromiseTold v_isDelayTold v_text_length A_text_letters v_draft_size v_draft_promise v_draft_delay A_draft_times A_draft_values) := hD
        obtain rfl := Option.some.inj h
        exact hret _ _ _ _ hP hS dX4_readDigits_135
    · have h := im c9 h
      refine lv_iconst (v := (1 : Int32)) hx hb dX4_readDigits_106 rfl ?_
      refine lv_goto (tgt := 111) hx hb dX4_readDigits_107 (by decide) ?_
      refine lv_istore_n (lv' := [(1, .int (1 : Int32)), (0, .ref a_this)]) hx hb dX4_readDigits_111 rfl hl (by decide) rfl (fun ls hl => ?_)
      refine lv_aload_n hx hb dX4_readDigits_112 rfl (lv_at hl 1 rfl) ?_
      refine lv_iload_n hx hb dX4_readDigits_113 rfl (lv_at hl 0 rfl) ?_
      refine lv_if_ne (tgt := 127) hx hb dX4_readDigits_114 (by decide) (fun _ => ?_) (fun c12 => absurd c12 (by decide))
      refine lv_iconst (v := (2 : Int32)) hx hb dX4_readDigits_127 rfl ?_
      refine lv_goto (tgt := 132) hx hb dX4_readDigits_128 (by decide) ?_
      refine va_put (ci := 4) (v := .int (2 : Int32)) (ty := .int) (C := RX4) (T := TX4) (N := 8) hx hb htT inlX4 tyX4 tyX4_ok nmX4 hown hK hP hD hS 0 rfl rfl 3 (by decide) (htT _ q_9_14) (fun _ h9 => h9) rfl (tyX4_ok 3 (by decide)) rfl rfl (Nat.le_of_ble_eq_true rfl) dX4_readDigits_132 (fun H locs hP hD hS => ?_)
      have hP : va_P D vwCl (k_Parser cC cI cZ a_this a_text a_text_letters a_draft a_draft_times a_draft_values z1.1 (2 : Int32) v_place z1.2 v_isPromiseTold v_isDelayTold v_text_length A_text_letters v_draft_size v_draft_promise v_draft_delay A_draft_times A_draft_values) H := hP
      have hD : va_D A (k_Parser cC cI cZ a_this a_text a_text_letters a_draft a_draft_times a_draft_values z1.1 (2 : Int32) v_place z1.2 v_isPromiseTold v_isDelayTold v_text_length A_text_letters v_draft_size v_draft_promise v_draft_delay A_draft_times A_draft_values) := hD
      obtain rfl := Option.some.inj h
      exact hret _ _ _ _ hP hS dX4_readDigits_135
set_option maxHeartbeats 4000000 in
set_option maxRecDepth 100000 in
theorem c_Parser_kindOf (l : Launch) (D : va_G) (cC cI cZ : ClassId)   (p0 : Int32) (r : Int32) (h : f_Parser_kindOf p0 = r) : Met l yX4_kindOf (.code yX4_kindOf cX4_kindOf 1 (some .int) :: TBL) (RM 0 0) (PcR [.int p0] D (TY cC cI cZ) []) (vp_Si (PO .int r)) 0 0 (fun _ => False) := by
  refine roOf (by decide) (Nat.le_of_ble_eq_true rfl) rfl ?_
  intro p e s m args below meth c Q ls X hP hl hret
  have X : Ctx p s m args c cX4_kindOf 1 RX4 D (TY cC cI cZ) := X
  obtain ⟨hx, hb, hml, hown, htT, hK, hN⟩ := id X
  unfold f_Parser_kindOf at h
  refine lv_iload_n hx hb dX4_kindOf_0 rfl (lv_at hl 0 rfl) ?_
  by_cases c1 : p0 = (59 : Int32)
  · have h := ip c1 h
    refine lv_lookup (off := 51) (tgt := 52) hx hb dX4_kindOf_1 (by decide) (by rw [c1]; rfl) (by decide) ?_
    refine lv_iload_n hx hb dX4_kindOf_52 rfl (lv_at hl 0 rfl) ?_
    exact hret _ _ _ dX4_kindOf_53 h rfl
  · have h := im c1 h
    by_cases c2 : p0 = (100 : Int32)
    · have h := ip c2 h
      refine lv_lookup (off := 51) (tgt := 52) hx hb dX4_kindOf_1 (by decide) (by rw [c2]; rfl) (by decide) ?_
      refine lv_iload_n hx hb dX4_kindOf_52 rfl (lv_at hl 0 rfl) ?_
      exact hret _ _ _ dX4_kindOf_53 h rfl
    · have h := im c2 h
      by_cases c3 : p0 = (112 : Int32)
      · have h := ip c3 h
        refine lv_lookup (off := 51) (tgt := 52) hx hb dX4_kindOf_1 (by decide) (by rw [c3]; rfl) (by decide) ?_
        refine lv_iload_n hx hb dX4_kindOf_52 rfl (lv_at hl 0 rfl) ?_
        exact hret _ _ _ dX4_kindOf_53 h rfl
      · have h := im c3 h
        by_cases c4 : p0 = (114 : Int32)
        · have h := ip c4 h
          refine lv_lookup (off := 51) (tgt := 52) hx hb dX4_kindOf_1 (by decide) (by rw [c4]; rfl) (by decide) ?_
          refine lv_iload_n hx hb dX4_kindOf_52 rfl (lv_at hl 0 rfl) ?_
          exact hret _ _ _ dX4_kindOf_53 h rfl
        · have h := im c4 h
          by_cases c5 : p0 = (117 : Int32)
          · have h := ip c5 h
            refine lv_lookup (off := 51) (tgt := 52) hx hb dX4_kindOf_1 (by decide) (by rw [c5]; rfl) (by decide) ?_
            refine lv_iload_n hx hb dX4_kindOf_52 rfl (lv_at hl 0 rfl) ?_
            exact hret _ _ _ dX4_kindOf_53 h rfl
          · have h := im c5 h
            refine lv_lookup (off := 53) (tgt := 54) hx hb dX4_kindOf_1 (by decide) ((lv_osw c1 rfl).trans ((lv_osw c2 rfl).trans ((lv_osw c3 rfl).trans ((lv_osw c4 rfl).trans ((lv_osw c5 rfl).trans rfl))))) (by decide) ?_
            refine lv_iconst (v := (2 : Int32)) hx hb dX4_kindOf_54 rfl ?_
            exact hret _ _ _ dX4_kindOf_55 h rfl
set_option maxHeartbeats 4000000 in
set_option maxRecDepth 100000 in
theorem c_Parser_readToken (l : Launch) (D : va_G) (cC cI cZ : ClassId) (a_this : Nat) (a_text : Nat) (a_text_letters : Nat) (a_draft : Nat) (a_draft_times : Nat) (a_draft_values : Nat) (v_at : Int32) (v_kind : Int32) (v_place : Int32) (v_number : Int32) (v_isPromiseTold : Int32) (v_isDelayTold : Int32) (v_text_length : Int32) (A_text_letters : Nat → Int32) (v_draft_size : Int32) (v_draft_promise : Int32) (v_draft_delay : Int32) (A_draft_times : Nat → Int32) (A_draft_values : Nat → Int32)  (sz : Nat) (z : Int32 × Int32 × Int32 × Int32) (h : f_Parser_readToken v_at v_kind v_place v_number v_text_length A_text_letters = some z) : Met l yX4_readToken (.code yX4_readToken cX4_readToken 1 none :: TBL) (RM 2 42) (PcM [.ref a_this] sz D (TY cC cI cZ) (k_Parser cC cI cZ a_this a_text a_text_letters a_draft a_draft_times a_draft_values v_at v_kind v_place v_number v_isPromiseTold v_isDelayTold v_text_length A_text_letters v_draft_size v_draft_promise v_draft_delay A_draft_times A_draft_values)) (QM none D (k_Parser cC cI cZ a_this a_text a_text_letters a_draft a_draft_times a_draft_values z.1 z.2.1 z.2.2.1 z.2.2.2 v_isPromiseTold v_isDelayTold v_text_length A_text_letters v_draft_size v_draft_promise v_draft_delay A_draft_times A_draft_values) (va_A (k_Parser cC cI cZ a_this a_text a_text_letters a_draft a_draft_times a_draft_values v_at v_kind v_place v_number v_isPromiseTold v_isDelayTold v_text_length A_text_letters v_draft_size v_draft_promise v_draft_delay A_draft_times A_draft_values) sz)) 0 0 (va_A (k_Parser cC cI cZ a_this a_text a_text_letters a_draft a_draft_times a_draft_values v_at v_kind v_place v_number v_isPromiseTold v_isDelayTold v_text_length A_text_letters v_draft_size v_draft_promise v_draft_delay A_draft_times A_draft_values) sz) := by
  refine muOfV (by decide) (Nat.le_of_ble_eq_true rfl) rfl ?_
  intro p e s m args below meth c Q ls A X hP hD hS hA hl hret
  have X : Ctx p s m args c cX4_readToken 1 RX4 D (TY cC cI cZ) := X
  obtain ⟨hx, hb, hml, hown, htT, hK, hN⟩ := id X
  unfold f_Parser_readToken at h
  have LP0 : ∀ (n : Nat) (v_at_0 : Int32) (zq0 : Int32), f_Parser_readToken_L0 v_text_length A_text_letters n v_at_0 = some zq0 → ∀ (H : Heap) (locs : List Loc) (ls : Array Slot), va_P D vwCl (k_Parser cC cI cZ a_this a_text a_text_letters a_draft a_draft_times a_draft_values v_at_0 v_kind v_place v_number v_isPromiseTold v_isDelayTold v_text_length A_text_letters v_draft_size v_draft_promise v_draft_delay A_draft_times A_draft_values) H → va_D A (k_Parser cC cI cZ a_this a_text a_text_letters a_draft a_draft_times a_draft_values v_at_0 v_kind v_place v_number v_isPromiseTold v_isDelayTold v_text_length A_text_letters v_draft_size v_draft_promise v_draft_delay A_draft_times A_draft_values) → va_S A s.heap H locs → lv_has ls 1 [(0, .ref a_this)] → (∀ (H : Heap) (locs : List Loc) (ls : Array Slot), va_P D vwCl (k_Parser cC cI cZ a_this a_text a_text_letters a_draft a_draft_times a_draft_values zq0 v_kind v_place v_number v_isPromiseTold v_isDelayTold v_text_length A_text_letters v_draft_size v_draft_promise v_draft_delay A_draft_times A_draft_values) H → va_D A (k_Parser cC cI cZ a_this a_text a_text_letters a_draft a_draft_times a_draft_values zq0 v_kind v_place v_number v_isPromiseTold v_isDelayTold v_text_length A_text_letters v_draft_size v_draft_promise v_draft_delay A_draft_times A_draft_values) → va_S A s.heap H locs → lv_has ls 1 [(0, .ref a_this)] → W p l e (RM 2 42) s m args below meth c H locs 0 0 Q (F0 m 36 ls [])) → W p l e (RM 2 42) s m args below meth c H locs 0 0 Q (F0 m 0 ls []) := by
    clear h
    intro n
    induction n with
    | zero =>
      intro v_at_0 zq0 h
      rw [f_Parser_readToken_L0_0] at h
      cases h
    | succ n ih0 =>
      intro v_at_0 zq0 h H locs ls hP hD hS hl k0_0
      rw [f_Parser_readToken_L0_s] at h
      refine lv_aload_n hx hb dX4_readToken_0 rfl (lv_at hl 0 rfl) ?_
      refine va_get (ci := 4) (v := .int v_at_0) (C := RX4) (T := TX4) (N := 8) hx hb htT inlX4 hown hK hP 0 rfl rfl 2 (by decide) (htT _ q_9_11) (fun _ h9 => h9) rfl dX4_readToken_1 ?_
      refine lv_bipush (v := (120 : Int32)) hx hb dX4_readToken_4 rfl ?_
      refine lv_icmp_ge (tgt := 36) hx hb dX4_readToken_6 (by decide) (fun c2 => ?_) (fun c2 => ?_)
      · have h := ip c2 h
        obtain rfl := Option.some.inj h
        exact k0_0 _ _ _ hP hD hS (lv_sub hl [0] rfl)
      · have h := im c2 h
        refine lv_aload_n hx hb dX4_readToken_9 rfl (lv_at hl 0 rfl) ?_
        refine va_get (ci := 4) (v := .ref a_text) (C := RX4) (T := TX4) (N := 8) hx hb htT inlX4 hown hK hP 0 rfl rfl 0 (by decide) (htT _ q_3_15) (fun _ h9 => h9) rfl dX4_readToken_10 ?_
        refine lv_aload_n hx hb dX4_readToken_13 rfl (lv_at hl 0 rfl) ?_
        refine va_get (ci := 4) (v := .int v_at_0) (C := RX4) (T := TX4) (N := 8) hx hb htT inlX4 hown hK hP 0 rfl rfl 2 (by decide) (htT _ q_9_11) (fun _ h9 => h9) rfl dX4_readToken_14 ?_
        obtain ⟨r3, e3, h⟩ := bd h
        refine roV X [.int v_at_0] [] (c_Text_isBlank l D cC cI cZ a_text a_text_letters v_text_length A_text_letters v_at_0 r3 e3) gg_X4_87 hd_Text_isBlank ⟨rfl, rfl, Nat.le_of_ble_eq_true rfl, Nat.le_of_ble_eq_true rfl⟩ ⟨Nat.zero_le _, Nat.zero_le _⟩ hP [1, 2] rfl rfl rfl rfl hl.1 rfl (Nat.le_of_ble_eq_true rfl) dX4_readToken_17 (fun n3 => ?_)
        refine lv_if_eq (tgt := 36) hx hb dX4_readToken_20 (by decide) (fun c4 => ?_) (fun c4 => ?_)
        · have h := ip c4 h
          obtain rfl := Option.some.inj h
          exact k0_0 _ _ _ hP hD hS (lv_sub hl [0] rfl)
        · have h := im c4 h
          refine lv_aload_n hx hb dX4_readToken_23 rfl (lv_at hl 0 rfl) ?_
          refine lv_dup hx hb dX4_readToken_24 rfl ?_
          refine va_get (ci := 4) (v := .int v_at_0) (C := RX4) (T := TX4) (N := 8) hx hb htT inlX4 hown hK hP 0 rfl rfl 2 (by decide) (htT _ q_9_11) (fun _ h9 => h9) rfl dX4_readToken_25 ?_
          refine lv_iconst (v := (1 : Int32)) hx hb dX4_readToken_28 rfl ?_
          refine lv_iadd hx hb dX4_readToken_29 ?_
          refine va_put (ci := 4) (v := .int (v_at_0 + (1 : Int32))) (ty := .int) (C := RX4) (T := TX4) (N := 8) hx hb htT inlX4 tyX4 tyX4_ok nmX4 hown hK hP hD hS 0 rfl rfl 2 (by decide) (htT _ q_9_11) (fun _ h9 => h9) rfl (tyX4_ok 2 (by decide)) rfl rfl (Nat.le_of_ble_eq_true rfl) dX4_readToken_30 (fun H locs hP hD hS => ?_)
          have hP : va_P D vwCl (k_Parser cC cI cZ a_this a_text a_text_letters a_draft a_draft_times a_draft_values (v_at_0 + (1 : Int32)) v_kind v_place v_number v_isPromiseTold v_isDelayTold v_text_length A_text_letters v_draft_size v_draft_promise v_draft_delay A_draft_times A_draft_values) H := hP
          have hD : va_D A (k_Parser cC cI cZ a_this a_text a_text_letters a_draft a_draft_times a_draft_values (v_at_0 + (1 : Int32)) v_kind v_place v_number v_isPromiseTold v_isDelayTold v_text_length A_text_letters v_draft_size v_draft_promise v_draft_delay A_draft_times A_draft_values) := hD
          refine lv_goto (tgt := 0) hx hb dX4_readToken_33 (by decide) ?_
          exact ih0 (v_at_0 + (1 : Int32)) _ h _ _ _ hP hD hS (lv_sub hl [0] rfl) k0_0
  obtain ⟨z1, e1, h⟩ := bd h
  refine LP0 fu v_at z1 e1 _ _ _ hP hD hS (lv_sub hl [0] rfl) ?_
  intro H locs ls hP hD hS hl
  refine lv_aload_n hx hb dX4_readToken_36 rfl (lv_at hl 0 rfl) ?_
  refine lv_aload_n hx hb dX4_readToken_37 rfl (lv_at hl 0 rfl) ?_
  refine va_get (ci := 4) (v := .int z1) (C := RX4) (T := TX4) (N := 8) hx hb htT inlX4 hown hK hP 0 rfl rfl 2 (by decide) (htT _ q_9_11) (fun _ h9 => h9) rfl dX4_readToken_38 ?_
  refine va_put (ci := 4) (v := .int z1) (ty := .int) (C := RX4) (T := TX4) (N := 8) hx hb htT inlX4 tyX4 tyX4_ok nmX4 hown hK hP hD hS 0 rfl rfl 4 (by decide) (htT _ q_9_15) (fun _ h9 => h9) rfl (tyX4_ok 4 (by decide)) rfl rfl (Nat.le_of_ble_eq_true rfl) dX4_readToken_41 (fun H locs hP hD hS => ?_)
  have hP : va_P D vwCl (k_Parser cC cI cZ a_this a_text a_text_letters a_draft a_draft_times a_draft_values z1 v_kind z1 v_number v_isPromiseTold v_isDelayTold v_text_length A_text_letters v_draft_size v_draft_promise v_draft_delay A_draft_times A_draft_values) H := hP
  have hD : va_D A (k_Parser cC cI cZ a_this a_text a_text_letters a_draft a_draft_times a_draft_values z1 v_kind z1 v_number v_isPromiseTold v_isDelayTold v_text_length A_text_letters v_draft_size v_draft_promise v_draft_delay A_draft_times A_draft_values) := hD
  refine lv_aload_n hx hb dX4_readToken_44 rfl (lv_at hl 0 rfl) ?_
  refine va_get (ci := 4) (v := .int z1) (C := RX4) (T := TX4) (N := 8) hx hb htT inlX4 hown hK hP 0 rfl rfl 2 (by decide) (htT _ q_9_11) (fun _ h9 => h9) rfl dX4_readToken_45 ?_
  refine lv_aload_n hx hb dX4_readToken_48 rfl (lv_at hl 0 rfl) ?_
  refine va_get (ci := 4) (v := .ref a_text) (C := RX4) (T := TX4) (N := 8) hx hb htT inlX4 hown hK hP 0 rfl rfl 0 (by decide) (htT _ q_3_15) (fun _ h9 => h9) rfl dX4_readToken_49 ?_
  refine va_getN (ci := 8) (v := .int v_text_length) (C := RX8) (T := TX8) (N := 2) hx hb htT inlX8 hown hK hP 1 rfl rfl 1 (by decide) (va_Nw.use rfl (hN _ qn_0)) (fun _ h9 => h9) rfl dX4_readToken_52 ?_
  refine lv_icmp_lt (tgt := 66) hx hb dX4_readToken_55 (by decide) (fun c5 => ?_) (fun c5 => ?_)
  · have h := ip c5 h
    refine lv_aload_n hx hb dX4_readToken_66 rfl (lv_at hl 0 rfl) ?_
    refine va_get (ci := 4) (v := .ref a_text) (C := RX4) (T := TX4) (N := 8) hx hb htT inlX4 hown hK hP 0 rfl rfl 0 (by decide) (htT _ q_3_15) (fun _ h9 => h9) rfl dX4_readToken_67 ?_
    refine lv_aload_n hx hb dX4_readToken_70 rfl (lv_at hl 0 rfl) ?_
    refine va_get (ci := 4) (v := .int z1) (C := RX4) (T := TX4) (N := 8) hx hb htT inlX4 hown hK hP 0 rfl rfl 2 (by decide) (htT _ q_9_11) (fun _ h9 => h9) rfl dX4_readToken_71 ?_
    obtain ⟨r6, e6, h⟩ := bd h
    refine roV X [.int z1] [] (c_Text_isDigit l D cC cI cZ a_text a_text_letters v_text_length A_text_letters z1 r6 e6) gg_X4_95 hd_Text_isDigit ⟨rfl, rfl, Nat.le_of_ble_eq_true rfl, Nat.le_of_ble_eq_true rfl⟩ ⟨Nat.zero_le _, Nat.zero_le _⟩ hP [1, 2] rfl rfl rfl rfl hl.1 rfl (Nat.le_of_ble_eq_true rfl) dX4_readToken_74 (fun n6 => ?_)
    refine lv_if_eq (tgt := 87) hx hb dX4_readToken_77 (by decide) (fun c7 => ?_) (fun c7 => ?_)
    · have h := ip c7 h
      refine lv_aload_n hx hb dX4_readToken_87 rfl (lv_at hl 0 rfl) ?_
      refine lv_aload_n hx hb dX4_readToken_88 rfl (lv_at hl 0 rfl) ?_
      refine va_get (ci := 4) (v := .ref a_text) (C := RX4) (T := TX4) (N := 8) hx hb htT inlX4 hown hK hP 0 rfl rfl 0 (by decide) (htT _ q_3_15) (fun _ h9 => h9) rfl dX4_readToken_89 ?_
      refine lv_aload_n hx hb dX4_readToken_92 rfl (lv_at hl 0 rfl) ?_
      refine va_get (ci := 4) (v := .int z1) (C := RX4) (T := TX4) (N := 8) hx hb htT inlX4 hown hK hP 0 rfl rfl 2 (by decide) (htT _ q_9_11) (fun _ h9 => h9) rfl dX4_readToken_93 ?_
      obtain ⟨r8, e8, h⟩ := bd h
      refine roV X [.int z1] [.ref a_this] (c_Text_letterAt l D cC cI cZ a_text a_text_letters v_text_length A_text_letters z1 r8 e8) gg_X4_101 hd_Text_letterAt ⟨rfl, rfl, Nat.le_of_ble_eq_true rfl, Nat.le_of_ble_eq_true rfl⟩ ⟨Nat.zero_le _, Nat.zero_le _⟩ hP [1, 2] rfl rfl rfl rfl hl.1 rfl (Nat.le_of_ble_eq_true rfl) dX4_readToken_96 (fun n8 => ?_)
      refine roS X [.int r8] [.ref a_this] (c_Parser_kindOf l D cC cI cZ r8 _ rfl) gg_X4_105 hd_Parser_kindOf ⟨rfl, rfl, Nat.le_of_ble_eq_true rfl, Nat.le_of_ble_eq_true rfl⟩ ⟨Nat.zero_le _, Nat.zero_le _⟩ hP [] rfl hl.1 rfl (Nat.le_of_ble_eq_true rfl) dX4_readToken_99 (fun n9 => ?_)
      refine va_put (ci := 4) (v := .int (f_Parser_kindOf r8)) (ty := .int) (C := RX4) (T := TX4) (N := 8) hx hb htT inlX4 tyX4 tyX4_ok nmX4 hown hK hP hD hS 0 rfl rfl 3 (by decide) (htT _ q_9_14) (fun _ h9 => h9) rfl (tyX4_ok 3 (by decide)) rfl rfl (Nat.le_of_ble_eq_true rfl) dX4_readToken_102 (fun H locs hP hD hS => ?_)
      have hP : va_P D vwCl (k_Parser cC cI cZ a_this a_text a_text_letters a_draft a_draft_times a_draft_values z1 (f_Parser_kindOf r8) z1 v_number v_isPromiseTold v_isDelayTold v_text_length A_text_letters v_draft_size v_draft_promise v_draft_delay A_draft_times A_draft_values) H := hP
      have hD : va_D A (k_Parser cC cI cZ a_this a_text a_text_letters a_draft a_draft_times a_draft_values z1 (f_Parser_kindOf r8) z1 v_number v_isPromiseTold v_isDelayTold v_text_length A_text_letters v_draft_size v_draft_promise v_draft_delay A_draft_times A_draft_values) := hD
      refine lv_aload_n hx hb dX4_readToken_105 rfl (lv_at hl 0 rfl) ?_
      refine lv_dup hx hb dX4_readToken_106 rfl ?_
      refine va_get (ci := 4) (v := .int z1) (C := RX4) (T := TX4) (N := 8) hx hb htT inlX4 hown hK hP 0 rfl rfl 2 (by decide) (htT _ q_9_11) (fun _ h9 => h9) rfl dX4_readToken_107 ?_
      refine lv_iconst (v := (1 : Int32)) hx hb dX4_readToken_110 rfl ?_
      refine lv_iadd hx hb dX4_readToken_111 ?_
      refine va_put (ci := 4) (v := .int (z1 + (1 : Int32))) (ty := .int) (C := RX4) (T := TX4) (N := 8) hx hb htT inlX4 tyX4 tyX4_ok nmX4 hown hK hP hD hS 0 rfl rfl 2 (by decide) (htT _ q_9_11) (fun _ h9 => h9) rfl (tyX4_ok 2 (by decide)) rfl rfl (Nat.le_of_ble_eq_true rfl) dX4_readToken_112 (fun H locs hP hD hS => ?_)
      have hP : va_P D vwCl (k_Parser cC cI cZ a_this a_text a_text_letters a_draft a_draft_times a_draft_values (z1 + (1 : Int32)) (f_Parser_kindOf r8) z1 v_number v_isPromiseTold v_isDelayTold v_text_length A_text_letters v_draft_size v_draft_promise v_draft_delay A_draft_times A_draft_values) H := hP
      have hD : va_D A (k_Parser cC cI cZ a_this a_text a_text_letters a_draft a_draft_times a_draft_values (z1 + (1 : Int32)) (f_Parser_kindOf r8) z1 v_number v_isPromiseTold v_isDelayTold v_text_length A_text_letters v_draft_size v_draft_promise v_draft_delay A_draft_times A_draft_values) := hD
      obtain rfl := Option.some.inj h
      exact hret _ _ _ _ hP hS dX4_readToken_115
    · have h := im c7 h
      refine lv_aload_n hx hb dX4_readToken_80 rfl (lv_at hl 0 rfl) ?_
      obtain ⟨z10, e10, h⟩ := bd h
      refine muVV (ws' := (k_Parser cC cI cZ a_this a_text a_text_letters a_draft a_draft_times a_draft_values z10.1 z10.2.1 z1 z10.2.2 v_isPromiseTold v_isDelayTold v_text_length A_text_letters v_draft_size v_draft_promise v_draft_delay A_draft_times A_draft_values)) X [] [] (c_Parser_readDigits l D cC cI cZ a_this a_text a_text_letters a_draft a_draft_times a_draft_values z1 v_kind z1 v_number v_isPromiseTold v_isDelayTold v_text_length A_text_letters v_draft_size v_draft_promise v_draft_delay A_draft_times A_draft_values _ z10 e10) gg_X4_98 hd_Parser_readDigits ⟨rfl, rfl, Nat.le_of_ble_eq_true rfl, Nat.le_of_ble_eq_true rfl⟩ ⟨Nat.zero_le _, Nat.zero_le _⟩ hP hD hS hA [0, 1, 2, 3, 4, 5] [] [0, 1, 2, 3, 4, 5] rfl rfl (by decide) (by decide) rfl rfl rfl rfl rfl hl.1 rfl (Nat.le_of_ble_eq_true rfl) dX4_readToken_81 (fun H locs hP hD hS => ?_)
      refine lv_goto (tgt := 115) hx hb dX4_readToken_84 (by decide) ?_
      obtain rfl := Option.some.inj h
      exact hret _ _ _ _ hP hS dX4_readToken_115
  · have h := im c5 h
    refine lv_aload_n hx hb dX4_readToken_58 rfl (lv_at hl 0 rfl) ?_
    refine lv_iconst (v := (0 : Int32)) hx hb dX4_readToken_59 rfl ?_
    refine va_put (ci := 4) (v := .int (0 : Int32)) (ty := .int) (C := RX4) (T := TX4) (N := 8) hx hb htT inlX4 tyX4 tyX4_ok nmX4 hown hK hP hD hS 0 rfl rfl 3 (by decide) (htT _ q_9_14) (fun _ h9 => h9) rfl (tyX4_ok 3 (by decide)) rfl rfl (Nat.le_of_ble_eq_true rfl) dX4_readToken_60 (fun H locs hP hD hS => ?_)
    have hP : va_P D vwCl (k_Parser cC cI cZ a_this a_text a_text_letters a_draft a_draft_times a_draft_values z1 (0 : Int32) z1 v_number v_isPromiseTold v_isDelayTold v_text_length A_text_letters v_draft_size v_draft_promise v_draft_delay A_draft_times A_draft_values) H := hP
    have hD : va_D A (k_Parser cC cI cZ a_this a_text a_text_letters a_draft a_draft_times a_draft_values z1 (0 : Int32) z1 v_number v_isPromiseTold v_isDelayTold v_text_length A_text_letters v_draft_size v_draft_promise v_draft_delay A_draft_times A_draft_values) := hD
    refine lv_goto (tgt := 115) hx hb dX4_readToken_63 (by decide) ?_
    obtain rfl := Option.some.inj h
    exact hret _ _ _ _ hP hS dX4_readToken_115
set_option maxHeartbeats 4000000 in
set_option maxRecDepth 100000 in
theorem c_Parser_isNumber (l : Launch) (D : va_G) (cC cI cZ : ClassId) (a_this : Nat) (a_text : Nat) (a_text_letters : Nat) (a_draft : Nat) (a_draft_times : Nat) (a_draft_values : Nat) (v_at : Int32) (v_kind : Int32) (v_place : Int32) (v_number : Int32) (v_isPromiseTold : Int32) (v_isDelayTold : Int32) (v_text_length : Int32) (A_text_letters : Nat → Int32) (v_draft_size : Int32) (v_draft_promise : Int32) (v_draft_delay : Int32) (A_draft_times : Nat → Int32) (A_draft_values : Nat → Int32) (p1 : Int32) (p2 : Int32) (sz : Nat) (z : Int32 × Int32 × Int32 × Int32 × Int32) (h : f_Parser_isNumber v_at v_kind v_place v_number v_text_length A_text_letters p1 p2 = some z) : Met l yX4_isNumber (.code yX4_isNumber cX4_isNumber 3 (some .boolean) :: TBL) (RM 3 62) (PcM [.ref a_this, .int p1, .int p2] sz D (TY cC cI cZ) (k_Parser cC cI cZ a_this a_text a_text_letters a_draft a_draft_times a_draft_values v_at v_kind v_place v_number v_isPromiseTold v_isDelayTold v_text_length A_text_letters v_draft_size v_draft_promise v_draft_delay A_draft_times A_draft_values)) (fun a st o t => QM (some (.int z.1)) D (k_Parser cC cI cZ a_this a_text a_text_letters a_draft a_draft_times a_draft_values z.2.1 z.2.2.1 z.2.2.2.1 z.2.2.2.2 v_isPromiseTold v_isDelayTold v_text_length A_text_letters v_draft_size v_draft_promise v_draft_delay A_draft_times A_draft_values) (va_A (k_Parser cC cI cZ a_this a_text a_text_letters a_draft a_draft_times a_draft_values v_at v_kind v_place v_number v_isPromiseTold v_isDelayTold v_text_length A_text_letters v_draft_size v_draft_promise v_draft_delay A_draft_times A_draft_values) sz) a st o t ∧ narrow .boolean (.int z.1) = .int z.1) 0 0 (va_A (k_Parser cC cI cZ a_this a_text a_text_letters a_draft a_draft_times a_draft_values v_at v_kind v_place v_number v_isPromiseTold v_isDelayTold v_text_length A_text_letters v_draft_size v_draft_promise v_draft_delay A_draft_times A_draft_values) sz) := by
  refine muOf (by decide) (Nat.le_of_ble_eq_true rfl) rfl ?_
  intro p e s m args below meth c Q ls A X hP hD hS hA hl hret
  have X : Ctx p s m args c cX4_isNumber 3 RX4 D (TY cC cI cZ) := X
  obtain ⟨hx, hb, hml, hown, htT, hK, hN⟩ := id X
  unfold f_Parser_isNumber at h
  refine lv_aload_n hx hb dX4_isNumber_0 rfl (lv_at hl 0 rfl) ?_
  obtain ⟨z1, e1, h⟩ := bd h
  refine muVV (ws' := (k_Parser cC cI cZ a_this a_text a_text_letters a_draft a_draft_times a_draft_values z1.1 z1.2.1 z1.2.2.1 z1.2.2.2 v_isPromiseTold v_isDelayTold v_text_length A_text_letters v_draft_size v_draft_promise v_draft_delay A_draft_times A_draft_values)) X [] [] (c_Parser_readToken l D cC cI cZ a_this a_text a_text_letters a_draft a_draft_times a_draft_values v_at v_kind v_place v_number v_isPromiseTold v_isDelayTold v_text_length A_text_letters v_draft_size v_draft_promise v_draft_delay A_draft_times A_draft_values _ z1 e1) gg_X4_36 hd_Parser_readToken ⟨rfl, rfl, Nat.le_of_ble_eq_true rfl, Nat.le_of_ble_eq_true rfl⟩ ⟨Nat.zero_le _, Nat.zero_le _⟩ hP hD hS hA [0, 1, 2, 3, 4, 5] [] [0, 1, 2, 3, 4, 5] rfl rfl (by decide) (by decide) rfl rfl rfl rfl rfl hl.1 rfl (Nat.le_of_ble_eq_true rfl) dX4_isNumber_1 (fun H locs hP hD hS => ?_)
  refine lv_aload_n hx hb dX4_isNumber_4 rfl (lv_at hl 0 rfl) ?_
  refine va_get (ci := 4) (v := .int z1.2.1) (C := RX4) (T := TX4) (N := 8) hx hb htT inlX4 hown hK hP 0 rfl rfl 3 (by decide) (htT _ q_9_14) (fun _ h9 => h9) rfl dX4_isNumber_5 ?_
  refine lv_iconst (v := (1 : Int32)) hx hb dX4_isNumber_8 rfl ?_
  refine lv_icmp_ne (tgt := 28) hx hb dX4_isNumber_9 (by decide) (fun c2 => ?_) (fun c2 => ?_)
  · have h := im c2 h
    refine lv_iconst (v := (0 : Int32)) hx hb dX4_isNumber_28 rfl ?_
    obtain rfl := Option.some.inj h
    exact hret _ _ _ _ _ hP hS dX4_isNumber_29 rfl rfl
  · have h := ip c2 h
    refine lv_aload_n hx hb dX4_isNumber_12 rfl (lv_at hl 0 rfl) ?_
    refine va_get (ci := 4) (v := .int z1.2.2.2) (C := RX4) (T := TX4) (N := 8) hx hb htT inlX4 hown hK hP 0 rfl rfl 5 (by decide) (htT _ q_10_12) (fun _ h9 => h9) rfl dX4_isNumber_13 ?_
    refine lv_iload_n hx hb dX4_isNumber_16 rfl (lv_at hl 1 rfl) ?_
    refine lv_iload_n hx hb dX4_isNumber_17 rfl (lv_at hl 2 rfl) ?_
    refine roSN X [.int z1.2.2.2, .int p1, .int p2] [] (c_TR_isWithin l D cC cI cZ z1.2.2.2 p1 p2 _ rfl) q_7_21 qn_29 q_1_2 q_7_20 hd_TR_isWithin ⟨rfl, rfl, Nat.le_of_ble_eq_true rfl, Nat.le_of_ble_eq_true rfl⟩ ⟨Nat.zero_le _, Nat.zero_le _⟩ hP [] rfl hl.1 rfl (Nat.le_of_ble_eq_true rfl) dX4_isNumber_18 (fun n3 => ?_)
    refine lv_if_eq (tgt := 28) hx hb dX4_isNumber_21 (by decide) (fun c4 => ?_) (fun c4 => ?_)
    · have h := ip c4 h
      refine lv_iconst (v := (0 : Int32)) hx hb dX4_isNumber_28 rfl ?_
      obtain rfl := Option.some.inj h
      exact hret _ _ _ _ _ hP hS dX4_isNumber_29 rfl rfl
    · have h := im c4 h
      refine lv_iconst (v := (1 : Int32)) hx hb dX4_isNumber_24 rfl ?_
      refine lv_goto (tgt := 29) hx hb dX4_isNumber_25 (by decide) ?_
      obtain rfl := Option.some.inj h
      exact hret _ _ _ _ _ hP hS dX4_isNumber_29 rfl rfl
set_option maxHeartbeats 4000000 in
set_option maxRecDepth 100000 in
theorem c_Parser_isEnded (l : Launch) (D : va_G) (cC cI cZ : ClassId) (a_this : Nat) (a_text : Nat) (a_text_letters : Nat) (a_draft : Nat) (a_draft_times : Nat) (a_draft_values : Nat) (v_at : Int32) (v_kind : Int32) (v_place : Int32) (v_number : Int32) (v_isPromiseTold : Int32) (v_isDelayTold : Int32) (v_text_length : Int32) (A_text_letters : Nat → Int32) (v_draft_size : Int32) (v_draft_promise : Int32) (v_draft_delay : Int32) (A_draft_times : Nat → Int32) (A_draft_values : Nat → Int32)  (sz : Nat) (z : Int32 × Int32 × Int32 × Int32 × Int32) (h : f_Parser_isEnded v_at v_kind v_place v_number v_text_length A_text_letters = some z) : Met l yX4_isEnded (.code yX4_isEnded cX4_isEnded 1 (some .boolean) :: TBL) (RM 3 62) (PcM [.ref a_this] sz D (TY cC cI cZ) (k_Parser cC cI cZ a_this a_text a_text_letters a_draft a_draft_times a_draft_values v_at v_kind v_place v_number v_isPromiseTold v_isDelayTold v_text_length A_text_letters v_draft_size v_draft_promise v_draft_delay A_draft_times A_draft_values)) (fun a st o t => QM (some (.int z.1)) D (k_Parser cC cI cZ a_this a_text a_text_letters a_draft a_draft_times a_draft_values z.2.1 z.2.2.1 z.2.2.2.1 z.2.2.2.2 v_isPromiseTold v_isDelayTold v_text_length A_text_letters v_draft_size v_draft_promise v_draft_delay A_draft_times A_draft_values) (va_A (k_Parser cC cI cZ a_this a_text a_text_letters a_draft a_draft_times a_draft_values v_at v_kind v_place v_number v_isPromiseTold v_isDelayTold v_text_length A_text_letters v_draft_size v_draft_promise v_draft_delay A_draft_times A_draft_values) sz) a st o t ∧ narrow .boolean (.int z.1) = .int z.1) 0 0 (va_A (k_Parser cC cI cZ a_this a_text a_text_letters a_draft a_draft_times a_draft_values v_at v_kind v_place v_number v_isPromiseTold v_isDelayTold v_text_length A_text_letters v_draft_size v_draft_promise v_draft_delay A_draft_times A_draft_values) sz) := by
  refine muOf (by decide) (Nat.le_of_ble_eq_true rfl) rfl ?_
  intro p e s m args below meth c Q ls A X hP hD hS hA hl hret
  have X : Ctx p s m args c cX4_isEnded 1 RX4 D (TY cC cI cZ) := X
  obtain ⟨hx, hb, hml, hown, htT, hK, hN⟩ := id X
  unfold f_Parser_isEnded at h
  refine lv_aload_n hx hb dX4_isEnded_0 rfl (lv_at hl 0 rfl) ?_
  obtain ⟨z1, e1, h⟩ := bd h
  refine muVV (ws' := (k_Parser cC cI cZ a_this a_text a_text_letters a_draft a_draft_times a_draft_values z1.1 z1.2.1 z1.2.2.1 z1.2.2.2 v_isPromiseTold v_isDelayTold v_text_length A_text_letters v_draft_size v_draft_promise v_draft_delay A_draft_times A_draft_values)) X [] [] (c_Parser_readToken l D cC cI cZ a_this a_text a_text_letters a_draft a_draft_times a_draft_values v_at v_kind v_place v_number v_isPromiseTold v_isDelayTold v_text_length A_text_letters v_draft_size v_draft_promise v_draft_delay A_draft_times A_draft_values _ z1 e1) gg_X4_36 hd_Parser_readToken ⟨rfl, rfl, Nat.le_of_ble_eq_true rfl, Nat.le_of_ble_eq_true rfl⟩ ⟨Nat.zero_le _, Nat.zero_le _⟩ hP hD hS hA [0, 1, 2, 3, 4, 5] [] [0, 1, 2, 3, 4, 5] rfl rfl (by decide) (by decide) rfl rfl rfl rfl rfl hl.1 rfl (Nat.le_of_ble_eq_true rfl) dX4_isEnded_1 (fun H locs hP hD hS => ?_)
  refine lv_aload_n hx hb dX4_isEnded_4 rfl (lv_at hl 0 rfl) ?_
  refine va_get (ci := 4) (v := .int z1.2.1) (C := RX4) (T := TX4) (N := 8) hx hb htT inlX4 hown hK hP 0 rfl rfl 3 (by decide) (htT _ q_9_14) (fun _ h9 => h9) rfl dX4_isEnded_5 ?_
  refine lv_bipush (v := (59 : Int32)) hx hb dX4_isEnded_8 rfl ?_
  refine lv_icmp_ne (tgt := 17) hx hb dX4_isEnded_10 (by decide) (fun c2 => ?_) (fun c2 => ?_)
  · have h := im c2 h
    refine lv_iconst (v := (0 : Int32)) hx hb dX4_isEnded_17 rfl ?_
    obtain rfl := Option.some.inj h
    exact hret _ _ _ _ _ hP hS dX4_isEnded_18 rfl rfl
  · have h := ip c2 h
    refine lv_iconst (v := (1 : Int32)) hx hb dX4_isEnded_13 rfl ?_
    refine lv_goto (tgt := 18) hx hb dX4_isEnded_14 (by decide) ?_
    obtain rfl := Option.some.inj h
    exact hret _ _ _ _ _ hP hS dX4_isEnded_18 rfl rfl
set_option maxHeartbeats 4000000 in
set_option maxRecDepth 100000 in
theorem c_Parser_isDelayItem (l : Launch) (D : va_G) (cC cI cZ : ClassId) (a_this : Nat) (a_text : Nat) (a_text_letters : Nat) (a_draft : Nat) (a_draft_times : Nat) (a_draft_values : Nat) (v_at : Int32) (v_kind : Int32) (v_place : Int32) (v_number : Int32) (v_isPromiseTold : Int32) (v_isDelayTold : Int32) (v_text_length : Int32) (A_text_letters : Nat → Int32) (v_draft_size : Int32) (v_draft_promise : Int32) (v_draft_delay : Int32) (A_draft_times : Nat → Int32) (A_draft_values : Nat → Int32)  (sz : Nat) (z : Int32 × Int32 × Int32 × Int32 × Int32 × Int32 × Int32) (h : f_Parser_isDelayItem v_at v_kind v_place v_number v_isDelayTold v_text_length A_text_letters v_draft_delay = some z) : Met l yX4_isDelayItem (.code yX4_isDelayItem cX4_isDelayItem 1 (some .boolean) :: TBL) (RM 4 84) (PcM [.ref a_this] sz D (TY cC cI cZ) (k_Parser cC cI cZ a_this a_text a_text_letters a_draft a_draft_times a_draft_values v_at v_kind v_place v_number v_isPromiseTold v_isDelayTold v_text_length A_text_letters v_draft_size v_draft_promise v_draft_delay A_draft_times A_draft_values)) (fun a st o t => QM (some (.int z.1)) D (k_Parser cC cI cZ a_this a_text a_text_letters a_draft a_draft_times a_draft_values z.2.1 z.2.2.1 z.2.2.2.1 z.2.2.2.2.1 v_isPromiseTold z.2.2.2.2.2.1 v_text_length A_text_letters v_draft_size v_draft_promise z.2.2.2.2.2.2 A_draft_times A_draft_values) (va_A (k_Parser cC cI cZ a_this a_text a_text_letters a_draft a_draft_times a_draft_values v_at v_kind v_place v_number v_isPromiseTold v_isDelayTold v_text_length A_text_letters v_draft_size v_draft_promise v_draft_delay A_draft_times A_draft_values) sz) a st o t ∧ narrow .boolean (.int z.1) = .int z.1) 0 0 (va_A (k_Parser cC cI cZ a_this a_text a_text_letters a_draft a_draft_times a_draft_values v_at v_kind v_place v_number v_isPromiseTold v_isDelayTold v_text_length A_text_letters v_draft_size v_draft_promise v_draft_delay A_draft_times A_draft_values) sz) := by
  refine muOf (by decide) (Nat.le_of_ble_eq_true rfl) rfl ?_
  intro p e s m args below meth c Q ls A X hP hD hS hA hl hret
  have X : Ctx p s m args c cX4_isDelayItem 1 RX4 D (TY cC cI cZ) := X
  obtain ⟨hx, hb, hml, hown, htT, hK, hN⟩ := id X
  unfold f_Parser_isDelayItem at h
  refine lv_aload_n hx hb dX4_isDelayItem_0 rfl (lv_at hl 0 rfl) ?_
  refine va_get (ci := 4) (v := .int v_isDelayTold) (C := RX4) (T := TX4) (N := 8) hx hb htT inlX4 hown hK hP 0 rfl rfl 7 (by decide) (htT _ q_9_13) (fun _ h9 => h9) rfl dX4_isDelayItem_1 ?_
  refine lv_if_ne (tgt := 17) hx hb dX4_isDelayItem_4 (by decide) (fun c1 => ?_) (fun c1 => ?_)
  · have h := im c1 h
    refine lv_iconst (v := (0 : Int32)) hx hb dX4_isDelayItem_17 rfl ?_
    obtain rfl := Option.some.inj h
    exact hret _ _ _ _ _ hP hS dX4_isDelayItem_18 rfl rfl
  · have h := ip c1 h
    refine lv_aload_n hx hb dX4_isDelayItem_7 rfl (lv_at hl 0 rfl) ?_
    refine lv_iconst (v := (1 : Int32)) hx hb dX4_isDelayItem_8 rfl ?_
    refine lv_bipush (v := (14 : Int32)) hx hb dX4_isDelayItem_9 rfl ?_
    obtain ⟨z2, e2, h⟩ := bd h
    refine muV (ws' := (k_Parser cC cI cZ a_this a_text a_text_letters a_draft a_draft_times a_draft_values z2.2.1 z2.2.2.1 z2.2.2.2.1 z2.2.2.2.2 v_isPromiseTold v_isDelayTold v_text_length A_text_letters v_draft_size v_draft_promise v_draft_delay A_draft_times A_draft_values)) X [.int (1 : Int32), .int (14 : Int32)] [] (c_Parser_isNumber l D cC cI cZ a_this a_text a_text_letters a_draft a_draft_times a_draft_values v_at v_kind v_place v_number v_isPromiseTold v_isDelayTold v_text_length A_text_letters v_draft_size v_draft_promise v_draft_delay A_draft_times A_draft_values (1 : Int32) (14 : Int32) _ z2 e2) gg_X4_56 hd_Parser_isNumber ⟨rfl, rfl, Nat.le_of_ble_eq_true rfl, Nat.le_of_ble_eq_true rfl⟩ ⟨Nat.zero_le _, Nat.zero_le _⟩ hP hD hS hA [0, 1, 2, 3, 4, 5] [] [0, 1, 2, 3, 4, 5] rfl rfl (by decide) (by decide) rfl rfl rfl rfl rfl hl.1 rfl (Nat.le_of_ble_eq_true rfl) dX4_isDelayItem_11 (fun H locs hP hD hS n2 => ?_)
    refine lv_if_ne (tgt := 19) hx hb dX4_isDelayItem_14 (by decide) (fun c3 => ?_) (fun c3 => ?_)
    · have h := im c3 h
      refine lv_aload_n hx hb dX4_isDelayItem_19 rfl (lv_at hl 0 rfl) ?_
      refine lv_iconst (v := (1 : Int32)) hx hb dX4_isDelayItem_20 rfl ?_
      refine va_put (ci := 4) (v := .int (1 : Int32)) (ty := .boolean) (C := RX4) (T := TX4) (N := 8) hx hb htT inlX4 tyX4 tyX4_ok nmX4 hown hK hP hD hS 0 rfl rfl 7 (by decide) (htT _ q_9_13) (fun _ h9 => h9) rfl (tyX4_ok 7 (by decide)) rfl rfl (Nat.le_of_ble_eq_true rfl) dX4_isDelayItem_21 (fun H locs hP hD hS => ?_)
      have hP : va_P D vwCl (k_Parser cC cI cZ a_this a_text a_text_letters a_draft a_draft_times a_draft_values z2.2.1 z2.2.2.1 z2.2.2.2.1 z2.2.2.2.2 v_isPromiseTold (1 : Int32) v_text_length A_text_letters v_draft_size v_draft_promise v_draft_delay A_draft_times A_draft_values) H := hP
      have hD : va_D A (k_Parser cC cI cZ a_this a_text a_text_letters a_draft a_draft_times a_draft_values z2.2.1 z2.2.2.1 z2.2.2.2.1 z2.2.2.2.2 v_isPromiseTold (1 : Int32) v_text_length A_text_letters v_draft_size v_draft_promise v_draft_delay A_draft_times A_draft_values) := hD
      refine lv_aload_n hx hb dX4_isDelayItem_24 rfl (lv_at hl 0 rfl) ?_
      refine va_get (ci := 4) (v := .ref a_draft) (C := RX4) (T := TX4) (N := 8) hx hb htT inlX4 hown hK hP 0 rfl rfl 1 (by decide) (htT _ q_3_17) (fun _ h9 => h9) rfl dX4_isDelayItem_25 ?_
      refine lv_aload_n hx hb dX4_isDelayItem_28 rfl (lv_at hl 0 rfl) ?_
      refine va_get (ci := 4) (v := .int z2.2.2.2.2) (C := RX4) (T := TX4) (N := 8) hx hb htT inlX4 hown hK hP 0 rfl rfl 5 (by decide) (htT _ q_10_12) (fun _ h9 => h9) rfl dX4_isDelayItem_29 ?_
      refine va_putN (ci := 3) (v := .int z2.2.2.2.2) (ty := .int) (C := RX3) (T := TX3) (N := 5) hx hb htT inlX3 tyX3 tyX3_ok nmX3 hown hK hP hD hS 3 rfl rfl 4 (by decide) (va_Nw.use rfl (hN _ qn_15)) (fun _ h9 => h9) rfl (tyX3_ok 4 (by decide)) rfl rfl (Nat.le_of_ble_eq_true rfl) dX4_isDelayItem_32 (fun H locs hP hD hS => ?_)
      have hP : va_P D vwCl (k_Parser cC cI cZ a_this a_text a_text_letters a_draft a_draft_times a_draft_values z2.2.1 z2.2.2.1 z2.2.2.2.1 z2.2.2.2.2 v_isPromiseTold (1 : Int32) v_text_length A_text_letters v_draft_size v_draft_promise z2.2.2.2.2 A_draft_times A_draft_values) H := hP
      have hD : va_D A (k_Parser cC cI cZ a_this a_text a_text_letters a_draft a_draft_times a_draft_values z2.2.1 z2.2.2.1 z2.2.2.2.1 z2.2.2.2.2 v_isPromiseTold (1 : Int32) v_text_length A_text_letters v_draft_size v_draft_promise z2.2.2.2.2 A_draft_times A_draft_values) := hD
      refine lv_aload_n hx hb dX4_isDelayItem_35 rfl (lv_at hl 0 rfl) ?_
      obtain ⟨z4, e4, h⟩ := bd h
      refine muV (ws' := (k_Parser cC cI cZ a_this a_text a_text_letters a_draft a_draft_times a_draft_values z4.2.1 z4.2.2.1 z4.2.2.2.1 z4.2.2.2.2 v_isPromiseTold (1 : Int32) v_text_length A_text_letters v_draft_size v_draft_promise z2.2.2.2.2 A_draft_times A_draft_values)) X [] [] (c_Parser_isEnded l D cC cI cZ a_this a_text a_text_letters a_draft a_draft_times a_draft_values z2.2.1 z2.2.2.1 z2.2.2.2.1 z2.2.2.2.2 v_isPromiseTold (1 : Int32) v_text_length A_text_letters v_draft_size v_draft_promise z2.2.2.2.2 A_draft_times A_draft_values _ z4 e4) gg_X4_66 hd_Parser_isEnded ⟨rfl, rfl, Nat.le_of_ble_eq_true rfl, Nat.le_of_ble_eq_true rfl⟩ ⟨Nat.zero_le _, Nat.zero_le _⟩ hP hD hS hA [0, 1, 2, 3, 4, 5] [] [0, 1, 2, 3, 4, 5] rfl rfl (by decide) (by decide) rfl rfl rfl rfl rfl hl.1 rfl (Nat.le_of_ble_eq_true rfl) dX4_isDelayItem_36 (fun H locs hP hD hS n4 => ?_)
      obtain rfl := Option.some.inj h
      exact hret _ _ _ _ _ hP hS dX4_isDelayItem_39 rfl n4
    · have h := ip c3 h
      refine lv_iconst (v := (0 : Int32)) hx hb dX4_isDelayItem_17 rfl ?_
      obtain rfl := Option.some.inj h
      exact hret _ _ _ _ _ hP hS dX4_isDelayItem_18 rfl rfl
set_option maxHeartbeats 4000000 in
set_option maxRecDepth 100000 in
theorem c_Parser_isPromiseItem (l : Launch) (D : va_G) (cC cI cZ : ClassId) (a_this : Nat) (a_text : Nat) (a_text_letters : Nat) (a_draft : Nat) (a_draft_times : Nat) (a_draft_values : Nat) (v_at : Int32) (v_kind : Int32) (v_place : Int32) (v_number : Int32) (v_isPromiseTold : Int32) (v_isDelayTold : Int32) (v_text_length : Int32) (A_text_letters : Nat → Int32) (v_draft_size : Int32) (v_draft_promise : Int32) (v_draft_delay : Int32) (A_draft_times : Nat → Int32) (A_draft_values : Nat → Int32)  (sz : Nat) (z : Int32 × Int32 × Int32 × Int32 × Int32 × Int32 × Int32) (h : f_Parser_isPromiseItem v_at v_kind v_place v_number v_isPromiseTold v_text_length A_text_letters v_draft_promise = some z) : Met l yX4_isPromiseItem (.code yX4_isPromiseItem cX4_isPromiseItem 1 (some .boolean) :: TBL) (RM 4 84) (PcM [.ref a_this] sz D (TY cC cI cZ) (k_Parser cC cI cZ a_this a_text a_text_letters a_draft a_draft_times a_draft_values v_at v_kind v_place v_number v_isPromiseTold v_isDelayTold v_text_length A_text_letters v_draft_size v_draft_promise v_draft_delay A_draft_times A_draft_values)) (fun a st o t => QM (some (.int z.1)) D (k_Parser cC cI cZ a_this a_text a_text_letters a_draft a_draft_times a_draft_values z.2.1 z.2.2.1 z.2.2.2.1 z.2.2.2.2.1 z.2.2.2.2.2.1 v_isDelayTold v_text_length A_text_letters v_draft_size z.2.2.2.2.2.2 v_draft_delay A_draft_times A_draft_values) (va_A (k_Parser cC cI cZ a_this a_text a_text_letters a_draft a_draft_times a_draft_values v_at v_kind v_place v_number v_isPromiseTold v_isDelayTold v_text_length A_text_letters v_draft_size v_draft_promise v_draft_delay A_draft_times A_draft_values) sz) a st o t ∧ narrow .boolean (.int z.1) = .int z.1) 0 0 (va_A (k_Parser cC cI cZ a_this a_text a_text_letters a_draft a_draft_times a_draft_values v_at v_kind v_place v_number v_isPromiseTold v_isDelayTold v_text_length A_text_letters v_draft_size v_draft_promise v_draft_delay A_draft_times A_draft_values) sz) := by
  refine muOf (by decide) (Nat.le_of_ble_eq_true rfl) rfl ?_
  intro p e s m args below meth c Q ls A X hP hD hS hA hl hret
  have X : Ctx p s m args c cX4_isPromiseItem 1 RX4 D (TY cC cI cZ) := X
  obtain ⟨hx, hb, hml, hown, htT, hK, hN⟩ := id X
  unfold f_Parser_isPromiseItem at h
  refine lv_aload_n hx hb dX4_isPromiseItem_0 rfl (lv_at hl 0 rfl) ?_
  refine va_get (ci := 4) (v := .int v_isPromiseTold) (C := RX4) (T := TX4) (N := 8) hx hb htT inlX4 hown hK hP 0 rfl rfl 6 (by decide) (htT _ q_9_12) (fun _ h9 => h9) rfl dX4_isPromiseItem_1 ?_
  refine lv_if_ne (tgt := 17) hx hb dX4_isPromiseItem_4 (by decide) (fun c1 => ?_) (fun c1 => ?_)
  · have h := im c1 h
    refine lv_iconst (v := (0 : Int32)) hx hb dX4_isPromiseItem_17 rfl ?_
    obtain rfl := Option.some.inj h
    exact hret _ _ _ _ _ hP hS dX4_isPromiseItem_18 rfl rfl
  · have h := ip c1 h
    refine lv_aload_n hx hb dX4_isPromiseItem_7 rfl (lv_at hl 0 rfl) ?_
    refine lv_iconst (v := (0 : Int32)) hx hb dX4_isPromiseItem_8 rfl ?_
    refine lv_bipush (v := (99 : Int32)) hx hb dX4_isPromiseItem_9 rfl ?_
    obtain ⟨z2, e2, h⟩ := bd h
    refine muV (ws' := (k_Parser cC cI cZ a_this a_text a_text_letters a_draft a_draft_times a_draft_values z2.2.1 z2.2.2.1 z2.2.2.2.1 z2.2.2.2.2 v_isPromiseTold v_isDelayTold v_text_length A_text_letters v_draft_size v_draft_promise v_draft_delay A_draft_times A_draft_values)) X [.int (0 : Int32), .int (99 : Int32)] [] (c_Parser_isNumber l D cC cI cZ a_this a_text a_text_letters a_draft a_draft_times a_draft_values v_at v_kind v_place v_number v_isPromiseTold v_isDelayTold v_text_length A_text_letters v_draft_size v_draft_promise v_draft_delay A_draft_times A_draft_values (0 : Int32) (99 : Int32) _ z2 e2) gg_X4_56 hd_Parser_isNumber ⟨rfl, rfl, Nat.le_of_ble_eq_true rfl, Nat.le_of_ble_eq_true rfl⟩ ⟨Nat.zero_le _, Nat.zero_le _⟩ hP hD hS hA [0, 1, 2, 3, 4, 5] [] [0, 1, 2, 3, 4, 5] rfl rfl (by decide) (by decide) rfl rfl rfl rfl rfl hl.1 rfl (Nat.le_of_ble_eq_true rfl) dX4_isPromiseItem_11 (fun H locs hP hD hS n2 => ?_)
    refine lv_if_ne (tgt := 19) hx hb dX4_isPromiseItem_14 (by decide) (fun c3 => ?_) (fun c3 => ?_)
    · have h := im c3 h
      refine lv_aload_n hx hb dX4_isPromiseItem_19 rfl (lv_at hl 0 rfl) ?_
      refine lv_iconst (v := (1 : Int32)) hx hb dX4_isPromiseItem_20 rfl ?_
      refine va_put (ci := 4) (v := .int (1 : Int32)) (ty := .boolean) (C := RX4) (T := TX4) (N := 8) hx hb htT inlX4 tyX4 tyX4_ok nmX4 hown hK hP hD hS 0 rfl rfl 6 (by decide) (htT _ q_9_12) (fun _ h9 => h9) rfl (tyX4_ok 6 (by decide)) rfl rfl (Nat.le_of_ble_eq_true rfl) dX4_isPromiseItem_21 (fun H locs hP hD hS => ?_)
      have hP : va_P D vwCl (k_Parser cC cI cZ a_this a_text a_text_letters a_draft a_draft_times a_draft_values z2.2.1 z2.2.2.1 z2.2.2.2.1 z2.2.2.2.2 (1 : Int32) v_isDelayTold v_text_length A_text_letters v_draft_size v_draft_promise v_draft_delay A_draft_times A_draft_values) H := hP
      have hD : va_D A (k_Parser cC cI cZ a_this a_text a_text_letters a_draft a_draft_times a_draft_values z2.2.1 z2.2.2.1 z2.2.2.2.1 z2.2.2.2.2 (1 : Int32) v_isDelayTold v_text_length A_text_letters v_draft_size v_draft_promise v_draft_delay A_draft_times A_draft_values) := hD
      refine lv_aload_n hx hb dX4_isPromiseItem_24 rfl (lv_at hl 0 rfl) ?_
      refine va_get (ci := 4) (v := .ref a_draft) (C := RX4) (T := TX4) (N := 8) hx hb htT inlX4 hown hK hP 0 rfl rfl 1 (by decide) (htT _ q_3_17) (fun _ h9 => h9) rfl dX4_isPromiseItem_25 ?_
      refine lv_aload_n hx hb dX4_isPromiseItem_28 rfl (lv_at hl 0 rfl) ?_
      refine va_get (ci := 4) (v := .int z2.2.2.2.2) (C := RX4) (T := TX4) (N := 8) hx hb htT inlX4 hown hK hP 0 rfl rfl 5 (by decide) (htT _ q_10_12) (fun _ h9 => h9) rfl dX4_isPromiseItem_29 ?_
      refine va_putN (ci := 3) (v := .int z2.2.2.2.2) (ty := .int) (C := RX3) (T := TX3) (N := 5) hx hb htT inlX3 tyX3 tyX3_ok nmX3 hown hK hP hD hS 3 rfl rfl 3 (by decide) (va_Nw.use rfl (hN _ qn_12)) (fun _ h9 => h9) rfl (tyX3_ok 3 (by decide)) rfl rfl (Nat.le_of_ble_eq_true rfl) dX4_isPromiseItem_32 (fun H locs hP hD hS => ?_)
      have hP : va_P D vwCl (k_Parser cC cI cZ a_this a_text a_text_letters a_draft a_draft_times a_draft_values z2.2.1 z2.2.2.1 z2.2.2.2.1 z2.2.2.2.2 (1 : Int32) v_isDelayTold v_text_length A_text_letters v_draft_size z2.2.2.2.2 v_draft_delay A_draft_times A_draft_values) H := hP
      have hD : va_D A (k_Parser cC cI cZ a_this a_text a_text_letters a_draft a_draft_times a_draft_values z2.2.1 z2.2.2.1 z2.2.2.2.1 z2.2.2.2.2 (1 : Int32) v_isDelayTold v_text_length A_text_letters v_draft_size z2.2.2.2.2 v_draft_delay A_draft_times A_draft_values) := hD
      refine lv_aload_n hx hb dX4_isPromiseItem_35 rfl (lv_at hl 0 rfl) ?_
      obtain ⟨z4, e4, h⟩ := bd h
      refine muV (ws' := (k_Parser cC cI cZ a_this a_text a_text_letters a_draft a_draft_times a_draft_values z4.2.1 z4.2.2.1 z4.2.2.2.1 z4.2.2.2.2 (1 : Int32) v_isDelayTold v_text_length A_text_letters v_draft_size z2.2.2.2.2 v_draft_delay A_draft_times A_draft_values)) X [] [] (c_Parser_isEnded l D cC cI cZ a_this a_text a_text_letters a_draft a_draft_times a_draft_values z2.2.1 z2.2.2.1 z2.2.2.2.1 z2.2.2.2.2 (1 : Int32) v_isDelayTold v_text_length A_text_letters v_draft_size z2.2.2.2.2 v_draft_delay A_draft_times A_draft_values _ z4 e4) gg_X4_66 hd_Parser_isEnded ⟨rfl, rfl, Nat.le_of_ble_eq_true rfl, Nat.le_of_ble_eq_true rfl⟩ ⟨Nat.zero_le _, Nat.zero_le _⟩ hP hD hS hA [0, 1, 2, 3, 4, 5] [] [0, 1, 2, 3, 4, 5] rfl rfl (by decide) (by decide) rfl rfl rfl rfl rfl hl.1 rfl (Nat.le_of_ble_eq_true rfl) dX4_isPromiseItem_36 (fun H locs hP hD hS n4 => ?_)
      obtain rfl := Option.some.inj h
      exact hret _ _ _ _ _ hP hS dX4_isPromiseItem_39 rfl n4
    · have h := ip c3 h
      refine lv_iconst (v := (0 : Int32)) hx hb dX4_isPromiseItem_17 rfl ?_
      obtain rfl := Option.some.inj h
      exact hret _ _ _ _ _ hP hS dX4_isPromiseItem_18 rfl rfl
set_option maxHeartbeats 4000000 in
set_option maxRecDepth 100000 in
theorem c_Parser_isReadingItem (l : Launch) (D : va_G) (cC cI cZ : ClassId) (a_this : Nat) (a_text : Nat) (a_text_letters : Nat) (a_draft : Nat) (a_draft_times : Nat) (a_draft_values : Nat) (v_at : Int32) (v_kind : Int32) (v_place : Int32) (v_number : Int32) (v_isPromiseTold : Int32) (v_isDelayTold : Int32) (v_text_length : Int32) (A_text_letters : Nat → Int32) (v_draft_size : Int32) (v_draft_promise : Int32) (v_draft_delay : Int32) (A_draft_times : Nat → Int32) (A_draft_values : Nat → Int32) (p1 : Int32) (sz : Nat) (z : Int32 × Int32 × Int32 × Int32 × Int32 × Int32 × (Nat → Int32) × (Nat → Int32)) (h : f_Parser_isReadingItem v_at v_kind v_place v_number v_text_length A_text_letters v_draft_size A_draft_times A_draft_values p1 = some z) : Met l yX4_isReadingItem (.code yX4_isReadingItem cX4_isReadingItem 3 (some .boolean) :: TBL) (RM 4 84) (PcM [.ref a_this, .int p1] sz D (TY cC cI cZ) (k_Parser cC cI cZ a_this a_text a_text_letters a_draft a_draft_times a_draft_values v_at v_kind v_place v_number v_isPromiseTold v_isDelayTold v_text_length A_text_letters v_draft_size v_draft_promise v_draft_delay A_draft_times A_draft_values)) (fun a st o t => QM (some (.int z.1)) D (k_Parser cC cI cZ a_this a_text a_text_letters a_draft a_draft_times a_draft_values z.2.1 z.2.2.1 z.2.2.2.1 z.2.2.2.2.1 v_isPromiseTold v_isDelayTold v_text_length A_text_letters z.2.2.2.2.2.1 v_draft_promise v_draft_delay z.2.2.2.2.2.2.1 z.2.2.2.2.2.2.2) (va_A (k_Parser cC cI cZ a_this a_text a_text_letters a_draft a_draft_times a_draft_values v_at v_kind v_place v_number v_isPromiseTold v_isDelayTold v_text_length A_text_letters v_draft_size v_draft_promise v_draft_delay A_draft_times A_draft_values) sz) a st o t ∧ narrow .boolean (.int z.1) = .int z.1) 0 0 (va_A (k_Parser cC cI cZ a_this a_text a_text_letters a_draft a_draft_times a_draft_values v_at v_kind v_place v_number v_isPromiseTold v_isDelayTold v_text_length A_text_letters v_draft_size v_draft_promise v_draft_delay A_draft_times A_draft_values) sz) := by
  refine muOf (by decide) (Nat.le_of_ble_eq_true rfl) rfl ?_
  intro p e s m args below meth c Q ls A X hP hD hS hA hl hret
  have X : Ctx p s m args c cX4_isReadingItem 3 RX4 D (TY cC cI cZ) := X
  obtain ⟨hx, hb, hml, hown, htT, hK, hN⟩ := id X
  unfold f_Parser_isReadingItem at h
  refine lv_aload_n hx hb dX4_isReadingItem_0 rfl (lv_at hl 0 rfl) ?_
  refine va_get (ci := 4) (v := .ref a_draft) (C := RX4) (T := TX4) (N := 8) hx hb htT inlX4 hown hK hP 0 rfl rfl 1 (by decide) (htT _ q_3_17) (fun _ h9 => h9) rfl dX4_isReadingItem_1 ?_
  refine roV X [] [] (c_Log_isFull l D cC cI cZ a_draft a_draft_times a_draft_values v_draft_size v_draft_promise v_draft_delay A_draft_times A_draft_values _ rfl) gg_X4_72 hd_Log_isFull ⟨rfl, rfl, Nat.le_of_ble_eq_true rfl, Nat.le_of_ble_eq_true rfl⟩ ⟨Nat.zero_le _, Nat.zero_le _⟩ hP [3, 4, 5] rfl rfl rfl rfl hl.1 rfl (Nat.le_of_ble_eq_true rfl) dX4_isReadingItem_4 (fun n1 => ?_)
  refine lv_if_ne (tgt := 35) hx hb dX4_isReadingItem_7 (by decide) (fun c2 => ?_) (fun c2 => ?_)
  · have h := im c2 h
    refine lv_iconst (v := (0 : Int32)) hx hb dX4_isReadingItem_35 rfl ?_
    obtain rfl := Option.some.inj h
    exact hret _ _ _ _ _ hP hS dX4_isReadingItem_36 rfl rfl
  · have h := ip c2 h
    refine lv_aload_n hx hb dX4_isReadingItem_10 rfl (lv_at hl 0 rfl) ?_
    refine lv_iconst (v := (0 : Int32)) hx hb dX4_isReadingItem_11 rfl ?_
    refine lv_sipush (v := (999 : Int32)) hx hb dX4_isReadingItem_12 rfl ?_
    obtain ⟨z3, e3, h⟩ := bd h
    refine muV (ws' := (k_Parser cC cI cZ a_this a_text a_text_letters a_draft a_draft_times a_draft_values z3.2.1 z3.2.2.1 z3.2.2.2.1 z3.2.2.2.2 v_isPromiseTold v_isDelayTold v_text_length A_text_letters v_draft_size v_draft_promise v_draft_delay A_draft_times A_draft_values)) X [.int (0 : Int32), .int (999 : Int32)] [] (c_Parser_isNumber l D cC cI cZ a_this a_text a_text_letters a_draft a_draft_times a_draft_values v_at v_kind v_place v_number v_isPromiseTold v_isDelayTold v_text_length A_text_letters v_draft_size v_draft_promise v_draft_delay A_draft_times A_draft_values (0 : Int32) (999 : Int32) _ z3 e3) gg_X4_56 hd_Parser_isNumber ⟨rfl, rfl, Nat.le_of_ble_eq_true rfl, Nat.le_of_ble_eq_true rfl⟩ ⟨Nat.zero_le _, Nat.zero_le _⟩ hP hD hS hA [0, 1, 2, 3, 4, 5] [] [0, 1, 2, 3, 4, 5] rfl rfl (by decide) (by decide) rfl rfl rfl rfl rfl hl.1 rfl (Nat.le_of_ble_eq_true rfl) dX4_isReadingItem_15 (fun H locs hP hD hS n3 => ?_)
    refine lv_if_eq (tgt := 35) hx hb dX4_isReadingItem_18 (by decide) (fun c4 => ?_) (fun c4 => ?_)
    · have h := ip c4 h
      refine lv_iconst (v := (0 : Int32)) hx hb dX4_isReadingItem_35 rfl ?_
      obtain rfl := Option.some.inj h
      exact hret _ _ _ _ _ hP hS dX4_isReadingItem_36 rfl rfl
    · have h := im c4 h
      refine lv_aload_n hx hb dX4_isReadingItem_21 rfl (lv_at hl 0 rfl) ?_
      refine va_get (ci := 4) (v := .ref a_draft) (C := RX4) (T := TX4) (N := 8) hx hb htT inlX4 hown hK hP 0 rfl rfl 1 (by decide) (htT _ q_3_17) (fun _ h9 => h9) rfl dX4_isReadingItem_22 ?_
      refine lv_aload_n hx hb dX4_isReadingItem_25 rfl (lv_at hl 0 rfl) ?_
      refine va_get (ci := 4) (v := .int z3.2.2.2.2) (C := RX4) (T := TX4) (N := 8) hx hb htT inlX4 hown hK hP 0 rfl rfl 5 (by decide) (htT _ q_10_12) (fun _ h9 => h9) rfl dX4_isReadingItem_26 ?_
      obtain ⟨r5, e5, h⟩ := bd h
      refine roV X [.int z3.2.2.2.2] [] (c_Log_isLater l D cC cI cZ a_draft a_draft_times a_draft_values v_draft_size v_draft_promise v_draft_delay A_draft_times A_draft_values z3.2.2.2.2 r5 e5) gg_X4_75 hd_Log_isLater ⟨rfl, rfl, Nat.le_of_ble_eq_true rfl, Nat.le_of_ble_eq_true rfl⟩ ⟨Nat.zero_le _, Nat.zero_le _⟩ hP [3, 4, 5] rfl rfl rfl rfl hl.1 rfl (Nat.le_of_ble_eq_true rfl) dX4_isReadingItem_29 (fun n5 => ?_)
      refine lv_if_ne (tgt := 37) hx hb dX4_isReadingItem_32 (by decide) (fun c6 => ?_) (fun c6 => ?_)
      · have h := im c6 h
        refine lv_aload_n hx hb dX4_isReadingItem_37 rfl (lv_at hl 0 rfl) ?_
        refine va_get (ci := 4) (v := .int z3.2.2.2.2) (C := RX4) (T := TX4) (N := 8) hx hb htT inlX4 hown hK hP 0 rfl rfl 5 (by decide) (htT _ q_10_12) (fun _ h9 => h9) rfl dX4_isReadingItem_38 ?_
        refine lv_istore_n (lv' := [(2, .int z3.2.2.2.2), (0, .ref a_this), (1, .int p1)]) hx hb dX4_isReadingItem_41 rfl hl (by decide) rfl (fun ls hl => ?_)
        refine lv_iload_n hx hb dX4_isReadingItem_42 rfl (lv_at hl 2 rfl) ?_
        refine lv_if_eq (tgt := 59) hx hb dX4_isReadingItem_43 (by decide) (fun c7 => ?_) (fun c7 => ?_)
        · have h := ip c7 h
          refine lv_aload_n hx hb dX4_isReadingItem_59 rfl (lv_at hl 1 rfl) ?_
          refine va_get (ci := 4) (v := .ref a_draft) (C := RX4) (T := TX4) (N := 8) hx hb htT inlX4 hown hK hP 0 rfl rfl 1 (by decide) (htT _ q_3_17) (fun _ h9 => h9) rfl dX4_isReadingItem_60 ?_
          refine lv_iload_n hx hb dX4_isReadingItem_63 rfl (lv_at hl 0 rfl) ?_
          refine lv_iload_n hx hb dX4_isReadingItem_64 rfl (lv_at hl 2 rfl) ?_
          refine lv_if_eq (tgt := 75) hx hb dX4_isReadingItem_65 (by decide) (fun _ => ?_) (fun c8 => absurd c7 c8)
          refine lv_bipush (v := (-9 : Int32)) hx hb dX4_isReadingItem_75 rfl ?_
          obtain ⟨z9, e9, h⟩ := bd h
          refine muV (ws' := (k_Parser cC cI cZ a_this a_text a_text_letters a_draft a_draft_times a_draft_values z3.2.1 z3.2.2.1 z3.2.2.2.1 z3.2.2.2.2 v_isPromiseTold v_isDelayTold v_text_length A_text_letters z9.2.1 v_draft_promise v_draft_delay z9.2.2.1 z9.2.2.2)) X [.int z3.2.2.2.2, .int (-9 : Int32)] [] (c_Log_append l D cC cI cZ a_draft a_draft_times a_draft_values v_draft_size v_draft_promise v_draft_delay A_draft_times A_draft_values z3.2.2.2.2 (-9 : Int32) _ z9 e9) gg_X4_79 hd_Log_append ⟨rfl, rfl, Nat.le_of_ble_eq_true rfl, Nat.le_of_ble_eq_true rfl⟩ ⟨Nat.zero_le _, Nat.zero_le _⟩ hP hD hS hA [3, 4, 5] [0, 1, 2] [0, 1, 2, 3, 4, 5] rfl rfl (by decide) (by decide) rfl rfl rfl rfl rfl hl.1 rfl (Nat.le_of_ble_eq_true rfl) dX4_isReadingItem_77 (fun H locs hP hD hS n9 => ?_)
          refine lv_pop hx hb dX4_isReadingItem_80 rfl ?_
          refine lv_aload_n hx hb dX4_isReadingItem_81 rfl (lv_at hl 1 rfl) ?_
          obtain ⟨z10, e10, h⟩ := bd h
          refine muV (ws' := (k_Parser cC cI cZ a_this a_text a_text_letters a_draft a_draft_times a_draft_values z10.2.1 z10.2.2.1 z10.2.2.2.1 z10.2.2.2.2 v_isPromiseTold v_isDelayTold v_text_length A_text_letters z9.2.1 v_draft_promise v_draft_delay z9.2.2.1 z9.2.2.2)) X [] [] (c_Parser_isEnded l D cC cI cZ a_this a_text a_text_letters a_draft a_draft_times a_draft_values z3.2.1 z3.2.2.1 z3.2.2.2.1 z3.2.2.2.2 v_isPromiseTold v_isDelayTold v_text_length A_text_letters z9.2.1 v_draft_promise v_draft_delay z9.2.2.1 z9.2.2.2 _ z10 e10) gg_X4_66 hd_Parser_isEnded ⟨rfl, rfl, Nat.le_of_ble_eq_true rfl, Nat.le_of_ble_eq_true rfl⟩ ⟨Nat.zero_le _, Nat.zero_le _⟩ hP hD hS hA [0, 1, 2, 3, 4, 5] [] [0, 1, 2, 3, 4, 5] rfl rfl (by decide) (by decide) rfl rfl rfl rfl rfl hl.1 rfl (Nat.le_of_ble_eq_true rfl) dX4_isReadingItem_82 (fun H locs hP hD hS n10 => ?_)
          obtain rfl := Option.some.inj h
          exact hret _ _ _ _ _ hP hS dX4_isReadingItem_85 rfl n10
        · have h := im c7 h
          refine lv_aload_n hx hb dX4_isReadingItem_46 rfl (lv_at hl 1 rfl) ?_
          refine lv_iconst (v := (0 : Int32)) hx hb dX4_isReadingItem_47 rfl ?_
          refine lv_sipush (v := (999 : Int32)) hx hb dX4_isReadingItem_48 rfl ?_
          obtain ⟨z11, e11, h⟩ := bd h
          refine muV (ws' := (k_Parser cC cI cZ a_this a_text a_text_letters a_draft a_draft_times a_draft_values z11.2.1 z11.2.2.1 z11.2.2.2.1 z11.2.2.2.2 v_isPromiseTold v_isDelayTold v_text_length A_text_letters v_draft_size v_draft_promise v_draft_delay A_draft_times A_draft_values)) X [.int (0 : Int32), .int (999 : Int32)] [] (c_Parser_isNumber l D cC cI cZ a_this a_text a_text_letters a_draft a_draft_times a_draft_values z3.2.1 z3.2.2.1 z3.2.2.2.1 z3.2.2.2.2 v_isPromiseTold v_isDelayTold v_text_length A_text_letters v_draft_size v_draft_promise v_draft_delay A_draft_times A_draft_values (0 : Int32) (999 : Int32) _ z11 e11) gg_X4_56 hd_Parser_isNumber ⟨rfl, rfl, Nat.le_of_ble_eq_true rfl, Nat.le_of_ble_eq_true rfl⟩ ⟨Nat.zero_le _, Nat.zero_le _⟩ hP hD hS hA [0, 1, 2, 3, 4, 5] [] [0, 1, 2, 3, 4, 5] rfl rfl (by decide) (by decide) rfl rfl rfl rfl rfl hl.1 rfl (Nat.le_of_ble_eq_true rfl) dX4_isReadingItem_51 (fun H locs hP hD hS n11 => ?_)
          refine lv_if_ne (tgt := 59) hx hb dX4_isReadingItem_54 (by decide) (fun c12 => ?_) (fun c12 => ?_)
          · have h := im c12 h
            refine lv_aload_n hx hb dX4_isReadingItem_59 rfl (lv_at hl 1 rfl) ?_
            refine va_get (ci := 4) (v := .ref a_draft) (C := RX4) (T := TX4) (N := 8) hx hb htT inlX4 hown hK hP 0 rfl rfl 1 (by decide) (htT _ q_3_17) (fun _ h9 => h9) rfl dX4_isReadingItem_60 ?_
            refine lv_iload_n hx hb dX4_isReadingItem_63 rfl (lv_at hl 0 rfl) ?_
            refine lv_iload_n hx hb dX4_isReadingItem_64 rfl (lv_at hl 2 rfl) ?_
            refine lv_if_eq (tgt := 75) hx hb dX4_isReadingItem_65 (by decide) (fun c13 => absurd c13 c7) (fun _ => ?_)
            refine lv_aload_n hx hb dX4_isReadingItem_68 rfl (lv_at hl 1 rfl) ?_
            refine va_get (ci := 4) (v := .int z11.2.2.2.2) (C := RX4) (T := TX4) (N := 8) hx hb htT inlX4 hown hK hP 0 rfl rfl 5 (by decide) (htT _ q_10_12) (fun _ h9 => h9) rfl dX4_isReadingItem_69 ?_
            refine lv_goto (tgt := 77) hx hb dX4_isReadingItem_72 (by decide) ?_
            obtain ⟨z14, e14, h⟩ := bd h
            refine muV (ws' := (k_Parser cC cI cZ a_this a_text a_text_letters a_draft a_draft_times a_draft_values z11.2.1 z11.2.2.1 z11.2.2.2.1 z11.2.2.2.2 v_isPromiseTold v_isDelayTold v_text_length A_text_letters z14.2.1 v_draft_promise v_draft_delay z14.2.2.1 z14.2.2.2)) X [.int z3.2.2.2.2, .int z11.2.2.2.2] [] (c_Log_append l D cC cI cZ a_draft a_draft_times a_draft_values v_draft_size v_draft_promise v_draft_delay A_draft_times A_draft_values z3.2.2.2.2 z11.2.2.2.2 _ z14 e14) gg_X4_79 hd_Log_append ⟨rfl, rfl, Nat.le_of_ble_eq_true rfl, Nat.le_of_ble_eq_true rfl⟩ ⟨Nat.zero_le _, Nat.zero_le _⟩ hP hD hS hA [3, 4, 5] [0, 1, 2] [0, 1, 2, 3, 4, 5] rfl rfl (by decide) (by decide) rfl rfl rfl rfl rfl hl.1 rfl (Nat.le_of_ble_eq_true rfl) dX4_isReadingItem_77 (fun H locs hP hD hS n14 => ?_)
            refine lv_pop hx hb dX4_isReadingItem_80 rfl ?_
            refine lv_aload_n hx hb dX4_isReadingItem_81 rfl (lv_at hl 1 rfl) ?_
            obtain ⟨z15, e15, h⟩ := bd h
            refine muV (ws' := (k_Parser cC cI cZ a_this a_text a_text_letters a_draft a_draft_times a_draft_values z15.2.1 z15.2.2.1 z15.2.2.2.1 z15.2.2.2.2 v_isPromiseTold v_isDelayTold v_text_length A_text_letters z14.2.1 v_draft_promise v_draft_delay z14.2.2.1 z14.2.2.2)) X [] [] (c_Parser_isEnded l D cC cI cZ a_this a_text a_text_letters a_draft a_draft_times a_draft_values z11.2.1 z11.2.2.1 z11.2.2.2.1 z11.2.2.2.2 v_isPromiseTold v_isDelayTold v_text_length A_text_letters z14.2.1 v_draft_promise v_draft_delay z14.2.2.1 z14.2.2.2 _ z15 e15) gg_X4_66 hd_Parser_isEnded ⟨rfl, rfl, Nat.le_of_ble_eq_true rfl, Nat.le_of_ble_eq_true rfl⟩ ⟨Nat.zero_le _, Nat.zero_le _⟩ hP hD hS hA [0, 1, 2, 3, 4, 5] [] [0, 1, 2, 3, 4, 5] rfl rfl (by decide) (by decide) rfl rfl rfl rfl rfl hl.1 rfl (Nat.le_of_ble_eq_true rfl) dX4_isReadingItem_82 (fun H locs hP hD hS n15 => ?_)
            obtain rfl := Option.some.inj h
            exact hret _ _ _ _ _ hP hS dX4_isReadingItem_85 rfl n15
          · have h := ip c12 h
            refine lv_iconst (v := (0 : Int32)) hx hb dX4_isReadingItem_57 rfl ?_
            obtain rfl := Option.some.inj h
            exact hret _ _ _ _ _ hP hS dX4_isReadingItem_58 rfl rfl
      · have h := ip c6 h
        refine lv_iconst (v := (0 : Int32)) hx hb dX4_isReadingItem_35 rfl ?_
        obtain rfl := Option.some.inj h
        exact hret _ _ _ _ _ hP hS dX4_isReadingItem_36 rfl rfl
set_option maxHeartbeats 4000000 in
set_option maxRecDepth 100000 in
theorem c_Parser_parse (l : Launch) (D : va_G) (cC cI cZ : ClassId) (a_this : Nat) (a_text : Nat) (a_text_letters : Nat) (a_draft : Nat) (a_draft_times : Nat) (a_draft_values : Nat) (v_at : Int32) (v_kind : Int32) (v_place : Int32) (v_number : Int32) (v_isPromiseTold : Int32) (v_isDelayTold : Int32) (v_text_length : Int32) (A_text_letters : Nat → Int32) (v_draft_size : Int32) (v_draft_promise : Int32) (v_draft_delay : Int32) (A_draft_times : Nat → Int32) (A_draft_values : Nat → Int32)  (sz : Nat) (z : Int32 × Int32 × Int32 × Int32 × Int32 × Int32 × Int32 × Int32 × Int32 × Int32 × (Nat → Int32) × (Nat → Int32)) (h : f_Parser_parse v_at v_kind v_place v_number v_isPromiseTold v_isDelayTold v_text_length A_text_letters v_draft_size v_draft_promise v_draft_delay A_draft_times A_draft_values = some z) : Met l yX4_parse (.code yX4_parse cX4_parse 3 (some .int) :: TBL) (RM 5 106) (PcM [.ref a_this] sz D (TY cC cI cZ) (k_Parser cC cI cZ a_this a_text a_text_letters a_draft a_draft_times a_draft_values v_at v_kind v_place v_number v_isPromiseTold v_isDelayTold v_text_length A_text_letters v_draft_size v_draft_promise v_draft_delay A_draft_times A_draft_values)) (fun a st o t => QM (some (.int z.1)) D (k_Parser cC cI cZ a_this a_text a_text_letters a_draft a_draft_times a_draft_values z.2.1 z.2.2.1 z.2.2.2.1 z.2.2.2.2.1 z.2.2.2.2.2.1 z.2.2.2.2.2.2.1 v_text_length A_text_letters z.2.2.2.2.2.2.2.1 z.2.2.2.2.2.2.2.2.1 z.2.2.2.2.2.2.2.2.2.1 z.2.2.2.2.2.2.2.2.2.2.1 z.2.2.2.2.2.2.2.2.2.2.2) (va_A (k_Parser cC cI cZ a_this a_text a_text_letters a_draft a_draft_times a_draft_values v_at v_kind v_place v_number v_isPromiseTold v_isDelayTold v_text_length A_text_letters v_draft_size v_draft_promise v_draft_delay A_draft_times A_draft_values) sz) a st o t ∧ narrow .int (.int z.1) = .int z.1) 0 0 (va_A (k_Parser cC cI cZ a_this a_text a_text_letters a_draft a_draft_times a_draft_values v_at v_kind v_place v_number v_isPromiseTold v_isDelayTold v_text_length A_text_letters v_draft_size v_draft_promise v_draft_delay A_draft_times A_draft_values) sz) := by
  refine muOf (by decide) (Nat.le_of_ble_eq_true rfl) rfl ?_
  intro p e s m args below meth c Q ls A X hP hD hS hA hl hret
  have X : Ctx p s m args c cX4_parse 3 RX4 D (TY cC cI cZ) := X
  obtain ⟨hx, hb, hml, hown, htT, hK, hN⟩ := id X
  unfold f_Parser_parse at h
  refine lv_aload_n hx hb dX4_parse_0 rfl (lv_at hl 0 rfl) ?_
  refine va_get (ci := 4) (v := .ref a_draft) (C := RX4) (T := TX4) (N := 8) hx hb htT inlX4 hown hK hP 0 rfl rfl 1 (by decide) (htT _ q_3_17) (fun _ h9 => h9) rfl dX4_parse_1 ?_
  obtain ⟨z1, e1, h⟩ := bd h
  refine muVV (ws' := (k_Parser cC cI cZ a_this a_text a_text_letters a_draft a_draft_times a_draft_values v_at v_kind v_place v_number v_isPromiseTold v_isDelayTold v_text_length A_text_letters z1.1 z1.2.1 z1.2.2 A_draft_times A_draft_values)) X [] [] (c_Log_startAnew l D cC cI cZ a_draft a_draft_times a_draft_values v_draft_size v_draft_promise v_draft_delay A_draft_times A_draft_values _ z1 e1) gg_X4_22 hd_Log_startAnew ⟨rfl, rfl, Nat.le_of_ble_eq_true rfl, Nat.le_of_ble_eq_true rfl⟩ ⟨Nat.zero_le _, Nat.zero_le _⟩ hP hD hS hA [3, 4, 5] [0, 1, 2] [0, 1, 2, 3, 4, 5] rfl rfl (by decide) (by decide) rfl rfl rfl rfl rfl hl.1 rfl (Nat.le_of_ble_eq_true rfl) dX4_parse_4 (fun H locs hP hD hS => ?_)
  refine lv_aload_n hx hb dX4_parse_7 rfl (lv_at hl 0 rfl) ?_
  refine lv_iconst (v := (0 : Int32)) hx hb dX4_parse_8 rfl ?_
  refine va_put (ci := 4) (v := .int (0 : Int32)) (ty := .int) (C := RX4) (T := TX4) (N := 8) hx hb htT inlX4 tyX4 tyX4_ok nmX4 hown hK hP hD hS 0 rfl rfl 2 (by decide) (htT _ q_9_11) (fun _ h9 => h9) rfl (tyX4_ok 2 (by decide)) rfl rfl (Nat.le_of_ble_eq_true rfl) dX4_parse_9 (fun H locs hP hD hS => ?_)
  have hP : va_P D vwCl (k_Parser cC cI cZ a_this a_text a_text_letters a_draft a_draft_times a_draft_values (0 : Int32) v_kind v_place v_number v_isPromiseTold v_isDelayTold v_text_length A_text_letters z1.1 z1.2.1 z1.2.2 A_draft_times A_draft_values) H := hP
  have hD : va_D A (k_Parser cC cI cZ a_this a_text a_text_letters a_draft a_draft_times a_draft_values (0 : Int32) v_kind v_place v_number v_isPromiseTold v_isDelayTold v_text_length A_text_letters z1.1 z1.2.1 z1.2.2 A_draft_times A_draft_values) := hD
  refine lv_aload_n hx hb dX4_parse_12 rfl (lv_at hl 0 rfl) ?_
  refine lv_iconst (v := (0 : Int32)) hx hb dX4_parse_13 rfl ?_
  refine va_put (ci := 4) (v := .int (0 : Int32)) (ty := .boolean) (C := RX4) (T := TX4) (N := 8) hx hb htT inlX4 tyX4 tyX4_ok nmX4 hown hK hP hD hS 0 rfl rfl 6 (by decide) (htT _ q_9_12) (fun _ h9 => h9) rfl (tyX4_ok 6 (by decide)) rfl rfl (Nat.le_of_ble_eq_true rfl) dX4_parse_14 (fun H locs hP hD hS => ?_)
  have hP : va_P D vwCl (k_Parser cC cI cZ a_this a_text a_text_letters a_draft a_draft_times a_draft_values (0 : Int32) v_kind v_place v_number (0 : Int32) v_isDelayTold v_text_length A_text_letters z1.1 z1.2.1 z1.2.2 A_draft_times A_draft_values) H := hP
  have hD : va_D A (k_Parser cC cI cZ a_this a_text a_text_letters a_draft a_draft_times a_draft_values (0 : Int32) v_kind v_place v_number (0 : Int32) v_isDelayTold v_text_length A_text_letters z1.1 z1.2.1 z1.2.2 A_draft_times A_draft_values) := hD
  refine lv_aload_n hx hb dX4_parse_17 rfl (lv_at hl 0 rfl) ?_
  refine lv_iconst (v := (0 : Int32)) hx hb dX4_parse_18 rfl ?_
  refine va_put (ci := 4) (v := .int (0 : Int32)) (ty := .boolean) (C := RX4) (T := TX4) (N := 8) hx hb htT inlX4 tyX4 tyX4_ok nmX4 hown hK hP hD hS 0 rfl rfl 7 (by decide) (htT _ q_9_13) (fun _ h9 => h9) rfl (tyX4_ok 7 (by decide)) rfl rfl (Nat.le_of_ble_eq_true rfl) dX4_parse_19 (fun H locs hP hD hS => ?_)
  have hP : va_P D vwCl (k_Parser cC cI cZ a_this a_text a_text_letters a_draft a_draft_times a_draft_values (0 : Int32) v_kind v_place v_number (0 : Int32) (0 : Int32) v_text_length A_text_letters z1.1 z1.2.1 z1.2.2 A_draft_times A_draft_values) H := hP
  have hD : va_D A (k_Parser cC cI cZ a_this a_text a_text_letters a_draft a_draft_times a_draft_values (0 : Int32) v_kind v_place v_number (0 : Int32) (0 : Int32) v_text_length A_text_letters z1.1 z1.2.1 z1.2.2 A_draft_times A_draft_values) := hD
  refine lv_iconst (v := (0 : Int32)) hx hb dX4_parse_22 rfl ?_
  refine lv_istore_n (lv' := [(1, .int (0 : Int32)), (0, .ref a_this)]) hx hb dX4_parse_23 rfl hl (by decide) rfl (fun ls hl => ?_)
  have LP24 : ∀ (n : Nat) (y24_1 : Int32) (v_at_24 : Int32) (v_kind_24 : Int32) (v_place_24 : Int32) (v_number_24 : Int32) (v_isPromiseTold_24 : Int32) (v_isDelayTold_24 : Int32) (v_draft_size_24 : Int32) (v_draft_promise_24 : Int32) (v_draft_delay_24 : Int32) (A_draft_times_24 : Nat → Int32) (A_draft_values_24 : Nat → Int32) (zq24 : Nat × Int32 × Int32 × Int32 × Int32 × Int32 × Int32 × Int32 × Int32 × Int32 × Int32 × (Nat → Int32) × (Nat → Int32)), f_Parser_parse_L24 v_text_length A_text_letters n y24_1 v_at_24 v_kind_24 v_place_24 v_number_24 v_isPromiseTold_24 v_isDelayTold_24 v_draft_size_24 v_draft_promise_24 v_draft_delay_24 A_draft_times_24 A_draft_values_24 = some zq24 → ∀ (H : Heap) (locs : List Loc) (ls : Array Slot), va_P D vwCl (k_Parser cC cI cZ a_this a_text a_text_letters a_draft a_draft_times a_draft_values v_at_24 v_kind_24 v_place_24 v_number_24 v_isPromiseTold_24 v_isDelayTold_24 v_text_length A_text_letters v_draft_size_24 v_draft_promise_24 v_draft_delay_24 A_draft_times_24 A_draft_values_24) H → va_D A (k_Parser cC cI cZ a_this a_text a_text_letters a_draft a_draft_times a_draft_values v_at_24 v_kind_24 v_place_24 v_number_24 v_isPromiseTold_24 v_isDelayTold_24 v_text_length A_text_letters v_draft_size_24 v_draft_promise_24 v_draft_delay_24 A_draft_times_24 A_draft_values_24) → va_S A s.heap H locs → lv_has ls 3 [(0, .ref a_this), (1, .int y24_1)] → (zq24.1 = 0 → ∀ (H : Heap) (locs : List Loc) (ls : Array Slot), va_P D vwCl (k_Parser cC cI cZ a_this a_text a_text_letters a_draft a_draft_times a_draft_values zq24.2.2.1 zq24.2.2.2.1 zq24.2.2.2.2.1 zq24.2.2.2.2.2.1 zq24.2.2.2.2.2.2.1 zq24.2.2.2.2.2.2.2.1 v_text_length A_text_letters zq24.2.2.2.2.2.2.2.2.1 zq24.2.2.2.2.2.2.2.2.2.1 zq24.2.2.2.2.2.2.2.2.2.2.1 zq24.2.2.2.2.2.2.2.2.2.2.2.1 zq24.2.2.2.2.2.2.2.2.2.2.2.2) H → va_D A (k_Parser cC cI cZ a_this a_text a_text_letters a_draft a_draft_times a_draft_values zq24.2.2.1 zq24.2.2.2.1 zq24.2.2.2.2.1 zq24.2.2.2.2.2.1 zq24.2.2.2.2.2.2.1 zq24.2.2.2.2.2.2.2.1 v_text_length A_text_letters zq24.2.2.2.2.2.2.2.2.1 zq24.2.2.2.2.2.2.2.2.2.1 zq24.2.2.2.2.2.2.2.2.2.2.1 zq24.2.2.2.2.2.2.2.2.2.2.2.1 zq24.2.2.2.2.2.2.2.2.2.2.2.2) → va_S A s.heap H locs → lv_has ls 3 [(1, .int zq24.2.1)] → W p l e (RM 5 106) s m args below meth c H locs 0 0 Q (F0 m 92 ls [])) → (zq24.1 = 1 → ∀ (H : Heap) (locs : List Loc) (ls : Array Slot), va_P D vwCl (k_Parser cC cI cZ a_this a_text a_text_letters a_draft a_draft_times a_draft_values zq24.2.2.1 zq24.2.2.2.1 zq24.2.2.2.2.1 zq24.2.2.2.2.2.1 zq24.2.2.2.2.2.2.1 zq24.2.2.2.2.2.2.2.1 v_text_length A_text_letters zq24.2.2.2.2.2.2.2.2.1 zq24.2.2.2.2.2.2.2.2.2.1 zq24.2.2.2.2.2.2.2.2.2.2.1 zq24.2.2.2.2.2.2.2.2.2.2.2.1 zq24.2.2.2.2.2.2.2.2.2.2.2.2) H → va_D A (k_Parser cC cI cZ a_this a_text a_text_letters a_draft a_draft_times a_draft_values zq24.2.2.1 zq24.2.2.2.1 zq24.2.2.2.2.1 zq24.2.2.2.2.2.1 zq24.2.2.2.2.2.2.1 zq24.2.2.2.2.2.2.2.1 v_text_length A_text_letters zq24.2.2.2.2.2.2.2.2.1 zq24.2.2.2.2.2.2.2.2.2.1 zq24.2.2.2.2.2.2.2.2.2.2.1 zq24.2.2.2.2.2.2.2.2.2.2.2.1 zq24.2.2.2.2.2.2.2.2.2.2.2.2) → va_S A s.heap H locs → lv_has ls 3 [(0, .ref a_this)] → W p l e (RM 5 106) s m args below meth c H locs 0 0 Q (F0 m 132 ls [])) → (zq24.1 = 2 → ∀ (H : Heap) (locs : List Loc) (ls : Array Slot), va_P D vwCl (k_Parser cC cI cZ a_this a_text a_text_letters a_draft a_draft_times a_draft_values zq24.2.2.1 zq24.2.2.2.1 zq24.2.2.2.2.1 zq24.2.2.2.2.2.1 zq24.2.2.2.2.2.2.1 zq24.2.2.2.2.2.2.2.1 v_text_length A_text_letters zq24.2.2.2.2.2.2.2.2.1 zq24.2.2.2.2.2.2.2.2.2.1 zq24.2.2.2.2.2.2.2.2.2.2.1 zq24.2.2.2.2.2.2.2.2.2.2.2.1 zq24.2.2.2.2.2.2.2.2.2.2.2.2) H → va_D A (k_Parser cC cI cZ a_this a_text a_text_letters a_draft a_draft_times a_draft_values zq24.2.2.1 zq24.2.2.2.1 zq24.2.2.2.2.1 zq24.2.2.2.2.2.1 zq24.2.2.2.2.2.2.1 zq24.2.2.2.2.2.2.2.1 v_text_length A_text_letters zq24.2.2.2.2.2.2.2.2.1 zq24.2.2.2.2.2.2.2.2.2.1 zq24.2.2.2.2.2.2.2.2.2.2.1 zq24.2.2.2.2.2.2.2.2.2.2.2.1 zq24.2.2.2.2.2.2.2.2.2.2.2.2) → va_S A s.heap H locs → lv_has ls 3 [(0, .ref a_this)] → W p l e (RM 5 106) s m args below meth c H locs 0 0 Q (F0 m 146 ls [])) → W p l e (RM 5 106) s m args below meth c H locs 0 0 Q (F0 m 24 ls []) := by
    clear h
    intro n
    induction n with
    | zero =>
      intro y24_1 v_at_24 v_kind_24 v_place_24 v_number_24 v_isPromiseTold_24 v_isDelayTold_24 v_draft_size_24 v_draft_promise_24 v_draft_delay_24 A_draft_times_24 A_draft_values_24 zq24 h
      rw [f_Parser_parse_L24_0] at h
      cases h
    | succ n ih24 =>
      intro y24_1 v_at_24 v_kind_24 v_place_24 v_number_24 v_isPromiseTold_24 v_isDelayTold_24 v_draft_size_24 v_draft_promise_24 v_draft_delay_24 A_draft_times_24 A_draft_values_24 zq24 h H locs ls hP hD hS hl k24_0 k24_1 k24_2
      rw [f_Parser_parse_L24_s] at h
      refine lv_iload_n hx hb dX4_parse_24 rfl (lv_at hl 1 rfl) ?_
      refine lv_bipush (v := (120 : Int32)) hx hb dX4_parse_25 rfl ?_
      refine lv_icmp_gt (tgt := 146) hx hb dX4_parse_27 (by decide) (fun c3 => ?_) (fun c3 => ?_)
      · have h := ip c3 h
        obtain rfl := Option.some.inj h
        exact k24_2 rfl _ _ _ hP hD hS (lv_sub hl [0] rfl)
      · have h := im c3 h
        refine lv_aload_n hx hb dX4_parse_30 rfl (lv_at hl 0 rfl) ?_
        obtain ⟨z4, e4, h⟩ := bd h
        refine muVV (ws' := (k_Parser cC cI cZ a_this a_text a_text_letters a_draft a_draft_times a_draft_values z4.1 z4.2.1 z4.2.2.1 z4.2.2.2 v_isPromiseTold_24 v_isDelayTold_24 v_text_length A_text_letters v_draft_size_24 v_draft_promise_24 v_draft_delay_24 A_draft_times_24 A_draft_values_24)) X [] [] (c_Parser_readToken l D cC cI cZ a_this a_text a_text_letters a_draft a_draft_times a_draft_values v_at_24 v_kind_24 v_place_24 v_number_24 v_isPromiseTold_24 v_isDelayTold_24 v_text_length A_text_letters v_draft_size_24 v_draft_promise_24 v_draft_delay_24 A_draft_times_24 A_draft_values_24 _ z4 e4) gg_X4_36 hd_Parser_readToken ⟨rfl, rfl, Nat.le_of_ble_eq_true rfl, Nat.le_of_ble_eq_true rfl⟩ ⟨Nat.zero_le _, Nat.zero_le _⟩ hP hD hS hA [0, 1, 2, 3, 4, 5] [] [0, 1, 2, 3, 4, 5] rfl rfl (by decide) (by decide) rfl rfl rfl rfl rfl hl.1 rfl (Nat.le_of_ble_eq_true rfl) dX4_parse_31 (fun H locs hP hD hS => ?_)
        refine lv_iconst (v := (0 : Int32)) hx hb dX4_parse_34 rfl ?_
        refine lv_istore_n (lv' := [(2, .int (0 : Int32)), (0, .ref a_this), (1, .int y24_1)]) hx hb dX4_parse_35 rfl hl (by decide) rfl (fun ls hl => ?_)
        refine lv_aload_n hx hb dX4_parse_36 rfl (lv_at hl 1 rfl) ?_
        refine va_get (ci := 4) (v := .int z4.2.1) (C := RX4) (T := TX4) (N := 8) hx hb htT inlX4 hown hK hP 0 rfl rfl 3 (by decide) (htT _ q_9_14) (fun _ h9 => h9) rfl dX4_parse_37 ?_
        by_cases c5 : z4.2.1 = (0 : Int32)
        · have h := ip c5 h
          refine lv_lookup (off := 52) (tgt := 92) hx hb dX4_parse_40 (by decide) (by rw [c5]; rfl) (by decide) ?_
          obtain rfl := Option.some.inj h
          exact k24_0 rfl _ _ _ hP hD hS (lv_sub hl [2] rfl)
        · have h := im c5 h
          by_cases c6 : z4.2.1 = (100 : Int32)
          · have h := ip c6 h
            refine lv_lookup (off := 62) (tgt := 102) hx hb dX4_parse_40 (by decide) (by rw [c6]; rfl) (by decide) ?_
            refine lv_aload_n hx hb dX4_parse_102 rfl (lv_at hl 1 rfl) ?_
            obtain ⟨z7, e7, h⟩ := bd h
            refine muV (ws' := (k_Parser cC cI cZ a_this a_text a_text_letters a_draft a_draft_times a_draft_values z7.2.1 z7.2.2.1 z7.2.2.2.1 z7.2.2.2.2.1 v_isPromiseTold_24 z7.2.2.2.2.2.1 v_text_length A_text_letters v_draft_size_24 v_draft_promise_24 z7.2.2.2.2.2.2 A_draft_times_24 A_draft_values_24)) X [] [] (c_Parser_isDelayItem l D cC cI cZ a_this a_text a_text_letters a_draft a_draft_times a_draft_values z4.1 z4.2.1 z4.2.2.1 z4.2.2.2 v_isPromiseTold_24 v_isDelayTold_24 v_text_length A_text_letters v_draft_size_24 v_draft_promise_24 v_draft_delay_24 A_draft_times_24 A_draft_values_24 _ z7 e7) gg_X4_46 hd_Parser_isDelayItem ⟨rfl, rfl, Nat.le_of_ble_eq_true rfl, Nat.le_of_ble_eq_true rfl⟩ ⟨Nat.zero_le _, Nat.zero_le _⟩ hP hD hS hA [0, 1, 2, 3, 4, 5] [] [0, 1, 2, 3, 4, 5] rfl rfl (by decide) (by decide) rfl rfl rfl rfl rfl hl.1 rfl (Nat.le_of_ble_eq_true rfl) dX4_parse_103 (fun H locs hP hD hS n7 => ?_)
            refine lv_istore_n (lv' := [(2, .int z7.1), (0, .ref a_this), (1, .int y24_1)]) hx hb dX4_parse_106 rfl hl (by decide) rfl (fun ls hl => ?_)
            refine lv_goto (tgt := 128) hx hb dX4_parse_107 (by decide) ?_
            refine lv_iload_n hx hb dX4_parse_128 rfl (lv_at hl 0 rfl) ?_
            refine lv_if_ne (tgt := 140) hx hb dX4_parse_129 (by decide) (fun c8 => ?_) (fun c8 => ?_)
            · have h := im c8 h
              refine lv_iinc (v := (y24_1 + (1 : Int32))) (lv' := [(1, .int (y24_1 + (1 : Int32))), (2, .int z7.1), (0, .ref a_this)]) hx hb dX4_parse_140 hl (k := 2) rfl rfl (by decide) rfl (fun ls hl => ?_)
              refine lv_goto (tgt := 24) hx hb dX4_parse_143 (by decide) ?_
              exact ih24 (y24_1 + (1 : Int32)) z7.2.1 z7.2.2.1 z7.2.2.2.1 z7.2.2.2.2.1 v_isPromiseTold_24 z7.2.2.2.2.2.1 v_draft_size_24 v_draft_promise_24 z7.2.2.2.2.2.2 A_draft_times_24 A_draft_values_24 _ h _ _ _ hP hD hS (lv_sub hl [2, 0] rfl) k24_0 k24_1 k24_2
            · have h := ip c8 h
              obtain rfl := Option.some.inj h
              exact k24_1 rfl _ _ _ hP hD hS (lv_sub hl [1] rfl)
          · have h := im c6 h
            by_cases c9 : z4.2.1 = (112 : Int32)
            · have h := ip c9 h
              refine lv_lookup (off := 54) (tgt := 94) hx hb dX4_parse_40 (by decide) (by rw [c9]; rfl) (by decide) ?_
              refine lv_aload_n hx hb dX4_parse_94 rfl (lv_at hl 1 rfl) ?_
              obtain ⟨z10, e10, h⟩ := bd h
              refine muV (ws' := (k_Parser cC cI cZ a_this a_text a_text_letters a_draft a_draft_times a_draft_values z10.2.1 z10.2.2.1 z10.2.2.2.1 z10.2.2.2.2.1 z10.2.2.2.2.2.1 v_isDelayTold_24 v_text_length A_text_letters v_draft_size_24 z10.2.2.2.2.2.2 v_draft_delay_24 A_draft_times_24 A_draft_values_24)) X [] [] (c_Parser_isPromiseItem l D cC cI cZ a_this a_text a_text_letters a_draft a_draft_times a_draft_values z4.1 z4.2.1 z4.2.2.1 z4.2.2.2 v_isPromiseTold_24 v_isDelayTold_24 v_text_length A_text_letters v_draft_size_24 v_draft_promise_24 v_draft_delay_24 A_draft_times_24 A_draft_values_24 _ z10 e10) gg_X4_42 hd_Parser_isPromiseItem ⟨rfl, rfl, Nat.le_of_ble_eq_true rfl, Nat.le_of_ble_eq_true rfl⟩ ⟨Nat.zero_le _, Nat.zero_le _⟩ hP hD hS hA [0, 1, 2, 3, 4, 5] [] [0, 1, 2, 3, 4, 5] rfl rfl (by decide) (by decide) rfl rfl rfl rfl rfl hl.1 rfl (Nat.le_of_ble_eq_true rfl) dX4_parse_95 (fun H locs hP hD hS n10 => ?_)
              refine lv_istore_n (lv' := [(2, .int z10.1), (0, .ref a_this), (1, .int y24_1)]) hx hb dX4_parse_98 rfl hl (by decide) rfl (fun ls hl => ?_)
              refine lv_goto (tgt := 128) hx hb dX4_parse_99 (by decide) ?_
              refine lv_iload_n hx hb dX4_parse_128 rfl (lv_at hl 0 rfl) ?_
              refine lv_if_ne (tgt := 140) hx hb dX4_parse_129 (by decide) (fun c11 => ?_) (fun c11 => ?_)
              · have h := im c11 h
                refine lv_iinc (v := (y24_1 + (1 : Int32))) (lv' := [(1, .int (y24_1 + (1 : Int32))), (2, .int z10.1), (0, .ref a_this)]) hx hb dX4_parse_140 hl (k := 2) rfl rfl (by decide) rfl (fun ls hl => ?_)
                refine lv_goto (tgt := 24) hx hb dX4_parse_143 (by decide) ?_
                exact ih24 (y24_1 + (1 : Int32)) z10.2.1 z10.2.2.1 z10.2.2.2.1 z10.2.2.2.2.1 z10.2.2.2.2.2.1 v_isDelayTold_24 v_draft_size_24 z10.2.2.2.2.2.2 v_draft_delay_24 A_draft_times_24 A_draft_values_24 _ h _ _ _ hP hD hS (lv_sub hl [2, 0] rfl) k24_0 k24_1 k24_2
              · have h := ip c11 h
                obtain rfl := Option.some.inj h
                exact k24_1 rfl _ _ _ hP hD hS (lv_sub hl [1] rfl)
            · have h := im c9 h
              by_cases c12 : z4.2.1 = (114 : Int32)
              · have h := ip c12 h
                refine lv_lookup (off := 70) (tgt := 110) hx hb dX4_parse_40 (by decide) (by rw [c12]; rfl) (by decide) ?_
                refine lv_aload_n hx hb dX4_parse_110 rfl (lv_at hl 1 rfl) ?_
                refine lv_iconst (v := (1 : Int32)) hx hb dX4_parse_111 rfl ?_
                obtain ⟨z13, e13, h⟩ := bd h
                refine muV (ws' := (k_Parser cC cI cZ a_this a_text a_text_letters a_draft a_draft_times a_draft_values z13.2.1 z13.2.2.1 z13.2.2.2.1 z13.2.2.2.2.1 v_isPromiseTold_24 v_isDelayTold_24 v_text_length A_text_letters z13.2.2.2.2.2.1 v_draft_promise_24 v_draft_delay_24 z13.2.2.2.2.2.2.1 z13.2.2.2.2.2.2.2)) X [.int (1 : Int32)] [] (c_Parser_isReadingItem l D cC cI cZ a_this a_text a_text_letters a_draft a_draft_times a_draft_values z4.1 z4.2.1 z4.2.2.1 z4.2.2.2 v_isPromiseTold_24 v_isDelayTold_24 v_text_length A_text_letters v_draft_size_24 v_draft_promise_24 v_draft_delay_24 A_draft_times_24 A_draft_values_24 (1 : Int32) _ z13 e13) gg_X4_49 hd_Parser_isReadingItem ⟨rfl, rfl, Nat.le_of_ble_eq_true rfl, Nat.le_of_ble_eq_true rfl⟩ ⟨Nat.zero_le _, Nat.zero_le _⟩ hP hD hS hA [0, 1, 2, 3, 4, 5] [] [0, 1, 2, 3, 4, 5] rfl rfl (by decide) (by decide) rfl rfl rfl rfl rfl hl.1 rfl (Nat.le_of_ble_eq_true rfl) dX4_parse_112 (fun H locs hP hD hS n13 => ?_)
                refine lv_istore_n (lv' := [(2, .int z13.1), (0, .ref a_this), (1, .int y24_1)]) hx hb dX4_parse_115 rfl hl (by decide) rfl (fun ls hl => ?_)
                refine lv_goto (tgt := 128) hx hb dX4_parse_116 (by decide) ?_
                refine lv_iload_n hx hb dX4_parse_128 rfl (lv_at hl 0 rfl) ?_
                refine lv_if_ne (tgt := 140) hx hb dX4_parse_129 (by decide) (fun c14 => ?_) (fun c14 => ?_)
                · have h := im c14 h
                  refine lv_iinc (v := (y24_1 + (1 : Int32))) (lv' := [(1, .int (y24_1 + (1 : Int32))), (2, .int z13.1), (0, .ref a_this)]) hx hb dX4_parse_140 hl (k := 2) rfl rfl (by decide) rfl (fun ls hl => ?_)
                  refine lv_goto (tgt := 24) hx hb dX4_parse_143 (by decide) ?_
                  exact ih24 (y24_1 + (1 : Int32)) z13.2.1 z13.2.2.1 z13.2.2.2.1 z13.2.2.2.2.1 v_isPromiseTold_24 v_isDelayTold_24 z13.2.2.2.2.2.1 v_draft_promise_24 v_draft_delay_24 z13.2.2.2.2.2.2.1 z13.2.2.2.2.2.2.2 _ h _ _ _ hP hD hS (lv_sub hl [2, 0] rfl) k24_0 k24_1 k24_2
                · have h := ip c14 h
                  obtain rfl := Option.some.inj h
                  exact k24_1 rfl _ _ _ hP hD hS (lv_sub hl [1] rfl)
              · have h := im c12 h
                by_cases c15 : z4.2.1 = (117 : Int32)
                · have h := ip c15 h
                  refine lv_lookup (off := 79) (tgt := 119) hx hb dX4_parse_40 (by decide) (by rw [c15]; rfl) (by decide) ?_
                  refine lv_aload_n hx hb dX4_parse_119 rfl (lv_at hl 1 rfl) ?_
                  refine lv_iconst (v := (0 : Int32)) hx hb dX4_parse_120 rfl ?_
                  obtain ⟨z16, e16, h⟩ := bd h
                  refine muV (ws' := (k_Parser cC cI cZ a_this a_text a_text_letters a_draft a_draft_times a_draft_values z16.2.1 z16.2.2.1 z16.2.2.2.1 z16.2.2.2.2.1 v_isPromiseTold_24 v_isDelayTold_24 v_text_length A_text_letters z16.2.2.2.2.2.1 v_draft_promise_24 v_draft_delay_24 z16.2.2.2.2.2.2.1 z16.2.2.2.2.2.2.2)) X [.int (0 : Int32)] [] (c_Parser_isReadingItem l D cC cI cZ a_this a_text a_text_letters a_draft a_draft_times a_draft_values z4.1 z4.2.1 z4.2.2.1 z4.2.2.2 v_isPromiseTold_24 v_isDelayTold_24 v_text_length A_text_letters v_draft_size_24 v_draft_promise_24 v_draft_delay_24 A_draft_times_24 A_draft_values_24 (0 : Int32) _ z16 e16) gg_X4_49 hd_Parser_isReadingItem ⟨rfl, rfl, Nat.le_of_ble_eq_true rfl, Nat.le_of_ble_eq_true rfl⟩ ⟨Nat.zero_le _, Nat.zero_le _⟩ hP hD hS hA [0, 1, 2, 3, 4, 5] [] [0, 1, 2, 3, 4, 5] rfl rfl (by decide) (by decide) rfl rfl rfl rfl rfl hl.1 rfl (Nat.le_of_ble_eq_true rfl) dX4_parse_121 (fun H locs hP hD hS n16 => ?_)
                  refine lv_istore_n (lv' := [(2, .int z16.1), (0, .ref a_this), (1, .int y24_1)]) hx hb dX4_parse_124 rfl hl (by decide) rfl (fun ls hl => ?_)
                  refine lv_goto (tgt := 128) hx hb dX4_parse_125 (by decide) ?_
                  refine lv_iload_n hx hb dX4_parse_128 rfl (lv_at hl 0 rfl) ?_
                  refine lv_if_ne (tgt := 140) hx hb dX4_parse_129 (by decide) (fun c17 => ?_) (fun c17 => ?_)
                  · have h := im c17 h
                    refine lv_iinc (v := (y24_1 + (1 : Int32))) (lv' := [(1, .int (y24_1 + (1 : Int32))), (2, .int z16.1), (0, .ref a_this)]) hx hb dX4_parse_140 hl (k := 2) rfl rfl (by decide) rfl (fun ls hl => ?_)
                    refine lv_goto (tgt := 24) hx hb dX4_parse_143 (by decide) ?_
                    exact ih24 (y24_1 + (1 : Int32)) z16.2.1 z16.2.2.1 z16.2.2.2.1 z16.2.2.2.2.1 v_isPromiseTold_24 v_isDelayTold_24 z16.2.2.2.2.2.1 v_draft_promise_24 v_draft_delay_24 z16.2.2.2.2.2.2.1 z16.2.2.2.2.2.2.2 _ h _ _ _ hP hD hS (lv_sub hl [2, 0] rfl) k24_0 k24_1 k24_2
                  · have h := ip c17 h
                    obtain rfl := Option.some.inj h
                    exact k24_1 rfl _ _ _ hP hD hS (lv_sub hl [1] rfl)
                · have h := im c15 h
                  refine lv_lookup (off := 88) (tgt := 128) hx hb dX4_parse_40 (by decide) ((lv_osw c5 rfl).trans ((lv_osw c6 rfl).trans ((lv_osw c9 rfl).trans ((lv_osw c12 rfl).trans ((lv_osw c15 rfl).trans rfl))))) (by decide) ?_
                  refine lv_iload_n hx hb dX4_parse_128 rfl (lv_at hl 0 rfl) ?_
                  refine lv_if_ne (tgt := 140) hx hb dX4_parse_129 (by decide) (fun c18 => absurd (by decide) c18) (fun _ => ?_)
                  obtain rfl := Option.some.inj h
                  exact k24_1 rfl _ _ _ hP hD hS (lv_sub hl [1] rfl)
  obtain ⟨z2, e2, h⟩ := bd h
  refine LP24 fu (0 : Int32) (0 : Int32) v_kind v_place v_number (0 : Int32) (0 : Int32) z1.1 z1.2.1 z1.2.2 A_draft_times A_draft_values z2 e2 _ _ _ hP hD hS (lv_sub hl [1, 0] rfl) ?_ ?_ ?_
  · intro t2 H locs ls hP hD hS hl
    have h := ip t2 h
    refine lv_iload_n hx hb dX4_parse_92 rfl (lv_at hl 0 rfl) ?_
    obtain rfl := Option.some.inj h
    exact hret _ _ _ _ _ hP hS dX4_parse_93 rfl rfl
  · intro t2 H locs ls hP hD hS hl
    have h := im (by rw [t2]; decide) h
    have h := ip t2 h
    refine lv_bipush (v := (-10 : Int32)) hx hb dX4_parse_132 rfl ?_
    refine lv_aload_n hx hb dX4_parse_134 rfl (lv_at hl 0 rfl) ?_
    refine va_get (ci := 4) (v := .int z2.2.2.2.2.1) (C := RX4) (T := TX4) (N := 8) hx hb htT inlX4 hown hK hP 0 rfl rfl 4 (by decide) (htT _ q_9_15) (fun _ h9 => h9) rfl dX4_parse_135 ?_
    refine lv_isub hx hb dX4_parse_138 ?_
    obtain rfl := Option.some.inj h
    exact hret _ _ _ _ _ hP hS dX4_parse_139 rfl rfl
  · intro t2 H locs ls hP hD hS hl
    have h := im (by rw [t2]; decide) h
    have h := im (by rw [t2]; decide) h
    refine lv_bipush (v := (-10 : Int32)) hx hb dX4_parse_146 rfl ?_
    refine lv_aload_n hx hb dX4_parse_148 rfl (lv_at hl 0 rfl) ?_
    refine va_get (ci := 4) (v := .int z2.2.2.2.2.1) (C := RX4) (T := TX4) (N := 8) hx hb htT inlX4 hown hK hP 0 rfl rfl 4 (by decide) (htT _ q_9_15) (fun _ h9 => h9) rfl dX4_parse_149 ?_
    refine lv_isub hx hb dX4_parse_152 ?_
    obtain rfl := Option.some.inj h
    exact hret _ _ _ _ _ hP hS dX4_parse_153 rfl rfl

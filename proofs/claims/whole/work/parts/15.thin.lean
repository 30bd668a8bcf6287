set_option maxHeartbeats 4000000 in
set_option maxRecDepth 100000 in
theorem c_Thinning_swingDoor (l : Launch) (D : va_G) (cC cI cZ : ClassId) (a_this : Nat) (a_piece : Nat) (a_sent : Nat) (a_steps : Nat) (a_next : Nat) (a_lines_log : Nat) (a_lines_log_times : Nat) (a_lines_log_values : Nat) (a_lines : Nat) (a_lines_stretch : Nat) (a_lines_needs : Nat) (v_isOutdated : Int32) (v_pieces : Int32) (v_doorMask : Int32) (v_leastMask : Int32) (A_piece : Nat → Int32) (A_sent : Nat → Int32) (A_steps : Nat → Int32) (A_next : Nat → Int32) (v_lines_log_size : Int32) (v_lines_log_promise : Int32) (v_lines_log_delay : Int32) (A_lines_log_times : Nat → Int32) (A_lines_log_values : Nat → Int32) (v_lines_stretches : Int32) (A_lines_stretch : Nat → Int32) (A_lines_needs : Nat → Int32) (p1 : Int32) (r : Int32) (h : f_Thinning_swingDoor v_lines_log_size v_lines_log_delay A_lines_log_values A_lines_needs p1 = some r) : Met l yX9_swingDoor (.code yX9_swingDoor cX9_swingDoor 5 (some .int) :: TBL) (RM 3 63) (PcR [.ref a_this, .int p1] D (TY cC cI cZ) (k_Thinning cC cI cZ a_this a_piece a_sent a_steps a_next a_lines_log a_lines_log_times a_lines_log_values a_lines a_lines_stretch a_lines_needs v_isOutdated v_pieces v_doorMask v_leastMask A_piece A_sent A_steps A_next v_lines_log_size v_lines_log_promise v_lines_log_delay A_lines_log_times A_lines_log_values v_lines_stretches A_lines_stretch A_lines_needs)) (vp_Si (PO .int r)) 0 0 (fun _ => False) := by
  refine roOf (by decide) (Nat.le_of_ble_eq_true rfl) rfl ?_
  intro p e s m args below meth c Q ls X hP hl hret
  have X : Ctx p s m args c cX9_swingDoor 5 RX9 D (TY cC cI cZ) := X
  obtain ⟨hx, hb, hml, hown, htT, hK, hN⟩ := id X
  unfold f_Thinning_swingDoor at h
  refine lv_iconst (v := (0 : Int32)) hx hb dX9_swingDoor_0 rfl ?_
  refine lv_istore_n (lv' := [(2, .int (0 : Int32)), (0, .ref a_this), (1, .int p1)]) hx hb dX9_swingDoor_1 rfl hl (by decide) rfl (fun ls hl => ?_)
  refine lv_iconst (v := (0 : Int32)) hx hb dX9_swingDoor_2 rfl ?_
  refine lv_istore_n (lv' := [(3, .int (0 : Int32)), (2, .int (0 : Int32)), (0, .ref a_this), (1, .int p1)]) hx hb dX9_swingDoor_3 rfl hl (by decide) rfl (fun ls hl => ?_)
  refine lv_iconst (v := (0 : Int32)) hx hb dX9_swingDoor_4 rfl ?_
  refine lv_istore (lv' := [(4, .int (0 : Int32)), (3, .int (0 : Int32)), (2, .int (0 : Int32)), (0, .ref a_this), (1, .int p1)]) hx hb dX9_swingDoor_5 hl (by decide) rfl (fun ls hl => ?_)
  have LP7 : ∀ (n : Nat) (y7_2 : Int32) (y7_3 : Int32) (y7_4 : Int32) (zq7 : Int32), f_Thinning_swingDoor_L7 p1 v_lines_log_size v_lines_log_delay A_lines_log_values A_lines_needs n y7_2 y7_3 y7_4 = some zq7 → ∀ (ls : Array Slot), lv_has ls 5 [(0, .ref a_this), (1, .int p1), (2, .int y7_2), (3, .int y7_3), (4, .int y7_4)] → (∀ (ls : Array Slot), lv_has ls 5 [(2, .int zq7)] → W p l e (RM 3 63) s m args below meth c s.heap [] 0 0 Q (F0 m 123 ls [])) → W p l e (RM 3 63) s m args below meth c s.heap [] 0 0 Q (F0 m 7 ls []) := by
    clear h
    intro n
    induction n with
    | zero =>
      intro y7_2 y7_3 y7_4 zq7 h
      rw [f_Thinning_swingDoor_L7_0] at h
      cases h
    | succ n ih7 =>
      intro y7_2 y7_3 y7_4 zq7 h ls hl k7_0
      rw [f_Thinning_swingDoor_L7_s] at h
      refine lv_iload hx hb dX9_swingDoor_7 (lv_at hl 4 rfl) ?_
      refine lv_aload_n hx hb dX9_swingDoor_9 rfl (lv_at hl 0 rfl) ?_
      refine va_get (ci := 9) (v := .ref a_lines_log) (C := RX9) (T := TX9) (N := 10) hx hb htT inlX9 hown hK hP 0 rfl rfl 0 (by decide) (htT _ q_5_9) (fun _ h9 => h9) rfl dX9_swingDoor_10 ?_
      refine va_getN (ci := 3) (v := .int v_lines_log_size) (C := RX3) (T := TX3) (N := 5) hx hb htT inlX3 hown hK hP 5 rfl rfl 2 (by decide) (va_Nw.use rfl (hN _ qn_9)) (fun _ h9 => h9) rfl dX9_swingDoor_13 ?_
      refine lv_icmp_ge (tgt := 123) hx hb dX9_swingDoor_16 (by decide) (fun c2 => ?_) (fun c2 => ?_)
      · have h := ip c2 h
        obtain rfl := Option.some.inj h
        exact k7_0 _ (lv_sub hl [2] rfl)
      · have h := im c2 h
        refine lv_aload_n hx hb dX9_swingDoor_19 rfl (lv_at hl 0 rfl) ?_
        refine va_get (ci := 9) (v := .ref a_lines_log) (C := RX9) (T := TX9) (N := 10) hx hb htT inlX9 hown hK hP 0 rfl rfl 0 (by decide) (htT _ q_5_9) (fun _ h9 => h9) rfl dX9_swingDoor_20 ?_
        refine lv_iload hx hb dX9_swingDoor_23 (lv_at hl 4 rfl) ?_
        obtain ⟨r3, e3, h⟩ := bd h
        refine roV X [.int y7_4] [] (c_Log_isKnown l D cC cI cZ a_lines_log a_lines_log_times a_lines_log_values v_lines_log_size v_lines_log_promise v_lines_log_delay A_lines_log_times A_lines_log_values y7_4 r3 e3) gg_X9_80 hd_Log_isKnown ⟨rfl, rfl, Nat.le_of_ble_eq_true rfl, Nat.le_of_ble_eq_true rfl⟩ ⟨Nat.zero_le _, Nat.zero_le _⟩ hP [5, 6, 7] rfl rfl rfl rfl hl.1 rfl (Nat.le_of_ble_eq_true rfl) dX9_swingDoor_25 (fun n3 => ?_)
        refine lv_if_ne (tgt := 34) hx hb dX9_swingDoor_28 (by decide) (fun c4 => ?_) (fun c4 => ?_)
        · have h := im c4 h
          refine lv_aload_n hx hb dX9_swingDoor_34 rfl (lv_at hl 0 rfl) ?_
          refine va_get (ci := 9) (v := .ref a_lines_log) (C := RX9) (T := TX9) (N := 10) hx hb htT inlX9 hown hK hP 0 rfl rfl 0 (by decide) (htT _ q_5_9) (fun _ h9 => h9) rfl dX9_swingDoor_35 ?_
          refine lv_iload hx hb dX9_swingDoor_38 (lv_at hl 4 rfl) ?_
          obtain ⟨r5, e5, h⟩ := bd h
          refine roV X [.int y7_4] [] (c_Log_isFirst l D cC cI cZ a_lines_log a_lines_log_times a_lines_log_values v_lines_log_size v_lines_log_promise v_lines_log_delay A_lines_log_times A_lines_log_values y7_4 r5 e5) gg_X9_77 hd_Log_isFirst ⟨rfl, rfl, Nat.le_of_ble_eq_true rfl, Nat.le_of_ble_eq_true rfl⟩ ⟨Nat.zero_le _, Nat.zero_le _⟩ hP [5, 6, 7] rfl rfl rfl rfl hl.1 rfl (Nat.le_of_ble_eq_true rfl) dX9_swingDoor_40 (fun n5 => ?_)
          refine lv_if_eq (tgt := 59) hx hb dX9_swingDoor_43 (by decide) (fun c6 => ?_) (fun c6 => ?_)
          · have h := ip c6 h
            refine lv_iload hx hb dX9_swingDoor_59 (lv_at hl 4 rfl) ?_
            refine lv_iload_n hx hb dX9_swingDoor_61 rfl (lv_at hl 3 rfl) ?_
            refine lv_isub hx hb dX9_swingDoor_62 ?_
            refine lv_aload_n hx hb dX9_swingDoor_63 rfl (lv_at hl 0 rfl) ?_
            refine va_get (ci := 9) (v := .ref a_lines_log) (C := RX9) (T := TX9) (N := 10) hx hb htT inlX9 hown hK hP 0 rfl rfl 0 (by decide) (htT _ q_5_9) (fun _ h9 => h9) rfl dX9_swingDoor_64 ?_
            refine va_getN (ci := 3) (v := .int v_lines_log_delay) (C := RX3) (T := TX3) (N := 5) hx hb htT inlX3 hown hK hP 5 rfl rfl 4 (by decide) (va_Nw.use rfl (hN _ qn_17)) (fun _ h9 => h9) rfl dX9_swingDoor_67 ?_
            refine lv_icmp_gt (tgt := 87) hx hb dX9_swingDoor_70 (by decide) (fun c7 => ?_) (fun c7 => ?_)
            · have h := ip c7 h
              refine lv_iload hx hb dX9_swingDoor_87 (lv_at hl 4 rfl) ?_
              refine lv_iconst (v := (1 : Int32)) hx hb dX9_swingDoor_89 rfl ?_
              refine lv_isub hx hb dX9_swingDoor_90 ?_
              refine lv_istore_n (lv' := [(3, .int (y7_4 - (1 : Int32))), (0, .ref a_this), (1, .int p1), (2, .int y7_2), (4, .int y7_4)]) hx hb dX9_swingDoor_91 rfl hl (by decide) rfl (fun ls hl => ?_)
              refine lv_iload_n hx hb dX9_swingDoor_92 rfl (lv_at hl 3 rfl) ?_
              refine lv_iconst (v := (1 : Int32)) hx hb dX9_swingDoor_93 rfl ?_
              refine lv_iload_n hx hb dX9_swingDoor_94 rfl (lv_at hl 0 rfl) ?_
              refine lv_ishl hx hb dX9_swingDoor_95 ?_
              refine lv_ior hx hb dX9_swingDoor_96 ?_
              refine lv_istore_n (lv' := [(2, .int (y7_2 ||| ((1 : Int32) <<< ((y7_4 - (1 : Int32)) &&& 31)))), (3, .int (y7_4 - (1 : Int32))), (0, .ref a_this), (1, .int p1), (4, .int y7_4)]) hx hb dX9_swingDoor_97 rfl hl (by decide) rfl (fun ls hl => ?_)
              refine lv_aload_n hx hb dX9_swingDoor_98 rfl (lv_at hl 2 rfl) ?_
              refine va_get (ci := 9) (v := .ref a_lines_log) (C := RX9) (T := TX9) (N := 10) hx hb htT inlX9 hown hK hP 0 rfl rfl 0 (by decide) (htT _ q_5_9) (fun _ h9 => h9) rfl dX9_swingDoor_99 ?_
              refine lv_iload hx hb dX9_swingDoor_102 (lv_at hl 4 rfl) ?_
              obtain ⟨r8, e8, h⟩ := bd h
              refine roV X [.int y7_4] [] (c_Log_isLast l D cC cI cZ a_lines_log a_lines_log_times a_lines_log_values v_lines_log_size v_lines_log_promise v_lines_log_delay A_lines_log_times A_lines_log_values y7_4 r8 e8) gg_X9_94 hd_Log_isLast ⟨rfl, rfl, Nat.le_of_ble_eq_true rfl, Nat.le_of_ble_eq_true rfl⟩ ⟨Nat.zero_le _, Nat.zero_le _⟩ hP [5, 6, 7] rfl rfl rfl rfl hl.1 rfl (Nat.le_of_ble_eq_true rfl) dX9_swingDoor_104 (fun n8 => ?_)
              refine lv_if_eq (tgt := 117) hx hb dX9_swingDoor_107 (by decide) (fun c9 => ?_) (fun c9 => ?_)
              · have h := ip c9 h
                refine lv_iinc (v := (y7_4 + (1 : Int32))) (lv' := [(4, .int (y7_4 + (1 : Int32))), (2, .int (y7_2 ||| ((1 : Int32) <<< ((y7_4 - (1 : Int32)) &&& 31)))), (3, .int (y7_4 - (1 : Int32))), (0, .ref a_this), (1, .int p1)]) hx hb dX9_swingDoor_117 hl (k := 4) rfl rfl (by decide) rfl (fun ls hl => ?_)
                refine lv_goto (tgt := 7) hx hb dX9_swingDoor_120 (by decide) ?_
                exact ih7 (y7_2 ||| ((1 : Int32) <<< ((y7_4 - (1 : Int32)) &&& 31))) (y7_4 - (1 : Int32)) (y7_4 + (1 : Int32)) _ h _ (lv_sub hl [3, 4, 1, 2, 0] rfl) k7_0
              · have h := im c9 h
                refine lv_iload_n hx hb dX9_swingDoor_110 rfl (lv_at hl 0 rfl) ?_
                refine lv_iconst (v := (1 : Int32)) hx hb dX9_swingDoor_111 rfl ?_
                refine lv_iload hx hb dX9_swingDoor_112 (lv_at hl 4 rfl) ?_
                refine lv_ishl hx hb dX9_swingDoor_114 ?_
                refine lv_ior hx hb dX9_swingDoor_115 ?_
                refine lv_istore_n (lv' := [(2, .int ((y7_2 ||| ((1 : Int32) <<< ((y7_4 - (1 : Int32)) &&& 31))) ||| ((1 : Int32) <<< (y7_4 &&& 31)))), (3, .int (y7_4 - (1 : Int32))), (0, .ref a_this), (1, .int p1), (4, .int y7_4)]) hx hb dX9_swingDoor_116 rfl hl (by decide) rfl (fun ls hl => ?_)
                refine lv_iinc (v := (y7_4 + (1 : Int32))) (lv' := [(4, .int (y7_4 + (1 : Int32))), (2, .int ((y7_2 ||| ((1 : Int32) <<< ((y7_4 - (1 : Int32)) &&& 31))) ||| ((1 : Int32) <<< (y7_4 &&& 31)))), (3, .int (y7_4 - (1 : Int32))), (0, .ref a_this), (1, .int p1)]) hx hb dX9_swingDoor_117 hl (k := 4) rfl rfl (by decide) rfl (fun ls hl => ?_)
                refine lv_goto (tgt := 7) hx hb dX9_swingDoor_120 (by decide) ?_
                exact ih7 ((y7_2 ||| ((1 : Int32) <<< ((y7_4 - (1 : Int32)) &&& 31))) ||| ((1 : Int32) <<< (y7_4 &&& 31))) (y7_4 - (1 : Int32)) (y7_4 + (1 : Int32)) _ h _ (lv_sub hl [3, 4, 1, 2, 0] rfl) k7_0
            · have h := im c7 h
              refine lv_aload_n hx hb dX9_swingDoor_73 rfl (lv_at hl 0 rfl) ?_
              refine va_get (ci := 9) (v := .ref a_lines) (C := RX9) (T := TX9) (N := 10) hx hb htT inlX9 hown hK hP 0 rfl rfl 1 (by decide) (htT _ q_5_10) (fun _ h9 => h9) rfl dX9_swingDoor_74 ?_
              refine lv_iload_n hx hb dX9_swingDoor_77 rfl (lv_at hl 3 rfl) ?_
              refine lv_iload hx hb dX9_swingDoor_78 (lv_at hl 4 rfl) ?_
              obtain ⟨r10, e10, h⟩ := bd h
              refine roV X [.int y7_3, .int y7_4] [] (c_Lines_needOf l D cC cI cZ a_lines a_lines_stretch a_lines_needs a_lines_log a_lines_log_times a_lines_log_values v_lines_stretches A_lines_stretch A_lines_needs v_lines_log_size v_lines_log_promise v_lines_log_delay A_lines_log_times A_lines_log_values y7_3 y7_4 r10 e10) gg_X9_87 hd_Lines_needOf ⟨rfl, rfl, Nat.le_of_ble_eq_true rfl, Nat.le_of_ble_eq_true rfl⟩ ⟨Nat.zero_le _, Nat.zero_le _⟩ hP [8, 9, 10, 5, 6, 7] rfl rfl rfl rfl hl.1 rfl (Nat.le_of_ble_eq_true rfl) dX9_swingDoor_80 (fun n10 => ?_)
              refine lv_iload_n hx hb dX9_swingDoor_83 rfl (lv_at hl 1 rfl) ?_
              refine lv_icmp_le (tgt := 98) hx hb dX9_swingDoor_84 (by decide) (fun c11 => ?_) (fun c11 => ?_)
              · have h := ip c11 h
                refine lv_aload_n hx hb dX9_swingDoor_98 rfl (lv_at hl 0 rfl) ?_
                refine va_get (ci := 9) (v := .ref a_lines_log) (C := RX9) (T := TX9) (N := 10) hx hb htT inlX9 hown hK hP 0 rfl rfl 0 (by decide) (htT _ q_5_9) (fun _ h9 => h9) rfl dX9_swingDoor_99 ?_
                refine lv_iload hx hb dX9_swingDoor_102 (lv_at hl 4 rfl) ?_
                obtain ⟨r12, e12, h⟩ := bd h
                refine roV X [.int y7_4] [] (c_Log_isLast l D cC cI cZ a_lines_log a_lines_log_times a_lines_log_values v_lines_log_size v_lines_log_promise v_lines_log_delay A_lines_log_times A_lines_log_values y7_4 r12 e12) gg_X9_94 hd_Log_isLast ⟨rfl, rfl, Nat.le_of_ble_eq_true rfl, Nat.le_of_ble_eq_true rfl⟩ ⟨Nat.zero_le _, Nat.zero_le _⟩ hP [5, 6, 7] rfl rfl rfl rfl hl.1 rfl (Nat.le_of_ble_eq_true rfl) dX9_swingDoor_104 (fun n12 => ?_)
                refine lv_if_eq (tgt := 117) hx hb dX9_swingDoor_107 (by decide) (fun c13 => ?_) (fun c13 => ?_)
                · have h := ip c13 h
                  refine lv_iinc (v := (y7_4 + (1 : Int32))) (lv' := [(4, .int (y7_4 + (1 : Int32))), (0, .ref a_this), (1, .int p1), (2, .int y7_2), (3, .int y7_3)]) hx hb dX9_swingDoor_117 hl (k := 4) rfl rfl (by decide) rfl (fun ls hl => ?_)
                  refine lv_goto (tgt := 7) hx hb dX9_swingDoor_120 (by decide) ?_
                  exact ih7 y7_2 y7_3 (y7_4 + (1 : Int32)) _ h _ (lv_sub hl [1, 2, 3, 4, 0] rfl) k7_0
                · have h := im c13 h
                  refine lv_iload_n hx hb dX9_swingDoor_110 rfl (lv_at hl 2 rfl) ?_
                  refine lv_iconst (v := (1 : Int32)) hx hb dX9_swingDoor_111 rfl ?_
                  refine lv_iload hx hb dX9_swingDoor_112 (lv_at hl 4 rfl) ?_
                  refine lv_ishl hx hb dX9_swingDoor_114 ?_
                  refine lv_ior hx hb dX9_swingDoor_115 ?_
                  refine lv_istore_n (lv' := [(2, .int (y7_2 ||| ((1 : Int32) <<< (y7_4 &&& 31)))), (0, .ref a_this), (1, .int p1), (3, .int y7_3), (4, .int y7_4)]) hx hb dX9_swingDoor_116 rfl hl (by decide) rfl (fun ls hl => ?_)
                  refine lv_iinc (v := (y7_4 + (1 : Int32))) (lv' := [(4, .int (y7_4 + (1 : Int32))), (2, .int (y7_2 ||| ((1 : Int32) <<< (y7_4 &&& 31)))), (0, .ref a_this), (1, .int p1), (3, .int y7_3)]) hx hb dX9_swingDoor_117 hl (k := 4) rfl rfl (by decide) rfl (fun ls hl => ?_)
                  refine lv_goto (tgt := 7) hx hb dX9_swingDoor_120 (by decide) ?_
                  exact ih7 (y7_2 ||| ((1 : Int32) <<< (y7_4 &&& 31))) y7_3 (y7_4 + (1 : Int32)) _ h _ (lv_sub hl [2, 3, 1, 4, 0] rfl) k7_0
              · have h := im c11 h
                refine lv_iload hx hb dX9_swingDoor_87 (lv_at hl 4 rfl) ?_
                refine lv_iconst (v := (1 : Int32)) hx hb dX9_swingDoor_89 rfl ?_
                refine lv_isub hx hb dX9_swingDoor_90 ?_
                refine lv_istore_n (lv' := [(3, .int (y7_4 - (1 : Int32))), (0, .ref a_this), (1, .int p1), (2, .int y7_2), (4, .int y7_4)]) hx hb dX9_swingDoor_91 rfl hl (by decide) rfl (fun ls hl => ?_)
                refine lv_iload_n hx hb dX9_swingDoor_92 rfl (lv_at hl 3 rfl) ?_
                refine lv_iconst (v := (1 : Int32)) hx hb dX9_swingDoor_93 rfl ?_
                refine lv_iload_n hx hb dX9_swingDoor_94 rfl (lv_at hl 0 rfl) ?_
                refine lv_ishl hx hb dX9_swingDoor_95 ?_
                refine lv_ior hx hb dX9_swingDoor_96 ?_
                refine lv_istore_n (lv' := [(2, .int (y7_2 ||| ((1 : Int32) <<< ((y7_4 - (1 : Int32)) &&& 31)))), (3, .int (y7_4 - (1 : Int32))), (0, .ref a_this), (1, .int p1), (4, .int y7_4)]) hx hb dX9_swingDoor_97 rfl hl (by decide) rfl (fun ls hl => ?_)
                refine lv_aload_n hx hb dX9_swingDoor_98 rfl (lv_at hl 2 rfl) ?_
                refine va_get (ci := 9) (v := .ref a_lines_log) (C := RX9) (T := TX9) (N := 10) hx hb htT inlX9 hown hK hP 0 rfl rfl 0 (by decide) (htT _ q_5_9) (fun _ h9 => h9) rfl dX9_swingDoor_99 ?_
                refine lv_iload hx hb dX9_swingDoor_102 (lv_at hl 4 rfl) ?_
                obtain ⟨r14, e14, h⟩ := bd h
                refine roV X [.int y7_4] [] (c_Log_isLast l D cC cI cZ a_lines_log a_lines_log_times a_lines_log_values v_lines_log_size v_lines_log_promise v_lines_log_delay A_lines_log_times A_lines_log_values y7_4 r14 e14) gg_X9_94 hd_Log_isLast ⟨rfl, rfl, Nat.le_of_ble_eq_true rfl, Nat.le_of_ble_eq_true rfl⟩ ⟨Nat.zero_le _, Nat.zero_le _⟩ hP [5, 6, 7] rfl rfl rfl rfl hl.1 rfl (Nat.le_of_ble_eq_true rfl) dX9_swingDoor_104 (fun n14 => ?_)
                refine lv_if_eq (tgt := 117) hx hb dX9_swingDoor_107 (by decide) (fun c15 => ?_) (fun c15 => ?_)
                · have h := ip c15 h
                  refine lv_iinc (v := (y7_4 + (1 : Int32))) (lv' := [(4, .int (y7_4 + (1 : Int32))), (2, .int (y7_2 ||| ((1 : Int32) <<< ((y7_4 - (1 : Int32)) &&& 31)))), (3, .int (y7_4 - (1 : Int32))), (0, .ref a_this), (1, .int p1)]) hx hb dX9_swingDoor_117 hl (k := 4) rfl rfl (by decide) rfl (fun ls hl => ?_)
                  refine lv_goto (tgt := 7) hx hb dX9_swingDoor_120 (by decide) ?_
                  exact ih7 (y7_2 ||| ((1 : Int32) <<< ((y7_4 - (1 : Int32)) &&& 31))) (y7_4 - (1 : Int32)) (y7_4 + (1 : Int32)) _ h _ (lv_sub hl [3, 4, 1, 2, 0] rfl) k7_0
                · have h := im c15 h
                  refine lv_iload_n hx hb dX9_swingDoor_110 rfl (lv_at hl 0 rfl) ?_
                  refine lv_iconst (v := (1 : Int32)) hx hb dX9_swingDoor_111 rfl ?_
                  refine lv_iload hx hb dX9_swingDoor_112 (lv_at hl 4 rfl) ?_
                  refine lv_ishl hx hb dX9_swingDoor_114 ?_
                  refine lv_ior hx hb dX9_swingDoor_115 ?_
                  refine lv_istore_n (lv' := [(2, .int ((y7_2 ||| ((1 : Int32) <<< ((y7_4 - (1 : Int32)) &&& 31))) ||| ((1 : Int32) <<< (y7_4 &&& 31)))), (3, .int (y7_4 - (1 : Int32))), (0, .ref a_this), (1, .int p1), (4, .int y7_4)]) hx hb dX9_swingDoor_116 rfl hl (by decide) rfl (fun ls hl => ?_)
                  refine lv_iinc (v := (y7_4 + (1 : Int32))) (lv' := [(4, .int (y7_4 + (1 : Int32))), (2, .int ((y7_2 ||| ((1 : Int32) <<< ((y7_4 - (1 : Int32)) &&& 31))) ||| ((1 : Int32) <<< (y7_4 &&& 31)))), (3, .int (y7_4 - (1 : Int32))), (0, .ref a_this), (1, .int p1)]) hx hb dX9_swingDoor_117 hl (k := 4) rfl rfl (by decide) rfl (fun ls hl => ?_)
                  refine lv_goto (tgt := 7) hx hb dX9_swingDoor_120 (by decide) ?_
                  exact ih7 ((y7_2 ||| ((1 : Int32) <<< ((y7_4 - (1 : Int32)) &&& 31))) ||| ((1 : Int32) <<< (y7_4 &&& 31))) (y7_4 - (1 : Int32)) (y7_4 + (1 : Int32)) _ h _ (lv_sub hl [3, 4, 1, 2, 0] rfl) k7_0
          · have h := im c6 h
            refine lv_iload hx hb dX9_swingDoor_46 (lv_at hl 4 rfl) ?_
            refine lv_istore_n (lv' := [(3, .int y7_4), (0, .ref a_this), (1, .int p1), (2, .int y7_2), (4, .int y7_4)]) hx hb dX9_swingDoor_48 rfl hl (by decide) rfl (fun ls hl => ?_)
            refine lv_iload_n hx hb dX9_swingDoor_49 rfl (lv_at hl 3 rfl) ?_
            refine lv_iconst (v := (1 : Int32)) hx hb dX9_swingDoor_50 rfl ?_
            refine lv_iload hx hb dX9_swingDoor_51 (lv_at hl 4 rfl) ?_
            refine lv_ishl hx hb dX9_swingDoor_53 ?_
            refine lv_ior hx hb dX9_swingDoor_54 ?_
            refine lv_istore_n (lv' := [(2, .int (y7_2 ||| ((1 : Int32) <<< (y7_4 &&& 31)))), (3, .int y7_4), (0, .ref a_this), (1, .int p1), (4, .int y7_4)]) hx hb dX9_swingDoor_55 rfl hl (by decide) rfl (fun ls hl => ?_)
            refine lv_goto (tgt := 117) hx hb dX9_swingDoor_56 (by decide) ?_
            refine lv_iinc (v := (y7_4 + (1 : Int32))) (lv' := [(4, .int (y7_4 + (1 : Int32))), (2, .int (y7_2 ||| ((1 : Int32) <<< (y7_4 &&& 31)))), (3, .int y7_4), (0, .ref a_this), (1, .int p1)]) hx hb dX9_swingDoor_117 hl (k := 4) rfl rfl (by decide) rfl (fun ls hl => ?_)
            refine lv_goto (tgt := 7) hx hb dX9_swingDoor_120 (by decide) ?_
            exact ih7 (y7_2 ||| ((1 : Int32) <<< (y7_4 &&& 31))) y7_4 (y7_4 + (1 : Int32)) _ h _ (lv_sub hl [3, 4, 1, 2, 0] rfl) k7_0
        · have h := ip c4 h
          refine lv_goto (tgt := 117) hx hb dX9_swingDoor_31 (by decide) ?_
          refine lv_iinc (v := (y7_4 + (1 : Int32))) (lv' := [(4, .int (y7_4 + (1 : Int32))), (0, .ref a_this), (1, .int p1), (2, .int y7_2), (3, .int y7_3)]) hx hb dX9_swingDoor_117 hl (k := 4) rfl rfl (by decide) rfl (fun ls hl => ?_)
          refine lv_goto (tgt := 7) hx hb dX9_swingDoor_120 (by decide) ?_
          exact ih7 y7_2 y7_3 (y7_4 + (1 : Int32)) _ h _ (lv_sub hl [1, 2, 3, 4, 0] rfl) k7_0
  obtain ⟨z1, e1, h⟩ := bd h
  refine LP7 fu (0 : Int32) (0 : Int32) (0 : Int32) z1 e1 _ (lv_sub hl [3, 4, 2, 1, 0] rfl) ?_
  intro ls hl
  refine lv_iload_n hx hb dX9_swingDoor_123 rfl (lv_at hl 0 rfl) ?_
  exact hret _ _ _ dX9_swingDoor_124 (Option.some.inj h) rfl
set_option maxHeartbeats 4000000 in
set_option maxRecDepth 100000 in
theorem c_Thinning_outdate (l : Launch) (D : va_G) (cC cI cZ : ClassId) (a_this : Nat) (a_piece : Nat) (a_sent : Nat) (a_steps : Nat) (a_next : Nat) (a_lines_log : Nat) (a_lines_log_times : Nat) (a_lines_log_values : Nat) (a_lines : Nat) (a_lines_stretch : Nat) (a_lines_needs : Nat) (v_isOutdated : Int32) (v_pieces : Int32) (v_doorMask : Int32) (v_leastMask : Int32) (A_piece : Nat → Int32) (A_sent : Nat → Int32) (A_steps : Nat → Int32) (A_next : Nat → Int32) (v_lines_log_size : Int32) (v_lines_log_promise : Int32) (v_lines_log_delay : Int32) (A_lines_log_times : Nat → Int32) (A_lines_log_values : Nat → Int32) (v_lines_stretches : Int32) (A_lines_stretch : Nat → Int32) (A_lines_needs : Nat → Int32)  (sz : Nat) (z : Int32) (h : f_Thinning_outdate v_isOutdated = some z) : Met l yX9_outdate (.code yX9_outdate cX9_outdate 1 none :: TBL) (RM 0 0) (PcM [.ref a_this] sz D (TY cC cI cZ) (k_Thinning cC cI cZ a_this a_piece a_sent a_steps a_next a_lines_log a_lines_log_times a_lines_log_values a_lines a_lines_stretch a_lines_needs v_isOutdated v_pieces v_doorMask v_leastMask A_piece A_sent A_steps A_next v_lines_log_size v_lines_log_promise v_lines_log_delay A_lines_log_times A_lines_log_values v_lines_stretches A_lines_stretch A_lines_needs)) (QM none D (k_Thinning cC cI cZ a_this a_piece a_sent a_steps a_next a_lines_log a_lines_log_times a_lines_log_values a_lines a_lines_stretch a_lines_needs z v_pieces v_doorMask v_leastMask A_piece A_sent A_steps A_next v_lines_log_size v_lines_log_promise v_lines_log_delay A_lines_log_times A_lines_log_values v_lines_stretches A_lines_stretch A_lines_needs) (va_A (k_Thinning cC cI cZ a_this a_piece a_sent a_steps a_next a_lines_log a_lines_log_times a_lines_log_values a_lines a_lines_stretch a_lines_needs v_isOutdated v_pieces v_doorMask v_leastMask A_piece A_sent A_steps A_next v_lines_log_size v_lines_log_promise v_lines_log_delay A_lines_log_times A_lines_log_values v_lines_stretches A_lines_stretch A_lines_needs) sz)) 0 0 (va_A (k_Thinning cC cI cZ a_this a_piece a_sent a_steps a_next a_lines_log a_lines_log_times a_lines_log_values a_lines a_lines_stretch a_lines_needs v_isOutdated v_pieces v_doorMask v_leastMask A_piece A_sent A_steps A_next v_lines_log_size v_lines_log_promise v_lines_log_delay A_lines_log_times A_lines_log_values v_lines_stretches A_lines_stretch A_lines_needs) sz) := by
  refine muOfV (by decide) (Nat.le_of_ble_eq_true rfl) rfl ?_
  intro p e s m args below meth c Q ls A X hP hD hS hA hl hret
  have X : Ctx p s m args c cX9_outdate 1 RX9 D (TY cC cI cZ) := X
  obtain ⟨hx, hb, hml, hown, htT, hK, hN⟩ := id X
  unfold f_Thinning_outdate at h
  refine lv_aload_n hx hb dX9_outdate_0 rfl (lv_at hl 0 rfl) ?_
  refine lv_iconst (v := (1 : Int32)) hx hb dX9_outdate_1 rfl ?_
  refine va_put (ci := 9) (v := .int (1 : Int32)) (ty := .boolean) (C := RX9) (T := TX9) (N := 10) hx hb htT inlX9 tyX9 tyX9_ok nmX9 hown hK hP hD hS 0 rfl rfl 6 (by decide) (htT _ q_5_15) (fun _ h9 => h9) rfl (tyX9_ok 6 (by decide)) rfl rfl (Nat.le_of_ble_eq_true rfl) dX9_outdate_2 (fun H locs hP hD hS => ?_)
  have hP : va_P D vwCl (k_Thinning cC cI cZ a_this a_piece a_sent a_steps a_next a_lines_log a_lines_log_times a_lines_log_values a_lines a_lines_stretch a_lines_needs (1 : Int32) v_pieces v_doorMask v_leastMask A_piece A_sent A_steps A_next v_lines_log_size v_lines_log_promise v_lines_log_delay A_lines_log_times A_lines_log_values v_lines_stretches A_lines_stretch A_lines_needs) H := hP
  have hD : va_D A (k_Thinning cC cI cZ a_this a_piece a_sent a_steps a_next a_lines_log a_lines_log_times a_lines_log_values a_lines a_lines_stretch a_lines_needs (1 : Int32) v_pieces v_doorMask v_leastMask A_piece A_sent A_steps A_next v_lines_log_size v_lines_log_promise v_lines_log_delay A_lines_log_times A_lines_log_values v_lines_stretches A_lines_stretch A_lines_needs) := hD
  obtain rfl := Option.some.inj h
  exact hret _ _ _ _ hP hS dX9_outdate_5
set_option maxHeartbeats 4000000 in
set_option maxRecDepth 100000 in
theorem c_Thinning_fitsStrip (l : Launch) (D : va_G) (cC cI cZ : ClassId) (a_this : Nat) (a_piece : Nat) (a_sent : Nat) (a_steps : Nat) (a_next : Nat) (a_lines_log : Nat) (a_lines_log_times : Nat) (a_lines_log_values : Nat) (a_lines : Nat) (a_lines_stretch : Nat) (a_lines_needs : Nat) (v_isOutdated : Int32) (v_pieces : Int32) (v_doorMask : Int32) (v_leastMask : Int32) (A_piece : Nat → Int32) (A_sent : Nat → Int32) (A_steps : Nat → Int32) (A_next : Nat → Int32) (v_lines_log_size : Int32) (v_lines_log_promise : Int32) (v_lines_log_delay : Int32) (A_lines_log_times : Nat → Int32) (A_lines_log_values : Nat → Int32) (v_lines_stretches : Int32) (A_lines_stretch : Nat → Int32) (A_lines_needs : Nat → Int32) (p1 : Int32) (p2 : Int32) (r : Int32) (h : f_Thinning_fitsStrip v_lines_log_promise A_lines_needs p1 p2 = some r) : Met l yX9_fitsStrip (.code yX9_fitsStrip cX9_fitsStrip 4 (some .boolean) :: TBL) (RM 1 23) (PcR [.ref a_this, .int p1, .int p2] D (TY cC cI cZ) (k_Thinning cC cI cZ a_this a_piece a_sent a_steps a_next a_lines_log a_lines_log_times a_lines_log_values a_lines a_lines_stretch a_lines_needs v_isOutdated v_pieces v_doorMask v_leastMask A_piece A_sent A_steps A_next v_lines_log_size v_lines_log_promise v_lines_log_delay A_lines_log_times A_lines_log_values v_lines_stretches A_lines_stretch A_lines_needs)) (vp_Si (PO .boolean r)) 0 0 (fun _ => False) := by
  refine roOf (by decide) (Nat.le_of_ble_eq_true rfl) rfl ?_
  intro p e s m args below meth c Q ls X hP hl hret
  have X : Ctx p s m args c cX9_fitsStrip 4 RX9 D (TY cC cI cZ) := X
  obtain ⟨hx, hb, hml, hown, htT, hK, hN⟩ := id X
  unfold f_Thinning_fitsStrip at h
  refine lv_iload_n hx hb dX9_fitsStrip_0 rfl (lv_at hl 1 rfl) ?_
  refine lv_istore_n (lv' := [(3, .int p1), (0, .ref a_this), (1, .int p1), (2, .int p2)]) hx hb dX9_fitsStrip_1 rfl hl (by decide) rfl (fun ls hl => ?_)
  have LP2 : ∀ (n : Nat) (y2_3 : Int32) (zq2 : Nat), f_Thinning_fitsStrip_L2 p2 v_lines_log_promise A_lines_needs n y2_3 = some zq2 → ∀ (ls : Array Slot), lv_has ls 4 [(0, .ref a_this), (2, .int p2), (3, .int y2_3)] → (zq2 = 0 → ∀ (ls : Array Slot), lv_has ls 4 [] → W p l e (RM 1 23) s m args below meth c s.heap [] 0 0 Q (F0 m 28 ls [])) → (zq2 = 1 → ∀ (ls : Array Slot), lv_has ls 4 [] → W p l e (RM 1 23) s m args below meth c s.heap [] 0 0 Q (F0 m 36 ls [])) → W p l e (RM 1 23) s m args below meth c s.heap [] 0 0 Q (F0 m 2 ls []) := by
    clear h
    intro n
    induction n with
    | zero =>
      intro y2_3 zq2 h
      rw [f_Thinning_fitsStrip_L2_0] at h
      cases h
    | succ n ih2 =>
      intro y2_3 zq2 h ls hl k2_0 k2_1
      rw [f_Thinning_fitsStrip_L2_s] at h
      refine lv_iload_n hx hb dX9_fitsStrip_2 rfl (lv_at hl 2 rfl) ?_
      refine lv_iload_n hx hb dX9_fitsStrip_3 rfl (lv_at hl 1 rfl) ?_
      refine lv_icmp_ge (tgt := 36) hx hb dX9_fitsStrip_4 (by decide) (fun c2 => ?_) (fun c2 => ?_)
      · have h := ip c2 h
        obtain rfl := Option.some.inj h
        exact k2_1 rfl _ (lv_sub hl [] rfl)
      · have h := im c2 h
        refine lv_aload_n hx hb dX9_fitsStrip_7 rfl (lv_at hl 0 rfl) ?_
        refine va_get (ci := 9) (v := .ref a_lines) (C := RX9) (T := TX9) (N := 10) hx hb htT inlX9 hown hK hP 0 rfl rfl 1 (by decide) (htT _ q_5_10) (fun _ h9 => h9) rfl dX9_fitsStrip_8 ?_
        refine lv_iload_n hx hb dX9_fitsStrip_11 rfl (lv_at hl 2 rfl) ?_
        refine lv_iload_n hx hb dX9_fitsStrip_12 rfl (lv_at hl 1 rfl) ?_
        obtain ⟨r3, e3, h⟩ := bd h
        refine roV X [.int y2_3, .int p2] [] (c_Lines_needOf l D cC cI cZ a_lines a_lines_stretch a_lines_needs a_lines_log a_lines_log_times a_lines_log_values v_lines_stretches A_lines_stretch A_lines_needs v_lines_log_size v_lines_log_promise v_lines_log_delay A_lines_log_times A_lines_log_values y2_3 p2 r3 e3) gg_X9_87 hd_Lines_needOf ⟨rfl, rfl, Nat.le_of_ble_eq_true rfl, Nat.le_of_ble_eq_true rfl⟩ ⟨Nat.zero_le _, Nat.zero_le _⟩ hP [8, 9, 10, 5, 6, 7] rfl rfl rfl rfl hl.1 rfl (Nat.le_of_ble_eq_true rfl) dX9_fitsStrip_13 (fun n3 => ?_)
        refine lv_iconst (v := (2 : Int32)) hx hb dX9_fitsStrip_16 rfl ?_
        refine lv_aload_n hx hb dX9_fitsStrip_17 rfl (lv_at hl 0 rfl) ?_
        refine va_get (ci := 9) (v := .ref a_lines_log) (C := RX9) (T := TX9) (N := 10) hx hb htT inlX9 hown hK hP 0 rfl rfl 0 (by decide) (htT _ q_5_9) (fun _ h9 => h9) rfl dX9_fitsStrip_18 ?_
        refine va_getN (ci := 3) (v := .int v_lines_log_promise) (C := RX3) (T := TX3) (N := 5) hx hb htT inlX3 hown hK hP 5 rfl rfl 3 (by decide) (va_Nw.use rfl (hN _ qn_11)) (fun _ h9 => h9) rfl dX9_fitsStrip_21 ?_
        refine lv_imul hx hb dX9_fitsStrip_24 ?_
        refine lv_icmp_le (tgt := 30) hx hb dX9_fitsStrip_25 (by decide) (fun c4 => ?_) (fun c4 => ?_)
        · have h := ip c4 h
          refine lv_iinc (v := (y2_3 + (1 : Int32))) (lv' := [(3, .int (y2_3 + (1 : Int32))), (0, .ref a_this), (2, .int p2)]) hx hb dX9_fitsStrip_30 hl (k := 2) rfl rfl (by decide) rfl (fun ls hl => ?_)
          refine lv_goto (tgt := 2) hx hb dX9_fitsStrip_33 (by decide) ?_
          exact ih2 (y2_3 + (1 : Int32)) _ h _ (lv_sub hl [1, 2, 0] rfl) k2_0 k2_1
        · have h := im c4 h
          obtain rfl := Option.some.inj h
          exact k2_0 rfl _ (lv_sub hl [] rfl)
  obtain ⟨z1, e1, h⟩ := bd h
  refine LP2 fu p1 z1 e1 _ (lv_sub hl [1, 3, 0] rfl) ?_ ?_
  · intro t1 ls hl
    have h := ip t1 h
    refine lv_iconst (v := (0 : Int32)) hx hb dX9_fitsStrip_28 rfl ?_
    exact hret _ _ _ dX9_fitsStrip_29 (Option.some.inj h) rfl
  · intro t1 ls hl
    have h := im (by rw [t1]; decide) h
    refine lv_iconst (v := (1 : Int32)) hx hb dX9_fitsStrip_36 rfl ?_
    exact hret _ _ _ dX9_fitsStrip_37 (Option.some.inj h) rfl
set_option maxHeartbeats 4000000 in
set_option maxRecDepth 100000 in
theorem c_Thinning_cutPieces (l : Launch) (D : va_G) (cC cI cZ : ClassId) (a_this : Nat) (a_piece : Nat) (a_sent : Nat) (a_steps : Nat) (a_next : Nat) (a_lines_log : Nat) (a_lines_log_times : Nat) (a_lines_log_values : Nat) (a_lines : Nat) (a_lines_stretch : Nat) (a_lines_needs : Nat) (v_isOutdated : Int32) (v_pieces : Int32) (v_doorMask : Int32) (v_leastMask : Int32) (A_piece : Nat → Int32) (A_sent : Nat → Int32) (A_steps : Nat → Int32) (A_next : Nat → Int32) (v_lines_log_size : Int32) (v_lines_log_promise : Int32) (v_lines_log_delay : Int32) (A_lines_log_times : Nat → Int32) (A_lines_log_values : Nat → Int32) (v_lines_stretches : Int32) (A_lines_stretch : Nat → Int32) (A_lines_needs : Nat → Int32)  (sz : Nat) (z : Int32 × (Nat → Int32)) (h : f_Thinning_cutPieces v_pieces A_piece v_lines_log_size v_lines_log_promise A_lines_log_values A_lines_needs = some z) : Met l yX9_cutPieces (.code yX9_cutPieces cX9_cutPieces 3 none :: TBL) (RM 3 63) (PcM [.ref a_this] sz D (TY cC cI cZ) (k_Thinning cC cI cZ a_this a_piece a_sent a_steps a_next a_lines_log a_lines_log_times a_lines_log_values a_lines a_lines_stretch a_lines_needs v_isOutdated v_pieces v_doorMask v_leastMask A_piece A_sent A_steps A_next v_lines_log_size v_lines_log_promise v_lines_log_delay A_lines_log_times A_lines_log_values v_lines_stretches A_lines_stretch A_lines_needs)) (QM none D (k_Thinning cC cI cZ a_this a_piece a_sent a_steps a_next a_lines_log a_lines_log_times a_lines_log_values a_lines a_lines_stretch a_lines_needs v_isOutdated z.1 v_doorMask v_leastMask z.2 A_sent A_steps A_next v_lines_log_size v_lines_log_promise v_lines_log_delay A_lines_log_times A_lines_log_values v_lines_stretches A_lines_stretch A_lines_needs) (va_A (k_Thinning cC cI cZ a_this a_piece a_sent a_steps a_next a_lines_log a_lines_log_times a_lines_log_values a_lines a_lines_stretch a_lines_needs v_isOutdated v_pieces v_doorMask v_leastMask A_piece A_sent A_steps A_next v_lines_log_size v_lines_log_promise v_lines_log_delay A_lines_log_times A_lines_log_values v_lines_stretches A_lines_stretch A_lines_needs) sz)) 0 0 (va_A (k_Thinning cC cI cZ a_this a_piece a_sent a_steps a_next a_lines_log a_lines_log_times a_lines_log_values a_lines a_lines_stretch a_lines_needs v_isOutdated v_pieces v_doorMask v_leastMask A_piece A_sent A_steps A_next v_lines_log_size v_lines_log_promise v_lines_log_delay A_lines_log_times A_lines_log_values v_lines_stretches A_lines_stretch A_lines_needs) sz) := by
  refine muOfV (by decide) (Nat.le_of_ble_eq_true rfl) rfl ?_
  intro p e s m args below meth c Q ls A X hP hD hS hA hl hret
  have X : Ctx p s m args c cX9_cutPieces 3 RX9 D (TY cC cI cZ) := X
  obtain ⟨hx, hb, hml, hown, htT, hK, hN⟩ := id X
  unfold f_Thinning_cutPieces at h
  refine lv_aload_n hx hb dX9_cutPieces_0 rfl (lv_at hl 0 rfl) ?_
  refine lv_iconst (v := (0 : Int32)) hx hb dX9_cutPieces_1 rfl ?_
  refine va_put (ci := 9) (v := .int (0 : Int32)) (ty := .int) (C := RX9) (T := TX9) (N := 10) hx hb htT inlX9 tyX9 tyX9_ok nmX9 hown hK hP hD hS 0 rfl rfl 7 (by decide) (htT _ q_5_16) (fun _ h9 => h9) rfl (tyX9_ok 7 (by decide)) rfl rfl (Nat.le_of_ble_eq_true rfl) dX9_cutPieces_2 (fun H locs hP hD hS => ?_)
  have hP : va_P D vwCl (k_Thinning cC cI cZ a_this a_piece a_sent a_steps a_next a_lines_log a_lines_log_times a_lines_log_values a_lines a_lines_stretch a_lines_needs v_isOutdated (0 : Int32) v_doorMask v_leastMask A_piece A_sent A_steps A_next v_lines_log_size v_lines_log_promise v_lines_log_delay A_lines_log_times A_lines_log_values v_lines_stretches A_lines_stretch A_lines_needs) H := hP
  have hD : va_D A (k_Thinning cC cI cZ a_this a_piece a_sent a_steps a_next a_lines_log a_lines_log_times a_lines_log_values a_lines a_lines_stretch a_lines_needs v_isOutdated (0 : Int32) v_doorMask v_leastMask A_piece A_sent A_steps A_next v_lines_log_size v_lines_log_promise v_lines_log_delay A_lines_log_times A_lines_log_values v_lines_stretches A_lines_stretch A_lines_needs) := hD
  refine lv_iconst (v := (0 : Int32)) hx hb dX9_cutPieces_5 rfl ?_
  refine lv_istore_n (lv' := [(1, .int (0 : Int32)), (0, .ref a_this)]) hx hb dX9_cutPieces_6 rfl hl (by decide) rfl (fun ls hl => ?_)
  refine lv_iconst (v := (0 : Int32)) hx hb dX9_cutPieces_7 rfl ?_
  refine lv_istore_n (lv' := [(2, .int (0 : Int32)), (1, .int (0 : Int32)), (0, .ref a_this)]) hx hb dX9_cutPieces_8 rfl hl (by decide) rfl (fun ls hl => ?_)
  have LP9 : ∀ (n : Nat) (y9_1 : Int32) (y9_2 : Int32) (v_pieces_9 : Int32) (A_piece_9 : Nat → Int32) (zq9 : Int32 × (Nat → Int32)), f_Thinning_cutPieces_L9 v_lines_log_size v_lines_log_promise A_lines_log_values A_lines_needs n y9_1 y9_2 v_pieces_9 A_piece_9 = some zq9 → ∀ (H : Heap) (locs : List Loc) (ls : Array Slot), va_P D vwCl (k_Thinning cC cI cZ a_this a_piece a_sent a_steps a_next a_lines_log a_lines_log_times a_lines_log_values a_lines a_lines_stretch a_lines_needs v_isOutdated v_pieces_9 v_doorMask v_leastMask A_piece_9 A_sent A_steps A_next v_lines_log_size v_lines_log_promise v_lines_log_delay A_lines_log_times A_lines_log_values v_lines_stretches A_lines_stretch A_lines_needs) H → va_D A (k_Thinning cC cI cZ a_this a_piece a_sent a_steps a_next a_lines_log a_lines_log_times a_lines_log_values a_lines a_lines_stretch a_lines_needs v_isOutdated v_pieces_9 v_doorMask v_leastMask A_piece_9 A_sent A_steps A_next v_lines_log_size v_lines_log_promise v_lines_log_delay A_lines_log_times A_lines_log_values v_lines_stretches A_lines_stretch A_lines_needs) → va_S A s.heap H locs → lv_has ls 3 [(0, .ref a_this), (1, .int y9_1), (2, .int y9_2)] → (∀ (H : Heap) (locs : List Loc) (ls : Array Slot), va_P D vwCl (k_Thinning cC cI cZ a_this a_piece a_sent a_steps a_next a_lines_log a_lines_log_times a_lines_log_values a_lines a_lines_stretch a_lines_needs v_isOutdated zq9.1 v_doorMask v_leastMask zq9.2 A_sent A_steps A_next v_lines_log_size v_lines_log_promise v_lines_log_delay A_lines_log_times A_lines_log_values v_lines_stretches A_lines_stretch A_lines_needs) H → va_D A (k_Thinning cC cI cZ a_this a_piece a_sent a_steps a_next a_lines_log a_lines_log_times a_lines_log_values a_lines a_lines_stretch a_lines_needs v_isOutdated zq9.1 v_doorMask v_leastMask zq9.2 A_sent A_steps A_next v_lines_log_size v_lines_log_promise v_lines_log_delay A_lines_log_times A_lines_log_values v_lines_stretches A_lines_stretch A_lines_needs) → va_S A s.heap H locs → lv_has ls 3 [] → W p l e (RM 3 63) s m args below meth c H locs 0 0 Q (F0 m 103 ls [])) → W p l e (RM 3 63) s m args below meth c H locs 0 0 Q (F0 m 9 ls []) := by
    clear h
    intro n
    induction n with
    | zero =>
      intro y9_1 y9_2 v_pieces_9 A_piece_9 zq9 h
      rw [f_Thinning_cutPieces_L9_0] at h
      cases h
    | succ n ih9 =>
      intro y9_1 y9_2 v_pieces_9 A_piece_9 zq9 h H locs ls hP hD hS hl k9_0
      rw [f_Thinning_cutPieces_L9_s] at h
      refine lv_iload_n hx hb dX9_cutPieces_9 rfl (lv_at hl 2 rfl) ?_
      refine lv_aload_n hx hb dX9_cutPieces_10 rfl (lv_at hl 0 rfl) ?_
      refine va_get (ci := 9) (v := .ref a_lines_log) (C := RX9) (T := TX9) (N := 10) hx hb htT inlX9 hown hK hP 0 rfl rfl 0 (by decide) (htT _ q_5_9) (fun _ h9 => h9) rfl dX9_cutPieces_11 ?_
      refine va_getN (ci := 3) (v := .int v_lines_log_size) (C := RX3) (T := TX3) (N := 5) hx hb htT inlX3 hown hK hP 5 rfl rfl 2 (by decide) (va_Nw.use rfl (hN _ qn_9)) (fun _ h9 => h9) rfl dX9_cutPieces_14 ?_
      refine lv_icmp_ge (tgt := 103) hx hb dX9_cutPieces_17 (by decide) (fun c2 => ?_) (fun c2 => ?_)
      · have h := ip c2 h
        obtain rfl := Option.some.inj h
        exact k9_0 _ _ _ hP hD hS (lv_sub hl [] rfl)
      · have h := im c2 h
        refine lv_iload_n hx hb dX9_cutPieces_20 rfl (lv_at hl 2 rfl) ?_
        refine lv_bipush (v := (14 : Int32)) hx hb dX9_cutPieces_21 rfl ?_
        refine lv_icmp_ge (tgt := 103) hx hb dX9_cutPieces_23 (by decide) (fun c3 => ?_) (fun c3 => ?_)
        · have h := ip c3 h
          obtain rfl := Option.some.inj h
          exact k9_0 _ _ _ hP hD hS (lv_sub hl [] rfl)
        · have h := im c3 h
          refine lv_aload_n hx hb dX9_cutPieces_26 rfl (lv_at hl 0 rfl) ?_
          refine va_get (ci := 9) (v := .ref a_lines_log) (C := RX9) (T := TX9) (N := 10) hx hb htT inlX9 hown hK hP 0 rfl rfl 0 (by decide) (htT _ q_5_9) (fun _ h9 => h9) rfl dX9_cutPieces_27 ?_
          refine lv_iload_n hx hb dX9_cutPieces_30 rfl (lv_at hl 2 rfl) ?_
          obtain ⟨r4, e4, h⟩ := bd h
          refine roV X [.int y9_2] [] (c_Log_isFirst l D cC cI cZ a_lines_log a_lines_log_times a_lines_log_values v_lines_log_size v_lines_log_promise v_lines_log_delay A_lines_log_times A_lines_log_values y9_2 r4 e4) gg_X9_77 hd_Log_isFirst ⟨rfl, rfl, Nat.le_of_ble_eq_true rfl, Nat.le_of_ble_eq_true rfl⟩ ⟨Nat.zero_le _, Nat.zero_le _⟩ hP [5, 6, 7] rfl rfl rfl rfl hl.1 rfl (Nat.le_of_ble_eq_true rfl) dX9_cutPieces_31 (fun n4 => ?_)
          refine lv_if_ne (tgt := 57) hx hb dX9_cutPieces_34 (by decide) (fun c5 => ?_) (fun c5 => ?_)
          · have h := im c5 h
            refine lv_iload_n hx hb dX9_cutPieces_57 rfl (lv_at hl 2 rfl) ?_
            refine lv_istore_n (lv' := [(1, .int y9_2), (0, .ref a_this), (2, .int y9_2)]) hx hb dX9_cutPieces_58 rfl hl (by decide) rfl (fun ls hl => ?_)
            refine lv_aload_n hx hb dX9_cutPieces_59 rfl (lv_at hl 1 rfl) ?_
            refine lv_dup hx hb dX9_cutPieces_60 rfl ?_
            refine va_get (ci := 9) (v := .int v_pieces_9) (C := RX9) (T := TX9) (N := 10) hx hb htT inlX9 hown hK hP 0 rfl rfl 7 (by decide) (htT _ q_5_16) (fun _ h9 => h9) rfl dX9_cutPieces_61 ?_
            refine lv_iconst (v := (1 : Int32)) hx hb dX9_cutPieces_64 rfl ?_
            refine lv_iadd hx hb dX9_cutPieces_65 ?_
            refine va_put (ci := 9) (v := .int (v_pieces_9 + (1 : Int32))) (ty := .int) (C := RX9) (T := TX9) (N := 10) hx hb htT inlX9 tyX9 tyX9_ok nmX9 hown hK hP hD hS 0 rfl rfl 7 (by decide) (htT _ q_5_16) (fun _ h9 => h9) rfl (tyX9_ok 7 (by decide)) rfl rfl (Nat.le_of_ble_eq_true rfl) dX9_cutPieces_66 (fun H locs hP hD hS => ?_)
            have hP : va_P D vwCl (k_Thinning cC cI cZ a_this a_piece a_sent a_steps a_next a_lines_log a_lines_log_times a_lines_log_values a_lines a_lines_stretch a_lines_needs v_isOutdated (v_pieces_9 + (1 : Int32)) v_doorMask v_leastMask A_piece_9 A_sent A_steps A_next v_lines_log_size v_lines_log_promise v_lines_log_delay A_lines_log_times A_lines_log_values v_lines_stretches A_lines_stretch A_lines_needs) H := hP
            have hD : va_D A (k_Thinning cC cI cZ a_this a_piece a_sent a_steps a_next a_lines_log a_lines_log_times a_lines_log_values a_lines a_lines_stretch a_lines_needs v_isOutdated (v_pieces_9 + (1 : Int32)) v_doorMask v_leastMask A_piece_9 A_sent A_steps A_next v_lines_log_size v_lines_log_promise v_lines_log_delay A_lines_log_times A_lines_log_values v_lines_stretches A_lines_stretch A_lines_needs) := hD
            refine lv_aload_n hx hb dX9_cutPieces_69 rfl (lv_at hl 1 rfl) ?_
            refine va_get (ci := 9) (v := .ref a_piece) (C := RX9) (T := TX9) (N := 10) hx hb htT inlX9 hown hK hP 0 rfl rfl 2 (by decide) (htT _ q_5_11) (fun _ h9 => h9) rfl dX9_cutPieces_70 ?_
            refine lv_iload_n hx hb dX9_cutPieces_73 rfl (lv_at hl 2 rfl) ?_
            refine lv_aload_n hx hb dX9_cutPieces_74 rfl (lv_at hl 1 rfl) ?_
            refine va_get (ci := 9) (v := .ref a_lines_log) (C := RX9) (T := TX9) (N := 10) hx hb htT inlX9 hown hK hP 0 rfl rfl 0 (by decide) (htT _ q_5_9) (fun _ h9 => h9) rfl dX9_cutPieces_75 ?_
            refine lv_iload_n hx hb dX9_cutPieces_78 rfl (lv_at hl 2 rfl) ?_
            obtain ⟨r22, e22, h⟩ := bd h
            refine roV X [.int y9_2] [.int y9_2, .ref a_piece] (c_Log_isKnown l D cC cI cZ a_lines_log a_lines_log_times a_lines_log_values v_lines_log_size v_lines_log_promise v_lines_log_delay A_lines_log_times A_lines_log_values y9_2 r22 e22) gg_X9_80 hd_Log_isKnown ⟨rfl, rfl, Nat.le_of_ble_eq_true rfl, Nat.le_of_ble_eq_true rfl⟩ ⟨Nat.zero_le _, Nat.zero_le _⟩ hP [5, 6, 7] rfl rfl rfl rfl hl.1 rfl (Nat.le_of_ble_eq_true rfl) dX9_cutPieces_79 (fun n22 => ?_)
            refine lv_if_eq (tgt := 94) hx hb dX9_cutPieces_82 (by decide) (fun c23 => ?_) (fun c23 => ?_)
            · have h := ip c23 h
              refine lv_bipush (v := (-9 : Int32)) hx hb dX9_cutPieces_94 rfl ?_
              obtain ⟨g24, h⟩ := gd h
              refine va_iast hx hb hK hP hD hS 1 1 rfl rfl (inB_in g24) dX9_cutPieces_96 (fun H locs hP hD hS => ?_)
              have hP : va_P D vwCl (k_Thinning cC cI cZ a_this a_piece a_sent a_steps a_next a_lines_log a_lines_log_times a_lines_log_values a_lines a_lines_stretch a_lines_needs v_isOutdated (v_pieces_9 + (1 : Int32)) v_doorMask v_leastMask (upd A_piece_9 (y9_2).toNatClampNeg (-9 : Int32)) A_sent A_steps A_next v_lines_log_size v_lines_log_promise v_lines_log_delay A_lines_log_times A_lines_log_values v_lines_stretches A_lines_stretch A_lines_needs) H := hP
              have hD : va_D A (k_Thinning cC cI cZ a_this a_piece a_sent a_steps a_next a_lines_log a_lines_log_times a_lines_log_values a_lines a_lines_stretch a_lines_needs v_isOutdated (v_pieces_9 + (1 : Int32)) v_doorMask v_leastMask (upd A_piece_9 (y9_2).toNatClampNeg (-9 : Int32)) A_sent A_steps A_next v_lines_log_size v_lines_log_promise v_lines_log_delay A_lines_log_times A_lines_log_values v_lines_stretches A_lines_stretch A_lines_needs) := hD
              refine lv_iinc (v := (y9_2 + (1 : Int32))) (lv' := [(2, .int (y9_2 + (1 : Int32))), (1, .int y9_2), (0, .ref a_this)]) hx hb dX9_cutPieces_97 hl (k := 2) rfl rfl (by decide) rfl (fun ls hl => ?_)
              refine lv_goto (tgt := 9) hx hb dX9_cutPieces_100 (by decide) ?_
              exact ih9 y9_2 (y9_2 + (1 : Int32)) (v_pieces_9 + (1 : Int32)) (upd A_piece_9 (y9_2).toNatClampNeg (-9 : Int32)) _ h _ _ _ hP hD hS (lv_sub hl [2, 1, 0] rfl) k9_0
            · have h := im c23 h
              refine lv_aload_n hx hb dX9_cutPieces_85 rfl (lv_at hl 1 rfl) ?_
              refine va_get (ci := 9) (v := .int (v_pieces_9 + (1 : Int32))) (C := RX9) (T := TX9) (N := 10) hx hb htT inlX9 hown hK hP 0 rfl rfl 7 (by decide) (htT _ q_5_16) (fun _ h9 => h9) rfl dX9_cutPieces_86 ?_
              refine lv_iconst (v := (1 : Int32)) hx hb dX9_cutPieces_89 rfl ?_
              refine lv_isub hx hb dX9_cutPieces_90 ?_
              refine lv_goto (tgt := 96) hx hb dX9_cutPieces_91 (by decide) ?_
              obtain ⟨g25, h⟩ := gd h
              refine va_iast hx hb hK hP hD hS 1 1 rfl rfl (inB_in g25) dX9_cutPieces_96 (fun H locs hP hD hS => ?_)
              have hP : va_P D vwCl (k_Thinning cC cI cZ a_this a_piece a_sent a_steps a_next a_lines_log a_lines_log_times a_lines_log_values a_lines a_lines_stretch a_lines_needs v_isOutdated (v_pieces_9 + (1 : Int32)) v_doorMask v_leastMask (upd A_piece_9 (y9_2).toNatClampNeg ((v_pieces_9 + (1 : Int32)) - (1 : Int32))) A_sent A_steps A_next v_lines_log_size v_lines_log_promise v_lines_log_delay A_lines_log_times A_lines_log_values v_lines_stretches A_lines_stretch A_lines_needs) H := hP
              have hD : va_D A (k_Thinning cC cI cZ a_this a_piece a_sent a_steps a_next a_lines_log a_lines_log_times a_lines_log_values a_lines a_lines_stretch a_lines_needs v_isOutdated (v_pieces_9 + (1 : Int32)) v_doorMask v_leastMask (upd A_piece_9 (y9_2).toNatClampNeg ((v_pieces_9 + (1 : Int32)) - (1 : Int32))) A_sent A_steps A_next v_lines_log_size v_lines_log_promise v_lines_log_delay A_lines_log_times A_lines_log_values v_lines_stretches A_lines_stretch A_lines_needs) := hD
              refine lv_iinc (v := (y9_2 + (1 : Int32))) (lv' := [(2, .int (y9_2 + (1 : Int32))), (1, .int y9_2), (0, .ref a_this)]) hx hb dX9_cutPieces_97 hl (k := 2) rfl rfl (by decide) rfl (fun ls hl => ?_)
              refine lv_goto (tgt := 9) hx hb dX9_cutPieces_100 (by decide) ?_
              exact ih9 y9_2 (y9_2 + (1 : Int32)) (v_pieces_9 + (1 : Int32)) (upd A_piece_9 (y9_2).toNatClampNeg ((v_pieces_9 + (1 : Int32)) - (1 : Int32))) _ h _ _ _ hP hD hS (lv_sub hl [2, 1, 0] rfl) k9_0
          · have h := ip c5 h
            refine lv_aload_n hx hb dX9_cutPieces_37 rfl (lv_at hl 0 rfl) ?_
            refine va_get (ci := 9) (v := .ref a_lines_log) (C := RX9) (T := TX9) (N := 10) hx hb htT inlX9 hown hK hP 0 rfl rfl 0 (by decide) (htT _ q_5_9) (fun _ h9 => h9) rfl dX9_cutPieces_38 ?_
            refine lv_iload_n hx hb dX9_cutPieces_41 rfl (lv_at hl 2 rfl) ?_
            obtain ⟨r6, e6, h⟩ := bd h
            refine roV X [.int y9_2] [] (c_Log_isKnown l D cC cI cZ a_lines_log a_lines_log_times a_lines_log_values v_lines_log_size v_lines_log_promise v_lines_log_delay A_lines_log_times A_lines_log_values y9_2 r6 e6) gg_X9_80 hd_Log_isKnown ⟨rfl, rfl, Nat.le_of_ble_eq_true rfl, Nat.le_of_ble_eq_true rfl⟩ ⟨Nat.zero_le _, Nat.zero_le _⟩ hP [5, 6, 7] rfl rfl rfl rfl hl.1 rfl (Nat.le_of_ble_eq_true rfl) dX9_cutPieces_42 (fun n6 => ?_)
            refine lv_if_eq (tgt := 69) hx hb dX9_cutPieces_45 (by decide) (fun c7 => ?_) (fun c7 => ?_)
            · have h := ip c7 h
              refine lv_aload_n hx hb dX9_cutPieces_69 rfl (lv_at hl 0 rfl) ?_
              refine va_get (ci := 9) (v := .ref a_piece) (C := RX9) (T := TX9) (N := 10) hx hb htT inlX9 hown hK hP 0 rfl rfl 2 (by decide) (htT _ q_5_11) (fun _ h9 => h9) rfl dX9_cutPieces_70 ?_
              refine lv_iload_n hx hb dX9_cutPieces_73 rfl (lv_at hl 2 rfl) ?_
              refine lv_aload_n hx hb dX9_cutPieces_74 rfl (lv_at hl 0 rfl) ?_
              refine va_get (ci := 9) (v := .ref a_lines_log) (C := RX9) (T := TX9) (N := 10) hx hb htT inlX9 hown hK hP 0 rfl rfl 0 (by decide) (htT _ q_5_9) (fun _ h9 => h9) rfl dX9_cutPieces_75 ?_
              refine lv_iload_n hx hb dX9_cutPieces_78 rfl (lv_at hl 2 rfl) ?_
              obtain ⟨r8, e8, h⟩ := bd h
              refine roV X [.int y9_2] [.int y9_2, .ref a_piece] (c_Log_isKnown l D cC cI cZ a_lines_log a_lines_log_times a_lines_log_values v_lines_log_size v_lines_log_promise v_lines_log_delay A_lines_log_times A_lines_log_values y9_2 r8 e8) gg_X9_80 hd_Log_isKnown ⟨rfl, rfl, Nat.le_of_ble_eq_true rfl, Nat.le_of_ble_eq_true rfl⟩ ⟨Nat.zero_le _, Nat.zero_le _⟩ hP [5, 6, 7] rfl rfl rfl rfl hl.1 rfl (Nat.le_of_ble_eq_true rfl) dX9_cutPieces_79 (fun n8 => ?_)
              refine lv_if_eq (tgt := 94) hx hb dX9_cutPieces_82 (by decide) (fun c9 => ?_) (fun c9 => ?_)
              · have h := ip c9 h
                refine lv_bipush (v := (-9 : Int32)) hx hb dX9_cutPieces_94 rfl ?_
                obtain ⟨g10, h⟩ := gd h
                refine va_iast hx hb hK hP hD hS 1 1 rfl rfl (inB_in g10) dX9_cutPieces_96 (fun H locs hP hD hS => ?_)
                have hP : va_P D vwCl (k_Thinning cC cI cZ a_this a_piece a_sent a_steps a_next a_lines_log a_lines_log_times a_lines_log_values a_lines a_lines_stretch a_lines_needs v_isOutdated v_pieces_9 v_doorMask v_leastMask (upd A_piece_9 (y9_2).toNatClampNeg (-9 : Int32)) A_sent A_steps A_next v_lines_log_size v_lines_log_promise v_lines_log_delay A_lines_log_times A_lines_log_values v_lines_stretches A_lines_stretch A_lines_needs) H := hP
                have hD : va_D A (k_Thinning cC cI cZ a_this a_piece a_sent a_steps a_next a_lines_log a_lines_log_times a_lines_log_values a_lines a_lines_stretch a_lines_needs v_isOutdated v_pieces_9 v_doorMask v_leastMask (upd A_piece_9 (y9_2).toNatClampNeg (-9 : Int32)) A_sent A_steps A_next v_lines_log_size v_lines_log_promise v_lines_log_delay A_lines_log_times A_lines_log_values v_lines_stretches A_lines_stretch A_lines_needs) := hD
                refine lv_iinc (v := (y9_2 + (1 : Int32))) (lv' := [(2, .int (y9_2 + (1 : Int32))), (0, .ref a_this), (1, .int y9_1)]) hx hb dX9_cutPieces_97 hl (k := 2) rfl rfl (by decide) rfl (fun ls hl => ?_)
                refine lv_goto (tgt := 9) hx hb dX9_cutPieces_100 (by decide) ?_
                exact ih9 y9_1 (y9_2 + (1 : Int32)) v_pieces_9 (upd A_piece_9 (y9_2).toNatClampNeg (-9 : Int32)) _ h _ _ _ hP hD hS (lv_sub hl [1, 2, 0] rfl) k9_0
              · have h := im c9 h
                refine lv_aload_n hx hb dX9_cutPieces_85 rfl (lv_at hl 0 rfl) ?_
                refine va_get (ci := 9) (v := .int v_pieces_9) (C := RX9) (T := TX9) (N := 10) hx hb htT inlX9 hown hK hP 0 rfl rfl 7 (by decide) (htT _ q_5_16) (fun _ h9 => h9) rfl dX9_cutPieces_86 ?_
                refine lv_iconst (v := (1 : Int32)) hx hb dX9_cutPieces_89 rfl ?_
                refine lv_isub hx hb dX9_cutPieces_90 ?_
                refine lv_goto (tgt := 96) hx hb dX9_cutPieces_91 (by decide) ?_
                obtain ⟨g11, h⟩ := gd h
                refine va_iast hx hb hK hP hD hS 1 1 rfl rfl (inB_in g11) dX9_cutPieces_96 (fun H locs hP hD hS => ?_)
                have hP : va_P D vwCl (k_Thinning cC cI cZ a_this a_piece a_sent a_steps a_next a_lines_log a_lines_log_times a_lines_log_values a_lines a_lines_stretch a_lines_needs v_isOutdated v_pieces_9 v_doorMask v_leastMask (upd A_piece_9 (y9_2).toNatClampNeg (v_pieces_9 - (1 : Int32))) A_sent A_steps A_next v_lines_log_size v_lines_log_promise v_lines_log_delay A_lines_log_times A_lines_log_values v_lines_stretches A_lines_stretch A_lines_needs) H := hP
                have hD : va_D A (k_Thinning cC cI cZ a_this a_piece a_sent a_steps a_next a_lines_log a_lines_log_times a_lines_log_values a_lines a_lines_stretch a_lines_needs v_isOutdated v_pieces_9 v_doorMask v_leastMask (upd A_piece_9 (y9_2).toNatClampNeg (v_pieces_9 - (1 : Int32))) A_sent A_steps A_next v_lines_log_size v_lines_log_promise v_lines_log_delay A_lines_log_times A_lines_log_values v_lines_stretches A_lines_stretch A_lines_needs) := hD
                refine lv_iinc (v := (y9_2 + (1 : Int32))) (lv' := [(2, .int (y9_2 + (1 : Int32))), (0, .ref a_this), (1, .int y9_1)]) hx hb dX9_cutPieces_97 hl (k := 2) rfl rfl (by decide) rfl (fun ls hl => ?_)
                refine lv_goto (tgt := 9) hx hb dX9_cutPieces_100 (by decide) ?_
                exact ih9 y9_1 (y9_2 + (1 : Int32)) v_pieces_9 (upd A_piece_9 (y9_2).toNatClampNeg (v_pieces_9 - (1 : Int32))) _ h _ _ _ hP hD hS (lv_sub hl [1, 2, 0] rfl) k9_0
            · have h := im c7 h
              refine lv_aload_n hx hb dX9_cutPieces_48 rfl (lv_at hl 0 rfl) ?_
              refine lv_iload_n hx hb dX9_cutPieces_49 rfl (lv_at hl 1 rfl) ?_
              refine lv_iload_n hx hb dX9_cutPieces_50 rfl (lv_at hl 2 rfl) ?_
              obtain ⟨r12, e12, h⟩ := bd h
              refine roV X [.int y9_1, .int y9_2] [] (c_Thinning_fitsStrip l D cC cI cZ a_this a_piece a_sent a_steps a_next a_lines_log a_lines_log_times a_lines_log_values a_lines a_lines_stretch a_lines_needs v_isOutdated v_pieces_9 v_doorMask v_leastMask A_piece_9 A_sent A_steps A_next v_lines_log_size v_lines_log_promise v_lines_log_delay A_lines_log_times A_lines_log_values v_lines_stretches A_lines_stretch A_lines_needs y9_1 y9_2 r12 e12) gg_X9_83 hd_Thinning_fitsStrip ⟨rfl, rfl, Nat.le_of_ble_eq_true rfl, Nat.le_of_ble_eq_true rfl⟩ ⟨Nat.zero_le _, Nat.zero_le _⟩ hP [0, 1, 2, 3, 4, 5, 6, 7, 8, 9, 10] rfl rfl rfl rfl hl.1 rfl (Nat.le_of_ble_eq_true rfl) dX9_cutPieces_51 (fun n12 => ?_)
              refine lv_if_ne (tgt := 69) hx hb dX9_cutPieces_54 (by decide) (fun c13 => ?_) (fun c13 => ?_)
              · have h := im c13 h
                refine lv_aload_n hx hb dX9_cutPieces_69 rfl (lv_at hl 0 rfl) ?_
                refine va_get (ci := 9) (v := .ref a_piece) (C := RX9) (T := TX9) (N := 10) hx hb htT inlX9 hown hK hP 0 rfl rfl 2 (by decide) (htT _ q_5_11) (fun _ h9 => h9) rfl dX9_cutPieces_70 ?_
                refine lv_iload_n hx hb dX9_cutPieces_73 rfl (lv_at hl 2 rfl) ?_
                refine lv_aload_n hx hb dX9_cutPieces_74 rfl (lv_at hl 0 rfl) ?_
                refine va_get (ci := 9) (v := .ref a_lines_log) (C := RX9) (T := TX9) (N := 10) hx hb htT inlX9 hown hK hP 0 rfl rfl 0 (by decide) (htT _ q_5_9) (fun _ h9 => h9) rfl dX9_cutPieces_75 ?_
                refine lv_iload_n hx hb dX9_cutPieces_78 rfl (lv_at hl 2 rfl) ?_
                obtain ⟨r18, e18, h⟩ := bd h
                refine roV X [.int y9_2] [.int y9_2, .ref a_piece] (c_Log_isKnown l D cC cI cZ a_lines_log a_lines_log_times a_lines_log_values v_lines_log_size v_lines_log_promise v_lines_log_delay A_lines_log_times A_lines_log_values y9_2 r18 e18) gg_X9_80 hd_Log_isKnown ⟨rfl, rfl, Nat.le_of_ble_eq_true rfl, Nat.le_of_ble_eq_true rfl⟩ ⟨Nat.zero_le _, Nat.zero_le _⟩ hP [5, 6, 7] rfl rfl rfl rfl hl.1 rfl (Nat.le_of_ble_eq_true rfl) dX9_cutPieces_79 (fun n18 => ?_)
                refine lv_if_eq (tgt := 94) hx hb dX9_cutPieces_82 (by decide) (fun c19 => ?_) (fun c19 => ?_)
                · have h := ip c19 h
                  refine lv_bipush (v := (-9 : Int32)) hx hb dX9_cutPieces_94 rfl ?_
                  obtain ⟨g20, h⟩ := gd h
                  refine va_iast hx hb hK hP hD hS 1 1 rfl rfl (inB_in g20) dX9_cutPieces_96 (fun H locs hP hD hS => ?_)
                  have hP : va_P D vwCl (k_Thinning cC cI cZ a_this a_piece a_sent a_steps a_next a_lines_log a_lines_log_times a_lines_log_values a_lines a_lines_stretch a_lines_needs v_isOutdated v_pieces_9 v_doorMask v_leastMask (upd A_piece_9 (y9_2).toNatClampNeg (-9 : Int32)) A_sent A_steps A_next v_lines_log_size v_lines_log_promise v_lines_log_delay A_lines_log_times A_lines_log_values v_lines_stretches A_lines_stretch A_lines_needs) H := hP
                  have hD : va_D A (k_Thinning cC cI cZ a_this a_piece a_sent a_steps a_next a_lines_log a_lines_log_times a_lines_log_values a_lines a_lines_stretch a_lines_needs v_isOutdated v_pieces_9 v_doorMask v_leastMask (upd A_piece_9 (y9_2).toNatClampNeg (-9 : Int32)) A_sent A_steps A_next v_lines_log_size v_lines_log_promise v_lines_log_delay A_lines_log_times A_lines_log_values v_lines_stretches A_lines_stretch A_lines_needs) := hD
                  refine lv_iinc (v := (y9_2 + (1 : Int32))) (lv' := [(2, .int (y9_2 + (1 : Int32))), (0, .ref a_this), (1, .int y9_1)]) hx hb dX9_cutPieces_97 hl (k := 2) rfl rfl (by decide) rfl (fun ls hl => ?_)
                  refine lv_goto (tgt := 9) hx hb dX9_cutPieces_100 (by decide) ?_
                  exact ih9 y9_1 (y9_2 + (1 : Int32)) v_pieces_9 (upd A_piece_9 (y9_2).toNatClampNeg (-9 : Int32)) _ h _ _ _ hP hD hS (lv_sub hl [1, 2, 0] rfl) k9_0
                · have h := im c19 h
                  refine lv_aload_n hx hb dX9_cutPieces_85 rfl (lv_at hl 0 rfl) ?_
                  refine va_get (ci := 9) (v := .int v_pieces_9) (C := RX9) (T := TX9) (N := 10) hx hb htT inlX9 hown hK hP 0 rfl rfl 7 (by decide) (htT _ q_5_16) (fun _ h9 => h9) rfl dX9_cutPieces_86 ?_
                  refine lv_iconst (v := (1 : Int32)) hx hb dX9_cutPieces_89 rfl ?_
                  refine lv_isub hx hb dX9_cutPieces_90 ?_
                  refine lv_goto (tgt := 96) hx hb dX9_cutPieces_91 (by decide) ?_
                  obtain ⟨g21, h⟩ := gd h
                  refine va_iast hx hb hK hP hD hS 1 1 rfl rfl (inB_in g21) dX9_cutPieces_96 (fun H locs hP hD hS => ?_)
                  have hP : va_P D vwCl (k_Thinning cC cI cZ a_this a_piece a_sent a_steps a_next a_lines_log a_lines_log_times a_lines_log_values a_lines a_lines_stretch a_lines_needs v_isOutdated v_pieces_9 v_doorMask v_leastMask (upd A_piece_9 (y9_2).toNatClampNeg (v_pieces_9 - (1 : Int32))) A_sent A_steps A_next v_lines_log_size v_lines_log_promise v_lines_log_delay A_lines_log_times A_lines_log_values v_lines_stretches A_lines_stretch A_lines_needs) H := hP
                  have hD : va_D A (k_Thinning cC cI cZ a_this a_piece a_sent a_steps a_next a_lines_log a_lines_log_times a_lines_log_values a_lines a_lines_stretch a_lines_needs v_isOutdated v_pieces_9 v_doorMask v_leastMask (upd A_piece_9 (y9_2).toNatClampNeg (v_pieces_9 - (1 : Int32))) A_sent A_steps A_next v_lines_log_size v_lines_log_promise v_lines_log_delay A_lines_log_times A_lines_log_values v_lines_stretches A_lines_stretch A_lines_needs) := hD
                  refine lv_iinc (v := (y9_2 + (1 : Int32))) (lv' := [(2, .int (y9_2 + (1 : Int32))), (0, .ref a_this), (1, .int y9_1)]) hx hb dX9_cutPieces_97 hl (k := 2) rfl rfl (by decide) rfl (fun ls hl => ?_)
                  refine lv_goto (tgt := 9) hx hb dX9_cutPieces_100 (by decide) ?_
                  exact ih9 y9_1 (y9_2 + (1 : Int32)) v_pieces_9 (upd A_piece_9 (y9_2).toNatClampNeg (v_pieces_9 - (1 : Int32))) _ h _ _ _ hP hD hS (lv_sub hl [1, 2, 0] rfl) k9_0
              · have h := ip c13 h
                refine lv_iload_n hx hb dX9_cutPieces_57 rfl (lv_at hl 2 rfl) ?_
                refine lv_istore_n (lv' := [(1, .int y9_2), (0, .ref a_this), (2, .int y9_2)]) hx hb dX9_cutPieces_58 rfl hl (by decide) rfl (fun ls hl => ?_)
                refine lv_aload_n hx hb dX9_cutPieces_59 rfl (lv_at hl 1 rfl) ?_
                refine lv_dup hx hb dX9_cutPieces_60 rfl ?_
                refine va_get (ci := 9) (v := .int v_pieces_9) (C := RX9) (T := TX9) (N := 10) hx hb htT inlX9 hown hK hP 0 rfl rfl 7 (by decide) (htT _ q_5_16) (fun _ h9 => h9) rfl dX9_cutPieces_61 ?_
                refine lv_iconst (v := (1 : Int32)) hx hb dX9_cutPieces_64 rfl ?_
                refine lv_iadd hx hb dX9_cutPieces_65 ?_
                refine va_put (ci := 9) (v := .int (v_pieces_9 + (1 : Int32))) (ty := .int) (C := RX9) (T := TX9) (N := 10) hx hb htT inlX9 tyX9 tyX9_ok nmX9 hown hK hP hD hS 0 rfl rfl 7 (by decide) (htT _ q_5_16) (fun _ h9 => h9) rfl (tyX9_ok 7 (by decide)) rfl rfl (Nat.le_of_ble_eq_true rfl) dX9_cutPieces_66 (fun H locs hP hD hS => ?_)
                have hP : va_P D vwCl (k_Thinning cC cI cZ a_this a_piece a_sent a_steps a_next a_lines_log a_lines_log_times a_lines_log_values a_lines a_lines_stretch a_lines_needs v_isOutdated (v_pieces_9 + (1 : Int32)) v_doorMask v_leastMask A_piece_9 A_sent A_steps A_next v_lines_log_size v_lines_log_promise v_lines_log_delay A_lines_log_times A_lines_log_values v_lines_stretches A_lines_stretch A_lines_needs) H := hP
                have hD : va_D A (k_Thinning cC cI cZ a_this a_piece a_sent a_steps a_next a_lines_log a_lines_log_times a_lines_log_values a_lines a_lines_stretch a_lines_needs v_isOutdated (v_pieces_9 + (1 : Int32)) v_doorMask v_leastMask A_piece_9 A_sent A_steps A_next v_lines_log_size v_lines_log_promise v_lines_log_delay A_lines_log_times A_lines_log_values v_lines_stretches A_lines_stretch A_lines_needs) := hD
                refine lv_aload_n hx hb dX9_cutPieces_69 rfl (lv_at hl 1 rfl) ?_
                refine va_get (ci := 9) (v := .ref a_piece) (C := RX9) (T := TX9) (N := 10) hx hb htT inlX9 hown hK hP 0 rfl rfl 2 (by decide) (htT _ q_5_11) (fun _ h9 => h9) rfl dX9_cutPieces_70 ?_
                refine lv_iload_n hx hb dX9_cutPieces_73 rfl (lv_at hl 2 rfl) ?_
                refine lv_aload_n hx hb dX9_cutPieces_74 rfl (lv_at hl 1 rfl) ?_
                refine va_get (ci := 9) (v := .ref a_lines_log) (C := RX9) (T := TX9) (N := 10) hx hb htT inlX9 hown hK hP 0 rfl rfl 0 (by decide) (htT _ q_5_9) (fun _ h9 => h9) rfl dX9_cutPieces_75 ?_
                refine lv_iload_n hx hb dX9_cutPieces_78 rfl (lv_at hl 2 rfl) ?_
                obtain ⟨r14, e14, h⟩ := bd h
                refine roV X [.int y9_2] [.int y9_2, .ref a_piece] (c_Log_isKnown l D cC cI cZ a_lines_log a_lines_log_times a_lines_log_values v_lines_log_size v_lines_log_promise v_lines_log_delay A_lines_log_times A_lines_log_values y9_2 r14 e14) gg_X9_80 hd_Log_isKnown ⟨rfl, rfl, Nat.le_of_ble_eq_true rfl, Nat.le_of_ble_eq_true rfl⟩ ⟨Nat.zero_le _, Nat.zero_le _⟩ hP [5, 6, 7] rfl rfl rfl rfl hl.1 rfl (Nat.le_of_ble_eq_true rfl) dX9_cutPieces_79 (fun n14 => ?_)
                refine lv_if_eq (tgt := 94) hx hb dX9_cutPieces_82 (by decide) (fun c15 => ?_) (fun c15 => ?_)
                · have h := ip c15 h
                  refine lv_bipush (v := (-9 : Int32)) hx hb dX9_cutPieces_94 rfl ?_
                  obtain ⟨g16, h⟩ := gd h
                  refine va_iast hx hb hK hP hD hS 1 1 rfl rfl (inB_in g16) dX9_cutPieces_96 (fun H locs hP hD hS => ?_)
                  have hP : va_P D vwCl (k_Thinning cC cI cZ a_this a_piece a_sent a_steps a_next a_lines_log a_lines_log_times a_lines_log_values a_lines a_lines_stretch a_lines_needs v_isOutdated (v_pieces_9 + (1 : Int32)) v_doorMask v_leastMask (upd A_piece_9 (y9_2).toNatClampNeg (-9 : Int32)) A_sent A_steps A_next v_lines_log_size v_lines_log_promise v_lines_log_delay A_lines_log_times A_lines_log_values v_lines_stretches A_lines_stretch A_lines_needs) H := hP
                  have hD : va_D A (k_Thinning cC cI cZ a_this a_piece a_sent a_steps a_next a_lines_log a_lines_log_times a_lines_log_values a_lines a_lines_stretch a_lines_needs v_isOutdated (v_pieces_9 + (1 : Int32)) v_doorMask v_leastMask (upd A_piece_9 (y9_2).toNatClampNeg (-9 : Int32)) A_sent A_steps A_next v_lines_log_size v_lines_log_promise v_lines_log_delay A_lines_log_times A_lines_log_values v_lines_stretches A_lines_stretch A_lines_needs) := hD
                  refine lv_iinc (v := (y9_2 + (1 : Int32))) (lv' := [(2, .int (y9_2 + (1 : Int32))), (1, .int y9_2), (0, .ref a_this)]) hx hb dX9_cutPieces_97 hl (k := 2) rfl rfl (by decide) rfl (fun ls hl => ?_)
                  refine lv_goto (tgt := 9) hx hb dX9_cutPieces_100 (by decide) ?_
                  exact ih9 y9_2 (y9_2 + (1 : Int32)) (v_pieces_9 + (1 : Int32)) (upd A_piece_9 (y9_2).toNatClampNeg (-9 : Int32)) _ h _ _ _ hP hD hS (lv_sub hl [2, 1, 0] rfl) k9_0
                · have h := im c15 h
                  refine lv_aload_n hx hb dX9_cutPieces_85 rfl (lv_at hl 1 rfl) ?_
                  refine va_get (ci := 9) (v := .int (v_pieces_9 + (1 : Int32))) (C := RX9) (T := TX9) (N := 10) hx hb htT inlX9 hown hK hP 0 rfl rfl 7 (by decide) (htT _ q_5_16) (fun _ h9 => h9) rfl dX9_cutPieces_86 ?_
                  refine lv_iconst (v := (1 : Int32)) hx hb dX9_cutPieces_89 rfl ?_
                  refine lv_isub hx hb dX9_cutPieces_90 ?_
                  refine lv_goto (tgt := 96) hx hb dX9_cutPieces_91 (by decide) ?_
                  obtain ⟨g17, h⟩ := gd h
                  refine va_iast hx hb hK hP hD hS 1 1 rfl rfl (inB_in g17) dX9_cutPieces_96 (fun H locs hP hD hS => ?_)
                  have hP : va_P D vwCl (k_Thinning cC cI cZ a_this a_piece a_sent a_steps a_next a_lines_log a_lines_log_times a_lines_log_values a_lines a_lines_stretch a_lines_needs v_isOutdated (v_pieces_9 + (1 : Int32)) v_doorMask v_leastMask (upd A_piece_9 (y9_2).toNatClampNeg ((v_pieces_9 + (1 : Int32)) - (1 : Int32))) A_sent A_steps A_next v_lines_log_size v_lines_log_promise v_lines_log_delay A_lines_log_times A_lines_log_values v_lines_stretches A_lines_stretch A_lines_needs) H := hP
                  have hD : va_D A (k_Thinning cC cI cZ a_this a_piece a_sent a_steps a_next a_lines_log a_lines_log_times a_lines_log_values a_lines a_lines_stretch a_lines_needs v_isOutdated (v_pieces_9 + (1 : Int32)) v_doorMask v_leastMask (upd A_piece_9 (y9_2).toNatClampNeg ((v_pieces_9 + (1 : Int32)) - (1 : Int32))) A_sent A_steps A_next v_lines_log_size v_lines_log_promise v_lines_log_delay A_lines_log_times A_lines_log_values v_lines_stretches A_lines_stretch A_lines_needs) := hD
                  refine lv_iinc (v := (y9_2 + (1 : Int32))) (lv' := [(2, .int (y9_2 + (1 : Int32))), (1, .int y9_2), (0, .ref a_this)]) hx hb dX9_cutPieces_97 hl (k := 2) rfl rfl (by decide) rfl (fun ls hl => ?_)
                  refine lv_goto (tgt := 9) hx hb dX9_cutPieces_100 (by decide) ?_
                  exact ih9 y9_2 (y9_2 + (1 : Int32)) (v_pieces_9 + (1 : Int32)) (upd A_piece_9 (y9_2).toNatClampNeg ((v_pieces_9 + (1 : Int32)) - (1 : Int32))) _ h _ _ _ hP hD hS (lv_sub hl [2, 1, 0] rfl) k9_0
  obtain ⟨z1, e1, h⟩ := bd h
  refine LP9 fu (0 : Int32) (0 : Int32) (0 : Int32) A_piece z1 e1 _ _ _ hP hD hS (lv_sub hl [2, 1, 0] rfl) ?_
  intro H locs ls hP hD hS hl
  obtain rfl := Option.some.inj h
  exact hret _ _ _ _ hP hS dX9_cutPieces_103
set_option maxHeartbeats 4000000 in
set_option maxRecDepth 100000 in
theorem c_Thinning_sendKept (l : Launch) (D : va_G) (cC cI cZ : ClassId) (a_this : Nat) (a_piece : Nat) (a_sent : Nat) (a_steps : Nat) (a_next : Nat) (a_lines_log : Nat) (a_lines_log_times : Nat) (a_lines_log_values : Nat) (a_lines : Nat) (a_lines_stretch : Nat) (a_lines_needs : Nat) (v_isOutdated : Int32) (v_pieces : Int32) (v_doorMask : Int32) (v_leastMask : Int32) (A_piece : Nat → Int32) (A_sent : Nat → Int32) (A_steps : Nat → Int32) (A_next : Nat → Int32) (v_lines_log_size : Int32) (v_lines_log_promise : Int32) (v_lines_log_delay : Int32) (A_lines_log_times : Nat → Int32) (A_lines_log_values : Nat → Int32) (v_lines_stretches : Int32) (A_lines_stretch : Nat → Int32) (A_lines_needs : Nat → Int32)  (sz : Nat) (z : (Nat → Int32)) (h : f_Thinning_sendKept v_doorMask A_sent v_lines_log_size v_lines_log_delay A_lines_log_times A_lines_log_values = some z) : Met l yX9_sendKept (.code yX9_sendKept cX9_sendKept 4 none :: TBL) (RM 3 63) (PcM [.ref a_this] sz D (TY cC cI cZ) (k_Thinning cC cI cZ a_this a_piece a_sent a_steps a_next a_lines_log a_lines_log_times a_lines_log_values a_lines a_lines_stretch a_lines_needs v_isOutdated v_pieces v_doorMask v_leastMask A_piece A_sent A_steps A_next v_lines_log_size v_lines_log_promise v_lines_log_delay A_lines_log_times A_lines_log_values v_lines_stretches A_lines_stretch A_lines_needs)) (QM none D (k_Thinning cC cI cZ a_this a_piece a_sent a_steps a_next a_lines_log a_lines_log_times a_lines_log_values a_lines a_lines_stretch a_lines_needs v_isOutdated v_pieces v_doorMask v_leastMask A_piece z A_steps A_next v_lines_log_size v_lines_log_promise v_lines_log_delay A_lines_log_times A_lines_log_values v_lines_stretches A_lines_stretch A_lines_needs) (va_A (k_Thinning cC cI cZ a_this a_piece a_sent a_steps a_next a_lines_log a_lines_log_times a_lines_log_values a_lines a_lines_stretch a_lines_needs v_isOutdated v_pieces v_doorMask v_leastMask A_piece A_sent A_steps A_next v_lines_log_size v_lines_log_promise v_lines_log_delay A_lines_log_times A_lines_log_values v_lines_stretches A_lines_stretch A_lines_needs) sz)) 0 0 (va_A (k_Thinning cC cI cZ a_this a_piece a_sent a_steps a_next a_lines_log a_lines_log_times a_lines_log_values a_lines a_lines_stretch a_lines_needs v_isOutdated v_pieces v_doorMask v_leastMask A_piece A_sent A_steps A_next v_lines_log_size v_lines_log_promise v_lines_log_delay A_lines_log_times A_lines_log_values v_lines_stretches A_lines_stretch A_lines_needs) sz) := by
  refine muOfV (by decide) (Nat.le_of_ble_eq_true rfl) rfl ?_
  intro p e s m args below meth c Q ls A X hP hD hS hA hl hret
  have X : Ctx p s m args c cX9_sendKept 4 RX9 D (TY cC cI cZ) := X
  obtain ⟨hx, hb, hml, hown, htT, hK, hN⟩ := id X
  unfold f_Thinning_sendKept at h
  refine lv_iconst (v := (0 : Int32)) hx hb dX9_sendKept_0 rfl ?_
  refine lv_istore_n (lv' := [(1, .int (0 : Int32)), (0, .ref a_this)]) hx hb dX9_sendKept_1 rfl hl (by decide) rfl (fun ls hl => ?_)
  refine lv_iconst (v := (0 : Int32)) hx hb dX9_sendKept_2 rfl ?_
  refine lv_istore_n (lv' := [(2, .int (0 : Int32)), (1, .int (0 : Int32)), (0, .ref a_this)]) hx hb dX9_sendKept_3 rfl hl (by decide) rfl (fun ls hl => ?_)
  have LP4 : ∀ (n : Nat) (y4_1 : Int32) (y4_2 : Int32) (A_sent_4 : Nat → Int32) (zq4 : (Nat → Int32)), f_Thinning_sendKept_L4 v_doorMask v_lines_log_size v_lines_log_delay A_lines_log_times A_lines_log_values n y4_1 y4_2 A_sent_4 = some zq4 → ∀ (H : Heap) (locs : List Loc) (ls : Array Slot), va_P D vwCl (k_Thinning cC cI cZ a_this a_piece a_sent a_steps a_next a_lines_log a_lines_log_times a_lines_log_values a_lines a_lines_stretch a_lines_needs v_isOutdated v_pieces v_doorMask v_leastMask A_piece A_sent_4 A_steps A_next v_lines_log_size v_lines_log_promise v_lines_log_delay A_lines_log_times A_lines_log_values v_lines_stretches A_lines_stretch A_lines_needs) H → va_D A (k_Thinning cC cI cZ a_this a_piece a_sent a_steps a_next a_lines_log a_lines_log_times a_lines_log_values a_lines a_lines_stretch a_lines_needs v_isOutdated v_pieces v_doorMask v_leastMask A_piece A_sent_4 A_steps A_next v_lines_log_size v_lines_log_promise v_lines_log_delay A_lines_log_times A_lines_log_values v_lines_stretches A_lines_stretch A_lines_needs) → va_S A s.heap H locs → lv_has ls 4 [(0, .ref a_this), (1, .int y4_1), (2, .int y4_2)] → (∀ (H : Heap) (locs : List Loc) (ls : Array Slot), va_P D vwCl (k_Thinning cC cI cZ a_this a_piece a_sent a_steps a_next a_lines_log a_lines_log_times a_lines_log_values a_lines a_lines_stretch a_lines_needs v_isOutdated v_pieces v_doorMask v_leastMask A_piece zq4 A_steps A_next v_lines_log_size v_lines_log_promise v_lines_log_delay A_lines_log_times A_lines_log_values v_lines_stretches A_lines_stretch A_lines_needs) H → va_D A (k_Thinning cC cI cZ a_this a_piece a_sent a_steps a_next a_lines_log a_lines_log_times a_lines_log_values a_lines a_lines_stretch a_lines_needs v_isOutdated v_pieces v_doorMask v_leastMask A_piece zq4 A_steps A_next v_lines_log_size v_lines_log_promise v_lines_log_delay A_lines_log_times A_lines_log_values v_lines_stretches A_lines_stretch A_lines_needs) → va_S A s.heap H locs → lv_has ls 4 [] → W p l e (RM 3 63) s m args below meth c H locs 0 0 Q (F0 m 116 ls [])) → W p l e (RM 3 63) s m args below meth c H locs 0 0 Q (F0 m 4 ls []) := by
    clear h
    intro n
    induction n with
    | zero =>
      intro y4_1 y4_2 A_sent_4 zq4 h
      rw [f_Thinning_sendKept_L4_0] at h
      cases h
    | succ n ih4 =>
      intro y4_1 y4_2 A_sent_4 zq4 h H locs ls hP hD hS hl k4_0
      rw [f_Thinning_sendKept_L4_s] at h
      refine lv_iload_n hx hb dX9_sendKept_4 rfl (lv_at hl 2 rfl) ?_
      refine lv_aload_n hx hb dX9_sendKept_5 rfl (lv_at hl 0 rfl) ?_
      refine va_get (ci := 9) (v := .ref a_lines_log) (C := RX9) (T := TX9) (N := 10) hx hb htT inlX9 hown hK hP 0 rfl rfl 0 (by decide) (htT _ q_5_9) (fun _ h9 => h9) rfl dX9_sendKept_6 ?_
      refine va_getN (ci := 3) (v := .int v_lines_log_size) (C := RX3) (T := TX3) (N := 5) hx hb htT inlX3 hown hK hP 5 rfl rfl 2 (by decide) (va_Nw.use rfl (hN _ qn_9)) (fun _ h9 => h9) rfl dX9_sendKept_9 ?_
      refine lv_icmp_ge (tgt := 116) hx hb dX9_sendKept_12 (by decide) (fun c2 => ?_) (fun c2 => ?_)
      · have h := ip c2 h
        obtain rfl := Option.some.inj h
        exact k4_0 _ _ _ hP hD hS (lv_sub hl [] rfl)
      · have h := im c2 h
        refine lv_iload_n hx hb dX9_sendKept_15 rfl (lv_at hl 2 rfl) ?_
        refine lv_bipush (v := (14 : Int32)) hx hb dX9_sendKept_16 rfl ?_
        refine lv_icmp_ge (tgt := 116) hx hb dX9_sendKept_18 (by decide) (fun c3 => ?_) (fun c3 => ?_)
        · have h := ip c3 h
          obtain rfl := Option.some.inj h
          exact k4_0 _ _ _ hP hD hS (lv_sub hl [] rfl)
        · have h := im c3 h
          refine lv_aload_n hx hb dX9_sendKept_21 rfl (lv_at hl 0 rfl) ?_
          refine va_get (ci := 9) (v := .int v_doorMask) (C := RX9) (T := TX9) (N := 10) hx hb htT inlX9 hown hK hP 0 rfl rfl 8 (by decide) (htT _ q_5_17) (fun _ h9 => h9) rfl dX9_sendKept_22 ?_
          refine lv_iload_n hx hb dX9_sendKept_25 rfl (lv_at hl 2 rfl) ?_
          refine roSN X [.int v_doorMask, .int y4_2] [] (c_TR_bitAt l D cC cI cZ v_doorMask y4_2 _ rfl) q_20_2 qn_31 q_1_2 q_20_1 hd_TR_bitAt ⟨rfl, rfl, Nat.le_of_ble_eq_true rfl, Nat.le_of_ble_eq_true rfl⟩ ⟨Nat.zero_le _, Nat.zero_le _⟩ hP [] rfl hl.1 rfl (Nat.le_of_ble_eq_true rfl) dX9_sendKept_26 (fun n4 => ?_)
          refine lv_if_ne (tgt := 43) hx hb dX9_sendKept_29 (by decide) (fun c5 => ?_) (fun c5 => ?_)
          · have h := im c5 h
            refine lv_aload_n hx hb dX9_sendKept_43 rfl (lv_at hl 0 rfl) ?_
            refine va_get (ci := 9) (v := .ref a_lines_log) (C := RX9) (T := TX9) (N := 10) hx hb htT inlX9 hown hK hP 0 rfl rfl 0 (by decide) (htT _ q_5_9) (fun _ h9 => h9) rfl dX9_sendKept_44 ?_
            refine lv_iload_n hx hb dX9_sendKept_47 rfl (lv_at hl 2 rfl) ?_
            obtain ⟨r7, e7, h⟩ := bd h
            refine roV X [.int y4_2] [] (c_Log_isFirst l D cC cI cZ a_lines_log a_lines_log_times a_lines_log_values v_lines_log_size v_lines_log_promise v_lines_log_delay A_lines_log_times A_lines_log_values y4_2 r7 e7) gg_X9_77 hd_Log_isFirst ⟨rfl, rfl, Nat.le_of_ble_eq_true rfl, Nat.le_of_ble_eq_true rfl⟩ ⟨Nat.zero_le _, Nat.zero_le _⟩ hP [5, 6, 7] rfl rfl rfl rfl hl.1 rfl (Nat.le_of_ble_eq_true rfl) dX9_sendKept_48 (fun n7 => ?_)
            refine lv_if_ne (tgt := 78) hx hb dX9_sendKept_51 (by decide) (fun c8 => ?_) (fun c8 => ?_)
            · have h := im c8 h
              refine lv_iconst (v := (1 : Int32)) hx hb dX9_sendKept_78 rfl ?_
              refine lv_goto (tgt := 83) hx hb dX9_sendKept_79 (by decide) ?_
              refine lv_istore_n (lv' := [(3, .int (1 : Int32)), (0, .ref a_this), (1, .int y4_1), (2, .int y4_2)]) hx hb dX9_sendKept_83 rfl hl (by decide) rfl (fun ls hl => ?_)
              refine lv_aload_n hx hb dX9_sendKept_84 rfl (lv_at hl 1 rfl) ?_
              refine va_get (ci := 9) (v := .ref a_sent) (C := RX9) (T := TX9) (N := 10) hx hb htT inlX9 hown hK hP 0 rfl rfl 3 (by decide) (htT _ q_5_12) (fun _ h9 => h9) rfl dX9_sendKept_85 ?_
              refine lv_iload_n hx hb dX9_sendKept_88 rfl (lv_at hl 3 rfl) ?_
              refine lv_aload_n hx hb dX9_sendKept_89 rfl (lv_at hl 1 rfl) ?_
              refine va_get (ci := 9) (v := .ref a_lines_log) (C := RX9) (T := TX9) (N := 10) hx hb htT inlX9 hown hK hP 0 rfl rfl 0 (by decide) (htT _ q_5_9) (fun _ h9 => h9) rfl dX9_sendKept_90 ?_
              refine lv_iload_n hx hb dX9_sendKept_93 rfl (lv_at hl 0 rfl) ?_
              refine lv_if_eq (tgt := 101) hx hb dX9_sendKept_94 (by decide) (fun c21 => absurd c21 (by decide)) (fun _ => ?_)
              refine lv_iload_n hx hb dX9_sendKept_97 rfl (lv_at hl 3 rfl) ?_
              refine lv_goto (tgt := 104) hx hb dX9_sendKept_98 (by decide) ?_
              obtain ⟨r22, e22, h⟩ := bd h
              refine roV X [.int y4_2] [.int y4_2, .ref a_sent] (c_Log_timeAt l D cC cI cZ a_lines_log a_lines_log_times a_lines_log_values v_lines_log_size v_lines_log_promise v_lines_log_delay A_lines_log_times A_lines_log_values y4_2 r22 e22) gg_X9_100 hd_Log_timeAt ⟨rfl, rfl, Nat.le_of_ble_eq_true rfl, Nat.le_of_ble_eq_true rfl⟩ ⟨Nat.zero_le _, Nat.zero_le _⟩ hP [5, 6, 7] rfl rfl rfl rfl hl.1 rfl (Nat.le_of_ble_eq_true rfl) dX9_sendKept_104 (fun n22 => ?_)
              obtain ⟨g23, h⟩ := gd h
              refine va_iast hx hb hK hP hD hS 2 1 rfl rfl (inB_in g23) dX9_sendKept_107 (fun H locs hP hD hS => ?_)
              have hP : va_P D vwCl (k_Thinning cC cI cZ a_this a_piece a_sent a_steps a_next a_lines_log a_lines_log_times a_lines_log_values a_lines a_lines_stretch a_lines_needs v_isOutdated v_pieces v_doorMask v_leastMask A_piece (upd A_sent_4 (y4_2).toNatClampNeg r22) A_steps A_next v_lines_log_size v_lines_log_promise v_lines_log_delay A_lines_log_times A_lines_log_values v_lines_stretches A_lines_stretch A_lines_needs) H := hP
              have hD : va_D A (k_Thinning cC cI cZ a_this a_piece a_sent a_steps a_next a_lines_log a_lines_log_times a_lines_log_values a_lines a_lines_stretch a_lines_needs v_isOutdated v_pieces v_doorMask v_leastMask A_piece (upd A_sent_4 (y4_2).toNatClampNeg r22) A_steps A_next v_lines_log_size v_lines_log_promise v_lines_log_delay A_lines_log_times A_lines_log_values v_lines_stretches A_lines_stretch A_lines_needs) := hD
              refine lv_iload_n hx hb dX9_sendKept_108 rfl (lv_at hl 3 rfl) ?_
              refine lv_istore_n (lv' := [(1, .int y4_2), (3, .int (1 : Int32)), (0, .ref a_this), (2, .int y4_2)]) hx hb dX9_sendKept_109 rfl hl (by decide) rfl (fun ls hl => ?_)
              refine lv_iinc (v := (y4_2 + (1 : Int32))) (lv' := [(2, .int (y4_2 + (1 : Int32))), (1, .int y4_2), (3, .int (1 : Int32)), (0, .ref a_this)]) hx hb dX9_sendKept_110 hl (k := 3) rfl rfl (by decide) rfl (fun ls hl => ?_)
              refine lv_goto (tgt := 4) hx hb dX9_sendKept_113 (by decide) ?_
              exact ih4 y4_2 (y4_2 + (1 : Int32)) (upd A_sent_4 (y4_2).toNatClampNeg r22) _ h _ _ _ hP hD hS (lv_sub hl [3, 1, 0] rfl) k4_0
            · have h := ip c8 h
              refine lv_aload_n hx hb dX9_sendKept_54 rfl (lv_at hl 0 rfl) ?_
              refine va_get (ci := 9) (v := .ref a_lines_log) (C := RX9) (T := TX9) (N := 10) hx hb htT inlX9 hown hK hP 0 rfl rfl 0 (by decide) (htT _ q_5_9) (fun _ h9 => h9) rfl dX9_sendKept_55 ?_
              refine lv_iload_n hx hb dX9_sendKept_58 rfl (lv_at hl 2 rfl) ?_
              obtain ⟨r9, e9, h⟩ := bd h
              refine roV X [.int y4_2] [] (c_Log_isLast l D cC cI cZ a_lines_log a_lines_log_times a_lines_log_values v_lines_log_size v_lines_log_promise v_lines_log_delay A_lines_log_times A_lines_log_values y4_2 r9 e9) gg_X9_94 hd_Log_isLast ⟨rfl, rfl, Nat.le_of_ble_eq_true rfl, Nat.le_of_ble_eq_true rfl⟩ ⟨Nat.zero_le _, Nat.zero_le _⟩ hP [5, 6, 7] rfl rfl rfl rfl hl.1 rfl (Nat.le_of_ble_eq_true rfl) dX9_sendKept_59 (fun n9 => ?_)
              refine lv_if_ne (tgt := 78) hx hb dX9_sendKept_62 (by decide) (fun c10 => ?_) (fun c10 => ?_)
              · have h := im c10 h
                refine lv_iconst (v := (1 : Int32)) hx hb dX9_sendKept_78 rfl ?_
                refine lv_goto (tgt := 83) hx hb dX9_sendKept_79 (by decide) ?_
                refine lv_istore_n (lv' := [(3, .int (1 : Int32)), (0, .ref a_this), (1, .int y4_1), (2, .int y4_2)]) hx hb dX9_sendKept_83 rfl hl (by decide) rfl (fun ls hl => ?_)
                refine lv_aload_n hx hb dX9_sendKept_84 rfl (lv_at hl 1 rfl) ?_
                refine va_get (ci := 9) (v := .ref a_sent) (C := RX9) (T := TX9) (N := 10) hx hb htT inlX9 hown hK hP 0 rfl rfl 3 (by decide) (htT _ q_5_12) (fun _ h9 => h9) rfl dX9_sendKept_85 ?_
                refine lv_iload_n hx hb dX9_sendKept_88 rfl (lv_at hl 3 rfl) ?_
                refine lv_aload_n hx hb dX9_sendKept_89 rfl (lv_at hl 1 rfl) ?_
                refine va_get (ci := 9) (v := .ref a_lines_log) (C := RX9) (T := TX9) (N := 10) hx hb htT inlX9 hown hK hP 0 rfl rfl 0 (by decide) (htT _ q_5_9) (fun _ h9 => h9) rfl dX9_sendKept_90 ?_
                refine lv_iload_n hx hb dX9_sendKept_93 rfl (lv_at hl 0 rfl) ?_
                refine lv_if_eq (tgt := 101) hx hb dX9_sendKept_94 (by decide) (fun c18 => absurd c18 (by decide)) (fun _ => ?_)
                refine lv_iload_n hx hb dX9_sendKept_97 rfl (lv_at hl 3 rfl) ?_
                refine lv_goto (tgt := 104) hx hb dX9_sendKept_98 (by decide) ?_
                obtain ⟨r19, e19, h⟩ := bd h
                refine roV X [.int y4_2] [.int y4_2, .ref a_sent] (c_Log_timeAt l D cC cI cZ a_lines_log a_lines_log_times a_lines_log_values v_lines_log_size v_lines_log_promise v_lines_log_delay A_lines_log_times A_lines_log_values y4_2 r19 e19) gg_X9_100 hd_Log_timeAt ⟨rfl, rfl, Nat.le_of_ble_eq_true rfl, Nat.le_of_ble_eq_true rfl⟩ ⟨Nat.zero_le _, Nat.zero_le _⟩ hP [5, 6, 7] rfl rfl rfl rfl hl.1 rfl (Nat.le_of_ble_eq_true rfl) dX9_sendKept_104 (fun n19 => ?_)
                obtain ⟨g20, h⟩ := gd h
                refine va_iast hx hb hK hP hD hS 2 1 rfl rfl (inB_in g20) dX9_sendKept_107 (fun H locs hP hD hS => ?_)
                have hP : va_P D vwCl (k_Thinning cC cI cZ a_this a_piece a_sent a_steps a_next a_lines_log a_lines_log_times a_lines_log_values a_lines a_lines_stretch a_lines_needs v_isOutdated v_pieces v_doorMask v_leastMask A_piece (upd A_sent_4 (y4_2).toNatClampNeg r19) A_steps A_next v_lines_log_size v_lines_log_promise v_lines_log_delay A_lines_log_times A_lines_log_values v_lines_stretches A_lines_stretch A_lines_needs) H := hP
                have hD : va_D A (k_Thinning cC cI cZ a_this a_piece a_sent a_steps a_next a_lines_log a_lines_log_times a_lines_log_values a_lines a_lines_stretch a_lines_needs v_isOutdated v_pieces v_doorMask v_leastMask A_piece (upd A_sent_4 (y4_2).toNatClampNeg r19) A_steps A_next v_lines_log_size v_lines_log_promise v_lines_log_delay A_lines_log_times A_lines_log_values v_lines_stretches A_lines_stretch A_lines_needs) := hD
                refine lv_iload_n hx hb dX9_sendKept_108 rfl (lv_at hl 3 rfl) ?_
                refine lv_istore_n (lv' := [(1, .int y4_2), (3, .int (1 : Int32)), (0, .ref a_this), (2, .int y4_2)]) hx hb dX9_sendKept_109 rfl hl (by decide) rfl (fun ls hl => ?_)
                refine lv_iinc (v := (y4_2 + (1 : Int32))) (lv' := [(2, .int (y4_2 + (1 : Int32))), (1, .int y4_2), (3, .int (1 : Int32)), (0, .ref a_this)]) hx hb dX9_sendKept_110 hl (k := 3) rfl rfl (by decide) rfl (fun ls hl => ?_)
                refine lv_goto (tgt := 4) hx hb dX9_sendKept_113 (by decide) ?_
                exact ih4 y4_2 (y4_2 + (1 : Int32)) (upd A_sent_4 (y4_2).toNatClampNeg r19) _ h _ _ _ hP hD hS (lv_sub hl [3, 1, 0] rfl) k4_0
              · have h := ip c10 h
                refine lv_iload_n hx hb dX9_sendKept_65 rfl (lv_at hl 2 rfl) ?_
                refine lv_iload_n hx hb dX9_sendKept_66 rfl (lv_at hl 1 rfl) ?_
                refine lv_isub hx hb dX9_sendKept_67 ?_
                refine lv_aload_n hx hb dX9_sendKept_68 rfl (lv_at hl 0 rfl) ?_
                refine va_get (ci := 9) (v := .ref a_lines_log) (C := RX9) (T := TX9) (N := 10) hx hb htT inlX9 hown hK hP 0 rfl rfl 0 (by decide) (htT _ q_5_9) (fun _ h9 => h9) rfl dX9_sendKept_69 ?_
                refine va_getN (ci := 3) (v := .int v_lines_log_delay) (C := RX3) (T := TX3) (N := 5) hx hb htT inlX3 hown hK hP 5 rfl rfl 4 (by decide) (va_Nw.use rfl (hN _ qn_17)) (fun _ h9 => h9) rfl dX9_sendKept_72 ?_
                refine lv_icmp_ne (tgt := 82) hx hb dX9_sendKept_75 (by decide) (fun c11 => ?_) (fun c11 => ?_)
                · have h := im c11 h
                  refine lv_iconst (v := (0 : Int32)) hx hb dX9_sendKept_82 rfl ?_
                  refine lv_istore_n (lv' := [(3, .int (0 : Int32)), (0, .ref a_this), (1, .int y4_1), (2, .int y4_2)]) hx hb dX9_sendKept_83 rfl hl (by decide) rfl (fun ls hl => ?_)
                  refine lv_aload_n hx hb dX9_sendKept_84 rfl (lv_at hl 1 rfl) ?_
                  refine va_get (ci := 9) (v := .ref a_sent) (C := RX9) (T := TX9) (N := 10) hx hb htT inlX9 hown hK hP 0 rfl rfl 3 (by decide) (htT _ q_5_12) (fun _ h9 => h9) rfl dX9_sendKept_85 ?_
                  refine lv_iload_n hx hb dX9_sendKept_88 rfl (lv_at hl 3 rfl) ?_
                  refine lv_aload_n hx hb dX9_sendKept_89 rfl (lv_at hl 1 rfl) ?_
                  refine va_get (ci := 9) (v := .ref a_lines_log) (C := RX9) (T := TX9) (N := 10) hx hb htT inlX9 hown hK hP 0 rfl rfl 0 (by decide) (htT _ q_5_9) (fun _ h9 => h9) rfl dX9_sendKept_90 ?_
                  refine lv_iload_n hx hb dX9_sendKept_93 rfl (lv_at hl 0 rfl) ?_
                  refine lv_if_eq (tgt := 101) hx hb dX9_sendKept_94 (by decide) (fun _ => ?_) (fun c15 => absurd (by decide) c15)
                  refine lv_iload_n hx hb dX9_sendKept_101 rfl (lv_at hl 3 rfl) ?_
                  refine lv_iconst (v := (1 : Int32)) hx hb dX9_sendKept_102 rfl ?_
                  refine lv_iadd hx hb dX9_sendKept_103 ?_
                  obtain ⟨r16, e16, h⟩ := bd h
                  refine roV X [.int (y4_2 + (1 : Int32))] [.int y4_2, .ref a_sent] (c_Log_timeAt l D cC cI cZ a_lines_log a_lines_log_times a_lines_log_values v_lines_log_size v_lines_log_promise v_lines_log_delay A_lines_log_times A_lines_log_values (y4_2 + (1 : Int32)) r16 e16) gg_X9_100 hd_Log_timeAt ⟨rfl, rfl, Nat.le_of_ble_eq_true rfl, Nat.le_of_ble_eq_true rfl⟩ ⟨Nat.zero_le _, Nat.zero_le _⟩ hP [5, 6, 7] rfl rfl rfl rfl hl.1 rfl (Nat.le_of_ble_eq_true rfl) dX9_sendKept_104 (fun n16 => ?_)
                  obtain ⟨g17, h⟩ := gd h
                  refine va_iast hx hb hK hP hD hS 2 1 rfl rfl (inB_in g17) dX9_sendKept_107 (fun H locs hP hD hS => ?_)
                  have hP : va_P D vwCl (k_Thinning cC cI cZ a_this a_piece a_sent a_steps a_next a_lines_log a_lines_log_times a_lines_log_values a_lines a_lines_stretch a_lines_needs v_isOutdated v_pieces v_doorMask v_leastMask A_piece (upd A_sent_4 (y4_2).toNatClampNeg r16) A_steps A_next v_lines_log_size v_lines_log_promise v_lines_log_delay A_lines_log_times A_lines_log_values v_lines_stretches A_lines_stretch A_lines_needs) H := hP
                  have hD : va_D A (k_Thinning cC cI cZ a_this a_piece a_sent a_steps a_next a_lines_log a_lines_log_times a_lines_log_values a_lines a_lines_stretch a_lines_needs v_isOutdated v_pieces v_doorMask v_leastMask A_piece (upd A_sent_4 (y4_2).toNatClampNeg r16) A_steps A_next v_lines_log_size v_lines_log_promise v_lines_log_delay A_lines_log_times A_lines_log_values v_lines_stretches A_lines_stretch A_lines_needs) := hD
                  refine lv_iload_n hx hb dX9_sendKept_108 rfl (lv_at hl 3 rfl) ?_
                  refine lv_istore_n (lv' := [(1, .int y4_2), (3, .int (0 : Int32)), (0, .ref a_this), (2, .int y4_2)]) hx hb dX9_sendKept_109 rfl hl (by decide) rfl (fun ls hl => ?_)
                  refine lv_iinc (v := (y4_2 + (1 : Int32))) (lv' := [(2, .int (y4_2 + (1 : Int32))), (1, .int y4_2), (3, .int (0 : Int32)), (0, .ref a_this)]) hx hb dX9_sendKept_110 hl (k := 3) rfl rfl (by decide) rfl (fun ls hl => ?_)
                  refine lv_goto (tgt := 4) hx hb dX9_sendKept_113 (by decide) ?_
                  exact ih4 y4_2 (y4_2 + (1 : Int32)) (upd A_sent_4 (y4_2).toNatClampNeg r16) _ h _ _ _ hP hD hS (lv_sub hl [3, 1, 0] rfl) k4_0
                · have h := ip c11 h
                  refine lv_iconst (v := (1 : Int32)) hx hb dX9_sendKept_78 rfl ?_
                  refine lv_goto (tgt := 83) hx hb dX9_sendKept_79 (by decide) ?_
                  refine lv_istore_n (lv' := [(3, .int (1 : Int32)), (0, .ref a_this), (1, .int y4_1), (2, .int y4_2)]) hx hb dX9_sendKept_83 rfl hl (by decide) rfl (fun ls hl => ?_)
                  refine lv_aload_n hx hb dX9_sendKept_84 rfl (lv_at hl 1 rfl) ?_
                  refine va_get (ci := 9) (v := .ref a_sent) (C := RX9) (T := TX9) (N := 10) hx hb htT inlX9 hown hK hP 0 rfl rfl 3 (by decide) (htT _ q_5_12) (fun _ h9 => h9) rfl dX9_sendKept_85 ?_
                  refine lv_iload_n hx hb dX9_sendKept_88 rfl (lv_at hl 3 rfl) ?_
                  refine lv_aload_n hx hb dX9_sendKept_89 rfl (lv_at hl 1 rfl) ?_
                  refine va_get (ci := 9) (v := .ref a_lines_log) (C := RX9) (T := TX9) (N := 10) hx hb htT inlX9 hown hK hP 0 rfl rfl 0 (by decide) (htT _ q_5_9) (fun _ h9 => h9) rfl dX9_sendKept_90 ?_
                  refine lv_iload_n hx hb dX9_sendKept_93 rfl (lv_at hl 0 rfl) ?_
                  refine lv_if_eq (tgt := 101) hx hb dX9_sendKept_94 (by decide) (fun c12 => absurd c12 (by decide)) (fun _ => ?_)
                  refine lv_iload_n hx hb dX9_sendKept_97 rfl (lv_at hl 3 rfl) ?_
                  refine lv_goto (tgt := 104) hx hb dX9_sendKept_98 (by decide) ?_
                  obtain ⟨r13, e13, h⟩ := bd h
                  refine roV X [.int y4_2] [.int y4_2, .ref a_sent] (c_Log_timeAt l D cC cI cZ a_lines_log a_lines_log_times a_lines_log_values v_lines_log_size v_lines_log_promise v_lines_log_delay A_lines_log_times A_lines_log_values y4_2 r13 e13) gg_X9_100 hd_Log_timeAt ⟨rfl, rfl, Nat.le_of_ble_eq_true rfl, Nat.le_of_ble_eq_true rfl⟩ ⟨Nat.zero_le _, Nat.zero_le _⟩ hP [5, 6, 7] rfl rfl rfl rfl hl.1 rfl (Nat.le_of_ble_eq_true rfl) dX9_sendKept_104 (fun n13 => ?_)
                  obtain ⟨g14, h⟩ := gd h
                  refine va_iast hx hb hK hP hD hS 2 1 rfl rfl (inB_in g14) dX9_sendKept_107 (fun H locs hP hD hS => ?_)
                  have hP : va_P D vwCl (k_Thinning cC cI cZ a_this a_piece a_sent a_steps a_next a_lines_log a_lines_log_times a_lines_log_values a_lines a_lines_stretch a_lines_needs v_isOutdated v_pieces v_doorMask v_leastMask A_piece (upd A_sent_4 (y4_2).toNatClampNeg r13) A_steps A_next v_lines_log_size v_lines_log_promise v_lines_log_delay A_lines_log_times A_lines_log_values v_lines_stretches A_lines_stretch A_lines_needs) H := hP
                  have hD : va_D A (k_Thinning cC cI cZ a_this a_piece a_sent a_steps a_next a_lines_log a_lines_log_times a_lines_log_values a_lines a_lines_stretch a_lines_needs v_isOutdated v_pieces v_doorMask v_leastMask A_piece (upd A_sent_4 (y4_2).toNatClampNeg r13) A_steps A_next v_lines_log_size v_lines_log_promise v_lines_log_delay A_lines_log_times A_lines_log_values v_lines_stretches A_lines_stretch A_lines_needs) := hD
                  refine lv_iload_n hx hb dX9_sendKept_108 rfl (lv_at hl 3 rfl) ?_
                  refine lv_istore_n (lv' := [(1, .int y4_2), (3, .int (1 : Int32)), (0, .ref a_this), (2, .int y4_2)]) hx hb dX9_sendKept_109 rfl hl (by decide) rfl (fun ls hl => ?_)
                  refine lv_iinc (v := (y4_2 + (1 : Int32))) (lv' := [(2, .int (y4_2 + (1 : Int32))), (1, .int y4_2), (3, .int (1 : Int32)), (0, .ref a_this)]) hx hb dX9_sendKept_110 hl (k := 3) rfl rfl (by decide) rfl (fun ls hl => ?_)
                  refine lv_goto (tgt := 4) hx hb dX9_sendKept_113 (by decide) ?_
                  exact ih4 y4_2 (y4_2 + (1 : Int32)) (upd A_sent_4 (y4_2).toNatClampNeg r13) _ h _ _ _ hP hD hS (lv_sub hl [3, 1, 0] rfl) k4_0
          · have h := ip c5 h
            refine lv_aload_n hx hb dX9_sendKept_32 rfl (lv_at hl 0 rfl) ?_
            refine va_get (ci := 9) (v := .ref a_sent) (C := RX9) (T := TX9) (N := 10) hx hb htT inlX9 hown hK hP 0 rfl rfl 3 (by decide) (htT _ q_5_12) (fun _ h9 => h9) rfl dX9_sendKept_33 ?_
            refine lv_iload_n hx hb dX9_sendKept_36 rfl (lv_at hl 2 rfl) ?_
            refine lv_bipush (v := (-9 : Int32)) hx hb dX9_sendKept_37 rfl ?_
            obtain ⟨g6, h⟩ := gd h
            refine va_iast hx hb hK hP hD hS 2 1 rfl rfl (inB_in g6) dX9_sendKept_39 (fun H locs hP hD hS => ?_)
            have hP : va_P D vwCl (k_Thinning cC cI cZ a_this a_piece a_sent a_steps a_next a_lines_log a_lines_log_times a_lines_log_values a_lines a_lines_stretch a_lines_needs v_isOutdated v_pieces v_doorMask v_leastMask A_piece (upd A_sent_4 (y4_2).toNatClampNeg (-9 : Int32)) A_steps A_next v_lines_log_size v_lines_log_promise v_lines_log_delay A_lines_log_times A_lines_log_values v_lines_stretches A_lines_stretch A_lines_needs) H := hP
            have hD : va_D A (k_Thinning cC cI cZ a_this a_piece a_sent a_steps a_next a_lines_log a_lines_log_times a_lines_log_values a_lines a_lines_stretch a_lines_needs v_isOutdated v_pieces v_doorMask v_leastMask A_piece (upd A_sent_4 (y4_2).toNatClampNeg (-9 : Int32)) A_steps A_next v_lines_log_size v_lines_log_promise v_lines_log_delay A_lines_log_times A_lines_log_values v_lines_stretches A_lines_stretch A_lines_needs) := hD
            refine lv_goto (tgt := 110) hx hb dX9_sendKept_40 (by decide) ?_
            refine lv_iinc (v := (y4_2 + (1 : Int32))) (lv' := [(2, .int (y4_2 + (1 : Int32))), (0, .ref a_this), (1, .int y4_1)]) hx hb dX9_sendKept_110 hl (k := 2) rfl rfl (by decide) rfl (fun ls hl => ?_)
            refine lv_goto (tgt := 4) hx hb dX9_sendKept_113 (by decide) ?_
            exact ih4 y4_1 (y4_2 + (1 : Int32)) (upd A_sent_4 (y4_2).toNatClampNeg (-9 : Int32)) _ h _ _ _ hP hD hS (lv_sub hl [1, 2, 0] rfl) k4_0
  obtain ⟨z1, e1, h⟩ := bd h
  refine LP4 fu (0 : Int32) (0 : Int32) A_sent z1 e1 _ _ _ hP hD hS (lv_sub hl [2, 1, 0] rfl) ?_
  intro H locs ls hP hD hS hl
  obtain rfl := Option.some.inj h
  exact hret _ _ _ _ hP hS dX9_sendKept_116
set_option maxHeartbeats 4000000 in
set_option maxRecDepth 100000 in
theorem c_Thinning_chooseNext (l : Launch) (D : va_G) (cC cI cZ : ClassId) (a_this : Nat) (a_piece : Nat) (a_sent : Nat) (a_steps : Nat) (a_next : Nat) (a_lines_log : Nat) (a_lines_log_times : Nat) (a_lines_log_values : Nat) (a_lines : Nat) (a_lines_stretch : Nat) (a_lines_needs : Nat) (v_isOutdated : Int32) (v_pieces : Int32) (v_doorMask : Int32) (v_leastMask : Int32) (A_piece : Nat → Int32) (A_sent : Nat → Int32) (A_steps : Nat → Int32) (A_next : Nat → Int32) (v_lines_log_size : Int32) (v_lines_log_promise : Int32) (v_lines_log_delay : Int32) (A_lines_log_times : Nat → Int32) (A_lines_log_values : Nat → Int32) (v_lines_stretches : Int32) (A_lines_stretch : Nat → Int32) (A_lines_needs : Nat → Int32) (p1 : Int32) (sz : Nat) (z : (Nat → Int32) × (Nat → Int32)) (h : f_Thinning_chooseNext A_steps A_next v_lines_log_size v_lines_log_promise A_lines_log_values A_lines_needs p1 = some z) : Met l yX9_chooseNext (.code yX9_chooseNext cX9_chooseNext 4 none :: TBL) (RM 2 42) (PcM [.ref a_this, .int p1] sz D (TY cC cI cZ) (k_Thinning cC cI cZ a_this a_piece a_sent a_steps a_next a_lines_log a_lines_log_times a_lines_log_values a_lines a_lines_stretch a_lines_needs v_isOutdated v_pieces v_doorMask v_leastMask A_piece A_sent A_steps A_next v_lines_log_size v_lines_log_promise v_lines_log_delay A_lines_log_times A_lines_log_values v_lines_stretches A_lines_stretch A_lines_needs)) (QM none D (k_Thinning cC cI cZ a_this a_piece a_sent a_steps a_next a_lines_log a_lines_log_times a_lines_log_values a_lines a_lines_stretch a_lines_needs v_isOutdated v_pieces v_doorMask v_leastMask A_piece A_sent z.1 z.2 v_lines_log_size v_lines_log_promise v_lines_log_delay A_lines_log_times A_lines_log_values v_lines_stretches A_lines_stretch A_lines_needs) (va_A (k_Thinning cC cI cZ a_this a_piece a_sent a_steps a_next a_lines_log a_lines_log_times a_lines_log_values a_lines a_lines_stretch a_lines_needs v_isOutdated v_pieces v_doorMask v_leastMask A_piece A_sent A_steps A_next v_lines_log_size v_lines_log_promise v_lines_log_delay A_lines_log_times A_lines_log_values v_lines_stretches A_lines_stretch A_lines_needs) sz)) 0 0 (va_A (k_Thinning cC cI cZ a_this a_piece a_sent a_steps a_next a_lines_log a_lines_log_times a_lines_log_values a_lines a_lines_stretch a_lines_needs v_isOutdated v_pieces v_doorMask v_leastMask A_piece A_sent A_steps A_next v_lines_log_size v_lines_log_promise v_lines_log_delay A_lines_log_times A_lines_log_values v_lines_stretches A_lines_stretch A_lines_needs) sz) := by
  refine muOfV (by decide) (Nat.le_of_ble_eq_true rfl) rfl ?_
  intro p e s m args below meth c Q ls A X hP hD hS hA hl hret
  have X : Ctx p s m args c cX9_chooseNext 4 RX9 D (TY cC cI cZ) := X
  obtain ⟨hx, hb, hml, hown, htT, hK, hN⟩ := id X
  unfold f_Thinning_chooseNext at h
  refine lv_aload_n hx hb dX9_chooseNext_0 rfl (lv_at hl 0 rfl) ?_
  refine va_get (ci := 9) (v := .ref a_steps) (C := RX9) (T := TX9) (N := 10) hx hb htT inlX9 hown hK hP 0 rfl rfl 4 (by decide) (htT _ q_5_13) (fun _ h9 => h9) rfl dX9_chooseNext_1 ?_
  refine lv_iload_n hx hb dX9_chooseNext_4 rfl (lv_at hl 1 rfl) ?_
  refine lv_iconst (v := (0 : Int32)) hx hb dX9_chooseNext_5 rfl ?_
  obtain ⟨g1, h⟩ := gd h
  refine va_iast hx hb hK hP hD hS 3 1 rfl rfl (inB_in g1) dX9_chooseNext_6 (fun H locs hP hD hS => ?_)
  have hP : va_P D vwCl (k_Thinning cC cI cZ a_this a_piece a_sent a_steps a_next a_lines_log a_lines_log_times a_lines_log_values a_lines a_lines_stretch a_lines_needs v_isOutdated v_pieces v_doorMask v_leastMask A_piece A_sent (upd A_steps (p1).toNatClampNeg (0 : Int32)) A_next v_lines_log_size v_lines_log_promise v_lines_log_delay A_lines_log_times A_lines_log_values v_lines_stretches A_lines_stretch A_lines_needs) H := hP
  have hD : va_D A (k_Thinning cC cI cZ a_this a_piece a_sent a_steps a_next a_lines_log a_lines_log_times a_lines_log_values a_lines a_lines_stretch a_lines_needs v_isOutdated v_pieces v_doorMask v_leastMask A_piece A_sent (upd A_steps (p1).toNatClampNeg (0 : Int32)) A_next v_lines_log_size v_lines_log_promise v_lines_log_delay A_lines_log_times A_lines_log_values v_lines_stretches A_lines_stretch A_lines_needs) := hD
  refine lv_aload_n hx hb dX9_chooseNext_7 rfl (lv_at hl 0 rfl) ?_
  refine va_get (ci := 9) (v := .ref a_next) (C := RX9) (T := TX9) (N := 10) hx hb htT inlX9 hown hK hP 0 rfl rfl 5 (by decide) (htT _ q_5_14) (fun _ h9 => h9) rfl dX9_chooseNext_8 ?_
  refine lv_iload_n hx hb dX9_chooseNext_11 rfl (lv_at hl 1 rfl) ?_
  refine lv_bipush (v := (-9 : Int32)) hx hb dX9_chooseNext_12 rfl ?_
  obtain ⟨g2, h⟩ := gd h
  refine va_iast hx hb hK hP hD hS 4 1 rfl rfl (inB_in g2) dX9_chooseNext_14 (fun H locs hP hD hS => ?_)
  have hP : va_P D vwCl (k_Thinning cC cI cZ a_this a_piece a_sent a_steps a_next a_lines_log a_lines_log_times a_lines_log_values a_lines a_lines_stretch a_lines_needs v_isOutdated v_pieces v_doorMask v_leastMask A_piece A_sent (upd A_steps (p1).toNatClampNeg (0 : Int32)) (upd A_next (p1).toNatClampNeg (-9 : Int32)) v_lines_log_size v_lines_log_promise v_lines_log_delay A_lines_log_times A_lines_log_values v_lines_stretches A_lines_stretch A_lines_needs) H := hP
  have hD : va_D A (k_Thinning cC cI cZ a_this a_piece a_sent a_steps a_next a_lines_log a_lines_log_times a_lines_log_values a_lines a_lines_stretch a_lines_needs v_isOutdated v_pieces v_doorMask v_leastMask A_piece A_sent (upd A_steps (p1).toNatClampNeg (0 : Int32)) (upd A_next (p1).toNatClampNeg (-9 : Int32)) v_lines_log_size v_lines_log_promise v_lines_log_delay A_lines_log_times A_lines_log_values v_lines_stretches A_lines_stretch A_lines_needs) := hD
  refine lv_aload_n hx hb dX9_chooseNext_15 rfl (lv_at hl 0 rfl) ?_
  refine va_get (ci := 9) (v := .ref a_lines_log) (C := RX9) (T := TX9) (N := 10) hx hb htT inlX9 hown hK hP 0 rfl rfl 0 (by decide) (htT _ q_5_9) (fun _ h9 => h9) rfl dX9_chooseNext_16 ?_
  refine lv_iload_n hx hb dX9_chooseNext_19 rfl (lv_at hl 1 rfl) ?_
  obtain ⟨r3, e3, h⟩ := bd h
  refine roV X [.int p1] [] (c_Log_isKnown l D cC cI cZ a_lines_log a_lines_log_times a_lines_log_values v_lines_log_size v_lines_log_promise v_lines_log_delay A_lines_log_times A_lines_log_values p1 r3 e3) gg_X9_80 hd_Log_isKnown ⟨rfl, rfl, Nat.le_of_ble_eq_true rfl, Nat.le_of_ble_eq_true rfl⟩ ⟨Nat.zero_le _, Nat.zero_le _⟩ hP [5, 6, 7] rfl rfl rfl rfl hl.1 rfl (Nat.le_of_ble_eq_true rfl) dX9_chooseNext_20 (fun n3 => ?_)
  refine lv_if_ne (tgt := 27) hx hb dX9_chooseNext_23 (by decide) (fun c4 => ?_) (fun c4 => ?_)
  · have h := im c4 h
    refine lv_iload_n hx hb dX9_chooseNext_27 rfl (lv_at hl 1 rfl) ?_
    refine lv_iconst (v := (1 : Int32)) hx hb dX9_chooseNext_28 rfl ?_
    refine lv_iadd hx hb dX9_chooseNext_29 ?_
    refine lv_istore_n (lv' := [(2, .int (p1 + (1 : Int32))), (0, .ref a_this), (1, .int p1)]) hx hb dX9_chooseNext_30 rfl hl (by decide) rfl (fun ls hl => ?_)
    have LP31 : ∀ (n : Nat) (y31_2 : Int32) (A_steps_31 : Nat → Int32) (A_next_31 : Nat → Int32) (zq31 : (Nat → Int32) × (Nat → Int32)), f_Thinning_chooseNext_L31 p1 v_lines_log_size v_lines_log_promise A_lines_log_values A_lines_needs n y31_2 A_steps_31 A_next_31 = some zq31 → ∀ (H : Heap) (locs : List Loc) (ls : Array Slot), va_P D vwCl (k_Thinning cC cI cZ a_this a_piece a_sent a_steps a_next a_lines_log a_lines_log_times a_lines_log_values a_lines a_lines_stretch a_lines_needs v_isOutdated v_pieces v_doorMask v_leastMask A_piece A_sent A_steps_31 A_next_31 v_lines_log_size v_lines_log_promise v_lines_log_delay A_lines_log_times A_lines_log_values v_lines_stretches A_lines_stretch A_lines_needs) H → va_D A (k_Thinning cC cI cZ a_this a_piece a_sent a_steps a_next a_lines_log a_lines_log_times a_lines_log_values a_lines a_lines_stretch a_lines_needs v_isOutdated v_pieces v_doorMask v_leastMask A_piece A_sent A_steps_31 A_next_31 v_lines_log_size v_lines_log_promise v_lines_log_delay A_lines_log_times A_lines_log_values v_lines_stretches A_lines_stretch A_lines_needs) → va_S A s.heap H locs → lv_has ls 4 [(0, .ref a_this), (1, .int p1), (2, .int y31_2)] → (∀ (H : Heap) (locs : List Loc) (ls : Array Slot), va_P D vwCl (k_Thinning cC cI cZ a_this a_piece a_sent a_steps a_next a_lines_log a_lines_log_times a_lines_log_values a_lines a_lines_stretch a_lines_needs v_isOutdated v_pieces v_doorMask v_leastMask A_piece A_sent zq31.1 zq31.2 v_lines_log_size v_lines_log_promise v_lines_log_delay A_lines_log_times A_lines_log_values v_lines_stretches A_lines_stretch A_lines_needs) H → va_D A (k_Thinning cC cI cZ a_this a_piece a_sent a_steps a_next a_lines_log a_lines_log_times a_lines_log_values a_lines a_lines_stretch a_lines_needs v_isOutdated v_pieces v_doorMask v_leastMask A_piece A_sent zq31.1 zq31.2 v_lines_log_size v_lines_log_promise v_lines_log_delay A_lines_log_times A_lines_log_values v_lines_stretches A_lines_stretch A_lines_needs) → va_S A s.heap H locs → lv_has ls 4 [] → W p l e (RM 2 42) s m args below meth c H locs 0 0 Q (F0 m 132 ls [])) → W p l e (RM 2 42) s m args below meth c H locs 0 0 Q (F0 m 31 ls []) := by
      clear h
      intro n
      induction n with
      | zero =>
        intro y31_2 A_steps_31 A_next_31 zq31 h
        rw [f_Thinning_chooseNext_L31_0] at h
        cases h
      | succ n ih31 =>
        intro y31_2 A_steps_31 A_next_31 zq31 h H locs ls hP hD hS hl k31_0
        rw [f_Thinning_chooseNext_L31_s] at h
        refine lv_iload_n hx hb dX9_chooseNext_31 rfl (lv_at hl 2 rfl) ?_
        refine lv_bipush (v := (14 : Int32)) hx hb dX9_chooseNext_32 rfl ?_
        refine lv_icmp_ge (tgt := 132) hx hb dX9_chooseNext_34 (by decide) (fun c6 => ?_) (fun c6 => ?_)
        · have h := ip c6 h
          obtain rfl := Option.some.inj h
          exact k31_0 _ _ _ hP hD hS (lv_sub hl [] rfl)
        · have h := im c6 h
          refine lv_aload_n hx hb dX9_chooseNext_37 rfl (lv_at hl 0 rfl) ?_
          refine va_get (ci := 9) (v := .ref a_lines_log) (C := RX9) (T := TX9) (N := 10) hx hb htT inlX9 hown hK hP 0 rfl rfl 0 (by decide) (htT _ q_5_9) (fun _ h9 => h9) rfl dX9_chooseNext_38 ?_
          refine lv_iload_n hx hb dX9_chooseNext_41 rfl (lv_at hl 2 rfl) ?_
          obtain ⟨r7, e7, h⟩ := bd h
          refine roV X [.int y31_2] [] (c_Log_isKnown l D cC cI cZ a_lines_log a_lines_log_times a_lines_log_values v_lines_log_size v_lines_log_promise v_lines_log_delay A_lines_log_times A_lines_log_values y31_2 r7 e7) gg_X9_80 hd_Log_isKnown ⟨rfl, rfl, Nat.le_of_ble_eq_true rfl, Nat.le_of_ble_eq_true rfl⟩ ⟨Nat.zero_le _, Nat.zero_le _⟩ hP [5, 6, 7] rfl rfl rfl rfl hl.1 rfl (Nat.le_of_ble_eq_true rfl) dX9_chooseNext_42 (fun n7 => ?_)
          refine lv_if_eq (tgt := 132) hx hb dX9_chooseNext_45 (by decide) (fun c8 => ?_) (fun c8 => ?_)
          · have h := ip c8 h
            obtain rfl := Option.some.inj h
            exact k31_0 _ _ _ hP hD hS (lv_sub hl [] rfl)
          · have h := im c8 h
            refine lv_aload_n hx hb dX9_chooseNext_48 rfl (lv_at hl 0 rfl) ?_
            refine va_get (ci := 9) (v := .ref a_next) (C := RX9) (T := TX9) (N := 10) hx hb htT inlX9 hown hK hP 0 rfl rfl 5 (by decide) (htT _ q_5_14) (fun _ h9 => h9) rfl dX9_chooseNext_49 ?_
            refine lv_iload_n hx hb dX9_chooseNext_52 rfl (lv_at hl 1 rfl) ?_
            obtain ⟨g9, h⟩ := gd h
            refine va_iald hx hb hK hP 4 1 rfl rfl (inB_in g9) dX9_chooseNext_53 ?_
            refine lv_bipush (v := (-9 : Int32)) hx hb dX9_chooseNext_54 rfl ?_
            refine lv_icmp_eq (tgt := 76) hx hb dX9_chooseNext_56 (by decide) (fun c10 => ?_) (fun c10 => ?_)
            · have h := ip c10 h
              refine lv_iconst (v := (1 : Int32)) hx hb dX9_chooseNext_76 rfl ?_
              refine lv_goto (tgt := 81) hx hb dX9_chooseNext_77 (by decide) ?_
              refine lv_istore_n (lv' := [(3, .int (1 : Int32)), (0, .ref a_this), (1, .int p1), (2, .int y31_2)]) hx hb dX9_chooseNext_81 rfl hl (by decide) rfl (fun ls hl => ?_)
              refine lv_iload_n hx hb dX9_chooseNext_82 rfl (lv_at hl 0 rfl) ?_
              refine lv_if_eq (tgt := 126) hx hb dX9_chooseNext_83 (by decide) (fun c11 => absurd c11 (by decide)) (fun _ => ?_)
              refine lv_aload_n hx hb dX9_chooseNext_86 rfl (lv_at hl 1 rfl) ?_
              refine va_get (ci := 9) (v := .ref a_lines) (C := RX9) (T := TX9) (N := 10) hx hb htT inlX9 hown hK hP 0 rfl rfl 1 (by decide) (htT _ q_5_10) (fun _ h9 => h9) rfl dX9_chooseNext_87 ?_
              refine lv_iload_n hx hb dX9_chooseNext_90 rfl (lv_at hl 2 rfl) ?_
              refine lv_iload_n hx hb dX9_chooseNext_91 rfl (lv_at hl 3 rfl) ?_
              obtain ⟨r12, e12, h⟩ := bd h
              refine roV X [.int p1, .int y31_2] [] (c_Lines_needOf l D cC cI cZ a_lines a_lines_stretch a_lines_needs a_lines_log a_lines_log_times a_lines_log_values v_lines_stretches A_lines_stretch A_lines_needs v_lines_log_size v_lines_log_promise v_lines_log_delay A_lines_log_times A_lines_log_values p1 y31_2 r12 e12) gg_X9_87 hd_Lines_needOf ⟨rfl, rfl, Nat.le_of_ble_eq_true rfl, Nat.le_of_ble_eq_true rfl⟩ ⟨Nat.zero_le _, Nat.zero_le _⟩ hP [8, 9, 10, 5, 6, 7] rfl rfl rfl rfl hl.1 rfl (Nat.le_of_ble_eq_true rfl) dX9_chooseNext_92 (fun n12 => ?_)
              refine lv_aload_n hx hb dX9_chooseNext_95 rfl (lv_at hl 1 rfl) ?_
              refine va_get (ci := 9) (v := .ref a_lines_log) (C := RX9) (T := TX9) (N := 10) hx hb htT inlX9 hown hK hP 0 rfl rfl 0 (by decide) (htT _ q_5_9) (fun _ h9 => h9) rfl dX9_chooseNext_96 ?_
              refine va_getN (ci := 3) (v := .int v_lines_log_promise) (C := RX3) (T := TX3) (N := 5) hx hb htT inlX3 hown hK hP 5 rfl rfl 3 (by decide) (va_Nw.use rfl (hN _ qn_11)) (fun _ h9 => h9) rfl dX9_chooseNext_99 ?_
              refine lv_icmp_gt (tgt := 126) hx hb dX9_chooseNext_102 (by decide) (fun c13 => ?_) (fun c13 => ?_)
              · have h := ip c13 h
                refine lv_iinc (v := (y31_2 + (1 : Int32))) (lv' := [(2, .int (y31_2 + (1 : Int32))), (3, .int (1 : Int32)), (0, .ref a_this), (1, .int p1)]) hx hb dX9_chooseNext_126 hl (k := 3) rfl rfl (by decide) rfl (fun ls hl => ?_)
                refine lv_goto (tgt := 31) hx hb dX9_chooseNext_129 (by decide) ?_
                exact ih31 (y31_2 + (1 : Int32)) A_steps_31 A_next_31 _ h _ _ _ hP hD hS (lv_sub hl [2, 3, 0] rfl) k31_0
              · have h := im c13 h
                refine lv_aload_n hx hb dX9_chooseNext_105 rfl (lv_at hl 1 rfl) ?_
                refine va_get (ci := 9) (v := .ref a_steps) (C := RX9) (T := TX9) (N := 10) hx hb htT inlX9 hown hK hP 0 rfl rfl 4 (by decide) (htT _ q_5_13) (fun _ h9 => h9) rfl dX9_chooseNext_106 ?_
                refine lv_iload_n hx hb dX9_chooseNext_109 rfl (lv_at hl 2 rfl) ?_
                refine lv_aload_n hx hb dX9_chooseNext_110 rfl (lv_at hl 1 rfl) ?_
                refine va_get (ci := 9) (v := .ref a_steps) (C := RX9) (T := TX9) (N := 10) hx hb htT inlX9 hown hK hP 0 rfl rfl 4 (by decide) (htT _ q_5_13) (fun _ h9 => h9) rfl dX9_chooseNext_111 ?_
                refine lv_iload_n hx hb dX9_chooseNext_114 rfl (lv_at hl 3 rfl) ?_
                obtain ⟨g14, h⟩ := gd h
                refine va_iald hx hb hK hP 3 1 rfl rfl (inB_in g14) dX9_chooseNext_115 ?_
                refine lv_iconst (v := (1 : Int32)) hx hb dX9_chooseNext_116 rfl ?_
                refine lv_iadd hx hb dX9_chooseNext_117 ?_
                obtain ⟨g15, h⟩ := gd h
                refine va_iast hx hb hK hP hD hS 3 1 rfl rfl (inB_in g15) dX9_chooseNext_118 (fun H locs hP hD hS => ?_)
                have hP : va_P D vwCl (k_Thinning cC cI cZ a_this a_piece a_sent a_steps a_next a_lines_log a_lines_log_times a_lines_log_values a_lines a_lines_stretch a_lines_needs v_isOutdated v_pieces v_doorMask v_leastMask A_piece A_sent (upd A_steps_31 (p1).toNatClampNeg ((A_steps_31 (y31_2).toNatClampNeg) + (1 : Int32))) A_next_31 v_lines_log_size v_lines_log_promise v_lines_log_delay A_lines_log_times A_lines_log_values v_lines_stretches A_lines_stretch A_lines_needs) H := hP
                have hD : va_D A (k_Thinning cC cI cZ a_this a_piece a_sent a_steps a_next a_lines_log a_lines_log_times a_lines_log_values a_lines a_lines_stretch a_lines_needs v_isOutdated v_pieces v_doorMask v_leastMask A_piece A_sent (upd A_steps_31 (p1).toNatClampNeg ((A_steps_31 (y31_2).toNatClampNeg) + (1 : Int32))) A_next_31 v_lines_log_size v_lines_log_promise v_lines_log_delay A_lines_log_times A_lines_log_values v_lines_stretches A_lines_stretch A_lines_needs) := hD
                refine lv_aload_n hx hb dX9_chooseNext_119 rfl (lv_at hl 1 rfl) ?_
                refine va_get (ci := 9) (v := .ref a_next) (C := RX9) (T := TX9) (N := 10) hx hb htT inlX9 hown hK hP 0 rfl rfl 5 (by decide) (htT _ q_5_14) (fun _ h9 => h9) rfl dX9_chooseNext_120 ?_
                refine lv_iload_n hx hb dX9_chooseNext_123 rfl (lv_at hl 2 rfl) ?_
                refine lv_iload_n hx hb dX9_chooseNext_124 rfl (lv_at hl 3 rfl) ?_
                obtain ⟨g16, h⟩ := gd h
                refine va_iast hx hb hK hP hD hS 4 1 rfl rfl (inB_in g16) dX9_chooseNext_125 (fun H locs hP hD hS => ?_)
                have hP : va_P D vwCl (k_Thinning cC cI cZ a_this a_piece a_sent a_steps a_next a_lines_log a_lines_log_times a_lines_log_values a_lines a_lines_stretch a_lines_needs v_isOutdated v_pieces v_doorMask v_leastMask A_piece A_sent (upd A_steps_31 (p1).toNatClampNeg ((A_steps_31 (y31_2).toNatClampNeg) + (1 : Int32))) (upd A_next_31 (p1).toNatClampNeg y31_2) v_lines_log_size v_lines_log_promise v_lines_log_delay A_lines_log_times A_lines_log_values v_lines_stretches A_lines_stretch A_lines_needs) H := hP
                have hD : va_D A (k_Thinning cC cI cZ a_this a_piece a_sent a_steps a_next a_lines_log a_lines_log_times a_lines_log_values a_lines a_lines_stretch a_lines_needs v_isOutdated v_pieces v_doorMask v_leastMask A_piece A_sent (upd A_steps_31 (p1).toNatClampNeg ((A_steps_31 (y31_2).toNatClampNeg) + (1 : Int32))) (upd A_next_31 (p1).toNatClampNeg y31_2) v_lines_log_size v_lines_log_promise v_lines_log_delay A_lines_log_times A_lines_log_values v_lines_stretches A_lines_stretch A_lines_needs) := hD
                refine lv_iinc (v := (y31_2 + (1 : Int32))) (lv' := [(2, .int (y31_2 + (1 : Int32))), (3, .int (1 : Int32)), (0, .ref a_this), (1, .int p1)]) hx hb dX9_chooseNext_126 hl (k := 3) rfl rfl (by decide) rfl (fun ls hl => ?_)
                refine lv_goto (tgt := 31) hx hb dX9_chooseNext_129 (by decide) ?_
                exact ih31 (y31_2 + (1 : Int32)) (upd A_steps_31 (p1).toNatClampNeg ((A_steps_31 (y31_2).toNatClampNeg) + (1 : Int32))) (upd A_next_31 (p1).toNatClampNeg y31_2) _ h _ _ _ hP hD hS (lv_sub hl [2, 3, 0] rfl) k31_0
            · have h := im c10 h
              refine lv_aload_n hx hb dX9_chooseNext_59 rfl (lv_at hl 0 rfl) ?_
              refine va_get (ci := 9) (v := .ref a_steps) (C := RX9) (T := TX9) (N := 10) hx hb htT inlX9 hown hK hP 0 rfl rfl 4 (by decide) (htT _ q_5_13) (fun _ h9 => h9) rfl dX9_chooseNext_60 ?_
              refine lv_iload_n hx hb dX9_chooseNext_63 rfl (lv_at hl 2 rfl) ?_
              obtain ⟨g17, h⟩ := gd h
              refine va_iald hx hb hK hP 3 1 rfl rfl (inB_in g17) dX9_chooseNext_64 ?_
              refine lv_iconst (v := (1 : Int32)) hx hb dX9_chooseNext_65 rfl ?_
              refine lv_iadd hx hb dX9_chooseNext_66 ?_
              refine lv_aload_n hx hb dX9_chooseNext_67 rfl (lv_at hl 0 rfl) ?_
              refine va_get (ci := 9) (v := .ref a_steps) (C := RX9) (T := TX9) (N := 10) hx hb htT inlX9 hown hK hP 0 rfl rfl 4 (by decide) (htT _ q_5_13) (fun _ h9 => h9) rfl dX9_chooseNext_68 ?_
              refine lv_iload_n hx hb dX9_chooseNext_71 rfl (lv_at hl 1 rfl) ?_
              obtain ⟨g18, h⟩ := gd h
              refine va_iald hx hb hK hP 3 1 rfl rfl (inB_in g18) dX9_chooseNext_72 ?_
              refine lv_icmp_ge (tgt := 80) hx hb dX9_chooseNext_73 (by decide) (fun c19 => ?_) (fun c19 => ?_)
              · have h := ip c19 h
                refine lv_iconst (v := (0 : Int32)) hx hb dX9_chooseNext_80 rfl ?_
                refine lv_istore_n (lv' := [(3, .int (0 : Int32)), (0, .ref a_this), (1, .int p1), (2, .int y31_2)]) hx hb dX9_chooseNext_81 rfl hl (by decide) rfl (fun ls hl => ?_)
                refine lv_iload_n hx hb dX9_chooseNext_82 rfl (lv_at hl 0 rfl) ?_
                refine lv_if_eq (tgt := 126) hx hb dX9_chooseNext_83 (by decide) (fun _ => ?_) (fun c20 => absurd (by decide) c20)
                refine lv_iinc (v := (y31_2 + (1 : Int32))) (lv' := [(2, .int (y31_2 + (1 : Int32))), (3, .int (0 : Int32)), (0, .ref a_this), (1, .int p1)]) hx hb dX9_chooseNext_126 hl (k := 3) rfl rfl (by decide) rfl (fun ls hl => ?_)
                refine lv_goto (tgt := 31) hx hb dX9_chooseNext_129 (by decide) ?_
                exact ih31 (y31_2 + (1 : Int32)) A_steps_31 A_next_31 _ h _ _ _ hP hD hS (lv_sub hl [2, 3, 0] rfl) k31_0
              · have h := im c19 h
                refine lv_iconst (v := (1 : Int32)) hx hb dX9_chooseNext_76 rfl ?_
                refine lv_goto (tgt := 81) hx hb dX9_chooseNext_77 (by decide) ?_
                refine lv_istore_n (lv' := [(3, .int (1 : Int32)), (0, .ref a_this), (1, .int p1), (2, .int y31_2)]) hx hb dX9_chooseNext_81 rfl hl (by decide) rfl (fun ls hl => ?_)
                refine lv_iload_n hx hb dX9_chooseNext_82 rfl (lv_at hl 0 rfl) ?_
                refine lv_if_eq (tgt := 126) hx hb dX9_chooseNext_83 (by decide) (fun c21 => absurd c21 (by decide)) (fun _ => ?_)
                refine lv_aload_n hx hb dX9_chooseNext_86 rfl (lv_at hl 1 rfl) ?_
                refine va_get (ci := 9) (v := .ref a_lines) (C := RX9) (T := TX9) (N := 10) hx hb htT inlX9 hown hK hP 0 rfl rfl 1 (by decide) (htT _ q_5_10) (fun _ h9 => h9) rfl dX9_chooseNext_87 ?_
                refine lv_iload_n hx hb dX9_chooseNext_90 rfl (lv_at hl 2 rfl) ?_
                refine lv_iload_n hx hb dX9_chooseNext_91 rfl (lv_at hl 3 rfl) ?_
                obtain ⟨r22, e22, h⟩ := bd h
                refine roV X [.int p1, .int y31_2] [] (c_Lines_needOf l D cC cI cZ a_lines a_lines_stretch a_lines_needs a_lines_log a_lines_log_times a_lines_log_values v_lines_stretches A_lines_stretch A_lines_needs v_lines_log_size v_lines_log_promise v_lines_log_delay A_lines_log_times A_lines_log_values p1 y31_2 r22 e22) gg_X9_87 hd_Lines_needOf ⟨rfl, rfl, Nat.le_of_ble_eq_true rfl, Nat.le_of_ble_eq_true rfl⟩ ⟨Nat.zero_le _, Nat.zero_le _⟩ hP [8, 9, 10, 5, 6, 7] rfl rfl rfl rfl hl.1 rfl (Nat.le_of_ble_eq_true rfl) dX9_chooseNext_92 (fun n22 => ?_)
                refine lv_aload_n hx hb dX9_chooseNext_95 rfl (lv_at hl 1 rfl) ?_
                refine va_get (ci := 9) (v := .ref a_lines_log) (C := RX9) (T := TX9) (N := 10) hx hb htT inlX9 hown hK hP 0 rfl rfl 0 (by decide) (htT _ q_5_9) (fun _ h9 => h9) rfl dX9_chooseNext_96 ?_
                refine va_getN (ci := 3) (v := .int v_lines_log_promise) (C := RX3) (T := TX3) (N := 5) hx hb htT inlX3 hown hK hP 5 rfl rfl 3 (by decide) (va_Nw.use rfl (hN _ qn_11)) (fun _ h9 => h9) rfl dX9_chooseNext_99 ?_
                refine lv_icmp_gt (tgt := 126) hx hb dX9_chooseNext_102 (by decide) (fun c23 => ?_) (fun c23 => ?_)
                · have h := ip c23 h
                  refine lv_iinc (v := (y31_2 + (1 : Int32))) (lv' := [(2, .int (y31_2 + (1 : Int32))), (3, .int (1 : Int32)), (0, .ref a_this), (1, .int p1)]) hx hb dX9_chooseNext_126 hl (k := 3) rfl rfl (by decide) rfl (fun ls hl => ?_)
                  refine lv_goto (tgt := 31) hx hb dX9_chooseNext_129 (by decide) ?_
                  exact ih31 (y31_2 + (1 : Int32)) A_steps_31 A_next_31 _ h _ _ _ hP hD hS (lv_sub hl [2, 3, 0] rfl) k31_0
                · have h := im c23 h
                  refine lv_aload_n hx hb dX9_chooseNext_105 rfl (lv_at hl 1 rfl) ?_
                  refine va_get (ci := 9) (v := .ref a_steps) (C := RX9) (T := TX9) (N := 10) hx hb htT inlX9 hown hK hP 0 rfl rfl 4 (by decide) (htT _ q_5_13) (fun _ h9 => h9) rfl dX9_chooseNext_106 ?_
                  refine lv_iload_n hx hb dX9_chooseNext_109 rfl (lv_at hl 2 rfl) ?_
                  refine lv_aload_n hx hb dX9_chooseNext_110 rfl (lv_at hl 1 rfl) ?_
                  refine va_get (ci := 9) (v := .ref a_steps) (C := RX9) (T := TX9) (N := 10) hx hb htT inlX9 hown hK hP 0 rfl rfl 4 (by decide) (htT _ q_5_13) (fun _ h9 => h9) rfl dX9_chooseNext_111 ?_
                  refine lv_iload_n hx hb dX9_chooseNext_114 rfl (lv_at hl 3 rfl) ?_
                  obtain ⟨g24, h⟩ := gd h
                  refine va_iald hx hb hK hP 3 1 rfl rfl (inB_in g24) dX9_chooseNext_115 ?_
                  refine lv_iconst (v := (1 : Int32)) hx hb dX9_chooseNext_116 rfl ?_
                  refine lv_iadd hx hb dX9_chooseNext_117 ?_
                  obtain ⟨g25, h⟩ := gd h
                  refine va_iast hx hb hK hP hD hS 3 1 rfl rfl (inB_in g25) dX9_chooseNext_118 (fun H locs hP hD hS => ?_)
                  have hP : va_P D vwCl (k_Thinning cC cI cZ a_this a_piece a_sent a_steps a_next a_lines_log a_lines_log_times a_lines_log_values a_lines a_lines_stretch a_lines_needs v_isOutdated v_pieces v_doorMask v_leastMask A_piece A_sent (upd A_steps_31 (p1).toNatClampNeg ((A_steps_31 (y31_2).toNatClampNeg) + (1 : Int32))) A_next_31 v_lines_log_size v_lines_log_promise v_lines_log_delay A_lines_log_times A_lines_log_values v_lines_stretches A_lines_stretch A_lines_needs) H := hP
                  have hD : va_D A (k_Thinning cC cI cZ a_this a_piece a_sent a_steps a_next a_lines_log a_lines_log_times a_lines_log_values a_lines a_lines_stretch a_lines_needs v_isOutdated v_pieces v_doorMask v_leastMask A_piece A_sent (upd A_steps_31 (p1).toNatClampNeg ((A_steps_31 (y31_2).toNatClampNeg) + (1 : Int32))) A_next_31 v_lines_log_size v_lines_log_promise v_lines_log_delay A_lines_log_times A_lines_log_values v_lines_stretches A_lines_stretch A_lines_needs) := hD
                  refine lv_aload_n hx hb dX9_chooseNext_119 rfl (lv_at hl 1 rfl) ?_
                  refine va_get (ci := 9) (v := .ref a_next) (C := RX9) (T := TX9) (N := 10) hx hb htT inlX9 hown hK hP 0 rfl rfl 5 (by decide) (htT _ q_5_14) (fun _ h9 => h9) rfl dX9_chooseNext_120 ?_
                  refine lv_iload_n hx hb dX9_chooseNext_123 rfl (lv_at hl 2 rfl) ?_
                  refine lv_iload_n hx hb dX9_chooseNext_124 rfl (lv_at hl 3 rfl) ?_
                  obtain ⟨g26, h⟩ := gd h
                  refine va_iast hx hb hK hP hD hS 4 1 rfl rfl (inB_in g26) dX9_chooseNext_125 (fun H locs hP hD hS => ?_)
                  have hP : va_P D vwCl (k_Thinning cC cI cZ a_this a_piece a_sent a_steps a_next a_lines_log a_lines_log_times a_lines_log_values a_lines a_lines_stretch a_lines_needs v_isOutdated v_pieces v_doorMask v_leastMask A_piece A_sent (upd A_steps_31 (p1).toNatClampNeg ((A_steps_31 (y31_2).toNatClampNeg) + (1 : Int32))) (upd A_next_31 (p1).toNatClampNeg y31_2) v_lines_log_size v_lines_log_promise v_lines_log_delay A_lines_log_times A_lines_log_values v_lines_stretches A_lines_stretch A_lines_needs) H := hP
                  have hD : va_D A (k_Thinning cC cI cZ a_this a_piece a_sent a_steps a_next a_lines_log a_lines_log_times a_lines_log_values a_lines a_lines_stretch a_lines_needs v_isOutdated v_pieces v_doorMask v_leastMask A_piece A_sent (upd A_steps_31 (p1).toNatClampNeg ((A_steps_31 (y31_2).toNatClampNeg) + (1 : Int32))) (upd A_next_31 (p1).toNatClampNeg y31_2) v_lines_log_size v_lines_log_promise v_lines_log_delay A_lines_log_times A_lines_log_values v_lines_stretches A_lines_stretch A_lines_needs) := hD
                  refine lv_iinc (v := (y31_2 + (1 : Int32))) (lv' := [(2, .int (y31_2 + (1 : Int32))), (3, .int (1 : Int32)), (0, .ref a_this), (1, .int p1)]) hx hb dX9_chooseNext_126 hl (k := 3) rfl rfl (by decide) rfl (fun ls hl => ?_)
                  refine lv_goto (tgt := 31) hx hb dX9_chooseNext_129 (by decide) ?_
                  exact ih31 (y31_2 + (1 : Int32)) (upd A_steps_31 (p1).toNatClampNeg ((A_steps_31 (y31_2).toNatClampNeg) + (1 : Int32))) (upd A_next_31 (p1).toNatClampNeg y31_2) _ h _ _ _ hP hD hS (lv_sub hl [2, 3, 0] rfl) k31_0
    obtain ⟨z5, e5, h⟩ := bd h
    refine LP31 fu (p1 + (1 : Int32)) (upd A_steps (p1).toNatClampNeg (0 : Int32)) (upd A_next (p1).toNatClampNeg (-9 : Int32)) z5 e5 _ _ _ hP hD hS (lv_sub hl [1, 2, 0] rfl) ?_
    intro H locs ls hP hD hS hl
    obtain rfl := Option.some.inj h
    exact hret _ _ _ _ hP hS dX9_chooseNext_132
  · have h := ip c4 h
    obtain rfl := Option.some.inj h
    exact hret _ _ _ _ hP hS dX9_chooseNext_26
set_option maxHeartbeats 4000000 in
set_option maxRecDepth 100000 in
theorem c_Thinning_chooseLeast (l : Launch) (D : va_G) (cC cI cZ : ClassId) (a_this : Nat) (a_piece : Nat) (a_sent : Nat) (a_steps : Nat) (a_next : Nat) (a_lines_log : Nat) (a_lines_log_times : Nat) (a_lines_log_values : Nat) (a_lines : Nat) (a_lines_stretch : Nat) (a_lines_needs : Nat) (v_isOutdated : Int32) (v_pieces : Int32) (v_doorMask : Int32) (v_leastMask : Int32) (A_piece : Nat → Int32) (A_sent : Nat → Int32) (A_steps : Nat → Int32) (A_next : Nat → Int32) (v_lines_log_size : Int32) (v_lines_log_promise : Int32) (v_lines_log_delay : Int32) (A_lines_log_times : Nat → Int32) (A_lines_log_values : Nat → Int32) (v_lines_stretches : Int32) (A_lines_stretch : Nat → Int32) (A_lines_needs : Nat → Int32)  (sz : Nat) (z : Int32 × (Nat → Int32) × (Nat → Int32)) (h : f_Thinning_chooseLeast A_steps A_next v_lines_log_size v_lines_log_promise A_lines_log_values A_lines_needs = some z) : Met l yX9_chooseLeast (.code yX9_chooseLeast cX9_chooseLeast 4 (some .int) :: TBL) (RM 3 65) (PcM [.ref a_this] sz D (TY cC cI cZ) (k_Thinning cC cI cZ a_this a_piece a_sent a_steps a_next a_lines_log a_lines_log_times a_lines_log_values a_lines a_lines_stretch a_lines_needs v_isOutdated v_pieces v_doorMask v_leastMask A_piece A_sent A_steps A_next v_lines_log_size v_lines_log_promise v_lines_log_delay A_lines_log_times A_lines_log_values v_lines_stretches A_lines_stretch A_lines_needs)) (fun a st o t => QM (some (.int z.1)) D (k_Thinning cC cI cZ a_this a_piece a_sent a_steps a_next a_lines_log a_lines_log_times a_lines_log_values a_lines a_lines_stretch a_lines_needs v_isOutdated v_pieces v_doorMask v_leastMask A_piece A_sent z.2.1 z.2.2 v_lines_log_size v_lines_log_promise v_lines_log_delay A_lines_log_times A_lines_log_values v_lines_stretches A_lines_stretch A_lines_needs) (va_A (k_Thinning cC cI cZ a_this a_piece a_sent a_steps a_next a_lines_log a_lines_log_times a_lines_log_values a_lines a_lines_stretch a_lines_needs v_isOutdated v_pieces v_doorMask v_leastMask A_piece A_sent A_steps A_next v_lines_log_size v_lines_log_promise v_lines_log_delay A_lines_log_times A_lines_log_values v_lines_stretches A_lines_stretch A_lines_needs) sz) a st o t ∧ narrow .int (.int z.1) = .int z.1) 0 0 (va_A (k_Thinning cC cI cZ a_this a_piece a_sent a_steps a_next a_lines_log a_lines_log_times a_lines_log_values a_lines a_lines_stretch a_lines_needs v_isOutdated v_pieces v_doorMask v_leastMask A_piece A_sent A_steps A_next v_lines_log_size v_lines_log_promise v_lines_log_delay A_lines_log_times A_lines_log_values v_lines_stretches A_lines_stretch A_lines_needs) sz) := by
  refine muOf (by decide) (Nat.le_of_ble_eq_true rfl) rfl ?_
  intro p e s m args below meth c Q ls A X hP hD hS hA hl hret
  have X : Ctx p s m args c cX9_chooseLeast 4 RX9 D (TY cC cI cZ) := X
  obtain ⟨hx, hb, hml, hown, htT, hK, hN⟩ := id X
  unfold f_Thinning_chooseLeast at h
  refine lv_aload_n hx hb dX9_chooseLeast_0 rfl (lv_at hl 0 rfl) ?_
  refine va_get (ci := 9) (v := .ref a_lines_log) (C := RX9) (T := TX9) (N := 10) hx hb htT inlX9 hown hK hP 0 rfl rfl 0 (by decide) (htT _ q_5_9) (fun _ h9 => h9) rfl dX9_chooseLeast_1 ?_
  refine va_getN (ci := 3) (v := .int v_lines_log_size) (C := RX3) (T := TX3) (N := 5) hx hb htT inlX3 hown hK hP 5 rfl rfl 2 (by decide) (va_Nw.use rfl (hN _ qn_9)) (fun _ h9 => h9) rfl dX9_chooseLeast_4 ?_
  refine lv_bipush (v := (14 : Int32)) hx hb dX9_chooseLeast_7 rfl ?_
  refine va_mmin hx hb (hml.trans hl.1.symm) hown (htT _ q_23_8) (htT _ q_16_15) (htT _ q_16_16) (htT _ q_16_17) (Nat.le_of_ble_eq_true rfl) (Nat.le_of_ble_eq_true rfl) (Nat.zero_le _) (Nat.zero_le _) dX9_chooseLeast_9 ?_
  refine lv_iconst (v := (1 : Int32)) hx hb dX9_chooseLeast_12 rfl ?_
  refine lv_isub hx hb dX9_chooseLeast_13 ?_
  refine lv_istore_n (lv' := [(1, .int ((if (14 : Int32) < v_lines_log_size then (14 : Int32) else v_lines_log_size) - (1 : Int32))), (0, .ref a_this)]) hx hb dX9_chooseLeast_14 rfl hl (by decide) rfl (fun ls hl => ?_)
  have LP15 : ∀ (n : Nat) (y15_1 : Int32) (A_steps_15 : Nat → Int32) (A_next_15 : Nat → Int32) (zq15 : (Nat → Int32) × (Nat → Int32)), f_Thinning_chooseLeast_L15 v_lines_log_size v_lines_log_promise A_lines_log_values A_lines_needs n y15_1 A_steps_15 A_next_15 = some zq15 → ∀ (H : Heap) (locs : List Loc) (ls : Array Slot), va_P D vwCl (k_Thinning cC cI cZ a_this a_piece a_sent a_steps a_next a_lines_log a_lines_log_times a_lines_log_values a_lines a_lines_stretch a_lines_needs v_isOutdated v_pieces v_doorMask v_leastMask A_piece A_sent A_steps_15 A_next_15 v_lines_log_size v_lines_log_promise v_lines_log_delay A_lines_log_times A_lines_log_values v_lines_stretches A_lines_stretch A_lines_needs) H → va_D A (k_Thinning cC cI cZ a_this a_piece a_sent a_steps a_next a_lines_log a_lines_log_times a_lines_log_values a_lines a_lines_stretch a_lines_needs v_isOutdated v_pieces v_doorMask v_leastMask A_piece A_sent A_steps_15 A_next_15 v_lines_log_size v_lines_log_promise v_lines_log_delay A_lines_log_times A_lines_log_values v_lines_stretches A_lines_stretch A_lines_needs) → va_S A s.heap H locs → lv_has ls 4 [(0, .ref a_this), (1, .int y15_1)] → (∀ (H : Heap) (locs : List Loc) (ls : Array Slot), va_P D vwCl (k_Thinning cC cI cZ a_this a_piece a_sent a_steps a_next a_lines_log a_lines_log_times a_lines_log_values a_lines a_lines_stretch a_lines_needs v_isOutdated v_pieces v_doorMask v_leastMask A_piece A_sent zq15.1 zq15.2 v_lines_log_size v_lines_log_promise v_lines_log_delay A_lines_log_times A_lines_log_values v_lines_stretches A_lines_stretch A_lines_needs) H → va_D A (k_Thinning cC cI cZ a_this a_piece a_sent a_steps a_next a_lines_log a_lines_log_times a_lines_log_values a_lines a_lines_stretch a_lines_needs v_isOutdated v_pieces v_doorMask v_leastMask A_piece A_sent zq15.1 zq15.2 v_lines_log_size v_lines_log_promise v_lines_log_delay A_lines_log_times A_lines_log_values v_lines_stretches A_lines_stretch A_lines_needs) → va_S A s.heap H locs → lv_has ls 4 [(0, .ref a_this)] → W p l e (RM 3 65) s m args below meth c H locs 0 0 Q (F0 m 30 ls [])) → W p l e (RM 3 65) s m args below meth c H locs 0 0 Q (F0 m 15 ls []) := by
    clear h
    intro n
    induction n with
    | zero =>
      intro y15_1 A_steps_15 A_next_15 zq15 h
      rw [f_Thinning_chooseLeast_L15_0] at h
      cases h
    | succ n ih15 =>
      intro y15_1 A_steps_15 A_next_15 zq15 h H locs ls hP hD hS hl k15_0
      rw [f_Thinning_chooseLeast_L15_s] at h
      refine lv_iload_n hx hb dX9_chooseLeast_15 rfl (lv_at hl 1 rfl) ?_
      refine lv_if_lt (tgt := 30) hx hb dX9_chooseLeast_16 (by decide) (fun c2 => ?_) (fun c2 => ?_)
      · have h := ip c2 h
        obtain rfl := Option.some.inj h
        exact k15_0 _ _ _ hP hD hS (lv_sub hl [0] rfl)
      · have h := im c2 h
        refine lv_aload_n hx hb dX9_chooseLeast_19 rfl (lv_at hl 0 rfl) ?_
        refine lv_iload_n hx hb dX9_chooseLeast_20 rfl (lv_at hl 1 rfl) ?_
        obtain ⟨z3, e3, h⟩ := bd h
        refine muVV (ws' := (k_Thinning cC cI cZ a_this a_piece a_sent a_steps a_next a_lines_log a_lines_log_times a_lines_log_values a_lines a_lines_stretch a_lines_needs v_isOutdated v_pieces v_doorMask v_leastMask A_piece A_sent z3.1 z3.2 v_lines_log_size v_lines_log_promise v_lines_log_delay A_lines_log_times A_lines_log_values v_lines_stretches A_lines_stretch A_lines_needs)) X [.int y15_1] [] (c_Thinning_chooseNext l D cC cI cZ a_this a_piece a_sent a_steps a_next a_lines_log a_lines_log_times a_lines_log_values a_lines a_lines_stretch a_lines_needs v_isOutdated v_pieces v_doorMask v_leastMask A_piece A_sent A_steps_15 A_next_15 v_lines_log_size v_lines_log_promise v_lines_log_delay A_lines_log_times A_lines_log_values v_lines_stretches A_lines_stretch A_lines_needs y15_1 _ z3 e3) gg_X9_114 hd_Thinning_chooseNext ⟨rfl, rfl, Nat.le_of_ble_eq_true rfl, Nat.le_of_ble_eq_true rfl⟩ ⟨Nat.zero_le _, Nat.zero_le _⟩ hP hD hS hA [0, 1, 2, 3, 4, 5, 6, 7, 8, 9, 10] [] [0, 1, 2, 3, 4, 5, 6, 7, 8, 9, 10] rfl rfl (by decide) (by decide) rfl rfl rfl rfl rfl hl.1 rfl (Nat.le_of_ble_eq_true rfl) dX9_chooseLeast_21 (fun H locs hP hD hS => ?_)
        refine lv_iinc (v := (y15_1 + (-1 : Int32))) (lv' := [(1, .int (y15_1 + (-1 : Int32))), (0, .ref a_this)]) hx hb dX9_chooseLeast_24 hl (k := 1) rfl rfl (by decide) rfl (fun ls hl => ?_)
        refine lv_goto (tgt := 15) hx hb dX9_chooseLeast_27 (by decide) ?_
        exact ih15 (y15_1 + (-1 : Int32)) z3.1 z3.2 _ h _ _ _ hP hD hS (lv_sub hl [1, 0] rfl) k15_0
  obtain ⟨z1, e1, h⟩ := bd h
  refine LP15 fu ((if (14 : Int32) < v_lines_log_size then (14 : Int32) else v_lines_log_size) - (1 : Int32)) A_steps A_next z1 e1 _ _ _ hP hD hS (lv_sub hl [1, 0] rfl) ?_
  intro H locs ls hP hD hS hl
  refine lv_iconst (v := (0 : Int32)) hx hb dX9_chooseLeast_30 rfl ?_
  refine lv_istore_n (lv' := [(1, .int (0 : Int32)), (0, .ref a_this)]) hx hb dX9_chooseLeast_31 rfl hl (by decide) rfl (fun ls hl => ?_)
  refine lv_bipush (v := (-9 : Int32)) hx hb dX9_chooseLeast_32 rfl ?_
  refine lv_istore_n (lv' := [(2, .int (-9 : Int32)), (1, .int (0 : Int32)), (0, .ref a_this)]) hx hb dX9_chooseLeast_34 rfl hl (by decide) rfl (fun ls hl => ?_)
  refine lv_iconst (v := (0 : Int32)) hx hb dX9_chooseLeast_35 rfl ?_
  refine lv_istore_n (lv' := [(3, .int (0 : Int32)), (2, .int (-9 : Int32)), (1, .int (0 : Int32)), (0, .ref a_this)]) hx hb dX9_chooseLeast_36 rfl hl (by decide) rfl (fun ls hl => ?_)
  have LP37 : ∀ (n : Nat) (y37_1 : Int32) (y37_2 : Int32) (y37_3 : Int32) (zq37 : Int32), f_Thinning_chooseLeast_L37 z1.2 v_lines_log_size A_lines_log_values n y37_1 y37_2 y37_3 = some zq37 → ∀ (H : Heap) (locs : List Loc) (ls : Array Slot), va_P D vwCl (k_Thinning cC cI cZ a_this a_piece a_sent a_steps a_next a_lines_log a_lines_log_times a_lines_log_values a_lines a_lines_stretch a_lines_needs v_isOutdated v_pieces v_doorMask v_leastMask A_piece A_sent z1.1 z1.2 v_lines_log_size v_lines_log_promise v_lines_log_delay A_lines_log_times A_lines_log_values v_lines_stretches A_lines_stretch A_lines_needs) H → va_D A (k_Thinning cC cI cZ a_this a_piece a_sent a_steps a_next a_lines_log a_lines_log_times a_lines_log_values a_lines a_lines_stretch a_lines_needs v_isOutdated v_pieces v_doorMask v_leastMask A_piece A_sent z1.1 z1.2 v_lines_log_size v_lines_log_promise v_lines_log_delay A_lines_log_times A_lines_log_values v_lines_stretches A_lines_stretch A_lines_needs) → va_S A s.heap H locs → lv_has ls 4 [(0, .ref a_this), (1, .int y37_1), (2, .int y37_2), (3, .int y37_3)] → (∀ (H : Heap) (locs : List Loc) (ls : Array Slot), va_P D vwCl (k_Thinning cC cI cZ a_this a_piece a_sent a_steps a_next a_lines_log a_lines_log_times a_lines_log_values a_lines a_lines_stretch a_lines_needs v_isOutdated v_pieces v_doorMask v_leastMask A_piece A_sent z1.1 z1.2 v_lines_log_size v_lines_log_promise v_lines_log_delay A_lines_log_times A_lines_log_values v_lines_stretches A_lines_stretch A_lines_needs) H → va_D A (k_Thinning cC cI cZ a_this a_piece a_sent a_steps a_next a_lines_log a_lines_log_times a_lines_log_values a_lines a_lines_stretch a_lines_needs v_isOutdated v_pieces v_doorMask v_leastMask A_piece A_sent z1.1 z1.2 v_lines_log_size v_lines_log_promise v_lines_log_delay A_lines_log_times A_lines_log_values v_lines_stretches A_lines_stretch A_lines_needs) → va_S A s.heap H locs → lv_has ls 4 [(1, .int zq37)] → W p l e (RM 3 65) s m args below meth c H locs 0 0 Q (F0 m 89 ls [])) → W p l e (RM 3 65) s m args below meth c H locs 0 0 Q (F0 m 37 ls []) := by
    clear h
    intro n
    induction n with
    | zero =>
      intro y37_1 y37_2 y37_3 zq37 h
      rw [f_Thinning_chooseLeast_L37_0] at h
      cases h
    | succ n ih37 =>
      intro y37_1 y37_2 y37_3 zq37 h H locs ls hP hD hS hl k37_0
      rw [f_Thinning_chooseLeast_L37_s] at h
      refine lv_iload_n hx hb dX9_chooseLeast_37 rfl (lv_at hl 3 rfl) ?_
      refine lv_aload_n hx hb dX9_chooseLeast_38 rfl (lv_at hl 0 rfl) ?_
      refine va_get (ci := 9) (v := .ref a_lines_log) (C := RX9) (T := TX9) (N := 10) hx hb htT inlX9 hown hK hP 0 rfl rfl 0 (by decide) (htT _ q_5_9) (fun _ h9 => h9) rfl dX9_chooseLeast_39 ?_
      refine va_getN (ci := 3) (v := .int v_lines_log_size) (C := RX3) (T := TX3) (N := 5) hx hb htT inlX3 hown hK hP 5 rfl rfl 2 (by decide) (va_Nw.use rfl (hN _ qn_9)) (fun _ h9 => h9) rfl dX9_chooseLeast_42 ?_
      refine lv_icmp_ge (tgt := 89) hx hb dX9_chooseLeast_45 (by decide) (fun c5 => ?_) (fun c5 => ?_)
      · have h := ip c5 h
        obtain rfl := Option.some.inj h
        exact k37_0 _ _ _ hP hD hS (lv_sub hl [1] rfl)
      · have h := im c5 h
        refine lv_iload_n hx hb dX9_chooseLeast_48 rfl (lv_at hl 3 rfl) ?_
        refine lv_bipush (v := (14 : Int32)) hx hb dX9_chooseLeast_49 rfl ?_
        refine lv_icmp_ge (tgt := 89) hx hb dX9_chooseLeast_51 (by decide) (fun c6 => ?_) (fun c6 => ?_)
        · have h := ip c6 h
          obtain rfl := Option.some.inj h
          exact k37_0 _ _ _ hP hD hS (lv_sub hl [1] rfl)
        · have h := im c6 h
          refine lv_aload_n hx hb dX9_chooseLeast_54 rfl (lv_at hl 0 rfl) ?_
          refine va_get (ci := 9) (v := .ref a_lines_log) (C := RX9) (T := TX9) (N := 10) hx hb htT inlX9 hown hK hP 0 rfl rfl 0 (by decide) (htT _ q_5_9) (fun _ h9 => h9) rfl dX9_chooseLeast_55 ?_
          refine lv_iload_n hx hb dX9_chooseLeast_58 rfl (lv_at hl 3 rfl) ?_
          obtain ⟨r7, e7, h⟩ := bd h
          refine roV X [.int y37_3] [] (c_Log_isFirst l D cC cI cZ a_lines_log a_lines_log_times a_lines_log_values v_lines_log_size v_lines_log_promise v_lines_log_delay A_lines_log_times A_lines_log_values y37_3 r7 e7) gg_X9_77 hd_Log_isFirst ⟨rfl, rfl, Nat.le_of_ble_eq_true rfl, Nat.le_of_ble_eq_true rfl⟩ ⟨Nat.zero_le _, Nat.zero_le _⟩ hP [5, 6, 7] rfl rfl rfl rfl hl.1 rfl (Nat.le_of_ble_eq_true rfl) dX9_chooseLeast_59 (fun n7 => ?_)
          refine lv_if_ne (tgt := 70) hx hb dX9_chooseLeast_62 (by decide) (fun c8 => ?_) (fun c8 => ?_)
          · have h := im c8 h
            refine lv_iload_n hx hb dX9_chooseLeast_70 rfl (lv_at hl 1 rfl) ?_
            refine lv_iconst (v := (1 : Int32)) hx hb dX9_chooseLeast_71 rfl ?_
            refine lv_iload_n hx hb dX9_chooseLeast_72 rfl (lv_at hl 3 rfl) ?_
            refine lv_ishl hx hb dX9_chooseLeast_73 ?_
            refine lv_ior hx hb dX9_chooseLeast_74 ?_
            refine lv_istore_n (lv' := [(1, .int (y37_1 ||| ((1 : Int32) <<< (y37_3 &&& 31)))), (0, .ref a_this), (2, .int y37_2), (3, .int y37_3)]) hx hb dX9_chooseLeast_75 rfl hl (by decide) rfl (fun ls hl => ?_)
            refine lv_aload_n hx hb dX9_chooseLeast_76 rfl (lv_at hl 1 rfl) ?_
            refine va_get (ci := 9) (v := .ref a_next) (C := RX9) (T := TX9) (N := 10) hx hb htT inlX9 hown hK hP 0 rfl rfl 5 (by decide) (htT _ q_5_14) (fun _ h9 => h9) rfl dX9_chooseLeast_77 ?_
            refine lv_iload_n hx hb dX9_chooseLeast_80 rfl (lv_at hl 3 rfl) ?_
            obtain ⟨g11, h⟩ := gd h
            refine va_iald hx hb hK hP 4 1 rfl rfl (inB_in g11) dX9_chooseLeast_81 ?_
            refine lv_istore_n (lv' := [(2, .int (z1.2 (y37_3).toNatClampNeg)), (1, .int (y37_1 ||| ((1 : Int32) <<< (y37_3 &&& 31)))), (0, .ref a_this), (3, .int y37_3)]) hx hb dX9_chooseLeast_82 rfl hl (by decide) rfl (fun ls hl => ?_)
            refine lv_iinc (v := (y37_3 + (1 : Int32))) (lv' := [(3, .int (y37_3 + (1 : Int32))), (2, .int (z1.2 (y37_3).toNatClampNeg)), (1, .int (y37_1 ||| ((1 : Int32) <<< (y37_3 &&& 31)))), (0, .ref a_this)]) hx hb dX9_chooseLeast_83 hl (k := 3) rfl rfl (by decide) rfl (fun ls hl => ?_)
            refine lv_goto (tgt := 37) hx hb dX9_chooseLeast_86 (by decide) ?_
            exact ih37 (y37_1 ||| ((1 : Int32) <<< (y37_3 &&& 31))) (z1.2 (y37_3).toNatClampNeg) (y37_3 + (1 : Int32)) _ h _ _ _ hP hD hS (lv_sub hl [3, 2, 1, 0] rfl) k37_0
          · have h := ip c8 h
            refine lv_iload_n hx hb dX9_chooseLeast_65 rfl (lv_at hl 3 rfl) ?_
            refine lv_iload_n hx hb dX9_chooseLeast_66 rfl (lv_at hl 2 rfl) ?_
            refine lv_icmp_ne (tgt := 83) hx hb dX9_chooseLeast_67 (by decide) (fun c9 => ?_) (fun c9 => ?_)
            · have h := im c9 h
              refine lv_iinc (v := (y37_3 + (1 : Int32))) (lv' := [(3, .int (y37_3 + (1 : Int32))), (0, .ref a_this), (1, .int y37_1), (2, .int y37_2)]) hx hb dX9_chooseLeast_83 hl (k := 3) rfl rfl (by decide) rfl (fun ls hl => ?_)
              refine lv_goto (tgt := 37) hx hb dX9_chooseLeast_86 (by decide) ?_
              exact ih37 y37_1 y37_2 (y37_3 + (1 : Int32)) _ h _ _ _ hP hD hS (lv_sub hl [1, 2, 3, 0] rfl) k37_0
            · have h := ip c9 h
              refine lv_iload_n hx hb dX9_chooseLeast_70 rfl (lv_at hl 1 rfl) ?_
              refine lv_iconst (v := (1 : Int32)) hx hb dX9_chooseLeast_71 rfl ?_
              refine lv_iload_n hx hb dX9_chooseLeast_72 rfl (lv_at hl 3 rfl) ?_
              refine lv_ishl hx hb dX9_chooseLeast_73 ?_
              refine lv_ior hx hb dX9_chooseLeast_74 ?_
              refine lv_istore_n (lv' := [(1, .int (y37_1 ||| ((1 : Int32) <<< (y37_3 &&& 31)))), (0, .ref a_this), (2, .int y37_2), (3, .int y37_3)]) hx hb dX9_chooseLeast_75 rfl hl (by decide) rfl (fun ls hl => ?_)
              refine lv_aload_n hx hb dX9_chooseLeast_76 rfl (lv_at hl 1 rfl) ?_
              refine va_get (ci := 9) (v := .ref a_next) (C := RX9) (T := TX9) (N := 10) hx hb htT inlX9 hown hK hP 0 rfl rfl 5 (by decide) (htT _ q_5_14) (fun _ h9 => h9) rfl dX9_chooseLeast_77 ?_
              refine lv_iload_n hx hb dX9_chooseLeast_80 rfl (lv_at hl 3 rfl) ?_
              obtain ⟨g10, h⟩ := gd h
              refine va_iald hx hb hK hP 4 1 rfl rfl (inB_in g10) dX9_chooseLeast_81 ?_
              refine lv_istore_n (lv' := [(2, .int (z1.2 (y37_3).toNatClampNeg)), (1, .int (y37_1 ||| ((1 : Int32) <<< (y37_3 &&& 31)))), (0, .ref a_this), (3, .int y37_3)]) hx hb dX9_chooseLeast_82 rfl hl (by decide) rfl (fun ls hl => ?_)
              refine lv_iinc (v := (y37_3 + (1 : Int32))) (lv' := [(3, .int (y37_3 + (1 : Int32))), (2, .int (z1.2 (y37_3).toNatClampNeg)), (1, .int (y37_1 ||| ((1 : Int32) <<< (y37_3 &&& 31)))), (0, .ref a_this)]) hx hb dX9_chooseLeast_83 hl (k := 3) rfl rfl (by decide) rfl (fun ls hl => ?_)
              refine lv_goto (tgt := 37) hx hb dX9_chooseLeast_86 (by decide) ?_
              exact ih37 (y37_1 ||| ((1 : Int32) <<< (y37_3 &&& 31))) (z1.2 (y37_3).toNatClampNeg) (y37_3 + (1 : Int32)) _ h _ _ _ hP hD hS (lv_sub hl [3, 2, 1, 0] rfl) k37_0
  obtain ⟨z4, e4, h⟩ := bd h
  refine LP37 fu (0 : Int32) (-9 : Int32) (0 : Int32) z4 e4 _ _ _ hP hD hS (lv_sub hl [3, 2, 1, 0] rfl) ?_
  intro H locs ls hP hD hS hl
  refine lv_iload_n hx hb dX9_chooseLeast_89 rfl (lv_at hl 0 rfl) ?_
  obtain rfl := Option.some.inj h
  exact hret _ _ _ _ _ hP hS dX9_chooseLeast_90 rfl rfl
set_option maxHeartbeats 4000000 in
set_option maxRecDepth 100000 in
theorem c_Thinning_refresh (l : Launch) (D : va_G) (cC cI cZ : ClassId) (a_this : Nat) (a_piece : Nat) (a_sent : Nat) (a_steps : Nat) (a_next : Nat) (a_lines_log : Nat) (a_lines_log_times : Nat) (a_lines_log_values : Nat) (a_lines : Nat) (a_lines_stretch : Nat) (a_lines_needs : Nat) (v_isOutdated : Int32) (v_pieces : Int32) (v_doorMask : Int32) (v_leastMask : Int32) (A_piece : Nat → Int32) (A_sent : Nat → Int32) (A_steps : Nat → Int32) (A_next : Nat → Int32) (v_lines_log_size : Int32) (v_lines_log_promise : Int32) (v_lines_log_delay : Int32) (A_lines_log_times : Nat → Int32) (A_lines_log_values : Nat → Int32) (v_lines_stretches : Int32) (A_lines_stretch : Nat → Int32) (A_lines_needs : Nat → Int32)  (sz : Nat) (z : Int32 × Int32 × Int32 × Int32 × (Nat → Int32) × (Nat → Int32) × (Nat → Int32) × (Nat → Int32) × Int32 × (Nat → Int32) × (Nat → Int32)) (h : f_Thinning_refresh v_isOutdated v_pieces v_doorMask v_leastMask A_piece A_sent A_steps A_next v_lines_log_size v_lines_log_promise v_lines_log_delay A_lines_log_times A_lines_log_values v_lines_stretches A_lines_stretch A_lines_needs = some z) : Met l yX9_refresh (.code yX9_refresh cX9_refresh 1 none :: TBL) (RM 5 118) (PcM [.ref a_this] sz D (TY cC cI cZ) (k_Thinning cC cI cZ a_this a_piece a_sent a_steps a_next a_lines_log a_lines_log_times a_lines_log_values a_lines a_lines_stretch a_lines_needs v_isOutdated v_pieces v_doorMask v_leastMask A_piece A_sent A_steps A_next v_lines_log_size v_lines_log_promise v_lines_log_delay A_lines_log_times A_lines_log_values v_lines_stretches A_lines_stretch A_lines_needs)) (QM none D (k_Thinning cC cI cZ a_this a_piece a_sent a_steps a_next a_lines_log a_lines_log_times a_lines_log_values a_lines a_lines_stretch a_lines_needs z.1 z.2.1 z.2.2.1 z.2.2.2.1 z.2.2.2.2.1 z.2.2.2.2.2.1 z.2.2.2.2.2.2.1 z.2.2.2.2.2.2.2.1 v_lines_log_size v_lines_log_promise v_lines_log_delay A_lines_log_times A_lines_log_values z.2.2.2.2.2.2.2.2.1 z.2.2.2.2.2.2.2.2.2.1 z.2.2.2.2.2.2.2.2.2.2) (va_A (k_Thinning cC cI cZ a_this a_piece a_sent a_steps a_next a_lines_log a_lines_log_times a_lines_log_values a_lines a_lines_stretch a_lines_needs v_isOutdated v_pieces v_doorMask v_leastMask A_piece A_sent A_steps A_next v_lines_log_size v_lines_log_promise v_lines_log_delay A_lines_log_times A_lines_log_values v_lines_stretches A_lines_stretch A_lines_needs) sz)) 0 0 (va_A (k_Thinning cC cI cZ a_this a_piece a_sent a_steps a_next a_lines_log a_lines_log_times a_lines_log_values a_lines a_lines_stretch a_lines_needs v_isOutdated v_pieces v_doorMask v_leastMask A_piece A_sent A_steps A_next v_lines_log_size v_lines_log_promise v_lines_log_delay A_lines_log_times A_lines_log_values v_lines_stretches A_lines_stretch A_lines_needs) sz) := by
  refine muOfV (by decide) (Nat.le_of_ble_eq_true rfl) rfl ?_
  intro p e s m args below meth c Q ls A X hP hD hS hA hl hret
  have X : Ctx p s m args c cX9_refresh 1 RX9 D (TY cC cI cZ) := X
  obtain ⟨hx, hb, hml, hown, htT, hK, hN⟩ := id X
  unfold f_Thinning_refresh at h
  refine lv_aload_n hx hb dX9_refresh_0 rfl (lv_at hl 0 rfl) ?_
  refine va_get (ci := 9) (v := .int v_isOutdated) (C := RX9) (T := TX9) (N := 10) hx hb htT inlX9 hown hK hP 0 rfl rfl 6 (by decide) (htT _ q_5_15) (fun _ h9 => h9) rfl dX9_refresh_1 ?_
  refine lv_if_ne (tgt := 8) hx hb dX9_refresh_4 (by decide) (fun c1 => ?_) (fun c1 => ?_)
  · have h := im c1 h
    refine lv_aload_n hx hb dX9_refresh_8 rfl (lv_at hl 0 rfl) ?_
    refine lv_iconst (v := (0 : Int32)) hx hb dX9_refresh_9 rfl ?_
    refine va_put (ci := 9) (v := .int (0 : Int32)) (ty := .boolean) (C := RX9) (T := TX9) (N := 10) hx hb htT inlX9 tyX9 tyX9_ok nmX9 hown hK hP hD hS 0 rfl rfl 6 (by decide) (htT _ q_5_15) (fun _ h9 => h9) rfl (tyX9_ok 6 (by decide)) rfl rfl (Nat.le_of_ble_eq_true rfl) dX9_refresh_10 (fun H locs hP hD hS => ?_)
    have hP : va_P D vwCl (k_Thinning cC cI cZ a_this a_piece a_sent a_steps a_next a_lines_log a_lines_log_times a_lines_log_values a_lines a_lines_stretch a_lines_needs (0 : Int32) v_pieces v_doorMask v_leastMask A_piece A_sent A_steps A_next v_lines_log_size v_lines_log_promise v_lines_log_delay A_lines_log_times A_lines_log_values v_lines_stretches A_lines_stretch A_lines_needs) H := hP
    have hD : va_D A (k_Thinning cC cI cZ a_this a_piece a_sent a_steps a_next a_lines_log a_lines_log_times a_lines_log_values a_lines a_lines_stretch a_lines_needs (0 : Int32) v_pieces v_doorMask v_leastMask A_piece A_sent A_steps A_next v_lines_log_size v_lines_log_promise v_lines_log_delay A_lines_log_times A_lines_log_values v_lines_stretches A_lines_stretch A_lines_needs) := hD
    refine lv_aload_n hx hb dX9_refresh_13 rfl (lv_at hl 0 rfl) ?_
    refine va_get (ci := 9) (v := .ref a_lines) (C := RX9) (T := TX9) (N := 10) hx hb htT inlX9 hown hK hP 0 rfl rfl 1 (by decide) (htT _ q_5_10) (fun _ h9 => h9) rfl dX9_refresh_14 ?_
    obtain ⟨z2, e2, h⟩ := bd h
    refine muVV (ws' := (k_Thinning cC cI cZ a_this a_piece a_sent a_steps a_next a_lines_log a_lines_log_times a_lines_log_values a_lines a_lines_stretch a_lines_needs (0 : Int32) v_pieces v_doorMask v_leastMask A_piece A_sent A_steps A_next v_lines_log_size v_lines_log_promise v_lines_log_delay A_lines_log_times A_lines_log_values z2.1 z2.2.1 z2.2.2)) X [] [] (c_Lines_measureAll l D cC cI cZ a_lines a_lines_stretch a_lines_needs a_lines_log a_lines_log_times a_lines_log_values v_lines_stretches A_lines_stretch A_lines_needs v_lines_log_size v_lines_log_promise v_lines_log_delay A_lines_log_times A_lines_log_values _ z2 e2) gg_X9_46 hd_Lines_measureAll ⟨rfl, rfl, Nat.le_of_ble_eq_true rfl, Nat.le_of_ble_eq_true rfl⟩ ⟨Nat.zero_le _, Nat.zero_le _⟩ hP hD hS hA [8, 9, 10, 5, 6, 7] [0, 1, 2, 3, 4] [0, 1, 2, 3, 4, 8, 9, 10, 5, 6, 7] rfl rfl (by decide) (by decide) rfl rfl rfl rfl rfl hl.1 rfl (Nat.le_of_ble_eq_true rfl) dX9_refresh_17 (fun H locs hP hD hS => ?_)
    refine lv_aload_n hx hb dX9_refresh_20 rfl (lv_at hl 0 rfl) ?_
    obtain ⟨z3, e3, h⟩ := bd h
    refine muVV (ws' := (k_Thinning cC cI cZ a_this a_piece a_sent a_steps a_next a_lines_log a_lines_log_times a_lines_log_values a_lines a_lines_stretch a_lines_needs (0 : Int32) z3.1 v_doorMask v_leastMask z3.2 A_sent A_steps A_next v_lines_log_size v_lines_log_promise v_lines_log_delay A_lines_log_times A_lines_log_values z2.1 z2.2.1 z2.2.2)) X [] [] (c_Thinning_cutPieces l D cC cI cZ a_this a_piece a_sent a_steps a_next a_lines_log a_lines_log_times a_lines_log_values a_lines a_lines_stretch a_lines_needs (0 : Int32) v_pieces v_doorMask v_leastMask A_piece A_sent A_steps A_next v_lines_log_size v_lines_log_promise v_lines_log_delay A_lines_log_times A_lines_log_values z2.1 z2.2.1 z2.2.2 _ z3 e3) gg_X9_51 hd_Thinning_cutPieces ⟨rfl, rfl, Nat.le_of_ble_eq_true rfl, Nat.le_of_ble_eq_true rfl⟩ ⟨Nat.zero_le _, Nat.zero_le _⟩ hP hD hS hA [0, 1, 2, 3, 4, 5, 6, 7, 8, 9, 10] [] [0, 1, 2, 3, 4, 5, 6, 7, 8, 9, 10] rfl rfl (by decide) (by decide) rfl rfl rfl rfl rfl hl.1 rfl (Nat.le_of_ble_eq_true rfl) dX9_refresh_21 (fun H locs hP hD hS => ?_)
    refine lv_aload_n hx hb dX9_refresh_24 rfl (lv_at hl 0 rfl) ?_
    refine lv_aload_n hx hb dX9_refresh_25 rfl (lv_at hl 0 rfl) ?_
    refine lv_aload_n hx hb dX9_refresh_26 rfl (lv_at hl 0 rfl) ?_
    refine va_get (ci := 9) (v := .ref a_lines_log) (C := RX9) (T := TX9) (N := 10) hx hb htT inlX9 hown hK hP 0 rfl rfl 0 (by decide) (htT _ q_5_9) (fun _ h9 => h9) rfl dX9_refresh_27 ?_
    refine va_getN (ci := 3) (v := .int v_lines_log_promise) (C := RX3) (T := TX3) (N := 5) hx hb htT inlX3 hown hK hP 5 rfl rfl 3 (by decide) (va_Nw.use rfl (hN _ qn_11)) (fun _ h9 => h9) rfl dX9_refresh_30 ?_
    obtain ⟨r4, e4, h⟩ := bd h
    refine roV X [.int v_lines_log_promise] [.ref a_this] (c_Thinning_swingDoor l D cC cI cZ a_this a_piece a_sent a_steps a_next a_lines_log a_lines_log_times a_lines_log_values a_lines a_lines_stretch a_lines_needs (0 : Int32) z3.1 v_doorMask v_leastMask z3.2 A_sent A_steps A_next v_lines_log_size v_lines_log_promise v_lines_log_delay A_lines_log_times A_lines_log_values z2.1 z2.2.1 z2.2.2 v_lines_log_promise r4 e4) gg_X9_59 hd_Thinning_swingDoor ⟨rfl, rfl, Nat.le_of_ble_eq_true rfl, Nat.le_of_ble_eq_true rfl⟩ ⟨Nat.zero_le _, Nat.zero_le _⟩ hP [0, 1, 2, 3, 4, 5, 6, 7, 8, 9, 10] rfl rfl rfl rfl hl.1 rfl (Nat.le_of_ble_eq_true rfl) dX9_refresh_33 (fun n4 => ?_)
    refine va_put (ci := 9) (v := .int r4) (ty := .int) (C := RX9) (T := TX9) (N := 10) hx hb htT inlX9 tyX9 tyX9_ok nmX9 hown hK hP hD hS 0 rfl rfl 8 (by decide) (htT _ q_5_17) (fun _ h9 => h9) rfl (tyX9_ok 8 (by decide)) rfl rfl (Nat.le_of_ble_eq_true rfl) dX9_refresh_36 (fun H locs hP hD hS => ?_)
    have hP : va_P D vwCl (k_Thinning cC cI cZ a_this a_piece a_sent a_steps a_next a_lines_log a_lines_log_times a_lines_log_values a_lines a_lines_stretch a_lines_needs (0 : Int32) z3.1 r4 v_leastMask z3.2 A_sent A_steps A_next v_lines_log_size v_lines_log_promise v_lines_log_delay A_lines_log_times A_lines_log_values z2.1 z2.2.1 z2.2.2) H := hP
    have hD : va_D A (k_Thinning cC cI cZ a_this a_piece a_sent a_steps a_next a_lines_log a_lines_log_times a_lines_log_values a_lines a_lines_stretch a_lines_needs (0 : Int32) z3.1 r4 v_leastMask z3.2 A_sent A_steps A_next v_lines_log_size v_lines_log_promise v_lines_log_delay A_lines_log_times A_lines_log_values z2.1 z2.2.1 z2.2.2) := hD
    refine lv_aload_n hx hb dX9_refresh_39 rfl (lv_at hl 0 rfl) ?_
    obtain ⟨z5, e5, h⟩ := bd h
    refine muVV (ws' := (k_Thinning cC cI cZ a_this a_piece a_sent a_steps a_next a_lines_log a_lines_log_times a_lines_log_values a_lines a_lines_stretch a_lines_needs (0 : Int32) z3.1 r4 v_leastMask z3.2 z5 A_steps A_next v_lines_log_size v_lines_log_promise v_lines_log_delay A_lines_log_times A_lines_log_values z2.1 z2.2.1 z2.2.2)) X [] [] (c_Thinning_sendKept l D cC cI cZ a_this a_piece a_sent a_steps a_next a_lines_log a_lines_log_times a_lines_log_values a_lines a_lines_stretch a_lines_needs (0 : Int32) z3.1 r4 v_leastMask z3.2 A_sent A_steps A_next v_lines_log_size v_lines_log_promise v_lines_log_delay A_lines_log_times A_lines_log_values z2.1 z2.2.1 z2.2.2 _ z5 e5) gg_X9_63 hd_Thinning_sendKept ⟨rfl, rfl, Nat.le_of_ble_eq_true rfl, Nat.le_of_ble_eq_true rfl⟩ ⟨Nat.zero_le _, Nat.zero_le _⟩ hP hD hS hA [0, 1, 2, 3, 4, 5, 6, 7, 8, 9, 10] [] [0, 1, 2, 3, 4, 5, 6, 7, 8, 9, 10] rfl rfl (by decide) (by decide) rfl rfl rfl rfl rfl hl.1 rfl (Nat.le_of_ble_eq_true rfl) dX9_refresh_40 (fun H locs hP hD hS => ?_)
    refine lv_aload_n hx hb dX9_refresh_43 rfl (lv_at hl 0 rfl) ?_
    refine lv_aload_n hx hb dX9_refresh_44 rfl (lv_at hl 0 rfl) ?_
    obtain ⟨z6, e6, h⟩ := bd h
    refine muV (ws' := (k_Thinning cC cI cZ a_this a_piece a_sent a_steps a_next a_lines_log a_lines_log_times a_lines_log_values a_lines a_lines_stretch a_lines_needs (0 : Int32) z3.1 r4 v_leastMask z3.2 z5 z6.2.1 z6.2.2 v_lines_log_size v_lines_log_promise v_lines_log_delay A_lines_log_times A_lines_log_values z2.1 z2.2.1 z2.2.2)) X [] [.ref a_this] (c_Thinning_chooseLeast l D cC cI cZ a_this a_piece a_sent a_steps a_next a_lines_log a_lines_log_times a_lines_log_values a_lines a_lines_stretch a_lines_needs (0 : Int32) z3.1 r4 v_leastMask z3.2 z5 A_steps A_next v_lines_log_size v_lines_log_promise v_lines_log_delay A_lines_log_times A_lines_log_values z2.1 z2.2.1 z2.2.2 _ z6 e6) gg_X9_66 hd_Thinning_chooseLeast ⟨rfl, rfl, Nat.le_of_ble_eq_true rfl, Nat.le_of_ble_eq_true rfl⟩ ⟨Nat.zero_le _, Nat.zero_le _⟩ hP hD hS hA [0, 1, 2, 3, 4, 5, 6, 7, 8, 9, 10] [] [0, 1, 2, 3, 4, 5, 6, 7, 8, 9, 10] rfl rfl (by decide) (by decide) rfl rfl rfl rfl rfl hl.1 rfl (Nat.le_of_ble_eq_true rfl) dX9_refresh_45 (fun H locs hP hD hS n6 => ?_)
    refine va_put (ci := 9) (v := .int z6.1) (ty := .int) (C := RX9) (T := TX9) (N := 10) hx hb htT inlX9 tyX9 tyX9_ok nmX9 hown hK hP hD hS 0 rfl rfl 9 (by decide) (htT _ q_5_18) (fun _ h9 => h9) rfl (tyX9_ok 9 (by decide)) rfl rfl (Nat.le_of_ble_eq_true rfl) dX9_refresh_48 (fun H locs hP hD hS => ?_)
    have hP : va_P D vwCl (k_Thinning cC cI cZ a_this a_piece a_sent a_steps a_next a_lines_log a_lines_log_times a_lines_log_values a_lines a_lines_stretch a_lines_needs (0 : Int32) z3.1 r4 z6.1 z3.2 z5 z6.2.1 z6.2.2 v_lines_log_size v_lines_log_promise v_lines_log_delay A_lines_log_times A_lines_log_values z2.1 z2.2.1 z2.2.2) H := hP
    have hD : va_D A (k_Thinning cC cI cZ a_this a_piece a_sent a_steps a_next a_lines_log a_lines_log_times a_lines_log_values a_lines a_lines_stretch a_lines_needs (0 : Int32) z3.1 r4 z6.1 z3.2 z5 z6.2.1 z6.2.2 v_lines_log_size v_lines_log_promise v_lines_log_delay A_lines_log_times A_lines_log_values z2.1 z2.2.1 z2.2.2) := hD
    obtain rfl := Option.some.inj h
    exact hret _ _ _ _ hP hS dX9_refresh_51
  · have h := ip c1 h
    obtain rfl := Option.some.inj h
    exact hret _ _ _ _ hP hS dX9_refresh_7
set_option maxHeartbeats 4000000 in
set_option maxRecDepth 100000 in
theorem c_Thinning_sentAt (l : Launch) (D : va_G) (cC cI cZ : ClassId) (a_this : Nat) (a_piece : Nat) (a_sent : Nat) (a_steps : Nat) (a_next : Nat) (a_lines_log : Nat) (a_lines_log_times : Nat) (a_lines_log_values : Nat) (a_lines : Nat) (a_lines_stretch : Nat) (a_lines_needs : Nat) (v_isOutdated : Int32) (v_pieces : Int32) (v_doorMask : Int32) (v_leastMask : Int32) (A_piece : Nat → Int32) (A_sent : Nat → Int32) (A_steps : Nat → Int32) (A_next : Nat → Int32) (v_lines_log_size : Int32) (v_lines_log_promise : Int32) (v_lines_log_delay : Int32) (A_lines_log_times : Nat → Int32) (A_lines_log_values : Nat → Int32) (v_lines_stretches : Int32) (A_lines_stretch : Nat → Int32) (A_lines_needs : Nat → Int32) (p1 : Int32) (r : Int32) (h : f_Thinning_sentAt A_sent v_lines_log_size p1 = some r) : Met l yX9_sentAt (.code yX9_sentAt cX9_sentAt 2 (some .int) :: TBL) (RM 1 21) (PcR [.ref a_this, .int p1] D (TY cC cI cZ) (k_Thinning cC cI cZ a_this a_piece a_sent a_steps a_next a_lines_log a_lines_log_times a_lines_log_values a_lines a_lines_stretch a_lines_needs v_isOutdated v_pieces v_doorMask v_leastMask A_piece A_sent A_steps A_next v_lines_log_size v_lines_log_promise v_lines_log_delay A_lines_log_times A_lines_log_values v_lines_stretches A_lines_stretch A_lines_needs)) (vp_Si (PO .int r)) 0 0 (fun _ => False) := by
  refine roOf (by decide) (Nat.le_of_ble_eq_true rfl) rfl ?_
  intro p e s m args below meth c Q ls X hP hl hret
  have X : Ctx p s m args c cX9_sentAt 2 RX9 D (TY cC cI cZ) := X
  obtain ⟨hx, hb, hml, hown, htT, hK, hN⟩ := id X
  unfold f_Thinning_sentAt at h
  refine lv_aload_n hx hb dX9_sentAt_0 rfl (lv_at hl 0 rfl) ?_
  refine va_get (ci := 9) (v := .ref a_lines_log) (C := RX9) (T := TX9) (N := 10) hx hb htT inlX9 hown hK hP 0 rfl rfl 0 (by decide) (htT _ q_5_9) (fun _ h9 => h9) rfl dX9_sentAt_1 ?_
  refine lv_iload_n hx hb dX9_sentAt_4 rfl (lv_at hl 1 rfl) ?_
  refine roV X [.int p1] [] (c_Log_has l D cC cI cZ a_lines_log a_lines_log_times a_lines_log_values v_lines_log_size v_lines_log_promise v_lines_log_delay A_lines_log_times A_lines_log_values p1 _ rfl) gg_X9_70 hd_Log_has ⟨rfl, rfl, Nat.le_of_ble_eq_true rfl, Nat.le_of_ble_eq_true rfl⟩ ⟨Nat.zero_le _, Nat.zero_le _⟩ hP [5, 6, 7] rfl rfl rfl rfl hl.1 rfl (Nat.le_of_ble_eq_true rfl) dX9_sentAt_5 (fun n1 => ?_)
  refine lv_if_eq (tgt := 26) hx hb dX9_sentAt_8 (by decide) (fun c2 => ?_) (fun c2 => ?_)
  · have h := ip c2 h
    refine lv_bipush (v := (-9 : Int32)) hx hb dX9_sentAt_26 rfl ?_
    exact hret _ _ _ dX9_sentAt_28 (Option.some.inj h) rfl
  · have h := im c2 h
    refine lv_iload_n hx hb dX9_sentAt_11 rfl (lv_at hl 1 rfl) ?_
    refine lv_bipush (v := (14 : Int32)) hx hb dX9_sentAt_12 rfl ?_
    refine lv_icmp_ge (tgt := 26) hx hb dX9_sentAt_14 (by decide) (fun c3 => ?_) (fun c3 => ?_)
    · have h := ip c3 h
      refine lv_bipush (v := (-9 : Int32)) hx hb dX9_sentAt_26 rfl ?_
      exact hret _ _ _ dX9_sentAt_28 (Option.some.inj h) rfl
    · have h := im c3 h
      refine lv_aload_n hx hb dX9_sentAt_17 rfl (lv_at hl 0 rfl) ?_
      refine va_get (ci := 9) (v := .ref a_sent) (C := RX9) (T := TX9) (N := 10) hx hb htT inlX9 hown hK hP 0 rfl rfl 3 (by decide) (htT _ q_5_12) (fun _ h9 => h9) rfl dX9_sentAt_18 ?_
      refine lv_iload_n hx hb dX9_sentAt_21 rfl (lv_at hl 1 rfl) ?_
      obtain ⟨g4, h⟩ := gd h
      refine va_iald hx hb hK hP 2 1 rfl rfl (inB_in g4) dX9_sentAt_22 ?_
      refine lv_goto (tgt := 28) hx hb dX9_sentAt_23 (by decide) ?_
      exact hret _ _ _ dX9_sentAt_28 (Option.some.inj h) rfl
set_option maxHeartbeats 4000000 in
set_option maxRecDepth 100000 in
theorem c_Thinning_longestWait (l : Launch) (D : va_G) (cC cI cZ : ClassId) (a_this : Nat) (a_piece : Nat) (a_sent : Nat) (a_steps : Nat) (a_next : Nat) (a_lines_log : Nat) (a_lines_log_times : Nat) (a_lines_log_values : Nat) (a_lines : Nat) (a_lines_stretch : Nat) (a_lines_needs : Nat) (v_isOutdated : Int32) (v_pieces : Int32) (v_doorMask : Int32) (v_leastMask : Int32) (A_piece : Nat → Int32) (A_sent : Nat → Int32) (A_steps : Nat → Int32) (A_next : Nat → Int32) (v_lines_log_size : Int32) (v_lines_log_promise : Int32) (v_lines_log_delay : Int32) (A_lines_log_times : Nat → Int32) (A_lines_log_values : Nat → Int32) (v_lines_stretches : Int32) (A_lines_stretch : Nat → Int32) (A_lines_needs : Nat → Int32)  (r : Int32) (h : f_Thinning_longestWait v_doorMask A_sent v_lines_log_size A_lines_log_times A_lines_log_values = some r) : Met l yX9_longestWait (.code yX9_longestWait cX9_longestWait 4 (some .int) :: TBL) (RM 2 42) (PcR [.ref a_this] D (TY cC cI cZ) (k_Thinning cC cI cZ a_this a_piece a_sent a_steps a_next a_lines_log a_lines_log_times a_lines_log_values a_lines a_lines_stretch a_lines_needs v_isOutdated v_pieces v_doorMask v_leastMask A_piece A_sent A_steps A_next v_lines_log_size v_lines_log_promise v_lines_log_delay A_lines_log_times A_lines_log_values v_lines_stretches A_lines_stretch A_lines_needs)) (vp_Si (PO .int r)) 0 0 (fun _ => False) := by
  refine roOf (by decide) (Nat.le_of_ble_eq_true rfl) rfl ?_
  intro p e s m args below meth c Q ls X hP hl hret
  have X : Ctx p s m args c cX9_longestWait 4 RX9 D (TY cC cI cZ) := X
  obtain ⟨hx, hb, hml, hown, htT, hK, hN⟩ := id X
  unfold f_Thinning_longestWait at h
  refine lv_bipush (v := (-9 : Int32)) hx hb dX9_longestWait_0 rfl ?_
  refine lv_istore_n (lv' := [(1, .int (-9 : Int32)), (0, .ref a_this)]) hx hb dX9_longestWait_2 rfl hl (by decide) rfl (fun ls hl => ?_)
  refine lv_bipush (v := (-9 : Int32)) hx hb dX9_longestWait_3 rfl ?_
  refine lv_istore_n (lv' := [(2, .int (-9 : Int32)), (1, .int (-9 : Int32)), (0, .ref a_this)]) hx hb dX9_longestWait_5 rfl hl (by decide) rfl (fun ls hl => ?_)
  refine lv_aload_n hx hb dX9_longestWait_6 rfl (lv_at hl 2 rfl) ?_
  refine va_get (ci := 9) (v := .ref a_lines_log) (C := RX9) (T := TX9) (N := 10) hx hb htT inlX9 hown hK hP 0 rfl rfl 0 (by decide) (htT _ q_5_9) (fun _ h9 => h9) rfl dX9_longestWait_7 ?_
  refine va_getN (ci := 3) (v := .int v_lines_log_size) (C := RX3) (T := TX3) (N := 5) hx hb htT inlX3 hown hK hP 5 rfl rfl 2 (by decide) (va_Nw.use rfl (hN _ qn_9)) (fun _ h9 => h9) rfl dX9_longestWait_10 ?_
  refine lv_iconst (v := (1 : Int32)) hx hb dX9_longestWait_13 rfl ?_
  refine lv_isub hx hb dX9_longestWait_14 ?_
  refine lv_istore_n (lv' := [(3, .int (v_lines_log_size - (1 : Int32))), (2, .int (-9 : Int32)), (1, .int (-9 : Int32)), (0, .ref a_this)]) hx hb dX9_longestWait_15 rfl hl (by decide) rfl (fun ls hl => ?_)
  have LP16 : ∀ (n : Nat) (y16_1 : Int32) (y16_2 : Int32) (y16_3 : Int32) (zq16 : Int32), f_Thinning_longestWait_L16 v_doorMask A_sent v_lines_log_size A_lines_log_times A_lines_log_values n y16_1 y16_2 y16_3 = some zq16 → ∀ (ls : Array Slot), lv_has ls 4 [(0, .ref a_this), (1, .int y16_1), (2, .int y16_2), (3, .int y16_3)] → (∀ (ls : Array Slot), lv_has ls 4 [(1, .int zq16)] → W p l e (RM 2 42) s m args below meth c s.heap [] 0 0 Q (F0 m 73 ls [])) → W p l e (RM 2 42) s m args below meth c s.heap [] 0 0 Q (F0 m 16 ls []) := by
    clear h
    intro n
    induction n with
    | zero =>
      intro y16_1 y16_2 y16_3 zq16 h
      rw [f_Thinning_longestWait_L16_0] at h
      cases h
    | succ n ih16 =>
      intro y16_1 y16_2 y16_3 zq16 h ls hl k16_0
      rw [f_Thinning_longestWait_L16_s] at h
      refine lv_iload_n hx hb dX9_longestWait_16 rfl (lv_at hl 3 rfl) ?_
      refine lv_if_lt (tgt := 73) hx hb dX9_longestWait_17 (by decide) (fun c2 => ?_) (fun c2 => ?_)
      · have h := ip c2 h
        obtain rfl := Option.some.inj h
        exact k16_0 _ (lv_sub hl [1] rfl)
      · have h := im c2 h
        refine lv_aload_n hx hb dX9_longestWait_20 rfl (lv_at hl 0 rfl) ?_
        refine va_get (ci := 9) (v := .ref a_lines_log) (C := RX9) (T := TX9) (N := 10) hx hb htT inlX9 hown hK hP 0 rfl rfl 0 (by decide) (htT _ q_5_9) (fun _ h9 => h9) rfl dX9_longestWait_21 ?_
        refine lv_iload_n hx hb dX9_longestWait_24 rfl (lv_at hl 3 rfl) ?_
        obtain ⟨r3, e3, h⟩ := bd h
        refine roV X [.int y16_3] [] (c_Log_isKnown l D cC cI cZ a_lines_log a_lines_log_times a_lines_log_values v_lines_log_size v_lines_log_promise v_lines_log_delay A_lines_log_times A_lines_log_values y16_3 r3 e3) gg_X9_80 hd_Log_isKnown ⟨rfl, rfl, Nat.le_of_ble_eq_true rfl, Nat.le_of_ble_eq_true rfl⟩ ⟨Nat.zero_le _, Nat.zero_le _⟩ hP [5, 6, 7] rfl rfl rfl rfl hl.1 rfl (Nat.le_of_ble_eq_true rfl) dX9_longestWait_25 (fun n3 => ?_)
        refine lv_if_ne (tgt := 34) hx hb dX9_longestWait_28 (by decide) (fun c4 => ?_) (fun c4 => ?_)
        · have h := im c4 h
          refine lv_aload_n hx hb dX9_longestWait_34 rfl (lv_at hl 0 rfl) ?_
          refine va_get (ci := 9) (v := .int v_doorMask) (C := RX9) (T := TX9) (N := 10) hx hb htT inlX9 hown hK hP 0 rfl rfl 8 (by decide) (htT _ q_5_17) (fun _ h9 => h9) rfl dX9_longestWait_35 ?_
          refine lv_iload_n hx hb dX9_longestWait_38 rfl (lv_at hl 3 rfl) ?_
          refine roSN X [.int v_doorMask, .int y16_3] [] (c_TR_bitAt l D cC cI cZ v_doorMask y16_3 _ rfl) q_20_2 qn_31 q_1_2 q_20_1 hd_TR_bitAt ⟨rfl, rfl, Nat.le_of_ble_eq_true rfl, Nat.le_of_ble_eq_true rfl⟩ ⟨Nat.zero_le _, Nat.zero_le _⟩ hP [] rfl hl.1 rfl (Nat.le_of_ble_eq_true rfl) dX9_longestWait_39 (fun n5 => ?_)
          refine lv_iconst (v := (1 : Int32)) hx hb dX9_longestWait_42 rfl ?_
          refine lv_icmp_ne (tgt := 52) hx hb dX9_longestWait_43 (by decide) (fun c6 => ?_) (fun c6 => ?_)
          · have h := im c6 h
            refine lv_iload_n hx hb dX9_longestWait_52 rfl (lv_at hl 1 rfl) ?_
            refine lv_iload_n hx hb dX9_longestWait_53 rfl (lv_at hl 2 rfl) ?_
            refine lv_aload_n hx hb dX9_longestWait_54 rfl (lv_at hl 0 rfl) ?_
            refine va_get (ci := 9) (v := .ref a_lines_log) (C := RX9) (T := TX9) (N := 10) hx hb htT inlX9 hown hK hP 0 rfl rfl 0 (by decide) (htT _ q_5_9) (fun _ h9 => h9) rfl dX9_longestWait_55 ?_
            refine lv_iload_n hx hb dX9_longestWait_58 rfl (lv_at hl 3 rfl) ?_
            obtain ⟨r9, e9, h⟩ := bd h
            refine roV X [.int y16_3] [.int y16_2, .int y16_1] (c_Log_timeAt l D cC cI cZ a_lines_log a_lines_log_times a_lines_log_values v_lines_log_size v_lines_log_promise v_lines_log_delay A_lines_log_times A_lines_log_values y16_3 r9 e9) gg_X9_100 hd_Log_timeAt ⟨rfl, rfl, Nat.le_of_ble_eq_true rfl, Nat.le_of_ble_eq_true rfl⟩ ⟨Nat.zero_le _, Nat.zero_le _⟩ hP [5, 6, 7] rfl rfl rfl rfl hl.1 rfl (Nat.le_of_ble_eq_true rfl) dX9_longestWait_59 (fun n9 => ?_)
            refine lv_isub hx hb dX9_longestWait_62 ?_
            refine va_mmax hx hb (hml.trans hl.1.symm) hown (htT _ q_35_1) (htT _ q_33_4) (htT _ q_16_16) (htT _ q_33_5) (Nat.le_of_ble_eq_true rfl) (Nat.le_of_ble_eq_true rfl) (Nat.zero_le _) (Nat.zero_le _) dX9_longestWait_63 ?_
            refine lv_istore_n (lv' := [(1, .int (if y16_1 < (y16_2 - r9) then (y16_2 - r9) else y16_1)), (0, .ref a_this), (2, .int y16_2), (3, .int y16_3)]) hx hb dX9_longestWait_66 rfl hl (by decide) rfl (fun ls hl => ?_)
            refine lv_iinc (v := (y16_3 + (-1 : Int32))) (lv' := [(3, .int (y16_3 + (-1 : Int32))), (1, .int (if y16_1 < (y16_2 - r9) then (y16_2 - r9) else y16_1)), (0, .ref a_this), (2, .int y16_2)]) hx hb dX9_longestWait_67 hl (k := 3) rfl rfl (by decide) rfl (fun ls hl => ?_)
            refine lv_goto (tgt := 16) hx hb dX9_longestWait_70 (by decide) ?_
            exact ih16 (if y16_1 < (y16_2 - r9) then (y16_2 - r9) else y16_1) y16_2 (y16_3 + (-1 : Int32)) _ h _ (lv_sub hl [2, 1, 3, 0] rfl) k16_0
          · have h := ip c6 h
            refine lv_aload_n hx hb dX9_longestWait_46 rfl (lv_at hl 0 rfl) ?_
            refine lv_iload_n hx hb dX9_longestWait_47 rfl (lv_at hl 3 rfl) ?_
            obtain ⟨r7, e7, h⟩ := bd h
            refine roV X [.int y16_3] [] (c_Thinning_sentAt l D cC cI cZ a_this a_piece a_sent a_steps a_next a_lines_log a_lines_log_times a_lines_log_values a_lines a_lines_stretch a_lines_needs v_isOutdated v_pieces v_doorMask v_leastMask A_piece A_sent A_steps A_next v_lines_log_size v_lines_log_promise v_lines_log_delay A_lines_log_times A_lines_log_values v_lines_stretches A_lines_stretch A_lines_needs y16_3 r7 e7) gg_X9_103 hd_Thinning_sentAt ⟨rfl, rfl, Nat.le_of_ble_eq_true rfl, Nat.le_of_ble_eq_true rfl⟩ ⟨Nat.zero_le _, Nat.zero_le _⟩ hP [0, 1, 2, 3, 4, 5, 6, 7, 8, 9, 10] rfl rfl rfl rfl hl.1 rfl (Nat.le_of_ble_eq_true rfl) dX9_longestWait_48 (fun n7 => ?_)
            refine lv_istore_n (lv' := [(2, .int r7), (0, .ref a_this), (1, .int y16_1), (3, .int y16_3)]) hx hb dX9_longestWait_51 rfl hl (by decide) rfl (fun ls hl => ?_)
            refine lv_iload_n hx hb dX9_longestWait_52 rfl (lv_at hl 2 rfl) ?_
            refine lv_iload_n hx hb dX9_longestWait_53 rfl (lv_at hl 0 rfl) ?_
            refine lv_aload_n hx hb dX9_longestWait_54 rfl (lv_at hl 1 rfl) ?_
            refine va_get (ci := 9) (v := .ref a_lines_log) (C := RX9) (T := TX9) (N := 10) hx hb htT inlX9 hown hK hP 0 rfl rfl 0 (by decide) (htT _ q_5_9) (fun _ h9 => h9) rfl dX9_longestWait_55 ?_
            refine lv_iload_n hx hb dX9_longestWait_58 rfl (lv_at hl 3 rfl) ?_
            obtain ⟨r8, e8, h⟩ := bd h
            refine roV X [.int y16_3] [.int r7, .int y16_1] (c_Log_timeAt l D cC cI cZ a_lines_log a_lines_log_times a_lines_log_values v_lines_log_size v_lines_log_promise v_lines_log_delay A_lines_log_times A_lines_log_values y16_3 r8 e8) gg_X9_100 hd_Log_timeAt ⟨rfl, rfl, Nat.le_of_ble_eq_true rfl, Nat.le_of_ble_eq_true rfl⟩ ⟨Nat.zero_le _, Nat.zero_le _⟩ hP [5, 6, 7] rfl rfl rfl rfl hl.1 rfl (Nat.le_of_ble_eq_true rfl) dX9_longestWait_59 (fun n8 => ?_)
            refine lv_isub hx hb dX9_longestWait_62 ?_
            refine va_mmax hx hb (hml.trans hl.1.symm) hown (htT _ q_35_1) (htT _ q_33_4) (htT _ q_16_16) (htT _ q_33_5) (Nat.le_of_ble_eq_true rfl) (Nat.le_of_ble_eq_true rfl) (Nat.zero_le _) (Nat.zero_le _) dX9_longestWait_63 ?_
            refine lv_istore_n (lv' := [(1, .int (if y16_1 < (r7 - r8) then (r7 - r8) else y16_1)), (2, .int r7), (0, .ref a_this), (3, .int y16_3)]) hx hb dX9_longestWait_66 rfl hl (by decide) rfl (fun ls hl => ?_)
            refine lv_iinc (v := (y16_3 + (-1 : Int32))) (lv' := [(3, .int (y16_3 + (-1 : Int32))), (1, .int (if y16_1 < (r7 - r8) then (r7 - r8) else y16_1)), (2, .int r7), (0, .ref a_this)]) hx hb dX9_longestWait_67 hl (k := 3) rfl rfl (by decide) rfl (fun ls hl => ?_)
            refine lv_goto (tgt := 16) hx hb dX9_longestWait_70 (by decide) ?_
            exact ih16 (if y16_1 < (r7 - r8) then (r7 - r8) else y16_1) r7 (y16_3 + (-1 : Int32)) _ h _ (lv_sub hl [3, 1, 2, 0] rfl) k16_0
        · have h := ip c4 h
          refine lv_goto (tgt := 67) hx hb dX9_longestWait_31 (by decide) ?_
          refine lv_iinc (v := (y16_3 + (-1 : Int32))) (lv' := [(3, .int (y16_3 + (-1 : Int32))), (0, .ref a_this), (1, .int y16_1), (2, .int y16_2)]) hx hb dX9_longestWait_67 hl (k := 3) rfl rfl (by decide) rfl (fun ls hl => ?_)
          refine lv_goto (tgt := 16) hx hb dX9_longestWait_70 (by decide) ?_
          exact ih16 y16_1 y16_2 (y16_3 + (-1 : Int32)) _ h _ (lv_sub hl [1, 2, 3, 0] rfl) k16_0
  obtain ⟨z1, e1, h⟩ := bd h
  refine LP16 fu (-9 : Int32) (-9 : Int32) (v_lines_log_size - (1 : Int32)) z1 e1 _ (lv_sub hl [3, 2, 1, 0] rfl) ?_
  intro ls hl
  refine lv_iload_n hx hb dX9_longestWait_73 rfl (lv_at hl 0 rfl) ?_
  exact hret _ _ _ dX9_longestWait_74 (Option.some.inj h) rfl
set_option maxHeartbeats 4000000 in
set_option maxRecDepth 100000 in
theorem c_Thinning_pieceAt (l : Launch) (D : va_G) (cC cI cZ : ClassId) (a_this : Nat) (a_piece : Nat) (a_sent : Nat) (a_steps : Nat) (a_next : Nat) (a_lines_log : Nat) (a_lines_log_times : Nat) (a_lines_log_values : Nat) (a_lines : Nat) (a_lines_stretch : Nat) (a_lines_needs : Nat) (v_isOutdated : Int32) (v_pieces : Int32) (v_doorMask : Int32) (v_leastMask : Int32) (A_piece : Nat → Int32) (A_sent : Nat → Int32) (A_steps : Nat → Int32) (A_next : Nat → Int32) (v_lines_log_size : Int32) (v_lines_log_promise : Int32) (v_lines_log_delay : Int32) (A_lines_log_times : Nat → Int32) (A_lines_log_values : Nat → Int32) (v_lines_stretches : Int32) (A_lines_stretch : Nat → Int32) (A_lines_needs : Nat → Int32) (p1 : Int32) (r : Int32) (h : f_Thinning_pieceAt A_piece v_lines_log_size p1 = some r) : Met l yX9_pieceAt (.code yX9_pieceAt cX9_pieceAt 2 (some .int) :: TBL) (RM 1 21) (PcR [.ref a_this, .int p1] D (TY cC cI cZ) (k_Thinning cC cI cZ a_this a_piece a_sent a_steps a_next a_lines_log a_lines_log_times a_lines_log_values a_lines a_lines_stretch a_lines_needs v_isOutdated v_pieces v_doorMask v_leastMask A_piece A_sent A_steps A_next v_lines_log_size v_lines_log_promise v_lines_log_delay A_lines_log_times A_lines_log_values v_lines_stretches A_lines_stretch A_lines_needs)) (vp_Si (PO .int r)) 0 0 (fun _ => False) := by
  refine roOf (by decide) (Nat.le_of_ble_eq_true rfl) rfl ?_
  intro p e s m args below meth c Q ls X hP hl hret
  have X : Ctx p s m args c cX9_pieceAt 2 RX9 D (TY cC cI cZ) := X
  obtain ⟨hx, hb, hml, hown, htT, hK, hN⟩ := id X
  unfold f_Thinning_pieceAt at h
  refine lv_aload_n hx hb dX9_pieceAt_0 rfl (lv_at hl 0 rfl) ?_
  refine va_get (ci := 9) (v := .ref a_lines_log) (C := RX9) (T := TX9) (N := 10) hx hb htT inlX9 hown hK hP 0 rfl rfl 0 (by decide) (htT _ q_5_9) (fun _ h9 => h9) rfl dX9_pieceAt_1 ?_
  refine lv_iload_n hx hb dX9_pieceAt_4 rfl (lv_at hl 1 rfl) ?_
  refine roV X [.int p1] [] (c_Log_has l D cC cI cZ a_lines_log a_lines_log_times a_lines_log_values v_lines_log_size v_lines_log_promise v_lines_log_delay A_lines_log_times A_lines_log_values p1 _ rfl) gg_X9_70 hd_Log_has ⟨rfl, rfl, Nat.le_of_ble_eq_true rfl, Nat.le_of_ble_eq_true rfl⟩ ⟨Nat.zero_le _, Nat.zero_le _⟩ hP [5, 6, 7] rfl rfl rfl rfl hl.1 rfl (Nat.le_of_ble_eq_true rfl) dX9_pieceAt_5 (fun n1 => ?_)
  refine lv_if_eq (tgt := 26) hx hb dX9_pieceAt_8 (by decide) (fun c2 => ?_) (fun c2 => ?_)
  · have h := ip c2 h
    refine lv_bipush (v := (-9 : Int32)) hx hb dX9_pieceAt_26 rfl ?_
    exact hret _ _ _ dX9_pieceAt_28 (Option.some.inj h) rfl
  · have h := im c2 h
    refine lv_iload_n hx hb dX9_pieceAt_11 rfl (lv_at hl 1 rfl) ?_
    refine lv_bipush (v := (14 : Int32)) hx hb dX9_pieceAt_12 rfl ?_
    refine lv_icmp_ge (tgt := 26) hx hb dX9_pieceAt_14 (by decide) (fun c3 => ?_) (fun c3 => ?_)
    · have h := ip c3 h
      refine lv_bipush (v := (-9 : Int32)) hx hb dX9_pieceAt_26 rfl ?_
      exact hret _ _ _ dX9_pieceAt_28 (Option.some.inj h) rfl
    · have h := im c3 h
      refine lv_aload_n hx hb dX9_pieceAt_17 rfl (lv_at hl 0 rfl) ?_
      refine va_get (ci := 9) (v := .ref a_piece) (C := RX9) (T := TX9) (N := 10) hx hb htT inlX9 hown hK hP 0 rfl rfl 2 (by decide) (htT _ q_5_11) (fun _ h9 => h9) rfl dX9_pieceAt_18 ?_
      refine lv_iload_n hx hb dX9_pieceAt_21 rfl (lv_at hl 1 rfl) ?_
      obtain ⟨g4, h⟩ := gd h
      refine va_iald hx hb hK hP 1 1 rfl rfl (inB_in g4) dX9_pieceAt_22 ?_
      refine lv_goto (tgt := 28) hx hb dX9_pieceAt_23 (by decide) ?_
      exact hret _ _ _ dX9_pieceAt_28 (Option.some.inj h) rfl

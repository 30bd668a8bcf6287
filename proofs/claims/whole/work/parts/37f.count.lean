/-! ===== pure: count, reading ===== -/
theorem fresh_door {n p d : Nat} {T V now : Nat → Int32} (h : LW n p d T V) (hr : RowIs now n p d T V) {st : Int32} {S N : Nat → Int32} {pcs dm lm : Int32} {PA SE : Nat → Int32} (hF : Fresh n V T st S N pcs dm lm PA SE now) : Kept n V dm ∧ (∀ q : Nat, q < n → SE q = if bt dm q = true then sentV n d T V dm q else -9) ∧ (∀ q : Nat, n ≤ q → q < 32 → bt dm q = false) ∧ (∀ q : Nat, n ≤ q → q < 32 → bt lm q = false) := by
  have hn := h.1
  have hp := h.2.1
  obtain ⟨f1, f2, f3, f4, f5, f6, f7, f8⟩ := hF
  have e := doorM h hr (show p ≤ 99 by omega)
  rw [hr.2.1, e] at f4
  injection f4 with f4
  subst f4
  have hD := door_kept (p := p) h
  refine ⟨hD, fun q hq => ?_, fun q a b => ?_, fun q a b => ?_⟩
  · cases hb : bt (Mr n d p T V n 0 0) q
    · exact f5 q hq (by rw [has_bt _ (by omega), hb]; rfl)
    · have := f6 q hq (by rw [has_bt _ (by omega), hb]; rfl)
      rw [sentM h hr hD hq hb] at this
      injection this with this
      exact this.symm
  · cases hb : bt (Mr n d p T V n 0 0) q
    · rfl
    · have := Kn_lt (hD.1 q b hb); omega
  · obtain ⟨S', N', e1, s1, s2⟩ := mall h 0 (fun _ => 0) (fun _ => 0)
    obtain ⟨lm', ST', NX', e4, g1, g2⟩ := least_ok h hr (show NeedsOk n T V N' from s2) (fun _ => 0) (fun _ => 0)
    obtain ⟨w1, h1⟩ := f7 (fun _ => 0)
    obtain ⟨w2, h2⟩ := g1 (fun _ => 0)
    rw [h1] at h2
    injection h2 with h2
    injection h2 with h2 _
    rw [h2]; exact g2 q a b
theorem p_count (v_text_length : Int32) (A_text_letters : Nat → Int32) (v_parser_at : Int32) (v_parser_kind : Int32) (v_parser_place : Int32) (v_parser_number : Int32) (v_parser_isPromiseTold : Int32) (v_parser_isDelayTold : Int32) (v_parser_draft_size : Int32) (v_parser_draft_promise : Int32) (v_parser_draft_delay : Int32) (A_parser_draft_times : Nat → Int32) (A_parser_draft_values : Nat → Int32) (v_log_size : Int32) (v_log_promise : Int32) (v_log_delay : Int32) (A_log_times : Nat → Int32) (A_log_values : Nat → Int32) (v_history_next : Int32) (v_history_size : Int32) (v_history_ring_places : Int32) (v_history_ring_filled : Int32) (A_history_ring_cells : Nat → Int32) (v_images_places : Int32) (v_images_filled : Int32) (A_images_cells : Nat → Int32) (v_lines_stretches : Int32) (A_lines_stretch : Nat → Int32) (A_lines_needs : Nat → Int32) (v_thinning_isOutdated : Int32) (v_thinning_pieces : Int32) (v_thinning_doorMask : Int32) (v_thinning_leastMask : Int32) (A_thinning_piece : Nat → Int32) (A_thinning_sent : Nat → Int32) (A_thinning_steps : Nat → Int32) (A_thinning_next : Nat → Int32) (v_seen_size : Int32) (v_seen_keptMask : Int32) (v_seen_droppedMask : Int32) (v_survey_isOutdated : Int32) (v_survey_possible : Int32) (v_survey_least : Int32) (v_survey_greatest : Int32) (A_survey_doorMasks : Nat → Int32) (v_fraction_upper : Int32) (v_fraction_lower : Int32) (v_undoMany : Int32) (v_undoAt : Int32) (v_seenMany : Int32) (v_letterMany : Int32) (v_readAt : Int32) (v_tokenAt : Int32) (v_token : Int32) (v_value : Int32) (v_faultAt : Int32) (v_readOnce : Int32) (v_greatUpper : Int64) (v_greatLower : Int64) (A_now : Nat → Int32) (A_undos : Nat → Int32) (A_seen : Nat → Int32) (A_seenAs : Nat → Int32) (A_isKept : Nat → Int32) (A_kept : Nat → Int32) (A_text : Nat → Int32) (A_read : Nat → Int32) (A_fewest : Nat → Int32) (A_doors : Nat → Int32) (A_isSo : Nat → Int32) (p1 : Int32) (h : Rel v_text_length A_text_letters v_log_size v_log_promise v_log_delay A_log_times A_log_values v_history_next v_history_size v_history_ring_places v_history_ring_filled A_history_ring_cells v_images_places v_images_filled A_images_cells v_lines_stretches A_lines_stretch A_lines_needs v_thinning_isOutdated v_thinning_pieces v_thinning_doorMask v_thinning_leastMask A_thinning_piece A_thinning_sent v_seen_size v_seen_keptMask v_seen_droppedMask v_survey_isOutdated A_survey_doorMasks v_undoMany v_undoAt v_seenMany v_letterMany A_now A_undos A_seen A_seenAs A_isKept A_kept A_text) : ∃ (zX : Int32 × Int32 × (Nat → Int32) × (Nat → Int32) × Int32 × Int32 × Int32 × Int32 × (Nat → Int32) × (Nat → Int32) × (Nat → Int32) × (Nat → Int32)) (zM : Int32 × Int64 × Int64 × (Nat → Int32)), f_TR_count v_text_length v_log_size v_log_promise v_log_delay A_log_times A_log_values v_history_size v_lines_stretches A_lines_stretch A_lines_needs v_thinning_isOutdated v_thinning_pieces v_thinning_doorMask v_thinning_leastMask A_thinning_piece A_thinning_sent A_thinning_steps A_thinning_next v_seen_size p1 = some zX ∧ f_Mo_count v_undoMany v_seenMany v_letterMany v_greatUpper v_greatLower A_now A_fewest p1 = some zM ∧ zX.1 = zM.1 ∧ Rel v_text_length A_text_letters v_log_size v_log_promise v_log_delay A_log_times A_log_values v_history_next v_history_size v_history_ring_places v_history_ring_filled A_history_ring_cells v_images_places v_images_filled A_images_cells zX.2.1 zX.2.2.1 zX.2.2.2.1 zX.2.2.2.2.1 zX.2.2.2.2.2.1 zX.2.2.2.2.2.2.1 zX.2.2.2.2.2.2.2.1 zX.2.2.2.2.2.2.2.2.1 zX.2.2.2.2.2.2.2.2.2.1 v_seen_size v_seen_keptMask v_seen_droppedMask v_survey_isOutdated A_survey_doorMasks v_undoMany v_undoAt v_seenMany v_letterMany A_now A_undos A_seen A_seenAs A_isKept A_kept A_text := by
  obtain ⟨hT, ⟨n, p, d, hw, rfl, rfl, rfl, hrow⟩, hHi, hI, hTh, hSe, hSu⟩ := h
  have hn := hw.1
  have hp := hw.2.1
  rw [nI_clamp (show n < 2 ^ 31 by omega)] at hTh
  obtain ⟨pcs', dm', lm', PA', SE', ST', NX', st', S', N', e, hF⟩ := refresh_ok hw hrow hTh A_thinning_steps A_thinning_next
  have i0 : inB (0 : Int32) 31 = true := by decide
  have z0 : ((0 : Int32)).toNatClampNeg = 0 := rfl
  have i1 : inB (1 : Int32) 31 = true := by decide
  have z1 : ((1 : Int32)).toNatClampNeg = 1 := rfl
  have i2 : inB (2 : Int32) 31 = true := by decide
  have z2 : ((2 : Int32)).toNatClampNeg = 2 := rfl
  obtain ⟨hD, hS, hb, hb2⟩ := fresh_door hw hrow hF
  have fin := ThinR_of hF
  rw [← nI_clamp (show n < 2 ^ 31 by omega)] at fin
  obtain ⟨f1, f2, f3, f4, f5, f6, f7, f8⟩ := hF
  obtain ⟨set, g1, g2, q1, q2, q3⟩ := f8 v_greatUpper v_greatLower
  obtain ⟨fw', q4⟩ := f7 A_fewest
  obtain ⟨r, q5, q6⟩ := late_ok hw hrow hD f4 hS
  have q7 := pop_ok (D := dm') (fun q a b => hb q (by omega) b)
  have q8 := pop_ok (D := lm') (fun q a b => hb2 q (by omega) b)
  have q9 : v_text_length = v_letterMany := by obtain ⟨m, -, a, b, -⟩ := hT; rw [a, b]
  have q10 : v_history_size = v_undoMany := by obtain ⟨a, m, -, -, -, -, b, c, -⟩ := hHi; rw [b, c]
  have q11 : v_seen_size = v_seenMany := by obtain ⟨m, -, a, b, -⟩ := hSe; rw [a, b]
  have rel := (⟨hT, ⟨n, p, d, hw, rfl, rfl, rfl, hrow⟩, hHi, hI, fin, hSe, hSu⟩ : Rel v_text_length A_text_letters (nI n) (nI p) (nI d) A_log_times A_log_values v_history_next v_history_size v_history_ring_places v_history_ring_filled A_history_ring_cells v_images_places v_images_filled A_images_cells st' S' N' 0 pcs' dm' lm' PA' SE' v_seen_size v_seen_keptMask v_seen_droppedMask v_survey_isOutdated A_survey_doorMasks v_undoMany v_undoAt v_seenMany v_letterMany A_now A_undos A_seen A_seenAs A_isKept A_kept A_text)
  unfold f_TR_count f_Mo_count
  rw [e, Option.bind_some]
  simp only [i0, z0, i1, z1, i2, z2, ↓reduceIte, f1, f4, q1, q2, q4, q5, q6, q7.1, q7.2, q8.1, q8.2, Option.bind_some]
  by_cases c : p1 = 0
  · rw [if_pos c, if_pos c]; exact ⟨_, _, rfl, rfl, hrow.1.symm, rel⟩
  rw [if_neg c, if_neg c]; clear c
  by_cases c : p1 = 1
  · rw [if_pos c, if_pos c]; exact ⟨_, _, rfl, rfl, hrow.2.1.symm, rel⟩
  rw [if_neg c, if_neg c]; clear c
  by_cases c : p1 = 2
  · rw [if_pos c, if_pos c]; exact ⟨_, _, rfl, rfl, hrow.2.2.1.symm, rel⟩
  rw [if_neg c, if_neg c]; clear c
  by_cases c : p1 = 3
  · rw [if_pos c, if_pos c]; exact ⟨_, _, rfl, rfl, rfl, rel⟩
  rw [if_neg c, if_neg c]; clear c
  by_cases c : p1 = 4
  · rw [if_pos c, if_pos c]; exact ⟨_, _, rfl, rfl, rfl, rel⟩
  rw [if_neg c, if_neg c]; clear c
  by_cases c : p1 = 5
  · rw [if_pos c, if_pos c]; exact ⟨_, _, rfl, rfl, rfl, rel⟩
  rw [if_neg c, if_neg c]; clear c
  by_cases c : p1 = 6
  · rw [if_pos c, if_pos c]; exact ⟨_, _, rfl, rfl, rfl, rel⟩
  rw [if_neg c, if_neg c]; clear c
  by_cases c : p1 = 7
  · rw [if_pos c, if_pos c]; exact ⟨_, _, rfl, rfl, rfl, rel⟩
  rw [if_neg c, if_neg c]; clear c
  by_cases c : p1 = 8
  · rw [if_pos c, if_pos c]; exact ⟨_, _, rfl, rfl, q11, rel⟩
  rw [if_neg c, if_neg c]; clear c
  by_cases c : p1 = 9
  · rw [if_pos c, if_pos c]; exact ⟨_, _, rfl, rfl, q9, rel⟩
  rw [if_neg c, if_neg c]; clear c
  by_cases c : p1 = 10
  · rw [if_pos c, if_pos c]; exact ⟨_, _, rfl, rfl, q10, rel⟩
  rw [if_neg c, if_neg c]; clear c
  exact ⟨_, _, rfl, rfl, rfl, rel⟩
theorem p_reading (v_text_length : Int32) (A_text_letters : Nat → Int32) (v_parser_at : Int32) (v_parser_kind : Int32) (v_parser_place : Int32) (v_parser_number : Int32) (v_parser_isPromiseTold : Int32) (v_parser_isDelayTold : Int32) (v_parser_draft_size : Int32) (v_parser_draft_promise : Int32) (v_parser_draft_delay : Int32) (A_parser_draft_times : Nat → Int32) (A_parser_draft_values : Nat → Int32) (v_log_size : Int32) (v_log_promise : Int32) (v_log_delay : Int32) (A_log_times : Nat → Int32) (A_log_values : Nat → Int32) (v_history_next : Int32) (v_history_size : Int32) (v_history_ring_places : Int32) (v_history_ring_filled : Int32) (A_history_ring_cells : Nat → Int32) (v_images_places : Int32) (v_images_filled : Int32) (A_images_cells : Nat → Int32) (v_lines_stretches : Int32) (A_lines_stretch : Nat → Int32) (A_lines_needs : Nat → Int32) (v_thinning_isOutdated : Int32) (v_thinning_pieces : Int32) (v_thinning_doorMask : Int32) (v_thinning_leastMask : Int32) (A_thinning_piece : Nat → Int32) (A_thinning_sent : Nat → Int32) (A_thinning_steps : Nat → Int32) (A_thinning_next : Nat → Int32) (v_seen_size : Int32) (v_seen_keptMask : Int32) (v_seen_droppedMask : Int32) (v_survey_isOutdated : Int32) (v_survey_possible : Int32) (v_survey_least : Int32) (v_survey_greatest : Int32) (A_survey_doorMasks : Nat → Int32) (v_fraction_upper : Int32) (v_fraction_lower : Int32) (v_undoMany : Int32) (v_undoAt : Int32) (v_seenMany : Int32) (v_letterMany : Int32) (v_readAt : Int32) (v_tokenAt : Int32) (v_token : Int32) (v_value : Int32) (v_faultAt : Int32) (v_readOnce : Int32) (v_greatUpper : Int64) (v_greatLower : Int64) (A_now : Nat → Int32) (A_undos : Nat → Int32) (A_seen : Nat → Int32) (A_seenAs : Nat → Int32) (A_isKept : Nat → Int32) (A_kept : Nat → Int32) (A_text : Nat → Int32) (A_read : Nat → Int32) (A_fewest : Nat → Int32) (A_doors : Nat → Int32) (A_isSo : Nat → Int32) (p1 : Int32) (p2 : Int32) (h : Rel v_text_length A_text_letters v_log_size v_log_promise v_log_delay A_log_times A_log_values v_history_next v_history_size v_history_ring_places v_history_ring_filled A_history_ring_cells v_images_places v_images_filled A_images_cells v_lines_stretches A_lines_stretch A_lines_needs v_thinning_isOutdated v_thinning_pieces v_thinning_doorMask v_thinning_leastMask A_thinning_piece A_thinning_sent v_seen_size v_seen_keptMask v_seen_droppedMask v_survey_isOutdated A_survey_doorMasks v_undoMany v_undoAt v_seenMany v_letterMany A_now A_undos A_seen A_seenAs A_isKept A_kept A_text) : ∃ (zX : Int32 × Int32 × (Nat → Int32) × (Nat → Int32) × Int32 × Int32 × Int32 × Int32 × (Nat → Int32) × (Nat → Int32) × (Nat → Int32) × (Nat → Int32)) (zM : Int32 × Int64 × Int64 × (Nat → Int32)), f_TR_reading v_log_size v_log_promise v_log_delay A_log_times A_log_values v_lines_stretches A_lines_stretch A_lines_needs v_thinning_isOutdated v_thinning_pieces v_thinning_doorMask v_thinning_leastMask A_thinning_piece A_thinning_sent A_thinning_steps A_thinning_next p1 p2 = some zX ∧ f_Mo_reading v_greatUpper v_greatLower A_now A_fewest p1 p2 = some zM ∧ zX.1 = zM.1 ∧ Rel v_text_length A_text_letters v_log_size v_log_promise v_log_delay A_log_times A_log_values v_history_next v_history_size v_history_ring_places v_history_ring_filled A_history_ring_cells v_images_places v_images_filled A_images_cells zX.2.1 zX.2.2.1 zX.2.2.2.1 zX.2.2.2.2.1 zX.2.2.2.2.2.1 zX.2.2.2.2.2.2.1 zX.2.2.2.2.2.2.2.1 zX.2.2.2.2.2.2.2.2.1 zX.2.2.2.2.2.2.2.2.2.1 v_seen_size v_seen_keptMask v_seen_droppedMask v_survey_isOutdated A_survey_doorMasks v_undoMany v_undoAt v_seenMany v_letterMany A_now A_undos A_seen A_seenAs A_isKept A_kept A_text := by
  obtain ⟨hT, ⟨n, p, d, hw, rfl, rfl, rfl, hrow⟩, hHi, hI, hTh, hSe, hSu⟩ := h
  have hn := hw.1
  have hp := hw.2.1
  have i1 : inB (1 : Int32) 31 = true := by decide
  have z1 : ((1 : Int32)).toNatClampNeg = 1 := rfl
  unfold f_TR_reading f_Mo_reading
  rcases has_cases hn hrow.1 p1 with ⟨e1, e2⟩ | ⟨k, hk, rfl, e1, e2⟩
  · rw [e1, e2]
    exact ⟨_, _, rfl, rfl, rfl, hT, ⟨n, p, d, hw, rfl, rfl, rfl, hrow⟩, hHi, hI, hTh, hSe, hSu⟩
  · rw [nI_clamp (show n < 2 ^ 31 by omega)] at hTh
    obtain ⟨pcs', dm', lm', PA', SE', ST', NX', st', S', N', e, hF⟩ := refresh_ok hw hrow hTh A_thinning_steps A_thinning_next
    obtain ⟨hD, hS, hb, hb2⟩ := fresh_door hw hrow hF
    have fin := ThinR_of hF
    rw [← nI_clamp (show n < 2 ^ 31 by omega)] at fin
    obtain ⟨f1, f2, f3, f4, f5, f6, f7, f8⟩ := hF
    obtain ⟨set, g1, g2, q1, q2, q3⟩ := f8 v_greatUpper v_greatLower
    obtain ⟨fw', q4⟩ := f7 A_fewest
    have rel := (⟨hT, ⟨n, p, d, hw, rfl, rfl, rfl, hrow⟩, hHi, hI, fin, hSe, hSu⟩ : Rel v_text_length A_text_letters (nI n) (nI p) (nI d) A_log_times A_log_values v_history_next v_history_size v_history_ring_places v_history_ring_filled A_history_ring_cells v_images_places v_images_filled A_images_cells st' S' N' 0 pcs' dm' lm' PA' SE' v_seen_size v_seen_keptMask v_seen_droppedMask v_survey_isOutdated A_survey_doorMasks v_undoMany v_undoAt v_seenMany v_letterMany A_now A_undos A_seen A_seenAs A_isKept A_kept A_text)
    have s3 : (3 : Int32) + nI k = nI (3 + k) := by rw [l3, nI_add]
    have s17 : (17 : Int32) + nI k = nI (17 + k) := by rw [l17, nI_add]
    rw [e1, e2, e]
    simp only [Option.bind_some, n10, ↓reduceIte, i1, z1, f4, q1, q4, s3, s17, inB_nI (show 3 + k < 31 by omega) (by omega), inB_nI (show 17 + k < 31 by omega) (by omega), nI_clamp (show 3 + k < 2 ^ 31 by omega), nI_clamp (show 17 + k < 2 ^ 31 by omega), (hrow.2.2.2 k hk).1, (hrow.2.2.2 k hk).2, timeN hk hn, valueN hk hn, stretchN hk hn, pieceN hk hn, sentN hk hn, f2 k hk, knM hn hrow (show k < 2 ^ 31 by omega), b2_0, bitAt_bt _ (show k < 32 by omega), has_bt _ (show k < 32 by omega)]
    have l6 : (6 : Int32) = nI 6 := rfl
    rcases in_cases p2 (M := 6) (by omega) with c | c | ⟨j, hj, rfl⟩
    · have c2 : f_Mo_in p2 0 6 = 0 := by unfold f_Mo_in; rw [if_pos c]
      have ne : ∀ m : Nat, m ≤ 6 → ¬ p2 = nI m := fun m hm q => by rw [q] at c; exact absurd c (nI_pos (by omega))
      have n0 : ¬ p2 = 0 := ne 0 (by omega)
      have n1 : ¬ p2 = 1 := ne 1 (by omega)
      have n2 : ¬ p2 = 2 := ne 2 (by omega)
      have n3 : ¬ p2 = 3 := ne 3 (by omega)
      have n4 : ¬ p2 = 4 := ne 4 (by omega)
      have n5 : ¬ p2 = 5 := ne 5 (by omega)
      have n6 : ¬ p2 = 6 := ne 6 (by omega)
      simp only [c2, n0, n1, n2, n3, n4, n5, n6, ↓reduceIte]
      exact ⟨_, _, rfl, rfl, rfl, rel⟩
    · have c2 : f_Mo_in p2 0 6 = 0 := by unfold f_Mo_in; rw [l6, if_pos c]; split <;> rfl
      have ne : ∀ m : Nat, m ≤ 6 → ¬ p2 = nI m := fun m hm q => by rw [q] at c; exact absurd c (nI_nlt (by omega) (by omega))
      have n0 : ¬ p2 = 0 := ne 0 (by omega)
      have n1 : ¬ p2 = 1 := ne 1 (by omega)
      have n2 : ¬ p2 = 2 := ne 2 (by omega)
      have n3 : ¬ p2 = 3 := ne 3 (by omega)
      have n4 : ¬ p2 = 4 := ne 4 (by omega)
      have n5 : ¬ p2 = 5 := ne 5 (by omega)
      have n6 : ¬ p2 = 6 := ne 6 (by omega)
      simp only [c2, n0, n1, n2, n3, n4, n5, n6, ↓reduceIte]
      exact ⟨_, _, rfl, rfl, rfl, rel⟩
    · have c2 : f_Mo_in (nI j) 0 6 = 1 := by unfold f_Mo_in; rw [l6, if_neg (nI_pos (by omega)), if_neg (nI_nlt (by omega) (by omega))]
      simp only [c2, n10, ↓reduceIte]
      rcases (show j = 0 ∨ j = 1 ∨ j = 2 ∨ j = 3 ∨ j = 4 ∨ j = 5 ∨ j = 6 by omega) with rfl | rfl | rfl | rfl | rfl | rfl | rfl
      · exact ⟨_, _, rfl, rfl, rfl, rel⟩
      · exact ⟨_, _, rfl, rfl, rfl, rel⟩
      · exact ⟨_, _, rfl, rfl, rfl, rel⟩
      · rcases q3 k hk with ⟨a, b⟩ | ⟨a, b⟩
        · rw [b]; exact ⟨_, _, rfl, rfl, a, rel⟩
        · rw [a, b]; exact ⟨_, _, rfl, rfl, by simp, rel⟩
      · cases hbk : bt dm' k
        · exact ⟨_, _, rfl, rfl, rfl, rel⟩
        · exact ⟨_, _, rfl, rfl, rfl, rel⟩
      · cases hbk : bt dm' k
        · exact ⟨_, _, rfl, rfl, f5 k hk (by rw [has_bt _ (by omega), hbk]; rfl), rel⟩
        · rw [f6 k hk (by rw [has_bt _ (by omega), hbk]; rfl)]
          exact ⟨_, _, rfl, rfl, rfl, rel⟩
      · cases hbk : bt lm' k
        · exact ⟨_, _, rfl, rfl, rfl, rel⟩
        · exact ⟨_, _, rfl, rfl, rfl, rel⟩

/-! ===== pure: strikes, undo, images, the text, what was seen ===== -/
def b2 (b : Bool) : Int32 := if b = true then 1 else 0
theorem has_cases {n : Nat} (hn : n ≤ 14) {now : Nat → Int32} (h0 : now 0 = nI n) (x : Int32) : (f_Log_has (nI n) x = 0 ∧ f_Mo_isReading now x = some 0) ∨ ∃ j : Nat, j < n ∧ x = nI j ∧ f_Log_has (nI n) x = 1 ∧ f_Mo_isReading now x = some 1 := by
  have i0 : inB (0 : Int32) 31 = true := by decide
  have z0 : ((0 : Int32)).toNatClampNeg = 0 := rfl
  unfold f_Log_has f_Mo_isReading f_Mo_in
  simp only [i0, z0, h0, ↓reduceIte]
  rcases pk_ix x (n := n) (by omega) with h | h | ⟨j, hj, rfl⟩
  · left; simp only [h, ↓reduceIte, and_self]
  · left
    have hx : ¬ x < 0 := by
      intro q
      rw [Int32.le_iff_toInt_le, nI_toInt (by omega)] at h
      rw [Int32.lt_iff_toInt_lt] at q
      have : (0 : Int32).toInt = 0 := rfl
      omega
    have h2 : nI n - 1 < x := by
      rw [Int32.lt_iff_toInt_lt, l1, pk_sub_toInt (by omega) (by omega)]
      rw [Int32.le_iff_toInt_le, nI_toInt (by omega)] at h
      omega
    simp only [hx, h, h2, ↓reduceIte, and_self]
  · right
    have h1 : ¬ nI j < 0 := nI_pos (by omega)
    have h2 : ¬ nI n ≤ nI j := nI_ge hj (by omega)
    have h3 : ¬ nI n - 1 < nI j := by
      rw [l1, pk_sub (by omega)]; exact nI_nlt (by omega) (by omega)
    refine ⟨j, hj, rfl, ?_⟩
    simp only [h1, h2, h3, ↓reduceIte, and_self]
theorem knX {n : Nat} (hn : n ≤ 14) (V : Nat → Int32) {j : Nat} (hj : j < 2 ^ 31) : f_Log_isKnown (nI n) V (nI j) = some (b2 (Kn n V j)) := by
  unfold f_Log_isKnown f_Log_has Kn b2
  have h1 : ¬ nI j < 0 := nI_pos hj
  have e : (nI n ≤ nI j) = (n ≤ j) := nI_le' (by omega) hj
  simp only [h1, e, ↓reduceIte]
  by_cases h : n ≤ j
  · have : ¬ (j < n ∧ V j ≠ -9) := by omega
    simp only [h, this, ↓reduceIte, decide_false]
    rfl
  · have h2 : j < n := by omega
    simp only [h, n10, ↓reduceIte, inB_nI (show j < 14 by omega) (by omega), nI_clamp hj, h2, true_and]
    by_cases h3 : V j = -9
    · simp [h3]
    · simp [h3]
theorem knX_m1 {n : Nat} (V : Nat → Int32) : f_Log_isKnown (nI n) V (nI 0 - 1) = some 0 := by
  have h : nI 0 - 1 < 0 := by decide
  unfold f_Log_isKnown f_Log_has
  simp only [h, ↓reduceIte]
theorem knM {n p d : Nat} (hn : n ≤ 14) {T V now : Nat → Int32} (hr : RowIs now n p d T V) {j : Nat} (hj : j < 2 ^ 31) : f_Mo_isKnown now (nI j) = some (b2 (Kn n V j)) := by
  unfold f_Mo_isKnown
  rcases has_cases hn hr.1 (nI j) with ⟨e1, e2⟩ | ⟨k, hk, e0, e1, e2⟩
  · rw [e2]
    have : ¬ j < n := by
      intro h
      unfold f_Log_has at e1
      rw [if_neg (nI_pos hj), if_neg (nI_ge h (by omega))] at e1
      exact absurd e1 (by decide)
    simp [Kn, b2, this]
  · have hjk : j = k := (nI_eq hj (by omega)).mp e0
    subst hjk
    rw [e2, Option.bind_some, if_neg (by decide), l17, nI_add, inB_nI (by omega) (by omega), if_pos rfl, nI_clamp (by omega), (hr.2.2.2 j hk).2]
    by_cases h3 : V j = -9
    · simp [h3, Kn, b2]
    · simp [h3, Kn, b2, hk]
theorem knM_m1 {now : Nat → Int32} : f_Mo_isKnown now (nI 0 - 1) = some 0 := by
  unfold f_Mo_isKnown f_Mo_isReading f_Mo_in
  rw [if_pos (by decide), if_pos (by decide)]
  rfl
theorem lrem_L : ∀ (q k n f : Nat) (T V : Nat → Int32), k + q + 1 = n → n ≤ 14 → q < f →
    f_Log_remove_L11 (nI n) f (nI k) T V = some ((fun j => if k ≤ j ∧ j + 1 < n then T (j + 1) else T j), (fun j => if k ≤ j ∧ j + 1 < n then V (j + 1) else V j)) := by
  intro q
  induction q with
  | zero =>
    intro k n f T V hk hn hf
    obtain ⟨f, rfl⟩ : ∃ z, f = z + 1 := ⟨f - 1, by omega⟩
    rw [f_Log_remove_L11_s]
    simp (disch := omega) only [l1, nI_add, nI_leI, if_pos]
    congr 2
    all_goals funext j
    all_goals simp (disch := omega) only [if_neg]
  | succ q ih =>
    intro k n f T V hk hn hf
    obtain ⟨f, rfl⟩ : ∃ z, f = z + 1 := ⟨f - 1, by omega⟩
    rw [f_Log_remove_L11_s]
    simp (disch := omega) only [l1, nI_add, nI_leI, if_neg, inB_nI, ↓reduceIte, nI_clamp, ih (k + 1) n f]
    congr 2
    all_goals funext j
    all_goals simp only [upd_at]
    all_goals grind
theorem mstr_L : ∀ (q k N f : Nat) (now : Nat → Int32), k + q = N → N ≤ 13 → q < f → now 0 = nI N →
    f_Mo_strikes_L26 f (nI k) now = some (fun i => if (3 + k ≤ i ∧ i < 3 + N) ∨ (17 + k ≤ i ∧ i < 17 + N) then now (i + 1) else now i) := by
  intro q
  induction q with
  | zero =>
    intro k N f now hk hN hf h0
    obtain ⟨f, rfl⟩ : ∃ z, f = z + 1 := ⟨f - 1, by omega⟩
    rw [f_Mo_strikes_L26_s]
    simp (disch := omega) only [l0, inB_nI, ↓reduceIte, nI_clamp, h0, nI_leI, if_pos]
    congr 1; funext j
    simp (disch := omega) only [if_neg]
  | succ q ih =>
    intro k N f now hk hN hf h0
    obtain ⟨f, rfl⟩ : ∃ z, f = z + 1 := ⟨f - 1, by omega⟩
    rw [f_Mo_strikes_L26_s]
    simp (disch := omega) only [l0, l1, l3, l17, inB_nI, ↓reduceIte, nI_clamp, h0, nI_leI, if_neg, nI_add]
    rw [ih (k + 1) N f _ (by omega) hN (by omega) (by simp (disch := omega) only [upd_at, if_neg]; exact h0)]
    congr 1; funext j
    simp only [upd_at]
    grind
theorem LW_strike {n p d k : Nat} {T V : Nat → Int32} (hw : LW n p d T V) (hk : k < n) : LW (n - 1) p d (fun j => if k ≤ j ∧ j + 1 < n then T (j + 1) else T j) (fun j => if k ≤ j ∧ j + 1 < n then V (j + 1) else V j) := by
  obtain ⟨h1, h2, h3, h4, h5, h6, h7⟩ := hw
  refine ⟨by omega, h2, h3, h4, fun j hj => ?_, fun i j hij hj => ?_, fun j hj => ?_⟩
  · dsimp only
    split
    · exact h5 (j + 1) (by omega)
    · exact h5 j (by omega)
  · show (if k ≤ i ∧ i + 1 < n then T (i + 1) else T i).toInt < (if k ≤ j ∧ j + 1 < n then T (j + 1) else T j).toInt
    split <;> split <;> exact h6 _ _ (by omega) (by omega)
  · dsimp only
    split
    · exact h7 (j + 1) (by omega)
    · exact h7 j (by omega)
set_option maxHeartbeats 1000000 in
theorem p_strikes (v_text_length : Int32) (A_text_letters : Nat → Int32) (v_parser_at : Int32) (v_parser_kind : Int32) (v_parser_place : Int32) (v_parser_number : Int32) (v_parser_isPromiseTold : Int32) (v_parser_isDelayTold : Int32) (v_parser_draft_size : Int32) (v_parser_draft_promise : Int32) (v_parser_draft_delay : Int32) (A_parser_draft_times : Nat → Int32) (A_parser_draft_values : Nat → Int32) (v_log_size : Int32) (v_log_promise : Int32) (v_log_delay : Int32) (A_log_times : Nat → Int32) (A_log_values : Nat → Int32) (v_history_next : Int32) (v_history_size : Int32) (v_history_ring_places : Int32) (v_history_ring_filled : Int32) (A_history_ring_cells : Nat → Int32) (v_images_places : Int32) (v_images_filled : Int32) (A_images_cells : Nat → Int32) (v_lines_stretches : Int32) (A_lines_stretch : Nat → Int32) (A_lines_needs : Nat → Int32) (v_thinning_isOutdated : Int32) (v_thinning_pieces : Int32) (v_thinning_doorMask : Int32) (v_thinning_leastMask : Int32) (A_thinning_piece : Nat → Int32) (A_thinning_sent : Nat → Int32) (A_thinning_steps : Nat → Int32) (A_thinning_next : Nat → Int32) (v_seen_size : Int32) (v_seen_keptMask : Int32) (v_seen_droppedMask : Int32) (v_survey_isOutdated : Int32) (v_survey_possible : Int32) (v_survey_least : Int32) (v_survey_greatest : Int32) (A_survey_doorMasks : Nat → Int32) (v_fraction_upper : Int32) (v_fraction_lower : Int32) (v_undoMany : Int32) (v_undoAt : Int32) (v_seenMany : Int32) (v_letterMany : Int32) (v_readAt : Int32) (v_tokenAt : Int32) (v_token : Int32) (v_value : Int32) (v_faultAt : Int32) (v_readOnce : Int32) (v_greatUpper : Int64) (v_greatLower : Int64) (A_now : Nat → Int32) (A_undos : Nat → Int32) (A_seen : Nat → Int32) (A_seenAs : Nat → Int32) (A_isKept : Nat → Int32) (A_kept : Nat → Int32) (A_text : Nat → Int32) (A_read : Nat → Int32) (A_fewest : Nat → Int32) (A_doors : Nat → Int32) (A_isSo : Nat → Int32) (p1 : Int32) (h : Rel v_text_length A_text_letters v_log_size v_log_promise v_log_delay A_log_times A_log_values v_history_next v_history_size v_history_ring_places v_history_ring_filled A_history_ring_cells v_images_places v_images_filled A_images_cells v_lines_stretches A_lines_stretch A_lines_needs v_thinning_isOutdated v_thinning_pieces v_thinning_doorMask v_thinning_leastMask A_thinning_piece A_thinning_sent v_seen_size v_seen_keptMask v_seen_droppedMask v_survey_isOutdated A_survey_doorMasks v_undoMany v_undoAt v_seenMany v_letterMany A_now A_undos A_seen A_seenAs A_isKept A_kept A_text) : ∃ (zX : Int32 × Int32 × (Nat → Int32) × (Nat → Int32) × Int32 × Int32 × Int32 × (Nat → Int32) × Int32 × Int32) (zM : Int32 × Int32 × Int32 × (Nat → Int32) × (Nat → Int32)), f_TR_strikes v_log_size v_log_promise v_log_delay A_log_times A_log_values v_history_next v_history_size v_history_ring_places v_history_ring_filled A_history_ring_cells v_thinning_isOutdated v_survey_isOutdated p1 = some zX ∧ f_Mo_strikes v_undoMany v_undoAt A_now A_undos p1 = some zM ∧ zX.1 = zM.1 ∧ Rel v_text_length A_text_letters zX.2.1 v_log_promise v_log_delay zX.2.2.1 zX.2.2.2.1 zX.2.2.2.2.1 zX.2.2.2.2.2.1 v_history_ring_places zX.2.2.2.2.2.2.1 zX.2.2.2.2.2.2.2.1 v_images_places v_images_filled A_images_cells v_lines_stretches A_lines_stretch A_lines_needs zX.2.2.2.2.2.2.2.2.1 v_thinning_pieces v_thinning_doorMask v_thinning_leastMask A_thinning_piece A_thinning_sent v_seen_size v_seen_keptMask v_seen_droppedMask zX.2.2.2.2.2.2.2.2.2 A_survey_doorMasks zM.2.1 zM.2.2.1 v_seenMany v_letterMany zM.2.2.2.1 zM.2.2.2.2 A_seen A_seenAs A_isKept A_kept A_text := by
  obtain ⟨hT, ⟨n, p, d, hw, rfl, rfl, rfl, hrow⟩, ⟨a, m, ha, hm, rfl, rfl, rfl, rfl, rfl, hh⟩, hI, hTh, hSe, hSu⟩ := id h
  have hn := hw.1
  unfold f_TR_strikes f_Mo_strikes
  rcases has_cases hn hrow.1 p1 with ⟨e1, e2⟩ | ⟨k, hk, rfl, e1, e2⟩
  · simp only [e1, e2, ↓reduceIte, Option.bind_some]; exact ⟨_, _, rfl, rfl, rfl, h⟩
  · obtain ⟨F', C', U', e3, e4, e5⟩ := rem_ok ha hm hh hw hrow v_thinning_isOutdated v_survey_isOutdated
    have e6 : f_Log_remove (nI n) A_log_times A_log_values (nI k) = some (nI (n - 1), (fun j => if k ≤ j ∧ j + 1 < n then A_log_times (j + 1) else A_log_times j), (fun j => if k ≤ j ∧ j + 1 < n then A_log_values (j + 1) else A_log_values j)) := by
      unfold f_Log_remove
      rw [e1, if_neg (by decide), lrem_L (n - 1 - k) k n fu _ _ (by omega) hn (by unfold fu; omega), l1, pk_sub (by omega)]
      rfl
    have i0 : inB (0 : Int32) 31 = true := by decide
    have z0 : ((0 : Int32)).toNatClampNeg = 0 := rfl
    have e7 : A_now 0 - (1 : Int32) = nI (n - 1) := by rw [hrow.1, l1, pk_sub (by omega)]
    have e8 := mstr_L (n - 1 - k) k (n - 1) fu (upd A_now 0 (nI (n - 1))) (by omega) (by omega) (by unfold fu; omega) pk_us
    simp only [e1, e2, e3, e4, e6, n10, i0, z0, e7, e8, ↓reduceIte, Option.bind_some]
    refine ⟨_, _, rfl, rfl, ?_, hT, ⟨n - 1, p, d, LW_strike hw hk, rfl, rfl, rfl, ?_⟩, e5, hI, Or.inl rfl, hSe, Or.inl rfl⟩
    · show nI (n - 1) = (if _ then _ else _)
      rw [if_neg (by omega)]; exact pk_us.symm
    · obtain ⟨r0, r1, r2, r3⟩ := hrow
      have e : ∀ q : Nat, q ≠ 0 → upd A_now 0 (nI (n - 1)) q = A_now q := fun q hq => pk_un hq
      refine ⟨?_, ?_, ?_, fun j hj => ⟨?_, ?_⟩⟩
      · show (if _ then _ else _) = _
        rw [if_neg (by omega)]; exact pk_us
      · show (if _ then _ else _) = _
        rw [if_neg (by omega), e _ (by omega)]; exact r1
      · show (if _ then _ else _) = _
        rw [if_neg (by omega), e _ (by omega)]; exact r2
      · show (if (3 + k ≤ 3 + j ∧ 3 + j < 3 + (n - 1)) ∨ (17 + k ≤ 3 + j ∧ 3 + j < 17 + (n - 1)) then upd A_now 0 (nI (n - 1)) (3 + j + 1) else upd A_now 0 (nI (n - 1)) (3 + j)) = (if k ≤ j ∧ j + 1 < n then A_log_times (j + 1) else A_log_times j)
        rw [e _ (by omega), e _ (by omega)]
        by_cases hkj : k ≤ j
        · rw [if_pos (by omega), if_pos (by omega)]; exact (r3 (j + 1) (by omega)).1
        · rw [if_neg (by omega), if_neg (by omega)]; exact (r3 j (by omega)).1
      · show (if (3 + k ≤ 17 + j ∧ 17 + j < 3 + (n - 1)) ∨ (17 + k ≤ 17 + j ∧ 17 + j < 17 + (n - 1)) then upd A_now 0 (nI (n - 1)) (17 + j + 1) else upd A_now 0 (nI (n - 1)) (17 + j)) = (if k ≤ j ∧ j + 1 < n then A_log_values (j + 1) else A_log_values j)
        rw [e _ (by omega), e _ (by omega)]
        by_cases hkj : k ≤ j
        · rw [if_pos (by omega), if_pos (by omega)]; exact (r3 (j + 1) (by omega)).2
        · rw [if_neg (by omega), if_neg (by omega)]; exact (r3 j (by omega)).2
set_option maxHeartbeats 1000000 in
theorem p_undo (v_text_length : Int32) (A_text_letters : Nat → Int32) (v_parser_at : Int32) (v_parser_kind : Int32) (v_parser_place : Int32) (v_parser_number : Int32) (v_parser_isPromiseTold : Int32) (v_parser_isDelayTold : Int32) (v_parser_draft_size : Int32) (v_parser_draft_promise : Int32) (v_parser_draft_delay : Int32) (A_parser_draft_times : Nat → Int32) (A_parser_draft_values : Nat → Int32) (v_log_size : Int32) (v_log_promise : Int32) (v_log_delay : Int32) (A_log_times : Nat → Int32) (A_log_values : Nat → Int32) (v_history_next : Int32) (v_history_size : Int32) (v_history_ring_places : Int32) (v_history_ring_filled : Int32) (A_history_ring_cells : Nat → Int32) (v_images_places : Int32) (v_images_filled : Int32) (A_images_cells : Nat → Int32) (v_lines_stretches : Int32) (A_lines_stretch : Nat → Int32) (A_lines_needs : Nat → Int32) (v_thinning_isOutdated : Int32) (v_thinning_pieces : Int32) (v_thinning_doorMask : Int32) (v_thinning_leastMask : Int32) (A_thinning_piece : Nat → Int32) (A_thinning_sent : Nat → Int32) (A_thinning_steps : Nat → Int32) (A_thinning_next : Nat → Int32) (v_seen_size : Int32) (v_seen_keptMask : Int32) (v_seen_droppedMask : Int32) (v_survey_isOutdated : Int32) (v_survey_possible : Int32) (v_survey_least : Int32) (v_survey_greatest : Int32) (A_survey_doorMasks : Nat → Int32) (v_fraction_upper : Int32) (v_fraction_lower : Int32) (v_undoMany : Int32) (v_undoAt : Int32) (v_seenMany : Int32) (v_letterMany : Int32) (v_readAt : Int32) (v_tokenAt : Int32) (v_token : Int32) (v_value : Int32) (v_faultAt : Int32) (v_readOnce : Int32) (v_greatUpper : Int64) (v_greatLower : Int64) (A_now : Nat → Int32) (A_undos : Nat → Int32) (A_seen : Nat → Int32) (A_seenAs : Nat → Int32) (A_isKept : Nat → Int32) (A_kept : Nat → Int32) (A_text : Nat → Int32) (A_read : Nat → Int32) (A_fewest : Nat → Int32) (A_doors : Nat → Int32) (A_isSo : Nat → Int32)  (h : Rel v_text_length A_text_letters v_log_size v_log_promise v_log_delay A_log_times A_log_values v_history_next v_history_size v_history_ring_places v_history_ring_filled A_history_ring_cells v_images_places v_images_filled A_images_cells v_lines_stretches A_lines_stretch A_lines_needs v_thinning_isOutdated v_thinning_pieces v_thinning_doorMask v_thinning_leastMask A_thinning_piece A_thinning_sent v_seen_size v_seen_keptMask v_seen_droppedMask v_survey_isOutdated A_survey_doorMasks v_undoMany v_undoAt v_seenMany v_letterMany A_now A_undos A_seen A_seenAs A_isKept A_kept A_text) : ∃ (zX : Int32 × Int32 × Int32 × Int32 × (Nat → Int32) × (Nat → Int32) × Int32 × Int32 × Int32 × Int32) (zM : Int32 × Int32 × Int32 × (Nat → Int32)), f_TR_undo v_log_size v_log_promise v_log_delay A_log_times A_log_values v_history_next v_history_size v_history_ring_places v_history_ring_filled A_history_ring_cells v_thinning_isOutdated v_survey_isOutdated = some zX ∧ f_Mo_undo v_undoMany v_undoAt A_now A_undos = some zM ∧ zX.1 = zM.1 ∧ Rel v_text_length A_text_letters zX.2.1 zX.2.2.1 zX.2.2.2.1 zX.2.2.2.2.1 zX.2.2.2.2.2.1 zX.2.2.2.2.2.2.1 zX.2.2.2.2.2.2.2.1 v_history_ring_places v_history_ring_filled A_history_ring_cells v_images_places v_images_filled A_images_cells v_lines_stretches A_lines_stretch A_lines_needs zX.2.2.2.2.2.2.2.2.1 v_thinning_pieces v_thinning_doorMask v_thinning_leastMask A_thinning_piece A_thinning_sent v_seen_size v_seen_keptMask v_seen_droppedMask zX.2.2.2.2.2.2.2.2.2 A_survey_doorMasks zM.2.1 zM.2.2.1 v_seenMany v_letterMany zM.2.2.2 A_undos A_seen A_seenAs A_isKept A_kept A_text := by
  obtain ⟨hT, ⟨n, p, d, hw, rfl, rfl, rfl, hrow⟩, ⟨a, m, ha, hm, rfl, rfl, rfl, rfl, rfl, hh⟩, hI, hTh, hSe, hSu⟩ := id h
  unfold f_TR_undo f_Mo_undo
  rcases Nat.eq_zero_or_pos m with h0 | h0
  · subst h0
    exact ⟨_, _, rfl, rfl, rfl, h⟩
  · have hm0 : ¬ nI m = 0 := nI_ne0 h0 (by omega)
    obtain ⟨b1, b2⟩ := hh 0 h0
    have es : (a + 9 - 0) % 10 = (a + 9) % 10 := rfl
    rw [es] at b1 b2
    have hs : (a + 9) % 10 < 10 := Nat.mod_lt _ (by omega)
    obtain ⟨T', V', e1, t1⟩ := take_ok (P := 10) (N := 310) (by omega) rfl hs v_history_ring_filled b1 A_history_ring_cells (nI n) (nI p) (nI d) A_log_times A_log_values
    have e2 : f_History_pop (nI a) (nI m) 10 v_history_ring_filled 310 A_history_ring_cells (nI n) (nI p) (nI d) A_log_times A_log_values = some (nI ((a + 9) % 10), nI (m - 1), A_history_ring_cells (31 * ((a + 9) % 10)), A_history_ring_cells (31 * ((a + 9) % 10) + 1), A_history_ring_cells (31 * ((a + 9) % 10) + 2), T', V') := by
      unfold f_History_pop
      have em : nI m - 1 = nI (m - 1) := by rw [l1, pk_sub (by omega)]
      rw [if_neg hm0, em]
      rcases Nat.eq_zero_or_pos a with q | q
      · subst q
        rw [if_pos (by decide), show (9 : Int32) = nI ((0 + 9) % 10) from rfl, show (10 : Int32) = nI 10 from rfl, e1]
        rfl
      · have ea : nI a - 1 = nI ((a + 9) % 10) := by rw [l1, pk_sub (by omega)]; congr 1; omega
        rw [if_neg (nI_nle q (by omega)), ea, show (10 : Int32) = nI 10 from rfl, e1]
        rfl
    have e3 : ((nI a + (10 : Int32)) - (1 : Int32)) - ((nI a + (10 : Int32)) - (1 : Int32)) / (10 : Int32) * (10 : Int32) = nI ((a + 9) % 10) := by
      have : (nI a + (10 : Int32)) - (1 : Int32) = nI (a + 9) := by rw [l10, l1, nI_add, pk_sub (by omega)]; congr 1
      rw [this, l10, pk_rem (by omega) (by omega) (by omega)]
    have em : nI m - 1 = nI (m - 1) := by rw [l1, pk_sub (by omega)]
    rw [if_neg hm0, if_neg hm0, e2, e3, show (0 : Int32) = nI 0 from rfl, mundo_L 31 0 fu _ A_undos A_now rfl (by decide) hs, em]
    refine ⟨_, _, rfl, rfl, rfl, hT, LogR_of_row b2 t1 (fun j hj => ?_), ⟨(a + 9) % 10, m - 1, hs, by omega, rfl, rfl, rfl, rfl, rfl, fun r hr => ?_⟩, hI, Or.inl rfl, hSe, Or.inl rfl⟩
    · show (if 0 ≤ j ∧ j < 31 then _ else _) = _
      rw [if_pos ⟨by omega, hj⟩]
    · have e : ((a + 9) % 10 + 9 - r) % 10 = (a + 9 - (r + 1)) % 10 := by omega
      rw [e]
      exact hh (r + 1) (by omega)
set_option maxHeartbeats 1000000 in
theorem p_keep (v_text_length : Int32) (A_text_letters : Nat → Int32) (v_parser_at : Int32) (v_parser_kind : Int32) (v_parser_place : Int32) (v_parser_number : Int32) (v_parser_isPromiseTold : Int32) (v_parser_isDelayTold : Int32) (v_parser_draft_size : Int32) (v_parser_draft_promise : Int32) (v_parser_draft_delay : Int32) (A_parser_draft_times : Nat → Int32) (A_parser_draft_values : Nat → Int32) (v_log_size : Int32) (v_log_promise : Int32) (v_log_delay : Int32) (A_log_times : Nat → Int32) (A_log_values : Nat → Int32) (v_history_next : Int32) (v_history_size : Int32) (v_history_ring_places : Int32) (v_history_ring_filled : Int32) (A_history_ring_cells : Nat → Int32) (v_images_places : Int32) (v_images_filled : Int32) (A_images_cells : Nat → Int32) (v_lines_stretches : Int32) (A_lines_stretch : Nat → Int32) (A_lines_needs : Nat → Int32) (v_thinning_isOutdated : Int32) (v_thinning_pieces : Int32) (v_thinning_doorMask : Int32) (v_thinning_leastMask : Int32) (A_thinning_piece : Nat → Int32) (A_thinning_sent : Nat → Int32) (A_thinning_steps : Nat → Int32) (A_thinning_next : Nat → Int32) (v_seen_size : Int32) (v_seen_keptMask : Int32) (v_seen_droppedMask : Int32) (v_survey_isOutdated : Int32) (v_survey_possible : Int32) (v_survey_least : Int32) (v_survey_greatest : Int32) (A_survey_doorMasks : Nat → Int32) (v_fraction_upper : Int32) (v_fraction_lower : Int32) (v_undoMany : Int32) (v_undoAt : Int32) (v_seenMany : Int32) (v_letterMany : Int32) (v_readAt : Int32) (v_tokenAt : Int32) (v_token : Int32) (v_value : Int32) (v_faultAt : Int32) (v_readOnce : Int32) (v_greatUpper : Int64) (v_greatLower : Int64) (A_now : Nat → Int32) (A_undos : Nat → Int32) (A_seen : Nat → Int32) (A_seenAs : Nat → Int32) (A_isKept : Nat → Int32) (A_kept : Nat → Int32) (A_text : Nat → Int32) (A_read : Nat → Int32) (A_fewest : Nat → Int32) (A_doors : Nat → Int32) (A_isSo : Nat → Int32) (p1 : Int32) (h : Rel v_text_length A_text_letters v_log_size v_log_promise v_log_delay A_log_times A_log_values v_history_next v_history_size v_history_ring_places v_history_ring_filled A_history_ring_cells v_images_places v_images_filled A_images_cells v_lines_stretches A_lines_stretch A_lines_needs v_thinning_isOutdated v_thinning_pieces v_thinning_doorMask v_thinning_leastMask A_thinning_piece A_thinning_sent v_seen_size v_seen_keptMask v_seen_droppedMask v_survey_isOutdated A_survey_doorMasks v_undoMany v_undoAt v_seenMany v_letterMany A_now A_undos A_seen A_seenAs A_isKept A_kept A_text) : ∃ (zX : Int32 × Int32 × (Nat → Int32)) (zM : Int32 × (Nat → Int32) × (Nat → Int32)), f_TR_keep v_log_size v_log_promise v_log_delay A_log_times A_log_values v_images_places v_images_filled A_images_cells p1 = some zX ∧ f_Mo_keep A_now A_isKept A_kept p1 = some zM ∧ zX.1 = zM.1 ∧ Rel v_text_length A_text_letters v_log_size v_log_promise v_log_delay A_log_times A_log_values v_history_next v_history_size v_history_ring_places v_history_ring_filled A_history_ring_cells v_images_places zX.2.1 zX.2.2 v_lines_stretches A_lines_stretch A_lines_needs v_thinning_isOutdated v_thinning_pieces v_thinning_doorMask v_thinning_leastMask A_thinning_piece A_thinning_sent v_seen_size v_seen_keptMask v_seen_droppedMask v_survey_isOutdated A_survey_doorMasks v_undoMany v_undoAt v_seenMany v_letterMany A_now A_undos A_seen A_seenAs zM.2.1 zM.2.2 A_text := by
  obtain ⟨hT, ⟨n, p, d, hw, rfl, rfl, rfl, hrow⟩, hHi, ⟨rfl, hI⟩, hTh, hSe, hSu⟩ := id h
  unfold f_TR_keep f_Mo_keep
  rcases within_cases p1 1 (by omega) with ⟨e1, e2⟩ | ⟨t, ht, rfl, e1, e2⟩
  · simp only [show f_TR_isWithin p1 0 1 = 0 from e1, show f_Mo_in p1 0 1 = 0 from e2, ↓reduceIte]; exact ⟨_, _, rfl, rfl, rfl, h⟩
  · obtain ⟨C', e3, c0, c1, c2, c3, c4⟩ := put_ok (P := 2) (N := 62) (by omega) rfl (show t < 2 by omega) v_images_filled A_images_cells (nI n) (nI p) (nI d) A_log_times A_log_values
    have e4 := mkeep_L 31 0 fu t A_now A_kept rfl (by decide) (by omega)
    have i0 : inB (0 : Int32) 31 = true := by decide
    have z0 : ((0 : Int32)).toNatClampNeg = 0 := rfl
    have v1 : vp_nar .boolean (1 : Int32) = 1 := rfl
    simp only [show f_TR_isWithin (nI t) 0 1 = 1 from e1, show f_Mo_in (nI t) 0 1 = 1 from e2, n10, ↓reduceIte, show f_Shelf_put 2 v_images_filled 62 A_images_cells (nI n) (nI p) (nI d) A_log_times A_log_values (nI t) = _ from e3, inB_nI (show t < 2 by omega) (by omega), show f_Mo_keep_L20 (nI t) A_now fu 0 A_kept = _ from e4, Option.bind_some, i0, z0, hrow.1, nI_clamp (show t < 2 ^ 31 by omega), v1]
    refine ⟨_, _, rfl, rfl, rfl, hT, ⟨n, p, d, hw, rfl, rfl, rfl, hrow⟩, hHi, ⟨rfl, fun s hs => ?_⟩, hTh, hSe, hSu⟩
    by_cases hst : s = t
    · subst hst
      left
      refine ⟨pk_us, ?_, RowR_of hw c0 c1 c2 c3 ?_⟩
      · rw [bitAt_bt _ (by omega), bt_set _ (by omega) (by omega)]; simp
      · obtain ⟨r0, r1, r2, r3⟩ := hrow
        have hn := hw.1
        have k1 : ∀ j : Nat, j < 31 → (if 31 * s + 0 ≤ 31 * s + j ∧ 31 * s + j < 31 * s + 31 then A_now (31 * s + j - 31 * s) else A_kept (31 * s + j)) = A_now j := fun j hj => by
          rw [if_pos (by omega), Nat.add_sub_cancel_left]
        refine ⟨(k1 0 (by omega)).trans r0, (k1 1 (by omega)).trans r1, (k1 2 (by omega)).trans r2, fun j hj => ⟨(k1 (3 + j) (by omega)).trans (r3 j hj).1, (k1 (17 + j) (by omega)).trans (r3 j hj).2⟩⟩
    · have hb : f_TR_bitAt (v_images_filled ||| ((1 : Int32) <<< (nI t &&& 31))) (nI s) = f_TR_bitAt v_images_filled (nI s) := by
        rw [bitAt_bt _ (by omega), bitAt_bt _ (by omega), bt_set _ (by omega) (by omega)]; simp [hst]
      have hk : upd A_isKept t 1 s = A_isKept s := pk_un hst
      rcases hI s hs with ⟨k1, k2, k3⟩ | ⟨k1, k2⟩
      · left
        refine ⟨hk.trans k1, hb.trans k2, RowR_congr k3 (fun j hj => ⟨c4 _ (by omega), ?_⟩)⟩
        show (if 31 * t + 0 ≤ 31 * s + j ∧ 31 * s + j < 31 * t + 31 then _ else _) = _
        rw [if_neg (by omega)]
      · right; exact ⟨hk.trans k1, hb.trans k2⟩
set_option maxHeartbeats 1000000 in
theorem p_back (v_text_length : Int32) (A_text_letters : Nat → Int32) (v_parser_at : Int32) (v_parser_kind : Int32) (v_parser_place : Int32) (v_parser_number : Int32) (v_parser_isPromiseTold : Int32) (v_parser_isDelayTold : Int32) (v_parser_draft_size : Int32) (v_parser_draft_promise : Int32) (v_parser_draft_delay : Int32) (A_parser_draft_times : Nat → Int32) (A_parser_draft_values : Nat → Int32) (v_log_size : Int32) (v_log_promise : Int32) (v_log_delay : Int32) (A_log_times : Nat → Int32) (A_log_values : Nat → Int32) (v_history_next : Int32) (v_history_size : Int32) (v_history_ring_places : Int32) (v_history_ring_filled : Int32) (A_history_ring_cells : Nat → Int32) (v_images_places : Int32) (v_images_filled : Int32) (A_images_cells : Nat → Int32) (v_lines_stretches : Int32) (A_lines_stretch : Nat → Int32) (A_lines_needs : Nat → Int32) (v_thinning_isOutdated : Int32) (v_thinning_pieces : Int32) (v_thinning_doorMask : Int32) (v_thinning_leastMask : Int32) (A_thinning_piece : Nat → Int32) (A_thinning_sent : Nat → Int32) (A_thinning_steps : Nat → Int32) (A_thinning_next : Nat → Int32) (v_seen_size : Int32) (v_seen_keptMask : Int32) (v_seen_droppedMask : Int32) (v_survey_isOutdated : Int32) (v_survey_possible : Int32) (v_survey_least : Int32) (v_survey_greatest : Int32) (A_survey_doorMasks : Nat → Int32) (v_fraction_upper : Int32) (v_fraction_lower : Int32) (v_undoMany : Int32) (v_undoAt : Int32) (v_seenMany : Int32) (v_letterMany : Int32) (v_readAt : Int32) (v_tokenAt : Int32) (v_token : Int32) (v_value : Int32) (v_faultAt : Int32) (v_readOnce : Int32) (v_greatUpper : Int64) (v_greatLower : Int64) (A_now : Nat → Int32) (A_undos : Nat → Int32) (A_seen : Nat → Int32) (A_seenAs : Nat → Int32) (A_isKept : Nat → Int32) (A_kept : Nat → Int32) (A_text : Nat → Int32) (A_read : Nat → Int32) (A_fewest : Nat → Int32) (A_doors : Nat → Int32) (A_isSo : Nat → Int32) (p1 : Int32) (h : Rel v_text_length A_text_letters v_log_size v_log_promise v_log_delay A_log_times A_log_values v_history_next v_history_size v_history_ring_places v_history_ring_filled A_history_ring_cells v_images_places v_images_filled A_images_cells v_lines_stretches A_lines_stretch A_lines_needs v_thinning_isOutdated v_thinning_pieces v_thinning_doorMask v_thinning_leastMask A_thinning_piece A_thinning_sent v_seen_size v_seen_keptMask v_seen_droppedMask v_survey_isOutdated A_survey_doorMasks v_undoMany v_undoAt v_seenMany v_letterMany A_now A_undos A_seen A_seenAs A_isKept A_kept A_text) : ∃ (zX : Int32 × Int32 × Int32 × Int32 × (Nat → Int32) × (Nat → Int32) × Int32 × Int32 × Int32) (zM : Int32 × Int32 × (Nat → Int32)), f_TR_back v_log_size v_log_promise v_log_delay A_log_times A_log_values v_history_size v_images_places v_images_filled A_images_cells v_thinning_isOutdated v_survey_isOutdated p1 = some zX ∧ f_Mo_back v_undoMany A_now A_isKept A_kept p1 = some zM ∧ zX.1 = zM.1 ∧ Rel v_text_length A_text_letters zX.2.1 zX.2.2.1 zX.2.2.2.1 zX.2.2.2.2.1 zX.2.2.2.2.2.1 v_history_next zX.2.2.2.2.2.2.1 v_history_ring_places v_history_ring_filled A_history_ring_cells v_images_places v_images_filled A_images_cells v_lines_stretches A_lines_stretch A_lines_needs zX.2.2.2.2.2.2.2.1 v_thinning_pieces v_thinning_doorMask v_thinning_leastMask A_thinning_piece A_thinning_sent v_seen_size v_seen_keptMask v_seen_droppedMask zX.2.2.2.2.2.2.2.2 A_survey_doorMasks zM.2.1 v_undoAt v_seenMany v_letterMany zM.2.2 A_undos A_seen A_seenAs A_isKept A_kept A_text := by
  obtain ⟨hT, ⟨n, p, d, hw, rfl, rfl, rfl, hrow⟩, ⟨a, m, ha, hm, rfl, rfl, rfl, rfl, rfl, hh⟩, ⟨rfl, hI⟩, hTh, hSe, hSu⟩ := id h
  unfold f_TR_back f_Mo_back
  rcases within_cases p1 1 (by omega) with ⟨e1, e2⟩ | ⟨t, ht, rfl, e1, e2⟩
  · simp only [show f_TR_isWithin p1 0 1 = 0 from e1, show f_Mo_in p1 0 1 = 0 from e2, ↓reduceIte]; exact ⟨_, _, rfl, rfl, rfl, h⟩
  · have i0 : inB (0 : Int32) 31 = true := by decide
    have z0 : ((0 : Int32)).toNatClampNeg = 0 := rfl
    have hh0 : f_Shelf_holds 2 v_images_filled (nI t) = f_TR_bitAt v_images_filled (nI t) := by
      unfold f_Shelf_holds
      rw [if_neg (nI_pos (by omega)), l2, if_neg (nI_ge (by omega) (by omega)), bitAt_bt _ (by omega)]
      cases bt v_images_filled t <;> rfl
    simp only [show f_TR_isWithin (nI t) 0 1 = 1 from e1, show f_Mo_in (nI t) 0 1 = 1 from e2, n10, ↓reduceIte, hh0, inB_nI (show t < 2 by omega) (by omega), nI_clamp (show t < 2 ^ 31 by omega)]
    rcases hI t (by omega) with ⟨k1, k2, k3⟩ | ⟨k1, k2⟩
    · obtain ⟨T', V', e3, t1⟩ := take_ok (P := 2) (N := 62) (by omega) rfl (show t < 2 by omega) v_images_filled k2 A_images_cells (nI n) (nI p) (nI d) A_log_times A_log_values
      have e4 := mback_L 31 0 fu t A_kept A_now rfl (by decide) (by omega)
      simp only [k1, k2, n10, ↓reduceIte, show f_Shelf_take 2 v_images_filled 62 A_images_cells (nI n) (nI p) (nI d) A_log_times A_log_values (nI t) = _ from e3, show f_Mo_back_L25 (nI t) A_kept fu 0 A_now = _ from e4, Option.bind_some, i0, z0, f_History_wipe, f_TR_outdateAll, f_Thinning_outdate, f_Survey_outdate]
      refine ⟨_, _, rfl, rfl, ?_, hT, LogR_of_row k3 t1 (fun j hj => ?_), ⟨a, 0, ha, by omega, rfl, rfl, rfl, rfl, rfl, fun r hr => absurd hr (by omega)⟩, ⟨rfl, hI⟩, Or.inl rfl, hSe, Or.inl rfl⟩
      · obtain ⟨n', p', d', hw', c0, -, -, u0, -⟩ := k3
        exact Eq.trans c0 (Eq.symm u0)
      · show (if 0 ≤ j ∧ j < 31 then _ else _) = _
        rw [if_pos ⟨by omega, hj⟩]
    · simp only [k1, k2, ↓reduceIte]; exact ⟨_, _, rfl, rfl, rfl, h⟩
set_option maxHeartbeats 1000000 in
theorem p_clear (v_text_length : Int32) (A_text_letters : Nat → Int32) (v_parser_at : Int32) (v_parser_kind : Int32) (v_parser_place : Int32) (v_parser_number : Int32) (v_parser_isPromiseTold : Int32) (v_parser_isDelayTold : Int32) (v_parser_draft_size : Int32) (v_parser_draft_promise : Int32) (v_parser_draft_delay : Int32) (A_parser_draft_times : Nat → Int32) (A_parser_draft_values : Nat → Int32) (v_log_size : Int32) (v_log_promise : Int32) (v_log_delay : Int32) (A_log_times : Nat → Int32) (A_log_values : Nat → Int32) (v_history_next : Int32) (v_history_size : Int32) (v_history_ring_places : Int32) (v_history_ring_filled : Int32) (A_history_ring_cells : Nat → Int32) (v_images_places : Int32) (v_images_filled : Int32) (A_images_cells : Nat → Int32) (v_lines_stretches : Int32) (A_lines_stretch : Nat → Int32) (A_lines_needs : Nat → Int32) (v_thinning_isOutdated : Int32) (v_thinning_pieces : Int32) (v_thinning_doorMask : Int32) (v_thinning_leastMask : Int32) (A_thinning_piece : Nat → Int32) (A_thinning_sent : Nat → Int32) (A_thinning_steps : Nat → Int32) (A_thinning_next : Nat → Int32) (v_seen_size : Int32) (v_seen_keptMask : Int32) (v_seen_droppedMask : Int32) (v_survey_isOutdated : Int32) (v_survey_possible : Int32) (v_survey_least : Int32) (v_survey_greatest : Int32) (A_survey_doorMasks : Nat → Int32) (v_fraction_upper : Int32) (v_fraction_lower : Int32) (v_undoMany : Int32) (v_undoAt : Int32) (v_seenMany : Int32) (v_letterMany : Int32) (v_readAt : Int32) (v_tokenAt : Int32) (v_token : Int32) (v_value : Int32) (v_faultAt : Int32) (v_readOnce : Int32) (v_greatUpper : Int64) (v_greatLower : Int64) (A_now : Nat → Int32) (A_undos : Nat → Int32) (A_seen : Nat → Int32) (A_seenAs : Nat → Int32) (A_isKept : Nat → Int32) (A_kept : Nat → Int32) (A_text : Nat → Int32) (A_read : Nat → Int32) (A_fewest : Nat → Int32) (A_doors : Nat → Int32) (A_isSo : Nat → Int32)  (h : Rel v_text_length A_text_letters v_log_size v_log_promise v_log_delay A_log_times A_log_values v_history_next v_history_size v_history_ring_places v_history_ring_filled A_history_ring_cells v_images_places v_images_filled A_images_cells v_lines_stretches A_lines_stretch A_lines_needs v_thinning_isOutdated v_thinning_pieces v_thinning_doorMask v_thinning_leastMask A_thinning_piece A_thinning_sent v_seen_size v_seen_keptMask v_seen_droppedMask v_survey_isOutdated A_survey_doorMasks v_undoMany v_undoAt v_seenMany v_letterMany A_now A_undos A_seen A_seenAs A_isKept A_kept A_text) : ∃ (zX : Int32 × Int32) (zM : Int32 × Int32), f_TR_clear v_text_length = some zX ∧ f_Mo_clear v_letterMany = some zM ∧ zX.1 = zM.1 ∧ Rel zX.2 A_text_letters v_log_size v_log_promise v_log_delay A_log_times A_log_values v_history_next v_history_size v_history_ring_places v_history_ring_filled A_history_ring_cells v_images_places v_images_filled A_images_cells v_lines_stretches A_lines_stretch A_lines_needs v_thinning_isOutdated v_thinning_pieces v_thinning_doorMask v_thinning_leastMask A_thinning_piece A_thinning_sent v_seen_size v_seen_keptMask v_seen_droppedMask v_survey_isOutdated A_survey_doorMasks v_undoMany v_undoAt v_seenMany zM.2 A_now A_undos A_seen A_seenAs A_isKept A_kept A_text := by
  obtain ⟨⟨n, hn, rfl, rfl, hl⟩, hL, hHi, hI, hTh, hSe, hSu⟩ := id h
  exact ⟨_, _, rfl, rfl, rfl, ⟨0, by omega, rfl, rfl, fun j hj => absurd hj (by omega)⟩, hL, hHi, hI, hTh, hSe, hSu⟩
set_option maxHeartbeats 1000000 in
theorem p_forget (v_text_length : Int32) (A_text_letters : Nat → Int32) (v_parser_at : Int32) (v_parser_kind : Int32) (v_parser_place : Int32) (v_parser_number : Int32) (v_parser_isPromiseTold : Int32) (v_parser_isDelayTold : Int32) (v_parser_draft_size : Int32) (v_parser_draft_promise : Int32) (v_parser_draft_delay : Int32) (A_parser_draft_times : Nat → Int32) (A_parser_draft_values : Nat → Int32) (v_log_size : Int32) (v_log_promise : Int32) (v_log_delay : Int32) (A_log_times : Nat → Int32) (A_log_values : Nat → Int32) (v_history_next : Int32) (v_history_size : Int32) (v_history_ring_places : Int32) (v_history_ring_filled : Int32) (A_history_ring_cells : Nat → Int32) (v_images_places : Int32) (v_images_filled : Int32) (A_images_cells : Nat → Int32) (v_lines_stretches : Int32) (A_lines_stretch : Nat → Int32) (A_lines_needs : Nat → Int32) (v_thinning_isOutdated : Int32) (v_thinning_pieces : Int32) (v_thinning_doorMask : Int32) (v_thinning_leastMask : Int32) (A_thinning_piece : Nat → Int32) (A_thinning_sent : Nat → Int32) (A_thinning_steps : Nat → Int32) (A_thinning_next : Nat → Int32) (v_seen_size : Int32) (v_seen_keptMask : Int32) (v_seen_droppedMask : Int32) (v_survey_isOutdated : Int32) (v_survey_possible : Int32) (v_survey_least : Int32) (v_survey_greatest : Int32) (A_survey_doorMasks : Nat → Int32) (v_fraction_upper : Int32) (v_fraction_lower : Int32) (v_undoMany : Int32) (v_undoAt : Int32) (v_seenMany : Int32) (v_letterMany : Int32) (v_readAt : Int32) (v_tokenAt : Int32) (v_token : Int32) (v_value : Int32) (v_faultAt : Int32) (v_readOnce : Int32) (v_greatUpper : Int64) (v_greatLower : Int64) (A_now : Nat → Int32) (A_undos : Nat → Int32) (A_seen : Nat → Int32) (A_seenAs : Nat → Int32) (A_isKept : Nat → Int32) (A_kept : Nat → Int32) (A_text : Nat → Int32) (A_read : Nat → Int32) (A_fewest : Nat → Int32) (A_doors : Nat → Int32) (A_isSo : Nat → Int32)  (h : Rel v_text_length A_text_letters v_log_size v_log_promise v_log_delay A_log_times A_log_values v_history_next v_history_size v_history_ring_places v_history_ring_filled A_history_ring_cells v_images_places v_images_filled A_images_cells v_lines_stretches A_lines_stretch A_lines_needs v_thinning_isOutdated v_thinning_pieces v_thinning_doorMask v_thinning_leastMask A_thinning_piece A_thinning_sent v_seen_size v_seen_keptMask v_seen_droppedMask v_survey_isOutdated A_survey_doorMasks v_undoMany v_undoAt v_seenMany v_letterMany A_now A_undos A_seen A_seenAs A_isKept A_kept A_text) : ∃ (zX : Int32 × Int32 × Int32 × Int32) (zM : Int32 × Int32), f_TR_forget v_seen_size v_seen_keptMask v_seen_droppedMask = some zX ∧ f_Mo_forget v_seenMany = some zM ∧ zX.1 = zM.1 ∧ Rel v_text_length A_text_letters v_log_size v_log_promise v_log_delay A_log_times A_log_values v_history_next v_history_size v_history_ring_places v_history_ring_filled A_history_ring_cells v_images_places v_images_filled A_images_cells v_lines_stretches A_lines_stretch A_lines_needs v_thinning_isOutdated v_thinning_pieces v_thinning_doorMask v_thinning_leastMask A_thinning_piece A_thinning_sent zX.2.1 zX.2.2.1 zX.2.2.2 v_survey_isOutdated A_survey_doorMasks v_undoMany v_undoAt zM.2 v_letterMany A_now A_undos A_seen A_seenAs A_isKept A_kept A_text := by
  obtain ⟨hT, hL, hHi, hI, hTh, ⟨m, hm, rfl, rfl, hs, hb⟩, hSu⟩ := id h
  refine ⟨_, _, rfl, rfl, rfl, hT, hL, hHi, hI, hTh, ⟨0, by omega, rfl, rfl, fun r hr => absurd hr (by omega), fun k hk => ?_⟩, hSu⟩
  have h0 : (0 : Int32).toBitVec.getLsbD k = false := b_0 k
  constructor
  · show (0 : Int32).toBitVec.getLsbD k = true ↔ _
    rw [h0]
    exact ⟨fun q => absurd q (by decide), fun ⟨r, hr, _⟩ => absurd hr (by omega)⟩
  · show (0 : Int32).toBitVec.getLsbD k = true ↔ _
    rw [h0]
    exact ⟨fun q => absurd q (by decide), fun ⟨r, hr, _⟩ => absurd hr (by omega)⟩
theorem char_ok {c : Nat} (hc : c < 256) : vp_nar .char (((nI c).toUInt32 % 65536).toInt32) = nI c := by
  rw [pk_vc, pk_char, pk_tn (by omega), Nat.mod_eq_of_lt (by omega)]
set_option maxHeartbeats 1000000 in
theorem p_type (v_text_length : Int32) (A_text_letters : Nat → Int32) (v_parser_at : Int32) (v_parser_kind : Int32) (v_parser_place : Int32) (v_parser_number : Int32) (v_parser_isPromiseTold : Int32) (v_parser_isDelayTold : Int32) (v_parser_draft_size : Int32) (v_parser_draft_promise : Int32) (v_parser_draft_delay : Int32) (A_parser_draft_times : Nat → Int32) (A_parser_draft_values : Nat → Int32) (v_log_size : Int32) (v_log_promise : Int32) (v_log_delay : Int32) (A_log_times : Nat → Int32) (A_log_values : Nat → Int32) (v_history_next : Int32) (v_history_size : Int32) (v_history_ring_places : Int32) (v_history_ring_filled : Int32) (A_history_ring_cells : Nat → Int32) (v_images_places : Int32) (v_images_filled : Int32) (A_images_cells : Nat → Int32) (v_lines_stretches : Int32) (A_lines_stretch : Nat → Int32) (A_lines_needs : Nat → Int32) (v_thinning_isOutdated : Int32) (v_thinning_pieces : Int32) (v_thinning_doorMask : Int32) (v_thinning_leastMask : Int32) (A_thinning_piece : Nat → Int32) (A_thinning_sent : Nat → Int32) (A_thinning_steps : Nat → Int32) (A_thinning_next : Nat → Int32) (v_seen_size : Int32) (v_seen_keptMask : Int32) (v_seen_droppedMask : Int32) (v_survey_isOutdated : Int32) (v_survey_possible : Int32) (v_survey_least : Int32) (v_survey_greatest : Int32) (A_survey_doorMasks : Nat → Int32) (v_fraction_upper : Int32) (v_fraction_lower : Int32) (v_undoMany : Int32) (v_undoAt : Int32) (v_seenMany : Int32) (v_letterMany : Int32) (v_readAt : Int32) (v_tokenAt : Int32) (v_token : Int32) (v_value : Int32) (v_faultAt : Int32) (v_readOnce : Int32) (v_greatUpper : Int64) (v_greatLower : Int64) (A_now : Nat → Int32) (A_undos : Nat → Int32) (A_seen : Nat → Int32) (A_seenAs : Nat → Int32) (A_isKept : Nat → Int32) (A_kept : Nat → Int32) (A_text : Nat → Int32) (A_read : Nat → Int32) (A_fewest : Nat → Int32) (A_doors : Nat → Int32) (A_isSo : Nat → Int32) (p1 : Int32) (h : Rel v_text_length A_text_letters v_log_size v_log_promise v_log_delay A_log_times A_log_values v_history_next v_history_size v_history_ring_places v_history_ring_filled A_history_ring_cells v_images_places v_images_filled A_images_cells v_lines_stretches A_lines_stretch A_lines_needs v_thinning_isOutdated v_thinning_pieces v_thinning_doorMask v_thinning_leastMask A_thinning_piece A_thinning_sent v_seen_size v_seen_keptMask v_seen_droppedMask v_survey_isOutdated A_survey_doorMasks v_undoMany v_undoAt v_seenMany v_letterMany A_now A_undos A_seen A_seenAs A_isKept A_kept A_text) : ∃ (zX : Int32 × Int32 × (Nat → Int32)) (zM : Int32 × Int32 × (Nat → Int32)), f_TR_type v_text_length A_text_letters p1 = some zX ∧ f_Mo_type v_letterMany A_text p1 = some zM ∧ zX.1 = zM.1 ∧ Rel zX.2.1 zX.2.2 v_log_size v_log_promise v_log_delay A_log_times A_log_values v_history_next v_history_size v_history_ring_places v_history_ring_filled A_history_ring_cells v_images_places v_images_filled A_images_cells v_lines_stretches A_lines_stretch A_lines_needs v_thinning_isOutdated v_thinning_pieces v_thinning_doorMask v_thinning_leastMask A_thinning_piece A_thinning_sent v_seen_size v_seen_keptMask v_seen_droppedMask v_survey_isOutdated A_survey_doorMasks v_undoMany v_undoAt v_seenMany zM.2.1 A_now A_undos A_seen A_seenAs A_isKept A_kept zM.2.2 := by
  obtain ⟨⟨n, hn, rfl, rfl, hl⟩, hL, hHi, hI, hTh, hSe, hSu⟩ := id h
  unfold f_TR_type f_Mo_type
  rcases within_cases p1 255 (by omega) with ⟨e1, e2⟩ | ⟨t, ht, rfl, e1, e2⟩
  · simp only [show f_TR_isWithin p1 0 255 = 0 from e1, show f_Mo_in p1 0 255 = 0 from e2, ↓reduceIte]; exact ⟨_, _, rfl, rfl, rfl, h⟩
  · simp only [show f_TR_isWithin (nI t) 0 255 = 1 from e1, show f_Mo_in (nI t) 0 255 = 1 from e2, n10, ↓reduceIte]
    by_cases h0 : n = 120
    · subst h0
      exact ⟨_, _, rfl, rfl, rfl, h⟩
    · have e3 : f_Text_isFull (nI n) = 0 := by
        unfold f_Text_isFull
        rw [l120, if_pos (nI_lt (by omega) (by omega))]
      have e4 : ¬ nI n = (120 : Int32) := by rw [l120, nI_eq (by omega) (by omega)]; exact h0
      have e5 : nI n + (1 : Int32) = nI (n + 1) := by rw [l1, nI_add]
      simp only [f_Text_put, e3, e4, e5, ↓reduceIte, inB_nI (show n < 120 by omega) (by omega), nI_clamp (show n < 2 ^ 31 by omega), Option.bind_some, char_ok (show t < 256 by omega)]
      refine ⟨_, _, rfl, rfl, rfl, ⟨n + 1, by omega, rfl, rfl, fun j hj => ?_⟩, hL, hHi, hI, hTh, hSe, hSu⟩
      show upd A_text_letters n (nI t) j = upd A_text n (nI t) j ∧ ∃ c : Nat, c < 256 ∧ upd A_text n (nI t) j = nI c
      rw [upd_at, upd_at]
      by_cases hjn : j = n
      · rw [if_pos hjn, if_pos hjn]; exact ⟨rfl, t, by omega, rfl⟩
      · rw [if_neg hjn, if_neg hjn]; exact hl j (by omega)
set_option maxHeartbeats 1000000 in
theorem p_sees (v_text_length : Int32) (A_text_letters : Nat → Int32) (v_parser_at : Int32) (v_parser_kind : Int32) (v_parser_place : Int32) (v_parser_number : Int32) (v_parser_isPromiseTold : Int32) (v_parser_isDelayTold : Int32) (v_parser_draft_size : Int32) (v_parser_draft_promise : Int32) (v_parser_draft_delay : Int32) (A_parser_draft_times : Nat → Int32) (A_parser_draft_values : Nat → Int32) (v_log_size : Int32) (v_log_promise : Int32) (v_log_delay : Int32) (A_log_times : Nat → Int32) (A_log_values : Nat → Int32) (v_history_next : Int32) (v_history_size : Int32) (v_history_ring_places : Int32) (v_history_ring_filled : Int32) (A_history_ring_cells : Nat → Int32) (v_images_places : Int32) (v_images_filled : Int32) (A_images_cells : Nat → Int32) (v_lines_stretches : Int32) (A_lines_stretch : Nat → Int32) (A_lines_needs : Nat → Int32) (v_thinning_isOutdated : Int32) (v_thinning_pieces : Int32) (v_thinning_doorMask : Int32) (v_thinning_leastMask : Int32) (A_thinning_piece : Nat → Int32) (A_thinning_sent : Nat → Int32) (A_thinning_steps : Nat → Int32) (A_thinning_next : Nat → Int32) (v_seen_size : Int32) (v_seen_keptMask : Int32) (v_seen_droppedMask : Int32) (v_survey_isOutdated : Int32) (v_survey_possible : Int32) (v_survey_least : Int32) (v_survey_greatest : Int32) (A_survey_doorMasks : Nat → Int32) (v_fraction_upper : Int32) (v_fraction_lower : Int32) (v_undoMany : Int32) (v_undoAt : Int32) (v_seenMany : Int32) (v_letterMany : Int32) (v_readAt : Int32) (v_tokenAt : Int32) (v_token : Int32) (v_value : Int32) (v_faultAt : Int32) (v_readOnce : Int32) (v_greatUpper : Int64) (v_greatLower : Int64) (A_now : Nat → Int32) (A_undos : Nat → Int32) (A_seen : Nat → Int32) (A_seenAs : Nat → Int32) (A_isKept : Nat → Int32) (A_kept : Nat → Int32) (A_text : Nat → Int32) (A_read : Nat → Int32) (A_fewest : Nat → Int32) (A_doors : Nat → Int32) (A_isSo : Nat → Int32) (p1 : Int32) (p2 : Int32) (h : Rel v_text_length A_text_letters v_log_size v_log_promise v_log_delay A_log_times A_log_values v_history_next v_history_size v_history_ring_places v_history_ring_filled A_history_ring_cells v_images_places v_images_filled A_images_cells v_lines_stretches A_lines_stretch A_lines_needs v_thinning_isOutdated v_thinning_pieces v_thinning_doorMask v_thinning_leastMask A_thinning_piece A_thinning_sent v_seen_size v_seen_keptMask v_seen_droppedMask v_survey_isOutdated A_survey_doorMasks v_undoMany v_undoAt v_seenMany v_letterMany A_now A_undos A_seen A_seenAs A_isKept A_kept A_text) : ∃ (zX : Int32 × Int32 × Int32 × Int32) (zM : Int32 × Int32 × (Nat → Int32) × (Nat → Int32)), f_TR_sees v_log_size A_log_values v_seen_size v_seen_keptMask v_seen_droppedMask p1 p2 = some zX ∧ f_Mo_sees v_seenMany A_now A_seen A_seenAs p1 p2 = some zM ∧ zX.1 = zM.1 ∧ Rel v_text_length A_text_letters v_log_size v_log_promise v_log_delay A_log_times A_log_values v_history_next v_history_size v_history_ring_places v_history_ring_filled A_history_ring_cells v_images_places v_images_filled A_images_cells v_lines_stretches A_lines_stretch A_lines_needs v_thinning_isOutdated v_thinning_pieces v_thinning_doorMask v_thinning_leastMask A_thinning_piece A_thinning_sent zX.2.1 zX.2.2.1 zX.2.2.2 v_survey_isOutdated A_survey_doorMasks v_undoMany v_undoAt zM.2.1 v_letterMany A_now A_undos zM.2.2.1 zM.2.2.2 A_isKept A_kept A_text := by
  obtain ⟨hT, ⟨n, p, d, hw, rfl, rfl, rfl, hrow⟩, hHi, hI, hTh, ⟨m, hm, rfl, rfl, hs, hb⟩, hSu⟩ := id h
  have hn := hw.1
  unfold f_TR_sees f_Mo_sees
  have hk : (f_Log_isKnown (nI n) A_log_values p1 = some 0 ∧ f_Mo_isKnown A_now p1 = some 0) ∨ ∃ k : Nat, k < n ∧ p1 = nI k ∧ f_Log_isKnown (nI n) A_log_values p1 = some 1 ∧ f_Mo_isKnown A_now p1 = some 1 := by
    rcases has_cases hn hrow.1 p1 with ⟨e1, e2⟩ | ⟨k, hk, rfl, e1, e2⟩
    · left
      unfold f_Log_isKnown f_Mo_isKnown
      rw [e1, e2]
      exact ⟨rfl, rfl⟩
    · rw [knX hn _ (by omega), knM hn hrow (by omega)]
      cases hq : Kn n A_log_values k
      · exact Or.inl ⟨rfl, rfl⟩
      · exact Or.inr ⟨k, hk, rfl, rfl, rfl⟩
  rcases hk with ⟨e1, e2⟩ | ⟨k, hk, rfl, e1, e2⟩
  · simp only [e1, e2, Option.bind_some, ↓reduceIte]; exact ⟨_, _, rfl, rfl, rfl, h⟩
  · simp only [e1, e2, Option.bind_some, ↓reduceIte, n10]
    rcases within_cases p2 1 (by omega) with ⟨e1, e2⟩ | ⟨t, ht, rfl, e1, e2⟩
    · simp only [show f_TR_isWithin p2 0 1 = 0 from e1, show f_Mo_in p2 0 1 = 0 from e2, ↓reduceIte]; exact ⟨_, _, rfl, rfl, rfl, h⟩
    · simp only [show f_TR_isWithin (nI t) 0 1 = 1 from e1, show f_Mo_in (nI t) 0 1 = 1 from e2, n10, ↓reduceIte]
      by_cases h0 : m = 6
      · subst h0
        exact ⟨_, _, rfl, rfl, rfl, h⟩
      · have e3 : f_Seen_isFull (nI m) = 0 := by
          unfold f_Seen_isFull
          rw [l6, if_pos (nI_lt (by omega) (by omega))]
        have e4 : ¬ nI m = (6 : Int32) := by rw [l6, nI_eq (by omega) (by omega)]; exact h0
        have e5 : nI m + (1 : Int32) = nI (m + 1) := by rw [l1, nI_add]
        have key : ∀ (x y : Int32), (∀ q : Nat, q < 32 → (bt x q = true ↔ (bt v_seen_keptMask q = true ∨ (q = k ∧ t = 1))) ∧ (bt y q = true ↔ (bt v_seen_droppedMask q = true ∨ (q = k ∧ t = 0)))) → SeenR (nI (m + 1)) x y (nI (m + 1)) (upd A_seen m (nI k)) (upd A_seenAs m (nI t)) := by
          intro x y hxy
          have u1 : ∀ r : Nat, r < m → upd A_seen m (nI k) r = A_seen r := fun r hr => pk_un (by omega)
          have u2 : ∀ r : Nat, r < m → upd A_seenAs m (nI t) r = A_seenAs r := fun r hr => pk_un (by omega)
          have u3 : upd A_seen m (nI k) m = nI k := pk_us
          have u4 : upd A_seenAs m (nI t) m = nI t := pk_us
          have hex : ∀ (q c : Nat), q < 32 → c ≤ 1 → ((∃ r : Nat, r < m + 1 ∧ upd A_seen m (nI k) r = nI q ∧ upd A_seenAs m (nI t) r = nI c) ↔ ((∃ r : Nat, r < m ∧ A_seen r = nI q ∧ A_seenAs r = nI c) ∨ (q = k ∧ t = c))) := by
            intro q c hq hc
            constructor
            · rintro ⟨r, hr, a1, a2⟩
              rcases Nat.lt_or_ge r m with h1 | h1
              · left; exact ⟨r, h1, (u1 r h1) ▸ a1, (u2 r h1) ▸ a2⟩
              · have : r = m := by omega
                subst this
                right
                rw [u3, nI_eq (by omega) (by omega)] at a1
                rw [u4, nI_eq (by omega) (by omega)] at a2
                exact ⟨a1.symm, a2⟩
            · rintro (⟨r, hr, a1, a2⟩ | ⟨rfl, rfl⟩)
              · exact ⟨r, by omega, (u1 r hr).trans a1, (u2 r hr).trans a2⟩
              · exact ⟨m, by omega, u3, u4⟩
          refine ⟨m + 1, by omega, rfl, rfl, fun r hr => ?_, fun q hq => ⟨?_, ?_⟩⟩
          · rcases Nat.lt_or_ge r m with h1 | h1
            · rw [u1 r h1, u2 r h1]; exact hs r h1
            · have : r = m := by omega
              subst this
              rw [u3, u4]
              refine ⟨⟨k, by omega, rfl⟩, ?_⟩
              rcases (show t = 0 ∨ t = 1 by omega) with rfl | rfl
              · exact Or.inl rfl
              · exact Or.inr rfl
          · exact ((hxy q hq).1.trans (or_congr (hb q hq).1 Iff.rfl)).trans (hex q 1 hq (by omega)).symm
          · exact ((hxy q hq).2.trans (or_congr (hb q hq).2 Iff.rfl)).trans (hex q 0 hq (by omega)).symm
        simp only [f_Seen_put, e3, e4, e5, ↓reduceIte, inB_nI (show m < 6 by omega) (by omega), nI_clamp (show m < 2 ^ 31 by omega)]
        rcases (show t = 0 ∨ t = 1 by omega) with rfl | rfl
        · rw [if_neg (by decide)]
          refine ⟨_, _, rfl, rfl, rfl, hT, ⟨n, p, d, hw, rfl, rfl, rfl, hrow⟩, hHi, hI, hTh, key _ _ (fun q hq => ⟨?_, ?_⟩), hSu⟩
          · simp
          · rw [bt_set _ (by omega) hq]; simp
        · rw [if_pos (show nI 1 = 1 from rfl)]
          refine ⟨_, _, rfl, rfl, rfl, hT, ⟨n, p, d, hw, rfl, rfl, rfl, hrow⟩, hHi, hI, hTh, key _ _ (fun q hq => ⟨?_, ?_⟩), hSu⟩
          · rw [bt_set _ (by omega) hq]; simp
          · simp

/-! ===== pure: the calls that change the log, undo, images ===== -/
theorem n10 : ((1 : Int32) = 0) = False := eq_false (by decide)
def HH (a m : Nat) (F : Int32) (C U : Nat → Int32) : Prop := ∀ r : Nat, r < m → f_TR_bitAt F (nI ((a + 9 - r) % 10)) = 1 ∧ RowR (fun j => C (31 * ((a + 9 - r) % 10) + j)) (fun j => U (31 * ((a + 9 - r) % 10) + j))
theorem rem_ok {a m n p d : Nat} {F : Int32} {C U T V now : Nat → Int32} (ha : a < 10) (hm : m ≤ 10) (hh : HH a m F C U) (hw : LW n p d T V) (hr : RowIs now n p d T V) (o1 o2 : Int32) :
    ∃ (F' : Int32) (C' U' : Nat → Int32), f_TR_rememberForUndo (nI n) (nI p) (nI d) T V (nI a) (nI m) 10 F C o1 o2 = some (nI ((a + 1) % 10), nI (min (m + 1) 10), F', C', 1, 1) ∧ f_Mo_remember (nI m) (nI a) now U = some (nI (min (m + 1) 10), nI ((a + 1) % 10), U') ∧
      HistR (nI ((a + 1) % 10)) (nI (min (m + 1) 10)) 10 F' C' (nI (min (m + 1) 10)) (nI ((a + 1) % 10)) U' := by
  obtain ⟨C', e1, c0, c1, c2, c3, c4⟩ := push_ok ha hm F C (nI n) (nI p) (nI d) T V
  obtain ⟨U', e2, u1, u2⟩ := mrem_ok ha hm now U
  refine ⟨_, C', U', ?_, e2, HistR_push ha hm hh hw hr c0 c1 c2 c3 c4 u1 u2⟩
  unfold f_TR_rememberForUndo f_TR_outdateAll f_Thinning_outdate f_Survey_outdate
  rw [e1]
  rfl
theorem LW_add {n p d t : Nat} {w : Int32} {T V : Nat → Int32} (hw : LW n p d T V) (hn : n < 14) (ht : t ≤ 999) (hl : ∀ j : Nat, j < n → (T j).toInt < t) (hv : w = -9 ∨ (0 ≤ w.toInt ∧ w.toInt ≤ 999)) : LW (n + 1) p d (upd T n (nI t)) (upd V n w) := by
  obtain ⟨h1, h2, h3, h4, h5, h6, h7⟩ := hw
  have et : (nI t).toInt = (t : Int) := nI_toInt (by omega)
  refine ⟨by omega, h2, h3, h4, fun j hj => ?_, fun i j hij hj => ?_, fun j hj => ?_⟩
  · rw [upd_at]
    by_cases h : j = n
    · rw [if_pos h, et]; omega
    · rw [if_neg h]; exact h5 j (by omega)
  · rw [upd_at, upd_at]
    by_cases h : j = n
    · rw [if_pos h, if_neg (by omega), et]; exact hl i (by omega)
    · rw [if_neg h, if_neg (by omega)]; exact h6 i j hij (by omega)
  · rw [upd_at]
    by_cases h : j = n
    · rw [if_pos h]; exact hv
    · rw [if_neg h]; exact h7 j (by omega)
theorem isLater_ok {n : Nat} (hn : n ≤ 14) (T : Nat → Int32) (x : Int32) : f_Log_isLater (nI n) T x = some (if n = 0 ∨ T (n - 1) < x then 1 else 0) := by
  unfold f_Log_isLater f_Log_timeAt f_Log_has
  rcases Nat.eq_zero_or_pos n with h | h
  · subst h; rfl
  · simp (disch := omega) only [l0, l1, nI_eq, if_neg, pk_sub, nI_ltI, nI_leI, inB_nI, ↓reduceIte, nI_clamp, Option.bind_some]
    by_cases h2 : T (n - 1) < x
    · rw [if_neg (Int32.not_le.mpr h2), if_pos (Or.inr h2)]
    · rw [if_pos (Int32.not_lt.mp h2), if_neg (by rintro (h3 | h3); omega; exact h2 h3)]
theorem isFull_ok {n : Nat} (hn : n ≤ 14) : f_Log_isFull (nI n) = if n = 14 then 1 else 0 := by
  unfold f_Log_isFull
  by_cases h : n = 14
  · subst h; rfl
  · rw [if_pos (by rw [l14, nI_ltI (by omega) (by omega)]; omega), if_neg h]
theorem append_ok {n : Nat} (hn : n < 14) (T V : Nat → Int32) (x w : Int32) : f_Log_append (nI n) T V x w = some (nI n, nI (n + 1), upd T n x, upd V n w) := by
  unfold f_Log_append
  rw [isFull_ok (by omega), if_neg (by omega : ¬ n = 14), if_pos rfl, inB_nI hn (by omega), if_pos rfl, if_pos rfl, nI_clamp (by omega), l1, nI_add, pk_sub (by omega), Nat.add_sub_cancel]
theorem appX {a m n p d : Nat} (hn : n ≤ 14) (F : Int32) (C T V : Nat → Int32) (o1 o2 x w : Int32) : f_TR_appendReading (nI n) (nI p) (nI d) T V (nI a) (nI m) 10 F C o1 o2 x w =
    if n = 0 ∨ T (n - 1) < x then (if n = 14 then some (-3, nI n, T, V, nI a, nI m, F, C, o1, o2) else (f_TR_rememberForUndo (nI n) (nI p) (nI d) T V (nI a) (nI m) 10 F C o1 o2).bind fun z => some (nI n, nI (n + 1), upd T n x, upd V n w, z.1, z.2.1, z.2.2.1, z.2.2.2.1, z.2.2.2.2.1, z.2.2.2.2.2)) else some (-2, nI n, T, V, nI a, nI m, F, C, o1, o2) := by
  unfold f_TR_appendReading
  rw [isLater_ok hn, isFull_ok hn, Option.bind_some]
  by_cases h1 : n = 0 ∨ T (n - 1) < x
  · rw [if_pos h1, if_pos h1, if_neg (by decide)]
    by_cases h2 : n = 14
    · rw [if_pos h2, if_pos h2, if_neg (by decide)]
    · rw [if_neg h2, if_neg h2, if_pos rfl, append_ok (by omega)]
      rfl
  · rw [if_neg h1, if_neg h1, if_pos rfl]
theorem comM {a m n : Nat} (hn : n ≤ 14) {now U T V : Nat → Int32} {p d : Nat} (hr : RowIs now n p d T V) (x w : Int32) : f_Mo_comes (nI m) (nI a) now U x w =
    if n = 0 ∨ T (n - 1) < x then (if n = 14 then some (-3, nI m, nI a, now, U) else (f_Mo_remember (nI m) (nI a) now U).bind fun z => some (nI n, z.1, z.2.1, upd (upd (upd now (3 + n) x) (17 + n) w) 0 (nI (n + 1)), z.2.2)) else some (-2, nI m, nI a, now, U) := by
  obtain ⟨r0, r1, r2, r3⟩ := hr
  have z0 : ((0 : Int32)).toNatClampNeg = 0 := rfl
  have e1 : (3 : Int32) + nI n = nI (3 + n) := by rw [l3, nI_add]
  have e2 : (17 : Int32) + nI n = nI (17 + n) := by rw [l17, nI_add]
  have i0 : inB (0 : Int32) 31 = true := by decide
  have c1 : (nI (3 + n)).toNatClampNeg = 3 + n := nI_clamp (by omega)
  have c2 : (nI (17 + n)).toNatClampNeg = 17 + n := nI_clamp (by omega)
  have u0 : upd (upd now (3 + n) x) (17 + n) w 0 = nI n := by rw [pk_un (by omega), pk_un (by omega), r0]
  have e3 : nI n + (1 : Int32) = nI (n + 1) := by rw [l1, nI_add]
  unfold f_Mo_comes
  simp only [z0, r0, e1, e2, i0, c1, c2, u0, e3, ↓reduceIte]
  have q14 : (nI n = (14 : Int32)) = (n = 14) := by rw [l14]; exact nI_eq' (by omega) (by omega)
  have q0 : (nI n ≤ (0 : Int32)) = (n ≤ 0) := by rw [l0]; exact nI_le' (by omega) (by omega)
  simp only [q14, q0]
  by_cases h0 : n = 0
  · subst h0
    have i1 : inB (nI (3 + 0)) 31 = true := by decide
    have i2 : inB (nI (17 + 0)) 31 = true := by decide
    simp only [i1, i2, ↓reduceIte, Nat.le_refl, true_or]
  · have i3 : inB (nI (3 + n) - 1) 31 = true := by rw [l1, pk_sub (by omega)]; exact inB_nI (by omega) (by omega)
    have c3 : (nI (3 + n) - 1).toNatClampNeg = 3 + (n - 1) := by rw [l1, pk_sub (by omega), nI_clamp (by omega)]; omega
    simp only [i3, c3, (r3 (n - 1) (by omega)).1, h0, false_or, Nat.le_zero, ↓reduceIte]
    by_cases h1 : T (n - 1) < x
    · simp only [h1, ↓reduceIte]
      by_cases h2 : n = 14
      · simp only [h2, ↓reduceIte]
      · have i1 : inB (nI (3 + n)) 31 = true := inB_nI (by omega) (by omega)
        have i2 : inB (nI (17 + n)) 31 = true := inB_nI (by omega) (by omega)
        simp only [h2, i1, i2, ↓reduceIte]
    · simp only [h1, ↓reduceIte]
theorem comes_ok {a m n p d t : Nat} {F : Int32} {C U T V now : Nat → Int32} (ha : a < 10) (hm : m ≤ 10) (hh : HH a m F C U) (hw : LW n p d T V) (hr : RowIs now n p d T V) (o1 o2 : Int32) (ht : t ≤ 999) {w : Int32} (hv : w = -9 ∨ (0 ≤ w.toInt ∧ w.toInt ≤ 999)) :
    (∃ k : Int32, f_TR_appendReading (nI n) (nI p) (nI d) T V (nI a) (nI m) 10 F C o1 o2 (nI t) w = some (k, nI n, T, V, nI a, nI m, F, C, o1, o2) ∧ f_Mo_comes (nI m) (nI a) now U (nI t) w = some (k, nI m, nI a, now, U)) ∨
    (∃ (F' : Int32) (T' V' now' C' U' : Nat → Int32), f_TR_appendReading (nI n) (nI p) (nI d) T V (nI a) (nI m) 10 F C o1 o2 (nI t) w = some (nI n, nI (n + 1), T', V', nI ((a + 1) % 10), nI (min (m + 1) 10), F', C', 1, 1) ∧ f_Mo_comes (nI m) (nI a) now U (nI t) w = some (nI n, nI (min (m + 1) 10), nI ((a + 1) % 10), now', U') ∧
      LW (n + 1) p d T' V' ∧ RowIs now' (n + 1) p d T' V' ∧ HistR (nI ((a + 1) % 10)) (nI (min (m + 1) 10)) 10 F' C' (nI (min (m + 1) 10)) (nI ((a + 1) % 10)) U') := by
  have hn := hw.1
  rw [appX hn, comM hn hr]
  by_cases h1 : n = 0 ∨ T (n - 1) < nI t
  · rw [if_pos h1, if_pos h1]
    have hl : ∀ j : Nat, j < n → (T j).toInt < t := by
      intro j hj
      rcases h1 with h | h
      · omega
      · rw [Int32.lt_iff_toInt_lt, nI_toInt (by omega)] at h
        rcases Nat.lt_or_ge j (n - 1) with h2 | h2
        · have := hw.2.2.2.2.2.1 j (n - 1) h2 (by omega); omega
        · have : j = n - 1 := by omega
          subst this; exact h
    by_cases h2 : n = 14
    · rw [if_pos h2, if_pos h2]; exact Or.inl ⟨_, rfl, rfl⟩
    · obtain ⟨F', C', U', e1, e2, e3⟩ := rem_ok ha hm hh hw hr o1 o2
      rw [if_neg h2, if_neg h2, e1, e2]
      refine Or.inr ⟨_, _, _, _, _, _, rfl, rfl, LW_add hw (by omega) ht hl hv, ?_, e3⟩
      obtain ⟨r0, r1, r2, r3⟩ := hr
      refine ⟨?_, ?_, ?_, fun j hj => ?_⟩
      · rw [upd_at, if_pos rfl]
      · simp (disch := omega) only [upd_at, if_neg]; exact r1
      · simp (disch := omega) only [upd_at, if_neg]; exact r2
      · simp only [upd_at]
        by_cases h3 : j = n
        · subst h3
          simp (disch := omega) only [if_neg, if_pos]
          exact ⟨rfl, rfl⟩
        · have := r3 j (by omega)
          simp (disch := omega) only [if_neg]
          exact this
  · rw [if_neg h1, if_neg h1]; exact Or.inl ⟨_, rfl, rfl⟩
theorem within_cases (x : Int32) (M : Nat) (hM : M < 2 ^ 31) : (f_TR_isWithin x 0 (nI M) = 0 ∧ f_Mo_in x 0 (nI M) = 0) ∨ ∃ j : Nat, j ≤ M ∧ x = nI j ∧ f_TR_isWithin x 0 (nI M) = 1 ∧ f_Mo_in x 0 (nI M) = 1 := by
  unfold f_TR_isWithin f_Mo_in
  rcases in_cases x hM with h | h | ⟨j, hj, rfl⟩
  · left; rw [if_pos h]; exact ⟨rfl, rfl⟩
  · left; rw [if_pos h]; split <;> exact ⟨rfl, rfl⟩
  · right
    refine ⟨j, hj, rfl, ?_⟩
    have a1 : ¬ nI j < 0 := nI_pos (by omega)
    have a2 : ¬ nI M < nI j := nI_nlt hj hM
    rw [if_neg a1, if_neg a2]; exact ⟨rfl, rfl⟩
set_option maxHeartbeats 1000000 in
theorem p_adds (v_text_length : Int32) (A_text_letters : Nat → Int32) (v_parser_at : Int32) (v_parser_kind : Int32) (v_parser_place : Int32) (v_parser_number : Int32) (v_parser_isPromiseTold : Int32) (v_parser_isDelayTold : Int32) (v_parser_draft_size : Int32) (v_parser_draft_promise : Int32) (v_parser_draft_delay : Int32) (A_parser_draft_times : Nat → Int32) (A_parser_draft_values : Nat → Int32) (v_log_size : Int32) (v_log_promise : Int32) (v_log_delay : Int32) (A_log_times : Nat → Int32) (A_log_values : Nat → Int32) (v_history_next : Int32) (v_history_size : Int32) (v_history_ring_places : Int32) (v_history_ring_filled : Int32) (A_history_ring_cells : Nat → Int32) (v_images_places : Int32) (v_images_filled : Int32) (A_images_cells : Nat → Int32) (v_lines_stretches : Int32) (A_lines_stretch : Nat → Int32) (A_lines_needs : Nat → Int32) (v_thinning_isOutdated : Int32) (v_thinning_pieces : Int32) (v_thinning_doorMask : Int32) (v_thinning_leastMask : Int32) (A_thinning_piece : Nat → Int32) (A_thinning_sent : Nat → Int32) (A_thinning_steps : Nat → Int32) (A_thinning_next : Nat → Int32) (v_seen_size : Int32) (v_seen_keptMask : Int32) (v_seen_droppedMask : Int32) (v_survey_isOutdated : Int32) (v_survey_possible : Int32) (v_survey_least : Int32) (v_survey_greatest : Int32) (A_survey_doorMasks : Nat → Int32) (v_fraction_upper : Int32) (v_fraction_lower : Int32) (v_undoMany : Int32) (v_undoAt : Int32) (v_seenMany : Int32) (v_letterMany : Int32) (v_readAt : Int32) (v_tokenAt : Int32) (v_token : Int32) (v_value : Int32) (v_faultAt : Int32) (v_readOnce : Int32) (v_greatUpper : Int64) (v_greatLower : Int64) (A_now : Nat → Int32) (A_undos : Nat → Int32) (A_seen : Nat → Int32) (A_seenAs : Nat → Int32) (A_isKept : Nat → Int32) (A_kept : Nat → Int32) (A_text : Nat → Int32) (A_read : Nat → Int32) (A_fewest : Nat → Int32) (A_doors : Nat → Int32) (A_isSo : Nat → Int32) (p1 : Int32) (p2 : Int32) (h : Rel v_text_length A_text_letters v_log_size v_log_promise v_log_delay A_log_times A_log_values v_history_next v_history_size v_history_ring_places v_history_ring_filled A_history_ring_cells v_images_places v_images_filled A_images_cells v_lines_stretches A_lines_stretch A_lines_needs v_thinning_isOutdated v_thinning_pieces v_thinning_doorMask v_thinning_leastMask A_thinning_piece A_thinning_sent v_seen_size v_seen_keptMask v_seen_droppedMask v_survey_isOutdated A_survey_doorMasks v_undoMany v_undoAt v_seenMany v_letterMany A_now A_undos A_seen A_seenAs A_isKept A_kept A_text) : ∃ (zX : Int32 × Int32 × (Nat → Int32) × (Nat → Int32) × Int32 × Int32 × Int32 × (Nat → Int32) × Int32 × Int32) (zM : Int32 × Int32 × Int32 × (Nat → Int32) × (Nat → Int32)), f_TR_adds v_log_size v_log_promise v_log_delay A_log_times A_log_values v_history_next v_history_size v_history_ring_places v_history_ring_filled A_history_ring_cells v_thinning_isOutdated v_survey_isOutdated p1 p2 = some zX ∧ f_Mo_adds v_undoMany v_undoAt A_now A_undos p1 p2 = some zM ∧ zX.1 = zM.1 ∧ Rel v_text_length A_text_letters zX.2.1 v_log_promise v_log_delay zX.2.2.1 zX.2.2.2.1 zX.2.2.2.2.1 zX.2.2.2.2.2.1 v_history_ring_places zX.2.2.2.2.2.2.1 zX.2.2.2.2.2.2.2.1 v_images_places v_images_filled A_images_cells v_lines_stretches A_lines_stretch A_lines_needs zX.2.2.2.2.2.2.2.2.1 v_thinning_pieces v_thinning_doorMask v_thinning_leastMask A_thinning_piece A_thinning_sent v_seen_size v_seen_keptMask v_seen_droppedMask zX.2.2.2.2.2.2.2.2.2 A_survey_doorMasks zM.2.1 zM.2.2.1 v_seenMany v_letterMany zM.2.2.2.1 zM.2.2.2.2 A_seen A_seenAs A_isKept A_kept A_text := by
  obtain ⟨hT, ⟨n, p, d, hw, rfl, rfl, rfl, hrow⟩, ⟨a, m, ha, hm, rfl, rfl, rfl, rfl, rfl, hh⟩, hI, hTh, hSe, hSu⟩ := id h
  unfold f_TR_adds f_Mo_adds
  rcases within_cases p1 999 (by omega) with ⟨e1, e2⟩ | ⟨t, ht, rfl, e1, e2⟩
  · simp only [show f_TR_isWithin p1 0 999 = 0 from e1, show f_Mo_in p1 0 999 = 0 from e2, ↓reduceIte]; exact ⟨_, _, rfl, rfl, rfl, h⟩
  · simp only [show f_TR_isWithin (nI t) 0 999 = 1 from e1, show f_Mo_in (nI t) 0 999 = 1 from e2, n10, ↓reduceIte]
    rcases within_cases p2 999 (by omega) with ⟨e1, e2⟩ | ⟨w, hw2, rfl, e1, e2⟩
    · simp only [show f_TR_isWithin p2 0 999 = 0 from e1, show f_Mo_in p2 0 999 = 0 from e2, ↓reduceIte]; exact ⟨_, _, rfl, rfl, rfl, h⟩
    · simp only [show f_TR_isWithin (nI w) 0 999 = 1 from e1, show f_Mo_in (nI w) 0 999 = 1 from e2, n10, ↓reduceIte]
      rcases comes_ok ha hm hh hw hrow v_thinning_isOutdated v_survey_isOutdated ht (w := nI w) (Or.inr (by rw [nI_toInt (by omega)]; omega)) with ⟨k, e1, e2⟩ | ⟨F', T', V', now', C', U', e1, e2, e3, e4, e5⟩
      · rw [e1, e2]; exact ⟨_, _, rfl, rfl, rfl, h⟩
      · rw [e1, e2]; exact ⟨_, _, rfl, rfl, rfl, hT, ⟨n + 1, p, d, e3, rfl, rfl, rfl, e4⟩, e5, hI, Or.inl rfl, hSe, Or.inl rfl⟩
set_option maxHeartbeats 1000000 in
theorem p_misses (v_text_length : Int32) (A_text_letters : Nat → Int32) (v_parser_at : Int32) (v_parser_kind : Int32) (v_parser_place : Int32) (v_parser_number : Int32) (v_parser_isPromiseTold : Int32) (v_parser_isDelayTold : Int32) (v_parser_draft_size : Int32) (v_parser_draft_promise : Int32) (v_parser_draft_delay : Int32) (A_parser_draft_times : Nat → Int32) (A_parser_draft_values : Nat → Int32) (v_log_size : Int32) (v_log_promise : Int32) (v_log_delay : Int32) (A_log_times : Nat → Int32) (A_log_values : Nat → Int32) (v_history_next : Int32) (v_history_size : Int32) (v_history_ring_places : Int32) (v_history_ring_filled : Int32) (A_history_ring_cells : Nat → Int32) (v_images_places : Int32) (v_images_filled : Int32) (A_images_cells : Nat → Int32) (v_lines_stretches : Int32) (A_lines_stretch : Nat → Int32) (A_lines_needs : Nat → Int32) (v_thinning_isOutdated : Int32) (v_thinning_pieces : Int32) (v_thinning_doorMask : Int32) (v_thinning_leastMask : Int32) (A_thinning_piece : Nat → Int32) (A_thinning_sent : Nat → Int32) (A_thinning_steps : Nat → Int32) (A_thinning_next : Nat → Int32) (v_seen_size : Int32) (v_seen_keptMask : Int32) (v_seen_droppedMask : Int32) (v_survey_isOutdated : Int32) (v_survey_possible : Int32) (v_survey_least : Int32) (v_survey_greatest : Int32) (A_survey_doorMasks : Nat → Int32) (v_fraction_upper : Int32) (v_fraction_lower : Int32) (v_undoMany : Int32) (v_undoAt : Int32) (v_seenMany : Int32) (v_letterMany : Int32) (v_readAt : Int32) (v_tokenAt : Int32) (v_token : Int32) (v_value : Int32) (v_faultAt : Int32) (v_readOnce : Int32) (v_greatUpper : Int64) (v_greatLower : Int64) (A_now : Nat → Int32) (A_undos : Nat → Int32) (A_seen : Nat → Int32) (A_seenAs : Nat → Int32) (A_isKept : Nat → Int32) (A_kept : Nat → Int32) (A_text : Nat → Int32) (A_read : Nat → Int32) (A_fewest : Nat → Int32) (A_doors : Nat → Int32) (A_isSo : Nat → Int32) (p1 : Int32) (h : Rel v_text_length A_text_letters v_log_size v_log_promise v_log_delay A_log_times A_log_values v_history_next v_history_size v_history_ring_places v_history_ring_filled A_history_ring_cells v_images_places v_images_filled A_images_cells v_lines_stretches A_lines_stretch A_lines_needs v_thinning_isOutdated v_thinning_pieces v_thinning_doorMask v_thinning_leastMask A_thinning_piece A_thinning_sent v_seen_size v_seen_keptMask v_seen_droppedMask v_survey_isOutdated A_survey_doorMasks v_undoMany v_undoAt v_seenMany v_letterMany A_now A_undos A_seen A_seenAs A_isKept A_kept A_text) : ∃ (zX : Int32 × Int32 × (Nat → Int32) × (Nat → Int32) × Int32 × Int32 × Int32 × (Nat → Int32) × Int32 × Int32) (zM : Int32 × Int32 × Int32 × (Nat → Int32) × (Nat → Int32)), f_TR_misses v_log_size v_log_promise v_log_delay A_log_times A_log_values v_history_next v_history_size v_history_ring_places v_history_ring_filled A_history_ring_cells v_thinning_isOutdated v_survey_isOutdated p1 = some zX ∧ f_Mo_misses v_undoMany v_undoAt A_now A_undos p1 = some zM ∧ zX.1 = zM.1 ∧ Rel v_text_length A_text_letters zX.2.1 v_log_promise v_log_delay zX.2.2.1 zX.2.2.2.1 zX.2.2.2.2.1 zX.2.2.2.2.2.1 v_history_ring_places zX.2.2.2.2.2.2.1 zX.2.2.2.2.2.2.2.1 v_images_places v_images_filled A_images_cells v_lines_stretches A_lines_stretch A_lines_needs zX.2.2.2.2.2.2.2.2.1 v_thinning_pieces v_thinning_doorMask v_thinning_leastMask A_thinning_piece A_thinning_sent v_seen_size v_seen_keptMask v_seen_droppedMask zX.2.2.2.2.2.2.2.2.2 A_survey_doorMasks zM.2.1 zM.2.2.1 v_seenMany v_letterMany zM.2.2.2.1 zM.2.2.2.2 A_seen A_seenAs A_isKept A_kept A_text := by
  obtain ⟨hT, ⟨n, p, d, hw, rfl, rfl, rfl, hrow⟩, ⟨a, m, ha, hm, rfl, rfl, rfl, rfl, rfl, hh⟩, hI, hTh, hSe, hSu⟩ := id h
  unfold f_TR_misses f_Mo_misses
  rcases within_cases p1 999 (by omega) with ⟨e1, e2⟩ | ⟨t, ht, rfl, e1, e2⟩
  · simp only [show f_TR_isWithin p1 0 999 = 0 from e1, show f_Mo_in p1 0 999 = 0 from e2, ↓reduceIte]; exact ⟨_, _, rfl, rfl, rfl, h⟩
  · simp only [show f_TR_isWithin (nI t) 0 999 = 1 from e1, show f_Mo_in (nI t) 0 999 = 1 from e2, n10, ↓reduceIte]
    rcases comes_ok ha hm hh hw hrow v_thinning_isOutdated v_survey_isOutdated ht (w := -9) (Or.inl rfl) with ⟨k, e1, e2⟩ | ⟨F', T', V', now', C', U', e1, e2, e3, e4, e5⟩
    · rw [e1, e2]; exact ⟨_, _, rfl, rfl, rfl, h⟩
    · rw [e1, e2]; exact ⟨_, _, rfl, rfl, rfl, hT, ⟨n + 1, p, d, e3, rfl, rfl, rfl, e4⟩, e5, hI, Or.inl rfl, hSe, Or.inl rfl⟩
theorem bec_ok (k : Nat) (hk : k < 31) {m a : Nat} (now U : Nat → Int32) (x : Int32) : f_Mo_becomes (nI m) (nI a) now U (nI k) x = (f_Mo_remember (nI m) (nI a) now U).bind fun z => some (now k, z.1, z.2.1, upd now k x, z.2.2) := by
  unfold f_Mo_becomes
  rw [inB_nI hk (by omega), if_pos rfl, nI_clamp (by omega)]
  rfl
set_option maxHeartbeats 1000000 in
theorem p_promises (v_text_length : Int32) (A_text_letters : Nat → Int32) (v_parser_at : Int32) (v_parser_kind : Int32) (v_parser_place : Int32) (v_parser_number : Int32) (v_parser_isPromiseTold : Int32) (v_parser_isDelayTold : Int32) (v_parser_draft_size : Int32) (v_parser_draft_promise : Int32) (v_parser_draft_delay : Int32) (A_parser_draft_times : Nat → Int32) (A_parser_draft_values : Nat → Int32) (v_log_size : Int32) (v_log_promise : Int32) (v_log_delay : Int32) (A_log_times : Nat → Int32) (A_log_values : Nat → Int32) (v_history_next : Int32) (v_history_size : Int32) (v_history_ring_places : Int32) (v_history_ring_filled : Int32) (A_history_ring_cells : Nat → Int32) (v_images_places : Int32) (v_images_filled : Int32) (A_images_cells : Nat → Int32) (v_lines_stretches : Int32) (A_lines_stretch : Nat → Int32) (A_lines_needs : Nat → Int32) (v_thinning_isOutdated : Int32) (v_thinning_pieces : Int32) (v_thinning_doorMask : Int32) (v_thinning_leastMask : Int32) (A_thinning_piece : Nat → Int32) (A_thinning_sent : Nat → Int32) (A_thinning_steps : Nat → Int32) (A_thinning_next : Nat → Int32) (v_seen_size : Int32) (v_seen_keptMask : Int32) (v_seen_droppedMask : Int32) (v_survey_isOutdated : Int32) (v_survey_possible : Int32) (v_survey_least : Int32) (v_survey_greatest : Int32) (A_survey_doorMasks : Nat → Int32) (v_fraction_upper : Int32) (v_fraction_lower : Int32) (v_undoMany : Int32) (v_undoAt : Int32) (v_seenMany : Int32) (v_letterMany : Int32) (v_readAt : Int32) (v_tokenAt : Int32) (v_token : Int32) (v_value : Int32) (v_faultAt : Int32) (v_readOnce : Int32) (v_greatUpper : Int64) (v_greatLower : Int64) (A_now : Nat → Int32) (A_undos : Nat → Int32) (A_seen : Nat → Int32) (A_seenAs : Nat → Int32) (A_isKept : Nat → Int32) (A_kept : Nat → Int32) (A_text : Nat → Int32) (A_read : Nat → Int32) (A_fewest : Nat → Int32) (A_doors : Nat → Int32) (A_isSo : Nat → Int32) (p1 : Int32) (h : Rel v_text_length A_text_letters v_log_size v_log_promise v_log_delay A_log_times A_log_values v_history_next v_history_size v_history_ring_places v_history_ring_filled A_history_ring_cells v_images_places v_images_filled A_images_cells v_lines_stretches A_lines_stretch A_lines_needs v_thinning_isOutdated v_thinning_pieces v_thinning_doorMask v_thinning_leastMask A_thinning_piece A_thinning_sent v_seen_size v_seen_keptMask v_seen_droppedMask v_survey_isOutdated A_survey_doorMasks v_undoMany v_undoAt v_seenMany v_letterMany A_now A_undos A_seen A_seenAs A_isKept A_kept A_text) : ∃ (zX : Int32 × Int32 × Int32 × Int32 × Int32 × (Nat → Int32) × Int32 × Int32) (zM : Int32 × Int32 × Int32 × (Nat → Int32) × (Nat → Int32)), f_TR_promises v_log_size v_log_promise v_log_delay A_log_times A_log_values v_history_next v_history_size v_history_ring_places v_history_ring_filled A_history_ring_cells v_thinning_isOutdated v_survey_isOutdated p1 = some zX ∧ f_Mo_promises v_undoMany v_undoAt A_now A_undos p1 = some zM ∧ zX.1 = zM.1 ∧ Rel v_text_length A_text_letters v_log_size zX.2.1 v_log_delay A_log_times A_log_values zX.2.2.1 zX.2.2.2.1 v_history_ring_places zX.2.2.2.2.1 zX.2.2.2.2.2.1 v_images_places v_images_filled A_images_cells v_lines_stretches A_lines_stretch A_lines_needs zX.2.2.2.2.2.2.1 v_thinning_pieces v_thinning_doorMask v_thinning_leastMask A_thinning_piece A_thinning_sent v_seen_size v_seen_keptMask v_seen_droppedMask zX.2.2.2.2.2.2.2 A_survey_doorMasks zM.2.1 zM.2.2.1 v_seenMany v_letterMany zM.2.2.2.1 zM.2.2.2.2 A_seen A_seenAs A_isKept A_kept A_text := by
  obtain ⟨hT, ⟨n, p, d, hw, rfl, rfl, rfl, hrow⟩, ⟨a, m, ha, hm, rfl, rfl, rfl, rfl, rfl, hh⟩, hI, hTh, hSe, hSu⟩ := id h
  unfold f_TR_promises f_Mo_promises
  rcases within_cases p1 99 (by omega) with ⟨e1, e2⟩ | ⟨t, ht, rfl, e1, e2⟩
  · simp only [show f_TR_isWithin p1 0 99 = 0 from e1, show f_Mo_in p1 0 99 = 0 from e2, ↓reduceIte]; exact ⟨_, _, rfl, rfl, rfl, h⟩
  · simp only [show f_TR_isWithin (nI t) 0 99 = 1 from e1, show f_Mo_in (nI t) 0 99 = 1 from e2, n10, ↓reduceIte]
    obtain ⟨F', C', U', e1, e2, e3⟩ := rem_ok ha hm hh hw hrow v_thinning_isOutdated v_survey_isOutdated
    rw [show (1 : Int32) = nI 1 from rfl, bec_ok 1 (by omega), e1, e2]
    refine ⟨_, _, rfl, rfl, hrow.2.1.symm, hT, ⟨n, t, d, ⟨hw.1, ht, hw.2.2⟩, rfl, rfl, rfl, ?_⟩, e3, hI, Or.inl rfl, hSe, Or.inl rfl⟩
    obtain ⟨r0, r1, r2, r3⟩ := hrow
    have e : ∀ q : Nat, q ≠ 1 → upd A_now 1 (nI t) q = A_now q := fun q hq => pk_un hq
    exact ⟨(e 0 (by omega)).trans r0, (pk_us : upd A_now 1 (nI t) 1 = nI t), (e 2 (by omega)).trans r2, fun j hj => ⟨(e _ (by omega)).trans (r3 j hj).1, (e _ (by omega)).trans (r3 j hj).2⟩⟩
set_option maxHeartbeats 1000000 in
theorem p_delays (v_text_length : Int32) (A_text_letters : Nat → Int32) (v_parser_at : Int32) (v_parser_kind : Int32) (v_parser_place : Int32) (v_parser_number : Int32) (v_parser_isPromiseTold : Int32) (v_parser_isDelayTold : Int32) (v_parser_draft_size : Int32) (v_parser_draft_promise : Int32) (v_parser_draft_delay : Int32) (A_parser_draft_times : Nat → Int32) (A_parser_draft_values : Nat → Int32) (v_log_size : Int32) (v_log_promise : Int32) (v_log_delay : Int32) (A_log_times : Nat → Int32) (A_log_values : Nat → Int32) (v_history_next : Int32) (v_history_size : Int32) (v_history_ring_places : Int32) (v_history_ring_filled : Int32) (A_history_ring_cells : Nat → Int32) (v_images_places : Int32) (v_images_filled : Int32) (A_images_cells : Nat → Int32) (v_lines_stretches : Int32) (A_lines_stretch : Nat → Int32) (A_lines_needs : Nat → Int32) (v_thinning_isOutdated : Int32) (v_thinning_pieces : Int32) (v_thinning_doorMask : Int32) (v_thinning_leastMask : Int32) (A_thinning_piece : Nat → Int32) (A_thinning_sent : Nat → Int32) (A_thinning_steps : Nat → Int32) (A_thinning_next : Nat → Int32) (v_seen_size : Int32) (v_seen_keptMask : Int32) (v_seen_droppedMask : Int32) (v_survey_isOutdated : Int32) (v_survey_possible : Int32) (v_survey_least : Int32) (v_survey_greatest : Int32) (A_survey_doorMasks : Nat → Int32) (v_fraction_upper : Int32) (v_fraction_lower : Int32) (v_undoMany : Int32) (v_undoAt : Int32) (v_seenMany : Int32) (v_letterMany : Int32) (v_readAt : Int32) (v_tokenAt : Int32) (v_token : Int32) (v_value : Int32) (v_faultAt : Int32) (v_readOnce : Int32) (v_greatUpper : Int64) (v_greatLower : Int64) (A_now : Nat → Int32) (A_undos : Nat → Int32) (A_seen : Nat → Int32) (A_seenAs : Nat → Int32) (A_isKept : Nat → Int32) (A_kept : Nat → Int32) (A_text : Nat → Int32) (A_read : Nat → Int32) (A_fewest : Nat → Int32) (A_doors : Nat → Int32) (A_isSo : Nat → Int32) (p1 : Int32) (h : Rel v_text_length A_text_letters v_log_size v_log_promise v_log_delay A_log_times A_log_values v_history_next v_history_size v_history_ring_places v_history_ring_filled A_history_ring_cells v_images_places v_images_filled A_images_cells v_lines_stretches A_lines_stretch A_lines_needs v_thinning_isOutdated v_thinning_pieces v_thinning_doorMask v_thinning_leastMask A_thinning_piece A_thinning_sent v_seen_size v_seen_keptMask v_seen_droppedMask v_survey_isOutdated A_survey_doorMasks v_undoMany v_undoAt v_seenMany v_letterMany A_now A_undos A_seen A_seenAs A_isKept A_kept A_text) : ∃ (zX : Int32 × Int32 × Int32 × Int32 × Int32 × (Nat → Int32) × Int32 × Int32) (zM : Int32 × Int32 × Int32 × (Nat → Int32) × (Nat → Int32)), f_TR_delays v_log_size v_log_promise v_log_delay A_log_times A_log_values v_history_next v_history_size v_history_ring_places v_history_ring_filled A_history_ring_cells v_thinning_isOutdated v_survey_isOutdated p1 = some zX ∧ f_Mo_delays v_undoMany v_undoAt A_now A_undos p1 = some zM ∧ zX.1 = zM.1 ∧ Rel v_text_length A_text_letters v_log_size v_log_promise zX.2.1 A_log_times A_log_values zX.2.2.1 zX.2.2.2.1 v_history_ring_places zX.2.2.2.2.1 zX.2.2.2.2.2.1 v_images_places v_images_filled A_images_cells v_lines_stretches A_lines_stretch A_lines_needs zX.2.2.2.2.2.2.1 v_thinning_pieces v_thinning_doorMask v_thinning_leastMask A_thinning_piece A_thinning_sent v_seen_size v_seen_keptMask v_seen_droppedMask zX.2.2.2.2.2.2.2 A_survey_doorMasks zM.2.1 zM.2.2.1 v_seenMany v_letterMany zM.2.2.2.1 zM.2.2.2.2 A_seen A_seenAs A_isKept A_kept A_text := by
  obtain ⟨hT, ⟨n, p, d, hw, rfl, rfl, rfl, hrow⟩, ⟨a, m, ha, hm, rfl, rfl, rfl, rfl, rfl, hh⟩, hI, hTh, hSe, hSu⟩ := id h
  unfold f_TR_delays f_Mo_delays f_TR_isWithin f_Mo_in
  by_cases h1 : p1 < 1
  · rw [if_pos h1, if_pos rfl, if_pos rfl]; exact ⟨_, _, rfl, rfl, rfl, h⟩
  · rw [if_neg h1]
    by_cases h2 : (14 : Int32) < p1
    · rw [if_pos h2, if_pos rfl, if_pos rfl]; exact ⟨_, _, rfl, rfl, rfl, h⟩
    · rw [if_neg h2, if_neg (by decide), if_neg (by decide)]
      obtain ⟨t, ht, rfl⟩ : ∃ j : Nat, j ≤ 14 ∧ p1 = nI j := nI_of2 (n := 14) rfl (fun q => h1 (by rw [Int32.lt_iff_toInt_lt] at q ⊢; have e1 : (0 : Int32).toInt = 0 := rfl; have e2 : (1 : Int32).toInt = 1 := rfl; omega)) (Int32.not_lt.mp h2)
      have ht1 : 1 ≤ t := by
        rw [l1, nI_ltI (by omega) (by omega)] at h1; omega
      obtain ⟨F', C', U', e1, e2, e3⟩ := rem_ok ha hm hh hw hrow v_thinning_isOutdated v_survey_isOutdated
      rw [show (2 : Int32) = nI 2 from rfl, bec_ok 2 (by omega), e1, e2]
      refine ⟨_, _, rfl, rfl, hrow.2.2.1.symm, hT, ⟨n, p, t, ⟨hw.1, hw.2.1, ht1, ht, hw.2.2.2.2⟩, rfl, rfl, rfl, ?_⟩, e3, hI, Or.inl rfl, hSe, Or.inl rfl⟩
      obtain ⟨r0, r1, r2, r3⟩ := hrow
      have e : ∀ q : Nat, q ≠ 2 → upd A_now 2 (nI t) q = A_now q := fun q hq => pk_un hq
      exact ⟨(e 0 (by omega)).trans r0, (e 1 (by omega)).trans r1, (pk_us : upd A_now 2 (nI t) 2 = nI t), fun j hj => ⟨(e _ (by omega)).trans (r3 j hj).1, (e _ (by omega)).trans (r3 j hj).2⟩⟩

/-! ===== pure: what is worked out afresh ===== -/
def Fresh (n : Nat) (v t : Nat → Int32) (stretches : Int32) (stretch needs : Nat → Int32) (pieces doorMask leastMask : Int32) (piece sent : Nat → Int32) (now : Nat → Int32) : Prop :=
    f_Mo_stretches now = some stretches ∧ (∀ k : Nat, k < n → f_Mo_stretchOf now (nI k) = some (stretch k)) ∧
    (∀ i j : Nat, i < j → j < n → (∀ k : Nat, i ≤ k → k ≤ j → Kn n v k = true) → ∀ p : Nat, p ≤ 300 → (needs (14 * i + j) ≤ nI p ↔ Holds t v p i j)) ∧
    f_Mo_door now (now 1) = some doorMask ∧
    (∀ k : Nat, k < n → f_Mo_has doorMask (nI k) = 0 → sent k = -9) ∧ (∀ k : Nat, k < n → f_Mo_has doorMask (nI k) = 1 → f_Mo_sentAt now doorMask (nI k) = some (sent k)) ∧
    (∀ fw : Nat → Int32, ∃ fw' : Nat → Int32, f_Mo_least now fw = some (leastMask, fw')) ∧
    (∀ gu gl : Int64, ∃ (set : Int32) (gu' gl' : Int64), f_Mo_pieces gu gl now = some (set, gu', gl') ∧ f_Mo_bits set = some pieces ∧
      ∀ k : Nat, k < n → piece k = -9 ∧ Kn n v k = false ∨ Kn n v k = true ∧ f_Mo_bits (set &&& (((2 : Int32) <<< (nI k &&& 31)) - 1)) = some (piece k + 1))
theorem ThinR_fresh {n : Nat} {v t : Nat → Int32} {st : Int32} {S N : Nat → Int32} {io pcs dm lm : Int32} {PA SE now : Nat → Int32} : ThinR n v t st S N io pcs dm lm PA SE now ↔ (io = 1 ∨ (io = 0 ∧ Fresh n v t st S N pcs dm lm PA SE now)) := Iff.rfl
theorem refresh_ok {n p d : Nat} {T V now : Nat → Int32} (h : LW n p d T V) (hr : RowIs now n p d T V) {st : Int32} {S N : Nat → Int32} {io pcs dm lm : Int32} {PA SE : Nat → Int32} (hT : ThinR n V T st S N io pcs dm lm PA SE now) (ST NX : Nat → Int32) :
    ∃ (pcs' dm' lm' : Int32) (PA' SE' ST' NX' : Nat → Int32) (st' : Int32) (S' N' : Nat → Int32), f_Thinning_refresh io pcs dm lm PA SE ST NX (nI n) (nI p) (nI d) T V st S N = some (0, pcs', dm', lm', PA', SE', ST', NX', st', S', N') ∧ Fresh n V T st' S' N' pcs' dm' lm' PA' SE' now := by
  have hn := h.1
  have hp := h.2.1
  unfold f_Thinning_refresh
  rcases hT with rfl | ⟨rfl, hF⟩
  · rw [if_neg (by decide)]
    obtain ⟨S', N', e1, s1, s2⟩ := mall h st S N
    rw [e1, Option.bind_some]
    have hN : NeedsOk n T V N' := s2
    obtain ⟨set, PA', e2, c1, c2, c3⟩ := pieces_ok h hr hN pcs PA
    obtain ⟨d1, d2⟩ := door_ok h hr hN (show p ≤ 99 by omega)
    have hD := door_kept (p := p) h
    obtain ⟨SE', e3, f1⟩ := sendX h hD SE
    obtain ⟨lm', ST', NX', e4, g1, -⟩ := least_ok h hr hN ST NX
    simp only [e2, d1, e3, e4, Option.bind_some]
    refine ⟨_, _, _, _, _, _, _, _, _, _, rfl, ?_⟩
    refine ⟨?_, fun k hk => ?_, fun i j a b c => s2 i j a c, ?_, fun k hk hb => ?_, fun k hk hb => ?_, g1, fun gu gl => ?_⟩
    · exact strM hn hr
    · rw [soM hn hr (by omega), s1 k hk]
    · rw [hr.2.1]; exact d2
    · rw [has_bt _ (by omega)] at hb
      rw [f1 k hk]
      cases q : bt (Mr n d p T V n 0 0) k
      · rfl
      · rw [q] at hb; exact absurd hb (by decide)
    · rw [has_bt _ (by omega)] at hb
      rw [f1 k hk]
      cases q : bt (Mr n d p T V n 0 0) k
      · rw [q] at hb; exact absurd hb (by decide)
      · exact sentM h hr hD hk q
    · obtain ⟨g, g', e⟩ := c1 gu gl
      exact ⟨set, g, g', e, c2, c3⟩
  · rw [if_pos rfl]
    exact ⟨_, _, _, _, _, _, _, _, _, _, rfl, hF⟩
theorem ThinR_of {n : Nat} {v t : Nat → Int32} {st : Int32} {S N : Nat → Int32} {pcs dm lm : Int32} {PA SE now : Nat → Int32} (h : Fresh n v t st S N pcs dm lm PA SE now) : ThinR n v t st S N 0 pcs dm lm PA SE now := Or.inr ⟨rfl, h⟩
theorem kn_cases {n p d : Nat} (hn : n ≤ 14) {T V now : Nat → Int32} (hr : RowIs now n p d T V) (x : Int32) : (f_Log_isKnown (nI n) V x = some 0 ∧ f_Mo_isKnown now x = some 0) ∨ ∃ j : Nat, x = nI j ∧ j < n ∧ Kn n V j = true ∧ f_Log_isKnown (nI n) V x = some 1 ∧ f_Mo_isKnown now x = some 1 := by
  rcases has_cases hn hr.1 x with ⟨e1, e2⟩ | ⟨j, hj, rfl, -, -⟩
  · left
    unfold f_Log_isKnown f_Mo_isKnown
    rw [e1, e2, if_pos rfl]
    exact ⟨rfl, rfl⟩
  · rw [knX hn V (by omega), knM hn hr (by omega)]
    cases hK : Kn n V j
    · exact Or.inl ⟨rfl, rfl⟩
    · exact Or.inr ⟨j, rfl, hj, hK, rfl, rfl⟩
theorem cnt_mono {n : Nat} {V : Nat → Int32} {a : Nat} : ∀ {b : Nat}, a ≤ b → cnt n V a ≤ cnt n V b := by
  intro b
  induction b with
  | zero => intro h; have : a = 0 := by omega
            subst this; exact Nat.le_refl _
  | succ b ih =>
    intro h
    rcases Nat.eq_or_lt_of_le h with e | e
    · subst e; exact Nat.le_refl _
    · have := ih (by omega)
      show _ ≤ cnt n V b + _
      omega
theorem cnt_all {n : Nat} {V : Nat → Int32} : ∀ {i j : Nat}, i ≤ j → Kn n V j = true → cnt n V (i + 1) = cnt n V (j + 1) → Kn n V i = true → ∀ q : Nat, i ≤ q → q ≤ j → Kn n V q = true := by
  intro i j
  induction j with
  | zero => intro h1 h2 _ _ q a b; have : q = 0 := by omega
            subst this; exact h2
  | succ j ih =>
    intro h1 h2 h3 h4 q a b
    rcases Nat.eq_or_lt_of_le b with e | e
    · subst e; exact h2
    · have e2 : cnt n V (j + 1 + 1) = cnt n V (j + 1) + (if Fs n V (j + 1) = true then 1 else 0) := rfl
      have m1 : cnt n V (i + 1) ≤ cnt n V (j + 1) := cnt_mono (by omega)
      have nF : ¬ Fs n V (j + 1) = true := by
        intro c; rw [if_pos c] at e2; omega
      have := (nFs_K h2 nF).2
      rw [Nat.add_sub_cancel] at this
      rw [if_neg nF] at e2
      exact ih (by omega) this (by omega) h4 q a (by omega)
theorem stretchN {n k : Nat} (hk : k < n) (hn : n ≤ 14) (S : Nat → Int32) : f_Lines_stretchAt S (nI n) (nI k) = some (S k) := by
  unfold f_Lines_stretchAt
  rw [hasN hk hn, if_neg (by decide), if_neg (nge14 (by omega)), inB_nI (by omega) (by omega), if_pos rfl, nI_clamp (by omega)]
theorem pieceN {n k : Nat} (hk : k < n) (hn : n ≤ 14) (S : Nat → Int32) : f_Thinning_pieceAt S (nI n) (nI k) = some (S k) := by
  unfold f_Thinning_pieceAt
  rw [hasN hk hn, if_neg (by decide), if_neg (nge14 (by omega)), inB_nI (by omega) (by omega), if_pos rfl, nI_clamp (by omega)]
/-- two sides of a stretch -/
theorem side_cases {n p d : Nat} {T V now S : Nat → Int32} (h : LW n p d T V) (hr : RowIs now n p d T V) (hS : ∀ k : Nat, k < n → f_Mo_stretchOf now (nI k) = some (S k)) (x y : Int32) :
    (f_Mo_isSide now x y = some 0 ∧ (f_TR_isLine (nI n) V S x y = some 0)) ∨ ∃ i j : Nat, x = nI i ∧ y = nI j ∧ i < n ∧ j < n ∧ Kn n V i = true ∧ Kn n V j = true ∧ f_Mo_isSide now x y = some 1 ∧ f_TR_isLine (nI n) V S x y = some (if i < j then 1 else 0) ∧ (i ≤ j → ∀ q : Nat, i ≤ q → q ≤ j → Kn n V q = true) := by
  have hn := h.1
  unfold f_Mo_isSide f_TR_isLine
  rcases kn_cases hn hr x with ⟨a1, a2⟩ | ⟨i, rfl, hi, hKi, a1, a2⟩
  · left
    rw [a1, a2]
    refine ⟨rfl, ?_⟩
    split <;> rfl
  · rw [a1, a2]
    rcases kn_cases hn hr y with ⟨b1, b2⟩ | ⟨j, rfl, hj, hKj, b1, b2⟩
    · left
      rw [b1, b2]
      refine ⟨rfl, ?_⟩
      split <;> rfl
    · rw [b1, b2, hS i hi, hS j hj, stretchN hi hn, stretchN hj hn]
      simp only [Option.bind_some, n10, ↓reduceIte]
      have e1 : (nI j ≤ nI i) = (j ≤ i) := nI_le' (by omega) (by omega)
      have s1 := soM hn hr (show i < 14 by omega)
      have s2 := soM hn hr (show j < 14 by omega)
      rw [hKi, if_pos rfl, hS i hi] at s1
      rw [hKj, if_pos rfl, hS j hj] at s2
      injection s1 with s1
      injection s2 with s2
      have c1 := cnt_pos hKi
      have c2 := cnt_pos hKj
      have c3 := cnt_le n V (i + 1)
      have c4 := cnt_le n V (j + 1)
      have e2 : (S i = S j) = (cnt n V (i + 1) = cnt n V (j + 1)) := by
        rw [s1, s2, nI_eq' (by omega) (by omega)]; apply propext; omega
      simp only [e1, e2]
      by_cases c : cnt n V (i + 1) = cnt n V (j + 1)
      · right
        refine ⟨i, j, rfl, rfl, hi, hj, hKi, hKj, by rw [if_pos c], ?_, fun q => cnt_all q hKj c hKi⟩
        by_cases q : j ≤ i
        · rw [if_pos q, if_neg (by omega)]
        · rw [if_neg q, if_pos c, if_pos (by omega)]
      · left
        rw [if_neg c]
        refine ⟨rfl, ?_⟩
        split <;> rfl

theorem p_why (v_text_length : Int32) (A_text_letters : Nat → Int32) (v_parser_at : Int32) (v_parser_kind : Int32) (v_parser_place : Int32) (v_parser_number : Int32) (v_parser_isPromiseTold : Int32) (v_parser_isDelayTold : Int32) (v_parser_draft_size : Int32) (v_parser_draft_promise : Int32) (v_parser_draft_delay : Int32) (A_parser_draft_times : Nat → Int32) (A_parser_draft_values : Nat → Int32) (v_log_size : Int32) (v_log_promise : Int32) (v_log_delay : Int32) (A_log_times : Nat → Int32) (A_log_values : Nat → Int32) (v_history_next : Int32) (v_history_size : Int32) (v_history_ring_places : Int32) (v_history_ring_filled : Int32) (A_history_ring_cells : Nat → Int32) (v_images_places : Int32) (v_images_filled : Int32) (A_images_cells : Nat → Int32) (v_lines_stretches : Int32) (A_lines_stretch : Nat → Int32) (A_lines_needs : Nat → Int32) (v_thinning_isOutdated : Int32) (v_thinning_pieces : Int32) (v_thinning_doorMask : Int32) (v_thinning_leastMask : Int32) (A_thinning_piece : Nat → Int32) (A_thinning_sent : Nat → Int32) (A_thinning_steps : Nat → Int32) (A_thinning_next : Nat → Int32) (v_seen_size : Int32) (v_seen_keptMask : Int32) (v_seen_droppedMask : Int32) (v_survey_isOutdated : Int32) (v_survey_possible : Int32) (v_survey_least : Int32) (v_survey_greatest : Int32) (A_survey_doorMasks : Nat → Int32) (v_fraction_upper : Int32) (v_fraction_lower : Int32) (v_undoMany : Int32) (v_undoAt : Int32) (v_seenMany : Int32) (v_letterMany : Int32) (v_readAt : Int32) (v_tokenAt : Int32) (v_token : Int32) (v_value : Int32) (v_faultAt : Int32) (v_readOnce : Int32) (v_greatUpper : Int64) (v_greatLower : Int64) (A_now : Nat → Int32) (A_undos : Nat → Int32) (A_seen : Nat → Int32) (A_seenAs : Nat → Int32) (A_isKept : Nat → Int32) (A_kept : Nat → Int32) (A_text : Nat → Int32) (A_read : Nat → Int32) (A_fewest : Nat → Int32) (A_doors : Nat → Int32) (A_isSo : Nat → Int32) (p1 : Int32) (p2 : Int32) (h : Rel v_text_length A_text_letters v_log_size v_log_promise v_log_delay A_log_times A_log_values v_history_next v_history_size v_history_ring_places v_history_ring_filled A_history_ring_cells v_images_places v_images_filled A_images_cells v_lines_stretches A_lines_stretch A_lines_needs v_thinning_isOutdated v_thinning_pieces v_thinning_doorMask v_thinning_leastMask A_thinning_piece A_thinning_sent v_seen_size v_seen_keptMask v_seen_droppedMask v_survey_isOutdated A_survey_doorMasks v_undoMany v_undoAt v_seenMany v_letterMany A_now A_undos A_seen A_seenAs A_isKept A_kept A_text) : ∃ (zX : Int32 × Int32 × (Nat → Int32) × (Nat → Int32) × Int32 × Int32 × Int32 × Int32 × (Nat → Int32) × (Nat → Int32) × (Nat → Int32) × (Nat → Int32)) (zM : Int32), f_TR_why v_log_size v_log_promise v_log_delay A_log_times A_log_values v_lines_stretches A_lines_stretch A_lines_needs v_thinning_isOutdated v_thinning_pieces v_thinning_doorMask v_thinning_leastMask A_thinning_piece A_thinning_sent A_thinning_steps A_thinning_next p1 p2 = some zX ∧ f_Mo_why A_now p1 p2 = some zM ∧ zX.1 = zM ∧ Rel v_text_length A_text_letters v_log_size v_log_promise v_log_delay A_log_times A_log_values v_history_next v_history_size v_history_ring_places v_history_ring_filled A_history_ring_cells v_images_places v_images_filled A_images_cells zX.2.1 zX.2.2.1 zX.2.2.2.1 zX.2.2.2.2.1 zX.2.2.2.2.2.1 zX.2.2.2.2.2.2.1 zX.2.2.2.2.2.2.2.1 zX.2.2.2.2.2.2.2.2.1 zX.2.2.2.2.2.2.2.2.2.1 v_seen_size v_seen_keptMask v_seen_droppedMask v_survey_isOutdated A_survey_doorMasks v_undoMany v_undoAt v_seenMany v_letterMany A_now A_undos A_seen A_seenAs A_isKept A_kept A_text := by
  obtain ⟨hT, ⟨n, p, d, hw, rfl, rfl, rfl, hrow⟩, hHi, hI, hTh, hSe, hSu⟩ := h
  have hn := hw.1
  have hp := hw.2.1
  rw [nI_clamp (show n < 2 ^ 31 by omega)] at hTh
  obtain ⟨pcs', dm', lm', PA', SE', ST', NX', st', S', N', e, hF⟩ := refresh_ok hw hrow hTh A_thinning_steps A_thinning_next
  have i1 : inB (1 : Int32) 31 = true := by decide
  have z1 : ((1 : Int32)).toNatClampNeg = 1 := rfl
  unfold f_TR_why f_Mo_why
  rw [e, Option.bind_some]
  have fin := ThinR_of hF
  rw [← nI_clamp (show n < 2 ^ 31 by omega)] at fin
  rcases side_cases hw hrow hF.2.1 p1 p2 with ⟨a1, a2⟩ | ⟨i, j, rfl, rfl, hi, hj, hKi, hKj, a1, a2, a3⟩
  · rw [a1, a2]
    exact ⟨_, _, rfl, rfl, rfl, hT, ⟨n, p, d, hw, rfl, rfl, rfl, hrow⟩, hHi, hI, fin, hSe, hSu⟩
  · rw [a1, a2]
    simp only [Option.bind_some, i1, z1, n10, ↓reduceIte, hrow.2.1, nI_le' (show j < 2 ^ 31 by omega) (show i < 2 ^ 31 by omega)]
    by_cases c : i < j
    · simp only [c, ↓reduceIte, n10, show ¬ j ≤ i by omega, whyX hw (show p ≤ 300 by omega) c hj, whyM hw hrow (show p ≤ 300 by omega) c hj, Option.bind_some]
      exact ⟨_, _, rfl, rfl, rfl, hT, ⟨n, p, d, hw, rfl, rfl, rfl, hrow⟩, hHi, hI, fin, hSe, hSu⟩
    · simp only [c, ↓reduceIte, show j ≤ i by omega]
      exact ⟨_, _, rfl, rfl, rfl, hT, ⟨n, p, d, hw, rfl, rfl, rfl, hrow⟩, hHi, hI, fin, hSe, hSu⟩

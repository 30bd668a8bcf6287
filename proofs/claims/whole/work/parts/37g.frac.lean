/-! ===== pure: fractions; apart ===== -/
theorem gcd_step (a b : Nat) : Nat.gcd a b = Nat.gcd b (a % b) := by
  rw [Nat.gcd_comm a b, Nat.gcd_rec b a, Nat.gcd_comm]
theorem half_rem {a b : Nat} (hb : 0 < a % b) (hb0 : 0 < b) : 2 * (b % (a % b)) < b := by
  have h1 : a % b < b := Nat.mod_lt _ hb0
  have h2 : b % (a % b) < a % b := Nat.mod_lt _ hb
  rcases Nat.lt_or_ge b (2 * (a % b)) with h | h
  · have : b % (a % b) = b - a % b := by
      rw [Nat.mod_eq_sub_mod (by omega), Nat.mod_eq_of_lt (by omega)]
    omega
  · omega
theorem gcdX_L : ∀ (e a b c f : Nat), a < 2 ^ 31 → b < 2 ^ e → e ≤ 12 → 2 * e + 1 < f → c + 2 * e + 1 ≤ 64 → f_Fraction_commonDivisor_L7 f (nI a) (nI b) (nI c) = some (nI (Nat.gcd a b)) := by
  intro e
  induction e with
  | zero =>
    intro a b c f ha hb he hf hc
    obtain ⟨f, rfl⟩ : ∃ z, f = z + 1 := ⟨f - 1, by omega⟩
    have : b = 0 := by omega
    subst this
    rw [f_Fraction_commonDivisor_L7_s, if_neg (show ¬ (64 : Int32) ≤ nI c from nI_ge (a := c) (b := 64) (by omega) (by omega)), if_pos (show nI 0 = 0 from rfl), Nat.gcd_zero_right]
  | succ e ih =>
    intro a b c f ha hb he hf hc
    obtain ⟨f, rfl⟩ : ∃ z, f = z + 1 + 1 := ⟨f - 2, by omega⟩
    have hp : 2 ^ (e + 1) ≤ 2 ^ 12 := Nat.pow_le_pow_right (by omega) he
    have hb31 : b < 2 ^ 31 := by omega
    rw [f_Fraction_commonDivisor_L7_s, if_neg (show ¬ (64 : Int32) ≤ nI c from nI_ge (a := c) (b := 64) (by omega) (by omega))]
    by_cases h0 : b = 0
    · subst h0
      rw [if_pos (show nI 0 = 0 from rfl), Nat.gcd_zero_right]
    · have nb : ¬ nI b = 0 := nI_ne0 (by omega) (by omega)
      have z : nz (nI b) = true := decide_eq_true nb
      rw [if_neg nb, z, if_pos rfl, pk_rem ha (by omega) hb31, l1, nI_add, f_Fraction_commonDivisor_L7_s, if_neg (show ¬ (64 : Int32) ≤ nI (c + 1) from nI_ge (a := c + 1) (b := 64) (by omega) (by omega)), gcd_step a b]
      have hm : a % b < b := Nat.mod_lt _ (by omega)
      by_cases h1 : a % b = 0
      · rw [h1, if_pos (show nI 0 = 0 from rfl), Nat.gcd_zero_right]
      · have nb1 : ¬ nI (a % b) = 0 := nI_ne0 (by omega) (by omega)
        have z1 : nz (nI (a % b)) = true := decide_eq_true nb1
        have hh := half_rem (a := a) (b := b) (by omega) (by omega)
        have hpe : 2 ^ (e + 1) = 2 * 2 ^ e := by rw [Nat.pow_succ]; omega
        rw [if_neg nb1, z1, if_pos rfl, pk_rem hb31 (by omega) (by omega), l1, nI_add, ih (a % b) (b % (a % b)) (c + 1 + 1) f (by omega) (by omega) (by omega) (by omega) (by omega), gcd_step b (a % b)]
theorem gcdM_L (x0 x2 : Int64) (x4 : Int32) : ∀ (e a b f : Nat), a < 2 ^ 31 → b < 2 ^ e → e ≤ 12 → 2 * e + 1 < f → f_Mo_lowest_L6 x0 x2 x4 f (lN a) (lN b) = some (lN (Nat.gcd a b)) := by
  have cz : ∀ b : Nat, b < 2 ^ 31 → (lg_cmp (lN b) (0 : Int64) = 0) = (b = 0) := by
    intro b hb
    unfold lg_cmp
    have e1 : (lN b > (0 : Int64)) = (0 < b) := propext (pk_lLT (a := 0) (b := b) (by omega) (by omega))
    have e2 : (lN b = (0 : Int64)) = (b = 0) := propext (pk_lEQ (a := b) (b := 0) (by omega) (by omega))
    simp only [e1, e2]
    apply propext
    by_cases c : 0 < b
    · rw [if_pos c]; exact ⟨fun q => absurd q (by decide), fun q => by omega⟩
    · have : b = 0 := by omega
      rw [if_neg c, if_pos this]; exact ⟨fun _ => this, fun _ => rfl⟩
  intro e
  induction e with
  | zero =>
    intro a b f ha hb he hf
    obtain ⟨f, rfl⟩ : ∃ z, f = z + 1 := ⟨f - 1, by omega⟩
    have : b = 0 := by omega
    subst this
    rw [f_Mo_lowest_L6_s]
    simp only [cz 0 (by omega), ↓reduceIte, Nat.gcd_zero_right]
  | succ e ih =>
    intro a b f ha hb he hf
    obtain ⟨f, rfl⟩ : ∃ z, f = z + 1 + 1 := ⟨f - 2, by omega⟩
    have hp : 2 ^ (e + 1) ≤ 2 ^ 12 := Nat.pow_le_pow_right (by omega) he
    have hb31 : b < 2 ^ 31 := by omega
    rw [f_Mo_lowest_L6_s]
    simp only [cz b hb31]
    by_cases h0 : b = 0
    · subst h0
      simp only [↓reduceIte, Nat.gcd_zero_right]
    · have z : nzL (lN b) = true := decide_eq_true (fun q => h0 ((pk_lEQ (a := b) (b := 0) (by omega) (by omega)).mp q))
      rw [if_neg h0, z, if_pos rfl, pk_lRem (by omega) (by omega) (by omega), f_Mo_lowest_L6_s, gcd_step a b]
      have hm : a % b < b := Nat.mod_lt _ (by omega)
      simp only [cz (a % b) (by omega)]
      by_cases h1 : a % b = 0
      · rw [if_pos h1, h1, Nat.gcd_zero_right]
      · have z1 : nzL (lN (a % b)) = true := decide_eq_true (fun q => h1 ((pk_lEQ (a := a % b) (b := 0) (by omega) (by omega)).mp q))
        have hh := half_rem (a := a) (b := b) (by omega) (by omega)
        have hpe : 2 ^ (e + 1) = 2 * 2 ^ e := by rw [Nat.pow_succ]; omega
        rw [if_neg h1, z1, if_pos rfl, pk_lRem (by omega) (by omega) (by omega), ih (a % b) (b % (a % b)) f (by omega) (by omega) (by omega) (by omega), gcd_step b (a % b)]
theorem assignX {o s : Nat} (ho : o < 2 ^ 31) (hs : 1 ≤ s) (hs2 : s < 4096) (u l : Int32) : f_Fraction_assign u l (nI o) (nI s) = some (nI (o / Nat.gcd o s), nI (s / Nat.gcd o s)) := by
  have hg : 0 < Nat.gcd o s := Nat.gcd_pos_of_pos_right _ hs
  have hg2 : Nat.gcd o s ≤ s := Nat.gcd_le_right _ hs
  have z : nz (nI (Nat.gcd o s)) = true := decide_eq_true (nI_ne0 (by omega) (by omega))
  unfold f_Fraction_assign f_Fraction_commonDivisor
  rw [show f_Fraction_commonDivisor_L7 fu (nI o) (nI s) 0 = _ from gcdX_L 12 o s 0 fu ho (by omega) (by omega) (by unfold fu; omega) (by omega)]
  simp only [Option.bind_some, z, ↓reduceIte]
  rw [if_pos (show (1 : Int32) ≤ nI (Nat.gcd o s) from nI_le (a := 1) (by omega) (by omega)), pk_div ho hg (by omega), pk_div (by omega) hg (by omega)]
theorem lowestM {o s : Nat} (ho : o < 2 ^ 31) (hs : 1 ≤ s) (hs2 : s < 4096) : f_Mo_lowest (lN o) (lN s) 1 = some (nI (o / Nat.gcd o s)) ∧ f_Mo_lowest (lN o) (lN s) 0 = some (nI (s / Nat.gcd o s)) := by
  have hg : 0 < Nat.gcd o s := Nat.gcd_pos_of_pos_right _ hs
  have hg2 : Nat.gcd o s ≤ s := Nat.gcd_le_right _ hs
  have z : nzL (lN (Nat.gcd o s)) = true := decide_eq_true (fun q => by have := (pk_lEQ (a := Nat.gcd o s) (b := 0) (by omega) (by omega)).mp q; omega)
  unfold f_Mo_lowest
  rw [gcdM_L (lN o) (lN s) 1 12 o s fu ho (by omega) (by omega) (by unfold fu; omega), gcdM_L (lN o) (lN s) 0 12 o s fu ho (by omega) (by omega) (by unfold fu; omega)]
  simp only [Option.bind_some, z, ↓reduceIte, n10]
  rw [pk_lDiv (by omega) hg (by omega), pk_lDiv (by omega) hg (by omega), lN_i, lN_i]
  exact ⟨rfl, rfl⟩
theorem farM_L {n pp d : Nat} {T V now : Nat → Int32} (h : LW n pp d T V) (hr : RowIs now n pp d T V) {i j : Nat} (hij : i < j) (hj : j < n) (x3 : Int32) : ∀ (m k f w : Nat), k + m = j → i < w → w < k → (∀ q : Nat, i < q → q < k → Of T V i q j ≤ Of T V i w j) → (∀ q : Nat, i < q → q < w → Of T V i q j < Of T V i w j) → m < f →
    ∃ w' : Nat, Far T V i j w' ∧ f_Mo_apart_L37 (nI i) (nI j) x3 now f (nI w) (nI (Of T V i w j)) (nI k) = some (nI w', nI (Of T V i w' j)) := by
  have hn := h.1
  intro m
  induction m with
  | zero =>
    intro k f w hk h1 h2 h3 h4 hf
    obtain ⟨f, rfl⟩ : ∃ z, f = z + 1 := ⟨f - 1, by omega⟩
    refine ⟨w, ⟨h1, by omega, fun q a b => h3 q a (by omega), h4⟩, ?_⟩
    rw [f_Mo_apart_L37_s, if_pos (nI_le (by omega) (by omega))]
  | succ m ih =>
    intro k f w hk h1 h2 h3 h4 hf
    obtain ⟨f, rfl⟩ : ∃ z, f = z + 1 := ⟨f - 1, by omega⟩
    have o1 := Of_le h (show i < n by omega) (show k < n by omega) hj
    have o2 := Of_le h (show i < n by omega) (show w < n by omega) hj
    rw [f_Mo_apart_L37_s, if_neg (nI_ge (by omega) (by omega)), offM h hr (by omega) (by omega) hj]
    simp (disch := omega) only [Option.bind_some, l1, nI_add, nI_leI]
    by_cases hc : Of T V i k j ≤ Of T V i w j
    · rw [if_pos hc]
      exact ih (k + 1) f w (by omega) h1 (by omega) (fun q a b => by
        rcases Nat.eq_or_lt_of_le (Nat.le_of_lt_succ b) with e | e
        · subst e; exact hc
        · exact h3 q a e) h4 (by omega)
    · rw [if_neg hc]
      exact ih (k + 1) f k (by omega) (by omega) (by omega) (fun q a b => by
        rcases Nat.eq_or_lt_of_le (Nat.le_of_lt_succ b) with e | e
        · subst e; exact Nat.le_refl _
        · have := h3 q a e; omega) (fun q a b => by have := h3 q a b; omega) (by omega)
theorem farM {n pp d : Nat} {T V now : Nat → Int32} (h : LW n pp d T V) (hr : RowIs now n pp d T V) {i j : Nat} (hij : i + 1 < j) (hj : j < n) (x3 : Int32) : ∃ w : Nat, Far T V i j w ∧ f_Mo_apart_L37 (nI i) (nI j) x3 now fu (-9) (-1) (nI i + 1) = some (nI w, nI (Of T V i w j)) := by
  have hn := h.1
  have o1 := Of_le h (show i < n by omega) (show i + 1 < n by omega) hj
  have a3 : ∀ q : Nat, i < q → q < i + 2 → Of T V i q j ≤ Of T V i (i + 1) j := fun q a b => by
    have e : q = i + 1 := by omega
    subst e
    exact Nat.le_refl _
  obtain ⟨w, hw, e⟩ := farM_L h hr (show i < j by omega) hj x3 (j - (i + 2)) (i + 2) 255 (i + 1) (by omega) (by omega) (by omega) a3 (fun q a b => absurd a (by omega)) (by omega)
  refine ⟨w, hw, ?_⟩
  rw [show fu = 255 + 1 from rfl, l1, nI_add, f_Mo_apart_L37_s, if_neg (nI_ge (by omega) (by omega)), offM h hr (by omega) (by omega) hj, Option.bind_some]
  have hneg : ¬ nI (Of T V i (i + 1) j) ≤ -1 := by
    rw [Int32.le_iff_toInt_le, nI_toInt (by omega)]
    have : (-1 : Int32).toInt = -1 := by decide
    omega
  rw [if_neg (by rw [← l1]; exact hneg), l1, nI_add, e]
theorem farM0 {now : Nat → Int32} {i : Nat} (hi : i < 14) (x3 : Int32) : f_Mo_apart_L37 (nI i) (nI (i + 1)) x3 now fu (-9) (-1) (nI i + 1) = some (-9, -1) := by
  rw [show fu = 255 + 1 from rfl, l1, nI_add, f_Mo_apart_L37_s, if_pos (nI_le (by omega) (by omega))]
theorem p_apart (v_text_length : Int32) (A_text_letters : Nat → Int32) (v_parser_at : Int32) (v_parser_kind : Int32) (v_parser_place : Int32) (v_parser_number : Int32) (v_parser_isPromiseTold : Int32) (v_parser_isDelayTold : Int32) (v_parser_draft_size : Int32) (v_parser_draft_promise : Int32) (v_parser_draft_delay : Int32) (A_parser_draft_times : Nat → Int32) (A_parser_draft_values : Nat → Int32) (v_log_size : Int32) (v_log_promise : Int32) (v_log_delay : Int32) (A_log_times : Nat → Int32) (A_log_values : Nat → Int32) (v_history_next : Int32) (v_history_size : Int32) (v_history_ring_places : Int32) (v_history_ring_filled : Int32) (A_history_ring_cells : Nat → Int32) (v_images_places : Int32) (v_images_filled : Int32) (A_images_cells : Nat → Int32) (v_lines_stretches : Int32) (A_lines_stretch : Nat → Int32) (A_lines_needs : Nat → Int32) (v_thinning_isOutdated : Int32) (v_thinning_pieces : Int32) (v_thinning_doorMask : Int32) (v_thinning_leastMask : Int32) (A_thinning_piece : Nat → Int32) (A_thinning_sent : Nat → Int32) (A_thinning_steps : Nat → Int32) (A_thinning_next : Nat → Int32) (v_seen_size : Int32) (v_seen_keptMask : Int32) (v_seen_droppedMask : Int32) (v_survey_isOutdated : Int32) (v_survey_possible : Int32) (v_survey_least : Int32) (v_survey_greatest : Int32) (A_survey_doorMasks : Nat → Int32) (v_fraction_upper : Int32) (v_fraction_lower : Int32) (v_undoMany : Int32) (v_undoAt : Int32) (v_seenMany : Int32) (v_letterMany : Int32) (v_readAt : Int32) (v_tokenAt : Int32) (v_token : Int32) (v_value : Int32) (v_faultAt : Int32) (v_readOnce : Int32) (v_greatUpper : Int64) (v_greatLower : Int64) (A_now : Nat → Int32) (A_undos : Nat → Int32) (A_seen : Nat → Int32) (A_seenAs : Nat → Int32) (A_isKept : Nat → Int32) (A_kept : Nat → Int32) (A_text : Nat → Int32) (A_read : Nat → Int32) (A_fewest : Nat → Int32) (A_doors : Nat → Int32) (A_isSo : Nat → Int32) (p1 : Int32) (p2 : Int32) (p3 : Int32) (h : Rel v_text_length A_text_letters v_log_size v_log_promise v_log_delay A_log_times A_log_values v_history_next v_history_size v_history_ring_places v_history_ring_filled A_history_ring_cells v_images_places v_images_filled A_images_cells v_lines_stretches A_lines_stretch A_lines_needs v_thinning_isOutdated v_thinning_pieces v_thinning_doorMask v_thinning_leastMask A_thinning_piece A_thinning_sent v_seen_size v_seen_keptMask v_seen_droppedMask v_survey_isOutdated A_survey_doorMasks v_undoMany v_undoAt v_seenMany v_letterMany A_now A_undos A_seen A_seenAs A_isKept A_kept A_text) : ∃ (zX : Int32 × Int32 × (Nat → Int32) × (Nat → Int32) × Int32 × Int32 × Int32 × Int32 × (Nat → Int32) × (Nat → Int32) × (Nat → Int32) × (Nat → Int32) × Int32 × Int32) (zM : Int32), f_TR_apart v_log_size v_log_promise v_log_delay A_log_times A_log_values v_lines_stretches A_lines_stretch A_lines_needs v_thinning_isOutdated v_thinning_pieces v_thinning_doorMask v_thinning_leastMask A_thinning_piece A_thinning_sent A_thinning_steps A_thinning_next v_fraction_upper v_fraction_lower p1 p2 p3 = some zX ∧ f_Mo_apart A_now p1 p2 p3 = some zM ∧ zX.1 = zM ∧ Rel v_text_length A_text_letters v_log_size v_log_promise v_log_delay A_log_times A_log_values v_history_next v_history_size v_history_ring_places v_history_ring_filled A_history_ring_cells v_images_places v_images_filled A_images_cells zX.2.1 zX.2.2.1 zX.2.2.2.1 zX.2.2.2.2.1 zX.2.2.2.2.2.1 zX.2.2.2.2.2.2.1 zX.2.2.2.2.2.2.2.1 zX.2.2.2.2.2.2.2.2.1 zX.2.2.2.2.2.2.2.2.2.1 v_seen_size v_seen_keptMask v_seen_droppedMask v_survey_isOutdated A_survey_doorMasks v_undoMany v_undoAt v_seenMany v_letterMany A_now A_undos A_seen A_seenAs A_isKept A_kept A_text := by
  obtain ⟨hT, ⟨n, p, d, hw, rfl, rfl, rfl, hrow⟩, hHi, hI, hTh, hSe, hSu⟩ := h
  have hn := hw.1
  have hp := hw.2.1
  rw [nI_clamp (show n < 2 ^ 31 by omega)] at hTh
  obtain ⟨pcs', dm', lm', PA', SE', ST', NX', st', S', N', e, hF⟩ := refresh_ok hw hrow hTh A_thinning_steps A_thinning_next
  have fin := ThinR_of hF
  rw [← nI_clamp (show n < 2 ^ 31 by omega)] at fin
  have rel := (⟨hT, ⟨n, p, d, hw, rfl, rfl, rfl, hrow⟩, hHi, hI, fin, hSe, hSu⟩ : Rel v_text_length A_text_letters (nI n) (nI p) (nI d) A_log_times A_log_values v_history_next v_history_size v_history_ring_places v_history_ring_filled A_history_ring_cells v_images_places v_images_filled A_images_cells st' S' N' 0 pcs' dm' lm' PA' SE' v_seen_size v_seen_keptMask v_seen_droppedMask v_survey_isOutdated A_survey_doorMasks v_undoMany v_undoAt v_seenMany v_letterMany A_now A_undos A_seen A_seenAs A_isKept A_kept A_text)
  unfold f_TR_apart f_Mo_apart
  rw [e, Option.bind_some]
  rcases side_cases hw hrow hF.2.1 p1 p2 with ⟨a1, a2⟩ | ⟨i, j, rfl, rfl, hi, hj, hKi, hKj, a1, a2, a3⟩
  · rw [a1, a2]
    exact ⟨_, _, rfl, rfl, rfl, rel⟩
  · rw [a1, a2]
    simp only [Option.bind_some, n10, ↓reduceIte, nI_le' (show j < 2 ^ 31 by omega) (show i < 2 ^ 31 by omega)]
    by_cases c : i < j
    · simp only [c, ↓reduceIte, n10, show ¬ j ≤ i by omega]
      rcases within_cases p3 2 (by omega) with ⟨b1, b2⟩ | ⟨t, ht, rfl, b1, b2⟩
      · rw [show (2 : Int32) = nI 2 from rfl, b1, b2, if_pos rfl, if_pos rfl]
        exact ⟨_, _, rfl, rfl, rfl, rel⟩
      · rw [← l2] at b1 b2
        rw [b1, b2]
        simp only [n10, ↓reduceIte]
        have s3 : (3 : Int32) + nI j = nI (3 + j) := by rw [l3, nI_add]
        have s4 : (3 : Int32) + nI i = nI (3 + i) := by rw [l3, nI_add]
        have hs := Sp_pos hw c hj
        rcases Nat.eq_or_lt_of_le (Nat.succ_le_of_lt c) with q | q
        · have ej : j = i + 1 := by omega
          subst ej
          rw [farX0 hn A_log_times A_log_values (by omega), farM0 (by omega)]
          exact ⟨_, _, rfl, rfl, rfl, rel⟩
        · obtain ⟨w, hw1, ew⟩ := farX hw (show i + 1 < j by omega) hj
          obtain ⟨w', hw2, ew'⟩ := farM hw hrow (show i + 1 < j by omega) hj (nI t)
          have ww := Far_one hw1 hw2
          subst ww
          have hwi := hw1.1
          have hwj := hw1.2.1
          have ho := Of_le hw hi (show w < n by omega) hj
          have lo := lowestM (o := Of A_log_times A_log_values i w j) (s := Sp A_log_times i j) (by omega) (by omega) (by omega)
          rw [ew, ew']
          simp only [Option.bind_some, nI_m9 (show w < 2 ^ 31 by omega), ↓reduceIte, offX hw hi (show w < n by omega) hj, spanX hw c hj, assignX (o := Of A_log_times A_log_values i w j) (s := Sp A_log_times i j) (by omega) (by omega) (by omega), s3, s4, inB_nI (show 3 + j < 31 by omega) (by omega), inB_nI (show 3 + i < 31 by omega) (by omega), nI_clamp (show 3 + j < 2 ^ 31 by omega), nI_clamp (show 3 + i < 2 ^ 31 by omega), spanM hw hrow c hj, nI_l (show Of A_log_times A_log_values i w j < 2 ^ 31 by omega), nI_l (show Sp A_log_times i j < 2 ^ 31 by omega), lo.1, lo.2]
          rcases (show t = 0 ∨ t = 1 ∨ t = 2 by omega) with rfl | rfl | rfl
          · exact ⟨_, _, rfl, rfl, rfl, rel⟩
          · exact ⟨_, _, rfl, rfl, rfl, rel⟩
          · exact ⟨_, _, rfl, rfl, rfl, rel⟩
    · simp only [c, ↓reduceIte, show j ≤ i by omega]
      exact ⟨_, _, rfl, rfl, rfl, rel⟩

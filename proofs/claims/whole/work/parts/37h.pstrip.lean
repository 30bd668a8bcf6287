/-! ===== pure: strip ===== -/
theorem FM_dom {P P' : Nat → Nat → Prop} {U G : Nat} (h : FM P U G) (h1 : ∀ o s : Nat, P o s → P' o s) (h2 : ∀ o s : Nat, P' o s → ∃ o' : Nat, P o' s ∧ o ≤ o') : FM P' U G := by
  obtain ⟨a1, a2, a3, a4, a5⟩ := h
  refine ⟨a1, a2, a3, ?_, fun o s q => ?_⟩
  · rcases a4 with e | e
    · exact Or.inl e
    · exact Or.inr (h1 _ _ e)
  · obtain ⟨o', b1, b2⟩ := h2 o s q
    exact Nat.le_trans (Nat.mul_le_mul_right G b2) (a5 o' s b1)
theorem FM_eq {P : Nat → Nat → Prop} {U G U' G' : Nat} (h : FM P U G) (h' : FM P U' G') : U * G' = U' * G := by
  have key : ∀ {U G U' G' : Nat}, FM P U G → FM P U' G' → U * G' ≤ U' * G := by
    intro U G U' G' h h'
    rcases h.2.2.2.1 with ⟨e, -⟩ | e
    · subst e; omega
    · exact h'.2.2.2.2 U G e
  exact Nat.le_antisymm (key h h') (key h' h)
theorem red_eq {U G U' G' : Nat} (hG : 1 ≤ G) (hG' : 1 ≤ G') (h : U * G' = U' * G) : U / Nat.gcd U G = U' / Nat.gcd U' G' ∧ G / Nat.gcd U G = G' / Nat.gcd U' G' := by
  have g1 : 0 < Nat.gcd U G := Nat.gcd_pos_of_pos_right _ hG
  have g2 : 0 < Nat.gcd U' G' := Nat.gcd_pos_of_pos_right _ hG'
  have e1 : Nat.gcd (U * G') (G * G') = Nat.gcd U G * G' := Nat.gcd_mul_right _ _ _
  have e2 : Nat.gcd (U' * G) (G' * G) = Nat.gcd U' G' * G := Nat.gcd_mul_right _ _ _
  have e3 : Nat.gcd U G * G' = Nat.gcd U' G' * G := by rw [← e1, ← e2, h, Nat.mul_comm G G']
  obtain ⟨u, hu⟩ := Nat.gcd_dvd_left U G
  obtain ⟨v, hv⟩ := Nat.gcd_dvd_right U G
  obtain ⟨u', hu'⟩ := Nat.gcd_dvd_left U' G'
  obtain ⟨v', hv'⟩ := Nat.gcd_dvd_right U' G'
  generalize Nat.gcd U G = g at *
  generalize Nat.gcd U' G' = g' at *
  subst hu hv hu' hv'
  rw [Nat.mul_div_cancel_left _ g1, Nat.mul_div_cancel_left _ g1, Nat.mul_div_cancel_left _ g2, Nat.mul_div_cancel_left _ g2]
  have ev : v = v' := by
    have : (g * g') * v' = (g * g') * v := by
      rw [Nat.mul_assoc, e3, ← Nat.mul_assoc, Nat.mul_comm g' g]
    exact (Nat.eq_of_mul_eq_mul_left (Nat.mul_pos g1 g2) this).symm
  subst ev
  refine ⟨?_, rfl⟩
  have hv0 : 0 < v := by
    rcases Nat.eq_zero_or_pos v with q | q
    · subst q; omega
    · exact q
  have : (g * g' * v) * u = (g * g' * v) * u' := by
    have a1 : g * u * (g' * v) = (g * g' * v) * u := by grind
    have a2 : g' * u' * (g * v) = (g * g' * v) * u' := by grind
    rw [← a1, ← a2, h]
  exact Nat.eq_of_mul_eq_mul_left (Nat.mul_pos (Nat.mul_pos g1 g2) hv0) this
/-- the class's cells: the greatest one, lowered -/
def FX (P : Nat → Nat → Prop) (u l : Int32) : Prop := ∃ U G : Nat, FM P U G ∧ u = nI (U / Nat.gcd U G) ∧ l = nI (G / Nat.gcd U G)
theorem belowX {P : Nat → Nat → Prop} {U G o s : Nat} (h : FM P U G) (ho : o ≤ 2013984) (hs2 : s ≤ 1998) : (f_Fraction_isBelow (nI (U / Nat.gcd U G)) (nI (G / Nat.gcd U G)) (nI o) (nI s) = 0) = (o * G ≤ U * s) := by
  obtain ⟨h1, h2, h3, h4, h5⟩ := h
  have g1 : 0 < Nat.gcd U G := Nat.gcd_pos_of_pos_right _ h1
  obtain ⟨u, hu⟩ := Nat.gcd_dvd_left U G
  obtain ⟨v, hv⟩ := Nat.gcd_dvd_right U G
  generalize Nat.gcd U G = g at *
  subst hu hv
  rw [Nat.mul_div_cancel_left _ g1, Nat.mul_div_cancel_left _ g1]
  have bu : u ≤ 2013984 := Nat.le_trans (Nat.le_mul_of_pos_left u g1) h2
  have bv : v ≤ 1998 := Nat.le_trans (Nat.le_mul_of_pos_left v g1) h3
  have b1 : o * v ≤ 2013984 * 1998 := Nat.mul_le_mul ho bv
  have b2 : u * s ≤ 2013984 * 1998 := Nat.mul_le_mul bu hs2
  unfold f_Fraction_isBelow
  rw [nI_l (by omega), nI_l (by omega), nI_l (by omega), nI_l (by omega), lN_mul, lN_mul]
  have e : (0 ≤ lg_cmp (lN (u * s)) (lN (o * v))) = (o * v ≤ u * s) := by
    unfold lg_cmp
    have e1 : (lN (u * s) > lN (o * v)) = (o * v < u * s) := propext (pk_lLT (by omega) (by omega))
    have e2 : (lN (u * s) = lN (o * v)) = (u * s = o * v) := propext (pk_lEQ (by omega) (by omega))
    simp only [e1, e2]
    apply propext
    by_cases c : o * v < u * s
    · rw [if_pos c]; exact ⟨fun _ => by omega, fun _ => by decide⟩
    · rw [if_neg c]
      by_cases c2 : u * s = o * v
      · rw [if_pos c2]; exact ⟨fun _ => by omega, fun _ => by decide⟩
      · rw [if_neg c2]; exact ⟨fun q => absurd q (by decide), fun q => absurd q (by omega)⟩
  simp only [e]
  have e3 : (o * (g * v) ≤ g * u * s) = (o * v ≤ u * s) := by
    apply propext
    have a1 : o * (g * v) = g * (o * v) := by grind
    have a2 : g * u * s = g * (u * s) := by grind
    rw [a1, a2]
    exact ⟨fun q => Nat.le_of_mul_le_mul_left q g1, fun q => Nat.mul_le_mul_left g q⟩
  rw [e3]
  apply propext
  by_cases c : o * v ≤ u * s
  · rw [if_pos c]; exact ⟨fun _ => c, fun _ => rfl⟩
  · rw [if_neg c]; exact ⟨fun q => absurd q (by decide), fun q => absurd q c⟩
theorem st21 {n p d : Nat} {T V : Nat → Int32} (h : LW n p d T V) {a k : Nat} (hk : k < n) : ∀ (m c f : Nat) (P : Nat → Nat → Prop) (u l : Int32), c + m = k + 1 ∨ (m = 0 ∧ k < c) → c < 30 → a + 1 < c → m < f → FX P u l →
    ∃ u' l' : Int32, f_Lines_measureStrip_L21 (nI k) (nI a) (nI n) T V f (nI c) u l = some (u', l') ∧ FX (fun o s => P o s ∨ ∃ c' q : Nat, c ≤ c' ∧ c' ≤ k ∧ a < q ∧ q < c' ∧ o = Of T V a q c' ∧ s = 2 * Sp T a c') u' l' := by
  have hn := h.1
  intro m
  induction m with
  | zero =>
    intro c f P u l hc hc30 hac hf hM
    obtain ⟨f, rfl⟩ : ∃ z, f = z + 1 := ⟨f - 1, by omega⟩
    obtain ⟨U, G, hM, e1, e2⟩ := hM
    refine ⟨u, l, ?_, U, G, FM_iff hM (fun o s => ⟨fun q => ?_, Or.inl⟩), e1, e2⟩
    · rw [f_Lines_measureStrip_L21_s, if_pos (nI_lt (by omega) (by omega))]
    · rcases q with q | ⟨c', q, a1, a2, _⟩
      · exact q
      · omega
  | succ m ih =>
    intro c f P u l hc hc30 hac hf hM
    obtain ⟨f, rfl⟩ : ∃ z, f = z + 1 := ⟨f - 1, by omega⟩
    have hck : c ≤ k := by omega
    obtain ⟨U, G, hM, rfl, rfl⟩ := hM
    obtain ⟨w, hw, ew⟩ := farX h hac (show c < n by omega)
    have hwi := hw.1
    have hwj := hw.2.1
    have ho := Of_le h (show a < n by omega) (show w < n by omega) (show c < n by omega)
    have hs := Sp_pos h (show a < c by omega) (show c < n by omega)
    have ec : nI c + 1 = nI (c + 1) := by rw [l1, nI_add]
    have e2 : (2 : Int32) * nI (Sp T a c) = nI (2 * Sp T a c) := by rw [l2, pk_mul]
    have M1 := FM_more hM ho (show 1 ≤ 2 * Sp T a c by omega) (show 2 * Sp T a c ≤ 1998 by omega)
    have M2 : ∀ U' G' : Nat, FM (fun o' s' => P o' s' ∨ (o' = Of T V a w c ∧ s' = 2 * Sp T a c)) U' G' → FM (fun o s => P o s ∨ ∃ q : Nat, a < q ∧ q < c ∧ o = Of T V a q c ∧ s = 2 * Sp T a c) U' G' := by
      intro U' G' hM'
      refine FM_dom hM' (fun o s q => ?_) (fun o s q => ?_)
      · rcases q with q | ⟨rfl, rfl⟩
        · exact Or.inl q
        · exact Or.inr ⟨w, hwi, hwj, rfl, rfl⟩
      · rcases q with q | ⟨q, a1, a2, rfl, rfl⟩
        · exact ⟨o, Or.inl q, Nat.le_refl _⟩
        · exact ⟨_, Or.inr ⟨rfl, rfl⟩, hw.2.2.1 q a1 a2⟩
    have conv : ∀ u' l' : Int32, FX (fun o s => (P o s ∨ ∃ q : Nat, a < q ∧ q < c ∧ o = Of T V a q c ∧ s = 2 * Sp T a c) ∨ ∃ c' q : Nat, c + 1 ≤ c' ∧ c' ≤ k ∧ a < q ∧ q < c' ∧ o = Of T V a q c' ∧ s = 2 * Sp T a c') u' l' → FX (fun o s => P o s ∨ ∃ c' q : Nat, c ≤ c' ∧ c' ≤ k ∧ a < q ∧ q < c' ∧ o = Of T V a q c' ∧ s = 2 * Sp T a c') u' l' := by
      rintro u' l' ⟨U', G', hM', e1, e2⟩
      refine ⟨U', G', FM_iff hM' (fun o s => ?_), e1, e2⟩
      constructor
      · rintro (q | ⟨c', q, a1, a2, a3, a4, a5, a6⟩)
        · exact Or.inl (Or.inl q)
        · rcases Nat.eq_or_lt_of_le a1 with e | e
          · subst e; exact Or.inl (Or.inr ⟨q, a3, a4, a5, a6⟩)
          · exact Or.inr ⟨c', q, e, a2, a3, a4, a5, a6⟩
      · rintro ((q | ⟨q, a1, a2, a3, a4⟩) | ⟨c', q, a1, a2, a3, a4, a5, a6⟩)
        · exact Or.inl q
        · exact Or.inr ⟨c, q, Nat.le_refl _, hck, a1, a2, a3, a4⟩
        · exact Or.inr ⟨c', q, by omega, a2, a3, a4, a5, a6⟩
    rw [f_Lines_measureStrip_L21_s, if_neg (nI_nlt (by omega) (by omega)), ew, Option.bind_some, offX h (by omega) (by omega) (by omega), Option.bind_some, spanX h (by omega) (by omega), Option.bind_some, e2, ec]
    simp only [belowX hM ho (show 2 * Sp T a c ≤ 1998 by omega)]
    by_cases cc : Of T V a w c * G ≤ U * (2 * Sp T a c)
    · rw [if_pos cc]
      rw [if_pos cc, if_pos cc] at M1
      obtain ⟨u', l', r1, r2⟩ := ih (c + 1) f _ _ _ (by omega) (by omega) (by omega) (by omega) ⟨U, G, M2 _ _ M1, rfl, rfl⟩
      exact ⟨u', l', r1, conv _ _ r2⟩
    · rw [if_neg cc, assignX (by omega) (by omega) (by omega), Option.bind_some]
      rw [if_neg cc, if_neg cc] at M1
      obtain ⟨u', l', r1, r2⟩ := ih (c + 1) f _ _ _ (by omega) (by omega) (by omega) (by omega) ⟨_, _, M2 _ _ M1, rfl, rfl⟩
      exact ⟨u', l', r1, conv _ _ r2⟩
theorem st9 {n p d : Nat} {T V : Nat → Int32} (h : LW n p d T V) {k : Nat} (hk : k < n) : ∀ (m a f : Nat) (P : Nat → Nat → Prop) (u l : Int32), a + m = k → m < f → FX P u l →
    ∃ u' l' : Int32, f_Lines_measureStrip_L9 (nI k) (nI n) T V f (nI a) u l = some (u', l') ∧ FX (fun o s => P o s ∨ Tr T V a k o s) u' l' := by
  have hn := h.1
  intro m
  induction m with
  | zero =>
    intro a f P u l ha hf hM
    obtain ⟨f, rfl⟩ : ∃ z, f = z + 1 := ⟨f - 1, by omega⟩
    obtain ⟨U, G, hM, e1, e2⟩ := hM
    refine ⟨u, l, ?_, U, G, FM_iff hM (fun o s => ⟨fun q => ?_, Or.inl⟩), e1, e2⟩
    · rw [f_Lines_measureStrip_L9_s, if_pos (nI_le (by omega) (by omega))]
    · rcases q with q | ⟨a', q, c, a1, a2, a3, a4, _⟩
      · exact q
      · omega
  | succ m ih =>
    intro a f P u l ha hf hM
    obtain ⟨f, rfl⟩ : ∃ z, f = z + 1 := ⟨f - 1, by omega⟩
    obtain ⟨u1, l1', e1, M1⟩ := st21 (a := a) h hk (k + 1 - (a + 2)) (a + 2) fu P u l (by omega) (by omega) (by omega) (by unfold fu; omega) hM
    have ea : nI a + 1 = nI (a + 1) := by rw [l1, nI_add]
    have ea2 : nI a + 2 = nI (a + 2) := by rw [l2, nI_add]
    rw [f_Lines_measureStrip_L9_s, if_neg (nI_ge (by omega) (by omega)), ea, ea2, e1, Option.bind_some]
    obtain ⟨u', l', e2, U', G', M2, g1, g2⟩ := ih (a + 1) f _ u1 l1' (by omega) (by omega) M1
    refine ⟨u', l', e2, U', G', FM_iff M2 (fun o s => ?_), g1, g2⟩
    constructor
    · rintro (q | ⟨a', q, c, a1, a2, a3, a4, a5, a6⟩)
      · exact Or.inl (Or.inl q)
      · rcases Nat.eq_or_lt_of_le a1 with e | e
        · subst e; exact Or.inl (Or.inr ⟨c, q, by omega, a4, a2, a3, a5, a6⟩)
        · exact Or.inr ⟨a', q, c, e, a2, a3, a4, a5, a6⟩
    · rintro ((q | ⟨c, q, a1, a4, a2, a3, a5, a6⟩) | ⟨a', q, c, a1, a2, a3, a4, a5, a6⟩)
      · exact Or.inl q
      · exact Or.inr ⟨a, q, c, Nat.le_refl _, a2, a3, a4, a5, a6⟩
      · exact Or.inr ⟨a', q, c, by omega, a2, a3, a4, a5, a6⟩
theorem stripX {n p d : Nat} {T V : Nat → Int32} (h : LW n p d T V) {i k : Nat} (hik : i ≤ k) (hk : k < n) (u l : Int32) : ∃ U G : Nat, f_Lines_measureStrip (nI n) T V u l (nI i) (nI k) = some (nI (U / Nat.gcd U G), nI (G / Nat.gcd U G)) ∧ FM (Tr T V i k) U G := by
  have hn := h.1
  have h0 : FM (fun _ _ => False) 0 1 := ⟨Nat.le_refl _, by omega, by omega, Or.inl ⟨rfl, rfl⟩, fun _ _ q => q.elim⟩
  obtain ⟨u', l', e, U, G, M, rfl, rfl⟩ := st9 h hk (k - i) i fu _ _ _ (by omega) (by unfold fu; omega) ⟨0, 1, h0, rfl, rfl⟩
  refine ⟨U, G, ?_, FM_iff M (fun o s => by simp)⟩
  unfold f_Lines_measureStrip
  rw [show f_Fraction_assign u l 0 1 = _ from assignX (o := 0) (s := 1) (by omega) (by omega) (by omega) u l, Option.bind_some]
  simp only [e, Option.bind_some]
theorem p_strip (v_text_length : Int32) (A_text_letters : Nat → Int32) (v_parser_at : Int32) (v_parser_kind : Int32) (v_parser_place : Int32) (v_parser_number : Int32) (v_parser_isPromiseTold : Int32) (v_parser_isDelayTold : Int32) (v_parser_draft_size : Int32) (v_parser_draft_promise : Int32) (v_parser_draft_delay : Int32) (A_parser_draft_times : Nat → Int32) (A_parser_draft_values : Nat → Int32) (v_log_size : Int32) (v_log_promise : Int32) (v_log_delay : Int32) (A_log_times : Nat → Int32) (A_log_values : Nat → Int32) (v_history_next : Int32) (v_history_size : Int32) (v_history_ring_places : Int32) (v_history_ring_filled : Int32) (A_history_ring_cells : Nat → Int32) (v_images_places : Int32) (v_images_filled : Int32) (A_images_cells : Nat → Int32) (v_lines_stretches : Int32) (A_lines_stretch : Nat → Int32) (A_lines_needs : Nat → Int32) (v_thinning_isOutdated : Int32) (v_thinning_pieces : Int32) (v_thinning_doorMask : Int32) (v_thinning_leastMask : Int32) (A_thinning_piece : Nat → Int32) (A_thinning_sent : Nat → Int32) (A_thinning_steps : Nat → Int32) (A_thinning_next : Nat → Int32) (v_seen_size : Int32) (v_seen_keptMask : Int32) (v_seen_droppedMask : Int32) (v_survey_isOutdated : Int32) (v_survey_possible : Int32) (v_survey_least : Int32) (v_survey_greatest : Int32) (A_survey_doorMasks : Nat → Int32) (v_fraction_upper : Int32) (v_fraction_lower : Int32) (v_undoMany : Int32) (v_undoAt : Int32) (v_seenMany : Int32) (v_letterMany : Int32) (v_readAt : Int32) (v_tokenAt : Int32) (v_token : Int32) (v_value : Int32) (v_faultAt : Int32) (v_readOnce : Int32) (v_greatUpper : Int64) (v_greatLower : Int64) (A_now : Nat → Int32) (A_undos : Nat → Int32) (A_seen : Nat → Int32) (A_seenAs : Nat → Int32) (A_isKept : Nat → Int32) (A_kept : Nat → Int32) (A_text : Nat → Int32) (A_read : Nat → Int32) (A_fewest : Nat → Int32) (A_doors : Nat → Int32) (A_isSo : Nat → Int32) (p1 : Int32) (p2 : Int32) (p3 : Int32) (h : Rel v_text_length A_text_letters v_log_size v_log_promise v_log_delay A_log_times A_log_values v_history_next v_history_size v_history_ring_places v_history_ring_filled A_history_ring_cells v_images_places v_images_filled A_images_cells v_lines_stretches A_lines_stretch A_lines_needs v_thinning_isOutdated v_thinning_pieces v_thinning_doorMask v_thinning_leastMask A_thinning_piece A_thinning_sent v_seen_size v_seen_keptMask v_seen_droppedMask v_survey_isOutdated A_survey_doorMasks v_undoMany v_undoAt v_seenMany v_letterMany A_now A_undos A_seen A_seenAs A_isKept A_kept A_text) : ∃ (zX : Int32 × Int32 × (Nat → Int32) × (Nat → Int32) × Int32 × Int32 × Int32 × Int32 × (Nat → Int32) × (Nat → Int32) × (Nat → Int32) × (Nat → Int32) × Int32 × Int32) (zM : Int32 × Int64 × Int64), f_TR_strip v_log_size v_log_promise v_log_delay A_log_times A_log_values v_lines_stretches A_lines_stretch A_lines_needs v_thinning_isOutdated v_thinning_pieces v_thinning_doorMask v_thinning_leastMask A_thinning_piece A_thinning_sent A_thinning_steps A_thinning_next v_fraction_upper v_fraction_lower p1 p2 p3 = some zX ∧ f_Mo_strip v_greatUpper v_greatLower A_now p1 p2 p3 = some zM ∧ zX.1 = zM.1 ∧ Rel v_text_length A_text_letters v_log_size v_log_promise v_log_delay A_log_times A_log_values v_history_next v_history_size v_history_ring_places v_history_ring_filled A_history_ring_cells v_images_places v_images_filled A_images_cells zX.2.1 zX.2.2.1 zX.2.2.2.1 zX.2.2.2.2.1 zX.2.2.2.2.2.1 zX.2.2.2.2.2.2.1 zX.2.2.2.2.2.2.2.1 zX.2.2.2.2.2.2.2.2.1 zX.2.2.2.2.2.2.2.2.2.1 v_seen_size v_seen_keptMask v_seen_droppedMask v_survey_isOutdated A_survey_doorMasks v_undoMany v_undoAt v_seenMany v_letterMany A_now A_undos A_seen A_seenAs A_isKept A_kept A_text := by
  obtain ⟨hT, ⟨n, p, d, hw, rfl, rfl, rfl, hrow⟩, hHi, hI, hTh, hSe, hSu⟩ := h
  have hn := hw.1
  have hp := hw.2.1
  rw [nI_clamp (show n < 2 ^ 31 by omega)] at hTh
  obtain ⟨pcs', dm', lm', PA', SE', ST', NX', st', S', N', e, hF⟩ := refresh_ok hw hrow hTh A_thinning_steps A_thinning_next
  have fin := ThinR_of hF
  rw [← nI_clamp (show n < 2 ^ 31 by omega)] at fin
  have rel := (⟨hT, ⟨n, p, d, hw, rfl, rfl, rfl, hrow⟩, hHi, hI, fin, hSe, hSu⟩ : Rel v_text_length A_text_letters (nI n) (nI p) (nI d) A_log_times A_log_values v_history_next v_history_size v_history_ring_places v_history_ring_filled A_history_ring_cells v_images_places v_images_filled A_images_cells st' S' N' 0 pcs' dm' lm' PA' SE' v_seen_size v_seen_keptMask v_seen_droppedMask v_survey_isOutdated A_survey_doorMasks v_undoMany v_undoAt v_seenMany v_letterMany A_now A_undos A_seen A_seenAs A_isKept A_kept A_text)
  unfold f_TR_strip f_Mo_strip
  rw [e, Option.bind_some]
  rcases side_cases hw hrow hF.2.1 p1 p2 with ⟨a1, a2⟩ | ⟨i, j, rfl, rfl, hi, hj, hKi, hKj, a1, a2, a3⟩
  · rw [a1, a2]
    rcases kn_cases hn hrow p1 with ⟨k1, k2⟩ | ⟨j, rfl, hj, hK, k1, k2⟩
    · rw [k1]
      by_cases c : p1 = p2
      · rw [if_pos c]; exact ⟨_, _, rfl, rfl, rfl, rel⟩
      · rw [if_neg c]; exact ⟨_, _, rfl, rfl, rfl, rel⟩
    · by_cases c : nI j = p2
      · subst c
        exfalso
        unfold f_Mo_isSide at a1
        rw [k2, hF.2.1 j hj] at a1
        simp [n10] at a1
      · rw [if_neg c]; exact ⟨_, _, rfl, rfl, rfl, rel⟩
  · have core : i ≤ j → ∃ (zX : Int32 × Int32 × (Nat → Int32) × (Nat → Int32) × Int32 × Int32 × Int32 × Int32 × (Nat → Int32) × (Nat → Int32) × (Nat → Int32) × (Nat → Int32) × Int32 × Int32) (zM : Int32 × Int64 × Int64), (if f_TR_isWithin p3 0 1 = 0 then some ((-1 : Int32), st', S', N', (0 : Int32), pcs', dm', lm', PA', SE', ST', NX', v_fraction_upper, v_fraction_lower) else (f_Lines_measureStrip (nI n) A_log_times A_log_values v_fraction_upper v_fraction_lower (nI i) (nI j)).bind fun z => some (f_Fraction_part z.1 z.2 p3, st', S', N', (0 : Int32), pcs', dm', lm', PA', SE', ST', NX', z.1, z.2)) = some zX ∧ (if f_Mo_in p3 0 1 = 0 then some ((-1 : Int32), v_greatUpper, v_greatLower) else (f_Mo_layStrip v_greatUpper v_greatLower A_now (nI i) (nI j)).bind fun z6 => if p3 = 0 then (f_Mo_lowest z6.1 z6.2 1).bind fun r => some (r, z6.1, z6.2) else (f_Mo_lowest z6.1 z6.2 0).bind fun r => some (r, z6.1, z6.2)) = some zM ∧ zX.1 = zM.1 ∧ zX.2.1 = st' ∧ zX.2.2.1 = S' ∧ zX.2.2.2.1 = N' ∧ zX.2.2.2.2.1 = 0 ∧ zX.2.2.2.2.2.1 = pcs' ∧ zX.2.2.2.2.2.2.1 = dm' ∧ zX.2.2.2.2.2.2.2.1 = lm' ∧ zX.2.2.2.2.2.2.2.2.1 = PA' ∧ zX.2.2.2.2.2.2.2.2.2.1 = SE' := by
      intro hij
      rcases within_cases p3 1 (by omega) with ⟨b1, b2⟩ | ⟨t, ht, rfl, b1, b2⟩
      · rw [show (1 : Int32) = nI 1 from rfl, b1, b2, if_pos rfl, if_pos rfl]
        exact ⟨_, _, rfl, rfl, rfl, rfl, rfl, rfl, rfl, rfl, rfl, rfl, rfl, rfl⟩
      · rw [← l1] at b1 b2
        obtain ⟨U, G, x1, x2⟩ := stripX hw hij hj v_fraction_upper v_fraction_lower
        obtain ⟨U', G', y1, y2⟩ := layM hw hrow hij hj v_greatUpper v_greatLower
        have q1 := FM_eq x2 y2
        have q2 := red_eq x2.1 y2.1 q1
        have b3 := y2.2.1
        have b4 := y2.2.2.1
        have lo := lowestM (o := U') (s := G') (by omega) y2.1 (by omega)
        rw [b1, b2, x1, y1]
        simp only [n10, ↓reduceIte, Option.bind_some, lo.1, lo.2]
        rcases (show t = 0 ∨ t = 1 by omega) with rfl | rfl
        · refine ⟨_, _, rfl, rfl, ?_, rfl, rfl, rfl, rfl, rfl, rfl, rfl, rfl, rfl⟩
          show nI (U / _) = nI (U' / _)
          rw [q2.1]
        · refine ⟨_, _, rfl, rfl, ?_, rfl, rfl, rfl, rfl, rfl, rfl, rfl, rfl, rfl⟩
          show nI (G / _) = nI (G' / _)
          rw [q2.2]
    rw [a1, a2]
    simp only [Option.bind_some, n10, ↓reduceIte, nI_lt' (show j < 2 ^ 31 by omega) (show i < 2 ^ 31 by omega), nI_eq' (show i < 2 ^ 31 by omega) (show j < 2 ^ 31 by omega), knX hn A_log_values (show i < 2 ^ 31 by omega), b2_0, hKi]
    by_cases c : i = j
    · simp only [c, reduceCtorEq, ↓reduceIte, Nat.lt_irrefl]
      subst c
      obtain ⟨zX, zM, c1, c2, c3, c4, c5, c6, c7, c8, c9, c10, c11, c12⟩ := core (by omega)
      refine ⟨zX, zM, ?_, ?_, c3, ?_⟩
      · rw [← c1]
      · rw [← c2]
      · rw [c4, c5, c6, c7, c8, c9, c10, c11, c12]; exact rel
    · by_cases c2 : i < j
      · simp only [c, c2, ↓reduceIte, n10, show ¬ j < i by omega]
        obtain ⟨zX, zM, c1, c2, c3, c4, c5, c6, c7, c8, c9, c10, c11, c12⟩ := core (by omega)
        refine ⟨zX, zM, ?_, ?_, c3, ?_⟩
        · rw [← c1]
        · rw [← c2]
        · rw [c4, c5, c6, c7, c8, c9, c10, c11, c12]; exact rel
      · simp only [c, c2, ↓reduceIte, show j < i by omega]
        exact ⟨_, _, rfl, rfl, rfl, rel⟩

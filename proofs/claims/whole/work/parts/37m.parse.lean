/-! ===== pure: the whole text ===== -/
theorem LW_delay {n p d v : Nat} {T V : Nat → Int32} (h : LW n p d T V) (h1 : 1 ≤ v) (h2 : v ≤ 14) : LW n p v T V := by
  obtain ⟨a1, a2, a3, a4, a5⟩ := h
  exact ⟨a1, a2, h1, h2, a5⟩
theorem LW_promise {n p d v : Nat} {T V : Nat → Int32} (h : LW n p d T V) (h1 : v ≤ 99) : LW n v d T V := by
  obtain ⟨a1, a2, a5⟩ := h
  exact ⟨a1, h1, a5⟩
theorem RowIs_delay {n p d v : Nat} {T V read : Nat → Int32} (h : RowIs read n p d T V) : RowIs (upd read 2 (nI v)) n p v T V := by
  obtain ⟨a1, a2, a3, a4⟩ := h
  refine ⟨by rw [upd_at, if_neg (by omega)]; exact a1, by rw [upd_at, if_neg (by omega)]; exact a2, by rw [upd_at, if_pos rfl], fun j hj => ?_⟩
  rw [upd_at, upd_at, if_neg (by omega), if_neg (by omega)]; exact a4 j hj
theorem RowIs_promise {n p d v : Nat} {T V read : Nat → Int32} (h : RowIs read n p d T V) : RowIs (upd read 1 (nI v)) n v d T V := by
  obtain ⟨a1, a2, a3, a4⟩ := h
  refine ⟨by rw [upd_at, if_neg (by omega)]; exact a1, by rw [upd_at, if_pos rfl], by rw [upd_at, if_neg (by omega)]; exact a3, fun j hj => ?_⟩
  rw [upd_at, upd_at, if_neg (by omega), if_neg (by omega)]; exact a4 j hj
theorem ne_a : ((112 : Int32) = 100) = False := eq_false (by decide)
theorem ne_b : ((114 : Int32) = 100) = False := eq_false (by decide)
theorem ne_c : ((114 : Int32) = 112) = False := eq_false (by decide)
theorem ne_d : ((117 : Int32) = 100) = False := eq_false (by decide)
theorem ne_e : ((117 : Int32) = 112) = False := eq_false (by decide)
theorem ne_f : ((117 : Int32) = 114) = False := eq_false (by decide)
def ParsedR (L : Nat) (zX : Nat × Int32 × Int32 × Int32 × Int32 × Int32 × Int32 × Int32 × Int32 × Int32 × Int32 × (Nat → Int32) × (Nat → Int32)) (zM : Nat × Int32 × Int32 × Int32 × Int32 × Int32 × Int32 × Int32 × (Nat → Int32)) : Prop :=
  (zX.1 = 0 ∧ zM.1 = 1 ∧ zX.2.1 = zM.2.1 ∧ (∃ c : Nat, c ≤ 120 ∧ zX.2.1 = nI c) ∧ ∃ n p d : Nat, LW n p d zX.2.2.2.2.2.2.2.2.2.2.2.1 zX.2.2.2.2.2.2.2.2.2.2.2.2 ∧ zX.2.2.2.2.2.2.2.2.1 = nI n ∧ zX.2.2.2.2.2.2.2.2.2.1 = nI p ∧ zX.2.2.2.2.2.2.2.2.2.2.1 = nI d ∧ RowIs zM.2.2.2.2.2.2.2.2 n p d zX.2.2.2.2.2.2.2.2.2.2.2.1 zX.2.2.2.2.2.2.2.2.2.2.2.2) ∨
  (zX.1 = 1 ∧ zM.1 = 0 ∧ ∃ b : Nat, b ≤ L ∧ zX.2.2.2.2.1 = nI b ∧ zM.2.2.2.2.2.2.1 = nI b)
theorem parse_L {L : Nat} {le tx : Nat → Int32} (h : TX L le tx) : ∀ (m a c f1 f2 n p d : Nat) (k pl num ta tk vl fa ro : Int32) (T V read : Nat → Int32), L - a ≤ m → a ≤ L → c ≤ a → m < f1 → m < f2 → LW n p d T V → RowIs read n p d T V →
    ∃ (zX : Nat × Int32 × Int32 × Int32 × Int32 × Int32 × Int32 × Int32 × Int32 × Int32 × Int32 × (Nat → Int32) × (Nat → Int32)) (zM : Nat × Int32 × Int32 × Int32 × Int32 × Int32 × Int32 × Int32 × (Nat → Int32)),
      f_Parser_parse_L24 (nI L) le f1 (nI c) (nI a) k pl num (if bt ro 1 = true then 1 else 0) (if bt ro 2 = true then 1 else 0) (nI n) (nI p) (nI d) T V = some zX ∧ f_Mo_readings_L23 (nI L) tx f2 (nI c) (nI (Bl tx (L - a) a)) ta tk vl fa ro read = some zM ∧ ParsedR L zX zM := by
  have hL := h.1
  intro m
  induction m with
  | zero =>
    intro a c f1 f2 n p d k pl num ta tk vl fa ro T V read hm ha hc hf1 hf2 hw hr
    obtain ⟨f1, rfl⟩ : ∃ z, f1 = z + 1 := ⟨f1 - 1, by omega⟩
    obtain ⟨f2, rfl⟩ : ∃ z, f2 = z + 1 := ⟨f2 - 1, by omega⟩
    have e : a = L := by omega
    subst e
    obtain ⟨b, e, kX, kM, nX, vM, e1, e2, eb, h1, h2, h3, hT, h0, hp, hv⟩ := tok_ok h ha ha rfl k pl num ta tk vl
    have hbL : b = a := by omega
    have kx := h0.mpr hbL
    have eB : Bl tx (a - a) a = a := by rw [Nat.sub_self]; rfl
    rw [f_Parser_parse_L24_s, f_Mo_readings_L23_s, if_neg (show ¬ (120 : Int32) < nI c from by rw [l120]; exact nI_nlt (by omega) (by omega)), e1, Option.bind_some, if_pos kx, eB, if_pos (nI_le (Nat.le_refl _) (by omega))]
    exact ⟨_, _, rfl, rfl, Or.inl ⟨rfl, rfl, rfl, ⟨c, by omega, rfl⟩, n, p, d, hw, rfl, rfl, rfl, hr⟩⟩
  | succ m ih =>
    intro a c f1 f2 n p d k pl num ta tk vl fa ro T V read hm ha hc hf1 hf2 hw hr
    obtain ⟨f1, rfl⟩ : ∃ z, f1 = z + 1 := ⟨f1 - 1, by omega⟩
    obtain ⟨f2, rfl⟩ : ∃ z, f2 = z + 1 := ⟨f2 - 1, by omega⟩
    have hBl := Bl_le tx (L - a) a
    obtain ⟨b, e, kX, kM, nX, vM, e1, e2, eb, h1, h2, h3, hT, h0, hp, hv⟩ := tok_ok h ha (show Bl tx (L - a) a ≤ L by omega) (Bl_idem tx ha) k pl num ta tk vl
    rw [← eb] at e2 ⊢
    generalize hpt : (if bt ro 1 = true then (1 : Int32) else 0) = pt
    generalize hdt : (if bt ro 2 = true then (1 : Int32) else 0) = dt
    rw [f_Parser_parse_L24_s, f_Mo_readings_L23_s, if_neg (show ¬ (120 : Int32) < nI c from by rw [l120]; exact nI_nlt (by omega) (by omega)), e1, Option.bind_some]
    have ec : nI c + 1 = nI (c + 1) := by rw [l1, nI_add]
    by_cases hbL : b = L
    · rw [if_pos (h0.mpr hbL), if_pos (nI_le (by omega) (by omega))]
      exact ⟨_, _, rfl, rfl, Or.inl ⟨rfl, rfl, rfl, ⟨c, by omega, rfl⟩, n, p, d, hw, rfl, rfl, rfl, hr⟩⟩
    · have hbe := hp (by omega)
      have k0 : ¬ kX = 0 := fun q => hbL (h0.mp q)
      rw [if_neg (nI_ge (by omega) (by omega)), if_neg k0]
      unfold f_Mo_readsItem
      rw [e2, Option.bind_some]
      have next : ∀ (e' n' p' d' : Nat) (k' pl' num' ta' tk' vl' fa' ro' pt dt : Int32) (T' V' read' : Nat → Int32), e ≤ e' → e' ≤ L → pt = (if bt ro' 1 = true then 1 else 0) → dt = (if bt ro' 2 = true then 1 else 0) → LW n' p' d' T' V' → RowIs read' n' p' d' T' V' →
          ∃ (zX : Nat × Int32 × Int32 × Int32 × Int32 × Int32 × Int32 × Int32 × Int32 × Int32 × Int32 × (Nat → Int32) × (Nat → Int32)) (zM : Nat × Int32 × Int32 × Int32 × Int32 × Int32 × Int32 × Int32 × (Nat → Int32)),
            f_Parser_parse_L24 (nI L) le f1 (nI c + 1) (nI e') k' pl' num' pt dt (nI n') (nI p') (nI d') T' V' = some zX ∧ ((f_Mo_blanks (nI L) (nI e') tx).bind fun z4 => f_Mo_readings_L23 (nI L) tx f2 (nI c + 1) z4 ta' tk' vl' fa' ro' read') = some zM ∧ ParsedR L zX zM := by
        intro e' n' p' d' k' pl' num' ta' tk' vl' fa' ro' pt dt T' V' read' a1 a2 a3 a4 a5 a6
        rw [blanksM h a2, Option.bind_some, ec, a3, a4]
        exact ih e' (c + 1) f1 f2 n' p' d' k' pl' num' ta' tk' vl' fa' ro' T' V' read' (by omega) a2 (by omega) (by omega) (by omega) a5 a6
      rcases hT with ⟨rfl, rfl⟩ | ⟨rfl, rfl⟩ | ⟨rfl, rfl⟩ | ⟨rfl, rfl | rfl | rfl | rfl | rfl⟩
      · exact absurd rfl k0
      · exact ⟨_, _, rfl, rfl, Or.inr ⟨rfl, rfl, b, by omega, rfl, rfl⟩⟩
      · exact ⟨_, _, rfl, rfl, Or.inr ⟨rfl, rfl, b, by omega, rfl, rfl⟩⟩
      · exact ⟨_, _, rfl, rfl, Or.inr ⟨rfl, rfl, b, by omega, rfl, rfl⟩⟩
      · obtain ⟨zX, zM, y1, y2, ⟨y3, y4, b', y5, y6, y7⟩ | ⟨y3, y4, y5, y6, e', v, y7, y8, y9, y10, y11, y12, y13, y14⟩⟩ := delay_ok h h3 (show b ≤ L by omega) 100 nX 100 vM fa ro (nI d) read
        · rw [hdt] at y1; simp only [↓reduceIte, y1, y2, Option.bind_some, y3, y4]
          exact ⟨_, _, rfl, rfl, Or.inr ⟨rfl, rfl, b', y5, y6, y7⟩⟩
        · rw [hdt] at y1; simp only [↓reduceIte, y1, y2, Option.bind_some, y3, y4, n10, y5, y6, y11, y12, y13, y14]
          exact next e' n p v _ _ _ _ _ _ _ (ro ||| sh 2) pt 1 T V _ y7 y8 (by rw [← hpt, bt_sh ro (by omega) (by omega)]; simp) (by rw [bt_sh ro (by omega) (by omega)]; simp) (LW_delay hw y9 y10) (RowIs_delay hr)
      · obtain ⟨zX, zM, y1, y2, ⟨y3, y4, b', y5, y6, y7⟩ | ⟨y3, y4, y5, y6, e', v, y7, y8, y10, y11, y12, y13, y14⟩⟩ := promise_ok h h3 (show b ≤ L by omega) 112 nX 112 vM fa ro (nI p) read
        · rw [hpt] at y1; simp only [↓reduceIte, y1, y2, Option.bind_some, y3, y4, ne_a]
          exact ⟨_, _, rfl, rfl, Or.inr ⟨rfl, rfl, b', y5, y6, y7⟩⟩
        · rw [hpt] at y1; simp only [↓reduceIte, y1, y2, Option.bind_some, y3, y4, n10, ne_a, y5, y6, y11, y12, y13, y14]
          exact next e' n v d _ _ _ _ _ _ _ (ro ||| sh 1) 1 dt T V _ y7 y8 (by rw [bt_sh ro (by omega) (by omega)]; simp) (by rw [← hdt, bt_sh ro (by omega) (by omega)]; simp) (LW_promise hw y10) (RowIs_promise hr)
      · obtain ⟨zX, zM, y1, y2, ⟨y3, y4, b', y5, y6, y7⟩ | ⟨y3, y4, e', y7, y8, y9, y10, y11, y12, y13⟩⟩ := item_ok h hw hr h3 (show b ≤ L by omega) 114 nX 114 vM fa (p1 := 1) (Or.inr rfl)
        · simp only [↓reduceIte, y1, y2, Option.bind_some, y3, y4, ne_b, ne_c]
          exact ⟨_, _, rfl, rfl, Or.inr ⟨rfl, rfl, b', y5, y6, y7⟩⟩
        · simp only [↓reduceIte, y1, y2, Option.bind_some, y3, y4, n10, ne_b, ne_c, y9, y10, y11]
          exact next e' (n + 1) p d _ _ _ _ _ _ _ ro pt dt _ _ _ y7 y8 hpt.symm hdt.symm y12 y13
      · obtain ⟨zX, zM, y1, y2, ⟨y3, y4, b', y5, y6, y7⟩ | ⟨y3, y4, e', y7, y8, y9, y10, y11, y12, y13⟩⟩ := item_ok h hw hr h3 (show b ≤ L by omega) 117 nX 117 vM fa (p1 := 0) (Or.inl rfl)
        · simp only [↓reduceIte, y1, y2, Option.bind_some, y3, y4, ne_d, ne_e, ne_f]
          exact ⟨_, _, rfl, rfl, Or.inr ⟨rfl, rfl, b', y5, y6, y7⟩⟩
        · simp only [↓reduceIte, y1, y2, Option.bind_some, y3, y4, n10, ne_d, ne_e, ne_f, y9, y10, y11]
          exact next e' (n + 1) p d _ _ _ _ _ _ _ ro pt dt _ _ _ y7 y8 hpt.symm hdt.symm y12 y13
theorem copy_L (oT oV : Nat → Int32) : ∀ (m k f : Nat) (T V : Nat → Int32), k + m = 14 → m < f → f_Log_copy_L2 oT oV f (nI k) T V = some ((fun j => if k ≤ j ∧ j < 14 then oT j else T j), (fun j => if k ≤ j ∧ j < 14 then oV j else V j)) := by
  intro m
  induction m with
  | zero =>
    intro k f T V hk hf
    obtain ⟨f, rfl⟩ : ∃ z, f = z + 1 := ⟨f - 1, by omega⟩
    rw [f_Log_copy_L2_s]
    simp (disch := omega) only [l14, nI_leI, if_pos]
    congr 2
    all_goals funext j
    all_goals simp (disch := omega) only [if_neg]
  | succ m ih =>
    intro k f T V hk hf
    obtain ⟨f, rfl⟩ : ∃ z, f = z + 1 := ⟨f - 1, by omega⟩
    rw [f_Log_copy_L2_s]
    simp (disch := omega) only [l14, l1, nI_leI, if_neg, nI_add, inB_nI, ↓reduceIte, nI_clamp, ih (k + 1) f]
    congr 2
    all_goals funext j
    all_goals simp only [upd_at]
    all_goals grind
theorem m66_L (x1 : Int32) (R : Nat → Int32) : ∀ (m k f : Nat) (now : Nat → Int32), k + m = 31 → m < f → f_Mo_readings_L66 x1 R f (nI k) now = some (fun j => if k ≤ j ∧ j < 31 then R j else now j) := by
  intro m
  induction m with
  | zero =>
    intro k f now hk hf
    obtain ⟨f, rfl⟩ : ∃ z, f = z + 1 := ⟨f - 1, by omega⟩
    rw [f_Mo_readings_L66_s]
    simp (disch := omega) only [l31, nI_leI, if_pos]
    congr 1; funext j
    simp (disch := omega) only [if_neg]
  | succ m ih =>
    intro k f now hk hf
    obtain ⟨f, rfl⟩ : ∃ z, f = z + 1 := ⟨f - 1, by omega⟩
    rw [f_Mo_readings_L66_s]
    simp (disch := omega) only [l31, l1, nI_leI, if_neg, nI_add, inB_nI, ↓reduceIte, nI_clamp, ih (k + 1) f]
    congr 1; funext j
    simp only [upd_at]
    grind
theorem m10_neg {b : Nat} (hb : b ≤ 120) : ¬ 0 ≤ (-10 : Int32) - nI b := by
  have e : (-10 : Int32) - nI b = Int32.ofInt (-10 - (b : Int)) := by
    rw [Int32.ofInt_sub]; rfl
  rw [e, ofI_le (by omega)]
  omega
theorem p_readings (v_text_length : Int32) (A_text_letters : Nat → Int32) (v_parser_at : Int32) (v_parser_kind : Int32) (v_parser_place : Int32) (v_parser_number : Int32) (v_parser_isPromiseTold : Int32) (v_parser_isDelayTold : Int32) (v_parser_draft_size : Int32) (v_parser_draft_promise : Int32) (v_parser_draft_delay : Int32) (A_parser_draft_times : Nat → Int32) (A_parser_draft_values : Nat → Int32) (v_log_size : Int32) (v_log_promise : Int32) (v_log_delay : Int32) (A_log_times : Nat → Int32) (A_log_values : Nat → Int32) (v_history_next : Int32) (v_history_size : Int32) (v_history_ring_places : Int32) (v_history_ring_filled : Int32) (A_history_ring_cells : Nat → Int32) (v_images_places : Int32) (v_images_filled : Int32) (A_images_cells : Nat → Int32) (v_lines_stretches : Int32) (A_lines_stretch : Nat → Int32) (A_lines_needs : Nat → Int32) (v_thinning_isOutdated : Int32) (v_thinning_pieces : Int32) (v_thinning_doorMask : Int32) (v_thinning_leastMask : Int32) (A_thinning_piece : Nat → Int32) (A_thinning_sent : Nat → Int32) (A_thinning_steps : Nat → Int32) (A_thinning_next : Nat → Int32) (v_seen_size : Int32) (v_seen_keptMask : Int32) (v_seen_droppedMask : Int32) (v_survey_isOutdated : Int32) (v_survey_possible : Int32) (v_survey_least : Int32) (v_survey_greatest : Int32) (A_survey_doorMasks : Nat → Int32) (v_fraction_upper : Int32) (v_fraction_lower : Int32) (v_undoMany : Int32) (v_undoAt : Int32) (v_seenMany : Int32) (v_letterMany : Int32) (v_readAt : Int32) (v_tokenAt : Int32) (v_token : Int32) (v_value : Int32) (v_faultAt : Int32) (v_readOnce : Int32) (v_greatUpper : Int64) (v_greatLower : Int64) (A_now : Nat → Int32) (A_undos : Nat → Int32) (A_seen : Nat → Int32) (A_seenAs : Nat → Int32) (A_isKept : Nat → Int32) (A_kept : Nat → Int32) (A_text : Nat → Int32) (A_read : Nat → Int32) (A_fewest : Nat → Int32) (A_doors : Nat → Int32) (A_isSo : Nat → Int32)  (h : Rel v_text_length A_text_letters v_log_size v_log_promise v_log_delay A_log_times A_log_values v_history_next v_history_size v_history_ring_places v_history_ring_filled A_history_ring_cells v_images_places v_images_filled A_images_cells v_lines_stretches A_lines_stretch A_lines_needs v_thinning_isOutdated v_thinning_pieces v_thinning_doorMask v_thinning_leastMask A_thinning_piece A_thinning_sent v_seen_size v_seen_keptMask v_seen_droppedMask v_survey_isOutdated A_survey_doorMasks v_undoMany v_undoAt v_seenMany v_letterMany A_now A_undos A_seen A_seenAs A_isKept A_kept A_text) : ∃ (zX : Int32 × Int32 × Int32 × Int32 × Int32 × Int32 × Int32 × Int32 × Int32 × Int32 × Int32 × (Nat → Int32) × (Nat → Int32) × Int32 × Int32 × Int32 × (Nat → Int32) × (Nat → Int32) × Int32 × Int32 × Int32 × Int32 × Int32 × Int32 × Int32) (zM : Int32 × Int32 × Int32 × Int32 × Int32 × Int32 × Int32 × Int32 × Int32 × Int32 × (Nat → Int32) × (Nat → Int32) × (Nat → Int32)), f_TR_readings v_text_length A_text_letters v_parser_at v_parser_kind v_parser_place v_parser_number v_parser_isPromiseTold v_parser_isDelayTold v_parser_draft_size v_parser_draft_promise v_parser_draft_delay A_parser_draft_times A_parser_draft_values v_log_size v_log_promise v_log_delay A_log_times A_log_values v_history_size v_images_filled v_thinning_isOutdated v_seen_size v_seen_keptMask v_seen_droppedMask v_survey_isOutdated = some zX ∧ f_Mo_readings v_undoMany v_seenMany v_letterMany v_readAt v_tokenAt v_token v_value v_faultAt v_readOnce A_now A_isKept A_text A_read = some zM ∧ zX.1 = zM.1 ∧ Rel zX.2.1 A_text_letters zX.2.2.2.2.2.2.2.2.2.2.2.2.2.1 zX.2.2.2.2.2.2.2.2.2.2.2.2.2.2.1 zX.2.2.2.2.2.2.2.2.2.2.2.2.2.2.2.1 zX.2.2.2.2.2.2.2.2.2.2.2.2.2.2.2.2.1 zX.2.2.2.2.2.2.2.2.2.2.2.2.2.2.2.2.2.1 v_history_next zX.2.2.2.2.2.2.2.2.2.2.2.2.2.2.2.2.2.2.1 v_history_ring_places v_history_ring_filled A_history_ring_cells v_images_places zX.2.2.2.2.2.2.2.2.2.2.2.2.2.2.2.2.2.2.2.1 A_images_cells v_lines_stretches A_lines_stretch A_lines_needs zX.2.2.2.2.2.2.2.2.2.2.2.2.2.2.2.2.2.2.2.2.1 v_thinning_pieces v_thinning_doorMask v_thinning_leastMask A_thinning_piece A_thinning_sent zX.2.2.2.2.2.2.2.2.2.2.2.2.2.2.2.2.2.2.2.2.2.1 zX.2.2.2.2.2.2.2.2.2.2.2.2.2.2.2.2.2.2.2.2.2.2.1 zX.2.2.2.2.2.2.2.2.2.2.2.2.2.2.2.2.2.2.2.2.2.2.2.1 zX.2.2.2.2.2.2.2.2.2.2.2.2.2.2.2.2.2.2.2.2.2.2.2.2 A_survey_doorMasks zM.2.1 v_undoAt zM.2.2.1 zM.2.2.2.1 zM.2.2.2.2.2.2.2.2.2.2.1 A_undos A_seen A_seenAs zM.2.2.2.2.2.2.2.2.2.2.2.1 A_kept A_text := by
  obtain ⟨⟨L, hL, rfl, rfl, hl⟩, ⟨n, p, d, hw, rfl, rfl, rfl, hrow⟩, hHi, hI, hTh, hSe, hSu⟩ := id h
  have hX : TX L A_text_letters A_text := ⟨hL, hl⟩
  obtain ⟨z0, b1, b2, b3, b4⟩ := begins_all A_read
  have w0 : LW 0 5 14 A_parser_draft_times A_parser_draft_values := ⟨by omega, by omega, by omega, by omega, fun j hj => absurd hj (by omega), fun i j _ hj => absurd hj (by omega), fun j hj => absurd hj (by omega)⟩
  have r0 : RowIs z0 0 5 14 A_parser_draft_times A_parser_draft_values := ⟨b2, b3, b4, fun j hj => absurd hj (by omega)⟩
  obtain ⟨zX, zM, x1, m1, hP⟩ := parse_L hX L 0 0 fu fu 0 5 14 v_parser_kind v_parser_place v_parser_number v_tokenAt v_token v_value v_faultAt 0 A_parser_draft_times A_parser_draft_values z0 (by omega) (by omega) (by omega) (by unfold fu; omega) (by unfold fu; omega) w0 r0
  have m2 : f_Mo_readings_L23 (nI L) A_text fu 0 (nI (Bl A_text (L - 0) 0)) v_tokenAt v_token v_value v_faultAt 0 z0 = some zM := m1
  have x2 : f_Parser_parse_L24 (nI L) A_text_letters fu 0 0 v_parser_kind v_parser_place v_parser_number 0 0 0 5 14 A_parser_draft_times A_parser_draft_values = some zX := x1
  have i0 : inB (0 : Int32) 2 = true := by decide
  have z0' : ((0 : Int32)).toNatClampNeg = 0 := rfl
  have i1 : inB (1 : Int32) 2 = true := by decide
  have z1' : ((1 : Int32)).toNatClampNeg = 1 := rfl
  unfold f_TR_readings f_Parser_parse f_Mo_readings f_Log_startAnew
  have e0 : f_Mo_blanks (nI L) 0 A_text = some (nI (Bl A_text (L - 0) 0)) := blanksM hX (a := 0) (by omega)
  simp only [b1, e0, m2, x2, Option.bind_some]
  rcases hP with ⟨p1, p2, p3, ⟨c, hc, p4⟩, n', p', d', p5, p6, p7, p8, p9⟩ | ⟨p1, p2, b, hb, p3, p4⟩
  · have k0 : (0 : Int32) ≤ nI c := nI_pos' (by omega)
    rw [if_pos p1, Option.bind_some]
    rw [if_neg (show ¬ zM.1 = 0 by rw [p2]; decide), show f_Mo_readings_L66 zM.2.1 zM.2.2.2.2.2.2.2.2 fu 0 A_now = _ from m66_L _ _ 31 0 fu _ rfl (by decide), Option.bind_some]
    simp only [i0, z0', i1, z1', ↓reduceIte, p4, k0]
    unfold f_Log_copy f_Text_wipe f_History_wipe f_Shelf_wipe f_Seen_wipe f_TR_outdateAll f_Thinning_outdate f_Survey_outdate
    rw [show f_Log_copy_L2 zX.2.2.2.2.2.2.2.2.2.2.2.1 zX.2.2.2.2.2.2.2.2.2.2.2.2 fu 0 A_log_times A_log_values = _ from copy_L _ _ 14 0 fu _ _ rfl (by decide)]
    simp only [Option.bind_some]
    have hn' := p5.1
    refine ⟨_, _, rfl, rfl, ?_, ⟨0, by omega, rfl, rfl, fun j hj => absurd hj (by omega)⟩, ⟨n', p', d', LW_congr p5 (fun j hj => ?_), p6, p7, p8, ?_⟩, ?_, ?_, Or.inl rfl, ?_, Or.inl rfl⟩
    · show nI c = zM.2.1
      rw [← p3, p4]
    · simp only [Nat.zero_le, true_and, show j < 14 by omega, ↓reduceIte, and_self]
    · refine ⟨p9.1, p9.2.1, p9.2.2.1, fun j hj => ?_⟩
      have := p9.2.2.2 j hj
      simp only [Nat.zero_le, true_and, show j < 14 by omega, show 3 + j < 31 by omega, show 17 + j < 31 by omega, ↓reduceIte]
      exact this
    · obtain ⟨a, m, a1, a2, a3, a4, a5, a6, a7, a8⟩ := hHi
      exact ⟨a, 0, a1, by omega, a3, a4, rfl, rfl, a7, fun r hr => absurd hr (by omega)⟩
    · refine ⟨hI.1, fun s hs => Or.inr ⟨?_, ?_⟩⟩
      · rcases (show s = 0 ∨ s = 1 by omega) with rfl | rfl
        · show upd (upd A_isKept 0 (vp_nar .boolean 0)) 1 (vp_nar .boolean 0) 0 = 0
          rw [upd_at, if_neg (by omega), upd_at, if_pos rfl]; rfl
        · show upd (upd A_isKept 0 (vp_nar .boolean 0)) 1 (vp_nar .boolean 0) 1 = 0
          rw [upd_at, if_pos rfl]; rfl
      · rw [bitAt_bt _ (by omega), b_0]; rfl
    · refine ⟨0, by omega, rfl, rfl, fun r hr => absurd hr (by omega), fun k hk => ⟨⟨fun q => ?_, ?_⟩, ⟨fun q => ?_, ?_⟩⟩⟩
      · have : bt 0 k = true := q
        rw [b_0] at this; cases this
      · rintro ⟨r, hr, _⟩; omega
      · have : bt 0 k = true := q
        rw [b_0] at this; cases this
      · rintro ⟨r, hr, _⟩; omega
  · rw [if_neg (by rw [p1]; decide), if_pos p1, Option.bind_some]
    simp only [p2, ↓reduceIte, p3, p4]
    rw [if_neg (m10_neg (by omega))]
    exact ⟨_, _, rfl, rfl, rfl, h⟩

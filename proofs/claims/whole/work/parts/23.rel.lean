/-! ===== what holds between the class's cells and the reference's (pure) ===== -/
def TextR (len : Int32) (le : Nat → Int32) (lm : Int32) (tx : Nat → Int32) : Prop :=
  ∃ n : Nat, n ≤ 120 ∧ len = nI n ∧ lm = nI n ∧ ∀ j : Nat, j < n → le j = tx j ∧ ∃ c : Nat, c < 256 ∧ tx j = nI c
/-- a log of n readings, with times t, values v (-9: unknown), promise p, delay d -/
def LW (n p d : Nat) (t v : Nat → Int32) : Prop :=
  n ≤ 14 ∧ p ≤ 99 ∧ 1 ≤ d ∧ d ≤ 14 ∧ (∀ j : Nat, j < n → 0 ≤ (t j).toInt ∧ (t j).toInt ≤ 999) ∧ (∀ i j : Nat, i < j → j < n → (t i).toInt < (t j).toInt) ∧ (∀ j : Nat, j < n → v j = -9 ∨ (0 ≤ (v j).toInt ∧ (v j).toInt ≤ 999))
/-- a row of the reference's layout (many, promise, delay, 14 times, 14 values) is that log -/
def RowIs (r : Nat → Int32) (n p d : Nat) (t v : Nat → Int32) : Prop :=
  r 0 = nI n ∧ r 1 = nI p ∧ r 2 = nI d ∧ ∀ j : Nat, j < n → r (3 + j) = t j ∧ r (17 + j) = v j
def LogR (size promise delay : Int32) (t v : Nat → Int32) (now : Nat → Int32) : Prop :=
  ∃ n p d : Nat, LW n p d t v ∧ size = nI n ∧ promise = nI p ∧ delay = nI d ∧ RowIs now n p d t v
/-- two rows of that layout tell one log -/
def RowR (c u : Nat → Int32) : Prop := ∃ n p d : Nat, LW n p d (fun j => c (3 + j)) (fun j => c (17 + j)) ∧ c 0 = nI n ∧ c 1 = nI p ∧ c 2 = nI d ∧ RowIs u n p d (fun j => c (3 + j)) (fun j => c (17 + j))
def HistR (next size places filled : Int32) (cells : Nat → Int32) (undoMany undoAt : Int32) (undos : Nat → Int32) : Prop :=
  ∃ a m : Nat, a < 10 ∧ m ≤ 10 ∧ next = nI a ∧ undoAt = nI a ∧ size = nI m ∧ undoMany = nI m ∧ places = 10 ∧
    ∀ r : Nat, r < m → f_TR_bitAt filled (nI ((a + 9 - r) % 10)) = 1 ∧ RowR (fun j => cells (31 * ((a + 9 - r) % 10) + j)) (fun j => undos (31 * ((a + 9 - r) % 10) + j))
def ImgR (places filled : Int32) (cells : Nat → Int32) (isKept kept : Nat → Int32) : Prop :=
  places = 2 ∧ ∀ s : Nat, s < 2 → (isKept s = 1 ∧ f_TR_bitAt filled (nI s) = 1 ∧ RowR (fun j => cells (31 * s + j)) (fun j => kept (31 * s + j))) ∨ (isKept s = 0 ∧ f_TR_bitAt filled (nI s) = 0)
def SeenR (size kept dropped : Int32) (seenMany : Int32) (seen seenAs : Nat → Int32) : Prop :=
  ∃ m : Nat, m ≤ 6 ∧ size = nI m ∧ seenMany = nI m ∧ (∀ r : Nat, r < m → (∃ k : Nat, k < 14 ∧ seen r = nI k) ∧ (seenAs r = 0 ∨ seenAs r = 1)) ∧
    ∀ k : Nat, k < 32 → (kept.toBitVec.getLsbD k = true ↔ ∃ r : Nat, r < m ∧ seen r = nI k ∧ seenAs r = 1) ∧ (dropped.toBitVec.getLsbD k = true ↔ ∃ r : Nat, r < m ∧ seen r = nI k ∧ seenAs r = 0)
/-- which ones are known -/
def Kn (n : Nat) (v : Nat → Int32) (k : Nat) : Bool := decide (k < n ∧ v k ≠ -9)
/-- the time between; how far k is apart from the line of i and j, times that -/
def Sp (t : Nat → Int32) (i j : Nat) : Nat := ((t j).toInt - (t i).toInt).toNat
def Of (t v : Nat → Int32) (i k j : Nat) : Nat := (((v k).toInt - (v i).toInt) * ((t j).toInt - (t i).toInt) - ((v j).toInt - (v i).toInt) * ((t k).toInt - (t i).toInt)).natAbs
def Holds (t v : Nat → Int32) (p : Nat) (i j : Nat) : Prop := ∀ k : Nat, i < k → k < j → Of t v i k j ≤ p * Sp t i j
/-- what was worked out and isn't outdated is as the reference would answer -/
def ThinR (n : Nat) (v t : Nat → Int32) (stretches : Int32) (stretch needs : Nat → Int32) (isOutdated pieces doorMask leastMask : Int32) (piece sent : Nat → Int32) (now : Nat → Int32) : Prop :=
  isOutdated = 1 ∨ (isOutdated = 0 ∧
    f_Mo_stretches now = some stretches ∧ (∀ k : Nat, k < n → f_Mo_stretchOf now (nI k) = some (stretch k)) ∧
    (∀ i j : Nat, i < j → j < n → (∀ k : Nat, i ≤ k → k ≤ j → Kn n v k = true) → ∀ p : Nat, p ≤ 300 → (needs (14 * i + j) ≤ nI p ↔ Holds t v p i j)) ∧
    f_Mo_door now (now 1) = some doorMask ∧
    (∀ k : Nat, k < n → f_Mo_has doorMask (nI k) = 0 → sent k = -9) ∧ (∀ k : Nat, k < n → f_Mo_has doorMask (nI k) = 1 → f_Mo_sentAt now doorMask (nI k) = some (sent k)) ∧
    (∀ fw : Nat → Int32, ∃ fw' : Nat → Int32, f_Mo_least now fw = some (leastMask, fw')) ∧
    (∀ gu gl : Int64, ∃ (set : Int32) (gu' gl' : Int64), f_Mo_pieces gu gl now = some (set, gu', gl') ∧ f_Mo_bits set = some pieces ∧
      ∀ k : Nat, k < n → piece k = -9 ∧ Kn n v k = false ∨ Kn n v k = true ∧ f_Mo_bits (set &&& (((2 : Int32) <<< (nI k &&& 31)) - 1)) = some (piece k + 1)))
def SurvR (isOutdated : Int32) (doorMasks : Nat → Int32) (now : Nat → Int32) : Prop :=
  isOutdated = 1 ∨ (isOutdated = 0 ∧ ∀ p : Nat, p < 100 → f_Mo_door now (nI p) = some (doorMasks p))
def Rel (v_text_length : Int32) (A_text_letters : Nat → Int32) (v_log_size v_log_promise v_log_delay : Int32) (A_log_times A_log_values : Nat → Int32) (v_history_next v_history_size v_history_ring_places v_history_ring_filled : Int32) (A_history_ring_cells : Nat → Int32) (v_images_places v_images_filled : Int32) (A_images_cells : Nat → Int32) (v_lines_stretches : Int32) (A_lines_stretch A_lines_needs : Nat → Int32) (v_thinning_isOutdated v_thinning_pieces v_thinning_doorMask v_thinning_leastMask : Int32) (A_thinning_piece A_thinning_sent : Nat → Int32) (v_seen_size v_seen_keptMask v_seen_droppedMask v_survey_isOutdated : Int32) (A_survey_doorMasks : Nat → Int32)
    (v_undoMany v_undoAt v_seenMany v_letterMany : Int32) (A_now A_undos A_seen A_seenAs A_isKept A_kept A_text : Nat → Int32) : Prop :=
  TextR v_text_length A_text_letters v_letterMany A_text ∧ LogR v_log_size v_log_promise v_log_delay A_log_times A_log_values A_now ∧
  HistR v_history_next v_history_size v_history_ring_places v_history_ring_filled A_history_ring_cells v_undoMany v_undoAt A_undos ∧
  ImgR v_images_places v_images_filled A_images_cells A_isKept A_kept ∧
  ThinR v_log_size.toNatClampNeg A_log_values A_log_times v_lines_stretches A_lines_stretch A_lines_needs v_thinning_isOutdated v_thinning_pieces v_thinning_doorMask v_thinning_leastMask A_thinning_piece A_thinning_sent A_now ∧
  SeenR v_seen_size v_seen_keptMask v_seen_droppedMask v_seenMany A_seen A_seenAs ∧ SurvR v_survey_isOutdated A_survey_doorMasks A_now

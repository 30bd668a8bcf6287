/-! ===== pure: the text's tokens ===== -/
def TX (L : Nat) (le tx : Nat → Int32) : Prop := L ≤ 120 ∧ ∀ j : Nat, j < L → le j = tx j ∧ ∃ c : Nat, c < 256 ∧ tx j = nI c
def Bl (tx : Nat → Int32) : Nat → Nat → Nat
  | 0, k => k
  | m + 1, k => if tx k = 32 then Bl tx m (k + 1) else k
theorem Bl_le (tx : Nat → Int32) : ∀ (m k : Nat), k ≤ Bl tx m k ∧ Bl tx m k ≤ k + m := by
  intro m
  induction m with
  | zero => intro k; exact ⟨Nat.le_refl _, Nat.le_refl _⟩
  | succ m ih =>
    intro k
    unfold Bl
    split
    · have := ih (k + 1); omega
    · omega
theorem Bl_stop (tx : Nat → Int32) : ∀ (m k : Nat), Bl tx m k = k + m ∨ ¬ tx (Bl tx m k) = 32 := by
  intro m
  induction m with
  | zero => intro k; exact Or.inl rfl
  | succ m ih =>
    intro k
    unfold Bl
    split
    · rcases ih (k + 1) with e | e
      · left; omega
      · exact Or.inr e
    · rename_i c; exact Or.inr c
theorem Bl_idem (tx : Nat → Int32) {L a : Nat} (ha : a ≤ L) : Bl tx (L - Bl tx (L - a) a) (Bl tx (L - a) a) = Bl tx (L - a) a := by
  have h1 := Bl_le tx (L - a) a
  rcases Bl_stop tx (L - a) a with e | e
  · have : L - Bl tx (L - a) a = 0 := by omega
    rw [this]; rfl
  · generalize Bl tx (L - a) a = r at *
    rcases Nat.eq_zero_or_pos (L - r) with q | q
    · rw [q]; rfl
    · obtain ⟨m, hm⟩ : ∃ m, L - r = m + 1 := ⟨L - r - 1, by omega⟩
      rw [hm]; unfold Bl; rw [if_neg e]
theorem nI_tn {c : Nat} (hc : c < 256) : okC (nI c) = true := by
  unfold okC
  have h : ∀ c : Nat, c < 256 → decide ((nI c).toUInt32.toUInt16.toUInt32.toInt32 = nI c) = true := by decide +kernel
  exact h c hc
theorem blX {L : Nat} {le tx : Nat → Int32} (h : TX L le tx) : ∀ (m k f : Nat), k + m = L → m < f → f_Parser_readToken_L0 (nI L) le f (nI k) = some (nI (Bl tx m k)) := by
  obtain ⟨hL, hT⟩ := h
  intro m
  induction m with
  | zero =>
    intro k f hk hf
    obtain ⟨f, rfl⟩ : ∃ z, f = z + 1 := ⟨f - 1, by omega⟩
    rw [f_Parser_readToken_L0_s]
    by_cases c : (120 : Int32) ≤ nI k
    · rw [if_pos c]; rfl
    · rw [if_neg c]
      have e : f_Text_isBlank (nI L) le (nI k) = some 0 := by
        unfold f_Text_isBlank
        rw [if_neg (nI_pos (by omega)), if_pos (nI_le (by omega) (by omega))]
      rw [e]; rfl
  | succ m ih =>
    intro k f hk hf
    obtain ⟨f, rfl⟩ : ∃ z, f = z + 1 := ⟨f - 1, by omega⟩
    have ek : nI k + 1 = nI (k + 1) := by rw [l1, nI_add]
    have e : f_Text_isBlank (nI L) le (nI k) = some (if tx k = 32 then 1 else 0) := by
      unfold f_Text_isBlank
      rw [if_neg (nI_pos (by omega)), if_neg (nI_ge (by omega) (by omega)), inB_nI (show k < 120 by omega) (by omega), if_pos rfl, nI_clamp (by omega), (hT k (by omega)).1]
      split <;> rfl
    rw [f_Parser_readToken_L0_s, if_neg (show ¬ (120 : Int32) ≤ nI k from nI_ge (a := k) (b := 120) (by omega) (by omega)), e, Option.bind_some, ek]
    unfold Bl
    by_cases c : tx k = 32
    · simp only [c, ↓reduceIte, n10]; exact ih _ _ (by omega) (by omega)
    · simp only [c, ↓reduceIte]
theorem blM {L : Nat} {le tx : Nat → Int32} (h : TX L le tx) : ∀ (m k f : Nat), k + m = L → m < f → f_Mo_blanks_L0 (nI L) tx f (nI k) = some (nI (Bl tx m k)) := by
  obtain ⟨hL, hT⟩ := h
  intro m
  induction m with
  | zero =>
    intro k f hk hf
    obtain ⟨f, rfl⟩ : ∃ z, f = z + 1 := ⟨f - 1, by omega⟩
    rw [f_Mo_blanks_L0_s, if_pos (nI_le (by omega) (by omega))]
    rfl
  | succ m ih =>
    intro k f hk hf
    obtain ⟨f, rfl⟩ : ∃ z, f = z + 1 := ⟨f - 1, by omega⟩
    have ek : nI k + 1 = nI (k + 1) := by rw [l1, nI_add]
    rw [f_Mo_blanks_L0_s, if_neg (nI_ge (by omega) (by omega)), inB_nI (show k < 120 by omega) (by omega), if_pos rfl, nI_clamp (by omega), ek]
    unfold Bl
    by_cases c : tx k = 32
    · simp only [c, ↓reduceIte]; exact ih _ _ (by omega) (by omega)
    · simp only [c, ↓reduceIte]
theorem blanksM {L : Nat} {le tx : Nat → Int32} (h : TX L le tx) {a : Nat} (ha : a ≤ L) : f_Mo_blanks (nI L) (nI a) tx = some (nI (Bl tx (L - a) a)) := by
  unfold f_Mo_blanks
  rw [blM h (L - a) a fu (by omega) (by have := h.1; unfold fu; omega)]
  rfl
theorem digX {L : Nat} {le tx : Nat → Int32} (h : TX L le tx) {q : Nat} (hq : q < L) : f_Text_isDigit (nI L) le (nI q) = some (if tx q < 48 ∨ 57 < tx q then 0 else 1) := by
  obtain ⟨hL, hT⟩ := h
  unfold f_Text_isDigit
  simp only [nI_pos (show q < 2 ^ 31 by omega), nI_le' (show L < 2 ^ 31 by omega) (show q < 2 ^ 31 by omega), show ¬ L ≤ q by omega, ↓reduceIte, inB_nI (show q < 120 by omega) (by omega), nI_clamp (show q < 2 ^ 31 by omega), (hT q hq).1]
  by_cases c : tx q < 48
  · simp only [c, true_or, ↓reduceIte]
  · by_cases c2 : 57 < tx q
    · simp only [c, c2, or_true, ↓reduceIte]
    · simp only [c, c2, or_self, ↓reduceIte]
theorem digX_end {L : Nat} {le tx : Nat → Int32} (h : TX L le tx) : f_Text_isDigit (nI L) le (nI L) = some 0 := by
  obtain ⟨hL, hT⟩ := h
  unfold f_Text_isDigit
  rw [if_neg (nI_pos (by omega)), if_pos (nI_le (by omega) (by omega))]
theorem digM {L : Nat} {le tx : Nat → Int32} (h : TX L le tx) {q : Nat} (hq : q < L) : f_Mo_isFigure (nI L) (nI q) tx = some (if tx q < 48 ∨ 57 < tx q then 0 else 1) := by
  obtain ⟨hL, hT⟩ := h
  unfold f_Mo_isFigure f_Mo_in
  simp only [nI_le' (show L < 2 ^ 31 by omega) (show q < 2 ^ 31 by omega), show ¬ L ≤ q by omega, ↓reduceIte, inB_nI (show q < 120 by omega) (by omega), nI_clamp (show q < 2 ^ 31 by omega)]
  by_cases c : tx q < 48
  · simp only [c, true_or, ↓reduceIte]
  · by_cases c2 : 57 < tx q
    · simp only [c, c2, or_true, ↓reduceIte]
    · simp only [c, c2, or_self, ↓reduceIte, n10]
theorem digM_end {L : Nat} {le tx : Nat → Int32} (h : TX L le tx) : f_Mo_isFigure (nI L) (nI L) tx = some 0 := by
  obtain ⟨hL, hT⟩ := h
  unfold f_Mo_isFigure
  rw [if_pos (nI_le (by omega) (by omega))]
theorem letX {L : Nat} {le tx : Nat → Int32} (h : TX L le tx) {q : Nat} (hq : q < L) : f_Text_letterAt (nI L) le (nI q) = some (tx q) := by
  obtain ⟨hL, hT⟩ := h
  obtain ⟨e, c, hc, ec⟩ := hT q hq
  unfold f_Text_letterAt
  have ok : okC (tx q) = true := by rw [ec]; exact nI_tn hc
  simp only [nI_pos (show q < 2 ^ 31 by omega), nI_le' (show L < 2 ^ 31 by omega) (show q < 2 ^ 31 by omega), show ¬ L ≤ q by omega, ↓reduceIte, inB_nI (show q < 120 by omega) (by omega), nI_clamp (show q < 2 ^ 31 by omega), e, ok]
theorem digs {L : Nat} {le tx : Nat → Int32} (h : TX L le tx) : ∀ (m q f1 f2 v : Nat), q + m = L → m < f1 → m < f2 → v ≤ 99999 → ∃ e v' : Nat, q ≤ e ∧ e ≤ L ∧ v' ≤ 99999 ∧ f_Parser_readDigits_L5 (nI L) le f1 (nI q) (nI v) = some (nI e, nI v') ∧ f_Mo_next_L43 (nI L) tx f2 (nI q) (nI v) = some (nI e, nI v') ∧ (q < L → ¬ (tx q < 48 ∨ 57 < tx q) → q < e) := by
  have hL := h.1
  have hT := h.2
  intro m
  induction m with
  | zero =>
    intro q f1 f2 v hq hf1 hf2 hv
    obtain ⟨f1, rfl⟩ : ∃ z, f1 = z + 1 := ⟨f1 - 1, by omega⟩
    obtain ⟨f2, rfl⟩ : ∃ z, f2 = z + 1 := ⟨f2 - 1, by omega⟩
    have e : q = L := by omega
    subst e
    refine ⟨q, v, Nat.le_refl _, Nat.le_refl _, hv, ?_, ?_, fun c => by omega⟩
    · rw [f_Parser_readDigits_L5_s]
      by_cases c : (120 : Int32) ≤ nI q
      · rw [if_pos c]
      · rw [if_neg c, digX_end h]; rfl
    · rw [f_Mo_next_L43_s, digM_end h]; rfl
  | succ m ih =>
    intro q f1 f2 v hq hf1 hf2 hv
    obtain ⟨f1, rfl⟩ : ∃ z, f1 = z + 1 := ⟨f1 - 1, by omega⟩
    obtain ⟨f2, rfl⟩ : ∃ z, f2 = z + 1 := ⟨f2 - 1, by omega⟩
    have hqL : q < L := by omega
    have ek : nI q + 1 = nI (q + 1) := by rw [l1, nI_add]
    obtain ⟨-, c, hc, ec⟩ := hT q hqL
    rw [f_Parser_readDigits_L5_s, f_Mo_next_L43_s, if_neg (show ¬ (120 : Int32) ≤ nI q from nI_ge (a := q) (b := 120) (by omega) (by omega)), digX h hqL, digM h hqL, letX h hqL, ek]
    simp only [Option.bind_some, inB_nI (show q < 120 by omega) (by omega), nI_clamp (show q < 2 ^ 31 by omega), ↓reduceIte]
    by_cases d : tx q < 48 ∨ 57 < tx q
    · simp only [d, ↓reduceIte]
      exact ⟨q, v, Nat.le_refl _, by omega, hv, rfl, rfl, fun _ x => absurd trivial x⟩
    · simp only [d, ↓reduceIte, n10]
      have d1 : 48 ≤ c := by
        rcases Nat.lt_or_ge c 48 with x | x
        · exact absurd (Or.inl (by rw [ec]; exact nI_lt (b := 48) x (by omega))) d
        · exact x
      have d2 : c ≤ 57 := by
        rcases Nat.lt_or_ge 57 c with x | x
        · exact absurd (Or.inr (by rw [ec]; exact nI_lt (a := 57) x (by omega))) d
        · exact x
      by_cases b : v ≤ 9999
      · have b1 : ¬ (9999 : Int32) < nI v := nI_nlt (a := 9999) (by omega) (by omega)
        have b2 : nI v ≤ (9999 : Int32) := nI_le (b := 9999) (by omega) (by omega)
        have e1 : nI v * 10 + (tx q - 48) = nI (10 * v + (c - 48)) := by
          rw [ec, show (48 : Int32) = nI 48 from rfl, l10, pk_sub (by omega), pk_mul, nI_add, Nat.mul_comm v 10]
        have e2 : 10 * nI v + tx q - 48 = nI (10 * v + (c - 48)) := by
          rw [ec, show (48 : Int32) = nI 48 from rfl, l10, pk_mul, nI_add, pk_sub (by omega)]
          congr 1; omega
        rw [if_neg b1, if_pos b2, e1, e2]
        obtain ⟨e, v', a1, a2, a3, a4, a5, -⟩ := ih (q + 1) f1 f2 (10 * v + (c - 48)) (by omega) (by omega) (by omega) (by omega)
        exact ⟨e, v', by omega, a2, a3, a4, a5, fun _ _ => by omega⟩
      · have b1 : (9999 : Int32) < nI v := nI_lt (a := 9999) (by omega) (by omega)
        have b2 : ¬ nI v ≤ (9999 : Int32) := nI_ge (a := 9999) (by omega) (by omega)
        rw [if_pos b1, if_neg b2]
        obtain ⟨e, v', a1, a2, a3, a4, a5, -⟩ := ih (q + 1) f1 f2 v (by omega) (by omega) (by omega) hv
        exact ⟨e, v', by omega, a2, a3, a4, a5, fun _ _ => by omega⟩
def TokR (x m : Int32) : Prop := (x = 0 ∧ m = -1) ∨ (x = 1 ∧ m = 0) ∨ (x = 2 ∧ m = -2) ∨ (x = m ∧ (x = 59 ∨ x = 100 ∨ x = 112 ∨ x = 114 ∨ x = 117))
theorem kind_ok (x e b v : Int32) : ∃ kM : Int32, (if x = 112 then some (e, b, x, v) else if x = 100 then some (e, b, x, v) else if x = 114 then some (e, b, x, v) else if x = 117 then some (e, b, x, v) else if x = 59 then some (e, b, x, v) else some (e, b, (-2 : Int32), v)) = some (e, b, kM, v) ∧ TokR (f_Parser_kindOf x) kM ∧ ¬ f_Parser_kindOf x = 0 ∧ ¬ f_Parser_kindOf x = 1 := by
  unfold f_Parser_kindOf
  by_cases c1 : x = 112
  · subst c1
    exact ⟨112, rfl, Or.inr (Or.inr (Or.inr ⟨rfl, by decide⟩)), by decide, by decide⟩
  · by_cases c2 : x = 100
    · subst c2
      exact ⟨100, rfl, Or.inr (Or.inr (Or.inr ⟨rfl, by decide⟩)), by decide, by decide⟩
    · by_cases c3 : x = 114
      · subst c3
        exact ⟨114, rfl, Or.inr (Or.inr (Or.inr ⟨rfl, by decide⟩)), by decide, by decide⟩
      · by_cases c4 : x = 117
        · subst c4
          exact ⟨117, rfl, Or.inr (Or.inr (Or.inr ⟨rfl, by decide⟩)), by decide, by decide⟩
        · by_cases c5 : x = 59
          · subst c5
            exact ⟨59, rfl, Or.inr (Or.inr (Or.inr ⟨rfl, by decide⟩)), by decide, by decide⟩
          · simp only [c1, c2, c3, c4, c5, ↓reduceIte]
            exact ⟨-2, rfl, Or.inr (Or.inr (Or.inl ⟨rfl, rfl⟩)), by decide, by decide⟩
theorem tok_ok {L : Nat} {le tx : Nat → Int32} (h : TX L le tx) {a a' : Nat} (ha : a ≤ L) (ha' : a' ≤ L) (hB : Bl tx (L - a') a' = Bl tx (L - a) a) (k pl num ta tk val : Int32) :
    ∃ (b e : Nat) (kX kM nX vM : Int32), f_Parser_readToken (nI a) k pl num (nI L) le = some (nI e, kX, nI b, nX) ∧ f_Mo_next (nI L) (nI a') ta tk val tx = some (nI e, nI b, kM, vM) ∧ b = Bl tx (L - a) a ∧ a ≤ b ∧ b ≤ e ∧ e ≤ L ∧ TokR kX kM ∧ (kX = 0 ↔ b = L) ∧ (b < L → b < e) ∧ (kX = 1 → ∃ v : Nat, v ≤ 9999 ∧ nX = nI v ∧ vM = nI v) := by
  have hL := h.1
  have hb := Bl_le tx (L - a) a
  generalize hbb : Bl tx (L - a) a = b at *
  have eX : f_Parser_readToken_L0 (nI L) le fu (nI a) = some (nI b) := by rw [blX h (L - a) a fu (by omega) (by unfold fu; omega), hbb]
  have eM : f_Mo_blanks (nI L) (nI a') tx = some (nI b) := by rw [blanksM h ha', hB]
  unfold f_Parser_readToken f_Mo_next
  rw [eX, eM, Option.bind_some, Option.bind_some]
  have bL : b ≤ L := by omega
  by_cases c : b = L
  · subst c
    rw [if_neg (nI_nlt (Nat.le_refl _) (by omega)), if_pos rfl]
    exact ⟨b, b, 0, -1, num, val, rfl, rfl, rfl, hb.1, Nat.le_refl _, bL, Or.inl ⟨rfl, rfl⟩, ⟨fun _ => rfl, fun _ => rfl⟩, fun x => by omega, fun x => absurd x (by decide)⟩
  · have hbL : b < L := by omega
    have eb : nI b + 1 = nI (b + 1) := by rw [l1, nI_add]
    rw [if_pos (nI_lt hbL (by omega)), if_neg (by rw [nI_eq' (by omega) (by omega)]; exact c), digX h hbL, digM h hbL]
    simp only [Option.bind_some, inB_nI (show b < 120 by omega) (by omega), nI_clamp (show b < 2 ^ 31 by omega), ↓reduceIte, eb]
    by_cases dd : tx b < 48 ∨ 57 < tx b
    · simp only [dd, ↓reduceIte]
      rw [letX h hbL, Option.bind_some]
      obtain ⟨kM, k1, k2, k3, k4⟩ := kind_ok (tx b) (nI (b + 1)) (nI b) val
      rw [k1]
      exact ⟨b, b + 1, _, kM, num, val, rfl, rfl, rfl, hb.1, by omega, by omega, k2, ⟨fun x => absurd x k3, fun x => absurd x c⟩, fun _ => by omega, fun x => absurd x k4⟩
    · simp only [dd, ↓reduceIte, n10]
      obtain ⟨e, v, a1, a2, a3, a4, a5, a6⟩ := digs h (L - b) b fu fu 0 (by omega) (by unfold fu; omega) (by unfold fu; omega) (by omega)
      have a7 := a6 hbL dd
      have x4 : f_Parser_readDigits_L5 (nI L) le fu (nI b) 0 = some (nI e, nI v) := a4
      have x5 : f_Mo_next_L43 (nI L) tx fu (nI b) 0 = some (nI e, nI v) := a5
      unfold f_Parser_readDigits
      rw [x4, x5, letX h hbL]
      simp only [Option.bind_some]
      rw [pk_sub a1]
      have fin : ∀ (kX kM : Int32), ((kX = 1 ∧ kM = 0 ∧ v ≤ 9999) ∨ (kX = 2 ∧ kM = -2)) → ∃ (b' e' : Nat) (kX' kM' nX vM : Int32), some (nI e, kX, nI b, nI v) = some (nI e', kX', nI b', nX) ∧ some (nI e, nI b, kM, nI v) = some (nI e', nI b', kM', vM) ∧ b' = b ∧ a ≤ b' ∧ b' ≤ e' ∧ e' ≤ L ∧ TokR kX' kM' ∧ (kX' = 0 ↔ b' = L) ∧ (b' < L → b' < e') ∧ (kX' = 1 → ∃ v : Nat, v ≤ 9999 ∧ nX = nI v ∧ vM = nI v) := by
        intro kX kM hk
        refine ⟨b, e, kX, kM, nI v, nI v, rfl, rfl, rfl, hb.1, a1, a2, ?_, ?_, fun _ => a7, ?_⟩
        · rcases hk with ⟨q1, q2, _⟩ | ⟨q1, q2⟩
          · exact Or.inr (Or.inl ⟨q1, q2⟩)
          · exact Or.inr (Or.inr (Or.inl ⟨q1, q2⟩))
        · constructor
          · intro q
            rcases hk with ⟨q1, _⟩ | ⟨q1, _⟩ <;> (rw [q1] at q; exact absurd q (by decide))
          · intro q; exact absurd q c
        · intro q
          rcases hk with ⟨_, _, q1⟩ | ⟨q1, _⟩
          · exact ⟨v, q1, rfl, rfl⟩
          · rw [q1] at q; exact absurd q (by decide)
      have v1 : (nI v ≤ (9999 : Int32)) = (v ≤ 9999) := nI_le' (b := 9999) (by omega) (by omega)
      have v2 : ((9999 : Int32) < nI v) = (9999 < v) := nI_lt' (a := 9999) (by omega) (by omega)
      simp only [v1, v2]
      by_cases cv : v ≤ 9999
      · simp only [cv, ↓reduceIte, show ¬ 9999 < v by omega]
        by_cases c48 : tx b = 48
        · simp only [c48, ↓reduceIte]
          by_cases cl : nI (e - b) ≤ 1
          · simp only [cl, ↓reduceIte, Option.bind_some]; exact fin 1 0 (Or.inl ⟨rfl, rfl, cv⟩)
          · simp only [cl, ↓reduceIte, Option.bind_some]; exact fin 2 (-2) (Or.inr ⟨rfl, rfl⟩)
        · simp only [c48, ↓reduceIte, Option.bind_some]; exact fin 1 0 (Or.inl ⟨rfl, rfl, cv⟩)
      · simp only [cv, ↓reduceIte, show 9999 < v by omega]
        by_cases c48 : tx b = 48
        · simp only [c48, ↓reduceIte]
          by_cases cl : nI (e - b) ≤ 1
          · simp only [cl, ↓reduceIte, Option.bind_some]; exact fin 2 (-2) (Or.inr ⟨rfl, rfl⟩)
          · simp only [cl, ↓reduceIte, Option.bind_some]; exact fin 2 (-2) (Or.inr ⟨rfl, rfl⟩)
        · simp only [c48, ↓reduceIte, Option.bind_some]; exact fin 2 (-2) (Or.inr ⟨rfl, rfl⟩)

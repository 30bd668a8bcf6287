/-! ===== pure: lines ===== -/
theorem mul_bd {a b : Int} (ha : -1008 ≤ a ∧ a ≤ 1008) (hb : -999 ≤ b ∧ b ≤ 999) : -1006992 ≤ a * b ∧ a * b ≤ 1006992 := by
  have h : (a * b).natAbs ≤ 1008 * 999 := by
    rw [Int.natAbs_mul]
    exact Nat.mul_le_mul (by omega) (by omega)
  omega
theorem ofI_le {E : Int} (h : -1073741824 < E ∧ E < 1073741824) : (0 ≤ Int32.ofInt E) ↔ 0 ≤ E := by
  rw [Int32.le_iff_toInt_le, Int32.toInt_ofInt_of_le (by omega) (by omega)]
  rfl
theorem ofI_nat {E : Int} (h : 0 ≤ E) : Int32.ofInt E = nI E.natAbs := by
  obtain ⟨k, rfl⟩ := Int.eq_ofNat_of_zero_le h
  rfl
theorem ofI_abs {E : Int} (h : -1073741824 < E ∧ E < 1073741824) : (if 0 ≤ Int32.ofInt E then Int32.ofInt E else 0 - Int32.ofInt E) = nI E.natAbs := by
  by_cases h0 : 0 ≤ E
  · rw [if_pos ((ofI_le h).mpr h0), ofI_nat h0]
  · rw [if_neg (fun q => h0 ((ofI_le h).mp q))]
    have e : (0 : Int32) - Int32.ofInt E = Int32.ofInt (0 - E) := by rw [Int32.ofInt_sub]; rfl
    rw [e, ofI_nat (by omega)]
    congr 1; omega
theorem ofI_abs2 {E : Int} (h : -1073741824 < E ∧ E < 1073741824) : (if 0 ≤ Int32.ofInt E then some (Int32.ofInt E) else some (-Int32.ofInt E)) = some (nI E.natAbs) := by
  have h1 := ofI_abs h
  by_cases h0 : 0 ≤ Int32.ofInt E
  · rw [if_pos h0] at h1 ⊢; rw [h1]
  · rw [if_neg h0] at h1 ⊢
    rw [← h1]; congr 1
theorem LW.t {n p d : Nat} {T V : Nat → Int32} (h : LW n p d T V) {j : Nat} (hj : j < n) : 0 ≤ (T j).toInt ∧ (T j).toInt ≤ 999 := h.2.2.2.2.1 j hj
theorem LW.v {n p d : Nat} {T V : Nat → Int32} (h : LW n p d T V) {j : Nat} (hj : j < n) : -9 ≤ (V j).toInt ∧ (V j).toInt ≤ 999 := by
  rcases h.2.2.2.2.2.2 j hj with h1 | h1
  · rw [h1]; decide
  · omega
theorem LW.lt {n p d : Nat} {T V : Nat → Int32} (h : LW n p d T V) {i j : Nat} (hij : i < j) (hj : j < n) : (T i).toInt < (T j).toInt := h.2.2.2.2.2.1 i j hij hj
theorem Sp_pos {n p d : Nat} {T V : Nat → Int32} (h : LW n p d T V) {i j : Nat} (hij : i < j) (hj : j < n) : 1 ≤ Sp T i j ∧ Sp T i j ≤ 999 ∧ ((Sp T i j : Nat) : Int) = (T j).toInt - (T i).toInt := by
  have h1 := h.lt hij hj
  have h2 := h.t hj
  have h3 := h.t (show i < n by omega)
  unfold Sp
  omega
theorem Of_bd {n p d : Nat} {T V : Nat → Int32} (h : LW n p d T V) {i k j : Nat} (hi : i < n) (hk : k < n) (hj : j < n) :
    -2013984 ≤ ((V k).toInt - (V i).toInt) * ((T j).toInt - (T i).toInt) - ((V j).toInt - (V i).toInt) * ((T k).toInt - (T i).toInt) ∧ ((V k).toInt - (V i).toInt) * ((T j).toInt - (T i).toInt) - ((V j).toInt - (V i).toInt) * ((T k).toInt - (T i).toInt) ≤ 2013984 := by
  have a1 := h.v hi; have a2 := h.v hk; have a3 := h.v hj
  have b1 := h.t hi; have b2 := h.t hk; have b3 := h.t hj
  have c1 := mul_bd (a := (V k).toInt - (V i).toInt) (b := (T j).toInt - (T i).toInt) (by omega) (by omega)
  have c2 := mul_bd (a := (V j).toInt - (V i).toInt) (b := (T k).toInt - (T i).toInt) (by omega) (by omega)
  omega
theorem Of_le {n p d : Nat} {T V : Nat → Int32} (h : LW n p d T V) {i k j : Nat} (hi : i < n) (hk : k < n) (hj : j < n) : Of T V i k j ≤ 2013984 := by
  have := Of_bd h hi hk hj
  unfold Of
  omega
theorem hasN {n j : Nat} (hj : j < n) (hn : n ≤ 14) : f_Log_has (nI n) (nI j) = 1 := by
  unfold f_Log_has
  rw [if_neg (nI_pos (by omega)), if_neg (nI_ge hj (by omega))]
theorem timeN {n j : Nat} (hj : j < n) (hn : n ≤ 14) (T : Nat → Int32) : f_Log_timeAt (nI n) T (nI j) = some (T j) := by
  unfold f_Log_timeAt
  rw [hasN hj hn, if_neg (by decide), inB_nI (by omega) (by omega), if_pos rfl, nI_clamp (by omega)]
theorem valueN {n j : Nat} (hj : j < n) (hn : n ≤ 14) (T : Nat → Int32) : f_Log_valueAt (nI n) T (nI j) = some (T j) := by
  unfold f_Log_valueAt
  rw [hasN hj hn, if_neg (by decide), inB_nI (by omega) (by omega), if_pos rfl, nI_clamp (by omega)]
theorem offX {n p d : Nat} {T V : Nat → Int32} (h : LW n p d T V) {i k j : Nat} (hi : i < n) (hk : k < n) (hj : j < n) : f_Lines_offset (nI n) T V (nI i) (nI k) (nI j) = some (nI (Of T V i k j)) := by
  have hn := h.1
  unfold f_Lines_offset
  simp (disch := omega) only [hasN hi hn, hasN hk hn, hasN hj hn, n10, ↓reduceIte, inB_nI, nI_clamp]
  congr 1
  have e : ∀ q : Nat → Int32, ∀ a, q a = Int32.ofInt (q a).toInt := fun q a => (Int32.ofInt_toInt _).symm
  have E : ((V k - V i) * (T j - T i)) - ((V j - V i) * (T k - T i)) = Int32.ofInt (((V k).toInt - (V i).toInt) * ((T j).toInt - (T i).toInt) - ((V j).toInt - (V i).toInt) * ((T k).toInt - (T i).toInt)) := by
    simp only [Int32.ofInt_sub, Int32.ofInt_mul, Int32.ofInt_toInt]
  rw [E, ofI_abs (by have := Of_bd h hi hk hj; omega)]
  rfl
theorem offM {n p d : Nat} {T V now : Nat → Int32} (h : LW n p d T V) (hr : RowIs now n p d T V) {i k j : Nat} (hi : i < n) (hk : k < n) (hj : j < n) : f_Mo_apartBy now (nI i) (nI k) (nI j) = some (nI (Of T V i k j)) := by
  have hn := h.1
  obtain ⟨-, -, -, r3⟩ := hr
  unfold f_Mo_apartBy
  simp (disch := omega) only [l3, l17, nI_add, inB_nI, ↓reduceIte, nI_clamp, (r3 i hi).1, (r3 i hi).2, (r3 k hk).1, (r3 k hk).2, (r3 j hj).1, (r3 j hj).2]
  have E : ((V k * (T j - T i)) - (V i * (T j - T k))) - (V j * (T k - T i)) = Int32.ofInt (((V k).toInt - (V i).toInt) * ((T j).toInt - (T i).toInt) - ((V j).toInt - (V i).toInt) * ((T k).toInt - (T i).toInt)) := by
    have e1 : ((V k).toInt - (V i).toInt) * ((T j).toInt - (T i).toInt) - ((V j).toInt - (V i).toInt) * ((T k).toInt - (T i).toInt) = ((V k).toInt * ((T j).toInt - (T i).toInt) - (V i).toInt * ((T j).toInt - (T k).toInt)) - (V j).toInt * ((T k).toInt - (T i).toInt) := by grind
    rw [e1]
    simp only [Int32.ofInt_sub, Int32.ofInt_mul, Int32.ofInt_toInt]
  rw [E, ofI_abs2 (by have := Of_bd h hi hk hj; omega)]
  rfl
theorem spanX {n p d : Nat} {T V : Nat → Int32} (h : LW n p d T V) {i j : Nat} (hij : i < j) (hj : j < n) : f_Lines_span (nI n) T (nI i) (nI j) = some (nI (Sp T i j)) := by
  have hn := h.1
  unfold f_Lines_span
  rw [timeN hj hn, timeN (show i < n by omega) hn, Option.bind_some, Option.bind_some]
  have h1 := Sp_pos h hij hj
  have e : T j - T i = Int32.ofInt ((T j).toInt - (T i).toInt) := by simp only [Int32.ofInt_sub, Int32.ofInt_toInt]
  rw [e, ← h1.2.2]
  rfl
theorem spanM {n p d : Nat} {T V now : Nat → Int32} (h : LW n p d T V) (hr : RowIs now n p d T V) {i j : Nat} (hij : i < j) (hj : j < n) : now (3 + j) - now (3 + i) = nI (Sp T i j) := by
  obtain ⟨-, -, -, r3⟩ := hr
  rw [(r3 j hj).1, (r3 i (by omega)).1]
  have h1 := Sp_pos h hij hj
  have e : T j - T i = Int32.ofInt ((T j).toInt - (T i).toInt) := by simp only [Int32.ofInt_sub, Int32.ofInt_toInt]
  rw [e, ← h1.2.2]
  rfl
/-- the first one between that is apart by more than p -/
def wnS (T V : Nat → Int32) (p i j : Nat) : Nat → Nat → Int32
  | 0, _ => -9
  | m + 1, k => if Of T V i k j ≤ p * Sp T i j then wnS T V p i j m (k + 1) else nI k
def WN (T V : Nat → Int32) (p i j : Nat) : Int32 := wnS T V p i j (j - (i + 1)) (i + 1)
theorem wnS_m9 (T V : Nat → Int32) (p i j : Nat) : ∀ (m k : Nat), k + m < 2 ^ 31 → (wnS T V p i j m k = -9 ↔ ∀ q : Nat, k ≤ q → q < k + m → Of T V i q j ≤ p * Sp T i j) := by
  intro m
  induction m with
  | zero => intro k hk; exact ⟨fun _ q h1 h2 => absurd h1 (by omega), fun _ => rfl⟩
  | succ m ih =>
    intro k hk
    unfold wnS
    by_cases h : Of T V i k j ≤ p * Sp T i j
    · rw [if_pos h, ih (k + 1) (by omega)]
      constructor
      · intro hq q h1 h2
        rcases Nat.eq_or_lt_of_le h1 with h3 | h3
        · subst h3; exact h
        · exact hq q (by omega) (by omega)
      · intro hq q h1 h2; exact hq q (by omega) (by omega)
    · rw [if_neg h]
      constructor
      · intro e
        exfalso
        have h1 : (nI k).toInt = (k : Int) := nI_toInt (by omega)
        rw [e] at h1
        have : (-9 : Int32).toInt = -9 := by decide
        omega
      · intro hq; exact absurd (hq k (Nat.le_refl _) (by omega)) h
theorem WN_m9 {T V : Nat → Int32} {p i j : Nat} (hij : i < j) (hj : j < 14) : WN T V p i j = -9 ↔ Holds T V p i j := by
  unfold WN Holds
  rw [wnS_m9 _ _ _ _ _ _ _ (by omega)]
  constructor
  · intro h k h1 h2; exact h k (by omega) (by omega)
  · intro h k h1 h2; exact h k (by omega) (by omega)
theorem whyM_L {n pp d p : Nat} {T V now : Nat → Int32} (h : LW n pp d T V) (hr : RowIs now n pp d T V) (hp : p ≤ 300) {i j : Nat} (hij : i < j) (hj : j < n) : ∀ (m k f : Nat), k + m = j → i < k → m < f →
    (f_Mo_whyNot_L5 (nI i) (nI j) (nI p) now f (nI k)).bind (fun z1 => if z1.1 = 0 then some z1.2 else some (-9 : Int32)) = some (wnS T V p i j m k) := by
  have hn := h.1
  have hs := Sp_pos h hij hj
  have hps : p * Sp T i j ≤ 300 * 999 := Nat.mul_le_mul hp hs.2.1
  intro m
  induction m with
  | zero =>
    intro k f hk hik hf
    obtain ⟨f, rfl⟩ : ∃ z, f = z + 1 := ⟨f - 1, by omega⟩
    rw [f_Mo_whyNot_L5_s, if_pos (nI_le (by omega) (by omega))]
    rfl
  | succ m ih =>
    intro k f hk hik hf
    obtain ⟨f, rfl⟩ : ∃ z, f = z + 1 := ⟨f - 1, by omega⟩
    have ho := Of_le h (show i < n by omega) (show k < n by omega) hj
    rw [f_Mo_whyNot_L5_s, if_neg (nI_ge (by omega) (by omega)), offM h hr (by omega) (by omega) hj]
    simp (disch := omega) only [Option.bind_some, l3, l1, nI_add, inB_nI, ↓reduceIte, nI_clamp, spanM h hr hij hj, pk_mul, nI_leI]
    unfold wnS
    by_cases hc : Of T V i k j ≤ p * Sp T i j
    · rw [if_pos hc, if_pos hc]; exact ih (k + 1) f (by omega) (by omega) (by omega)
    · rw [if_neg hc, if_neg hc]; rfl
theorem whyM {n pp d p : Nat} {T V now : Nat → Int32} (h : LW n pp d T V) (hr : RowIs now n pp d T V) (hp : p ≤ 300) {i j : Nat} (hij : i < j) (hj : j < n) : f_Mo_whyNot now (nI i) (nI j) (nI p) = some (WN T V p i j) := by
  unfold f_Mo_whyNot
  rw [l1, nI_add]
  exact whyM_L h hr hp hij hj _ _ fu (by omega) (by omega) (by have := h.1; unfold fu; omega)
theorem whyX_L {n pp d p : Nat} {T V : Nat → Int32} (h : LW n pp d T V) (hp : p ≤ 300) {i j : Nat} (hij : i < j) (hj : j < n) : ∀ (m k f : Nat), k + m = j → i < k → m < f →
    (f_Lines_firstBeyond_L15 (nI i) (nI j) (nI (p * Sp T i j)) (nI n) T V f (nI k)).bind (fun z2 => if z2.1 = 0 then some z2.2 else some (-9 : Int32)) = some (wnS T V p i j m k) := by
  have hn := h.1
  have hs := Sp_pos h hij hj
  have hps : p * Sp T i j ≤ 300 * 999 := Nat.mul_le_mul hp hs.2.1
  intro m
  induction m with
  | zero =>
    intro k f hk hik hf
    obtain ⟨f, rfl⟩ : ∃ z, f = z + 1 := ⟨f - 1, by omega⟩
    rw [f_Lines_firstBeyond_L15_s, if_pos (nI_le (by omega) (by omega))]
    rfl
  | succ m ih =>
    intro k f hk hik hf
    obtain ⟨f, rfl⟩ : ∃ z, f = z + 1 := ⟨f - 1, by omega⟩
    have ho := Of_le h (show i < n by omega) (show k < n by omega) hj
    rw [f_Lines_firstBeyond_L15_s, if_neg (nI_ge (by omega) (by omega)), offX h (by omega) (by omega) hj]
    simp (disch := omega) only [Option.bind_some, l1, nI_add, nI_leI]
    unfold wnS
    by_cases hc : Of T V i k j ≤ p * Sp T i j
    · rw [if_pos hc, if_pos hc]; exact ih (k + 1) f (by omega) (by omega) (by omega)
    · rw [if_neg hc, if_neg hc]; rfl
theorem whyX {n pp d p : Nat} {T V : Nat → Int32} (h : LW n pp d T V) (hp : p ≤ 300) {i j : Nat} (hij : i < j) (hj : j < n) : f_Lines_firstBeyond (nI n) T V (nI i) (nI j) (nI p) = some (WN T V p i j) := by
  unfold f_Lines_firstBeyond
  rw [spanX h hij hj, Option.bind_some, pk_mul, l1, nI_add]
  exact whyX_L h hp hij hj _ _ fu (by omega) (by omega) (by have := h.1; unfold fu; omega)

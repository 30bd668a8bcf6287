/-! ===== pure: first, last; stretches; what a line needs ===== -/
def Fs (n : Nat) (V : Nat → Int32) (k : Nat) : Bool := Kn n V k && !(decide (0 < k) && Kn n V (k - 1))
def Ls (n : Nat) (V : Nat → Int32) (k : Nat) : Bool := Kn n V k && !Kn n V (k + 1)
theorem b2_0 (b : Bool) : (b2 b = 0) = (b = false) := by cases b <;> simp [b2]
theorem Kn_lt {n : Nat} {V : Nat → Int32} {k : Nat} (h : Kn n V k = true) : k < n := (of_decide_eq_true h).1
theorem nge14 {k : Nat} (h : k < 14) : ¬ (14 : Int32) ≤ nI k := nI_ge (a := k) (b := 14) h (by omega)
theorem fsX {n : Nat} (hn : n ≤ 14) (V : Nat → Int32) {k : Nat} (hk : k < 100) : f_Log_isFirst (nI n) V (nI k) = some (b2 (Fs n V k)) := by
  unfold f_Log_isFirst Fs
  rw [knX hn V (by omega), Option.bind_some]
  simp only [b2_0]
  cases h : Kn n V k
  · simp [b2]
  · rcases Nat.eq_zero_or_pos k with h0 | h0
    · subst h0
      rw [knX_m1]
      simp [b2]
    · rw [l1, pk_sub (by omega), knX hn V (by omega), Option.bind_some]
      simp only [b2_0]
      cases h2 : Kn n V (k - 1) <;> simp [b2, h0] <;> rfl
theorem fsM {n p d : Nat} (hn : n ≤ 14) {T V now : Nat → Int32} (hr : RowIs now n p d T V) {k : Nat} (hk : k < 100) : f_Mo_isFirst now (nI k) = some (b2 (Fs n V k)) := by
  unfold f_Mo_isFirst Fs
  rw [knM hn hr (by omega), Option.bind_some]
  simp only [b2_0]
  cases h : Kn n V k
  · simp [b2]
  · rcases Nat.eq_zero_or_pos k with h0 | h0
    · subst h0
      rw [knM_m1]
      simp [b2]
    · rw [l1, pk_sub (by omega), knM hn hr (by omega), Option.bind_some]
      simp only [b2_0]
      cases h2 : Kn n V (k - 1) <;> simp [b2, h0] <;> rfl
theorem lsX {n : Nat} (hn : n ≤ 14) (V : Nat → Int32) {k : Nat} (hk : k < 100) : f_Log_isLast (nI n) V (nI k) = some (b2 (Ls n V k)) := by
  unfold f_Log_isLast Ls
  rw [knX hn V (by omega), Option.bind_some]
  simp only [b2_0]
  cases h : Kn n V k
  · simp [b2]
  · rw [l1, nI_add, knX hn V (by omega), Option.bind_some]
    simp only [b2_0]
    cases h2 : Kn n V (k + 1) <;> simp [b2] <;> rfl
theorem lsM {n p d : Nat} (hn : n ≤ 14) {T V now : Nat → Int32} (hr : RowIs now n p d T V) {k : Nat} (hk : k < 100) : f_Mo_isLast now (nI k) = some (b2 (Ls n V k)) := by
  unfold f_Mo_isLast Ls
  rw [knM hn hr (by omega), Option.bind_some]
  simp only [b2_0]
  cases h : Kn n V k
  · simp [b2]
  · rw [l1, nI_add, knM hn hr (by omega), Option.bind_some]
    simp only [b2_0]
    cases h2 : Kn n V (k + 1) <;> simp [b2] <;> rfl
/-- how many first ones there are ahead of k -/
def cnt (n : Nat) (V : Nat → Int32) : Nat → Nat
  | 0 => 0
  | k + 1 => cnt n V k + (if Fs n V k = true then 1 else 0)
theorem cnt_le (n : Nat) (V : Nat → Int32) (k : Nat) : cnt n V k ≤ k := by
  induction k with
  | zero => exact Nat.le_refl _
  | succ k ih => unfold cnt; split <;> omega
theorem cnt_pos {n : Nat} {V : Nat → Int32} : ∀ {k : Nat}, Kn n V k = true → 1 ≤ cnt n V (k + 1) := by
  intro k
  induction k with
  | zero => intro h; simp [cnt, Fs, h]
  | succ k ih =>
    intro h
    unfold cnt
    cases h2 : Kn n V k
    · have : Fs n V (k + 1) = true := by simp [Fs, h, h2]
      rw [if_pos this]; omega
    · have := ih h2; omega
theorem strM_L {n p d : Nat} (hn : n ≤ 14) {T V now : Nat → Int32} (hr : RowIs now n p d T V) : ∀ (m k f : Nat), k + m = n → m < f → f_Mo_stretches_L4 now f (nI (cnt n V k)) (nI k) = some (nI (cnt n V n)) := by
  intro m
  induction m with
  | zero =>
    intro k f hk hf
    obtain ⟨f, rfl⟩ : ∃ z, f = z + 1 := ⟨f - 1, by omega⟩
    have : k = n := by omega
    subst this
    rw [f_Mo_stretches_L4_s]
    simp (disch := omega) only [l0, inB_nI, ↓reduceIte, nI_clamp, hr.1, nI_leI, if_pos]
  | succ m ih =>
    intro k f hk hf
    obtain ⟨f, rfl⟩ : ∃ z, f = z + 1 := ⟨f - 1, by omega⟩
    have := cnt_le n V k
    rw [f_Mo_stretches_L4_s, fsM hn hr (by omega)]
    have e := ih (k + 1) f (by omega) (by omega)
    rw [show cnt n V (k + 1) = cnt n V k + (if Fs n V k = true then 1 else 0) from rfl] at e
    simp (disch := omega) only [l0, l1, inB_nI, ↓reduceIte, nI_clamp, hr.1, nI_leI, if_neg, nI_add, Option.bind_some]
    simp only [← l0, b2_0]
    cases h : Fs n V k
    · rw [if_pos rfl]; rw [h, if_neg (by decide)] at e; exact e
    · rw [if_neg (by decide)]; rw [h, if_pos rfl] at e; exact e
theorem strM {n p d : Nat} (hn : n ≤ 14) {T V now : Nat → Int32} (hr : RowIs now n p d T V) : f_Mo_stretches now = some (nI (cnt n V n)) := by
  unfold f_Mo_stretches
  rw [show f_Mo_stretches_L4 now fu 0 0 = some (nI (cnt n V n)) from strM_L hn hr n 0 fu (by omega) (by unfold fu; omega)]
  rfl
def many (c : Nat) : Int32 := if c = 0 then -9 else nI (c - 1)
theorem soM_L {n p d : Nat} (hn : n ≤ 14) {T V now : Nat → Int32} (hr : RowIs now n p d T V) {k0 : Nat} (hk0 : k0 < 14) : ∀ (m k f : Nat), k + m = k0 + 1 → m < f → f_Mo_stretchOf_L5 (nI k0) now f (many (cnt n V k)) (nI k) = some (many (cnt n V (k0 + 1))) := by
  intro m
  induction m with
  | zero =>
    intro k f hk hf
    obtain ⟨f, rfl⟩ : ∃ z, f = z + 1 := ⟨f - 1, by omega⟩
    have : k = k0 + 1 := by omega
    subst this
    rw [f_Mo_stretchOf_L5_s, if_pos (nI_lt (by omega) (by omega))]
  | succ m ih =>
    intro k f hk hf
    obtain ⟨f, rfl⟩ : ∃ z, f = z + 1 := ⟨f - 1, by omega⟩
    have hc := cnt_le n V k
    have e := ih (k + 1) f (by omega) (by omega)
    rw [show cnt n V (k + 1) = cnt n V k + (if Fs n V k = true then 1 else 0) from rfl] at e
    rw [f_Mo_stretchOf_L5_s, if_neg (nI_nlt (by omega) (by omega)), fsM hn hr (by omega), Option.bind_some, l1, nI_add]
    simp only [b2_0]
    cases h : Fs n V k
    · rw [if_pos rfl]; rw [h, if_neg (by decide)] at e; exact e
    · rw [if_neg (by decide)]; rw [h, if_pos rfl] at e
      by_cases h0 : cnt n V k = 0
      · rw [h0] at e ⊢
        rw [if_pos (show many 0 = -9 from rfl)]
        exact e
      · have hm : many (cnt n V k) = nI (cnt n V k - 1) := by unfold many; rw [if_neg h0]
        have hm9 : ¬ many (cnt n V k) = -9 := by
          rw [hm]; intro q
          have h1 : (nI (cnt n V k - 1)).toInt = ((cnt n V k - 1 : Nat) : Int) := nI_toInt (by omega)
          rw [q] at h1
          have : (-9 : Int32).toInt = -9 := by decide
          omega
        rw [if_neg hm9, hm, nI_add]
        have e2 : many (cnt n V k + 1) = nI (cnt n V k - 1 + 1) := by
          unfold many; rw [if_neg (by omega)]; congr 1; omega
        rw [e2] at e
        exact e
theorem soM {n p d : Nat} (hn : n ≤ 14) {T V now : Nat → Int32} (hr : RowIs now n p d T V) {k : Nat} (hk : k < 14) : f_Mo_stretchOf now (nI k) = some (if Kn n V k = true then nI (cnt n V (k + 1) - 1) else -9) := by
  unfold f_Mo_stretchOf
  rw [show f_Mo_stretchOf_L5 (nI k) now fu (-9) 0 = some (many (cnt n V (k + 1))) from soM_L hn hr hk (k + 1) 0 fu (by omega) (by unfold fu; omega), Option.bind_some, knM hn hr (by omega), Option.bind_some]
  simp only [b2_0]
  cases h : Kn n V k
  · rfl
  · have := cnt_pos h
    rw [if_neg (by decide), if_pos rfl]
    unfold many
    rw [if_neg (by omega)]
/-- the farthest one between -/
def Far (T V : Nat → Int32) (i j w : Nat) : Prop := i < w ∧ w < j ∧ (∀ q : Nat, i < q → q < j → Of T V i q j ≤ Of T V i w j) ∧ (∀ q : Nat, i < q → q < w → Of T V i q j < Of T V i w j)
theorem Far_one {T V : Nat → Int32} {i j w w' : Nat} (h : Far T V i j w) (h' : Far T V i j w') : w = w' := by
  obtain ⟨a1, a2, a3, a4⟩ := h
  obtain ⟨b1, b2, b3, b4⟩ := h'
  rcases Nat.lt_trichotomy w w' with q | q | q
  · have := b4 w a1 q; have := a3 w' b1 b2; omega
  · exact q
  · have := a4 w' b1 q; have := b3 w a1 a2; omega
theorem farX_L {n pp d : Nat} {T V : Nat → Int32} (h : LW n pp d T V) {i j : Nat} (hij : i < j) (hj : j < n) : ∀ (m k f w : Nat), k + m = j → i < w → w < k → (∀ q : Nat, i < q → q < k → Of T V i q j ≤ Of T V i w j) → (∀ q : Nat, i < q → q < w → Of T V i q j < Of T V i w j) → m < f →
    ∃ w' : Nat, Far T V i j w' ∧ f_Lines_farthest_L11 (nI i) (nI j) (nI n) T V f (nI w) (nI (Of T V i w j)) (nI k) = some (nI w') := by
  have hn := h.1
  intro m
  induction m with
  | zero =>
    intro k f w hk h1 h2 h3 h4 hf
    obtain ⟨f, rfl⟩ : ∃ z, f = z + 1 := ⟨f - 1, by omega⟩
    refine ⟨w, ⟨h1, by omega, fun q a b => h3 q a (by omega), h4⟩, ?_⟩
    rw [f_Lines_farthest_L11_s, if_pos (nI_le (by omega) (by omega))]
  | succ m ih =>
    intro k f w hk h1 h2 h3 h4 hf
    obtain ⟨f, rfl⟩ : ∃ z, f = z + 1 := ⟨f - 1, by omega⟩
    have o1 := Of_le h (show i < n by omega) (show k < n by omega) hj
    have o2 := Of_le h (show i < n by omega) (show w < n by omega) hj
    rw [f_Lines_farthest_L11_s, if_neg (nI_ge (by omega) (by omega)), offX h (by omega) (by omega) hj]
    simp (disch := omega) only [Option.bind_some, l1, nI_add, nI_leI]
    by_cases hc : Of T V i k j ≤ Of T V i w j
    · rw [if_pos hc]
      exact ih (k + 1) f w (by omega) h1 (by omega) (fun q a b => by
        rcases Nat.eq_or_lt_of_le (Nat.le_of_lt_succ b) with e | e
        · subst e; exact hc
        · exact h3 q a e) h4 (by omega)
    · rw [if_neg hc]
      exact ih (k + 1) f k (by omega) (by omega) (by omega) (fun q a b => by
        rcases Nat.eq_or_lt_of_le (Nat.le_of_lt_succ b) with e | e
        · subst e; exact Nat.le_refl _
        · have := h3 q a e; omega) (fun q a b => by have := h3 q a b; omega) (by omega)
theorem farX {n pp d : Nat} {T V : Nat → Int32} (h : LW n pp d T V) {i j : Nat} (hij : i + 1 < j) (hj : j < n) : ∃ w : Nat, Far T V i j w ∧ f_Lines_farthest (nI n) T V (nI i) (nI j) = some (nI w) := by
  have hn := h.1
  have o1 := Of_le h (show i < n by omega) (show i + 1 < n by omega) hj
  have a3 : ∀ q : Nat, i < q → q < i + 2 → Of T V i q j ≤ Of T V i (i + 1) j := fun q a b => by
    have e : q = i + 1 := by omega
    subst e
    exact Nat.le_refl _
  obtain ⟨w, hw, e⟩ := farX_L h (show i < j by omega) hj (j - (i + 2)) (i + 2) 255 (i + 1) (by omega) (by omega) (by omega) a3 (fun q a b => absurd a (by omega)) (by omega)
  refine ⟨w, hw, ?_⟩
  unfold f_Lines_farthest
  rw [show fu = 255 + 1 from rfl, l1, nI_add, f_Lines_farthest_L11_s, if_neg (nI_ge (by omega) (by omega)), offX h (by omega) (by omega) hj, Option.bind_some]
  have hneg : ¬ nI (Of T V i (i + 1) j) ≤ -1 := by
    rw [Int32.le_iff_toInt_le, nI_toInt (by omega)]
    have : (-1 : Int32).toInt = -1 := by decide
    omega
  rw [if_neg (by rw [← l1]; exact hneg), l1, nI_add, e]
  rfl
theorem farX0 {n : Nat} (hn : n ≤ 14) (T V : Nat → Int32) {i : Nat} (hi : i < 14) : f_Lines_farthest (nI n) T V (nI i) (nI (i + 1)) = some (-9) := by
  unfold f_Lines_farthest
  rw [show fu = 255 + 1 from rfl, l1, nI_add, f_Lines_farthest_L11_s, if_pos (nI_le (by omega) (by omega))]
  rfl
theorem ceil_le {a s p : Nat} (hs : 1 ≤ s) : (a + s - 1) / s ≤ p ↔ a ≤ p * s := by
  rw [← Nat.lt_succ_iff, Nat.div_lt_iff_lt_mul hs, Nat.succ_mul]
  omega
def NeedOk (T V : Nat → Int32) (i j : Nat) (x : Int32) : Prop := ∀ p : Nat, p ≤ 300 → (x ≤ nI p ↔ Holds T V p i j)
theorem need_far {n pp d : Nat} {T V : Nat → Int32} (h : LW n pp d T V) {i j w : Nat} (hij : i + 1 < j) (hj : j < n) (hf : Far T V i j w) : NeedOk T V i j ((nI (Of T V i w j) + nI (Sp T i j) - 1) / nI (Sp T i j)) := by
  have hn := h.1
  obtain ⟨h1, h2, h3, -⟩ := hf
  have hs := Sp_pos h (show i < j by omega) hj
  have ho := Of_le h (show i < n by omega) (show w < n by omega) hj
  intro p hp
  have hps : p * Sp T i j ≤ 300 * 999 := Nat.mul_le_mul hp hs.2.1
  rw [nI_add, l1, pk_sub (by omega), pk_div (by omega) (by omega) (by omega), nI_leI (by have := Nat.div_le_self (Of T V i w j + Sp T i j - 1) (Sp T i j); omega) (by omega), ceil_le hs.1]
  exact ⟨fun q k a b => Nat.le_trans (h3 k a b) q, fun q => q w h1 h2⟩
theorem mnf_L {n pp d : Nat} {T V : Nat → Int32} (h : LW n pp d T V) {i : Nat} (hi : i < n) : ∀ (m k f : Nat) (N : Nat → Int32), k + m = 14 → i < k → m < f →
    ∃ N' : Nat → Int32, f_Lines_measureNeedsFrom_L16 (nI i) (nI n) T V f (nI k) N = some N' ∧ (∀ q : Nat, (q < 14 * i + k ∨ 14 * i + 14 ≤ q) → N' q = N q) ∧ (∀ j : Nat, k ≤ j → (∀ q : Nat, k ≤ q → q ≤ j → Kn n V q = true) → NeedOk T V i j (N' (14 * i + j))) := by
  have hn := h.1
  intro m
  induction m with
  | zero =>
    intro k f N hk hik hf
    obtain ⟨f, rfl⟩ : ∃ z, f = z + 1 := ⟨f - 1, by omega⟩
    refine ⟨N, ?_, fun _ _ => rfl, fun j hj hq => ?_⟩
    · rw [f_Lines_measureNeedsFrom_L16_s, l14, if_pos (nI_le (by omega) (by omega))]
    · have := Kn_lt (hq k (by omega) hj); omega
  | succ m ih =>
    intro k f N hk hik hf
    obtain ⟨f, rfl⟩ : ∃ z, f = z + 1 := ⟨f - 1, by omega⟩
    rw [f_Lines_measureNeedsFrom_L16_s, if_neg (nge14 (show k < 14 by omega)), knX hn V (by omega), Option.bind_some]
    simp only [b2_0]
    cases hK : Kn n V k
    · refine ⟨N, by rw [if_pos rfl], fun _ _ => rfl, fun j hj hq => ?_⟩
      have := hq k (Nat.le_refl _) hj
      rw [hK] at this; cases this
    · rw [if_neg (by decide)]
      have hkn := Kn_lt hK
      have hs := Sp_pos h hik hkn
      have ei : nI i * (14 : Int32) + nI k = nI (14 * i + k) := by rw [l14, pk_mul, nI_add, Nat.mul_comm]
      have ib : inB (nI (14 * i + k)) 196 = true := inB_nI (by omega) (by omega)
      have fin : ∀ x : Int32, NeedOk T V i k x → ∃ N' : Nat → Int32, f_Lines_measureNeedsFrom_L16 (nI i) (nI n) T V f (nI k + 1) (upd N (14 * i + k) x) = some N' ∧ (∀ q : Nat, (q < 14 * i + k ∨ 14 * i + 14 ≤ q) → N' q = N q) ∧ (∀ j : Nat, k ≤ j → (∀ q : Nat, k ≤ q → q ≤ j → Kn n V q = true) → NeedOk T V i j (N' (14 * i + j))) := by
        intro x hx
        obtain ⟨N', e1, e2, e3⟩ := ih (k + 1) f (upd N (14 * i + k) x) (by omega) (by omega) (by omega)
        refine ⟨N', by rw [l1, nI_add]; exact e1, fun q hq => by rw [e2 q (by omega), upd_at, if_neg (by omega)], fun j hj hq => ?_⟩
        rcases Nat.eq_or_lt_of_le hj with e | e
        · subst e
          rw [e2 _ (by omega), upd_at, if_pos rfl]; exact hx
        · exact e3 j e (fun q a b => hq q (by omega) b)
      rcases Nat.eq_or_lt_of_le (Nat.succ_le_of_lt hik) with e | e
      · have ek : k = i + 1 := by omega
        subst ek
        rw [farX0 hn T V (by omega), spanX h hik hkn, Option.bind_some, Option.bind_some, if_pos rfl, ei, ib, if_pos rfl, nI_clamp (by omega)]
        refine fin 0 (fun p hp => ?_)
        have : (0 : Int32) ≤ nI p := nI_pos' (by omega)
        exact ⟨fun _ q a b => absurd a (by omega), fun _ => this⟩
      · obtain ⟨w, hw, ew⟩ := farX h (show i + 1 < k by omega) hkn
        have hwb := hw.1
        have hwb2 := hw.2.1
        have w9 : ¬ nI w = -9 := by
          intro q
          have h1 : (nI w).toInt = (w : Int) := nI_toInt (by omega)
          rw [q] at h1
          have : (-9 : Int32).toInt = -9 := by decide
          omega
        have s0 : ¬ nI (Sp T i k) ≤ 0 := nI_nle (by omega) (by omega)
        have sz : nz (nI (Sp T i k)) = true := decide_eq_true (nI_ne0 (by omega) (by omega))
        rw [ew, spanX h hik hkn, Option.bind_some, Option.bind_some, if_neg w9, if_neg s0, offX h hi (by omega) hkn, Option.bind_some, sz, if_pos rfl, ei, ib, if_pos rfl, nI_clamp (by omega)]
        exact fin _ (need_far h (by omega) hkn hw)
theorem mnf {n pp d : Nat} {T V : Nat → Int32} (h : LW n pp d T V) {i : Nat} (hi : i < n) (N : Nat → Int32) :
    ∃ N' : Nat → Int32, f_Lines_measureNeedsFrom N (nI n) T V (nI i) = some N' ∧ (∀ q : Nat, (q < 14 * i ∨ 14 * i + 14 ≤ q) → N' q = N q) ∧ (Kn n V i = true → ∀ j : Nat, i < j → (∀ q : Nat, i ≤ q → q ≤ j → Kn n V q = true) → NeedOk T V i j (N' (14 * i + j))) := by
  have hn := h.1
  unfold f_Lines_measureNeedsFrom
  rw [knX hn V (by omega), Option.bind_some]
  simp only [b2_0]
  cases hK : Kn n V i
  · exact ⟨N, by rw [if_pos rfl], fun _ _ => rfl, fun q => by cases q⟩
  · obtain ⟨N', e1, e2, e3⟩ := mnf_L h hi (14 - (i + 1)) (i + 1) fu N (by omega) (by omega) (by unfold fu; omega)
    refine ⟨N', ?_, fun q hq => e2 q (by omega), fun _ j hj hq => e3 j (by omega) (fun q a b => hq q (by omega) b)⟩
    rw [if_neg (by decide), l1, nI_add, e1]
    rfl
theorem mall_L {n pp d : Nat} {T V : Nat → Int32} (h : LW n pp d T V) : ∀ (m k f : Nat) (S N : Nat → Int32), k + m = n → m < f → (∀ q : Nat, q < k → S q = if Kn n V q = true then nI (cnt n V (q + 1) - 1) else -9) → (∀ i j : Nat, i < k → i < j → (∀ q : Nat, i ≤ q → q ≤ j → Kn n V q = true) → NeedOk T V i j (N (14 * i + j))) →
    ∃ S' N' : Nat → Int32, f_Lines_measureAll_L7 (nI n) T V f (nI k) (nI (cnt n V k)) S N = some (nI (cnt n V n), S', N') ∧ (∀ q : Nat, q < n → S' q = if Kn n V q = true then nI (cnt n V (q + 1) - 1) else -9) ∧ (∀ i j : Nat, i < j → (∀ q : Nat, i ≤ q → q ≤ j → Kn n V q = true) → NeedOk T V i j (N' (14 * i + j))) := by
  have hn := h.1
  intro m
  induction m with
  | zero =>
    intro k f S N hk hf hS hN
    obtain ⟨f, rfl⟩ : ∃ z, f = z + 1 := ⟨f - 1, by omega⟩
    have : k = n := by omega
    subst this
    refine ⟨S, N, ?_, hS, fun i j a b => hN i j (Kn_lt (b i (Nat.le_refl _) (by omega))) a b⟩
    rw [f_Lines_measureAll_L7_s, if_pos (nI_le (Nat.le_refl _) (by omega))]
  | succ m ih =>
    intro k f S N hk hf hS hN
    obtain ⟨f, rfl⟩ : ∃ z, f = z + 1 := ⟨f - 1, by omega⟩
    have hc := cnt_le n V k
    obtain ⟨N1, n1, n2, n3⟩ := mnf h (show k < n by omega) N
    have step : ∀ (x : Int32), x = (if Kn n V k = true then nI (cnt n V (k + 1) - 1) else -9) → ∃ S' N' : Nat → Int32, f_Lines_measureAll_L7 (nI n) T V f (nI k + 1) (nI (cnt n V (k + 1))) (upd S k x) N1 = some (nI (cnt n V n), S', N') ∧ (∀ q : Nat, q < n → S' q = if Kn n V q = true then nI (cnt n V (q + 1) - 1) else -9) ∧ (∀ i j : Nat, i < j → (∀ q : Nat, i ≤ q → q ≤ j → Kn n V q = true) → NeedOk T V i j (N' (14 * i + j))) := by
      intro x hx
      rw [l1, nI_add]
      refine ih (k + 1) f _ N1 (by omega) (by omega) (fun q hq => ?_) (fun i j a b c => ?_)
      · rw [upd_at]
        by_cases e : q = k
        · rw [if_pos e]; subst e; exact hx
        · rw [if_neg e]; exact hS q (by omega)
      · rcases Nat.eq_or_lt_of_le (Nat.le_of_lt_succ a) with e | e
        · subst e; exact n3 (c i (Nat.le_refl _) (by omega)) j b c
        · have hj := Kn_lt (c j (by omega) (Nat.le_refl _))
          rw [n2 _ (by omega)]; exact hN i j e b c
    rw [f_Lines_measureAll_L7_s, if_neg (nI_ge (by omega) (by omega)), if_neg (nge14 (show k < 14 by omega)), fsX hn V (by omega), knX hn V (by omega)]
    simp only [Option.bind_some, b2_0, inB_nI (show k < 14 by omega) (by omega), nI_clamp (show k < 2 ^ 31 by omega), n1, ↓reduceIte]
    have ec : cnt n V (k + 1) = cnt n V k + (if Fs n V k = true then 1 else 0) := rfl
    cases hF : Fs n V k
    · rw [hF, if_neg (by decide)] at ec
      rw [if_pos rfl]
      cases hK : Kn n V k
      · rw [if_pos rfl]
        have := step (-9) (by rw [hK, if_neg (by decide)])
        rw [ec] at this; exact this
      · rw [if_neg (by decide)]
        have hp := cnt_pos hK
        have := step (nI (cnt n V k) - 1) (by rw [hK, if_pos rfl, ec, l1, pk_sub (by omega)]; rfl)
        rw [ec] at this; exact this
    · rw [hF, if_pos rfl] at ec
      have hK : Kn n V k = true := by
        unfold Fs at hF; cases h2 : Kn n V k
        · rw [h2] at hF; cases hF
        · rfl
      rw [if_neg (by decide), hK, if_neg (by decide)]
      have e1 : nI (cnt n V k) + 1 = nI (cnt n V (k + 1)) := by rw [ec, l1, nI_add]
      rw [e1]
      exact step (nI (cnt n V (k + 1)) - 1) (by rw [hK, if_pos rfl, l1, pk_sub (by omega)])
theorem mall {n pp d : Nat} {T V : Nat → Int32} (h : LW n pp d T V) (x : Int32) (S N : Nat → Int32) : ∃ S' N' : Nat → Int32, f_Lines_measureAll x S N (nI n) T V = some (nI (cnt n V n), S', N') ∧ (∀ q : Nat, q < n → S' q = if Kn n V q = true then nI (cnt n V (q + 1) - 1) else -9) ∧ (∀ i j : Nat, i < j → (∀ q : Nat, i ≤ q → q ≤ j → Kn n V q = true) → NeedOk T V i j (N' (14 * i + j))) := by
  obtain ⟨S', N', e, h1, h2⟩ := mall_L h n 0 fu S N (by omega) (by have := h.1; unfold fu; omega) (fun q hq => absurd hq (by omega)) (fun i j a => absurd a (by omega))
  refine ⟨S', N', ?_, h1, h2⟩
  unfold f_Lines_measureAll
  rw [show f_Lines_measureAll_L7 (nI n) T V fu 0 0 S N = _ from e]
  rfl
theorem needN {N : Nat → Int32} {i j : Nat} (hij : i < j) (hj : j < 14) : f_Lines_needOf N (nI i) (nI j) = some (N (14 * i + j)) := by
  unfold f_Lines_needOf
  rw [if_neg (nI_pos (by omega)), if_neg (nI_ge hij (by omega)), if_neg (nge14 hj), l14, pk_mul, nI_add, inB_nI (by omega) (by omega), if_pos rfl, nI_clamp (by omega), Nat.mul_comm]

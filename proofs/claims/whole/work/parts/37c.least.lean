/-! ===== pure: the fewest ===== -/
def Gs (n p : Nat) (T V : Nat → Int32) (i j : Nat) : Prop := i < j ∧ (∀ q : Nat, i ≤ q → q ≤ j → Kn n V q = true) ∧ Holds T V p i j
theorem Gs_lt {n p : Nat} {T V : Nat → Int32} {i j : Nat} (h : Gs n p T V i j) : j < n := Kn_lt (h.2.1 j (Nat.le_of_lt h.1) (Nat.le_refl _))
theorem Gs_next {n p : Nat} {T V : Nat → Int32} {i : Nat} (h : Kn n V i = true) (h2 : Kn n V (i + 1) = true) : Gs n p T V i (i + 1) :=
  ⟨by omega, fun q a b => by
    rcases Nat.eq_or_lt_of_le a with e | e
    · subst e; exact h
    · have : q = i + 1 := by omega
      subst this; exact h2, fun k a b => by omega⟩
/-- w is the first of the best ones of i below k -/
def Cand (n p : Nat) (T V : Nat → Int32) (F : Nat → Nat) (i k w : Nat) : Prop := w < k ∧ Gs n p T V i w ∧ (∀ j : Nat, j < k → Gs n p T V i j → F w ≤ F j) ∧ (∀ j : Nat, j < w → Gs n p T V i j → F w < F j)
theorem Cand_keep {n p : Nat} {T V : Nat → Int32} {F : Nat → Nat} {i k w : Nat} (h : Cand n p T V F i k w) (hk : Gs n p T V i k → F w ≤ F k) : Cand n p T V F i (k + 1) w := by
  refine ⟨by have := h.1; omega, h.2.1, fun j hj hg => ?_, h.2.2.2⟩
  rcases Nat.eq_or_lt_of_le (Nat.le_of_lt_succ hj) with e | e
  · subst e; exact hk hg
  · exact h.2.2.1 j e hg
theorem Cand_take {n p : Nat} {T V : Nat → Int32} {F : Nat → Nat} {i k w : Nat} (h : Cand n p T V F i k w) (hg : Gs n p T V i k) (hk : F k < F w) : Cand n p T V F i (k + 1) k := by
  refine ⟨by omega, hg, fun j hj hg => ?_, fun j hj hg => ?_⟩
  · rcases Nat.eq_or_lt_of_le (Nat.le_of_lt_succ hj) with e | e
    · subst e; exact Nat.le_refl _
    · have := h.2.2.1 j e hg; omega
  · have := h.2.2.1 j hj hg; omega
theorem Cand_first {n p : Nat} {T V : Nat → Int32} {F : Nat → Nat} {i : Nat} (h : Kn n V i = true) (h2 : Kn n V (i + 1) = true) : Cand n p T V F i (i + 2) (i + 1) := by
  refine ⟨by omega, Gs_next h h2, fun j hj hg => ?_, fun j hj hg => ?_⟩
  · have : j = i + 1 := by have := hg.1; omega
    subst this; exact Nat.le_refl _
  · have := hg.1; omega
theorem Cand_ext {n p : Nat} {T V : Nat → Int32} {F : Nat → Nat} {i k k' w : Nat} (h : Cand n p T V F i k w) (hk : Kn n V k = false) (hkk : k ≤ k') : Cand n p T V F i k' w := by
  refine ⟨by have := h.1; omega, h.2.1, fun j hj hg => ?_, h.2.2.2⟩
  rcases Nat.lt_or_ge j k with e | e
  · exact h.2.2.1 j e hg
  · have h1 := hg.2.1 k (by have := h.2.1.1; have := h.1; omega) e
    rw [hk] at h1; cases h1
theorem Cand_congr {n p : Nat} {T V : Nat → Int32} {F F' : Nat → Nat} {i k w : Nat} (h : Cand n p T V F i k w) (hF : ∀ q : Nat, i < q → F' q = F q) : Cand n p T V F' i k w := by
  have hw := h.2.1.1
  refine ⟨h.1, h.2.1, fun j hj hg => ?_, fun j hj hg => ?_⟩
  · rw [hF w hw, hF j hg.1]; exact h.2.2.1 j hj hg
  · rw [hF w hw, hF j hg.1]; exact h.2.2.2 j hj hg
def FOk (n p : Nat) (T V : Nat → Int32) (F : Nat → Nat) (i : Nat) : Prop := 1 ≤ F i ∧ F i ≤ n - i ∧ ((Kn n V i = true ∧ Kn n V (i + 1) = true) → ∃ w : Nat, Cand n p T V F i n w ∧ F i = F w + 1) ∧ (¬ (Kn n V i = true ∧ Kn n V (i + 1) = true) → F i = 1)
theorem FOk_congr {n p : Nat} {T V : Nat → Int32} {F F' : Nat → Nat} {i : Nat} (h : FOk n p T V F i) (hF : ∀ q : Nat, i ≤ q → F' q = F q) : FOk n p T V F' i := by
  obtain ⟨h1, h2, h3, h4⟩ := h
  have e := hF i (Nat.le_refl _)
  refine ⟨by rw [e]; exact h1, by rw [e]; exact h2, fun hk => ?_, fun hk => by rw [e]; exact h4 hk⟩
  obtain ⟨w, hw, hw2⟩ := h3 hk
  exact ⟨w, Cand_congr hw (fun q hq => hF q (by omega)), by rw [e, hF w (by have := hw.2.1.1; omega)]; exact hw2⟩
theorem FOk_one {n p : Nat} {T V : Nat → Int32} {F F' : Nat → Nat} (h : ∀ q : Nat, q < n → FOk n p T V F q) (h' : ∀ q : Nat, q < n → FOk n p T V F' q) : ∀ (m q : Nat), q + m = n → q < n → F q = F' q := by
  intro m
  induction m using Nat.strongRecOn with
  | ind m ih =>
    intro q hq hqn
    obtain ⟨h1, h2, h3, h4⟩ := h q hqn
    obtain ⟨g1, g2, g3, g4⟩ := h' q hqn
    by_cases hk : Kn n V q = true ∧ Kn n V (q + 1) = true
    · obtain ⟨w, hw, e⟩ := h3 hk
      obtain ⟨w', hw', e'⟩ := g3 hk
      have a1 := hw.2.1.1; have a2 := hw.1
      have b1 := hw'.2.1.1; have b2 := hw'.1
      have c1 := ih (n - w) (by omega) w (by omega) a2
      have c2 := ih (n - w') (by omega) w' (by omega) b2
      have d1 := hw.2.2.1 w' b2 hw'.2.1
      have d2 := hw'.2.2.1 w a2 hw.2.1
      omega
    · rw [h4 hk, g4 hk]
/-- the class's inner loop -/
theorem chX_L {n p d : Nat} {T V N : Nat → Int32} (h : LW n p d T V) (hN : NeedsOk n T V N) {i : Nat} (F : Nat → Nat) : ∀ (m k f w : Nat) (A B : Nat → Int32), k + m = 14 → m < f → i < k → (∀ q : Nat, i ≤ q → q < k → Kn n V q = true) → (∀ q : Nat, i < q → q < n → A q = nI (F q - 1) ∧ 1 ≤ F q ∧ F q ≤ 14) → Cand n p T V F i k w → A i = nI (F w) → B i = nI w →
    ∃ (A' B' : Nat → Int32) (w' : Nat), f_Thinning_chooseNext_L31 (nI i) (nI n) (nI p) V N f (nI k) A B = some (A', B') ∧ Cand n p T V F i n w' ∧ A' i = nI (F w') ∧ B' i = nI w' ∧ ∀ q : Nat, q ≠ i → A' q = A q ∧ B' q = B q := by
  have hn := h.1
  have hp := h.2.1
  intro m
  induction m with
  | zero =>
    intro k f w A B hk hf hik hK hA hC hAi hBi
    obtain ⟨f, rfl⟩ : ∃ z, f = z + 1 := ⟨f - 1, by omega⟩
    have := Kn_lt (hK (k - 1) (by omega) (by omega))
    have e : n = k := by omega
    subst e
    refine ⟨A, B, w, ?_, hC, hAi, hBi, fun _ _ => ⟨rfl, rfl⟩⟩
    rw [f_Thinning_chooseNext_L31_s, l14, if_pos (nI_le (by omega) (by omega))]
  | succ m ih =>
    intro k f w A B hk hf hik hK hA hC hAi hBi
    obtain ⟨f, rfl⟩ : ∃ z, f = z + 1 := ⟨f - 1, by omega⟩
    have hkn1 := Kn_lt (hK (k - 1) (by omega) (by omega))
    have hw1 := hC.1
    have hw2 := hC.2.1.1
    have hB9 : ¬ B i = -9 := by
      rw [hBi]; intro q
      have h1 : (nI w).toInt = (w : Int) := nI_toInt (by omega)
      rw [q] at h1
      have : (-9 : Int32).toInt = -9 := by decide
      omega
    have ek : nI k + 1 = nI (k + 1) := by rw [l1, nI_add]
    rw [f_Thinning_chooseNext_L31_s, if_neg (nge14 (show k < 14 by omega)), knX hn V (by omega), needN hik (by omega)]
    simp only [Option.bind_some, b2_0, inB_nI (show k < 14 by omega) (by omega), inB_nI (show i < 14 by omega) (by omega), nI_clamp (show k < 2 ^ 31 by omega), nI_clamp (show i < 2 ^ 31 by omega), ↓reduceIte, ek, hB9]
    cases hKk : Kn n V k
    · simp only [↓reduceIte]
      exact ⟨A, B, w, rfl, Cand_ext hC hKk (by omega), hAi, hBi, fun _ _ => ⟨rfl, rfl⟩⟩
    · simp only [reduceCtorEq, ↓reduceIte]
      have hkn := Kn_lt hKk
      have hK' : ∀ q : Nat, i ≤ q → q < k + 1 → Kn n V q = true := fun q a b => by
        rcases Nat.eq_or_lt_of_le (Nat.le_of_lt_succ b) with e | e
        · subst e; exact hKk
        · exact hK q a e
      obtain ⟨a1, a2, a3⟩ := hA k hik hkn
      obtain ⟨b1, b2, b3⟩ := hA w hw2 (by omega)
      have eA : A k + 1 = nI (F k) := by rw [a1, l1, nI_add, Nat.sub_add_cancel a2]
      have e1 : (A i ≤ A k + 1) = (F w ≤ F k) := by rw [hAi, eA]; exact nI_le' (by omega) (by omega)
      simp only [e1]
      by_cases c1 : F w ≤ F k
      · simp only [c1, ↓reduceIte]
        exact ih (k + 1) f w A B (by omega) (by omega) (by omega) hK' hA (Cand_keep hC (fun _ => c1)) hAi hBi
      · simp only [c1, ↓reduceIte]
        have key := hN i k hik (fun q a b => hK' q a (by omega)) p (by omega)
        by_cases c2 : nI p < N (14 * i + k)
        · simp only [c2, ↓reduceIte]
          refine ih (k + 1) f w A B (by omega) (by omega) (by omega) hK' hA (Cand_keep hC (fun g => ?_)) hAi hBi
          have := key.mpr g.2.2
          exact absurd c2 (Int32.not_lt.mpr this)
        · simp only [c2, ↓reduceIte]
          have g : Gs n p T V i k := ⟨hik, fun q a b => hK' q a (by omega), key.mp (Int32.not_lt.mp c2)⟩
          obtain ⟨A', B', w', r1, r2, r3, r4, r5⟩ := ih (k + 1) f k (upd A i (A k + 1)) (upd B i (nI k)) (by omega) (by omega) (by omega) hK' (fun q x y => by rw [upd_at, if_neg (by omega)]; exact hA q x y) (Cand_take hC g (by omega)) (by rw [upd_at, if_pos rfl, eA]) (by rw [upd_at, if_pos rfl])
          refine ⟨A', B', w', r1, r2, r3, r4, fun q hq => ?_⟩
          have := r5 q hq
          rw [upd_at, upd_at, if_neg hq, if_neg hq] at this
          exact this
/-- the class's rows behind i -/
def NxOk (n p : Nat) (T V : Nat → Int32) (F : Nat → Nat) (B : Nat → Int32) (i : Nat) : Prop := ((Kn n V i = true ∧ Kn n V (i + 1) = true) → ∃ w : Nat, B i = nI w ∧ Cand n p T V F i n w ∧ F i = F w + 1) ∧ (¬ (Kn n V i = true ∧ Kn n V (i + 1) = true) → B i = -9)
theorem NxOk_congr {n p : Nat} {T V : Nat → Int32} {F F' : Nat → Nat} {B B' : Nat → Int32} {i : Nat} (h : NxOk n p T V F B i) (hF : ∀ q : Nat, i ≤ q → F' q = F q) (hB : B' i = B i) : NxOk n p T V F' B' i := by
  obtain ⟨h1, h2⟩ := h
  refine ⟨fun hk => ?_, fun hk => by rw [hB]; exact h2 hk⟩
  obtain ⟨w, e1, hw, e2⟩ := h1 hk
  exact ⟨w, by rw [hB, e1], Cand_congr hw (fun q hq => hF q (by omega)), by rw [hF i (Nat.le_refl _), hF w (by have := hw.2.1.1; omega)]; exact e2⟩
theorem chX {n p d : Nat} {T V N : Nat → Int32} (h : LW n p d T V) (hN : NeedsOk n T V N) {i : Nat} (hi : i < n) (F : Nat → Nat) (A B : Nat → Int32) (hA : ∀ q : Nat, i < q → q < n → A q = nI (F q - 1) ∧ 1 ≤ F q ∧ F q ≤ n - q) : ∃ (A' B' : Nat → Int32) (F' : Nat → Nat), f_Thinning_chooseNext A B (nI n) (nI p) V N (nI i) = some (A', B') ∧ A' i = nI (F' i - 1) ∧ FOk n p T V F' i ∧ NxOk n p T V F' B' i ∧ (∀ q : Nat, q ≠ i → A' q = A q ∧ B' q = B q ∧ F' q = F q) := by
  have hn := h.1
  have hp := h.2.1
  have one : ¬ (Kn n V i = true ∧ Kn n V (i + 1) = true) → ∃ (F' : Nat → Nat), upd A i 0 i = nI (F' i - 1) ∧ FOk n p T V F' i ∧ NxOk n p T V F' (upd B i (-9)) i ∧ (∀ q : Nat, q ≠ i → upd A i 0 q = A q ∧ upd B i (-9) q = B q ∧ F' q = F q) := by
    intro hk
    refine ⟨fun q => if q = i then 1 else F q, ?_, ?_, ⟨fun q => absurd q hk, fun _ => by rw [upd_at, if_pos rfl]⟩, fun q hq => ?_⟩
    · rw [upd_at, if_pos rfl]; simp only [↓reduceIte]; rfl
    · refine ⟨?_, ?_, fun q => absurd q hk, fun _ => ?_⟩ <;> simp only [↓reduceIte] <;> omega
    · rw [upd_at, upd_at, if_neg hq, if_neg hq]; simp only [hq, ↓reduceIte, and_self]
  unfold f_Thinning_chooseNext
  simp only [inB_nI (show i < 14 by omega) (by omega), ↓reduceIte, nI_clamp (show i < 2 ^ 31 by omega), knX hn V (show i < 2 ^ 31 by omega), Option.bind_some, b2_0]
  cases hK : Kn n V i
  · simp only [↓reduceIte]
    obtain ⟨F', a⟩ := one (by rw [hK]; rintro ⟨q, _⟩; cases q)
    exact ⟨_, _, F', rfl, a⟩
  · simp only [reduceCtorEq, ↓reduceIte]
    have ei : nI i + 1 = nI (i + 1) := by rw [l1, nI_add]
    have u1 : upd B i (-9) i = -9 := by rw [upd_at, if_pos rfl]
    have w1 : upd (upd A i 0) i (upd A i 0 (i + 1) + 1) = upd A i (A (i + 1) + 1) := by
      funext q; simp only [upd_at]; grind
    have w2 : upd (upd B i (-9)) i (nI (i + 1)) = upd B i (nI (i + 1)) := by
      funext q; simp only [upd_at]; grind
    rw [ei, show fu = 255 + 1 from rfl, f_Thinning_chooseNext_L31_s]
    by_cases h14 : i + 1 = 14
    · rw [l14, if_pos (nI_le (by omega) (by omega))]
      obtain ⟨F', a⟩ := one (by rintro ⟨_, q⟩; have := Kn_lt q; omega)
      exact ⟨_, _, F', rfl, a⟩
    · rw [if_neg (nge14 (show i + 1 < 14 by omega)), knX hn V (by omega), needN (show i < i + 1 by omega) (by omega)]
      simp only [Option.bind_some, b2_0, inB_nI (show i + 1 < 14 by omega) (by omega), inB_nI (show i < 14 by omega) (by omega), nI_clamp (show i + 1 < 2 ^ 31 by omega), nI_clamp (show i < 2 ^ 31 by omega), ↓reduceIte, u1, w1, w2]
      cases hK1 : Kn n V (i + 1)
      · simp only [↓reduceIte, Option.bind_some]
        obtain ⟨F', a⟩ := one (by rw [hK1]; rintro ⟨_, q⟩; cases q)
        exact ⟨_, _, F', rfl, a⟩
      · simp only [reduceCtorEq, ↓reduceIte]
        have hi1 := Kn_lt hK1
        have g : Gs n p T V i (i + 1) := Gs_next hK hK1
        have key := (hN i (i + 1) (by omega) g.2.1 p (by omega)).mpr g.2.2
        rw [if_neg (Int32.not_lt.mpr key)]
        obtain ⟨a1, a2, a3⟩ := hA (i + 1) (by omega) hi1
        have eA : A (i + 1) + 1 = nI (F (i + 1)) := by rw [a1, l1, nI_add, Nat.sub_add_cancel a2]
        have ei2 : nI (i + 1) + 1 = nI (i + 2) := by rw [l1, nI_add]
        obtain ⟨A', B', w', r1, r2, r3, r4, r5⟩ := chX_L h hN (i := i) F (14 - (i + 2)) (i + 2) 255 (i + 1) (upd A i (A (i + 1) + 1)) (upd B i (nI (i + 1))) (by omega) (by omega) (by omega) (fun q a b => g.2.1 q a (by omega)) (fun q x y => by rw [upd_at, if_neg (by omega)]; have := hA q x y; exact ⟨this.1, this.2.1, by omega⟩) (Cand_first hK hK1) (by rw [upd_at, if_pos rfl, eA]) (by rw [upd_at, if_pos rfl])
        rw [ei2, r1, Option.bind_some]
        have hw2 := r2.2.1.1
        have hw1 := r2.1
        have hmin := r2.2.2.1 (i + 1) hi1 g
        obtain ⟨c1, c2, c3⟩ := hA w' hw2 hw1
        have hF' : ∀ q : Nat, i < q → (fun q => if q = i then F w' + 1 else F q) q = F q := fun q hq => by simp only [show q ≠ i by omega, ↓reduceIte]
        have hC := Cand_congr r2 hF'
        refine ⟨A', B', fun q => if q = i then F w' + 1 else F q, rfl, ?_, ⟨?_, ?_, fun _ => ⟨w', hC, ?_⟩, fun q => absurd ⟨hK, hK1⟩ q⟩, ⟨fun _ => ⟨w', r4, hC, ?_⟩, fun q => absurd ⟨hK, hK1⟩ q⟩, fun q hq => ?_⟩
        · simp only [↓reduceIte, Nat.add_sub_cancel]; exact r3
        · simp only [↓reduceIte]; omega
        · simp only [↓reduceIte]; omega
        · simp only [↓reduceIte, show w' ≠ i by omega]
        · simp only [↓reduceIte, show w' ≠ i by omega]
        · have := r5 q hq
          rw [upd_at, upd_at, if_neg hq, if_neg hq] at this
          exact ⟨this.1, this.2, by simp only [hq, ↓reduceIte]⟩
theorem clX_L {n p d : Nat} {T V N : Nat → Int32} (h : LW n p d T V) (hN : NeedsOk n T V N) : ∀ (j f : Nat) (x : Int32) (A B : Nat → Int32) (F : Nat → Nat), j ≤ n → j < f → x = nI j - 1 → (∀ q : Nat, j ≤ q → q < n → A q = nI (F q - 1) ∧ FOk n p T V F q ∧ NxOk n p T V F B q) →
    ∃ (A' B' : Nat → Int32) (F' : Nat → Nat), f_Thinning_chooseLeast_L15 (nI n) (nI p) V N f x A B = some (A', B') ∧ ∀ q : Nat, q < n → FOk n p T V F' q ∧ NxOk n p T V F' B' q := by
  have hn := h.1
  intro j
  induction j with
  | zero =>
    intro f x A B F hj hf hx hA
    obtain ⟨f, rfl⟩ : ∃ z, f = z + 1 := ⟨f - 1, by omega⟩
    refine ⟨A, B, F, ?_, fun q hq => (hA q (by omega) hq).2⟩
    rw [f_Thinning_chooseLeast_L15_s, hx, if_pos (by decide)]
  | succ k ih =>
    intro f x A B F hj hf hx hA
    obtain ⟨f, rfl⟩ : ∃ z, f = z + 1 := ⟨f - 1, by omega⟩
    have ex : x = nI k := by rw [hx]; exact nI_pred k
    subst ex
    have em : nI k + (-1) = nI k - 1 := (Int32.sub_eq_add_neg ..).symm
    obtain ⟨A', B', F', e1, e2, e3, e4, e5⟩ := chX h hN (show k < n by omega) F A B (fun q a b => by have := hA q (by omega) b; exact ⟨this.1, this.2.1.1, this.2.1.2.1⟩)
    rw [f_Thinning_chooseLeast_L15_s, if_neg (nI_pos (by omega)), e1, Option.bind_some, em]
    refine ih f _ A' B' F' (by omega) (by omega) rfl (fun q a b => ?_)
    rcases Nat.eq_or_lt_of_le a with e | e
    · subst e; exact ⟨e2, e3, e4⟩
    · obtain ⟨c1, c2, c3⟩ := hA q e b
      have hF : ∀ z : Nat, q ≤ z → F' z = F z := fun z hz => (e5 z (by omega)).2.2
      refine ⟨?_, FOk_congr c2 hF, NxOk_congr c3 hF (e5 q (by omega)).2.1⟩
      rw [(e5 q (by omega)).1, hF q (Nat.le_refl _)]; exact c1
/-- the reference's inner loop -/
theorem chM_L {n p d : Nat} {T V now : Nat → Int32} (h : LW n p d T V) (hr : RowIs now n p d T V) {i : Nat} (F : Nat → Nat) (x1 : Int32) : ∀ (m k f w : Nat) (A : Nat → Int32), k + m = n → m < f → i < k → Kn n V k = true → (∀ q : Nat, i ≤ q → q < k → Kn n V q = true) → (∀ q : Nat, i < q → q < n → A q = nI (F q) ∧ F q ≤ 14) → Cand n p T V F i k w → A i = nI (F w + 1) →
    ∃ (A' : Nat → Int32) (w' : Nat), f_Mo_least_L50 x1 (nI i) now f (nI k) A = some (0, A') ∧ Cand n p T V F i n w' ∧ A' i = nI (F w' + 1) ∧ ∀ q : Nat, q ≠ i → A' q = A q := by
  have hn := h.1
  have hp := h.2.1
  have z1 : ((1 : Int32)).toNatClampNeg = 1 := rfl
  have i1 : inB (1 : Int32) 31 = true := by decide
  intro m
  induction m with
  | zero => intro k f w A hk hf hik hKk; have := Kn_lt hKk; omega
  | succ m ih =>
    intro k f w A hk hf hik hKk hK hA hC hAi
    obtain ⟨f, rfl⟩ : ∃ z, f = z + 1 := ⟨f - 1, by omega⟩
    have hw1 := hC.1
    have hw2 := hC.2.1.1
    have ek : nI k + 1 = nI (k + 1) := by rw [l1, nI_add]
    have hkn := Kn_lt hKk
    have hK' : ∀ q : Nat, i ≤ q → q < k + 1 → Kn n V q = true := fun q a b => by
      rcases Nat.eq_or_lt_of_le (Nat.le_of_lt_succ b) with e | e
      · subst e; exact hKk
      · exact hK q a e
    obtain ⟨a1, a3⟩ := hA k hik hkn
    obtain ⟨b1, b3⟩ := hA w hw2 (by omega)
    have eA : A k + 1 = nI (F k + 1) := by rw [a1, l1, nI_add]
    have e1 : (A i ≤ A k + 1) = (F w ≤ F k) := by
      rw [hAi, eA, nI_le' (by omega) (by omega)]; apply propext; omega
    have us : upd A i (A i) = A := by funext q; rw [upd_at]; split <;> simp_all
    rw [f_Mo_least_L50_s, knM hn hr (by omega), lsM hn hr (by omega)]
    simp only [Option.bind_some, b2_0, inB_nI (show k < 14 by omega) (by omega), inB_nI (show i < 14 by omega) (by omega), nI_clamp (show k < 2 ^ 31 by omega), nI_clamp (show i < 2 ^ 31 by omega), ↓reduceIte, ek, hKk, reduceCtorEq, z1, i1, hr.2.1, whyM h hr (show p ≤ 300 by omega) hik hkn, us, e1]
    have skip : Cand n p T V F i (k + 1) w → ∃ (A' : Nat → Int32) (w' : Nat), (if Ls n V k = false then f_Mo_least_L50 x1 (nI i) now f (nI (k + 1)) A else some (0, A)) = some (0, A') ∧ Cand n p T V F i n w' ∧ A' i = nI (F w' + 1) ∧ ∀ q : Nat, q ≠ i → A' q = A q := by
      intro hC'
      cases hL : Ls n V k
      · rw [if_pos rfl]
        exact ih (k + 1) f w A (by omega) (by omega) (by omega) (nLs_K hKk (by rw [hL]; decide)) hK' hA hC' hAi
      · rw [if_neg (by decide)]
        exact ⟨A, w, rfl, Cand_ext hC' (Ls_K hL).2 (by omega), hAi, fun _ _ => rfl⟩
    by_cases c2 : WN T V p i k = -9
    · simp only [c2, ↓reduceIte]
      have g : Gs n p T V i k := ⟨hik, fun q a b => hK' q a (by omega), (WN_m9 hik (by omega)).mp c2⟩
      by_cases c1 : F w ≤ F k
      · simp only [c1, ↓reduceIte]
        exact skip (Cand_keep hC (fun _ => c1))
      · simp only [c1, ↓reduceIte]
        have hC' := Cand_take hC g (by omega)
        cases hL : Ls n V k
        · rw [if_pos rfl]
          obtain ⟨A', w', r1, r2, r3, r5⟩ := ih (k + 1) f k (upd A i (A k + 1)) (by omega) (by omega) (by omega) (nLs_K hKk (by rw [hL]; decide)) hK' (fun q x y => by rw [upd_at, if_neg (by omega)]; exact hA q x y) hC' (by rw [upd_at, if_pos rfl, eA])
          refine ⟨A', w', r1, r2, r3, fun q hq => ?_⟩
          have := r5 q hq
          rw [upd_at, if_neg hq] at this
          exact this
        · rw [if_neg (by decide)]
          refine ⟨_, k, rfl, Cand_ext hC' (Ls_K hL).2 (by omega), by rw [upd_at, if_pos rfl, eA], fun q hq => by rw [upd_at, if_neg hq]⟩
    · simp only [c2, ↓reduceIte]
      exact skip (Cand_keep hC (fun g => absurd ((WN_m9 hik (by omega)).mpr g.2.2) c2))

/-! ===== pure: unseen, ask ===== -/
def OkS (D : Int32) (seen seenAs : Nat → Int32) (r : Nat) : Prop := ∃ k : Nat, k < 14 ∧ seen r = nI k ∧ ((seenAs r = 1 ∧ bt D k = true) ∨ (seenAs r = 0 ∧ bt D k = false))
theorem ag_iff {sz km dm sm : Int32} {seen seenAs : Nat → Int32} {m : Nat} (hm6 : m ≤ 6) (hs : ∀ r : Nat, r < m → (∃ k : Nat, k < 14 ∧ seen r = nI k) ∧ (seenAs r = 0 ∨ seenAs r = 1))
    (hb : ∀ k : Nat, k < 32 → (km.toBitVec.getLsbD k = true ↔ ∃ r : Nat, r < m ∧ seen r = nI k ∧ seenAs r = 1) ∧ (dm.toBitVec.getLsbD k = true ↔ ∃ r : Nat, r < m ∧ seen r = nI k ∧ seenAs r = 0)) (D : Int32) :
    (f_Seen_agreesWith km dm D = 1 ∧ ∀ r : Nat, r < m → OkS D seen seenAs r) ∨ (f_Seen_agreesWith km dm D = 0 ∧ ¬ ∀ r : Nat, r < m → OkS D seen seenAs r) := by
  have e1 : (D &&& km = km) ↔ ∀ k : Nat, k < 32 → bt km k = true → bt D k = true := by
    constructor
    · intro q k hk hbk
      have : bt (D &&& km) k = bt km k := by rw [q]
      rw [b_and, hbk, Bool.and_true] at this
      exact this
    · intro q
      apply b_ext
      intro i hi
      rw [b_and]
      cases hbk : bt km i
      · rw [Bool.and_false]
      · rw [q i hi hbk]; rfl
  have e2 : (D &&& dm = 0) ↔ ∀ k : Nat, k < 32 → bt dm k = true → bt D k = false := by
    constructor
    · intro q k hk hbk
      have : bt (D &&& dm) k = bt 0 k := by rw [q]
      rw [b_and, hbk, Bool.and_true, b_0] at this
      exact this
    · intro q
      apply b_ext
      intro i hi
      rw [b_and, b_0]
      cases hbk : bt dm i
      · rw [Bool.and_false]
      · rw [q i hi hbk]; rfl
  have key : (D &&& km = km ∧ D &&& dm = 0) ↔ ∀ r : Nat, r < m → OkS D seen seenAs r := by
    rw [e1, e2]
    constructor
    · rintro ⟨q1, q2⟩ r hr
      obtain ⟨⟨k, hk, ek⟩, ha⟩ := hs r hr
      refine ⟨k, hk, ek, ?_⟩
      rcases ha with ha | ha
      · exact Or.inr ⟨ha, q2 k (by omega) ((hb k (by omega)).2.mpr ⟨r, hr, ek, ha⟩)⟩
      · exact Or.inl ⟨ha, q1 k (by omega) ((hb k (by omega)).1.mpr ⟨r, hr, ek, ha⟩)⟩
    · intro q
      refine ⟨fun k hk hbk => ?_, fun k hk hbk => ?_⟩
      · obtain ⟨r, hr, a1, a2⟩ := (hb k hk).1.mp hbk
        obtain ⟨k', hk', ek, ha⟩ := q r hr
        rw [a1, nI_eq (by omega) (by omega)] at ek
        subst ek
        rcases ha with ⟨_, ha⟩ | ⟨ha, _⟩
        · exact ha
        · rw [a2] at ha; exact absurd ha (by decide)
      · obtain ⟨r, hr, a1, a2⟩ := (hb k hk).2.mp hbk
        obtain ⟨k', hk', ek, ha⟩ := q r hr
        rw [a1, nI_eq (by omega) (by omega)] at ek
        subst ek
        rcases ha with ⟨ha, _⟩ | ⟨_, ha⟩
        · rw [a2] at ha; exact absurd ha (by decide)
        · exact ha
  unfold f_Seen_agreesWith
  by_cases c1 : D &&& km = km
  · rw [if_pos c1]
    by_cases c2 : D &&& dm = 0
    · rw [if_pos c2]; exact Or.inl ⟨rfl, key.mp ⟨c1, c2⟩⟩
    · rw [if_neg c2]; exact Or.inr ⟨rfl, fun q => c2 (key.mpr q).2⟩
  · rw [if_neg c1]; exact Or.inr ⟨rfl, fun q => c1 (key.mpr q).1⟩
theorem ag_M {x1 : Int32} {seen seenAs doors : Nat → Int32} {m p : Nat} (hm6 : m ≤ 6) (hp : p < 100) (hs : ∀ r : Nat, r < m → (∃ k : Nat, k < 14 ∧ seen r = nI k) ∧ (seenAs r = 0 ∨ seenAs r = 1)) : ∀ (j r f : Nat) (x : Int32), r + j = m → j < f → (x = 1 ∨ x = 0) →
    ∃ y : Int32, f_Mo_layUnseen_L26 x1 (nI p) (nI m) seen seenAs doors f x (nI r) = some y ∧ ((y = 1 ∧ x = 1 ∧ ∀ q : Nat, r ≤ q → q < m → OkS (doors p) seen seenAs q) ∨ (y = 0 ∧ ¬ (x = 1 ∧ ∀ q : Nat, r ≤ q → q < m → OkS (doors p) seen seenAs q))) := by
  intro j
  induction j with
  | zero =>
    intro r f x hr hf hx
    obtain ⟨f, rfl⟩ : ∃ z, f = z + 1 := ⟨f - 1, by omega⟩
    refine ⟨x, ?_, ?_⟩
    · rw [f_Mo_layUnseen_L26_s, if_pos (nI_le (by omega) (by omega))]
    · rcases hx with rfl | rfl
      · exact Or.inl ⟨rfl, rfl, fun q a b => by omega⟩
      · exact Or.inr ⟨rfl, fun q => absurd q.1 (by decide)⟩
  | succ j ih =>
    intro r f x hr hf hx
    obtain ⟨f, rfl⟩ : ∃ z, f = z + 1 := ⟨f - 1, by omega⟩
    have ek : nI r + 1 = nI (r + 1) := by rw [l1, nI_add]
    obtain ⟨⟨k, hk, ek2⟩, ha⟩ := hs r (by omega)
    have go : ∀ x' : Int32, (x' = 1 ∨ x' = 0) → ((x' = 1) ↔ (x = 1 ∧ OkS (doors p) seen seenAs r)) → ∃ y : Int32, f_Mo_layUnseen_L26 x1 (nI p) (nI m) seen seenAs doors f x' (nI (r + 1)) = some y ∧ ((y = 1 ∧ x = 1 ∧ ∀ q : Nat, r ≤ q → q < m → OkS (doors p) seen seenAs q) ∨ (y = 0 ∧ ¬ (x = 1 ∧ ∀ q : Nat, r ≤ q → q < m → OkS (doors p) seen seenAs q))) := by
      intro x' hx' hi
      obtain ⟨y, e1, e2⟩ := ih (r + 1) f x' (by omega) (by omega) hx'
      refine ⟨y, e1, ?_⟩
      have eq : (x' = 1 ∧ ∀ q : Nat, r + 1 ≤ q → q < m → OkS (doors p) seen seenAs q) ↔ (x = 1 ∧ ∀ q : Nat, r ≤ q → q < m → OkS (doors p) seen seenAs q) := by
        constructor
        · rintro ⟨a, b⟩
          obtain ⟨a1, a2⟩ := hi.mp a
          refine ⟨a1, fun q c1 c2 => ?_⟩
          rcases Nat.eq_or_lt_of_le c1 with e | e
          · subst e; exact a2
          · exact b q e c2
        · rintro ⟨a, b⟩
          exact ⟨hi.mpr ⟨a, b r (Nat.le_refl _) (by omega)⟩, fun q c1 c2 => b q (by omega) c2⟩
      rcases e2 with ⟨a, b⟩ | ⟨a, b⟩
      · exact Or.inl ⟨a, eq.mp b⟩
      · exact Or.inr ⟨a, fun c => b (eq.mpr c)⟩
    have i2 : inB (seen r) 32 = true ∨ True := Or.inr trivial
    rw [f_Mo_layUnseen_L26_s, if_neg (nI_ge (by omega) (by omega))]
    simp only [inB_nI (show p < 100 by omega) (by omega), inB_nI (show r < 6 by omega) (by omega), ↓reduceIte, nI_clamp (show p < 2 ^ 31 by omega), nI_clamp (show r < 2 ^ 31 by omega), ek, ek2, has_bt _ (show k < 32 by omega)]
    rcases hx with hx | hx
    · rw [if_neg (show ¬ x = 0 by rw [hx]; decide)]
      cases hb : bt (doors p) k
      · simp only [reduceCtorEq, ↓reduceIte]
        rcases ha with ha | ha
        · rw [ha, if_pos rfl]
          exact go 1 (Or.inl rfl) ⟨fun _ => ⟨hx, k, hk, ek2, Or.inr ⟨ha, hb⟩⟩, fun _ => rfl⟩
        · rw [ha, if_neg (by decide)]
          refine go 0 (Or.inr rfl) ⟨fun q => absurd q (by decide), ?_⟩
          rintro ⟨-, k', hk', e', q | q⟩
          · rw [ek2, nI_eq (by omega) (by omega)] at e'; subst e'; rw [hb] at q; cases q.2
          · rw [ha] at q; exact absurd q.1 (by decide)
      · simp only [↓reduceIte, n10]
        rcases ha with ha | ha
        · rw [ha, if_neg (by decide)]
          refine go 0 (Or.inr rfl) ⟨fun q => absurd q (by decide), ?_⟩
          rintro ⟨-, k', hk', e', q | q⟩
          · rw [ha] at q; exact absurd q.1 (by decide)
          · rw [ek2, nI_eq (by omega) (by omega)] at e'; subst e'; rw [hb] at q; cases q.2
        · rw [ha, if_pos rfl]
          exact go 1 (Or.inl rfl) ⟨fun _ => ⟨hx, k, hk, ek2, Or.inl ⟨ha, hb⟩⟩, fun _ => rfl⟩
    · rw [if_pos hx]
      exact go 0 (Or.inr rfl) ⟨fun q => absurd q (by decide), fun q => by rw [hx] at q; exact absurd q.1 (by decide)⟩
theorem ag_01 (km dm D : Int32) : f_Seen_agreesWith km dm D = 0 ∨ f_Seen_agreesWith km dm D = 1 := by
  unfold f_Seen_agreesWith
  split
  · split
    · exact Or.inr rfl
    · exact Or.inl rfl
  · exact Or.inl rfl
theorem ag_eq {sz km dm sm : Int32} {seen seenAs doors : Nat → Int32} (hSe : SeenR sz km dm sm seen seenAs) (x1 : Int32) {p : Nat} (hp : p < 100) : f_Mo_layUnseen_L26 x1 (nI p) sm seen seenAs doors fu 1 0 = some (f_Seen_agreesWith km dm (doors p)) := by
  obtain ⟨m, hm, -, rfl, hs, hb⟩ := hSe
  obtain ⟨y, e1, e2⟩ := ag_M (x1 := x1) (doors := doors) hm hp hs m 0 fu 1 (by omega) (by unfold fu; omega) (Or.inl rfl)
  rw [show f_Mo_layUnseen_L26 x1 (nI p) (nI m) seen seenAs doors fu 1 0 = _ from e1]
  congr 1
  rcases ag_iff (sz := 0) (sm := 0) hm hs hb (doors p) with ⟨a, b⟩ | ⟨a, b⟩
  · rw [a]
    rcases e2 with ⟨c, _⟩ | ⟨_, c⟩
    · exact c
    · exact absurd ⟨rfl, fun q _ h => b q h⟩ c
  · rw [a]
    rcases e2 with ⟨_, _, c⟩ | ⟨c, _⟩
    · exact absurd (fun q h => c q (Nat.zero_le _) h) b
    · exact c
/-- how many promises below k are still possible -/
def cn (A : Nat → Int32) : Nat → Nat
  | 0 => 0
  | k + 1 => cn A k + (if A k = 0 then 0 else 1)
theorem cn_le (A : Nat → Int32) (k : Nat) : cn A k ≤ k := by
  induction k with
  | zero => exact Nat.le_refl _
  | succ k ih => unfold cn; split <;> omega
def lh (A : Nat → Int32) : Nat → Nat → Int32 → Int32 → Int32 × Int32
  | 0, _, a, b => (a, b)
  | m + 1, k, a, b => if A k = 0 then lh A m (k + 1) a b else if a = -9 then lh A m (k + 1) (nI k) (nI k) else lh A m (k + 1) a (nI k)
/-- how many of them keep j -/
def ck (A M : Nat → Int32) (j : Nat) : Nat → Nat
  | 0 => 0
  | k + 1 => ck A M j k + (if A k = 0 then 0 else if bt (M k) j = true then 1 else 0)
theorem ck_le (A M : Nat → Int32) (j k : Nat) : ck A M j k ≤ cn A k := by
  induction k with
  | zero => exact Nat.le_refl _
  | succ k ih =>
    unfold ck cn
    split
    · exact ih
    · split <;> omega
theorem lay_L {n p d : Nat} {T V now : Nat → Int32} (h : LW n p d T V) (hr : RowIs now n p d T V) {sz km dm sm : Int32} {seen seenAs : Nat → Int32} (hSe : SeenR sz km dm sm seen seenAs) (M A : Nat → Int32) (hM : ∀ q : Nat, q < 100 → f_Mo_door now (nI q) = some (M q)) (hA : ∀ q : Nat, q < 100 → A q = f_Seen_agreesWith km dm (M q)) : ∀ (m k f : Nat) (ds so : Nat → Int32), k + m = 100 → m < f → (∀ q : Nat, q < k → ds q = M q ∧ so q = A q) →
    ∃ ds' so' : Nat → Int32, f_Mo_layUnseen_L4 sm now seen seenAs f (nI (cn A k)) (nI k) ds so = some (nI (cn A 100), ds', so') ∧ ∀ q : Nat, q < 100 → ds' q = M q ∧ so' q = A q := by
  intro m
  induction m with
  | zero =>
    intro k f ds so hk hf hq
    obtain ⟨f, rfl⟩ : ∃ z, f = z + 1 := ⟨f - 1, by omega⟩
    have : k = 100 := by omega
    subst this
    refine ⟨ds, so, ?_, hq⟩
    rw [f_Mo_layUnseen_L4_s, if_pos (show (100 : Int32) ≤ nI 100 from Int32.le_refl _)]
  | succ m ih =>
    intro k f ds so hk hf hq
    obtain ⟨f, rfl⟩ : ∃ z, f = z + 1 := ⟨f - 1, by omega⟩
    have ek : nI k + 1 = nI (k + 1) := by rw [l1, nI_add]
    have hcn := cn_le A k
    have nb : ∀ z : Int32, (z = 0 ∨ z = 1) → vp_nar .boolean z = z := by
      rintro z (rfl | rfl)
      · rfl
      · rfl
    rw [f_Mo_layUnseen_L4_s, if_neg (show ¬ (100 : Int32) ≤ nI k from nI_ge (a := k) (b := 100) (by omega) (by omega)), hM k (by omega), Option.bind_some]
    simp only [inB_nI (show k < 100 by omega) (by omega), ↓reduceIte, nI_clamp (show k < 2 ^ 31 by omega), ek]
    rw [ag_eq hSe _ (show k < 100 by omega), Option.bind_some, upd_at, if_pos rfl, ← hA k (by omega)]
    have h01 : A k = 0 ∨ A k = 1 := by rw [hA k (by omega)]; exact ag_01 _ _ _
    rw [nb _ h01]
    have hq' : ∀ q : Nat, q < k + 1 → upd ds k (M k) q = M q ∧ upd so k (A k) q = A q := by
      intro q hqk
      rw [upd_at, upd_at]
      by_cases e : q = k
      · subst e; rw [if_pos rfl, if_pos rfl]; exact ⟨rfl, rfl⟩
      · rw [if_neg e, if_neg e]; exact hq q (by omega)
    have ec : cn A (k + 1) = cn A k + (if A k = 0 then 0 else 1) := rfl
    by_cases c : A k = 0
    · rw [if_pos c] at ec ⊢
      have := ih (k + 1) f (upd ds k (M k)) (upd so k (A k)) (by omega) (by omega) hq'
      rw [ec] at this
      rw [show nI (cn A k) + (0 : Int32) = nI (cn A k + 0) from by rw [l0, nI_add]]
      exact this
    · rw [if_neg c] at ec ⊢
      have := ih (k + 1) f (upd ds k (M k)) (upd so k (A k)) (by omega) (by omega) hq'
      rw [ec] at this
      rw [show nI (cn A k) + (1 : Int32) = nI (cn A k + 1) from by rw [l1, nI_add]]
      exact this
theorem layU {n p d : Nat} {T V now : Nat → Int32} (h : LW n p d T V) (hr : RowIs now n p d T V) {sz km dm sm : Int32} {seen seenAs : Nat → Int32} (hSe : SeenR sz km dm sm seen seenAs) (M A : Nat → Int32) (hM : ∀ q : Nat, q < 100 → f_Mo_door now (nI q) = some (M q)) (hA : ∀ q : Nat, q < 100 → A q = f_Seen_agreesWith km dm (M q)) (ds so : Nat → Int32) : ∃ ds' so' : Nat → Int32, f_Mo_layUnseen sm now seen seenAs ds so = some (nI (cn A 100), ds', so') ∧ ∀ q : Nat, q < 100 → ds' q = M q ∧ so' q = A q := by
  obtain ⟨ds', so', e1, e2⟩ := lay_L h hr hSe M A hM hA 100 0 fu ds so (by omega) (by unfold fu; omega) (fun q hq => absurd hq (by omega))
  refine ⟨ds', so', ?_, e2⟩
  unfold f_Mo_layUnseen
  rw [show f_Mo_layUnseen_L4 sm now seen seenAs fu 0 0 ds so = _ from e1]
  rfl
theorem lhM {A so : Nat → Int32} (x1 x2 : Int32) (hA : ∀ q : Nat, q < 100 → so q = A q) : ∀ (m k f : Nat) (a b : Int32), k + m = 100 → m < f → f_Mo_unseen_L26 x1 x2 so f a b (nI k) = some (lh A m k a b) := by
  intro m
  induction m with
  | zero =>
    intro k f a b hk hf
    obtain ⟨f, rfl⟩ : ∃ z, f = z + 1 := ⟨f - 1, by omega⟩
    have : k = 100 := by omega
    subst this
    rw [f_Mo_unseen_L26_s, if_pos (show (100 : Int32) ≤ nI 100 from Int32.le_refl _)]
    rfl
  | succ m ih =>
    intro k f a b hk hf
    obtain ⟨f, rfl⟩ : ∃ z, f = z + 1 := ⟨f - 1, by omega⟩
    have ek : nI k + 1 = nI (k + 1) := by rw [l1, nI_add]
    rw [f_Mo_unseen_L26_s, if_neg (show ¬ (100 : Int32) ≤ nI k from nI_ge (a := k) (b := 100) (by omega) (by omega))]
    simp only [inB_nI (show k < 100 by omega) (by omega), ↓reduceIte, nI_clamp (show k < 2 ^ 31 by omega), ek, hA k (by omega)]
    unfold lh
    by_cases c : A k = 0
    · simp only [c, ↓reduceIte]; exact ih _ _ _ _ (by omega) (by omega)
    · simp only [c, ↓reduceIte]
      by_cases c2 : a = -9
      · simp only [c2, ↓reduceIte]; exact ih _ _ _ _ (by omega) (by omega)
      · simp only [c2, ↓reduceIte]; exact ih _ _ _ _ (by omega) (by omega)
theorem lhX {M A : Nat → Int32} {km dm : Int32} (hA : ∀ q : Nat, q < 100 → A q = f_Seen_agreesWith km dm (M q)) : ∀ (m k f : Nat) (a b : Int32), k + m = 100 → m < f → f_Survey_run_L23 M km dm f (nI k) (nI (cn A k)) a b = some (nI (cn A 100), (lh A m k a b).1, (lh A m k a b).2) := by
  intro m
  induction m with
  | zero =>
    intro k f a b hk hf
    obtain ⟨f, rfl⟩ : ∃ z, f = z + 1 := ⟨f - 1, by omega⟩
    have : k = 100 := by omega
    subst this
    rw [f_Survey_run_L23_s, if_pos (show (99 : Int32) < nI 100 from by decide)]
    rfl
  | succ m ih =>
    intro k f a b hk hf
    obtain ⟨f, rfl⟩ : ∃ z, f = z + 1 := ⟨f - 1, by omega⟩
    have ek : nI k + 1 = nI (k + 1) := by rw [l1, nI_add]
    have hcn := cn_le A k
    have ec : cn A (k + 1) = cn A k + (if A k = 0 then 0 else 1) := rfl
    have ec1 : nI (cn A k) + 1 = nI (cn A k + 1) := by rw [l1, nI_add]
    rw [f_Survey_run_L23_s, if_neg (show ¬ (99 : Int32) < nI k from by rw [l99]; exact nI_nlt (by omega) (by omega))]
    simp only [inB_nI (show k < 100 by omega) (by omega), ↓reduceIte, nI_clamp (show k < 2 ^ 31 by omega), ek, ← hA k (by omega), ec1]
    unfold lh
    by_cases c : A k = 0
    · rw [if_pos c] at ec
      simp only [c, ↓reduceIte]
      have := ih (k + 1) f a b (by omega) (by omega)
      rw [ec] at this; exact this
    · rw [if_neg c] at ec
      simp only [c, ↓reduceIte]
      by_cases c2 : a = -9
      · simp only [c2, ↓reduceIte]
        have := ih (k + 1) f (nI k) (nI k) (by omega) (by omega)
        rw [ec] at this; exact this
      · simp only [c2, ↓reduceIte]
        have := ih (k + 1) f a (nI k) (by omega) (by omega)
        rw [ec] at this; exact this
theorem ckM {A M so ds : Nat → Int32} (x1 x2 x3 : Int32) {j : Nat} (hj : j < 14) (hA : ∀ q : Nat, q < 100 → ds q = M q ∧ so q = A q) : ∀ (m k f : Nat), k + m = 100 → m < f → f_Mo_ask_L36 x1 x2 x3 (nI j) ds so f (nI (ck A M j k)) (nI k) = some (nI (ck A M j 100)) := by
  intro m
  induction m with
  | zero =>
    intro k f hk hf
    obtain ⟨f, rfl⟩ : ∃ z, f = z + 1 := ⟨f - 1, by omega⟩
    have : k = 100 := by omega
    subst this
    rw [f_Mo_ask_L36_s, if_pos (show (100 : Int32) ≤ nI 100 from Int32.le_refl _)]
  | succ m ih =>
    intro k f hk hf
    obtain ⟨f, rfl⟩ : ∃ z, f = z + 1 := ⟨f - 1, by omega⟩
    have ek : nI k + 1 = nI (k + 1) := by rw [l1, nI_add]
    have e0 : nI (ck A M j k) + 0 = nI (ck A M j k + 0) := by rw [l0, nI_add]
    have e1 : nI (ck A M j k) + 1 = nI (ck A M j k + 1) := by rw [l1, nI_add]
    have ec : ck A M j (k + 1) = ck A M j k + (if A k = 0 then 0 else if bt (M k) j = true then 1 else 0) := rfl
    have := ih (k + 1) f (by omega) (by omega)
    rw [ec] at this
    rw [f_Mo_ask_L36_s, if_neg (show ¬ (100 : Int32) ≤ nI k from nI_ge (a := k) (b := 100) (by omega) (by omega))]
    simp only [inB_nI (show k < 100 by omega) (by omega), ↓reduceIte, nI_clamp (show k < 2 ^ 31 by omega), ek, (hA k (by omega)).1, (hA k (by omega)).2, has_bt _ (show j < 32 by omega), e0, e1]
    by_cases c : A k = 0
    · simp only [c, ↓reduceIte] at this ⊢; exact this
    · simp only [c, ↓reduceIte] at this ⊢
      cases hb : bt (M k) j
      · simp only [hb, reduceCtorEq, ↓reduceIte] at this ⊢; exact this
      · simp only [hb, ↓reduceIte, n10] at this ⊢; exact this
theorem ckX {A M : Nat → Int32} {km dm : Int32} {j : Nat} (hj : j < 14) (hA : ∀ q : Nat, q < 100 → A q = f_Seen_agreesWith km dm (M q)) : ∀ (m k f : Nat), k + m = 100 → m < f → f_Survey_countKept_L4 (nI j) M km dm f (nI (ck A M j k)) (nI k) = some (nI (ck A M j 100)) := by
  intro m
  induction m with
  | zero =>
    intro k f hk hf
    obtain ⟨f, rfl⟩ : ∃ z, f = z + 1 := ⟨f - 1, by omega⟩
    have : k = 100 := by omega
    subst this
    rw [f_Survey_countKept_L4_s, if_pos (show (99 : Int32) < nI 100 from by decide)]
  | succ m ih =>
    intro k f hk hf
    obtain ⟨f, rfl⟩ : ∃ z, f = z + 1 := ⟨f - 1, by omega⟩
    have ek : nI k + 1 = nI (k + 1) := by rw [l1, nI_add]
    have e0 : nI (ck A M j k) + 0 = nI (ck A M j k + 0) := by rw [l0, nI_add]
    have e1 : nI (ck A M j k) + 1 = nI (ck A M j k + 1) := by rw [l1, nI_add]
    have ec : ck A M j (k + 1) = ck A M j k + (if A k = 0 then 0 else if bt (M k) j = true then 1 else 0) := rfl
    have := ih (k + 1) f (by omega) (by omega)
    rw [ec] at this
    rw [f_Survey_countKept_L4_s, if_neg (show ¬ (99 : Int32) < nI k from by rw [l99]; exact nI_nlt (by omega) (by omega))]
    simp only [inB_nI (show k < 100 by omega) (by omega), ↓reduceIte, nI_clamp (show k < 2 ^ 31 by omega), ek, ← hA k (by omega), bitAt_bt _ (show j < 32 by omega)]
    by_cases c : A k = 0
    · simp only [c, ↓reduceIte, Nat.add_zero] at this ⊢; exact this
    · simp only [c, ↓reduceIte] at this ⊢
      cases hb : bt (M k) j
      · simp only [hb, reduceCtorEq, ↓reduceIte, e0] at this ⊢; exact this
      · simp only [hb, ↓reduceIte, e1] at this ⊢; exact this
theorem best_L {n p d : Nat} {T V now : Nat → Int32} (h : LW n p d T V) (hr : RowIs now n p d T V) {A M so ds : Nat → Int32} {km dm : Int32} (hA : ∀ q : Nat, q < 100 → A q = f_Seen_agreesWith km dm (M q)) (hB : ∀ q : Nat, q < 100 → ds q = M q ∧ so q = A q) : ∀ (m k f1 f2 : Nat) (r x y : Int32), k + m = n → m < f1 → m < f2 → ((x = nI (cn A 100 + 1) ∧ y = 101) ∨ (x = y ∧ ∃ z : Nat, z ≤ 100 ∧ x = nI z)) →
    ∃ a : Int32, f_Survey_bestReading_L12 (nI (cn A 100)) M (nI n) V km dm f1 r x (nI k) = some a ∧ f_Mo_ask_L14 (nI (cn A 100)) now ds so f2 r y (nI k) = some a := by
  have hn := h.1
  have hcn := cn_le A 100
  have z0 : ((0 : Int32)).toNatClampNeg = 0 := rfl
  have i0 : inB (0 : Int32) 31 = true := by decide
  intro m
  induction m with
  | zero =>
    intro k f1 f2 r x y hk hf1 hf2 hxy
    obtain ⟨f1, rfl⟩ : ∃ z, f1 = z + 1 := ⟨f1 - 1, by omega⟩
    obtain ⟨f2, rfl⟩ : ∃ z, f2 = z + 1 := ⟨f2 - 1, by omega⟩
    refine ⟨r, ?_, ?_⟩
    · rw [f_Survey_bestReading_L12_s, if_pos (nI_le (by omega) (by omega))]
    · rw [f_Mo_ask_L14_s, i0, if_pos rfl, z0, hr.1, if_pos (nI_le (by omega) (by omega))]
  | succ m ih =>
    intro k f1 f2 r x y hk hf1 hf2 hxy
    obtain ⟨f1, rfl⟩ : ∃ z, f1 = z + 1 := ⟨f1 - 1, by omega⟩
    obtain ⟨f2, rfl⟩ : ∃ z, f2 = z + 1 := ⟨f2 - 1, by omega⟩
    have ek : nI k + 1 = nI (k + 1) := by rw [l1, nI_add]
    have hck := ck_le A M k 100
    have c1X : f_Survey_countKept M km dm (nI k) = some (nI (ck A M k 100)) := by
      unfold f_Survey_countKept
      rw [show f_Survey_countKept_L4 (nI k) M km dm fu 0 0 = _ from ckX (show k < 14 by omega) hA 100 0 fu (by omega) (by unfold fu; omega)]
      rfl
    have c1M : f_Mo_ask_L36 (nI (cn A 100)) r y (nI k) ds so fu 0 0 = some (nI (ck A M k 100)) := ckM _ _ _ (show k < 14 by omega) hB 100 0 fu (by omega) (by unfold fu; omega)
    rw [f_Survey_bestReading_L12_s, f_Mo_ask_L14_s, if_neg (nI_ge (by omega) (by omega)), i0, if_pos rfl, z0, hr.1, if_neg (nI_ge (by omega) (by omega)), c1X, c1M, Option.bind_some, Option.bind_some, knX hn V (by omega), knM hn hr (by omega), ek, pk_sub hck]
    simp only [Option.bind_some, b2_0, nI_lt' (show ck A M k 100 < 2 ^ 31 by omega) (show cn A 100 - ck A M k 100 < 2 ^ 31 by omega), nI_le' (show ck A M k 100 < 2 ^ 31 by omega) (show cn A 100 - ck A M k 100 < 2 ^ 31 by omega)]
    by_cases c0 : nI (cn A 100) ≤ 1
    · rw [if_pos c0, if_pos c0]; exact ⟨r, rfl, rfl⟩
    · rw [if_neg c0, if_neg c0]
      -- the worse of the two
      have hW : ∃ W : Nat, W ≤ cn A 100 ∧ (if ck A M k 100 < cn A 100 - ck A M k 100 then nI (cn A 100 - ck A M k 100) else nI (ck A M k 100)) = nI W ∧ (if ck A M k 100 ≤ cn A 100 - ck A M k 100 then nI (cn A 100 - ck A M k 100) else nI (ck A M k 100)) = nI W := by
        by_cases c : ck A M k 100 < cn A 100 - ck A M k 100
        · exact ⟨cn A 100 - ck A M k 100, by omega, by rw [if_pos c], by rw [if_pos (by omega)]⟩
        · refine ⟨ck A M k 100, hck, by rw [if_neg c], ?_⟩
          by_cases c2 : ck A M k 100 ≤ cn A 100 - ck A M k 100
          · rw [if_pos c2]; congr 1; omega
          · rw [if_neg c2]
      obtain ⟨W, w1, w2, w3⟩ := hW
      have eM : (if ck A M k 100 ≤ cn A 100 - ck A M k 100 then
          (if Kn n V k = false then f_Mo_ask_L14 (nI (cn A 100)) now ds so f2 r y (nI (k + 1)) else if y ≤ nI (cn A 100 - ck A M k 100) then f_Mo_ask_L14 (nI (cn A 100)) now ds so f2 r y (nI (k + 1)) else f_Mo_ask_L14 (nI (cn A 100)) now ds so f2 (nI k) (nI (cn A 100 - ck A M k 100)) (nI (k + 1)))
        else (if Kn n V k = false then f_Mo_ask_L14 (nI (cn A 100)) now ds so f2 r y (nI (k + 1)) else if y ≤ nI (ck A M k 100) then f_Mo_ask_L14 (nI (cn A 100)) now ds so f2 r y (nI (k + 1)) else f_Mo_ask_L14 (nI (cn A 100)) now ds so f2 (nI k) (nI (ck A M k 100)) (nI (k + 1)))) =
          (if Kn n V k = false then f_Mo_ask_L14 (nI (cn A 100)) now ds so f2 r y (nI (k + 1)) else if y ≤ nI W then f_Mo_ask_L14 (nI (cn A 100)) now ds so f2 r y (nI (k + 1)) else f_Mo_ask_L14 (nI (cn A 100)) now ds so f2 (nI k) (nI W) (nI (k + 1))) := by
        by_cases c : ck A M k 100 ≤ cn A 100 - ck A M k 100
        · rw [if_pos c] at w3 ⊢; rw [w3]
        · rw [if_neg c] at w3 ⊢; rw [w3]
      rw [eM, w2]
      cases hK : Kn n V k
      · simp only [↓reduceIte]
        exact ih (k + 1) f1 f2 r x y (by omega) (by omega) (by omega) hxy
      · simp only [reduceCtorEq, ↓reduceIte]
        rcases hxy with ⟨rfl, rfl⟩ | ⟨rfl, z, hz, rfl⟩
        · rw [if_neg (nI_ge (by omega) (by omega)), if_neg (show ¬ (101 : Int32) ≤ nI W from nI_ge (a := W) (b := 101) (by omega) (by omega))]
          exact ih (k + 1) f1 f2 (nI k) (nI W) (nI W) (by omega) (by omega) (by omega) (Or.inr ⟨rfl, W, by omega, rfl⟩)
        · by_cases c : nI z ≤ nI W
          · rw [if_pos c, if_pos c]
            exact ih (k + 1) f1 f2 r (nI z) (nI z) (by omega) (by omega) (by omega) (Or.inr ⟨rfl, z, hz, rfl⟩)
          · rw [if_neg c, if_neg c]
            exact ih (k + 1) f1 f2 (nI k) (nI W) (nI W) (by omega) (by omega) (by omega) (Or.inr ⟨rfl, W, by omega, rfl⟩)
theorem swing_L {n p d : Nat} {T V N now : Nat → Int32} (h : LW n p d T V) (hr : RowIs now n p d T V) (hN : NeedsOk n T V N) : ∀ (m k f : Nat) (M : Nat → Int32), k + m = 100 → m < f → (∀ q : Nat, q < k → f_Mo_door now (nI q) = some (M q)) → ∃ M' : Nat → Int32, f_Survey_swingAllDoors_L15 (nI n) (nI d) V N f (nI k) M = some M' ∧ ∀ q : Nat, q < 100 → f_Mo_door now (nI q) = some (M' q) := by
  intro m
  induction m with
  | zero =>
    intro k f M hk hf hq
    obtain ⟨f, rfl⟩ : ∃ z, f = z + 1 := ⟨f - 1, by omega⟩
    have : k = 100 := by omega
    subst this
    refine ⟨M, ?_, hq⟩
    rw [f_Survey_swingAllDoors_L15_s, if_pos (show (99 : Int32) < nI 100 from by decide)]
  | succ m ih =>
    intro k f M hk hf hq
    obtain ⟨f, rfl⟩ : ∃ z, f = z + 1 := ⟨f - 1, by omega⟩
    have ek : nI k + 1 = nI (k + 1) := by rw [l1, nI_add]
    obtain ⟨d1, d2⟩ := door_ok h hr hN (show k ≤ 99 by omega)
    rw [f_Survey_swingAllDoors_L15_s, if_neg (show ¬ (99 : Int32) < nI k from by rw [l99]; exact nI_nlt (by omega) (by omega)), d1, Option.bind_some]
    simp only [inB_nI (show k < 100 by omega) (by omega), ↓reduceIte, nI_clamp (show k < 2 ^ 31 by omega), ek]
    refine ih (k + 1) f _ (by omega) (by omega) (fun q hqk => ?_)
    rw [upd_at]
    by_cases e : q = k
    · subst e; rw [if_pos rfl]; exact d2
    · rw [if_neg e]; exact hq q (by omega)
theorem run_ok {n p d : Nat} {T V N now : Nat → Int32} (h : LW n p d T V) (hr : RowIs now n p d T V) (hN : NeedsOk n T V N) {io : Int32} {M : Nat → Int32} (hSu : SurvR io M now) (a b c km dm : Int32) : ∃ M' A : Nat → Int32, f_Survey_run io a b c M (nI n) (nI d) V N km dm = some (0, nI (cn A 100), (lh A 100 0 (-9) (-9)).1, (lh A 100 0 (-9) (-9)).2, M') ∧ (∀ q : Nat, q < 100 → f_Mo_door now (nI q) = some (M' q)) ∧ (∀ q : Nat, q < 100 → A q = f_Seen_agreesWith km dm (M' q)) := by
  have sw : ∃ M' : Nat → Int32, f_Survey_swingAllDoors io M (nI n) (nI d) V N = some (0, M') ∧ ∀ q : Nat, q < 100 → f_Mo_door now (nI q) = some (M' q) := by
    unfold f_Survey_swingAllDoors
    rcases hSu with rfl | ⟨rfl, hq⟩
    · obtain ⟨M', e1, e2⟩ := swing_L h hr hN 100 0 fu M (by omega) (by unfold fu; omega) (fun q hq => absurd hq (by omega))
      refine ⟨M', ?_, e2⟩
      rw [if_neg (by decide), show f_Survey_swingAllDoors_L15 (nI n) (nI d) V N fu 0 M = _ from e1]
      rfl
    · exact ⟨M, by rw [if_pos rfl], hq⟩
  obtain ⟨M', e1, e2⟩ := sw
  refine ⟨M', fun q => f_Seen_agreesWith km dm (M' q), ?_, e2, fun q _ => rfl⟩
  unfold f_Survey_run
  rw [e1, Option.bind_some, show f_Survey_run_L23 M' km dm fu 0 0 (-9) (-9) = _ from lhX (A := fun q => f_Seen_agreesWith km dm (M' q)) (fun q _ => rfl) 100 0 fu (-9) (-9) (by omega) (by unfold fu; omega)]
  rfl
theorem fresh_needs {n p d : Nat} {T V now : Nat → Int32} {st : Int32} {S N : Nat → Int32} {pcs dm lm : Int32} {PA SE : Nat → Int32} (hF : Fresh n V T st S N pcs dm lm PA SE now) : NeedsOk n T V N := fun i j a b => hF.2.2.1 i j a (Kn_lt (b j (by omega) (Nat.le_refl _))) b
theorem p_unseen (v_text_length : Int32) (A_text_letters : Nat → Int32) (v_parser_at : Int32) (v_parser_kind : Int32) (v_parser_place : Int32) (v_parser_number : Int32) (v_parser_isPromiseTold : Int32) (v_parser_isDelayTold : Int32) (v_parser_draft_size : Int32) (v_parser_draft_promise : Int32) (v_parser_draft_delay : Int32) (A_parser_draft_times : Nat → Int32) (A_parser_draft_values : Nat → Int32) (v_log_size : Int32) (v_log_promise : Int32) (v_log_delay : Int32) (A_log_times : Nat → Int32) (A_log_values : Nat → Int32) (v_history_next : Int32) (v_history_size : Int32) (v_history_ring_places : Int32) (v_history_ring_filled : Int32) (A_history_ring_cells : Nat → Int32) (v_images_places : Int32) (v_images_filled : Int32) (A_images_cells : Nat → Int32) (v_lines_stretches : Int32) (A_lines_stretch : Nat → Int32) (A_lines_needs : Nat → Int32) (v_thinning_isOutdated : Int32) (v_thinning_pieces : Int32) (v_thinning_doorMask : Int32) (v_thinning_leastMask : Int32) (A_thinning_piece : Nat → Int32) (A_thinning_sent : Nat → Int32) (A_thinning_steps : Nat → Int32) (A_thinning_next : Nat → Int32) (v_seen_size : Int32) (v_seen_keptMask : Int32) (v_seen_droppedMask : Int32) (v_survey_isOutdated : Int32) (v_survey_possible : Int32) (v_survey_least : Int32) (v_survey_greatest : Int32) (A_survey_doorMasks : Nat → Int32) (v_fraction_upper : Int32) (v_fraction_lower : Int32) (v_undoMany : Int32) (v_undoAt : Int32) (v_seenMany : Int32) (v_letterMany : Int32) (v_readAt : Int32) (v_tokenAt : Int32) (v_token : Int32) (v_value : Int32) (v_faultAt : Int32) (v_readOnce : Int32) (v_greatUpper : Int64) (v_greatLower : Int64) (A_now : Nat → Int32) (A_undos : Nat → Int32) (A_seen : Nat → Int32) (A_seenAs : Nat → Int32) (A_isKept : Nat → Int32) (A_kept : Nat → Int32) (A_text : Nat → Int32) (A_read : Nat → Int32) (A_fewest : Nat → Int32) (A_doors : Nat → Int32) (A_isSo : Nat → Int32) (p1 : Int32) (h : Rel v_text_length A_text_letters v_log_size v_log_promise v_log_delay A_log_times A_log_values v_history_next v_history_size v_history_ring_places v_history_ring_filled A_history_ring_cells v_images_places v_images_filled A_images_cells v_lines_stretches A_lines_stretch A_lines_needs v_thinning_isOutdated v_thinning_pieces v_thinning_doorMask v_thinning_leastMask A_thinning_piece A_thinning_sent v_seen_size v_seen_keptMask v_seen_droppedMask v_survey_isOutdated A_survey_doorMasks v_undoMany v_undoAt v_seenMany v_letterMany A_now A_undos A_seen A_seenAs A_isKept A_kept A_text) : ∃ (zX : Int32 × Int32 × (Nat → Int32) × (Nat → Int32) × Int32 × Int32 × Int32 × Int32 × (Nat → Int32) × (Nat → Int32) × (Nat → Int32) × (Nat → Int32) × Int32 × Int32 × Int32 × Int32 × (Nat → Int32)) (zM : Int32 × (Nat → Int32) × (Nat → Int32)), f_TR_unseen v_log_size v_log_promise v_log_delay A_log_times A_log_values v_lines_stretches A_lines_stretch A_lines_needs v_thinning_isOutdated v_thinning_pieces v_thinning_doorMask v_thinning_leastMask A_thinning_piece A_thinning_sent A_thinning_steps A_thinning_next v_seen_keptMask v_seen_droppedMask v_survey_isOutdated v_survey_possible v_survey_least v_survey_greatest A_survey_doorMasks p1 = some zX ∧ f_Mo_unseen v_seenMany A_now A_seen A_seenAs A_doors A_isSo p1 = some zM ∧ zX.1 = zM.1 ∧ Rel v_text_length A_text_letters v_log_size v_log_promise v_log_delay A_log_times A_log_values v_history_next v_history_size v_history_ring_places v_history_ring_filled A_history_ring_cells v_images_places v_images_filled A_images_cells zX.2.1 zX.2.2.1 zX.2.2.2.1 zX.2.2.2.2.1 zX.2.2.2.2.2.1 zX.2.2.2.2.2.2.1 zX.2.2.2.2.2.2.2.1 zX.2.2.2.2.2.2.2.2.1 zX.2.2.2.2.2.2.2.2.2.1 v_seen_size v_seen_keptMask v_seen_droppedMask zX.2.2.2.2.2.2.2.2.2.2.2.2.1 zX.2.2.2.2.2.2.2.2.2.2.2.2.2.2.2.2 v_undoMany v_undoAt v_seenMany v_letterMany A_now A_undos A_seen A_seenAs A_isKept A_kept A_text := by
  obtain ⟨hT, ⟨n, p, d, hw, rfl, rfl, rfl, hrow⟩, hHi, hI, hTh, hSe, hSu⟩ := h
  have hn := hw.1
  have hp := hw.2.1
  unfold f_TR_unseen f_Mo_unseen
  rcases within_cases p1 2 (by omega) with ⟨a1, a2⟩ | ⟨t, ht, rfl, a1, a2⟩
  · rw [← l2] at a1 a2
    rw [a1, a2]
    exact ⟨_, _, rfl, rfl, rfl, hT, ⟨n, p, d, hw, rfl, rfl, rfl, hrow⟩, hHi, hI, hTh, hSe, hSu⟩
  · rw [← l2] at a1 a2
    rw [nI_clamp (show n < 2 ^ 31 by omega)] at hTh
    obtain ⟨pcs', dm', lm', PA', SE', ST', NX', st', S', N', e, hF⟩ := refresh_ok hw hrow hTh A_thinning_steps A_thinning_next
    have hN := fresh_needs (p := p) (d := d) hF
    have fin := ThinR_of hF
    rw [← nI_clamp (show n < 2 ^ 31 by omega)] at fin
    obtain ⟨M', A, r1, r2, r3⟩ := run_ok hw hrow hN hSu v_survey_possible v_survey_least v_survey_greatest v_seen_keptMask v_seen_droppedMask
    obtain ⟨ds', so', s1, s2⟩ := layU hw hrow hSe M' A r2 r3 A_doors A_isSo
    have rel := (⟨hT, ⟨n, p, d, hw, rfl, rfl, rfl, hrow⟩, hHi, hI, fin, hSe, Or.inr ⟨rfl, r2⟩⟩ : Rel v_text_length A_text_letters (nI n) (nI p) (nI d) A_log_times A_log_values v_history_next v_history_size v_history_ring_places v_history_ring_filled A_history_ring_cells v_images_places v_images_filled A_images_cells st' S' N' 0 pcs' dm' lm' PA' SE' v_seen_size v_seen_keptMask v_seen_droppedMask 0 M' v_undoMany v_undoAt v_seenMany v_letterMany A_now A_undos A_seen A_seenAs A_isKept A_kept A_text)
    have lm := lhM (A := A) (nI t) (nI (cn A 100)) (fun q hq => (s2 q hq).2) 100 0 fu (-9) (-9) (by omega) (by unfold fu; omega)
    rw [a1, a2, e]
    simp only [Option.bind_some, n10, ↓reduceIte, r1, s1]
    rw [show f_Mo_unseen_L26 (nI t) (nI (cn A 100)) so' fu (-9) (-9) 0 = _ from lm, Option.bind_some]
    rcases (show t = 0 ∨ t = 1 ∨ t = 2 by omega) with rfl | rfl | rfl
    · exact ⟨_, _, rfl, rfl, rfl, rel⟩
    · exact ⟨_, _, rfl, rfl, rfl, rel⟩
    · exact ⟨_, _, rfl, rfl, rfl, rel⟩
theorem p_ask (v_text_length : Int32) (A_text_letters : Nat → Int32) (v_parser_at : Int32) (v_parser_kind : Int32) (v_parser_place : Int32) (v_parser_number : Int32) (v_parser_isPromiseTold : Int32) (v_parser_isDelayTold : Int32) (v_parser_draft_size : Int32) (v_parser_draft_promise : Int32) (v_parser_draft_delay : Int32) (A_parser_draft_times : Nat → Int32) (A_parser_draft_values : Nat → Int32) (v_log_size : Int32) (v_log_promise : Int32) (v_log_delay : Int32) (A_log_times : Nat → Int32) (A_log_values : Nat → Int32) (v_history_next : Int32) (v_history_size : Int32) (v_history_ring_places : Int32) (v_history_ring_filled : Int32) (A_history_ring_cells : Nat → Int32) (v_images_places : Int32) (v_images_filled : Int32) (A_images_cells : Nat → Int32) (v_lines_stretches : Int32) (A_lines_stretch : Nat → Int32) (A_lines_needs : Nat → Int32) (v_thinning_isOutdated : Int32) (v_thinning_pieces : Int32) (v_thinning_doorMask : Int32) (v_thinning_leastMask : Int32) (A_thinning_piece : Nat → Int32) (A_thinning_sent : Nat → Int32) (A_thinning_steps : Nat → Int32) (A_thinning_next : Nat → Int32) (v_seen_size : Int32) (v_seen_keptMask : Int32) (v_seen_droppedMask : Int32) (v_survey_isOutdated : Int32) (v_survey_possible : Int32) (v_survey_least : Int32) (v_survey_greatest : Int32) (A_survey_doorMasks : Nat → Int32) (v_fraction_upper : Int32) (v_fraction_lower : Int32) (v_undoMany : Int32) (v_undoAt : Int32) (v_seenMany : Int32) (v_letterMany : Int32) (v_readAt : Int32) (v_tokenAt : Int32) (v_token : Int32) (v_value : Int32) (v_faultAt : Int32) (v_readOnce : Int32) (v_greatUpper : Int64) (v_greatLower : Int64) (A_now : Nat → Int32) (A_undos : Nat → Int32) (A_seen : Nat → Int32) (A_seenAs : Nat → Int32) (A_isKept : Nat → Int32) (A_kept : Nat → Int32) (A_text : Nat → Int32) (A_read : Nat → Int32) (A_fewest : Nat → Int32) (A_doors : Nat → Int32) (A_isSo : Nat → Int32)  (h : Rel v_text_length A_text_letters v_log_size v_log_promise v_log_delay A_log_times A_log_values v_history_next v_history_size v_history_ring_places v_history_ring_filled A_history_ring_cells v_images_places v_images_filled A_images_cells v_lines_stretches A_lines_stretch A_lines_needs v_thinning_isOutdated v_thinning_pieces v_thinning_doorMask v_thinning_leastMask A_thinning_piece A_thinning_sent v_seen_size v_seen_keptMask v_seen_droppedMask v_survey_isOutdated A_survey_doorMasks v_undoMany v_undoAt v_seenMany v_letterMany A_now A_undos A_seen A_seenAs A_isKept A_kept A_text) : ∃ (zX : Int32 × Int32 × (Nat → Int32) × (Nat → Int32) × Int32 × Int32 × Int32 × Int32 × (Nat → Int32) × (Nat → Int32) × (Nat → Int32) × (Nat → Int32) × Int32 × Int32 × Int32 × Int32 × (Nat → Int32)) (zM : Int32 × (Nat → Int32) × (Nat → Int32)), f_TR_ask v_log_size v_log_promise v_log_delay A_log_times A_log_values v_lines_stretches A_lines_stretch A_lines_needs v_thinning_isOutdated v_thinning_pieces v_thinning_doorMask v_thinning_leastMask A_thinning_piece A_thinning_sent A_thinning_steps A_thinning_next v_seen_keptMask v_seen_droppedMask v_survey_isOutdated v_survey_possible v_survey_least v_survey_greatest A_survey_doorMasks = some zX ∧ f_Mo_ask v_seenMany A_now A_seen A_seenAs A_doors A_isSo = some zM ∧ zX.1 = zM.1 ∧ Rel v_text_length A_text_letters v_log_size v_log_promise v_log_delay A_log_times A_log_values v_history_next v_history_size v_history_ring_places v_history_ring_filled A_history_ring_cells v_images_places v_images_filled A_images_cells zX.2.1 zX.2.2.1 zX.2.2.2.1 zX.2.2.2.2.1 zX.2.2.2.2.2.1 zX.2.2.2.2.2.2.1 zX.2.2.2.2.2.2.2.1 zX.2.2.2.2.2.2.2.2.1 zX.2.2.2.2.2.2.2.2.2.1 v_seen_size v_seen_keptMask v_seen_droppedMask zX.2.2.2.2.2.2.2.2.2.2.2.2.1 zX.2.2.2.2.2.2.2.2.2.2.2.2.2.2.2.2 v_undoMany v_undoAt v_seenMany v_letterMany A_now A_undos A_seen A_seenAs A_isKept A_kept A_text := by
  obtain ⟨hT, ⟨n, p, d, hw, rfl, rfl, rfl, hrow⟩, hHi, hI, hTh, hSe, hSu⟩ := h
  have hn := hw.1
  have hp := hw.2.1
  unfold f_TR_ask f_Mo_ask
  rw [nI_clamp (show n < 2 ^ 31 by omega)] at hTh
  obtain ⟨pcs', dm', lm', PA', SE', ST', NX', st', S', N', e, hF⟩ := refresh_ok hw hrow hTh A_thinning_steps A_thinning_next
  have hN := fresh_needs (p := p) (d := d) hF
  have fin := ThinR_of hF
  rw [← nI_clamp (show n < 2 ^ 31 by omega)] at fin
  obtain ⟨M', A, r1, r2, r3⟩ := run_ok hw hrow hN hSu v_survey_possible v_survey_least v_survey_greatest v_seen_keptMask v_seen_droppedMask
  obtain ⟨ds', so', s1, s2⟩ := layU hw hrow hSe M' A r2 r3 A_doors A_isSo
  have rel := (⟨hT, ⟨n, p, d, hw, rfl, rfl, rfl, hrow⟩, hHi, hI, fin, hSe, Or.inr ⟨rfl, r2⟩⟩ : Rel v_text_length A_text_letters (nI n) (nI p) (nI d) A_log_times A_log_values v_history_next v_history_size v_history_ring_places v_history_ring_filled A_history_ring_cells v_images_places v_images_filled A_images_cells st' S' N' 0 pcs' dm' lm' PA' SE' v_seen_size v_seen_keptMask v_seen_droppedMask 0 M' v_undoMany v_undoAt v_seenMany v_letterMany A_now A_undos A_seen A_seenAs A_isKept A_kept A_text)
  obtain ⟨a, b1, b2⟩ := best_L hw hrow r3 s2 n 0 fu fu (-9) (nI (cn A 100 + 1)) 101 (by omega) (by unfold fu; omega) (by unfold fu; omega) (Or.inl ⟨rfl, rfl⟩)
  have ec : nI (cn A 100) + 1 = nI (cn A 100 + 1) := by rw [l1, nI_add]
  have bX : f_Survey_bestReading (nI (cn A 100)) M' (nI n) A_log_values v_seen_keptMask v_seen_droppedMask = some a := by
    unfold f_Survey_bestReading
    rw [ec, show f_Survey_bestReading_L12 (nI (cn A 100)) M' (nI n) A_log_values v_seen_keptMask v_seen_droppedMask fu (-9) (nI (cn A 100 + 1)) 0 = _ from b1]
    rfl
  have bM : f_Mo_ask_L14 (nI (cn A 100)) A_now ds' so' fu (-9) 101 0 = some a := b2
  rw [e]
  simp only [Option.bind_some, r1, s1, bX, bM]
  exact ⟨_, _, rfl, rfl, rfl, rel⟩

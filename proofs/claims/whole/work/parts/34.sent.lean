/-! ===== pure: what the door keeps, when it is sent, how late ===== -/
theorem bt_sh (m : Int32) {p i : Nat} (hp : p < 32) (hi : i < 32) : bt (m ||| sh p) i = (bt m i || decide (i = p)) := bt_set m hp hi
theorem Rd_mono {n pp d p : Nat} {T V : Nat → Int32} (h : LW n pp d T V) {q : Nat} (hq : q < 32) : ∀ (m k fr : Nat) (mask : Int32), k + m = n → bt mask q = true → bt (Rd n d p T V m k mask fr) q = true := by
  have hn := h.1
  intro m
  induction m with
  | zero => intro k fr mask _ hb; exact hb
  | succ m ih =>
    intro k fr mask hk hb
    unfold Rd
    split
    · exact ih _ _ _ (by omega) hb
    · split
      · exact ih _ _ _ (by omega) (by rw [bt_sh _ (by omega) hq, hb]; rfl)
      · split
        · split
          · exact ih _ _ _ (by omega) (by rw [bt_sh _ (by omega) hq, bt_sh _ (by omega) hq, hb]; rfl)
          · exact ih _ _ _ (by omega) (by rw [bt_sh _ (by omega) hq, hb]; rfl)
        · split
          · exact ih _ _ _ (by omega) (by rw [bt_sh _ (by omega) hq, hb]; rfl)
          · exact ih _ _ _ (by omega) hb
theorem Rd_sub {n pp d p : Nat} {T V : Nat → Int32} (h : LW n pp d T V) {q : Nat} (hq : q < 32) : ∀ (m k fr : Nat) (mask : Int32), k + m = n → bt (Rd n d p T V m k mask fr) q = true → bt mask q = true ∨ Kn n V q = true := by
  have hn := h.1
  intro m
  induction m with
  | zero => intro k fr mask _ hb; exact Or.inl hb
  | succ m ih =>
    intro k fr mask hk hb
    have one : ∀ (x : Int32) (j : Nat), j < 32 → Kn n V j = true → (bt (x ||| sh j) q = true ∨ Kn n V q = true) → (bt x q = true ∨ Kn n V q = true) := by
      intro x j hj hK hor
      rcases hor with e | e
      · rw [bt_sh _ hj hq, Bool.or_eq_true, decide_eq_true_eq] at e
        rcases e with e | e
        · exact Or.inl e
        · subst e; exact Or.inr hK
      · exact Or.inr e
    unfold Rd at hb
    split at hb
    · exact ih _ _ _ (by omega) hb
    · rename_i hK
      have hK : Kn n V k = true := by cases z : Kn n V k <;> simp_all
      split at hb
      · exact one _ _ (by omega) hK (ih _ _ _ (by omega) hb)
      · rename_i hF
        have hK1 := (nFs_K hK hF).2
        split at hb
        · split at hb
          · exact one _ _ (by omega) hK1 (one _ _ (by omega) hK (ih _ _ _ (by omega) hb))
          · exact one _ _ (by omega) hK1 (ih _ _ _ (by omega) hb)
        · split at hb
          · exact one _ _ (by omega) hK (ih _ _ _ (by omega) hb)
          · exact ih _ _ _ (by omega) hb
theorem Rd_ends {n pp d p : Nat} {T V : Nat → Int32} (h : LW n pp d T V) {q : Nat} (hq : Fs n V q = true ∨ Ls n V q = true) : ∀ (m k fr : Nat) (mask : Int32), k + m = n → k ≤ q → bt (Rd n d p T V m k mask fr) q = true := by
  have hn := h.1
  have hqK : Kn n V q = true := by
    rcases hq with e | e
    · exact Fs_K e
    · exact (Ls_K e).1
  have hqn := Kn_lt hqK
  intro m
  induction m with
  | zero => intro k fr mask hk hkq; omega
  | succ m ih =>
    intro k fr mask hk hkq
    have set' : ∀ x : Int32, bt (x ||| sh q) q = true := fun x => by rw [bt_sh _ (by omega) (by omega)]; simp
    unfold Rd
    rcases Nat.eq_or_lt_of_le hkq with e | e
    · subst e
      rw [if_neg (by rw [hqK]; decide)]
      split
      · exact Rd_mono h (by omega) _ _ _ _ (by omega) (set' _)
      · rename_i hF
        have hL := hq.resolve_left hF
        split
        · exact Rd_mono h (by omega) _ _ _ _ (by omega) (set' _)
        · exact Rd_mono h (by omega) _ _ _ _ (by omega) (set' _)
    · split
      · exact ih _ _ _ (by omega) (by omega)
      · split
        · exact ih _ _ _ (by omega) (by omega)
        · split
          · split
            · exact ih _ _ _ (by omega) (by omega)
            · exact ih _ _ _ (by omega) (by omega)
          · split
            · exact ih _ _ _ (by omega) (by omega)
            · exact ih _ _ _ (by omega) (by omega)
/-- what holds of a set of kept ones: only known ones, the first and the last of each stretch among them -/
def Kept (n : Nat) (V : Nat → Int32) (D : Int32) : Prop := (∀ q : Nat, q < 32 → bt D q = true → Kn n V q = true) ∧ ∀ q : Nat, Fs n V q = true ∨ Ls n V q = true → bt D q = true
theorem door_kept {n pp d p : Nat} {T V : Nat → Int32} (h : LW n pp d T V) : Kept n V (Mr n d p T V n 0 0) := by
  rw [← door_eq h]
  refine ⟨fun q hq hb => ?_, fun q hq => Rd_ends h hq n 0 0 0 (by omega) (by omega)⟩
  rcases Rd_sub h hq n 0 0 0 (by omega) hb with e | e
  · rw [b_0] at e; cases e
  · exact e
/-- the last kept one ahead of k -/
def lk (D : Int32) : Nat → Nat
  | 0 => 0
  | k + 1 => if bt D k = true then k else lk D k
theorem lk_le (D : Int32) (k : Nat) : lk D k ≤ k := by
  induction k with
  | zero => exact Nat.le_refl _
  | succ k ih => unfold lk; split <;> omega
/-- from a known one that isn't the first back to the first of its stretch -/
theorem first_of {n : Nat} {V : Nat → Int32} : ∀ {k : Nat}, Kn n V k = true → ∃ i : Nat, i ≤ k ∧ Fs n V i = true ∧ ∀ q : Nat, i ≤ q → q ≤ k → Kn n V q = true := by
  intro k
  induction k with
  | zero => intro h; exact ⟨0, Nat.le_refl _, Fs_of h (Or.inl rfl), fun q a b => by have : q = 0 := by omega
                                                                                    subst this; exact h⟩
  | succ k ih =>
    intro h
    cases h2 : Kn n V k
    · exact ⟨k + 1, Nat.le_refl _, Fs_of h (Or.inr h2), fun q a b => by
        have : q = k + 1 := by omega
        subst this; exact h⟩
    · obtain ⟨i, h3, h4, h5⟩ := ih h2
      exact ⟨i, by omega, h4, fun q a b => by
        rcases Nat.eq_or_lt_of_le b with e | e
        · subst e; exact h
        · exact h5 q a (by omega)⟩
theorem kaM_L {D : Int32} : ∀ (j f : Nat), j < 31 → j < f → (∃ i : Nat, i ≤ j ∧ bt D i = true) → f_Mo_keptAhead_L4 D f (nI j) = some (nI (lk D (j + 1))) := by
  intro j
  induction j with
  | zero =>
    intro f hj hf hi
    obtain ⟨f, rfl⟩ : ∃ z, f = z + 1 := ⟨f - 1, by omega⟩
    obtain ⟨i, h1, h2⟩ := hi
    have : i = 0 := by omega
    subst this
    rw [f_Mo_keptAhead_L4_s, has_bt D (by omega), if_pos h2, if_neg (by decide)]
    simp [lk, h2]
  | succ j ih =>
    intro f hj hf hi
    obtain ⟨f, rfl⟩ : ∃ z, f = z + 1 := ⟨f - 1, by omega⟩
    rw [f_Mo_keptAhead_L4_s, has_bt D (by omega)]
    cases hb : bt D (j + 1)
    · simp only [reduceCtorEq, ↓reduceIte]
      have e : nI (j + 1) + (-1) = nI j := pk_m1 j
      rw [e, ih f (by omega) (by omega) (by
        obtain ⟨i, h1, h2⟩ := hi
        refine ⟨i, ?_, h2⟩
        rcases Nat.eq_or_lt_of_le h1 with q | q
        · subst q; rw [hb] at h2; cases h2
        · omega)]
      show _ = some (nI (if bt D (j + 1) = true then j + 1 else lk D (j + 1)))
      rw [hb, if_neg (by decide)]
    · simp only [↓reduceIte, n10]
      show _ = some (nI (if bt D (j + 1) = true then j + 1 else lk D (j + 1)))
      rw [hb, if_pos rfl]
def sentV (n d : Nat) (T V : Nat → Int32) (D : Int32) (k : Nat) : Int32 := if Fs n V k = true ∨ Ls n V k = true ∨ k - lk D k = d then T k else T (k + 1)
theorem sentM {n p d : Nat} {T V now : Nat → Int32} (h : LW n p d T V) (hr : RowIs now n p d T V) {D : Int32} (hD : Kept n V D) {k : Nat} (hk : k < n) (hb : bt D k = true) : f_Mo_sentAt now D (nI k) = some (sentV n d T V D k) := by
  have hn := h.1
  have hd := h.2.2.2.1
  have hK := hD.1 k (by omega) hb
  have z2 : ((2 : Int32)).toNatClampNeg = 2 := rfl
  have i2 : inB (2 : Int32) 31 = true := by decide
  have e3 : (3 : Int32) + nI k = nI (3 + k) := by rw [l3, nI_add]
  have e4 : (3 : Int32) + (nI k + 1) = nI (3 + (k + 1)) := by rw [l3, l1, nI_add, nI_add]
  have i3 : inB (nI (3 + k)) 31 = true := inB_nI (by omega) (by omega)
  have i4 : inB (nI (3 + (k + 1))) 31 = true := inB_nI (by omega) (by omega)
  unfold f_Mo_sentAt sentV
  rw [fsM hn hr (by omega), lsM hn hr (by omega)]
  simp only [Option.bind_some, b2_0, z2, i2, e3, e4, i3, i4, ↓reduceIte, nI_clamp (show 3 + k < 2 ^ 31 by omega), nI_clamp (show 3 + (k + 1) < 2 ^ 31 by omega), (hr.2.2.2 k hk).1, hr.2.2.1]
  cases hF : Fs n V k
  · cases hL : Ls n V k
    · simp only [reduceCtorEq, false_or, ↓reduceIte]
      obtain ⟨k0, kp⟩ := nFs_K hK (by rw [hF]; decide)
      obtain ⟨i, a1, a2, a3⟩ := first_of kp
      have hK1 := nLs_K hK (by rw [hL]; decide)
      have hk1 := Kn_lt hK1
      obtain ⟨k', rfl⟩ : ∃ z, k = z + 1 := ⟨k - 1, by omega⟩
      have e5 : f_Mo_keptAhead D (nI (k' + 1)) = some (nI (lk D (k' + 1))) := by
        unfold f_Mo_keptAhead
        rw [l1, pk_sub (by omega), Nat.add_sub_cancel, kaM_L k' fu (by omega) (by unfold fu; omega) ⟨i, by omega, hD.2 i (Or.inl a2)⟩]
        rfl
      have hlk := lk_le D (k' + 1)
      have e6 : (nI (k' + 1) = nI (lk D (k' + 1)) + nI d) = (k' + 1 - lk D (k' + 1) = d) := by
        rw [nI_add, nI_eq' (by omega) (by omega)]
        apply propext; omega
      rw [e5]
      simp only [Option.bind_some, e6, (hr.2.2.2 (k' + 1 + 1) hk1).1]
      split <;> rfl
    · simp
  · simp
theorem sendX_L {n p d : Nat} {T V : Nat → Int32} (h : LW n p d T V) {D : Int32} (hD : Kept n V D) : ∀ (m k f : Nat) (S : Nat → Int32), k + m = n → m < f → (∀ q : Nat, q < k → S q = if bt D q = true then sentV n d T V D q else -9) →
    ∃ S' : Nat → Int32, f_Thinning_sendKept_L4 D (nI n) (nI d) T V f (nI (lk D k)) (nI k) S = some S' ∧ ∀ q : Nat, q < n → S' q = if bt D q = true then sentV n d T V D q else -9 := by
  have hn := h.1
  have hd := h.2.2.2.1
  intro m
  induction m with
  | zero =>
    intro k f S hk hf hS
    obtain ⟨f, rfl⟩ : ∃ z, f = z + 1 := ⟨f - 1, by omega⟩
    refine ⟨S, ?_, fun q hq => hS q (by omega)⟩
    rw [f_Thinning_sendKept_L4_s, if_pos (nI_le (by omega) (by omega))]
  | succ m ih =>
    intro k f S hk hf hS
    obtain ⟨f, rfl⟩ : ∃ z, f = z + 1 := ⟨f - 1, by omega⟩
    have hlk := lk_le D k
    have ek : nI k + 1 = nI (k + 1) := by rw [l1, nI_add]
    have step : ∀ x : Int32, (x = if bt D k = true then sentV n d T V D k else -9) → ∃ S' : Nat → Int32, f_Thinning_sendKept_L4 D (nI n) (nI d) T V f (nI (lk D (k + 1))) (nI (k + 1)) (upd S k x) = some S' ∧ ∀ q : Nat, q < n → S' q = if bt D q = true then sentV n d T V D q else -9 := by
      intro x hx
      refine ih (k + 1) f _ (by omega) (by omega) (fun q hq => ?_)
      rw [upd_at]
      by_cases e : q = k
      · rw [if_pos e]; subst e; exact hx
      · rw [if_neg e]; exact hS q (by omega)
    have elk : lk D (k + 1) = if bt D k = true then k else lk D k := rfl
    rw [f_Thinning_sendKept_L4_s, if_neg (nI_ge (by omega) (by omega)), if_neg (nge14 (show k < 14 by omega)), bitAt_bt D (by omega), fsX hn V (by omega), lsX hn V (by omega), timeN (show k < n by omega) hn]
    simp only [Option.bind_some, b2_0, inB_nI (show k < 14 by omega) (by omega), nI_clamp (show k < 2 ^ 31 by omega), ↓reduceIte, ek]
    cases hb : bt D k
    · have := step (-9) (by rw [hb]; rfl)
      rw [elk, hb] at this
      simp only [reduceCtorEq, ↓reduceIte] at this ⊢
      exact this
    · have hK := hD.1 k (by omega) hb
      rw [hb] at elk
      simp only [↓reduceIte] at elk
      simp only [n10, ↓reduceIte]
      have e1 : (nI k - nI (lk D k) = nI d) = (k - lk D k = d) := by rw [pk_sub hlk]; exact nI_eq' (by omega) (by omega)
      rw [elk] at step
      simp only [hb, ↓reduceIte] at step
      cases hF : Fs n V k
      · cases hL : Ls n V k
        · simp only [reduceCtorEq, ↓reduceIte, e1]
          have hK1 := nLs_K hK (by rw [hL]; decide)
          have hk1 := Kn_lt hK1
          rw [timeN hk1 hn, Option.bind_some]
          by_cases c : k - lk D k = d
          · rw [if_pos c]; exact step _ (by unfold sentV; rw [if_pos (Or.inr (Or.inr c))])
          · rw [if_neg c]; exact step _ (by unfold sentV; rw [if_neg (by rw [hF, hL]; rintro (q | q | q); cases q; cases q; exact c q)])
        · simp only [reduceCtorEq, ↓reduceIte]
          exact step _ (by unfold sentV; rw [if_pos (Or.inr (Or.inl hL))])
      · simp only [reduceCtorEq, ↓reduceIte]
        exact step _ (by unfold sentV; rw [if_pos (Or.inl hF)])
theorem sendX {n p d : Nat} {T V : Nat → Int32} (h : LW n p d T V) {D : Int32} (hD : Kept n V D) (S : Nat → Int32) : ∃ S' : Nat → Int32, f_Thinning_sendKept D S (nI n) (nI d) T V = some S' ∧ ∀ q : Nat, q < n → S' q = if bt D q = true then sentV n d T V D q else -9 := by
  obtain ⟨S', e1, e2⟩ := sendX_L h hD n 0 fu S (by omega) (by have := h.1; unfold fu; omega) (fun q hq => absurd hq (by omega))
  refine ⟨S', ?_, e2⟩
  unfold f_Thinning_sendKept
  rw [show f_Thinning_sendKept_L4 D (nI n) (nI d) T V fu 0 0 S = _ from e1]
  rfl
/-- the first kept one at or behind k (m: how far to look) -/
def nk (D : Int32) : Nat → Nat → Nat
  | 0, k => k
  | m + 1, k => if bt D k = true then k else nk D m (k + 1)
theorem last_of {n : Nat} {V : Nat → Int32} : ∀ (m : Nat) {k : Nat}, n - k ≤ m → Kn n V k = true → ∃ i : Nat, k ≤ i ∧ Ls n V i = true ∧ ∀ q : Nat, k ≤ q → q ≤ i → Kn n V q = true := by
  intro m
  induction m with
  | zero => intro k hm h; have := Kn_lt h; omega
  | succ m ih =>
    intro k hm h
    by_cases hL : Ls n V k = true
    · exact ⟨k, Nat.le_refl _, hL, fun q a b => by
        have : q = k := by omega
        subst this; exact h⟩
    · have := Kn_lt h
      obtain ⟨i, h1, h2, h3⟩ := ih (k := k + 1) (by omega) (nLs_K h hL)
      exact ⟨i, by omega, h2, fun q a b => by
        rcases Nat.eq_or_lt_of_le a with e | e
        · subst e; exact h
        · exact h3 q e b⟩
theorem nkM_L {D : Int32} (x2 x3 : Int32) : ∀ (m k f : Nat), k + m < 31 → m < f → (∃ i : Nat, k ≤ i ∧ i < k + m ∧ bt D i = true) → f_Mo_late_L37 D x2 x3 f (nI k) = some (nI (nk D m k)) := by
  intro m
  induction m with
  | zero => intro k f _ _ hi; obtain ⟨i, a, b, _⟩ := hi; omega
  | succ m ih =>
    intro k f hk hf hi
    obtain ⟨f, rfl⟩ : ∃ z, f = z + 1 := ⟨f - 1, by omega⟩
    rw [f_Mo_late_L37_s, has_bt D (by omega)]
    unfold nk
    cases hb : bt D k
    · simp only [reduceCtorEq, ↓reduceIte]
      rw [l1, nI_add]
      obtain ⟨i, a, b, c⟩ := hi
      refine ih (k + 1) f (by omega) (by omega) ⟨i, ?_, by omega, c⟩
      rcases Nat.eq_or_lt_of_le a with e | e
      · subst e; rw [hb] at c; cases c
      · exact e
    · simp only [↓reduceIte, n10]
theorem nk_stop {D : Int32} : ∀ (m k : Nat), (∃ i : Nat, k ≤ i ∧ i < k + m ∧ bt D i = true) → k ≤ nk D m k ∧ nk D m k < k + m ∧ bt D (nk D m k) = true := by
  intro m
  induction m with
  | zero => intro k hi; obtain ⟨i, a, b, _⟩ := hi; omega
  | succ m ih =>
    intro k hi
    unfold nk
    by_cases hb : bt D k = true
    · rw [if_pos hb]; exact ⟨Nat.le_refl _, by omega, hb⟩
    · rw [if_neg hb]
      obtain ⟨i, a, b, c⟩ := hi
      have := ih (k + 1) ⟨i, by rcases Nat.eq_or_lt_of_le a with e | e
                                · subst e; exact absurd c hb
                                · exact e, by omega, c⟩
      exact ⟨by omega, by omega, this.2.2⟩

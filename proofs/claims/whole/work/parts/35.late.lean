/-! ===== pure: late ===== -/
def MaxOf (P : Nat → Prop) (W : Nat → Int32) (r : Int32) : Prop := (r = -9 ∨ ∃ k : Nat, P k ∧ r = W k) ∧ (-9 : Int32) ≤ r ∧ ∀ k : Nat, P k → W k ≤ r
theorem MaxOf_one {P : Nat → Prop} {W : Nat → Int32} {r r' : Int32} (h : MaxOf P W r) (h' : MaxOf P W r') : r = r' := by
  have key : ∀ {a b : Int32}, MaxOf P W a → MaxOf P W b → a ≤ b := by
    intro a b ha hb
    rcases ha.1 with e | ⟨k, hk, e⟩
    · rw [e]; exact hb.2.1
    · rw [e]; exact hb.2.2 k hk
  exact Int32.le_antisymm (key h h') (key h' h)
theorem MaxOf_more {P P' : Nat → Prop} {W : Nat → Int32} {a : Int32} {k0 : Nat} (h : MaxOf P W a) (hP : ∀ k : Nat, P' k ↔ (P k ∨ k = k0)) : MaxOf P' W (if a < W k0 then W k0 else a) := by
  by_cases c : a < W k0
  · rw [if_pos c]
    refine ⟨Or.inr ⟨k0, (hP k0).mpr (Or.inr rfl), rfl⟩, Int32.le_trans h.2.1 (Int32.le_of_lt c), fun k hk => ?_⟩
    rcases (hP k).mp hk with q | q
    · exact Int32.le_trans (h.2.2 k q) (Int32.le_of_lt c)
    · rw [q]; exact Int32.le_refl _
  · rw [if_neg c]
    refine ⟨?_, h.2.1, fun k hk => ?_⟩
    · rcases h.1 with e | ⟨k, hk, e⟩
      · exact Or.inl e
      · exact Or.inr ⟨k, (hP k).mpr (Or.inl hk), e⟩
    · rcases (hP k).mp hk with q | q
      · exact h.2.2 k q
      · rw [q]; exact Int32.not_lt.mp c
theorem MaxOf_more2 {P P' : Nat → Prop} {W : Nat → Int32} {a : Int32} {k0 : Nat} (h : MaxOf P W a) (hP : ∀ k : Nat, P' k ↔ (P k ∨ k = k0)) : MaxOf P' W (if W k0 ≤ a then a else W k0) := by
  have := MaxOf_more h hP
  by_cases c : W k0 ≤ a
  · rw [if_pos c]; rw [if_neg (Int32.not_lt.mpr c)] at this; exact this
  · rw [if_neg c]; rw [if_pos (Int32.not_le.mp c)] at this; exact this
theorem MaxOf_same {P P' : Nat → Prop} {W : Nat → Int32} {a : Int32} (h : MaxOf P W a) (hP : ∀ k : Nat, P' k ↔ P k) : MaxOf P' W a := by
  refine ⟨?_, h.2.1, fun k hk => h.2.2 k ((hP k).mp hk)⟩
  rcases h.1 with e | ⟨k, hk, e⟩
  · exact Or.inl e
  · exact Or.inr ⟨k, (hP k).mpr hk, e⟩
def nkk (n : Nat) (D : Int32) (k : Nat) : Nat := nk D (n - k) k
def Wt (n d : Nat) (T V : Nat → Int32) (D : Int32) (k : Nat) : Int32 := sentV n d T V D (nkk n D k) - T k
theorem kept_behind {n : Nat} {V : Nat → Int32} {D : Int32} (hD : Kept n V D) {k : Nat} (hK : Kn n V k = true) : ∃ i : Nat, k ≤ i ∧ i < k + (n - k) ∧ bt D i = true := by
  obtain ⟨i, a, b, c⟩ := last_of (n - k) (Nat.le_refl _) hK
  have := Kn_lt (Ls_K b).1
  exact ⟨i, a, by omega, hD.2 i (Or.inr b)⟩
theorem nkk_kept {n : Nat} {D : Int32} {k : Nat} (hk : k < n) (hb : bt D k = true) : nkk n D k = k := by
  unfold nkk
  obtain ⟨m, hm⟩ : ∃ m, n - k = m + 1 := ⟨n - k - 1, by omega⟩
  rw [hm]; unfold nk; rw [if_pos hb]
theorem nkk_next {n : Nat} {D : Int32} {k : Nat} (hk : k < n) (hb : ¬ bt D k = true) : nkk n D k = nkk n D (k + 1) := by
  unfold nkk
  obtain ⟨m, hm⟩ : ∃ m, n - k = m + 1 := ⟨n - k - 1, by omega⟩
  have : n - (k + 1) = m := by omega
  rw [hm, this]
  show (if bt D k = true then k else nk D m (k + 1)) = _
  rw [if_neg hb]
theorem sentN {n k : Nat} (hk : k < n) (hn : n ≤ 14) (S : Nat → Int32) : f_Thinning_sentAt S (nI n) (nI k) = some (S k) := by
  unfold f_Thinning_sentAt
  rw [hasN hk hn, if_neg (by decide), if_neg (nge14 (by omega)), inB_nI (by omega) (by omega), if_pos rfl, nI_clamp (by omega)]
theorem lateX_L {n p d : Nat} {T V S : Nat → Int32} (h : LW n p d T V) {D : Int32} (hD : Kept n V D) (hS : ∀ q : Nat, q < n → S q = if bt D q = true then sentV n d T V D q else -9) : ∀ (j f : Nat) (a sb x3 : Int32), j ≤ n → j < f → x3 = nI j - 1 → MaxOf (fun k => Kn n V k = true ∧ j ≤ k) (Wt n d T V D) a → (Kn n V j = true → sb = sentV n d T V D (nkk n D j)) →
    ∃ r : Int32, f_Thinning_longestWait_L16 D S (nI n) T V f a sb x3 = some r ∧ MaxOf (fun k => Kn n V k = true) (Wt n d T V D) r := by
  have hn := h.1
  intro j
  induction j with
  | zero =>
    intro f a sb x3 hj hf hx hM hs
    obtain ⟨f, rfl⟩ : ∃ z, f = z + 1 := ⟨f - 1, by omega⟩
    refine ⟨a, ?_, MaxOf_same hM (fun k => by simp)⟩
    rw [f_Thinning_longestWait_L16_s, hx, if_pos (by decide)]
  | succ k ih =>
    intro f a sb x3 hj hf hx hM hs
    obtain ⟨f, rfl⟩ : ∃ z, f = z + 1 := ⟨f - 1, by omega⟩
    have ex : x3 = nI k := by rw [hx]; exact nI_pred k
    subst ex
    have em : nI k + (-1) = nI k - 1 := (Int32.sub_eq_add_neg ..).symm
    rw [f_Thinning_longestWait_L16_s, if_neg (nI_pos (by omega)), knX hn V (by omega), Option.bind_some, bitAt_bt D (by omega), sentN (show k < n by omega) hn, timeN (show k < n by omega) hn, em]
    simp only [b2_0, Option.bind_some]
    cases hK : Kn n V k
    · simp only [↓reduceIte]
      refine ih f a sb _ (by omega) (by omega) rfl (MaxOf_same hM (fun q => ?_)) (fun q => by rw [hK] at q; cases q)
      constructor
      · rintro ⟨a1, a2⟩
        refine ⟨a1, ?_⟩
        rcases Nat.eq_or_lt_of_le a2 with e | e
        · subst e; rw [hK] at a1; cases a1
        · exact e
      · rintro ⟨a1, a2⟩; exact ⟨a1, by omega⟩
    · simp only [reduceCtorEq, ↓reduceIte]
      have hP : ∀ q : Nat, (Kn n V q = true ∧ k ≤ q) ↔ ((Kn n V q = true ∧ k + 1 ≤ q) ∨ q = k) := by
        intro q
        constructor
        · rintro ⟨a1, a2⟩
          rcases Nat.eq_or_lt_of_le a2 with e | e
          · exact Or.inr e.symm
          · exact Or.inl ⟨a1, e⟩
        · rintro (⟨a1, a2⟩ | e)
          · exact ⟨a1, by omega⟩
          · subst e; exact ⟨hK, Nat.le_refl _⟩
      have M1 := MaxOf_more hM hP
      cases hb : bt D k
      · have hL : ¬ Ls n V k = true := fun q => by have := hD.2 k (Or.inr q); rw [hb] at this; cases this
        have hK1 := nLs_K hK hL
        have e1 : nkk n D k = nkk n D (k + 1) := nkk_next (by omega) (by rw [hb]; decide)
        have e2 : sb = sentV n d T V D (nkk n D k) := by rw [e1]; exact hs hK1
        have e3 : sb - T k = Wt n d T V D k := by unfold Wt; rw [e2]
        simp only [reduceCtorEq, ↓reduceIte]
        rw [if_neg (by decide), e3]
        exact ih f _ sb _ (by omega) (by omega) rfl M1 (fun _ => e2)
      · have e1 : nkk n D k = k := nkk_kept (by omega) hb
        have e2 : S k = sentV n d T V D (nkk n D k) := by rw [hS k (by omega), hb, if_pos rfl, e1]
        have e3 : S k - T k = Wt n d T V D k := by unfold Wt; rw [e2]
        simp only [↓reduceIte]
        rw [e3]
        exact ih f _ (S k) _ (by omega) (by omega) rfl M1 (fun _ => e2)
theorem lateM_L {n p d : Nat} {T V now : Nat → Int32} (h : LW n p d T V) (hr : RowIs now n p d T V) {D : Int32} (hD : Kept n V D) : ∀ (m k f : Nat) (a : Int32), k + m = n → m < f → MaxOf (fun q => Kn n V q = true ∧ q < k) (Wt n d T V D) a →
    ∃ r : Int32, f_Mo_late_L16 D now f a (nI k) = some r ∧ MaxOf (fun q => Kn n V q = true) (Wt n d T V D) r := by
  have hn := h.1
  have z0 : ((0 : Int32)).toNatClampNeg = 0 := rfl
  have i0 : inB (0 : Int32) 31 = true := by decide
  intro m
  induction m with
  | zero =>
    intro k f a hk hf hM
    obtain ⟨f, rfl⟩ : ∃ z, f = z + 1 := ⟨f - 1, by omega⟩
    refine ⟨a, ?_, MaxOf_same hM (fun q => ⟨fun a1 => ⟨a1, by have := Kn_lt a1; omega⟩, fun a1 => a1.1⟩)⟩
    rw [f_Mo_late_L16_s, i0, if_pos rfl, z0, hr.1, if_pos (nI_le (by omega) (by omega))]
  | succ m ih =>
    intro k f a hk hf hM
    obtain ⟨f, rfl⟩ : ∃ z, f = z + 1 := ⟨f - 1, by omega⟩
    have ek : nI k + 1 = nI (k + 1) := by rw [l1, nI_add]
    have e3 : (3 : Int32) + nI k = nI (3 + k) := by rw [l3, nI_add]
    rw [f_Mo_late_L16_s, i0, if_pos rfl, z0, hr.1, if_neg (nI_ge (by omega) (by omega)), knM hn hr (by omega), Option.bind_some, ek, e3]
    simp only [b2_0]
    cases hK : Kn n V k
    · simp only [↓reduceIte]
      refine ih (k + 1) f a (by omega) (by omega) (MaxOf_same hM (fun q => ?_))
      constructor
      · rintro ⟨a1, a2⟩
        refine ⟨a1, ?_⟩
        rcases Nat.eq_or_lt_of_le (Nat.le_of_lt_succ a2) with e | e
        · subst e; rw [hK] at a1; cases a1
        · exact e
      · rintro ⟨a1, a2⟩; exact ⟨a1, by omega⟩
    · simp only [reduceCtorEq, ↓reduceIte]
      have hx := kept_behind hD hK
      have hs := nk_stop _ _ hx
      rw [nkM_L _ _ (n - k) k fu (by omega) (by unfold fu; omega) hx, Option.bind_some, sentM h hr hD (by omega) hs.2.2, Option.bind_some, inB_nI (show 3 + k < 31 by omega) (by omega), if_pos rfl, nI_clamp (by omega), (hr.2.2.2 k (by omega)).1]
      have hP : ∀ q : Nat, (Kn n V q = true ∧ q < k + 1) ↔ ((Kn n V q = true ∧ q < k) ∨ q = k) := by
        intro q
        constructor
        · rintro ⟨a1, a2⟩
          rcases Nat.eq_or_lt_of_le (Nat.le_of_lt_succ a2) with e | e
          · exact Or.inr e
          · exact Or.inl ⟨a1, e⟩
        · rintro (⟨a1, a2⟩ | e)
          · exact ⟨a1, by omega⟩
          · subst e; exact ⟨hK, by omega⟩
      have M1 := MaxOf_more2 hM hP
      have e4 : sentV n d T V D (nk D (n - k) k) - T k = Wt n d T V D k := rfl
      rw [e4]
      by_cases c : Wt n d T V D k ≤ a
      · rw [if_pos c] at M1 ⊢; exact ih (k + 1) f a (by omega) (by omega) M1
      · rw [if_neg c] at M1 ⊢; exact ih (k + 1) f _ (by omega) (by omega) M1
theorem late_ok {n p d : Nat} {T V S now : Nat → Int32} (h : LW n p d T V) (hr : RowIs now n p d T V) {D : Int32} (hD : Kept n V D) (hd : f_Mo_door now (now 1) = some D) (hS : ∀ q : Nat, q < n → S q = if bt D q = true then sentV n d T V D q else -9) : ∃ r : Int32, f_Thinning_longestWait D S (nI n) T V = some r ∧ f_Mo_late now = some r := by
  have hn := h.1
  have m9 : ∀ P : Nat → Prop, (∀ k, ¬ P k) → MaxOf P (Wt n d T V D) (-9) := fun P hP => ⟨Or.inl rfl, Int32.le_refl _, fun k hk => absurd hk (hP k)⟩
  obtain ⟨r, e1, M1⟩ := lateX_L h hD hS n fu (-9) (-9) (nI n - 1) (Nat.le_refl _) (by unfold fu; omega) rfl (m9 _ (fun k ⟨a, b⟩ => by have := Kn_lt a; omega)) (fun q => by have := Kn_lt q; omega)
  obtain ⟨r', e2, M2⟩ := lateM_L h hr hD n 0 fu (-9) (by omega) (by unfold fu; omega) (m9 _ (fun k ⟨a, b⟩ => by omega))
  have er := MaxOf_one M1 M2
  subst er
  refine ⟨r, ?_, ?_⟩
  · unfold f_Thinning_longestWait
    rw [e1]; rfl
  · unfold f_Mo_late
    have z1 : ((1 : Int32)).toNatClampNeg = 1 := rfl
    have i1 : inB (1 : Int32) 31 = true := by decide
    rw [i1, if_pos rfl, z1, hd, Option.bind_some, show f_Mo_late_L16 D now fu (-9) 0 = some r from e2]
    rfl

theorem chM {n p d : Nat} {T V now : Nat → Int32} (h : LW n p d T V) (hr : RowIs now n p d T V) {i : Nat} (hK : Kn n V i = true) (hK1 : Kn n V (i + 1) = true) (F : Nat → Nat) (x1 : Int32) (A : Nat → Int32) (hA : ∀ q : Nat, i < q → q < n → A q = nI (F q) ∧ 1 ≤ F q ∧ F q ≤ n - q) : ∃ (A' : Nat → Int32) (w' : Nat), f_Mo_least_L50 x1 (nI i) now fu (nI i + 1) (upd (upd A i 1) i 15) = some (0, A') ∧ Cand n p T V F i n w' ∧ A' i = nI (F w' + 1) ∧ ∀ q : Nat, q ≠ i → A' q = A q := by
  have hn := h.1
  have hp := h.2.1
  have z1 : ((1 : Int32)).toNatClampNeg = 1 := rfl
  have i1 : inB (1 : Int32) 31 = true := by decide
  have hi1 := Kn_lt hK1
  have ei : nI i + 1 = nI (i + 1) := by rw [l1, nI_add]
  have ei2 : nI (i + 1) + 1 = nI (i + 2) := by rw [l1, nI_add]
  obtain ⟨a1, a2, a3⟩ := hA (i + 1) (by omega) hi1
  have eu : upd (upd A i 1) i 15 = upd A i 15 := by funext q; simp only [upd_at]; grind
  have u1 : upd A i 15 i = 15 := by rw [upd_at, if_pos rfl]
  have u2 : upd A i 15 (i + 1) = A (i + 1) := by rw [upd_at, if_neg (by omega)]
  have eA : A (i + 1) + 1 = nI (F (i + 1) + 1) := by rw [a1, l1, nI_add]
  have c15 : ¬ (15 : Int32) ≤ nI (F (i + 1) + 1) := by rw [l15]; exact nI_ge (by omega) (by omega)
  have eu2 : upd (upd A i 15) i (nI (F (i + 1) + 1)) = upd A i (nI (F (i + 1) + 1)) := by funext q; simp only [upd_at]; grind
  rw [eu, ei, show fu = 255 + 1 from rfl, f_Mo_least_L50_s, knM hn hr (by omega), lsM hn hr (by omega)]
  simp only [Option.bind_some, b2_0, inB_nI (show i + 1 < 14 by omega) (by omega), inB_nI (show i < 14 by omega) (by omega), nI_clamp (show i + 1 < 2 ^ 31 by omega), nI_clamp (show i < 2 ^ 31 by omega), ↓reduceIte, ei2, hK1, reduceCtorEq, z1, i1, hr.2.1, whyM h hr (show p ≤ 300 by omega) (show i < i + 1 by omega) hi1, WN_next, u1, u2, eA, c15, eu2]
  cases hL : Ls n V (i + 1)
  · rw [if_pos rfl]
    have hK2 := nLs_K hK1 (by rw [hL]; decide)
    have hi2 := Kn_lt hK2
    obtain ⟨A', w', r1, r2, r3, r5⟩ := chM_L h hr F x1 (n - (i + 2)) (i + 2) 255 (i + 1) (upd A i (nI (F (i + 1) + 1))) (by omega) (by omega) (by omega) hK2 (fun q a b => (Gs_next (p := p) (T := T) hK hK1).2.1 q a (by omega)) (fun q x y => by rw [upd_at, if_neg (by omega)]; have := hA q x y; exact ⟨this.1, by omega⟩) (Cand_first hK hK1) (by rw [upd_at, if_pos rfl])
    refine ⟨A', w', r1, r2, r3, fun q hq => ?_⟩
    have := r5 q hq
    rw [upd_at, if_neg hq] at this
    exact this
  · rw [if_neg (by decide)]
    exact ⟨_, i + 1, rfl, Cand_ext (Cand_first hK hK1) (Ls_K hL).2 (by omega), by rw [upd_at, if_pos rfl], fun q hq => by rw [upd_at, if_neg hq]⟩
theorem clM_L {n p d : Nat} {T V now : Nat → Int32} (h : LW n p d T V) (hr : RowIs now n p d T V) (x1 : Int32) : ∀ (j f : Nat) (x : Int32) (A : Nat → Int32) (F : Nat → Nat), j ≤ n → j < f → x = nI j - 1 → (∀ q : Nat, j ≤ q → q < n → A q = nI (F q) ∧ FOk n p T V F q) →
    ∃ (A' : Nat → Int32) (F' : Nat → Nat), f_Mo_least_L11 x1 now f x A = some A' ∧ ∀ q : Nat, q < n → A' q = nI (F' q) ∧ FOk n p T V F' q := by
  have hn := h.1
  intro j
  induction j with
  | zero =>
    intro f x A F hj hf hx hA
    obtain ⟨f, rfl⟩ : ∃ z, f = z + 1 := ⟨f - 1, by omega⟩
    refine ⟨A, F, ?_, fun q hq => hA q (by omega) hq⟩
    rw [f_Mo_least_L11_s, hx, if_pos (by decide)]
  | succ i ih =>
    intro f x A F hj hf hx hA
    obtain ⟨f, rfl⟩ : ∃ z, f = z + 1 := ⟨f - 1, by omega⟩
    have ex : x = nI i := by rw [hx]; exact nI_pred i
    subst ex
    have em : nI i + (-1) = nI i - 1 := (Int32.sub_eq_add_neg ..).symm
    have step : ∀ (A' : Nat → Int32) (F' : Nat → Nat), A' i = nI (F' i) → FOk n p T V F' i → (∀ q : Nat, q ≠ i → A' q = A q ∧ F' q = F q) → ∃ (A'' : Nat → Int32) (F'' : Nat → Nat), f_Mo_least_L11 x1 now f (nI i - 1) A' = some A'' ∧ ∀ q : Nat, q < n → A'' q = nI (F'' q) ∧ FOk n p T V F'' q := by
      intro A' F' e2 e3 e5
      refine ih f _ A' F' (by omega) (by omega) rfl (fun q a b => ?_)
      rcases Nat.eq_or_lt_of_le a with e | e
      · subst e; exact ⟨e2, e3⟩
      · obtain ⟨c1, c2⟩ := hA q e b
        have hF : ∀ z : Nat, q ≤ z → F' z = F z := fun z hz => (e5 z (by omega)).2
        refine ⟨?_, FOk_congr c2 hF⟩
        rw [(e5 q (by omega)).1, hF q (Nat.le_refl _)]; exact c1
    have one : ¬ (Kn n V i = true ∧ Kn n V (i + 1) = true) → ∃ (A'' : Nat → Int32) (F'' : Nat → Nat), f_Mo_least_L11 x1 now f (nI i - 1) (upd A i 1) = some A'' ∧ ∀ q : Nat, q < n → A'' q = nI (F'' q) ∧ FOk n p T V F'' q := by
      intro hk
      refine step _ (fun q => if q = i then 1 else F q) ?_ ?_ ?_
      · rw [upd_at, if_pos rfl]; simp only [↓reduceIte]; rfl
      · refine ⟨?_, ?_, fun q => absurd q hk, fun _ => ?_⟩ <;> simp only [↓reduceIte] <;> omega
      · intro q hq
        rw [upd_at, if_neg hq]; simp only [hq, ↓reduceIte, and_self]
    rw [f_Mo_least_L11_s, if_neg (nI_pos (by omega)), knM hn hr (by omega), lsM hn hr (by omega)]
    simp only [Option.bind_some, b2_0, inB_nI (show i < 14 by omega) (by omega), nI_clamp (show i < 2 ^ 31 by omega), ↓reduceIte, em]
    cases hK : Kn n V i
    · simp only [↓reduceIte]
      exact one (by rw [hK]; rintro ⟨q, _⟩; cases q)
    · simp only [reduceCtorEq, ↓reduceIte]
      cases hL : Ls n V i
      · simp only [↓reduceIte]
        have hK1 := nLs_K hK (by rw [hL]; decide)
        obtain ⟨A', w', r1, r2, r3, r5⟩ := chM h hr hK hK1 F x1 A (fun q a b => by have := hA q (by omega) b; exact ⟨this.1, this.2.1, this.2.2.1⟩)
        rw [r1, Option.bind_some]
        simp only [↓reduceIte]
        have hi1 := Kn_lt hK1
        have hw2 := r2.2.1.1
        have hw1 := r2.1
        have hmin := r2.2.2.1 (i + 1) hi1 (Gs_next hK hK1)
        have b1 := (hA (i + 1) (by omega) hi1).2.2.1
        have hF' : ∀ q : Nat, i < q → (fun q => if q = i then F w' + 1 else F q) q = F q := fun q hq => by simp only [show q ≠ i by omega, ↓reduceIte]
        refine step A' (fun q => if q = i then F w' + 1 else F q) ?_ ⟨?_, ?_, fun _ => ⟨w', Cand_congr r2 hF', ?_⟩, fun q => absurd ⟨hK, hK1⟩ q⟩ (fun q hq => ?_)
        · simp only [↓reduceIte]; exact r3
        · simp only [↓reduceIte]; omega
        · simp only [↓reduceIte]; omega
        · simp only [↓reduceIte, show w' ≠ i by omega]
        · exact ⟨r5 q hq, by simp only [hq, ↓reduceIte]⟩
      · simp only [reduceCtorEq, ↓reduceIte]
        exact one (by rw [(Ls_K hL).2]; rintro ⟨_, q⟩; cases q)
/-- the way along the best ones -/
def Xl (n : Nat) (V NX : Nat → Int32) : Nat → Nat → Int32 → Int32 → Int32
  | 0, _, mask, _ => mask
  | m + 1, k, mask, nx => if Fs n V k = true then Xl n V NX m (k + 1) (mask ||| sh k) (NX k) else if nI k = nx then Xl n V NX m (k + 1) (mask ||| sh k) (NX k) else Xl n V NX m (k + 1) mask nx
theorem XlX {n p d : Nat} {T V : Nat → Int32} (h : LW n p d T V) (NX : Nat → Int32) : ∀ (m k f : Nat) (mask nx : Int32), k + m = n → m < f → f_Thinning_chooseLeast_L37 NX (nI n) V f mask nx (nI k) = some (Xl n V NX m k mask nx) := by
  have hn := h.1
  intro m
  induction m with
  | zero =>
    intro k f mask nx hk hf
    obtain ⟨f, rfl⟩ : ∃ z, f = z + 1 := ⟨f - 1, by omega⟩
    rw [f_Thinning_chooseLeast_L37_s, if_pos (nI_le (by omega) (by omega))]
    rfl
  | succ m ih =>
    intro k f mask nx hk hf
    obtain ⟨f, rfl⟩ : ∃ z, f = z + 1 := ⟨f - 1, by omega⟩
    have ek : nI k + 1 = nI (k + 1) := by rw [l1, nI_add]
    have esh : (1 : Int32) <<< (nI k &&& 31) = sh k := rfl
    rw [f_Thinning_chooseLeast_L37_s, if_neg (nI_ge (by omega) (by omega)), if_neg (nge14 (show k < 14 by omega)), fsX hn V (by omega)]
    simp only [Option.bind_some, b2_0, inB_nI (show k < 14 by omega) (by omega), nI_clamp (show k < 2 ^ 31 by omega), ↓reduceIte, ek, esh]
    unfold Xl
    cases hF : Fs n V k
    · simp only [reduceCtorEq, ↓reduceIte]
      by_cases c : nI k = nx
      · simp only [c, ↓reduceIte]; exact ih _ _ _ _ (by omega) (by omega)
      · simp only [c, ↓reduceIte]; exact ih _ _ _ _ (by omega) (by omega)
    · simp only [reduceCtorEq, ↓reduceIte]; exact ih _ _ _ _ (by omega) (by omega)
def Pm (n : Nat) (V NX : Nat → Int32) : Nat → Nat → Int32 → Int32
  | 0, _, mask => mask
  | m + 1, k, mask => if Ls n V k = true then mask else Pm n V NX m (NX k).toNatClampNeg (mask ||| sh (NX k).toNatClampNeg)
def Ml (n : Nat) (V NX : Nat → Int32) : Nat → Nat → Int32 → Int32
  | 0, _, mask => mask
  | m + 1, k, mask => if Fs n V k = true then Ml n V NX m (k + 1) (Pm n V NX 14 k (mask ||| sh k)) else Ml n V NX m (k + 1) mask
theorem l191 {n p d : Nat} {T V now A : Nat → Int32} (h : LW n p d T V) (hr : RowIs now n p d T V) {F : Nat → Nat} {i w : Nat} (hC : Cand n p T V F i n w) (hF : F i = F w + 1) (hA : ∀ q : Nat, q < n → A q = nI (F q) ∧ F q ≤ 14) (x1 x2 : Int32) : ∀ (m k f : Nat), k + m = w → m < f → i < k → f_Mo_least_L191 x1 x2 (nI i) now A f (nI k) = some (nI w) := by
  have hn := h.1
  have hp := h.2.1
  have z1 : ((1 : Int32)).toNatClampNeg = 1 := rfl
  have i1 : inB (1 : Int32) 31 = true := by decide
  have hwn := hC.1
  have hg := hC.2.1
  intro m
  induction m with
  | zero =>
    intro k f hk hf hik
    obtain ⟨f, rfl⟩ : ∃ z, f = z + 1 := ⟨f - 1, by omega⟩
    have e : k = w := by omega
    subst e
    have eA : A k + 1 = A i := by rw [(hA k hwn).1, (hA i (by omega)).1, hF, l1, nI_add]
    rw [f_Mo_least_L191_s]
    simp only [Option.bind_some, inB_nI (show k < 14 by omega) (by omega), inB_nI (show i < 14 by omega) (by omega), nI_clamp (show k < 2 ^ 31 by omega), nI_clamp (show i < 2 ^ 31 by omega), ↓reduceIte, z1, i1, hr.2.1, whyM h hr (show p ≤ 300 by omega) hik hwn, (WN_m9 hik (show k < 14 by omega)).mpr hg.2.2, eA]
  | succ m ih =>
    intro k f hk hf hik
    obtain ⟨f, rfl⟩ : ∃ z, f = z + 1 := ⟨f - 1, by omega⟩
    have ek : nI k + 1 = nI (k + 1) := by rw [l1, nI_add]
    rw [f_Mo_least_L191_s]
    simp only [Option.bind_some, inB_nI (show k < 14 by omega) (by omega), inB_nI (show i < 14 by omega) (by omega), nI_clamp (show k < 2 ^ 31 by omega), nI_clamp (show i < 2 ^ 31 by omega), ↓reduceIte, z1, i1, hr.2.1, whyM h hr (show p ≤ 300 by omega) hik (show k < n by omega), ek]
    by_cases c : WN T V p i k = -9
    · have g : Gs n p T V i k := ⟨hik, fun q a b => hg.2.1 q a (by omega), (WN_m9 hik (by omega)).mp c⟩
      have lt := hC.2.2.2 k (by omega) g
      have eA : ¬ A k + 1 = A i := by
        rw [(hA k (by omega)).1, (hA i (by omega)).1, hF, l1, nI_add, nI_eq' (by have := (hA k (by omega)).2; omega) (by have := (hA w (by omega)).2; omega)]
        omega
      simp only [c, eA, ↓reduceIte]; exact ih (k + 1) f (by omega) (by omega) (by omega)
    · simp only [c, ↓reduceIte]; exact ih (k + 1) f (by omega) (by omega) (by omega)
theorem l178 {n p d : Nat} {T V now A NX : Nat → Int32} (h : LW n p d T V) (hr : RowIs now n p d T V) {F : Nat → Nat} (hNX : ∀ q : Nat, q < n → NxOk n p T V F NX q) (hA : ∀ q : Nat, q < n → A q = nI (F q) ∧ F q ≤ 14) (x2 : Int32) : ∀ (m k f : Nat) (mask : Int32), n - k ≤ m → m < f → Kn n V k = true → f_Mo_least_L178 x2 now A f mask (nI k) = some (Pm n V NX m k mask) := by
  have hn := h.1
  intro m
  induction m with
  | zero => intro k f mask hk hf hK; have := Kn_lt hK; omega
  | succ m ih =>
    intro k f mask hk hf hK
    obtain ⟨f, rfl⟩ : ∃ z, f = z + 1 := ⟨f - 1, by omega⟩
    have hkn := Kn_lt hK
    have ek : nI k + 1 = nI (k + 1) := by rw [l1, nI_add]
    rw [f_Mo_least_L178_s, lsM hn hr (by omega), ek]
    simp only [Option.bind_some, b2_0]
    unfold Pm
    cases hL : Ls n V k
    · simp only [reduceCtorEq, ↓reduceIte]
      obtain ⟨w, e1, hC, e2⟩ := (hNX k hkn).1 ⟨hK, nLs_K hK (by rw [hL]; decide)⟩
      have hw := hC.2.1.1
      have hw2 := hC.1
      have esh : (1 : Int32) <<< (nI w &&& 31) = sh w := rfl
      rw [l191 h hr hC e2 hA _ _ (w - (k + 1)) (k + 1) fu (by omega) (by unfold fu; omega) (by omega), Option.bind_some, esh, e1, nI_clamp (by omega)]
      exact ih w f _ (by omega) (by omega) (hC.2.1.2.1 w (by omega) (Nat.le_refl _))
    · simp only [reduceCtorEq, ↓reduceIte]
theorem l152 {n p d : Nat} {T V now A NX : Nat → Int32} (h : LW n p d T V) (hr : RowIs now n p d T V) {F : Nat → Nat} (hNX : ∀ q : Nat, q < n → NxOk n p T V F NX q) (hA : ∀ q : Nat, q < n → A q = nI (F q) ∧ F q ≤ 14) : ∀ (m k f : Nat) (mask : Int32), k + m = n → m < f → f_Mo_least_L152 now A f mask (nI k) = some (Ml n V NX m k mask) := by
  have hn := h.1
  have z0 : ((0 : Int32)).toNatClampNeg = 0 := rfl
  have i0 : inB (0 : Int32) 31 = true := by decide
  intro m
  induction m with
  | zero =>
    intro k f mask hk hf
    obtain ⟨f, rfl⟩ : ∃ z, f = z + 1 := ⟨f - 1, by omega⟩
    rw [f_Mo_least_L152_s, i0, if_pos rfl, z0, hr.1, if_pos (nI_le (by omega) (by omega))]
    rfl
  | succ m ih =>
    intro k f mask hk hf
    obtain ⟨f, rfl⟩ : ∃ z, f = z + 1 := ⟨f - 1, by omega⟩
    have ek : nI k + 1 = nI (k + 1) := by rw [l1, nI_add]
    have esh : (1 : Int32) <<< (nI k &&& 31) = sh k := rfl
    rw [f_Mo_least_L152_s, i0, if_pos rfl, z0, hr.1, if_neg (nI_ge (by omega) (by omega)), fsM hn hr (by omega), Option.bind_some, ek, esh]
    simp only [b2_0]
    unfold Ml
    cases hF : Fs n V k
    · simp only [reduceCtorEq, ↓reduceIte]; exact ih _ _ _ (by omega) (by omega)
    · simp only [reduceCtorEq, ↓reduceIte]
      rw [l178 h hr hNX hA _ 14 k fu _ (by omega) (by unfold fu; omega) (Fs_K hF), Option.bind_some]
      exact ih _ _ _ (by omega) (by omega)
theorem Xl_skip {n p : Nat} {T V NX : Nat → Int32} {w : Nat} (hw : w < 14) : ∀ (c k m : Nat) (mask : Int32), k + c = w → 0 < k → (∀ q : Nat, k - 1 ≤ q → q ≤ w → Kn n V q = true) → Xl n V NX (m + c) k mask (nI w) = Xl n V NX m w mask (nI w) := by
  intro c
  induction c with
  | zero => intro k m mask hk h0 hK; have : k = w := by omega
            subst this; rfl
  | succ c ih =>
    intro k m mask hk h0 hK
    show (if Fs n V k = true then _ else if nI k = nI w then _ else Xl n V NX (m + c) (k + 1) mask (nI w)) = _
    rw [if_neg (nFs_of h0 (hK (k - 1) (by omega) (by omega))), if_neg (by rw [nI_eq' (by omega) (by omega)]; omega)]
    exact ih (k + 1) m mask (by omega) (by omega) (fun q a b => hK q (by omega) b)
theorem Pm_stab {n p : Nat} {T V NX : Nat → Int32} {F : Nat → Nat} (hn : n ≤ 14) (hNX : ∀ q : Nat, q < n → NxOk n p T V F NX q) : ∀ (m m' k : Nat) (mask : Int32), n - k ≤ m → n - k ≤ m' → Kn n V k = true → Pm n V NX m k mask = Pm n V NX m' k mask := by
  intro m
  induction m with
  | zero => intro m' k mask hk hk' hK; have := Kn_lt hK; omega
  | succ m ih =>
    intro m' k mask hk hk' hK
    have hkn := Kn_lt hK
    obtain ⟨m', rfl⟩ : ∃ z, m' = z + 1 := ⟨m' - 1, by omega⟩
    unfold Pm
    by_cases hL : Ls n V k = true
    · rw [if_pos hL, if_pos hL]
    · rw [if_neg hL, if_neg hL]
      obtain ⟨w, e1, hC, e2⟩ := (hNX k hkn).1 ⟨hK, nLs_K hK hL⟩
      have hw := hC.2.1.1
      have hw2 := hC.1
      rw [e1, nI_clamp (by omega)]
      exact ih m' w _ (by omega) (by omega) (hC.2.1.2.1 w (by omega) (Nat.le_refl _))
/-- from a kept one to the stretch's end -/
theorem Xl_Pm {n p : Nat} {T V NX : Nat → Int32} {F : Nat → Nat} (hn : n ≤ 14) (hNX : ∀ q : Nat, q < n → NxOk n p T V F NX q) : ∀ (r k m l : Nat) (mask : Int32), n - k ≤ r → k + 1 + m = n → k ≤ l → Ls n V l = true → (∀ q : Nat, k ≤ q → q ≤ l → Kn n V q = true) → Xl n V NX m (k + 1) mask (NX k) = Xl n V NX (n - (l + 1)) (l + 1) (Pm n V NX 14 k mask) (-9) := by
  intro r
  induction r with
  | zero => intro k m l mask hr hm hkl hL hK; have := Kn_lt (hK k (by omega) hkl); omega
  | succ r ih =>
    intro k m l mask hr hm hkl hL hK
    have hKk := hK k (Nat.le_refl _) hkl
    have hkn := Kn_lt hKk
    have hln := Kn_lt (Ls_K hL).1
    rcases Nat.eq_or_lt_of_le hkl with e | e
    · subst e
      rw [(hNX k hkn).2 (by rw [(Ls_K hL).2]; rintro ⟨_, q⟩; cases q)]
      show _ = Xl n V NX _ _ (if Ls n V k = true then mask else _) _
      rw [if_pos hL]
      congr 1; omega
    · have hK1 := hK (k + 1) (by omega) (by omega)
      have hnL : ¬ Ls n V k = true := fun q => by have := (Ls_K q).2; rw [hK1] at this; cases this
      obtain ⟨w, e1, hC, e2⟩ := (hNX k hkn).1 ⟨hKk, hK1⟩
      have hw := hC.2.1.1
      have hw2 := hC.1
      have hKw := hC.2.1.2.1 w (by omega) (Nat.le_refl _)
      have hwl : w ≤ l := by
        rcases Nat.lt_or_ge l w with q | q
        · have := hC.2.1.2.1 (l + 1) (by omega) (by omega)
          rw [(Ls_K hL).2] at this; cases this
        · exact q
      rw [e1]
      have em : m = (n - w) + (w - (k + 1)) := by omega
      rw [em, Xl_skip (n := n) (p := p) (T := T) (V := V) (NX := NX) (show w < 14 by omega) (w - (k + 1)) (k + 1) (n - w) mask (by omega) (by omega) (fun q a b => hK q (by omega) (by omega))]
      obtain ⟨m2, hm2⟩ : ∃ m2, n - w = m2 + 1 := ⟨n - w - 1, by omega⟩
      rw [hm2]
      have s1 : Xl n V NX (m2 + 1) w mask (nI w) = Xl n V NX m2 (w + 1) (mask ||| sh w) (NX w) := by
        show (if Fs n V w = true then _ else if nI w = nI w then _ else _) = _
        rw [if_pos (rfl : nI w = nI w)]
        split <;> rfl
      rw [s1, ih w m2 l _ (by omega) (by omega) hwl hL (fun q a b => hK q (by omega) b)]
      congr 1
      show _ = (if Ls n V k = true then mask else Pm n V NX 13 (NX k).toNatClampNeg (mask ||| sh (NX k).toNatClampNeg))
      rw [if_neg hnL, e1, nI_clamp (by omega)]
      exact Pm_stab hn hNX 14 13 w _ (by omega) (by omega) hKw
theorem Ml_skip {n : Nat} {V NX : Nat → Int32} : ∀ (c k m : Nat) (mask : Int32), 0 < k → (∀ q : Nat, k - 1 ≤ q → q < k - 1 + c → Kn n V q = true) → Ml n V NX (m + c) k mask = Ml n V NX m (k + c) mask := by
  intro c
  induction c with
  | zero => intro k m mask h0 hK; rfl
  | succ c ih =>
    intro k m mask h0 hK
    show (if Fs n V k = true then _ else Ml n V NX (m + c) (k + 1) mask) = _
    rw [if_neg (nFs_of h0 (hK (k - 1) (by omega) (by omega))), ih (k + 1) m mask (by omega) (fun q a b => hK q (by omega) (by omega))]
    congr 1; omega
theorem nI_m9 {k : Nat} (hk : k < 2 ^ 31) : ¬ nI k = -9 := by
  intro q
  have h1 : (nI k).toInt = (k : Int) := nI_toInt hk
  rw [q] at h1
  have : (-9 : Int32).toInt = -9 := by decide
  omega
theorem Xl_Ml {n p : Nat} {T V NX : Nat → Int32} {F : Nat → Nat} (hn : n ≤ 14) (hNX : ∀ q : Nat, q < n → NxOk n p T V F NX q) : ∀ (m k : Nat) (mask : Int32), k + m = n → (Kn n V k = true → Fs n V k = true) → Xl n V NX m k mask (-9) = Ml n V NX m k mask := by
  intro m
  induction m using Nat.strongRecOn with
  | ind m ih =>
    intro k mask hk hF
    match m, ih, hk with
    | 0, _, _ => rfl
    | m + 1, ih, hk =>
      show (if Fs n V k = true then Xl n V NX m (k + 1) (mask ||| sh k) (NX k) else if nI k = -9 then _ else Xl n V NX m (k + 1) mask (-9)) = (if Fs n V k = true then Ml n V NX m (k + 1) (Pm n V NX 14 k (mask ||| sh k)) else Ml n V NX m (k + 1) mask)
      by_cases c : Fs n V k = true
      · rw [if_pos c, if_pos c]
        have hK := Fs_K c
        obtain ⟨l, a1, a2, a3⟩ := last_of (n - k) (Nat.le_refl _) hK
        have hln := Kn_lt (Ls_K a2).1
        rw [Xl_Pm hn hNX (n - k) k m l _ (Nat.le_refl _) (by omega) a1 a2 a3]
        have em : m = (n - (l + 1)) + (l - k) := by omega
        have e2 := Ml_skip (n := n) (V := V) (NX := NX) (l - k) (k + 1) (n - (l + 1)) (Pm n V NX 14 k (mask ||| sh k)) (by omega) (fun q x y => a3 q (by omega) (by omega))
        rw [← em] at e2
        rw [e2, show k + 1 + (l - k) = l + 1 by omega]
        exact ih (n - (l + 1)) (by omega) (l + 1) _ (by omega) (fun q => by rw [(Ls_K a2).2] at q; cases q)
      · rw [if_neg c, if_neg c, if_neg (nI_m9 (by omega))]
        have hK : Kn n V k = false := by
          cases q : Kn n V k
          · rfl
          · exact absurd (hF q) c
        exact ih m (by omega) (k + 1) _ (by omega) (fun q => Fs_of q (Or.inr (by rw [Nat.add_sub_cancel]; exact hK)))
theorem Xl_sub (n : Nat) (V NX : Nat → Int32) {q : Nat} (hq : q < 32) : ∀ (m k : Nat) (mask nx : Int32), k + m < 32 → bt (Xl n V NX m k mask nx) q = true → bt mask q = true ∨ q < k + m := by
  intro m
  induction m with
  | zero => intro k mask nx hk hb; exact Or.inl hb
  | succ m ih =>
    intro k mask nx hk hb
    have fin : ∀ nx' : Int32, bt (Xl n V NX m (k + 1) (mask ||| sh k) nx') q = true → bt mask q = true ∨ q < k + (m + 1) := by
      intro nx' hb
      rcases ih (k + 1) _ nx' (by omega) hb with e | e
      · rw [bt_sh mask (by omega) hq, Bool.or_eq_true] at e
        rcases e with e | e
        · exact Or.inl e
        · have := of_decide_eq_true e; exact Or.inr (by omega)
      · exact Or.inr (by omega)
    unfold Xl at hb
    split at hb
    · exact fin _ hb
    · split at hb
      · exact fin _ hb
      · rcases ih (k + 1) _ _ (by omega) hb with e | e
        · exact Or.inl e
        · exact Or.inr (by omega)
theorem least_ok {n p d : Nat} {T V N now : Nat → Int32} (h : LW n p d T V) (hr : RowIs now n p d T V) (hN : NeedsOk n T V N) (A B : Nat → Int32) : ∃ (mask : Int32) (A' B' : Nat → Int32), f_Thinning_chooseLeast A B (nI n) (nI p) V N = some (mask, A', B') ∧ (∀ fw : Nat → Int32, ∃ fw' : Nat → Int32, f_Mo_least now fw = some (mask, fw')) ∧ (∀ q : Nat, n ≤ q → q < 32 → bt mask q = false) := by
  have hn := h.1
  have z0 : ((0 : Int32)).toNatClampNeg = 0 := rfl
  have i0 : inB (0 : Int32) 31 = true := by decide
  obtain ⟨A', B', F, e1, e2⟩ := clX_L h hN n fu (nI n - 1) A B (fun _ => 0) (Nat.le_refl _) (by unfold fu; omega) rfl (fun q a b => absurd a (by omega))
  have hNX : ∀ q : Nat, q < n → NxOk n p T V F B' q := fun q hq => (e2 q hq).2
  refine ⟨Xl n V B' n 0 0 (-9), A', B', ?_, fun fw => ?_, fun q a b => ?_⟩
  · unfold f_Thinning_chooseLeast
    have e14 : (if (14 : Int32) < nI n then (14 : Int32) else nI n) = nI n := by rw [if_neg]; rw [l14]; exact nI_nlt (by omega) (by omega)
    rw [e14, e1, Option.bind_some, show f_Thinning_chooseLeast_L37 B' (nI n) V fu 0 (-9) 0 = _ from XlX h B' n 0 fu 0 (-9) (by omega) (by unfold fu; omega)]
    rfl
  · obtain ⟨A2, F2, m1, m2⟩ := clM_L h hr 0 n fu (nI n - 1) fw (fun _ => 0) (Nat.le_refl _) (by unfold fu; omega) rfl (fun q a b => absurd a (by omega))
    have eF : ∀ q : Nat, q < n → F q = F2 q := fun q hq => FOk_one (fun q hq => (e2 q hq).1) (fun q hq => (m2 q hq).2) (n - q) q (by omega) hq
    have hA : ∀ q : Nat, q < n → A2 q = nI (F q) ∧ F q ≤ 14 := fun q hq => ⟨by rw [eF q hq]; exact (m2 q hq).1, by have := (e2 q hq).1.2.1; omega⟩
    refine ⟨A2, ?_⟩
    unfold f_Mo_least
    rw [i0, if_pos rfl, z0, hr.1, m1, Option.bind_some, show f_Mo_least_L152 now A2 fu 0 0 = _ from l152 h hr hNX hA n 0 fu 0 (by omega) (by unfold fu; omega), Xl_Ml hn hNX n 0 0 (by omega) (fun q => Fs_of q (Or.inl rfl))]
    rfl
  · cases hb : bt (Xl n V B' n 0 0 (-9)) q
    · rfl
    · rcases Xl_sub n V B' b n 0 0 (-9) (by omega) hb with e | e
      · rw [b_0] at e; cases e
      · omega

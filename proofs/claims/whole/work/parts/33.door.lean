/-! ===== pure: the door ===== -/
def sh (k : Nat) : Int32 := (1 : Int32) <<< (nI k &&& 31)
def cutB (T V : Nat → Int32) (d p i k : Nat) : Bool := decide (d < k - i) || !decide (WN T V p i k = -9)
def Rd (n d p : Nat) (T V : Nat → Int32) : Nat → Nat → Int32 → Nat → Int32
  | 0, _, mask, _ => mask
  | m + 1, k, mask, fr => if Kn n V k = false then Rd n d p T V m (k + 1) mask fr else if Fs n V k = true then Rd n d p T V m (k + 1) (mask ||| sh k) k else
      if cutB T V d p fr k = true then (if Ls n V k = true then Rd n d p T V m (k + 1) ((mask ||| sh (k - 1)) ||| sh k) (k - 1) else Rd n d p T V m (k + 1) (mask ||| sh (k - 1)) (k - 1))
      else (if Ls n V k = true then Rd n d p T V m (k + 1) (mask ||| sh k) fr else Rd n d p T V m (k + 1) mask fr)
def dfS (n d p : Nat) (T V : Nat → Int32) (i : Nat) : Nat → Nat → Nat
  | 0, k => k
  | m + 1, k => if Ls n V k = true then k else if i + d ≤ k then k else if WN T V p i (k + 1) = -9 then dfS n d p T V i m (k + 1) else k
def df (n d p : Nat) (T V : Nat → Int32) (i : Nat) : Nat := dfS n d p T V i (n - i) i
def In (n d p : Nat) (T V : Nat → Int32) : Nat → Nat → Int32 → Int32
  | 0, _, mask => mask
  | m + 1, at', mask => if Ls n V at' = true then mask else In n d p T V m (df n d p T V at') (mask ||| sh (df n d p T V at'))
def Mr (n d p : Nat) (T V : Nat → Int32) : Nat → Nat → Int32 → Int32
  | 0, _, mask => mask
  | m + 1, k, mask => if Fs n V k = true then Mr n d p T V m (k + 1) (In n d p T V 14 k (mask ||| sh k)) else Mr n d p T V m (k + 1) mask
theorem Fs_K {n : Nat} {V : Nat → Int32} {k : Nat} (h : Fs n V k = true) : Kn n V k = true := by
  unfold Fs at h
  cases h2 : Kn n V k
  · rw [h2] at h; cases h
  · rfl
theorem Ls_K {n : Nat} {V : Nat → Int32} {k : Nat} (h : Ls n V k = true) : Kn n V k = true ∧ Kn n V (k + 1) = false := by
  unfold Ls at h
  cases h2 : Kn n V k
  · rw [h2] at h; cases h
  · cases h3 : Kn n V (k + 1)
    · exact ⟨rfl, rfl⟩
    · rw [h2, h3] at h; cases h
theorem nLs_K {n : Nat} {V : Nat → Int32} {k : Nat} (hk : Kn n V k = true) (h : ¬ Ls n V k = true) : Kn n V (k + 1) = true := by
  unfold Ls at h
  cases h3 : Kn n V (k + 1)
  · rw [hk, h3] at h; exact absurd rfl h
  · rfl
theorem Fs_of {n : Nat} {V : Nat → Int32} {k : Nat} (hk : Kn n V k = true) (h : k = 0 ∨ Kn n V (k - 1) = false) : Fs n V k = true := by
  unfold Fs
  rcases h with h | h
  · subst h; simp [hk]
  · simp [hk, h]
theorem nFs_of {n : Nat} {V : Nat → Int32} {k : Nat} (h0 : 0 < k) (h : Kn n V (k - 1) = true) : ¬ Fs n V k = true := by
  unfold Fs; simp [h0, h]
theorem nFs_K {n : Nat} {V : Nat → Int32} {k : Nat} (hk : Kn n V k = true) (h : ¬ Fs n V k = true) : 0 < k ∧ Kn n V (k - 1) = true := by
  rcases Nat.eq_zero_or_pos k with h0 | h0
  · exact absurd (Fs_of hk (Or.inl h0)) h
  · refine ⟨h0, ?_⟩
    cases h3 : Kn n V (k - 1)
    · exact absurd (Fs_of hk (Or.inr h3)) h
    · rfl
def NeedsOk (n : Nat) (T V N : Nat → Int32) : Prop := ∀ i j : Nat, i < j → (∀ q : Nat, i ≤ q → q ≤ j → Kn n V q = true) → NeedOk T V i j (N (14 * i + j))
theorem doorX_L {n pp d p : Nat} {T V N : Nat → Int32} (h : LW n pp d T V) (hN : NeedsOk n T V N) (hp : p ≤ 99) : ∀ (m k f fr : Nat) (mask : Int32), k + m = n → m < f → fr ≤ k → (0 < k → Kn n V (k - 1) = true → fr < k ∧ ∀ q : Nat, fr ≤ q → q ≤ k - 1 → Kn n V q = true) →
    f_Thinning_swingDoor_L7 (nI p) (nI n) (nI d) V N f mask (nI fr) (nI k) = some (Rd n d p T V m k mask fr) := by
  have hn := h.1
  have hd := h.2.2.1
  have hd2 := h.2.2.2.1
  intro m
  induction m with
  | zero =>
    intro k f fr mask hk hf hfr hi
    obtain ⟨f, rfl⟩ : ∃ z, f = z + 1 := ⟨f - 1, by omega⟩
    rw [f_Thinning_swingDoor_L7_s, if_pos (nI_le (by omega) (by omega))]
    rfl
  | succ m ih =>
    intro k f fr mask hk hf hfr hi
    obtain ⟨f, rfl⟩ : ∃ z, f = z + 1 := ⟨f - 1, by omega⟩
    rw [f_Thinning_swingDoor_L7_s, if_neg (nI_ge (by omega) (by omega)), knX hn V (by omega), fsX hn V (by omega), lsX hn V (by omega)]
    simp only [Option.bind_some, b2_0]
    have ek : nI k + 1 = nI (k + 1) := by rw [l1, nI_add]
    rw [ek]
    unfold Rd
    cases hK : Kn n V k
    · simp only [↓reduceIte]
      exact ih (k + 1) f fr mask (by omega) (by omega) (by omega) (fun _ q => by rw [Nat.add_sub_cancel] at q; rw [hK] at q; cases q)
    · simp only [reduceCtorEq, ↓reduceIte]
      cases hF : Fs n V k
      · simp only [reduceCtorEq, ↓reduceIte]
        obtain ⟨k0, kp⟩ := nFs_K hK (by rw [hF]; decide)
        obtain ⟨f1, f2⟩ := hi k0 kp
        have all : ∀ q : Nat, fr ≤ q → q ≤ k → Kn n V q = true := fun q a b => by
          rcases Nat.eq_or_lt_of_le b with e | e
          · subst e; exact hK
          · exact f2 q a (by omega)
        have e1 : (nI d < nI k - nI fr) = (d < k - fr) := by rw [pk_sub (by omega)]; exact nI_lt' (by omega) (by omega)
        have e2 : nI k - 1 = nI (k - 1) := by rw [l1, pk_sub (by omega)]
        rw [needN f1 (by omega), e2]
        simp only [e1, Option.bind_some]
        have e3 : (N (14 * fr + k) ≤ nI p) = (WN T V p fr k = -9) := by rw [hN fr k f1 all p (by omega), WN_m9 f1 (by omega)]
        simp only [e3]
        have inv1 : ∀ fr' : Nat, fr' ≤ k → (∀ q : Nat, fr' ≤ q → q ≤ k → Kn n V q = true) → (0 < k + 1 → Kn n V (k + 1 - 1) = true → fr' < k + 1 ∧ ∀ q : Nat, fr' ≤ q → q ≤ k + 1 - 1 → Kn n V q = true) := fun fr' a b _ _ => ⟨by omega, fun q c e => b q c (by omega)⟩
        have hcut : ∀ q : Nat, k - 1 ≤ q → q ≤ k → Kn n V q = true := fun q a b => all q (by omega) b
        by_cases c1 : d < k - fr
        · have hc : cutB T V d p fr k = true := by simp [cutB, c1]
          simp only [c1, hc, ↓reduceIte]
          cases hL : Ls n V k
          · simp only [reduceCtorEq, ↓reduceIte]; exact ih (k + 1) f (k - 1) _ (by omega) (by omega) (by omega) (inv1 _ (by omega) hcut)
          · simp only [reduceCtorEq, ↓reduceIte]; exact ih (k + 1) f (k - 1) _ (by omega) (by omega) (by omega) (inv1 _ (by omega) hcut)
        · by_cases c2 : WN T V p fr k = -9
          · have hc : cutB T V d p fr k = false := by simp [cutB, c1, c2]
            simp only [c1, c2, hc, reduceCtorEq, ↓reduceIte]
            cases hL : Ls n V k
            · simp only [reduceCtorEq, ↓reduceIte]; exact ih (k + 1) f fr _ (by omega) (by omega) (by omega) (inv1 _ (by omega) all)
            · simp only [reduceCtorEq, ↓reduceIte]; exact ih (k + 1) f fr _ (by omega) (by omega) (by omega) (inv1 _ (by omega) all)
          · have hc : cutB T V d p fr k = true := by simp [cutB, c2]
            simp only [c1, c2, hc, ↓reduceIte]
            cases hL : Ls n V k
            · simp only [reduceCtorEq, ↓reduceIte]; exact ih (k + 1) f (k - 1) _ (by omega) (by omega) (by omega) (inv1 _ (by omega) hcut)
            · simp only [reduceCtorEq, ↓reduceIte]; exact ih (k + 1) f (k - 1) _ (by omega) (by omega) (by omega) (inv1 _ (by omega) hcut)
      · simp only [reduceCtorEq, ↓reduceIte]
        exact ih (k + 1) f k _ (by omega) (by omega) (by omega) (fun _ _ => ⟨by omega, fun q a b => by
          have : q = k := by omega
          subst this; exact hK⟩)
theorem doorX {n pp d p : Nat} {T V N : Nat → Int32} (h : LW n pp d T V) (hN : NeedsOk n T V N) (hp : p ≤ 99) : f_Thinning_swingDoor (nI n) (nI d) V N (nI p) = some (Rd n d p T V n 0 0 0) := by
  unfold f_Thinning_swingDoor
  rw [show f_Thinning_swingDoor_L7 (nI p) (nI n) (nI d) V N fu 0 0 0 = _ from doorX_L h hN hp n 0 fu 0 0 (by omega) (by have := h.1; unfold fu; omega) (by omega) (fun q => absurd q (by omega))]
  rfl
theorem dfM_L {n pp d p : Nat} {T V now : Nat → Int32} (h : LW n pp d T V) (hr : RowIs now n pp d T V) (hp : p ≤ 99) {i : Nat} : ∀ (m k f : Nat), k + m = n → m < f → i ≤ k → Kn n V k = true → f_Mo_doorFrom_L2 (nI i) (nI p) now f (nI k) = some (nI (dfS n d p T V i m k)) := by
  have hn := h.1
  have hd2 := h.2.2.2.1
  intro m
  induction m with
  | zero => intro k f hk hf hik hK; have := Kn_lt hK; omega
  | succ m ih =>
    intro k f hk hf hik hK
    obtain ⟨f, rfl⟩ : ∃ z, f = z + 1 := ⟨f - 1, by omega⟩
    have z2 : ((2 : Int32)).toNatClampNeg = 2 := rfl
    have i2 : inB (2 : Int32) 31 = true := by decide
    rw [f_Mo_doorFrom_L2_s, lsM hn hr (by omega), Option.bind_some]
    simp only [b2_0, z2, i2, hr.2.2.1, ↓reduceIte, nI_add]
    unfold dfS
    cases hL : Ls n V k
    · simp only [reduceCtorEq, ↓reduceIte]
      have hK1 := nLs_K hK (by rw [hL]; decide)
      have hk1 := Kn_lt hK1
      have e1 : (nI (i + d) ≤ nI k) = (i + d ≤ k) := nI_le' (by omega) (by omega)
      simp only [e1]
      by_cases c1 : i + d ≤ k
      · simp only [c1, ↓reduceIte]
      · simp only [c1, ↓reduceIte]
        rw [l1, nI_add, whyM h hr (by omega) (by omega) hk1, Option.bind_some]
        by_cases c2 : WN T V p i (k + 1) = -9
        · simp only [c2, ↓reduceIte]; exact ih (k + 1) f (by omega) (by omega) (by omega) hK1
        · simp only [c2, ↓reduceIte]
    · simp only [reduceCtorEq, ↓reduceIte]
theorem dfM {n pp d p : Nat} {T V now : Nat → Int32} (h : LW n pp d T V) (hr : RowIs now n pp d T V) (hp : p ≤ 99) {i : Nat} (hK : Kn n V i = true) : f_Mo_doorFrom now (nI i) (nI p) = some (nI (df n d p T V i)) := by
  have := Kn_lt hK
  unfold f_Mo_doorFrom
  rw [dfM_L h hr hp (n - i) i fu (by omega) (by have := h.1; unfold fu; omega) (Nat.le_refl _) hK]
  rfl
theorem dfS_ge (n d p : Nat) (T V : Nat → Int32) (i : Nat) : ∀ (m k : Nat), k ≤ dfS n d p T V i m k := by
  intro m
  induction m with
  | zero => intro k; exact Nat.le_refl _
  | succ m ih =>
    intro k
    unfold dfS
    split
    · exact Nat.le_refl _
    · split
      · exact Nat.le_refl _
      · split
        · have := ih (k + 1); omega
        · exact Nat.le_refl _
theorem dfS_K {n d p : Nat} {T V : Nat → Int32} {i : Nat} : ∀ (m k : Nat), Kn n V k = true → Kn n V (dfS n d p T V i m k) = true := by
  intro m
  induction m with
  | zero => intro k h; exact h
  | succ m ih =>
    intro k h
    unfold dfS
    split
    · exact h
    · rename_i hL
      split
      · exact h
      · split
        · exact ih (k + 1) (nLs_K h hL)
        · exact h
theorem WN_next (T V : Nat → Int32) (p i : Nat) : WN T V p i (i + 1) = -9 := by
  unfold WN
  rw [Nat.sub_self]
  rfl
theorem df_gt {n pp d p : Nat} {T V : Nat → Int32} (h : LW n pp d T V) {i : Nat} (hK : Kn n V i = true) (hL : ¬ Ls n V i = true) : i < df n d p T V i := by
  have hi := Kn_lt hK
  have hd := h.2.2.1
  unfold df
  obtain ⟨m, hm⟩ : ∃ m, n - i = m + 1 := ⟨n - i - 1, by omega⟩
  rw [hm]
  unfold dfS
  rw [if_neg hL, if_neg (by omega), if_pos (WN_next T V p i)]
  have := dfS_ge n d p T V i m (i + 1)
  omega
theorem df_K {n d p : Nat} {T V : Nat → Int32} {i : Nat} (hK : Kn n V i = true) : Kn n V (df n d p T V i) = true := dfS_K _ _ hK
theorem InM_L {n pp d p : Nat} {T V now : Nat → Int32} (h : LW n pp d T V) (hr : RowIs now n pp d T V) (hp : p ≤ 99) (x3 : Int32) : ∀ (m k f : Nat) (mask : Int32), n - k ≤ m → m < f → Kn n V k = true → f_Mo_door_L32 (nI p) x3 now f mask (nI k) = some (In n d p T V m k mask) := by
  have hn := h.1
  intro m
  induction m with
  | zero => intro k f mask hk hf hK; have := Kn_lt hK; omega
  | succ m ih =>
    intro k f mask hk hf hK
    have hkn := Kn_lt hK
    obtain ⟨f, rfl⟩ : ∃ z, f = z + 1 := ⟨f - 1, by omega⟩
    rw [f_Mo_door_L32_s, lsM hn hr (by omega), Option.bind_some]
    simp only [b2_0]
    unfold In
    cases hL : Ls n V k
    · rw [if_pos rfl, if_neg (by decide), dfM h hr hp hK, Option.bind_some]
      have := df_gt (p := p) h hK (by rw [hL]; decide)
      exact ih _ f _ (by omega) (by omega) (df_K hK)
    · rw [if_neg (by decide), if_pos rfl]
theorem In_stab {n pp d p : Nat} {T V : Nat → Int32} (h : LW n pp d T V) : ∀ (m m' k : Nat) (mask : Int32), n - k ≤ m → n - k ≤ m' → Kn n V k = true → In n d p T V m k mask = In n d p T V m' k mask := by
  intro m
  induction m with
  | zero => intro m' k mask hk hk' hK; have := Kn_lt hK; omega
  | succ m ih =>
    intro m' k mask hk hk' hK
    have hkn := Kn_lt hK
    obtain ⟨m', rfl⟩ : ∃ z, m' = z + 1 := ⟨m' - 1, by omega⟩
    unfold In
    by_cases hL : Ls n V k = true
    · rw [if_pos hL, if_pos hL]
    · rw [if_neg hL, if_neg hL]
      have := df_gt (p := p) h hK hL
      exact ih m' _ _ (by omega) (by omega) (df_K hK)
theorem In_next {n pp d p : Nat} {T V : Nat → Int32} (h : LW n pp d T V) {k : Nat} (mask : Int32) (hK : Kn n V k = true) (hL : ¬ Ls n V k = true) : In n d p T V 14 k mask = In n d p T V 14 (df n d p T V k) (mask ||| sh (df n d p T V k)) := by
  have hn := h.1
  have := df_gt (p := p) h hK hL
  have hk := df_K (d := d) (p := p) (T := T) hK
  have hk2 := Kn_lt hk
  show (if Ls n V k = true then mask else In n d p T V 13 (df n d p T V k) (mask ||| sh (df n d p T V k))) = _
  rw [if_neg hL]
  exact In_stab h 13 14 _ _ (by omega) (by omega) hk
theorem In_last {n d p : Nat} {T V : Nat → Int32} {k : Nat} (mask : Int32) (hL : Ls n V k = true) : In n d p T V 14 k mask = mask := by
  show (if Ls n V k = true then mask else _) = _
  rw [if_pos hL]
theorem doorM_L {n pp d p : Nat} {T V now : Nat → Int32} (h : LW n pp d T V) (hr : RowIs now n pp d T V) (hp : p ≤ 99) : ∀ (m k f : Nat) (mask : Int32), k + m = n → m < f → f_Mo_door_L4 (nI p) now f mask (nI k) = some (Mr n d p T V m k mask) := by
  have hn := h.1
  have z0 : ((0 : Int32)).toNatClampNeg = 0 := rfl
  have i0 : inB (0 : Int32) 31 = true := by decide
  intro m
  induction m with
  | zero =>
    intro k f mask hk hf
    obtain ⟨f, rfl⟩ : ∃ z, f = z + 1 := ⟨f - 1, by omega⟩
    rw [f_Mo_door_L4_s, i0, if_pos rfl, z0, hr.1, if_pos (nI_le (by omega) (by omega))]
    rfl
  | succ m ih =>
    intro k f mask hk hf
    obtain ⟨f, rfl⟩ : ∃ z, f = z + 1 := ⟨f - 1, by omega⟩
    rw [f_Mo_door_L4_s, i0, if_pos rfl, z0, hr.1, if_neg (nI_ge (by omega) (by omega)), fsM hn hr (by omega), Option.bind_some]
    simp only [b2_0]
    have ek : nI k + 1 = nI (k + 1) := by rw [l1, nI_add]
    rw [ek]
    unfold Mr
    cases hF : Fs n V k
    · rw [if_pos rfl, if_neg (by decide)]; exact ih (k + 1) f mask (by omega) (by omega)
    · rw [if_neg (by decide), if_pos rfl, InM_L h hr hp _ 14 k fu _ (by omega) (by unfold fu; omega) (Fs_K hF), Option.bind_some]
      exact ih (k + 1) f _ (by omega) (by omega)
theorem doorM {n pp d p : Nat} {T V now : Nat → Int32} (h : LW n pp d T V) (hr : RowIs now n pp d T V) (hp : p ≤ 99) : f_Mo_door now (nI p) = some (Mr n d p T V n 0 0) := by
  unfold f_Mo_door
  rw [show f_Mo_door_L4 (nI p) now fu 0 0 = _ from doorM_L h hr hp n 0 fu 0 (by omega) (by have := h.1; unfold fu; omega)]
  rfl
theorem df_run {n d p : Nat} {T V : Nat → Int32} {i : Nat} : ∀ (k m : Nat), i ≤ k → (∀ q : Nat, i ≤ q → q ≤ k → Kn n V q = true) → (∀ q : Nat, i < q → q ≤ k → cutB T V d p i q = false) → dfS n d p T V i (m + (k - i)) i = dfS n d p T V i m k := by
  intro k
  induction k with
  | zero => intro m hik _ _; have : i = 0 := by omega
            subst this; rfl
  | succ k ih =>
    intro m hik hK hc
    rcases Nat.eq_or_lt_of_le hik with e | e
    · subst e; rw [Nat.sub_self]; rfl
    · have e1 := ih (m + 1) (by omega) (fun q a b => hK q a (by omega)) (fun q a b => hc q a (by omega))
      have e2 : m + (k + 1 - i) = m + 1 + (k - i) := by omega
      rw [e2, e1]
      have c1 := hc (k + 1) e (Nat.le_refl _)
      simp only [cutB, Bool.or_eq_false_iff, decide_eq_false_iff_not, Bool.not_eq_false', decide_eq_true_eq] at c1
      show (if Ls n V k = true then k else if i + d ≤ k then k else if WN T V p i (k + 1) = -9 then dfS n d p T V i m (k + 1) else k) = _
      have hL : ¬ Ls n V k = true := fun q => by
        have := (Ls_K q).2
        rw [hK (k + 1) (by omega) (Nat.le_refl _)] at this
        cases this
      rw [if_neg hL, if_neg (by omega), if_pos c1.2]
theorem door_AB {n pp d p : Nat} {T V : Nat → Int32} (h : LW n pp d T V) : ∀ m : Nat,
    (∀ (k fr : Nat) (mask : Int32), k + m = n → (Kn n V k = true → Fs n V k = true) → Rd n d p T V m k mask fr = Mr n d p T V m k mask) ∧
    (∀ (k i : Nat) (mask : Int32), k + m = n → i < k → (∀ q : Nat, i ≤ q → q ≤ k → Kn n V q = true) → (∀ q : Nat, i < q → q < k → cutB T V d p i q = false) → Rd n d p T V m k mask i = Mr n d p T V m k (In n d p T V 14 i mask)) := by
  have hd := h.2.2.1
  intro m
  induction m with
  | zero =>
    refine ⟨fun _ _ _ _ _ => rfl, fun k i mask hk hi hK _ => ?_⟩
    have := Kn_lt (hK k (by omega) (Nat.le_refl _)); omega
  | succ m ih =>
    obtain ⟨A, B⟩ := ih
    have nextOff : ∀ k : Nat, Kn n V (k + 1) = false → (Kn n V (k + 1) = true → Fs n V (k + 1) = true) := fun k h1 h2 => by rw [h1] at h2; cases h2
    refine ⟨fun k fr mask hk hb => ?_, fun k i mask hk hi hK hc => ?_⟩
    · unfold Rd Mr
      cases hKk : Kn n V k
      · have hF : Fs n V k = false := by
          cases q : Fs n V k
          · rfl
          · have := Fs_K q; rw [hKk] at this; cases this
        simp only [hF, reduceCtorEq, ↓reduceIte]
        exact A (k + 1) fr mask (by omega) (fun q => Fs_of q (Or.inr hKk))
      · have hF := hb hKk
        simp only [hF, reduceCtorEq, ↓reduceIte]
        by_cases hL : Ls n V k = true
        · rw [In_last _ hL]
          exact A (k + 1) k _ (by omega) (nextOff k (Ls_K hL).2)
        · exact B (k + 1) k _ (by omega) (by omega) (fun q a b => by
            rcases Nat.eq_or_lt_of_le b with e | e
            · subst e; exact nLs_K hKk hL
            · have : q = k := by omega
              subst this; exact hKk) (fun q a b => absurd a (by omega))
    · have hKk := hK k (by omega) (Nat.le_refl _)
      have hkn := Kn_lt hKk
      have hKp := hK (k - 1) (by omega) (by omega)
      have hKi := hK i (Nat.le_refl _) (by omega)
      have hF : Fs n V k = false := by
        cases q : Fs n V k
        · rfl
        · exact absurd q (nFs_of (by omega) hKp)
      have nL : ∀ q : Nat, i ≤ q → q < k → ¬ Ls n V q = true := fun q a b z => by
        have := (Ls_K z).2
        rw [hK (q + 1) (by omega) (by omega)] at this; cases this
      have run : df n d p T V i = dfS n d p T V i (n - (k - 1)) (k - 1) := by
        have := df_run (n := n) (d := d) (p := p) (T := T) (V := V) (i := i) (k - 1) (n - (k - 1)) (by omega) (fun q a b => hK q a (by omega)) (fun q a b => hc q a (by omega))
        unfold df
        rw [← this]; congr 1; omega
      obtain ⟨w, hw⟩ : ∃ w, n - (k - 1) = w + 1 := ⟨n - (k - 1) - 1, by omega⟩
      rw [hw] at run
      unfold dfS at run
      rw [if_neg (nL (k - 1) (by omega) (by omega)), Nat.sub_add_cancel (show 1 ≤ k by omega)] at run
      unfold Rd Mr
      simp only [hKk, hF, reduceCtorEq, ↓reduceIte]
      cases hcut : cutB T V d p i k
      · -- no cut at k
        have c1 := hcut
        simp only [cutB, Bool.or_eq_false_iff, decide_eq_false_iff_not, Bool.not_eq_false', decide_eq_true_eq] at c1
        rw [if_neg (by omega), if_pos c1.2] at run
        simp only [reduceCtorEq, ↓reduceIte]
        by_cases hL : Ls n V k = true
        · have e : df n d p T V i = k := by
            rw [run]
            obtain ⟨w', rfl⟩ : ∃ z, w = z + 1 := ⟨w - 1, by omega⟩
            unfold dfS
            rw [if_pos hL]
          rw [if_pos hL, In_next h mask hKi (nL i (Nat.le_refl _) hi), e, In_last _ hL]
          exact A (k + 1) i _ (by omega) (nextOff k (Ls_K hL).2)
        · rw [if_neg hL]
          exact B (k + 1) i mask (by omega) (by omega) (fun q a b => by
            rcases Nat.eq_or_lt_of_le b with e | e
            · subst e; exact nLs_K hKk hL
            · exact hK q a (by omega)) (fun q a b => by
            rcases Nat.eq_or_lt_of_le (Nat.le_of_lt_succ b) with e | e
            · subst e; exact hcut
            · exact hc q a e)
      · have c1 := hcut
        simp only [cutB, Bool.or_eq_true, decide_eq_true_eq, Bool.not_eq_true', decide_eq_false_iff_not] at c1
        have e : df n d p T V i = k - 1 := by
          rw [run]
          by_cases c2 : i + d ≤ k - 1
          · rw [if_pos c2]
          · rw [if_neg c2, if_neg (c1.resolve_left (by omega))]
        have hLp : ¬ Ls n V (k - 1) = true := nL (k - 1) (by omega) (by omega)
        rw [In_next h mask hKi (nL i (Nat.le_refl _) hi), e]
        simp only [↓reduceIte]
        by_cases hL : Ls n V k = true
        · have e2 : df n d p T V (k - 1) = k := by
            unfold df
            obtain ⟨w', hw'⟩ : ∃ z, n - (k - 1) = z + 1 + 1 := ⟨n - (k - 1) - 2, by omega⟩
            rw [hw']
            unfold dfS
            have ek : k - 1 + 1 = k := by omega
            have ew : WN T V p (k - 1) k = -9 := by have := WN_next T V p (k - 1); rw [ek] at this; exact this
            rw [if_neg hLp, if_neg (by omega), ek, if_pos ew]
            unfold dfS
            rw [if_pos hL]
          rw [if_pos hL, In_next h _ hKp hLp, e2, In_last _ hL]
          exact A (k + 1) (k - 1) _ (by omega) (nextOff k (Ls_K hL).2)
        · rw [if_neg hL]
          refine B (k + 1) (k - 1) _ (by omega) (by omega) (fun q a b => ?_) (fun q a b => ?_)
          · rcases Nat.eq_or_lt_of_le b with e | e
            · subst e; exact nLs_K hKk hL
            · exact hK q (by omega) (by omega)
          · have eq : q = k := by omega
            subst eq
            have ew := WN_next T V p (q - 1)
            rw [Nat.sub_add_cancel (show 1 ≤ q by omega)] at ew
            simp only [cutB, ew, Bool.or_eq_false_iff, decide_eq_false_iff_not, decide_true, Bool.not_true, and_true]
            omega
theorem door_eq {n pp d p : Nat} {T V : Nat → Int32} (h : LW n pp d T V) : Rd n d p T V n 0 0 0 = Mr n d p T V n 0 0 := (door_AB h n).1 0 0 0 (by omega) (fun q => Fs_of q (Or.inl rfl))
/-- the class's door is the reference's -/
theorem door_ok {n pp d p : Nat} {T V N now : Nat → Int32} (h : LW n pp d T V) (hr : RowIs now n pp d T V) (hN : NeedsOk n T V N) (hp : p ≤ 99) : f_Thinning_swingDoor (nI n) (nI d) V N (nI p) = some (Mr n d p T V n 0 0) ∧ f_Mo_door now (nI p) = some (Mr n d p T V n 0 0) := ⟨by rw [doorX h hN hp, door_eq h], doorM h hr hp⟩

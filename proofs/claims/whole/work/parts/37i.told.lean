/-! ===== pure: told ===== -/
/-- the class's two: the last kept one at or ahead of the time x, the first kept one at or behind it -/
def Lu (T : Nat → Int32) (x D : Int32) : Nat → Nat → Int32 → Int32
  | 0, _, r => r
  | m + 1, k, r => if bt D k = true then (if x < T k then Lu T x D m (k + 1) r else Lu T x D m (k + 1) (nI k)) else Lu T x D m (k + 1) r
def Ff (T : Nat → Int32) (x D : Int32) : Nat → Nat → Int32
  | 0, _ => -9
  | m + 1, k => if bt D k = true then (if T k < x then Ff T x D m (k + 1) else nI k) else Ff T x D m (k + 1)
theorem LuX {n : Nat} (hn : n ≤ 14) (T : Nat → Int32) (x D : Int32) : ∀ (m k f : Nat) (r : Int32), k + m = n → m < f → f_Log_lastUpTo_L6 x D (nI n) T f r (nI k) = some (Lu T x D m k r) := by
  intro m
  induction m with
  | zero =>
    intro k f r hk hf
    obtain ⟨f, rfl⟩ : ∃ z, f = z + 1 := ⟨f - 1, by omega⟩
    rw [f_Log_lastUpTo_L6_s, if_pos (nI_le (by omega) (by omega))]
    rfl
  | succ m ih =>
    intro k f r hk hf
    obtain ⟨f, rfl⟩ : ∃ z, f = z + 1 := ⟨f - 1, by omega⟩
    have ek : nI k + 1 = nI (k + 1) := by rw [l1, nI_add]
    rw [f_Log_lastUpTo_L6_s, if_neg (nI_ge (by omega) (by omega)), bitAt_bt D (by omega)]
    simp only [inB_nI (show k < 14 by omega) (by omega), ↓reduceIte, nI_clamp (show k < 2 ^ 31 by omega), ek]
    unfold Lu
    cases hb : bt D k
    · simp only [reduceCtorEq, ↓reduceIte]; rw [if_neg (by decide)]; exact ih _ _ _ (by omega) (by omega)
    · simp only [↓reduceIte]
      by_cases c : x < T k
      · simp only [c, ↓reduceIte]; exact ih _ _ _ (by omega) (by omega)
      · simp only [c, ↓reduceIte]; exact ih _ _ _ (by omega) (by omega)
theorem FfX {n : Nat} (hn : n ≤ 14) (T : Nat → Int32) (x D : Int32) : ∀ (m k f : Nat), k + m = n → m < f → (f_Log_firstFrom_L2 x D (nI n) T f (nI k)).bind (fun z1 => if z1.1 = 0 then some z1.2 else some (-9 : Int32)) = some (Ff T x D m k) := by
  intro m
  induction m with
  | zero =>
    intro k f hk hf
    obtain ⟨f, rfl⟩ : ∃ z, f = z + 1 := ⟨f - 1, by omega⟩
    rw [f_Log_firstFrom_L2_s, if_pos (nI_le (by omega) (by omega))]
    rfl
  | succ m ih =>
    intro k f hk hf
    obtain ⟨f, rfl⟩ : ∃ z, f = z + 1 := ⟨f - 1, by omega⟩
    have ek : nI k + 1 = nI (k + 1) := by rw [l1, nI_add]
    rw [f_Log_firstFrom_L2_s, if_neg (nI_ge (by omega) (by omega)), bitAt_bt D (by omega)]
    simp only [inB_nI (show k < 14 by omega) (by omega), ↓reduceIte, nI_clamp (show k < 2 ^ 31 by omega), ek]
    unfold Ff
    cases hb : bt D k
    · simp only [reduceCtorEq, ↓reduceIte]; rw [if_neg (by decide)]; exact ih _ _ (by omega) (by omega)
    · simp only [↓reduceIte]
      by_cases c : T k < x
      · simp only [c, ↓reduceIte]; exact ih _ _ (by omega) (by omega)
      · simp only [c, ↓reduceIte]; rfl
theorem Lu_late {n p d : Nat} {T V : Nat → Int32} (h : LW n p d T V) {x D : Int32} : ∀ (m k : Nat) (r : Int32), k + m = n → (∀ q : Nat, k ≤ q → q < n → x < T q) → Lu T x D m k r = r := by
  intro m
  induction m with
  | zero => intro k r _ _; rfl
  | succ m ih =>
    intro k r hk hl
    unfold Lu
    have := ih (k + 1) r (by omega) (fun q a b => hl q (by omega) b)
    by_cases c : bt D k = true
    · rw [if_pos c, if_pos (hl k (Nat.le_refl _) (by omega)), this]
    · rw [if_neg c, this]
/-- the reference's one loop against the two -/
theorem told_L {n p d : Nat} {T V now : Nat → Int32} (h : LW n p d T V) (hr : RowIs now n p d T V) {D : Int32} (x x3 : Int32) : ∀ (m k f : Nat) (r : Int32), k + m = n → m < f → (r = -9 ∨ ∃ a : Nat, a < k ∧ r = nI a ∧ bt D a = true ∧ T a < x) →
    (∃ b : Nat, k ≤ b ∧ b < n ∧ bt D b = true ∧ T b = x ∧ Lu T x D m k r = nI b ∧ Ff T x D m k = nI b ∧ (∃ r', f_Mo_told_L61 x x3 D now f r (nI k) = some (0, r', nI b))) ∨
    (∃ (b : Nat) (r' : Int32), k ≤ b ∧ b < n ∧ bt D b = true ∧ x < T b ∧ Lu T x D m k r = r' ∧ Ff T x D m k = nI b ∧ f_Mo_told_L61 x x3 D now f r (nI k) = some (1, r', nI b) ∧ (r' = -9 ∨ ∃ a : Nat, a < b ∧ r' = nI a ∧ bt D a = true ∧ T a < x)) ∨
    (Ff T x D m k = -9 ∧ ∃ y z, f_Mo_told_L61 x x3 D now f r (nI k) = some (2, y, z)) := by
  have hn := h.1
  have z0 : ((0 : Int32)).toNatClampNeg = 0 := rfl
  have i0 : inB (0 : Int32) 31 = true := by decide
  intro m
  induction m with
  | zero =>
    intro k f r hk hf hR
    obtain ⟨f, rfl⟩ : ∃ z, f = z + 1 := ⟨f - 1, by omega⟩
    right; right
    refine ⟨rfl, r, nI k, ?_⟩
    rw [f_Mo_told_L61_s, i0, if_pos rfl, z0, hr.1, if_pos (nI_le (by omega) (by omega))]
  | succ m ih =>
    intro k f r hk hf hR
    obtain ⟨f, rfl⟩ : ∃ z, f = z + 1 := ⟨f - 1, by omega⟩
    have ek : nI k + 1 = nI (k + 1) := by rw [l1, nI_add]
    have e3 : (3 : Int32) + nI k = nI (3 + k) := by rw [l3, nI_add]
    have hkn : k < n := by omega
    have hR' : r = -9 ∨ ∃ a : Nat, a < k + 1 ∧ r = nI a ∧ bt D a = true ∧ T a < x := by
      rcases hR with e | ⟨a, a1, a2⟩
      · exact Or.inl e
      · exact Or.inr ⟨a, by omega, a2⟩
    have step : ∀ r1 : Int32, (r1 = -9 ∨ ∃ a : Nat, a < k + 1 ∧ r1 = nI a ∧ bt D a = true ∧ T a < x) →
        (∃ b : Nat, k ≤ b ∧ b < n ∧ bt D b = true ∧ T b = x ∧ Lu T x D m (k + 1) r1 = nI b ∧ Ff T x D m (k + 1) = nI b ∧ (∃ r', f_Mo_told_L61 x x3 D now f r1 (nI (k + 1)) = some (0, r', nI b))) ∨
        (∃ (b : Nat) (r' : Int32), k ≤ b ∧ b < n ∧ bt D b = true ∧ x < T b ∧ Lu T x D m (k + 1) r1 = r' ∧ Ff T x D m (k + 1) = nI b ∧ f_Mo_told_L61 x x3 D now f r1 (nI (k + 1)) = some (1, r', nI b) ∧ (r' = -9 ∨ ∃ a : Nat, a < b ∧ r' = nI a ∧ bt D a = true ∧ T a < x)) ∨
        (Ff T x D m (k + 1) = -9 ∧ ∃ y z, f_Mo_told_L61 x x3 D now f r1 (nI (k + 1)) = some (2, y, z)) := by
      intro r1 h1
      rcases ih (k + 1) f r1 (by omega) (by omega) h1 with ⟨b, a1, a2⟩ | ⟨b, r', a1, a2⟩ | a
      · exact Or.inl ⟨b, by omega, a2⟩
      · exact Or.inr (Or.inl ⟨b, r', by omega, a2⟩)
      · exact Or.inr (Or.inr a)
    rw [f_Mo_told_L61_s, i0, if_pos rfl, z0, hr.1, if_neg (nI_ge hkn (by omega)), has_bt D (by omega), e3, ek]
    simp only [inB_nI (show 3 + k < 31 by omega) (by omega), ↓reduceIte, nI_clamp (show 3 + k < 2 ^ 31 by omega), (hr.2.2.2 k hkn).1]
    unfold Lu Ff
    cases hb : bt D k
    · simp only [reduceCtorEq, ↓reduceIte]
      exact step r hR'
    · simp only [↓reduceIte, n10]
      have late : ∀ q : Nat, k + 1 ≤ q → q < n → T k < T q := fun q a b => by
        rw [Int32.lt_iff_toInt_lt]; exact h.lt (by omega) b
      by_cases c1 : T k = x
      · left
        refine ⟨k, Nat.le_refl _, hkn, hb, c1, ?_, ?_, r, by rw [if_pos c1]⟩
        · rw [if_neg (by rw [c1]; exact Int32.lt_irrefl)]
          exact Lu_late h m (k + 1) _ (by omega) (fun q a b => by rw [← c1]; exact late q a b)
        · rw [if_neg (by rw [c1]; exact Int32.lt_irrefl)]
      · rw [if_neg c1]
        by_cases c2 : T k ≤ x
        · have c3 : T k < x := by
            rcases Int32.lt_or_eq_of_le c2 with q | q
            · exact q
            · exact absurd q c1
          rw [if_pos c2, if_neg (Int32.not_lt.mpr c2), if_pos c3]
          exact step (nI k) (Or.inr ⟨k, by omega, rfl, hb, c3⟩)
        · have c3 : x < T k := Int32.not_le.mp c2
          rw [if_neg c2, if_pos c3, if_neg (Int32.not_lt.mpr (Int32.le_of_lt c3))]
          right; left
          refine ⟨k, r, Nat.le_refl _, hkn, hb, c3, ?_, rfl, rfl, hR⟩
          exact Lu_late h m (k + 1) _ (by omega) (fun q a b => Int32.lt_trans c3 (late q a b))
theorem Xl_K {n p : Nat} {T V NX : Nat → Int32} {F : Nat → Nat} (hn : n ≤ 14) (hNX : ∀ q : Nat, q < n → NxOk n p T V F NX q) {q : Nat} (hq : q < 32) : ∀ (m k : Nat) (mask nx : Int32), k + m = n → (nx = -9 ∨ ∃ w : Nat, w < 14 ∧ nx = nI w ∧ Kn n V w = true) → bt (Xl n V NX m k mask nx) q = true → bt mask q = true ∨ Kn n V q = true := by
  intro m
  induction m with
  | zero => intro k mask nx hk hx hb; exact Or.inl hb
  | succ m ih =>
    intro k mask nx hk hx hb
    have hnx : NX k = -9 ∨ ∃ w : Nat, w < 14 ∧ NX k = nI w ∧ Kn n V w = true := by
      by_cases c : Kn n V k = true ∧ Kn n V (k + 1) = true
      · obtain ⟨w, e1, hC, -⟩ := (hNX k (by omega)).1 c
        have := hC.1
        exact Or.inr ⟨w, by omega, e1, hC.2.1.2.1 w (by have := hC.2.1.1; omega) (Nat.le_refl _)⟩
      · exact Or.inl ((hNX k (by omega)).2 c)
    have fin : Kn n V k = true → bt (Xl n V NX m (k + 1) (mask ||| sh k) (NX k)) q = true → bt mask q = true ∨ Kn n V q = true := by
      intro hK hb
      rcases ih (k + 1) _ (NX k) (by omega) hnx hb with e | e
      · rw [bt_sh mask (by omega) hq, Bool.or_eq_true] at e
        rcases e with e | e
        · exact Or.inl e
        · have := of_decide_eq_true e; subst this; exact Or.inr hK
      · exact Or.inr e
    unfold Xl at hb
    split at hb
    · rename_i c; exact fin (Fs_K c) hb
    · split at hb
      · rename_i c
        refine fin ?_ hb
        rcases hx with e | ⟨w, w1, e, hw⟩
        · rw [e] at c; exact absurd c (nI_m9 (by omega))
        · rw [e, nI_eq (by omega) (by omega)] at c; subst c; exact hw
      · exact ih (k + 1) _ _ (by omega) hx hb
theorem least_K {n p d : Nat} {T V N now : Nat → Int32} (h : LW n p d T V) (hr : RowIs now n p d T V) (hN : NeedsOk n T V N) (fw fw' : Nat → Int32) (mask : Int32) (hm : f_Mo_least now fw = some (mask, fw')) : ∀ q : Nat, q < 32 → bt mask q = true → Kn n V q = true := by
  have hn := h.1
  have z0 : ((0 : Int32)).toNatClampNeg = 0 := rfl
  have i0 : inB (0 : Int32) 31 = true := by decide
  obtain ⟨A', B', F, e1, e2⟩ := clX_L h hN n fu (nI n - 1) (fun _ => 0) (fun _ => 0) (fun _ => 0) (Nat.le_refl _) (by unfold fu; omega) rfl (fun q a b => absurd a (by omega))
  have hNX : ∀ q : Nat, q < n → NxOk n p T V F B' q := fun q hq => (e2 q hq).2
  obtain ⟨A2, F2, m1, m2⟩ := clM_L h hr 0 n fu (nI n - 1) fw (fun _ => 0) (Nat.le_refl _) (by unfold fu; omega) rfl (fun q a b => absurd a (by omega))
  have eF : ∀ q : Nat, q < n → F q = F2 q := fun q hq => FOk_one (fun q hq => (e2 q hq).1) (fun q hq => (m2 q hq).2) (n - q) q (by omega) hq
  have hA : ∀ q : Nat, q < n → A2 q = nI (F q) ∧ F q ≤ 14 := fun q hq => ⟨by rw [eF q hq]; exact (m2 q hq).1, by have := (e2 q hq).1.2.1; omega⟩
  have key : f_Mo_least now fw = some (Xl n V B' n 0 0 (-9), A2) := by
    unfold f_Mo_least
    rw [i0, if_pos rfl, z0, hr.1, m1, Option.bind_some, show f_Mo_least_L152 now A2 fu 0 0 = _ from l152 h hr hNX hA n 0 fu 0 (by omega) (by unfold fu; omega), Xl_Ml hn hNX n 0 0 (by omega) (fun q => Fs_of q (Or.inl rfl))]
    rfl
  rw [key] at hm
  injection hm with hm
  injection hm with hm _
  subst hm
  intro q hq hb
  rcases Xl_K hn hNX hq n 0 0 (-9) (by omega) (Or.inl rfl) hb with e | e
  · rw [b_0] at e; cases e
  · exact e
theorem fresh_least {n p d : Nat} {T V now : Nat → Int32} (h : LW n p d T V) (hr : RowIs now n p d T V) {st : Int32} {S N : Nat → Int32} {pcs dm lm : Int32} {PA SE : Nat → Int32} (hF : Fresh n V T st S N pcs dm lm PA SE now) : ∀ q : Nat, q < 32 → bt lm q = true → Kn n V q = true := by
  obtain ⟨w1, h1⟩ := hF.2.2.2.2.2.2.1 (fun _ => 0)
  obtain ⟨S', N', e1, s1, s2⟩ := mall h 0 (fun _ => 0) (fun _ => 0)
  exact least_K h hr (show NeedsOk n T V N' from s2) _ _ _ h1
theorem kn_m9 {n : Nat} (V : Nat → Int32) : f_Log_isKnown (nI n) V (-9) = some 0 := by
  have h : (-9 : Int32) < 0 := by decide
  unfold f_Log_isKnown f_Log_has
  simp only [h, ↓reduceIte]
theorem gcd_1 (a : Nat) : a / Nat.gcd a 1 = a ∧ 1 / Nat.gcd a 1 = 1 := by
  rw [Nat.gcd_one_right]; exact ⟨Nat.div_one a, rfl⟩
theorem val_nat {n p d : Nat} {T V : Nat → Int32} (h : LW n p d T V) {b : Nat} (hK : Kn n V b = true) : ∃ w : Nat, w ≤ 999 ∧ V b = nI w := by
  have hb := Kn_lt hK
  rcases h.2.2.2.2.2.2 b hb with q | ⟨q1, q2⟩
  · exact absurd q (of_decide_eq_true hK).2
  · obtain ⟨w, hw⟩ := Int.eq_ofNat_of_zero_le q1
    refine ⟨w, by omega, ?_⟩
    apply Int32.toInt_inj.mp
    rw [hw, nI_toInt (by omega)]
theorem time_nat {n p d : Nat} {T V : Nat → Int32} (h : LW n p d T V) {b : Nat} (hb : b < n) : ∃ w : Nat, w ≤ 999 ∧ T b = nI w := by
  obtain ⟨q1, q2⟩ := h.t hb
  obtain ⟨w, hw⟩ := Int.eq_ofNat_of_zero_le q1
  refine ⟨w, by omega, ?_⟩
  apply Int32.toInt_inj.mp
  rw [hw, nI_toInt (by omega)]
theorem told_ok {n p d : Nat} {T V now S : Nat → Int32} (h : LW n p d T V) (hr : RowIs now n p d T V) (hS : ∀ k : Nat, k < n → f_Mo_stretchOf now (nI k) = some (S k)) {D : Int32} (hD : ∀ q : Nat, q < n → bt D q = true → Kn n V q = true) {t t3 : Nat} (ht : t ≤ 999) (ht3 : t3 ≤ 1) {x p3 : Int32} (hx : x = nI t) (hp3 : p3 = nI t3) (u l : Int32) {α β : Type} :
    ∃ a u' l' : Int32, (∀ k : Int32 → Int32 → Int32 → Option α, (f_Log_lastUpTo (nI n) T x D).bind (fun r9 => (f_Log_firstFrom (nI n) T x D).bind (fun r10 => (f_Log_isKnown (nI n) V r9).bind (fun r11 => (if r11 = 0 then k ((-9 : Int32)) u l else (f_Log_isKnown (nI n) V r10).bind (fun r13 => (if r13 = 0 then k ((-9 : Int32)) u l else (f_Lines_stretchAt S (nI n) r9).bind (fun r15 => (f_Lines_stretchAt S (nI n) r10).bind (fun r16 => (if r15 = r16 then (f_Lines_measureValue (nI n) T V u l r9 r10 x).bind (fun z18 => k ((f_Fraction_part z18.1 z18.2 p3)) z18.1 z18.2) else k ((-9 : Int32)) u l))))))))) = k a u' l') ∧ (∀ k : Int32 → Option β, (f_Mo_told_L61 x p3 D now fu (-9 : Int32) (0 : Int32)).bind (fun z10 => (if z10.1 = 0 then (if p3 = 0 then (if inB ((17 : Int32) + z10.2.2) 31 = true then k ((now (((17 : Int32) + z10.2.2)).toNatClampNeg)) else none) else k ((1 : Int32))) else (if z10.1 = 1 then (if z10.2.1 = (-9 : Int32) then k ((-9 : Int32)) else (f_Mo_isSide now z10.2.1 z10.2.2).bind (fun r14 => (if r14 = 0 then k ((-9 : Int32)) else (if inB ((3 : Int32) + z10.2.2) 31 = true then (if inB ((3 : Int32) + z10.2.1) 31 = true then (if inB ((17 : Int32) + z10.2.1) 31 = true then (if inB ((3 : Int32) + z10.2.2) 31 = true then (if inB ((17 : Int32) + z10.2.2) 31 = true then (if inB ((3 : Int32) + z10.2.1) 31 = true then (if p3 = 0 then (f_Mo_lowest (((((now (((17 : Int32) + z10.2.1)).toNatClampNeg) * ((now (((3 : Int32) + z10.2.2)).toNatClampNeg) - x)) + ((now (((17 : Int32) + z10.2.2)).toNatClampNeg) * (x - (now (((3 : Int32) + z10.2.1)).toNatClampNeg))))).toInt64) ((((now (((3 : Int32) + z10.2.2)).toNatClampNeg) - (now (((3 : Int32) + z10.2.1)).toNatClampNeg))).toInt64) (1 : Int32)).bind (fun r23 => k (r23)) else (f_Mo_lowest (((((now (((17 : Int32) + z10.2.1)).toNatClampNeg) * ((now (((3 : Int32) + z10.2.2)).toNatClampNeg) - x)) + ((now (((17 : Int32) + z10.2.2)).toNatClampNeg) * (x - (now (((3 : Int32) + z10.2.1)).toNatClampNeg))))).toInt64) ((((now (((3 : Int32) + z10.2.2)).toNatClampNeg) - (now (((3 : Int32) + z10.2.1)).toNatClampNeg))).toInt64) (0 : Int32)).bind (fun r24 => k (r24))) else none) else none) else none) else none) else none) else none)))) else k ((-9 : Int32))))) = k a) := by
  have hn := h.1
  have LU : f_Log_lastUpTo (nI n) T x D = some (Lu T x D n 0 (-9)) := by
    unfold f_Log_lastUpTo
    rw [show f_Log_lastUpTo_L6 x D (nI n) T fu (-9) 0 = _ from LuX hn T x D n 0 fu (-9) (by omega) (by unfold fu; omega)]
    rfl
  have FF : f_Log_firstFrom (nI n) T x D = some (Ff T x D n 0) := by
    unfold f_Log_firstFrom
    exact FfX hn T x D n 0 fu (by omega) (by unfold fu; omega)
  simp only [LU, FF, Option.bind_some]
  rcases told_L h hr (D := D) x p3 n 0 fu (-9) (by omega) (by unfold fu; omega) (Or.inl rfl) with ⟨b, -, hb, hbt, e1, e2, e3, r', e4⟩ | ⟨b, r', -, hb, hbt, e1, e2, e3, e4, hR⟩ | ⟨e3, y, z, e4⟩
  · have hK := hD b hb hbt
    obtain ⟨w, hw, ew⟩ := val_nat h hK
    have s17 : (17 : Int32) + nI b = nI (17 + b) := by rw [l17, nI_add]
    have mv : f_Lines_measureValue (nI n) T V u l (nI b) (nI b) x = some (nI w, 1) := by
      unfold f_Lines_measureValue
      rw [if_pos rfl, valueN hb hn, Option.bind_some, ew, show (1 : Int32) = nI 1 from rfl, assignX (by omega) (by omega) (by omega), (gcd_1 w).1, (gcd_1 w).2]
      rfl
    rw [show f_Mo_told_L61 x p3 D now fu (-9) 0 = _ from e4, e2, e3]
    simp only [Option.bind_some, knX hn V (show b < 2 ^ 31 by omega), b2, hK, stretchN hb hn, mv, n10, ↓reduceIte, s17, inB_nI (show 17 + b < 31 by omega) (by omega), nI_clamp (show 17 + b < 2 ^ 31 by omega), (hr.2.2.2 b hb).2, ew]
    subst hp3
    rcases (show t3 = 0 ∨ t3 = 1 by omega) with rfl | rfl
    · exact ⟨nI w, nI w, 1, fun k => rfl, fun k => rfl⟩
    · exact ⟨1, nI w, 1, fun k => rfl, fun k => rfl⟩
  · rw [show f_Mo_told_L61 x p3 D now fu (-9) 0 = _ from e4, e2, e3]
    have hK := hD b hb hbt
    rcases hR with rfl | ⟨a, ha, rfl, hat, hax⟩
    · exact ⟨-9, u, l, fun k => by rw [kn_m9]; rfl, fun k => rfl⟩
    · have hKa := hD a (by omega) hat
      obtain ⟨wa, hwa, ewa⟩ := val_nat h hKa
      obtain ⟨wb, hwb, ewb⟩ := val_nat h hK
      obtain ⟨ta, hta, eta⟩ := time_nat h (show a < n by omega)
      obtain ⟨tb, htb, etb⟩ := time_nat h hb
      have k1 : ta < t := by rw [eta, hx] at hax; exact (nI_ltI (by omega) (by omega)).mp hax
      have k2 : t < tb := by rw [etb, hx] at e1; exact (nI_ltI (by omega) (by omega)).mp e1
      have s17 : (17 : Int32) + nI b = nI (17 + b) := by rw [l17, nI_add]
      have s17a : (17 : Int32) + nI a = nI (17 + a) := by rw [l17, nI_add]
      have s3 : (3 : Int32) + nI b = nI (3 + b) := by rw [l3, nI_add]
      have s3a : (3 : Int32) + nI a = nI (3 + a) := by rw [l3, nI_add]
      have eo : nI wa * (nI tb - x) + nI wb * (x - nI ta) = nI (wa * (tb - t) + wb * (t - ta)) := by
        rw [hx, pk_sub (by omega), pk_sub (by omega), pk_mul, pk_mul, nI_add]
      have bo1 : wa * (tb - t) ≤ 999 * 999 := Nat.mul_le_mul hwa (by omega)
      have bo2 : wb * (t - ta) ≤ 999 * 999 := Nat.mul_le_mul hwb (by omega)
      have hs := Sp_pos h ha hb
      have es : nI tb - nI ta = nI (Sp T a b) := by
        have := spanM h hr ha hb
        rw [(hr.2.2.2 b hb).1, (hr.2.2.2 a (by omega)).1, etb, eta] at this; exact this
      have mv : f_Lines_measureValue (nI n) T V u l (nI a) (nI b) x = some (nI ((wa * (tb - t) + wb * (t - ta)) / Nat.gcd (wa * (tb - t) + wb * (t - ta)) (Sp T a b)), nI (Sp T a b / Nat.gcd (wa * (tb - t) + wb * (t - ta)) (Sp T a b))) := by
        unfold f_Lines_measureValue
        rw [if_neg (by rw [nI_eq' (by omega) (by omega)]; omega)]
        simp only [timeN hb hn, timeN (show a < n by omega) hn, valueN hb hn, valueN (show a < n by omega) hn, spanX h ha hb, Option.bind_some, ewa, ewb, eta, etb, eo]
        rw [assignX (by omega) (by omega) (by omega)]
        rfl
      have lo := lowestM (o := wa * (tb - t) + wb * (t - ta)) (s := Sp T a b) (by omega) (by omega) (by omega)
      have sd : f_Mo_isSide now (nI a) (nI b) = some (if S a = S b then 1 else 0) := by
        unfold f_Mo_isSide
        simp only [knM hn hr (show a < 2 ^ 31 by omega), knM hn hr (show b < 2 ^ 31 by omega), hKa, hK, b2, ↓reduceIte, n10, Option.bind_some, hS a (by omega), hS b hb]
        split <;> rfl
      simp only [Option.bind_some, knX hn V (show b < 2 ^ 31 by omega), knX hn V (show a < 2 ^ 31 by omega), b2, hK, hKa, stretchN hb hn, stretchN (show a < n by omega) hn, mv, n10, ↓reduceIte, s17, s17a, s3, s3a, inB_nI (show 17 + b < 31 by omega) (by omega), nI_clamp (show 17 + b < 2 ^ 31 by omega), inB_nI (show 17 + a < 31 by omega) (by omega), nI_clamp (show 17 + a < 2 ^ 31 by omega), inB_nI (show 3 + b < 31 by omega) (by omega), nI_clamp (show 3 + b < 2 ^ 31 by omega), inB_nI (show 3 + a < 31 by omega) (by omega), nI_clamp (show 3 + a < 2 ^ 31 by omega), (hr.2.2.2 b hb).2, (hr.2.2.2 b hb).1, (hr.2.2.2 a (show a < n by omega)).2, (hr.2.2.2 a (show a < n by omega)).1, ewa, ewb, eta, etb, eo, es, sd, nI_m9 (show a < 2 ^ 31 by omega), nI_l (show wa * (tb - t) + wb * (t - ta) < 2 ^ 31 by omega), nI_l (show Sp T a b < 2 ^ 31 by omega), lo.1, lo.2, Nat.one_ne_zero]
      by_cases c : S a = S b
      · simp only [c, ↓reduceIte, n10]
        subst hp3
        rcases (show t3 = 0 ∨ t3 = 1 by omega) with rfl | rfl
        · exact ⟨_, _, _, fun k => rfl, fun k => rfl⟩
        · exact ⟨_, _, _, fun k => rfl, fun k => rfl⟩
      · simp only [c, ↓reduceIte]
        exact ⟨_, _, _, fun k => rfl, fun k => rfl⟩
  · rw [show f_Mo_told_L61 x p3 D now fu (-9) 0 = _ from e4, e3]
    refine ⟨-9, u, l, fun k => ?_, fun k => rfl⟩
    rcases kn_cases hn hr (Lu T x D n 0 (-9)) with ⟨k1, k2⟩ | ⟨j, q0, -, -, k1, k2⟩
    · rw [k1]; rfl
    · rw [k1, kn_m9]; rfl
theorem p_told (v_text_length : Int32) (A_text_letters : Nat → Int32) (v_parser_at : Int32) (v_parser_kind : Int32) (v_parser_place : Int32) (v_parser_number : Int32) (v_parser_isPromiseTold : Int32) (v_parser_isDelayTold : Int32) (v_parser_draft_size : Int32) (v_parser_draft_promise : Int32) (v_parser_draft_delay : Int32) (A_parser_draft_times : Nat → Int32) (A_parser_draft_values : Nat → Int32) (v_log_size : Int32) (v_log_promise : Int32) (v_log_delay : Int32) (A_log_times : Nat → Int32) (A_log_values : Nat → Int32) (v_history_next : Int32) (v_history_size : Int32) (v_history_ring_places : Int32) (v_history_ring_filled : Int32) (A_history_ring_cells : Nat → Int32) (v_images_places : Int32) (v_images_filled : Int32) (A_images_cells : Nat → Int32) (v_lines_stretches : Int32) (A_lines_stretch : Nat → Int32) (A_lines_needs : Nat → Int32) (v_thinning_isOutdated : Int32) (v_thinning_pieces : Int32) (v_thinning_doorMask : Int32) (v_thinning_leastMask : Int32) (A_thinning_piece : Nat → Int32) (A_thinning_sent : Nat → Int32) (A_thinning_steps : Nat → Int32) (A_thinning_next : Nat → Int32) (v_seen_size : Int32) (v_seen_keptMask : Int32) (v_seen_droppedMask : Int32) (v_survey_isOutdated : Int32) (v_survey_possible : Int32) (v_survey_least : Int32) (v_survey_greatest : Int32) (A_survey_doorMasks : Nat → Int32) (v_fraction_upper : Int32) (v_fraction_lower : Int32) (v_undoMany : Int32) (v_undoAt : Int32) (v_seenMany : Int32) (v_letterMany : Int32) (v_readAt : Int32) (v_tokenAt : Int32) (v_token : Int32) (v_value : Int32) (v_faultAt : Int32) (v_readOnce : Int32) (v_greatUpper : Int64) (v_greatLower : Int64) (A_now : Nat → Int32) (A_undos : Nat → Int32) (A_seen : Nat → Int32) (A_seenAs : Nat → Int32) (A_isKept : Nat → Int32) (A_kept : Nat → Int32) (A_text : Nat → Int32) (A_read : Nat → Int32) (A_fewest : Nat → Int32) (A_doors : Nat → Int32) (A_isSo : Nat → Int32) (p1 : Int32) (p2 : Int32) (p3 : Int32) (h : Rel v_text_length A_text_letters v_log_size v_log_promise v_log_delay A_log_times A_log_values v_history_next v_history_size v_history_ring_places v_history_ring_filled A_history_ring_cells v_images_places v_images_filled A_images_cells v_lines_stretches A_lines_stretch A_lines_needs v_thinning_isOutdated v_thinning_pieces v_thinning_doorMask v_thinning_leastMask A_thinning_piece A_thinning_sent v_seen_size v_seen_keptMask v_seen_droppedMask v_survey_isOutdated A_survey_doorMasks v_undoMany v_undoAt v_seenMany v_letterMany A_now A_undos A_seen A_seenAs A_isKept A_kept A_text) : ∃ (zX : Int32 × Int32 × (Nat → Int32) × (Nat → Int32) × Int32 × Int32 × Int32 × Int32 × (Nat → Int32) × (Nat → Int32) × (Nat → Int32) × (Nat → Int32) × Int32 × Int32) (zM : Int32 × (Nat → Int32)), f_TR_told v_log_size v_log_promise v_log_delay A_log_times A_log_values v_lines_stretches A_lines_stretch A_lines_needs v_thinning_isOutdated v_thinning_pieces v_thinning_doorMask v_thinning_leastMask A_thinning_piece A_thinning_sent A_thinning_steps A_thinning_next v_fraction_upper v_fraction_lower p1 p2 p3 = some zX ∧ f_Mo_told A_now A_fewest p1 p2 p3 = some zM ∧ zX.1 = zM.1 ∧ Rel v_text_length A_text_letters v_log_size v_log_promise v_log_delay A_log_times A_log_values v_history_next v_history_size v_history_ring_places v_history_ring_filled A_history_ring_cells v_images_places v_images_filled A_images_cells zX.2.1 zX.2.2.1 zX.2.2.2.1 zX.2.2.2.2.1 zX.2.2.2.2.2.1 zX.2.2.2.2.2.2.1 zX.2.2.2.2.2.2.2.1 zX.2.2.2.2.2.2.2.2.1 zX.2.2.2.2.2.2.2.2.2.1 v_seen_size v_seen_keptMask v_seen_droppedMask v_survey_isOutdated A_survey_doorMasks v_undoMany v_undoAt v_seenMany v_letterMany A_now A_undos A_seen A_seenAs A_isKept A_kept A_text := by
  obtain ⟨hT, ⟨n, p, d, hw, rfl, rfl, rfl, hrow⟩, hHi, hI, hTh, hSe, hSu⟩ := h
  have hn := hw.1
  have hp := hw.2.1
  have i1 : inB (1 : Int32) 31 = true := by decide
  have z1 : ((1 : Int32)).toNatClampNeg = 1 := rfl
  unfold f_TR_told f_Mo_told
  rcases within_cases p1 999 (by omega) with ⟨a1, a2⟩ | ⟨t, ht, ex, a1, a2⟩
  · rw [show (999 : Int32) = nI 999 from rfl, a1, a2]
    exact ⟨_, _, rfl, rfl, rfl, hT, ⟨n, p, d, hw, rfl, rfl, rfl, hrow⟩, hHi, hI, hTh, hSe, hSu⟩
  · rw [show (999 : Int32) = nI 999 from rfl, a1, a2]
    rcases within_cases p2 1 (by omega) with ⟨b1, b2⟩ | ⟨t2, ht2, ex2, b1, b2⟩
    · rw [← l1] at b1 b2
      rw [b1, b2]
      exact ⟨_, _, rfl, rfl, rfl, hT, ⟨n, p, d, hw, rfl, rfl, rfl, hrow⟩, hHi, hI, hTh, hSe, hSu⟩
    · rw [← l1] at b1 b2
      rw [b1, b2]
      rcases within_cases p3 1 (by omega) with ⟨c1, c2⟩ | ⟨t3, ht3, ex3, c1, c2⟩
      · rw [← l1] at c1 c2
        rw [c1, c2]
        exact ⟨_, _, rfl, rfl, rfl, hT, ⟨n, p, d, hw, rfl, rfl, rfl, hrow⟩, hHi, hI, hTh, hSe, hSu⟩
      · rw [← l1] at c1 c2
        rw [c1, c2]
        rw [nI_clamp (show n < 2 ^ 31 by omega)] at hTh
        obtain ⟨pcs', dm', lm', PA', SE', ST', NX', st', S', N', e, hF⟩ := refresh_ok hw hrow hTh A_thinning_steps A_thinning_next
        obtain ⟨hD, hS, hb, hb2⟩ := fresh_door hw hrow hF
        have hb3 := fresh_least hw hrow hF
        have fin := ThinR_of hF
        rw [← nI_clamp (show n < 2 ^ 31 by omega)] at fin
        have rel := (⟨hT, ⟨n, p, d, hw, rfl, rfl, rfl, hrow⟩, hHi, hI, fin, hSe, hSu⟩ : Rel v_text_length A_text_letters (nI n) (nI p) (nI d) A_log_times A_log_values v_history_next v_history_size v_history_ring_places v_history_ring_filled A_history_ring_cells v_images_places v_images_filled A_images_cells st' S' N' 0 pcs' dm' lm' PA' SE' v_seen_size v_seen_keptMask v_seen_droppedMask v_survey_isOutdated A_survey_doorMasks v_undoMany v_undoAt v_seenMany v_letterMany A_now A_undos A_seen A_seenAs A_isKept A_kept A_text)
        obtain ⟨f1, f2, f3, f4, f5, f6, f7, f8⟩ := hF
        obtain ⟨fw', q4⟩ := f7 A_fewest
        rw [e]
        simp only [Option.bind_some, n10, ↓reduceIte, i1, z1, f4, q4]
        by_cases c : p2 = 0
        · rw [if_pos c, if_pos c]
          obtain ⟨a, u', l', X, M⟩ := told_ok hw hrow f2 (D := dm') (fun q hq hbt => hD.1 q (by omega) hbt) ht ht3 ex ex3 v_fraction_upper v_fraction_lower (α := Int32 × Int32 × (Nat → Int32) × (Nat → Int32) × Int32 × Int32 × Int32 × Int32 × (Nat → Int32) × (Nat → Int32) × (Nat → Int32) × (Nat → Int32) × Int32 × Int32) (β := Int32 × (Nat → Int32))
          exact ⟨_, _, X (fun a u l => some (a, st', S', N', 0, pcs', dm', lm', PA', SE', ST', NX', u, l)), M (fun a => some (a, A_fewest)), rfl, rel⟩
        · rw [if_neg c, if_neg c]
          obtain ⟨a, u', l', X, M⟩ := told_ok hw hrow f2 (D := lm') (fun q hq hbt => hb3 q (by omega) hbt) ht ht3 ex ex3 v_fraction_upper v_fraction_lower (α := Int32 × Int32 × (Nat → Int32) × (Nat → Int32) × Int32 × Int32 × Int32 × Int32 × (Nat → Int32) × (Nat → Int32) × (Nat → Int32) × (Nat → Int32) × Int32 × Int32) (β := Int32 × (Nat → Int32))
          exact ⟨_, _, X (fun a u l => some (a, st', S', N', 0, pcs', dm', lm', PA', SE', ST', NX', u, l)), M (fun a => some (a, fw')), rfl, rel⟩

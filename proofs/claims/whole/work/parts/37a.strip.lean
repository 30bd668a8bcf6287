/-! ===== pure: strips ===== -/
/-- U / G is the greatest of the fractions that P tells (0 / 1: of none) -/
def FM (P : Nat → Nat → Prop) (U G : Nat) : Prop := 1 ≤ G ∧ U ≤ 2013984 ∧ G ≤ 1998 ∧ ((U = 0 ∧ G = 1) ∨ P U G) ∧ ∀ o s : Nat, P o s → o * G ≤ U * s
theorem FM_iff {P P' : Nat → Nat → Prop} {U G : Nat} (h : FM P U G) (hP : ∀ o s : Nat, P' o s ↔ P o s) : FM P' U G := by
  obtain ⟨h1, h2, h3, h4, h5⟩ := h
  refine ⟨h1, h2, h3, ?_, fun o s q => h5 o s ((hP o s).mp q)⟩
  rcases h4 with e | e
  · exact Or.inl e
  · exact Or.inr ((hP U G).mpr e)
theorem FM_more {P : Nat → Nat → Prop} {U G o s : Nat} (h : FM P U G) (ho : o ≤ 2013984) (hs : 1 ≤ s) (hs2 : s ≤ 1998) : FM (fun o' s' => P o' s' ∨ (o' = o ∧ s' = s)) (if o * G ≤ U * s then U else o) (if o * G ≤ U * s then G else s) := by
  obtain ⟨h1, h2, h3, h4, h5⟩ := h
  by_cases c : o * G ≤ U * s
  · rw [if_pos c, if_pos c]
    refine ⟨h1, h2, h3, ?_, ?_⟩
    · rcases h4 with e | e
      · exact Or.inl e
      · exact Or.inr (Or.inl e)
    · rintro o' s' (q | ⟨rfl, rfl⟩)
      · exact h5 o' s' q
      · exact c
  · rw [if_neg c, if_neg c]
    refine ⟨hs, ho, hs2, Or.inr (Or.inr ⟨rfl, rfl⟩), ?_⟩
    rintro o' s' (q | ⟨rfl, rfl⟩)
    · have a1 := h5 o' s' q
      have a2 : U * s ≤ o * G := by omega
      have a3 : o' * G * s ≤ U * s' * s := Nat.mul_le_mul_right s a1
      have a4 : U * s * s' ≤ o * G * s' := Nat.mul_le_mul_right s' a2
      have a5 : G * (o' * s) ≤ G * (o * s') := by
        have e1 : o' * G * s = G * (o' * s) := by rw [Nat.mul_comm o' G, Nat.mul_assoc]
        have e2 : U * s' * s = U * s * s' := by rw [Nat.mul_assoc, Nat.mul_comm s' s, ← Nat.mul_assoc]
        have e3 : o * G * s' = G * (o * s') := by rw [Nat.mul_comm o G, Nat.mul_assoc]
        omega
      exact Nat.le_of_mul_le_mul_left a5 (by omega)
    · exact Nat.le_refl _
theorem FM_le {P : Nat → Nat → Prop} {U G : Nat} (h : FM P U G) (p : Nat) : U ≤ p * G ↔ ∀ o s : Nat, P o s → o ≤ p * s := by
  obtain ⟨h1, h2, h3, h4, h5⟩ := h
  constructor
  · intro hu o s q
    have a1 := h5 o s q
    have a2 : U * s ≤ p * G * s := Nat.mul_le_mul_right s hu
    have a3 : G * o ≤ G * (p * s) := by
      have e1 : o * G = G * o := Nat.mul_comm _ _
      have e2 : p * G * s = G * (p * s) := by rw [Nat.mul_comm p G, Nat.mul_assoc]
      omega
    exact Nat.le_of_mul_le_mul_left a3 (by omega)
  · intro hq
    rcases h4 with ⟨e1, e2⟩ | e
    · subst e1; exact Nat.zero_le _
    · exact hq U G e
theorem cmp_le {a b : Nat} (ha : a < 2 ^ 62) (hb : b < 2 ^ 62) : (lg_cmp (lN a) (lN b) ≤ 0) = (a ≤ b) := by
  unfold lg_cmp
  have e1 : (lN a > lN b) = (b < a) := propext (pk_lLT (by omega) (by omega))
  have e2 : (lN a = lN b) = (a = b) := propext (pk_lEQ (by omega) (by omega))
  simp only [e1, e2]
  apply propext
  by_cases c : b < a
  · rw [if_pos c]; exact ⟨fun q => absurd q (by decide), fun q => absurd q (by omega)⟩
  · rw [if_neg c]
    by_cases c2 : a = b
    · rw [if_pos c2]; exact ⟨fun _ => by omega, fun _ => by decide⟩
    · rw [if_neg c2]; exact ⟨fun _ => by omega, fun _ => by decide⟩
theorem cmp_gt {a b : Nat} (ha : a < 2 ^ 62) (hb : b < 2 ^ 62) : (0 < lg_cmp (lN a) (lN b)) = (b < a) := by
  have := cmp_le ha hb
  apply propext
  rw [← Int32.not_le, this]
  omega
theorem greatM {P : Nat → Nat → Prop} {U G o s : Nat} (h : FM P U G) (ho : o ≤ 2013984) (hs2 : s ≤ 1998) : f_Mo_greater (lN U) (lN G) (lN o) (lN s) = some (lN (if o * G ≤ U * s then U else o), lN (if o * G ≤ U * s then G else s)) := by
  obtain ⟨h1, h2, h3, h4, h5⟩ := h
  have b1 : o * G ≤ 2013984 * 1998 := Nat.mul_le_mul ho h3
  have b2 : U * s ≤ 2013984 * 1998 := Nat.mul_le_mul h2 hs2
  unfold f_Mo_greater
  rw [lN_mul, lN_mul]
  simp only [cmp_le (show o * G < 2 ^ 62 by omega) (show U * s < 2 ^ 62 by omega)]
  by_cases c : o * G ≤ U * s
  · simp only [c, ↓reduceIte]
  · simp only [c, ↓reduceIte]
theorem lay33 {n p d : Nat} {T V now : Nat → Int32} (h : LW n p d T V) (hr : RowIs now n p d T V) {a c : Nat} (hac : a < c) (hc : c < n) (x2 : Int32) : ∀ (m b f U G : Nat) (P : Nat → Nat → Prop), b + m = c → a < b → m < f → FM P U G →
    ∃ U' G' : Nat, f_Mo_layStrip_L33 x2 (nI a) (nI c) now f (nI b) (lN U) (lN G) = some (lN U', lN G') ∧ FM (fun o s => P o s ∨ ∃ q : Nat, b ≤ q ∧ q < c ∧ o = Of T V a q c ∧ s = 2 * Sp T a c) U' G' := by
  have hn := h.1
  have hs := Sp_pos h hac hc
  intro m
  induction m with
  | zero =>
    intro b f U G P hb hab hf hM
    obtain ⟨f, rfl⟩ : ∃ z, f = z + 1 := ⟨f - 1, by omega⟩
    refine ⟨U, G, ?_, FM_iff hM (fun o s => ⟨fun q => ?_, Or.inl⟩)⟩
    · rw [f_Mo_layStrip_L33_s, if_pos (nI_le (by omega) (by omega))]
    · rcases q with q | ⟨q, a1, a2, _⟩
      · exact q
      · omega
  | succ m ih =>
    intro b f U G P hb hab hf hM
    obtain ⟨f, rfl⟩ : ∃ z, f = z + 1 := ⟨f - 1, by omega⟩
    have ho := Of_le h (show a < n by omega) (show b < n by omega) hc
    have e3 : (3 : Int32) + nI c = nI (3 + c) := by rw [l3, nI_add]
    have e4 : (3 : Int32) + nI a = nI (3 + a) := by rw [l3, nI_add]
    have e5 : (2 : Int64) * (nI (Sp T a c)).toInt64 = lN (2 * Sp T a c) := by rw [nI_l (by omega), show (2 : Int64) = lN 2 from rfl, lN_mul]
    rw [f_Mo_layStrip_L33_s, if_neg (nI_ge (by omega) (by omega)), offM h hr (by omega) (by omega) hc, Option.bind_some, e3, e4, inB_nI (show 3 + c < 31 by omega) (by omega), if_pos rfl, inB_nI (show 3 + a < 31 by omega) (by omega), if_pos rfl, nI_clamp (by omega), nI_clamp (by omega), spanM h hr hac hc, e5, nI_l (by omega), greatM hM ho (by omega), Option.bind_some, l1, nI_add]
    obtain ⟨U', G', e6, e7⟩ := ih (b + 1) f _ _ _ (by omega) (by omega) (by omega) (FM_more hM ho (show 1 ≤ 2 * Sp T a c by omega) (by omega))
    refine ⟨U', G', e6, FM_iff e7 (fun o s => ?_)⟩
    constructor
    · rintro (q | ⟨q, a1, a2, a3, a4⟩)
      · exact Or.inl (Or.inl q)
      · rcases Nat.eq_or_lt_of_le a1 with e | e
        · subst e; exact Or.inl (Or.inr ⟨a3, a4⟩)
        · exact Or.inr ⟨q, e, a2, a3, a4⟩
    · rintro ((q | ⟨a3, a4⟩) | ⟨q, a1, a2, a3, a4⟩)
      · exact Or.inl q
      · exact Or.inr ⟨b, Nat.le_refl _, by omega, a3, a4⟩
      · exact Or.inr ⟨q, by omega, a2, a3, a4⟩
theorem lay22 {n p d : Nat} {T V now : Nat → Int32} (h : LW n p d T V) (hr : RowIs now n p d T V) {a k : Nat} (hk : k < n) : ∀ (m c f U G : Nat) (P : Nat → Nat → Prop), c + m = k + 1 ∨ (m = 0 ∧ k < c) → c < 30 → a < c → m < f → FM P U G →
    ∃ U' G' : Nat, f_Mo_layStrip_L22 (nI k) (nI a) now f (nI c) (lN U) (lN G) = some (lN U', lN G') ∧ FM (fun o s => P o s ∨ ∃ c' q : Nat, c ≤ c' ∧ c' ≤ k ∧ a < q ∧ q < c' ∧ o = Of T V a q c' ∧ s = 2 * Sp T a c') U' G' := by
  have hn := h.1
  intro m
  induction m with
  | zero =>
    intro c f U G P hc hc30 hac hf hM
    obtain ⟨f, rfl⟩ : ∃ z, f = z + 1 := ⟨f - 1, by omega⟩
    refine ⟨U, G, ?_, FM_iff hM (fun o s => ⟨fun q => ?_, Or.inl⟩)⟩
    · rw [f_Mo_layStrip_L22_s, if_pos (nI_lt (by omega) (by omega))]
    · rcases q with q | ⟨c', q, a1, a2, _⟩
      · exact q
      · omega
  | succ m ih =>
    intro c f U G P hc hc30 hac hf hM
    obtain ⟨f, rfl⟩ : ∃ z, f = z + 1 := ⟨f - 1, by omega⟩
    have hck : c ≤ k := by omega
    obtain ⟨U1, G1, e1, M1⟩ := lay33 h hr hac (show c < n by omega) (nI k) (c - (a + 1)) (a + 1) fu U G P (by omega) (by omega) (by unfold fu; omega) hM
    have ea : nI a + 1 = nI (a + 1) := by rw [l1, nI_add]
    have ec : nI c + 1 = nI (c + 1) := by rw [l1, nI_add]
    rw [f_Mo_layStrip_L22_s, if_neg (nI_nlt (by omega) (by omega)), ea, ec, e1, Option.bind_some]
    obtain ⟨U', G', e2, M2⟩ := ih (c + 1) f U1 G1 _ (by omega) (by omega) (by omega) (by omega) M1
    refine ⟨U', G', e2, FM_iff M2 (fun o s => ?_)⟩
    constructor
    · rintro (q | ⟨c', q, a1, a2, a3, a4, a5, a6⟩)
      · exact Or.inl (Or.inl q)
      · rcases Nat.eq_or_lt_of_le a1 with e | e
        · subst e; exact Or.inl (Or.inr ⟨q, by omega, a4, a5, a6⟩)
        · exact Or.inr ⟨c', q, e, a2, a3, a4, a5, a6⟩
    · rintro ((q | ⟨q, a1, a2, a3, a4⟩) | ⟨c', q, a1, a2, a3, a4, a5, a6⟩)
      · exact Or.inl q
      · exact Or.inr ⟨c, q, Nat.le_refl _, hck, by omega, a2, a3, a4⟩
      · exact Or.inr ⟨c', q, by omega, a2, a3, a4, a5, a6⟩
/-- the fractions of i .. k -/
def Tr (T V : Nat → Int32) (i k : Nat) (o s : Nat) : Prop := ∃ a q c : Nat, i ≤ a ∧ a < q ∧ q < c ∧ c ≤ k ∧ o = Of T V a q c ∧ s = 2 * Sp T a c
theorem lay12 {n p d : Nat} {T V now : Nat → Int32} (h : LW n p d T V) (hr : RowIs now n p d T V) {k : Nat} (hk : k < n) : ∀ (m a f U G : Nat) (P : Nat → Nat → Prop), a + m = k + 1 → m < f → FM P U G →
    ∃ U' G' : Nat, f_Mo_layStrip_L12 (nI k) now f (nI a) (lN U) (lN G) = some (lN U', lN G') ∧ FM (fun o s => P o s ∨ Tr T V a k o s) U' G' := by
  have hn := h.1
  intro m
  induction m with
  | zero =>
    intro a f U G P ha hf hM
    obtain ⟨f, rfl⟩ : ∃ z, f = z + 1 := ⟨f - 1, by omega⟩
    refine ⟨U, G, ?_, FM_iff hM (fun o s => ⟨fun q => ?_, Or.inl⟩)⟩
    · rw [f_Mo_layStrip_L12_s, if_pos (nI_lt (by omega) (by omega))]
    · rcases q with q | ⟨a', q, c, a1, a2, a3, a4, _⟩
      · exact q
      · omega
  | succ m ih =>
    intro a f U G P ha hf hM
    obtain ⟨f, rfl⟩ : ∃ z, f = z + 1 := ⟨f - 1, by omega⟩
    obtain ⟨U1, G1, e1, M1⟩ := lay22 (a := a) h hr hk (k + 1 - (a + 2)) (a + 2) fu U G P (by omega) (by omega) (by omega) (by unfold fu; omega) hM
    have ea : nI a + 1 = nI (a + 1) := by rw [l1, nI_add]
    have ea2 : nI a + 2 = nI (a + 2) := by rw [l2, nI_add]
    rw [f_Mo_layStrip_L12_s, if_neg (nI_nlt (by omega) (by omega)), ea, ea2, e1, Option.bind_some]
    obtain ⟨U', G', e2, M2⟩ := ih (a + 1) f U1 G1 _ (by omega) (by omega) M1
    refine ⟨U', G', e2, FM_iff M2 (fun o s => ?_)⟩
    constructor
    · rintro (q | ⟨a', q, c, a1, a2, a3, a4, a5, a6⟩)
      · exact Or.inl (Or.inl q)
      · rcases Nat.eq_or_lt_of_le a1 with e | e
        · subst e; exact Or.inl (Or.inr ⟨c, q, by omega, a4, a2, a3, a5, a6⟩)
        · exact Or.inr ⟨a', q, c, e, a2, a3, a4, a5, a6⟩
    · rintro ((q | ⟨c, q, a1, a4, a2, a3, a5, a6⟩) | ⟨a', q, c, a1, a2, a3, a4, a5, a6⟩)
      · exact Or.inl q
      · exact Or.inr ⟨a, q, c, Nat.le_refl _, a2, a3, a4, a5, a6⟩
      · exact Or.inr ⟨a', q, c, by omega, a2, a3, a4, a5, a6⟩
theorem layM {n p d : Nat} {T V now : Nat → Int32} (h : LW n p d T V) (hr : RowIs now n p d T V) {i k : Nat} (hik : i ≤ k) (hk : k < n) (gu gl : Int64) : ∃ U G : Nat, f_Mo_layStrip gu gl now (nI i) (nI k) = some (lN U, lN G) ∧ FM (Tr T V i k) U G := by
  have hn := h.1
  have h0 : FM (fun _ _ => False) 0 1 := ⟨Nat.le_refl _, by omega, by omega, Or.inl ⟨rfl, rfl⟩, fun _ _ q => q.elim⟩
  obtain ⟨U, G, e, M⟩ := lay12 h hr hk (k + 1 - i) i fu 0 1 _ (by omega) (by unfold fu; omega) h0
  refine ⟨U, G, ?_, FM_iff M (fun o s => by simp)⟩
  unfold f_Mo_layStrip
  rw [show f_Mo_layStrip_L12 (nI k) now fu (nI i) 0 1 = _ from e]
  rfl
def Fit (T V : Nat → Int32) (p i k : Nat) : Prop := ∀ a c : Nat, i ≤ a → a < c → c ≤ k → Holds T V (2 * p) a c
theorem isStripM {n p d : Nat} {T V now : Nat → Int32} (h : LW n p d T V) (hr : RowIs now n p d T V) {i k : Nat} (hik : i ≤ k) (hk : k < n) (gu gl : Int64) : ∃ (x : Int32) (gu' gl' : Int64), f_Mo_isStrip gu gl now (nI i) (nI k) = some (x, gu', gl') ∧ ((x = 1 ∧ Fit T V p i k) ∨ (x = 0 ∧ ¬ Fit T V p i k)) := by
  obtain ⟨U, G, e, M⟩ := layM h hr hik hk gu gl
  have z1 : ((1 : Int32)).toNatClampNeg = 1 := rfl
  have i1 : inB (1 : Int32) 31 = true := by decide
  have hp := h.2.1
  have hG := M.2.2.1
  have hU := M.2.1
  have b1 : p * G ≤ 99 * 1998 := Nat.mul_le_mul hp hG
  have key : U ≤ p * G ↔ Fit T V p i k := by
    rw [FM_le M p]
    constructor
    · intro q a c a1 a2 a3 b b1 b2
      have := q (Of T V a b c) (2 * Sp T a c) ⟨a, b, c, a1, b1, b2, a3, rfl, rfl⟩
      have e : p * (2 * Sp T a c) = 2 * p * Sp T a c := by rw [← Nat.mul_assoc, Nat.mul_comm p 2]
      omega
    · rintro q o s ⟨a, b, c, a1, a2, a3, a4, rfl, rfl⟩
      have := q a c a1 (by omega) a4 b a2 a3
      have e : p * (2 * Sp T a c) = 2 * p * Sp T a c := by rw [← Nat.mul_assoc, Nat.mul_comm p 2]
      omega
  unfold f_Mo_isStrip
  rw [e, Option.bind_some, i1, if_pos rfl, z1, hr.2.1, nI_l (by omega), lN_mul]
  simp only [cmp_gt (show U < 2 ^ 62 by omega) (show p * G < 2 ^ 62 by omega)]
  by_cases c : p * G < U
  · rw [if_pos c]; exact ⟨_, _, _, rfl, Or.inr ⟨rfl, fun q => by have := key.mpr q; omega⟩⟩
  · rw [if_neg c]; exact ⟨_, _, _, rfl, Or.inl ⟨rfl, key.mp (by omega)⟩⟩
theorem fitsX_L {n p d : Nat} {T V N : Nat → Int32} (h : LW n p d T V) (hN : NeedsOk n T V N) {k : Nat} (hk : k < n) : ∀ (m a f : Nat), a + m = k → m < f → (∀ q : Nat, a ≤ q → q ≤ k → Kn n V q = true) →
    ∃ x : Nat, f_Thinning_fitsStrip_L2 (nI k) (nI p) N f (nI a) = some x ∧ ((x = 1 ∧ ∀ q : Nat, a ≤ q → q < k → Holds T V (2 * p) q k) ∨ (x = 0 ∧ ¬ ∀ q : Nat, a ≤ q → q < k → Holds T V (2 * p) q k)) := by
  have hn := h.1
  have hp := h.2.1
  intro m
  induction m with
  | zero =>
    intro a f ha hf hK
    obtain ⟨f, rfl⟩ : ∃ z, f = z + 1 := ⟨f - 1, by omega⟩
    refine ⟨1, ?_, Or.inl ⟨rfl, fun q a1 a2 => by omega⟩⟩
    rw [f_Thinning_fitsStrip_L2_s, if_pos (nI_le (by omega) (by omega))]
  | succ m ih =>
    intro a f ha hf hK
    obtain ⟨f, rfl⟩ : ∃ z, f = z + 1 := ⟨f - 1, by omega⟩
    have e1 : (2 : Int32) * nI p = nI (2 * p) := by rw [l2, pk_mul]
    rw [f_Thinning_fitsStrip_L2_s, if_neg (nI_ge (by omega) (by omega)), needN (by omega) (by omega), Option.bind_some, e1, l1, nI_add]
    have key := hN a k (by omega) hK (2 * p) (by omega)
    by_cases c : N (14 * a + k) ≤ nI (2 * p)
    · rw [if_pos c]
      have hH := key.mp c
      obtain ⟨x, e2, e3⟩ := ih (a + 1) f (by omega) (by omega) (fun q a1 a2 => hK q (by omega) a2)
      refine ⟨x, e2, ?_⟩
      rcases e3 with ⟨q1, q2⟩ | ⟨q1, q2⟩
      · refine Or.inl ⟨q1, fun q a1 a2 => ?_⟩
        rcases Nat.eq_or_lt_of_le a1 with e | e
        · subst e; exact hH
        · exact q2 q e a2
      · exact Or.inr ⟨q1, fun z => q2 (fun q a1 a2 => z q (by omega) a2)⟩
    · rw [if_neg c]
      exact ⟨0, rfl, Or.inr ⟨rfl, fun z => c (key.mpr (z a (Nat.le_refl _) (by omega)))⟩⟩
theorem fitsX {n p d : Nat} {T V N : Nat → Int32} (h : LW n p d T V) (hN : NeedsOk n T V N) {i k : Nat} (hik : i < k) (hK : ∀ q : Nat, i ≤ q → q ≤ k → Kn n V q = true) (hF : Fit T V p i (k - 1)) : ∃ x : Int32, f_Thinning_fitsStrip (nI p) N (nI i) (nI k) = some x ∧ ((x = 1 ∧ Fit T V p i k) ∨ (x = 0 ∧ ¬ Fit T V p i k)) := by
  have hk := Kn_lt (hK k (by omega) (Nat.le_refl _))
  obtain ⟨x, e1, e2⟩ := fitsX_L h hN hk (k - i) i fu (by omega) (by have := h.1; unfold fu; omega) hK
  have key : (∀ q : Nat, i ≤ q → q < k → Holds T V (2 * p) q k) ↔ Fit T V p i k := by
    constructor
    · intro z a c a1 a2 a3
      rcases Nat.eq_or_lt_of_le a3 with e | e
      · subst e; exact z a a1 a2
      · exact hF a c a1 a2 (by omega)
    · intro z q a1 a2; exact z q k a1 a2 (Nat.le_refl _)
  unfold f_Thinning_fitsStrip
  rw [e1, Option.bind_some]
  rcases e2 with ⟨rfl, q⟩ | ⟨rfl, q⟩
  · exact ⟨1, rfl, Or.inl ⟨rfl, key.mp q⟩⟩
  · exact ⟨0, rfl, Or.inr ⟨rfl, fun z => q (key.mpr z)⟩⟩

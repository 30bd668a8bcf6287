/-! ===== pure: pieces ===== -/
theorem Fit_one {T V : Nat → Int32} {p k : Nat} : Fit T V p k k := fun a c a1 a2 a3 => by omega
theorem or0 (x : Int32) : x ||| (0 : Int32) = x := by
  apply b_ext
  intro i _
  rw [b_or, b_0, Bool.or_false]
theorem isStripM' {n p d : Nat} {T V now : Nat → Int32} (h : LW n p d T V) (hr : RowIs now n p d T V) {i k : Nat} (hik : i ≤ k) (hk : k < n) (x : Int32) (hx : (x = 1 ∧ Fit T V p i k) ∨ (x = 0 ∧ ¬ Fit T V p i k)) (gu gl : Int64) : ∃ (gu' gl' : Int64), f_Mo_isStrip gu gl now (nI i) (nI k) = some (x, gu', gl') := by
  obtain ⟨y, a, b, e, c⟩ := isStripM h hr hik hk gu gl
  have : y = x := by
    rcases hx with ⟨h1, h2⟩ | ⟨h1, h2⟩ <;> rcases c with ⟨h3, h4⟩ | ⟨h3, h4⟩
    · rw [h1, h3]
    · exact absurd h2 h4
    · exact absurd h4 h2
    · rw [h1, h3]
  subst this
  exact ⟨a, b, e⟩
theorem pieces_L {n p d : Nat} {T V N now : Nat → Int32} (h : LW n p d T V) (hr : RowIs now n p d T V) (hN : NeedsOk n T V N) : ∀ (m k f1 f2 st : Nat) (set : Int32) (PA : Nat → Int32), k + m = n → m < f1 → m < f2 → st ≤ k →
    (0 < k → Kn n V (k - 1) = true → st < k ∧ (∀ q : Nat, st ≤ q → q ≤ k - 1 → Kn n V q = true) ∧ Fit T V p st (k - 1)) → (∀ q : Nat, k ≤ q → q < 32 → bt set q = false) → (∀ q : Nat, q < k → PA q = if Kn n V q = true then nI (pc set (q + 1)) - 1 else -9) →
    ∃ (set' : Int32) (PA' : Nat → Int32), f_Thinning_cutPieces_L9 (nI n) (nI p) V N f1 (nI st) (nI k) (nI (pc set k)) PA = some (nI (pc set' n), PA') ∧ (∀ gu gl : Int64, ∃ gu' gl' : Int64, f_Mo_pieces_L6 now f2 set (nI st) (nI k) gu gl = some (set', gu', gl')) ∧ (∀ q : Nat, n ≤ q → q < 32 → bt set' q = false) ∧ (∀ q : Nat, q < n → PA' q = if Kn n V q = true then nI (pc set' (q + 1)) - 1 else -9) := by
  have hn := h.1
  have z0 : ((0 : Int32)).toNatClampNeg = 0 := rfl
  have i0 : inB (0 : Int32) 31 = true := by decide
  intro m
  induction m with
  | zero =>
    intro k f1 f2 st set PA hk hf1 hf2 hst hI hb hPA
    obtain ⟨f1, rfl⟩ : ∃ z, f1 = z + 1 := ⟨f1 - 1, by omega⟩
    obtain ⟨f2, rfl⟩ : ∃ z, f2 = z + 1 := ⟨f2 - 1, by omega⟩
    have ekn : k = n := by omega
    subst ekn
    refine ⟨set, PA, ?_, fun gu gl => ⟨gu, gl, ?_⟩, hb, hPA⟩
    · rw [f_Thinning_cutPieces_L9_s, if_pos (nI_le (Nat.le_refl _) (by omega))]
    · rw [f_Mo_pieces_L6_s, i0, if_pos rfl, z0, hr.1, if_pos (nI_le (Nat.le_refl _) (by omega))]
  | succ m ih =>
    intro k f1 f2 st set PA hk hf1 hf2 hst hI hb hPA
    obtain ⟨f1, rfl⟩ : ∃ z, f1 = z + 1 := ⟨f1 - 1, by omega⟩
    obtain ⟨f2, rfl⟩ : ∃ z, f2 = z + 1 := ⟨f2 - 1, by omega⟩
    have hkn : k < n := by omega
    have hpc := pc_le set k
    have ek : nI k + 1 = nI (k + 1) := by rw [l1, nI_add]
    have ep : nI (pc set k) + 1 = nI (pc set k + 1) := by rw [l1, nI_add]
    have esh : (1 : Int32) <<< (nI k &&& 31) = sh k := rfl
    have hbk := hb k (Nat.le_refl _) (by omega)
    have pc0 : pc set (k + 1) = pc set k := by show pc set k + (if bt set k = true then 1 else 0) = _; rw [hbk]; rfl
    have bs : ∀ q : Nat, q < 32 → bt (set ||| sh k) q = (bt set q || decide (q = k)) := fun q hq => bt_sh set (by omega) hq
    have pc1 : pc (set ||| sh k) (k + 1) = pc set k + 1 := by
      show pc (set ||| sh k) k + (if bt (set ||| sh k) k = true then 1 else 0) = _
      rw [bs k (by omega), hbk, pc_ext (D := set ||| sh k) (E := set) k (fun q hq => by rw [bs q (by omega), decide_eq_false (by omega), Bool.or_false])]
      simp
    have pcs : ∀ q : Nat, q < k → pc (set ||| sh k) (q + 1) = pc set (q + 1) := fun q hq => pc_ext _ (fun z hz => by rw [bs z (by omega), decide_eq_false (by omega), Bool.or_false])
    have bn : ∀ q : Nat, k + 1 ≤ q → q < 32 → bt (set ||| sh k) q = false := fun q a b => by rw [bs q b, hb q (by omega) b, decide_eq_false (by omega)]; rfl
    have upA : ∀ (x : Int32) (s : Int32), (∀ q : Nat, q < k → pc s (q + 1) = pc set (q + 1)) → (x = if Kn n V k = true then nI (pc s (k + 1)) - 1 else -9) → ∀ q : Nat, q < k + 1 → upd PA k x q = if Kn n V q = true then nI (pc s (q + 1)) - 1 else -9 := by
      intro x s hs hx q hq
      rw [upd_at]
      by_cases e : q = k
      · rw [if_pos e]; subst e; exact hx
      · rw [if_neg e, hPA q (by omega), hs q (by omega)]
    have invK : ∀ st' : Nat, st' ≤ k → (∀ q : Nat, st' ≤ q → q ≤ k → Kn n V q = true) → Fit T V p st' k → (0 < k + 1 → Kn n V (k + 1 - 1) = true → st' < k + 1 ∧ (∀ q : Nat, st' ≤ q → q ≤ k + 1 - 1 → Kn n V q = true) ∧ Fit T V p st' (k + 1 - 1)) := fun st' a b c _ _ => ⟨by omega, fun q x y => b q x (by omega), by rw [Nat.add_sub_cancel]; exact c⟩
    have M0 : ∀ gu gl : Int64, f_Mo_pieces_L6 now (f2 + 1) set (nI st) (nI k) gu gl = (if Kn n V k = false then f_Mo_pieces_L6 now f2 set (nI st) (nI (k + 1)) gu gl else if Fs n V k = false then (f_Mo_isStrip gu gl now (nI st) (nI k)).bind (fun z7 => if z7.1 = 0 then f_Mo_pieces_L6 now f2 (set ||| sh k) (nI k) (nI (k + 1)) z7.2.1 z7.2.2 else f_Mo_pieces_L6 now f2 set (nI st) (nI (k + 1)) z7.2.1 z7.2.2) else f_Mo_pieces_L6 now f2 (set ||| sh k) (nI k) (nI (k + 1)) gu gl) := by
      intro gu gl
      rw [f_Mo_pieces_L6_s, i0, if_pos rfl, z0, hr.1, if_neg (nI_ge hkn (by omega)), fsM hn hr (by omega), knM hn hr (by omega)]
      simp only [Option.bind_some, b2_0, ek, esh, or0]
    rw [f_Thinning_cutPieces_L9_s, if_neg (nI_ge hkn (by omega)), if_neg (nge14 (show k < 14 by omega)), fsX hn V (by omega), knX hn V (by omega)]
    simp only [Option.bind_some, b2_0, inB_nI (show k < 14 by omega) (by omega), nI_clamp (show k < 2 ^ 31 by omega), ↓reduceIte, ek, ep, M0]
    cases hK : Kn n V k
    · have hF : Fs n V k = false := by
        cases q : Fs n V k
        · rfl
        · have := Fs_K q; rw [hK] at this; cases this
      simp only [hF, ↓reduceIte]
      have := ih (k + 1) f1 f2 st set (upd PA k (-9)) (by omega) (by omega) (by omega) (by omega) (fun _ q => by rw [Nat.add_sub_cancel, hK] at q; cases q) (fun q a b => hb q (by omega) b) (upA _ set (fun _ _ => rfl) (by rw [hK]; rfl))
      rw [pc0] at this
      exact this
    · have anew := ih (k + 1) f1 f2 k (set ||| sh k) (upd PA k (nI (pc set k + 1) - 1)) (by omega) (by omega) (by omega) (by omega) (invK k (Nat.le_refl _) (fun q a b => by
          have : q = k := by omega
          subst this; exact hK) Fit_one) bn (upA (nI (pc set k + 1) - 1) (set ||| sh k) pcs (by rw [hK, if_pos rfl, pc1]))
      rw [pc1] at anew
      simp only [reduceCtorEq, ↓reduceIte]
      cases hF : Fs n V k
      · simp only [↓reduceIte]
        obtain ⟨k0, kp⟩ := nFs_K hK (by rw [hF]; decide)
        obtain ⟨s1, s2, s3⟩ := hI k0 kp
        have all : ∀ q : Nat, st ≤ q → q ≤ k → Kn n V q = true := fun q a b => by
          rcases Nat.eq_or_lt_of_le b with e | e
          · subst e; exact hK
          · exact s2 q a (by omega)
        obtain ⟨x, e1, hx⟩ := fitsX h hN s1 all s3
        rw [e1, Option.bind_some]
        have e2 := isStripM' h hr (show st ≤ k by omega) hkn x hx
        rcases hx with ⟨rfl, hf⟩ | ⟨rfl, hf⟩
        · rw [if_neg (by decide)]
          have := ih (k + 1) f1 f2 st set (upd PA k (nI (pc set k) - 1)) (by omega) (by omega) (by omega) (by omega) (invK st (by omega) all hf) (fun q a b => hb q (by omega) b) (upA _ set (fun _ _ => rfl) (by rw [hK, if_pos rfl, pc0]))
          rw [pc0] at this
          obtain ⟨s', P', a1, a2, a3, a4⟩ := this
          refine ⟨s', P', a1, fun gu gl => ?_, a3, a4⟩
          obtain ⟨g1, g2, e3⟩ := e2 gu gl
          rw [e3, Option.bind_some, if_neg (show ¬ (1 : Int32) = 0 by decide)]
          exact a2 _ _
        · rw [if_pos rfl]
          obtain ⟨s', P', a1, a2, a3, a4⟩ := anew
          refine ⟨s', P', a1, fun gu gl => ?_, a3, a4⟩
          obtain ⟨g1, g2, e3⟩ := e2 gu gl
          rw [e3, Option.bind_some, if_pos rfl]
          exact a2 _ _
      · simp only [reduceCtorEq, ↓reduceIte]
        exact anew
theorem bt_zero (q : Nat) : bt 0 q = false := b_0 q
theorem pieces_ok {n p d : Nat} {T V N now : Nat → Int32} (h : LW n p d T V) (hr : RowIs now n p d T V) (hN : NeedsOk n T V N) (x : Int32) (PA : Nat → Int32) : ∃ (set : Int32) (PA' : Nat → Int32), f_Thinning_cutPieces x PA (nI n) (nI p) V N = some (nI (pc set 14), PA') ∧ (∀ gu gl : Int64, ∃ gu' gl' : Int64, f_Mo_pieces gu gl now = some (set, gu', gl')) ∧ f_Mo_bits set = some (nI (pc set 14)) ∧
    ∀ k : Nat, k < n → PA' k = -9 ∧ Kn n V k = false ∨ Kn n V k = true ∧ f_Mo_bits (set &&& (((2 : Int32) <<< (nI k &&& 31)) - 1)) = some (PA' k + 1) := by
  have hn := h.1
  obtain ⟨s, P, a1, a2, a3, a4⟩ := pieces_L h hr hN n 0 fu fu 0 0 PA (by omega) (by unfold fu; omega) (by unfold fu; omega) (by omega) (fun q => absurd q (by omega)) (fun q _ _ => b_0 q) (fun q hq => absurd hq (by omega))
  have e14 : pc s 14 = pc s n := pc_top 14 hn (fun q a b => a3 q a (by omega))
  refine ⟨s, P, ?_, fun gu gl => ?_, (pop_ok (fun q a b => a3 q (by omega) b)).1, fun k hk => ?_⟩
  · unfold f_Thinning_cutPieces
    rw [show f_Thinning_cutPieces_L9 (nI n) (nI p) V N fu 0 0 0 PA = _ from a1, e14]
    rfl
  · obtain ⟨g1, g2, e⟩ := a2 gu gl
    unfold f_Mo_pieces
    rw [show f_Mo_pieces_L6 now fu 0 0 0 gu gl = _ from e]
    exact ⟨g1, g2, rfl⟩
  · have := a4 k hk
    cases hK : Kn n V k
    · rw [hK] at this; exact Or.inl ⟨this, rfl⟩
    · rw [hK, if_pos rfl] at this
      refine Or.inr ⟨rfl, ?_⟩
      rw [low_pop (show k < 14 by omega), this, Int32.sub_add_cancel]

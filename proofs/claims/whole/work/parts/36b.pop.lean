theorem bt_nI {w q : Nat} (hq : q < 32) : bt (nI w) q = w.testBit q := by
  show (BitVec.ofNat 32 w).getLsbD q = _
  rw [BitVec.getLsbD_ofNat]
  simp [hq]
theorem mask_nat {D : Int32} (h : ∀ q : Nat, 14 ≤ q → q < 32 → bt D q = false) : ∃ w : Nat, w < 16384 ∧ D = nI w ∧ ∀ q : Nat, q < 32 → bt D q = w.testBit q := by
  have e : D = nI D.toBitVec.toNat := by
    apply Int32.toBitVec_inj.1
    show D.toBitVec = BitVec.ofNat 32 D.toBitVec.toNat
    simp
  have hb : ∀ q : Nat, q < 32 → bt D q = D.toBitVec.toNat.testBit q := fun q hq => by
    rw [show bt D q = bt (nI D.toBitVec.toNat) q from by rw [← e], bt_nI hq]
  refine ⟨D.toBitVec.toNat, ?_, e, hb⟩
  rw [show (16384 : Nat) = 2 ^ 14 from rfl]
  apply Nat.lt_pow_two_of_testBit
  intro q hq
  rcases Nat.lt_or_ge q 32 with h2 | h2
  · rw [← hb q h2]; exact h q hq h2
  · apply Nat.testBit_lt_two_pow
    have h3 : D.toBitVec.toNat < 2 ^ 32 := D.toBitVec.isLt
    exact Nat.lt_of_lt_of_le h3 (Nat.pow_le_pow_right (by omega) h2)
/-- how many bits below k -/
def pc (D : Int32) : Nat → Nat
  | 0 => 0
  | k + 1 => pc D k + (if bt D k = true then 1 else 0)
theorem pc_le (D : Int32) (k : Nat) : pc D k ≤ k := by
  induction k with
  | zero => exact Nat.le_refl _
  | succ k ih => unfold pc; split <;> omega
theorem pc_pcB {D : Int32} {w : Nat} (h : ∀ q : Nat, q < 32 → bt D q = w.testBit q) : ∀ k : Nat, k ≤ 32 → pc D k = pcB w k := by
  intro k
  induction k with
  | zero => intro _; rfl
  | succ k ih => intro hk; unfold pc pcB; rw [ih (by omega), h k (by omega)]
theorem pop_ok {D : Int32} (h : ∀ q : Nat, 14 ≤ q → q < 32 → bt D q = false) : f_Mo_bits D = some (nI (pc D 14)) ∧ f_Integer_bitCount D = nI (pc D 14) := by
  obtain ⟨w, hw, e, hb⟩ := mask_nat h
  have := of_decide_eq_true (popW hw)
  rw [pc_pcB hb 14 (by omega), e]
  exact this
theorem pc_ext {D E : Int32} : ∀ k : Nat, (∀ q : Nat, q < k → bt D q = bt E q) → pc D k = pc E k := by
  intro k
  induction k with
  | zero => intro _; rfl
  | succ k ih => intro h; unfold pc; rw [ih (fun q hq => h q (by omega)), h k (by omega)]
theorem pc_top {D : Int32} {k : Nat} : ∀ m : Nat, k ≤ m → (∀ q : Nat, k ≤ q → q < m → bt D q = false) → pc D m = pc D k := by
  intro m
  induction m with
  | zero => intro h _; have : k = 0 := by omega
            subst this; rfl
  | succ m ih =>
    intro h hb
    rcases Nat.eq_or_lt_of_le h with e | e
    · rw [e]
    · show pc D m + (if bt D m = true then 1 else 0) = pc D k
      rw [ih (by omega) (fun q a b => hb q a (by omega)), hb m (by omega) (by omega)]
      rfl
/-- the bits up to k -/
theorem low_bt (D : Int32) {k q : Nat} (hk : k < 14) (hq : q < 32) : bt (D &&& (((2 : Int32) <<< (nI k &&& 31)) - 1)) q = (bt D q && decide (q ≤ k)) := by
  have h : ∀ k : Nat, k < 14 → ∀ q : Nat, q < 32 → bt (((2 : Int32) <<< (nI k &&& 31)) - 1) q = decide (q ≤ k) := by decide +kernel
  rw [b_and, h k hk q hq]
theorem low_pop {D : Int32} {k : Nat} (hk : k < 14) : f_Mo_bits (D &&& (((2 : Int32) <<< (nI k &&& 31)) - 1)) = some (nI (pc D (k + 1))) := by
  rw [(pop_ok (D := D &&& (((2 : Int32) <<< (nI k &&& 31)) - 1)) (fun q a b => by rw [low_bt D hk b, decide_eq_false (by omega), Bool.and_false])).1]
  congr 2
  rw [pc_top (k := k + 1) 14 (by omega) (fun q a b => by rw [low_bt D hk (by omega), decide_eq_false (by omega), Bool.and_false])]
  exact pc_ext _ (fun q hq => by rw [low_bt D hk (by omega), decide_eq_true (by omega), Bool.and_true])

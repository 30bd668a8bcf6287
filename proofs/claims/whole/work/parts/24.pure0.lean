/-! ===== pure rows: numbers ===== -/
theorem inB_nI {j N : Nat} (h : j < N) (hN : N < 2 ^ 31) : inB (nI j) N = true := decide_eq_true (vp_in_nI h hN)
theorem toI_lit (n : Nat) (h : n < 2 ^ 31) : (nI n).toInt = (n : Int) := nI_toInt h
theorem nI_le' {a b : Nat} (ha : a < 2 ^ 31) (hb : b < 2 ^ 31) : (nI a ≤ nI b) = (a ≤ b) := propext (nI_leI ha hb)
theorem nI_lt' {a b : Nat} (ha : a < 2 ^ 31) (hb : b < 2 ^ 31) : (nI a < nI b) = (a < b) := propext (nI_ltI ha hb)
theorem nI_eq' {a b : Nat} (ha : a < 2 ^ 31) (hb : b < 2 ^ 31) : (nI a = nI b) = (a = b) := propext (nI_eq ha hb)
theorem l0 : (0 : Int32) = nI 0 := rfl
theorem l1 : (1 : Int32) = nI 1 := rfl
theorem l2 : (2 : Int32) = nI 2 := rfl
theorem l3 : (3 : Int32) = nI 3 := rfl
theorem l4 : (4 : Int32) = nI 4 := rfl
theorem l5 : (5 : Int32) = nI 5 := rfl
theorem l6 : (6 : Int32) = nI 6 := rfl
theorem l10 : (10 : Int32) = nI 10 := rfl
theorem l14 : (14 : Int32) = nI 14 := rfl
theorem l15 : (15 : Int32) = nI 15 := rfl
theorem l17 : (17 : Int32) = nI 17 := rfl
theorem l31 : (31 : Int32) = nI 31 := rfl
theorem l99 : (99 : Int32) = nI 99 := rfl
theorem l100 : (100 : Int32) = nI 100 := rfl
theorem l120 : (120 : Int32) = nI 120 := rfl
theorem l255 : (255 : Int32) = nI 255 := rfl
theorem l999 : (999 : Int32) = nI 999 := rfl
/-- i <= L - 4, as the machine counts -/
theorem law_lt {L i : Nat} (hL : L ≤ 2048) (hi : i ≤ L + 4) (c : ¬ (nI L - 4 < nI i)) : i + 4 ≤ L := by
  rw [l4, Int32.lt_iff_toInt_lt, pk_sub_toInt (by omega) (by omega), nI_toInt (by omega)] at c
  omega
theorem begins_L : ∀ (m k n : Nat) (A : Nat → Int32), k + m = 31 → m < n → f_Mo_begins_L2 n (nI k) A = some (fun j => if k ≤ j ∧ j < 31 then 0 else A j) := by
  intro m
  induction m with
  | zero =>
    intro k n A hk hn
    obtain ⟨n, rfl⟩ : ∃ q, n = q + 1 := ⟨n - 1, by omega⟩
    rw [f_Mo_begins_L2_s, l31, if_pos ((nI_leI (by omega) (by omega)).mpr (by omega))]
    congr 1
    funext j
    rw [if_neg (by omega)]
  | succ m ih =>
    intro k n A hk hn
    obtain ⟨n, rfl⟩ : ∃ q, n = q + 1 := ⟨n - 1, by omega⟩
    rw [f_Mo_begins_L2_s, l31, if_neg (by rw [nI_leI (by omega) (by omega)]; omega), if_pos (inB_nI (by omega) (by omega)), nI_1, nI_clamp (by omega), ih (k + 1) n _ (by omega) (by omega)]
    congr 1
    funext j
    by_cases hj : j = k
    · subst hj; rw [if_neg (by omega), if_pos (by omega)]; exact pk_us
    · by_cases h2 : k + 1 ≤ j ∧ j < 31
      · rw [if_pos h2, if_pos (by omega)]
      · rw [if_neg h2, if_neg (by omega)]; exact pk_un hj
theorem begins_all (A : Nat → Int32) : ∃ z0 : Nat → Int32, f_Mo_begins A = some z0 ∧ (z0 0 = 0 ∧ z0 1 = 5 ∧ z0 2 = 14) := by
  unfold f_Mo_begins
  rw [l0, begins_L 31 0 fu A rfl (by decide), Option.bind_some, if_pos (by decide), if_pos (by decide)]
  exact ⟨_, rfl, rfl, rfl, rfl⟩
theorem begins_ok : ∃ z0 : Nat → Int32, f_Mo_begins (fun _ => 0) = some z0 ∧ (z0 0 = 0 ∧ z0 1 = 5 ∧ z0 2 = 14) := begins_all _

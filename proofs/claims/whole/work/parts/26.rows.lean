/-! ===== pure: rows of logs go and come ===== -/
theorem upd_at (f : Nat → Int32) (k : Nat) (x : Int32) (j : Nat) : upd f k x j = if j = k then x else f j := by
  by_cases h : j = k
  · subst h; rw [if_pos rfl]; exact pk_us
  · rw [if_neg h]; exact pk_un h
theorem put_L : ∀ (m k n row N : Nat) (x1 : Int32) (T V A : Nat → Int32), k + m = 14 → m < n → row + 31 ≤ N → N < 2 ^ 30 →
    f_Shelf_put_L57 x1 (nI row) N T V n (nI k) A = some (fun j => if row + 3 + k ≤ j ∧ j < row + 17 then T (j - row - 3) else if row + 17 + k ≤ j ∧ j < row + 31 then V (j - row - 17) else A j) := by
  intro m
  induction m with
  | zero =>
    intro k n row N x1 T V A hk hn hr hN
    obtain ⟨n, rfl⟩ : ∃ q, n = q + 1 := ⟨n - 1, by omega⟩
    rw [f_Shelf_put_L57_s]
    simp (disch := omega) only [l14, nI_leI, if_pos]
    congr 1
    funext j
    simp (disch := omega) only [if_neg]
  | succ m ih =>
    intro k n row N x1 T V A hk hn hr hN
    obtain ⟨n, rfl⟩ : ∃ q, n = q + 1 := ⟨n - 1, by omega⟩
    rw [f_Shelf_put_L57_s]
    simp (disch := omega) only [l14, l3, l17, l1, nI_leI, if_neg, nI_add, inB_nI, ↓reduceIte, nI_clamp, ih (k + 1) n row N]
    congr 1
    funext j
    simp only [upd_at]
    grind
theorem take_L : ∀ (m k n row N : Nat) (C T V : Nat → Int32), k + m = 14 → m < n → row + 31 ≤ N → N < 2 ^ 30 →
    f_Shelf_take_L53 (nI row) N C n (nI k) T V = some ((fun j => if k ≤ j ∧ j < 14 then C (row + 3 + j) else T j), (fun j => if k ≤ j ∧ j < 14 then C (row + 17 + j) else V j)) := by
  intro m
  induction m with
  | zero =>
    intro k n row N C T V hk hn hr hN
    obtain ⟨n, rfl⟩ : ∃ q, n = q + 1 := ⟨n - 1, by omega⟩
    rw [f_Shelf_take_L53_s]
    simp (disch := omega) only [l14, nI_leI, if_pos]
    congr 2
    all_goals funext j
    all_goals simp (disch := omega) only [if_neg]
  | succ m ih =>
    intro k n row N C T V hk hn hr hN
    obtain ⟨n, rfl⟩ : ∃ q, n = q + 1 := ⟨n - 1, by omega⟩
    rw [f_Shelf_take_L53_s]
    simp (disch := omega) only [l14, l3, l17, l1, nI_leI, if_neg, nI_add, inB_nI, ↓reduceIte, nI_clamp, ih (k + 1) n row N]
    congr 2
    all_goals funext j
    all_goals simp only [upd_at]
    all_goals grind

/-! ===== pure: undo's ring, images ===== -/
theorem mrem_L : ∀ (m k n a : Nat) (now U : Nat → Int32), k + m = 31 → m < n → a < 10 →
    f_Mo_remember_L2 (nI a) now n (nI k) U = some (fun j => if 31 * a + k ≤ j ∧ j < 31 * a + 31 then now (j - 31 * a) else U j) := by
  intro m
  induction m with
  | zero =>
    intro k n a now U hk hn ha
    obtain ⟨n, rfl⟩ : ∃ q, n = q + 1 := ⟨n - 1, by omega⟩
    rw [f_Mo_remember_L2_s]
    simp (disch := omega) only [l31, nI_leI, if_pos]
    congr 1; funext j
    simp (disch := omega) only [if_neg]
  | succ m ih =>
    intro k n a now U hk hn ha
    obtain ⟨n, rfl⟩ : ∃ q, n = q + 1 := ⟨n - 1, by omega⟩
    rw [f_Mo_remember_L2_s]
    simp (disch := omega) only [l31, l1, nI_leI, if_neg, nI_add, pk_mul, inB_nI, ↓reduceIte, nI_clamp, ih (k + 1) n a]
    congr 1; funext j
    simp only [upd_at]
    grind
theorem mundo_L : ∀ (m k n a : Nat) (U now : Nat → Int32), k + m = 31 → m < n → a < 10 →
    f_Mo_undo_L38 (nI a) U n (nI k) now = some (fun j => if k ≤ j ∧ j < 31 then U (31 * a + j) else now j) := by
  intro m
  induction m with
  | zero =>
    intro k n a U now hk hn ha
    obtain ⟨n, rfl⟩ : ∃ q, n = q + 1 := ⟨n - 1, by omega⟩
    rw [f_Mo_undo_L38_s]
    simp (disch := omega) only [l31, nI_leI, if_pos]
    congr 1; funext j
    simp (disch := omega) only [if_neg]
  | succ m ih =>
    intro k n a U now hk hn ha
    obtain ⟨n, rfl⟩ : ∃ q, n = q + 1 := ⟨n - 1, by omega⟩
    rw [f_Mo_undo_L38_s]
    simp (disch := omega) only [l31, l1, nI_leI, if_neg, nI_add, pk_mul, inB_nI, ↓reduceIte, nI_clamp, ih (k + 1) n a]
    congr 1; funext j
    simp only [upd_at]
    grind
theorem mkeep_L : ∀ (m k n a : Nat) (now U : Nat → Int32), k + m = 31 → m < n → a < 2 →
    f_Mo_keep_L20 (nI a) now n (nI k) U = some (fun j => if 31 * a + k ≤ j ∧ j < 31 * a + 31 then now (j - 31 * a) else U j) := by
  intro m
  induction m with
  | zero =>
    intro k n a now U hk hn ha
    obtain ⟨n, rfl⟩ : ∃ q, n = q + 1 := ⟨n - 1, by omega⟩
    rw [f_Mo_keep_L20_s]
    simp (disch := omega) only [l31, nI_leI, if_pos]
    congr 1; funext j
    simp (disch := omega) only [if_neg]
  | succ m ih =>
    intro k n a now U hk hn ha
    obtain ⟨n, rfl⟩ : ∃ q, n = q + 1 := ⟨n - 1, by omega⟩
    rw [f_Mo_keep_L20_s]
    simp (disch := omega) only [l31, l1, nI_leI, if_neg, nI_add, pk_mul, inB_nI, ↓reduceIte, nI_clamp, ih (k + 1) n a]
    congr 1; funext j
    simp only [upd_at]
    grind
theorem mback_L : ∀ (m k n a : Nat) (U now : Nat → Int32), k + m = 31 → m < n → a < 2 →
    f_Mo_back_L25 (nI a) U n (nI k) now = some (fun j => if k ≤ j ∧ j < 31 then U (31 * a + j) else now j) := by
  intro m
  induction m with
  | zero =>
    intro k n a U now hk hn ha
    obtain ⟨n, rfl⟩ : ∃ q, n = q + 1 := ⟨n - 1, by omega⟩
    rw [f_Mo_back_L25_s]
    simp (disch := omega) only [l31, nI_leI, if_pos]
    congr 1; funext j
    simp (disch := omega) only [if_neg]
  | succ m ih =>
    intro k n a U now hk hn ha
    obtain ⟨n, rfl⟩ : ∃ q, n = q + 1 := ⟨n - 1, by omega⟩
    rw [f_Mo_back_L25_s]
    simp (disch := omega) only [l31, l1, nI_leI, if_neg, nI_add, pk_mul, inB_nI, ↓reduceIte, nI_clamp, ih (k + 1) n a]
    congr 1; funext j
    simp only [upd_at]
    grind
theorem mrem_ok {a m : Nat} (ha : a < 10) (hm : m ≤ 10) (now U : Nat → Int32) : ∃ U' : Nat → Int32, f_Mo_remember (nI m) (nI a) now U = some (nI (min (m + 1) 10), nI ((a + 1) % 10), U') ∧ (∀ j : Nat, j < 31 → U' (31 * a + j) = now j) ∧ (∀ q : Nat, (q < 31 * a ∨ 31 * a + 31 ≤ q) → U' q = U q) := by
  unfold f_Mo_remember
  rw [l0, mrem_L 31 0 fu a now U rfl (by decide) ha, Option.bind_some]
  simp (disch := omega) only [l10, l1, nI_add, pk_rem, nI_leI]
  refine ⟨(fun j => if 31 * a + 0 ≤ j ∧ j < 31 * a + 31 then now (j - 31 * a) else U j), ?_, ?_, ?_⟩
  · by_cases h : 10 ≤ m
    · rw [if_pos h]
      have : m = 10 := by omega
      subst this; rfl
    · rw [if_neg h, Nat.min_eq_left (by omega)]
  · intro j hj; simp only; grind
  · intro q hq; simp only; grind
theorem push_ok {a m : Nat} (ha : a < 10) (hm : m ≤ 10) (F : Int32) (C : Nat → Int32) (x y z : Int32) (T V : Nat → Int32) : ∃ C' : Nat → Int32, f_History_push (nI a) (nI m) 10 F 310 C x y z T V = some (nI ((a + 1) % 10), nI (min (m + 1) 10), F ||| ((1 : Int32) <<< (nI a &&& 31)), C') ∧ C' (31 * a) = x ∧ C' (31 * a + 1) = y ∧ C' (31 * a + 2) = z ∧ (∀ j : Nat, j < 14 → C' (31 * a + (3 + j)) = T j ∧ C' (31 * a + (17 + j)) = V j) ∧ (∀ q : Nat, (q < 31 * a ∨ 31 * a + 31 ≤ q) → C' q = C q) := by
  obtain ⟨C', hC, h1⟩ := put_ok (P := 10) (N := 310) (by omega) rfl ha F C x y z T V
  refine ⟨C', ?_, h1⟩
  unfold f_History_push
  rw [l10, hC, Option.bind_some]
  simp (disch := omega) only [l1, nI_add, nI_leI, nI_ltI]
  have e1 : (if 10 < m + 1 then nI 10 else nI (m + 1)) = nI (min (m + 1) 10) := by
    by_cases h : 10 < m + 1
    · rw [if_pos h, Nat.min_eq_right (by omega)]
    · rw [if_neg h, Nat.min_eq_left (by omega)]
  rw [e1]
  by_cases h : 10 ≤ a + 1
  · rw [if_pos h]
    have : a = 9 := by omega
    subst this; rfl
  · rw [if_neg h, Nat.mod_eq_of_lt (by omega)]
theorem HistR_push {a m n p d : Nat} {F : Int32} {C C' U U' T V now : Nat → Int32} (ha : a < 10) (hm : m ≤ 10)
    (hh : ∀ r : Nat, r < m → f_TR_bitAt F (nI ((a + 9 - r) % 10)) = 1 ∧ RowR (fun j => C (31 * ((a + 9 - r) % 10) + j)) (fun j => U (31 * ((a + 9 - r) % 10) + j)))
    (hw : LW n p d T V) (hr : RowIs now n p d T V) (c0 : C' (31 * a) = nI n) (c1 : C' (31 * a + 1) = nI p) (c2 : C' (31 * a + 2) = nI d) (c3 : ∀ j : Nat, j < 14 → C' (31 * a + (3 + j)) = T j ∧ C' (31 * a + (17 + j)) = V j) (c4 : ∀ q : Nat, (q < 31 * a ∨ 31 * a + 31 ≤ q) → C' q = C q)
    (u1 : ∀ j : Nat, j < 31 → U' (31 * a + j) = now j) (u2 : ∀ q : Nat, (q < 31 * a ∨ 31 * a + 31 ≤ q) → U' q = U q) :
    HistR (nI ((a + 1) % 10)) (nI (min (m + 1) 10)) 10 (F ||| ((1 : Int32) <<< (nI a &&& 31))) C' (nI (min (m + 1) 10)) (nI ((a + 1) % 10)) U' := by
  refine ⟨(a + 1) % 10, min (m + 1) 10, Nat.mod_lt _ (by omega), Nat.min_le_right _ _, rfl, rfl, rfl, rfl, rfl, fun r hr' => ?_⟩
  have hr1 : r < m + 1 := by omega
  have hr2 : r < 10 := by omega
  have hn14 := hw.1
  rcases Nat.eq_zero_or_pos r with h | h
  · subst h
    have e : ((a + 1) % 10 + 9 - 0) % 10 = a := by omega
    rw [e]
    refine ⟨?_, RowR_of hw c0 c1 c2 c3 ?_⟩
    · rw [bitAt_bt _ (by omega), bt_set _ (by omega) (by omega)]; simp
    · refine ⟨?_, ?_, ?_, fun j hj => ?_⟩
      · exact (u1 0 (by omega)).trans hr.1
      · exact (u1 1 (by omega)).trans hr.2.1
      · exact (u1 2 (by omega)).trans hr.2.2.1
      · exact ⟨(u1 (3 + j) (by omega)).trans (hr.2.2.2 j hj).1, (u1 (17 + j) (by omega)).trans (hr.2.2.2 j hj).2⟩
  · obtain ⟨h1, h2⟩ := hh (r - 1) (by omega)
    have e : ((a + 1) % 10 + 9 - r) % 10 = (a + 9 - (r - 1)) % 10 := by omega
    rw [e]
    generalize hs : (a + 9 - (r - 1)) % 10 = s at h1 h2 ⊢
    have hsa : s ≠ a := by omega
    have hs10 : s < 10 := by omega
    refine ⟨?_, RowR_congr h2 (fun j hj => ⟨c4 _ (by omega), u2 _ (by omega)⟩)⟩
    rw [bitAt_bt _ (by omega), bt_set _ (by omega) (by omega)]
    rw [bitAt_bt _ (by omega)] at h1
    cases hb : bt F s
    · rw [hb] at h1; exact absurd h1 (by decide)
    · simp

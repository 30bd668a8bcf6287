/-! ===== Int32 by its bits: bt x i ===== -/
def bt (x : Int32) (i : Nat) : Bool := x.toBitVec.getLsbD i
theorem b_ext {x y : Int32} (h : ∀ i, i < 32 → bt x i = bt y i) : x = y := Int32.toBitVec_inj.mp (BitVec.eq_of_getLsbD_eq (fun i hi => h i hi))
theorem b_or (x y : Int32) (i : Nat) : bt (x ||| y) i = (bt x i || bt y i) := by unfold bt; rw [Int32.toBitVec_or, BitVec.getLsbD_or]
theorem b_and (x y : Int32) (i : Nat) : bt (x &&& y) i = (bt x i && bt y i) := by unfold bt; rw [Int32.toBitVec_and, BitVec.getLsbD_and]
theorem b_xor (x y : Int32) (i : Nat) : bt (x ^^^ y) i = (bt x i ^^ bt y i) := by unfold bt; rw [Int32.toBitVec_xor, BitVec.getLsbD_xor]
theorem b_big {x : Int32} {i : Nat} (h : 32 ≤ i) : bt x i = false := BitVec.getLsbD_of_ge _ _ h
theorem b_255 (i : Nat) : bt 255 i = decide (i < 8) := by
  rcases Nat.lt_or_ge i 32 with h | h
  · exact (by decide +kernel : ∀ i, i < 32 → bt 255 i = decide (i < 8)) i h
  · rw [b_big h, decide_eq_false (by omega)]
theorem b_65535 (i : Nat) : bt 65535 i = decide (i < 16) := by
  rcases Nat.lt_or_ge i 32 with h | h
  · exact (by decide +kernel : ∀ i, i < 32 → bt 65535 i = decide (i < 16)) i h
  · rw [b_big h, decide_eq_false (by omega)]
theorem b_m1 : ∀ i, i < 32 → bt (-1) i = true := by decide +kernel
theorem b_0 (i : Nat) : bt 0 i = false := BitVec.getLsbD_zero
theorem s_l : ∀ n, n < 32 → ((nI n &&& 31).toBitVec.smod 32).toNat = n := by decide +kernel
theorem s_u : ∀ n, n < 32 → (((nI n).toUInt32 &&& Int32.toUInt32 31).toBitVec % 32).toNat = n := by decide +kernel
theorem b_shl (n : Nat) (hn : n < 32) (x : Int32) {i : Nat} (hi : i < 32) : bt (x <<< (nI n &&& 31)) i = (decide (n ≤ i) && bt x (i - n)) := by
  unfold bt
  rw [Int32.toBitVec_shiftLeft]
  show (x.toBitVec <<< ((nI n &&& 31).toBitVec.smod 32).toNat).getLsbD i = _
  rw [s_l n hn, BitVec.getLsbD_shiftLeft]
  rcases Nat.lt_or_ge i n with h | h
  · simp [h, Nat.not_le.mpr h]
  · simp [hi, h, Nat.not_lt.mpr h]
theorem b_ushr (n : Nat) (hn : n < 32) (x : Int32) (i : Nat) : bt ((x.toUInt32 >>> ((nI n).toUInt32 &&& Int32.toUInt32 31)).toInt32) i = bt x (n + i) := by
  show (x.toUInt32 >>> ((nI n).toUInt32 &&& Int32.toUInt32 31)).toBitVec.getLsbD i = x.toUInt32.toBitVec.getLsbD (n + i)
  rw [UInt32.toBitVec_shiftRight]
  show (x.toUInt32.toBitVec >>> (((nI n).toUInt32 &&& Int32.toUInt32 31).toBitVec % 32).toNat).getLsbD i = _
  rw [s_u n hn, BitVec.getLsbD_ushiftRight]
theorem b_sshr (n : Nat) (hn : n < 32) (x : Int32) {i : Nat} (hi : i < 32) : bt (x >>> (nI n &&& 31)) i = if n + i < 32 then bt x (n + i) else bt x 31 := by
  unfold bt
  rw [Int32.toBitVec_shiftRight]
  show (x.toBitVec.sshiftRight ((nI n &&& 31).toBitVec.smod 32).toNat).getLsbD i = _
  rw [s_l n hn, BitVec.getLsbD_sshiftRight, BitVec.msb_eq_getLsbD_last]
  simp [hi]

theorem bitAt_bt (m : Int32) {q : Nat} (hq : q < 32) : f_TR_bitAt m (nI q) = if bt m q = true then 1 else 0 := by
  unfold f_TR_bitAt
  have h : ∀ i, i < 32 → bt ((m.toUInt32 >>> ((nI q).toUInt32 &&& Int32.toUInt32 31)).toInt32 &&& (1 : Int32)) i = bt (if bt m q = true then (1 : Int32) else 0) i := by
    intro i hi
    rw [b_and, b_ushr q hq]
    have h1 : bt 1 i = decide (i = 0) := (by decide +kernel : ∀ i, i < 32 → bt 1 i = decide (i = 0)) i hi
    rw [h1]
    by_cases h0 : i = 0
    · subst h0
      cases hb : bt m q
      · simp [hb, b_0]
      · simp [hb]; decide
    · cases hb : bt m q
      · simp [h0, b_0]
      · simp [h0, h1]
  exact b_ext h
theorem has_bt (m : Int32) {q : Nat} (hq : q < 32) : f_Mo_has m (nI q) = if bt m q = true then 1 else 0 := by
  unfold f_Mo_has
  have h : (m >>> (nI q &&& 31)) &&& (1 : Int32) = if bt m q = true then 1 else 0 := by
    apply b_ext
    intro i hi
    rw [b_and, b_sshr q hq m hi]
    have h1 : bt 1 i = decide (i = 0) := (by decide +kernel : ∀ i, i < 32 → bt 1 i = decide (i = 0)) i hi
    rw [h1]
    by_cases h0 : i = 0
    · subst h0
      cases hb : bt m q
      · simp [hb, b_0, hq]
      · simp [hb, hq]; decide
    · cases hb : bt m q
      · simp [h0, b_0]
      · simp [h0, h1]
  rw [h]
  cases bt m q <;> rfl
theorem bt_set (m : Int32) {p i : Nat} (hp : p < 32) (hi : i < 32) : bt (m ||| ((1 : Int32) <<< (nI p &&& 31))) i = (bt m i || decide (i = p)) := by
  rw [b_or, b_shl p hp _ hi]
  have h1 : bt 1 (i - p) = decide (i - p = 0) := (by decide +kernel : ∀ i, i < 32 → bt 1 i = decide (i = 0)) (i - p) (by omega)
  rw [h1]
  congr 1
  by_cases h : i = p
  · subst h; simp
  · by_cases h2 : p ≤ i
    · simp [h2, h]; omega
    · simp [h2, h]
theorem in_cases (x : Int32) {M : Nat} (hM : M < 2 ^ 31) : x < 0 ∨ nI M < x ∨ ∃ j : Nat, j ≤ M ∧ x = nI j := by
  rcases Decidable.em (x < 0) with h | h
  · exact Or.inl h
  · rcases Decidable.em (nI M < x) with h2 | h2
    · exact Or.inr (Or.inl h2)
    · exact Or.inr (Or.inr (nI_of2 (nI_toInt hM) h (Int32.not_lt.mp h2)))
theorem LW_congr {n p d : Nat} {t v t' v' : Nat → Int32} (h : LW n p d t v) (hc : ∀ j : Nat, j < n → t' j = t j ∧ v' j = v j) : LW n p d t' v' := by
  obtain ⟨h1, h2, h3, h4, h5, h6, h7⟩ := h
  refine ⟨h1, h2, h3, h4, fun j hj => ?_, fun i j hij hj => ?_, fun j hj => ?_⟩
  · rw [(hc j hj).1]; exact h5 j hj
  · rw [(hc j hj).1, (hc i (by omega)).1]; exact h6 i j hij hj
  · rw [(hc j hj).2]; exact h7 j hj
theorem RowR_of {c u T V : Nat → Int32} {n p d : Nat} (hw : LW n p d T V) (h0 : c 0 = nI n) (h1 : c 1 = nI p) (h2 : c 2 = nI d) (hc : ∀ j : Nat, j < 14 → c (3 + j) = T j ∧ c (17 + j) = V j) (hu : RowIs u n p d T V) : RowR c u := by
  have hn := hw.1
  refine ⟨n, p, d, LW_congr hw (fun j hj => hc j (by omega)), h0, h1, h2, hu.1, hu.2.1, hu.2.2.1, fun j hj => ?_⟩
  show u (3 + j) = c (3 + j) ∧ u (17 + j) = c (17 + j)
  rw [(hc j (by omega)).1, (hc j (by omega)).2]
  exact hu.2.2.2 j hj
theorem LogR_of_row {c u T V now : Nat → Int32} (h : RowR c u) (hT : ∀ j : Nat, j < 14 → T j = c (3 + j) ∧ V j = c (17 + j)) (hn : ∀ j : Nat, j < 31 → now j = u j) : LogR (c 0) (c 1) (c 2) T V now := by
  obtain ⟨n, p, d, hw, h0, h1, h2, u0, u1, u2, hu⟩ := h
  have hn14 := hw.1
  refine ⟨n, p, d, LW_congr hw (fun j hj => hT j (by omega)), h0, h1, h2, ?_, ?_, ?_, fun j hj => ?_⟩
  · rw [hn 0 (by omega)]; exact u0
  · rw [hn 1 (by omega)]; exact u1
  · rw [hn 2 (by omega)]; exact u2
  · rw [hn (3 + j) (by omega), hn (17 + j) (by omega), (hT j (by omega)).1, (hT j (by omega)).2]; exact hu j hj
theorem RowR_congr {c u c' u' : Nat → Int32} (h : RowR c u) (hc : ∀ j : Nat, j < 31 → c' j = c j ∧ u' j = u j) : RowR c' u' := by
  obtain ⟨n, p, d, hw, h0, h1, h2, u0, u1, u2, hu⟩ := h
  have hn14 := hw.1
  refine ⟨n, p, d, LW_congr hw (fun j hj => ⟨(hc _ (by omega)).1, (hc _ (by omega)).1⟩), ?_, ?_, ?_, ?_, ?_, ?_, fun j hj => ?_⟩
  · rw [(hc 0 (by omega)).1]; exact h0
  · rw [(hc 1 (by omega)).1]; exact h1
  · rw [(hc 2 (by omega)).1]; exact h2
  · rw [(hc 0 (by omega)).2]; exact u0
  · rw [(hc 1 (by omega)).2]; exact u1
  · rw [(hc 2 (by omega)).2]; exact u2
  · show u' (3 + j) = c' (3 + j) ∧ u' (17 + j) = c' (17 + j)
    rw [(hc (3 + j) (by omega)).2, (hc (17 + j) (by omega)).2, (hc (3 + j) (by omega)).1, (hc (17 + j) (by omega)).1]; exact hu j hj
/-- a log goes to a place of a shelf -/
theorem put_ok {P N : Nat} (hP : P ≤ 10) (hN : P * 31 = N) {s : Nat} (hs : s < P) (F : Int32) (C : Nat → Int32) (a b c : Int32) (T V : Nat → Int32) :
    ∃ C' : Nat → Int32, f_Shelf_put (nI P) F N C a b c T V (nI s) = some (F ||| ((1 : Int32) <<< (nI s &&& 31)), C') ∧ C' (31 * s) = a ∧ C' (31 * s + 1) = b ∧ C' (31 * s + 2) = c ∧ (∀ j : Nat, j < 14 → C' (31 * s + (3 + j)) = T j ∧ C' (31 * s + (17 + j)) = V j) ∧ (∀ q : Nat, (q < 31 * s ∨ 31 * s + 31 ≤ q) → C' q = C q) := by
  unfold f_Shelf_put
  simp (disch := omega) only [l0, l31, l1, l2, pk_mul, nI_add, nI_ltI, if_neg, if_pos, inB_nI, ↓reduceIte, nI_clamp, put_L 14 0 fu (s * 31) N _ T V _ rfl (by decide), Option.bind_some]
  refine ⟨_, rfl, ?_, ?_, ?_, ?_, ?_⟩
  · simp only [upd_at]; grind
  · simp only [upd_at]; grind
  · simp only [upd_at]; grind
  · intro j hj; simp only [upd_at]; grind
  · intro q hq; simp only [upd_at]; grind
theorem take_ok {P N : Nat} (hP : P ≤ 10) (hN : P * 31 = N) {s : Nat} (hs : s < P) (F : Int32) (hF : f_TR_bitAt F (nI s) = 1) (C : Nat → Int32) (a b c : Int32) (T V : Nat → Int32) :
    ∃ T' V' : Nat → Int32, f_Shelf_take (nI P) F N C a b c T V (nI s) = some (C (31 * s), C (31 * s + 1), C (31 * s + 2), T', V') ∧ (∀ j : Nat, j < 14 → T' j = C (31 * s + (3 + j)) ∧ V' j = C (31 * s + (17 + j))) := by
  unfold f_Shelf_take f_Shelf_holds
  rw [hF]
  simp (disch := omega) only [l0, l31, l1, l2, pk_mul, nI_add, nI_ltI, nI_leI, nI_eq, if_neg, if_pos, inB_nI, ↓reduceIte, nI_clamp, take_L 14 0 fu (s * 31) N C T V rfl (by decide), Option.bind_some]
  rw [Nat.mul_comm s 31]
  refine ⟨_, _, rfl, fun j hj => ?_⟩
  simp only [Nat.zero_le, true_and, hj, ↓reduceIte, Nat.add_assoc, and_self]

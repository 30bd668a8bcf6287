/-! ===== pure: the text's items ===== -/
theorem TokR_59 {x m : Int32} (h : TokR x m) : (x = 59) = (m = 59) := by
  apply propext
  rcases h with ⟨rfl, rfl⟩ | ⟨rfl, rfl⟩ | ⟨rfl, rfl⟩ | ⟨rfl, -⟩
  · decide
  · decide
  · decide
  · rfl
theorem TokR_1 {x m : Int32} (h : TokR x m) : (x = 1) = (m = 0) := by
  apply propext
  rcases h with ⟨rfl, rfl⟩ | ⟨rfl, rfl⟩ | ⟨rfl, rfl⟩ | ⟨rfl, rfl | rfl | rfl | rfl | rfl⟩ <;> decide
theorem win_in (v lo hi : Int32) : f_TR_isWithin v lo hi = f_Mo_in v lo hi := rfl
theorem in_01 (v lo hi : Int32) : f_Mo_in v lo hi = 0 ∨ f_Mo_in v lo hi = 1 := by
  unfold f_Mo_in
  split
  · exact Or.inl rfl
  · split
    · exact Or.inl rfl
    · exact Or.inr rfl
theorem num_tok {L : Nat} {le tx : Nat → Int32} (h : TX L le tx) {a : Nat} (ha : a ≤ L) (k pl num ta tk val : Int32) :
    ∃ b e : Nat, a ≤ b ∧ b ≤ e ∧ e ≤ L ∧ ((∃ kX kM nX vM : Int32, (∀ lo hi : Int32, f_Parser_isNumber (nI a) k pl num (nI L) le lo hi = some (0, nI e, kX, nI b, nX)) ∧ (∀ lo hi fa : Int32, f_Mo_number (nI L) (nI a) ta tk val fa tx lo hi = some (0, nI e, nI b, kM, vM, nI b))) ∨
      (∃ v : Nat, v ≤ 9999 ∧ (∀ lo hi : Int32, f_Parser_isNumber (nI a) k pl num (nI L) le lo hi = some (f_Mo_in (nI v) lo hi, nI e, 1, nI b, nI v)) ∧ (∀ lo hi fa : Int32, f_Mo_number (nI L) (nI a) ta tk val fa tx lo hi = some (f_Mo_in (nI v) lo hi, nI e, nI b, 0, nI v, if f_Mo_in (nI v) lo hi = 0 then nI b else fa)))) := by
  obtain ⟨b, e, kX, kM, nX, vM, e1, e2, -, h1, h2, h3, hT, -, -, hv⟩ := tok_ok h ha ha rfl k pl num ta tk val
  refine ⟨b, e, h1, h2, h3, ?_⟩
  have t1 := TokR_1 hT
  by_cases c : kX = 1
  · have c2 : kM = 0 := by rw [t1] at c; exact c
    obtain ⟨v, v1, rfl, rfl⟩ := hv c
    subst c c2
    refine Or.inr ⟨v, v1, fun lo hi => ?_, fun lo hi fa => ?_⟩
    · unfold f_Parser_isNumber
      rw [e1, Option.bind_some]
      rcases in_01 (nI v) lo hi with q | q
      · have q' : f_TR_isWithin (nI v) lo hi = 0 := q
        simp only [q, q', ↓reduceIte]
      · have q' : f_TR_isWithin (nI v) lo hi = 1 := q
        simp only [q, q', ↓reduceIte, n10]
    · unfold f_Mo_number f_Mo_fails
      rw [e2, Option.bind_some]
      simp only [↓reduceIte, Option.bind_some]
      rcases in_01 (nI v) lo hi with q | q
      · rw [q]; rfl
      · rw [q]; rfl
  · have c2 : ¬ kM = 0 := by rw [t1] at c; exact c
    refine Or.inl ⟨kX, kM, nX, vM, fun lo hi => ?_, fun lo hi fa => ?_⟩
    · unfold f_Parser_isNumber
      rw [e1, Option.bind_some]
      simp only [c, ↓reduceIte]
    · unfold f_Mo_number f_Mo_fails
      rw [e2, Option.bind_some]
      simp only [c2, ↓reduceIte, Option.bind_some]
theorem end_tok {L : Nat} {le tx : Nat → Int32} (h : TX L le tx) {a : Nat} (ha : a ≤ L) (k pl num ta tk val fa : Int32) :
    ∃ (b e : Nat) (kX kM nX vM y fa' : Int32), a ≤ b ∧ b ≤ e ∧ e ≤ L ∧ f_Parser_isEnded (nI a) k pl num (nI L) le = some (y, nI e, kX, nI b, nX) ∧ f_Mo_ends (nI L) (nI a) ta tk val fa tx = some (y, nI e, nI b, kM, vM, fa') ∧ ((y = 1 ∧ fa' = fa) ∨ (y = 0 ∧ fa' = nI b)) := by
  obtain ⟨b, e, kX, kM, nX, vM, e1, e2, -, h1, h2, h3, hT, -, -, hv⟩ := tok_ok h ha ha rfl k pl num ta tk val
  have t1 := TokR_59 hT
  unfold f_Parser_isEnded f_Mo_ends f_Mo_fails
  rw [e1, e2, Option.bind_some, Option.bind_some]
  simp only [t1]
  by_cases c : kM = 59
  · simp only [c, ↓reduceIte]
    exact ⟨b, e, kX, 59, nX, vM, 1, fa, h1, h2, h3, rfl, rfl, Or.inl ⟨rfl, rfl⟩⟩
  · simp only [c, ↓reduceIte, Option.bind_some]
    exact ⟨b, e, kX, kM, nX, vM, 0, nI b, h1, h2, h3, rfl, rfl, Or.inr ⟨rfl, rfl⟩⟩
theorem in_nat {v : Nat} (hv : v ≤ 9999) (lo hi : Nat) (hlo : lo < 2 ^ 31) (hhi : hi < 2 ^ 31) : (f_Mo_in (nI v) (nI lo) (nI hi) = 0 ∧ ¬ (lo ≤ v ∧ v ≤ hi)) ∨ (f_Mo_in (nI v) (nI lo) (nI hi) = 1 ∧ lo ≤ v ∧ v ≤ hi) := by
  unfold f_Mo_in
  simp only [nI_lt' (show v < 2 ^ 31 by omega) hlo, nI_lt' hhi (show v < 2 ^ 31 by omega)]
  by_cases c : v < lo
  · rw [if_pos c]; exact Or.inl ⟨rfl, by omega⟩
  · rw [if_neg c]
    by_cases c2 : hi < v
    · rw [if_pos c2]; exact Or.inl ⟨rfl, by omega⟩
    · rw [if_neg c2]; exact Or.inr ⟨rfl, by omega, by omega⟩
/-- an item that may come once: the class's delay -/
theorem delay_ok {L : Nat} {le tx : Nat → Int32} (h : TX L le tx) {a b0 : Nat} (ha : a ≤ L) (hb0 : b0 ≤ L) (k num tk val fa ro dl : Int32) (read : Nat → Int32) :
    ∃ (zX : Int32 × Int32 × Int32 × Int32 × Int32 × Int32 × Int32) (zM : Int32 × Int32 × Int32 × Int32 × Int32 × Int32 × Int32 × (Nat → Int32)), f_Parser_isDelayItem (nI a) k (nI b0) num (if bt ro 2 = true then 1 else 0) (nI L) le dl = some zX ∧ f_Mo_readsOnce (nI L) (nI a) (nI b0) tk val fa ro tx read 2 1 14 = some zM ∧
      ((zX.1 = 0 ∧ zM.1 = 0 ∧ ∃ b : Nat, b ≤ L ∧ zX.2.2.2.1 = nI b ∧ zM.2.2.2.2.2.1 = nI b) ∨
       (zX.1 = 1 ∧ zM.1 = 1 ∧ zX.2.2.2.2.2.1 = 1 ∧ zM.2.2.2.2.2.2.1 = ro ||| sh 2 ∧ ∃ e v : Nat, a ≤ e ∧ e ≤ L ∧ 1 ≤ v ∧ v ≤ 14 ∧ zX.2.1 = nI e ∧ zM.2.1 = nI e ∧ zX.2.2.2.2.2.2 = nI v ∧ zM.2.2.2.2.2.2.2 = upd read 2 (nI v))) := by
  have hb2 : f_Mo_has ro 2 = if bt ro 2 = true then 1 else 0 := has_bt ro (q := 2) (by omega)
  have i2 : inB (2 : Int32) 31 = true := by decide
  have z2 : ((2 : Int32)).toNatClampNeg = 2 := rfl
  unfold f_Parser_isDelayItem f_Mo_readsOnce f_Mo_fails
  rw [hb2]
  cases hb : bt ro 2
  · simp only [reduceCtorEq, ↓reduceIte, i2, z2]
    obtain ⟨b, e, h1, h2, h3, ⟨kX, kM, nX, vM, x1, m1⟩ | ⟨v, v1, x1, m1⟩⟩ := num_tok h ha k (nI b0) num (nI b0) tk val
    · rw [x1, m1]
      exact ⟨_, _, rfl, rfl, Or.inl ⟨rfl, rfl, b, by omega, rfl, rfl⟩⟩
    · rw [x1, m1]
      simp only [Option.bind_some]
      rcases in_nat v1 1 14 (by omega) (by omega) with ⟨q1, q2⟩ | ⟨q1, q2, q3⟩
      · rw [show f_Mo_in (nI v) 1 14 = 0 from q1]
        exact ⟨_, _, rfl, rfl, Or.inl ⟨rfl, rfl, b, by omega, rfl, rfl⟩⟩
      · rw [show f_Mo_in (nI v) 1 14 = 1 from q1]
        simp only [n10, ↓reduceIte]
        obtain ⟨b', e', kX', kM', nX', vM', y, fa', g1, g2, g3, g4, g5, g6⟩ := end_tok h h3 1 (nI b) (nI v) (nI b) 0 (nI v) fa
        rw [g4, g5]
        rcases g6 with ⟨rfl, rfl⟩ | ⟨rfl, rfl⟩
        · exact ⟨_, _, rfl, rfl, Or.inr ⟨rfl, rfl, rfl, rfl, e', v, by omega, g3, q2, q3, rfl, rfl, rfl, rfl⟩⟩
        · exact ⟨_, _, rfl, rfl, Or.inl ⟨rfl, rfl, b', by omega, rfl, rfl⟩⟩
  · simp only [↓reduceIte, n10, Option.bind_some]
    exact ⟨_, _, rfl, rfl, Or.inl ⟨rfl, rfl, b0, hb0, rfl, rfl⟩⟩
theorem promise_ok {L : Nat} {le tx : Nat → Int32} (h : TX L le tx) {a b0 : Nat} (ha : a ≤ L) (hb0 : b0 ≤ L) (k num tk val fa ro dl : Int32) (read : Nat → Int32) :
    ∃ (zX : Int32 × Int32 × Int32 × Int32 × Int32 × Int32 × Int32) (zM : Int32 × Int32 × Int32 × Int32 × Int32 × Int32 × Int32 × (Nat → Int32)), f_Parser_isPromiseItem (nI a) k (nI b0) num (if bt ro 1 = true then 1 else 0) (nI L) le dl = some zX ∧ f_Mo_readsOnce (nI L) (nI a) (nI b0) tk val fa ro tx read 1 0 99 = some zM ∧
      ((zX.1 = 0 ∧ zM.1 = 0 ∧ ∃ b : Nat, b ≤ L ∧ zX.2.2.2.1 = nI b ∧ zM.2.2.2.2.2.1 = nI b) ∨
       (zX.1 = 1 ∧ zM.1 = 1 ∧ zX.2.2.2.2.2.1 = 1 ∧ zM.2.2.2.2.2.2.1 = ro ||| sh 1 ∧ ∃ e v : Nat, a ≤ e ∧ e ≤ L ∧ v ≤ 99 ∧ zX.2.1 = nI e ∧ zM.2.1 = nI e ∧ zX.2.2.2.2.2.2 = nI v ∧ zM.2.2.2.2.2.2.2 = upd read 1 (nI v))) := by
  have hb2 : f_Mo_has ro 1 = if bt ro 1 = true then 1 else 0 := has_bt ro (q := 1) (by omega)
  have i2 : inB (1 : Int32) 31 = true := by decide
  have z2 : ((1 : Int32)).toNatClampNeg = 1 := rfl
  unfold f_Parser_isPromiseItem f_Mo_readsOnce f_Mo_fails
  rw [hb2]
  cases hb : bt ro 1
  · simp only [reduceCtorEq, ↓reduceIte, i2, z2]
    obtain ⟨b, e, h1, h2, h3, ⟨kX, kM, nX, vM, x1, m1⟩ | ⟨v, v1, x1, m1⟩⟩ := num_tok h ha k (nI b0) num (nI b0) tk val
    · rw [x1, m1]
      exact ⟨_, _, rfl, rfl, Or.inl ⟨rfl, rfl, b, by omega, rfl, rfl⟩⟩
    · rw [x1, m1]
      simp only [Option.bind_some]
      rcases in_nat v1 0 99 (by omega) (by omega) with ⟨q1, q2⟩ | ⟨q1, q2, q3⟩
      · rw [show f_Mo_in (nI v) 0 99 = 0 from q1]
        exact ⟨_, _, rfl, rfl, Or.inl ⟨rfl, rfl, b, by omega, rfl, rfl⟩⟩
      · rw [show f_Mo_in (nI v) 0 99 = 1 from q1]
        simp only [n10, ↓reduceIte]
        obtain ⟨b', e', kX', kM', nX', vM', y, fa', g1, g2, g3, g4, g5, g6⟩ := end_tok h h3 1 (nI b) (nI v) (nI b) 0 (nI v) fa
        rw [g4, g5]
        rcases g6 with ⟨rfl, rfl⟩ | ⟨rfl, rfl⟩
        · exact ⟨_, _, rfl, rfl, Or.inr ⟨rfl, rfl, rfl, rfl, e', v, by omega, g3, q3, rfl, rfl, rfl, rfl⟩⟩
        · exact ⟨_, _, rfl, rfl, Or.inl ⟨rfl, rfl, b', by omega, rfl, rfl⟩⟩
  · simp only [↓reduceIte, n10, Option.bind_some]
    exact ⟨_, _, rfl, rfl, Or.inl ⟨rfl, rfl, b0, hb0, rfl, rfl⟩⟩
def mK (v_letterMany : Int32) (A_text A_read : Nat → Int32) (p1 : Int32) (z5 : Int32 × Int32 × Int32 × Int32 × Int32 × Int32) : Option (Int32 × Int32 × Int32 × Int32 × Int32 × Int32 × (Nat → Int32)) := (if z5.1 = 0 then some ((0 : Int32), z5.2.1, z5.2.2.1, z5.2.2.2.1, z5.2.2.2.2.1, z5.2.2.2.2.2, A_read) else (if inB ((3 : Int32) + (A_read ((0 : Int32)).toNatClampNeg)) 31 = true then (if inB ((17 : Int32) + (A_read ((0 : Int32)).toNatClampNeg)) 31 = true then (if p1 = 0 then (if inB (0 : Int32) 31 = true then (if inB (0 : Int32) 31 = true then (f_Mo_ends v_letterMany z5.2.1 z5.2.2.1 z5.2.2.2.1 z5.2.2.2.2.1 z5.2.2.2.2.2 A_text).bind (fun z12 => some (z12.1, z12.2.1, z12.2.2.1, z12.2.2.2.1, z12.2.2.2.2.1, z12.2.2.2.2.2, (upd (upd (upd A_read (((3 : Int32) + (A_read ((0 : Int32)).toNatClampNeg))).toNatClampNeg z5.2.2.2.2.1) (((17 : Int32) + (A_read ((0 : Int32)).toNatClampNeg))).toNatClampNeg (-9 : Int32)) ((0 : Int32)).toNatClampNeg (((upd (upd A_read (((3 : Int32) + (A_read ((0 : Int32)).toNatClampNeg))).toNatClampNeg z5.2.2.2.2.1) (((17 : Int32) + (A_read ((0 : Int32)).toNatClampNeg))).toNatClampNeg (-9 : Int32)) ((0 : Int32)).toNatClampNeg) + (1 : Int32))))) else none) else none) else (f_Mo_number v_letterMany z5.2.1 z5.2.2.1 z5.2.2.2.1 z5.2.2.2.2.1 z5.2.2.2.2.2 A_text (0 : Int32) (999 : Int32)).bind (fun z13 => (if z13.1 = 0 then some ((0 : Int32), z13.2.1, z13.2.2.1, z13.2.2.2.1, z13.2.2.2.2.1, z13.2.2.2.2.2, (upd (upd A_read (((3 : Int32) + (A_read ((0 : Int32)).toNatClampNeg))).toNatClampNeg z5.2.2.2.2.1) (((17 : Int32) + (A_read ((0 : Int32)).toNatClampNeg))).toNatClampNeg (-9 : Int32))) else (if inB ((17 : Int32) + (A_read ((0 : Int32)).toNatClampNeg)) 31 = true then (if inB (0 : Int32) 31 = true then (if inB (0 : Int32) 31 = true then (f_Mo_ends v_letterMany z13.2.1 z13.2.2.1 z13.2.2.2.1 z13.2.2.2.2.1 z13.2.2.2.2.2 A_text).bind (fun z18 => some (z18.1, z18.2.1, z18.2.2.1, z18.2.2.2.1, z18.2.2.2.2.1, z18.2.2.2.2.2, (upd (upd (upd (upd A_read (((3 : Int32) + (A_read ((0 : Int32)).toNatClampNeg))).toNatClampNeg z5.2.2.2.2.1) (((17 : Int32) + (A_read ((0 : Int32)).toNatClampNeg))).toNatClampNeg (-9 : Int32)) (((17 : Int32) + (A_read ((0 : Int32)).toNatClampNeg))).toNatClampNeg z13.2.2.2.2.1) ((0 : Int32)).toNatClampNeg (((upd (upd (upd A_read (((3 : Int32) + (A_read ((0 : Int32)).toNatClampNeg))).toNatClampNeg z5.2.2.2.2.1) (((17 : Int32) + (A_read ((0 : Int32)).toNatClampNeg))).toNatClampNeg (-9 : Int32)) (((17 : Int32) + (A_read ((0 : Int32)).toNatClampNeg))).toNatClampNeg z13.2.2.2.2.1) ((0 : Int32)).toNatClampNeg) + (1 : Int32))))) else none) else none) else none)))) else none) else none))
theorem readsOne_eq (L ra ta tk vl fa : Int32) (tx read : Nat → Int32) (p1 : Int32) : f_Mo_readsOne L ra ta tk vl fa tx read p1 = if read 0 = 14 then some (0, ra, ta, tk, vl, ta, read) else if read 0 = 0 then (f_Mo_number L ra ta tk vl fa tx 0 999).bind (mK L tx read p1) else if inB ((3 : Int32) + read 0 - 1) 31 = true then (f_Mo_number L ra ta tk vl fa tx (read (((3 : Int32) + read 0 - 1)).toNatClampNeg + 1) 999).bind (mK L tx read p1) else none := rfl
theorem RowIs_add {n p d t : Nat} {w : Int32} {T V read read' : Nat → Int32} (hr : RowIs read n p d T V) (hn : n < 14) (h0 : read' 0 = nI (n + 1)) (h3 : read' (3 + n) = nI t) (h17 : read' (17 + n) = w) (hc : ∀ q : Nat, q ≠ 0 → q ≠ 3 + n → q ≠ 17 + n → read' q = read q) : RowIs read' (n + 1) p d (upd T n (nI t)) (upd V n w) := by
  obtain ⟨r0, r1, r2, r3⟩ := hr
  refine ⟨h0, ?_, ?_, fun j hj => ?_⟩
  · rw [hc 1 (by omega) (by omega) (by omega)]; exact r1
  · rw [hc 2 (by omega) (by omega) (by omega)]; exact r2
  · rw [upd_at, upd_at]
    by_cases e : j = n
    · subst e; rw [if_pos rfl, if_pos rfl]; exact ⟨h3, h17⟩
    · rw [if_neg e, if_neg e, hc (3 + j) (by omega) (by omega) (by omega), hc (17 + j) (by omega) (by omega) (by omega)]; exact r3 j (by omega)
/-- what comes behind a reading's time -/
theorem behind_ok {L : Nat} {le tx : Nat → Int32} (h : TX L le tx) {n p d : Nat} {T V read : Nat → Int32} (hw : LW n p d T V) (hr : RowIs read n p d T V) (hn : n < 14) {v b e : Nat} (hbe : b ≤ e) (he : e ≤ L) (hv : v ≤ 999) (hl : ∀ j : Nat, j < n → (T j).toInt < v) (fa : Int32) {p1 : Int32} (hp1 : p1 = 0 ∨ p1 = 1) :
    ∃ (zX : Int32 × Int32 × Int32 × Int32 × Int32 × Int32 × (Nat → Int32) × (Nat → Int32)) (zM : Int32 × Int32 × Int32 × Int32 × Int32 × Int32 × (Nat → Int32)),
      (if p1 = 0 then (f_Log_append (nI n) T V (nI v) (-9 : Int32)).bind (fun z9 => (f_Parser_isEnded (nI e) 1 (nI b) (nI v) (nI L) le).bind (fun z10 => some (z10.1, z10.2.1, z10.2.2.1, z10.2.2.2.1, z10.2.2.2.2, z9.2.1, z9.2.2.1, z9.2.2.2))) else (f_Parser_isNumber (nI e) 1 (nI b) (nI v) (nI L) le (0 : Int32) (999 : Int32)).bind (fun z11 => (if z11.1 = 0 then some ((0 : Int32), z11.2.1, z11.2.2.1, z11.2.2.2.1, z11.2.2.2.2, (nI n), T, V) else (f_Log_append (nI n) T V (nI v) z11.2.2.2.2).bind (fun z14 => (f_Parser_isEnded z11.2.1 z11.2.2.1 z11.2.2.2.1 z11.2.2.2.2 (nI L) le).bind (fun z15 => some (z15.1, z15.2.1, z15.2.2.1, z15.2.2.2.1, z15.2.2.2.2, z14.2.1, z14.2.2.1, z14.2.2.2)))))) = some zX ∧ mK (nI L) tx read p1 (1, nI e, nI b, 0, nI v, fa) = some zM ∧
      ((zX.1 = 0 ∧ zM.1 = 0 ∧ ∃ b : Nat, b ≤ L ∧ zX.2.2.2.1 = nI b ∧ zM.2.2.2.2.2.1 = nI b) ∨
       (zX.1 = 1 ∧ zM.1 = 1 ∧ ∃ e' : Nat, e ≤ e' ∧ e' ≤ L ∧ zX.2.1 = nI e' ∧ zM.2.1 = nI e' ∧ zX.2.2.2.2.2.1 = nI (n + 1) ∧ LW (n + 1) p d zX.2.2.2.2.2.2.1 zX.2.2.2.2.2.2.2 ∧ RowIs zM.2.2.2.2.2.2 (n + 1) p d zX.2.2.2.2.2.2.1 zX.2.2.2.2.2.2.2)) := by
  have i0 : inB (0 : Int32) 31 = true := by decide
  have z0 : ((0 : Int32)).toNatClampNeg = 0 := rfl
  have s3 : (3 : Int32) + nI n = nI (3 + n) := by rw [l3, nI_add]
  have s17 : (17 : Int32) + nI n = nI (17 + n) := by rw [l17, nI_add]
  have hr0 := hr.1
  have e1 : nI n + 1 = nI (n + 1) := by rw [l1, nI_add]
  unfold mK
  simp only [i0, z0, hr0, s3, s17, inB_nI (show 3 + n < 31 by omega) (by omega), inB_nI (show 17 + n < 31 by omega) (by omega), nI_clamp (show 3 + n < 2 ^ 31 by omega), nI_clamp (show 17 + n < 2 ^ 31 by omega), ↓reduceIte, n10, append_ok hn, Option.bind_some]
  rcases hp1 with rfl | rfl
  · simp only [↓reduceIte]
    obtain ⟨b', e', kX', kM', nX', vM', y, fa', g1, g2, g3, g4, g5, g6⟩ := end_tok h he 1 (nI b) (nI v) (nI b) 0 (nI v) fa
    rw [g4, g5]
    refine ⟨_, _, rfl, rfl, ?_⟩
    rcases g6 with ⟨rfl, rfl⟩ | ⟨rfl, rfl⟩
    · refine Or.inr ⟨rfl, rfl, e', by omega, g3, rfl, rfl, rfl, LW_add hw hn hv hl (Or.inl rfl), RowIs_add hr hn ?_ ?_ ?_ ?_⟩
      · simp only [upd_at]; simp (disch := omega) only [if_neg, if_pos, ↓reduceIte]; rw [hr0, e1]
      · simp only [upd_at]; simp (disch := omega) only [if_neg, if_pos, ↓reduceIte]
      · simp only [upd_at]; simp (disch := omega) only [if_neg, if_pos, ↓reduceIte]
      · intro q a1 a2 a3; simp only [upd_at]; simp (disch := omega) only [if_neg, a1, a2, a3, ↓reduceIte]
    · exact Or.inl ⟨rfl, rfl, b', by omega, rfl, rfl⟩
  · simp only [n10, ↓reduceIte]
    obtain ⟨b2, e2, h1, h2, h3, ⟨kX, kM, nX, vM, x1, m1⟩ | ⟨w, w1, x1, m1⟩⟩ := num_tok h he 1 (nI b) (nI v) (nI b) 0 (nI v)
    · rw [x1, m1]
      exact ⟨_, _, rfl, rfl, Or.inl ⟨rfl, rfl, b2, by omega, rfl, rfl⟩⟩
    · rw [x1, m1]
      simp only [Option.bind_some]
      rcases in_nat w1 0 999 (by omega) (by omega) with ⟨q1, q2⟩ | ⟨q1, q2, q3⟩
      · rw [show f_Mo_in (nI w) 0 999 = 0 from q1]
        exact ⟨_, _, rfl, rfl, Or.inl ⟨rfl, rfl, b2, by omega, rfl, rfl⟩⟩
      · rw [show f_Mo_in (nI w) 0 999 = 1 from q1]
        simp only [n10, ↓reduceIte]
        obtain ⟨b', e', kX', kM', nX', vM', y, fa', g1, g2, g3, g4, g5, g6⟩ := end_tok h h3 1 (nI b2) (nI w) (nI b2) 0 (nI w) fa
        rw [g4, g5]
        refine ⟨_, _, rfl, rfl, ?_⟩
        rcases g6 with ⟨rfl, rfl⟩ | ⟨rfl, rfl⟩
        · refine Or.inr ⟨rfl, rfl, e', by omega, g3, rfl, rfl, rfl, LW_add hw hn hv hl (Or.inr ?_), RowIs_add hr hn ?_ ?_ ?_ ?_⟩
          · rw [nI_toInt (by omega)]; omega
          · simp only [upd_at]; simp (disch := omega) only [if_neg, if_pos, ↓reduceIte]; rw [hr0, e1]
          · simp only [upd_at]; simp (disch := omega) only [if_neg, if_pos, ↓reduceIte]
          · simp only [upd_at]; simp (disch := omega) only [if_neg, if_pos, ↓reduceIte]
          · intro q a1 a2 a3; simp only [upd_at]; simp (disch := omega) only [if_neg, a1, a2, a3, ↓reduceIte]
        · exact Or.inl ⟨rfl, rfl, b', by omega, rfl, rfl⟩
theorem item_ok {L : Nat} {le tx : Nat → Int32} (h : TX L le tx) {n p d : Nat} {T V read : Nat → Int32} (hw : LW n p d T V) (hr : RowIs read n p d T V) {a b0 : Nat} (ha : a ≤ L) (hb0 : b0 ≤ L) (k num tk val fa : Int32) {p1 : Int32} (hp1 : p1 = 0 ∨ p1 = 1) :
    ∃ (zX : Int32 × Int32 × Int32 × Int32 × Int32 × Int32 × (Nat → Int32) × (Nat → Int32)) (zM : Int32 × Int32 × Int32 × Int32 × Int32 × Int32 × (Nat → Int32)),
      f_Parser_isReadingItem (nI a) k (nI b0) num (nI L) le (nI n) T V p1 = some zX ∧ f_Mo_readsOne (nI L) (nI a) (nI b0) tk val fa tx read p1 = some zM ∧
      ((zX.1 = 0 ∧ zM.1 = 0 ∧ ∃ b : Nat, b ≤ L ∧ zX.2.2.2.1 = nI b ∧ zM.2.2.2.2.2.1 = nI b) ∨
       (zX.1 = 1 ∧ zM.1 = 1 ∧ ∃ e' : Nat, a ≤ e' ∧ e' ≤ L ∧ zX.2.1 = nI e' ∧ zM.2.1 = nI e' ∧ zX.2.2.2.2.2.1 = nI (n + 1) ∧ LW (n + 1) p d zX.2.2.2.2.2.2.1 zX.2.2.2.2.2.2.2 ∧ RowIs zM.2.2.2.2.2.2 (n + 1) p d zX.2.2.2.2.2.2.1 zX.2.2.2.2.2.2.2)) := by
  have hn := hw.1
  rw [readsOne_eq, hr.1]
  unfold f_Parser_isReadingItem
  rw [isFull_ok hn]
  by_cases c14 : n = 14
  · subst c14
    rw [if_pos (show nI 14 = 14 from rfl)]
    exact ⟨_, _, rfl, rfl, Or.inl ⟨rfl, rfl, b0, hb0, rfl, rfl⟩⟩
  · have hn14 : n < 14 := by omega
    have c14' : ¬ nI n = 14 := by rw [l14, nI_eq' (by omega) (by omega)]; exact c14
    rw [if_neg c14', if_neg c14, if_pos rfl]
    -- the reference's least time
    have lo : ∃ lo : Nat, lo ≤ 1000 ∧ (∀ v : Nat, v ≤ 999 → (lo ≤ v ↔ (n = 0 ∨ T (n - 1) < nI v))) ∧ (if nI n = 0 then (f_Mo_number (nI L) (nI a) (nI b0) tk val fa tx 0 999).bind (mK (nI L) tx read p1) else if inB ((3 : Int32) + nI n - 1) 31 = true then (f_Mo_number (nI L) (nI a) (nI b0) tk val fa tx (read (((3 : Int32) + nI n - 1)).toNatClampNeg + 1) 999).bind (mK (nI L) tx read p1) else none) = (f_Mo_number (nI L) (nI a) (nI b0) tk val fa tx (nI lo) 999).bind (mK (nI L) tx read p1) := by
      by_cases c0 : n = 0
      · subst c0
        exact ⟨0, by omega, fun v _ => ⟨fun _ => Or.inl rfl, fun _ => Nat.zero_le _⟩, by rw [if_pos (show nI 0 = 0 from rfl)]; rfl⟩
      · have c0' : ¬ nI n = 0 := nI_ne0 (by omega) (by omega)
        obtain ⟨t, ht, et⟩ := time_nat hw (show n - 1 < n by omega)
        have s : (3 : Int32) + nI n - 1 = nI (3 + (n - 1)) := by rw [l3, nI_add, l1, pk_sub (by omega)]; congr 1; omega
        refine ⟨t + 1, by omega, fun v hv => ?_, ?_⟩
        · rw [et, nI_ltI (by omega) (by omega)]
          omega
        · rw [if_neg c0', s, inB_nI (show 3 + (n - 1) < 31 by omega) (by omega), if_pos rfl, nI_clamp (by omega), (hr.2.2.2 (n - 1) (by omega)).1, et, show nI t + 1 = nI (t + 1) from by rw [l1, nI_add]]
    obtain ⟨lo, lo1, lo2, lo3⟩ := lo
    rw [lo3]
    obtain ⟨b, e, h1, h2, h3, ⟨kX, kM, nX, vM, x1, m1⟩ | ⟨v, v1, x1, m1⟩⟩ := num_tok h ha k (nI b0) num (nI b0) tk val
    · rw [x1, m1]
      exact ⟨_, _, rfl, rfl, Or.inl ⟨rfl, rfl, b, by omega, rfl, rfl⟩⟩
    · rw [x1, m1, Option.bind_some, Option.bind_some]
      have fail0 : mK (nI L) tx read p1 (0, nI e, nI b, 0, nI v, nI b) = some (0, nI e, nI b, 0, nI v, nI b, read) := rfl
      rcases in_nat v1 lo 999 (by omega) (by omega) with ⟨m2, m3⟩ | ⟨m2, m3, m4⟩
      · rw [show f_Mo_in (nI v) (nI lo) 999 = 0 from m2, if_pos rfl, fail0]
        rcases in_nat v1 0 999 (by omega) (by omega) with ⟨q1, q2⟩ | ⟨q1, q2, q3⟩
        · rw [show f_Mo_in (nI v) 0 999 = 0 from q1]
          exact ⟨_, _, rfl, rfl, Or.inl ⟨rfl, rfl, b, by omega, rfl, rfl⟩⟩
        · rw [show f_Mo_in (nI v) 0 999 = 1 from q1]
          simp only [n10, ↓reduceIte]
          rw [isLater_ok hn, if_neg (fun x => m3 ⟨(lo2 v q3).mpr x, q3⟩)]
          exact ⟨_, _, rfl, rfl, Or.inl ⟨rfl, rfl, b, by omega, rfl, rfl⟩⟩
      · have q1 : f_Mo_in (nI v) 0 999 = 1 := by
          rcases in_nat v1 0 999 (by omega) (by omega) with ⟨q1, q2⟩ | ⟨q1, q2, q3⟩
          · omega
          · exact q1
        have later := (lo2 v m4).mp m3
        rw [show f_Mo_in (nI v) (nI lo) 999 = 1 from m2, q1]
        simp only [n10, ↓reduceIte]
        rw [isLater_ok hn, if_pos later, Option.bind_some, if_neg (by decide)]
        have hl : ∀ j : Nat, j < n → (T j).toInt < v := by
          intro j hj
          rcases later with x | x
          · omega
          · rw [Int32.lt_iff_toInt_lt, nI_toInt (by omega)] at x
            rcases Nat.lt_or_ge j (n - 1) with h2 | h2
            · have := hw.2.2.2.2.2.1 j (n - 1) h2 (by omega); omega
            · have : j = n - 1 := by omega
              subst this; exact x
        obtain ⟨zX, zM, y1, y2, y3⟩ := behind_ok h hw hr hn14 h2 h3 m4 hl fa hp1
        refine ⟨zX, zM, y1, y2, ?_⟩
        rcases y3 with y3 | ⟨y4, y5, e', y6, y7⟩
        · exact Or.inl y3
        · exact Or.inr ⟨y4, y5, e', by omega, y7⟩

/-! ===== calls in a world of two halves ===== -/
theorem va_P_l {D : va_G} {cl : List vw_C} {a b : va_W} {H : Heap} (h : va_P D cl (a ++ b) H) : va_P D cl a H := fun k q hk => h k q (by rw [List.getElem?_append_left (List.getElem?_eq_some_iff.mp hk).1]; exact hk)
theorem va_P_r {D : va_G} {cl : List vw_C} {a b : va_W} {H : Heap} (h : va_P D cl (a ++ b) H) : va_P D cl b H := fun k q hk => h (a.length + k) q (by rw [List.getElem?_append_right (by omega), Nat.add_sub_cancel_left]; exact hk)
theorem va_D_l {A : Nat → Prop} {a b : va_W} (h : va_D A (a ++ b)) : va_D A a := ⟨fun i j p q hi hj e => h.1 i j p q (by rw [List.getElem?_append_left (List.getElem?_eq_some_iff.mp hi).1]; exact hi) (by rw [List.getElem?_append_left (List.getElem?_eq_some_iff.mp hj).1]; exact hj) e, fun k q hk => h.2 k q (by rw [List.getElem?_append_left (List.getElem?_eq_some_iff.mp hk).1]; exact hk)⟩
theorem va_D_r {A : Nat → Prop} {a b : va_W} (h : va_D A (a ++ b)) : va_D A b := ⟨fun i j p q hi hj e => by
    have := h.1 (a.length + i) (a.length + j) p q (by rw [List.getElem?_append_right (by omega), Nat.add_sub_cancel_left]; exact hi) (by rw [List.getElem?_append_right (by omega), Nat.add_sub_cancel_left]; exact hj) e
    omega, fun k q hk => h.2 (a.length + k) q (by rw [List.getElem?_append_right (by omega), Nat.add_sub_cancel_left]; exact hk)⟩
theorem keepR {A0 : Nat → Prop} {D : va_G} {cl : List vw_C} {wx wm : va_W} {H H1 : Heap} (hP : va_P D cl (wx ++ wm) H) (hD : va_D A0 (wx ++ wm)) (hk : ∀ q : Nat, q < H.size → ¬ va_A wx H.size q → H1[q]? = H[q]?) : va_P D cl wm H1 := fun k q hq => by
  have hi : (wx ++ wm)[wx.length + k]? = some q := by rw [List.getElem?_append_right (by omega), Nat.add_sub_cancel_left]; exact hq
  have h1 := hP _ q hi
  refine h1.kept (hk q.1 h1.lt ?_)
  rintro (⟨k2, e, h⟩ | h)
  · have h2 : (wx ++ wm)[k2]? = some (q.1, e) := by rw [List.getElem?_append_left (List.getElem?_eq_some_iff.mp h).1]; exact h
    have h3 := hD.1 _ _ q (q.1, e) hi h2 rfl
    have h4 := (List.getElem?_eq_some_iff.mp h).1
    omega
  · have := h1.lt; omega
theorem keepL {A0 : Nat → Prop} {D : va_G} {cl : List vw_C} {wx wm : va_W} {H H1 : Heap} (hP : va_P D cl (wx ++ wm) H) (hD : va_D A0 (wx ++ wm)) (hk : ∀ q : Nat, q < H.size → ¬ va_A wm H.size q → H1[q]? = H[q]?) : va_P D cl wx H1 := fun k q hq => by
  have hkl := (List.getElem?_eq_some_iff.mp hq).1
  have hi : (wx ++ wm)[k]? = some q := by rw [List.getElem?_append_left hkl]; exact hq
  have h1 := hP _ q hi
  refine h1.kept (hk q.1 h1.lt ?_)
  rintro (⟨k2, e, h⟩ | h)
  · have h2 : (wx ++ wm)[wx.length + k2]? = some (q.1, e) := by rw [List.getElem?_append_right (by omega), Nat.add_sub_cancel_left]; exact h
    have h3 := hD.1 _ _ q (q.1, e) hi h2 rfl
    omega
  · have := h1.lt; omega
section TWO
variable {p : Program} {l : Launch} {e : Env} {R : Room} {s : State} {m : MethodId} {args : Array Value} {below : List Frame} {meth : Method} {c : Code} {H : Heap} {locs : List Loc} {cells slots : Nat} {Q : State → Prop}
variable {cc bytes : ByteArray} {nL maxL idx n pc : Nat} {own C : String} {y : MethodName} {ret : FieldType} {rm : Room} {D : va_G} {tys : List (ClassId × FieldType)} {wx wm w' : va_W} {ls : Array Slot} {st0 : List Value} {b : Nat} {r : Int32} {A0 : Nat → Prop} {H0 : Heap}
theorem mcT {ov : Option Value} {a : Array Value} {rest : List Value} {E : Prop} {wc : va_W} (hr : va_Run p l e R s m args below meth c H locs cells slots 0 0 (F0 m pc ls st0) rest (fun st o t => QM ov D w' (va_A wc H.size) a st o t ∧ E) (va_A wc H.size))
    (hDc : va_D A0 wc) (hS : va_S A0 H0 H locs) (hA : ∀ q : Nat, H0.size ≤ q → A0 q)
    (kk : ∀ (H1 : Heap) (locs1 : List Loc), va_P D vwCl w' H1 → (∀ q : Nat, q < H.size → ¬ va_A wc H.size q → H1[q]? = H[q]?) → va_S A0 H0 H1 locs1 → E → W p l e R s m args below meth c H1 locs1 cells slots Q (F0 m (pc + 3) ls (ov.toList ++ rest))) : W p l e R s m args below meth c H locs cells slots Q (F0 m pc ls st0) := by
  have hFc : ∀ q, va_A wc H.size q → A0 q := by
    rintro q (⟨k, e, h⟩ | h)
    · exact hDc.2 k (q, e) h
    · exact hA q (Nat.le_trans hS.1 h)
  intro T hT X
  obtain ⟨v, st₀, t, T', L, h0, X', hL, e1, e2, ⟨⟨hv, hP1, hz, hk⟩, hE⟩, st⟩ := hr T hT X
  cases hv
  rw [h0] at hz hk
  obtain ⟨t2, a1, b1⟩ := kk T'.heap (locs ++ L) (by rw [e1]; exact hP1) (fun q h1 h2 => by rw [e1]; exact hk q h1 h2)
    ⟨Nat.le_trans hS.1 (by rw [e1]; exact hz), fun q h1 h2 => by rw [e1, hk q (Nat.lt_of_lt_of_le h1 hS.1) (fun z => h2 (hFc q z))]; exact hS.2.1 q h1 h2, fun q hq => by
      rcases List.mem_append.mp hq with h | h
      · exact hS.2.2 q h
      · exact hFc _ (hL q h)⟩ hE T' rfl X'
  exact ⟨t2, st t2 a1, b1⟩
theorem muL (X : Ctx p s m args c cc nL own D tys) (As rest : List Value) (hM : Met l y (.code y bytes maxL (some ret) :: TBL) rm (PcM (.ref b :: As) H.size D tys wx) (fun a st o t => QM (some (.int r)) D w' (va_A wx H.size) a st o t ∧ narrow ret (.int r) = .int r) 0 0 (va_A wx H.size))
    (hg : GoodIn TBL (wsV own idx C y (.code y bytes maxL (some ret) :: TBL))) (hd : y.cls = C ∧ y.cls ≠ "java/lang/invoke/MethodHandle" ∧ y.cls ≠ "java/lang/invoke/VarHandle" ∧ (parseMethodDescriptor y.desc).map (fun d => d.parameters.length) = some As.length)
    (hR : rm.cells = 0 ∧ rm.slots = 0 ∧ rm.frames + 1 ≤ R.frames ∧ 8 + (maxL + 11) + rm.locals ≤ R.locals) (hc0 : cells ≤ R.cells ∧ slots ≤ R.slots) (hP : va_P D vwCl (wx ++ wm) H) (hD : va_D A0 (wx ++ wm)) (hS : va_S A0 H0 H locs) (hA : ∀ q : Nat, H0.size ≤ q → A0 q)
    (hwa : wx.map Prod.fst = w'.map Prod.fst) {ci : Nat} {fs : List Value} {q : vw_C} (h0 : wx[0]? = some (b, .inr (ci, fs))) (hcl : vwCl[ci]? = some q) (hqC : q.1 = C)
    (hls : ls.size = nL) (hst : st0 = As.reverse ++ .ref b :: rest) (hW : (rest.map fun v => v.category).sum ≤ 8) (hdg : decode cc pc = .ok (.invokevirtual idx, 3))
    (kk : ∀ (H1 : Heap) (locs1 : List Loc), va_P D vwCl (w' ++ wm) H1 → va_D A0 (w' ++ wm) → va_S A0 H0 H1 locs1 → W p l e R s m args below meth c H1 locs1 cells slots Q (F0 m (pc + 3) ls (.int r :: rest))) : W p l e R s m args below meth c H locs cells slots Q (F0 m pc ls st0) := by
  obtain ⟨hx, hb, hml, hown, hts, hK, hN⟩ := X
  have hDc := va_D_l hD
  have hPc := va_P_l hP
  subst hqC
  refine mcT (va_runV (As := As) (rest := rest) (cc := cc) ⟨hx, hb, hml, hown, hts⟩ hM (cwV As.length hts hg rfl hR.1 hR.2.1 hd ⟨hR.2.2.1, hR.2.2.2⟩) ⟨PcM_blind, va_recv hK hPc hcl h0, fun U hU hW => ⟨rfl, by rw [hU], by rw [hU]; exact hPc, va_K.moved hW.alike hK, NW.warm hW hN, hDc.weaken (fun _ _ _ _ => trivial)⟩⟩ rfl rfl hls hst (lv_room (rest := st0) hW) hdg hc0) hDc hS hA (fun H1 locs1 h1 hk h2 _ => ?_)
  exact kk H1 locs1 (h1.app (keepR hP hD hk)) (va_D.cong (by rw [List.map_append, List.map_append, hwa]) hD) h2
theorem muR (X : Ctx p s m args c cc nL own D tys) (As rest : List Value) (hM : Met l y (.code y bytes maxL (some ret) :: TBL) rm (PcM (.ref b :: As) H.size D tys wm) (fun a st o t => QM (some (.int r)) D w' (va_A wm H.size) a st o t ∧ narrow ret (.int r) = .int r) 0 0 (va_A wm H.size))
    (hg : GoodIn TBL (wsV own idx C y (.code y bytes maxL (some ret) :: TBL))) (hd : y.cls = C ∧ y.cls ≠ "java/lang/invoke/MethodHandle" ∧ y.cls ≠ "java/lang/invoke/VarHandle" ∧ (parseMethodDescriptor y.desc).map (fun d => d.parameters.length) = some As.length)
    (hR : rm.cells = 0 ∧ rm.slots = 0 ∧ rm.frames + 1 ≤ R.frames ∧ 8 + (maxL + 11) + rm.locals ≤ R.locals) (hc0 : cells ≤ R.cells ∧ slots ≤ R.slots) (hP : va_P D vwCl (wx ++ wm) H) (hD : va_D A0 (wx ++ wm)) (hS : va_S A0 H0 H locs) (hA : ∀ q : Nat, H0.size ≤ q → A0 q)
    (hwa : wm.map Prod.fst = w'.map Prod.fst) {ci : Nat} {fs : List Value} {q : vw_C} (h0 : wm[0]? = some (b, .inr (ci, fs))) (hcl : vwCl[ci]? = some q) (hqC : q.1 = C)
    (hls : ls.size = nL) (hst : st0 = As.reverse ++ .ref b :: rest) (hW : (rest.map fun v => v.category).sum ≤ 8) (hdg : decode cc pc = .ok (.invokevirtual idx, 3))
    (kk : ∀ (H1 : Heap) (locs1 : List Loc), va_P D vwCl (wx ++ w') H1 → va_D A0 (wx ++ w') → va_S A0 H0 H1 locs1 → W p l e R s m args below meth c H1 locs1 cells slots Q (F0 m (pc + 3) ls (.int r :: rest))) : W p l e R s m args below meth c H locs cells slots Q (F0 m pc ls st0) := by
  obtain ⟨hx, hb, hml, hown, hts, hK, hN⟩ := X
  have hDc := va_D_r hD
  have hPc := va_P_r hP
  subst hqC
  refine mcT (va_runV (As := As) (rest := rest) (cc := cc) ⟨hx, hb, hml, hown, hts⟩ hM (cwV As.length hts hg rfl hR.1 hR.2.1 hd ⟨hR.2.2.1, hR.2.2.2⟩) ⟨PcM_blind, va_recv hK hPc hcl h0, fun U hU hW => ⟨rfl, by rw [hU], by rw [hU]; exact hPc, va_K.moved hW.alike hK, NW.warm hW hN, hDc.weaken (fun _ _ _ _ => trivial)⟩⟩ rfl rfl hls hst (lv_room (rest := st0) hW) hdg hc0) hDc hS hA (fun H1 locs1 h1 hk h2 _ => ?_)
  exact kk H1 locs1 ((keepL hP hD hk).app h1) (va_D.cong (by rw [List.map_append, List.map_append, hwa]) hD) h2
theorem roR (X : Ctx p s m args c cc nL own D tys) (As rest : List Value) (hM : Met l y (.code y bytes maxL (some ret) :: TBL) rm (PcR (.ref b :: As) D tys wm) (vp_Si (PO ret r)) 0 0 (fun _ => False))
    (hg : GoodIn TBL (wsV own idx C y (.code y bytes maxL (some ret) :: TBL))) (hd : y.cls = C ∧ y.cls ≠ "java/lang/invoke/MethodHandle" ∧ y.cls ≠ "java/lang/invoke/VarHandle" ∧ (parseMethodDescriptor y.desc).map (fun d => d.parameters.length) = some As.length)
    (hR : rm.cells = 0 ∧ rm.slots = 0 ∧ rm.frames + 1 ≤ R.frames ∧ 8 + (maxL + 11) + rm.locals ≤ R.locals) (hc0 : cells ≤ R.cells ∧ slots ≤ R.slots) (hP : va_P D vwCl (wx ++ wm) H) {ci : Nat} {fs : List Value} {q : vw_C} (h0 : wm[0]? = some (b, .inr (ci, fs))) (hcl : vwCl[ci]? = some q) (hqC : q.1 = C)
    (hls : ls.size = nL) (hst : st0 = As.reverse ++ .ref b :: rest) (hW : (rest.map fun v => v.category).sum ≤ 8) (hdg : decode cc pc = .ok (.invokevirtual idx, 3))
    (kk : W p l e R s m args below meth c H locs cells slots Q (F0 m (pc + 3) ls (.int r :: rest))) : W p l e R s m args below meth c H locs cells slots Q (F0 m pc ls st0) := by
  obtain ⟨hx, hb, hml, hown, hts, hK, hN⟩ := X
  have hPc := va_P_r hP
  subst hqC
  refine rcS (va_runV (As := As) (rest := rest) (cc := cc) ⟨hx, hb, hml, hown, hts⟩ hM (cwV As.length hts hg rfl hR.1 hR.2.1 hd ⟨hR.2.2.1, hR.2.2.2⟩) ⟨PcR_blind, va_recv hK hPc hcl h0, fun U hU hW => ⟨rfl, by rw [hU]; exact hPc, va_K.moved hW.alike hK, NW.warm hW hN⟩⟩ rfl rfl hls hst (lv_room (rest := st0) hW) hdg hc0) (fun r' hr' => ?_)
  obtain ⟨e1, e2⟩ := hr'
  subst e1
  exact kk
end TWO
theorem nest_tab : ∀ w ∈ nestWs, w.onTables = true := by
  have hn : nestWs.all isNest = true := by decide +kernel
  intro w hw
  have h2 := List.all_eq_true.mp hn w hw
  cases w <;> first | rfl | (simp [isNest] at h2)

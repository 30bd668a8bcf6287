/-! ===== constructors: contracts and calls; cells come ===== -/
def QC (B : Heap → Prop) (A : Nat → Prop) : Array Value → State → Outcome → State → Prop := fun _ st o t => o = .returned none ∧ B t.heap ∧ va_F A st t
abbrev RC (f c n l : Nat) : Room := { frames := f, cells := c, slots := n, locals := l }
theorem cA_eq {D : va_G} {cl : List vw_C} {s : State} {tys : List (ClassId × FieldType)} {cA cB : ClassId} {ty : FieldType} (hty : ∀ C, ty ≠ .object C) (h : va_K D cl (tys ++ [(cA, ty)]) s) (k : Nat) (hk : tys[k]? = some (cB, ty)) : cA = cB := by
  have h1 := (h.2 tys.length (cA, ty) (by rw [List.getElem?_append_right (Nat.le_refl _), Nat.sub_self]; rfl)).2
  have hl : k < tys.length := (List.getElem?_eq_some_iff.mp hk).1
  have h2 := (h.2 k (cB, ty) (by rw [List.getElem?_append_left hl]; exact hk)).2
  cases ty with
  | object C => exact absurd rfl (hty C)
  | _ => exact Option.some.inj (h1.symm.trans h2)
theorem va_K.left {D : va_G} {cl : List vw_C} {s : State} {t1 t2 : List (ClassId × FieldType)} (h : va_K D cl (t1 ++ t2) s) : va_K D cl t1 s := ⟨h.1, fun k q hk => h.2 k q (by rw [List.getElem?_append_left (List.getElem?_eq_some_iff.mp hk).1]; exact hk)⟩
theorem ctOf {l : Launch} {y : MethodName} {cc : ByteArray} {nL : Nat} {rm : Room} {av : List Value} {sz mc ms : Nat} {D : va_G} {tys : List (ClassId × FieldType)} {ws : va_W} {B : (Nat → Prop) → Heap → Prop} {lv0 : List (Nat × Value)}
    (hy : plainName y.cls = true) (hav : (lg_sl av).length ≤ nL) (hlv : lv_args 0 av = lv0) (hyn : y.name = "<init>")
    (body : ∀ (p : Program) (e : Env) (s : State) (m : MethodId) (args : Array Value) (below : List Frame) (meth : Method) (c : Code) (Q : State → Prop) (ls : Array Slot) (A : Nat → Prop), Ctx p s m args c cc nL y.cls D tys → meth.name = "<init>" → va_P D vwCl ws s.heap → va_D A ws → va_S A s.heap s.heap [] → (∀ q : Nat, s.heap.size ≤ q → A q) → lv_has ls nL lv0 →
      (∀ (H : Heap) (locs : List Loc) (pc : Nat) (ls : Array Slot), B A H → va_S A s.heap H locs → decode cc pc = .ok (.return_, 1) → W p l e rm s m args below meth c H locs mc ms Q (F0 m pc ls [])) →
      W p l e rm s m args below meth c s.heap [] 0 0 Q (F0 m 0 ls [])) :
    Met l y (.code y cc nL none :: TBL) rm (PcM av sz D tys ws) (QC (B (va_A ws sz)) (va_A ws sz)) mc ms (va_A ws sz) := by
  refine Met.ofW (cc := cc) (maxL := nL) (ret := none) hy rfl ?_
  intro p e s m args below meth c s₁ Bd hml hv
  obtain ⟨rfl, hsz, hP, hK, hN, hD⟩ := hv
  subst hsz
  have hts := atoms_spec (ws := .code y cc nL none :: TBL) Bd.pre
  have hin : meth.name = "<init>" := (name_of_methodNamed Bd.named Bd.method).1.trans hyn
  rw [lg_entry_eq]
  have hl := lv_entry av (n := nL) hav
  rw [hlv] at hl
  refine body p e s m av.toArray below meth c _ _ (va_A ws s.heap.size) ⟨Bd.exec, Bd.bytes, hml, findClass_of_methodNamed Bd.named, fun w hw => hts w (List.mem_cons_of_mem _ hw), hK, hN⟩ hin hP (hD.self (sz := s.heap.size)) va_S.rf (fun q h => Or.inr h) hl ?_
  intro H locs pc ls hB hS hd
  exact W.vret Bd.exec Bd.bytes Bd.returns (fun t ht _ => ⟨rfl, by rw [ht]; exact hB, hS.F ht⟩) hS.2.2 hd Bd.notSynchronized
section CT
variable {p : Program} {l : Launch} {e : Env} {R : Room} {s : State} {m : MethodId} {args : Array Value} {below : List Frame} {meth : Method} {c : Code} {H : Heap} {locs : List Loc} {cells slots : Nat} {Q : State → Prop}
variable {cc bytes : ByteArray} {nL maxL idx n pc mc ms : Nat} {own C : String} {y : MethodName} {rm : Room} {D : va_G} {tys : List (ClassId × FieldType)} {ws wc : va_W} {ls : Array Slot} {st0 : List Value} {b : Nat}
theorem ctC {A0 : Nat → Prop} {H0 : Heap} {B : Heap → Prop} (X : Ctx p s m args c cc nL own D tys) (As rest : List Value) (hM : Met l y (.code y bytes maxL none :: TBL) rm (PcM (.ref b :: As) H.size D tys wc) (QC B (va_A wc H.size)) mc ms (va_A wc H.size))
    (h5 : Cond.code y bytes maxL none ∈ TBL) (hini : Cond.initialized y.cls ∈ TBL) (hl : Cond.methodLink own idx y ∈ TBL) (hin : Cond.instanceMethod y ∈ TBL) (hy1 : y.name = "<init>") (hd : y.cls ≠ "java/lang/invoke/MethodHandle" ∧ y.cls ≠ "java/lang/invoke/VarHandle" ∧ (parseMethodDescriptor y.desc).map (fun d => d.parameters.length) = some As.length)
    (hR : rm.cells = mc ∧ rm.slots = ms ∧ rm.frames + 1 ≤ R.frames ∧ 8 + (maxL + 11) + rm.locals ≤ R.locals) (hc0 : cells + mc ≤ R.cells ∧ slots + ms ≤ R.slots) (hP : va_P D vwCl ws H) (hD : va_D A0 ws) (hS : va_S A0 H0 H locs) (hA : ∀ q : Nat, H0.size ≤ q → A0 q) (isC isR : List Nat) (hC : isC.map (fun i => ws[i]?) = wc.map some) (hRl : (isR.all fun i => decide (i < ws.length)) = true) (hn : (va_nd isR && va_nd isC) = true) (hdis : ∀ i ∈ isR, i ∉ isC)
    (hls : ls.size = nL) (hst : st0 = As.reverse ++ .ref b :: rest) (hW : (rest.map fun v => v.category).sum ≤ 8) (hdg : decode cc pc = .ok (.invokespecial idx, 3))
    (kk : ∀ (H1 : Heap) (locs1 : List Loc), B H1 → (∀ w1 : va_W, va_P D vwCl w1 H1 → va_D (va_A wc H.size) w1 → va_P D vwCl (pickL ws isR ++ w1) H1 ∧ va_D A0 (pickL ws isR ++ w1)) → va_S A0 H0 H1 locs1 → W p l e R s m args below meth c H1 locs1 (cells + mc) (slots + ms) Q (F0 m (pc + 3) ls rest)) : W p l e R s m args below meth c H locs cells slots Q (F0 m pc ls st0) := by
  obtain ⟨hx, hb, hml, hown, hts, hK, hN⟩ := X
  simp only [Bool.and_eq_true] at hn
  have hDc : va_D A0 wc := hD.sub isC hn.2 hC
  have hPc : va_P D vwCl wc H := fun k q hk => by
    have h1 : (isC.map (fun i => ws[i]?))[k]? = some (some q) := by rw [hC, List.getElem?_map, hk]; rfl
    rw [List.getElem?_map] at h1
    cases hi : isC[k]? with
    | none => rw [hi] at h1; cases h1
    | some i => rw [hi] at h1; exact hP i q (Option.some.inj h1)
  have hFc := va_free (wc := wc) hD hS hA isC hC
  have hr := va_runI (As := As) (rest := rest) (cc := cc) (g := F0 m pc ls st0) (locs := locs) (cells := cells) (slots := slots) (e := e) (below := below) (meth := meth) (R := R) ⟨hx, hb, hml, hown, hts⟩ hM (cwI As.length hts (gI h5) rfl hR.1 hR.2.1 (hts _ hini) (hts _ hl) (hts _ hin) hy1 hd ⟨hR.2.2.1, hR.2.2.2⟩) ⟨PcM_blind, fun U hU hW => ⟨rfl, by rw [hU], by rw [hU]; exact hPc, va_K.moved hW.alike hK, NW.warm hW hN, hDc.weaken (fun _ _ _ _ => trivial)⟩⟩ rfl rfl hls hst (lv_room (rest := st0) hW) hdg hc0
  intro T hT X
  obtain ⟨v, st₀, t, T', L, h0, X', hL, e1, e2, ⟨hv, hB, hz, hk⟩, st⟩ := hr T hT X
  cases hv
  rw [h0] at hz hk
  obtain ⟨t2, a1, b1⟩ := kk T'.heap (locs ++ L) (by rw [e1]; exact hB) (fun w1 hP1 hD1 => by
      rw [e1] at hP1 ⊢
      exact va_join (wr := pickL ws isR) (w1 := w1) hP hD isC isR hC (pickL_map hRl) hn.1 hdis (H1 := t.heap) hk hFc hP1 hD1)
    ⟨Nat.le_trans hS.1 (by rw [e1]; exact hz), fun q h1 h2 => by rw [e1, hk q (Nat.lt_of_lt_of_le h1 hS.1) (fun z => h2 (hFc q z))]; exact hS.2.1 q h1 h2, fun q hq => by
      rcases List.mem_append.mp hq with h | h
      · exact hS.2.2 q h
      · exact hFc _ (hL q h)⟩ T' rfl X'
  exact ⟨t2, st t2 a1, b1⟩
end CT

/-! ===== the words that every contract carries; the worlds' shapes; contracts of two kinds (reading, changing); calls ===== -/
abbrev TBL : List Cond := wsL_law
theorem TBL_good : ∀ w ∈ TBL, (w.onTables && w.keeps) = true ∨ ∃ ty, w = .arrayClass ty := by
  have h : TBL.all goodWord = true := by decide +kernel
  exact fun w hw => good_of_word (List.all_eq_true.mp h w hw)
def isNest : Cond → Bool
  | .fieldLinkNest .. => true
  | .methodLinkNest .. => true
  | _ => false
def NW (U : State) : Prop := ∀ w ∈ nestWs, va_Nw w U
theorem NW.warm {s U : State} (hW : s.WarmedH U.vm) (h : NW s) : NW U := by
  have hn : nestWs.all isNest = true := by decide +kernel
  intro w hw
  have h1 := h w hw
  have h2 := List.all_eq_true.mp hn w hw
  cases w <;> first | exact va_Nw.warmF hW h1 | exact va_Nw.warmM hW h1 | (simp [isNest] at h2)
theorem NW.vm {u U : State} (e : u.vm = U.vm) (h : NW u) : NW U := by
  have hn : nestWs.all isNest = true := by decide +kernel
  intro w hw
  have h1 := h w hw
  have h2 := List.all_eq_true.mp hn w hw
  cases w <;> first | exact va_Nw.same rfl e h1 | (simp [isNest] at h2)
abbrev TY (cC cI cZ : ClassId) : List (ClassId × FieldType) := [(cC, .char), (cI, .int), (cZ, .boolean)]
def PcR (av : List Value) (D : va_G) (tys : List (ClassId × FieldType)) (ws : va_W) : Array Value → State → Prop := va_Pc av (fun U => va_P D vwCl ws U.heap ∧ va_K D vwCl tys U ∧ NW U)
def PO (ret : FieldType) (R : Int32) : Int32 → Prop := fun r => r = R ∧ narrow ret (.int r) = .int r
def PcM (av : List Value) (sz : Nat) (D : va_G) (tys : List (ClassId × FieldType)) (ws : va_W) : Array Value → State → Prop := va_Pc av (fun U => U.heap.size = sz ∧ va_P D vwCl ws U.heap ∧ va_K D vwCl tys U ∧ NW U ∧ va_D (fun _ => True) ws)
def QM (ov : Option Value) (D : va_G) (ws' : va_W) (A : Nat → Prop) : Array Value → State → Outcome → State → Prop := fun _ st o t => o = .returned ov ∧ va_P D vwCl ws' t.heap ∧ va_F A st t
theorem PcR_blind {av : List Value} {D : va_G} {tys : List (ClassId × FieldType)} {ws : va_W} : FrameBlind (PcR av D tys ws) := fun a U g mk q => by
  obtain ⟨q0, qP, qK, qN⟩ := q
  exact ⟨q0, qP, va_K.moved (u := U) (U := U.calling g mk a) (Vm.Alike.refl U.vm) qK, NW.vm (u := U) rfl qN⟩
theorem PcM_blind {av : List Value} {sz : Nat} {D : va_G} {tys : List (ClassId × FieldType)} {ws : va_W} : FrameBlind (PcM av sz D tys ws) := fun a U g mk q => by
  obtain ⟨q0, qz, qP, qK, qN, qD⟩ := q
  exact ⟨q0, qz, qP, va_K.moved (u := U) (U := U.calling g mk a) (Vm.Alike.refl U.vm) qK, NW.vm (u := U) rfl qN, qD⟩
/-- what a body may use: the machine, its code, its class, the words, the classes, the nest's words -/
def Ctx (p : Program) (s : State) (m : MethodId) (args : Array Value) (c : Code) (cc : ByteArray) (nL : Nat) (own : String) (D : va_G) (tys : List (ClassId × FieldType)) : Prop :=
  p.tables.exec = Jvm.exec ∧ c.code = cc ∧ c.maxLocals = nL ∧ s.vm.findClass own = some m.cls ∧ (∀ w ∈ TBL, w.before args s = true) ∧ va_K D vwCl tys s ∧ NW s
theorem roOf {l : Launch} {y : MethodName} {cc : ByteArray} {nL : Nat} {ret : FieldType} {rm : Room} {av : List Value} {D : va_G} {tys : List (ClassId × FieldType)} {ws : va_W} {R : Int32} {lv0 : List (Nat × Value)}
    (hy : plainName y.cls = true) (hav : (lg_sl av).length ≤ nL) (hlv : lv_args 0 av = lv0)
    (body : ∀ (p : Program) (e : Env) (s : State) (m : MethodId) (args : Array Value) (below : List Frame) (meth : Method) (c : Code) (Q : State → Prop) (ls : Array Slot), Ctx p s m args c cc nL y.cls D tys → va_P D vwCl ws s.heap → lv_has ls nL lv0 →
      (∀ (pc : Nat) (ls : Array Slot) (v : Int32), decode cc pc = .ok (.ireturn, 1) → v = R → narrow ret (.int v) = .int v → W p l e rm s m args below meth c s.heap [] 0 0 Q (F0 m pc ls [.int v])) →
      W p l e rm s m args below meth c s.heap [] 0 0 Q (F0 m 0 ls [])) :
    Met l y (.code y cc nL (some ret) :: TBL) rm (PcR av D tys ws) (vp_Si (PO ret R)) 0 0 (fun _ => False) := by
  refine Met.ofW (cc := cc) (maxL := nL) (ret := some ret) hy rfl ?_
  intro p e s m args below meth c s₁ B hml hv
  obtain ⟨rfl, hP, hK, hN⟩ := hv
  have hts := atoms_spec (ws := .code y cc nL (some ret) :: TBL) B.pre
  rw [lg_entry_eq]
  have hl := lv_entry av (n := nL) hav
  rw [hlv] at hl
  exact body p e s m av.toArray below meth c _ _ ⟨B.exec, B.bytes, hml, findClass_of_methodNamed B.named, fun w hw => hts w (List.mem_cons_of_mem _ hw), hK, hN⟩ hP hl
    (fun pc ls v hd hp hn => W.zret B.exec B.bytes B.returns hn (fun t ht _ => ⟨v, rfl, ⟨hp, hn⟩, ht⟩) (fun q h => by cases h) hd B.notSynchronized)
theorem muOf {l : Launch} {y : MethodName} {cc : ByteArray} {nL : Nat} {ret : FieldType} {rm : Room} {av : List Value} {sz : Nat} {D : va_G} {tys : List (ClassId × FieldType)} {ws ws' : va_W} {R : Int32} {lv0 : List (Nat × Value)}
    (hy : plainName y.cls = true) (hav : (lg_sl av).length ≤ nL) (hlv : lv_args 0 av = lv0)
    (body : ∀ (p : Program) (e : Env) (s : State) (m : MethodId) (args : Array Value) (below : List Frame) (meth : Method) (c : Code) (Q : State → Prop) (ls : Array Slot) (A : Nat → Prop), Ctx p s m args c cc nL y.cls D tys → va_P D vwCl ws s.heap → va_D A ws → va_S A s.heap s.heap [] → (∀ q : Nat, s.heap.size ≤ q → A q) → lv_has ls nL lv0 →
      (∀ (H : Heap) (locs : List Loc) (pc : Nat) (ls : Array Slot) (v : Int32), va_P D vwCl ws' H → va_S A s.heap H locs → decode cc pc = .ok (.ireturn, 1) → v = R → narrow ret (.int v) = .int v → W p l e rm s m args below meth c H locs 0 0 Q (F0 m pc ls [.int v])) →
      W p l e rm s m args below meth c s.heap [] 0 0 Q (F0 m 0 ls [])) :
    Met l y (.code y cc nL (some ret) :: TBL) rm (PcM av sz D tys ws) (fun a st o t => QM (some (.int R)) D ws' (va_A ws sz) a st o t ∧ narrow ret (.int R) = .int R) 0 0 (va_A ws sz) := by
  refine Met.ofW (cc := cc) (maxL := nL) (ret := some ret) hy rfl ?_
  intro p e s m args below meth c s₁ B hml hv
  obtain ⟨rfl, hsz, hP, hK, hN, hD⟩ := hv
  subst hsz
  have hts := atoms_spec (ws := .code y cc nL (some ret) :: TBL) B.pre
  rw [lg_entry_eq]
  have hl := lv_entry av (n := nL) hav
  rw [hlv] at hl
  refine body p e s m av.toArray below meth c _ _ (va_A ws s.heap.size) ⟨B.exec, B.bytes, hml, findClass_of_methodNamed B.named, fun w hw => hts w (List.mem_cons_of_mem _ hw), hK, hN⟩ hP (hD.self (sz := s.heap.size)) va_S.rf (fun q h => Or.inr h) hl ?_
  intro H locs pc ls v hP' hS hd hv hn
  subst hv
  exact W.zret B.exec B.bytes B.returns hn (fun t ht _ => ⟨⟨rfl, by rw [ht]; exact hP', hS.F ht⟩, hn⟩) hS.2.2 hd B.notSynchronized
theorem muOfV {l : Launch} {y : MethodName} {cc : ByteArray} {nL : Nat} {rm : Room} {av : List Value} {sz : Nat} {D : va_G} {tys : List (ClassId × FieldType)} {ws ws' : va_W} {lv0 : List (Nat × Value)}
    (hy : plainName y.cls = true) (hav : (lg_sl av).length ≤ nL) (hlv : lv_args 0 av = lv0)
    (body : ∀ (p : Program) (e : Env) (s : State) (m : MethodId) (args : Array Value) (below : List Frame) (meth : Method) (c : Code) (Q : State → Prop) (ls : Array Slot) (A : Nat → Prop), Ctx p s m args c cc nL y.cls D tys → va_P D vwCl ws s.heap → va_D A ws → va_S A s.heap s.heap [] → (∀ q : Nat, s.heap.size ≤ q → A q) → lv_has ls nL lv0 →
      (∀ (H : Heap) (locs : List Loc) (pc : Nat) (ls : Array Slot), va_P D vwCl ws' H → va_S A s.heap H locs → decode cc pc = .ok (.return_, 1) → W p l e rm s m args below meth c H locs 0 0 Q (F0 m pc ls [])) →
      W p l e rm s m args below meth c s.heap [] 0 0 Q (F0 m 0 ls [])) :
    Met l y (.code y cc nL none :: TBL) rm (PcM av sz D tys ws) (QM none D ws' (va_A ws sz)) 0 0 (va_A ws sz) := by
  refine Met.ofW (cc := cc) (maxL := nL) (ret := none) hy rfl ?_
  intro p e s m args below meth c s₁ B hml hv
  obtain ⟨rfl, hsz, hP, hK, hN, hD⟩ := hv
  subst hsz
  have hts := atoms_spec (ws := .code y cc nL none :: TBL) B.pre
  rw [lg_entry_eq]
  have hl := lv_entry av (n := nL) hav
  rw [hlv] at hl
  refine body p e s m av.toArray below meth c _ _ (va_A ws s.heap.size) ⟨B.exec, B.bytes, hml, findClass_of_methodNamed B.named, fun w hw => hts w (List.mem_cons_of_mem _ hw), hK, hN⟩ hP (hD.self (sz := s.heap.size)) va_S.rf (fun q h => Or.inr h) hl ?_
  intro H locs pc ls hP' hS hd
  exact W.vret B.exec B.bytes B.returns (fun t ht _ => ⟨rfl, by rw [ht]; exact hP', hS.F ht⟩) hS.2.2 hd B.notSynchronized
/-! words of calls -/
theorem gI {y : MethodName} {bytes : ByteArray} {maxL : Nat} {ret : Option FieldType} (h5 : Cond.code y bytes maxL ret ∈ TBL) : GoodIn TBL (.code y bytes maxL ret :: TBL) := by
  intro w hw
  rcases List.mem_cons.mp hw with h | h
  · subst h; exact ⟨h5, TBL_good _ h5⟩
  · exact ⟨h, TBL_good _ h⟩
theorem gV {own C : String} {idx : Nat} {y : MethodName} {bytes : ByteArray} {maxL : Nat} {ret : Option FieldType} (h1 : Cond.methodLink own idx y ∈ TBL) (h2 : Cond.instanceMethod y ∈ TBL) (h3 : Cond.selects C y y ∈ TBL) (h4 : Cond.initialized C ∈ TBL) (h5 : Cond.code y bytes maxL ret ∈ TBL) : GoodIn TBL (wsV own idx C y (.code y bytes maxL ret :: TBL)) := by
  intro w hw
  rcases List.mem_append.mp hw with h | h
  · simp only [List.mem_cons, List.not_mem_nil, or_false] at h
    rcases h with h | h | h | h <;> subst h
    · exact ⟨h1, TBL_good _ h1⟩
    · exact ⟨h2, TBL_good _ h2⟩
    · exact ⟨h3, TBL_good _ h3⟩
    · exact ⟨h4, TBL_good _ h4⟩
  · exact gI h5 w h
theorem gS {own : String} {idx : Nat} {y : MethodName} {bytes : ByteArray} {maxL : Nat} {ret : Option FieldType} (h1 : Cond.methodLink own idx y ∈ TBL) (h2 : Cond.static y ∈ TBL) (h4 : Cond.initialized y.cls ∈ TBL) (h5 : Cond.code y bytes maxL ret ∈ TBL) : GoodIn TBL (va_wsS own idx y (.code y bytes maxL ret :: TBL)) := by
  intro w hw
  rcases List.mem_append.mp hw with h | h
  · simp only [List.mem_cons, List.not_mem_nil, or_false] at h
    rcases h with h | h | h <;> subst h
    · exact ⟨h1, TBL_good _ h1⟩
    · exact ⟨h2, TBL_good _ h2⟩
    · exact ⟨h4, TBL_good _ h4⟩
  · exact gI h5 w h
/-! pure rows that go with the denotations -/
theorem ip {α : Type} {c : Prop} {inst : Decidable c} {a b y : α} (hc : c) (h : (if c then a else b) = y) : a = y := (if_pos hc).symm.trans h
theorem im {α : Type} {c : Prop} {inst : Decidable c} {a b y : α} (hc : ¬ c) (h : (if c then a else b) = y) : b = y := (if_neg hc).symm.trans h
theorem gd {α : Type} {b : Bool} {x : Option α} {y : α} (h : (if b = true then x else none) = some y) : b = true ∧ x = some y := by
  cases b
  · simp at h
  · exact ⟨rfl, h⟩
theorem bd {α β : Type} {x : Option α} {k : α → Option β} {y : β} (h : x.bind k = some y) : ∃ z, x = some z ∧ k z = some y := by
  cases x with
  | none => cases h
  | some z => exact ⟨z, rfl, h⟩
def inB (i : Int32) (n : Nat) : Bool := decide (¬ (i < 0 ∨ n ≤ i.toNatClampNeg))
theorem inB_in {i : Int32} {n : Nat} (h : inB i n = true) : vp_in i n := (of_decide_eq_true h : ¬ (i < 0 ∨ n ≤ i.toNatClampNeg))
def nz (y : Int32) : Bool := decide (¬ y = 0)
theorem nz_ne {y : Int32} (h : nz y = true) : ¬ y = 0 := of_decide_eq_true h
def nzL (y : Int64) : Bool := decide (¬ y = 0)
theorem nzL_ne {y : Int64} (h : nzL y = true) : ¬ y = 0 := of_decide_eq_true h
def okC (v : Int32) : Bool := decide (v.toUInt32.toUInt16.toUInt32.toInt32 = v)
theorem okC_n {v : Int32} (h : okC v = true) : narrow .char (.int v) = .int v := by
  have h1 : v.toUInt32.toUInt16.toUInt32.toInt32 = v := of_decide_eq_true h
  have h2 := vp_nar_char v
  rw [h1] at h2
  unfold vp_nar at h2
  cases hq : narrow .char (.int v) with
  | int z => rw [hq] at h2; simp only at h2; rw [h2]
  | _ => simp [narrow] at hq
def fu : Nat := 256
abbrev RM (f l : Nat) : Room := { frames := f, cells := 0, slots := 0, locals := l }
theorem va_D.cong {A : Nat → Prop} {ws ws' : va_W} (h : ws.map Prod.fst = ws'.map Prod.fst) (hD : va_D A ws) : va_D A ws' := by
  have key : ∀ (k : Nat) (q : Nat × va_E), ws'[k]? = some q → ∃ q0, ws[k]? = some q0 ∧ q0.1 = q.1 := by
    intro k q hk
    have h1 : (ws'.map Prod.fst)[k]? = some q.1 := by rw [List.getElem?_map, hk]; rfl
    rw [← h, List.getElem?_map] at h1
    cases hq : ws[k]? with
    | none => rw [hq] at h1; cases h1
    | some q0 => rw [hq] at h1; exact ⟨q0, rfl, Option.some.inj h1⟩
  refine ⟨fun i j x y hi hj hxy => ?_, fun k q hk => ?_⟩
  · obtain ⟨x0, a1, a2⟩ := key i x hi
    obtain ⟨y0, b1, b2⟩ := key j y hj
    exact hD.1 i j x0 y0 a1 b1 (a2.trans (hxy.trans b2.symm))
  · obtain ⟨q0, a1, a2⟩ := key k q hk
    rw [← a2]; exact hD.2 k q0 a1
def pickL (ws : va_W) (is : List Nat) : va_W := is.filterMap (fun i => ws[i]?)
theorem pickL_map {ws : va_W} : ∀ {is : List Nat}, (is.all fun i => decide (i < ws.length)) = true → is.map (fun i => ws[i]?) = (pickL ws is).map some
  | [], _ => rfl
  | i :: is, h => by
    simp only [List.all_cons, Bool.and_eq_true, decide_eq_true_eq] at h
    have ih := pickL_map (ws := ws) (is := is) h.2
    simp only [pickL, List.map_cons, List.filterMap_cons, List.getElem?_eq_getElem h.1] at ih ⊢
    rw [ih]
section CALLS
variable {p : Program} {l : Launch} {e : Env} {R : Room} {s : State} {m : MethodId} {args : Array Value} {below : List Frame} {meth : Method} {c : Code} {H : Heap} {locs : List Loc} {cells slots : Nat} {Q : State → Prop}
variable {cc bytes : ByteArray} {nL maxL idx n pc : Nat} {own C : String} {y : MethodName} {ret : FieldType} {rm : Room} {D : va_G} {tys : List (ClassId × FieldType)} {ws wc wc' ws' : va_W} {ls : Array Slot} {st0 : List Value} {b : Nat} {r : Int32}
theorem rcS {post : Int32 → Prop} {a : Array Value} {rest : List Value} (hr : va_Run p l e R s m args below meth c H locs cells slots 0 0 (F0 m pc ls st0) rest (vp_Si post a) (fun _ => False))
    (kk : ∀ r : Int32, post r → W p l e R s m args below meth c H locs cells slots Q (F0 m (pc + 3) ls (.int r :: rest))) : W p l e R s m args below meth c H locs cells slots Q (F0 m pc ls st0) := by
  intro T hT X
  obtain ⟨v, st₀, t, T', L, h0, X', hL, e1, e2, ⟨r, hv, hp, hh⟩, st⟩ := hr T hT X
  cases hv
  obtain ⟨t2, a1, b1⟩ := kk r hp T' (by rw [e1, hh, h0]) (Stand.forget X' (fun q h => (hL q h).elim))
  exact ⟨t2, st t2 a1, b1⟩
/-- a reading method of an object -/
theorem roV (X : Ctx p s m args c cc nL own D tys) (As rest : List Value) (hM : Met l y (.code y bytes maxL (some ret) :: TBL) rm (PcR (.ref b :: As) D tys wc) (vp_Si (PO ret r)) 0 0 (fun _ => False))
    (hg : GoodIn TBL (wsV own idx C y (.code y bytes maxL (some ret) :: TBL))) (hd : y.cls = C ∧ y.cls ≠ "java/lang/invoke/MethodHandle" ∧ y.cls ≠ "java/lang/invoke/VarHandle" ∧ (parseMethodDescriptor y.desc).map (fun d => d.parameters.length) = some As.length)
    (hR : rm.cells = 0 ∧ rm.slots = 0 ∧ rm.frames + 1 ≤ R.frames ∧ 8 + (maxL + 11) + rm.locals ≤ R.locals) (hc0 : cells ≤ R.cells ∧ slots ≤ R.slots) (hP : va_P D vwCl ws H) (is : List Nat) (hs : is.filterMap (fun i => ws[i]?) = wc) {ci : Nat} {fs : List Value} {q : vw_C} (h0 : wc[0]? = some (b, .inr (ci, fs))) (hcl : vwCl[ci]? = some q) (hqC : q.1 = C)
    (hls : ls.size = nL) (hst : st0 = As.reverse ++ .ref b :: rest) (hW : (rest.map fun v => v.category).sum ≤ 8) (hdg : decode cc pc = .ok (.invokevirtual idx, 3))
    (kk : narrow ret (.int r) = .int r → W p l e R s m args below meth c H locs cells slots Q (F0 m (pc + 3) ls (.int r :: rest))) : W p l e R s m args below meth c H locs cells slots Q (F0 m pc ls st0) := by
  obtain ⟨hx, hb, hml, hown, hts, hK, hN⟩ := X
  have hPc := hP.sub is hs
  subst hqC
  refine rcS (va_runV (As := As) (rest := rest) (cc := cc) ⟨hx, hb, hml, hown, hts⟩ hM (cwV As.length hts hg rfl hR.1 hR.2.1 hd ⟨hR.2.2.1, hR.2.2.2⟩) ⟨PcR_blind, va_recv hK hPc hcl h0, fun U hU hW => ⟨rfl, by rw [hU]; exact hPc, va_K.moved hW.alike hK, NW.warm hW hN⟩⟩ rfl rfl hls hst (lv_room (rest := st0) hW) hdg hc0) (fun r' hr' => ?_)
  obtain ⟨e1, e2⟩ := hr'
  subst e1
  exact kk e2
/-- a reading static method of the own class -/
theorem roS (X : Ctx p s m args c cc nL own D tys) (As rest : List Value) (hM : Met l y (.code y bytes maxL (some ret) :: TBL) rm (PcR As D tys wc) (vp_Si (PO ret r)) 0 0 (fun _ => False))
    (hg : GoodIn TBL (va_wsS own idx y (.code y bytes maxL (some ret) :: TBL))) (hd : y.cls ≠ "java/lang/invoke/MethodHandle" ∧ y.cls ≠ "java/lang/invoke/VarHandle" ∧ (parseMethodDescriptor y.desc).map (fun d => d.parameters.length) = some As.length)
    (hR : rm.cells = 0 ∧ rm.slots = 0 ∧ rm.frames + 1 ≤ R.frames ∧ 8 + (maxL + 11) + rm.locals ≤ R.locals) (hc0 : cells ≤ R.cells ∧ slots ≤ R.slots) (hP : va_P D vwCl ws H) (is : List Nat) (hs : is.filterMap (fun i => ws[i]?) = wc)
    (hls : ls.size = nL) (hst : st0 = As.reverse ++ rest) (hW : (rest.map fun v => v.category).sum ≤ 8) (hdg : decode cc pc = .ok (.invokestatic idx, 3))
    (kk : narrow ret (.int r) = .int r → W p l e R s m args below meth c H locs cells slots Q (F0 m (pc + 3) ls (.int r :: rest))) : W p l e R s m args below meth c H locs cells slots Q (F0 m pc ls st0) := by
  obtain ⟨hx, hb, hml, hown, hts, hK, hN⟩ := X
  have hPc := hP.sub is hs
  refine rcS (va_runS (As := As) (rest := rest) (cc := cc) ⟨hx, hb, hml, hown, hts⟩ hM (va_cwS As.length hts hg rfl hR.1 hR.2.1 hd ⟨hR.2.2.1, hR.2.2.2⟩) ⟨PcR_blind, fun U hU hW => ⟨rfl, by rw [hU]; exact hPc, va_K.moved hW.alike hK, NW.warm hW hN⟩⟩ rfl rfl hls hst (lv_room (rest := st0) hW) hdg hc0) (fun r' hr' => ?_)
  obtain ⟨e1, e2⟩ := hr'
  subst e1
  exact kk e2
/-- a reading static method of a nest mate, or of the JDK (see roS): the link's word is a nest's word -/
theorem roSN {host : String} (X : Ctx p s m args c cc nL own D tys) (As rest : List Value) (hM : Met l y (.code y bytes maxL (some ret) :: TBL) rm (PcR As D tys wc) (vp_Si (PO ret r)) 0 0 (fun _ => False))
    (hg : Cond.code y bytes maxL (some ret) ∈ TBL) (hl : Cond.methodLinkNest own idx y host ∈ nestWs) (hi : Cond.initialized y.cls ∈ TBL) (hst' : Cond.static y ∈ TBL) (hd : y.cls ≠ "java/lang/invoke/MethodHandle" ∧ y.cls ≠ "java/lang/invoke/VarHandle" ∧ (parseMethodDescriptor y.desc).map (fun d => d.parameters.length) = some As.length)
    (hR : rm.cells = 0 ∧ rm.slots = 0 ∧ rm.frames + 1 ≤ R.frames ∧ 8 + (maxL + 11) + rm.locals ≤ R.locals) (hc0 : cells ≤ R.cells ∧ slots ≤ R.slots) (hP : va_P D vwCl ws H) (is : List Nat) (hs : is.filterMap (fun i => ws[i]?) = wc)
    (hls : ls.size = nL) (hst : st0 = As.reverse ++ rest) (hW : (rest.map fun v => v.category).sum ≤ 8) (hdg : decode cc pc = .ok (.invokestatic idx, 3))
    (kk : narrow ret (.int r) = .int r → W p l e R s m args below meth c H locs cells slots Q (F0 m (pc + 3) ls (.int r :: rest))) : W p l e R s m args below meth c H locs cells slots Q (F0 m pc ls st0) := by
  obtain ⟨hx, hb, hml, hown, hts, hK, hN⟩ := X
  have hPc := hP.sub is hs
  refine rcS (va_runSN (As := As) (rest := rest) (cc := cc) ⟨hx, hb, hml, hown, hts⟩ hM ⟨va_cnB As.length hts (gI hg) rfl hR.1 hR.2.1 (hN _ hl) (hts _ hi) hd ⟨hR.2.2.1, hR.2.2.2⟩, hts _ hst', trivial⟩ ⟨PcR_blind, fun U hU hW => ⟨rfl, by rw [hU]; exact hPc, va_K.moved hW.alike hK, NW.warm hW hN⟩⟩ rfl rfl hls hst (lv_room (rest := st0) hW) hdg hc0) (fun r' hr' => ?_)
  obtain ⟨e1, e2⟩ := hr'
  subst e1
  exact kk e2
/-- behind a changing call: the callee's cells as they became, the rest as it was -/
theorem mcJ {A0 : Nat → Prop} {ov : Option Value} {a : Array Value} {rest : List Value} {H0 : Heap} {E : Prop} (hr : va_Run p l e R s m args below meth c H locs cells slots 0 0 (F0 m pc ls st0) rest (fun st o t => QM ov D wc' (va_A wc H.size) a st o t ∧ E) (va_A wc H.size))
    (hP : va_P D vwCl ws H) (hD : va_D A0 ws) (hS : va_S A0 H0 H locs) (hA : ∀ q : Nat, H0.size ≤ q → A0 q) (isC isR perm : List Nat) (hC : isC.map (fun i => ws[i]?) = wc.map some) (hRl : (isR.all fun i => decide (i < ws.length)) = true) (hn : va_nd isR = true) (hnC : va_nd isC = true) (hdis : ∀ i ∈ isR, i ∉ isC)
    (hwa : wc.map Prod.fst = wc'.map Prod.fst) (hs : perm.map (fun i => (pickL ws isR ++ wc')[i]?) = ws'.map some) (hnp : va_nd perm = true)
    (kk : ∀ (H1 : Heap) (locs1 : List Loc), va_P D vwCl ws' H1 → va_D A0 ws' → va_S A0 H0 H1 locs1 → E → W p l e R s m args below meth c H1 locs1 cells slots Q (F0 m (pc + 3) ls (ov.toList ++ rest))) : W p l e R s m args below meth c H locs cells slots Q (F0 m pc ls st0) := by
  have hFc := va_free (wc := wc) hD hS hA isC hC
  intro T hT X
  obtain ⟨v, st₀, t, T', L, h0, X', hL, e1, e2, ⟨⟨hv, hP1, hz, hk⟩, hE⟩, st⟩ := hr T hT X
  cases hv
  rw [h0] at hz hk
  have hDc : va_D A0 wc := hD.sub isC hnC hC
  have hD1 : va_D (va_A wc H.size) wc' := va_D.cong hwa (hDc.self (sz := H.size))
  obtain ⟨hPj, hDj⟩ := va_join (wr := pickL ws isR) (w1 := wc') hP hD isC isR hC (pickL_map hRl) hn hdis (H1 := t.heap) hk hFc hP1 hD1
  have hs2 : perm.filterMap (fun i => (pickL ws isR ++ wc')[i]?) = ws' := by
    have h9 : ∀ (l1 : List Nat) (l2 : va_W), l1.map (fun i => (pickL ws isR ++ wc')[i]?) = l2.map some → l1.filterMap (fun i => (pickL ws isR ++ wc')[i]?) = l2 := by
      intro l1
      induction l1 with
      | nil => intro l2 h; cases l2 with
        | nil => rfl
        | cons x l => simp at h
      | cons i l1 ih => intro l2 h; cases l2 with
        | nil => simp at h
        | cons x l =>
          simp only [List.map_cons, List.cons.injEq] at h
          simp only [List.filterMap_cons, h.1]
          rw [ih l h.2]
    exact h9 _ _ hs
  have hPw := hPj.sub perm hs2
  have hDw := hDj.sub perm hnp hs
  obtain ⟨t2, a1, b1⟩ := kk T'.heap (locs ++ L) (by rw [e1]; exact hPw) hDw
    ⟨Nat.le_trans hS.1 (by rw [e1]; exact hz), fun q h1 h2 => by rw [e1, hk q (Nat.lt_of_lt_of_le h1 hS.1) (fun z => h2 (hFc q z))]; exact hS.2.1 q h1 h2, fun q hq => by
      rcases List.mem_append.mp hq with h | h
      · exact hS.2.2 q h
      · exact hFc _ (hL q h)⟩ hE T' rfl X'
  exact ⟨t2, st t2 a1, b1⟩
theorem QM_and {ov : Option Value} {A : Nat → Prop} {a : Array Value} {g : JFrame} {rest : List Value} {free : Addr → Prop} {mc ms : Nat} (hr : va_Run p l e R s m args below meth c H locs cells slots mc ms g rest (QM ov D wc' A a) free) : va_Run p l e R s m args below meth c H locs cells slots mc ms g rest (fun st o t => QM ov D wc' A a st o t ∧ True) free := by
  intro T hT X
  obtain ⟨v, st₀, t, T', L, h0, X', hL, e1, e2, hq, st⟩ := hr T hT X
  exact ⟨v, st₀, t, T', L, h0, X', hL, e1, e2, ⟨hq, trivial⟩, st⟩
/-- a changing method of an object, with an int answer -/
theorem muV {A0 : Nat → Prop} {H0 : Heap} (X : Ctx p s m args c cc nL own D tys) (As rest : List Value) (hM : Met l y (.code y bytes maxL (some ret) :: TBL) rm (PcM (.ref b :: As) H.size D tys wc) (fun a st o t => QM (some (.int r)) D wc' (va_A wc H.size) a st o t ∧ narrow ret (.int r) = .int r) 0 0 (va_A wc H.size))
    (hg : GoodIn TBL (wsV own idx C y (.code y bytes maxL (some ret) :: TBL))) (hd : y.cls = C ∧ y.cls ≠ "java/lang/invoke/MethodHandle" ∧ y.cls ≠ "java/lang/invoke/VarHandle" ∧ (parseMethodDescriptor y.desc).map (fun d => d.parameters.length) = some As.length)
    (hR : rm.cells = 0 ∧ rm.slots = 0 ∧ rm.frames + 1 ≤ R.frames ∧ 8 + (maxL + 11) + rm.locals ≤ R.locals) (hc0 : cells ≤ R.cells ∧ slots ≤ R.slots) (hP : va_P D vwCl ws H) (hD : va_D A0 ws) (hS : va_S A0 H0 H locs) (hA : ∀ q : Nat, H0.size ≤ q → A0 q) (isC isR perm : List Nat) (hC : isC.map (fun i => ws[i]?) = wc.map some) (hRl : (isR.all fun i => decide (i < ws.length)) = true) (hn : (va_nd isR && va_nd isC && va_nd perm) = true) (hdis : ∀ i ∈ isR, i ∉ isC)
    (hwa : wc.map Prod.fst = wc'.map Prod.fst) (hs : perm.map (fun i => (pickL ws isR ++ wc')[i]?) = ws'.map some) {ci : Nat} {fs : List Value} {q : vw_C} (h0 : wc[0]? = some (b, .inr (ci, fs))) (hcl : vwCl[ci]? = some q) (hqC : q.1 = C)
    (hls : ls.size = nL) (hst : st0 = As.reverse ++ .ref b :: rest) (hW : (rest.map fun v => v.category).sum ≤ 8) (hdg : decode cc pc = .ok (.invokevirtual idx, 3))
    (kk : ∀ (H1 : Heap) (locs1 : List Loc), va_P D vwCl ws' H1 → va_D A0 ws' → va_S A0 H0 H1 locs1 → narrow ret (.int r) = .int r → W p l e R s m args below meth c H1 locs1 cells slots Q (F0 m (pc + 3) ls (.int r :: rest))) : W p l e R s m args below meth c H locs cells slots Q (F0 m pc ls st0) := by
  obtain ⟨hx, hb, hml, hown, hts, hK, hN⟩ := X
  simp only [Bool.and_eq_true] at hn
  have hDc : va_D A0 wc := hD.sub isC hn.1.2 hC
  have hPc : va_P D vwCl wc H := fun k q hk => by
    have h1 : (isC.map (fun i => ws[i]?))[k]? = some (some q) := by rw [hC, List.getElem?_map, hk]; rfl
    rw [List.getElem?_map] at h1
    cases hi : isC[k]? with
    | none => rw [hi] at h1; cases h1
    | some i => rw [hi] at h1; exact hP i q (Option.some.inj h1)
  subst hqC
  exact mcJ (va_runV (As := As) (rest := rest) (cc := cc) ⟨hx, hb, hml, hown, hts⟩ hM (cwV As.length hts hg rfl hR.1 hR.2.1 hd ⟨hR.2.2.1, hR.2.2.2⟩) ⟨PcM_blind, va_recv hK hPc hcl h0, fun U hU hW => ⟨rfl, by rw [hU], by rw [hU]; exact hPc, va_K.moved hW.alike hK, NW.warm hW hN, hDc.weaken (fun _ _ _ _ => trivial)⟩⟩ rfl rfl hls hst (lv_room (rest := st0) hW) hdg hc0) hP hD hS hA isC isR perm hC hRl hn.1.1 hn.1.2 hdis hwa hs hn.2 kk
/-- a changing method of an object, without an answer -/
theorem muVV {A0 : Nat → Prop} {H0 : Heap} (X : Ctx p s m args c cc nL own D tys) (As rest : List Value) (hM : Met l y (.code y bytes maxL none :: TBL) rm (PcM (.ref b :: As) H.size D tys wc) (QM none D wc' (va_A wc H.size)) 0 0 (va_A wc H.size))
    (hg : GoodIn TBL (wsV own idx C y (.code y bytes maxL none :: TBL))) (hd : y.cls = C ∧ y.cls ≠ "java/lang/invoke/MethodHandle" ∧ y.cls ≠ "java/lang/invoke/VarHandle" ∧ (parseMethodDescriptor y.desc).map (fun d => d.parameters.length) = some As.length)
    (hR : rm.cells = 0 ∧ rm.slots = 0 ∧ rm.frames + 1 ≤ R.frames ∧ 8 + (maxL + 11) + rm.locals ≤ R.locals) (hc0 : cells ≤ R.cells ∧ slots ≤ R.slots) (hP : va_P D vwCl ws H) (hD : va_D A0 ws) (hS : va_S A0 H0 H locs) (hA : ∀ q : Nat, H0.size ≤ q → A0 q) (isC isR perm : List Nat) (hC : isC.map (fun i => ws[i]?) = wc.map some) (hRl : (isR.all fun i => decide (i < ws.length)) = true) (hn : (va_nd isR && va_nd isC && va_nd perm) = true) (hdis : ∀ i ∈ isR, i ∉ isC)
    (hwa : wc.map Prod.fst = wc'.map Prod.fst) (hs : perm.map (fun i => (pickL ws isR ++ wc')[i]?) = ws'.map some) {ci : Nat} {fs : List Value} {q : vw_C} (h0 : wc[0]? = some (b, .inr (ci, fs))) (hcl : vwCl[ci]? = some q) (hqC : q.1 = C)
    (hls : ls.size = nL) (hst : st0 = As.reverse ++ .ref b :: rest) (hW : (rest.map fun v => v.category).sum ≤ 8) (hdg : decode cc pc = .ok (.invokevirtual idx, 3))
    (kk : ∀ (H1 : Heap) (locs1 : List Loc), va_P D vwCl ws' H1 → va_D A0 ws' → va_S A0 H0 H1 locs1 → W p l e R s m args below meth c H1 locs1 cells slots Q (F0 m (pc + 3) ls rest)) : W p l e R s m args below meth c H locs cells slots Q (F0 m pc ls st0) := by
  obtain ⟨hx, hb, hml, hown, hts, hK, hN⟩ := X
  simp only [Bool.and_eq_true] at hn
  have hDc : va_D A0 wc := hD.sub isC hn.1.2 hC
  have hPc : va_P D vwCl wc H := fun k q hk => by
    have h1 : (isC.map (fun i => ws[i]?))[k]? = some (some q) := by rw [hC, List.getElem?_map, hk]; rfl
    rw [List.getElem?_map] at h1
    cases hi : isC[k]? with
    | none => rw [hi] at h1; cases h1
    | some i => rw [hi] at h1; exact hP i q (Option.some.inj h1)
  subst hqC
  exact mcJ (QM_and (va_runV (As := As) (rest := rest) (cc := cc) ⟨hx, hb, hml, hown, hts⟩ hM (cwV As.length hts hg rfl hR.1 hR.2.1 hd ⟨hR.2.2.1, hR.2.2.2⟩) ⟨PcM_blind, va_recv hK hPc hcl h0, fun U hU hW => ⟨rfl, by rw [hU], by rw [hU]; exact hPc, va_K.moved hW.alike hK, NW.warm hW hN, hDc.weaken (fun _ _ _ _ => trivial)⟩⟩ rfl rfl hls hst (lv_room (rest := st0) hW) hdg hc0)) hP hD hS hA isC isR perm hC hRl hn.1.1 hn.1.2 hdis hwa hs hn.2 (fun H1 locs1 a b c _ => kk H1 locs1 a b c)
/-- a changing static method of the own class, without an answer -/
theorem muSV {A0 : Nat → Prop} {H0 : Heap} (X : Ctx p s m args c cc nL own D tys) (As rest : List Value) (hM : Met l y (.code y bytes maxL none :: TBL) rm (PcM As H.size D tys wc) (QM none D wc' (va_A wc H.size)) 0 0 (va_A wc H.size))
    (hg : GoodIn TBL (va_wsS own idx y (.code y bytes maxL none :: TBL))) (hd : y.cls ≠ "java/lang/invoke/MethodHandle" ∧ y.cls ≠ "java/lang/invoke/VarHandle" ∧ (parseMethodDescriptor y.desc).map (fun d => d.parameters.length) = some As.length)
    (hR : rm.cells = 0 ∧ rm.slots = 0 ∧ rm.frames + 1 ≤ R.frames ∧ 8 + (maxL + 11) + rm.locals ≤ R.locals) (hc0 : cells ≤ R.cells ∧ slots ≤ R.slots) (hP : va_P D vwCl ws H) (hD : va_D A0 ws) (hS : va_S A0 H0 H locs) (hA : ∀ q : Nat, H0.size ≤ q → A0 q) (isC isR perm : List Nat) (hC : isC.map (fun i => ws[i]?) = wc.map some) (hRl : (isR.all fun i => decide (i < ws.length)) = true) (hn : (va_nd isR && va_nd isC && va_nd perm) = true) (hdis : ∀ i ∈ isR, i ∉ isC)
    (hwa : wc.map Prod.fst = wc'.map Prod.fst) (hs : perm.map (fun i => (pickL ws isR ++ wc')[i]?) = ws'.map some)
    (hls : ls.size = nL) (hst : st0 = As.reverse ++ rest) (hW : (rest.map fun v => v.category).sum ≤ 8) (hdg : decode cc pc = .ok (.invokestatic idx, 3))
    (kk : ∀ (H1 : Heap) (locs1 : List Loc), va_P D vwCl ws' H1 → va_D A0 ws' → va_S A0 H0 H1 locs1 → W p l e R s m args below meth c H1 locs1 cells slots Q (F0 m (pc + 3) ls rest)) : W p l e R s m args below meth c H locs cells slots Q (F0 m pc ls st0) := by
  obtain ⟨hx, hb, hml, hown, hts, hK, hN⟩ := X
  simp only [Bool.and_eq_true] at hn
  have hDc : va_D A0 wc := hD.sub isC hn.1.2 hC
  have hPc : va_P D vwCl wc H := fun k q hk => by
    have h1 : (isC.map (fun i => ws[i]?))[k]? = some (some q) := by rw [hC, List.getElem?_map, hk]; rfl
    rw [List.getElem?_map] at h1
    cases hi : isC[k]? with
    | none => rw [hi] at h1; cases h1
    | some i => rw [hi] at h1; exact hP i q (Option.some.inj h1)
  exact mcJ (QM_and (va_runS (As := As) (rest := rest) (cc := cc) ⟨hx, hb, hml, hown, hts⟩ hM (va_cwS As.length hts hg rfl hR.1 hR.2.1 hd ⟨hR.2.2.1, hR.2.2.2⟩) ⟨PcM_blind, fun U hU hW => ⟨rfl, by rw [hU], by rw [hU]; exact hPc, va_K.moved hW.alike hK, NW.warm hW hN, hDc.weaken (fun _ _ _ _ => trivial)⟩⟩ rfl rfl hls hst (lv_room (rest := st0) hW) hdg hc0)) hP hD hS hA isC isR perm hC hRl hn.1.1 hn.1.2 hdis hwa hs hn.2 (fun H1 locs1 a b c _ => kk H1 locs1 a b c)
end CALLS

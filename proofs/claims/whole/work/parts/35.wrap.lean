/-! OWN ROWS: the law's own static methods (with tables of handlers); 'cell' on the script -/
def kwsH (y : MethodName) (cc : ByteArray) (n : Nat) (ret : Option FieldType) (hh : List (Nat × Nat × Nat × Nat)) : List Cond := Cond.codeWith y cc n ret hh :: kTb
def wN (U : State) : Prop := va_Nc "java/lang/IllegalArgumentException" "java/lang/IndexOutOfBoundsException" U ∧ va_Nc "java/lang/UnsupportedOperationException" "java/lang/IllegalArgumentException" U
def wPre (D : va_G) (av : List Value) (w : va_W) (tys : List (ClassId × FieldType)) (sz : Nat) : Array Value → State → Prop := va_Pc av (fun U => U.heap.size = sz ∧ va_P D vwCl w U.heap ∧ va_K D vwCl tys U ∧ va_D (fun _ => True) w ∧ kN U ∧ xK U U.heap ∧ wN U)
theorem wPre_blind {D : va_G} {av : List Value} {w : va_W} {tys : List (ClassId × FieldType)} {sz : Nat} : FrameBlind (wPre D av w tys sz) := fun a U g mk q => by
  obtain ⟨q0, q1, qP, qK, qD, qN, qX, qW⟩ := q
  exact ⟨q0, q1, qP, va_K.moved (u := U) (U := U.calling g mk a) (Vm.Alike.refl U.vm) qK, qD, kN.same (u := U) (U := U.calling g mk a) rfl qN, xK.same (u := U) (U := U.calling g mk a) rfl qX, va_Nc.moved (u := U) (U := U.calling g mk a) (Vm.Alike.refl U.vm) qW.1, va_Nc.moved (u := U) (U := U.calling g mk a) (Vm.Alike.refl U.vm) qW.2⟩
theorem wPre_of {D : va_G} {av : List Value} {w : va_W} {tys : List (ClassId × FieldType)} {H : Heap} {s : State} {A : Nat → Prop} (hP : va_P D vwCl w H) (hK : va_K D vwCl tys s) (hD : va_D A w) (hN : kN s) (hXK : xK s H) (hWN : wN s) : ∀ U : State, U.heap = H → s.WarmedH U.vm → wPre D av w tys H.size av.toArray U :=
  fun U hU hW => ⟨rfl, by rw [hU], by rw [hU]; exact hP, va_K.moved hW.alike hK, hD.weaken (fun _ _ _ _ => trivial), hN.warm hW, by rw [hU]; exact hXK.warm hW, hWN.1.moved hW.alike, hWN.2.moved hW.alike⟩
theorem w_tbl1 {L : List ExceptionTableEntry} {a b h t : Nat} (e : L.map (fun x => (x.startPc, x.endPc, x.handlerPc, x.catchType)) = [(a, b, h, t)]) : ∃ x : ExceptionTableEntry, L = [x] ∧ x.startPc = a ∧ x.endPc = b ∧ x.handlerPc = h ∧ x.catchType = t := by
  match L, e with
  | [x], e => simp only [List.map_cons, List.map_nil, List.cons.injEq, Prod.mk.injEq, and_true] at e; exact ⟨x, rfl, e.1, e.2.1, e.2.2.1, e.2.2.2⟩
  | [], e => cases e
  | _ :: _ :: _, e => simp at e
theorem w_tbl2 {L : List ExceptionTableEntry} {a b h t a' b' h' t' : Nat} (e : L.map (fun x => (x.startPc, x.endPc, x.handlerPc, x.catchType)) = [(a, b, h, t), (a', b', h', t')]) : ∃ x y : ExceptionTableEntry, L = [x, y] ∧ (x.startPc = a ∧ x.endPc = b ∧ x.handlerPc = h ∧ x.catchType = t) ∧ (y.startPc = a' ∧ y.endPc = b' ∧ y.handlerPc = h' ∧ y.catchType = t') := by
  match L, e with
  | [x, y], e =>
    simp only [List.map_cons, List.map_nil, List.cons.injEq, Prod.mk.injEq, and_true] at e
    exact ⟨x, y, rfl, ⟨e.1.1, e.1.2.1, e.1.2.2.1, e.1.2.2.2⟩, e.2.1, e.2.2.1, e.2.2.2.1, e.2.2.2.2⟩
  | [], e => cases e
  | [_], e => simp at e
  | _ :: _ :: _ :: _, e => simp at e
theorem w_cov {x : ExceptionTableEntry} {a b pc : Nat} (h1 : x.startPc = a) (h2 : x.endPc = b) (h : (decide (a ≤ pc) && decide (pc < b)) = true) : covers x pc = true := by
  subst h1; subst h2
  exact h
section WA
variable {p : Program} {l : Launch} {e : Env} {R : Room} {s : State} {m : MethodId} {args : Array Value} {below : List Frame} {meth : Method} {c : Code} {H : Heap} {locs : List Loc} {cells slots mc ms : Nat} {Q : State → Prop} {cc : ByteArray} {pc : Nat} {ls : Array Slot} {D : va_G} {A : Nat → Prop} {w1 : va_W}
theorem wcatch1 {own name : String} {E : String} {ce : Cell} {q : Addr} {rest : List Value} {a b h t : Nat} (hown : s.vm.findClass own = some m.cls) (x : ExceptionTableEntry) (suf : List ExceptionTableEntry) (hsplit : c.exceptionTable.toList = x :: suf) (hxf : x.startPc = a ∧ x.endPc = b ∧ x.handlerPc = h ∧ x.catchType = t) (hcov : (decide (a ≤ pc) && decide (pc < b)) = true) (h0 : t ≠ 0)
    (hlink : (Cond.classLink own t name).before args s = true) (hcast : (Cond.castable E name).before args s = true) (hce : H[q]? = some ce) (hcv : ce.vm = .none) (hcl : s.vm.findClass E = some ce.cls)
    (kk : W p l e R s m args below meth c H locs cells slots Q (F0 m h ls [.ref q])) : xW p l e R s m args below meth c H locs cells slots Q (F0 m pc ls rest) q := by
  obtain ⟨e1, e2, e3, e4⟩ := hxf
  refine xcatch hown x suf hsplit (w_cov e1 e2 hcov) (by rw [e4]; exact h0) (by rw [e4]; exact hlink) hcast hce hcv hcl ?_
  rw [e3]
  exact kk
theorem wcatch2 {own name nm1 : String} {E : String} {ce : Cell} {q : Addr} {rest : List Value} {a b h t a' b' h' t' : Nat} (hown : s.vm.findClass own = some m.cls) (y x : ExceptionTableEntry) (suf : List ExceptionTableEntry) (hsplit : c.exceptionTable.toList = y :: x :: suf) (hyf : y.startPc = a' ∧ y.endPc = b' ∧ y.handlerPc = h' ∧ y.catchType = t') (hxf : x.startPc = a ∧ x.endPc = b ∧ x.handlerPc = h ∧ x.catchType = t) (hcov : (decide (a ≤ pc) && decide (pc < b)) = true) (h0 : t ≠ 0) (h0' : t' ≠ 0)
    (hlink' : (Cond.classLink own t' nm1).before args s = true) (hnc : va_Nc E nm1 s) (hlink : (Cond.classLink own t name).before args s = true) (hcast : (Cond.castable E name).before args s = true) (hce : H[q]? = some ce) (hcv : ce.vm = .none) (hcl : s.vm.findClass E = some ce.cls)
    (kk : W p l e R s m args below meth c H locs cells slots Q (F0 m h ls [.ref q])) : xW p l e R s m args below meth c H locs cells slots Q (F0 m pc ls rest) q := by
  obtain ⟨e1, e2, e3, e4⟩ := hxf
  obtain ⟨-, -, -, e4'⟩ := hyf
  intro T hT X
  have hpl : e.platform.magicAccessors = ({} : Platform).magicAccessors := by rw [X.admits.platform]
  obtain ⟨c3, c4, hc3, hc4, hasg⟩ := Cond.castable_spec hcast
  cases hc3.symm.trans hcl
  obtain ⟨c5, hc5, hcl5⟩ := Cond.classLink_spec hown hlink e.platform hpl
  cases hc4.symm.trans hc5
  obtain ⟨c6, hc6, hcl6⟩ := Cond.classLink_spec hown hlink' e.platform hpl
  obtain ⟨a8, b8, n1, n2, n3⟩ := hnc
  cases n1.symm.trans hcl
  cases n2.symm.trans hc6
  obtain ⟨k9, h9, -⟩ := Vm.findClass_spec hcl
  obtain ⟨vm', X', st⟩ := kc_two X (a := q) (g := F0 m pc ls rest) rfl (by rw [hT]; exact hce) (by rw [hcv]; rfl) ⟨k9, h9⟩ y x suf hsplit (by rw [e4']; exact h0') (by rw [e4']; exact hcl6) n3 (w_cov e1 e2 hcov) (by rw [e4]; exact h0) (by rw [e4]; exact hcl5) hasg
  rw [e3] at st
  obtain ⟨t, a1, b1⟩ := kk (T.setVm vm') hT X'
  exact ⟨t, st.trans a1, b1⟩
theorem ww_iret {v : Int32} (hx : p.tables.exec = Jvm.exec) (hb : c.code = cc) (hr : meth.sig.returnType = some .int) (hlocks : meth.locks = false) (hQ : Q = MQ below (kPost D (some (.int v)) w1 A) args s mc ms A) (hc : cells ≤ mc) (hs : slots ≤ ms) (hP : va_P D vwCl w1 H) (hD : va_D A w1) (hS : va_S A s.heap H locs) (hdg : decode cc pc = .ok (.ireturn, 1)) : W p l e R s m args below meth c H locs cells slots Q (F0 m pc ls [.int v]) := by
  subst hQ
  refine W.widen hc hs ?_
  exact W.iret hx hb hr (fun t ht _ => ⟨rfl, by rw [ht]; exact hP, hD, hS.F ht⟩) hS.2.2 hdg hlocks
/-- invokestatic of a method with a table of handlers -/
theorem wrunS {y : MethodName} {bytes : ByteArray} {maxL nL n index : Nat} {hh : List (Nat × Nat × Nat × Nat)} {ret : Option FieldType} {rm : Room} {Pc : Array Value → State → Prop} {Qc : Array Value → State → Outcome → State → Prop} {free : Addr → Prop} {own : String} {As rest : List Value} {g : JFrame}
    (S : CallFix p m c cc nL s args kTb own) (hM : Met l y (kwsH y bytes maxL ret hh) rm Pc Qc mc ms free) (hrc : rm.cells = mc) (hrs : rm.slots = ms) (hfit : rm.frames + 1 ≤ R.frames ∧ 8 + (maxL + 11) + rm.locals ≤ R.locals) (hcode : Cond.codeWith y bytes maxL ret hh ∈ kTb) (hl : Cond.methodLink own index y ∈ kTb) (hstat : Cond.static y ∈ kTb) (hini : Cond.initialized y.cls ∈ kTb)
    (hy : y.cls ≠ "java/lang/invoke/MethodHandle" ∧ y.cls ≠ "java/lang/invoke/VarHandle" ∧ (parseMethodDescriptor y.desc).map (fun d => d.parameters.length) = some n) (hp : PreS s H Pc As)
    (hg : g.method = m) (hn : As.length = n) (hsize : g.locals.size = nL) (hstack : g.stack = As.reverse ++ rest) (hroom : 2 * g.monitorRoom + (rest.map fun v => v.category).sum ≤ 8) (hdg : decode cc g.pc = .ok (.invokestatic index, 3)) (hf : cells + mc ≤ R.cells ∧ slots + ms ≤ R.slots) :
    va_Run p l e R s m args below meth c H locs cells slots mc ms g rest (Qc As.toArray) free := by
  obtain ⟨hx, hb, hml, ho, hts⟩ := S
  obtain ⟨hbl, hPc⟩ := hp
  have hXM : xMet l y (kwsH y bytes maxL ret hh) rm Pc Qc (fun _ _ _ => False) mc ms free mc ms free := by
    intro p e ha hc hk s m args below hfr happ hP hK
    obtain ⟨n, o, h1, h2, h3, h4⟩ := hM p e ha hc hk s m args below hfr happ hP hK
    exact ⟨n, o, h1, h2, h3, Or.inl h4⟩
  have hgood : ∀ w ∈ kwsH y bytes maxL ret hh, ∀ (a' : Array Value) (U : State), s.WarmedH U.vm → w.before a' U = true := pay_in hts (kgood (fun w hw => by
    rcases List.mem_cons.mp hw with rfl | h
    · exact hcode
    · exact h))
  intro T hT X
  obtain ⟨mk, methM, cM, hnamed, hmethM, hcM, -, hlM, -, -, -, hsigM⟩ := Cond.codeWith_spec (hts _ hcode)
  have hstatic : methM.isStatic = true := Cond.static_spec hnamed hmethM (hts _ hstat)
  obtain ⟨kP, hkP, -⟩ := className_of_methodNamed hnamed
  have hinitP : kP.init = .initialized := Cond.initialized_spec (findClass_of_methodNamed hnamed) hkP (hts _ hini)
  have hlen : As.length = methM.sig.parameters.length := by
    have h2 := hy.2.2
    rw [hsigM] at h2
    rw [hn]
    exact (Option.some.inj h2).symm
  obtain ⟨vm₁, X₁, hstep₁⟩ := X.invokestatic hx ho (hts _ hl) hnamed hmethM hstatic hkP hinitP ⟨hy.1, hy.2.1⟩ (g := g) hg (argsL := As) (rest := rest) hlen hstack (by rw [hb]; exact hdg)
  have hmk : (T.setVm vm₁).vm.method? mk = some methM := by rw [X₁.warmed.alike.method?]; exact hmethM
  rcases x_call (len := 3) (ig := .invokestatic index) (a := As.toArray) hXM hbl hrc hrs hfit.1 hfit.2 hgood (fun a' U hW => word_at hW (Or.inl (by first | rfl | simp [Cond.onTables, Cond.keeps, Cond.steady])) (hts _ hini)) X₁ (g := { g with stack := rest }) hg (hsize.trans hml.symm) (by rw [hb]; exact hdg) hroom (X₁.named hnamed) hmk hcM hlM hf.1 hf.2 (hPc (T.setVm vm₁) hT X₁.warmed) with ⟨v, t, U', L, X', hL, e1, e2, hq, hst⟩ | ⟨q, t, U', L, E, ce, X', hL, e1, e2, hq, -⟩
  · exact ⟨v, (T.setVm vm₁).calling { g with stack := rest } mk As.toArray, t, U', L, hT, X', hL, e1, e2, hq, fun target h => hstep₁ _ fun acts => by rw [doInvoke_state]; exact hst.trans h⟩
  · exact hq.elim
end WA
theorem wU_of {l : Launch} {y : MethodName} {rm : Room} {cc : ByteArray} {maxL mc ms : Nat} {ret : Option FieldType} {hh : List (Nat × Nat × Nat × Nat)} {D : va_G} {av : List Value} {w w1 : va_W} {tys : List (ClassId × FieldType)} {r : Option Value}
    (hy : plainName y.cls = true) (hlen : (lg_sl av).length ≤ maxL)
    (body : ∀ (p : Program) (e : Env) (s : State) (m : MethodId) (args : Array Value) (below : List Frame) (meth : Method) (c : Code) (Q : State → Prop) (A : Nat → Prop), Q = MQ below (kPost D r w1 A) args s mc ms A → kFx p s m meth c args cc maxL ret y.cls kTb → c.exceptionTable.toList.map (fun x => (x.startPc, x.endPc, x.handlerPc, x.catchType)) = hh → va_K D vwCl tys s → kN s → xK s s.heap → wN s → (∀ q : Nat, s.heap.size ≤ q → A q) → va_P D vwCl w s.heap → va_D A w → ∀ (ls : Array Slot), lv_has ls maxL (lv_args 0 av) → W p l e rm s m args below meth c s.heap [] 0 0 Q (F0 m 0 ls [])) :
    ∀ sz : Nat, Met l y (kwsH y cc maxL ret hh) rm (wPre D av w tys sz) (kPost D r w1 (va_A w sz)) mc ms (va_A w sz) := by
  intro sz
  refine MetFree.of_bodyS (code := cc) (maxLocals := maxL) (ret := ret) hy ?_ ?_
  · intro args s m h hn
    obtain ⟨m', meth, c, h0, h1, h2, h3, h4, -, h5, h6, -⟩ := Cond.codeWith_spec (atoms_spec (ws := kwsH y cc maxL ret hh) h _ List.mem_cons_self)
    cases hn.symm.trans h0
    exact ⟨meth, c, h1, h2, h3, h4, h5, h6⟩
  · intro p e s m args below meth c s₁ B hml hv _
    obtain ⟨rfl, hsz, hP, hK, hD0, hN, hXK, hWN⟩ := hv
    subst hsz
    have hh0 : s₁.heap = s.heap := by rw [B.state]; rfl
    have hl := lv_entry av (n := maxL) hlen
    have htab : c.exceptionTable.toList.map (fun x => (x.startPc, x.endPc, x.handlerPc, x.catchType)) = hh := by
      obtain ⟨m', meth', c', h0, h1, h2, -, -, h4, -⟩ := Cond.codeWith_spec (atoms_spec (ws := kwsH y cc maxL ret hh) B.pre _ List.mem_cons_self)
      cases B.named.symm.trans h0
      cases B.method.symm.trans h1
      cases (Stand.of_body B).code.symm.trans h2
      exact h4
    have K := body p e s m _ below meth c _ (va_A w s.heap.size) rfl ⟨B.exec, B.bytes, B.returns, hml, findClass_of_methodNamed B.named, fun w h => atoms_spec (ws := kwsH y cc maxL ret hh) B.pre w (List.mem_cons_of_mem _ h), B.notSynchronized⟩ htab hK hN hXK hWN (fun q h => Or.inr h) hP (hD0.self (sz := s.heap.size)) _ hl
    rw [← lg_entry_eq] at K
    obtain ⟨t, a1, o, b1, b2, b3, b4⟩ := K s₁ hh0 (Stand.of_body B)
    exact ⟨t, o, a1, b1, b2, b3, b4⟩

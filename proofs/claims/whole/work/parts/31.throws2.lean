/-! OWN ROWS: contracts of methods that return or throw; a call of one; a throw; a catch -/
def xPre (D : va_G) (av : List Value) (w : va_W) (tys : List (ClassId × FieldType)) (sz : Nat) : Array Value → State → Prop := va_Pc av (fun U => U.heap.size = sz ∧ va_P D vwCl w U.heap ∧ va_K D vwCl tys U ∧ va_D (fun _ => True) w ∧ kN U ∧ xK U U.heap)
def xR (tag : Nat) (D : va_G) (r : Option Value) (w1 : va_W) (A : Nat → Prop) : Array Value → State → Outcome → State → Prop := fun a st oc t => tag = 0 ∧ kPost D r w1 A a st oc t
def xX (tag : Nat) (D : va_G) (w1 : va_W) (A : Nat → Prop) : String → State → State → Prop := fun E st t => tag ≠ 0 ∧ E = xE tag ∧ va_P D vwCl w1 t.heap ∧ va_D A w1 ∧ va_F A st t
theorem xPre_blind {D : va_G} {av : List Value} {w : va_W} {tys : List (ClassId × FieldType)} {sz : Nat} : FrameBlind (xPre D av w tys sz) := fun a U g mk q => by
  obtain ⟨q0, q1, qP, qK, qD, qN, qX⟩ := q
  exact ⟨q0, q1, qP, va_K.moved (u := U) (U := U.calling g mk a) (Vm.Alike.refl U.vm) qK, qD, kN.same (u := U) (U := U.calling g mk a) rfl qN, xK.same (u := U) (U := U.calling g mk a) rfl qX⟩
theorem xPre_of {D : va_G} {av : List Value} {w : va_W} {tys : List (ClassId × FieldType)} {H : Heap} {s : State} {A : Nat → Prop} (hP : va_P D vwCl w H) (hK : va_K D vwCl tys s) (hD : va_D A w) (hN : kN s) (hXK : xK s H) : ∀ U : State, U.heap = H → s.WarmedH U.vm → xPre D av w tys H.size av.toArray U :=
  fun U hU hW => ⟨rfl, by rw [hU], by rw [hU]; exact hP, va_K.moved hW.alike hK, hD.weaken (fun _ _ _ _ => trivial), hN.warm hW, by rw [hU]; exact hXK.warm hW⟩
/-- the frame g, with q thrown over it -/
def xW (p : Program) (l : Launch) (e : Env) (R : Room) (s : State) (m : MethodId) (args : Array Value) (below : List Frame) (meth : Method) (c : Code) (H : Heap) (locs : List Loc) (cells slots : Nat) (Q : State → Prop) (g : JFrame) (q : Addr) : Prop :=
  ∀ T : State, T.heap = H → Stand p l e R s m args below meth c T locs cells slots → ∃ t, Steps p.tables e below ((T.setTop g).pushFrame (.throwing q)) t ∧ Q t
def xRun (p : Program) (l : Launch) (e : Env) (R : Room) (s : State) (m : MethodId) (args : Array Value) (below : List Frame) (meth : Method) (c : Code) (H : Heap) (locs : List Loc) (cells slots mc ms : Nat) (g : JFrame) (rest : List Value) (Qa : State → Outcome → State → Prop) (XC : String → State → State → Prop) (free : Addr → Prop) (rc rs : Nat) (rfree : Addr → Prop) : Prop :=
  ∀ T : State, T.heap = H → Stand p l e R s m args below meth c T locs cells slots →
    (∃ (v : Option Value) (st₀ t T' : State) (L : List Loc), st₀.heap = H ∧ Stand p l e R s m args below meth c T' (locs ++ L) (cells + rc) (slots + rs) ∧ (∀ q ∈ L, rfree q.base) ∧ T'.heap = t.heap ∧ Qa st₀ (.returned v) t ∧ Goes p e below T g T' { g with pc := g.pc + 3, stack := v.toList ++ rest }) ∨
    (∃ (q : Addr) (st₀ t T' : State) (L : List Loc) (E : String) (ce : Cell), st₀.heap = H ∧ Stand p l e R s m args below meth c T' (locs ++ L) (cells + mc) (slots + ms) ∧ (∀ q ∈ L, free q.base) ∧ T'.heap = t.heap ∧ XC E st₀ t ∧ t.heap[q]? = some ce ∧ ce.vm = .none ∧ s.vm.findClass E = some ce.cls ∧
      Steps p.tables e below (T.setTop g) ((T'.setTop { g with stack := rest }).pushFrame (.throwing q)))
section XD
variable {p : Program} {l : Launch} {e : Env} {R : Room} {s : State} {m : MethodId} {args : Array Value} {below : List Frame} {meth : Method} {c : Code} {H : Heap} {locs : List Loc} {cells slots : Nat} {Q : State → Prop} {cc : ByteArray} {pc : Nat} {ls : Array Slot} {D : va_G} {A : Nat → Prop} {w1 : va_W}
theorem x_cls {T : State} {vm₁ : Vm} {E : String} {k : ClassId} (hW : s.WarmedH vm₁) (h : (T.setVm vm₁).vm.findClass E = some k) : s.vm.findClass E = some k := by
  have h1 : vm₁.findClass E = some k := h
  rw [hW.alike.findClass] at h1
  exact h1
/-- invokevirtual of a method that returns or throws -/
theorem xrunV {y : MethodName} {bytes : ByteArray} {maxL nL mc ms rc rs n index : Nat} {ret : Option FieldType} {ws : List Cond} {rm : Room} {Pc : Array Value → State → Prop} {Qc : Array Value → State → Outcome → State → Prop} {XC : String → State → State → Prop} {free rfree : Addr → Prop} {Ts : List Cond} {own C : String} {b : Addr} {As rest : List Value} {g : JFrame}
    (S : CallFix p m c cc nL s args Ts own) (hM : xMet l y ws rm Pc Qc XC mc ms free rc rs rfree) (cw : CallW R s args own C index y bytes maxL ret ws rm mc ms n) (hp : PreV s H C b Pc As)
    (hg : g.method = m) (hn : As.length = n) (hsize : g.locals.size = nL) (hstack : g.stack = As.reverse ++ .ref b :: rest) (hroom : 2 * g.monitorRoom + (rest.map fun v => v.category).sum ≤ 8) (hdg : decode cc g.pc = .ok (.invokevirtual index, 3)) (hf : cells + mc ≤ R.cells ∧ slots + ms ≤ R.slots) :
    xRun p l e R s m args below meth c H locs cells slots mc ms g rest (Qc (Value.ref b :: As).toArray) XC free rc rs rfree := by
  obtain ⟨⟨hrc, hrs, hfr, hlo, hws, hcw, hcode, hini, hy, hlen, hl⟩, hin, hse⟩ := cw
  obtain ⟨hx, hb, hml, ho, -⟩ := S
  obtain ⟨hbl, ⟨cellB, hcB, hoB, hclB⟩, hPc⟩ := hp
  intro T hT X
  obtain ⟨mk, methM, hnamed, hmethM, hstM, habM⟩ := Cond.instanceMethod_spec hin
  obtain ⟨methM', cM, hmethM', hcM, -, hlM, -, -, -, hsigM⟩ := Cond.code_spec hnamed hcode
  cases hmethM.symm.trans hmethM'
  obtain ⟨c2, r2, m2, q1, q2, q3, q4, kP, hkP, hkPi⟩ := Cond.selects_spec hse
  cases hclB.symm.trans q1
  cases (State.methodFound?_of_named hnamed hy).symm.trans q2
  cases hnamed.symm.trans q3
  have hselP : selectMethod e.platform s.vm cellB.cls mk = .method mk := by rw [Launch.admits_selectMethod X.admits]; exact q4
  obtain ⟨vm₁, X₁, hstep₁⟩ := X.invokevirtual hx ho hl hnamed hmethM hstM hkP hkPi hy (a := b) (cell := cellB) (by rw [hT]; exact hcB)
    (fun z h => by rw [h] at hoB; cases hoB) hselP hmethM habM hkP hkPi (g := g) hg (argsL := As) (rest := rest) (hn.trans (hlen _ hsigM)) hstack (by rw [hb]; exact hdg)
  have hmk : (T.setVm vm₁).vm.method? mk = some methM := by
    rw [X₁.warmed.alike.method?]; exact hmethM
  rcases x_call (len := 3) (ig := .invokevirtual index) (a := (Value.ref b :: As).toArray) hM hbl hrc hrs hfr hlo hws (fun a' U hW => word_at hW (Or.inl (by first | rfl | simp [Cond.onTables, Cond.keeps, Cond.steady])) hini) X₁ (g := { g with stack := rest }) hg (hsize.trans hml.symm) (by rw [hb]; exact hdg) hroom (X₁.named hnamed) hmk hcM hlM hf.1 hf.2 (hPc (T.setVm vm₁) hT X₁.warmed) with ⟨v, t, U', L, X', hL, e1, e2, hq, hst⟩ | ⟨q, t, U', L, E, ce, X', hL, e1, e2, hq, hce, hcv, hcl, hst⟩
  · exact Or.inl ⟨v, (T.setVm vm₁).calling { g with stack := rest } mk (Value.ref b :: As).toArray, t, U', L, hT, X', hL, e1, hq, fun target h => hstep₁ _ fun acts => by rw [doInvoke_state]; exact hst.trans h⟩
  · exact Or.inr ⟨q, (T.setVm vm₁).calling { g with stack := rest } mk (Value.ref b :: As).toArray, t, U', L, E, ce, hT, X', hL, e1, hq, hce, hcv, x_cls X₁.warmed hcl, hstep₁ _ fun acts => by rw [doInvoke_state]; exact hst⟩
/-- a call of a method that returns or throws: its cells at places isC, the others at isR -/
theorem xu_call {tag mc ms : Nat} {r : Option Value} {a : Array Value} {st0 rest : List Value} {ws wc wr : va_W} {H0 : Heap} (hA : ∀ q : Nat, H0.size ≤ q → A q) (hr : xRun p l e R s m args below meth c H locs cells slots mc ms (F0 m pc ls st0) rest (xR tag D r w1 (va_A wc H.size) a) (xX tag D w1 (va_A wc H.size)) (va_A wc H.size) mc ms (va_A wc H.size))
    (hP : va_P D vwCl ws H) (hD : va_D A ws) (hS : va_S A H0 H locs) (isC isR : List Nat) (hC : isC.map (fun i => ws[i]?) = wc.map some) (hR : isR.map (fun i => ws[i]?) = wr.map some) (hn : va_nd isR = true) (hdis : ∀ i ∈ isR, i ∉ isC)
    (kx : tag ≠ 0 → ∀ (H : Heap) (locs : List Loc) (q : Addr) (ce : Cell), va_P D vwCl (wr ++ w1) H → va_D A (wr ++ w1) → va_S A H0 H locs → H[q]? = some ce → ce.vm = .none → s.vm.findClass (xE tag) = some ce.cls → xW p l e R s m args below meth c H locs (cells + mc) (slots + ms) Q (F0 m pc ls rest) q)
    (kk : tag = 0 → ∀ (H : Heap) (locs : List Loc), va_P D vwCl (wr ++ w1) H → va_D A (wr ++ w1) → va_S A H0 H locs → W p l e R s m args below meth c H locs (cells + mc) (slots + ms) Q (F0 m (pc + 3) ls (r.toList ++ rest))) : W p l e R s m args below meth c H locs cells slots Q (F0 m pc ls st0) := by
  have hFc := va_free (wc := wc) hD hS hA isC hC
  intro T hT X
  rcases hr T hT X with ⟨v, st₀, t, T', L, h0, X', hL, e1, ⟨htag, hv, hP1, hD1, hz, hk⟩, st⟩ | ⟨q, st₀, t, T', L, E, ce, h0, X', hL, e1, ⟨htag, rfl, hP1, hD1, hz, hk⟩, hce, hcv, hcl, st⟩
  · cases hv
    rw [h0] at hz hk
    obtain ⟨jP, jD⟩ := va_join (H1 := T'.heap) hP hD isC isR hC hR hn hdis (fun q h1 h2 => by rw [e1]; exact hk q h1 h2) hFc (by rw [e1]; exact hP1) hD1
    obtain ⟨t2, a1, b1⟩ := kk htag T'.heap (locs ++ L) jP jD
      ⟨Nat.le_trans hS.1 (by rw [e1]; exact hz), fun q h1 h2 => by rw [e1, hk q (Nat.lt_of_lt_of_le h1 hS.1) (fun z => h2 (hFc q z))]; exact hS.2.1 q h1 h2, fun q hq => by
        rcases List.mem_append.mp hq with h | h
        · exact hS.2.2 q h
        · exact hFc _ (hL q h)⟩ T' rfl X'
    exact ⟨t2, st t2 a1, b1⟩
  · rw [h0] at hz hk
    obtain ⟨jP, jD⟩ := va_join (H1 := T'.heap) hP hD isC isR hC hR hn hdis (fun q h1 h2 => by rw [e1]; exact hk q h1 h2) hFc (by rw [e1]; exact hP1) hD1
    obtain ⟨t2, a1, b1⟩ := kx htag T'.heap (locs ++ L) q ce jP jD
      ⟨Nat.le_trans hS.1 (by rw [e1]; exact hz), fun q h1 h2 => by rw [e1, hk q (Nat.lt_of_lt_of_le h1 hS.1) (fun z => h2 (hFc q z))]; exact hS.2.1 q h1 h2, fun q hq => by
        rcases List.mem_append.mp hq with h | h
        · exact hS.2.2 q h
        · exact hFc _ (hL q h)⟩ (by rw [e1]; exact hce) hcv hcl T' rfl X'
    exact ⟨t2, st.trans a1, b1⟩
/-- not caught here -/
theorem xout {Qc : Array Value → State → Outcome → State → Prop} {tag mc ms rc rs : Nat} {rfree : Addr → Prop} {rest : List Value} {q : Addr} {ce : Cell} (hno : ∀ x ∈ c.exceptionTable.toList, False) (hlocks : meth.locks = false) (hQ : Q = xMQ below Qc (xX tag D w1 A) args s mc ms A rc rs rfree) (htag : tag ≠ 0) (hP : va_P D vwCl w1 H) (hD : va_D A w1) (hS : va_S A s.heap H locs) (hce : H[q]? = some ce) (hcv : ce.vm = .none) (hcl : s.vm.findClass (xE tag) = some ce.cls) (hc : cells ≤ mc) (hs : slots ≤ ms) :
    xW p l e R s m args below meth c H locs cells slots Q (F0 m pc ls rest) q := by
  subst hQ
  intro T hT X
  obtain ⟨st1, hrun, hend, hW, hsm⟩ := X.leaveThrown q (g := F0 m pc ls rest) rfl rfl rfl (fun x hx => (hno x hx).elim) hlocks
  refine ⟨_, st1, .threw q, hrun, hend, Or.inr ⟨q, xE tag, ce, locs, rfl, ⟨htag, rfl, ?_, hD, hS.F ?_⟩, ⟨?_, hcv, hcl⟩, hW, hsm.mono hc hs, hS.2.2⟩⟩
  · show va_P D vwCl w1 T.heap
    rw [hT]; exact hP
  · show T.heap = H
    exact hT
  · show T.heap[q]? = some ce
    rw [hT]; exact hce
/-- throw new E("text"), with nothing written before -/
theorem xthrow {Qc : Array Value → State → Outcome → State → Prop} {tag mc ms rc rs : Nat} {rfree : Addr → Prop} {own : String} {names : List String} {ik is ic sa : Nat} {tx : String} {rest : List Value} (hfl : l.flags = pinnedFlags ++ [noTraceFlag]) (hx : p.tables.exec = Jvm.exec) (hb : c.code = cc) (hml : c.maxLocals = ls.size) (hno : ∀ x ∈ c.exceptionTable.toList, False) (hlocks : meth.locks = false)
    (hQ : Q = xMQ below Qc (xX tag D w1 A) args s mc ms A rc rs rfree) (htag : tag ≠ 0) (hP : va_P D vwCl w1 s.heap) (hD : va_D A w1)
    (hown : s.vm.findClass own = some m.cls) (hk : (Cond.classLink own ik (xE tag)).before args s = true) (hins : (Cond.instantiable (xE tag) 6).before args s = true) (hini : (Cond.initialized (xE tag)).before args s = true) (hstr : vk_R own is tx sa s)
    (hcls : Bundle.fit (xE tag) = true) (hnames : ∀ n ∈ names, Bundle.fit n = true) (hat : ∀ w ∈ Bundle.ownAtoms own ic (xE tag) names, w.before args s = true)
    (d0 : decode cc pc = .ok (.new ik, 3)) (d3 : decode cc (pc + 3) = .ok (.dup, 1)) (d4 : decode cc (pc + 4) = .ok (.ldc is, 2)) (d6 : decode cc (pc + 6) = .ok (.invokespecial ic, 3)) (d9 : decode cc (pc + 9) = .ok (.athrow, 1))
    (hRf : names.length + 3 < R.frames) (hRl : (rest.map fun v => v.category).sum + (13 * (names.length + 1) + 43) ≤ R.locals) (hRc : 0 + 1 ≤ R.cells) (hRs : 0 + 6 ≤ R.slots) (hc : 1 ≤ mc) (hs : 6 ≤ ms) :
    W p l e R s m args below meth c s.heap [] 0 0 Q (F0 m pc ls rest) := by
  subst hQ
  obtain ⟨cE, kE, hcE, -⟩ := Cond.instantiable_spec hins
  refine W.newcK hx hb hown hk hins hini rfl d0 hRc hRs hcE rfl fun H' kC hkC hcell hsz hold => ?_
  refine W.eq (g2 := F0 m (pc + 3) ls (.ref s.heap.size :: rest)) rfl ?_
  refine lv_dup hx hb d3 rfl ?_
  refine va_ldcS hx hb hown hstr d4 ?_
  intro T hT X
  obtain ⟨U, st, hrun, hend, hWU, hsame, ce, hce, hoc⟩ := X.ctorThrowS hx (Launch.traces_off hfl X.admits) hown hcls hnames hat (fun x hx => by cases hx) (a := s.heap.size) hcE hkC (by rw [hT]; exact hcell) (Nat.le_refl _) (msg := .ref sa) rfl (g := F0 m (pc + 4 + 2) ls (.ref sa :: .ref s.heap.size :: .ref s.heap.size :: rest)) rfl hml.symm rfl rfl (rest := rest) rfl (by rw [hb]; exact d6) (by rw [hb]; exact d9) (fun x hx => (hno x hx).elim) hRf
    (by
      have h0 := lv_room (m := m) (pc := pc) (ls := ls) (rest := rest) (st := []) (by simp)
      simp only [List.map_nil, List.sum_nil] at h0
      show 2 * (F0 m (pc + 4 + 2) ls (.ref sa :: .ref s.heap.size :: .ref s.heap.size :: rest)).monitorRoom + _ + _ ≤ _
      have h1 : (F0 m (pc + 4 + 2) ls (.ref sa :: .ref s.heap.size :: .ref s.heap.size :: rest)).monitorRoom = 0 := rfl
      rw [h1]
      have h2 : ((Value.ref s.heap.size :: rest).map fun v => v.category).sum = 1 + (rest.map fun v => v.category).sum := by
        rw [List.map_cons, List.sum_cons]; rfl
      rw [h2]
      omega) hlocks
  obtain ⟨hz, hq⟩ := x_same hsame
  refine ⟨U, st, .threw s.heap.size, hrun, hend, Or.inr ⟨s.heap.size, xE tag, ce, [], rfl, ⟨htag, rfl, ?_, hD, hz, fun q h _ => hq q h⟩, ⟨hce, hoc.vm, hoc.cls⟩, hWU, hsame.mono hc hs, fun z hz => by cases hz⟩⟩
  exact hP.kept (fun k q hk => hq q.1 ((hP k q hk).lt))
/-- caught by the first row of this method's table -/
theorem xcatch {own name E : String} {ce : Cell} {q : Addr} {rest : List Value} (hown : s.vm.findClass own = some m.cls) (x : ExceptionTableEntry) (suf : List ExceptionTableEntry) (hsplit : c.exceptionTable.toList = x :: suf)
    (hcov : covers x pc = true) (h0 : x.catchType ≠ 0)
    (hlink : (Cond.classLink own x.catchType name).before args s = true) (hcast : (Cond.castable E name).before args s = true) (hce : H[q]? = some ce) (hcv : ce.vm = .none) (hcl : s.vm.findClass E = some ce.cls)
    (kk : W p l e R s m args below meth c H locs cells slots Q (F0 m x.handlerPc ls [.ref q])) : xW p l e R s m args below meth c H locs cells slots Q (F0 m pc ls rest) q := by
  intro T hT X
  have hpl : e.platform.magicAccessors = ({} : Platform).magicAccessors := by rw [X.admits.platform]
  obtain ⟨c3, c4, hc3, hc4, hasg⟩ := Cond.castable_spec hcast
  cases hc3.symm.trans hcl
  obtain ⟨c5, hc5, hcl5⟩ := Cond.classLink_spec hown hlink e.platform hpl
  cases hc4.symm.trans hc5
  obtain ⟨k9, h9, -⟩ := Vm.findClass_spec hcl
  obtain ⟨vm', X', st⟩ := kc_one X (a := q) (g := F0 m pc ls rest) rfl (by rw [hT]; exact hce) (by rw [hcv]; rfl) ⟨k9, h9⟩ x suf hsplit hcov h0 hcl5 hasg
  obtain ⟨t, a1, b1⟩ := kk (T.setVm vm') hT X'
  exact ⟨t, st.trans a1, b1⟩
end XD
section XF
variable {p : Program} {l : Launch} {e : Env} {R : Room} {s : State} {m : MethodId} {args : Array Value} {below : List Frame} {meth : Method} {c : Code} {H : Heap} {locs : List Loc} {cells slots mc ms : Nat} {Q : State → Prop} {cc : ByteArray} {pc : Nat} {ls : Array Slot} {D : va_G} {A : Nat → Prop} {w1 : va_W}
theorem xret {g : JFrame} {Qc : Array Value → State → Outcome → State → Prop} {XC : String → State → State → Prop} {free : Addr → Prop} (hc : cells ≤ mc) (hs : slots ≤ ms) (k : W p l e R s m args below meth c H locs mc ms (MQ below Qc args s mc ms free) g) : W p l e R s m args below meth c H locs cells slots (xMQ below Qc XC args s mc ms free mc ms free) g := by
  refine W.widen hc hs ?_
  intro T hT X
  obtain ⟨t, a1, o, b1, b2, b3, b4⟩ := k T hT X
  exact ⟨t, a1, o, b1, b2, Or.inl ⟨b3, b4⟩⟩
theorem xu_iret {v : Int32} (hx : p.tables.exec = Jvm.exec) (hb : c.code = cc) (hr : meth.sig.returnType = some .int) (hlocks : meth.locks = false) (hQ : Q = xMQ below (xR 0 D (some (.int v)) w1 A) (xX 0 D w1 A) args s mc ms A mc ms A) (hc : cells ≤ mc) (hs : slots ≤ ms) (hP : va_P D vwCl w1 H) (hD : va_D A w1) (hS : va_S A s.heap H locs) (hdg : decode cc pc = .ok (.ireturn, 1)) : W p l e R s m args below meth c H locs cells slots Q (F0 m pc ls [.int v]) := by
  subst hQ
  exact xret hc hs (W.iret hx hb hr (fun t ht _ => ⟨rfl, rfl, by rw [ht]; exact hP, hD, hS.F ht⟩) hS.2.2 hdg hlocks)
theorem xu_zret {v : Int32} (hx : p.tables.exec = Jvm.exec) (hb : c.code = cc) (hr : meth.sig.returnType = some .boolean) (hlocks : meth.locks = false) (hQ : Q = xMQ below (xR 0 D (some (.int v)) w1 A) (xX 0 D w1 A) args s mc ms A mc ms A) (hc : cells ≤ mc) (hs : slots ≤ ms) (hn : narrow .boolean (.int v) = .int v) (hP : va_P D vwCl w1 H) (hD : va_D A w1) (hS : va_S A s.heap H locs) (hdg : decode cc pc = .ok (.ireturn, 1)) : W p l e R s m args below meth c H locs cells slots Q (F0 m pc ls [.int v]) := by
  subst hQ
  exact xret hc hs (W.zret hx hb hr hn (fun t ht _ => ⟨rfl, rfl, by rw [ht]; exact hP, hD, hS.F ht⟩) hS.2.2 hdg hlocks)
theorem xu_lret {v : Int64} (hx : p.tables.exec = Jvm.exec) (hb : c.code = cc) (hr : meth.sig.returnType = some .long) (hlocks : meth.locks = false) (hQ : Q = xMQ below (xR 0 D (some (.long v)) w1 A) (xX 0 D w1 A) args s mc ms A mc ms A) (hc : cells ≤ mc) (hs : slots ≤ ms) (hP : va_P D vwCl w1 H) (hD : va_D A w1) (hS : va_S A s.heap H locs) (hdg : decode cc pc = .ok (.lreturn, 1)) : W p l e R s m args below meth c H locs cells slots Q (F0 m pc ls [.long v]) := by
  subst hQ
  exact xret hc hs (W.lret hx hb hr (fun t ht _ => ⟨rfl, rfl, by rw [ht]; exact hP, hD, hS.F ht⟩) hS.2.2 hdg hlocks)
end XF
theorem xU_of {l : Launch} {y : MethodName} {rm : Room} {cc : ByteArray} {maxL tag mc ms : Nat} {ret : Option FieldType} {D : va_G} {av : List Value} {w w1 : va_W} {tys : List (ClassId × FieldType)} {Qc : (Nat → Prop) → Array Value → State → Outcome → State → Prop} {rc rs : Nat} {rf : (Nat → Prop) → Addr → Prop}
    (hy : plainName y.cls = true) (hlen : (lg_sl av).length ≤ maxL)
    (body : ∀ (p : Program) (e : Env) (s : State) (m : MethodId) (args : Array Value) (below : List Frame) (meth : Method) (c : Code) (Q : State → Prop) (A : Nat → Prop), Q = xMQ below (Qc A) (xX tag D w1 A) args s mc ms A rc rs (rf A) → kFx p s m meth c args cc maxL ret y.cls kTb → (∀ x ∈ c.exceptionTable.toList, False) → va_K D vwCl tys s → kN s → xK s s.heap → (∀ q : Nat, s.heap.size ≤ q → A q) → va_P D vwCl w s.heap → va_D A w → ∀ (ls : Array Slot), lv_has ls maxL (lv_args 0 av) → W p l e rm s m args below meth c s.heap [] 0 0 Q (F0 m 0 ls [])) :
    ∀ sz : Nat, xMet l y (kws y cc maxL ret) rm (xPre D av w tys sz) (Qc (va_A w sz)) (xX tag D w1 (va_A w sz)) mc ms (va_A w sz) rc rs (rf (va_A w sz)) := by
  intro sz
  refine MetFree.of_bodyS (code := cc) (maxLocals := maxL) (ret := ret) hy ?_ ?_
  · intro args s m h hn
    obtain ⟨meth, c, h1, h2, h3, h4, h5, h6, -, -⟩ := Cond.code_spec hn (atoms_spec (ws := kws y cc maxL ret) h _ List.mem_cons_self)
    exact ⟨meth, c, h1, h2, h3, h4, h5, h6⟩
  · intro p e s m args below meth c s₁ B hml hv _
    obtain ⟨rfl, hsz, hP, hK, hD0, hN, hXK⟩ := hv
    subst hsz
    have hh0 : s₁.heap = s.heap := by rw [B.state]; rfl
    have hl := lv_entry av (n := maxL) hlen
    have hno : ∀ x ∈ c.exceptionTable.toList, False := by
      have h1 := B.noHandlers (atoms_spec (ws := kws y cc maxL ret) B.pre _ List.mem_cons_self)
      intro x hx
      rw [Array.isEmpty_iff] at h1
      rw [h1] at hx
      cases hx
    have K := body p e s m _ below meth c _ (va_A w s.heap.size) rfl ⟨B.exec, B.bytes, B.returns, hml, findClass_of_methodNamed B.named, fun w h => atoms_spec (ws := kws y cc maxL ret) B.pre w (List.mem_cons_of_mem _ h), B.notSynchronized⟩ hno hK hN hXK (fun q h => Or.inr h) hP (hD0.self (sz := s.heap.size)) _ hl
    rw [← lg_entry_eq] at K
    obtain ⟨t, a1, o, b1, b2, b3⟩ := K s₁ hh0 (Stand.of_body B)
    exact ⟨t, o, a1, b1, b2, b3⟩
/-! methods that only check: they return with nothing changed, or throw -/
def xV (tag : Nat) : Array Value → State → Outcome → State → Prop := fun _ st oc t => tag = 0 ∧ oc = .returned none ∧ t.heap = st.heap
section XG
variable {p : Program} {l : Launch} {e : Env} {R : Room} {s : State} {m : MethodId} {args : Array Value} {below : List Frame} {meth : Method} {c : Code} {H : Heap} {locs : List Loc} {cells slots mc ms : Nat} {Q : State → Prop} {cc : ByteArray} {pc : Nat} {ls : Array Slot} {D : va_G} {A : Nat → Prop} {w1 : va_W}
theorem xc_vret (hx : p.tables.exec = Jvm.exec) (hb : c.code = cc) (hr : meth.sig.returnType = none) (hlocks : meth.locks = false) (hQ : Q = xMQ below (xV 0) (xX 0 D w1 A) args s mc ms A 0 0 (fun _ => False)) (hdg : decode cc pc = .ok (.return_, 1)) : W p l e R s m args below meth c s.heap [] 0 0 Q (F0 m pc ls []) := by
  subst hQ
  have k : W p l e R s m args below meth c s.heap [] 0 0 (MQ below (xV 0) args s 0 0 (fun _ => False)) (F0 m pc ls []) := W.vret hx hb hr (fun t ht _ => ⟨rfl, rfl, ht⟩) (fun _ h => by cases h) hdg hlocks
  intro T hT X
  obtain ⟨t, a1, o, b1, b2, b3, b4⟩ := k T hT X
  exact ⟨t, a1, o, b1, b2, Or.inl ⟨b3, b4⟩⟩
theorem xc_call {tag : Nat} {a : Array Value} {st0 rest : List Value} {ws wc wr : va_W} {H0 : Heap} (hA : ∀ q : Nat, H0.size ≤ q → A q) (hr : xRun p l e R s m args below meth c H locs cells slots mc ms (F0 m pc ls st0) rest (xV tag a) (xX tag D w1 (va_A wc H.size)) (va_A wc H.size) 0 0 (fun _ => False))
    (hP : va_P D vwCl ws H) (hD : va_D A ws) (hS : va_S A H0 H locs) (isC isR : List Nat) (hC : isC.map (fun i => ws[i]?) = wc.map some) (hR : isR.map (fun i => ws[i]?) = wr.map some) (hn : va_nd isR = true) (hdis : ∀ i ∈ isR, i ∉ isC)
    (kx : tag ≠ 0 → ∀ (H : Heap) (locs : List Loc) (q : Addr) (ce : Cell), va_P D vwCl (wr ++ w1) H → va_D A (wr ++ w1) → va_S A H0 H locs → H[q]? = some ce → ce.vm = .none → s.vm.findClass (xE tag) = some ce.cls → xW p l e R s m args below meth c H locs (cells + mc) (slots + ms) Q (F0 m pc ls rest) q)
    (kk : tag = 0 → W p l e R s m args below meth c H locs cells slots Q (F0 m (pc + 3) ls rest)) : W p l e R s m args below meth c H locs cells slots Q (F0 m pc ls st0) := by
  have hFc := va_free (wc := wc) hD hS hA isC hC
  intro T hT X
  rcases hr T hT X with ⟨v, st₀, t, T', L, h0, X', hL, e1, ⟨htag, hv, hh⟩, st⟩ | ⟨q, st₀, t, T', L, E, ce, h0, X', hL, e1, ⟨htag, rfl, hP1, hD1, hz, hk⟩, hce, hcv, hcl, st⟩
  · cases hv
    have hL0 : L = [] := List.eq_nil_iff_forall_not_mem.mpr hL
    subst hL0
    rw [List.append_nil] at X'
    obtain ⟨t2, a1, b1⟩ := kk htag T' (by rw [e1, hh, h0]) X'
    exact ⟨t2, st t2 a1, b1⟩
  · rw [h0] at hz hk
    obtain ⟨jP, jD⟩ := va_join (H1 := T'.heap) hP hD isC isR hC hR hn hdis (fun q h1 h2 => by rw [e1]; exact hk q h1 h2) hFc (by rw [e1]; exact hP1) hD1
    obtain ⟨t2, a1, b1⟩ := kx htag T'.heap (locs ++ L) q ce jP jD
      ⟨Nat.le_trans hS.1 (by rw [e1]; exact hz), fun q h1 h2 => by rw [e1, hk q (Nat.lt_of_lt_of_le h1 hS.1) (fun z => h2 (hFc q z))]; exact hS.2.1 q h1 h2, fun q hq => by
        rcases List.mem_append.mp hq with h | h
        · exact hS.2.2 q h
        · exact hFc _ (hL q h)⟩ (by rw [e1]; exact hce) hcv hcl T' rfl X'
    exact ⟨t2, st.trans a1, b1⟩
end XG
theorem xall_1 : (Bundle.ownAtoms "BitPlanes" 128 (xE 1) ["java/lang/RuntimeException", "java/lang/Exception"]).all (fun w => (goodWord w && decide (w ∈ lw_tbl)) || decide (w ∈ xSp (xE 1))) = true := by decide +kernel
theorem xall_2 : (Bundle.ownAtoms "BitPlanes" 79 (xE 2) ["java/lang/RuntimeException", "java/lang/Exception"]).all (fun w => (goodWord w && decide (w ∈ lw_tbl)) || decide (w ∈ xSp (xE 2))) = true := by decide +kernel
theorem xall_3 : (Bundle.ownAtoms "BitPlanes" 205 (xE 3) ["java/lang/RuntimeException", "java/lang/Exception"]).all (fun w => (goodWord w && decide (w ∈ lw_tbl)) || decide (w ∈ xSp (xE 3))) = true := by decide +kernel

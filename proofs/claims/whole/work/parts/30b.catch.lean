/-! OWN ROWS: a throw that reaches a row of the method's own table of handlers; the row's entry may be resolved by this -/
section KC
variable {p : Program} {l : Launch} {e : Env} {R : Room} {s : State} {m : MethodId} {args : Array Value} {below : List Frame} {meth : Method} {c : Code} {T : State} {locs : List Loc} {cells slots : Nat}
/-- one row that names a type: it takes the object, or the search goes on; the entry stands resolved either way -/
theorem kc_row {Q : Handler → Pre} {E : CtlPost} {d : Bool} {acts : List Action} {S : State} {f : JFrame} {a : Addr} {x : ExceptionTableEntry} {t : List ExceptionTableEntry} {k : ClassId} {cell : Cell} (hx : covers x f.pc = true) (h0 : x.catchType ≠ 0)
    (hl : S.vm.ClassLinks e.platform f.method.cls x.catchType k) (hcell : S.heap[a]? = some cell) (hobj : ∀ j, cell.vm ≠ .statics j) (hk : ∃ j, S.vm.classes[cell.cls]? = some j) (hc : ∃ j, S.vm.classes[k]? = some j) :
    wp (findHandler.go f a (x :: t)) Q E e d acts S ↔
      if S.vm.assignable cell.cls k = true then Q (.found x.handlerPc) d acts (S.setVm (S.vm.noted f.method.cls x.catchType (.cls k))) else wp (findHandler.go f a t) Q E e d acts (S.setVm (S.vm.noted f.method.cls x.catchType (.cls k))) := by
  obtain ⟨r1, r2⟩ := (resolveClass_links e.toSetting hl).op (op := VmOp.resolveClass f.method.cls x.catchType) rfl
  have ha : S.vm.Alike (S.vm.noted f.method.cls x.catchType (.cls k)) := (Vm.Alike.refl S.vm).noted _ _ _
  have hs := ha.assignable cell.cls k
  obtain ⟨j1, w1⟩ := hk
  obtain ⟨j2, w2⟩ := hc
  obtain ⟨u1, v1, -⟩ := ha.2.2 _ _ w1
  obtain ⟨u2, v2, -⟩ := ha.2.2 _ _ w2
  simp only [covers] at hx
  cases hq : S.vm.assignable cell.cls k <;> rw [hq] at hs <;> simp [findHandler.go, hx, h0, r1, r2, hcell, hobj, v1, v2, hs, VmOp.dirties, VmOp.acts]
/-- the machine's step, and where the walk stands then -/
theorem kc_go (X : Stand p l e R s m args below meth c T locs cells slots) {a : Addr} {pc : Nat} {vm' : Vm} {g : JFrame} (hg : g.method = m) (hW : s.WarmedH vm')
    (hf : ∀ (Q : Handler → Pre) (E : CtlPost) (d : Bool) (acts : List Action), wp (findHandler.go g a c.exceptionTable.toList) Q E e d acts ((T.setTop g).pushFrame (.throwing a)) ↔ Q (.found pc) d acts (((T.setTop g).pushFrame (.throwing a)).setVm vm')) :
    Stand p l e R s m args below meth c (T.setVm vm') locs cells slots ∧ Steps p.tables e below ((T.setTop g).pushFrame (.throwing a)) ((T.setVm vm').setTop { g with pc := pc, stack := [.ref a] }) := by
  subst hg
  refine ⟨X.noted hW, ?_⟩
  obtain ⟨g0, hfr⟩ := X.frames_eq
  obtain ⟨h1, h2⟩ := X.here.throwing a
  have hm : ((T.setTop g).pushFrame (.throwing a)).vm.method? g.method = some meth := X.method'
  have hstep : (stepThrowing e ((T.setTop g).pushFrame (.throwing a)) a (.java g :: T.frames.tail)).Is ((((T.setTop g).pushFrame (.throwing a)).setVm vm').setFrames (.java { g with pc := pc, stack := [.ref a] } :: T.frames.tail)) [] := by
    simp only [stepThrowing, searchFrame, vmDo]
    generalize hr : Sem.go _ e false [] ((T.setTop g).pushFrame (.throwing a)) = res
    obtain ⟨as, rfl, hh⟩ := Sem.eq_ok_of hr (a := Handler.found pc) (s' := ((T.setTop g).pushFrame (.throwing a)).setVm vm') (acts' := []) (by simp [W.findHandler_eq hm X.code, hf _ _ _ _])
    exact ⟨rfl, hh⟩
  refine Steps.head h1 h2 ?_
  rw [stepThread_throwing (frames_entered X.here.top _), hstep.1]
  have hfr' : (T.setVm vm').frames = .java g0 :: below := hfr
  have q1 : ((T.setTop g).pushFrame (.throwing a)).setVm vm' = ((T.setVm vm').setTop g).pushFrame (.throwing a) := rfl
  rw [q1, State.pushFrame, State.setFrames_setFrames, State.setTop_of_frames _ hfr', State.setFrames_setFrames, State.setTop_of_frames _ hfr', hfr]
  exact Steps.refl _
/-- the first row takes it -/
theorem kc_one (X : Stand p l e R s m args below meth c T locs cells slots) {a : Addr} {g : JFrame} (hg : g.method = m) {cell : Cell} (hcell : T.heap[a]? = some cell) (hobj : cell.vm.isStatics = false) (hk0 : ∃ k, s.vm.classes[cell.cls]? = some k)
    (x : ExceptionTableEntry) (t : List ExceptionTableEntry) (hsplit : c.exceptionTable.toList = x :: t) (hx : covers x g.pc = true) (h0 : x.catchType ≠ 0) {kx : ClassId} (hl : s.vm.ClassLinks e.platform m.cls x.catchType kx) (has : s.vm.assignable cell.cls kx = true) :
    ∃ vm', Stand p l e R s m args below meth c (T.setVm vm') locs cells slots ∧ Steps p.tables e below ((T.setTop g).pushFrame (.throwing a)) ((T.setVm vm').setTop { g with pc := x.handlerPc, stack := [.ref a] }) := by
  subst hg
  obtain ⟨k0, w0⟩ := hk0
  obtain ⟨dk, _, _, kt, hd, _, _, _, _, hkt, _, hop⟩ := hl.here
  obtain ⟨u1, v1, -⟩ := X.warmed.alike.2.2 _ _ w0
  obtain ⟨u2, v2, -⟩ := X.warmed.alike.2.2 _ _ hkt
  refine ⟨_, kc_go X rfl (X.warmed.noted hd hop (State.rightAt_cls hl)) (fun Q E d acts => ?_)⟩
  rw [hsplit]
  refine (kc_row (S := (T.setTop g).pushFrame (.throwing a)) hx h0 (X.warmed.classLinks hl) hcell (VmData.ne_statics_of hobj) ⟨u1, v1⟩ ⟨u2, v2⟩).trans ?_
  rw [if_pos (show ((T.setTop g).pushFrame (.throwing a)).vm.assignable cell.cls kx = true from (X.warmed.alike.assignable _ _).trans has)]
  exact Iff.rfl
/-- the first row doesn't take it, the second does -/
theorem kc_two (X : Stand p l e R s m args below meth c T locs cells slots) {a : Addr} {g : JFrame} (hg : g.method = m) {cell : Cell} (hcell : T.heap[a]? = some cell) (hobj : cell.vm.isStatics = false) (hk0 : ∃ k, s.vm.classes[cell.cls]? = some k)
    (y x : ExceptionTableEntry) (t : List ExceptionTableEntry) (hsplit : c.exceptionTable.toList = y :: x :: t) (hy0 : y.catchType ≠ 0) {ky : ClassId} (hly : s.vm.ClassLinks e.platform m.cls y.catchType ky) (hno : s.vm.assignable cell.cls ky = false)
    (hx : covers x g.pc = true) (h0 : x.catchType ≠ 0) {kx : ClassId} (hl : s.vm.ClassLinks e.platform m.cls x.catchType kx) (has : s.vm.assignable cell.cls kx = true) :
    ∃ vm', Stand p l e R s m args below meth c (T.setVm vm') locs cells slots ∧ Steps p.tables e below ((T.setTop g).pushFrame (.throwing a)) ((T.setVm vm').setTop { g with pc := x.handlerPc, stack := [.ref a] }) := by
  subst hg
  obtain ⟨k0, w0⟩ := hk0
  have fin : ∀ (S : State), S.heap = T.heap → s.WarmedH S.vm → ∀ (Q : Handler → Pre) (E : CtlPost) (d : Bool) (acts : List Action), wp (findHandler.go g a (x :: t)) Q E e d acts S ↔ Q (.found x.handlerPc) d acts (S.setVm (S.vm.noted g.method.cls x.catchType (.cls kx))) := by
    intro S hS hW Q E d acts
    obtain ⟨dk, _, _, kt, hd, _, _, _, _, hkt, _, hop⟩ := hl.here
    obtain ⟨u1, v1, -⟩ := hW.alike.2.2 _ _ w0
    obtain ⟨u2, v2, -⟩ := hW.alike.2.2 _ _ hkt
    refine (kc_row hx h0 (hW.classLinks hl) (by rw [hS]; exact hcell) (VmData.ne_statics_of hobj) ⟨u1, v1⟩ ⟨u2, v2⟩).trans ?_
    rw [if_pos ((hW.alike.assignable _ _).trans has)]
  obtain ⟨dx, _, _, _, hdx, _, _, _, _, _, _, hopx⟩ := hl.here
  by_cases hcov : covers y g.pc = true
  · obtain ⟨dk, _, _, kt, hd, _, _, _, _, hkt, _, hop⟩ := hly.here
    obtain ⟨u1, v1, -⟩ := X.warmed.alike.2.2 _ _ w0
    obtain ⟨u2, v2, -⟩ := X.warmed.alike.2.2 _ _ hkt
    have hW1 := X.warmed.noted hd hop (State.rightAt_cls hly)
    refine ⟨_, kc_go X rfl (hW1.noted hdx hopx (State.rightAt_cls hl)) (fun Q E d acts => ?_)⟩
    rw [hsplit]
    refine (kc_row (S := (T.setTop g).pushFrame (.throwing a)) hcov hy0 (X.warmed.classLinks hly) hcell (VmData.ne_statics_of hobj) ⟨u1, v1⟩ ⟨u2, v2⟩).trans ?_
    rw [if_neg (show ¬ ((T.setTop g).pushFrame (.throwing a)).vm.assignable cell.cls ky = true by
      rw [show ((T.setTop g).pushFrame (.throwing a)).vm.assignable cell.cls ky = false from (X.warmed.alike.assignable _ _).trans hno]; decide)]
    exact fin (((T.setTop g).pushFrame (.throwing a)).setVm (((T.setTop g).pushFrame (.throwing a)).vm.noted g.method.cls y.catchType (.cls ky))) rfl hW1 Q E d acts
  · refine ⟨_, kc_go X rfl (X.warmed.noted hdx hopx (State.rightAt_cls hl)) (fun Q E d acts => ?_)⟩
    rw [hsplit, W.findHandler_go_skip (by simpa using hcov)]
    exact fin ((T.setTop g).pushFrame (.throwing a)) rfl X.warmed Q E d acts
end KC

/-! OWN ROWS: methods that return or throw, at a launch without stack traces -/
def xZ1 (C n d : String) (U : State) (H : Heap) : Prop := ∃ (c : ClassId) (i a : Nat) (k : Class) (f : Field) (cell : Cell) (v : Value), U.vm.findClass C = some c ∧ U.fieldFound? C n d = some (c, k, i, f) ∧ f.isStatic = true ∧ k.statics = some a ∧ H[a]? = some cell ∧ cell.vm.isStatics = true ∧ cell.cls = c ∧ f.slot < cell.slots.size ∧ k.staticTypes[f.slot]? = some f.type ∧ cell.slots[f.slot]? = some v ∧ v.isRef = true
theorem xZ1.of {args : Array Value} {s : State} {C n d : String} (hl : (Cond.laysStatic C n d).before args s = true) (h : (Cond.isRef (.static C n d)).before args s = true) : xZ1 C n d s s.heap := by
  obtain ⟨c, k, i, f, a, cell, hc, hi, hst, ha, hcell, hs, hcls, hlt, hty⟩ := Cond.laysStatic_spec hl
  cases hv : (Term.static C n d).eval args s none [] s with
  | none => simp [Cond.before, Cond.holds, Cond.value, hv] at h
  | some w =>
    obtain ⟨hst', a', cell', ha', hcell', -, hslot⟩ := Term.static_spec hi hv
    cases ha.symm.trans ha'
    cases hcell.symm.trans hcell'
    refine ⟨c, i, a, k, f, cell, w, hc, hi, hst, ha, hcell, hs, hcls, hlt, hty, hslot, ?_⟩
    simp only [Cond.before, Cond.holds, Cond.value, hv] at h
    cases w <;> simp_all [Value.isRef]
theorem xZ1.moved {C n d : String} {u U : State} {H : Heap} (hvm : u.vm.Alike U.vm) (h : xZ1 C n d u H) : xZ1 C n d U H := by
  obtain ⟨c, i, a, k, f, cell, v, hc, hi, h1, h2, h3, h4, h5, h6, h7, h8, h9⟩ := h
  obtain ⟨k', hi', he⟩ := State.fieldFound?_setVm hvm hi
  exact ⟨c, i, a, k', f, cell, v, by rw [hvm.findClass]; exact hc, hi', h1, by rw [he]; exact h2, h3, h4, h5, h6, by rw [he]; exact h7, h8, h9⟩
theorem xZ1.kept {C n d : String} {U : State} {H H1 : Heap} (h : xZ1 C n d U H) (hq : ∀ a : Nat, a < H.size → H1[a]? = H[a]?) : xZ1 C n d U H1 := by
  obtain ⟨c, i, a, k, f, cell, v, hc, hi, h1, h2, h3, h4, h5, h6, h7, h8, h9⟩ := h
  exact ⟨c, i, a, k, f, cell, v, hc, hi, h1, h2, by rw [hq a (Array.getElem?_eq_some_iff.mp h3).1]; exact h3, h4, h5, h6, h7, h8, h9⟩
theorem xZ1.lays {C n d : String} {U : State} {args : Array Value} (h : xZ1 C n d U U.heap) : (Cond.laysStatic C n d).before args U = true := by
  obtain ⟨c, i, a, k, f, cell, v, hc, hi, h1, h2, h3, h4, h5, h6, h7, h8, h9⟩ := h
  exact Cond.laysStatic_of hc hi h1 h2 h3 h4 h5 h6 h7
theorem xZ1.ref {C n d : String} {U : State} {args : Array Value} (h : xZ1 C n d U U.heap) : (Cond.isRef (.static C n d)).before args U = true := by
  obtain ⟨c, i, a, k, f, cell, v, hc, hi, h1, h2, h3, h4, h5, h6, h7, h8, h9⟩ := h
  have ev : (Term.static C n d).eval args U none [] U = some v := by
    simp [Term.eval, State.fieldNamed?, hi, h1, h2, h3, h4, h8]
  simp only [Cond.before, Cond.holds, Cond.value, ev]
  cases v <;> simp_all [Value.isRef]
def xZ (U : State) (H : Heap) : Prop := xZ1 Bundle.tN "UNASSIGNED_STACK" Bundle.steD U H ∧ xZ1 Bundle.tN "SUPPRESSED_SENTINEL" Bundle.listD U H
def xS (U : State) : Prop := (∃ a, vk_R "BitPlanes" 197 "no such sample" a U) ∧ (∃ a, vk_R "BitPlanes" 77 "no value of a sample" a U) ∧ (∃ a, vk_R "BitPlanes" 126 "no such bit" a U) ∧ (∃ a, vk_R "BitPlanes" 138 "nothing of a bit that is told" a U) ∧ (∃ a, vk_R "BitPlanes" 199 "no such pass" a U) ∧ (∃ a, vk_R "BitPlanes" 149 "neither 0 nor 1" a U) ∧ (∃ a, vk_R "BitPlanes" 203 "too many bits to be read" a U) ∧ (∃ a, vk_R "BitPlanes" 158 "fewer bits than none" a U) ∧ (∃ a, vk_R "BitPlanes" 165 "no such bit to be read" a U) ∧ (∃ a, vk_R "BitPlanes" 170 "no such planes or passes" a U)
theorem xS.warm {s U : State} (hW : s.WarmedH U.vm) (h : xS s) : xS U := by
  obtain ⟨⟨a0, h0⟩, ⟨a1, h1⟩, ⟨a2, h2⟩, ⟨a3, h3⟩, ⟨a4, h4⟩, ⟨a5, h5⟩, ⟨a6, h6⟩, ⟨a7, h7⟩, ⟨a8, h8⟩, ⟨a9, h9⟩⟩ := h
  exact ⟨⟨a0, vk_R.warm hW h0⟩, ⟨a1, vk_R.warm hW h1⟩, ⟨a2, vk_R.warm hW h2⟩, ⟨a3, vk_R.warm hW h3⟩, ⟨a4, vk_R.warm hW h4⟩, ⟨a5, vk_R.warm hW h5⟩, ⟨a6, vk_R.warm hW h6⟩, ⟨a7, vk_R.warm hW h7⟩, ⟨a8, vk_R.warm hW h8⟩, ⟨a9, vk_R.warm hW h9⟩⟩
theorem xS.same {u U : State} (hv : u.vm = U.vm) (h : xS u) : xS U := by
  obtain ⟨⟨a0, h0⟩, ⟨a1, h1⟩, ⟨a2, h2⟩, ⟨a3, h3⟩, ⟨a4, h4⟩, ⟨a5, h5⟩, ⟨a6, h6⟩, ⟨a7, h7⟩, ⟨a8, h8⟩, ⟨a9, h9⟩⟩ := h
  exact ⟨⟨a0, vk_R.same hv.symm h0⟩, ⟨a1, vk_R.same hv.symm h1⟩, ⟨a2, vk_R.same hv.symm h2⟩, ⟨a3, vk_R.same hv.symm h3⟩, ⟨a4, vk_R.same hv.symm h4⟩, ⟨a5, vk_R.same hv.symm h5⟩, ⟨a6, vk_R.same hv.symm h6⟩, ⟨a7, vk_R.same hv.symm h7⟩, ⟨a8, vk_R.same hv.symm h8⟩, ⟨a9, vk_R.same hv.symm h9⟩⟩
theorem xs_197 {U : State} (h : xS U) : ∃ a, vk_R "BitPlanes" 197 "no such sample" a U := h.1
theorem xs_77 {U : State} (h : xS U) : ∃ a, vk_R "BitPlanes" 77 "no value of a sample" a U := h.2.1
theorem xs_126 {U : State} (h : xS U) : ∃ a, vk_R "BitPlanes" 126 "no such bit" a U := h.2.2.1
theorem xs_138 {U : State} (h : xS U) : ∃ a, vk_R "BitPlanes" 138 "nothing of a bit that is told" a U := h.2.2.2.1
theorem xs_199 {U : State} (h : xS U) : ∃ a, vk_R "BitPlanes" 199 "no such pass" a U := h.2.2.2.2.1
theorem xs_149 {U : State} (h : xS U) : ∃ a, vk_R "BitPlanes" 149 "neither 0 nor 1" a U := h.2.2.2.2.2.1
theorem xs_203 {U : State} (h : xS U) : ∃ a, vk_R "BitPlanes" 203 "too many bits to be read" a U := h.2.2.2.2.2.2.1
theorem xs_158 {U : State} (h : xS U) : ∃ a, vk_R "BitPlanes" 158 "fewer bits than none" a U := h.2.2.2.2.2.2.2.1
theorem xs_165 {U : State} (h : xS U) : ∃ a, vk_R "BitPlanes" 165 "no such bit to be read" a U := h.2.2.2.2.2.2.2.2.1
theorem xs_170 {U : State} (h : xS U) : ∃ a, vk_R "BitPlanes" 170 "no such planes or passes" a U := h.2.2.2.2.2.2.2.2.2
def xN (U : State) : Prop := va_Nw (Jvm.Cond.castable "java/lang/IndexOutOfBoundsException" "java/lang/IndexOutOfBoundsException") U ∧ va_Nw (Jvm.Cond.castable "java/lang/IllegalArgumentException" "java/lang/IllegalArgumentException") U ∧ va_Nw (Jvm.Cond.castable "java/lang/UnsupportedOperationException" "java/lang/UnsupportedOperationException") U ∧ va_Nw (Jvm.Cond.declares ({ cls := "java/lang/RuntimeException", name := "<init>", desc := "(Ljava/lang/String;)V" } : Jvm.MethodName)) U ∧ va_Nw (Jvm.Cond.declares ({ cls := "java/lang/Exception", name := "<init>", desc := "(Ljava/lang/String;)V" } : Jvm.MethodName)) U ∧ va_Nw (Jvm.Cond.declares ({ cls := "java/lang/Throwable", name := "<init>", desc := "(Ljava/lang/String;)V" } : Jvm.MethodName)) U
theorem xN.warm {s U : State} (hW : s.WarmedH U.vm) (h : xN s) : xN U := by
  obtain ⟨h0, h1, h2, h3, h4, h5⟩ := h
  exact ⟨va_Nw.warmC hW h0, va_Nw.warmC hW h1, va_Nw.warmC hW h2, va_Nw.warmD hW h3, va_Nw.warmD hW h4, va_Nw.warmD hW h5⟩
theorem xN.same {u U : State} (hv : u.vm = U.vm) (h : xN u) : xN U := by
  obtain ⟨h0, h1, h2, h3, h4, h5⟩ := h
  exact ⟨va_Nw.same rfl hv h0, va_Nw.same rfl hv h1, va_Nw.same rfl hv h2, va_Nw.same rfl hv h3, va_Nw.same rfl hv h4, va_Nw.same rfl hv h5⟩
theorem xn_1 {U : State} (h : xN U) : va_Nw (Jvm.Cond.castable "java/lang/IndexOutOfBoundsException" "java/lang/IndexOutOfBoundsException") U := h.1
theorem xn_2 {U : State} (h : xN U) : va_Nw (Jvm.Cond.castable "java/lang/IllegalArgumentException" "java/lang/IllegalArgumentException") U := h.2.1
theorem xn_3 {U : State} (h : xN U) : va_Nw (Jvm.Cond.castable "java/lang/UnsupportedOperationException" "java/lang/UnsupportedOperationException") U := h.2.2.1
theorem xn_r {U : State} (h : xN U) : va_Nw (Jvm.Cond.declares ({ cls := "java/lang/RuntimeException", name := "<init>", desc := "(Ljava/lang/String;)V" } : Jvm.MethodName)) U := h.2.2.2.1
theorem xn_e {U : State} (h : xN U) : va_Nw (Jvm.Cond.declares ({ cls := "java/lang/Exception", name := "<init>", desc := "(Ljava/lang/String;)V" } : Jvm.MethodName)) U := h.2.2.2.2.1
theorem xn_t {U : State} (h : xN U) : va_Nw (Jvm.Cond.declares ({ cls := "java/lang/Throwable", name := "<init>", desc := "(Ljava/lang/String;)V" } : Jvm.MethodName)) U := h.2.2.2.2.2
theorem xN.of {a : Array Value} {s : State} (hts : ∀ w ∈ lw_tbl, w.before a s = true) : xN s := ⟨va_Nw.of rfl (hts _ (kl2 146 (by decide +kernel))), va_Nw.of rfl (hts _ (kl2 214 (by decide +kernel))), va_Nw.of rfl (hts _ (kl3 59 (by decide +kernel))), va_Nw.of rfl (hts _ (kl2 148 (by decide +kernel))), va_Nw.of rfl (hts _ (kl2 150 (by decide +kernel))), va_Nw.of rfl (hts _ (kl2 152 (by decide +kernel)))⟩
def xK (U : State) (H : Heap) : Prop := xZ U H ∧ xS U ∧ xN U
theorem xK.warm {s U : State} {H : Heap} (hW : s.WarmedH U.vm) (h : xK s H) : xK U H := ⟨⟨h.1.1.moved hW.alike, h.1.2.moved hW.alike⟩, h.2.1.warm hW, h.2.2.warm hW⟩
theorem xK.same {u U : State} {H : Heap} (hv : u.vm = U.vm) (h : xK u H) : xK U H := ⟨⟨h.1.1.moved (by rw [hv]; exact Vm.Alike.refl _), h.1.2.moved (by rw [hv]; exact Vm.Alike.refl _)⟩, h.2.1.same hv, h.2.2.same hv⟩
theorem xK.kept {U : State} {H H1 : Heap} (h : xK U H) (hq : ∀ a : Nat, a < H.size → H1[a]? = H[a]?) : xK U H1 := ⟨⟨h.1.1.kept hq, h.1.2.kept hq⟩, h.2⟩
/-- the exceptions by their numbers -/
def xE : Nat → String
  | 1 => "java/lang/IndexOutOfBoundsException"
  | 2 => "java/lang/IllegalArgumentException"
  | _ => "java/lang/UnsupportedOperationException"
def xSp (E : String) : List Cond := [.castable E E, .declares (Bundle.initS "java/lang/RuntimeException"), .declares (Bundle.initS "java/lang/Exception"), .declares (Bundle.initS Bundle.tN), .laysStatic Bundle.tN "UNASSIGNED_STACK" Bundle.steD, .laysStatic Bundle.tN "SUPPRESSED_SENTINEL" Bundle.listD, .isRef (.static Bundle.tN "UNASSIGNED_STACK" Bundle.steD), .isRef (.static Bundle.tN "SUPPRESSED_SENTINEL" Bundle.listD)]
theorem x_sp {E : String} {args : Array Value} {s : State} (hE : va_Nw (.castable E E) s) (h : xK s s.heap) : ∀ w ∈ xSp E, w.before args s = true := by
  intro w hw
  obtain ⟨⟨z1, z2⟩, -, hN⟩ := h
  rcases List.mem_cons.mp hw with rfl | hw
  · exact va_Nw.use rfl hE
  rcases List.mem_cons.mp hw with rfl | hw
  · exact va_Nw.use rfl (xn_r hN)
  rcases List.mem_cons.mp hw with rfl | hw
  · exact va_Nw.use rfl (xn_e hN)
  rcases List.mem_cons.mp hw with rfl | hw
  · exact va_Nw.use rfl (xn_t hN)
  rcases List.mem_cons.mp hw with rfl | hw
  · exact z1.lays
  rcases List.mem_cons.mp hw with rfl | hw
  · exact z2.lays
  rcases List.mem_cons.mp hw with rfl | hw
  · exact z1.ref
  rcases List.mem_cons.mp hw with rfl | hw
  · exact z2.ref
  cases hw
theorem x_atoms {E : String} {ic : Nat} {names : List String} {args : Array Value} {s : State} (hall : (Bundle.ownAtoms "BitPlanes" ic E names).all (fun w => (goodWord w && decide (w ∈ lw_tbl)) || decide (w ∈ xSp E)) = true) (hts : ∀ w ∈ kTb, w.before args s = true) (hE : va_Nw (.castable E E) s) (h : xK s s.heap) :
    ∀ w ∈ Bundle.ownAtoms "BitPlanes" ic E names, w.before args s = true := by
  intro w hw
  have h1 := List.all_eq_true.mp hall w hw
  simp only [Bool.or_eq_true, Bool.and_eq_true, decide_eq_true_eq] at h1
  rcases h1 with ⟨g, hm⟩ | hm
  · exact hts w (kmem hm g)
  · exact x_sp hE h w hm
/-- what the old cells are behind a method that wrote none of them -/
theorem x_same {s U : State} {k n : Nat} (h : s.sameButNew ({ U with vm := s.vm } : State) [] k n) : s.heap.size ≤ U.heap.size ∧ ∀ q : Nat, q < s.heap.size → U.heap[q]? = s.heap[q]? := by
  obtain ⟨-, h2, -, -, -, h6⟩ := h
  refine ⟨h2, fun q hq => ?_⟩
  obtain ⟨c', e1, e2, e3, e4⟩ := h6 q (s.heap[q]) (Array.getElem?_eq_getElem hq)
  have hsl : c'.slots = (s.heap[q]).slots := Array.ext_getElem? fun i => e4 i (by simp)
  have hc : c' = s.heap[q] := by
    rw [hsl] at e2
    exact e2
  have e5 : U.heap[q]? = some c' := e1
  rw [e5, hc, Array.getElem?_eq_getElem hq]
def xQ (Qc : Array Value → State → Outcome → State → Prop) (XC : String → State → State → Prop) (mc ms : Nat) (free : Addr → Prop) (rc rs : Nat) (rfree : Addr → Prop) : Array Value → State → Outcome → State → Prop := fun a st o t =>
  (Qc a st o t ∧ ∃ L, FrameEnd st o t L rc rs ∧ ∀ q ∈ L, rfree q.base) ∨
  ∃ (q : Addr) (E : String) (ce : Cell) (L : List Loc), o = .threw q ∧ XC E st t ∧ (t.heap[q]? = some ce ∧ ce.vm = .none ∧ st.vm.findClass E = some ce.cls) ∧ st.WarmedH t.vm ∧ st.sameButNew ({ t with vm := st.vm } : State) L mc ms ∧ ∀ z ∈ L, free z.base
def xMet (l : Launch) (y : MethodName) (ws : List Cond) (rm : Room) (Pc : Array Value → State → Prop) (Qc : Array Value → State → Outcome → State → Prop) (XC : String → State → State → Prop) (mc ms : Nat) (free : Addr → Prop) (rc rs : Nat) (rfree : Addr → Prop) : Prop :=
  MetFree l y (headSpec ws rm) Pc (fun _ _ _ _ _ => True) (xQ Qc XC mc ms free rc rs rfree)
def xMQ (below : List Frame) (Qc : Array Value → State → Outcome → State → Prop) (XC : String → State → State → Prop) (a : Array Value) (s : State) (mc ms : Nat) (free : Addr → Prop) (rc rs : Nat) (rfree : Addr → Prop) : State → Prop := fun t =>
  ∃ o, t.status = .running ∧ Ended t below o ∧ xQ Qc XC mc ms free rc rs rfree a s o t
section XB
variable {p : Program} {l : Launch} {e : Env} {R : Room} {s : State} {m : MethodId} {sargs : Array Value} {below : List Frame} {meth : Method} {c : Code}
/-- the caller's walk stands where a callee has ended, whichever way -/
theorem x_after {U s₂ : State} {Ls L : List Loc} {c0 s0 k n : Nat} {g : JFrame} {mk : MethodId} {a : Array Value} (X : Stand p l e R s m sargs below meth c U Ls c0 s0)
    (hW : U.WarmedH s₂.vm) (hs : (U.calling g mk a).sameButNew ({ s₂ with vm := (U.calling g mk a).vm } : State) L k n) :
    Stand p l e R s m sargs below meth c (({ U with heap := s₂.heap, slotsUsed := s₂.slotsUsed } : State).setVm s₂.vm) (Ls ++ L) (c0 + k) (s0 + n) ∧
    s₂ = (({ U with heap := s₂.heap, slotsUsed := s₂.slotsUsed } : State).setVm s₂.vm).setFrames s₂.frames := by
  obtain ⟨e2, q2, q3, q4, q5, q6⟩ := hs
  have h := X.here
  obtain ⟨g₀, hg0⟩ := Option.isSome_iff_exists.mp h.top
  obtain ⟨r, hr⟩ := State.topJava?_eq_some.mp hg0
  have e3 : s₂ = ({ (U.calling g mk a).setFrames s₂.frames with heap := s₂.heap, slotsUsed := s₂.slotsUsed } : State).setVm s₂.vm := by
    have h9 : s₂ = ({ s₂ with vm := (U.calling g mk a).vm } : State).setVm s₂.vm := rfl
    rw [e2] at h9
    exact h9
  have hsame : U.sameButNew ({ U with heap := s₂.heap, slotsUsed := s₂.slotsUsed } : State) L k n := by
    refine ⟨?_, q2, q3, q4, q5, q6⟩
    obtain ⟨t, ht, -⟩ := State.frames_cons hr
    show ({ U with heap := s₂.heap, slotsUsed := s₂.slotsUsed } : State) = { U.setFrames U.frames with heap := s₂.heap, slotsUsed := s₂.slotsUsed }
    rw [State.setFrames_self ht]
  refine ⟨⟨X.admits, X.cas, X.clock, X.frames, X.room, X.hears, X.method, X.code, (X.here.setHeapUsed s₂.heap s₂.slotsUsed).setVm hW.alike, X.tail, State.WarmedH.trans X.warmed hW, X.limits, X.bytes, X.same.trans (hsame.setVm s.vm)⟩, ?_⟩
  refine e3.trans ?_
  rw [State.calling_eq h.top, State.setFrames_setFrames]
  rfl
/-- a callee that returns or throws, from its invocation on -/
theorem x_call {U : State} {Ls : List Loc} {c0 s0 : Nat} {y : MethodName} {ws : List Cond} {rm : Room} {Pc : Array Value → State → Prop} {Qc : Array Value → State → Outcome → State → Prop} {XC : String → State → State → Prop} {mc ms rc rs len : Nat} {free rfree : Addr → Prop} {maxL : Nat} {methY : Method} {cY : Code}
    (hM : xMet l y ws rm Pc Qc XC mc ms free rc rs rfree) (hblind : FrameBlind Pc) (hrc : rm.cells = mc) (hrs : rm.slots = ms) (hframes : rm.frames + 1 ≤ R.frames) (hlocals : 8 + (maxL + 11) + rm.locals ≤ R.locals)
    (hws : ∀ w ∈ ws, ∀ a' U, s.WarmedH U.vm → w.before a' U = true) (hinit : ∀ a' U, s.WarmedH U.vm → (Cond.initialized y.cls).before a' U = true)
    (X : Stand p l e R s m sargs below meth c U Ls c0 s0) {g : JFrame} (hg : g.method = m) (hsize : g.locals.size = c.maxLocals) {ig : Instr} (hdg : decode c.code g.pc = .ok (ig, len)) (hroom : 2 * g.monitorRoom + (g.stack.map fun v => v.category).sum ≤ 8)
    {mk : MethodId} (hn : U.methodNamed? y = some mk) (hmY : U.vm.method? mk = some methY) (hcY : methY.code = some cY) (hlY : cY.maxLocals = maxL) {a : Array Value} (hcells : c0 + mc ≤ R.cells) (hslots : s0 + ms ≤ R.slots) (hP : Pc a U) :
    (∃ (v : Option Value) (t U' : State) (L : List Loc), Stand p l e R s m sargs below meth c U' (Ls ++ L) (c0 + rc) (s0 + rs) ∧ (∀ q ∈ L, rfree q.base) ∧ U'.heap = t.heap ∧ U'.vm = t.vm ∧ Qc a (U.calling g mk a) (.returned v) t ∧
      Steps p.tables e below (doInvoke e (U.setTop g) [] mk a).1 (U'.setTop { g with pc := g.pc + len, stack := v.toList ++ g.stack })) ∨
    (∃ (q : Addr) (t U' : State) (L : List Loc) (E : String) (ce : Cell), Stand p l e R s m sargs below meth c U' (Ls ++ L) (c0 + mc) (s0 + ms) ∧ (∀ q ∈ L, free q.base) ∧ U'.heap = t.heap ∧ U'.vm = t.vm ∧ XC E (U.calling g mk a) t ∧ t.heap[q]? = some ce ∧ ce.vm = .none ∧ U.vm.findClass E = some ce.cls ∧
      Steps p.tables e below (doInvoke e (U.setTop g) [] mk a).1 ((U'.setTop g).pushFrame (.throwing q))) := by
  subst hlY
  obtain ⟨kY, hkY, -⟩ := className_of_methodNamed hn
  have hinitY : kY.init = .initialized := Cond.initialized_spec (findClass_of_methodNamed hn) hkY (hinit #[] U X.warmed)
  have h : At U g.method c below := by rw [hg]; exact X.here
  have happ : (headSpec ws rm).appliesLoose y e.platform (U.calling g mk a) = true :=
    Spec.appliesLoose_calling (g := g) h hdg hn hkY hinitY
      (X.room_calling (g := g) (R' := (headSpec ws rm).room) hsize hmY hcY hframes (by show _ + (cY.maxLocals + 11) + rm.locals ≤ R.locals; omega) (by show c0 + rm.cells ≤ R.cells; rw [hrc]; exact hcells) (by show s0 + rm.slots ≤ R.slots; rw [hrs]; exact hslots))
      (atoms_intro fun w hw => hws w hw _ _ X.warmed)
  obtain ⟨mid, hmid⟩ := h.above
  have hfr : (U.setTop g).frames = (.java g :: mid) ++ below := by rw [State.frames_setTop' g h.top, hmid]; rfl
  obtain ⟨o, s₂, hsteps, -, hend, hq⟩ := Steps.callFree hM p X.admits X.cas X.clock (acts := []) hfr happ (hblind _ _ _ _ hP) trivial
  have hq' : xQ Qc XC mc ms free rc rs rfree a (U.calling g mk a) o s₂ := hq
  rw [State.frames_setTop' g h.top] at hend
  obtain ⟨g₀, hg0⟩ := Option.isSome_iff_exists.mp h.top
  obtain ⟨r, hr⟩ := State.topJava?_eq_some.mp hg0
  rcases hq' with ⟨hqc, L, hfe, hL⟩ | ⟨q, E, ce, L, rfl, hxc, ⟨hce, hcv, hcl⟩, hW₂, hsm, hL⟩
  · obtain ⟨⟨v, rfl⟩, hW₂, hsm⟩ := id hfe
    obtain ⟨X', hs₂⟩ := x_after X hW₂ hsm
    obtain ⟨c₂, i₂, len₂, hc₂, hd₂, hf₂⟩ := hend
    have hW' : U.WarmedH s₂.vm := hW₂
    have hcc : c₂ = c := by
      have h1 : s₂.code? g.method = U.code? g.method := by
        rw [State.code?_eq, State.code?_eq, hW'.alike.method?]
      exact Option.some.inj (hc₂.symm.trans (h1.trans h.code))
    subst hcc
    have hlen : len₂ = len := by rw [hdg] at hd₂; cases hd₂; rfl
    subst hlen
    refine Or.inl ⟨v, s₂, _, L, X', hL, rfl, rfl, hqc, ?_⟩
    have hr' : (({ U with heap := s₂.heap, slotsUsed := s₂.slotsUsed } : State).setVm s₂.vm).frames = .java g₀ :: r := hr
    rw [State.setTop_of_frames _ hr']
    rw [hf₂, hr] at hs₂
    have hs₃ : s₂ = (({ U with heap := s₂.heap, slotsUsed := s₂.slotsUsed } : State).setVm s₂.vm).setFrames (.java { g with pc := g.pc + len₂, stack := v.toList ++ g.stack } :: r) := hs₂
    rw [← hs₃]
    exact hsteps
  · obtain ⟨X', hs₂⟩ := x_after X hW₂ hsm
    refine Or.inr ⟨q, s₂, _, L, E, ce, X', hL, rfl, rfl, hxc, hce, hcv, hcl, ?_⟩
    have hr' : (({ U with heap := s₂.heap, slotsUsed := s₂.slotsUsed } : State).setVm s₂.vm).frames = .java g₀ :: r := hr
    have hf₂ : s₂.frames = .throwing q :: .java g :: U.frames.tail := hend
    rw [hf₂, hr] at hs₂
    have hs₃ : s₂ = ((({ U with heap := s₂.heap, slotsUsed := s₂.slotsUsed } : State).setVm s₂.vm).setTop g).pushFrame (.throwing q) := by
      refine hs₂.trans ?_
      rw [State.pushFrame, State.frames_setTop _ hr', State.setTop_of_frames _ hr', State.setFrames_setFrames]
      rfl
    rw [← hs₃]
    exact hsteps
end XB

/-! THE CLAIM OUT OF ONE WALK OF THE LAW'S BODY. Your part is whole_start (and what it stands on); all else here is the same for every law, but numbers. -/
def R_law : String := "BitPlanesLaw"
def lw_P (b : Addr) (xs : List Int32) (args : Array Value) (s : State) : Prop := args = #[.ref b] ∧ s.IntsAt b xs ∧ xs.length ≤ 2052 ∧ (Jvm.Cond.and given_1 narrow_1).before args s = true
def lw_Q (_ : Array Value) (s : State) (o : Outcome) (t : State) : Prop := o = .returned (some (.int 1)) ∧ Framed s o t [] 601024 7293000
def lw_Z (below : List Frame) (a : Array Value) (s : State) : State → Prop := fun t => ∃ o, t.status = .running ∧ Ended t below o ∧ lw_Q a s o t
/-- the law's own end, with 1 on the stack, nothing written that was there before, its room as the claim has it -/
theorem lw_ret {p : Program} {l : Launch} {e : Env} {s : State} {m : MethodId} {below : List Frame} {meth : Method} {c : Code} {b : Nat} (hx : p.tables.exec = Jvm.exec) (hb : c.code = code) (hr : meth.sig.returnType = ret) (hlocks : meth.locks = false) {pc : Nat} {H : Heap} {ls : Array Slot} (hdg : decode code pc = .ok (.ireturn, 1)) : W p l e room_1 s m #[Value.ref b] below meth c H [] 601024 7293000 (lw_Z below #[Value.ref b] s) (F0 m pc ls [.int 1]) := by
  intro T hT X
  obtain ⟨fs, hret, hrun, hended, hW, hframe⟩ := X.leave (v := some (.int 1)) (hlocks := hlocks) (fun h => by rw [hr] at h; cases h)
  have hmeth' : T.vm.method? m = some meth := X.method'
  refine ⟨T.setFrames fs, ?_, .returned (some (.int 1)), hrun, hended, rfl, ⟨_, rfl⟩, hW, hframe⟩
  jvm_step X.here [X.here.top, hx, hb, hdg, hmeth', hr, ret, narrow_b1]
  (try refine ⟨rfl, ?_⟩); (try refine ⟨rfl, ?_⟩)
  first | (intro acts; rw [hret _ acts rfl rfl rfl]) | rw [hret _ _ rfl rfl rfl]
  exact Steps.refl _
/-- what holds at the law's entry: the machine, the code, the tables' words (any of lw_tbl by 'hts w (by decide +kernel)'), the script of L ints xs at the cell b, what the Statement gives of the start (any of its parts by flat_of_before) -/
def lw_At (p : Program) (s : State) (m : MethodId) (meth : Method) (c : Code) (b L : Nat) (xs : Nat → Int32) : Prop :=
  p.tables.exec = Jvm.exec ∧ c.code = code ∧ meth.sig.returnType = ret ∧ c.maxLocals = 8 ∧ s.vm.findClass R_law = some m.cls ∧ (∀ w ∈ lw_tbl, w.before #[Value.ref b] s = true) ∧ va_X b L xs s s.heap ∧ b < s.heap.size ∧ meth.locks = false ∧ (Jvm.Cond.and given_1 narrow_1).before #[Value.ref b] s = true
theorem kwc_put : (Jvm.Cond.codeWith ({ cls := "BitPlanesLaw", name := "put", desc := "(LBitPlanes;III[J)I" } : Jvm.MethodName) method_3_code (6 : Nat) (Option.some Jvm.ClassFile.FieldType.int) [((0 : Nat), (12 : Nat), (15 : Nat), (13 : Nat)), ((0 : Nat), (12 : Nat), (19 : Nat), (15 : Nat))]) ∈ kTb := km2 129 (by decide +kernel) (by decide +kernel)
theorem kwc_bit : (Jvm.Cond.codeWith ({ cls := "BitPlanesLaw", name := "bit", desc := "(LBitPlanes;II[J)I" } : Jvm.MethodName) method_4_code (5 : Nat) (Option.some Jvm.ClassFile.FieldType.int) [((0 : Nat), (10 : Nat), (13 : Nat), (13 : Nat)), ((0 : Nat), (10 : Nat), (17 : Nat), (15 : Nat))]) ∈ kTb := km2 230 (by decide +kernel) (by decide +kernel)
theorem kwc_length : (Jvm.Cond.codeWith ({ cls := "BitPlanesLaw", name := "length", desc := "(LBitPlanes;I[J)I" } : Jvm.MethodName) method_5_code (4 : Nat) (Option.some Jvm.ClassFile.FieldType.int) [((0 : Nat), (9 : Nat), (12 : Nat), (13 : Nat))]) ∈ kTb := km3 11 (by decide +kernel) (by decide +kernel)
theorem kwc_distortion : (Jvm.Cond.codeWith ({ cls := "BitPlanesLaw", name := "distortion", desc := "(LBitPlanes;I[J)I" } : Jvm.MethodName) method_6_code (4 : Nat) (Option.some Jvm.ClassFile.FieldType.int) [((0 : Nat), (8 : Nat), (11 : Nat), (13 : Nat))]) ∈ kTb := km3 23 (by decide +kernel) (by decide +kernel)
theorem kwc_kind : (Jvm.Cond.codeWith ({ cls := "BitPlanesLaw", name := "kind", desc := "(LBitPlanes;I[J)I" } : Jvm.MethodName) method_7_code (4 : Nat) (Option.some Jvm.ClassFile.FieldType.int) [((0 : Nat), (9 : Nat), (12 : Nat), (13 : Nat))]) ∈ kTb := km3 30 (by decide +kernel) (by decide +kernel)
theorem kwc_terminated : (Jvm.Cond.codeWith ({ cls := "BitPlanesLaw", name := "terminated", desc := "(LBitPlanes;I[J)I" } : Jvm.MethodName) method_8_code (4 : Nat) (Option.some Jvm.ClassFile.FieldType.int) [((0 : Nat), (16 : Nat), (19 : Nat), (13 : Nat))]) ∈ kTb := km3 38 (by decide +kernel) (by decide +kernel)
theorem kwc_feed : (Jvm.Cond.codeWith ({ cls := "BitPlanesLaw", name := "feed", desc := "(LBitPlanes;I[J)I" } : Jvm.MethodName) method_9_code (4 : Nat) (Option.some Jvm.ClassFile.FieldType.int) [((0 : Nat), (9 : Nat), (12 : Nat), (15 : Nat)), ((0 : Nat), (9 : Nat), (15 : Nat), (39 : Nat))]) ∈ kTb := km3 46 (by decide +kernel) (by decide +kernel)
theorem kwc_pass : (Jvm.Cond.codeWith ({ cls := "BitPlanesLaw", name := "pass", desc := "(LBitPlanes;I[J)I" } : Jvm.MethodName) method_10_code (4 : Nat) (Option.some Jvm.ClassFile.FieldType.int) [((0 : Nat), (9 : Nat), (12 : Nat), (15 : Nat)), ((0 : Nat), (9 : Nat), (15 : Nat), (39 : Nat))]) ∈ kTb := km3 79 (by decide +kernel) (by decide +kernel)
theorem kwc_turn : (Jvm.Cond.codeWith ({ cls := "BitPlanesLaw", name := "turn", desc := "(LBitPlanes;I[J)I" } : Jvm.MethodName) method_11_code (4 : Nat) (Option.some Jvm.ClassFile.FieldType.int) [((0 : Nat), (9 : Nat), (12 : Nat), (13 : Nat))]) ∈ kTb := km3 87 (by decide +kernel) (by decide +kernel)
theorem kwc_decode : (Jvm.Cond.codeWith ({ cls := "BitPlanesLaw", name := "decode", desc := "(LBitPlanes;II[J)I" } : Jvm.MethodName) method_12_code (5 : Nat) (Option.some Jvm.ClassFile.FieldType.int) [((0 : Nat), (10 : Nat), (13 : Nat), (15 : Nat))]) ∈ kTb := km3 99 (by decide +kernel) (by decide +kernel)
theorem kwc_at : (Jvm.Cond.codeWith ({ cls := "BitPlanesLaw", name := "at", desc := "(LBitPlanes;II[J)I" } : Jvm.MethodName) method_13_code (5 : Nat) (Option.some Jvm.ClassFile.FieldType.int) [((0 : Nat), (10 : Nat), (13 : Nat), (13 : Nat))]) ∈ kTb := km3 115 (by decide +kernel) (by decide +kernel)
theorem kwc_known : (Jvm.Cond.codeWith ({ cls := "BitPlanesLaw", name := "known", desc := "(LBitPlanes;II[J)I" } : Jvm.MethodName) method_14_code (5 : Nat) (Option.some Jvm.ClassFile.FieldType.int) [((0 : Nat), (10 : Nat), (13 : Nat), (13 : Nat))]) ∈ kTb := km3 122 (by decide +kernel) (by decide +kernel)
/-! OWN ROWS: the law's walk: 'cell', its end, a call that may make cells -/
def f_Q_cell (L : Nat) (xs : Nat → Int32) (k : Int32) : Option Int32 := if nI L ≤ k then some 0 else if (k < 0 ∨ L ≤ k.toNatClampNeg) then none else some (xs k.toNatClampNeg)
def cX (b L : Nat) (xs : Nat → Int32) (k : Int32) : Array Value → State → Prop := va_Pc [.ref b, .int k] (fun U => va_X b L xs U U.heap)
theorem cX_blind {b L : Nat} {xs : Nat → Int32} {k : Int32} : FrameBlind (cX b L xs k) := fun a U g mk q => ⟨q.1, va_X.moved (u := U) (U := U.calling g mk a) (Vm.Alike.refl U.vm) q.2⟩
theorem cX_of {b L : Nat} {xs : Nat → Int32} {k : Int32} {s : State} {H : Heap} (h : va_X b L xs s H) : ∀ U : State, U.heap = H → s.WarmedH U.vm → cX b L xs k ([.ref b, .int k] : List Value).toArray U := fun U hU hW => ⟨rfl, by show va_X b L xs U U.heap; rw [hU]; exact va_X.moved hW.alike h⟩
theorem cX_now {b L : Nat} {xs : Nat → Int32} {s : State} {H : Heap} {A : Nat → Prop} {locs : List Loc} (h : va_X b L xs s s.heap) (hbl : b < s.heap.size) (hbA : ¬ A b) (hS : va_S A s.heap H locs) : va_X b L xs s H := by
  obtain ⟨scr, h1, h2⟩ := h
  exact ⟨scr, by rw [hS.2.1 b hbl hbA]; exact h1, h2⟩
theorem d_Q_cell_0 : decode c_Q_cell 0 = .ok (.iload_n 1, 1) := by decide +kernel
theorem d_Q_cell_1 : decode c_Q_cell 1 = .ok (.aload_n 0, 1) := by decide +kernel
theorem d_Q_cell_2 : decode c_Q_cell 2 = .ok (.arraylength, 1) := by decide +kernel
theorem d_Q_cell_3 : decode c_Q_cell 3 = .ok (.if_icmp .ge 9, 3) := by decide +kernel
theorem d_Q_cell_6 : decode c_Q_cell 6 = .ok (.aload_n 0, 1) := by decide +kernel
theorem d_Q_cell_7 : decode c_Q_cell 7 = .ok (.iload_n 1, 1) := by decide +kernel
theorem d_Q_cell_8 : decode c_Q_cell 8 = .ok (.iaload, 1) := by decide +kernel
theorem d_Q_cell_9 : decode c_Q_cell 9 = .ok (.goto 4, 3) := by decide +kernel
theorem d_Q_cell_12 : decode c_Q_cell 12 = .ok (.iconst 0, 1) := by decide +kernel
theorem d_Q_cell_13 : decode c_Q_cell 13 = .ok (.ireturn, 1) := by decide +kernel
set_option maxHeartbeats 4000000 in
theorem m_Q_cell (l : Launch) (b L : Nat) (xs : Nat → Int32) (a1 u : Int32) (hF : f_Q_cell L xs a1 = some u) : Met l y_Q_cell (kws y_Q_cell c_Q_cell 2 (some .int)) ({ frames := 0, cells := 0, slots := 0, locals := 0 }) (cX b L xs a1) (k2_QcV (.int u)) 0 0 (fun _ => False) := by
  unfold f_Q_cell at hF
  refine Met.ofW (cc := c_Q_cell) (maxL := 2) (ret := (some .int)) (by decide) rfl ?_
  intro p e s m args below meth c s₁ B hml hv
  obtain ⟨rfl, hX⟩ := hv
  have hx := B.exec
  have hb := B.bytes
  have hr := B.returns
  have hlocks := B.notSynchronized
  have hbl : b < s.heap.size := by
    obtain ⟨scr, h1, -⟩ := hX
    exact (Array.getElem?_eq_some_iff.mp h1).1
  have hS : va_S (fun _ => False) s.heap s.heap [] := va_S.rf
  have hl := lv_entry ([.ref b, .int a1]) (n := 2) (Nat.le_of_ble_eq_true rfl)
  rw [lg_entry_eq]
  generalize (lg_sl ([.ref b, .int a1]) ++ List.replicate (2 - (lg_sl ([.ref b, .int a1])).length) Slot.unset).toArray = ls at hl ⊢
  have hl : lv_has ls 2 [(0, .ref b), (1, .int a1)] := hl
  refine lv_iload_n hx hb d_Q_cell_0 rfl (lv_at hl 1 rfl) ?_
  refine lv_aload_n hx hb d_Q_cell_1 rfl (lv_at hl 0 rfl) ?_
  refine va_slen hx hb hX hbl (fun h => h) hS d_Q_cell_2 ?_
  refine lv_icmp_ge (tgt := 12) hx hb d_Q_cell_3 (by decide) (fun c1 => ?_) (fun c1 => ?_)
  · have hF := kc_pos (c := nI L ≤ a1) c1 hF
    obtain rfl := Option.some.inj hF
    refine lv_iconst (v := 0) hx hb d_Q_cell_12 (by decide) ?_
    exact W.iret hx hb hr (fun t ht _ => ⟨rfl, ht⟩) (fun _ h => by cases h) d_Q_cell_13 hlocks
  have hF := kc_neg (c := nI L ≤ a1) c1 hF
  obtain ⟨h2, hF⟩ := kc_no hF
  obtain rfl := Option.some.inj hF
  refine lv_aload_n hx hb d_Q_cell_6 rfl (lv_at hl 0 rfl) ?_
  refine lv_iload_n hx hb d_Q_cell_7 rfl (lv_at hl 1 rfl) ?_
  refine va_sld hx hb hX hbl (fun h => h) hS h2 d_Q_cell_8 ?_
  refine lv_goto (tgt := 13) hx hb d_Q_cell_9 (by decide) ?_
  exact W.iret hx hb hr (fun t ht _ => ⟨rfl, ht⟩) (fun _ h => by cases h) d_Q_cell_13 hlocks
theorem kl_i {i : Int32} {L : Nat} (hL : L ≤ 2052) (h : ¬ (i < 0 ∨ L ≤ i.toNatClampNeg)) : i.toNatClampNeg < 2052 ∧ (i + 4).toNatClampNeg = i.toNatClampNeg + 4 := by
  obtain ⟨j, hj, rfl⟩ := vp_in_of (x := i) (n := L) h (by omega)
  have e4 : nI j + 4 = nI (j + 4) := nI_add j 4
  rw [e4, nI_clamp (by omega), nI_clamp (by omega)]
  omega
section LA
variable {p : Program} {l : Launch} {e : Env} {R : Room} {s : State} {m : MethodId} {args : Array Value} {below : List Frame} {meth : Method} {c : Code} {H : Heap} {locs : List Loc} {cells slots mc ms : Nat} {Q : State → Prop} {cc : ByteArray} {pc : Nat} {ls : Array Slot} {D : va_G} {A : Nat → Prop} {w1 : va_W}
theorem lw_end {b : Nat} (hx : p.tables.exec = Jvm.exec) (hb : c.code = code) (hr : meth.sig.returnType = ret) (hlocks : meth.locks = false) (hargs : args = #[Value.ref b]) (hQ : Q = lw_Z below args s) (hAr : ∀ q : Nat, A q → s.heap.size ≤ q) (hS : va_S A s.heap H locs) (hc : cells ≤ 601024) (hs : slots ≤ 7293000) (hdg : decode code pc = .ok (.ireturn, 1)) : W p l e room_1 s m args below meth c H locs cells slots Q (F0 m pc ls [.int 1]) := by
  subst hargs
  subst hQ
  refine va_forget (fun q hq => hAr _ (hS.2.2 q hq)) ?_
  refine W.widen hc hs ?_
  exact lw_ret hx hb hr hlocks hdg
/-- a call of a method that writes and may make cells -/
theorem kw_call {r : Option Value} {a : Array Value} {st0 rest : List Value} {ws wc wr : va_W} {H0 : Heap} (hA : ∀ q : Nat, H0.size ≤ q → A q) (hr : va_Run p l e R s m args below meth c H locs cells slots mc ms (F0 m pc ls st0) rest (kPost D r w1 (va_A wc H.size) a) (va_A wc H.size))
    (hP : va_P D vwCl ws H) (hD : va_D A ws) (hS : va_S A H0 H locs) (isC isR : List Nat) (hC : isC.map (fun i => ws[i]?) = wc.map some) (hR : isR.map (fun i => ws[i]?) = wr.map some) (hn : va_nd isR = true) (hdis : ∀ i ∈ isR, i ∉ isC)
    (kk : ∀ (H1 : Heap) (locs1 : List Loc), va_P D vwCl (wr ++ w1) H1 → va_D A (wr ++ w1) → va_S A H0 H1 locs1 → W p l e R s m args below meth c H1 locs1 (cells + mc) (slots + ms) Q (F0 m (pc + 3) ls (r.toList ++ rest))) : W p l e R s m args below meth c H locs cells slots Q (F0 m pc ls st0) := by
  have hFc := va_free (wc := wc) hD hS hA isC hC
  intro T hT X
  obtain ⟨v, st₀, t, T', L, h0, X', hL, e1, e2, ⟨hv, hP1, hD1, hz, hk⟩, st⟩ := hr T hT X
  cases hv
  rw [h0] at hz hk
  obtain ⟨jP, jD⟩ := va_join (H1 := T'.heap) hP hD isC isR hC hR hn hdis (fun q h1 h2 => by rw [e1]; exact hk q h1 h2) hFc (by rw [e1]; exact hP1) hD1
  obtain ⟨t2, a1, b1⟩ := kk T'.heap (locs ++ L) jP jD
    ⟨Nat.le_trans hS.1 (by rw [e1]; exact hz), fun q h1 h2 => by rw [e1, hk q (Nat.lt_of_lt_of_le h1 hS.1) (fun z => h2 (hFc q z))]; exact hS.2.1 q h1 h2, fun q hq => by
      rcases List.mem_append.mp hq with h | h
      · exact hS.2.2 q h
      · exact hFc _ (hL q h)⟩ T' rfl X'
  exact ⟨t2, st t2 a1, b1⟩
end LA

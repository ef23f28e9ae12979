theorem law_str {own tx : String} {k : Nat} {A : Array Value} {s : State} (h1 : (Cond.stringRef own k tx).before A s = true) (h2 : (Cond.exactly (.string own k) "java/lang/String").before A s = true) : ∃ a, vk_R own k tx a s := by
  cases hv : (Term.string own k).eval A s none [] s with
  | none => simp [Cond.before, Cond.holds, Cond.value, hv] at h2
  | some w =>
    cases w with
    | ref a => exact ⟨a, vk_R.of h1 hv⟩
    | null =>
      exfalso
      cases hc : s.vm.findClass "java/lang/String" <;> simp [Cond.before, Cond.holds, Cond.value, hv, hc] at h2
    | _ => simp [Cond.before, Cond.holds, Cond.value, hv] at h2
/-- the law's body answers true, as a function -/
theorem law_true (L : Nat) (xs : Nat → Int32) (hL : L ≤ 2052) : f_Q_law L xs = some () := law_pure L xs hL
set_option maxHeartbeats 4000000 in
set_option maxRecDepth 100000 in
theorem whole_start {p : Program} {e : Env} {s : State} {m : MethodId} {below : List Frame} {meth : Method} {c : Code} (l : Launch) (hfl : l.flags = flags0) {b L : Nat} {xs : Nat → Int32} (hL : L ≤ 2052) (C0 : lw_At p s m meth c b L xs) : W p l e room_1 s m #[Value.ref b] below meth c s.heap [] 0 0 (lw_Z below #[Value.ref b] s) (entryFrame m ([Value.ref b] : List Value).toArray 8) := by
  obtain ⟨hx, hb, hr, hml, hown, hts, hX, hbl, hlocks, hgv⟩ := C0
  have hst : ∀ w ∈ kTb, w.before #[Value.ref b] s = true := fun w h => hts w (List.mem_filter.mp h).1
  have hs := flat_of_before _ hgv
  obtain ⟨c0, iS0, hKn0⟩ := u_known (C := R_B) (T := T_B) (N := 11) (n := 11) hst ki_B (hst (.instantiable R_B 11) kw_1_17)
  obtain ⟨c1, iS1, hKn1⟩ := u_known (C := R_K) (T := T_K) (N := 6) (n := 6) hst ki_K (hst (.instantiable R_K 6) kw_1_25)
  obtain ⟨c2, iS2, hKn2⟩ := u_known (C := R_T) (T := T_T) (N := 4) (n := 4) hst ki_T (hst (.instantiable R_T 4) kw_1_69)
  obtain ⟨c3, iS3, hKn3⟩ := u_known (C := R_L) (T := T_L) (N := 4) (n := 4) hst ki_L (hst (.instantiable R_L 4) kw_1_132)
  obtain ⟨c4, iS4, hKn4⟩ := u_known (C := R_W) (T := T_W) (N := 8) (n := 8) hst ki_W (hst (.instantiable R_W 8) kw_1_98)
  obtain ⟨c5, iS5, hKn5⟩ := u_known (C := R_M) (T := T_M) (N := 32) (n := 32) hst ki_M (hst (.instantiable R_M 32) kw_3_128)
  obtain ⟨dC, dI, hKc⟩ : ∃ (dC : Nat → ClassId) (dI : Nat → Nat → Nat), ∀ (k : Nat) (q : vw_C), vwCl[k]? = some q → u_Kn s q.1 q.2.1 q.2.2 (dC k) (dI k) := by
    refine ⟨fun k => match k with | 0 => c0 | 1 => c1 | 2 => c2 | 3 => c3 | 4 => c4 | _ => c5, fun k => match k with | 0 => iS0 | 1 => iS1 | 2 => iS2 | 3 => iS3 | 4 => iS4 | _ => iS5, ?_⟩
    intro k q hq
    match k, hq with
    | 0, hq => cases hq; exact hKn0
    | 1, hq => cases hq; exact hKn1
    | 2, hq => cases hq; exact hKn2
    | 3, hq => cases hq; exact hKn3
    | 4, hq => cases hq; exact hKn4
    | 5, hq => cases hq; exact hKn5
    | k + 6, hq => simp [vwCl] at hq
  have hK : va_K (dC, dI) vwCl [] s := ⟨hKc, fun k q h => by simp at h⟩
  have hN : kN s := kN.of hts
  have hXK : xK s s.heap := ⟨⟨xZ1.of (hts _ (kl2 171 (by decide +kernel))) (hs (.isRef (.static Bundle.tN "UNASSIGNED_STACK" "[Ljava/lang/StackTraceElement;")) (by decide +kernel)), xZ1.of (hts _ (kl2 173 (by decide +kernel))) (hs (.isRef (.static Bundle.tN "SUPPRESSED_SENTINEL" "Ljava/util/List;")) (by decide +kernel))⟩, ⟨law_str (hts _ (kl2 185 (by decide +kernel))) (hs (.exactly (.string "BitPlanes" 197) "java/lang/String") (by decide +kernel)), law_str (hts _ (kl2 221 (by decide +kernel))) (hs (.exactly (.string "BitPlanes" 77) "java/lang/String") (by decide +kernel)), law_str (hts _ (kl2 235 (by decide +kernel))) (hs (.exactly (.string "BitPlanes" 126) "java/lang/String") (by decide +kernel)), law_str (hts _ (kl3 8 (by decide +kernel))) (hs (.exactly (.string "BitPlanes" 138) "java/lang/String") (by decide +kernel)), law_str (hts _ (kl3 20 (by decide +kernel))) (hs (.exactly (.string "BitPlanes" 199) "java/lang/String") (by decide +kernel)), law_str (hts _ (kl3 52 (by decide +kernel))) (hs (.exactly (.string "BitPlanes" 149) "java/lang/String") (by decide +kernel)), law_str (hts _ (kl3 66 (by decide +kernel))) (hs (.exactly (.string "BitPlanes" 203) "java/lang/String") (by decide +kernel)), law_str (hts _ (kl3 84 (by decide +kernel))) (hs (.exactly (.string "BitPlanes" 158) "java/lang/String") (by decide +kernel)), law_str (hts _ (kl3 92 (by decide +kernel))) (hs (.exactly (.string "BitPlanes" 165) "java/lang/String") (by decide +kernel)), law_str (hts _ (kl3 104 (by decide +kernel))) (hs (.exactly (.string "BitPlanes" 170) "java/lang/String") (by decide +kernel))⟩, xN.of hts⟩
  have hWN : wN s := ⟨va_Nc.of (hs (.not (.castable "java/lang/IllegalArgumentException" "java/lang/IndexOutOfBoundsException")) (by decide +kernel)), va_Nc.of (hs (.not (.castable "java/lang/UnsupportedOperationException" "java/lang/IllegalArgumentException")) (by decide +kernel))⟩
  have hl := lv_entry ([.ref b]) (n := 8) (Nat.le_of_ble_eq_true rfl)
  rw [lg_entry_eq]
  exact law_walk (A := fun q : Nat => s.heap.size ≤ q) dC dI hfl hL rfl rfl ⟨hx, hb, hr, hml, hown, hst, hlocks⟩ hX hbl (Nat.not_le.mpr hbl) (fun _ h => h) (fun _ h => h) hN hXK hWN hK (law_true L xs hL) _ hl
set_option maxHeartbeats 4000000 in
theorem lw_walk (l : Launch) (hfl : l.flags = flags0) (b : Addr) (xs : List Int32) : MetFree l x (headSpec (Jvm.Cond.code x code maxLocals ret :: tables_1) room_1) (lw_P b xs) (fun _ _ _ _ _ => True) lw_Q := by
  refine MetFree.of_bodyS (code := code) (maxLocals := maxLocals) (ret := ret) (by decide) ?_ ?_
  · intro args s m h hn
    obtain ⟨meth, c, h1, h2, h3, h4, h5, h6, -, -⟩ := Cond.code_spec hn (atoms_spec (ws := Jvm.Cond.code x code maxLocals ret :: tables_1) h _ List.mem_cons_self)
    exact ⟨meth, c, h1, h2, h3, h4, h5, h6⟩
  · intro p e s m args below meth c s₁ B hml0 hP _
    obtain ⟨rfl, hx, hbd, hgv⟩ := hP
    obtain ⟨scr, harrAt, hlist, hof, hsmall⟩ := hx
    obtain ⟨hcb, hkn, -, -⟩ := State.arrayAt?_spec harrAt
    have hown : s.vm.findClass R_law = some m.cls := findClass_of_methodNamed B.named
    have hts0 : ∀ c ∈ (Jvm.Cond.code x code maxLocals ret :: tables_1), c.before #[Value.ref b] s = true := atoms_spec (ws := Jvm.Cond.code x code maxLocals ret :: tables_1) B.pre
    have hts : ∀ w ∈ lw_tbl, w.before #[Value.ref b] s = true := k2_hts_sels lw_privs (fun w hw => hts0 w (List.mem_cons_of_mem _ hw)) lw_privs_ok
    have hml : c.maxLocals = 8 := B.maxLocals_eq (hts0 _ List.mem_cons_self)
    have X₀ : Stand p l e room_1 s m #[Value.ref b] below meth c s₁ [] 0 0 := Stand.of_body B
    have hh0 : s₁.heap = s.heap := by rw [B.state]; rfl
    have hsz : scr.slots.size = xs.length := by rw [← Array.length_toList, hlist, List.length_map]
    have hval : ∀ j : Nat, j < xs.length → scr.slots[j]? = some (.int (xs.getD j 0)) := fun j hj => by
      rw [← Array.getElem?_toList, hlist]
      simp [hj]
    have hbl : b < s.heap.size := (Array.getElem?_eq_some_iff.mp hcb).1
    have hX : va_X b xs.length (fun j => xs.getD j 0) s s.heap := ⟨scr, hcb, hof, hkn, hsz, hval⟩
    have K : W p l e room_1 s m #[Value.ref b] below meth c s₁.heap [] 0 0 (lw_Z below #[Value.ref b] s) (entryFrame m ([Value.ref b] : List Value).toArray 8) := by
      rw [hh0]
      exact whole_start l hfl hbd ⟨B.exec, B.bytes, B.returns, hml, hown, hts, hX, hbl, B.notSynchronized, hgv⟩
    obtain ⟨t, a1, o, b1, b2, b3⟩ := K s₁ rfl X₀
    exact ⟨t, o, a1, b1, b2, b3⟩
theorem lw_pre_spec {args : Array Value} {s : State} (h : (Jvm.Cond.and given_1 narrow_1).before args s = true) (hr : rest_1_c.before args s = true) : ∃ (b : Addr) (xs : List Int32), lw_P b xs args s := by
  have hs := flat_of_before _ h
  have hq := flat_of_before _ hr
  have hc : (Cond.count 1).before args s = true := hs _ (by decide +kernel)
  have harr : (Cond.arrayOf (.arg 0) .int).before args s = true := hs _ (by decide +kernel)
  have hle : (Cond.le (.length (.arg 0)) (.int 2052)).before args s = true := hs _ (by decide +kernel)
  have hlen : (Cond.isInt (.length (.arg 0))).before args s = true := hq _ (by decide +kernel)
  have hall : (Cond.all (.arg 0) (.isInt (.elem (.arg 0) (.index 0)))).before args s = true := hq _ (by decide +kernel)
  obtain ⟨b, xs, hb, hx⟩ := State.ints_of_pre rfl harr hlen hall
  have hsm : xs.length < 2 ^ 31 := hx.choose_spec.2.2.2
  have hev : (Term.length (.arg 0)).eval args s none [] s = some (.int xs.length.toInt32) := hx.length_eval hb
  have hv := Cond.le_ints hev (show (Term.int 2052).eval args s none [] s = some (.int 2052) from rfl)
  have hd : xs.length.toInt32 ≤ 2052 := by
    simpa [Cond.before, Cond.holds, hv] using hle
  have hN : xs.length ≤ 2052 := (Int32.ofNat_le_ofNat hsm (by decide)).mp (show Int32.ofNat xs.length ≤ Int32.ofNat 2052 from hd)
  exact ⟨b, xs, Cond.one_arg hc (show args[0]? = some (.ref b) from hb), hx, hN, h⟩
theorem lw_comes (l : Launch) (hfl : l.flags = flags0) : Comes l x (Jvm.Cond.code x code maxLocals ret :: tables_1) room_1 (fun tb e args s => Calls_1 tb e args s ∧ rest_1 tb e args s ∧ Pre_1 tb e args s)
    (fun _ _ args s o t => lw_Q args s o t) := by
  intro p e ha hc hk s m args below hf hfit hheap happ hpre
  obtain ⟨b, xs, hP⟩ := lw_pre_spec hpre.2.2 hpre.2.1
  obtain ⟨k, o, h1, h2, h3, hQ⟩   := lw_walk l hfl b xs p e ha hc hk s m args below hf ((Spec.applies_iff_loose hf).mp happ).1 hP trivial
  exact ⟨k, o, h1, h2, h3, hQ⟩
theorem lw_frame {s t : State} {o : Outcome} {args : Array Value} (h : Framed s o t [] 601024 7293000) :
    Framed s o t (fieldLocs frame_1_writes args s ++ arrayLocs frame_1_arrays args s ++ staticLocs frame_1_statics s) 601024 7293000 := h
theorem lw_limb (L : Cond) (hL : ∀ (args : Array Value) (s t : State), L.after args s (.returned (some (.int 1))) t = true) :
    ArmFor flags0 classFile x code maxLocals ret World_1 tables_1 room_1 Calls_1 rest_1 Pre_1
      (fun tb e a s o t => postC L tb e a s o t ∧ Framed s o t (fieldLocs frame_1_writes a s ++ arrayLocs frame_1_arrays a s ++ staticLocs frame_1_statics s) 601024 7293000) := by
  intro l hfl _ _ p e ha hc hk s m args below hf hfit hheap happ hpre
  obtain ⟨k, o, h1, h2, h3, rfl, hF⟩   := lw_comes l hfl p e ha hc hk s m args below hf hfit hheap happ hpre
  exact ⟨k, _, h1, h2, h3, hL args s _, lw_frame hF⟩
theorem i_vc : Claimed_1_1 ∧ Claimed_1_2 := ⟨lw_limb limb_1_1 (fun args s t => by simp [limb_1_1, Cond.after, Cond.holds, Cond.value]), lw_limb limb_1_2 (fun args s t => Cond.after_iff.mpr (by
  first | (rw [show limb_1_2 = Cond.eq .result (.int 1) from rfl, Cond.eq_ints (x := 1) (y := 1) rfl rfl]; simp; done) | (simp [limb_1_2, Cond.value, Term.eval]; done)))⟩

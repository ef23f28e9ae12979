/-! PURE: a column of the finding pass, of the refining pass -/
theorem F_l {W Hh x y : Nat} {sgn fa be : Nat → Int32} (st : Int32) (hW : W ≤ 16) (hH : Hh ≤ 16) (h : SG W Hh sgn fa be) (hx : x < W) (hy : y < Hh) :
    f_M_isFound (nI W) (nI Hh) st be fa 256 256 (nI x - 1) (nI y) (nI y) = some (bI (fB W st sgn y x (y + 1))) := by
  have := isFound_ok (st := st) hW hH h (X := x) (Y := y + 1) (by omega) (by omega) hy (by omega)
  rwa [nI_pred] at this
theorem F_r {W Hh x y : Nat} {sgn fa be : Nat → Int32} (st : Int32) (hW : W ≤ 16) (hH : Hh ≤ 16) (h : SG W Hh sgn fa be) (hx : x < W) (hy : y < Hh) :
    f_M_isFound (nI W) (nI Hh) st be fa 256 256 (nI x + 1) (nI y) (nI y) = some (bI (fB W st sgn y (x + 2) (y + 1))) := by
  have := isFound_ok (st := st) hW hH h (X := x + 2) (Y := y + 1) (by omega) (by omega) hy (by omega)
  rwa [← nI_p, nI_pred] at this
theorem F_u {W Hh x y : Nat} {sgn fa be : Nat → Int32} (st : Int32) (hW : W ≤ 16) (hH : Hh ≤ 16) (h : SG W Hh sgn fa be) (hx : x < W) (hy : y < Hh) :
    f_M_isFound (nI W) (nI Hh) st be fa 256 256 (nI x) (nI y - 1) (nI y) = some (bI (fB W st sgn y (x + 1) y)) := by
  have := isFound_ok (st := st) hW hH h (X := x + 1) (Y := y) (by omega) (by omega) hy (by omega)
  rwa [nI_pred] at this
theorem F_d {W Hh x y : Nat} {sgn fa be : Nat → Int32} (st : Int32) (hW : W ≤ 16) (hH : Hh ≤ 16) (h : SG W Hh sgn fa be) (hx : x < W) (hy : y < Hh) :
    f_M_isFound (nI W) (nI Hh) st be fa 256 256 (nI x) (nI y + 1) (nI y) = some (bI (fB W st sgn y (x + 1) (y + 2))) := by
  have := isFound_ok (st := st) hW hH h (X := x + 1) (Y := y + 2) (by omega) (by omega) hy (by omega)
  rwa [nI_pred, ← nI_p] at this
theorem two_shl : ∀ p, p < 15 → (2 : Int32) <<< (nI p &&& 31) = (1 : Int32) <<< (nI (p + 1) &&& 31) := by decide +kernel
theorem bI_raw (rw : Bool) (cx : Nat) (h : cx < 32) : ∃ cr, cr < 32 ∧ (if bI rw = 0 then some (nI cx) else some (19 : Int32)) = some (nI cr) := by
  cases rw
  · exact ⟨cx, h, rfl⟩
  · exact ⟨19, by omega, rfl⟩
theorem findStep_T {W Hh x y top bot p k r : Nat} {st : Int32} {rw : Bool} {pn mtr : Int32} {nR : Nat} {sam msam mreads : Nat → Int32} {c : CA} {A : RA} {s : (Int32 × (Nat → Int32))} {m : MT} (hW : W ≤ 16) (hH : Hh ≤ 16) (hk : k < 3) (hp : p < 15) (hx : x < W) (hy : y < Hh) (ht : top ≤ y) (ht4 : y < top + 4) (hb : y < bot) (hb2 : bot ≤ 16) (hM : SAM W Hh sam msam)
    (h : WI W Hh 0 p top x y c A) (hT : TT pn nR (Phi W Hh c + r) s m) :
    ∃ (c' : CA) (A' : RA) (s' : (Int32 × (Nat → Int32))) (m' : MT), (∀ N, f_WT_findColumn_L3 (nI p) (bI rw) st (nI k) (nI (W + 2)) pn sam ((W + 2) * (Hh + 2)) ((W + 2) * (Hh + 2)) ((W + 2) * (Hh + 2)) ((W + 2) * (Hh + 2)) nR (nI x) (nI bot) (N + 1) (nI (y)) c.1 c.2.1 c.2.2 s.1 s.2 = f_WT_findColumn_L3 (nI p) (bI rw) st (nI k) (nI (W + 2)) pn sam ((W + 2) * (Hh + 2)) ((W + 2) * (Hh + 2)) ((W + 2) * (Hh + 2)) ((W + 2) * (Hh + 2)) nR (nI x) (nI bot) N (nI (y + 1)) c'.1 c'.2.1 c'.2.2 s'.1 s'.2) ∧ (∀ N, f_M_walk_L34 (nI W) (nI Hh) st (nI k) mtr 0 (nI p) pn (bI rw) msam mreads 256 12000 12000 12000 12000 256 256 256 256 256 256 0 (nI x) (nI top) (N + 1) (nI (y)) m.1 m.2.1 m.2.2.1 m.2.2.2.1 m.2.2.2.2.1 m.2.2.2.2.2 A.1 A.2.1 A.2.2.1 A.2.2.2.1 A.2.2.2.2.1 A.2.2.2.2.2 = f_M_walk_L34 (nI W) (nI Hh) st (nI k) mtr 0 (nI p) pn (bI rw) msam mreads 256 12000 12000 12000 12000 256 256 256 256 256 256 0 (nI x) (nI top) N (nI (y + 1)) m'.1 m'.2.1 m'.2.2.1 m'.2.2.2.1 m'.2.2.2.2.1 m'.2.2.2.2.2 A'.1 A'.2.1 A'.2.2.1 A'.2.2.2.1 A'.2.2.2.2.1 A'.2.2.2.2.2) ∧ WI W Hh 0 p top x (y + 1) c' A' ∧ TT pn nR (Phi W Hh c' + r) s' m' := by
  have hn := nC_le hW hH
  have hn2 : ((W + 2) * (Hh + 2)) < 2 ^ 31 := by omega
  have hi := ic_lt hx hy
  have hs : ir x y < 256 := ir_lt (by omega) (by omega)
  obtain ⟨a1, a2, a3, a4⟩ := WI_at h hx hy ht
  have cx1 := Mctx_ok (st := st) hW hH hk h.1 hx hy
  have cx2 := WT_ctx_ok (st := st) (bd := nI k) (sgn := c.1) hW hH hx hy
  have b1 : ¬ nI bot ≤ nI y := nI_ge hb (by omega)
  have b2 : ¬ nI top + 4 ≤ nI y := by
    rw [show (4 : Int32) = nI 4 from rfl, nI_add]; exact nI_ge (by omega) (by omega)
  have b3 : ¬ nI Hh ≤ nI y := nI_ge hy (by omega)
  have b4 : ¬ (2 : Int32) ≤ 0 := by decide
  by_cases hf : A.2.2.1 (ir x y) = -1
  · have h0 : c.1 (ic W x y) = 0 := by rw [a1]; exact rS_0.mpr hf
    obtain ⟨hbe, ⟨c1, c2, c3, c4, c5, c6⟩ | ⟨_, _, _, _, c6⟩ | ⟨c1, _⟩ | ⟨f, _, _, c1, _⟩ | ⟨f, _, _, c1, _⟩⟩ := a4
    rotate_left
    · omega
    · rw [hf] at c1; exact absurd c1.symm (nI_nm1 (by omega))
    · rw [hf] at c1; exact absurd c1.symm (nI_nm1 (by omega))
    · rw [hf] at c1; exact absurd c1.symm (nI_nm1 (by omega))
    obtain ⟨cx, hcx, ecx⟩ := ctxV_nat (W := W) (x := x) (y := y) st c.1 hk
    rw [ecx] at cx1 cx2
    by_cases hz : cx = 0
    · subst hz
      refine ⟨c, A, s, m, ?_, ?_, WI_skip h hW hx hy ht ht4 ⟨hbe, .inl ⟨c1, c2, c3, c4, c5, by omega⟩⟩, hT⟩
      · intro N
        rw [f_WT_findColumn_L3, if_neg b1, cellOf_ok, isBlind_ok (by omega), pc_ok hi hn2, cl_ok hi hn2, if_pos h0, cx2, Option.bind_some, if_pos nI_0, Option.bind_some, nI_1]
      · intro N
        rw [f_M_walk_L34, if_neg b2, if_neg b3, if_neg b4, if_pos rfl]
        unfold f_M_finding
        rw [cx1, Option.bind_some, ir_e, pc_ok hs (by decide), cl_ok hs (by decide), if_pos hf, if_pos nI_0, Option.bind_some, Option.bind_some, nI_1]
    · obtain ⟨cr, hcr32, hcr⟩ := bI_raw rw cx (by omega)
      obtain ⟨c', sz', be', fa', lo', s', m', e1, e2, ⟨z1, z2, z3, z4, z5, z6, z7, z8⟩, hT'⟩ := size_T (r := r) (st := st) (rw := rw) (p := p) (mtr := mtr) (mreads := mreads) hW hH h.1 hx hy hp hM c1 c2 a2 (a3.trans c4) hbe hcr hcr32 hT
      refine ⟨c', (sz', be', fa', upd A.2.2.2.1 (ir x y) 1, A.2.2.2.2.1, lo'), s', m', ?_, ?_, ?_, hT'⟩
      · intro N
        rw [f_WT_findColumn_L3, if_neg b1, cellOf_ok, isBlind_ok (by omega), pc_ok hi hn2, cl_ok hi hn2, if_pos h0, cx2, Option.bind_some, if_neg (nI_ne0 (by omega) (by omega)), e1, Option.bind_some, Option.bind_some, nI_1]
      · intro N
        rw [f_M_walk_L34, if_neg b2, if_neg b3, if_neg b4, if_pos rfl]
        unfold f_M_finding
        rw [cx1, Option.bind_some, ir_e, pc_ok hs (by decide), cl_ok hs (by decide), if_pos hf, if_neg (nI_ne0 (by omega) (by omega)), hcr, Option.bind_some, e2, Option.bind_some, pc_ok' hs (by decide), Option.bind_some, Option.bind_some, nI_1]
      · refine WI_step h hW hx hy ht ht4 z1 (fun t hq => ?_) z3 z4 z5 ?_
        · obtain ⟨q1, q2, q3, q4⟩ := z2 t hq
          exact ⟨q1, q2, q3, pk_un hq, rfl, q4⟩
        · dsimp only
          rw [pk_us, z6]
          refine ⟨z7, ?_⟩
          rcases z8 with ⟨q1, q2⟩ | ⟨q1, q2⟩
          · exact .inr (.inl ⟨q1, q2, c3, rfl, .inr ⟨by omega, by decide⟩⟩)
          · exact .inr (.inr (.inl ⟨q1, q2, c3, rfl, by omega⟩))
  · have h0 : ¬ c.1 (ic W x y) = 0 := by rw [a1]; exact fun q => hf (rS_0.mp q)
    refine ⟨c, A, s, m, ?_, ?_, WI_skip h hW hx hy ht ht4 ?_, hT⟩
    · intro N
      rw [f_WT_findColumn_L3, if_neg b1, cellOf_ok, isBlind_ok (by omega), pc_ok hi hn2, cl_ok hi hn2, if_neg h0, Option.bind_some, nI_1]
    · intro N
      rw [f_M_walk_L34, if_neg b2, if_neg b3, if_neg b4, if_pos rfl]
      unfold f_M_finding
      rw [cx1, Option.bind_some, ir_e, pc_ok hs (by decide), cl_ok hs (by decide), if_neg hf, Option.bind_some, Option.bind_some, nI_1]
    · obtain ⟨hbe, ⟨c1, _⟩ | ⟨c1, _⟩ | ⟨_, _, _, _, c6⟩ | ⟨f, q1, q2, q3, q4, q5, q6, q7, q8⟩ | ⟨f, _, _, _, _, _, _, c6⟩⟩ := a4
      · exact absurd c1 hf
      · exact absurd c1 hf
      · omega
      · exact ⟨hbe, .inr (.inr (.inr (.inl ⟨f, q1, q2, q3, q4, q5, q6, q7, by omega⟩)))⟩
      · omega
theorem findCol_T {W Hh x top bot p k r : Nat} {st : Int32} {rw : Bool} {pn mtr : Int32} {nR : Nat} {sam msam mreads : Nat → Int32} (hW : W ≤ 16) (hH : Hh ≤ 16) (hk : k < 3) (hp : p < 15) (hx : x < W) (hbH : bot ≤ Hh) (hb4 : bot ≤ top + 4) (hbe : bot = top + 4 ∨ bot = Hh) (hM : SAM W Hh sam msam) :
    ∀ (d y N N' : Nat) (c : CA) (A : RA) (s : (Int32 × (Nat → Int32))) (m : MT), y + d = bot → top ≤ y → d < N → d < N' → WI W Hh 0 p top x y c A → TT pn nR (Phi W Hh c + r) s m →
    ∃ (c' : CA) (A' : RA) (s' : (Int32 × (Nat → Int32))) (m' : MT), f_WT_findColumn_L3 (nI p) (bI rw) st (nI k) (nI (W + 2)) pn sam ((W + 2) * (Hh + 2)) ((W + 2) * (Hh + 2)) ((W + 2) * (Hh + 2)) ((W + 2) * (Hh + 2)) nR (nI x) (nI bot) N (nI (y)) c.1 c.2.1 c.2.2 s.1 s.2 = some (nI bot, c'.1, c'.2.1, c'.2.2, s'.1, s'.2) ∧ f_M_walk_L34 (nI W) (nI Hh) st (nI k) mtr 0 (nI p) pn (bI rw) msam mreads 256 12000 12000 12000 12000 256 256 256 256 256 256 0 (nI x) (nI top) N' (nI (y)) m.1 m.2.1 m.2.2.1 m.2.2.2.1 m.2.2.2.2.1 m.2.2.2.2.2 A.1 A.2.1 A.2.2.1 A.2.2.2.1 A.2.2.2.2.1 A.2.2.2.2.2 = some (nI bot, m'.1, m'.2.1, m'.2.2.1, m'.2.2.2.1, m'.2.2.2.2.1, m'.2.2.2.2.2, A'.1, A'.2.1, A'.2.2.1, A'.2.2.2.1, A'.2.2.2.2.1, A'.2.2.2.2.2) ∧ WI W Hh 0 p top x bot c' A' ∧ TT pn nR (Phi W Hh c' + r) s' m' := by
  intro d
  induction d with
  | zero =>
    intro y N N' c A s m hd ht hN hN' h hT
    obtain rfl : y = bot := by omega
    obtain ⟨N, rfl⟩ : ∃ q, N = q + 1 := ⟨N - 1, by omega⟩
    obtain ⟨N', rfl⟩ : ∃ q, N' = q + 1 := ⟨N' - 1, by omega⟩
    refine ⟨c, A, s, m, ?_, ?_, h, hT⟩
    · rw [f_WT_findColumn_L3, if_pos (nI_le (Nat.le_refl _) (by omega))]
    · rw [f_M_walk_L34]
      by_cases h4 : top + 4 ≤ y
      · rw [if_pos (by rw [show (4 : Int32) = nI 4 from rfl, nI_add]; exact nI_le h4 (by omega))]
      · rw [if_neg (by rw [show (4 : Int32) = nI 4 from rfl, nI_add]; exact nI_ge (by omega) (by omega)), if_pos (nI_le (by omega) (by omega))]
  | succ d ih =>
    intro y N N' c A s m hd ht hN hN' h hT
    obtain ⟨N, rfl⟩ : ∃ q, N = q + 1 := ⟨N - 1, by omega⟩
    obtain ⟨N', rfl⟩ : ∃ q, N' = q + 1 := ⟨N' - 1, by omega⟩
    obtain ⟨c1, A1, s1, m1, e1, e2, h1, hT1⟩ := findStep_T (bot := bot) (r := r) (rw := rw) (st := st) (k := k) (mtr := mtr) (mreads := mreads) hW hH hk hp hx (by omega) ht (by omega) (by omega) (by omega) hM h hT
    rw [e1, e2]
    exact ih (y + 1) N N' c1 A1 s1 m1 (by omega) (by omega) (by omega) (by omega) h1 hT1
theorem refCtx_T {W Hh x y p k f : Nat} {st : Int32} {sgn siz fa be rf : Nat → Int32} (hW : W ≤ 16) (hH : Hh ≤ 16) (hk : k < 3) (hp : p < 15) (hS : SG W Hh sgn fa be) (hx : x < W) (hy : y < Hh) (hf : p < f) (hf15 : f < 15)
    (h1 : bt (siz (ic W x y)) f = true) (h2 : f = p + 1 → siz (ic W x y) = (1 : Int32) <<< (nI (p + 1) &&& 31) ∧ rf (ir x y) = 0) (h3 : p + 1 < f → ¬ rf (ir x y) = 0) :
    ∃ v : Nat, v < 32 ∧ f_WT_refiningContextOf (nI p) sgn siz (nI k) (nI (W + 2)) ((W + 2) * (Hh + 2)) ((W + 2) * (Hh + 2)) (nI (ic W x y)) (bI (blB st y)) = some (nI v)
      ∧ (if rf (ir x y) = 0 then (if (((((((bI (fB W st sgn y x y) + bI (fB W st sgn y (x + 2) y)) + bI (fB W st sgn y x (y + 2))) + bI (fB W st sgn y (x + 2) (y + 2))) + bI (fB W st sgn y x (y + 1))) + bI (fB W st sgn y (x + 2) (y + 1))) + bI (fB W st sgn y (x + 1) y)) + bI (fB W st sgn y (x + 1) (y + 2))) ≤ 0 then some (14 : Int32) else some (15 : Int32)) else some (16 : Int32)) = some (nI v) := by
  have hn := nC_le hW hH
  have hn2 : ((W + 2) * (Hh + 2)) < 2 ^ 31 := by omega
  have hi := ic_lt hx hy
  unfold f_WT_refiningContextOf
  rw [pc_ok hi hn2, cl_ok hi hn2, two_shl p hp]
  by_cases hq : f = p + 1
  · obtain ⟨q1, q2⟩ := h2 hq
    rw [if_pos q1, if_pos q2, WT_ctx_ok hW hH hx hy, Option.bind_some]
    unfold ctxV
    rw [ref_tab k hk]
    by_cases hle : (((((((bI (fB W st sgn y x y) + bI (fB W st sgn y (x + 2) y)) + bI (fB W st sgn y x (y + 2))) + bI (fB W st sgn y (x + 2) (y + 2))) + bI (fB W st sgn y x (y + 1))) + bI (fB W st sgn y (x + 2) (y + 1))) + bI (fB W st sgn y (x + 1) y)) + bI (fB W st sgn y (x + 1) (y + 2))) ≤ 0
    · exact ⟨14, by omega, if_pos hle, if_pos hle⟩
    · exact ⟨15, by omega, if_neg hle, if_neg hle⟩
  · have q1 : ¬ siz (ic W x y) = (1 : Int32) <<< (nI (p + 1) &&& 31) := by
      intro q
      rw [q, bt_shl1 (by omega) (by omega)] at h1
      exact hq (of_decide_eq_true h1)
    rw [if_neg q1, if_neg (h3 (by omega))]
    exact ⟨16, by omega, rfl, rfl⟩
theorem refStep_T {W Hh x y top bot p k r : Nat} {st : Int32} {rw : Bool} {pn mtr : Int32} {nR : Nat} {sam msam mreads : Nat → Int32} {c : CA} {A : RA} {s : (Int32 × (Nat → Int32))} {m : MT} (hW : W ≤ 16) (hH : Hh ≤ 16) (hk : k < 3) (hp : p < 15) (hx : x < W) (hy : y < Hh) (ht : top ≤ y) (ht4 : y < top + 4) (hb : y < bot) (hb2 : bot ≤ 16) (hM : SAM W Hh sam msam)
    (h : WI W Hh 1 p top x y c A) (hT : TT pn nR (Phi W Hh c + r) s m) :
    ∃ (c' : CA) (A' : RA) (s' : (Int32 × (Nat → Int32))) (m' : MT), c'.1 = c.1 ∧ (∀ N, f_WT_refineColumn_L3 (nI p) (bI rw) c.1 st (nI k) (nI (W + 2)) pn sam ((W + 2) * (Hh + 2)) ((W + 2) * (Hh + 2)) ((W + 2) * (Hh + 2)) ((W + 2) * (Hh + 2)) nR (nI x) (nI bot) (N + 1) (nI (y)) c.2.1 c.2.2 s.1 s.2 = f_WT_refineColumn_L3 (nI p) (bI rw) c.1 st (nI k) (nI (W + 2)) pn sam ((W + 2) * (Hh + 2)) ((W + 2) * (Hh + 2)) ((W + 2) * (Hh + 2)) ((W + 2) * (Hh + 2)) nR (nI x) (nI bot) N (nI (y + 1)) c'.2.1 c'.2.2 s'.1 s'.2) ∧ (∀ N, f_M_walk_L34 (nI W) (nI Hh) st (nI k) mtr 0 (nI p) pn (bI rw) msam mreads 256 12000 12000 12000 12000 256 256 256 256 256 256 1 (nI x) (nI top) (N + 1) (nI (y)) m.1 m.2.1 m.2.2.1 m.2.2.2.1 m.2.2.2.2.1 m.2.2.2.2.2 A.1 A.2.1 A.2.2.1 A.2.2.2.1 A.2.2.2.2.1 A.2.2.2.2.2 = f_M_walk_L34 (nI W) (nI Hh) st (nI k) mtr 0 (nI p) pn (bI rw) msam mreads 256 12000 12000 12000 12000 256 256 256 256 256 256 1 (nI x) (nI top) N (nI (y + 1)) m'.1 m'.2.1 m'.2.2.1 m'.2.2.2.1 m'.2.2.2.2.1 m'.2.2.2.2.2 A'.1 A'.2.1 A'.2.2.1 A'.2.2.2.1 A'.2.2.2.2.1 A'.2.2.2.2.2) ∧ WI W Hh 1 p top x (y + 1) c' A' ∧ TT pn nR (Phi W Hh c' + r) s' m' := by
  have hn := nC_le hW hH
  have hn2 : ((W + 2) * (Hh + 2)) < 2 ^ 31 := by omega
  have hi := ic_lt hx hy
  have hs : ir x y < 256 := ir_lt (by omega) (by omega)
  obtain ⟨a1, a2, a3, a4⟩ := WI_at h hx hy ht
  have b1 : ¬ nI bot ≤ nI y := nI_ge hb (by omega)
  have b2 : ¬ nI top + 4 ≤ nI y := by
    rw [show (4 : Int32) = nI 4 from rfl, nI_add]; exact nI_ge (by omega) (by omega)
  have b3 : ¬ nI Hh ≤ nI y := nI_ge hy (by omega)
  have b4 : ¬ (2 : Int32) ≤ 1 := by decide
  have skipR : ¬ nI p < A.2.2.1 (ir x y) → ∀ N, f_M_walk_L34 (nI W) (nI Hh) st (nI k) mtr 0 (nI p) pn (bI rw) msam mreads 256 12000 12000 12000 12000 256 256 256 256 256 256 1 (nI x) (nI top) (N + 1) (nI (y)) m.1 m.2.1 m.2.2.1 m.2.2.2.1 m.2.2.2.2.1 m.2.2.2.2.2 A.1 A.2.1 A.2.2.1 A.2.2.2.1 A.2.2.2.2.1 A.2.2.2.2.2 = f_M_walk_L34 (nI W) (nI Hh) st (nI k) mtr 0 (nI p) pn (bI rw) msam mreads 256 12000 12000 12000 12000 256 256 256 256 256 256 1 (nI x) (nI top) N (nI (y + 1)) m.1 m.2.1 m.2.2.1 m.2.2.2.1 m.2.2.2.2.1 m.2.2.2.2.2 A.1 A.2.1 A.2.2.1 A.2.2.2.1 A.2.2.2.2.1 A.2.2.2.2.2 := by
    intro hq N
    rw [f_M_walk_L34, if_neg b2, if_neg b3, if_neg b4, if_neg (show ¬ (1 : Int32) = 0 by decide)]
    unfold f_M_refining
    rw [ir_e, pc_ok hs (by decide), cl_ok hs (by decide), if_neg hq, Option.bind_some, Option.bind_some, nI_1]
  have m1 : ¬ nI p < (-1 : Int32) := fun q => by
    have h1 := Int32.lt_iff_toInt_lt.mp q
    rw [nI_toInt (by omega)] at h1
    have : (-1 : Int32).toInt = -1 := by decide
    omega
  have skip0 : c.1 (ic W x y) = 0 → ∀ N, f_WT_refineColumn_L3 (nI p) (bI rw) c.1 st (nI k) (nI (W + 2)) pn sam ((W + 2) * (Hh + 2)) ((W + 2) * (Hh + 2)) ((W + 2) * (Hh + 2)) ((W + 2) * (Hh + 2)) nR (nI x) (nI bot) (N + 1) (nI (y)) c.2.1 c.2.2 s.1 s.2 = f_WT_refineColumn_L3 (nI p) (bI rw) c.1 st (nI k) (nI (W + 2)) pn sam ((W + 2) * (Hh + 2)) ((W + 2) * (Hh + 2)) ((W + 2) * (Hh + 2)) ((W + 2) * (Hh + 2)) nR (nI x) (nI bot) N (nI (y + 1)) c.2.1 c.2.2 s.1 s.2 := by
    intro h0 N
    rw [f_WT_refineColumn_L3, if_neg b1, cellOf_ok, pc_ok hi hn2, cl_ok hi hn2, if_pos h0, Option.bind_some, nI_1]
  obtain ⟨hbe, ⟨c1, c2, c3, c4, c5, c6⟩ | ⟨c1, c2, c3, c4, c5⟩ | ⟨c1, c2, c3, c4, c5⟩ | ⟨f, q1, q2, q3, q4, q5, q6, q7, q8⟩ | ⟨f, _, _, _, _, _, _, c6⟩⟩ := a4
  · exact ⟨c, A, s, m, rfl, skip0 (by rw [a1]; exact rS_0.mpr c1), skipR (by rw [c1]; exact m1), WI_skip h hW hx hy ht ht4 ⟨hbe, .inl ⟨c1, c2, c3, c4, c5, by omega⟩⟩, hT⟩
  · exact ⟨c, A, s, m, rfl, skip0 (by rw [a1]; exact rS_0.mpr c1), skipR (by rw [c1]; exact m1), WI_skip h hW hx hy ht ht4 ⟨hbe, .inr (.inl ⟨c1, c2, c3, c4, .inr ⟨by omega, (c5.resolve_left (by omega)).2⟩⟩)⟩, hT⟩
  · refine ⟨c, A, s, m, rfl, ?_, skipR (by rw [c1]; exact nI_nlt (Nat.le_refl _) (by omega)), WI_skip h hW hx hy ht ht4 ⟨hbe, .inr (.inr (.inl ⟨c1, c2, c3, c4, by omega⟩))⟩, hT⟩
    intro N
    have h0 : ¬ c.1 (ic W x y) = 0 := by rw [a1]; exact fun q => nI_nm1 (by omega) (c1.symm.trans (rS_0.mp q))
    rw [f_WT_refineColumn_L3, if_neg b1, cellOf_ok, pc_ok hi hn2, cl_ok hi hn2, if_neg h0, pc_ok' hi hn2, if_pos (by rw [a3, c4]; exact nI_le (Nat.le_refl _) (by omega)), Option.bind_some, nI_1]
  · have h0 : ¬ c.1 (ic W x y) = 0 := by rw [a1]; exact fun q => nI_nm1 (by omega) (q3.symm.trans (rS_0.mp q))
    obtain ⟨v, hv, v1, v2⟩ := refCtx_T (siz := c.2.1) (st := st) (rf := A.2.2.2.2.1) hW hH hk hp h.1 hx hy q1 q2 (by rw [a2]; exact q4) (by rw [a2]; exact q5) q6
    obtain ⟨cr, hcr32, hcr⟩ := bI_raw rw v hv
    have P1 : ∀ w, Phi W Hh (c.1, upd c.2.1 (ic W x y) w, upd c.2.2 (ic W x y) (nI p)) + 1 ≤ Phi W Hh c := by
      intro w
      refine Phi_step hx hy (fun i hi => ⟨rfl, pk_un hi, pk_un hi⟩) ?_ (fun q => q)
      unfold g1; dsimp only
      rw [pk_us, a3, q7, nI_clamp (by omega), nI_clamp (by omega)]; omega
    have P2 := P1 0
    obtain ⟨r1, s1, m1, e1, e2, hT1⟩ := ex_T (mtr := mtr) (mreads := mreads) (k := Phi W Hh c - 1 + r) (TT_le hT (by omega)) (szb (sam (ic W x y)) p) hcr32
    refine ⟨(c.1, upd c.2.1 (ic W x y) (c.2.1 (ic W x y) ||| (bI r1 <<< (nI p &&& 31))), upd c.2.2 (ic W x y) (nI p)), (upd A.1 (ir x y) (A.1 (ir x y) ||| (bI r1 <<< (nI p &&& 31))), A.2.1, A.2.2.1, A.2.2.2.1, upd A.2.2.2.2.1 (ir x y) 1, upd A.2.2.2.2.2 (ir x y) (nI p)), s1, m1, rfl, ?_, ?_, ?_, ?_⟩
    · intro N
      rw [f_WT_refineColumn_L3, if_neg b1, cellOf_ok, isBlind_ok (by omega), pc_ok hi hn2, cl_ok hi hn2, if_neg h0, pc_ok' hi hn2, if_neg (by rw [a3, q7]; exact nI_ge (by omega) (by omega)), v1, Option.bind_some, hcr, Option.bind_some, T_sizeBit_ok hi hn2, Option.bind_some, e1, Option.bind_some, pc_ok' hi hn2, pc_ok' hi hn2, pc_ok' hi hn2, Option.bind_some, nI_1]
    · intro N
      rw [f_M_walk_L34, if_neg b2, if_neg b3, if_neg b4, if_neg (show ¬ (1 : Int32) = 0 by decide)]
      unfold f_M_refining
      rw [ir_e, pc_ok hs (by decide), cl_ok hs (by decide), if_pos (by rw [q3]; exact nI_lt q1 (by omega)), corners_ok hW hH h.1 hx hy, Option.bind_some, F_l st hW hH h.1 hx hy, Option.bind_some, F_r st hW hH h.1 hx hy, Option.bind_some, F_u st hW hH h.1 hx hy, Option.bind_some, F_d st hW hH h.1 hx hy, Option.bind_some, pc_ok' hs (by decide), v2, Option.bind_some, M_bitOf_ok hs (by decide), Option.bind_some, hcr, Option.bind_some]
      rw [← hM x y hx hy]
      rw [e2, Option.bind_some, M_know_ok hs (by decide), Option.bind_some, pc_ok' hs (by decide), Option.bind_some, Option.bind_some, nI_1]
    · refine WI_step h hW hx hy ht ht4 (fun i hq => ⟨rfl, pk_un hq, pk_un hq⟩) (fun t hq => ⟨pk_un hq, rfl, rfl, rfl, pk_un hq, pk_un hq⟩) a1 ?_ (pk_us.trans pk_us.symm) ?_
      · dsimp only; rw [pk_us, pk_us, a2]
      · dsimp only
        rw [pk_us, pk_us, pk_us]
        refine ⟨hbe, .inr (.inr (.inr (.inr ⟨f, q1, q2, q3, ?_, by decide, rfl, by omega⟩)))⟩
        rw [b_or, q4]; rfl
    · have := P1 (c.2.1 (ic W x y) ||| (bI r1 <<< (nI p &&& 31)))
      exact TT_le hT1 (by omega)
  · omega
theorem refCol_T {W Hh x top bot p k r : Nat} {st : Int32} {rw : Bool} {pn mtr : Int32} {nR : Nat} {sam msam mreads : Nat → Int32} (hW : W ≤ 16) (hH : Hh ≤ 16) (hk : k < 3) (hp : p < 15) (hx : x < W) (hbH : bot ≤ Hh) (hb4 : bot ≤ top + 4) (hbe : bot = top + 4 ∨ bot = Hh) (hM : SAM W Hh sam msam) :
    ∀ (d y N N' : Nat) (c : CA) (A : RA) (s : (Int32 × (Nat → Int32))) (m : MT), y + d = bot → top ≤ y → d < N → d < N' → WI W Hh 1 p top x y c A → TT pn nR (Phi W Hh c + r) s m →
    ∃ (c' : CA) (A' : RA) (s' : (Int32 × (Nat → Int32))) (m' : MT), c'.1 = c.1 ∧ f_WT_refineColumn_L3 (nI p) (bI rw) c.1 st (nI k) (nI (W + 2)) pn sam ((W + 2) * (Hh + 2)) ((W + 2) * (Hh + 2)) ((W + 2) * (Hh + 2)) ((W + 2) * (Hh + 2)) nR (nI x) (nI bot) N (nI (y)) c.2.1 c.2.2 s.1 s.2 = some (nI bot, c'.2.1, c'.2.2, s'.1, s'.2) ∧ f_M_walk_L34 (nI W) (nI Hh) st (nI k) mtr 0 (nI p) pn (bI rw) msam mreads 256 12000 12000 12000 12000 256 256 256 256 256 256 1 (nI x) (nI top) N' (nI (y)) m.1 m.2.1 m.2.2.1 m.2.2.2.1 m.2.2.2.2.1 m.2.2.2.2.2 A.1 A.2.1 A.2.2.1 A.2.2.2.1 A.2.2.2.2.1 A.2.2.2.2.2 = some (nI bot, m'.1, m'.2.1, m'.2.2.1, m'.2.2.2.1, m'.2.2.2.2.1, m'.2.2.2.2.2, A'.1, A'.2.1, A'.2.2.1, A'.2.2.2.1, A'.2.2.2.2.1, A'.2.2.2.2.2) ∧ WI W Hh 1 p top x bot c' A' ∧ TT pn nR (Phi W Hh c' + r) s' m' := by
  intro d
  induction d with
  | zero =>
    intro y N N' c A s m hd ht hN hN' h hT
    obtain rfl : y = bot := by omega
    obtain ⟨N, rfl⟩ : ∃ q, N = q + 1 := ⟨N - 1, by omega⟩
    obtain ⟨N', rfl⟩ : ∃ q, N' = q + 1 := ⟨N' - 1, by omega⟩
    refine ⟨c, A, s, m, rfl, ?_, ?_, h, hT⟩
    · rw [f_WT_refineColumn_L3, if_pos (nI_le (Nat.le_refl _) (by omega))]
    · rw [f_M_walk_L34]
      by_cases h4 : top + 4 ≤ y
      · rw [if_pos (by rw [show (4 : Int32) = nI 4 from rfl, nI_add]; exact nI_le h4 (by omega))]
      · rw [if_neg (by rw [show (4 : Int32) = nI 4 from rfl, nI_add]; exact nI_ge (by omega) (by omega)), if_pos (nI_le (by omega) (by omega))]
  | succ d ih =>
    intro y N N' c A s m hd ht hN hN' h hT
    obtain ⟨N, rfl⟩ : ∃ q, N = q + 1 := ⟨N - 1, by omega⟩
    obtain ⟨N', rfl⟩ : ∃ q, N' = q + 1 := ⟨N' - 1, by omega⟩
    obtain ⟨c1, A1, s1, m1, e0, e1, e2, h1, hT1⟩ := refStep_T (bot := bot) (r := r) (rw := rw) (st := st) (k := k) (mtr := mtr) (mreads := mreads) hW hH hk hp hx (by omega) ht (by omega) (by omega) (by omega) hM h hT
    rw [e1, e2]
    obtain ⟨c2, A2, s2, m2, f0, f1, f2, h2, hT2⟩ := ih (y + 1) N N' c1 A1 s1 m1 (by omega) (by omega) (by omega) (by omega) h1 hT1
    rw [e0] at f0 f1
    exact ⟨c2, A2, s2, m2, f0, f1, f2, h2, hT2⟩
theorem findStep_L {W Hh x y top bot p k r : Nat} {st : Int32} {rw : Bool} {pn lcn mtr : Int32} {wor msam mreads : Nat → Int32} {m0 : MT} {c : CA} {A : RA} {s : (Int32 × Int32)} {m : MT} (hW : W ≤ 16) (hH : Hh ≤ 16) (hk : k < 3) (hp : p < 15) (hx : x < W) (hy : y < Hh) (ht : top ≤ y) (ht4 : y < top + 4) (hb : y < bot) (hb2 : bot ≤ 16) 
    (h : WI W Hh 0 p top x y c A) (hT : TL lcn wor mtr mreads m0 (Phi W Hh c + r) s m) :
    ∃ (c' : CA) (A' : RA) (s' : (Int32 × Int32)) (m' : MT), (∀ N, f_WL_findColumn_L3 (nI p) (bI rw) st (nI k) (nI (W + 2)) lcn wor ((W + 2) * (Hh + 2)) ((W + 2) * (Hh + 2)) ((W + 2) * (Hh + 2)) 376 (nI x) (nI bot) (N + 1) (nI (y)) c.1 c.2.1 c.2.2 s.1 s.2 = f_WL_findColumn_L3 (nI p) (bI rw) st (nI k) (nI (W + 2)) lcn wor ((W + 2) * (Hh + 2)) ((W + 2) * (Hh + 2)) ((W + 2) * (Hh + 2)) 376 (nI x) (nI bot) N (nI (y + 1)) c'.1 c'.2.1 c'.2.2 s'.1 s'.2) ∧ (∀ N, f_M_walk_L34 (nI W) (nI Hh) st (nI k) mtr 1 (nI p) pn (bI rw) msam mreads 256 12000 12000 12000 12000 256 256 256 256 256 256 0 (nI x) (nI top) (N + 1) (nI (y)) m.1 m.2.1 m.2.2.1 m.2.2.2.1 m.2.2.2.2.1 m.2.2.2.2.2 A.1 A.2.1 A.2.2.1 A.2.2.2.1 A.2.2.2.2.1 A.2.2.2.2.2 = f_M_walk_L34 (nI W) (nI Hh) st (nI k) mtr 1 (nI p) pn (bI rw) msam mreads 256 12000 12000 12000 12000 256 256 256 256 256 256 0 (nI x) (nI top) N (nI (y + 1)) m'.1 m'.2.1 m'.2.2.1 m'.2.2.2.1 m'.2.2.2.2.1 m'.2.2.2.2.2 A'.1 A'.2.1 A'.2.2.1 A'.2.2.2.1 A'.2.2.2.2.1 A'.2.2.2.2.2) ∧ WI W Hh 0 p top x (y + 1) c' A' ∧ TL lcn wor mtr mreads m0 (Phi W Hh c' + r) s' m' := by
  have hn := nC_le hW hH
  have hn2 : ((W + 2) * (Hh + 2)) < 2 ^ 31 := by omega
  have hi := ic_lt hx hy
  have hs : ir x y < 256 := ir_lt (by omega) (by omega)
  obtain ⟨a1, a2, a3, a4⟩ := WI_at h hx hy ht
  have cx1 := Mctx_ok (st := st) hW hH hk h.1 hx hy
  have cx2 := WL_ctx_ok (st := st) (bd := nI k) (sgn := c.1) hW hH hx hy
  have b1 : ¬ nI bot ≤ nI y := nI_ge hb (by omega)
  have b2 : ¬ nI top + 4 ≤ nI y := by
    rw [show (4 : Int32) = nI 4 from rfl, nI_add]; exact nI_ge (by omega) (by omega)
  have b3 : ¬ nI Hh ≤ nI y := nI_ge hy (by omega)
  have b4 : ¬ (2 : Int32) ≤ 0 := by decide
  by_cases hf : A.2.2.1 (ir x y) = -1
  · have h0 : c.1 (ic W x y) = 0 := by rw [a1]; exact rS_0.mpr hf
    obtain ⟨hbe, ⟨c1, c2, c3, c4, c5, c6⟩ | ⟨_, _, _, _, c6⟩ | ⟨c1, _⟩ | ⟨f, _, _, c1, _⟩ | ⟨f, _, _, c1, _⟩⟩ := a4
    rotate_left
    · omega
    · rw [hf] at c1; exact absurd c1.symm (nI_nm1 (by omega))
    · rw [hf] at c1; exact absurd c1.symm (nI_nm1 (by omega))
    · rw [hf] at c1; exact absurd c1.symm (nI_nm1 (by omega))
    obtain ⟨cx, hcx, ecx⟩ := ctxV_nat (W := W) (x := x) (y := y) st c.1 hk
    rw [ecx] at cx1 cx2
    by_cases hz : cx = 0
    · subst hz
      refine ⟨c, A, s, m, ?_, ?_, WI_skip h hW hx hy ht ht4 ⟨hbe, .inl ⟨c1, c2, c3, c4, c5, by omega⟩⟩, hT⟩
      · intro N
        rw [f_WL_findColumn_L3, if_neg b1, cellOf_ok, isBlind_ok (by omega), pc_ok hi hn2, cl_ok hi hn2, if_pos h0, cx2, Option.bind_some, if_pos nI_0, Option.bind_some, nI_1]
      · intro N
        rw [f_M_walk_L34, if_neg b2, if_neg b3, if_neg b4, if_pos rfl]
        unfold f_M_finding
        rw [cx1, Option.bind_some, ir_e, pc_ok hs (by decide), cl_ok hs (by decide), if_pos hf, if_pos nI_0, Option.bind_some, Option.bind_some, nI_1]
    · obtain ⟨cr, hcr32, hcr⟩ := bI_raw rw cx (by omega)
      obtain ⟨c', sz', be', fa', lo', s', m', e1, e2, ⟨z1, z2, z3, z4, z5, z6, z7, z8⟩, hT'⟩ := size_L (r := r) (st := st) (rw := rw) (p := p) (pn := pn) (msam := msam) hW hH h.1 hx hy hp  c1 c2 a2 (a3.trans c4) hbe hcr hcr32 hT
      refine ⟨c', (sz', be', fa', upd A.2.2.2.1 (ir x y) 1, A.2.2.2.2.1, lo'), s', m', ?_, ?_, ?_, hT'⟩
      · intro N
        rw [f_WL_findColumn_L3, if_neg b1, cellOf_ok, isBlind_ok (by omega), pc_ok hi hn2, cl_ok hi hn2, if_pos h0, cx2, Option.bind_some, if_neg (nI_ne0 (by omega) (by omega)), e1, Option.bind_some, Option.bind_some, nI_1]
      · intro N
        rw [f_M_walk_L34, if_neg b2, if_neg b3, if_neg b4, if_pos rfl]
        unfold f_M_finding
        rw [cx1, Option.bind_some, ir_e, pc_ok hs (by decide), cl_ok hs (by decide), if_pos hf, if_neg (nI_ne0 (by omega) (by omega)), hcr, Option.bind_some, e2, Option.bind_some, pc_ok' hs (by decide), Option.bind_some, Option.bind_some, nI_1]
      · refine WI_step h hW hx hy ht ht4 z1 (fun t hq => ?_) z3 z4 z5 ?_
        · obtain ⟨q1, q2, q3, q4⟩ := z2 t hq
          exact ⟨q1, q2, q3, pk_un hq, rfl, q4⟩
        · dsimp only
          rw [pk_us, z6]
          refine ⟨z7, ?_⟩
          rcases z8 with ⟨q1, q2⟩ | ⟨q1, q2⟩
          · exact .inr (.inl ⟨q1, q2, c3, rfl, .inr ⟨by omega, by decide⟩⟩)
          · exact .inr (.inr (.inl ⟨q1, q2, c3, rfl, by omega⟩))
  · have h0 : ¬ c.1 (ic W x y) = 0 := by rw [a1]; exact fun q => hf (rS_0.mp q)
    refine ⟨c, A, s, m, ?_, ?_, WI_skip h hW hx hy ht ht4 ?_, hT⟩
    · intro N
      rw [f_WL_findColumn_L3, if_neg b1, cellOf_ok, isBlind_ok (by omega), pc_ok hi hn2, cl_ok hi hn2, if_neg h0, Option.bind_some, nI_1]
    · intro N
      rw [f_M_walk_L34, if_neg b2, if_neg b3, if_neg b4, if_pos rfl]
      unfold f_M_finding
      rw [cx1, Option.bind_some, ir_e, pc_ok hs (by decide), cl_ok hs (by decide), if_neg hf, Option.bind_some, Option.bind_some, nI_1]
    · obtain ⟨hbe, ⟨c1, _⟩ | ⟨c1, _⟩ | ⟨_, _, _, _, c6⟩ | ⟨f, q1, q2, q3, q4, q5, q6, q7, q8⟩ | ⟨f, _, _, _, _, _, _, c6⟩⟩ := a4
      · exact absurd c1 hf
      · exact absurd c1 hf
      · omega
      · exact ⟨hbe, .inr (.inr (.inr (.inl ⟨f, q1, q2, q3, q4, q5, q6, q7, by omega⟩)))⟩
      · omega
theorem findCol_L {W Hh x top bot p k r : Nat} {st : Int32} {rw : Bool} {pn lcn mtr : Int32} {wor msam mreads : Nat → Int32} {m0 : MT} (hW : W ≤ 16) (hH : Hh ≤ 16) (hk : k < 3) (hp : p < 15) (hx : x < W) (hbH : bot ≤ Hh) (hb4 : bot ≤ top + 4) (hbe : bot = top + 4 ∨ bot = Hh)  :
    ∀ (d y N N' : Nat) (c : CA) (A : RA) (s : (Int32 × Int32)) (m : MT), y + d = bot → top ≤ y → d < N → d < N' → WI W Hh 0 p top x y c A → TL lcn wor mtr mreads m0 (Phi W Hh c + r) s m →
    ∃ (c' : CA) (A' : RA) (s' : (Int32 × Int32)) (m' : MT), f_WL_findColumn_L3 (nI p) (bI rw) st (nI k) (nI (W + 2)) lcn wor ((W + 2) * (Hh + 2)) ((W + 2) * (Hh + 2)) ((W + 2) * (Hh + 2)) 376 (nI x) (nI bot) N (nI (y)) c.1 c.2.1 c.2.2 s.1 s.2 = some (nI bot, c'.1, c'.2.1, c'.2.2, s'.1, s'.2) ∧ f_M_walk_L34 (nI W) (nI Hh) st (nI k) mtr 1 (nI p) pn (bI rw) msam mreads 256 12000 12000 12000 12000 256 256 256 256 256 256 0 (nI x) (nI top) N' (nI (y)) m.1 m.2.1 m.2.2.1 m.2.2.2.1 m.2.2.2.2.1 m.2.2.2.2.2 A.1 A.2.1 A.2.2.1 A.2.2.2.1 A.2.2.2.2.1 A.2.2.2.2.2 = some (nI bot, m'.1, m'.2.1, m'.2.2.1, m'.2.2.2.1, m'.2.2.2.2.1, m'.2.2.2.2.2, A'.1, A'.2.1, A'.2.2.1, A'.2.2.2.1, A'.2.2.2.2.1, A'.2.2.2.2.2) ∧ WI W Hh 0 p top x bot c' A' ∧ TL lcn wor mtr mreads m0 (Phi W Hh c' + r) s' m' := by
  intro d
  induction d with
  | zero =>
    intro y N N' c A s m hd ht hN hN' h hT
    obtain rfl : y = bot := by omega
    obtain ⟨N, rfl⟩ : ∃ q, N = q + 1 := ⟨N - 1, by omega⟩
    obtain ⟨N', rfl⟩ : ∃ q, N' = q + 1 := ⟨N' - 1, by omega⟩
    refine ⟨c, A, s, m, ?_, ?_, h, hT⟩
    · rw [f_WL_findColumn_L3, if_pos (nI_le (Nat.le_refl _) (by omega))]
    · rw [f_M_walk_L34]
      by_cases h4 : top + 4 ≤ y
      · rw [if_pos (by rw [show (4 : Int32) = nI 4 from rfl, nI_add]; exact nI_le h4 (by omega))]
      · rw [if_neg (by rw [show (4 : Int32) = nI 4 from rfl, nI_add]; exact nI_ge (by omega) (by omega)), if_pos (nI_le (by omega) (by omega))]
  | succ d ih =>
    intro y N N' c A s m hd ht hN hN' h hT
    obtain ⟨N, rfl⟩ : ∃ q, N = q + 1 := ⟨N - 1, by omega⟩
    obtain ⟨N', rfl⟩ : ∃ q, N' = q + 1 := ⟨N' - 1, by omega⟩
    obtain ⟨c1, A1, s1, m1, e1, e2, h1, hT1⟩ := findStep_L (bot := bot) (r := r) (rw := rw) (st := st) (k := k) (pn := pn) (msam := msam) hW hH hk hp hx (by omega) ht (by omega) (by omega) (by omega)  h hT
    rw [e1, e2]
    exact ih (y + 1) N N' c1 A1 s1 m1 (by omega) (by omega) (by omega) (by omega) h1 hT1
theorem refCtx_L {W Hh x y p k f : Nat} {st : Int32} {sgn siz fa be rf : Nat → Int32} (hW : W ≤ 16) (hH : Hh ≤ 16) (hk : k < 3) (hp : p < 15) (hS : SG W Hh sgn fa be) (hx : x < W) (hy : y < Hh) (hf : p < f) (hf15 : f < 15)
    (h1 : bt (siz (ic W x y)) f = true) (h2 : f = p + 1 → siz (ic W x y) = (1 : Int32) <<< (nI (p + 1) &&& 31) ∧ rf (ir x y) = 0) (h3 : p + 1 < f → ¬ rf (ir x y) = 0) :
    ∃ v : Nat, v < 32 ∧ f_WL_refiningContextOf (nI p) sgn siz (nI k) (nI (W + 2)) ((W + 2) * (Hh + 2)) ((W + 2) * (Hh + 2)) (nI (ic W x y)) (bI (blB st y)) = some (nI v)
      ∧ (if rf (ir x y) = 0 then (if (((((((bI (fB W st sgn y x y) + bI (fB W st sgn y (x + 2) y)) + bI (fB W st sgn y x (y + 2))) + bI (fB W st sgn y (x + 2) (y + 2))) + bI (fB W st sgn y x (y + 1))) + bI (fB W st sgn y (x + 2) (y + 1))) + bI (fB W st sgn y (x + 1) y)) + bI (fB W st sgn y (x + 1) (y + 2))) ≤ 0 then some (14 : Int32) else some (15 : Int32)) else some (16 : Int32)) = some (nI v) := by
  have hn := nC_le hW hH
  have hn2 : ((W + 2) * (Hh + 2)) < 2 ^ 31 := by omega
  have hi := ic_lt hx hy
  unfold f_WL_refiningContextOf
  rw [pc_ok hi hn2, cl_ok hi hn2, two_shl p hp]
  by_cases hq : f = p + 1
  · obtain ⟨q1, q2⟩ := h2 hq
    rw [if_pos q1, if_pos q2, WL_ctx_ok hW hH hx hy, Option.bind_some]
    unfold ctxV
    rw [ref_tab k hk]
    by_cases hle : (((((((bI (fB W st sgn y x y) + bI (fB W st sgn y (x + 2) y)) + bI (fB W st sgn y x (y + 2))) + bI (fB W st sgn y (x + 2) (y + 2))) + bI (fB W st sgn y x (y + 1))) + bI (fB W st sgn y (x + 2) (y + 1))) + bI (fB W st sgn y (x + 1) y)) + bI (fB W st sgn y (x + 1) (y + 2))) ≤ 0
    · exact ⟨14, by omega, if_pos hle, if_pos hle⟩
    · exact ⟨15, by omega, if_neg hle, if_neg hle⟩
  · have q1 : ¬ siz (ic W x y) = (1 : Int32) <<< (nI (p + 1) &&& 31) := by
      intro q
      rw [q, bt_shl1 (by omega) (by omega)] at h1
      exact hq (of_decide_eq_true h1)
    rw [if_neg q1, if_neg (h3 (by omega))]
    exact ⟨16, by omega, rfl, rfl⟩
theorem refStep_L {W Hh x y top bot p k r : Nat} {st : Int32} {rw : Bool} {pn lcn mtr : Int32} {wor msam mreads : Nat → Int32} {m0 : MT} {c : CA} {A : RA} {s : (Int32 × Int32)} {m : MT} (hW : W ≤ 16) (hH : Hh ≤ 16) (hk : k < 3) (hp : p < 15) (hx : x < W) (hy : y < Hh) (ht : top ≤ y) (ht4 : y < top + 4) (hb : y < bot) (hb2 : bot ≤ 16) 
    (h : WI W Hh 1 p top x y c A) (hT : TL lcn wor mtr mreads m0 (Phi W Hh c + r) s m) :
    ∃ (c' : CA) (A' : RA) (s' : (Int32 × Int32)) (m' : MT), c'.1 = c.1 ∧ (∀ N, f_WL_refineColumn_L3 (nI p) (bI rw) c.1 st (nI k) (nI (W + 2)) lcn wor ((W + 2) * (Hh + 2)) ((W + 2) * (Hh + 2)) ((W + 2) * (Hh + 2)) 376 (nI x) (nI bot) (N + 1) (nI (y)) c.2.1 c.2.2 s.1 s.2 = f_WL_refineColumn_L3 (nI p) (bI rw) c.1 st (nI k) (nI (W + 2)) lcn wor ((W + 2) * (Hh + 2)) ((W + 2) * (Hh + 2)) ((W + 2) * (Hh + 2)) 376 (nI x) (nI bot) N (nI (y + 1)) c'.2.1 c'.2.2 s'.1 s'.2) ∧ (∀ N, f_M_walk_L34 (nI W) (nI Hh) st (nI k) mtr 1 (nI p) pn (bI rw) msam mreads 256 12000 12000 12000 12000 256 256 256 256 256 256 1 (nI x) (nI top) (N + 1) (nI (y)) m.1 m.2.1 m.2.2.1 m.2.2.2.1 m.2.2.2.2.1 m.2.2.2.2.2 A.1 A.2.1 A.2.2.1 A.2.2.2.1 A.2.2.2.2.1 A.2.2.2.2.2 = f_M_walk_L34 (nI W) (nI Hh) st (nI k) mtr 1 (nI p) pn (bI rw) msam mreads 256 12000 12000 12000 12000 256 256 256 256 256 256 1 (nI x) (nI top) N (nI (y + 1)) m'.1 m'.2.1 m'.2.2.1 m'.2.2.2.1 m'.2.2.2.2.1 m'.2.2.2.2.2 A'.1 A'.2.1 A'.2.2.1 A'.2.2.2.1 A'.2.2.2.2.1 A'.2.2.2.2.2) ∧ WI W Hh 1 p top x (y + 1) c' A' ∧ TL lcn wor mtr mreads m0 (Phi W Hh c' + r) s' m' := by
  have hn := nC_le hW hH
  have hn2 : ((W + 2) * (Hh + 2)) < 2 ^ 31 := by omega
  have hi := ic_lt hx hy
  have hs : ir x y < 256 := ir_lt (by omega) (by omega)
  obtain ⟨a1, a2, a3, a4⟩ := WI_at h hx hy ht
  have b1 : ¬ nI bot ≤ nI y := nI_ge hb (by omega)
  have b2 : ¬ nI top + 4 ≤ nI y := by
    rw [show (4 : Int32) = nI 4 from rfl, nI_add]; exact nI_ge (by omega) (by omega)
  have b3 : ¬ nI Hh ≤ nI y := nI_ge hy (by omega)
  have b4 : ¬ (2 : Int32) ≤ 1 := by decide
  have skipR : ¬ nI p < A.2.2.1 (ir x y) → ∀ N, f_M_walk_L34 (nI W) (nI Hh) st (nI k) mtr 1 (nI p) pn (bI rw) msam mreads 256 12000 12000 12000 12000 256 256 256 256 256 256 1 (nI x) (nI top) (N + 1) (nI (y)) m.1 m.2.1 m.2.2.1 m.2.2.2.1 m.2.2.2.2.1 m.2.2.2.2.2 A.1 A.2.1 A.2.2.1 A.2.2.2.1 A.2.2.2.2.1 A.2.2.2.2.2 = f_M_walk_L34 (nI W) (nI Hh) st (nI k) mtr 1 (nI p) pn (bI rw) msam mreads 256 12000 12000 12000 12000 256 256 256 256 256 256 1 (nI x) (nI top) N (nI (y + 1)) m.1 m.2.1 m.2.2.1 m.2.2.2.1 m.2.2.2.2.1 m.2.2.2.2.2 A.1 A.2.1 A.2.2.1 A.2.2.2.1 A.2.2.2.2.1 A.2.2.2.2.2 := by
    intro hq N
    rw [f_M_walk_L34, if_neg b2, if_neg b3, if_neg b4, if_neg (show ¬ (1 : Int32) = 0 by decide)]
    unfold f_M_refining
    rw [ir_e, pc_ok hs (by decide), cl_ok hs (by decide), if_neg hq, Option.bind_some, Option.bind_some, nI_1]
  have m1 : ¬ nI p < (-1 : Int32) := fun q => by
    have h1 := Int32.lt_iff_toInt_lt.mp q
    rw [nI_toInt (by omega)] at h1
    have : (-1 : Int32).toInt = -1 := by decide
    omega
  have skip0 : c.1 (ic W x y) = 0 → ∀ N, f_WL_refineColumn_L3 (nI p) (bI rw) c.1 st (nI k) (nI (W + 2)) lcn wor ((W + 2) * (Hh + 2)) ((W + 2) * (Hh + 2)) ((W + 2) * (Hh + 2)) 376 (nI x) (nI bot) (N + 1) (nI (y)) c.2.1 c.2.2 s.1 s.2 = f_WL_refineColumn_L3 (nI p) (bI rw) c.1 st (nI k) (nI (W + 2)) lcn wor ((W + 2) * (Hh + 2)) ((W + 2) * (Hh + 2)) ((W + 2) * (Hh + 2)) 376 (nI x) (nI bot) N (nI (y + 1)) c.2.1 c.2.2 s.1 s.2 := by
    intro h0 N
    rw [f_WL_refineColumn_L3, if_neg b1, cellOf_ok, pc_ok hi hn2, cl_ok hi hn2, if_pos h0, Option.bind_some, nI_1]
  obtain ⟨hbe, ⟨c1, c2, c3, c4, c5, c6⟩ | ⟨c1, c2, c3, c4, c5⟩ | ⟨c1, c2, c3, c4, c5⟩ | ⟨f, q1, q2, q3, q4, q5, q6, q7, q8⟩ | ⟨f, _, _, _, _, _, _, c6⟩⟩ := a4
  · exact ⟨c, A, s, m, rfl, skip0 (by rw [a1]; exact rS_0.mpr c1), skipR (by rw [c1]; exact m1), WI_skip h hW hx hy ht ht4 ⟨hbe, .inl ⟨c1, c2, c3, c4, c5, by omega⟩⟩, hT⟩
  · exact ⟨c, A, s, m, rfl, skip0 (by rw [a1]; exact rS_0.mpr c1), skipR (by rw [c1]; exact m1), WI_skip h hW hx hy ht ht4 ⟨hbe, .inr (.inl ⟨c1, c2, c3, c4, .inr ⟨by omega, (c5.resolve_left (by omega)).2⟩⟩)⟩, hT⟩
  · refine ⟨c, A, s, m, rfl, ?_, skipR (by rw [c1]; exact nI_nlt (Nat.le_refl _) (by omega)), WI_skip h hW hx hy ht ht4 ⟨hbe, .inr (.inr (.inl ⟨c1, c2, c3, c4, by omega⟩))⟩, hT⟩
    intro N
    have h0 : ¬ c.1 (ic W x y) = 0 := by rw [a1]; exact fun q => nI_nm1 (by omega) (c1.symm.trans (rS_0.mp q))
    rw [f_WL_refineColumn_L3, if_neg b1, cellOf_ok, pc_ok hi hn2, cl_ok hi hn2, if_neg h0, pc_ok' hi hn2, if_pos (by rw [a3, c4]; exact nI_le (Nat.le_refl _) (by omega)), Option.bind_some, nI_1]
  · have h0 : ¬ c.1 (ic W x y) = 0 := by rw [a1]; exact fun q => nI_nm1 (by omega) (q3.symm.trans (rS_0.mp q))
    obtain ⟨v, hv, v1, v2⟩ := refCtx_L (siz := c.2.1) (st := st) (rf := A.2.2.2.2.1) hW hH hk hp h.1 hx hy q1 q2 (by rw [a2]; exact q4) (by rw [a2]; exact q5) q6
    obtain ⟨cr, hcr32, hcr⟩ := bI_raw rw v hv
    have P1 : ∀ w, Phi W Hh (c.1, upd c.2.1 (ic W x y) w, upd c.2.2 (ic W x y) (nI p)) + 1 ≤ Phi W Hh c := by
      intro w
      refine Phi_step hx hy (fun i hi => ⟨rfl, pk_un hi, pk_un hi⟩) ?_ (fun q => q)
      unfold g1; dsimp only
      rw [pk_us, a3, q7, nI_clamp (by omega), nI_clamp (by omega)]; omega
    have P2 := P1 0
    obtain ⟨r1, s1, m1, e1, e2, hT1⟩ := ex_L (pn := pn) (k := Phi W Hh c - 1 + r) (TL_le hT (by omega)) (bI (szb (msam (ir x y)) p)) (nI cr)
    refine ⟨(c.1, upd c.2.1 (ic W x y) (c.2.1 (ic W x y) ||| (bI r1 <<< (nI p &&& 31))), upd c.2.2 (ic W x y) (nI p)), (upd A.1 (ir x y) (A.1 (ir x y) ||| (bI r1 <<< (nI p &&& 31))), A.2.1, A.2.2.1, A.2.2.2.1, upd A.2.2.2.2.1 (ir x y) 1, upd A.2.2.2.2.2 (ir x y) (nI p)), s1, m1, rfl, ?_, ?_, ?_, ?_⟩
    · intro N
      rw [f_WL_refineColumn_L3, if_neg b1, cellOf_ok, isBlind_ok (by omega), pc_ok hi hn2, cl_ok hi hn2, if_neg h0, pc_ok' hi hn2, if_neg (by rw [a3, q7]; exact nI_ge (by omega) (by omega)), v1, Option.bind_some, hcr, Option.bind_some, e1, Option.bind_some, pc_ok' hi hn2, pc_ok' hi hn2, pc_ok' hi hn2, Option.bind_some, nI_1]
    · intro N
      rw [f_M_walk_L34, if_neg b2, if_neg b3, if_neg b4, if_neg (show ¬ (1 : Int32) = 0 by decide)]
      unfold f_M_refining
      rw [ir_e, pc_ok hs (by decide), cl_ok hs (by decide), if_pos (by rw [q3]; exact nI_lt q1 (by omega)), corners_ok hW hH h.1 hx hy, Option.bind_some, F_l st hW hH h.1 hx hy, Option.bind_some, F_r st hW hH h.1 hx hy, Option.bind_some, F_u st hW hH h.1 hx hy, Option.bind_some, F_d st hW hH h.1 hx hy, Option.bind_some, pc_ok' hs (by decide), v2, Option.bind_some, M_bitOf_ok hs (by decide), Option.bind_some, hcr, Option.bind_some]
      skip
      rw [e2, Option.bind_some, M_know_ok hs (by decide), Option.bind_some, pc_ok' hs (by decide), Option.bind_some, Option.bind_some, nI_1]
    · refine WI_step h hW hx hy ht ht4 (fun i hq => ⟨rfl, pk_un hq, pk_un hq⟩) (fun t hq => ⟨pk_un hq, rfl, rfl, rfl, pk_un hq, pk_un hq⟩) a1 ?_ (pk_us.trans pk_us.symm) ?_
      · dsimp only; rw [pk_us, pk_us, a2]
      · dsimp only
        rw [pk_us, pk_us, pk_us]
        refine ⟨hbe, .inr (.inr (.inr (.inr ⟨f, q1, q2, q3, ?_, by decide, rfl, by omega⟩)))⟩
        rw [b_or, q4]; rfl
    · have := P1 (c.2.1 (ic W x y) ||| (bI r1 <<< (nI p &&& 31)))
      exact TL_le hT1 (by omega)
  · omega
theorem refCol_L {W Hh x top bot p k r : Nat} {st : Int32} {rw : Bool} {pn lcn mtr : Int32} {wor msam mreads : Nat → Int32} {m0 : MT} (hW : W ≤ 16) (hH : Hh ≤ 16) (hk : k < 3) (hp : p < 15) (hx : x < W) (hbH : bot ≤ Hh) (hb4 : bot ≤ top + 4) (hbe : bot = top + 4 ∨ bot = Hh)  :
    ∀ (d y N N' : Nat) (c : CA) (A : RA) (s : (Int32 × Int32)) (m : MT), y + d = bot → top ≤ y → d < N → d < N' → WI W Hh 1 p top x y c A → TL lcn wor mtr mreads m0 (Phi W Hh c + r) s m →
    ∃ (c' : CA) (A' : RA) (s' : (Int32 × Int32)) (m' : MT), c'.1 = c.1 ∧ f_WL_refineColumn_L3 (nI p) (bI rw) c.1 st (nI k) (nI (W + 2)) lcn wor ((W + 2) * (Hh + 2)) ((W + 2) * (Hh + 2)) ((W + 2) * (Hh + 2)) 376 (nI x) (nI bot) N (nI (y)) c.2.1 c.2.2 s.1 s.2 = some (nI bot, c'.2.1, c'.2.2, s'.1, s'.2) ∧ f_M_walk_L34 (nI W) (nI Hh) st (nI k) mtr 1 (nI p) pn (bI rw) msam mreads 256 12000 12000 12000 12000 256 256 256 256 256 256 1 (nI x) (nI top) N' (nI (y)) m.1 m.2.1 m.2.2.1 m.2.2.2.1 m.2.2.2.2.1 m.2.2.2.2.2 A.1 A.2.1 A.2.2.1 A.2.2.2.1 A.2.2.2.2.1 A.2.2.2.2.2 = some (nI bot, m'.1, m'.2.1, m'.2.2.1, m'.2.2.2.1, m'.2.2.2.2.1, m'.2.2.2.2.2, A'.1, A'.2.1, A'.2.2.1, A'.2.2.2.1, A'.2.2.2.2.1, A'.2.2.2.2.2) ∧ WI W Hh 1 p top x bot c' A' ∧ TL lcn wor mtr mreads m0 (Phi W Hh c' + r) s' m' := by
  intro d
  induction d with
  | zero =>
    intro y N N' c A s m hd ht hN hN' h hT
    obtain rfl : y = bot := by omega
    obtain ⟨N, rfl⟩ : ∃ q, N = q + 1 := ⟨N - 1, by omega⟩
    obtain ⟨N', rfl⟩ : ∃ q, N' = q + 1 := ⟨N' - 1, by omega⟩
    refine ⟨c, A, s, m, rfl, ?_, ?_, h, hT⟩
    · rw [f_WL_refineColumn_L3, if_pos (nI_le (Nat.le_refl _) (by omega))]
    · rw [f_M_walk_L34]
      by_cases h4 : top + 4 ≤ y
      · rw [if_pos (by rw [show (4 : Int32) = nI 4 from rfl, nI_add]; exact nI_le h4 (by omega))]
      · rw [if_neg (by rw [show (4 : Int32) = nI 4 from rfl, nI_add]; exact nI_ge (by omega) (by omega)), if_pos (nI_le (by omega) (by omega))]
  | succ d ih =>
    intro y N N' c A s m hd ht hN hN' h hT
    obtain ⟨N, rfl⟩ : ∃ q, N = q + 1 := ⟨N - 1, by omega⟩
    obtain ⟨N', rfl⟩ : ∃ q, N' = q + 1 := ⟨N' - 1, by omega⟩
    obtain ⟨c1, A1, s1, m1, e0, e1, e2, h1, hT1⟩ := refStep_L (bot := bot) (r := r) (rw := rw) (st := st) (k := k) (pn := pn) (msam := msam) hW hH hk hp hx (by omega) ht (by omega) (by omega) (by omega)  h hT
    rw [e1, e2]
    obtain ⟨c2, A2, s2, m2, f0, f1, f2, h2, hT2⟩ := ih (y + 1) N N' c1 A1 s1 m1 (by omega) (by omega) (by omega) (by omega) h1 hT1
    rw [e0] at f0 f1
    exact ⟨c2, A2, s2, m2, f0, f1, f2, h2, hT2⟩

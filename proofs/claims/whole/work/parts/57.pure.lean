/-! PURE: a run of four, the cleanup's column -/
theorem run50_ok {x top p : Nat} {sz lo : Nat → Int32} (hx : x < 16) (ht : top + 4 ≤ 16) :
    ∀ (d j N : Nat), j + d = 4 → d < N → f_M_run_L50 (nI p) 256 256 (nI x) (nI top) N (nI j) (mkS x top p sz j) (mkR x top p lo j) = some (nI 4, mkS x top p sz 4, mkR x top p lo 4) := by
  intro d
  induction d with
  | zero =>
    intro j N hj hN
    obtain rfl : j = 4 := by omega
    obtain ⟨N, rfl⟩ : ∃ q, N = q + 1 := ⟨N - 1, by omega⟩
    rw [f_M_run_L50, if_pos (by decide)]
  | succ d ih =>
    intro j N hj hN
    obtain ⟨N, rfl⟩ : ∃ q, N = q + 1 := ⟨N - 1, by omega⟩
    have hs : ir x (top + j) < 256 := ir_lt hx (by omega)
    rw [f_M_run_L50, if_neg (show ¬ (4 : Int32) ≤ nI j from nI_ge (a := j) (b := 4) (by omega) (by omega)), nI_add, ir_e, M_know_ok hs (by decide), Option.bind_some, nI_1]
    exact ih (j + 1) N (by omega) (by omega)
theorem run110_ok {x top p at_ : Nat} {sz lo : Nat → Int32} {u6 u7 : Int32 × MT} (hx : x < 16) (ht : top + 4 ≤ 16) (ha : at_ < 4) (hu : ((2 : Int32) * u6.1) + u7.1 = nI at_) :
    ∀ (d j N : Nat), j + d = at_ → d + 1 < N → f_M_run_L110 (nI p) 256 256 (nI x) (nI top) u6 u7 N (nI j) (mkS x top p sz j) (mkR x top p lo j) = some (nI (at_ + 1), upd (mkS x top p sz at_) (ir x (top + at_)) (mkS x top p sz at_ (ir x (top + at_)) ||| ((1 : Int32) <<< (nI p &&& 31))), mkR x top p lo (at_ + 1)) := by
  intro d
  induction d with
  | zero =>
    intro j N hj hN
    obtain rfl : j = at_ := by omega
    obtain ⟨N, rfl⟩ : ∃ q, N = q + 2 := ⟨N - 2, by omega⟩
    have hs : ir x (top + j) < 256 := ir_lt hx (by omega)
    rw [f_M_run_L110, hu, if_neg (nI_nlt (Nat.le_refl _) (by omega)), if_pos rfl, Option.bind_some, nI_add, ir_e, M_know_ok hs (by decide), Option.bind_some, nI_1, f_M_run_L110, hu, if_pos (nI_lt (by omega) (by omega))]
    rfl
  | succ d ih =>
    intro j N hj hN
    obtain ⟨N, rfl⟩ : ∃ q, N = q + 1 := ⟨N - 1, by omega⟩
    have hs : ir x (top + j) < 256 := ir_lt hx (by omega)
    rw [f_M_run_L110, hu, if_neg (nI_nlt (by omega) (by omega)), if_neg (fun q => by have := (nI_eq (by omega) (by omega)).mp q; omega), Option.bind_some, nI_add, ir_e, M_know_ok hs (by decide), Option.bind_some, nI_1]
    exact ih (j + 1) N (by omega) (by omega)
theorem first_T {W Hh x top p : Nat} {sam msam : Nat → Int32} (hW : W ≤ 16) (hH : Hh ≤ 16) (hx : x < W) (h4 : top + 4 ≤ Hh) (hM : SAM W Hh sam msam) :
    ∀ (d j N N' : Nat), j + d = 4 → d < N → d < N' → ∃ q, q ≤ 4 ∧ ((f_WT_firstOne_L2 (nI p) (nI (W + 2)) sam ((W + 2) * (Hh + 2)) (nI x) (nI top) N (nI j)).bind fun u1 => if u1.1 = 0 then some (4 : Int32) else some (u1.2)) = some (nI q) ∧ f_M_run_L2 (nI p) msam 256 (nI x) (nI top) N' (nI j) = some (nI q) := by
  intro d
  induction d with
  | zero =>
    intro j N N' hj hN hN'
    obtain rfl : j = 4 := by omega
    obtain ⟨N, rfl⟩ : ∃ q, N = q + 1 := ⟨N - 1, by omega⟩
    obtain ⟨N', rfl⟩ : ∃ q, N' = q + 1 := ⟨N' - 1, by omega⟩
    exact ⟨4, by omega, by rw [f_WT_firstOne_L2, if_pos (by decide)]; rfl, by rw [f_M_run_L2, if_pos (by decide)]⟩
  | succ d ih =>
    intro j N N' hj hN hN'
    obtain ⟨N, rfl⟩ : ∃ q, N = q + 1 := ⟨N - 1, by omega⟩
    obtain ⟨N', rfl⟩ : ∃ q, N' = q + 1 := ⟨N' - 1, by omega⟩
    have hn := nC_le hW hH
    have hy : top + j < Hh := by omega
    have hi := ic_lt hx hy
    have hs : ir x (top + j) < 256 := ir_lt (by omega) (by omega)
    have b2 : ¬ (4 : Int32) ≤ nI j := nI_ge (a := j) (b := 4) (by omega) (by omega)
    rw [f_WT_firstOne_L2, if_neg b2, nI_add, cellOf_ok, T_sizeBit_ok hi (by omega), Option.bind_some, f_M_run_L2, if_neg b2, nI_add, ir_e, M_bitOf_ok hs (by decide), Option.bind_some, hM x (top + j) hx hy, nI_1]
    cases szb (msam (ir x (top + j))) p with
    | true =>
      rw [if_pos bI_tt, if_neg (show ¬ bI true = 0 by decide)]
      exact ⟨j, by omega, rfl, rfl⟩
    | false =>
      rw [if_neg (show ¬ bI false = 1 by decide), if_pos bI_ff]
      exact ih (j + 1) N N' (by omega) (by omega) (by omega)
theorem first_M {Hh x top p : Nat} {msam : Nat → Int32} (hH : Hh ≤ 16) (hx : x < 16) (h4 : top + 4 ≤ Hh) :
    ∀ (d j N' : Nat), j + d = 4 → d < N' → ∃ q, q ≤ 4 ∧ f_M_run_L2 (nI p) msam 256 (nI x) (nI top) N' (nI j) = some (nI q) := by
  intro d
  induction d with
  | zero =>
    intro j N' hj hN'
    obtain rfl : j = 4 := by omega
    obtain ⟨N', rfl⟩ : ∃ q, N' = q + 1 := ⟨N' - 1, by omega⟩
    exact ⟨4, by omega, by rw [f_M_run_L2, if_pos (by decide)]⟩
  | succ d ih =>
    intro j N' hj hN'
    obtain ⟨N', rfl⟩ : ∃ q, N' = q + 1 := ⟨N' - 1, by omega⟩
    have hs : ir x (top + j) < 256 := ir_lt (by omega) (by omega)
    have b2 : ¬ (4 : Int32) ≤ nI j := nI_ge (a := j) (b := 4) (by omega) (by omega)
    rw [f_M_run_L2, if_neg b2, nI_add, ir_e, M_bitOf_ok hs (by decide), Option.bind_some, nI_1]
    cases szb (msam (ir x (top + j))) p with
    | true =>
      rw [if_neg (show ¬ bI true = 0 by decide)]
      exact ⟨j, by omega, rfl⟩
    | false =>
      rw [if_pos bI_ff]
      exact ih (j + 1) N' (by omega) (by omega)
theorem first_L : f_WL_firstOne = some (4 : Int32) := by
  unfold f_WL_firstOne
  rw [show kBig = 99995 + 1 + 1 + 1 + 1 + 1 from rfl, f_WL_firstOne_L2, f_WL_firstOne_L2, f_WL_firstOne_L2, f_WL_firstOne_L2, f_WL_firstOne_L2]
  rfl
theorem four_le {q : Nat} (h : q ≤ 4) : (if (4 : Int32) ≤ nI q then some (0 : Int32) else some (1 : Int32)) = some (bI (decide (q < 4))) := by
  by_cases hq : q = 4
  · subst hq; rfl
  · rw [if_neg (show ¬ (4 : Int32) ≤ nI q from nI_ge (a := q) (b := 4) (by omega) (by omega)), decide_eq_true (show q < 4 by omega)]; rfl
def plc (h l : Bool) : Nat := 2 * (if h then 1 else 0) + (if l then 1 else 0)
theorem plc_lt (h l : Bool) : plc h l < 4 := by cases h <;> cases l <;> decide
theorem plc_e (h l : Bool) : (2 : Int32) * bI h + bI l = nI (plc h l) := by cases h <;> cases l <;> decide
theorem markL_T {W Hh x top p n : Nat} {low : Nat → Int32} (hW : W ≤ 16) (hH : Hh ≤ 16) (hx : x < W) (hn4 : n ≤ 4) (h4 : top + n ≤ Hh) :
    ∀ (d j N : Nat), j + d = n → d < N → f_WT_markTold_L3 (nI p) (nI (W + 2)) ((W + 2) * (Hh + 2)) (nI x) (nI top) (nI n) N (nI j) (mkL W x top p low j) = some (nI n, mkL W x top p low n) := by
  have hn := nC_le hW hH
  intro d
  induction d with
  | zero =>
    intro j N hj hN
    obtain rfl : j = n := by omega
    obtain ⟨N, rfl⟩ : ∃ q, N = q + 1 := ⟨N - 1, by omega⟩
    rw [f_WT_markTold_L3, if_pos (nI_le (Nat.le_refl _) (by omega))]
  | succ d ih =>
    intro j N hj hN
    obtain ⟨N, rfl⟩ : ∃ q, N = q + 1 := ⟨N - 1, by omega⟩
    have hi := ic_lt hx (show top + j < Hh by omega)
    rw [f_WT_markTold_L3, if_neg (nI_ge (by omega) (by omega)), nI_add, cellOf_ok, pc_ok hi (by omega), cl_ok hi (by omega), nI_1]
    exact ih (j + 1) N (by omega) (by omega)
theorem mark_T {W Hh x top p n : Nat} {low : Nat → Int32} (hW : W ≤ 16) (hH : Hh ≤ 16) (hx : x < W) (hn4 : n ≤ 4) (h4 : top + n ≤ Hh) :
    f_WT_markTold (nI p) low (nI (W + 2)) ((W + 2) * (Hh + 2)) (nI x) (nI top) (nI n) = some (mkL W x top p low n) := by
  unfold f_WT_markTold
  have := markL_T (p := p) (low := low) hW hH hx hn4 h4 n 0 kBig (by omega) (by unfold kBig; omega)
  rw [nI_0] at this
  rw [show low = mkL W x top p low 0 from rfl, this, Option.bind_some]
  rfl
theorem run_T {W Hh x t p r : Nat} {st : Int32} {pn mtr : Int32} {nR : Nat} {sam msam mreads : Nat → Int32} {c : CA} {A : RA} {s : (Int32 × (Nat → Int32))} {m : MT} (hW : W ≤ 16) (hH : Hh ≤ 16) (hp : p < 15) (hx : x < W) (h4 : 4 * t + 4 ≤ Hh) (hM : SAM W Hh sam msam)
    (h : WI W Hh 2 p (4 * t) x (4 * t) c A) (ho : ∀ i, i < 4 → OP p A (ir x (4 * t + i))) (hT : TT pn nR (Phi W Hh c + r) s m) :
    ∃ (n : Nat) (c' : CA) (A' : RA) (s' : (Int32 × (Nat → Int32))) (m' : MT), 1 ≤ n ∧ n ≤ 4
      ∧ f_WT_exchangeRun (nI p) (bI false) c.1 c.2.1 c.2.2 st (nI (W + 2)) s.1 pn sam s.2 ((W + 2) * (Hh + 2)) ((W + 2) * (Hh + 2)) ((W + 2) * (Hh + 2)) ((W + 2) * (Hh + 2)) nR (nI x) (nI (4 * t)) = some (nI n, c'.1, c'.2.1, c'.2.2, s'.1, s'.2)
      ∧ f_M_run (nI W) (nI Hh) st m.1 mtr 0 m.2.1 m.2.2.1 (nI p) pn (bI false) msam m.2.2.2.1 m.2.2.2.2.1 m.2.2.2.2.2 mreads A.1 A.2.1 A.2.2.1 A.2.2.2.2.2 256 12000 12000 12000 12000 256 256 256 256 (nI x) (nI (4 * t)) = some (nI n, m'.1, m'.2.1, m'.2.2.1, m'.2.2.2.1, m'.2.2.2.2.1, m'.2.2.2.2.2, A'.1, A'.2.1, A'.2.2.1, A'.2.2.2.2.2)
      ∧ A'.2.2.2.1 = A.2.2.2.1 ∧ A'.2.2.2.2.1 = A.2.2.2.2.1 ∧ WI W Hh 2 p (4 * t) x (4 * t + n) c' A' ∧ TT pn nR (Phi W Hh c' + r) s' m' := by
  have hn := nC_le hW hH
  have hn2 : ((W + 2) * (Hh + 2)) < 2 ^ 31 := by omega
  have R1 := run_Phi hp hx h4 h ho (at_ := 0) (by omega) 1 0 (by decide)
  have R0 := mk_Phi0 hp hx h4 h ho 4 (by omega)
  obtain ⟨q, hq, f1, f2⟩ := first_T (p := p) hW hH hx h4 hM 4 0 kBig kBig (by omega) (by decide) (by decide)
  rw [nI_0] at f1 f2
  have f3 := four_le hq
  obtain ⟨r1, s1, m1, e1, e2, hT1⟩ := ex_T (mtr := mtr) (mreads := mreads) (k := Phi W Hh c - 1 + r) (TT_le hT (by omega)) (decide (q < 4)) (show 17 < 32 by omega)
  unfold f_WT_exchangeRun f_M_run
  unfold f_WT_firstOne; rw [f1, Option.bind_some, f3, Option.bind_some, show (17 : Int32) = nI 17 from rfl, e1, Option.bind_some, f2, Option.bind_some, f3, Option.bind_some, e2, Option.bind_some]
  cases r1 with
  | false =>
    rw [if_pos (show ((bI false, s1) : Int32 × _).1 = 0 from rfl), if_pos (show ((bI false, m1) : Int32 × _).1 = 0 from rfl)]
    have k1 := run50_ok (p := p) (sz := A.1) (lo := A.2.2.2.2.2) (show x < 16 by omega) (show 4 * t + 4 ≤ 16 by omega) 4 0 kBig (by omega) (by decide)
    rw [nI_0] at k1
    have k2 := mark_T (p := p) (low := c.2.2) hW hH hx (Nat.le_refl 4) h4
    rw [show (4 : Int32) = nI 4 from rfl, k2, Option.bind_some, show A.1 = mkS x (4 * t) p A.1 0 from rfl, show A.2.2.2.2.2 = mkR x (4 * t) p A.2.2.2.2.2 0 from rfl, k1, Option.bind_some]
    exact ⟨4, (c.1, c.2.1, mkL W x (4 * t) p c.2.2 4), (mkS x (4 * t) p A.1 4, A.2.1, A.2.2.1, A.2.2.2.1, A.2.2.2.2.1, mkR x (4 * t) p A.2.2.2.2.2 4), s1, m1, by omega, by omega, rfl, rfl, rfl, rfl, mk_WI hW hp hx h4 h ho 4 (by omega), TT_le hT1 (by omega)⟩
  | true =>
    rw [if_neg (show ¬ ((bI true, s1) : Int32 × _).1 = 0 from (by decide : ¬ bI true = (0 : Int32))), if_neg (show ¬ ((bI true, m1) : Int32 × _).1 = 0 from (by decide : ¬ bI true = (0 : Int32)))]
    dsimp only
    obtain ⟨r2, s2, m2, e3, e4, hT2⟩ := ex_T (mtr := mtr) (mreads := mreads) (k := Phi W Hh c - 2 + r) (TT_le hT1 (by omega)) (bt (nI q >>> ((1 : Int32) &&& 31)) 0) (show 18 < 32 by omega)
    obtain ⟨r3, s3, m3, e5, e6, hT3⟩ := ex_T (mtr := mtr) (mreads := mreads) (k := Phi W Hh c - 3 + r) (TT_le hT2 (by omega)) (bt (nI q) 0) (show 18 < 32 by omega)
    rw [and1_bI (nI q >>> ((1 : Int32) &&& 31)), and1_bI (nI q), show (18 : Int32) = nI 18 from rfl]
    rw [e3, Option.bind_some, e4, Option.bind_some]
    dsimp only
    rw [e5, Option.bind_some, e6, Option.bind_some]
    have hpl := plc_lt r2 r3
    have k1 := run110_ok (p := p) (sz := A.1) (lo := A.2.2.2.2.2) (u6 := (bI r2, m2)) (u7 := (bI r3, m3)) (show x < 16 by omega) (show 4 * t + 4 ≤ 16 by omega) hpl (plc_e r2 r3) (plc r2 r3) 0 kBig (by omega) (by unfold kBig; omega)
    rw [nI_0] at k1
    rw [show (mkS x (4 * t) p A.1 0) = A.1 from rfl, show (mkR x (4 * t) p A.2.2.2.2.2 0) = A.2.2.2.2.2 from rfl] at k1
    rw [k1, Option.bind_some]
    dsimp only
    rw [plc_e, nI_1, nI_add]
    have k2 := mark_T (p := p) (low := c.2.2) hW hH hx (show plc r2 r3 + 1 ≤ 4 by omega) (show 4 * t + (plc r2 r3 + 1) ≤ Hh by omega)
    obtain ⟨b, s4, m4, e7, e8, hT4⟩ := sign_T (y := 4 * t + plc r2 r3) (p := p) (st := st) (rw := false) (siz := c.2.1) (k := Phi W Hh c - 4 + r) (mtr := mtr) (mreads := mreads) hW hH h.1 hx (by omega) hM (TT_le hT3 (by omega))
    rw [k2, Option.bind_some, cellOf_ok, isBlind_ok (by omega), e7, Option.bind_some, e8, Option.bind_some]
    dsimp only
    have R2 := run_Phi hp hx h4 h ho hpl (if b then -1 else 1) ((1 : Int32) <<< (nI p &&& 31)) (sgb_ne b)
    obtain ⟨o1, o2, o3, o4, o5, o6⟩ := ho (plc r2 r3) hpl
    obtain ⟨a1, a2, a3, a4⟩ := WI_at2 h hx (show 4 * t + plc r2 r3 < Hh by omega) (by omega) (by omega)
    refine ⟨plc r2 r3 + 1, (upd c.1 (ic W x (4 * t + plc r2 r3)) (if b then -1 else 1), upd c.2.1 (ic W x (4 * t + plc r2 r3)) ((1 : Int32) <<< (nI p &&& 31)), mkL W x (4 * t) p c.2.2 (plc r2 r3 + 1)),
      (upd (mkS x (4 * t) p A.1 (plc r2 r3)) (ir x (4 * t + plc r2 r3)) (mkS x (4 * t) p A.1 (plc r2 r3) (ir x (4 * t + plc r2 r3)) ||| ((1 : Int32) <<< (nI p &&& 31))), upd A.2.1 (ir x (4 * t + plc r2 r3)) (bI b), upd A.2.2.1 (ir x (4 * t + plc r2 r3)) (nI p), A.2.2.2.1, A.2.2.2.2.1, mkR x (4 * t) p A.2.2.2.2.2 (plc r2 r3 + 1)), s4, m4, by omega, by omega, rfl, rfl, rfl, rfl, ?_, TT_le hT4 (by omega)⟩
    refine WI_step (y := 4 * t + plc r2 r3) (mk_WI hW hp hx h4 h ho (plc r2 r3) (by omega)) hW hx (by omega) (by omega) (by omega) (fun i hi => ⟨pk_un hi, pk_un hi, pk_un hi⟩) (fun u hu => ⟨pk_un hu, pk_un hu, pk_un hu, rfl, rfl, pk_un hu⟩) (pk_us.trans (rS_new (by omega)).symm) ?_ (pk_us.trans pk_us.symm) ?_
    · refine pk_us.trans (Eq.trans ?_ pk_us.symm)
      rw [mkS_ge (by omega) _ _ (Nat.le_refl _), o2]
      exact (Int32.zero_or).symm
    · show CK 3 p (upd _ _ _ _) (upd _ _ _ _) (upd _ _ _ _) (upd _ _ _ _) _ _
      rw [pk_us, pk_us, pk_us, pk_us, mkS_ge (by omega) _ _ (Nat.le_refl _), o2, Int32.zero_or]
      exact ⟨bI_01 b, .inr (.inr (.inl ⟨rfl, rfl, o3, rfl, by omega⟩))⟩
theorem cleanStep_T {W Hh x j top bot p k r : Nat} {st : Int32} {pn mtr : Int32} {nR : Nat} {sam msam mreads : Nat → Int32} {c : CA} {A : RA} {s : (Int32 × (Nat → Int32))} {m : MT} (hW : W ≤ 16) (hH : Hh ≤ 16) (hk : k < 3) (hp : p < 15) (hx : x < W) (hy : top + j < Hh) (hj : j < 4) (hb : top + j < bot) (hb2 : bot ≤ 16) (hM : SAM W Hh sam msam)
    (h : WI W Hh 2 p top x (top + j) c A) (hT : TT pn nR (Phi W Hh c + r) s m) :
    ∃ (c' : CA) (A' : RA) (s' : (Int32 × (Nat → Int32))) (m' : MT), A'.2.2.2.1 = A.2.2.2.1 ∧ A'.2.2.2.2.1 = A.2.2.2.2.1 ∧ (∀ N, f_WT_cleanColumn_L28 (nI p) (bI false) st (nI k) (nI (W + 2)) pn sam ((W + 2) * (Hh + 2)) ((W + 2) * (Hh + 2)) ((W + 2) * (Hh + 2)) ((W + 2) * (Hh + 2)) nR (nI x) (nI bot) (N + 1) (nI (top + j)) c.1 c.2.1 c.2.2 s.1 s.2 = f_WT_cleanColumn_L28 (nI p) (bI false) st (nI k) (nI (W + 2)) pn sam ((W + 2) * (Hh + 2)) ((W + 2) * (Hh + 2)) ((W + 2) * (Hh + 2)) ((W + 2) * (Hh + 2)) nR (nI x) (nI bot) N (nI (top + (j + 1))) c'.1 c'.2.1 c'.2.2 s'.1 s'.2) ∧ (∀ N, f_M_cleanup_L20 (nI W) (nI Hh) st (nI k) mtr 0 (nI p) pn (bI false) msam mreads A.2.2.2.1 256 12000 12000 12000 12000 256 256 256 256 256 (nI x) (nI top) (N + 1) (nI (j)) m.1 m.2.1 m.2.2.1 m.2.2.2.1 m.2.2.2.2.1 m.2.2.2.2.2 A.1 A.2.1 A.2.2.1 A.2.2.2.2.2 = f_M_cleanup_L20 (nI W) (nI Hh) st (nI k) mtr 0 (nI p) pn (bI false) msam mreads A'.2.2.2.1 256 12000 12000 12000 12000 256 256 256 256 256 (nI x) (nI top) N (nI (j + 1)) m'.1 m'.2.1 m'.2.2.1 m'.2.2.2.1 m'.2.2.2.2.1 m'.2.2.2.2.2 A'.1 A'.2.1 A'.2.2.1 A'.2.2.2.2.2) ∧ WI W Hh 2 p top x (top + (j + 1)) c' A' ∧ TT pn nR (Phi W Hh c' + r) s' m' := by
  obtain ⟨o, o1, o2, o3, o4⟩ := open_T hW hH hp h hx hy (by omega) (by omega)
  have b1 : ¬ nI bot ≤ nI (top + j) := nI_ge hb (by omega)
  have b2 : ¬ (4 : Int32) ≤ nI j := nI_ge (a := j) (b := 4) (by omega) (by omega)
  have b3 : ¬ nI Hh ≤ nI (top + j) := nI_ge hy (by omega)
  cases o with
  | false =>
    refine ⟨c, A, s, m, rfl, rfl, ?_, ?_, WI_skip (y := top + j) h hW hx hy (by omega) (by omega) (o4 rfl), hT⟩
    · intro N
      rw [f_WT_cleanColumn_L28, if_neg b1, cellOf_ok, o1, Option.bind_some, if_pos bI_ff, Option.bind_some, nI_1]; rfl
    · intro N
      rw [f_M_cleanup_L20, if_neg b2, nI_add, if_neg b3, o2, Option.bind_some, if_pos bI_ff, Option.bind_some, nI_1]
  | true =>
    obtain ⟨q1, q2, q3, q4, q5, q6⟩ := o3 rfl
    obtain ⟨a1, a2, a3, a4⟩ := WI_at2 h hx hy (by omega) (by omega)
    obtain ⟨cx, hcx, ecx⟩ := ctxV_nat (W := W) (x := x) (y := top + j) st c.1 hk
    have cx1 := Mctx_ok (st := st) hW hH hk h.1 hx hy
    have cx2 := WT_ctx_ok (st := st) (bd := nI k) (sgn := c.1) hW hH hx hy
    rw [ecx] at cx1 cx2
    obtain ⟨c', sz', be', fa', lo', s', m', e1, e2, ⟨z1, z2, z3, z4, z5, z6, z7, z8⟩, hT'⟩ := size_T (r := r) (st := st) (rw := false) (p := p) (cx := cx) (cr := cx) (mtr := mtr) (mreads := mreads) hW hH h.1 hx hy hp hM q1 q2 a2 (a3.trans q4) q6 rfl (by omega) hT
    refine ⟨c', (sz', be', fa', A.2.2.2.1, A.2.2.2.2.1, lo'), s', m', rfl, rfl, ?_, ?_, ?_, hT'⟩
    · intro N
      rw [f_WT_cleanColumn_L28, if_neg b1, cellOf_ok, isBlind_ok (by omega), o1, Option.bind_some, if_neg (show ¬ bI true = 0 by decide), cx2, Option.bind_some, e1, Option.bind_some, Option.bind_some, nI_1]; rfl
    · intro N
      rw [f_M_cleanup_L20, if_neg b2, nI_add, if_neg b3, o2, Option.bind_some, if_neg (show ¬ bI true = 0 by decide), cx1, Option.bind_some, e2, Option.bind_some, Option.bind_some, nI_1]
    · refine WI_step (y := top + j) h hW hx hy (by omega) (by omega) z1 (fun t hq => ?_) z3 z4 z5 ?_
      · obtain ⟨q1, q2, q3, q4⟩ := z2 t hq
        exact ⟨q1, q2, q3, rfl, rfl, q4⟩
      · dsimp only
        rw [z6]
        refine ⟨z7, ?_⟩
        rcases z8 with ⟨w1, w2⟩ | ⟨w1, w2⟩
        · exact .inr (.inl ⟨w1, w2, q3, rfl, .inl rfl⟩)
        · exact .inr (.inr (.inl ⟨w1, w2, q3, rfl, by omega⟩))
theorem cleanCol_T {W Hh x top bot p k r : Nat} {st : Int32} {pn mtr : Int32} {nR : Nat} {sam msam mreads : Nat → Int32} (hW : W ≤ 16) (hH : Hh ≤ 16) (hk : k < 3) (hp : p < 15) (hx : x < W) (hbH : bot ≤ Hh) (hb4 : bot ≤ top + 4) (hbe : bot = top + 4 ∨ bot = Hh) (hM : SAM W Hh sam msam) :
    ∀ (d j N N' : Nat) (c : CA) (A : RA) (s : (Int32 × (Nat → Int32))) (m : MT), top + j + d = bot → d < N → d < N' → WI W Hh 2 p top x (top + j) c A → TT pn nR (Phi W Hh c + r) s m →
    ∃ (c' : CA) (A' : RA) (s' : (Int32 × (Nat → Int32))) (m' : MT), A'.2.2.2.1 = A.2.2.2.1 ∧ A'.2.2.2.2.1 = A.2.2.2.2.1 ∧ f_WT_cleanColumn_L28 (nI p) (bI false) st (nI k) (nI (W + 2)) pn sam ((W + 2) * (Hh + 2)) ((W + 2) * (Hh + 2)) ((W + 2) * (Hh + 2)) ((W + 2) * (Hh + 2)) nR (nI x) (nI bot) N (nI (top + j)) c.1 c.2.1 c.2.2 s.1 s.2 = some (nI bot, c'.1, c'.2.1, c'.2.2, s'.1, s'.2) ∧ (∃ v, f_M_cleanup_L20 (nI W) (nI Hh) st (nI k) mtr 0 (nI p) pn (bI false) msam mreads A.2.2.2.1 256 12000 12000 12000 12000 256 256 256 256 256 (nI x) (nI top) N' (nI (j)) m.1 m.2.1 m.2.2.1 m.2.2.2.1 m.2.2.2.2.1 m.2.2.2.2.2 A.1 A.2.1 A.2.2.1 A.2.2.2.2.2 = some (v, m'.1, m'.2.1, m'.2.2.1, m'.2.2.2.1, m'.2.2.2.2.1, m'.2.2.2.2.2, A'.1, A'.2.1, A'.2.2.1, A'.2.2.2.2.2)) ∧ WI W Hh 2 p top x bot c' A' ∧ TT pn nR (Phi W Hh c' + r) s' m' := by
  intro d
  induction d with
  | zero =>
    intro j N N' c A s m hd hN hN' h hT
    obtain rfl : top + j = bot := by omega
    obtain ⟨N, rfl⟩ : ∃ q, N = q + 1 := ⟨N - 1, by omega⟩
    obtain ⟨N', rfl⟩ : ∃ q, N' = q + 1 := ⟨N' - 1, by omega⟩
    refine ⟨c, A, s, m, rfl, rfl, ?_, ⟨nI j, ?_⟩, h, hT⟩
    · rw [f_WT_cleanColumn_L28, if_pos (nI_le (Nat.le_refl _) (by omega))]
    · rw [f_M_cleanup_L20, nI_add]
      by_cases h4 : 4 ≤ j
      · rw [if_pos (show (4 : Int32) ≤ nI j from nI_le (a := 4) (b := j) h4 (by omega))]
      · rw [if_neg (show ¬ (4 : Int32) ≤ nI j from nI_ge (a := j) (b := 4) (by omega) (by omega)), if_pos (nI_le (by omega) (by omega))]
  | succ d ih =>
    intro j N N' c A s m hd hN hN' h hT
    obtain ⟨N, rfl⟩ : ∃ q, N = q + 1 := ⟨N - 1, by omega⟩
    obtain ⟨N', rfl⟩ : ∃ q, N' = q + 1 := ⟨N' - 1, by omega⟩
    obtain ⟨c1, A1, s1, m1, g1, g2, e1, e2, h1, hT1⟩ := cleanStep_T (bot := bot) (r := r) (st := st) (k := k) (mtr := mtr) (mreads := mreads) hW hH hk hp hx (by omega) (by omega) (by omega) (by omega) hM h hT
    rw [e1, e2]
    obtain ⟨c2, A2, s2, m2, i1, i2, f1, f2, h2, hT2⟩ := ih (j + 1) N N' c1 A1 s1 m1 (by omega) (by omega) (by omega) h1 hT1
    exact ⟨c2, A2, s2, m2, i1.trans g1, i2.trans g2, f1, f2, h2, hT2⟩
theorem cleanAll_T {W Hh x t bot p k r : Nat} {st : Int32} {pn mtr : Int32} {nR : Nat} {sam msam mreads : Nat → Int32} {c : CA} {A : RA} {s : (Int32 × (Nat → Int32))} {m : MT} (hW : W ≤ 16) (hH : Hh ≤ 16) (hk : k < 3) (hp : p < 15) (hx : x < W) (htH : 4 * t < Hh) (hbH : bot ≤ Hh) (hb4 : bot ≤ 4 * t + 4) (hbe : bot = 4 * t + 4 ∨ bot = Hh) (hM : SAM W Hh sam msam)
    (h : WI W Hh 2 p (4 * t) x (4 * t) c A) (hT : TT pn nR (Phi W Hh c + r) s m) :
    ∃ (c' : CA) (A' : RA) (s' : (Int32 × (Nat → Int32))) (m' : MT), A'.2.2.2.1 = A.2.2.2.1 ∧ A'.2.2.2.2.1 = A.2.2.2.2.1
      ∧ f_WT_cleanColumn (nI p) (bI false) c.1 c.2.1 c.2.2 st (nI k) (nI (W + 2)) s.1 pn sam s.2 ((W + 2) * (Hh + 2)) ((W + 2) * (Hh + 2)) ((W + 2) * (Hh + 2)) ((W + 2) * (Hh + 2)) nR (nI x) (nI (4 * t)) (nI bot) = some (c'.1, c'.2.1, c'.2.2, s'.1, s'.2)
      ∧ f_M_cleanup (nI W) (nI Hh) st (nI k) m.1 mtr 0 m.2.1 m.2.2.1 (nI p) pn (bI false) msam m.2.2.2.1 m.2.2.2.2.1 m.2.2.2.2.2 mreads A.1 A.2.1 A.2.2.1 A.2.2.2.1 A.2.2.2.2.2 256 12000 12000 12000 12000 256 256 256 256 256 (nI x) (nI (4 * t)) = some (m'.1, m'.2.1, m'.2.2.1, m'.2.2.2.1, m'.2.2.2.2.1, m'.2.2.2.2.2, A'.1, A'.2.1, A'.2.2.1, A'.2.2.2.2.2)
      ∧ WI W Hh 2 p (4 * t) x bot c' A' ∧ TT pn nR (Phi W Hh c' + r) s' m' := by
  obtain ⟨e, e1, e2, e3⟩ := untouched_T (st := st) hW hH hk hp hx htH hbH hb4 hbe (by omega) h
  unfold f_WT_cleanColumn f_M_cleanup
  rw [e1, Option.bind_some, e2, Option.bind_some]
  cases e with
  | false =>
    rw [if_pos bI_ff, if_pos bI_ff, Option.bind_some, Option.bind_some]
    obtain ⟨c2, A2, s2, m2, i1, i2, f1, ⟨v, f2⟩, h2, hT2⟩ := cleanCol_T (bot := bot) (r := r) (st := st) (k := k) (mtr := mtr) (mreads := mreads) hW hH hk hp hx hbH hb4 hbe hM (bot - 4 * t) 0 kBig kBig c A s m (by omega) (by unfold kBig; omega) (by unfold kBig; omega) h hT
    rw [show 4 * t + 0 = 4 * t from rfl] at f1
    rw [nI_0] at f2
    rw [f1, Option.bind_some, f2, Option.bind_some]
    exact ⟨c2, A2, s2, m2, i1, i2, rfl, rfl, h2, hT2⟩
  | true =>
    obtain ⟨h4, rfl, ho⟩ := e3 rfl
    rw [if_neg (show ¬ bI true = 0 by decide), if_neg (show ¬ bI true = 0 by decide)]
    obtain ⟨n, c1, A1, s1, m1, n1, n4, g1, g2, g3, g4, h1, hT1⟩ := run_T (r := r) (st := st) (mtr := mtr) (mreads := mreads) hW hH hp hx h4 hM h ho hT
    rw [g1, Option.bind_some, Option.bind_some, g2, Option.bind_some, Option.bind_some]
    dsimp only
    obtain ⟨c2, A2, s2, m2, i1, i2, f1, ⟨v, f2⟩, h2, hT2⟩ := cleanCol_T (bot := 4 * t + 4) (r := r) (st := st) (k := k) (mtr := mtr) (mreads := mreads) hW hH hk hp hx hbH hb4 hbe hM (4 - n) n kBig kBig c1 A1 s1 m1 (by omega) (by unfold kBig; omega) (by unfold kBig; omega) h1 hT1
    rw [g3] at f2
    rw [nI_add, f1, Option.bind_some, f2, Option.bind_some]
    exact ⟨c2, A2, s2, m2, i1.trans g3, i2.trans g4, rfl, rfl, h2, hT2⟩
theorem markL_L {W Hh x top p n : Nat} {low : Nat → Int32} (hW : W ≤ 16) (hH : Hh ≤ 16) (hx : x < W) (hn4 : n ≤ 4) (h4 : top + n ≤ Hh) :
    ∀ (d j N : Nat), j + d = n → d < N → f_WL_markTold_L3 (nI p) (nI (W + 2)) ((W + 2) * (Hh + 2)) (nI x) (nI top) (nI n) N (nI j) (mkL W x top p low j) = some (nI n, mkL W x top p low n) := by
  have hn := nC_le hW hH
  intro d
  induction d with
  | zero =>
    intro j N hj hN
    obtain rfl : j = n := by omega
    obtain ⟨N, rfl⟩ : ∃ q, N = q + 1 := ⟨N - 1, by omega⟩
    rw [f_WL_markTold_L3, if_pos (nI_le (Nat.le_refl _) (by omega))]
  | succ d ih =>
    intro j N hj hN
    obtain ⟨N, rfl⟩ : ∃ q, N = q + 1 := ⟨N - 1, by omega⟩
    have hi := ic_lt hx (show top + j < Hh by omega)
    rw [f_WL_markTold_L3, if_neg (nI_ge (by omega) (by omega)), nI_add, cellOf_ok, pc_ok hi (by omega), cl_ok hi (by omega), nI_1]
    exact ih (j + 1) N (by omega) (by omega)
theorem mark_L {W Hh x top p n : Nat} {low : Nat → Int32} (hW : W ≤ 16) (hH : Hh ≤ 16) (hx : x < W) (hn4 : n ≤ 4) (h4 : top + n ≤ Hh) :
    f_WL_markTold (nI p) low (nI (W + 2)) ((W + 2) * (Hh + 2)) (nI x) (nI top) (nI n) = some (mkL W x top p low n) := by
  unfold f_WL_markTold
  have := markL_L (p := p) (low := low) hW hH hx hn4 h4 n 0 kBig (by omega) (by unfold kBig; omega)
  rw [nI_0] at this
  rw [show low = mkL W x top p low 0 from rfl, this, Option.bind_some]
  rfl
theorem run_L {W Hh x t p r : Nat} {st : Int32} {pn lcn mtr : Int32} {wor msam mreads : Nat → Int32} {m0 : MT} {c : CA} {A : RA} {s : (Int32 × Int32)} {m : MT} (hW : W ≤ 16) (hH : Hh ≤ 16) (hp : p < 15) (hx : x < W) (h4 : 4 * t + 4 ≤ Hh) 
    (h : WI W Hh 2 p (4 * t) x (4 * t) c A) (ho : ∀ i, i < 4 → OP p A (ir x (4 * t + i))) (hT : TL lcn wor mtr mreads m0 (Phi W Hh c + r) s m) :
    ∃ (n : Nat) (c' : CA) (A' : RA) (s' : (Int32 × Int32)) (m' : MT), 1 ≤ n ∧ n ≤ 4
      ∧ f_WL_exchangeRun (nI p) (bI false) c.1 c.2.1 c.2.2 st (nI (W + 2)) lcn s.1 s.2 wor ((W + 2) * (Hh + 2)) ((W + 2) * (Hh + 2)) ((W + 2) * (Hh + 2)) 376 (nI x) (nI (4 * t)) = some (nI n, c'.1, c'.2.1, c'.2.2, s'.1, s'.2)
      ∧ f_M_run (nI W) (nI Hh) st m.1 mtr 1 m.2.1 m.2.2.1 (nI p) pn (bI false) msam m.2.2.2.1 m.2.2.2.2.1 m.2.2.2.2.2 mreads A.1 A.2.1 A.2.2.1 A.2.2.2.2.2 256 12000 12000 12000 12000 256 256 256 256 (nI x) (nI (4 * t)) = some (nI n, m'.1, m'.2.1, m'.2.2.1, m'.2.2.2.1, m'.2.2.2.2.1, m'.2.2.2.2.2, A'.1, A'.2.1, A'.2.2.1, A'.2.2.2.2.2)
      ∧ A'.2.2.2.1 = A.2.2.2.1 ∧ A'.2.2.2.2.1 = A.2.2.2.2.1 ∧ WI W Hh 2 p (4 * t) x (4 * t + n) c' A' ∧ TL lcn wor mtr mreads m0 (Phi W Hh c' + r) s' m' := by
  have hn := nC_le hW hH
  have hn2 : ((W + 2) * (Hh + 2)) < 2 ^ 31 := by omega
  have R1 := run_Phi hp hx h4 h ho (at_ := 0) (by omega) 1 0 (by decide)
  have R0 := mk_Phi0 hp hx h4 h ho 4 (by omega)
  obtain ⟨q, hq, f2⟩ := first_M (p := p) (msam := msam) hH (show x < 16 by omega) h4 4 0 kBig (by omega) (by decide)
  rw [nI_0] at f2
  have f3 := four_le hq
  obtain ⟨r1, s1, m1, e1, e2, hT1⟩ := ex_L (pn := pn) (k := Phi W Hh c - 1 + r) (TL_le hT (by omega)) (bI (decide (q < 4))) 17
  unfold f_WL_exchangeRun f_M_run
  rw [first_L, Option.bind_some, if_pos (show (4 : Int32) ≤ 4 by decide), Option.bind_some, e1, Option.bind_some, f2, Option.bind_some, f3, Option.bind_some, e2, Option.bind_some]
  cases r1 with
  | false =>
    rw [if_pos (show ((bI false, s1) : Int32 × _).1 = 0 from rfl), if_pos (show ((bI false, m1) : Int32 × _).1 = 0 from rfl)]
    have k1 := run50_ok (p := p) (sz := A.1) (lo := A.2.2.2.2.2) (show x < 16 by omega) (show 4 * t + 4 ≤ 16 by omega) 4 0 kBig (by omega) (by decide)
    rw [nI_0] at k1
    have k2 := mark_L (p := p) (low := c.2.2) hW hH hx (Nat.le_refl 4) h4
    rw [show (4 : Int32) = nI 4 from rfl, k2, Option.bind_some, show A.1 = mkS x (4 * t) p A.1 0 from rfl, show A.2.2.2.2.2 = mkR x (4 * t) p A.2.2.2.2.2 0 from rfl, k1, Option.bind_some]
    exact ⟨4, (c.1, c.2.1, mkL W x (4 * t) p c.2.2 4), (mkS x (4 * t) p A.1 4, A.2.1, A.2.2.1, A.2.2.2.1, A.2.2.2.2.1, mkR x (4 * t) p A.2.2.2.2.2 4), s1, m1, by omega, by omega, rfl, rfl, rfl, rfl, mk_WI hW hp hx h4 h ho 4 (by omega), TL_le hT1 (by omega)⟩
  | true =>
    rw [if_neg (show ¬ ((bI true, s1) : Int32 × _).1 = 0 from (by decide : ¬ bI true = (0 : Int32))), if_neg (show ¬ ((bI true, m1) : Int32 × _).1 = 0 from (by decide : ¬ bI true = (0 : Int32)))]
    dsimp only
    obtain ⟨r2, s2, m2, e3, e4, hT2⟩ := ex_L (pn := pn) (k := Phi W Hh c - 2 + r) (TL_le hT1 (by omega)) ((nI q >>> ((1 : Int32) &&& 31)) &&& 1) 18
    obtain ⟨r3, s3, m3, e5, e6, hT3⟩ := ex_L (pn := pn) (k := Phi W Hh c - 3 + r) (TL_le hT2 (by omega)) (nI q &&& 1) 18
    skip
    rw [e3, Option.bind_some, e4, Option.bind_some]
    dsimp only
    rw [e5, Option.bind_some, e6, Option.bind_some]
    have hpl := plc_lt r2 r3
    have k1 := run110_ok (p := p) (sz := A.1) (lo := A.2.2.2.2.2) (u6 := (bI r2, m2)) (u7 := (bI r3, m3)) (show x < 16 by omega) (show 4 * t + 4 ≤ 16 by omega) hpl (plc_e r2 r3) (plc r2 r3) 0 kBig (by omega) (by unfold kBig; omega)
    rw [nI_0] at k1
    rw [show (mkS x (4 * t) p A.1 0) = A.1 from rfl, show (mkR x (4 * t) p A.2.2.2.2.2 0) = A.2.2.2.2.2 from rfl] at k1
    rw [k1, Option.bind_some]
    dsimp only
    rw [plc_e, nI_1, nI_add]
    have k2 := mark_L (p := p) (low := c.2.2) hW hH hx (show plc r2 r3 + 1 ≤ 4 by omega) (show 4 * t + (plc r2 r3 + 1) ≤ Hh by omega)
    obtain ⟨b, s4, m4, e7, e8, hT4⟩ := sign_L (y := 4 * t + plc r2 r3) (p := p) (st := st) (rw := false) (siz := c.2.1) (k := Phi W Hh c - 4 + r) (pn := pn) (msam := msam) hW hH h.1 hx (by omega)  (TL_le hT3 (by omega))
    rw [k2, Option.bind_some, cellOf_ok, isBlind_ok (by omega), e7, Option.bind_some, e8, Option.bind_some]
    dsimp only
    have R2 := run_Phi hp hx h4 h ho hpl (if b then -1 else 1) ((1 : Int32) <<< (nI p &&& 31)) (sgb_ne b)
    obtain ⟨o1, o2, o3, o4, o5, o6⟩ := ho (plc r2 r3) hpl
    obtain ⟨a1, a2, a3, a4⟩ := WI_at2 h hx (show 4 * t + plc r2 r3 < Hh by omega) (by omega) (by omega)
    refine ⟨plc r2 r3 + 1, (upd c.1 (ic W x (4 * t + plc r2 r3)) (if b then -1 else 1), upd c.2.1 (ic W x (4 * t + plc r2 r3)) ((1 : Int32) <<< (nI p &&& 31)), mkL W x (4 * t) p c.2.2 (plc r2 r3 + 1)),
      (upd (mkS x (4 * t) p A.1 (plc r2 r3)) (ir x (4 * t + plc r2 r3)) (mkS x (4 * t) p A.1 (plc r2 r3) (ir x (4 * t + plc r2 r3)) ||| ((1 : Int32) <<< (nI p &&& 31))), upd A.2.1 (ir x (4 * t + plc r2 r3)) (bI b), upd A.2.2.1 (ir x (4 * t + plc r2 r3)) (nI p), A.2.2.2.1, A.2.2.2.2.1, mkR x (4 * t) p A.2.2.2.2.2 (plc r2 r3 + 1)), s4, m4, by omega, by omega, rfl, rfl, rfl, rfl, ?_, TL_le hT4 (by omega)⟩
    refine WI_step (y := 4 * t + plc r2 r3) (mk_WI hW hp hx h4 h ho (plc r2 r3) (by omega)) hW hx (by omega) (by omega) (by omega) (fun i hi => ⟨pk_un hi, pk_un hi, pk_un hi⟩) (fun u hu => ⟨pk_un hu, pk_un hu, pk_un hu, rfl, rfl, pk_un hu⟩) (pk_us.trans (rS_new (by omega)).symm) ?_ (pk_us.trans pk_us.symm) ?_
    · refine pk_us.trans (Eq.trans ?_ pk_us.symm)
      rw [mkS_ge (by omega) _ _ (Nat.le_refl _), o2]
      exact (Int32.zero_or).symm
    · show CK 3 p (upd _ _ _ _) (upd _ _ _ _) (upd _ _ _ _) (upd _ _ _ _) _ _
      rw [pk_us, pk_us, pk_us, pk_us, mkS_ge (by omega) _ _ (Nat.le_refl _), o2, Int32.zero_or]
      exact ⟨bI_01 b, .inr (.inr (.inl ⟨rfl, rfl, o3, rfl, by omega⟩))⟩
theorem cleanStep_L {W Hh x j top bot p k r : Nat} {st : Int32} {pn lcn mtr : Int32} {wor msam mreads : Nat → Int32} {m0 : MT} {c : CA} {A : RA} {s : (Int32 × Int32)} {m : MT} (hW : W ≤ 16) (hH : Hh ≤ 16) (hk : k < 3) (hp : p < 15) (hx : x < W) (hy : top + j < Hh) (hj : j < 4) (hb : top + j < bot) (hb2 : bot ≤ 16) 
    (h : WI W Hh 2 p top x (top + j) c A) (hT : TL lcn wor mtr mreads m0 (Phi W Hh c + r) s m) :
    ∃ (c' : CA) (A' : RA) (s' : (Int32 × Int32)) (m' : MT), A'.2.2.2.1 = A.2.2.2.1 ∧ A'.2.2.2.2.1 = A.2.2.2.2.1 ∧ (∀ N, f_WL_cleanColumn_L28 (nI p) (bI false) st (nI k) (nI (W + 2)) lcn wor ((W + 2) * (Hh + 2)) ((W + 2) * (Hh + 2)) ((W + 2) * (Hh + 2)) 376 (nI x) (nI bot) (N + 1) (nI (top + j)) c.1 c.2.1 c.2.2 s.1 s.2 = f_WL_cleanColumn_L28 (nI p) (bI false) st (nI k) (nI (W + 2)) lcn wor ((W + 2) * (Hh + 2)) ((W + 2) * (Hh + 2)) ((W + 2) * (Hh + 2)) 376 (nI x) (nI bot) N (nI (top + (j + 1))) c'.1 c'.2.1 c'.2.2 s'.1 s'.2) ∧ (∀ N, f_M_cleanup_L20 (nI W) (nI Hh) st (nI k) mtr 1 (nI p) pn (bI false) msam mreads A.2.2.2.1 256 12000 12000 12000 12000 256 256 256 256 256 (nI x) (nI top) (N + 1) (nI (j)) m.1 m.2.1 m.2.2.1 m.2.2.2.1 m.2.2.2.2.1 m.2.2.2.2.2 A.1 A.2.1 A.2.2.1 A.2.2.2.2.2 = f_M_cleanup_L20 (nI W) (nI Hh) st (nI k) mtr 1 (nI p) pn (bI false) msam mreads A'.2.2.2.1 256 12000 12000 12000 12000 256 256 256 256 256 (nI x) (nI top) N (nI (j + 1)) m'.1 m'.2.1 m'.2.2.1 m'.2.2.2.1 m'.2.2.2.2.1 m'.2.2.2.2.2 A'.1 A'.2.1 A'.2.2.1 A'.2.2.2.2.2) ∧ WI W Hh 2 p top x (top + (j + 1)) c' A' ∧ TL lcn wor mtr mreads m0 (Phi W Hh c' + r) s' m' := by
  obtain ⟨o, o1, o2, o3, o4⟩ := open_L hW hH hp h hx hy (by omega) (by omega)
  have b1 : ¬ nI bot ≤ nI (top + j) := nI_ge hb (by omega)
  have b2 : ¬ (4 : Int32) ≤ nI j := nI_ge (a := j) (b := 4) (by omega) (by omega)
  have b3 : ¬ nI Hh ≤ nI (top + j) := nI_ge hy (by omega)
  cases o with
  | false =>
    refine ⟨c, A, s, m, rfl, rfl, ?_, ?_, WI_skip (y := top + j) h hW hx hy (by omega) (by omega) (o4 rfl), hT⟩
    · intro N
      rw [f_WL_cleanColumn_L28, if_neg b1, cellOf_ok, o1, Option.bind_some, if_pos bI_ff, Option.bind_some, nI_1]; rfl
    · intro N
      rw [f_M_cleanup_L20, if_neg b2, nI_add, if_neg b3, o2, Option.bind_some, if_pos bI_ff, Option.bind_some, nI_1]
  | true =>
    obtain ⟨q1, q2, q3, q4, q5, q6⟩ := o3 rfl
    obtain ⟨a1, a2, a3, a4⟩ := WI_at2 h hx hy (by omega) (by omega)
    obtain ⟨cx, hcx, ecx⟩ := ctxV_nat (W := W) (x := x) (y := top + j) st c.1 hk
    have cx1 := Mctx_ok (st := st) hW hH hk h.1 hx hy
    have cx2 := WL_ctx_ok (st := st) (bd := nI k) (sgn := c.1) hW hH hx hy
    rw [ecx] at cx1 cx2
    obtain ⟨c', sz', be', fa', lo', s', m', e1, e2, ⟨z1, z2, z3, z4, z5, z6, z7, z8⟩, hT'⟩ := size_L (r := r) (st := st) (rw := false) (p := p) (cx := cx) (cr := cx) (pn := pn) (msam := msam) hW hH h.1 hx hy hp  q1 q2 a2 (a3.trans q4) q6 rfl (by omega) hT
    refine ⟨c', (sz', be', fa', A.2.2.2.1, A.2.2.2.2.1, lo'), s', m', rfl, rfl, ?_, ?_, ?_, hT'⟩
    · intro N
      rw [f_WL_cleanColumn_L28, if_neg b1, cellOf_ok, isBlind_ok (by omega), o1, Option.bind_some, if_neg (show ¬ bI true = 0 by decide), cx2, Option.bind_some, e1, Option.bind_some, Option.bind_some, nI_1]; rfl
    · intro N
      rw [f_M_cleanup_L20, if_neg b2, nI_add, if_neg b3, o2, Option.bind_some, if_neg (show ¬ bI true = 0 by decide), cx1, Option.bind_some, e2, Option.bind_some, Option.bind_some, nI_1]
    · refine WI_step (y := top + j) h hW hx hy (by omega) (by omega) z1 (fun t hq => ?_) z3 z4 z5 ?_
      · obtain ⟨q1, q2, q3, q4⟩ := z2 t hq
        exact ⟨q1, q2, q3, rfl, rfl, q4⟩
      · dsimp only
        rw [z6]
        refine ⟨z7, ?_⟩
        rcases z8 with ⟨w1, w2⟩ | ⟨w1, w2⟩
        · exact .inr (.inl ⟨w1, w2, q3, rfl, .inl rfl⟩)
        · exact .inr (.inr (.inl ⟨w1, w2, q3, rfl, by omega⟩))
theorem cleanCol_L {W Hh x top bot p k r : Nat} {st : Int32} {pn lcn mtr : Int32} {wor msam mreads : Nat → Int32} {m0 : MT} (hW : W ≤ 16) (hH : Hh ≤ 16) (hk : k < 3) (hp : p < 15) (hx : x < W) (hbH : bot ≤ Hh) (hb4 : bot ≤ top + 4) (hbe : bot = top + 4 ∨ bot = Hh)  :
    ∀ (d j N N' : Nat) (c : CA) (A : RA) (s : (Int32 × Int32)) (m : MT), top + j + d = bot → d < N → d < N' → WI W Hh 2 p top x (top + j) c A → TL lcn wor mtr mreads m0 (Phi W Hh c + r) s m →
    ∃ (c' : CA) (A' : RA) (s' : (Int32 × Int32)) (m' : MT), A'.2.2.2.1 = A.2.2.2.1 ∧ A'.2.2.2.2.1 = A.2.2.2.2.1 ∧ f_WL_cleanColumn_L28 (nI p) (bI false) st (nI k) (nI (W + 2)) lcn wor ((W + 2) * (Hh + 2)) ((W + 2) * (Hh + 2)) ((W + 2) * (Hh + 2)) 376 (nI x) (nI bot) N (nI (top + j)) c.1 c.2.1 c.2.2 s.1 s.2 = some (nI bot, c'.1, c'.2.1, c'.2.2, s'.1, s'.2) ∧ (∃ v, f_M_cleanup_L20 (nI W) (nI Hh) st (nI k) mtr 1 (nI p) pn (bI false) msam mreads A.2.2.2.1 256 12000 12000 12000 12000 256 256 256 256 256 (nI x) (nI top) N' (nI (j)) m.1 m.2.1 m.2.2.1 m.2.2.2.1 m.2.2.2.2.1 m.2.2.2.2.2 A.1 A.2.1 A.2.2.1 A.2.2.2.2.2 = some (v, m'.1, m'.2.1, m'.2.2.1, m'.2.2.2.1, m'.2.2.2.2.1, m'.2.2.2.2.2, A'.1, A'.2.1, A'.2.2.1, A'.2.2.2.2.2)) ∧ WI W Hh 2 p top x bot c' A' ∧ TL lcn wor mtr mreads m0 (Phi W Hh c' + r) s' m' := by
  intro d
  induction d with
  | zero =>
    intro j N N' c A s m hd hN hN' h hT
    obtain rfl : top + j = bot := by omega
    obtain ⟨N, rfl⟩ : ∃ q, N = q + 1 := ⟨N - 1, by omega⟩
    obtain ⟨N', rfl⟩ : ∃ q, N' = q + 1 := ⟨N' - 1, by omega⟩
    refine ⟨c, A, s, m, rfl, rfl, ?_, ⟨nI j, ?_⟩, h, hT⟩
    · rw [f_WL_cleanColumn_L28, if_pos (nI_le (Nat.le_refl _) (by omega))]
    · rw [f_M_cleanup_L20, nI_add]
      by_cases h4 : 4 ≤ j
      · rw [if_pos (show (4 : Int32) ≤ nI j from nI_le (a := 4) (b := j) h4 (by omega))]
      · rw [if_neg (show ¬ (4 : Int32) ≤ nI j from nI_ge (a := j) (b := 4) (by omega) (by omega)), if_pos (nI_le (by omega) (by omega))]
  | succ d ih =>
    intro j N N' c A s m hd hN hN' h hT
    obtain ⟨N, rfl⟩ : ∃ q, N = q + 1 := ⟨N - 1, by omega⟩
    obtain ⟨N', rfl⟩ : ∃ q, N' = q + 1 := ⟨N' - 1, by omega⟩
    obtain ⟨c1, A1, s1, m1, g1, g2, e1, e2, h1, hT1⟩ := cleanStep_L (bot := bot) (r := r) (st := st) (k := k) (pn := pn) (msam := msam) hW hH hk hp hx (by omega) (by omega) (by omega) (by omega)  h hT
    rw [e1, e2]
    obtain ⟨c2, A2, s2, m2, i1, i2, f1, f2, h2, hT2⟩ := ih (j + 1) N N' c1 A1 s1 m1 (by omega) (by omega) (by omega) h1 hT1
    exact ⟨c2, A2, s2, m2, i1.trans g1, i2.trans g2, f1, f2, h2, hT2⟩
theorem cleanAll_L {W Hh x t bot p k r : Nat} {st : Int32} {pn lcn mtr : Int32} {wor msam mreads : Nat → Int32} {m0 : MT} {c : CA} {A : RA} {s : (Int32 × Int32)} {m : MT} (hW : W ≤ 16) (hH : Hh ≤ 16) (hk : k < 3) (hp : p < 15) (hx : x < W) (htH : 4 * t < Hh) (hbH : bot ≤ Hh) (hb4 : bot ≤ 4 * t + 4) (hbe : bot = 4 * t + 4 ∨ bot = Hh) 
    (h : WI W Hh 2 p (4 * t) x (4 * t) c A) (hT : TL lcn wor mtr mreads m0 (Phi W Hh c + r) s m) :
    ∃ (c' : CA) (A' : RA) (s' : (Int32 × Int32)) (m' : MT), A'.2.2.2.1 = A.2.2.2.1 ∧ A'.2.2.2.2.1 = A.2.2.2.2.1
      ∧ f_WL_cleanColumn (nI p) (bI false) c.1 c.2.1 c.2.2 st (nI k) (nI (W + 2)) lcn s.1 s.2 wor ((W + 2) * (Hh + 2)) ((W + 2) * (Hh + 2)) ((W + 2) * (Hh + 2)) 376 (nI x) (nI (4 * t)) (nI bot) = some (c'.1, c'.2.1, c'.2.2, s'.1, s'.2)
      ∧ f_M_cleanup (nI W) (nI Hh) st (nI k) m.1 mtr 1 m.2.1 m.2.2.1 (nI p) pn (bI false) msam m.2.2.2.1 m.2.2.2.2.1 m.2.2.2.2.2 mreads A.1 A.2.1 A.2.2.1 A.2.2.2.1 A.2.2.2.2.2 256 12000 12000 12000 12000 256 256 256 256 256 (nI x) (nI (4 * t)) = some (m'.1, m'.2.1, m'.2.2.1, m'.2.2.2.1, m'.2.2.2.2.1, m'.2.2.2.2.2, A'.1, A'.2.1, A'.2.2.1, A'.2.2.2.2.2)
      ∧ WI W Hh 2 p (4 * t) x bot c' A' ∧ TL lcn wor mtr mreads m0 (Phi W Hh c' + r) s' m' := by
  obtain ⟨e, e1, e2, e3⟩ := untouched_L (st := st) hW hH hk hp hx htH hbH hb4 hbe (by omega) h
  unfold f_WL_cleanColumn f_M_cleanup
  rw [e1, Option.bind_some, e2, Option.bind_some]
  cases e with
  | false =>
    rw [if_pos bI_ff, if_pos bI_ff, Option.bind_some, Option.bind_some]
    obtain ⟨c2, A2, s2, m2, i1, i2, f1, ⟨v, f2⟩, h2, hT2⟩ := cleanCol_L (bot := bot) (r := r) (st := st) (k := k) (pn := pn) (msam := msam) hW hH hk hp hx hbH hb4 hbe  (bot - 4 * t) 0 kBig kBig c A s m (by omega) (by unfold kBig; omega) (by unfold kBig; omega) h hT
    rw [show 4 * t + 0 = 4 * t from rfl] at f1
    rw [nI_0] at f2
    rw [f1, Option.bind_some, f2, Option.bind_some]
    exact ⟨c2, A2, s2, m2, i1, i2, rfl, rfl, h2, hT2⟩
  | true =>
    obtain ⟨h4, rfl, ho⟩ := e3 rfl
    rw [if_neg (show ¬ bI true = 0 by decide), if_neg (show ¬ bI true = 0 by decide)]
    obtain ⟨n, c1, A1, s1, m1, n1, n4, g1, g2, g3, g4, h1, hT1⟩ := run_L (r := r) (st := st) (pn := pn) (msam := msam) hW hH hp hx h4  h ho hT
    rw [g1, Option.bind_some, Option.bind_some, g2, Option.bind_some, Option.bind_some]
    dsimp only
    obtain ⟨c2, A2, s2, m2, i1, i2, f1, ⟨v, f2⟩, h2, hT2⟩ := cleanCol_L (bot := 4 * t + 4) (r := r) (st := st) (k := k) (pn := pn) (msam := msam) hW hH hk hp hx hbH hb4 hbe  (4 - n) n kBig kBig c1 A1 s1 m1 (by omega) (by unfold kBig; omega) (by unfold kBig; omega) h1 hT1
    rw [g3] at f2
    rw [nI_add, f1, Option.bind_some, f2, Option.bind_some]
    exact ⟨c2, A2, s2, m2, i1.trans g3, i2.trans g4, rfl, rfl, h2, hT2⟩

/-! PURE: the law holds -/
def REL (W Hh : Nat) (pt : Int32) (lens : Nat → Int32) (diss : Nat → Int64) (vals : Nat → Int32) (lowr : Nat → Int32) (cnt : Int32) (sam : Nat → Int32) (row : Nat → Int32) (lcn : Int32) (wor : Nat → Int32) (mtb : Int32) (mps : Int32) (mtr : Int32) (msam : Nat → Int32) (mbits : Nat → Int32) (mctxs : Nat → Int32) (mpaso : Nat → Int32) (mlens : Nat → Int32) (mdiss : Nat → Int64) (mreads : Nat → Int32) (mrvas : Nat → Int32) (mrlos : Nat → Int32) : Prop :=
  SOK W Hh sam msam ∧ (∃ q, q ≤ 43 ∧ pt = nI q ∧ mps = nI q ∧ ∀ i, i < q → lens i = mlens i ∧ diss i = mdiss i) ∧ (∃ c, c ≤ W * Hh * 17 + 60 ∧ cnt = nI c ∧ mtb = nI c ∧ RowOK c row mbits mctxs mpaso) ∧ (∃ d, d ≤ 12000 ∧ lcn = nI d ∧ mtr = nI d ∧ RD d wor mreads) ∧ RV W Hh vals lowr mrvas mrlos
theorem lawfin {α : Type} {cd : Int32} {o : Nat → Int64} {b : Int64} {X : Option α} (h : cd = 0 → o 0 = b) : (if (f_M_thrown cd) = cd then (if cd = 0 then if ((0 : Int32) < 0 ∨ 1 ≤ (0 : Int32).toNatClampNeg) then none else (if (lg_cmp (o (0 : Int32).toNatClampNeg) b) = 0 then X else none) else X) else none) = X := by
  rw [if_pos (show f_M_thrown cd = cd from rfl)]
  by_cases hc : cd = 0
  · rw [if_pos hc, if_neg (show ¬ ((0 : Int32) < 0 ∨ 1 ≤ (0 : Int32).toNatClampNeg) by decide), cl0, h hc, lg_self, if_pos rfl]
  · rw [if_neg hc]
theorem lawfinT {α : Type} {cd : Int32} {o : Nat → Int64} {b : Bool} {X : Option α} (h : cd = 0 → o 0 = if b then 1 else 0) : (if (f_M_thrown cd) = cd then (if cd = 0 then if ((0 : Int32) < 0 ∨ 1 ≤ (0 : Int32).toNatClampNeg) then none else (if bI b = 0 then (if (lg_cmp (o (0 : Int32).toNatClampNeg) (0 : Int64)) = 0 then X else none) else (if (lg_cmp (o (0 : Int32).toNatClampNeg) (1 : Int64)) = 0 then X else none)) else X) else none) = X := by
  rw [if_pos (show f_M_thrown cd = cd from rfl)]
  by_cases hc : cd = 0
  · rw [if_pos hc, if_neg (show ¬ ((0 : Int32) < 0 ∨ 1 ≤ (0 : Int32).toNatClampNeg) by decide), cl0, h hc]
    cases b
    · rw [if_pos bI_ff, if_pos (show lg_cmp (if false = true then (1 : Int64) else 0) 0 = 0 from lg_self 0)]
    · rw [if_neg (show ¬ bI true = 0 by decide), if_pos (show lg_cmp (if true = true then (1 : Int64) else 0) 1 = 0 from lg_self 1)]
  · rw [if_neg hc]
theorem lawp_loop {W Hh k L : Nat} {st : Int32} {xs : Nat → Int32} (hW : W ≤ 16) (hH : Hh ≤ 16) (hk : k < 3) (hL : L ≤ 2052) :
    ∀ (d v N : Nat), L < v + 4 + 4 * d → v ≤ 3000 → d < N → ∀ {pt cnt pn tpls tpl traw lcn lak nxt rpls rpl rraw mref mtb mps mtr misr mplc mlak mpl mpass mraw : Int32} {lens vals lowr sam row tsgn tsiz tlow wor rsgn rsiz rlow msam mbits mctxs mpaso mlens mreads msizs mbels mfnds mseen mrfnd mlows moszs mwbls molws mrvas mrlos : Nat → Int32} {diss mdiss outs : Nat → Int64}, REL W Hh pt lens diss vals lowr cnt sam row lcn wor mtb mps mtr msam mbits mctxs mpaso mlens mdiss mreads mrvas mrlos → f_Q_law_L (nI W) (nI Hh) st (nI k) (nI (W + 2)) (nI W) (nI Hh) st (nI k) 43 43 ((W + 2) * (Hh + 2)) ((W + 2) * (Hh + 2)) ((W + 2) * (Hh + 2)) (W * Hh * 17 + 60) ((W + 2) * (Hh + 2)) ((W + 2) * (Hh + 2)) ((W + 2) * (Hh + 2)) 376 ((W + 2) * (Hh + 2)) ((W + 2) * (Hh + 2)) ((W + 2) * (Hh + 2)) 256 12000 12000 12000 43 43 12000 256 256 256 256 256 256 256 256 256 256 256 1 L xs N (nI v) pt lens diss vals lowr cnt pn sam row tpls tpl traw tsgn tsiz tlow lcn lak nxt wor rpls rpl rraw rsgn rsiz rlow mref mtb mps mtr misr mplc mlak mpl mpass mraw msam mbits mctxs mpaso mlens mdiss mreads msizs mbels mfnds mseen mrfnd mlows moszs mwbls molws mrvas mrlos outs = some () := by
  have hn := nC_le hW hH
  have hR : W * Hh * 17 + 60 ≤ 12000 := by
    have := Nat.mul_le_mul hW hH
    omega
  have ex : ∀ v : Nat, v ≤ 3000 → ((nI L - (4 : Int32)) < nI v ↔ L < v + 4) := by
    intro v hv
    rw [Int32.lt_iff_toInt_lt, show (4 : Int32) = nI 4 from rfl, pk_sub_toInt (by omega) (by omega), nI_toInt (by omega)]
    omega
  intro d
  induction d with
  | zero =>
    intro v N hd hv hN
    intros
    obtain ⟨N, rfl⟩ : ∃ q, N = q + 1 := ⟨N - 1, by omega⟩
    rw [f_Q_law_L, if_pos ((ex v hv).mpr (by omega))]
  | succ d ih =>
    intro v N hd hv hN pt cnt pn tpls tpl traw lcn lak nxt rpls rpl rraw mref mtb mps mtr misr mplc mlak mpl mpass mraw lens vals lowr sam row tsgn tsiz tlow wor rsgn rsiz rlow msam mbits mctxs mpaso mlens mreads msizs mbels mfnds mseen mrfnd mlows moszs mwbls molws mrvas mrlos diss mdiss outs hREL
    obtain ⟨N, rfl⟩ : ∃ q, N = q + 1 := ⟨N - 1, by omega⟩
    by_cases hx : L < v + 4
    · rw [f_Q_law_L, if_pos ((ex v hv).mpr hx)]
    have a0 : v < L := by omega
    have a1 : v + 1 < L := by omega
    have a2 : v + 2 < L := by omega
    have a3 : v + 3 < L := by omega
    have hL31 : L < 2 ^ 31 := by omega
    have ih' := fun {pt cnt pn tpls tpl traw lcn lak nxt rpls rpl rraw mref mtb mps mtr misr mplc mlak mpl mpass mraw : Int32} {lens vals lowr sam row tsgn tsiz tlow wor rsgn rsiz rlow msam mbits mctxs mpaso mlens mreads msizs mbels mfnds mseen mrfnd mlows moszs mwbls molws mrvas mrlos : Nat → Int32} {diss mdiss outs : Nat → Int64} => @ih (v + 4) N (by omega) (by omega) (by omega) pt cnt pn tpls tpl traw lcn lak nxt rpls rpl rraw mref mtb mps mtr misr mplc mlak mpl mpass mraw lens vals lowr sam row tsgn tsiz tlow wor rsgn rsiz rlow msam mbits mctxs mpaso mlens mreads msizs mbels mfnds mseen mrfnd mlows moszs mwbls molws mrvas mrlos diss mdiss outs
    have hREL' := hREL
    obtain ⟨hS, ⟨q, hq, rfl, rfl, hlen⟩, ⟨c, hc, rfl, rfl, hrow⟩, ⟨r, hr, rfl, rfl, hrd⟩, hrv⟩ := hREL
    have t2 : (∃ q', q' ≤ 43 ∧ nI q = nI q' ∧ nI q = nI q' ∧ ∀ i, i < q' → lens i = mlens i ∧ diss i = mdiss i) := ⟨q, hq, rfl, rfl, hlen⟩
    have t3 : (∃ c', c' ≤ W * Hh * 17 + 60 ∧ nI c = nI c' ∧ nI c = nI c' ∧ RowOK c' row mbits mctxs mpaso) := ⟨c, hc, rfl, rfl, hrow⟩
    have t4 : (∃ d', d' ≤ 12000 ∧ nI r = nI d' ∧ nI r = nI d' ∧ RD d' wor mreads) := ⟨r, hr, rfl, rfl, hrd⟩
    rw [f_Q_law_L, if_neg (fun q => hx ((ex v hv).mp q)), pc_ok a0 hL31, cl_ok a0 hL31, show nI v + (1 : Int32) = nI (v + 1) from nI_1 v, show nI v + (2 : Int32) = nI (v + 2) from nI_add v 2, show nI v + (3 : Int32) = nI (v + 3) from nI_add v 3, show nI v + (4 : Int32) = nI (v + 4) from nI_add v 4]
    by_cases h0 : (xs v &&& (31 : Int32)) = 0
    · rw [if_pos h0]
      obtain ⟨cd, b, o, sam', msam', e1, e2, e3, e4⟩ := put_ok (outs := outs) (xs (v + 1)) (xs (v + 2)) (xs (v + 3)) hW hH hS
      rw [pc_ok a1 hL31, pc_ok a2 hL31, pc_ok a3 hL31, cl_ok a1 hL31, cl_ok a2 hL31, cl_ok a3 hL31, e1, Option.bind_some, pc_ok' a1 hL31, pc_ok' a2 hL31, pc_ok' a3 hL31, e2, Option.bind_some]
      dsimp only
      rw [lawfin e3]
      exact ih' ⟨e4, t2, t3, t4, hrv⟩
    rw [if_neg h0]
    by_cases h1 : (xs v &&& (31 : Int32)) = 1
    · rw [if_pos h1]
      obtain ⟨n, sam', msam', e1, e2, e3⟩ := paint_ok (xs (v + 1)) (xs (v + 2)) hW hH hS
      rw [pc_ok a1 hL31, pc_ok a2 hL31, cl_ok a1 hL31, cl_ok a2 hL31, e1, Option.bind_some, pc_ok' a1 hL31, pc_ok' a2 hL31, e2, Option.bind_some]
      dsimp only
      rw [if_pos rfl]
      exact ih' ⟨e3, t2, t3, t4, hrv⟩
    rw [if_neg h1]
    by_cases h2 : (xs v &&& (31 : Int32)) = 2
    · rw [if_pos h2]
      obtain ⟨q', c', lens', diss', pn', row', x1, x2, x3, c2, m', y1, y2, y3, mlens', mdiss', A', e1, e2, e3, e4, e5, e6⟩ := encode_ok (st := st) (k := k) (mtr := nI r) (mplc := mplc) (mlak := mlak) (mpl := mpl) (mpass := mpass) (mraw := mraw) (pn := pn) (tpl := tpl) (traw := traw) (mreads := mreads) (lens := lens) (row := row) (tsgn := tsgn) (tsiz := tsiz) (tlow := tlow) (mbits := mbits) (mctxs := mctxs) (mpaso := mpaso) (mlens := mlens) (diss := diss) (mdiss := mdiss) (A := (msizs, mbels, mfnds, mseen, mrfnd, mlows)) hW hH hk hS
      dsimp only at e2
      rw [e1, Option.bind_some, e2, Option.bind_some]
      dsimp only
      rw [if_pos rfl]
      exact ih' ⟨hS, ⟨q', e3, rfl, rfl, e4⟩, ⟨c', e5, rfl, rfl, e6⟩, t4, hrv⟩
    rw [if_neg h2]
    by_cases h3 : (xs v &&& (31 : Int32)) = 3
    · rw [if_pos h3]
      rw [if_pos (show f_B_bits (nI c) = (f_M_bits (nI c)).1 from rfl)]
      exact ih' ⟨hS, t2, t3, t4, hrv⟩
    rw [if_neg h3]
    by_cases h4 : (xs v &&& (31 : Int32)) = 4
    · rw [if_pos h4]
      obtain ⟨cd, b, o, e1, e2, e3⟩ := bit_ok (outs := outs) (xs (v + 1)) (xs (v + 2)) hc hR hrow
      rw [pc_ok a1 hL31, pc_ok a2 hL31, cl_ok a1 hL31, cl_ok a2 hL31, e1, Option.bind_some, pc_ok' a1 hL31, pc_ok' a2 hL31, e2, Option.bind_some]
      dsimp only
      rw [lawfin e3]
      exact ih' ⟨hS, t2, t3, t4, hrv⟩
    rw [if_neg h4]
    by_cases h5 : (xs v &&& (31 : Int32)) = 5
    · rw [if_pos h5]
      obtain ⟨cd, b, o, e1, e2, e3⟩ := length_ok (outs := outs) hq (fun i hi => (hlen i hi).1) (xs (v + 1))
      rw [pc_ok a1 hL31, cl_ok a1 hL31, e1, Option.bind_some, pc_ok' a1 hL31, e2, Option.bind_some]
      dsimp only
      rw [lawfin e3]
      exact ih' ⟨hS, t2, t3, t4, hrv⟩
    rw [if_neg h5]
    by_cases h6 : (xs v &&& (31 : Int32)) = 6
    · rw [if_pos h6]
      obtain ⟨cd, b, o, e1, e2, e3⟩ := distortion_ok (outs := outs) hq (fun i hi => (hlen i hi).2) (xs (v + 1))
      rw [pc_ok a1 hL31, cl_ok a1 hL31, e1, Option.bind_some, pc_ok' a1 hL31, e2, Option.bind_some]
      dsimp only
      rw [lawfin e3]
      exact ih' ⟨hS, t2, t3, t4, hrv⟩
    rw [if_neg h6]
    by_cases h7 : (xs v &&& (31 : Int32)) = 7
    · rw [if_pos h7]
      obtain ⟨cd, b, o, e1, e2, e3⟩ := kind_ok (outs := outs) hq (xs (v + 1))
      rw [pc_ok a1 hL31, cl_ok a1 hL31, e1, Option.bind_some, pc_ok' a1 hL31, e2]
      dsimp only
      rw [lawfin e3]
      exact ih' ⟨hS, t2, t3, t4, hrv⟩
    rw [if_neg h7]
    by_cases h8 : (xs v &&& (31 : Int32)) = 8
    · rw [if_pos h8]
      obtain ⟨cd, b, o, e1, e2, e3⟩ := terminated_ok (outs := outs) st hq (xs (v + 1))
      rw [pc_ok a1 hL31, cl_ok a1 hL31, e1, Option.bind_some, pc_ok' a1 hL31, e2]
      dsimp only
      rw [lawfinT e3]
      exact ih' ⟨hS, t2, t3, t4, hrv⟩
    rw [if_neg h8]
    by_cases h9 : (xs v &&& (31 : Int32)) = 9
    · rw [if_pos h9]
      obtain ⟨cd, b, o, r', wor', mreads', e1, e2, e3, e4, e5⟩ := feed_ok (outs := outs) (xs (v + 1)) hr hrd
      rw [pc_ok a1 hL31, cl_ok a1 hL31, e1, Option.bind_some, pc_ok' a1 hL31, e2, Option.bind_some]
      dsimp only
      rw [lawfin e3]
      exact ih' ⟨hS, t2, t3, ⟨r', e4, rfl, rfl, e5⟩, hrv⟩
    rw [if_neg h9]
    by_cases h10 : (xs v &&& (31 : Int32)) = 10
    · rw [if_pos h10]
      obtain ⟨cd, b, o, r', wor', mreads', e1, e2, e3, e4, e5⟩ := pass_ok (outs := outs) (xs (v + 1)) hc hR hr hrow hrd
      rw [pc_ok a1 hL31, cl_ok a1 hL31, e1, Option.bind_some, pc_ok' a1 hL31, e2, Option.bind_some]
      dsimp only
      rw [lawfin e3]
      exact ih' ⟨hS, t2, t3, ⟨r', e4, rfl, rfl, e5⟩, hrv⟩
    rw [if_neg h10]
    by_cases h11 : (xs v &&& (31 : Int32)) = 11
    · rw [if_pos h11]
      obtain ⟨cd, b, o, wor', mreads', e1, e2, e3, e4⟩ := turn_ok (outs := outs) (xs (v + 1)) hr hrd
      rw [pc_ok a1 hL31, cl_ok a1 hL31, e1, Option.bind_some, pc_ok' a1 hL31, e2, Option.bind_some]
      dsimp only
      rw [lawfin e3]
      exact ih' ⟨hS, t2, t3, ⟨r, hr, rfl, rfl, e4⟩, hrv⟩
    rw [if_neg h11]
    by_cases h12 : (xs v &&& (31 : Int32)) = 12
    · rw [if_pos h12]
      obtain ⟨cd, b, o, vals', lowr', x1, x2, x3, x4, x5, c2, y0, y1, y2, y3, y4, y5, A', p1, p2, p3, mrvas', mrlos', e1, e2, e3, e4⟩ := qdecode_ok (st := st) (k := k) (outs := outs) (misr := misr) (mplc := mplc) (mlak := mlak) (mpl := mpl) (mpass := mpass) (mraw := mraw) (lak := lak) (nxt := nxt) (rpls := rpls) (rpl := rpl) (rraw := rraw) (mtb := nI c) (msam := msam) (rsgn := rsgn) (rsiz := rsiz) (rlow := rlow) (mbits := mbits) (mctxs := mctxs) (mpaso := mpaso) (moszs := moszs) (mwbls := mwbls) (molws := molws) (A := (msizs, mbels, mfnds, mseen, mrfnd, mlows)) (xs (v + 1)) (xs (v + 2)) hW hH hk hr hrd hrv
      dsimp only at e2
      rw [pc_ok a1 hL31, pc_ok a2 hL31, cl_ok a1 hL31, cl_ok a2 hL31, e1, Option.bind_some, pc_ok' a1 hL31, pc_ok' a2 hL31, e2, Option.bind_some]
      dsimp only
      rw [lawfin e3]
      exact ih' ⟨hS, t2, t3, t4, e4⟩
    rw [if_neg h12]
    by_cases h13 : (xs v &&& (31 : Int32)) = 13
    · rw [if_pos h13]
      obtain ⟨cd, b, o, e1, e2, e3⟩ := at_ok (outs := outs) (xs (v + 1)) (xs (v + 2)) hW hH (fun x y hx hy => (hrv x y hx hy).1)
      rw [pc_ok a1 hL31, pc_ok a2 hL31, cl_ok a1 hL31, cl_ok a2 hL31, e1, Option.bind_some, pc_ok' a1 hL31, pc_ok' a2 hL31, e2, Option.bind_some]
      dsimp only
      rw [lawfin e3]
      exact ih' ⟨hS, t2, t3, t4, hrv⟩
    rw [if_neg h13]
    by_cases h14 : (xs v &&& (31 : Int32)) = 14
    · rw [if_pos h14]
      obtain ⟨cd, b, o, e1, e2, e3⟩ := known_ok (outs := outs) (xs (v + 1)) (xs (v + 2)) hW hH (fun x y hx hy => (hrv x y hx hy).2)
      rw [pc_ok a1 hL31, pc_ok a2 hL31, cl_ok a1 hL31, cl_ok a2 hL31, e1, Option.bind_some, pc_ok' a1 hL31, pc_ok' a2 hL31, e2, Option.bind_some]
      dsimp only
      rw [lawfin e3]
      exact ih' ⟨hS, t2, t3, t4, hrv⟩
    rw [if_neg h14]
    by_cases h15 : (xs v &&& (31 : Int32)) = 15
    · rw [if_pos h15]
      obtain ⟨b, e1, e2⟩ := told_ok (q := q) (d := r) (k := k) (st := st) (xs (v + 1)) hW hH hS
      rw [pc_ok a1 hL31, cl_ok a1 hL31, e1, Option.bind_some, pc_ok' a1 hL31, e2, Option.bind_some]
      dsimp only
      rw [if_pos rfl]
      exact ih' ⟨hS, t2, t3, t4, hrv⟩
    rw [if_neg h15]
    by_cases h16 : (xs v &&& (31 : Int32)) = 16
    · rw [if_pos h16]
      obtain ⟨sam', vals', lowr', msam', mrvas', mrlos', e1, e2, e3, e4⟩ := clear_ok (sam := sam) (vals := vals) (lowr := lowr) (msam := msam) (mrvas := mrvas) (mrlos := mrlos) hW hH
      rw [e1, Option.bind_some, e2, Option.bind_some]
      dsimp only
      exact ih' ⟨e3, ⟨0, by omega, rfl, rfl, fun i hi => by omega⟩, ⟨0, by omega, rfl, rfl, fun i hi => by omega⟩, ⟨0, by omega, rfl, rfl, fun i hi => by omega⟩, e4⟩
    rw [if_neg h16]
    exact ih' hREL'
theorem within_if {a b : Int32} (u : Int32) (hab : a ≤ b) : f_ST_within u a b = if a ≤ u then (if u ≤ b then u else b) else a := by
  unfold f_ST_within kmax kmin
  by_cases h1 : u < b
  · rw [if_pos h1, if_pos (Int32.le_of_lt h1)]
    by_cases h2 : a < u
    · rw [if_pos h2, if_pos (Int32.le_of_lt h2)]
    · rw [if_neg h2]
      by_cases h3 : a ≤ u
      · rw [if_pos h3]; exact Int32.le_antisymm h3 (Int32.not_lt.mp h2)
      · rw [if_neg h3]
  · have hb := Int32.not_lt.mp h1
    rw [if_neg h1, if_pos (Int32.le_trans hab hb)]
    have e : (if u ≤ b then u else b) = b := by
      by_cases h3 : u ≤ b
      · rw [if_pos h3]; exact Int32.le_antisymm h3 hb
      · rw [if_neg h3]
    rw [e]
    by_cases h2 : a < b
    · rw [if_pos h2]
    · rw [if_neg h2]; exact Int32.le_antisymm hab (Int32.not_lt.mp h2)
theorem within_nat {lo hi : Nat} (u : Int32) (hl : lo ≤ hi) (hh : hi < 2 ^ 31) : ∃ W, lo ≤ W ∧ W ≤ hi ∧ f_ST_within u (nI lo) (nI hi) = nI W ∧ (if nI lo ≤ u then (if u ≤ nI hi then u else nI hi) else nI lo) = nI W := by
  rw [within_if u (nI_le hl hh)]
  by_cases h1 : nI lo ≤ u
  · rw [if_pos h1]
    by_cases h2 : u ≤ nI hi
    · rw [if_pos h2]
      obtain ⟨j, hj, rfl⟩ := nI_of2 (M := nI hi) (nI_toInt hh) (fun q => nI_pos (show lo < 2 ^ 31 by omega) (Int32.lt_of_le_of_lt h1 q)) h2
      rw [nI_leI (by omega) (by omega)] at h1
      exact ⟨j, h1, hj, rfl, rfl⟩
    · rw [if_neg h2]; exact ⟨hi, hl, Nat.le_refl _, rfl, rfl⟩
  · rw [if_neg h1]; exact ⟨lo, Nat.le_refl _, hl, rfl, rfl⟩
theorem cell_ok {L : Nat} {xs : Nat → Int32} (hL : L ≤ 2052) {k : Nat} (hk : k < 4) : ∃ u, f_Q_cell L xs (nI k) = some u := by
  unfold f_Q_cell
  by_cases h : L ≤ k
  · rw [if_pos (nI_le h (by omega))]; exact ⟨_, rfl⟩
  · rw [if_neg (nI_ge (by omega) (by omega)), pc_ok (by omega) (by omega)]; exact ⟨_, rfl⟩
theorem law_pure (L : Nat) (xs : Nat → Int32) (hL : L ≤ 2052) : f_Q_law L xs = some () := by
  obtain ⟨u1, e1⟩ := cell_ok (xs := xs) hL (show 0 < 4 by omega)
  obtain ⟨u2, e2⟩ := cell_ok (xs := xs) hL (show 1 < 4 by omega)
  obtain ⟨u3, e3⟩ := cell_ok (xs := xs) hL (show 2 < 4 by omega)
  obtain ⟨u4, e4⟩ := cell_ok (xs := xs) hL (show 3 < 4 by omega)
  rw [show nI 0 = (0 : Int32) from rfl] at e1
  rw [show nI 1 = (1 : Int32) from rfl] at e2
  rw [show nI 2 = (2 : Int32) from rfl] at e3
  rw [show nI 3 = (3 : Int32) from rfl] at e4
  obtain ⟨W, hW1, hW, w1, w2⟩ := within_nat u1 (show 1 ≤ 16 by omega) (by decide)
  obtain ⟨Hh, hH1, hH, h1, h2⟩ := within_nat u2 (show 1 ≤ 16 by omega) (by decide)
  obtain ⟨k, _, hk, k1, k2⟩ := within_nat u4 (show 0 ≤ 2 by omega) (by decide)
  have s1 := within_if (a := 0) (b := 31) u3 (by decide)
  rw [show nI 1 = (1 : Int32) from rfl, show nI 16 = (16 : Int32) from rfl] at w1 w2 h1 h2
  rw [show nI 0 = (0 : Int32) from rfl, show nI 2 = (2 : Int32) from rfl] at k1 k2
  have hn := nC_le hW hH
  have hR : W * Hh * 17 + 60 ≤ 4412 := by
    have := Nat.mul_le_mul hW hH
    omega
  have eC : (nI W + (2 : Int32)) * (nI Hh + (2 : Int32)) = nI ((W + 2) * (Hh + 2)) := by
    rw [show nI W + (2 : Int32) = nI (W + 2) from nI_add W 2, show nI Hh + (2 : Int32) = nI (Hh + 2) from nI_add Hh 2, pk_mul]
  have eR : f_K_mostBitsTold (nI W) (nI Hh) = nI (W * Hh * 17 + 60) := by
    unfold f_K_mostBitsTold
    rw [pk_mul, show (17 : Int32) = nI 17 from rfl, pk_mul, show (60 : Int32) = nI 60 from rfl, nI_add]
  unfold f_Q_law
  rw [e1, Option.bind_some, e2, Option.bind_some, e3, Option.bind_some, e4, Option.bind_some, w1, h1, eC, eR, if_neg (fun q => q (nI_pos (by omega))), nI_clamp (by omega), if_neg (fun q => q hn), if_neg (fun q => q (nI_pos (by omega))), nI_clamp (show W * Hh * 17 + 60 < 2 ^ 31 by omega), if_neg (fun q => q hR), Option.bind_some, Option.bind_some, Option.bind_some, Option.bind_some, w2, h2, k1, k2, ← s1, show nI W + (2 : Int32) = nI (W + 2) from nI_add W 2,
    show (43 : Int32).toNatClampNeg = 43 by decide, show (376 : Int32).toNatClampNeg = 376 by decide, show (256 : Int32).toNatClampNeg = 256 by decide, show (12000 : Int32).toNatClampNeg = 12000 by decide, show (1 : Int32).toNatClampNeg = 1 by decide, show (4 : Int32) = nI 4 from rfl]
  refine lawp_loop hW hH (by omega) hL 520 4 kBig (by omega) (by omega) (by decide) ⟨SOK_0 hW hH (fun _ _ => rfl) (fun _ _ => rfl), ⟨0, by omega, rfl, rfl, fun i hi => by omega⟩, ⟨0, by omega, rfl, rfl, fun i hi => by omega⟩, ⟨0, by omega, rfl, rfl, fun i hi => by omega⟩, fun _ _ _ _ => ⟨rfl, rfl⟩⟩

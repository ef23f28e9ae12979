/-! PURE: feed, pass, turn, decode, at, known, told, clear -/
def RD (d : Nat) (wor mreads : Nat → Int32) : Prop := ∀ i, i < d → mreads i = bI (lb wor i)
theorem RD_app {d : Nat} {wor wor' mreads : Nat → Int32} {b : Bool} (h : RD d wor mreads) (hw : ∀ i, lb wor' i = if i = d then b else lb wor i) : RD (d + 1) wor' (upd mreads d (bI b)) := by
  intro i hi
  rw [hw i]
  by_cases hq : i = d
  · subst hq; rw [pk_us, if_pos rfl]
  · rw [pk_un hq, if_neg hq]; exact h i (by omega)
theorem room_sub {d : Nat} (hd : d ≤ 12000) : (12000 : Int32) - nI d = nI (12000 - d) := pk_sub (a := 12000) hd
theorem feed_ok {d : Nat} {wor mreads : Nat → Int32} {outs : Nat → Int64} (a0 : Int32) (hd : d ≤ 12000) (h : RD d wor mreads) :
    ∃ (cd b : Int32) (o : Nat → Int64) (d' : Nat) (wor' mreads' : Nat → Int32), f_Q_feed (nI d) wor outs 376 1 a0 = some (cd, nI d', wor', o) ∧ f_M_feed (nI d) mreads 12000 a0 = some (b, cd, nI d', mreads') ∧ (cd = 0 → o 0 = b.toInt64) ∧ d' ≤ 12000 ∧ RD d' wor' mreads' := by
  unfold f_Q_feed f_B_feed f_M_feed
  by_cases h1 : a0 < 0
  · rw [if_pos h1, if_pos h1]
    exact ⟨1, 0, outs, d, wor, mreads, rfl, by rw [Option.bind_some, if_neg (by decide)], (fun q => absurd q (by decide)), hd, h⟩
  rw [if_neg h1, if_neg h1]
  by_cases h2 : a0 ≤ 1
  · rw [if_pos h2, if_pos h2]
    obtain ⟨b, rfl⟩ : ∃ b : Bool, a0 = bI b := by
      obtain ⟨j, hj, rfl⟩ := nI_of2 (M := 1) (n := 1) (by decide) h1 h2
      rcases (show j = 0 ∨ j = 1 by omega) with rfl | rfl
      · exact ⟨false, rfl⟩
      · exact ⟨true, rfl⟩
    unfold f_B_mustHaveRoomFor
    rw [room_sub hd]
    by_cases h3 : d = 12000
    · subst h3
      rw [if_neg (show ¬ (1 : Int32) ≤ nI (12000 - 12000) by decide), if_pos (show nI 12000 = (12000 : Int32) from rfl)]
      exact ⟨2, 0, outs, 12000, wor, mreads, rfl, by rw [Option.bind_some, if_neg (by decide)], (fun q => absurd q (by decide)), hd, h⟩
    · rw [if_pos (show (1 : Int32) ≤ nI (12000 - d) from nI_le (a := 1) (b := 12000 - d) (by omega) (by omega)), if_neg (show ¬ nI d = (12000 : Int32) from fun q => h3 ((nI_eq (by omega) (by decide)).mp (show nI d = nI 12000 from q)))]
      obtain ⟨wor', e1, hw⟩ := L_append_ok (wor := wor) (n := 376) (k := d) (b := b) (by omega) (by omega) (by decide)
      rw [Option.bind_some, if_pos rfl, e1, Option.bind_some, Option.bind_some, if_pos rfl, if_neg (show ¬ ((0 : Int32) < 0 ∨ 1 ≤ (0 : Int32).toNatClampNeg) by decide), cl0, Option.bind_some, if_pos (show (0 : Int32) ≤ 0 by decide), pc_ok (show d < 12000 by omega) (by decide), nI_clamp (by omega), nI_1]
      exact ⟨0, nI (d + 1), _, d + 1, wor', _, rfl, rfl, fun _ => pk_uLs, by omega, RD_app h hw⟩
  · rw [if_neg h2, if_neg h2]
    exact ⟨1, 0, outs, d, wor, mreads, rfl, by rw [Option.bind_some, if_neg (by decide)], (fun q => absurd q (by decide)), hd, h⟩
theorem pass_loop {nR c d mn : Nat} {row mbits mctxs mpaso : Nat → Int32} (a0 : Int32) (hc : c ≤ nR) (hR : nR ≤ 12000) (hmn : mn ≤ c) (hdm : d + mn ≤ 12000) (hk : kmin a0 (nI c) = nI mn) (h : RowOK c row mbits mctxs mpaso) :
    ∀ (e i N N' : Nat) (wor mreads : Nat → Int32), i + e = mn → e < N → e < N' → RD (d + i) wor mreads →
    ∃ (w w' : Int32) (wor' mreads' : Nat → Int32), f_B_pass_L33 (nI c) row nR 376 a0 N (nI i) (nI (d + i)) wor = some (w, nI (d + mn), wor') ∧ f_M_pass_L57 (nI d) mbits 12000 12000 (nI mn) N' (nI i) mreads = some (w', mreads') ∧ RD (d + mn) wor' mreads' := by
  intro e
  induction e with
  | zero =>
    intro i N N' wor mreads he hN hN' hr
    obtain rfl : i = mn := by omega
    obtain ⟨N, rfl⟩ : ∃ q, N = q + 1 := ⟨N - 1, by omega⟩
    obtain ⟨N', rfl⟩ : ∃ q, N' = q + 1 := ⟨N' - 1, by omega⟩
    refine ⟨nI i, nI i, wor, mreads, ?_, ?_, hr⟩
    · rw [f_B_pass_L33, hk, if_pos (nI_le (Nat.le_refl _) (by omega))]
    · rw [f_M_pass_L57, if_pos (nI_le (Nat.le_refl _) (by omega))]
  | succ e ih =>
    intro i N N' wor mreads he hN hN' hr
    obtain ⟨N, rfl⟩ : ∃ q, N = q + 1 := ⟨N - 1, by omega⟩
    obtain ⟨N', rfl⟩ : ∃ q, N' = q + 1 := ⟨N' - 1, by omega⟩
    obtain ⟨b, cx, pa, r1, r2, r3, r4, r5, r6⟩ := h i (by omega)
    obtain ⟨u1, u2, u3⟩ := pk3_un b cx r1 pa r2
    obtain ⟨wor', e1, hw⟩ := L_append_ok (wor := wor) (n := 376) (k := d + i) (b := b) (by omega) (by omega) (by decide)
    have q0 : f_T_bitOf row nR (nI i) = some (bI b) := by
      unfold f_T_bitOf
      rw [pc_ok (by omega) (by omega), nI_clamp (by omega), r3, u1]
    rw [f_B_pass_L33, hk, if_neg (nI_ge (by omega) (by omega)), q0, Option.bind_some, e1, Option.bind_some, nI_1, f_M_pass_L57, if_neg (nI_ge (by omega) (by omega)), pc_ok (by omega) (by decide), nI_add, pc_ok (by omega) (by decide), nI_clamp (show i < 2 ^ 31 by omega), nI_clamp (show d + i < 2 ^ 31 by omega), nI_1, r4]
    exact ih (i + 1) N N' wor' _ (by omega) (by omega) (by omega) (RD_app hr hw)
theorem pass_ok {nR c d : Nat} {row mbits mctxs mpaso wor mreads : Nat → Int32} {outs : Nat → Int64} (a0 : Int32) (hc : c ≤ nR) (hR : nR ≤ 12000) (hd : d ≤ 12000) (hrow : RowOK c row mbits mctxs mpaso) (h : RD d wor mreads) :
    ∃ (cd b : Int32) (o : Nat → Int64) (d' : Nat) (wor' mreads' : Nat → Int32), f_Q_pass (nI c) row (nI d) wor outs nR 376 1 a0 = some (cd, nI d', wor', o) ∧ f_M_pass (nI c) (nI d) mbits mreads 12000 12000 a0 = some (b, cd, nI d', mreads') ∧ (cd = 0 → o 0 = b.toInt64) ∧ d' ≤ 12000 ∧ RD d' wor' mreads' := by
  unfold f_Q_pass f_B_pass f_M_pass
  by_cases h1 : 0 ≤ a0
  · obtain ⟨n, hn, rfl⟩ := nI_of (Int32.not_lt.mpr h1)
    have e0 : (if nI c ≤ nI n then some (nI c) else some (nI n)) = some (nI (min n c)) := by
      by_cases hq : c ≤ n
      · rw [if_pos (nI_le hq hn), Nat.min_eq_right hq]
      · rw [if_neg (nI_ge (by omega) (by omega)), Nat.min_eq_left (by omega)]
    have hkm := (kmin_nat n c hn (by omega)).1
    have hmn := Nat.min_le_right n c
    rw [if_pos h1, e0, Option.bind_some, if_pos h1, hkm, nI_add]
    unfold f_B_mustHaveRoomFor
    rw [room_sub hd]
    by_cases h2 : min n c ≤ 12000 - d
    · rw [if_pos (nI_le h2 (by omega)), if_pos (show nI (d + min n c) ≤ (12000 : Int32) from nI_le (a := d + min n c) (b := 12000) (by omega) (by omega))]
      obtain ⟨w, w', wor', mreads', f1, f2, f3⟩ := pass_loop (d := d) (nI n) hc hR hmn (by omega) hkm hrow (min n c) 0 kBig kBig wor mreads (by omega) (by unfold kBig; omega) (by unfold kBig; omega) h
      rw [nI_0, show d + 0 = d from rfl] at f1
      rw [nI_0] at f2
      rw [Option.bind_some, if_pos rfl, f1, Option.bind_some, Option.bind_some, if_pos rfl, if_neg (show ¬ ((0 : Int32) < 0 ∨ 1 ≤ (0 : Int32).toNatClampNeg) by decide), cl0, Option.bind_some, if_pos (show (0 : Int32) ≤ 0 by decide), f2, Option.bind_some]
      exact ⟨0, nI (min n c), _, d + min n c, wor', mreads', rfl, rfl, fun _ => pk_uLs, by omega, f3⟩
    · rw [if_neg (nI_ge (by omega) (by omega)), if_neg (show ¬ nI (d + min n c) ≤ (12000 : Int32) from nI_ge (a := 12000) (b := d + min n c) (by omega) (by omega))]
      exact ⟨2, 0, outs, d, wor, mreads, rfl, by rw [Option.bind_some, if_neg (by decide)], (fun q => absurd q (by decide)), hd, h⟩
  · rw [if_neg h1, ite_some, Option.bind_some, Option.bind_some, if_neg h1]
    exact ⟨1, 0, outs, d, wor, mreads, rfl, by rw [Option.bind_some, if_neg (by decide)], (fun q => absurd q (by decide)), hd, h⟩
theorem turn_ok {d : Nat} {wor mreads : Nat → Int32} {outs : Nat → Int64} (a0 : Int32) (hd : d ≤ 12000) (h : RD d wor mreads) :
    ∃ (cd b : Int32) (o : Nat → Int64) (wor' mreads' : Nat → Int32), f_Q_turn (nI d) wor outs 376 1 a0 = some (cd, wor', o) ∧ f_M_turn (nI d) mreads 12000 a0 = some (b, cd, mreads') ∧ (cd = 0 → o 0 = b.toInt64) ∧ RD d wor' mreads' := by
  unfold f_Q_turn f_B_turn f_M_turn
  by_cases h1 : a0 < 0
  · rw [if_pos h1, if_pos h1]
    exact ⟨1, 0, outs, wor, mreads, rfl, by rw [Option.bind_some, if_neg (by decide)], (fun q => absurd q (by decide)), h⟩
  rw [if_neg h1, if_neg h1]
  by_cases h2 : a0 < nI d
  · rw [if_pos h2, if_pos h2]
    obtain ⟨i, hi, rfl⟩ := nI_of h1
    rw [nI_ltI hi (by omega)] at h2
    obtain ⟨wor', e1, hw⟩ := L_flip_ok (wor := wor) (n := 376) (k := i) (by omega) (by omega) (by decide)
    have nb : ∀ b : Bool, (1 : Int32) - bI b = bI (!b) := by intro b; cases b <;> decide
    rw [e1, Option.bind_some, Option.bind_some, if_pos rfl, if_neg (show ¬ ((0 : Int32) < 0 ∨ 1 ≤ (0 : Int32).toNatClampNeg) by decide), cl0, Option.bind_some, if_pos (show (0 : Int32) ≤ 0 by decide), pc_ok (show i < 12000 by omega) (by decide), pc_ok (show i < 12000 by omega) (by decide), pc_ok (show i < 12000 by omega) (by decide), nI_clamp (by omega), pk_us, h i h2, nb]
    refine ⟨0, bI (!lb wor i), _, wor', _, rfl, rfl, fun _ => pk_uLs, ?_⟩
    intro j hj
    rw [hw j]
    by_cases hq : j = i
    · subst hq; rw [pk_us, if_pos rfl]
    · rw [pk_un hq, if_neg hq]; exact h j hj
  · rw [if_neg h2, if_neg h2]
    exact ⟨1, 0, outs, wor, mreads, rfl, by rw [Option.bind_some, if_neg (by decide)], (fun q => absurd q (by decide)), h⟩
def RV (W Hh : Nat) (vals lowr mrvas mrlos : Nat → Int32) : Prop := ∀ x y, x < W → y < Hh → vals (ic W x y) = mrvas (ir x y) ∧ lowr (ic W x y) = mrlos (ir x y)
theorem qdecode_ok {W Hh k d : Nat} {st misr mplc mlak mpl mpass mraw lak nxt rpls rpl rraw mtb : Int32} {msam mreads wor vals lowr rsgn rsiz rlow mbits mctxs mpaso moszs mwbls molws mrvas mrlos : Nat → Int32} {outs : Nat → Int64} {A : RA} (a1 a2 : Int32) (hW : W ≤ 16) (hH : Hh ≤ 16) (hk : k < 3) (hd : d ≤ 12000) (hr : RD d wor mreads) (hv : RV W Hh vals lowr mrvas mrlos) :
    ∃ (cd b : Int32) (o : Nat → Int64) (vals' lowr' : Nat → Int32) (x1 x2 x3 x4 x5 : Int32) (c' : CA) (y0 y1 y2 y3 y4 y5 : Int32) (A' : RA) (p1 p2 p3 mrvas' mrlos' : Nat → Int32),
      f_Q_decode (nI W) (nI Hh) st (nI k) (nI (W + 2)) vals lowr (nI d) lak nxt wor rpls rpl rraw rsgn rsiz rlow outs ((W + 2) * (Hh + 2)) ((W + 2) * (Hh + 2)) 376 ((W + 2) * (Hh + 2)) ((W + 2) * (Hh + 2)) ((W + 2) * (Hh + 2)) 1 a1 a2 = some (cd, vals', lowr', x1, x2, x3, x4, x5, c'.1, c'.2.1, c'.2.2, o)
      ∧ f_M_decode (nI W) (nI Hh) st (nI k) mtb (nI d) misr mplc mlak mpl mpass mraw msam mbits mctxs mpaso mreads A.1 A.2.1 A.2.2.1 A.2.2.2.1 A.2.2.2.2.1 A.2.2.2.2.2 moszs mwbls molws mrvas mrlos 256 12000 12000 12000 12000 256 256 256 256 256 256 256 256 256 256 256 a1 a2 = some (b, cd, mtb, y0, y1, y2, y3, y4, y5, mbits, mctxs, mpaso, A'.1, A'.2.1, A'.2.2.1, A'.2.2.2.1, A'.2.2.2.2.1, A'.2.2.2.2.2, p1, p2, p3, mrvas', mrlos')
      ∧ (cd = 0 → o 0 = b.toInt64) ∧ RV W Hh vals' lowr' mrvas' mrlos' := by
  have refuse : (a1 < 0 ∨ (15 : Int32) < a1 ∨ ¬ 0 ≤ a2) → ∃ (cd b : Int32) (o : Nat → Int64) (vals' lowr' : Nat → Int32) (x1 x2 x3 x4 x5 : Int32) (c' : CA) (y0 y1 y2 y3 y4 y5 : Int32) (A' : RA) (p1 p2 p3 mrvas' mrlos' : Nat → Int32),
      f_Q_decode (nI W) (nI Hh) st (nI k) (nI (W + 2)) vals lowr (nI d) lak nxt wor rpls rpl rraw rsgn rsiz rlow outs ((W + 2) * (Hh + 2)) ((W + 2) * (Hh + 2)) 376 ((W + 2) * (Hh + 2)) ((W + 2) * (Hh + 2)) ((W + 2) * (Hh + 2)) 1 a1 a2 = some (cd, vals', lowr', x1, x2, x3, x4, x5, c'.1, c'.2.1, c'.2.2, o)
      ∧ f_M_decode (nI W) (nI Hh) st (nI k) mtb (nI d) misr mplc mlak mpl mpass mraw msam mbits mctxs mpaso mreads A.1 A.2.1 A.2.2.1 A.2.2.2.1 A.2.2.2.2.1 A.2.2.2.2.2 moszs mwbls molws mrvas mrlos 256 12000 12000 12000 12000 256 256 256 256 256 256 256 256 256 256 256 a1 a2 = some (b, cd, mtb, y0, y1, y2, y3, y4, y5, mbits, mctxs, mpaso, A'.1, A'.2.1, A'.2.2.1, A'.2.2.2.1, A'.2.2.2.2.1, A'.2.2.2.2.2, p1, p2, p3, mrvas', mrlos')
      ∧ (cd = 0 → o 0 = b.toInt64) ∧ RV W Hh vals' lowr' mrvas' mrlos' := by
    intro hq
    refine ⟨1, 0, outs, vals, lowr, lak, nxt, rpls, rpl, rraw, (rsgn, rsiz, rlow), misr, mplc, mlak, mpl, mpass, mraw, A, moszs, mwbls, molws, mrvas, mrlos, ?_, ?_, (fun q => absurd q (by decide)), hv⟩
    · unfold f_Q_decode f_B_decode
      by_cases g1 : a1 < 0
      · rw [if_pos g1]; rfl
      · rw [if_neg g1]
        by_cases g2 : (15 : Int32) < a1
        · rw [if_pos g2]; rfl
        · rw [if_neg g2, if_neg ((hq.resolve_left g1).resolve_left g2)]; rfl
    · unfold f_M_decode
      have e : (if a1 < 0 then some (1 : Int32) else (if (15 : Int32) < a1 then some (1 : Int32) else (if 0 ≤ a2 then some (0 : Int32) else some (1 : Int32)))) = some 1 := by
        by_cases g1 : a1 < 0
        · rw [if_pos g1]
        · rw [if_neg g1]
          by_cases g2 : (15 : Int32) < a1
          · rw [if_pos g2]
          · rw [if_neg g2, if_neg ((hq.resolve_left g1).resolve_left g2)]
      rw [e, Option.bind_some, if_neg (by decide)]
  by_cases h1 : a1 < 0
  · exact refuse (.inl h1)
  by_cases h2 : (15 : Int32) < a1
  · exact refuse (.inr (.inl h2))
  by_cases h3 : 0 ≤ a2
  · obtain ⟨P, hP, rfl⟩ := nI_of2 (M := 15) (n := 15) (by decide) h1 (Int32.not_lt.mp h2)
    obtain ⟨b, hb, rfl⟩ := nI_of (Int32.not_lt.mpr h3)
    obtain ⟨ret, vals', lowr', x1, x2, x3, x4, x5, c', y1, y2, y3, y4, y5, A', p1, p2, p3, mrvas', mrlos', e1, e2, e3⟩ := decode_ok (st := st) (k := k) (lcn := nI d) (mtr := nI d) (wor := wor) (mreads := mreads) (msam := msam) (vals := vals) (lowr := lowr) (lak := lak) (nxt := nxt) (rpls := rpls) (rpl := rpl) (rraw := rraw) (rsgn := rsgn) (rsiz := rsiz) (rlow := rlow) (misr := misr) (mplc := mplc) (mlak := mlak) (mpl := mpl) (mpass := mpass) (mraw := mraw) (moszs := moszs) (mwbls := mwbls) (molws := molws) (mrvas := mrvas) (mrlos := mrlos) (m := (mtb, 0, 0, mbits, mctxs, mpaso)) (A := A) hW hH hk hP hb ⟨d, hd, rfl, rfl, hr⟩
    dsimp only at e2
    refine ⟨0, ret, vp_updL outs 0 ret.toInt64, vals', lowr', x1, x2, x3, x4, x5, c', 1, y1, y2, y3, y4, y5, A', p1, p2, p3, mrvas', mrlos', ?_, e2, fun _ => pk_uLs, e3⟩
    unfold f_Q_decode
    rw [e1, Option.bind_some, if_pos rfl, if_neg (show ¬ ((0 : Int32) < 0 ∨ 1 ≤ (0 : Int32).toNatClampNeg) by decide), cl0]
  · exact refuse (.inr (.inr h3))
theorem at_ok {W Hh : Nat} {vals mrvas : Nat → Int32} {outs : Nat → Int64} (a1 a2 : Int32) (hW : W ≤ 16) (hH : Hh ≤ 16) (h : ∀ x y, x < W → y < Hh → vals (ic W x y) = mrvas (ir x y)) :
    ∃ (cd b : Int32) (o : Nat → Int64), f_Q_at (nI W) (nI Hh) (nI (W + 2)) vals outs ((W + 2) * (Hh + 2)) 1 a1 a2 = some (cd, o) ∧ f_M_at (nI W) (nI Hh) mrvas 256 a1 a2 = some (b, cd) ∧ (cd = 0 → o 0 = b.toInt64) := by
  have hn := nC_le hW hH
  unfold f_Q_at f_B_at f_B_mustHoldSample f_M_at
  rw [show f_K_holds (nI W) (nI Hh) a1 a2 = f_M_isIn (nI W) (nI Hh) a1 a2 from rfl]
  by_cases h0 : f_M_isIn (nI W) (nI Hh) a1 a2 = 0
  · rw [if_pos h0, if_pos h0]
    exact ⟨1, 0, outs, rfl, by rw [Option.bind_some, if_neg (by decide)], (fun q => absurd q (by decide))⟩
  · rw [if_neg h0, if_neg h0, Option.bind_some, if_pos rfl]
    obtain ⟨x, y, hx, hy, rfl, rfl⟩ := isIn_nat hW hH h0
    have hi := ic_lt hx hy
    have hs : ir x y < 256 := ir_lt (by omega) (by omega)
    rw [cellOf_ok, pc_ok hi (by omega), cl_ok hi (by omega), Option.bind_some, if_pos rfl, if_neg (show ¬ ((0 : Int32) < 0 ∨ 1 ≤ (0 : Int32).toNatClampNeg) by decide), cl0, Option.bind_some, if_pos (show (0 : Int32) ≤ 0 by decide), ir_e, pc_ok hs (by decide), cl_ok hs (by decide)]
    exact ⟨0, mrvas (ir x y), _, rfl, rfl, fun _ => by rw [pk_uLs, h x y hx hy]⟩
theorem known_ok {W Hh : Nat} {lowr mrlos : Nat → Int32} {outs : Nat → Int64} (a1 a2 : Int32) (hW : W ≤ 16) (hH : Hh ≤ 16) (h : ∀ x y, x < W → y < Hh → lowr (ic W x y) = mrlos (ir x y)) :
    ∃ (cd b : Int32) (o : Nat → Int64), f_Q_known (nI W) (nI Hh) (nI (W + 2)) lowr outs ((W + 2) * (Hh + 2)) 1 a1 a2 = some (cd, o) ∧ f_M_known (nI W) (nI Hh) mrlos 256 a1 a2 = some (b, cd) ∧ (cd = 0 → o 0 = b.toInt64) := by
  have := at_ok (outs := outs) a1 a2 hW hH h
  exact this
theorem told_ok {W Hh k q d : Nat} {st : Int32} {sam msam : Nat → Int32} (a0 : Int32) (hW : W ≤ 16) (hH : Hh ≤ 16) (h : SOK W Hh sam msam) :
    ∃ b : Int32, f_B_told (nI q) (nI W) (nI Hh) st (nI k) sam (nI d) ((W + 2) * (Hh + 2)) a0 = some b ∧ f_M_told (nI W) (nI Hh) st (nI k) (nI q) (nI d) msam 256 a0 = some (b, 0) := by
  obtain ⟨P, hP, e1, e2⟩ := planes_ok hW hH h
  unfold f_B_told f_M_told
  rw [e1, e2, Option.bind_some, Option.bind_some]
  by_cases h0 : a0 = 0
  · rw [if_pos h0, if_pos h0]; exact ⟨_, rfl, rfl⟩
  rw [if_neg h0, if_neg h0]
  by_cases h1 : a0 = 1
  · rw [if_pos h1, if_pos h1]; exact ⟨_, rfl, rfl⟩
  rw [if_neg h1, if_neg h1]
  by_cases h2 : a0 = 2
  · rw [if_pos h2, if_pos h2]; exact ⟨_, rfl, rfl⟩
  rw [if_neg h2, if_neg h2]
  by_cases h3 : a0 = 3
  · rw [if_pos h3, if_pos h3]; exact ⟨_, rfl, rfl⟩
  rw [if_neg h3, if_neg h3]
  by_cases h4 : a0 = 4
  · rw [if_pos h4, if_pos h4]; exact ⟨_, rfl, rfl⟩
  rw [if_neg h4, if_neg h4]
  by_cases h5 : a0 = 5
  · rw [if_pos h5, if_pos h5]; exact ⟨_, rfl, rfl⟩
  rw [if_neg h5, if_neg h5]
  by_cases h6 : a0 = 6
  · rw [if_pos h6, if_pos h6]; exact ⟨_, rfl, rfl⟩
  rw [if_neg h6, if_neg h6]; exact ⟨_, rfl, rfl⟩
theorem clear_loop : ∀ (d v N : Nat) (a b c : Nat → Int32), v + d = 256 → d < N → (∀ s, s < v → a s = 0 ∧ b s = 0 ∧ c s = 0) → ∃ w a' b' c', f_M_clear_L22 256 256 256 N (nI v) a b c = some (w, a', b', c') ∧ ∀ s, s < 256 → a' s = 0 ∧ b' s = 0 ∧ c' s = 0 := by
  intro d
  induction d with
  | zero =>
    intro v N a b c hv hN h
    obtain rfl : v = 256 := by omega
    obtain ⟨N, rfl⟩ : ∃ q, N = q + 1 := ⟨N - 1, by omega⟩
    exact ⟨_, a, b, c, by rw [f_M_clear_L22, if_pos (by decide)], h⟩
  | succ d ih =>
    intro v N a b c hv hN h
    obtain ⟨N, rfl⟩ : ∃ q, N = q + 1 := ⟨N - 1, by omega⟩
    have hv2 : v < 256 := by omega
    rw [f_M_clear_L22, if_neg (show ¬ (256 : Int32) ≤ nI v from nI_ge (a := v) (b := 256) (by omega) (by omega)), pc_ok hv2 (by decide), pc_ok hv2 (by decide), pc_ok hv2 (by decide), cl_ok hv2 (by decide), nI_1]
    refine ih (v + 1) N _ _ _ (by omega) (by omega) (fun s hs => ?_)
    by_cases hq : s = v
    · subst hq; exact ⟨pk_us, pk_us, pk_us⟩
    · rw [pk_un hq, pk_un hq, pk_un hq]; exact h s (by omega)
theorem SOK_0 {W Hh : Nat} {sam msam : Nat → Int32} (hW : W ≤ 16) (hH : Hh ≤ 16) (h1 : ∀ i, i < ((W + 2) * (Hh + 2)) → sam i = 0) (h2 : ∀ s, s < 256 → msam s = 0) : SOK W Hh sam msam := by
  refine ⟨fun x y hx hy => ?_, ⟨fun i hi _ => h1 i hi, fun s hs _ => h2 s hs⟩, fun x y hx hy => ?_⟩
  · rw [h1 _ (ic_lt hx hy), h2 _ (ir_lt (by omega) (by omega))]
  · rw [h1 _ (ic_lt hx hy)]; exact SB_0
theorem clear_ok {W Hh : Nat} {sam vals lowr msam mrvas mrlos : Nat → Int32} (hW : W ≤ 16) (hH : Hh ≤ 16) :
    ∃ (sam' vals' lowr' msam' mrvas' mrlos' : Nat → Int32), f_B_clear vals lowr sam ((W + 2) * (Hh + 2)) ((W + 2) * (Hh + 2)) ((W + 2) * (Hh + 2)) = some (0, vals', lowr', 0, sam', 0) ∧ f_M_clear msam mrvas mrlos 256 256 256 = some (0, 0, 0, 0, msam', mrvas', mrlos') ∧ SOK W Hh sam' msam' ∧ RV W Hh vals' lowr' mrvas' mrlos' := by
  have hn := nC_le hW hH
  obtain ⟨r1, e1, h1⟩ := fill_ok (v := 0) (row := sam) hn
  obtain ⟨r2, e2, h2⟩ := fill_ok (v := 0) (row := vals) hn
  obtain ⟨r3, e3, h3⟩ := fill_ok (v := 0) (row := lowr) hn
  obtain ⟨w, a', b', c', e4, h4⟩ := clear_loop 256 0 kBig msam mrvas mrlos (by omega) (by decide) (fun s hs => by omega)
  rw [nI_0] at e4
  refine ⟨r1, r2, r3, a', b', c', ?_, ?_, SOK_0 hW hH h1 (fun s hs => (h4 s hs).1), fun x y hx hy => ?_⟩
  · unfold f_B_clear; rw [e1, Option.bind_some, e2, Option.bind_some, e3, Option.bind_some]; rfl
  · unfold f_M_clear; rw [e4, Option.bind_some]
  · have hs : ir x y < 256 := ir_lt (by omega) (by omega)
    rw [h2 _ (ic_lt hx hy), h3 _ (ic_lt hx hy), (h4 _ hs).2.1, (h4 _ hs).2.2]; exact ⟨rfl, rfl⟩

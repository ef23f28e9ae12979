/-! PURE: the smaller calls -/
theorem isIn_nat {W Hh : Nat} {a0 a1 : Int32} (hW : W ≤ 16) (hH : Hh ≤ 16) (h : ¬ f_M_isIn (nI W) (nI Hh) a0 a1 = 0) : ∃ x y, x < W ∧ y < Hh ∧ a0 = nI x ∧ a1 = nI y := by
  unfold f_M_isIn at h
  by_cases h1 : a0 < 0
  · rw [if_pos h1] at h; exact absurd rfl h
  rw [if_neg h1] at h
  by_cases h2 : nI W ≤ a0
  · rw [if_pos h2] at h; exact absurd rfl h
  rw [if_neg h2] at h
  by_cases h3 : a1 < 0
  · rw [if_pos h3] at h; exact absurd rfl h
  rw [if_neg h3] at h
  by_cases h4 : nI Hh ≤ a1
  · rw [if_pos h4] at h; exact absurd rfl h
  obtain ⟨x, hx, rfl⟩ := nI_of h1
  obtain ⟨y, hy, rfl⟩ := nI_of h3
  rw [nI_leI (by omega) hx] at h2
  rw [nI_leI (by omega) hy] at h4
  exact ⟨x, y, by omega, by omega, rfl, rfl⟩
theorem SOK_upd {W Hh x y : Nat} {sam msam : Nat → Int32} {v : Int32} (hW : W ≤ 16) (h : SOK W Hh sam msam) (hx : x < W) (hy : y < Hh) (hv : SB v) : SOK W Hh (upd sam (ic W x y) v) (upd msam (ir x y) v) := by
  obtain ⟨h1, ⟨h2, h3⟩, h4⟩ := h
  refine ⟨?_, ⟨?_, ?_⟩, ?_⟩
  · intro x' y' hx' hy'
    by_cases hq : x' = x ∧ y' = y
    · obtain ⟨rfl, rfl⟩ := hq; rw [pk_us, pk_us]
    · rw [pk_un (fun q => hq (ic_inj hx' hx q)), pk_un (fun q => hq (ir_inj (by omega) (by omega) q))]; exact h1 x' y' hx' hy'
  · intro i hi hq
    rw [pk_un (hq x y hx hy)]; exact h2 i hi hq
  · intro i hi hq
    rw [pk_un (hq x y hx hy)]; exact h3 i hi hq
  · intro x' y' hx' hy'
    by_cases hq : x' = x ∧ y' = y
    · obtain ⟨rfl, rfl⟩ := hq; rw [pk_us]; exact hv
    · rw [pk_un (fun q => hq (ic_inj hx' hx q))]; exact h4 x' y' hx' hy'
theorem out_in : ((0 : Int32) < 0 ∨ 1 ≤ (0 : Int32).toNatClampNeg) = False := by decide
theorem cl0 : (0 : Int32).toNatClampNeg = 0 := by decide
theorem put_ok {W Hh : Nat} {sam msam : Nat → Int32} {outs : Nat → Int64} (a1 a2 a3 : Int32) (hW : W ≤ 16) (hH : Hh ≤ 16) (h : SOK W Hh sam msam) :
    ∃ (cd b : Int32) (o : Nat → Int64) (sam' msam' : Nat → Int32), f_Q_put (nI W) (nI Hh) (nI (W + 2)) sam outs ((W + 2) * (Hh + 2)) 1 a1 a2 a3 = some (cd, sam', o) ∧ f_M_put (nI W) (nI Hh) msam 256 a1 a2 a3 = some (b, cd, msam') ∧ (cd = 0 → o 0 = b.toInt64) ∧ SOK W Hh sam' msam' := by
  have hn := nC_le hW hH
  unfold f_Q_put f_B_put f_B_mustHoldSample f_M_put
  rw [show f_K_holds (nI W) (nI Hh) a1 a2 = f_M_isIn (nI W) (nI Hh) a1 a2 from rfl]
  by_cases h0 : f_M_isIn (nI W) (nI Hh) a1 a2 = 0
  · rw [if_pos h0, if_pos h0]
    refine ⟨1, 0, outs, sam, msam, ?_, ?_, (fun q => absurd q (by decide)), h⟩
    · rfl
    · rw [Option.bind_some, if_neg (by decide)]
  · rw [if_neg h0, if_neg h0, Option.bind_some, if_pos rfl]
    obtain ⟨x, y, hx, hy, rfl, rfl⟩ := isIn_nat hW hH h0
    have hi := ic_lt hx hy
    have hs : ir x y < 256 := ir_lt (by omega) (by omega)
    by_cases h1 : a3 < (-32767 : Int32)
    · rw [if_pos h1, if_pos h1]
      exact ⟨2, 0, outs, sam, msam, rfl, by rw [Option.bind_some, if_neg (by decide)], (fun q => absurd q (by decide)), h⟩
    · rw [if_neg h1, if_neg h1]
      by_cases h2 : a3 ≤ (32767 : Int32)
      · rw [if_pos h2, if_pos h2, Option.bind_some, if_pos (show (0 : Int32) ≤ 0 by decide), cellOf_ok, pc_ok hi (by omega), pc_ok hi (by omega), cl_ok hi (by omega), ir_e, pc_ok hs (by decide), pc_ok hs (by decide), cl_ok hs (by decide), Option.bind_some, if_pos rfl]
        dsimp only
        rw [if_neg (by decide), cl0]
        exact ⟨0, msam (ir x y), _, _, _, rfl, rfl, fun _ => by rw [pk_uLs, h.1 x y hx hy], SOK_upd hW h hx hy ⟨Int32.not_lt.mp h1, h2⟩⟩
      · rw [if_neg h2, if_neg h2]
        exact ⟨2, 0, outs, sam, msam, rfl, by rw [Option.bind_some, if_neg (by decide)], (fun q => absurd q (by decide)), h⟩
/-! paint -/
theorem lg_le (x y : Int64) : lg_cmp x y ≤ 0 ↔ ¬ x > y := by
  unfold lg_cmp
  by_cases h : x > y
  · rw [if_pos h]; exact ⟨fun q => absurd q (by decide), fun q => absurd h q⟩
  · rw [if_neg h]
    by_cases h2 : x = y
    · rw [if_pos h2]; exact ⟨fun _ => h, fun _ => by decide⟩
    · rw [if_neg h2]; exact ⟨fun _ => h, fun _ => by decide⟩
theorem lg_ge (x y : Int64) : 0 ≤ lg_cmp x y ↔ y ≤ x := by
  unfold lg_cmp
  by_cases h : x > y
  · rw [if_pos h]; exact ⟨fun _ => Int64.le_of_lt h, fun _ => by decide⟩
  · rw [if_neg h]
    by_cases h2 : x = y
    · rw [if_pos h2]; subst h2; exact ⟨fun _ => Int64.le_refl _, fun _ => by decide⟩
    · rw [if_neg h2]
      refine ⟨fun q => absurd q (by decide), fun q => ?_⟩
      exact absurd (Int64.lt_of_le_of_ne q (fun e => h2 e.symm)) h
theorem lg_self (x : Int64) : lg_cmp x x = 0 := by
  unfold lg_cmp
  rw [if_neg (Int64.lt_irrefl), if_pos rfl]
theorem within_eq (v : Int32) : f_MS_within v.toInt64 = f_ST_within v (-32767) 32767 ∧ SB (f_ST_within v (-32767) 32767) := by
  have e1 : (32767 : Int64) = (32767 : Int32).toInt64 := by decide
  have e2 : (-32767 : Int64) = (-32767 : Int32).toInt64 := by decide
  have c1 : ∀ a b : Int32, (a.toInt64 > b.toInt64) ↔ b < a := by
    intro a b
    show b.toInt64 < a.toInt64 ↔ b < a
    rw [Int64.lt_iff_toInt_lt, Int32.lt_iff_toInt_lt, Int32.toInt_toInt64, Int32.toInt_toInt64]
  have c2 : ∀ a b : Int32, (b.toInt64 ≤ a.toInt64) ↔ b ≤ a := by
    intro a b
    rw [Int64.le_iff_toInt_le, Int32.le_iff_toInt_le, Int32.toInt_toInt64, Int32.toInt_toInt64]
  unfold f_MS_within f_ST_within kmax kmin SB
  by_cases h1 : v < 32767
  · rw [if_pos h1]
    rw [if_pos ((lg_le _ _).mpr (by rw [e1, c1]; exact fun q => absurd (Int32.lt_trans q h1) Int32.lt_irrefl))]
    by_cases h2 : (-32767 : Int32) < v
    · rw [if_pos h2, if_pos ((lg_ge _ _).mpr (by rw [e2, c2]; exact Int32.le_of_lt h2)), Int32.toInt32_toInt64]
      exact ⟨rfl, Int32.le_of_lt h2, Int32.le_of_lt h1⟩
    · rw [if_neg h2]
      by_cases h3 : v = -32767
      · subst h3; decide
      · rw [if_neg (fun q => ?_)]
        · exact ⟨rfl, by decide, by decide⟩
        · have := (lg_ge _ _).mp q
          rw [e2, c2] at this
          exact h2 (Int32.lt_of_le_of_ne this (fun e => h3 e.symm))
  · rw [if_neg h1, if_pos (show (-32767 : Int32) < 32767 by decide)]
    by_cases h3 : v = 32767
    · subst h3; decide
    · rw [if_neg (fun q => ?_)]
      · exact ⟨rfl, by decide, by decide⟩
      · have := (lg_le _ _).mp q
        rw [e1, c1] at this
        exact this (Int32.lt_of_le_of_ne (Int32.not_lt.mp h1) (fun e => h3 e.symm))
theorem paintX {W Hh y : Nat} {a1 : Int32} (hW : W ≤ 16) (hH : Hh ≤ 16) (hy : y < Hh) : ∀ (d x N N' : Nat) (n nx : Int32) (sam msam : Nat → Int32), x + d = W → d < N → d < N' → SOK W Hh sam msam →
    ∃ (n' nx' : Int32) (sam' msam' : Nat → Int32), f_B_paint_L23 (nI W) (nI (W + 2)) ((W + 2) * (Hh + 2)) a1 (nI y) N n nx (nI x) sam = some (n', nx', nI W, sam') ∧ f_M_paint_L25 (nI W) 256 a1 (nI y) N' n nx (nI x) msam = some (n', nx', nI W, msam') ∧ SOK W Hh sam' msam' := by
  have hn := nC_le hW hH
  intro d
  induction d with
  | zero =>
    intro x N N' n nx sam msam hd hN hN' h
    obtain rfl : x = W := by omega
    obtain ⟨N, rfl⟩ : ∃ q, N = q + 1 := ⟨N - 1, by omega⟩
    obtain ⟨N', rfl⟩ : ∃ q, N' = q + 1 := ⟨N' - 1, by omega⟩
    refine ⟨n, nx, sam, msam, ?_, ?_, h⟩
    · rw [f_B_paint_L23, if_pos (nI_le (Nat.le_refl _) (by omega))]
    · rw [f_M_paint_L25, if_pos (nI_le (Nat.le_refl _) (by omega))]
  | succ d ih =>
    intro x N N' n nx sam msam hd hN hN' h
    obtain ⟨N, rfl⟩ : ∃ q, N = q + 1 := ⟨N - 1, by omega⟩
    obtain ⟨N', rfl⟩ : ∃ q, N' = q + 1 := ⟨N' - 1, by omega⟩
    have hx : x < W := by omega
    have hi := ic_lt hx hy
    have hs : ir x y < 256 := ir_lt (by omega) (by omega)
    obtain ⟨w1, w2⟩ := within_eq nx
    have b : ¬ nI W ≤ nI x := nI_ge hx (by omega)
    rw [f_B_paint_L23, if_neg b, cellOf_ok, pc_ok hi (by omega), cl_ok hi (by omega), ite_some, Option.bind_some, pc_ok' hi (by omega), nI_1, f_M_paint_L25, if_neg b, ir_e, pc_ok hs (by decide), cl_ok hs (by decide), w1, ite_some, Option.bind_some, pc_ok' hs (by decide), nI_1, h.1 x y hx hy]
    exact ih (x + 1) N N' _ _ _ _ (by omega) (by omega) (by omega) (SOK_upd hW h hx hy w2)
theorem paintY {W Hh : Nat} {a1 : Int32} (hW : W ≤ 16) (hH : Hh ≤ 16) : ∀ (d y N N' : Nat) (n nx : Int32) (sam msam : Nat → Int32), y + d = Hh → d < N → d < N' → SOK W Hh sam msam →
    ∃ (n' nx' : Int32) (sam' msam' : Nat → Int32), f_B_paint_L8 (nI W) (nI Hh) (nI (W + 2)) ((W + 2) * (Hh + 2)) a1 N n nx (nI y) sam = some (n', nx', nI Hh, sam') ∧ f_M_paint_L13 (nI W) (nI Hh) 256 a1 N' n nx (nI y) msam = some (n', nx', nI Hh, msam') ∧ SOK W Hh sam' msam' := by
  intro d
  induction d with
  | zero =>
    intro x N N' n nx sam msam hd hN hN' h
    obtain rfl : x = Hh := by omega
    obtain ⟨N, rfl⟩ : ∃ q, N = q + 1 := ⟨N - 1, by omega⟩
    obtain ⟨N', rfl⟩ : ∃ q, N' = q + 1 := ⟨N' - 1, by omega⟩
    refine ⟨n, nx, sam, msam, ?_, ?_, h⟩
    · rw [f_B_paint_L8, if_pos (nI_le (Nat.le_refl _) (by omega))]
    · rw [f_M_paint_L13, if_pos (nI_le (Nat.le_refl _) (by omega))]
  | succ d ih =>
    intro y N N' n nx sam msam hd hN hN' h
    obtain ⟨N, rfl⟩ : ∃ q, N = q + 1 := ⟨N - 1, by omega⟩
    obtain ⟨N', rfl⟩ : ∃ q, N' = q + 1 := ⟨N' - 1, by omega⟩
    have hy : y < Hh := by omega
    have b : ¬ nI Hh ≤ nI y := nI_ge hy (by omega)
    obtain ⟨n', nx', sam', msam', e1, e2, h'⟩ := paintX (a1 := a1) hW hH hy W 0 kBig kBig n nx sam msam (by omega) (by unfold kBig; omega) (by unfold kBig; omega) h
    rw [nI_0] at e1 e2
    rw [f_B_paint_L8, if_neg b, e1, Option.bind_some, nI_1, f_M_paint_L13, if_neg b, e2, Option.bind_some, nI_1]
    exact ih (y + 1) N N' _ _ _ _ (by omega) (by omega) (by omega) h'
theorem paint_ok {W Hh : Nat} {sam msam : Nat → Int32} (a0 a1 : Int32) (hW : W ≤ 16) (hH : Hh ≤ 16) (h : SOK W Hh sam msam) :
    ∃ (n : Int32) (sam' msam' : Nat → Int32), f_B_paint (nI W) (nI Hh) (nI (W + 2)) sam ((W + 2) * (Hh + 2)) a0 a1 = some (n, sam') ∧ f_M_paint (nI W) (nI Hh) msam 256 a0 a1 = some (n, 0, msam') ∧ SOK W Hh sam' msam' := by
  obtain ⟨n', nx', sam', msam', e1, e2, h'⟩ := paintY (a1 := a1) hW hH Hh 0 kBig kBig 0 a0 sam msam (by omega) (by unfold kBig; omega) (by unfold kBig; omega) h
  rw [nI_0] at e1 e2
  unfold f_B_paint f_M_paint
  rw [e1, Option.bind_some, e2, Option.bind_some]
  exact ⟨n', sam', msam', rfl, rfl, h'⟩
/-! bit -/
theorem bit_ok {nR c : Nat} {row mbits mctxs mpaso : Nat → Int32} {outs : Nat → Int64} (a0 a1 : Int32) (hc : c ≤ nR) (hR : nR ≤ 12000) (h : RowOK c row mbits mctxs mpaso) :
    ∃ (cd b : Int32) (o : Nat → Int64), f_Q_bit (nI c) row outs nR 1 a0 a1 = some (cd, o) ∧ f_M_bit (nI c) mbits mctxs mpaso 12000 12000 12000 a0 a1 = some (b, cd) ∧ (cd = 0 → o 0 = b.toInt64) := by
  unfold f_Q_bit f_B_bit f_M_bit
  by_cases h1 : a0 < 0
  · rw [if_pos h1, if_pos h1]
    exact ⟨1, 0, outs, rfl, by rw [Option.bind_some, if_neg (by decide)], fun q => absurd q (by decide)⟩
  rw [if_neg h1, if_neg h1]
  by_cases h2 : a0 < nI c
  · rw [if_pos h2, if_pos h2]
    obtain ⟨i, hi, rfl⟩ := nI_of h1
    rw [nI_ltI hi (by omega)] at h2
    obtain ⟨b, cx, pa, r1, r2, r3, r4, r5, r6⟩ := h i h2
    obtain ⟨u1, u2, u3⟩ := pk3_un b cx r1 pa r2
    have hi2 : i < nR := by omega
    have hi3 : i < 12000 := by omega
    by_cases k0 : a1 = 0
    · subst k0
      rw [if_pos rfl, if_neg (show ¬ (0 : Int32) < 0 by decide), if_pos (show (0 : Int32) ≤ 2 by decide), Option.bind_some, if_pos (show (0 : Int32) ≤ 0 by decide), if_pos rfl, pc_ok hi3 (by decide), cl_ok hi3 (by decide)]
      unfold f_T_bitOf
      rw [pc_ok hi2 (by omega), cl_ok hi2 (by omega), r3, u1, Option.bind_some, Option.bind_some, if_pos rfl, if_neg (show ¬ ((0 : Int32) < 0 ∨ 1 ≤ (0 : Int32).toNatClampNeg) by decide), cl0, r4]
      exact ⟨0, bI b, _, rfl, rfl, fun _ => pk_uLs⟩
    rw [if_neg k0]
    by_cases k1 : a1 = 1
    · subst k1
      rw [if_pos rfl, if_neg (show ¬ (1 : Int32) < 0 by decide), if_pos (show (1 : Int32) ≤ 2 by decide), Option.bind_some, if_pos (show (0 : Int32) ≤ 0 by decide), if_neg k0, if_pos rfl, pc_ok hi3 (by decide), cl_ok hi3 (by decide)]
      unfold f_T_contextOf
      rw [pc_ok hi2 (by omega), cl_ok hi2 (by omega), r3, u2, Option.bind_some, Option.bind_some, if_pos rfl, if_neg (show ¬ ((0 : Int32) < 0 ∨ 1 ≤ (0 : Int32).toNatClampNeg) by decide), cl0, r5]
      exact ⟨0, nI cx, _, rfl, rfl, fun _ => pk_uLs⟩
    rw [if_neg k1]
    by_cases k2 : a1 = 2
    · subst k2
      rw [if_pos rfl, if_neg (show ¬ (2 : Int32) < 0 by decide), if_pos (show (2 : Int32) ≤ 2 by decide), Option.bind_some, if_pos (show (0 : Int32) ≤ 0 by decide), if_neg k0, if_neg k1, pc_ok hi3 (by decide), cl_ok hi3 (by decide)]
      unfold f_T_passOf
      rw [pc_ok hi2 (by omega), cl_ok hi2 (by omega), r3, u3, Option.bind_some, Option.bind_some, if_pos rfl, if_neg (show ¬ ((0 : Int32) < 0 ∨ 1 ≤ (0 : Int32).toNatClampNeg) by decide), cl0, r6]
      exact ⟨0, nI pa, _, rfl, rfl, fun _ => pk_uLs⟩
    rw [if_neg k2]
    have e : (if a1 < 0 then some (2 : Int32) else if a1 ≤ 2 then some (0 : Int32) else some (2 : Int32)) = some 2 := by
      by_cases q1 : a1 < 0
      · rw [if_pos q1]
      · rw [if_neg q1]
        by_cases q2 : a1 ≤ 2
        · obtain ⟨j, hj, rfl⟩ := nI_of2 (M := 2) (n := 2) (by decide) q1 q2
          rcases (show j = 0 ∨ j = 1 ∨ j = 2 by omega) with rfl | rfl | rfl
          · exact absurd rfl k0
          · exact absurd rfl k1
          · exact absurd rfl k2
        · rw [if_neg q2]
    rw [e, Option.bind_some, Option.bind_some, if_neg (show ¬ (2 : Int32) ≤ 0 by decide)]
    exact ⟨2, 0, outs, rfl, rfl, fun q => absurd q (by decide)⟩
  · rw [if_neg h2, if_neg h2]
    exact ⟨1, 0, outs, rfl, by rw [Option.bind_some, if_neg (by decide)], fun q => absurd q (by decide)⟩
/-! length, distortion, kind, terminated -/
theorem told_cases {q : Nat} (hq : q ≤ 43) (a0 : Int32) : (f_B_mustBeTold (nI q) a0 = some 1 ∧ f_M_isPass (nI q) a0 = (0, 1)) ∨ (f_B_mustBeTold (nI q) a0 = some 0 ∧ f_M_isPass (nI q) a0 = (1, 0) ∧ ∃ i, i < q ∧ a0 = nI i) := by
  unfold f_B_mustBeTold f_M_isPass
  by_cases h1 : a0 < 0
  · rw [if_pos h1, if_pos h1]; exact .inl ⟨rfl, rfl⟩
  rw [if_neg h1, if_neg h1]
  by_cases h2 : a0 < nI q
  · rw [if_pos h2, if_pos h2]
    obtain ⟨i, hi, rfl⟩ := nI_of h1
    rw [nI_ltI hi (by omega)] at h2
    exact .inr ⟨rfl, rfl, i, h2, rfl⟩
  · rw [if_neg h2, if_neg h2]; exact .inl ⟨rfl, rfl⟩
theorem length_ok {q : Nat} {lens mlens : Nat → Int32} {outs : Nat → Int64} (hq : q ≤ 43) (h : ∀ i, i < q → lens i = mlens i) (a0 : Int32) :
    ∃ (cd b : Int32) (o : Nat → Int64), f_Q_length (nI q) lens outs 43 1 a0 = some (cd, o) ∧ f_M_length (nI q) mlens 43 a0 = some (b, cd) ∧ (cd = 0 → o 0 = b.toInt64) := by
  unfold f_Q_length f_B_length f_M_length
  rcases told_cases hq a0 with ⟨e1, e2⟩ | ⟨e1, e2, i, hi, rfl⟩
  · rw [e1, e2]; exact ⟨1, 0, outs, rfl, rfl, fun q => absurd q (by decide)⟩
  · rw [e1, e2, Option.bind_some, if_pos rfl, pc_ok (show i < 43 by omega) (by decide), nI_clamp (by omega), Option.bind_some, if_pos rfl, if_neg (show ¬ ((0 : Int32) < 0 ∨ 1 ≤ (0 : Int32).toNatClampNeg) by decide), cl0, if_neg (show ¬ (((1 : Int32), (0 : Int32))).1 = 0 by decide), pc_ok' (show i < 43 by omega) (by decide)]
    exact ⟨0, mlens i, _, rfl, rfl, fun _ => by rw [pk_uLs, h i hi]⟩
theorem distortion_ok {q : Nat} {diss mdiss : Nat → Int64} {outs : Nat → Int64} (hq : q ≤ 43) (h : ∀ i, i < q → diss i = mdiss i) (a0 : Int32) :
    ∃ (cd : Int32) (b : Int64) (o : Nat → Int64), f_Q_distortion (nI q) diss outs 43 1 a0 = some (cd, o) ∧ f_M_distortion (nI q) mdiss 43 a0 = some (b, cd) ∧ (cd = 0 → o 0 = b) := by
  unfold f_Q_distortion f_B_distortion f_M_distortion
  rcases told_cases hq a0 with ⟨e1, e2⟩ | ⟨e1, e2, i, hi, rfl⟩
  · rw [e1, e2]; exact ⟨1, 0, outs, rfl, rfl, fun q => absurd q (by decide)⟩
  · rw [e1, e2, Option.bind_some, if_pos rfl, pc_ok (show i < 43 by omega) (by decide), nI_clamp (by omega), Option.bind_some, if_pos rfl, if_neg (show ¬ ((0 : Int32) < 0 ∨ 1 ≤ (0 : Int32).toNatClampNeg) by decide), cl0, if_neg (show ¬ (((1 : Int32), (0 : Int32))).1 = 0 by decide), pc_ok' (show i < 43 by omega) (by decide)]
    exact ⟨0, mdiss i, _, rfl, rfl, fun _ => by rw [pk_uLs, h i hi]⟩
theorem kind_ok {q : Nat} {outs : Nat → Int64} (hq : q ≤ 43) (a0 : Int32) :
    ∃ (cd b : Int32) (o : Nat → Int64), f_Q_kind (nI q) outs 1 a0 = some (cd, o) ∧ f_M_kind (nI q) a0 = (b, cd) ∧ (cd = 0 → o 0 = b.toInt64) := by
  unfold f_Q_kind f_B_kind f_M_kind
  rcases told_cases hq a0 with ⟨e1, e2⟩ | ⟨e1, e2, i, hi, rfl⟩
  · rw [e1, e2]; exact ⟨1, 0, outs, rfl, rfl, fun q => absurd q (by decide)⟩
  · obtain ⟨k1, k2⟩ := kd_tab i (by omega)
    rw [e1, e2, Option.bind_some, if_pos rfl, Option.bind_some, if_pos rfl, if_neg (show ¬ ((0 : Int32) < 0 ∨ 1 ≤ (0 : Int32).toNatClampNeg) by decide), cl0, if_neg (show ¬ (((1 : Int32), (0 : Int32))).1 = 0 by decide), k1, k2]
    exact ⟨0, nI ((i + 2) % 3), _, rfl, rfl, fun _ => pk_uLs⟩
theorem terminated_ok {q : Nat} {outs : Nat → Int64} (st : Int32) (hq : q ≤ 43) (a0 : Int32) :
    ∃ (cd : Int32) (b : Bool) (o : Nat → Int64), f_Q_terminated (nI q) st outs 1 a0 = some (cd, o) ∧ f_M_terminated st (nI q) a0 = (bI b, cd) ∧ (cd = 0 → o 0 = if b then 1 else 0) := by
  unfold f_Q_terminated f_B_terminated f_M_terminated
  rcases told_cases hq a0 with ⟨e1, e2⟩ | ⟨e1, e2, i, hi, rfl⟩
  · rw [e1, e2]; exact ⟨1, false, outs, rfl, rfl, fun q => absurd q (by decide)⟩
  · obtain ⟨k1, k2⟩ := kd_tab i (by omega)
    rw [e1, e2, Option.bind_some, if_pos rfl, if_neg (show ¬ (((1 : Int32), (0 : Int32))).1 = 0 by decide), k1, k2]
    have key : ∀ b : Bool, ∃ (cd : Int32) (b' : Bool) (o : Nat → Int64), (((some (0, bI b) : Option (Nat × Int32))).bind fun u1 => if u1.1 = 0 then (((if u1.2 = 0 then some (0 : Int64) else some (1 : Int64)) : Option (Int64)).bind fun u3 => if ((0 : Int32) < 0 ∨ 1 ≤ (0 : Int32).toNatClampNeg) then none else some ((0 : Int32), (vp_updL outs (0 : Int32).toNatClampNeg u3))) else if u1.1 = 1 then some ((1 : Int32), outs) else none) = some (cd, o) ∧ (bI b, (((1 : Int32), (0 : Int32))).2) = (bI b', cd) ∧ (cd = 0 → o 0 = if b' then 1 else 0) := by
      intro b
      rw [Option.bind_some, if_pos rfl]
      refine ⟨0, b, vp_updL outs 0 (if b then 1 else 0), ?_, rfl, fun _ => pk_uLs⟩
      cases b <;> rfl
    by_cases c1 : nI i = nI q - 1
    · rw [if_pos c1, if_pos c1]; exact key true
    rw [if_neg c1, if_neg c1, show f_K_hasStyle st 4 = f_M_has st 4 from rfl, show f_K_hasStyle st 1 = f_M_has st 1 from rfl]
    by_cases c2 : f_M_has st 4 = 0
    · rw [if_pos c2, if_pos c2]
      by_cases c3 : f_M_has st 1 = 0
      · rw [if_pos c3, if_pos c3]; exact key false
      rw [if_neg c3, if_neg c3]
      by_cases c4 : nI i < 9
      · rw [if_pos c4, if_pos c4]; exact key false
      rw [if_neg c4, if_neg c4]
      by_cases c5 : (i + 2) % 3 = 0
      · rw [c5, if_pos nI_0, if_pos (show nI 0 ≤ 0 by decide)]; exact key false
      · rw [if_neg (nI_ne0 (by omega) (by omega)), if_neg (nI_nle (by omega) (by omega))]; exact key true
    · rw [if_neg c2, if_neg c2]; exact key true

/-! PURE: marks, a whole pass, the beginning -/
theorem kd_tab : ∀ n, n < 43 → f_ST_kindOf (nI n) = nI ((n + 2) % 3) ∧ f_MS_kindOf (nI n) = nI ((n + 2) % 3) := by decide +kernel
theorem pl_tab : ∀ P, P < 16 → ∀ n, n < 43 → (n + 2) / 3 + 1 ≤ P → ((nI P - (1 : Int32)) - ((nI n + (2 : Int32)) / (3 : Int32))) = nI (P - 1 - (n + 2) / 3) := by decide +kernel
theorem mk_tab (a b c d : Bool) : (if ((2 : Int32) * (2 * (2 * (2 * 0 + bI a) + bI b) + bI c) + bI d) = 10 then (1 : Int32) else 0) = bI (a && !b && c && !d) := by cases a <;> cases b <;> cases c <;> cases d <;> decide
theorem mk_tabC (a b c d : Bool) : (if bI d = bI false then (if bI c = bI true then (if bI b = bI false then (if bI a = bI true then (1 : Int32) else 0) else 0) else 0) else 0) = bI (a && !b && c && !d) := by cases a <;> cases b <;> cases c <;> cases d <;> decide
theorem due0 : ((1 : Int32) - (krem 0 (2 : Int32))) = bI true := by decide
theorem due1 : ((1 : Int32) - (krem (0 + 1) (2 : Int32))) = bI false := by decide
theorem due2 : ((1 : Int32) - (krem (0 + 1 + 1) (2 : Int32))) = bI true := by decide
theorem due3 : ((1 : Int32) - (krem (0 + 1 + 1 + 1) (2 : Int32))) = bI false := by decide
theorem marks_T {r : Nat} {pn mtr : Int32} {nR : Nat} {sam msam mreads : Nat → Int32} {s : (Int32 × (Nat → Int32))} {m : MT} (hT : TT pn nR (r + 4) s m) :
    ∃ (g : Bool) (s' : (Int32 × (Nat → Int32))) (m' : MT), f_WT_exchangeMarks s.1 pn s.2 nR = some (bI g, s'.1, s'.2)
      ∧ f_M_marks m.1 mtr 0 m.2.1 m.2.2.1 pn m.2.2.2.1 m.2.2.2.2.1 m.2.2.2.2.2 mreads 12000 12000 12000 12000 = some (bI g, m'.1, m'.2.1, m'.2.2.1, m'.2.2.2.1, m'.2.2.2.2.1, m'.2.2.2.2.2) ∧ TT pn nR (r) s' m' := by
  obtain ⟨r1, s1, m1, e1, f1, hT1⟩ := ex_T (mtr := mtr) (mreads := mreads) (k := r + 3) hT true (show 18 < 32 by omega)
  obtain ⟨r2, s2, m2, e2, f2, hT2⟩ := ex_T (mtr := mtr) (mreads := mreads) (k := r + 2) hT1 false (show 18 < 32 by omega)
  obtain ⟨r3, s3, m3, e3, f3, hT3⟩ := ex_T (mtr := mtr) (mreads := mreads) (k := r + 1) hT2 true (show 18 < 32 by omega)
  obtain ⟨r4, s4, m4, e4, f4, hT4⟩ := ex_T (mtr := mtr) (mreads := mreads) (k := r) hT3 false (show 18 < 32 by omega)
  refine ⟨r1 && !r2 && r3 && !r4, s4, m4, ?_, ?_, hT4⟩
  · unfold f_WT_exchangeMarks
    rw [show kBig = 99995 + 1 + 1 + 1 + 1 + 1 from rfl, f_WT_exchangeMarks_L4, if_neg (by decide), due0, show (18 : Int32) = nI 18 from rfl, e1, Option.bind_some, ite_some, Option.bind_some,
      f_WT_exchangeMarks_L4, if_neg (by decide), due1, show (18 : Int32) = nI 18 from rfl, e2, Option.bind_some, ite_some, Option.bind_some,
      f_WT_exchangeMarks_L4, if_neg (by decide), due2, show (18 : Int32) = nI 18 from rfl, e3, Option.bind_some, ite_some, Option.bind_some,
      f_WT_exchangeMarks_L4, if_neg (by decide), due3, show (18 : Int32) = nI 18 from rfl, e4, Option.bind_some, ite_some, Option.bind_some,
      f_WT_exchangeMarks_L4, if_pos (by decide), Option.bind_some]
    dsimp only
    rw [mk_tabC, if_neg (fun q => q (bI_01 _))]
  · unfold f_M_marks
    rw [show kBig = 99995 + 1 + 1 + 1 + 1 + 1 from rfl, f_M_marks_L4, if_neg (by decide), due0, show (18 : Int32) = nI 18 from rfl, f1, Option.bind_some,
      f_M_marks_L4, if_neg (by decide), due1, show (18 : Int32) = nI 18 from rfl, f2, Option.bind_some,
      f_M_marks_L4, if_neg (by decide), due2, show (18 : Int32) = nI 18 from rfl, f3, Option.bind_some,
      f_M_marks_L4, if_neg (by decide), due3, show (18 : Int32) = nI 18 from rfl, f4, Option.bind_some,
      f_M_marks_L4, if_pos (by decide), Option.bind_some]
    dsimp only
    rw [← mk_tab]
    by_cases hq : ((2 : Int32) * (2 * (2 * (2 * 0 + bI r1) + bI r2) + bI r3) + bI r4) = 10
    · rw [if_pos hq, if_pos hq]
    · rw [if_neg hq, if_neg hq]
theorem marks_L {r : Nat} {pn lcn mtr : Int32} {wor msam mreads : Nat → Int32} {m0 : MT} {s : (Int32 × Int32)} {m : MT} (hT : TL lcn wor mtr mreads m0 (r + 4) s m) :
    ∃ (g : Bool) (s' : (Int32 × Int32)) (m' : MT), f_WL_exchangeMarks lcn s.1 s.2 wor 376 = some (bI g, s'.1, s'.2)
      ∧ f_M_marks m.1 mtr 1 m.2.1 m.2.2.1 pn m.2.2.2.1 m.2.2.2.2.1 m.2.2.2.2.2 mreads 12000 12000 12000 12000 = some (bI g, m'.1, m'.2.1, m'.2.2.1, m'.2.2.2.1, m'.2.2.2.2.1, m'.2.2.2.2.2) ∧ TL lcn wor mtr mreads m0 (r) s' m' := by
  obtain ⟨r1, s1, m1, e1, f1, hT1⟩ := ex_L (pn := pn) (k := r + 3) hT (bI true) 18
  obtain ⟨r2, s2, m2, e2, f2, hT2⟩ := ex_L (pn := pn) (k := r + 2) hT1 (bI false) 18
  obtain ⟨r3, s3, m3, e3, f3, hT3⟩ := ex_L (pn := pn) (k := r + 1) hT2 (bI true) 18
  obtain ⟨r4, s4, m4, e4, f4, hT4⟩ := ex_L (pn := pn) (k := r) hT3 (bI false) 18
  refine ⟨r1 && !r2 && r3 && !r4, s4, m4, ?_, ?_, hT4⟩
  · unfold f_WL_exchangeMarks
    rw [show kBig = 99995 + 1 + 1 + 1 + 1 + 1 from rfl, f_WL_exchangeMarks_L4, if_neg (by decide), due0, e1, Option.bind_some, ite_some, Option.bind_some,
      f_WL_exchangeMarks_L4, if_neg (by decide), due1, e2, Option.bind_some, ite_some, Option.bind_some,
      f_WL_exchangeMarks_L4, if_neg (by decide), due2, e3, Option.bind_some, ite_some, Option.bind_some,
      f_WL_exchangeMarks_L4, if_neg (by decide), due3, e4, Option.bind_some, ite_some, Option.bind_some,
      f_WL_exchangeMarks_L4, if_pos (by decide), Option.bind_some]
    dsimp only
    rw [mk_tabC, if_neg (fun q => q (bI_01 _))]
  · unfold f_M_marks
    rw [show kBig = 99995 + 1 + 1 + 1 + 1 + 1 from rfl, f_M_marks_L4, if_neg (by decide), due0, f1, Option.bind_some,
      f_M_marks_L4, if_neg (by decide), due1, f2, Option.bind_some,
      f_M_marks_L4, if_neg (by decide), due2, f3, Option.bind_some,
      f_M_marks_L4, if_neg (by decide), due3, f4, Option.bind_some,
      f_M_marks_L4, if_pos (by decide), Option.bind_some]
    dsimp only
    rw [← mk_tab]
    by_cases hq : ((2 : Int32) * (2 * (2 * (2 * 0 + bI r1) + bI r2) + bI r3) + bI r4) = 10
    · rw [if_pos hq, if_pos hq]
    · rw [if_neg hq, if_neg hq]
/-- the reference's flags are cleared, or left -/
theorem clr_ok {n : Nat} (h : f_MS_kindOf (nI n) = 0 ∨ nI n = 0) : ∀ (d v N : Nat) (se : Nat → Int32), v + d = 256 → d < N → (∀ s, s < v → se s = 0) → ∃ w se', f_M_go_L54 256 (nI n) N (nI v) se = some (w, se') ∧ ∀ s, s < 256 → se' s = 0 := by
  intro d
  induction d with
  | zero =>
    intro v N se hv hN hs
    obtain rfl : v = 256 := by omega
    obtain ⟨N, rfl⟩ : ∃ q, N = q + 1 := ⟨N - 1, by omega⟩
    exact ⟨_, se, by rw [f_M_go_L54, if_pos (by decide)], hs⟩
  | succ d ih =>
    intro v N se hv hN hs
    obtain ⟨N, rfl⟩ : ∃ q, N = q + 1 := ⟨N - 1, by omega⟩
    have b : ¬ (256 : Int32) ≤ nI v := nI_ge (a := v) (b := 256) (by omega) (by omega)
    have hs' : ∀ s, s < v + 1 → upd se v 0 s = 0 := by
      intro s hq
      by_cases h1 : s = v
      · subst h1; exact pk_us
      · rw [pk_un h1]; exact hs s (by omega)
    have key : f_M_go_L54 256 (nI n) (N + 1) (nI v) se = f_M_go_L54 256 (nI n) N (nI (v + 1)) (upd se v 0) := by
      rw [f_M_go_L54, if_neg b]
      by_cases hk : f_MS_kindOf (nI n) = 0
      · rw [if_pos hk, pc_ok (by omega) (by omega), nI_clamp (by omega), nI_1]
      · rw [if_neg hk, if_pos (h.resolve_left hk), pc_ok (by omega) (by omega), nI_clamp (by omega), nI_1]
    rw [key]
    exact ih (v + 1) N _ (by omega) (by omega) hs'
theorem clr_no {n : Nat} {se : Nat → Int32} (h1 : ¬ f_MS_kindOf (nI n) = 0) (h2 : ¬ nI n = 0) : f_M_go_L54 256 (nI n) kBig 0 se = some (0, se) := by
  rw [show kBig = 99999 + 1 from rfl, f_M_go_L54, if_neg (by decide), if_neg h1, if_neg h2]
/-- the state before pass n of P planes -/
def BGN (W Hh P : Nat) (c : CA) (A : RA) : Prop :=
  SG W Hh c.1 A.2.2.1 A.2.1 ∧ (∀ x' y', x' < W → y' < Hh → c.2.1 (ic W x' y') = A.1 (ir x' y') ∧ c.2.2 (ic W x' y') = A.2.2.2.2.2 (ir x' y') ∧ A.2.2.1 (ir x' y') = -1 ∧ A.2.1 (ir x' y') = 0 ∧ A.1 (ir x' y') = 0 ∧ A.2.2.2.2.2 (ir x' y') = nI P ∧ A.2.2.2.2.1 (ir x' y') = 0) ∧ OZ W Hh c.2.1 A.1
def PS (W Hh P n : Nat) (c : CA) (A : RA) : Prop :=
  if n = 0 then BGN W Hh P c A else if (n + 2) % 3 = 0 then AL W Hh 3 (P - 1 - (n + 2) / 3 + 1) c A else AL W Hh ((n + 2) % 3) (P - 1 - (n + 2) / 3) c A
theorem PS_next {W Hh P n : Nat} {c : CA} {A : RA} (hP : (n + 3) / 3 + 1 ≤ P) (h : AL W Hh ((n + 2) % 3 + 1) (P - 1 - (n + 2) / 3) c A) : PS W Hh P (n + 1) c A := by
  unfold PS
  rw [if_neg (by omega)]
  by_cases hq : (n + 1 + 2) % 3 = 0
  · rw [if_pos hq]
    rw [show (n + 2) % 3 + 1 = 3 by omega, show P - 1 - (n + 2) / 3 = P - 1 - (n + 1 + 2) / 3 + 1 by omega] at h
    exact h
  · rw [if_neg hq]
    rw [show (n + 2) % 3 + 1 = (n + 1 + 2) % 3 by omega, show P - 1 - (n + 2) / 3 = P - 1 - (n + 1 + 2) / 3 by omega] at h
    exact h
/-- what the clearing of the flags makes of it -/
theorem PS_clr {W Hh P n : Nat} {c : CA} {A : RA} (hW : W ≤ 16) (hH : Hh ≤ 16) (hn : n < 43) (hP15 : P ≤ 15) (hP : (n + 2) / 3 + 1 ≤ P) (h : PS W Hh P n c A) :
    ∃ w se', f_M_go_L54 256 (nI n) kBig 0 A.2.2.2.1 = some (w, se') ∧ AL W Hh ((n + 2) % 3) (P - 1 - (n + 2) / 3) c (A.1, A.2.1, A.2.2.1, se', A.2.2.2.2.1, A.2.2.2.2.2) := by
  unfold PS at h
  by_cases h0 : n = 0
  · rw [if_pos h0] at h
    obtain ⟨w, se', e, hz⟩ := clr_ok (n := n) (.inr (by rw [h0]; rfl)) 256 0 kBig A.2.2.2.1 (by omega) (by decide) (fun s q => by omega)
    rw [nI_0] at e
    refine ⟨w, se', e, h.1, fun x' y' hx' hy' => ?_, h.2.2⟩
    obtain ⟨a1, a2, a3, a4, a5, a6, a7⟩ := h.2.1 x' y' hx' hy'
    refine ⟨a1, a2, .inl a4, .inl ⟨a3, a5, a7, ?_, hz _ (ir_lt (by omega) (by omega)), by omega⟩⟩
    rw [show P - 1 - (n + 2) / 3 + 1 = P by omega]; exact a6
  · rw [if_neg h0] at h
    have kt := (kd_tab n hn).2
    by_cases hq : (n + 2) % 3 = 0
    · rw [if_pos hq] at h
      obtain ⟨w, se', e, hz⟩ := clr_ok (n := n) (.inl (by rw [kt, hq]; rfl)) 256 0 kBig A.2.2.2.1 (by omega) (by decide) (fun s q => by omega)
      rw [nI_0] at e
      refine ⟨w, se', e, h.1, fun x' y' hx' hy' => ?_, h.2.2⟩
      obtain ⟨a1, a2, hbe, b⟩ := h.2.1 x' y' hx' hy'
      have hz' := hz _ (show ir x' y' < 256 from ir_lt (by omega) (by omega))
      refine ⟨a1, a2, hbe, ?_⟩
      rcases b with ⟨_, _, _, _, _, c6⟩ | ⟨c1, c2, c3, c4, c5⟩ | ⟨c1, c2, c3, c4, c5⟩ | ⟨f, _, _, _, _, _, _, _, q8⟩ | ⟨f, q1, q2, q3, q4, q5, q6, q7⟩
      · omega
      · exact .inl ⟨c1, c2, c3, c4, hz', by omega⟩
      · refine .inr (.inr (.inr (.inl ⟨P - 1 - (n + 2) / 3 + 1, by omega, ?_, c1, ?_, fun _ => ⟨c2, c3⟩, fun q => by omega, c4, by omega⟩)))
        · omega
        · dsimp only
          rw [c2, bt_shl1 (by omega) (by omega)]; simp
      · omega
      · exact .inr (.inr (.inr (.inl ⟨f, by omega, q2, q3, q4, fun q => by omega, fun _ => q5, q6, by omega⟩)))
    · rw [if_neg hq] at h
      have h1 : ¬ f_MS_kindOf (nI n) = 0 := by rw [kt]; exact nI_ne0 (by omega) (by omega)
      exact ⟨0, A.2.2.2.1, clr_no h1 (nI_ne0 (by omega) (by omega)), h⟩
theorem raw_ok {st : Int32} {n : Nat} (hn : n < 43) : ∃ rw : Bool, ((n + 2) % 3 = 2 → rw = false)
    ∧ (if (f_K_hasStyle st (1 : Int32)) = 0 then some (0 : Int32) else (if nI n < (10 : Int32) then some (0 : Int32) else (if (nI ((n + 2) % 3)) = (2 : Int32) then some (0 : Int32) else some (1 : Int32)))) = some (bI rw)
    ∧ (if (f_M_has st (1 : Int32)) = 0 then some (0 : Int32) else (if nI n < (10 : Int32) then some (0 : Int32) else (if (2 : Int32) ≤ (nI ((n + 2) % 3)) then some (0 : Int32) else some (1 : Int32)))) = some (bI rw) := by
  unfold f_K_hasStyle f_M_has
  by_cases h : st &&& 1 = 0
  · rw [if_pos h, if_pos rfl, if_pos rfl]; exact ⟨false, fun _ => rfl, rfl, rfl⟩
  · rw [if_neg h, if_neg (show ¬ (1 : Int32) = 0 by decide), if_neg (show ¬ (1 : Int32) = 0 by decide)]
    by_cases h2 : nI n < (10 : Int32)
    · rw [if_pos h2, if_pos h2]; exact ⟨false, fun _ => rfl, rfl, rfl⟩
    · rw [if_neg h2, if_neg h2]
      by_cases h3 : (n + 2) % 3 = 2
      · rw [h3, if_pos (show nI 2 = (2 : Int32) from rfl), if_pos (show (2 : Int32) ≤ nI 2 by decide)]; exact ⟨false, fun _ => rfl, rfl, rfl⟩
      · rw [if_neg (show ¬ nI ((n + 2) % 3) = (2 : Int32) from fun q => h3 ((nI_eq (by omega) (by decide)).mp (show nI ((n + 2) % 3) = nI 2 from q))), if_neg (show ¬ (2 : Int32) ≤ nI ((n + 2) % 3) from nI_ge (a := (n + 2) % 3) (b := 2) (by omega) (by omega))]
        exact ⟨true, fun q => absurd q h3, rfl, rfl⟩
theorem tup_01 (b : Bool) : ¬ ¬ (bI b = 0 ∨ bI b = 1) := fun q => q (bI_01 b)
theorem pass_T {W Hh k r n P : Nat} {st : Int32} {pn mtr : Int32} {nR : Nat} {sam msam mreads : Nat → Int32} {c : CA} {A : RA} {s : (Int32 × (Nat → Int32))} {m : MT} (hW : W ≤ 16) (hH : Hh ≤ 16) (hk : k < 3) (hn : n < 43) (hP15 : P ≤ 15) (hP : (n + 2) / 3 + 1 ≤ P) (hpn : pn = nI n) (hM : SAM W Hh sam msam)
    (h : PS W Hh P n c A) (hT : TT pn nR (Phi W Hh c + (r + 4)) s m) :
    ∃ (g : Bool) (rw : Bool) (c' : CA) (A' : RA) (s' : (Int32 × (Nat → Int32))) (m' : MT),
      f_WT_goThrough (nI P) c.1 c.2.1 c.2.2 (nI W) (nI Hh) st (nI k) (nI (W + 2)) s.1 pn sam s.2 ((W + 2) * (Hh + 2)) ((W + 2) * (Hh + 2)) ((W + 2) * (Hh + 2)) ((W + 2) * (Hh + 2)) nR (nI n) = some (bI g, nI (P - 1 - (n + 2) / 3), bI rw, c'.1, c'.2.1, c'.2.2, s'.1, s'.2)
      ∧ f_M_go (nI W) (nI Hh) st (nI k) m.1 mtr 0 m.2.1 m.2.2.1 msam m.2.2.2.1 m.2.2.2.2.1 m.2.2.2.2.2 mreads A.1 A.2.1 A.2.2.1 A.2.2.2.1 A.2.2.2.2.1 A.2.2.2.2.2 256 12000 12000 12000 12000 256 256 256 256 256 256 (nI n) (nI P) = some (bI g, m'.1, m'.2.1, m'.2.2.1, nI (P - 1 - (n + 2) / 3), nI n, bI rw, m'.2.2.2.1, m'.2.2.2.2.1, m'.2.2.2.2.2, A'.1, A'.2.1, A'.2.2.1, A'.2.2.2.1, A'.2.2.2.2.1, A'.2.2.2.2.2)
      ∧ AL W Hh ((n + 2) % 3 + 1) (P - 1 - (n + 2) / 3) c' A' ∧ TT pn nR (Phi W Hh c' + (if (n + 2) % 3 = 2 then r else r + 4)) s' m' := by
  obtain ⟨rw, hrw, w1, w2⟩ := raw_ok (st := st) hn
  obtain ⟨k1, k2⟩ := kd_tab n hn
  have hpl := pl_tab P (by omega) n hn hP
  obtain ⟨w, se', e1, hA⟩ := PS_clr hW hH hn hP15 hP h
  obtain ⟨v, c1, A1, s1, m1, e2, e3, hA1, hT1⟩ := tLoop_T (κ := (n + 2) % 3) (rw := rw) (st := st) (k := k) (r := r + 4) (mtr := mtr) (mreads := mreads) hW hH hk (show P - 1 - (n + 2) / 3 < 15 by omega) (by omega) hrw k1 hpl hM 4 0 kBig kBig c (A.1, A.2.1, A.2.2.1, se', A.2.2.2.2.1, A.2.2.2.2.2) s m (by omega) (by omega) (by decide) (by decide) (AL_WI hA) hT
  rw [show 4 * 0 = 0 from rfl, nI_0] at e2 e3
  dsimp only at e3
  unfold f_WT_goThrough f_M_go
  rw [k1, k2, w1, Option.bind_some, if_neg (tup_01 rw), e2, Option.bind_some, w2, Option.bind_some, if_neg (tup_01 rw), e1, Option.bind_some]
  unfold f_M_walk
  rw [hpl]
  subst hpn
  rw [e3, Option.bind_some, Option.bind_some]
  dsimp only
  by_cases h2 : (n + 2) % 3 = 2
  · rw [if_pos h2]
    rw [h2, if_pos (show nI 2 = (2 : Int32) from rfl), if_neg (show ¬ nI 2 < (2 : Int32) by decide)]
    have hst : f_K_hasStyle st 16 = f_M_has st 16 := rfl
    rw [hst]
    by_cases h16 : f_M_has st 16 = 0
    · rw [if_pos h16, if_pos h16]
      exact ⟨true, rw, c1, A1, s1, m1, rfl, rfl, by rw [h2] at hA1; exact hA1, TT_le hT1 (by omega)⟩
    · rw [if_neg h16, if_neg h16]
      obtain ⟨g, s2, m2, f1, f2, hT2⟩ := marks_T (r := Phi W Hh c1 + r) (mtr := mtr) (mreads := mreads) (sam := sam) (msam := msam) hT1
      rw [f1, Option.bind_some, f2, Option.bind_some]
      dsimp only
      refine ⟨g, rw, c1, A1, s2, m2, ?_, ?_, by rw [h2] at hA1; exact hA1, hT2⟩
      · cases g
        · rw [if_pos bI_ff]; rfl
        · rw [if_neg (show ¬ bI true = 0 by decide)]; rfl
      · cases g
        · rw [if_pos bI_ff]; rfl
        · rw [if_neg (show ¬ bI true = 0 by decide)]; rfl
  · rw [if_neg h2]
    rw [if_neg (show ¬ nI ((n + 2) % 3) = (2 : Int32) from fun q => h2 ((nI_eq (by omega) (by decide)).mp (show nI ((n + 2) % 3) = nI 2 from q))), if_pos (show nI ((n + 2) % 3) < (2 : Int32) from nI_lt (a := (n + 2) % 3) (b := 2) (by omega) (by omega))]
    exact ⟨true, rw, c1, A1, s1, m1, rfl, rfl, hA1, hT1⟩
theorem pass_L {W Hh k r n P : Nat} {st : Int32} {pn lcn mtr : Int32} {wor msam mreads : Nat → Int32} {m0 : MT} {c : CA} {A : RA} {s : (Int32 × Int32)} {m : MT} (hW : W ≤ 16) (hH : Hh ≤ 16) (hk : k < 3) (hn : n < 43) (hP15 : P ≤ 15) (hP : (n + 2) / 3 + 1 ≤ P) (hpn : pn = nI n) 
    (h : PS W Hh P n c A) (hT : TL lcn wor mtr mreads m0 (Phi W Hh c + (r + 4)) s m) :
    ∃ (g : Bool) (rw : Bool) (c' : CA) (A' : RA) (s' : (Int32 × Int32)) (m' : MT),
      f_WL_goThrough (nI P) c.1 c.2.1 c.2.2 (nI W) (nI Hh) st (nI k) (nI (W + 2)) lcn s.1 s.2 wor ((W + 2) * (Hh + 2)) ((W + 2) * (Hh + 2)) ((W + 2) * (Hh + 2)) 376 (nI n) = some (bI g, nI (P - 1 - (n + 2) / 3), bI rw, c'.1, c'.2.1, c'.2.2, s'.1, s'.2)
      ∧ f_M_go (nI W) (nI Hh) st (nI k) m.1 mtr 1 m.2.1 m.2.2.1 msam m.2.2.2.1 m.2.2.2.2.1 m.2.2.2.2.2 mreads A.1 A.2.1 A.2.2.1 A.2.2.2.1 A.2.2.2.2.1 A.2.2.2.2.2 256 12000 12000 12000 12000 256 256 256 256 256 256 (nI n) (nI P) = some (bI g, m'.1, m'.2.1, m'.2.2.1, nI (P - 1 - (n + 2) / 3), nI n, bI rw, m'.2.2.2.1, m'.2.2.2.2.1, m'.2.2.2.2.2, A'.1, A'.2.1, A'.2.2.1, A'.2.2.2.1, A'.2.2.2.2.1, A'.2.2.2.2.2)
      ∧ AL W Hh ((n + 2) % 3 + 1) (P - 1 - (n + 2) / 3) c' A' ∧ TL lcn wor mtr mreads m0 (Phi W Hh c' + (if (n + 2) % 3 = 2 then r else r + 4)) s' m' := by
  obtain ⟨rw, hrw, w1, w2⟩ := raw_ok (st := st) hn
  obtain ⟨k1, k2⟩ := kd_tab n hn
  have hpl := pl_tab P (by omega) n hn hP
  obtain ⟨w, se', e1, hA⟩ := PS_clr hW hH hn hP15 hP h
  obtain ⟨v, c1, A1, s1, m1, e2, e3, hA1, hT1⟩ := tLoop_L (κ := (n + 2) % 3) (rw := rw) (st := st) (k := k) (r := r + 4) (pn := pn) (msam := msam) hW hH hk (show P - 1 - (n + 2) / 3 < 15 by omega) (by omega) hrw k1 hpl  4 0 kBig kBig c (A.1, A.2.1, A.2.2.1, se', A.2.2.2.2.1, A.2.2.2.2.2) s m (by omega) (by omega) (by decide) (by decide) (AL_WI hA) hT
  rw [show 4 * 0 = 0 from rfl, nI_0] at e2 e3
  dsimp only at e3
  unfold f_WL_goThrough f_M_go
  rw [k1, k2, w1, Option.bind_some, if_neg (tup_01 rw), e2, Option.bind_some, w2, Option.bind_some, if_neg (tup_01 rw), e1, Option.bind_some]
  unfold f_M_walk
  rw [hpl]
  subst hpn
  rw [e3, Option.bind_some, Option.bind_some]
  dsimp only
  by_cases h2 : (n + 2) % 3 = 2
  · rw [if_pos h2]
    rw [h2, if_pos (show nI 2 = (2 : Int32) from rfl), if_neg (show ¬ nI 2 < (2 : Int32) by decide)]
    have hst : f_K_hasStyle st 16 = f_M_has st 16 := rfl
    rw [hst]
    by_cases h16 : f_M_has st 16 = 0
    · rw [if_pos h16, if_pos h16]
      exact ⟨true, rw, c1, A1, s1, m1, rfl, rfl, by rw [h2] at hA1; exact hA1, TL_le hT1 (by omega)⟩
    · rw [if_neg h16, if_neg h16]
      obtain ⟨g, s2, m2, f1, f2, hT2⟩ := marks_L (r := Phi W Hh c1 + r) (pn := nI n) (msam := msam) hT1
      rw [f1, Option.bind_some, f2, Option.bind_some]
      dsimp only
      refine ⟨g, rw, c1, A1, s2, m2, ?_, ?_, by rw [h2] at hA1; exact hA1, hT2⟩
      · cases g
        · rw [if_pos bI_ff]; rfl
        · rw [if_neg (show ¬ bI true = 0 by decide)]; rfl
      · cases g
        · rw [if_pos bI_ff]; rfl
        · rw [if_neg (show ¬ bI true = 0 by decide)]; rfl
  · rw [if_neg h2]
    rw [if_neg (show ¬ nI ((n + 2) % 3) = (2 : Int32) from fun q => h2 ((nI_eq (by omega) (by decide)).mp (show nI ((n + 2) % 3) = nI 2 from q))), if_pos (show nI ((n + 2) % 3) < (2 : Int32) from nI_lt (a := (n + 2) % 3) (b := 2) (by omega) (by omega))]
    exact ⟨true, rw, c1, A1, s1, m1, rfl, rfl, hA1, hT1⟩

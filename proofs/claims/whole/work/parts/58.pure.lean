/-! PURE: a pass over the block -/
def AL (W Hh k p : Nat) (c : CA) (A : RA) : Prop :=
  SG W Hh c.1 A.2.2.1 A.2.1 ∧ (∀ x' y', x' < W → y' < Hh → c.2.1 (ic W x' y') = A.1 (ir x' y') ∧ c.2.2 (ic W x' y') = A.2.2.2.2.2 (ir x' y') ∧
    CK k p (A.2.2.1 (ir x' y')) (A.2.1 (ir x' y')) (A.1 (ir x' y')) (A.2.2.2.2.2 (ir x' y')) (A.2.2.2.1 (ir x' y')) (A.2.2.2.2.1 (ir x' y'))) ∧ OZ W Hh c.2.1 A.1
theorem AL_WI {W Hh k p : Nat} {c : CA} {A : RA} (h : AL W Hh k p c A) : WI W Hh k p 0 0 0 c A := by
  refine ⟨h.1, fun x' y' hx' hy' => ?_, h.2.2⟩
  rw [show vis 0 0 0 x' y' = 0 from if_neg (by omega)]
  exact h.2.1 x' y' hx' hy'
theorem WI_AL {W Hh k p t : Nat} {c : CA} {A : RA} (h : WI W Hh k p t 0 t c A) (ht : Hh ≤ t) : AL W Hh (k + 1) p c A := by
  refine ⟨h.1, fun x' y' hx' hy' => ?_, h.2.2⟩
  have := h.2.1 x' y' hx' hy'
  rw [show vis t 0 t x' y' = 1 from if_pos (by omega)] at this
  exact this
theorem WI_vis {W Hh κ p top x y top' x2 y2 : Nat} {c : CA} {A : RA} (h : WI W Hh κ p top x y c A) (hv : ∀ x' y', x' < W → y' < Hh → ((y' < top ∨ (y' < top + 4 ∧ (x' < x ∨ (x' = x ∧ y' < y)))) ↔ (y' < top' ∨ (y' < top' + 4 ∧ (x' < x2 ∨ (x' = x2 ∧ y' < y2)))))) : WI W Hh κ p top' x2 y2 c A := by
  refine ⟨h.1, fun x' y' hx' hy' => ?_, h.2.2⟩
  have h1 := h.2.1 x' y' hx' hy'
  have : vis top x y x' y' = vis top' x2 y2 x' y' := by
    unfold vis
    by_cases h4 : (y' < top ∨ (y' < top + 4 ∧ (x' < x ∨ (x' = x ∧ y' < y))))
    · rw [if_pos h4, if_pos ((hv x' y' hx' hy').mp h4)]
    · rw [if_neg h4, if_neg (fun q => h4 ((hv x' y' hx' hy').mpr q))]
  rw [this] at h1
  exact h1
theorem kmin_bot {top Hh : Nat} (h : top < Hh) (hH : Hh ≤ 16) : ∃ bot, kmin (nI top + 4) (nI Hh) = nI bot ∧ bot ≤ Hh ∧ bot ≤ top + 4 ∧ (bot = top + 4 ∨ bot = Hh) ∧ top < bot := by
  unfold kmin
  rw [show nI top + (4 : Int32) = nI (top + 4) from nI_add top 4]
  by_cases hq : Hh < top + 4
  · rw [if_pos (nI_lt hq (by omega))]; exact ⟨Hh, rfl, by omega, by omega, .inr rfl, by omega⟩
  · rw [if_neg (nI_nlt (by omega) (by omega))]; exact ⟨top + 4, rfl, by omega, by omega, .inl rfl, by omega⟩
theorem xStep_T {W Hh x t p k r n P κ : Nat} {st : Int32} {rw : Bool} {pn mtr : Int32} {nR : Nat} {sam msam mreads : Nat → Int32} {c : CA} {A : RA} {s : (Int32 × (Nat → Int32))} {m : MT} (hW : W ≤ 16) (hH : Hh ≤ 16) (hk : k < 3) (hp : p < 15) (hx : x < W) (ht : 4 * t < Hh) (hκ : κ < 3) (hrw : κ = 2 → rw = false)
    (hkd : f_ST_kindOf (nI n) = nI κ) (hpl : ((nI P - (1 : Int32)) - ((nI n + (2 : Int32)) / (3 : Int32))) = nI p) (hM : SAM W Hh sam msam)
    (h : WI W Hh κ p (4 * t) x (4 * t) c A) (hT : TT pn nR (Phi W Hh c + r) s m) :
    ∃ (c' : CA) (A' : RA) (s' : (Int32 × (Nat → Int32))) (m' : MT), (∀ N, f_WT_goThrough_L83 (nI P) (nI W) (nI Hh) st (nI k) (nI (W + 2)) pn sam ((W + 2) * (Hh + 2)) ((W + 2) * (Hh + 2)) ((W + 2) * (Hh + 2)) ((W + 2) * (Hh + 2)) nR (nI n) (bI rw) (nI (4 * t)) (N + 1) (nI (x)) c.1 c.2.1 c.2.2 s.1 s.2 = f_WT_goThrough_L83 (nI P) (nI W) (nI Hh) st (nI k) (nI (W + 2)) pn sam ((W + 2) * (Hh + 2)) ((W + 2) * (Hh + 2)) ((W + 2) * (Hh + 2)) ((W + 2) * (Hh + 2)) nR (nI n) (bI rw) (nI (4 * t)) N (nI (x + 1)) c'.1 c'.2.1 c'.2.2 s'.1 s'.2) ∧ (∀ N, f_M_walk_L12 (nI W) (nI Hh) st (nI k) mtr 0 (nI p) pn (bI rw) msam mreads 256 12000 12000 12000 12000 256 256 256 256 256 256 (nI κ) (nI (4 * t)) (N + 1) (nI (x)) m.1 m.2.1 m.2.2.1 m.2.2.2.1 m.2.2.2.2.1 m.2.2.2.2.2 A.1 A.2.1 A.2.2.1 A.2.2.2.1 A.2.2.2.2.1 A.2.2.2.2.2 = f_M_walk_L12 (nI W) (nI Hh) st (nI k) mtr 0 (nI p) pn (bI rw) msam mreads 256 12000 12000 12000 12000 256 256 256 256 256 256 (nI κ) (nI (4 * t)) N (nI (x + 1)) m'.1 m'.2.1 m'.2.2.1 m'.2.2.2.1 m'.2.2.2.2.1 m'.2.2.2.2.2 A'.1 A'.2.1 A'.2.2.1 A'.2.2.2.1 A'.2.2.2.2.1 A'.2.2.2.2.2) ∧ WI W Hh κ p (4 * t) (x + 1) (4 * t) c' A' ∧ TT pn nR (Phi W Hh c' + r) s' m' := by
  obtain ⟨bot, hk1, hbH, hb4, hbe, htb⟩ := kmin_bot ht hH
  have b1 : ¬ nI W ≤ nI x := nI_ge hx (by omega)
  have hv : ∀ x' y', x' < W → y' < Hh → ((y' < 4 * t ∨ (y' < 4 * t + 4 ∧ (x' < x ∨ (x' = x ∧ y' < bot)))) ↔ (y' < 4 * t ∨ (y' < 4 * t + 4 ∧ (x' < x + 1 ∨ (x' = x + 1 ∧ y' < 4 * t))))) := by
    intro x' y' _ _; omega
  rcases (show κ = 0 ∨ κ = 1 ∨ κ = 2 by omega) with rfl | rfl | rfl
  · obtain ⟨c', A', s', m', e1, e2, h', hT'⟩ := findCol_T (bot := bot) (r := r) (rw := rw) (st := st) (k := k) (mtr := mtr) (mreads := mreads) hW hH hk hp hx hbH hb4 hbe hM (bot - 4 * t) (4 * t) kBig kBig c A s m (by omega) (Nat.le_refl _) (by unfold kBig; omega) (by unfold kBig; omega) h hT
    refine ⟨c', A', s', m', ?_, ?_, WI_vis h' hv, hT'⟩
    · intro N
      rw [f_WT_goThrough_L83, if_neg b1, hkd, if_pos nI_0, hpl, hk1]
      unfold f_WT_findColumn
      rw [e1, Option.bind_some, Option.bind_some, Option.bind_some, nI_1]
    · intro N
      rw [f_M_walk_L12, if_neg b1, if_neg (show ¬ nI 0 = (2 : Int32) by decide), Option.bind_some, show nI 0 = (0 : Int32) from nI_0]
      dsimp only
      rw [e2, Option.bind_some, nI_1]
  · obtain ⟨c', A', s', m', e0, e1, e2, h', hT'⟩ := refCol_T (bot := bot) (r := r) (rw := rw) (st := st) (k := k) (mtr := mtr) (mreads := mreads) hW hH hk hp hx hbH hb4 hbe hM (bot - 4 * t) (4 * t) kBig kBig c A s m (by omega) (Nat.le_refl _) (by unfold kBig; omega) (by unfold kBig; omega) h hT
    refine ⟨c', A', s', m', ?_, ?_, WI_vis h' hv, hT'⟩
    · intro N
      rw [f_WT_goThrough_L83, if_neg b1, hkd, if_neg (show ¬ nI 1 = 0 by decide), if_pos (show nI 1 = (1 : Int32) from rfl), hpl, hk1]
      unfold f_WT_refineColumn
      rw [e1, Option.bind_some, Option.bind_some, Option.bind_some, nI_1, e0]
    · intro N
      rw [f_M_walk_L12, if_neg b1, if_neg (show ¬ nI 1 = (2 : Int32) by decide), Option.bind_some, show nI 1 = (1 : Int32) from rfl]
      dsimp only
      rw [e2, Option.bind_some, nI_1]
  · obtain rfl := hrw rfl
    obtain ⟨c', A', s', m', g1, g2, e1, e2, h', hT'⟩ := cleanAll_T (bot := bot) (r := r) (st := st) (k := k) (mtr := mtr) (mreads := mreads) hW hH hk hp hx ht hbH hb4 hbe hM h hT
    refine ⟨c', A', s', m', ?_, ?_, WI_vis h' hv, hT'⟩
    · intro N
      rw [f_WT_goThrough_L83, if_neg b1, hkd, if_neg (show ¬ nI 2 = 0 by decide), if_neg (show ¬ nI 2 = (1 : Int32) by decide), hpl, hk1, e1, Option.bind_some, Option.bind_some, nI_1]
    · intro N
      rw [f_M_walk_L12, if_neg b1, if_pos (show nI 2 = (2 : Int32) from rfl), e2, Option.bind_some, Option.bind_some]
      dsimp only
      rw [show kBig = 99999 + 1 from rfl, f_M_walk_L34, if_neg (show ¬ nI (4 * t) + 4 ≤ nI (4 * t) by rw [show nI (4 * t) + (4 : Int32) = nI (4 * t + 4) from nI_add (4 * t) 4]; exact nI_ge (by omega) (by omega)), if_neg (nI_ge ht (by omega)), if_pos (show (2 : Int32) ≤ nI 2 by decide), Option.bind_some, nI_1, ← g1, ← g2]
theorem xLoop_T {W Hh t p k r n P κ : Nat} {st : Int32} {rw : Bool} {pn mtr : Int32} {nR : Nat} {sam msam mreads : Nat → Int32} (hW : W ≤ 16) (hH : Hh ≤ 16) (hk : k < 3) (hp : p < 15) (ht : 4 * t < Hh) (hκ : κ < 3) (hrw : κ = 2 → rw = false)
    (hkd : f_ST_kindOf (nI n) = nI κ) (hpl : ((nI P - (1 : Int32)) - ((nI n + (2 : Int32)) / (3 : Int32))) = nI p) (hM : SAM W Hh sam msam) :
    ∀ (d x N N' : Nat) (c : CA) (A : RA) (s : (Int32 × (Nat → Int32))) (m : MT), x + d = W → d < N → d < N' → WI W Hh κ p (4 * t) x (4 * t) c A → TT pn nR (Phi W Hh c + r) s m →
    ∃ (c' : CA) (A' : RA) (s' : (Int32 × (Nat → Int32))) (m' : MT), f_WT_goThrough_L83 (nI P) (nI W) (nI Hh) st (nI k) (nI (W + 2)) pn sam ((W + 2) * (Hh + 2)) ((W + 2) * (Hh + 2)) ((W + 2) * (Hh + 2)) ((W + 2) * (Hh + 2)) nR (nI n) (bI rw) (nI (4 * t)) N (nI (x)) c.1 c.2.1 c.2.2 s.1 s.2 = some (nI W, c'.1, c'.2.1, c'.2.2, s'.1, s'.2) ∧ f_M_walk_L12 (nI W) (nI Hh) st (nI k) mtr 0 (nI p) pn (bI rw) msam mreads 256 12000 12000 12000 12000 256 256 256 256 256 256 (nI κ) (nI (4 * t)) N' (nI (x)) m.1 m.2.1 m.2.2.1 m.2.2.2.1 m.2.2.2.2.1 m.2.2.2.2.2 A.1 A.2.1 A.2.2.1 A.2.2.2.1 A.2.2.2.2.1 A.2.2.2.2.2 = some (nI W, m'.1, m'.2.1, m'.2.2.1, m'.2.2.2.1, m'.2.2.2.2.1, m'.2.2.2.2.2, A'.1, A'.2.1, A'.2.2.1, A'.2.2.2.1, A'.2.2.2.2.1, A'.2.2.2.2.2) ∧ WI W Hh κ p (4 * t) W (4 * t) c' A' ∧ TT pn nR (Phi W Hh c' + r) s' m' := by
  intro d
  induction d with
  | zero =>
    intro x N N' c A s m hd hN hN' h hT
    obtain rfl : x = W := by omega
    obtain ⟨N, rfl⟩ : ∃ q, N = q + 1 := ⟨N - 1, by omega⟩
    obtain ⟨N', rfl⟩ : ∃ q, N' = q + 1 := ⟨N' - 1, by omega⟩
    refine ⟨c, A, s, m, ?_, ?_, h, hT⟩
    · rw [f_WT_goThrough_L83, if_pos (nI_le (Nat.le_refl _) (by omega))]
    · rw [f_M_walk_L12, if_pos (nI_le (Nat.le_refl _) (by omega))]
  | succ d ih =>
    intro x N N' c A s m hd hN hN' h hT
    obtain ⟨N, rfl⟩ : ∃ q, N = q + 1 := ⟨N - 1, by omega⟩
    obtain ⟨N', rfl⟩ : ∃ q, N' = q + 1 := ⟨N' - 1, by omega⟩
    obtain ⟨c1, A1, s1, m1, e1, e2, h1, hT1⟩ := xStep_T (r := r) (st := st) (rw := rw) (k := k) (mtr := mtr) (mreads := mreads) hW hH hk hp (by omega) ht hκ hrw hkd hpl hM h hT
    rw [e1, e2]
    exact ih (x + 1) N N' c1 A1 s1 m1 (by omega) (by omega) (by omega) h1 hT1
theorem tLoop_T {W Hh p k r n P κ : Nat} {st : Int32} {rw : Bool} {pn mtr : Int32} {nR : Nat} {sam msam mreads : Nat → Int32} (hW : W ≤ 16) (hH : Hh ≤ 16) (hk : k < 3) (hp : p < 15) (hκ : κ < 3) (hrw : κ = 2 → rw = false)
    (hkd : f_ST_kindOf (nI n) = nI κ) (hpl : ((nI P - (1 : Int32)) - ((nI n + (2 : Int32)) / (3 : Int32))) = nI p) (hM : SAM W Hh sam msam) :
    ∀ (d t N N' : Nat) (c : CA) (A : RA) (s : (Int32 × (Nat → Int32))) (m : MT), Hh ≤ 4 * (t + d) → 4 * t < 100 → d < N → d < N' → WI W Hh κ p (4 * t) 0 (4 * t) c A → TT pn nR (Phi W Hh c + r) s m →
    ∃ (v : Int32) (c' : CA) (A' : RA) (s' : (Int32 × (Nat → Int32))) (m' : MT), f_WT_goThrough_L54 (nI P) (nI W) (nI Hh) st (nI k) (nI (W + 2)) pn sam ((W + 2) * (Hh + 2)) ((W + 2) * (Hh + 2)) ((W + 2) * (Hh + 2)) ((W + 2) * (Hh + 2)) nR (nI n) (bI rw) N (nI (4 * t)) c.1 c.2.1 c.2.2 s.1 s.2 = some (v, c'.1, c'.2.1, c'.2.2, s'.1, s'.2) ∧ f_M_walk_L2 (nI W) (nI Hh) st (nI k) mtr 0 (nI p) pn (bI rw) msam mreads 256 12000 12000 12000 12000 256 256 256 256 256 256 (nI κ) N' (nI (4 * t)) m.1 m.2.1 m.2.2.1 m.2.2.2.1 m.2.2.2.2.1 m.2.2.2.2.2 A.1 A.2.1 A.2.2.1 A.2.2.2.1 A.2.2.2.2.1 A.2.2.2.2.2 = some (v, m'.1, m'.2.1, m'.2.2.1, m'.2.2.2.1, m'.2.2.2.2.1, m'.2.2.2.2.2, A'.1, A'.2.1, A'.2.2.1, A'.2.2.2.1, A'.2.2.2.2.1, A'.2.2.2.2.2) ∧ AL W Hh (κ + 1) p c' A' ∧ TT pn nR (Phi W Hh c' + r) s' m' := by
  intro d
  induction d with
  | zero =>
    intro t N N' c A s m hd h100 hN hN' h hT
    obtain ⟨N, rfl⟩ : ∃ q, N = q + 1 := ⟨N - 1, by omega⟩
    obtain ⟨N', rfl⟩ : ∃ q, N' = q + 1 := ⟨N' - 1, by omega⟩
    refine ⟨nI (4 * t), c, A, s, m, ?_, ?_, WI_AL h (by omega), hT⟩
    · rw [f_WT_goThrough_L54, if_pos (nI_le (by omega) (by omega))]
    · rw [f_M_walk_L2, if_pos (nI_le (by omega) (by omega))]
  | succ d ih =>
    intro t N N' c A s m hd h100 hN hN' h hT
    obtain ⟨N, rfl⟩ : ∃ q, N = q + 1 := ⟨N - 1, by omega⟩
    obtain ⟨N', rfl⟩ : ∃ q, N' = q + 1 := ⟨N' - 1, by omega⟩
    by_cases ht : Hh ≤ 4 * t
    · refine ⟨nI (4 * t), c, A, s, m, ?_, ?_, WI_AL h (by omega), hT⟩
      · rw [f_WT_goThrough_L54, if_pos (nI_le (by omega) (by omega))]
      · rw [f_M_walk_L2, if_pos (nI_le (by omega) (by omega))]
    · obtain ⟨c1, A1, s1, m1, e1, e2, h1, hT1⟩ := xLoop_T (t := t) (r := r) (st := st) (rw := rw) (k := k) (mtr := mtr) (mreads := mreads) hW hH hk hp (by omega) hκ hrw hkd hpl hM W 0 kBig kBig c A s m (by omega) (by unfold kBig; omega) (by unfold kBig; omega) h hT
      rw [nI_0] at e1 e2
      rw [f_WT_goThrough_L54, if_neg (nI_ge (by omega) (by omega)), e1, Option.bind_some, f_M_walk_L2, if_neg (nI_ge (by omega) (by omega)), e2, Option.bind_some]
      dsimp only
      rw [show nI (4 * t) + (4 : Int32) = nI (4 * (t + 1)) from nI_add (4 * t) 4]
      refine ih (t + 1) N N' c1 A1 s1 m1 (by omega) (by omega) (by omega) (by omega) (WI_vis h1 ?_) hT1
      intro x' y' _ _; omega
theorem xStep_L {W Hh x t p k r n P κ : Nat} {st : Int32} {rw : Bool} {pn lcn mtr : Int32} {wor msam mreads : Nat → Int32} {m0 : MT} {c : CA} {A : RA} {s : (Int32 × Int32)} {m : MT} (hW : W ≤ 16) (hH : Hh ≤ 16) (hk : k < 3) (hp : p < 15) (hx : x < W) (ht : 4 * t < Hh) (hκ : κ < 3) (hrw : κ = 2 → rw = false)
    (hkd : f_ST_kindOf (nI n) = nI κ) (hpl : ((nI P - (1 : Int32)) - ((nI n + (2 : Int32)) / (3 : Int32))) = nI p) 
    (h : WI W Hh κ p (4 * t) x (4 * t) c A) (hT : TL lcn wor mtr mreads m0 (Phi W Hh c + r) s m) :
    ∃ (c' : CA) (A' : RA) (s' : (Int32 × Int32)) (m' : MT), (∀ N, f_WL_goThrough_L83 (nI P) (nI W) (nI Hh) st (nI k) (nI (W + 2)) lcn wor ((W + 2) * (Hh + 2)) ((W + 2) * (Hh + 2)) ((W + 2) * (Hh + 2)) 376 (nI n) (bI rw) (nI (4 * t)) (N + 1) (nI (x)) c.1 c.2.1 c.2.2 s.1 s.2 = f_WL_goThrough_L83 (nI P) (nI W) (nI Hh) st (nI k) (nI (W + 2)) lcn wor ((W + 2) * (Hh + 2)) ((W + 2) * (Hh + 2)) ((W + 2) * (Hh + 2)) 376 (nI n) (bI rw) (nI (4 * t)) N (nI (x + 1)) c'.1 c'.2.1 c'.2.2 s'.1 s'.2) ∧ (∀ N, f_M_walk_L12 (nI W) (nI Hh) st (nI k) mtr 1 (nI p) pn (bI rw) msam mreads 256 12000 12000 12000 12000 256 256 256 256 256 256 (nI κ) (nI (4 * t)) (N + 1) (nI (x)) m.1 m.2.1 m.2.2.1 m.2.2.2.1 m.2.2.2.2.1 m.2.2.2.2.2 A.1 A.2.1 A.2.2.1 A.2.2.2.1 A.2.2.2.2.1 A.2.2.2.2.2 = f_M_walk_L12 (nI W) (nI Hh) st (nI k) mtr 1 (nI p) pn (bI rw) msam mreads 256 12000 12000 12000 12000 256 256 256 256 256 256 (nI κ) (nI (4 * t)) N (nI (x + 1)) m'.1 m'.2.1 m'.2.2.1 m'.2.2.2.1 m'.2.2.2.2.1 m'.2.2.2.2.2 A'.1 A'.2.1 A'.2.2.1 A'.2.2.2.1 A'.2.2.2.2.1 A'.2.2.2.2.2) ∧ WI W Hh κ p (4 * t) (x + 1) (4 * t) c' A' ∧ TL lcn wor mtr mreads m0 (Phi W Hh c' + r) s' m' := by
  obtain ⟨bot, hk1, hbH, hb4, hbe, htb⟩ := kmin_bot ht hH
  have b1 : ¬ nI W ≤ nI x := nI_ge hx (by omega)
  have hv : ∀ x' y', x' < W → y' < Hh → ((y' < 4 * t ∨ (y' < 4 * t + 4 ∧ (x' < x ∨ (x' = x ∧ y' < bot)))) ↔ (y' < 4 * t ∨ (y' < 4 * t + 4 ∧ (x' < x + 1 ∨ (x' = x + 1 ∧ y' < 4 * t))))) := by
    intro x' y' _ _; omega
  rcases (show κ = 0 ∨ κ = 1 ∨ κ = 2 by omega) with rfl | rfl | rfl
  · obtain ⟨c', A', s', m', e1, e2, h', hT'⟩ := findCol_L (bot := bot) (r := r) (rw := rw) (st := st) (k := k) (pn := pn) (msam := msam) hW hH hk hp hx hbH hb4 hbe  (bot - 4 * t) (4 * t) kBig kBig c A s m (by omega) (Nat.le_refl _) (by unfold kBig; omega) (by unfold kBig; omega) h hT
    refine ⟨c', A', s', m', ?_, ?_, WI_vis h' hv, hT'⟩
    · intro N
      rw [f_WL_goThrough_L83, if_neg b1, hkd, if_pos nI_0, hpl, hk1]
      unfold f_WL_findColumn
      rw [e1, Option.bind_some, Option.bind_some, Option.bind_some, nI_1]
    · intro N
      rw [f_M_walk_L12, if_neg b1, if_neg (show ¬ nI 0 = (2 : Int32) by decide), Option.bind_some, show nI 0 = (0 : Int32) from nI_0]
      dsimp only
      rw [e2, Option.bind_some, nI_1]
  · obtain ⟨c', A', s', m', e0, e1, e2, h', hT'⟩ := refCol_L (bot := bot) (r := r) (rw := rw) (st := st) (k := k) (pn := pn) (msam := msam) hW hH hk hp hx hbH hb4 hbe  (bot - 4 * t) (4 * t) kBig kBig c A s m (by omega) (Nat.le_refl _) (by unfold kBig; omega) (by unfold kBig; omega) h hT
    refine ⟨c', A', s', m', ?_, ?_, WI_vis h' hv, hT'⟩
    · intro N
      rw [f_WL_goThrough_L83, if_neg b1, hkd, if_neg (show ¬ nI 1 = 0 by decide), if_pos (show nI 1 = (1 : Int32) from rfl), hpl, hk1]
      unfold f_WL_refineColumn
      rw [e1, Option.bind_some, Option.bind_some, Option.bind_some, nI_1, e0]
    · intro N
      rw [f_M_walk_L12, if_neg b1, if_neg (show ¬ nI 1 = (2 : Int32) by decide), Option.bind_some, show nI 1 = (1 : Int32) from rfl]
      dsimp only
      rw [e2, Option.bind_some, nI_1]
  · obtain rfl := hrw rfl
    obtain ⟨c', A', s', m', g1, g2, e1, e2, h', hT'⟩ := cleanAll_L (bot := bot) (r := r) (st := st) (k := k) (pn := pn) (msam := msam) hW hH hk hp hx ht hbH hb4 hbe  h hT
    refine ⟨c', A', s', m', ?_, ?_, WI_vis h' hv, hT'⟩
    · intro N
      rw [f_WL_goThrough_L83, if_neg b1, hkd, if_neg (show ¬ nI 2 = 0 by decide), if_neg (show ¬ nI 2 = (1 : Int32) by decide), hpl, hk1, e1, Option.bind_some, Option.bind_some, nI_1]
    · intro N
      rw [f_M_walk_L12, if_neg b1, if_pos (show nI 2 = (2 : Int32) from rfl), e2, Option.bind_some, Option.bind_some]
      dsimp only
      rw [show kBig = 99999 + 1 from rfl, f_M_walk_L34, if_neg (show ¬ nI (4 * t) + 4 ≤ nI (4 * t) by rw [show nI (4 * t) + (4 : Int32) = nI (4 * t + 4) from nI_add (4 * t) 4]; exact nI_ge (by omega) (by omega)), if_neg (nI_ge ht (by omega)), if_pos (show (2 : Int32) ≤ nI 2 by decide), Option.bind_some, nI_1, ← g1, ← g2]
theorem xLoop_L {W Hh t p k r n P κ : Nat} {st : Int32} {rw : Bool} {pn lcn mtr : Int32} {wor msam mreads : Nat → Int32} {m0 : MT} (hW : W ≤ 16) (hH : Hh ≤ 16) (hk : k < 3) (hp : p < 15) (ht : 4 * t < Hh) (hκ : κ < 3) (hrw : κ = 2 → rw = false)
    (hkd : f_ST_kindOf (nI n) = nI κ) (hpl : ((nI P - (1 : Int32)) - ((nI n + (2 : Int32)) / (3 : Int32))) = nI p)  :
    ∀ (d x N N' : Nat) (c : CA) (A : RA) (s : (Int32 × Int32)) (m : MT), x + d = W → d < N → d < N' → WI W Hh κ p (4 * t) x (4 * t) c A → TL lcn wor mtr mreads m0 (Phi W Hh c + r) s m →
    ∃ (c' : CA) (A' : RA) (s' : (Int32 × Int32)) (m' : MT), f_WL_goThrough_L83 (nI P) (nI W) (nI Hh) st (nI k) (nI (W + 2)) lcn wor ((W + 2) * (Hh + 2)) ((W + 2) * (Hh + 2)) ((W + 2) * (Hh + 2)) 376 (nI n) (bI rw) (nI (4 * t)) N (nI (x)) c.1 c.2.1 c.2.2 s.1 s.2 = some (nI W, c'.1, c'.2.1, c'.2.2, s'.1, s'.2) ∧ f_M_walk_L12 (nI W) (nI Hh) st (nI k) mtr 1 (nI p) pn (bI rw) msam mreads 256 12000 12000 12000 12000 256 256 256 256 256 256 (nI κ) (nI (4 * t)) N' (nI (x)) m.1 m.2.1 m.2.2.1 m.2.2.2.1 m.2.2.2.2.1 m.2.2.2.2.2 A.1 A.2.1 A.2.2.1 A.2.2.2.1 A.2.2.2.2.1 A.2.2.2.2.2 = some (nI W, m'.1, m'.2.1, m'.2.2.1, m'.2.2.2.1, m'.2.2.2.2.1, m'.2.2.2.2.2, A'.1, A'.2.1, A'.2.2.1, A'.2.2.2.1, A'.2.2.2.2.1, A'.2.2.2.2.2) ∧ WI W Hh κ p (4 * t) W (4 * t) c' A' ∧ TL lcn wor mtr mreads m0 (Phi W Hh c' + r) s' m' := by
  intro d
  induction d with
  | zero =>
    intro x N N' c A s m hd hN hN' h hT
    obtain rfl : x = W := by omega
    obtain ⟨N, rfl⟩ : ∃ q, N = q + 1 := ⟨N - 1, by omega⟩
    obtain ⟨N', rfl⟩ : ∃ q, N' = q + 1 := ⟨N' - 1, by omega⟩
    refine ⟨c, A, s, m, ?_, ?_, h, hT⟩
    · rw [f_WL_goThrough_L83, if_pos (nI_le (Nat.le_refl _) (by omega))]
    · rw [f_M_walk_L12, if_pos (nI_le (Nat.le_refl _) (by omega))]
  | succ d ih =>
    intro x N N' c A s m hd hN hN' h hT
    obtain ⟨N, rfl⟩ : ∃ q, N = q + 1 := ⟨N - 1, by omega⟩
    obtain ⟨N', rfl⟩ : ∃ q, N' = q + 1 := ⟨N' - 1, by omega⟩
    obtain ⟨c1, A1, s1, m1, e1, e2, h1, hT1⟩ := xStep_L (r := r) (st := st) (rw := rw) (k := k) (pn := pn) (msam := msam) hW hH hk hp (by omega) ht hκ hrw hkd hpl  h hT
    rw [e1, e2]
    exact ih (x + 1) N N' c1 A1 s1 m1 (by omega) (by omega) (by omega) h1 hT1
theorem tLoop_L {W Hh p k r n P κ : Nat} {st : Int32} {rw : Bool} {pn lcn mtr : Int32} {wor msam mreads : Nat → Int32} {m0 : MT} (hW : W ≤ 16) (hH : Hh ≤ 16) (hk : k < 3) (hp : p < 15) (hκ : κ < 3) (hrw : κ = 2 → rw = false)
    (hkd : f_ST_kindOf (nI n) = nI κ) (hpl : ((nI P - (1 : Int32)) - ((nI n + (2 : Int32)) / (3 : Int32))) = nI p)  :
    ∀ (d t N N' : Nat) (c : CA) (A : RA) (s : (Int32 × Int32)) (m : MT), Hh ≤ 4 * (t + d) → 4 * t < 100 → d < N → d < N' → WI W Hh κ p (4 * t) 0 (4 * t) c A → TL lcn wor mtr mreads m0 (Phi W Hh c + r) s m →
    ∃ (v : Int32) (c' : CA) (A' : RA) (s' : (Int32 × Int32)) (m' : MT), f_WL_goThrough_L54 (nI P) (nI W) (nI Hh) st (nI k) (nI (W + 2)) lcn wor ((W + 2) * (Hh + 2)) ((W + 2) * (Hh + 2)) ((W + 2) * (Hh + 2)) 376 (nI n) (bI rw) N (nI (4 * t)) c.1 c.2.1 c.2.2 s.1 s.2 = some (v, c'.1, c'.2.1, c'.2.2, s'.1, s'.2) ∧ f_M_walk_L2 (nI W) (nI Hh) st (nI k) mtr 1 (nI p) pn (bI rw) msam mreads 256 12000 12000 12000 12000 256 256 256 256 256 256 (nI κ) N' (nI (4 * t)) m.1 m.2.1 m.2.2.1 m.2.2.2.1 m.2.2.2.2.1 m.2.2.2.2.2 A.1 A.2.1 A.2.2.1 A.2.2.2.1 A.2.2.2.2.1 A.2.2.2.2.2 = some (v, m'.1, m'.2.1, m'.2.2.1, m'.2.2.2.1, m'.2.2.2.2.1, m'.2.2.2.2.2, A'.1, A'.2.1, A'.2.2.1, A'.2.2.2.1, A'.2.2.2.2.1, A'.2.2.2.2.2) ∧ AL W Hh (κ + 1) p c' A' ∧ TL lcn wor mtr mreads m0 (Phi W Hh c' + r) s' m' := by
  intro d
  induction d with
  | zero =>
    intro t N N' c A s m hd h100 hN hN' h hT
    obtain ⟨N, rfl⟩ : ∃ q, N = q + 1 := ⟨N - 1, by omega⟩
    obtain ⟨N', rfl⟩ : ∃ q, N' = q + 1 := ⟨N' - 1, by omega⟩
    refine ⟨nI (4 * t), c, A, s, m, ?_, ?_, WI_AL h (by omega), hT⟩
    · rw [f_WL_goThrough_L54, if_pos (nI_le (by omega) (by omega))]
    · rw [f_M_walk_L2, if_pos (nI_le (by omega) (by omega))]
  | succ d ih =>
    intro t N N' c A s m hd h100 hN hN' h hT
    obtain ⟨N, rfl⟩ : ∃ q, N = q + 1 := ⟨N - 1, by omega⟩
    obtain ⟨N', rfl⟩ : ∃ q, N' = q + 1 := ⟨N' - 1, by omega⟩
    by_cases ht : Hh ≤ 4 * t
    · refine ⟨nI (4 * t), c, A, s, m, ?_, ?_, WI_AL h (by omega), hT⟩
      · rw [f_WL_goThrough_L54, if_pos (nI_le (by omega) (by omega))]
      · rw [f_M_walk_L2, if_pos (nI_le (by omega) (by omega))]
    · obtain ⟨c1, A1, s1, m1, e1, e2, h1, hT1⟩ := xLoop_L (t := t) (r := r) (st := st) (rw := rw) (k := k) (pn := pn) (msam := msam) hW hH hk hp (by omega) hκ hrw hkd hpl  W 0 kBig kBig c A s m (by omega) (by unfold kBig; omega) (by unfold kBig; omega) h hT
      rw [nI_0] at e1 e2
      rw [f_WL_goThrough_L54, if_neg (nI_ge (by omega) (by omega)), e1, Option.bind_some, f_M_walk_L2, if_neg (nI_ge (by omega) (by omega)), e2, Option.bind_some]
      dsimp only
      rw [show nI (4 * t) + (4 : Int32) = nI (4 * (t + 1)) from nI_add (4 * t) 4]
      refine ih (t + 1) N N' c1 A1 s1 m1 (by omega) (by omega) (by omega) (by omega) (WI_vis h1 ?_) hT1
      intro x' y' _ _; omega

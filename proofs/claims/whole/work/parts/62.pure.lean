/-! PURE: encode -/
def np (P : Nat) : Nat := if P = 0 then 0 else 3 * P - 2
theorem np_tab : ∀ P, P < 16 → f_ST_passesOf (nI P) = nI (np P) ∧ f_MS_passesFor (nI P) = nI (np P) := by decide +kernel
theorem np_le {P : Nat} (h : P ≤ 15) : np P ≤ 43 := by unfold np; by_cases hq : P = 0 <;> simp only [hq, ↓reduceIte] <;> omega
theorem np_lt {P n : Nat} (h : n < np P) : (n + 2) / 3 + 1 ≤ P := by
  unfold np at h
  by_cases hq : P = 0
  · rw [if_pos hq] at h; omega
  · rw [if_neg hq] at h; omega
theorem TT_pn {pn : Int32} {nR k n : Nat} {s : Int32 × (Nat → Int32)} {m : MT} (h : TT pn nR k s m) (hn : n < 64) : TT (nI n) nR k s m := by
  obtain ⟨c, pa, h1, h2, h3, h4, h5⟩ := h
  exact ⟨c, n, h1, h2, hn, rfl, h5⟩
theorem TT_eq {pn : Int32} {nR k : Nat} {s : Int32 × (Nat → Int32)} {m : MT} (h : TT pn nR k s m) : s.1 = m.1 := by
  obtain ⟨c, pa, h1, h2, h3, h4, h5, h6, h7⟩ := h
  exact h5.trans h6.symm
theorem enc_loop {W Hh k P nR : Nat} {st mtr : Int32} {sam msam mreads : Nat → Int32} (hW : W ≤ 16) (hH : Hh ≤ 16) (hk : k < 3) (hP : P ≤ 15) (hS : SOK W Hh sam msam) (u2 : Int32 × (Nat → Int32) × (Nat → Int32) × (Nat → Int32)) (hu2 : u2.1 = nI P) :
    ∀ (d n N N' : Nat) (lens : Nat → Int32) (diss : Nat → Int64) (pn tpl traw : Int32) (c : CA) (s : Int32 × (Nat → Int32)) (mlens : Nat → Int32) (mdiss : Nat → Int64) (mpl mpass mraw : Int32) (m : MT) (A : RA),
    n + d = np P → d < N → d < N' → (n < np P → PS W Hh P n c A ∧ TT (nI n) nR (Phi W Hh c + (4 * (P - 1 - (n + 2) / 3) + 4)) s m) → TT (nI 0) nR 0 s m → (∀ i, i < n → lens i = mlens i ∧ diss i = mdiss i) →
    ∃ (v : Int32) (lens' : Nat → Int32) (diss' : Nat → Int64) (pn' tpl' traw' : Int32) (c' : CA) (s' : Int32 × (Nat → Int32)) (v' : Int32) (mlens' : Nat → Int32) (mdiss' : Nat → Int64) (mpl' mpass' mraw' : Int32) (m' : MT) (A' : RA),
      f_B_encode_L30 (nI W) (nI Hh) st (nI k) (nI (W + 2)) sam 43 43 ((W + 2) * (Hh + 2)) nR ((W + 2) * (Hh + 2)) ((W + 2) * (Hh + 2)) ((W + 2) * (Hh + 2)) (nI P) u2 N (nI n) lens diss s.1 pn s.2 tpl traw c.1 c.2.1 c.2.2 = some (v, lens', diss', s'.1, pn', s'.2, tpl', traw', c'.1, c'.2.1, c'.2.2)
      ∧ f_M_encode_L35 (nI W) (nI Hh) st (nI k) mtr msam mreads 256 12000 12000 12000 43 43 12000 256 256 256 256 256 256 (nI P) N' (nI n) m.1 m.2.1 m.2.2.1 mpl mpass mraw m.2.2.2.1 m.2.2.2.2.1 m.2.2.2.2.2 mlens mdiss A.1 A.2.1 A.2.2.1 A.2.2.2.1 A.2.2.2.2.1 A.2.2.2.2.2 = some (v', m'.1, m'.2.1, m'.2.2.1, mpl', mpass', mraw', m'.2.2.2.1, m'.2.2.2.2.1, m'.2.2.2.2.2, mlens', mdiss', A'.1, A'.2.1, A'.2.2.1, A'.2.2.2.1, A'.2.2.2.2.1, A'.2.2.2.2.2)
      ∧ (∀ i, i < np P → lens' i = mlens' i ∧ diss' i = mdiss' i) ∧ TT (nI 0) nR 0 s' m' := by
  have h43 := np_le hP
  obtain ⟨pt1, pt2⟩ := np_tab P (by omega)
  have hn := nC_le hW hH
  intro d
  induction d with
  | zero =>
    intro n N N' lens diss pn tpl traw c s mlens mdiss mpl mpass mraw m A hd hN hN' _ hT hL
    obtain rfl : n = np P := by omega
    obtain ⟨N, rfl⟩ : ∃ q, N = q + 1 := ⟨N - 1, by omega⟩
    obtain ⟨N', rfl⟩ : ∃ q, N' = q + 1 := ⟨N' - 1, by omega⟩
    refine ⟨nI (np P), lens, diss, pn, tpl, traw, c, s, nI (np P), mlens, mdiss, mpl, mpass, mraw, m, A, ?_, ?_, hL, hT⟩
    · rw [f_B_encode_L30, pt1, if_pos (nI_le (Nat.le_refl _) (by omega))]
    · rw [f_M_encode_L35, pt2, if_pos (nI_le (Nat.le_refl _) (by omega))]
  | succ d ih =>
    intro n N N' lens diss pn tpl traw c s mlens mdiss mpl mpass mraw m A hd hN hN' hI hT hL
    obtain ⟨N, rfl⟩ : ∃ q, N = q + 1 := ⟨N - 1, by omega⟩
    obtain ⟨N', rfl⟩ : ∃ q, N' = q + 1 := ⟨N' - 1, by omega⟩
    obtain ⟨hPS, hTT⟩ := hI (by omega)
    have hPn := np_lt (show n < np P by omega)
    obtain ⟨g, rw, c1, A1, s1, m1, e1, e2, hA1, hT1⟩ := pass_T (st := st) (k := k) (mtr := mtr) (mreads := mreads) (r := 4 * (P - 1 - (n + 2) / 3)) hW hH hk (show n < 43 by omega) hP hPn rfl hS.1 hPS hTT
    rw [f_B_encode_L30, pt1, if_neg (nI_ge (by omega) (by omega)), hu2, e1, Option.bind_some, pc_ok (show n < 43 by omega) (by decide), squares_C hn, Option.bind_some, pc_ok (show n < 43 by omega) (by decide), nI_clamp (show n < 2 ^ 31 by omega), nI_1]
    rw [f_M_encode_L35, pt2, if_neg (nI_ge (by omega) (by omega)), e2, Option.bind_some, pc_ok (show n < 43 by omega) (by decide), pc_ok (show n < 43 by omega) (by decide), nI_clamp (show n < 2 ^ 31 by omega), nI_1]
    obtain ⟨w, g', f1, f2, f3⟩ := sq_M (msam := msam) (n := n) (u5 := (bI g, m1.1, m1.2.1, m1.2.2.1, nI (P - 1 - (n + 2) / 3), nI n, bI rw, m1.2.2.2.1, m1.2.2.2.2.1, m1.2.2.2.2.2, A1.1, A1.2.1, A1.2.2.1, A1.2.2.2.1, A1.2.2.2.2.1, A1.2.2.2.2.2)) (show n < 43 by omega) 256 0 kBig (vp_updL mdiss n 0) (by omega) (by decide)
    rw [nI_0] at f1
    rw [f1, Option.bind_some]
    dsimp only
    rw [pk_uLs] at f2
    have esq := sq_both hW hH hS hA1.2.2 (fun x y hx hy => (hA1.2.1 x y hx hy).1)
    refine ih (n + 1) N N' _ _ _ _ _ c1 s1 _ _ _ _ _ m1 A1 (by omega) (by omega) (by omega) ?_ (TT_pn (TT_le hT1 (Nat.zero_le _)) (by omega)) ?_
    · intro hlt
      have hP2 := np_lt hlt
      refine ⟨PS_next (by omega) hA1, TT_pn (TT_le hT1 ?_) (by omega)⟩
      by_cases hq : (n + 2) % 3 = 2
      · rw [if_pos hq]; omega
      · rw [if_neg hq]; omega
    · intro i hi
      by_cases hq : i = n
      · subst hq
        rw [pk_us, pk_us, pk_uLs, f2]
        exact ⟨TT_eq hT1, esq⟩
      · rw [pk_un hq, pk_un hq, pk_uLn hq, f3 i hq, pk_uLn hq]
        exact hL i (by omega)
theorem encode_ok {W Hh k : Nat} {st mtr mplc mlak mpl mpass mraw pn tpl traw : Int32} {sam msam mreads lens row tsgn tsiz tlow mbits mctxs mpaso mlens : Nat → Int32} {diss mdiss : Nat → Int64} {A : RA} (hW : W ≤ 16) (hH : Hh ≤ 16) (hk : k < 3) (hS : SOK W Hh sam msam) :
    ∃ (q c : Nat) (lens' : Nat → Int32) (diss' : Nat → Int64) (pn' : Int32) (row' : Nat → Int32) (x1 x2 x3 : Int32) (c' : CA) (m' : MT) (y1 y2 y3 : Int32) (mlens' : Nat → Int32) (mdiss' : Nat → Int64) (A' : RA),
      f_B_encode (nI W) (nI Hh) st (nI k) (nI (W + 2)) lens diss pn sam row tpl traw tsgn tsiz tlow 43 43 ((W + 2) * (Hh + 2)) (W * Hh * 17 + 60) ((W + 2) * (Hh + 2)) ((W + 2) * (Hh + 2)) ((W + 2) * (Hh + 2)) = some (nI q, nI q, lens', diss', nI c, pn', row', x1, x2, x3, c'.1, c'.2.1, c'.2.2)
      ∧ f_M_encode (nI W) (nI Hh) st (nI k) mtr mplc mlak mpl mpass mraw msam mbits mctxs mpaso mlens mdiss mreads A.1 A.2.1 A.2.2.1 A.2.2.2.1 A.2.2.2.2.1 A.2.2.2.2.2 256 12000 12000 12000 43 43 12000 256 256 256 256 256 256 = some (nI q, 0, nI c, nI q, 0, m'.2.1, m'.2.2.1, y1, y2, y3, m'.2.2.2.1, m'.2.2.2.2.1, m'.2.2.2.2.2, mlens', mdiss', A'.1, A'.2.1, A'.2.2.1, A'.2.2.2.1, A'.2.2.2.2.1, A'.2.2.2.2.2)
      ∧ q ≤ 43 ∧ (∀ i, i < q → lens' i = mlens' i ∧ diss' i = mdiss' i) ∧ c ≤ W * Hh * 17 + 60 ∧ RowOK c row' m'.2.2.2.1 m'.2.2.2.2.1 m'.2.2.2.2.2 := by
  have hn := nC_le hW hH
  obtain ⟨P, hP, e1, e2⟩ := planes_ok hW hH hS
  obtain ⟨pt1, pt2⟩ := np_tab P (by omega)
  obtain ⟨c0, e3, hc0⟩ := beg_T (P := P) (sgn := tsgn) (siz := tsiz) (low := tlow) hn
  obtain ⟨A0, e4, hA0⟩ := beg_M (P := P) A
  have hB := BGN_of hW hH hc0 hA0
  have hPhi := Phi_beg hW hH hP hc0
  have hR : W * Hh * 17 + 60 ≤ 12000 := by
    have := Nat.mul_le_mul hW hH
    omega
  have hT0 : ∀ kk, kk ≤ W * Hh * 17 + 60 → TT (nI 0) (W * Hh * 17 + 60) kk ((0 : Int32), row) (((0 : Int32), mplc, mlak, mbits, mctxs, mpaso) : MT) := fun kk hkk => ⟨0, 0, by omega, hR, by omega, rfl, rfl, rfl, fun i hi => by omega⟩
  obtain ⟨v, lens', diss', pn', tpl', traw', c', s', v', mlens', mdiss', mpl', mpass', mraw', m', A', f1, f2, f3, f4⟩ := enc_loop (st := st) (k := k) (mtr := mtr) (mreads := mreads) (nR := W * Hh * 17 + 60) hW hH hk hP hS (nI P, c0.1, c0.2.1, c0.2.2) rfl (np P) 0 kBig kBig lens diss pn tpl traw c0 ((0 : Int32), row) mlens mdiss mpl mpass mraw (((0 : Int32), mplc, mlak, mbits, mctxs, mpaso) : MT) A0 (by omega) (by have := np_le hP; unfold kBig; omega) (by have := np_le hP; unfold kBig; omega)
    (fun hlt => ⟨by unfold PS; rw [if_pos rfl]; exact hB, hT0 _ (by have := np_lt hlt; omega)⟩) (hT0 0 (by omega)) (fun i hi => by omega)
  rw [nI_0] at f1 f2
  unfold f_B_encode f_M_encode
  rw [e1, Option.bind_some, e3, Option.bind_some, e2, Option.bind_some, e4, Option.bind_some]
  dsimp only at f1 f2 ⊢
  rw [show f_T_forget = (0 : Int32) from rfl, f1, Option.bind_some, f2, Option.bind_some, pt1, pt2]
  obtain ⟨c1, pa, t1, t2, t3, t4, t5, t6, t7⟩ := f4
  dsimp only
  rw [t5, t6]
  exact ⟨np P, c1, lens', diss', pn', s'.2, _, _, _, c', m', _, _, _, mlens', mdiss', A', rfl, rfl, np_le hP, f3, by omega, t7⟩

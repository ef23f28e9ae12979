/-! PURE: decode -/
theorem keepC_loop {rsgn rsiz rlow : Nat → Int32} {n : Nat} (hn : n < 2 ^ 31) : ∀ (d i N : Nat) (vals lowr : Nat → Int32), i + d = n → d < N → (∀ j, j < i → vals j = rsgn j * rsiz j ∧ lowr j = rlow j) →
    ∃ w v' l', f_B_keepWhatIsRead_L2 rsgn rsiz rlow n n n n n N (nI i) vals lowr = some (w, v', l') ∧ ∀ j, j < n → v' j = rsgn j * rsiz j ∧ l' j = rlow j := by
  intro d
  induction d with
  | zero =>
    intro i N vals lowr hi hN h
    obtain rfl : i = n := by omega
    obtain ⟨N, rfl⟩ : ∃ q, N = q + 1 := ⟨N - 1, by omega⟩
    exact ⟨_, vals, lowr, by rw [f_B_keepWhatIsRead_L2, if_pos (nI_le (Nat.le_refl _) hn)], h⟩
  | succ d ih =>
    intro i N vals lowr hi hN h
    obtain ⟨N, rfl⟩ : ∃ q, N = q + 1 := ⟨N - 1, by omega⟩
    have hi2 : i < n := by omega
    rw [f_B_keepWhatIsRead_L2, if_neg (nI_ge (by omega) hn), pc_ok hi2 hn, pc_ok hi2 hn, pc_ok hi2 hn, pc_ok hi2 hn, pc_ok hi2 hn, cl_ok hi2 hn, nI_1]
    refine ih (i + 1) N _ _ (by omega) (by omega) (fun j hj => ?_)
    by_cases hq : j = i
    · subst hq; exact ⟨pk_us, pk_us⟩
    · rw [pk_un hq, pk_un hq]; exact h j (by omega)
theorem keepC {rsgn rsiz rlow vals lowr : Nat → Int32} {n : Nat} (hn : n ≤ 324) : ∃ v' l', f_B_keepWhatIsRead vals lowr rsgn rsiz rlow n n n n n = some (v', l') ∧ ∀ j, j < n → v' j = rsgn j * rsiz j ∧ l' j = rlow j := by
  obtain ⟨w, v', l', e, h⟩ := keepC_loop (rsgn := rsgn) (rsiz := rsiz) (rlow := rlow) (show n < 2 ^ 31 by omega) n 0 kBig vals lowr (by omega) (by unfold kBig; omega) (fun j hj => by omega)
  rw [nI_0] at e
  exact ⟨v', l', by unfold f_B_keepWhatIsRead; rw [e, Option.bind_some], h⟩
theorem saveM_loop {sz be lo : Nat → Int32} : ∀ (d i N : Nat) (o1 o2 o3 : Nat → Int32), i + d = 256 → d < N → (∀ j, j < i → o1 j = sz j ∧ o2 j = vp_nar .boolean (be j) ∧ o3 j = lo j) →
    ∃ w p1 p2 p3, f_M_save_L2 sz be lo 256 256 256 256 256 256 N (nI i) o1 o2 o3 = some (w, p1, p2, p3) ∧ ∀ j, j < 256 → p1 j = sz j ∧ p2 j = vp_nar .boolean (be j) ∧ p3 j = lo j := by
  intro d
  induction d with
  | zero =>
    intro i N o1 o2 o3 hi hN h
    obtain rfl : i = 256 := by omega
    obtain ⟨N, rfl⟩ : ∃ q, N = q + 1 := ⟨N - 1, by omega⟩
    exact ⟨_, o1, o2, o3, by rw [f_M_save_L2, if_pos (by decide)], h⟩
  | succ d ih =>
    intro i N o1 o2 o3 hi hN h
    obtain ⟨N, rfl⟩ : ∃ q, N = q + 1 := ⟨N - 1, by omega⟩
    have hi2 : i < 256 := by omega
    have hn : 256 < 2 ^ 31 := by decide
    rw [f_M_save_L2, if_neg (show ¬ (256 : Int32) ≤ nI i from nI_ge (a := i) (b := 256) (by omega) (by omega)), pc_ok hi2 hn, pc_ok hi2 hn, pc_ok hi2 hn, pc_ok hi2 hn, pc_ok hi2 hn, pc_ok hi2 hn, cl_ok hi2 hn, nI_1]
    refine ih (i + 1) N _ _ _ (by omega) (by omega) (fun j hj => ?_)
    by_cases hq : j = i
    · subst hq; exact ⟨pk_us, pk_us, pk_us⟩
    · rw [pk_un hq, pk_un hq, pk_un hq]; exact h j (by omega)
theorem saveM {sz be lo o1 o2 o3 : Nat → Int32} : ∃ p1 p2 p3, f_M_save sz be lo o1 o2 o3 256 256 256 256 256 256 = some (p1, p2, p3) ∧ ∀ j, j < 256 → p1 j = sz j ∧ p2 j = vp_nar .boolean (be j) ∧ p3 j = lo j := by
  obtain ⟨w, p1, p2, p3, e, h⟩ := saveM_loop (sz := sz) (be := be) (lo := lo) 256 0 kBig o1 o2 o3 (by omega) (by decide) (fun j hj => by omega)
  rw [nI_0] at e
  exact ⟨p1, p2, p3, by unfold f_M_save; rw [e, Option.bind_some], h⟩
/-- what is kept at a place -/
def kv (lak : Int32) (sz be o1 o2 : Nat → Int32) (s : Nat) : Int32 := if lak = 0 then (if be s = 0 then sz s else -(sz s)) else (if o2 s = 0 then o1 s else -(o1 s))
def kl (lak : Int32) (lo o3 : Nat → Int32) (s : Nat) : Int32 := if lak = 0 then lo s else o3 s
theorem keepM_loop {lak : Int32} {sz be lo o1 o2 o3 : Nat → Int32} : ∀ (d i N : Nat) (v l : Nat → Int32), i + d = 256 → d < N → (∀ j, j < i → v j = kv lak sz be o1 o2 j ∧ l j = kl lak lo o3 j) →
    ∃ w v' l', f_M_keep_L2 lak sz be lo o1 o2 o3 256 256 256 256 256 256 256 256 N (nI i) v l = some (w, v', l') ∧ ∀ j, j < 256 → v' j = kv lak sz be o1 o2 j ∧ l' j = kl lak lo o3 j := by
  intro d
  induction d with
  | zero =>
    intro i N v l hi hN h
    obtain rfl : i = 256 := by omega
    obtain ⟨N, rfl⟩ : ∃ q, N = q + 1 := ⟨N - 1, by omega⟩
    exact ⟨_, v, l, by rw [f_M_keep_L2, if_pos (by decide)], h⟩
  | succ d ih =>
    intro i N v l hi hN h
    obtain ⟨N, rfl⟩ : ∃ q, N = q + 1 := ⟨N - 1, by omega⟩
    have hi2 : i < 256 := by omega
    have hn : 256 < 2 ^ 31 := by decide
    have key : f_M_keep_L2 lak sz be lo o1 o2 o3 256 256 256 256 256 256 256 256 (N + 1) (nI i) v l = f_M_keep_L2 lak sz be lo o1 o2 o3 256 256 256 256 256 256 256 256 N (nI (i + 1)) (upd v i (kv lak sz be o1 o2 i)) (upd l i (kl lak lo o3 i)) := by
      rw [f_M_keep_L2, if_neg (show ¬ (256 : Int32) ≤ nI i from nI_ge (a := i) (b := 256) (by omega) (by omega))]
      unfold kv kl
      by_cases hl : lak = 0
      · simp only [hl, ↓reduceIte, in_ok hi2 hn, in_ok' hi2 hn, cl_ok hi2 hn, Option.bind_some, nI_1, ite_some]
      · simp only [hl, ↓reduceIte, in_ok hi2 hn, in_ok' hi2 hn, cl_ok hi2 hn, Option.bind_some, nI_1, ite_some]
    rw [key]
    refine ih (i + 1) N _ _ (by omega) (by omega) (fun j hj => ?_)
    by_cases hq : j = i
    · subst hq; exact ⟨pk_us, pk_us⟩
    · rw [pk_un hq, pk_un hq]; exact h j (by omega)
theorem keepM {lak : Int32} {sz be lo o1 o2 o3 v l : Nat → Int32} : ∃ v' l', f_M_keep lak sz be lo o1 o2 o3 v l 256 256 256 256 256 256 256 256 = some (v', l') ∧ ∀ j, j < 256 → v' j = kv lak sz be o1 o2 j ∧ l' j = kl lak lo o3 j := by
  obtain ⟨w, v', l', e, h⟩ := keepM_loop (lak := lak) (sz := sz) (be := be) (lo := lo) (o1 := o1) (o2 := o2) (o3 := o3) 256 0 kBig v l (by omega) (by decide) (fun j hj => by omega)
  rw [nI_0] at e
  exact ⟨v', l', by unfold f_M_keep; rw [e, Option.bind_some], h⟩
/-- values of class and reference in a walk -/
def KV (W Hh : Nat) (c : CA) (A : RA) : Prop := ∀ x y, x < W → y < Hh → c.1 (ic W x y) * c.2.1 (ic W x y) = (if A.2.1 (ir x y) = 0 then A.1 (ir x y) else -(A.1 (ir x y))) ∧ c.2.2 (ic W x y) = A.2.2.2.2.2 (ir x y) ∧ (A.2.1 (ir x y) = 0 ∨ A.2.1 (ir x y) = 1)
theorem KV_cell {fa be : Nat → Int32} {s : Nat} {sg sz sz' : Int32} (h1 : sg = rS fa be s) (h2 : sz = sz') (h3 : fa s = -1 → sz' = 0) : sg * sz = (if be s = 0 then sz' else -sz') := by
  subst h1 h2
  unfold rS
  by_cases hf : fa s = -1
  · rw [if_pos hf, h3 hf]
    by_cases hb : be s = 0
    · rw [if_pos hb]; rfl
    · rw [if_neg hb]; rfl
  · rw [if_neg hf]
    by_cases hb : be s = 0
    · rw [if_pos hb, if_pos hb, Int32.one_mul]
    · rw [if_neg hb, if_neg hb, Int32.neg_mul, Int32.one_mul]
theorem AL_KV {W Hh k p : Nat} {c : CA} {A : RA} (hp : p < 15) (h : AL W Hh k p c A) : KV W Hh c A := by
  intro x y hx hy
  obtain ⟨a1, a2, hbe, b⟩ := h.2.1 x y hx hy
  refine ⟨KV_cell (h.1.1 x y hx hy) a1 (fun hf => ?_), a2, hbe⟩
  rcases b with ⟨_, c2, _⟩ | ⟨_, c2, _⟩ | ⟨c1, _⟩ | ⟨f, _, _, c1, _⟩ | ⟨f, _, _, c1, _⟩
  · exact c2
  · exact c2
  · rw [hf] at c1; exact absurd c1.symm (nI_nm1 (by omega))
  · rw [hf] at c1; exact absurd c1.symm (nI_nm1 (by omega))
  · rw [hf] at c1; exact absurd c1.symm (nI_nm1 (by omega))
theorem BGN_KV {W Hh P : Nat} {c : CA} {A : RA} (h : BGN W Hh P c A) : KV W Hh c A := by
  intro x y hx hy
  obtain ⟨a1, a2, a3, a4, a5, a6, a7⟩ := h.2.1 x y hx hy
  exact ⟨KV_cell (h.1.1 x y hx hy) a1 (fun _ => a5), a2, .inl a4⟩
/-- what was kept: of the walk's state -/
def VK (W Hh : Nat) (c : CA) (vals lowr : Nat → Int32) : Prop := ∀ x y, x < W → y < Hh → vals (ic W x y) = c.1 (ic W x y) * c.2.1 (ic W x y) ∧ lowr (ic W x y) = c.2.2 (ic W x y)
/-- the reference's loop stops -/
theorem dstop {W Hh k P a N : Nat} {st mtr v g mpl mpass mraw : Int32} {msam mreads o1 o2 o3 : Nat → Int32} {m : MT} {A : RA} (h : nI a ≤ v ∨ g = 0 ∨ ¬ m.2.2.1 = 0) :
    f_M_decode_L75 (nI W) (nI Hh) st (nI k) mtr msam mreads 256 12000 12000 12000 12000 256 256 256 256 256 256 256 256 256 (nI P) (nI a) (N + 1) v g m.1 m.2.1 m.2.2.1 mpl mpass mraw m.2.2.2.1 m.2.2.2.2.1 m.2.2.2.2.2 A.1 A.2.1 A.2.2.1 A.2.2.2.1 A.2.2.2.2.1 A.2.2.2.2.2 o1 o2 o3 = some (v, g, m.1, m.2.1, m.2.2.1, mpl, mpass, mraw, m.2.2.2.1, m.2.2.2.2.1, m.2.2.2.2.2, A.1, A.2.1, A.2.2.1, A.2.2.2.1, A.2.2.2.2.1, A.2.2.2.2.2, o1, o2, o3) := by
  rw [f_M_decode_L75]
  by_cases h1 : nI a ≤ v
  · rw [if_pos h1]
  · rw [if_neg h1]
    by_cases h2 : g = 0
    · rw [if_pos h2]
    · rw [if_neg h2, if_neg ((h.resolve_left h1).resolve_left h2)]
theorem dec_loop {W Hh k P a : Nat} {st mtr lcn : Int32} {msam mreads wor : Nat → Int32} {m0 : MT} (hW : W ≤ 16) (hH : Hh ≤ 16) (hk : k < 3) (hP : P ≤ 15) (ha : a ≤ np P) (a1 : Int32) (hka : kmin a1 (f_ST_passesOf (nI P)) = nI a) (u4 : Int32 × (Nat → Int32) × (Nat → Int32) × (Nat → Int32)) (hu4 : u4.1 = nI P) :
    ∀ (d n N N' : Nat) (vals lowr : Nat → Int32) (rpl rraw : Int32) (c : CA) (s : Int32 × Int32) (mpl mpass mraw : Int32) (m : MT) (A : RA) (o1 o2 o3 : Nat → Int32),
    n + d = a → d < N → d + 1 < N' → s.1 = 0 → (n < a → PS W Hh P n c A) → KV W Hh c A → VK W Hh c vals lowr → TL lcn wor mtr mreads m0 0 s m →
    ∃ (tag : Nat) (v : Int32) (vals' lowr' : Nat → Int32) (s' : Int32 × Int32) (rpl' rraw' : Int32) (c' : CA) (dn g : Int32) (m' : MT) (mpl' mpass' mraw' : Int32) (A' : RA) (p1 p2 p3 : Nat → Int32),
      f_B_decode_L55 (nI W) (nI Hh) st (nI k) (nI (W + 2)) lcn wor ((W + 2) * (Hh + 2)) ((W + 2) * (Hh + 2)) 376 ((W + 2) * (Hh + 2)) ((W + 2) * (Hh + 2)) ((W + 2) * (Hh + 2)) (nI P) a1 u4 N (nI n) vals lowr s.1 s.2 rpl rraw c.1 c.2.1 c.2.2 = some (tag, v, vals', lowr', s'.1, s'.2, rpl', rraw', c'.1, c'.2.1, c'.2.2)
      ∧ f_M_decode_L75 (nI W) (nI Hh) st (nI k) mtr msam mreads 256 12000 12000 12000 12000 256 256 256 256 256 256 256 256 256 (nI P) (nI a) N' (nI n) 1 m.1 m.2.1 m.2.2.1 mpl mpass mraw m.2.2.2.1 m.2.2.2.2.1 m.2.2.2.2.2 A.1 A.2.1 A.2.2.1 A.2.2.2.1 A.2.2.2.2.1 A.2.2.2.2.2 o1 o2 o3 = some (dn, g, m'.1, m'.2.1, m'.2.2.1, mpl', mpass', mraw', m'.2.2.2.1, m'.2.2.2.2.1, m'.2.2.2.2.2, A'.1, A'.2.1, A'.2.2.1, A'.2.2.2.1, A'.2.2.2.2.1, A'.2.2.2.2.2, p1, p2, p3)
      ∧ (∀ x y, x < W → y < Hh → vals' (ic W x y) = kv m'.2.2.1 A'.1 A'.2.1 p1 p2 (ir x y) ∧ lowr' (ic W x y) = kl m'.2.2.1 A'.2.2.2.2.2 p3 (ir x y))
      ∧ (if tag = 0 then nI a else if tag = 1 then v else (-1 : Int32) - v) = (if m'.2.2.1 = 0 then (if g = 0 then (-1 : Int32) - (dn - (1 : Int32)) else dn) else dn)
      ∧ m'.1 = m0.1 ∧ m'.2.2.2 = m0.2.2.2 := by
  have h43 := np_le hP
  have hn := nC_le hW hH
  intro d
  induction d with
  | zero =>
    intro n N N' vals lowr rpl rraw c s mpl mpass mraw m A o1 o2 o3 hd hN hN' hs _ hKV hVK hT
    obtain rfl : n = a := by omega
    obtain ⟨N, rfl⟩ : ∃ q, N = q + 1 := ⟨N - 1, by omega⟩
    obtain ⟨N', rfl⟩ : ∃ q, N' = q + 1 := ⟨N' - 1, by omega⟩
    obtain ⟨_, _, _, _, _, _, _, _, _, t8, _, t10, t11⟩ := hT
    refine ⟨0, nI n, vals, lowr, s, rpl, rraw, c, nI n, 1, m, mpl, mpass, mraw, A, o1, o2, o3, ?_, dstop (.inl (nI_le (Nat.le_refl _) (by omega))), ?_, ?_, t10, t11⟩
    · rw [f_B_decode_L55, hka, if_pos (nI_le (Nat.le_refl _) (by omega))]
    · intro x y hx hy
      obtain ⟨k1, k2, k3⟩ := hKV x y hx hy
      obtain ⟨v1, v2⟩ := hVK x y hx hy
      unfold kv kl
      rw [t8, if_pos hs, if_pos hs]
      exact ⟨v1.trans k1, v2.trans k2⟩
    · rw [t8, if_pos hs, if_pos rfl, if_neg (show ¬ (1 : Int32) = 0 by decide)]
  | succ d ih =>
    intro n N N' vals lowr rpl rraw c s mpl mpass mraw m A o1 o2 o3 hd hN hN' hs hPS hKV hVK hT
    obtain ⟨N, rfl⟩ : ∃ q, N = q + 1 := ⟨N - 1, by omega⟩
    obtain ⟨N', rfl⟩ : ∃ q, N' = q + 2 := ⟨N' - 2, by omega⟩
    have hPn := np_lt (show n < np P by omega)
    obtain ⟨g, rw, c1, A1, s1, m1, e1, e2, hA1, hT1⟩ := pass_L (st := st) (k := k) (msam := msam) (r := 0) (pn := nI n) hW hH hk (show n < 43 by omega) hP hPn rfl (hPS (by omega)) (show TL lcn wor mtr mreads m0 (Phi W Hh c + (0 + 4)) s m from hT)
    have hK1 := AL_KV (show P - 1 - (n + 2) / 3 < 15 by omega) hA1
    have hT1' := hT1
    obtain ⟨_, _, _, _, _, _, _, _, _, t8, t9, t10, t11⟩ := hT1'
    obtain ⟨_, _, _, _, _, _, _, _, _, r8, _, _, _⟩ := hT
    obtain ⟨p1, p2, p3, e3, hp3⟩ := saveM (sz := A.1) (be := A.2.1) (lo := A.2.2.2.2.2) (o1 := o1) (o2 := o2) (o3 := o3)
    rw [f_B_decode_L55, hka, if_neg (nI_ge (by omega) (by omega)), hu4, e1, Option.bind_some]
    rw [show N' + 2 = (N' + 1) + 1 from rfl, f_M_decode_L75, if_neg (nI_ge (by omega) (by omega)), if_neg (show ¬ (1 : Int32) = 0 by decide), if_pos (r8.trans hs), e3, Option.bind_some, e2, Option.bind_some]
    dsimp only
    by_cases hl : s1.1 = 0
    · rw [if_pos hl, if_pos (t8.trans hl), Option.bind_some, nI_1]
      obtain ⟨v', l', e4, h4⟩ := keepC (rsgn := c1.1) (rsiz := c1.2.1) (rlow := c1.2.2) (vals := vals) (lowr := lowr) hn
      rw [e4, Option.bind_some]
      have hVK1 : VK W Hh c1 v' l' := fun x y hx hy => h4 _ (ic_lt hx hy)
      cases g with
      | false =>
        rw [if_pos bI_ff]
        refine ⟨2, nI n, v', l', s1, _, _, c1, nI (n + 1), bI false, m1, _, _, _, A1, p1, p2, p3, rfl, dstop (.inr (.inl rfl)), ?_, ?_, t10, t11⟩
        · intro x y hx hy
          obtain ⟨k1, k2, k3⟩ := hK1 x y hx hy
          obtain ⟨v1, v2⟩ := hVK1 x y hx hy
          unfold kv kl
          rw [t8, if_pos hl, if_pos hl]
          exact ⟨v1.trans k1, v2.trans k2⟩
        · rw [t8, if_pos hl, if_pos bI_ff, if_neg (by omega), if_neg (by omega), nI_pred]
      | true =>
        rw [if_neg (show ¬ bI true = 0 by decide)]
        refine ih (n + 1) N (N' + 1) v' l' _ _ c1 s1 _ _ _ m1 A1 p1 p2 p3 (by omega) (by omega) (by omega) hl (fun hlt => ?_) hK1 hVK1 hT1
        have := np_lt (show n + 1 < np P by omega)
        exact PS_next (by omega) hA1
    · have hl2 : ¬ m1.2.2.1 = 0 := by rw [t8]; exact hl
      rw [if_neg hl, if_neg hl2, Option.bind_some]
      refine ⟨1, nI n, vals, lowr, s1, _, _, c1, nI n, bI g, m1, _, _, _, A1, p1, p2, p3, rfl, dstop (.inr (.inr hl2)), ?_, ?_, t10, t11⟩
      · intro x y hx hy
        obtain ⟨k1, k2, k3⟩ := hKV x y hx hy
        obtain ⟨v1, v2⟩ := hVK x y hx hy
        obtain ⟨z1, z2, z3⟩ := hp3 _ (show ir x y < 256 from ir_lt (by omega) (by omega))
        unfold kv kl
        rw [if_neg hl2, if_neg hl2, z1, z2, z3]
        refine ⟨v1.trans ?_, v2.trans k2⟩
        rw [k1]
        rcases k3 with k3 | k3
        · rw [k3, show vp_nar .boolean 0 = 0 from nar_bI false]
        · rw [k3, show vp_nar .boolean 1 = 1 from nar_bI true]
      · rw [if_neg hl2, if_neg (by omega), if_pos rfl]
theorem kmin_nat (a b : Nat) (ha : a < 2 ^ 31) (hb : b < 2 ^ 31) : kmin (nI a) (nI b) = nI (min a b) ∧ (if nI a ≤ nI b then some (nI a) else some (nI b)) = some (nI (min a b)) := by
  unfold kmin
  by_cases h : a ≤ b
  · rw [if_neg (nI_nlt h hb), if_pos (nI_le h hb), Nat.min_eq_left h]; exact ⟨rfl, rfl⟩
  · rw [if_pos (nI_lt (by omega) ha), if_neg (nI_ge (by omega) ha), Nat.min_eq_right (by omega)]; exact ⟨rfl, rfl⟩
theorem decode_ok {W Hh k P b : Nat} {st mtr misr mplc mlak mpl mpass mraw lcn lak nxt rpls rpl rraw : Int32} {msam mreads wor vals lowr rsgn rsiz rlow moszs mwbls molws mrvas mrlos : Nat → Int32} {m : MT} {A : RA} (hW : W ≤ 16) (hH : Hh ≤ 16) (hk : k < 3) (hP : P ≤ 15) (hb : b < 2 ^ 31)
    (hR : ∃ c, c ≤ 12000 ∧ lcn = nI c ∧ mtr = nI c ∧ ∀ i, i < c → mreads i = bI (lb wor i)) :
    ∃ (ret : Int32) (vals' lowr' : Nat → Int32) (x1 x2 x3 x4 x5 : Int32) (c' : CA) (y1 y2 y3 y4 y5 : Int32) (A' : RA) (p1 p2 p3 mrvas' mrlos' : Nat → Int32),
      f_B_decode (nI W) (nI Hh) st (nI k) (nI (W + 2)) vals lowr lcn lak nxt wor rpls rpl rraw rsgn rsiz rlow ((W + 2) * (Hh + 2)) ((W + 2) * (Hh + 2)) 376 ((W + 2) * (Hh + 2)) ((W + 2) * (Hh + 2)) ((W + 2) * (Hh + 2)) (nI P) (nI b) = some (0, ret, vals', lowr', x1, x2, x3, x4, x5, c'.1, c'.2.1, c'.2.2)
      ∧ f_M_decode (nI W) (nI Hh) st (nI k) m.1 mtr misr mplc mlak mpl mpass mraw msam m.2.2.2.1 m.2.2.2.2.1 m.2.2.2.2.2 mreads A.1 A.2.1 A.2.2.1 A.2.2.2.1 A.2.2.2.2.1 A.2.2.2.2.2 moszs mwbls molws mrvas mrlos 256 12000 12000 12000 12000 256 256 256 256 256 256 256 256 256 256 256 (nI P) (nI b) = some (ret, 0, m.1, 1, y1, y2, y3, y4, y5, m.2.2.2.1, m.2.2.2.2.1, m.2.2.2.2.2, A'.1, A'.2.1, A'.2.2.1, A'.2.2.2.1, A'.2.2.2.2.1, A'.2.2.2.2.2, p1, p2, p3, mrvas', mrlos')
      ∧ (∀ x y, x < W → y < Hh → vals' (ic W x y) = mrvas' (ir x y) ∧ lowr' (ic W x y) = mrlos' (ir x y)) := by
  have hn := nC_le hW hH
  obtain ⟨cR, hcR, hlc, hmt, hrd⟩ := hR
  obtain ⟨pt1, pt2⟩ := np_tab P (by omega)
  have h43 := np_le hP
  obtain ⟨km1, km2⟩ := kmin_nat b (np P) hb (by omega)
  obtain ⟨c0, e3, hc0⟩ := beg_L (P := P) (sgn := rsgn) (siz := rsiz) (low := rlow) hn
  obtain ⟨A0, e4, hA0⟩ := beg_M (P := P) A
  have hB := BGN_of hW hH hc0 hA0
  obtain ⟨v0, l0, e5, h5⟩ := keepC (rsgn := c0.1) (rsiz := c0.2.1) (rlow := c0.2.2) (vals := vals) (lowr := lowr) hn
  have hVK : VK W Hh c0 v0 l0 := fun x y hx hy => h5 _ (ic_lt hx hy)
  have hT0 : TL lcn wor mtr mreads m 0 ((0 : Int32), (0 : Int32)) ((m.1, (0 : Int32), (0 : Int32), m.2.2.2.1, m.2.2.2.2.1, m.2.2.2.2.2) : MT) := ⟨cR, 0, hcR, by omega, hlc, hmt, hrd, rfl, rfl, rfl, .inl rfl, rfl, rfl⟩
  obtain ⟨tag, v, vals', lowr', s', rpl', rraw', c', dn, g, m', mpl', mpass', mraw', A', p1, p2, p3, f1, f2, f3, f4, f5, f6⟩ := dec_loop (st := st) (k := k) (msam := msam) (a := min b (np P)) hW hH hk hP (Nat.min_le_right _ _) (nI b) (by rw [pt1]; exact km1) (nI P, c0.1, c0.2.1, c0.2.2) rfl (min b (np P)) 0 kBig kBig v0 l0 rpl rraw c0 ((0 : Int32), (0 : Int32)) mpl mpass mraw ((m.1, (0 : Int32), (0 : Int32), m.2.2.2.1, m.2.2.2.2.1, m.2.2.2.2.2) : MT) A0 moszs mwbls molws
    (by omega) (by have := Nat.min_le_right b (np P); unfold kBig; omega) (by have := Nat.min_le_right b (np P); unfold kBig; omega) rfl (fun _ => by unfold PS; rw [if_pos rfl]; exact hB) (BGN_KV hB) hVK hT0
  rw [nI_0] at f1 f2
  obtain ⟨mv, ml, e6, h6⟩ := keepM (lak := m'.2.2.1) (sz := A'.1) (be := A'.2.1) (lo := A'.2.2.2.2.2) (o1 := p1) (o2 := p2) (o3 := p3) (v := mrvas) (l := mrlos)
  have n1 : ¬ nI P < 0 := nI_pos (by omega)
  have n2 : ¬ (15 : Int32) < nI P := nI_nlt (a := 15) (b := P) hP (by omega)
  have n3 : 0 ≤ nI b := nI_pos' hb
  unfold f_B_decode f_M_decode
  rw [if_neg n1, if_neg n2, if_pos n3, if_neg n1, if_neg n2, if_pos n3, Option.bind_some, if_pos (show (0 : Int32) ≤ 0 by decide), pt1, pt2, km1, km2, Option.bind_some, e3, Option.bind_some, e4, Option.bind_some]
  dsimp only at f1 f2 ⊢
  rw [e5, Option.bind_some, show (f_L_rewind).1 = (0 : Int32) from rfl, show (f_L_rewind).2 = (0 : Int32) from rfl]
  dsimp only
  rw [f1, Option.bind_some, f2, Option.bind_some]
  dsimp only
  rw [e6, Option.bind_some]
  have hfin : ∀ x y, x < W → y < Hh → vals' (ic W x y) = mv (ir x y) ∧ lowr' (ic W x y) = ml (ir x y) := by
    intro x y hx hy
    obtain ⟨q1, q2⟩ := f3 x y hx hy
    obtain ⟨z1, z2⟩ := h6 _ (show ir x y < 256 from ir_lt (by omega) (by omega))
    exact ⟨q1.trans z1.symm, q2.trans z2.symm⟩
  have g6 : m'.2.2.2.1 = m.2.2.2.1 ∧ m'.2.2.2.2.1 = m.2.2.2.2.1 ∧ m'.2.2.2.2.2 = m.2.2.2.2.2 := ⟨congrArg (·.1) f6, congrArg (·.2.1) f6, congrArg (·.2.2) f6⟩
  rw [f5, g6.1, g6.2.1, g6.2.2]
  refine ⟨(if tag = 0 then nI (min b (np P)) else if tag = 1 then v else (-1 : Int32) - v), vals', lowr', s'.1, s'.2, nI P, rpl', rraw', c', m'.2.1, m'.2.2.1, mpl', mpass', mraw', A', p1, p2, p3, mv, ml, ?_, ?_, hfin⟩
  · by_cases h0 : tag = 0
    · rw [if_pos h0, if_pos h0]
    · rw [if_neg h0, if_neg h0]
      by_cases h1 : tag = 1
      · rw [if_pos h1, if_pos h1]
      · rw [if_neg h1, if_neg h1]
  · rw [f4]
    by_cases h0 : m'.2.2.1 = 0
    · rw [if_pos h0, if_pos h0]
      by_cases h1 : g = 0
      · rw [if_pos h1, if_pos h1]
      · rw [if_neg h1, if_neg h1]
    · rw [if_neg h0, if_neg h0]

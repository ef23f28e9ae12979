/-! PURE: planes of the samples, squares -/
def SB (v : Int32) : Prop := (-32767 : Int32) ≤ v ∧ v ≤ (32767 : Int32)
theorem SB_0 : SB 0 := by unfold SB; decide
theorem kabs_nat {v : Int32} (h : SB v) : ∃ w : Nat, w ≤ 32767 ∧ kabs v = nI w := by
  obtain ⟨h1, h2⟩ := h
  have t1 := Int32.le_iff_toInt_le.mp h1
  have t2 := Int32.le_iff_toInt_le.mp h2
  have e1 : (-32767 : Int32).toInt = -32767 := by decide
  have e2 : (32767 : Int32).toInt = 32767 := by decide
  have e0 : (0 : Int32).toInt = 0 := by decide
  rw [e1] at t1
  rw [e2] at t2
  unfold kabs
  by_cases h0 : 0 ≤ v
  · rw [if_pos h0]
    have t0 := Int32.le_iff_toInt_le.mp h0
    exact nI_of2 (M := 32767) e2 (fun q => by have := Int32.lt_iff_toInt_lt.mp q; omega) h2
  · rw [if_neg h0, Int32.zero_sub]
    have t0 : ¬ (0 : Int32).toInt ≤ v.toInt := fun q => h0 (Int32.le_iff_toInt_le.mpr q)
    rw [e0] at t0
    have t3 : (-v).toInt = -v.toInt := by
      rw [Int32.toInt_neg]
      exact Int.bmod_eq_of_le (by omega) (by omega)
    refine nI_of2 (M := 32767) e2 (fun q => ?_) (Int32.le_iff_toInt_le.mpr ?_)
    · have := Int32.lt_iff_toInt_lt.mp q
      rw [t3, e0] at this; omega
    · rw [t3, e2]; omega
theorem SB_bt {v : Int32} (h : SB v) {j : Nat} (hj : 15 ≤ j) : bt (kabs v) j = false := by
  obtain ⟨w, hw, e⟩ := kabs_nat h
  rw [e]
  unfold bt
  rw [← BitVec.testBit_toNat, pk_tn (by omega)]
  refine Nat.testBit_lt_two_pow (Nat.lt_of_lt_of_le (show w < 2 ^ 15 by omega) (Nat.pow_le_pow_right (by omega) hj))
/-- the samples of both -/
def SOK (W Hh : Nat) (sam msam : Nat → Int32) : Prop := SAM W Hh sam msam ∧ OZ W Hh sam msam ∧ ∀ x y, x < W → y < Hh → SB (sam (ic W x y))
theorem fd_bt {g : Nat → Int32} {j : Nat} : ∀ (k i : Nat) (a : Int32), bt a j = false → (∀ q, i ≤ q → q < i + k → bt (g q) j = false) → bt (fd (fun a i => a ||| g i) k i a) j = false := by
  intro k
  induction k with
  | zero => intro i a ha _; exact ha
  | succ k ih =>
    intro i a ha h
    rw [fd]
    refine ih (i + 1) _ ?_ (fun q h1 h2 => h q (by omega) (by omega))
    rw [b_or, ha, h i (Nat.le_refl _) (by omega)]; rfl
theorem pl4_C {sam : Nat → Int32} {n : Nat} (hn : n < 2 ^ 31) : ∀ (d v N : Nat) (a : Int32), v + d = n → d < N → f_B_planesOfSamples_L4 sam n N a (nI v) = some (fd (fun a i => a ||| kabs (sam i)) d v a, nI n) := by
  intro d
  induction d with
  | zero =>
    intro v N a hv hN
    obtain rfl : v = n := by omega
    obtain ⟨N, rfl⟩ : ∃ q, N = q + 1 := ⟨N - 1, by omega⟩
    rw [f_B_planesOfSamples_L4, if_pos (nI_le (Nat.le_refl _) hn)]; rfl
  | succ d ih =>
    intro v N a hv hN
    obtain ⟨N, rfl⟩ : ∃ q, N = q + 1 := ⟨N - 1, by omega⟩
    rw [f_B_planesOfSamples_L4, if_neg (nI_ge (by omega) hn), pc_ok (by omega) hn, nI_clamp (by omega), nI_1, ih (v + 1) N _ (by omega) (by omega)]; rfl
theorem pl4_M {msam : Nat → Int32} : ∀ (d v N : Nat) (a : Int32), v + d = 256 → d < N → f_M_planes_L4 msam 256 N a (nI v) = some (fd (fun a i => a ||| kabs (msam i)) d v a, nI 256) := by
  intro d
  induction d with
  | zero =>
    intro v N a hv hN
    obtain rfl : v = 256 := by omega
    obtain ⟨N, rfl⟩ : ∃ q, N = q + 1 := ⟨N - 1, by omega⟩
    rw [f_M_planes_L4, if_pos (by decide)]; rfl
  | succ d ih =>
    intro v N a hv hN
    obtain ⟨N, rfl⟩ : ∃ q, N = q + 1 := ⟨N - 1, by omega⟩
    rw [f_M_planes_L4, if_neg (show ¬ (256 : Int32) ≤ nI v from nI_ge (a := v) (b := 256) (by omega) (by omega)), M_sizeOf_ok (by omega) (by decide), Option.bind_some, nI_1, ih (v + 1) N _ (by omega) (by omega)]; rfl
/-- one more than the highest bit below v -/
def hb (O : Int32) : Nat → Nat
  | 0 => 0
  | v + 1 => if bt O v then v + 1 else hb O v
theorem hb_le (O : Int32) : ∀ v, hb O v ≤ v := by
  intro v
  induction v with
  | zero => exact Nat.le_refl _
  | succ v ih =>
    unfold hb
    by_cases h : bt O v = true
    · rw [if_pos h]; omega
    · rw [if_neg h]; omega
theorem hb_hi (O : Int32) : ∀ v i, hb O v ≤ i → i < v → bt O i = false := by
  intro v
  induction v with
  | zero => intro i _ h; omega
  | succ v ih =>
    intro i h1 h2
    unfold hb at h1
    by_cases h : bt O v = true
    · rw [if_pos h] at h1; omega
    · rw [if_neg h] at h1
      by_cases hq : i = v
      · subst hq; simpa using h
      · exact ih i h1 (by omega)
theorem hb_at (O : Int32) : ∀ v, 0 < hb O v → bt O (hb O v - 1) = true := by
  intro v
  induction v with
  | zero => intro h; unfold hb at h; omega
  | succ v ih =>
    intro h0
    unfold hb at h0 ⊢
    by_cases h : bt O v = true
    · rw [if_pos h]; exact h
    · rw [if_neg h] at h0 ⊢; exact ih h0
theorem pl35_ok {u1 : Int32 × Int32} : ∀ (d v N : Nat), v + d = 15 → d < N → f_B_planesOfSamples_L35 u1 N (nI (hb u1.1 v)) (nI v) = some (nI (hb u1.1 15), nI 15) := by
  intro d
  induction d with
  | zero =>
    intro v N hv hN
    obtain rfl : v = 15 := by omega
    obtain ⟨N, rfl⟩ : ∃ q, N = q + 1 := ⟨N - 1, by omega⟩
    rw [f_B_planesOfSamples_L35, if_pos (by decide)]
  | succ d ih =>
    intro v N hv hN
    obtain ⟨N, rfl⟩ : ∃ q, N = q + 1 := ⟨N - 1, by omega⟩
    have e := ih (v + 1) N (by omega) (by omega)
    rw [f_B_planesOfSamples_L35, if_neg (show ¬ (15 : Int32) ≤ nI v from nI_ge (a := v) (b := 15) (by omega) (by omega)), and1_bI, b_sshr v (by omega) _ (by omega), if_pos (show v + 0 < 32 by omega), nI_1, show v + 0 = v from rfl]
    rw [← e, show hb u1.1 (v + 1) = if bt u1.1 v then v + 1 else hb u1.1 v from rfl]
    cases bt u1.1 v with
    | true => rw [if_pos bI_tt, if_pos rfl, Option.bind_some]
    | false => rw [if_neg (show ¬ bI false = 1 by decide), if_neg (by decide), Option.bind_some]
theorem pl27_ok {u1 : Int32 × Int32} {P : Nat} (hP : P ≤ 15) (h1 : ∀ i, P ≤ i → i < 32 → bt u1.1 i = false) (h2 : 0 < P → bt u1.1 (P - 1) = true) : ∀ (d v N : Nat), v + d = P → d < N → f_M_planes_L27 u1 N (nI v) = some (nI P) := by
  intro d
  induction d with
  | zero =>
    intro v N hv hN
    obtain rfl : v = P := by omega
    obtain ⟨N, rfl⟩ : ∃ q, N = q + 1 := ⟨N - 1, by omega⟩
    rw [f_M_planes_L27, if_pos]
    refine b_ext (fun i hi => ?_)
    rw [b_sshr v (by omega) _ hi, b_0]
    by_cases hq : v + i < 32
    · rw [if_pos hq]; exact h1 _ (by omega) hq
    · rw [if_neg hq]; exact h1 31 (by omega) (by omega)
  | succ d ih =>
    intro v N hv hN
    obtain ⟨N, rfl⟩ : ∃ q, N = q + 1 := ⟨N - 1, by omega⟩
    rw [f_M_planes_L27, if_neg, nI_1]
    · exact ih (v + 1) N (by omega) (by omega)
    · intro q
      have h3 := b_sshr v (by omega) u1.1 (show P - 1 - v < 32 by omega)
      rw [q, b_0, if_pos (by omega), show v + (P - 1 - v) = P - 1 by omega, h2 (by omega)] at h3
      cases h3
theorem planes_ok {W Hh : Nat} {sam msam : Nat → Int32} (hW : W ≤ 16) (hH : Hh ≤ 16) (h : SOK W Hh sam msam) : ∃ P, P ≤ 15 ∧ f_B_planesOfSamples sam ((W + 2) * (Hh + 2)) = some (nI P) ∧ f_M_planes msam 256 = some (nI P) := by
  have hn := nC_le hW hH
  obtain ⟨hM, hZ, hB⟩ := h
  have k0 : kabs 0 = 0 := by decide
  have ef : fd (fun a i => a ||| kabs (sam i)) ((W + 2) * (Hh + 2)) 0 0 = fd (fun a i => a ||| kabs (msam i)) 256 0 (0 : Int32) := by
    refine fd_both 0 hW hH (fun i hi hq b => ?_) (fun s hs hq b => ?_) (fun x y hx hy b => ?_)
    · rw [hZ.1 i hi hq, k0, Int32.or_zero]
    · rw [hZ.2 s hs hq, k0, Int32.or_zero]
    · rw [hM x y hx hy]
  have e1 := pl4_C (sam := sam) (n := (W + 2) * (Hh + 2)) (by omega) ((W + 2) * (Hh + 2)) 0 kBig 0 (by omega) (by unfold kBig; omega)
  have e2 := pl4_M (msam := msam) 256 0 kBig 0 (by omega) (by decide)
  rw [nI_0] at e1 e2
  have hb15 : ∀ j, 15 ≤ j → bt (fd (fun a i => a ||| kabs (sam i)) ((W + 2) * (Hh + 2)) 0 (0 : Int32)) j = false := by
    intro j hj
    refine fd_bt _ _ _ (b_0 j) (fun q _ hq => ?_)
    by_cases hi : ∃ x y, x < W ∧ y < Hh ∧ q = ic W x y
    · obtain ⟨x, y, hx, hy, rfl⟩ := hi
      exact SB_bt (hB x y hx hy) hj
    · rw [hZ.1 q (by omega) (fun x y hx hy e => hi ⟨x, y, hx, hy, e⟩)]
      exact SB_bt SB_0 hj
  unfold f_B_planesOfSamples f_M_planes
  rw [e1, Option.bind_some, e2, Option.bind_some, ← ef]
  have e3 := pl35_ok (u1 := (fd (fun a i => a ||| kabs (sam i)) ((W + 2) * (Hh + 2)) 0 (0 : Int32), nI ((W + 2) * (Hh + 2)))) 15 0 kBig (by omega) (by decide)
  rw [show hb _ 0 = 0 from rfl, nI_0] at e3
  have e4 := pl27_ok (u1 := (fd (fun a i => a ||| kabs (sam i)) ((W + 2) * (Hh + 2)) 0 (0 : Int32), nI 256)) (P := hb (fd (fun a i => a ||| kabs (sam i)) ((W + 2) * (Hh + 2)) 0 (0 : Int32)) 15) (hb_le _ 15) (fun i h1 h2 => by
      by_cases hi : i < 15
      · exact hb_hi _ 15 i h1 hi
      · exact hb15 i (by omega)) (hb_at _ 15) (hb (fd (fun a i => a ||| kabs (sam i)) ((W + 2) * (Hh + 2)) 0 (0 : Int32)) 15) 0 kBig (by omega) (by have := hb_le (fd (fun a i => a ||| kabs (sam i)) ((W + 2) * (Hh + 2)) 0 (0 : Int32)) 15; unfold kBig; omega)
  rw [nI_0] at e4
  rw [e3, Option.bind_some, e4, Option.bind_some]
  exact ⟨_, hb_le _ 15, rfl, rfl⟩
/-! squares -/
def sq (sam siz : Nat → Int32) (a : Int64) (i : Nat) : Int64 := a + ((kabs (sam i)) - (siz i)).toInt64 * ((kabs (sam i)) - (siz i)).toInt64
theorem sq_C {sam siz : Nat → Int32} {n : Nat} (hn : n < 2 ^ 31) : ∀ (d v N : Nat) (a : Int64), v + d = n → d < N → f_B_squaresNotTold_L4 sam siz n n N a (nI v) = some (fd (sq sam siz) d v a, nI n) := by
  intro d
  induction d with
  | zero =>
    intro v N a hv hN
    obtain rfl : v = n := by omega
    obtain ⟨N, rfl⟩ : ∃ q, N = q + 1 := ⟨N - 1, by omega⟩
    rw [f_B_squaresNotTold_L4, if_pos (nI_le (Nat.le_refl _) hn)]; rfl
  | succ d ih =>
    intro v N a hv hN
    obtain ⟨N, rfl⟩ : ∃ q, N = q + 1 := ⟨N - 1, by omega⟩
    rw [f_B_squaresNotTold_L4, if_neg (nI_ge (by omega) hn), pc_ok (by omega) hn, pc_ok (by omega) hn, nI_clamp (by omega), nI_1, ih (v + 1) N _ (by omega) (by omega)]; rfl
theorem sq_M {msam : Nat → Int32} {n : Nat} {u5 : Int32 × Int32 × Int32 × Int32 × Int32 × Int32 × Int32 × (Nat → Int32) × (Nat → Int32) × (Nat → Int32) × (Nat → Int32) × (Nat → Int32) × (Nat → Int32) × (Nat → Int32) × (Nat → Int32) × (Nat → Int32)} (hn : n < 43) :
    ∀ (d v N : Nat) (g : Nat → Int64), v + d = 256 → d < N → ∃ w g', f_M_encode_L69 msam 256 43 256 (nI n) u5 N (nI v) g = some (w, g') ∧ g' n = fd (sq msam u5.2.2.2.2.2.2.2.2.2.2.1) d v (g n) ∧ ∀ j, j ≠ n → g' j = g j := by
  intro d
  induction d with
  | zero =>
    intro v N g hv hN
    obtain rfl : v = 256 := by omega
    obtain ⟨N, rfl⟩ : ∃ q, N = q + 1 := ⟨N - 1, by omega⟩
    exact ⟨_, g, by rw [f_M_encode_L69, if_pos (by decide)], rfl, fun _ _ => rfl⟩
  | succ d ih =>
    intro v N g hv hN
    obtain ⟨N, rfl⟩ : ∃ q, N = q + 1 := ⟨N - 1, by omega⟩
    rw [f_M_encode_L69, if_neg (show ¬ (256 : Int32) ≤ nI v from nI_ge (a := v) (b := 256) (by omega) (by omega)), M_sizeOf_ok (by omega) (by decide), Option.bind_some, pc_ok (show v < 256 by omega) (by decide), pc_ok hn (by decide), pc_ok hn (by decide), cl_ok hn (by decide), nI_clamp (show v < 2 ^ 31 by omega), nI_1]
    obtain ⟨w, g', e, h1, h2⟩ := ih (v + 1) N (vp_updL g n (g n + (kabs (msam v) - u5.2.2.2.2.2.2.2.2.2.2.1 v).toInt64 * (kabs (msam v) - u5.2.2.2.2.2.2.2.2.2.2.1 v).toInt64)) (by omega) (by omega)
    refine ⟨w, g', e, ?_, fun j hj => (h2 j hj).trans (pk_uLn hj)⟩
    rw [h1, pk_uLs]; rfl
theorem sq_both {W Hh : Nat} {sam msam siz ms : Nat → Int32} (hW : W ≤ 16) (hH : Hh ≤ 16) (h : SOK W Hh sam msam) (hZ : OZ W Hh siz ms) (he : ∀ x y, x < W → y < Hh → siz (ic W x y) = ms (ir x y)) :
    fd (sq sam siz) ((W + 2) * (Hh + 2)) 0 0 = fd (sq msam ms) 256 0 0 := by
  have k0 : ((kabs 0 - 0 : Int32)).toInt64 * ((kabs 0 - 0 : Int32)).toInt64 = 0 := by decide
  refine fd_both 0 hW hH (fun i hi hq b => ?_) (fun s hs hq b => ?_) (fun x y hx hy b => ?_)
  · unfold sq; rw [h.2.1.1 i hi hq, hZ.1 i hi hq, k0, Int64.add_zero]
  · unfold sq; rw [h.2.1.2 s hs hq, hZ.2 s hs hq, k0, Int64.add_zero]
  · unfold sq; rw [h.1 x y hx hy, he x y hx hy]
theorem squares_C {sam siz : Nat → Int32} {n : Nat} (hn : n ≤ 324) : f_B_squaresNotTold sam siz n n = some (fd (sq sam siz) n 0 0) := by
  have := sq_C (sam := sam) (siz := siz) (n := n) (by omega) n 0 kBig 0 (by omega) (by unfold kBig; omega)
  rw [nI_0] at this
  unfold f_B_squaresNotTold
  rw [this, Option.bind_some]

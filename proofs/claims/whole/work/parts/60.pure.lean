/-! PURE: beginning, folds over the block, planes, squares -/
theorem fill_loop {n : Nat} {v : Int32} (hn : n < 2 ^ 31) : ∀ (d i N : Nat) (row : Nat → Int32), i + d = n → d < N → (∀ j, j < i → row j = v) → ∃ w row', f_FI_fillWith_L2 n v N (nI i) row = some (w, row') ∧ ∀ j, j < n → row' j = v := by
  intro d
  induction d with
  | zero =>
    intro i N row hi hN h
    obtain rfl : i = n := by omega
    obtain ⟨N, rfl⟩ : ∃ q, N = q + 1 := ⟨N - 1, by omega⟩
    exact ⟨_, row, by rw [f_FI_fillWith_L2, if_pos (nI_le (Nat.le_refl _) hn)], h⟩
  | succ d ih =>
    intro i N row hi hN h
    obtain ⟨N, rfl⟩ : ∃ q, N = q + 1 := ⟨N - 1, by omega⟩
    rw [f_FI_fillWith_L2, if_neg (nI_ge (by omega) hn), pc_ok (by omega) hn, nI_clamp (by omega), nI_1]
    refine ih (i + 1) N _ (by omega) (by omega) (fun j hj => ?_)
    by_cases hq : j = i
    · subst hq; exact pk_us
    · rw [pk_un hq]; exact h j (by omega)
theorem fill_ok {n : Nat} {v : Int32} {row : Nat → Int32} (hn : n ≤ 324) : ∃ row', f_FI_fillWith row n v = some row' ∧ ∀ j, j < n → row' j = v := by
  obtain ⟨w, row', e, h⟩ := fill_loop (v := v) (show n < 2 ^ 31 by omega) n 0 kBig row (by omega) (by unfold kBig; omega) (fun j hj => by omega)
  rw [nI_0] at e
  exact ⟨row', by unfold f_FI_fillWith; rw [e, Option.bind_some], h⟩
def BZ (P : Nat) (A : RA) (s : Nat) : Prop := A.1 s = 0 ∧ A.2.1 s = 0 ∧ A.2.2.1 s = -1 ∧ A.2.2.2.1 s = 0 ∧ A.2.2.2.2.1 s = 0 ∧ A.2.2.2.2.2 s = nI P
theorem beg_loop {P : Nat} : ∀ (d v N : Nat) (A : RA), v + d = 256 → d < N → (∀ s, s < v → BZ P A s) → ∃ w A', f_M_begin_L2 256 256 256 256 256 256 (nI P) N (nI v) A.1 A.2.1 A.2.2.1 A.2.2.2.1 A.2.2.2.2.1 A.2.2.2.2.2 = some (w, A'.1, A'.2.1, A'.2.2.1, A'.2.2.2.1, A'.2.2.2.2.1, A'.2.2.2.2.2) ∧ ∀ s, s < 256 → BZ P A' s := by
  intro d
  induction d with
  | zero =>
    intro i N A hi hN h
    obtain rfl : i = 256 := by omega
    obtain ⟨N, rfl⟩ : ∃ q, N = q + 1 := ⟨N - 1, by omega⟩
    exact ⟨_, A, by rw [f_M_begin_L2, if_pos (by decide)], h⟩
  | succ d ih =>
    intro i N A hi hN h
    obtain ⟨N, rfl⟩ : ∃ q, N = q + 1 := ⟨N - 1, by omega⟩
    have hi2 : i < 256 := by omega
    rw [f_M_begin_L2, if_neg (show ¬ (256 : Int32) ≤ nI i from nI_ge (a := i) (b := 256) (by omega) (by omega)), pc_ok hi2 (by decide), pc_ok hi2 (by decide), pc_ok hi2 (by decide), pc_ok hi2 (by decide), pc_ok hi2 (by decide), pc_ok hi2 (by decide), cl_ok hi2 (by decide), nI_1]
    refine ih (i + 1) N (upd A.1 i 0, upd A.2.1 i 0, upd A.2.2.1 i (-1), upd A.2.2.2.1 i 0, upd A.2.2.2.2.1 i 0, upd A.2.2.2.2.2 i (nI P)) (by omega) (by omega) (fun j hj => ?_)
    by_cases hq : j = i
    · subst hq; exact ⟨pk_us, pk_us, pk_us, pk_us, pk_us, pk_us⟩
    · obtain ⟨h1, h2, h3, h4, h5, h6⟩ := h j (by omega)
      exact ⟨(pk_un hq).trans h1, (pk_un hq).trans h2, (pk_un hq).trans h3, (pk_un hq).trans h4, (pk_un hq).trans h5, (pk_un hq).trans h6⟩
theorem beg_M {P : Nat} (A : RA) : ∃ A', f_M_begin A.1 A.2.1 A.2.2.1 A.2.2.2.1 A.2.2.2.2.1 A.2.2.2.2.2 256 256 256 256 256 256 (nI P) = some (A'.1, A'.2.1, A'.2.2.1, A'.2.2.2.1, A'.2.2.2.2.1, A'.2.2.2.2.2) ∧ ∀ s, s < 256 → BZ P A' s := by
  obtain ⟨w, A', e, h⟩ := beg_loop (P := P) 256 0 kBig A (by omega) (by decide) (fun j hj => by omega)
  rw [nI_0] at e
  exact ⟨A', by unfold f_M_begin; rw [e, Option.bind_some], h⟩
def CZ (n P : Nat) (c : CA) : Prop := ∀ i, i < n → c.1 i = 0 ∧ c.2.1 i = 0 ∧ c.2.2 i = nI P
theorem beg_T {n P : Nat} {sgn siz low : Nat → Int32} (hn : n ≤ 324) : ∃ c' : CA, f_WT_begin sgn siz low n n n (nI P) = some (nI P, c'.1, c'.2.1, c'.2.2) ∧ CZ n P c' := by
  obtain ⟨r1, e1, h1⟩ := fill_ok (v := 0) (row := sgn) hn
  obtain ⟨r2, e2, h2⟩ := fill_ok (v := 0) (row := siz) hn
  obtain ⟨r3, e3, h3⟩ := fill_ok (v := nI P) (row := low) hn
  exact ⟨(r1, r2, r3), by unfold f_WT_begin; rw [e1, Option.bind_some, e2, Option.bind_some, e3, Option.bind_some], fun i hi => ⟨h1 i hi, h2 i hi, h3 i hi⟩⟩
theorem beg_L {n P : Nat} {sgn siz low : Nat → Int32} (hn : n ≤ 324) : ∃ c' : CA, f_WL_begin sgn siz low n n n (nI P) = some (nI P, c'.1, c'.2.1, c'.2.2) ∧ CZ n P c' := by
  obtain ⟨r1, e1, h1⟩ := fill_ok (v := 0) (row := sgn) hn
  obtain ⟨r2, e2, h2⟩ := fill_ok (v := 0) (row := siz) hn
  obtain ⟨r3, e3, h3⟩ := fill_ok (v := nI P) (row := low) hn
  exact ⟨(r1, r2, r3), by unfold f_WL_begin; rw [e1, Option.bind_some, e2, Option.bind_some, e3, Option.bind_some], fun i hi => ⟨h1 i hi, h2 i hi, h3 i hi⟩⟩
theorem BGN_of {W Hh P : Nat} {c : CA} {A : RA} (hW : W ≤ 16) (hH : Hh ≤ 16) (hc : CZ ((W + 2) * (Hh + 2)) P c) (hA : ∀ s, s < 256 → BZ P A s) : BGN W Hh P c A := by
  refine ⟨⟨?_, ?_, ?_⟩, ?_, ?_, ?_⟩
  · intro x y hx hy
    rw [(hc _ (ic_lt hx hy)).1]
    exact (rS_0.mpr (hA _ (ir_lt (by omega) (by omega))).2.2.1).symm
  · intro Y hY
    exact ⟨(hc _ (ps_lt (X := 0) (by omega) hY)).1, (hc _ (ps_lt (by omega) hY)).1⟩
  · intro X hX
    have := (hc _ (ps_lt (W := W) (Hh := Hh) (Y := 0) hX (by omega))).1
    rw [Nat.zero_mul, Nat.zero_add] at this
    exact ⟨this, (hc _ (ps_lt hX (by omega))).1⟩
  · intro x y hx hy
    obtain ⟨c1, c2, c3⟩ := hc _ (ic_lt hx hy)
    obtain ⟨a1, a2, a3, a4, a5, a6⟩ := hA _ (show ir x y < 256 from ir_lt (by omega) (by omega))
    exact ⟨c2.trans a1.symm, c3.trans a6.symm, a3, a2, a1, a6, a5⟩
  · intro i hi _; exact (hc i hi).2.1
  · intro s hs _; exact (hA s hs).1
theorem sumN_c {n k : Nat} {f : Nat → Nat} (h : ∀ i, i < n → f i ≤ k) : sumN n f ≤ n * k := by
  induction n with
  | zero => exact Nat.zero_le _
  | succ n ih =>
    have h1 := ih (fun i hi => h i (by omega))
    have h2 := h n (by omega)
    unfold sumN
    rw [Nat.succ_mul]; omega
theorem S2_c {W H k : Nat} {f : Nat → Nat → Nat} (h : ∀ x y, x < W → y < H → f x y ≤ k) : S2 W H f ≤ H * (W * k) := sumN_c (fun y hy => sumN_c (fun x hx => h x y hx hy))
theorem room_tab : ∀ W, W < 17 → ∀ H, H < 17 → ∀ P, P < 16 → H * (W * (P + 1)) + (H / 4) * (W * 2) + 4 * P ≤ W * H * 17 + 60 := by decide +kernel
theorem Phi_beg {W Hh P : Nat} {c : CA} (hW : W ≤ 16) (hH : Hh ≤ 16) (hP : P ≤ 15) (hc : CZ ((W + 2) * (Hh + 2)) P c) : Phi W Hh c + 4 * P ≤ W * Hh * 17 + 60 := by
  have h1 : S2 W Hh (g1 W c) ≤ Hh * (W * (P + 1)) := by
    refine S2_c (fun x y hx hy => ?_)
    obtain ⟨c1, c2, c3⟩ := hc _ (ic_lt hx hy)
    unfold g1
    rw [c3, nI_clamp (by omega)]
    by_cases hq : c.1 (ic W x y) = 0
    · rw [if_pos hq]; omega
    · rw [if_neg hq]; omega
  have h2 : S2 W (Hh / 4) (g2 W c) ≤ (Hh / 4) * (W * 2) := by
    refine S2_c (fun x y hx hy => ?_)
    unfold g2
    by_cases hq : (c.1 (ic W x (4 * y)) = 0 ∧ c.1 (ic W x (4 * y + 1)) = 0 ∧ c.1 (ic W x (4 * y + 2)) = 0 ∧ c.1 (ic W x (4 * y + 3)) = 0)
    · rw [if_pos hq]; omega
    · rw [if_neg hq]; omega
  have h3 := room_tab W (by omega) Hh (by omega) P (by omega)
  unfold Phi; omega
/-! folds -/
def fd {α : Type} (op : α → Nat → α) : Nat → Nat → α → α
  | 0, _, a => a
  | k + 1, i, a => fd op k (i + 1) (op a i)
theorem fd_skip {α : Type} {op : α → Nat → α} : ∀ (k i : Nat) (a : α), (∀ j, i ≤ j → j < i + k → ∀ b, op b j = b) → fd op k i a = a := by
  intro k
  induction k with
  | zero => intro i a _; rfl
  | succ k ih =>
    intro i a h
    rw [fd, h i (Nat.le_refl _) (by omega)]
    exact ih (i + 1) a (fun j h1 h2 => h j (by omega) (by omega))
theorem fd_add {α : Type} {op : α → Nat → α} : ∀ (k l i : Nat) (a : α), fd op (k + l) i a = fd op l (i + k) (fd op k i a) := by
  intro k
  induction k with
  | zero => intro l i a; rw [Nat.zero_add]; rfl
  | succ k ih =>
    intro l i a
    rw [show k + 1 + l = (k + l) + 1 by omega, fd, ih, fd, show i + 1 + k = i + (k + 1) by omega]
theorem fd_eq {α : Type} {op op' : α → Nat → α} : ∀ (k i i' : Nat) (a : α), (∀ j, j < k → ∀ b, op b (i + j) = op' b (i' + j)) → fd op k i a = fd op' k i' a := by
  intro k
  induction k with
  | zero => intro i i' a _; rfl
  | succ k ih =>
    intro i i' a h
    have h0 := h 0 (by omega) a
    rw [Nat.add_zero, Nat.add_zero] at h0
    rw [fd, fd, h0]
    refine ih (i + 1) (i' + 1) _ (fun j hj b => ?_)
    have := h (j + 1) (by omega) b
    rw [show i + 1 + j = i + (j + 1) by omega, show i' + 1 + j = i' + (j + 1) by omega]
    exact this
theorem fd_rows {α : Type} {op : α → Nat → α} {S : Nat} : ∀ (R Y : Nat) (a : α), fd op (R * S) (Y * S) a = fd (fun a Y => fd op S (Y * S) a) R Y a := by
  intro R
  induction R with
  | zero => intro Y a; rw [Nat.zero_mul]; rfl
  | succ R ih =>
    intro Y a
    rw [Nat.succ_mul, Nat.add_comm (R * S) S, fd_add, fd, ← ih (Y + 1), Nat.succ_mul]
/-- a fold over the class's cells is one over the block -/
theorem fd_cls {α : Type} {W Hh : Nat} {op : α → Nat → α} (a : α) (hz : ∀ i, i < (W + 2) * (Hh + 2) → (∀ x y, x < W → y < Hh → i ≠ ic W x y) → ∀ b, op b i = b) :
    fd op ((W + 2) * (Hh + 2)) 0 a = fd (fun a y => fd (fun a x => op a (ic W x y)) W 0 a) Hh 0 a := by
  have hb : ∀ X Y, X ≤ W + 1 → Y ≤ Hh + 1 → (X = 0 ∨ X = W + 1 ∨ Y = 0 ∨ Y = Hh + 1) → ∀ b, op b (Y * (W + 2) + X) = b := by
    intro X Y hX hY hq b
    refine hz _ (ps_lt hX hY) (fun x y hx hy q => ?_) b
    have := ps_inj (S := W + 2) (show X < W + 2 by omega) (show x + 1 < W + 2 by omega) q
    omega
  have e := fd_rows (op := op) (S := W + 2) (Hh + 2) 0 a
  rw [Nat.zero_mul] at e
  rw [Nat.mul_comm, e, show Hh + 2 = 1 + (Hh + 1) by omega, fd_add, fd_add]
  rw [fd_skip (op := fun a Y => fd op (W + 2) (Y * (W + 2)) a) 1 0 a, fd_skip (op := fun a Y => fd op (W + 2) (Y * (W + 2)) a) 1 (0 + 1 + Hh)]
  · refine fd_eq Hh (0 + 1) 0 a (fun y hy b => ?_)
    rw [show W + 2 = 1 + (W + 1) by omega, fd_add, fd_add, fd_skip 1 _ b, fd_skip 1]
    · refine fd_eq W _ 0 b (fun x hx b' => ?_)
      rw [show 1 + (W + 1) = W + 2 by omega]
      show op b' ((0 + 1 + y) * (W + 2) + 1 + x) = op b' (ic W (0 + x) (0 + y))
      unfold ic
      rw [show 0 + 1 + y = y + 1 by omega, show 0 + y + 1 = y + 1 by omega, show (y + 1) * (W + 2) + 1 + x = (y + 1) * (W + 2) + (0 + x + 1) by omega]
    · intro j h1 h2 b'
      rw [show 1 + (W + 1) = W + 2 by omega] at h1 h2
      obtain rfl : j = (0 + 1 + y) * (W + 2) + (W + 1) := by omega
      exact hb (W + 1) (0 + 1 + y) (by omega) (by omega) (.inr (.inl rfl)) b'
    · intro j h1 h2 b'
      rw [show 1 + (W + 1) = W + 2 by omega] at h1 h2
      obtain rfl : j = (0 + 1 + y) * (W + 2) + 0 := by omega
      exact hb 0 (0 + 1 + y) (by omega) (by omega) (.inl rfl) b'
  · intro Y h1 h2 b
    obtain rfl : Y = Hh + 1 := by omega
    refine fd_skip _ _ _ (fun j h3 h4 b' => ?_)
    obtain ⟨X, rfl⟩ : ∃ X, j = (Hh + 1) * (W + 2) + X := ⟨j - (Hh + 1) * (W + 2), by omega⟩
    exact hb X (Hh + 1) (by omega) (by omega) (.inr (.inr (.inr rfl))) b'
  · intro Y h1 h2 b
    obtain rfl : Y = 0 := by omega
    refine fd_skip _ _ _ (fun j h3 h4 b' => ?_)
    rw [Nat.zero_mul] at h3 h4
    have := hb j 0 (by omega) (by omega) (.inr (.inr (.inl rfl))) b'
    rwa [Nat.zero_mul, Nat.zero_add] at this
/-- a fold over the reference's 256 places too -/
theorem fd_ref {α : Type} {W Hh : Nat} {op : α → Nat → α} (a : α) (hW : W ≤ 16) (hH : Hh ≤ 16) (hz : ∀ s, s < 256 → (∀ x y, x < W → y < Hh → s ≠ ir x y) → ∀ b, op b s = b) :
    fd op 256 0 a = fd (fun a y => fd (fun a x => op a (ir x y)) W 0 a) Hh 0 a := by
  have e := fd_rows (op := op) (S := 16) 16 0 a
  rw [Nat.zero_mul] at e
  obtain ⟨h', hh⟩ : ∃ h', 16 = Hh + h' := ⟨16 - Hh, by omega⟩
  obtain ⟨w', hw⟩ : ∃ w', 16 = W + w' := ⟨16 - W, by omega⟩
  rw [show (256 : Nat) = 16 * 16 from rfl, e]
  have e2 : fd (fun a Y => fd op 16 (Y * 16) a) 16 0 a = fd (fun a Y => fd op 16 (Y * 16) a) (Hh + h') 0 a := by rw [← hh]
  rw [e2, fd_add, fd_skip h']
  · refine fd_eq Hh 0 0 a (fun y hy b => ?_)
    have e3 : fd op 16 ((0 + y) * 16) b = fd op (W + w') ((0 + y) * 16) b := by rw [← hw]
    rw [e3, fd_add, fd_skip w']
    · refine fd_eq W _ 0 b (fun x hx b' => ?_)
      unfold ir
      rw [show (0 + y) * 16 + x = 16 * (0 + y) + (0 + x) by omega]
    · intro j h1 h2 b'
      refine hz j (by omega) (fun x y' hx hy' q => ?_) b'
      unfold ir at q; omega
  · intro Y h1 h2 b
    refine fd_skip _ _ _ (fun j h3 h4 b' => ?_)
    refine hz j (by omega) (fun x y' hx hy' q => ?_) b'
    unfold ir at q; omega
theorem fd_both {α : Type} {W Hh : Nat} {op op' : α → Nat → α} (a : α) (hW : W ≤ 16) (hH : Hh ≤ 16) (hz : ∀ i, i < (W + 2) * (Hh + 2) → (∀ x y, x < W → y < Hh → i ≠ ic W x y) → ∀ b, op b i = b) (hz' : ∀ s, s < 256 → (∀ x y, x < W → y < Hh → s ≠ ir x y) → ∀ b, op' b s = b)
    (he : ∀ x y, x < W → y < Hh → ∀ b, op b (ic W x y) = op' b (ir x y)) : fd op ((W + 2) * (Hh + 2)) 0 a = fd op' 256 0 a := by
  rw [fd_cls a hz, fd_ref a hW hH hz']
  refine fd_eq Hh 0 0 a (fun y hy b => ?_)
  refine fd_eq W 0 0 b (fun x hx b' => ?_)
  exact he (0 + x) (0 + y) (by omega) (by omega) b'

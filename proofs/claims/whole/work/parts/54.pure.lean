/-! PURE: what holds of a cell in a pass; the room for bits; one size told -/
def CK (k p : Nat) (fa be sz lo se rf : Int32) : Prop :=
  (be = 0 ∨ be = 1) ∧ (
   (fa = -1 ∧ sz = 0 ∧ rf = 0 ∧ lo = nI (p + 1) ∧ se = 0 ∧ k ≤ 2) ∨
   (fa = -1 ∧ sz = 0 ∧ rf = 0 ∧ lo = nI p ∧ (k = 3 ∨ (1 ≤ k ∧ ¬ se = 0))) ∨
   (fa = nI p ∧ sz = (1 : Int32) <<< (nI p &&& 31) ∧ rf = 0 ∧ lo = nI p ∧ 1 ≤ k) ∨
   (∃ f, p < f ∧ f < 15 ∧ fa = nI f ∧ bt sz f = true ∧ (f = p + 1 → sz = (1 : Int32) <<< (nI (p + 1) &&& 31) ∧ rf = 0) ∧ (p + 1 < f → ¬ rf = 0) ∧ lo = nI (p + 1) ∧ k ≤ 1) ∨
   (∃ f, p < f ∧ f < 15 ∧ fa = nI f ∧ bt sz f = true ∧ ¬ rf = 0 ∧ lo = nI p ∧ 2 ≤ k))
def vis (top x y x' y' : Nat) : Nat := if (y' < top ∨ (y' < top + 4 ∧ (x' < x ∨ (x' = x ∧ y' < y)))) then 1 else 0
/-- border of the class's sizes and what lies outside of the reference's: 0 -/
def OZ (W Hh : Nat) (siz ms : Nat → Int32) : Prop := (∀ i, i < (W + 2) * (Hh + 2) → (∀ x y, x < W → y < Hh → i ≠ ic W x y) → siz i = 0) ∧ (∀ s, s < 256 → (∀ x y, x < W → y < Hh → s ≠ ir x y) → ms s = 0)
def WI (W Hh κ p top x y : Nat) (c : CA) (A : RA) : Prop :=
  SG W Hh c.1 A.2.2.1 A.2.1 ∧ (∀ x' y', x' < W → y' < Hh → c.2.1 (ic W x' y') = A.1 (ir x' y') ∧ c.2.2 (ic W x' y') = A.2.2.2.2.2 (ir x' y') ∧
    CK (κ + vis top x y x' y') p (A.2.2.1 (ir x' y')) (A.2.1 (ir x' y')) (A.1 (ir x' y')) (A.2.2.2.2.2 (ir x' y')) (A.2.2.2.1 (ir x' y')) (A.2.2.2.2.1 (ir x' y'))) ∧ OZ W Hh c.2.1 A.1
theorem vis_at (top x y : Nat) (h : top ≤ y) : vis top x y x y = 0 := if_neg (by omega)
theorem WI_step {W Hh κ p top x y : Nat} {c c' : CA} {A A' : RA} (h : WI W Hh κ p top x y c A) (hW : W ≤ 16) (hx : x < W) (hy : y < Hh) (ht : top ≤ y) (ht4 : y < top + 4)
    (hc : ∀ i, i ≠ ic W x y → c'.1 i = c.1 i ∧ c'.2.1 i = c.2.1 i ∧ c'.2.2 i = c.2.2 i)
    (hA : ∀ s, s ≠ ir x y → A'.1 s = A.1 s ∧ A'.2.1 s = A.2.1 s ∧ A'.2.2.1 s = A.2.2.1 s ∧ A'.2.2.2.1 s = A.2.2.2.1 s ∧ A'.2.2.2.2.1 s = A.2.2.2.2.1 s ∧ A'.2.2.2.2.2 s = A.2.2.2.2.2 s)
    (hsg : c'.1 (ic W x y) = rS A'.2.2.1 A'.2.1 (ir x y)) (hsz : c'.2.1 (ic W x y) = A'.1 (ir x y)) (hlo : c'.2.2 (ic W x y) = A'.2.2.2.2.2 (ir x y))
    (hck : CK (κ + 1) p (A'.2.2.1 (ir x y)) (A'.2.1 (ir x y)) (A'.1 (ir x y)) (A'.2.2.2.2.2 (ir x y)) (A'.2.2.2.1 (ir x y)) (A'.2.2.2.2.1 (ir x y))) :
    WI W Hh κ p top x (y + 1) c' A' := by
  obtain ⟨⟨hS, hYb, hXb⟩, hC, hZ1, hZ2⟩ := h
  have nb : ∀ X Y, X ≤ W + 1 → (X = 0 ∨ X = W + 1 ∨ Y = 0 ∨ Y = Hh + 1) → Y * (W + 2) + X ≠ ic W x y := by
    intro X Y hX hb q
    have := ps_inj (S := W + 2) (show X < W + 2 by omega) (show x + 1 < W + 2 by omega) q
    omega
  refine ⟨⟨?_, ?_, ?_⟩, ?_, ?_, ?_⟩
  · intro x' y' hx' hy'
    by_cases hq : x' = x ∧ y' = y
    · obtain ⟨rfl, rfl⟩ := hq; exact hsg
    · have h1 : ic W x' y' ≠ ic W x y := fun q => hq (ic_inj hx' hx q)
      have h2 : ir x' y' ≠ ir x y := fun q => hq (ir_inj (by omega) (by omega) q)
      rw [(hc _ h1).1, hS x' y' hx' hy']
      unfold rS
      rw [(hA _ h2).2.1, (hA _ h2).2.2.1]
  · intro Y hY
    have h1 := nb 0 Y (by omega) (.inl rfl)
    rw [Nat.add_zero] at h1
    have h2 := nb (W + 1) Y (by omega) (.inr (.inl rfl))
    rw [(hc _ h1).1, (hc _ h2).1]; exact hYb Y hY
  · intro X hX
    have h1 := nb X 0 (by omega) (.inr (.inr (.inl rfl)))
    rw [Nat.zero_mul, Nat.zero_add] at h1
    have h2 := nb X (Hh + 1) (by omega) (.inr (.inr (.inr rfl)))
    rw [(hc _ h1).1, (hc _ h2).1]; exact hXb X hX
  · intro x' y' hx' hy'
    by_cases hq : x' = x ∧ y' = y
    · obtain ⟨rfl, rfl⟩ := hq
      refine ⟨hsz, hlo, ?_⟩
      rw [show vis top x' (y' + 1) x' y' = 1 from if_pos (by omega)]; exact hck
    · have h1 : ic W x' y' ≠ ic W x y := fun q => hq (ic_inj hx' hx q)
      have h2 : ir x' y' ≠ ir x y := fun q => hq (ir_inj (by omega) (by omega) q)
      have h3 : vis top x (y + 1) x' y' = vis top x y x' y' := by
        unfold vis
        by_cases h4 : (y' < top ∨ (y' < top + 4 ∧ (x' < x ∨ (x' = x ∧ y' < y))))
        · rw [if_pos h4, if_pos (by omega)]
        · rw [if_neg h4, if_neg (by omega)]
      rw [h3, (hc _ h1).2.1, (hc _ h1).2.2, (hA _ h2).1, (hA _ h2).2.1, (hA _ h2).2.2.1, (hA _ h2).2.2.2.1, (hA _ h2).2.2.2.2.1, (hA _ h2).2.2.2.2.2]
      exact hC x' y' hx' hy'
  · intro i hl hi
    rw [(hc i (hi x y hx hy)).2.1]; exact hZ1 i hl hi
  · intro s hl hs
    rw [(hA s (hs x y hx hy)).1]; exact hZ2 s hl hs
/-- the cell itself -/
theorem WI_at {W Hh κ p top x y : Nat} {c : CA} {A : RA} (h : WI W Hh κ p top x y c A) (hx : x < W) (hy : y < Hh) (ht : top ≤ y) :
    c.1 (ic W x y) = rS A.2.2.1 A.2.1 (ir x y) ∧ c.2.1 (ic W x y) = A.1 (ir x y) ∧ c.2.2 (ic W x y) = A.2.2.2.2.2 (ir x y) ∧ CK κ p (A.2.2.1 (ir x y)) (A.2.1 (ir x y)) (A.1 (ir x y)) (A.2.2.2.2.2 (ir x y)) (A.2.2.2.1 (ir x y)) (A.2.2.2.2.1 (ir x y)) := by
  have h2 := h.2.1 x y hx hy
  rw [vis_at top x y ht] at h2
  exact ⟨h.1.1 x y hx hy, h2⟩
theorem WI_skip {W Hh κ p top x y : Nat} {c : CA} {A : RA} (h : WI W Hh κ p top x y c A) (hW : W ≤ 16) (hx : x < W) (hy : y < Hh) (ht : top ≤ y) (ht4 : y < top + 4)
    (hck : CK (κ + 1) p (A.2.2.1 (ir x y)) (A.2.1 (ir x y)) (A.1 (ir x y)) (A.2.2.2.2.2 (ir x y)) (A.2.2.2.1 (ir x y)) (A.2.2.2.2.1 (ir x y))) : WI W Hh κ p top x (y + 1) c A :=
  have h2 := WI_at h hx hy ht
  WI_step h hW hx hy ht ht4 (fun _ _ => ⟨rfl, rfl, rfl⟩) (fun _ _ => ⟨rfl, rfl, rfl, rfl, rfl, rfl⟩) h2.1 h2.2.1 h2.2.2.1 hck
theorem rS_0 {fa be : Nat → Int32} {s : Nat} : rS fa be s = 0 ↔ fa s = -1 := by
  unfold rS
  by_cases h : fa s = -1
  · simp [h]
  · by_cases h2 : be s = 0
    · simp [h, h2]
    · simp [h, h2]
theorem nI_nm1 {p : Nat} (h : p < 2 ^ 31) : ¬ nI p = -1 := fun q => nI_pos h (by rw [q]; decide)
theorem rS_new {fa be : Nat → Int32} {s p : Nat} {b : Bool} (hp : p < 2 ^ 31) : rS (upd fa s (nI p)) (upd be s (bI b)) s = if b then -1 else 1 := by
  unfold rS
  simp only [pk_us, nI_nm1 hp, ↓reduceIte]
  cases b <;> decide
theorem shl0 : ∀ p, p < 15 → (0 : Int32) <<< (nI p &&& 31) = 0 := by decide +kernel
/-! room -/
def sumN : Nat → (Nat → Nat) → Nat
  | 0, _ => 0
  | n + 1, f => sumN n f + f n
theorem sumN_le {n : Nat} {f g : Nat → Nat} (h : ∀ i, i < n → f i ≤ g i) : sumN n f ≤ sumN n g := by
  induction n with
  | zero => exact Nat.le_refl _
  | succ n ih =>
    have h1 := ih (fun i hi => h i (by omega))
    have h2 := h n (by omega)
    unfold sumN; omega
theorem sumN_d {n : Nat} {f g : Nat → Nat} {j d : Nat} (h : ∀ i, i < n → f i ≤ g i) (hj : j < n) (hd : f j + d ≤ g j) : sumN n f + d ≤ sumN n g := by
  induction n with
  | zero => omega
  | succ n ih =>
    have h2 := h n (by omega)
    unfold sumN
    by_cases hn : j = n
    · subst hn
      have h1 := sumN_le (n := j) (fun i hi => h i (by omega))
      omega
    · have h1 := ih (fun i hi => h i (by omega)) (by omega)
      omega
def S2 (W H : Nat) (f : Nat → Nat → Nat) : Nat := sumN H (fun y => sumN W (fun x => f x y))
theorem S2_le {W H : Nat} {f g : Nat → Nat → Nat} (h : ∀ x y, x < W → y < H → f x y ≤ g x y) : S2 W H f ≤ S2 W H g := sumN_le (fun y hy => sumN_le (fun x hx => h x y hx hy))
theorem S2_d {W H x0 y0 d : Nat} {f g : Nat → Nat → Nat} (h : ∀ x y, x < W → y < H → f x y ≤ g x y) (hx : x0 < W) (hy : y0 < H) (hd : f x0 y0 + d ≤ g x0 y0) : S2 W H f + d ≤ S2 W H g :=
  sumN_d (fun y hy => sumN_le (fun x hx => h x y hx hy)) hy (sumN_d (fun x hx => h x y0 hx hy) hx hd)
def g1 (W : Nat) (c : CA) (x y : Nat) : Nat := (c.2.2 (ic W x y)).toNatClampNeg + (if c.1 (ic W x y) = 0 then 1 else 0)
def g2 (W : Nat) (c : CA) (x t : Nat) : Nat := if (c.1 (ic W x (4 * t)) = 0 ∧ c.1 (ic W x (4 * t + 1)) = 0 ∧ c.1 (ic W x (4 * t + 2)) = 0 ∧ c.1 (ic W x (4 * t + 3)) = 0) then 2 else 0
def Phi (W Hh : Nat) (c : CA) : Nat := S2 W Hh (g1 W c) + S2 W (Hh / 4) (g2 W c)
theorem g2_le {W x t : Nat} {c c' : CA} (h : ∀ y, c'.1 (ic W x y) = 0 → c.1 (ic W x y) = 0) : g2 W c' x t ≤ g2 W c x t := by
  unfold g2
  by_cases h1 : (c'.1 (ic W x (4 * t)) = 0 ∧ c'.1 (ic W x (4 * t + 1)) = 0 ∧ c'.1 (ic W x (4 * t + 2)) = 0 ∧ c'.1 (ic W x (4 * t + 3)) = 0)
  · rw [if_pos h1, if_pos ⟨h _ h1.1, h _ h1.2.1, h _ h1.2.2.1, h _ h1.2.2.2⟩]; exact Nat.le_refl _
  · rw [if_neg h1]; omega
theorem Phi_step {W Hh x y d : Nat} {c c' : CA} (hx : x < W) (hy : y < Hh)
    (hc : ∀ i, i ≠ ic W x y → c'.1 i = c.1 i ∧ c'.2.1 i = c.2.1 i ∧ c'.2.2 i = c.2.2 i)
    (hd : g1 W c' x y + d ≤ g1 W c x y) (hs : c'.1 (ic W x y) = 0 → c.1 (ic W x y) = 0) : Phi W Hh c' + d ≤ Phi W Hh c := by
  have e : ∀ x' y', x' < W → ¬ (x' = x ∧ y' = y) → c'.1 (ic W x' y') = c.1 (ic W x' y') ∧ c'.2.2 (ic W x' y') = c.2.2 (ic W x' y') := by
    intro x' y' hx' hq
    have h1 : ic W x' y' ≠ ic W x y := fun q => hq (ic_inj hx' hx q)
    exact ⟨(hc _ h1).1, (hc _ h1).2.2⟩
  have h1 : S2 W Hh (g1 W c') + d ≤ S2 W Hh (g1 W c) := by
    refine S2_d ?_ hx hy hd
    intro x' y' hx' hy'
    by_cases hq : x' = x ∧ y' = y
    · obtain ⟨rfl, rfl⟩ := hq; omega
    · unfold g1; rw [(e x' y' hx' hq).1, (e x' y' hx' hq).2]; exact Nat.le_refl _
  have h2 : S2 W (Hh / 4) (g2 W c') ≤ S2 W (Hh / 4) (g2 W c) := by
    refine S2_le ?_
    intro x' t hx' _
    refine g2_le (fun y' h0 => ?_)
    by_cases hq : x' = x ∧ y' = y
    · obtain ⟨rfl, rfl⟩ := hq; exact hs h0
    · rw [← (e x' y' hx' hq).1]; exact h0
  unfold Phi; omega
theorem M_know_ok {p n s : Nat} {sz lo : Nat → Int32} {a : Int32} (h : s < n) (hn : n < 2 ^ 31) : f_M_know (nI p) sz lo n n (nI s) a = some (upd sz s (sz s ||| (a <<< (nI p &&& 31))), upd lo s (nI p)) := by
  unfold f_M_know
  rw [pc_ok h hn, pc_ok h hn, pc_ok h hn, cl_ok h hn]
/-- what telling one size makes of a cell -/
def SZ (W x y p : Nat) (c c' : CA) (A : RA) (sz' be' fa' lo' : Nat → Int32) : Prop :=
  (∀ i, i ≠ ic W x y → c'.1 i = c.1 i ∧ c'.2.1 i = c.2.1 i ∧ c'.2.2 i = c.2.2 i)
  ∧ (∀ s, s ≠ ir x y → sz' s = A.1 s ∧ be' s = A.2.1 s ∧ fa' s = A.2.2.1 s ∧ lo' s = A.2.2.2.2.2 s)
  ∧ c'.1 (ic W x y) = rS fa' be' (ir x y) ∧ c'.2.1 (ic W x y) = sz' (ir x y) ∧ c'.2.2 (ic W x y) = lo' (ir x y) ∧ lo' (ir x y) = nI p ∧ (be' (ir x y) = 0 ∨ be' (ir x y) = 1)
  ∧ ((fa' (ir x y) = -1 ∧ sz' (ir x y) = 0) ∨ (fa' (ir x y) = nI p ∧ sz' (ir x y) = (1 : Int32) <<< (nI p &&& 31)))
theorem u3_un {c : CA} {i j : Nat} {a b d : Int32} (h : j ≠ i) : (upd c.1 i a) j = c.1 j ∧ (upd c.2.1 i b) j = c.2.1 j ∧ (upd c.2.2 i d) j = c.2.2 j := ⟨pk_un h, pk_un h, pk_un h⟩
/-- the room that a size told at an open cell frees -/
theorem Phi_open {W Hh x y p : Nat} {c : CA} (hx : x < W) (hy : y < Hh) (hp : p < 15) (h0 : c.1 (ic W x y) = 0) (hl : c.2.2 (ic W x y) = nI (p + 1)) :
    Phi W Hh (c.1, c.2.1, upd c.2.2 (ic W x y) (nI p)) + 1 ≤ Phi W Hh c ∧ ∀ (v w : Int32), ¬ v = 0 → Phi W Hh (upd c.1 (ic W x y) v, upd c.2.1 (ic W x y) w, upd c.2.2 (ic W x y) (nI p)) + 2 ≤ Phi W Hh c := by
  constructor
  · refine Phi_step hx hy (fun i hi => ⟨rfl, rfl, pk_un hi⟩) ?_ (fun q => q)
    unfold g1; dsimp only
    rw [pk_us, hl, nI_clamp (by omega), nI_clamp (by omega)]; omega
  · intro v w hv
    refine Phi_step hx hy (fun i hi => u3_un hi) ?_ (fun _ => h0)
    unfold g1
    simp only [pk_us, hl, h0, hv, ↓reduceIte]
    rw [nI_clamp (by omega), nI_clamp (by omega)]
    omega
theorem sgb_ne (b : Bool) : ¬ (if b = true then (-1 : Int32) else 1) = 0 := by cases b <;> decide
theorem size_T {W Hh x y p r cx cr : Nat} {st : Int32} {rw : Bool} {pn mtr : Int32} {nR : Nat} {sam msam mreads : Nat → Int32} {c : CA} {A : RA} {s : (Int32 × (Nat → Int32))} {m : MT} (hW : W ≤ 16) (hH : Hh ≤ 16) (hS : SG W Hh c.1 A.2.2.1 A.2.1) (hx : x < W) (hy : y < Hh) (hp : p < 15) (hM : SAM W Hh sam msam)
    (hfa : A.2.2.1 (ir x y) = -1) (hsz0 : A.1 (ir x y) = 0) (hsz : c.2.1 (ic W x y) = A.1 (ir x y)) (hlo : c.2.2 (ic W x y) = nI (p + 1)) (hbe : A.2.1 (ir x y) = 0 ∨ A.2.1 (ir x y) = 1)
    (hcr : (if bI rw = 0 then some (nI cx) else some (19 : Int32)) = some (nI cr)) (hcr32 : cr < 32) (hT : TT pn nR (Phi W Hh c + r) s m) :
    ∃ (c' : CA) (sz' be' fa' lo' : Nat → Int32) (s' : (Int32 × (Nat → Int32))) (m' : MT),
      f_WT_exchangeSize (nI p) (bI rw) c.1 c.2.1 c.2.2 (nI (W + 2)) s.1 pn sam s.2 ((W + 2) * (Hh + 2)) ((W + 2) * (Hh + 2)) ((W + 2) * (Hh + 2)) ((W + 2) * (Hh + 2)) nR (nI (ic W x y)) (bI (blB st y)) (nI cx) = some (c'.1, c'.2.1, c'.2.2, s'.1, s'.2)
      ∧ f_M_tell (nI W) (nI Hh) st m.1 mtr 0 m.2.1 m.2.2.1 (nI p) pn (bI rw) msam m.2.2.2.1 m.2.2.2.2.1 m.2.2.2.2.2 mreads A.1 A.2.1 A.2.2.1 A.2.2.2.2.2 256 12000 12000 12000 12000 256 256 256 256 (nI x) (nI y) (nI cr) = some (m'.1, m'.2.1, m'.2.2.1, m'.2.2.2.1, m'.2.2.2.2.1, m'.2.2.2.2.2, sz', be', fa', lo')
      ∧ SZ W x y p c c' A sz' be' fa' lo' ∧ TT pn nR (Phi W Hh c' + r) s' m' := by
  have hn := nC_le hW hH
  have hn2 : ((W + 2) * (Hh + 2)) < 2 ^ 31 := by omega
  have hi := ic_lt hx hy
  have hs : ir x y < 256 := ir_lt (by omega) (by omega)
  have h0 : c.1 (ic W x y) = 0 := by rw [hS.1 x y hx hy]; exact rS_0.mpr hfa
  obtain ⟨P1, P2⟩ := Phi_open hx hy hp h0 hlo
  obtain ⟨r1, s1, m1, e1, e2, hT1⟩ := ex_T (mtr := mtr) (mreads := mreads) (k := Phi W Hh c - 1 + r) (TT_le hT (by omega)) (szb (sam (ic W x y)) p) hcr32
  unfold f_WT_exchangeSize f_M_tell
  rw [pc_ok hi hn2, cl_ok hi hn2, ir_e, M_bitOf_ok hs (by decide), Option.bind_some]
  rw [T_sizeBit_ok hi hn2, Option.bind_some, ← hM x y hx hy]
  rw [hcr, Option.bind_some, e1, Option.bind_some, e2, Option.bind_some, M_know_ok hs (by decide), Option.bind_some]
  cases r1 with
  | false =>
    rw [if_neg (show ¬ ((bI false, s1) : Int32 × _).1 = 1 from (by decide : ¬ bI false = (1 : Int32))), if_neg (show ¬ ((bI false, m1) : Int32 × _).1 = 1 from (by decide : ¬ bI false = (1 : Int32)))]
    dsimp only
    refine ⟨(c.1, c.2.1, upd c.2.2 (ic W x y) (nI p)), _, _, _, _, s1, m1, rfl, rfl, ⟨fun i hi => ⟨rfl, rfl, pk_un hi⟩, fun t ht => ⟨pk_un ht, rfl, rfl, pk_un ht⟩, ?_, ?_, ?_, pk_us, hbe, .inl ⟨hfa, ?_⟩⟩, TT_le hT1 ?_⟩
    · exact hS.1 x y hx hy
    · show c.2.1 (ic W x y) = _
      rw [pk_us, hsz, hsz0]
      show (0 : Int32) = (0 : Int32) ||| ((0 : Int32) <<< (nI p &&& 31))
      rw [shl0 p hp]; rfl
    · exact pk_us.trans pk_us.symm
    · rw [pk_us, hsz0]
      show (0 : Int32) ||| ((0 : Int32) <<< (nI p &&& 31)) = 0
      rw [shl0 p hp]; rfl
    · omega
  | true =>
    rw [if_pos (show ((bI true, s1) : Int32 × _).1 = 1 from rfl), if_pos (show ((bI true, m1) : Int32 × _).1 = 1 from rfl)]
    have P3 := P2 1 0 (by decide)
    obtain ⟨b, s2, m2, e3, e4, hT2⟩ := sign_T (p := p) (st := st) (rw := rw) (siz := c.2.1) (k := Phi W Hh c - 2 + r) (mtr := mtr) (mreads := mreads) hW hH hS hx hy hM (TT_le hT1 (by omega))
    dsimp only
    rw [e3, Option.bind_some, e4, Option.bind_some]
    dsimp only
    refine ⟨(upd c.1 (ic W x y) (if b then -1 else 1), upd c.2.1 (ic W x y) ((1 : Int32) <<< (nI p &&& 31)), upd c.2.2 (ic W x y) (nI p)), _, _, _, _, s2, m2, rfl, rfl, ⟨fun i hi => u3_un hi, fun t ht => ⟨pk_un ht, pk_un ht, pk_un ht, pk_un ht⟩, ?_, ?_, ?_, pk_us, ?_, .inr ⟨pk_us, ?_⟩⟩, TT_le hT2 ?_⟩
    · exact pk_us.trans (rS_new (by omega)).symm
    · refine pk_us.trans ?_
      rw [pk_us, hsz0]
      exact (Int32.zero_or).symm
    · exact pk_us.trans pk_us.symm
    · rw [pk_us]; exact bI_01 b
    · rw [pk_us, hsz0]
      exact Int32.zero_or
    · have := P2 (if b then -1 else 1) ((1 : Int32) <<< (nI p &&& 31)) (sgb_ne b)
      omega
theorem size_L {W Hh x y p r cx cr : Nat} {st : Int32} {rw : Bool} {pn lcn mtr : Int32} {wor msam mreads : Nat → Int32} {m0 : MT} {c : CA} {A : RA} {s : (Int32 × Int32)} {m : MT} (hW : W ≤ 16) (hH : Hh ≤ 16) (hS : SG W Hh c.1 A.2.2.1 A.2.1) (hx : x < W) (hy : y < Hh) (hp : p < 15) 
    (hfa : A.2.2.1 (ir x y) = -1) (hsz0 : A.1 (ir x y) = 0) (hsz : c.2.1 (ic W x y) = A.1 (ir x y)) (hlo : c.2.2 (ic W x y) = nI (p + 1)) (hbe : A.2.1 (ir x y) = 0 ∨ A.2.1 (ir x y) = 1)
    (hcr : (if bI rw = 0 then some (nI cx) else some (19 : Int32)) = some (nI cr)) (hcr32 : cr < 32) (hT : TL lcn wor mtr mreads m0 (Phi W Hh c + r) s m) :
    ∃ (c' : CA) (sz' be' fa' lo' : Nat → Int32) (s' : (Int32 × Int32)) (m' : MT),
      f_WL_exchangeSize (nI p) (bI rw) c.1 c.2.1 c.2.2 (nI (W + 2)) lcn s.1 s.2 wor ((W + 2) * (Hh + 2)) ((W + 2) * (Hh + 2)) ((W + 2) * (Hh + 2)) 376 (nI (ic W x y)) (bI (blB st y)) (nI cx) = some (c'.1, c'.2.1, c'.2.2, s'.1, s'.2)
      ∧ f_M_tell (nI W) (nI Hh) st m.1 mtr 1 m.2.1 m.2.2.1 (nI p) pn (bI rw) msam m.2.2.2.1 m.2.2.2.2.1 m.2.2.2.2.2 mreads A.1 A.2.1 A.2.2.1 A.2.2.2.2.2 256 12000 12000 12000 12000 256 256 256 256 (nI x) (nI y) (nI cr) = some (m'.1, m'.2.1, m'.2.2.1, m'.2.2.2.1, m'.2.2.2.2.1, m'.2.2.2.2.2, sz', be', fa', lo')
      ∧ SZ W x y p c c' A sz' be' fa' lo' ∧ TL lcn wor mtr mreads m0 (Phi W Hh c' + r) s' m' := by
  have hn := nC_le hW hH
  have hn2 : ((W + 2) * (Hh + 2)) < 2 ^ 31 := by omega
  have hi := ic_lt hx hy
  have hs : ir x y < 256 := ir_lt (by omega) (by omega)
  have h0 : c.1 (ic W x y) = 0 := by rw [hS.1 x y hx hy]; exact rS_0.mpr hfa
  obtain ⟨P1, P2⟩ := Phi_open hx hy hp h0 hlo
  obtain ⟨r1, s1, m1, e1, e2, hT1⟩ := ex_L (pn := pn) (k := Phi W Hh c - 1 + r) (TL_le hT (by omega)) (bI (szb (msam (ir x y)) p)) (nI cr)
  unfold f_WL_exchangeSize f_M_tell
  rw [pc_ok hi hn2, cl_ok hi hn2, ir_e, M_bitOf_ok hs (by decide), Option.bind_some]
  skip
  rw [hcr, Option.bind_some, e1, Option.bind_some, e2, Option.bind_some, M_know_ok hs (by decide), Option.bind_some]
  cases r1 with
  | false =>
    rw [if_neg (show ¬ ((bI false, s1) : Int32 × _).1 = 1 from (by decide : ¬ bI false = (1 : Int32))), if_neg (show ¬ ((bI false, m1) : Int32 × _).1 = 1 from (by decide : ¬ bI false = (1 : Int32)))]
    dsimp only
    refine ⟨(c.1, c.2.1, upd c.2.2 (ic W x y) (nI p)), _, _, _, _, s1, m1, rfl, rfl, ⟨fun i hi => ⟨rfl, rfl, pk_un hi⟩, fun t ht => ⟨pk_un ht, rfl, rfl, pk_un ht⟩, ?_, ?_, ?_, pk_us, hbe, .inl ⟨hfa, ?_⟩⟩, TL_le hT1 ?_⟩
    · exact hS.1 x y hx hy
    · show c.2.1 (ic W x y) = _
      rw [pk_us, hsz, hsz0]
      show (0 : Int32) = (0 : Int32) ||| ((0 : Int32) <<< (nI p &&& 31))
      rw [shl0 p hp]; rfl
    · exact pk_us.trans pk_us.symm
    · rw [pk_us, hsz0]
      show (0 : Int32) ||| ((0 : Int32) <<< (nI p &&& 31)) = 0
      rw [shl0 p hp]; rfl
    · omega
  | true =>
    rw [if_pos (show ((bI true, s1) : Int32 × _).1 = 1 from rfl), if_pos (show ((bI true, m1) : Int32 × _).1 = 1 from rfl)]
    have P3 := P2 1 0 (by decide)
    obtain ⟨b, s2, m2, e3, e4, hT2⟩ := sign_L (p := p) (st := st) (rw := rw) (siz := c.2.1) (k := Phi W Hh c - 2 + r) (pn := pn) (msam := msam) hW hH hS hx hy  (TL_le hT1 (by omega))
    dsimp only
    rw [e3, Option.bind_some, e4, Option.bind_some]
    dsimp only
    refine ⟨(upd c.1 (ic W x y) (if b then -1 else 1), upd c.2.1 (ic W x y) ((1 : Int32) <<< (nI p &&& 31)), upd c.2.2 (ic W x y) (nI p)), _, _, _, _, s2, m2, rfl, rfl, ⟨fun i hi => u3_un hi, fun t ht => ⟨pk_un ht, pk_un ht, pk_un ht, pk_un ht⟩, ?_, ?_, ?_, pk_us, ?_, .inr ⟨pk_us, ?_⟩⟩, TL_le hT2 ?_⟩
    · exact pk_us.trans (rS_new (by omega)).symm
    · refine pk_us.trans ?_
      rw [pk_us, hsz0]
      exact (Int32.zero_or).symm
    · exact pk_us.trans pk_us.symm
    · rw [pk_us]; exact bI_01 b
    · rw [pk_us, hsz0]
      exact Int32.zero_or
    · have := P2 (if b then -1 else 1) ((1 : Int32) <<< (nI p &&& 31)) (sgb_ne b)
      omega

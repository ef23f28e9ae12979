/-! PURE: positions, the class's contexts, the sign's context -/
theorem ps_inj {S a b c d : Nat} (hb : b < S) (hd : d < S) (h : a * S + b = c * S + d) : a = c ∧ b = d := by
  rcases Nat.lt_trichotomy a c with h1 | h1 | h1
  · have := Nat.mul_le_mul_right S (show a + 1 ≤ c from h1)
    rw [Nat.add_mul] at this; omega
  · subst h1; omega
  · have := Nat.mul_le_mul_right S (show c + 1 ≤ a from h1)
    rw [Nat.add_mul] at this; omega
theorem ps_lt {W Hh X Y : Nat} (hX : X ≤ W + 1) (hY : Y ≤ Hh + 1) : Y * (W + 2) + X < (W + 2) * (Hh + 2) := by
  have h1 := Nat.mul_le_mul_right (W + 2) hY
  have h2 : (W + 2) * (Hh + 2) = (Hh + 1) * (W + 2) + (W + 2) := by rw [Nat.mul_comm, ← Nat.succ_mul]
  omega
theorem nC_le {W Hh : Nat} (hW : W ≤ 16) (hH : Hh ≤ 16) : (W + 2) * (Hh + 2) ≤ 324 := Nat.mul_le_mul (show W + 2 ≤ 18 by omega) (show Hh + 2 ≤ 18 by omega)
theorem ic_inj {W x y x' y' : Nat} (hx : x < W) (hx' : x' < W) (h : ic W x y = ic W x' y') : x = x' ∧ y = y' := by
  have := ps_inj (S := W + 2) (by omega) (by omega) h
  omega
theorem ir_inj {x y x' y' : Nat} (hx : x < 16) (hx' : x' < 16) (h : ir x y = ir x' y') : x = x' ∧ y = y' := by
  unfold ir at h; omega
theorem ic_lt {W Hh x y : Nat} (hx : x < W) (hy : y < Hh) : ic W x y < (W + 2) * (Hh + 2) := ps_lt (by omega) (by omega)
theorem ir_lt {x y : Nat} (hx : x < 16) (hy : y < 16) : ir x y < 256 := by unfold ir; omega
theorem ic_l (W x y : Nat) : nI (ic W x y) - 1 = nI ((y + 1) * (W + 2) + x) := nI_pred _
theorem ic_r (W x y : Nat) : nI (ic W x y) + 1 = nI ((y + 1) * (W + 2) + (x + 2)) := nI_1 _
theorem ic_u (W x y : Nat) : nI (ic W x y) - nI (W + 2) = nI (y * (W + 2) + (x + 1)) := by
  have e : ic W x y = y * (W + 2) + (x + 1) + (W + 2) := by unfold ic; rw [Nat.add_mul]; omega
  rw [pk_sub (by omega), e]; congr 1; omega
theorem ic_d (W x y : Nat) : nI (ic W x y) + nI (W + 2) = nI ((y + 2) * (W + 2) + (x + 1)) := by
  rw [nI_add]; congr 1; unfold ic; rw [show y + 2 = y + 1 + 1 from rfl, Nat.succ_mul (y + 1)]; omega
theorem ic_ul (W x y : Nat) : nI (y * (W + 2) + (x + 1)) - 1 = nI (y * (W + 2) + x) := nI_pred _
theorem ic_ur (W x y : Nat) : nI (y * (W + 2) + (x + 1)) + 1 = nI (y * (W + 2) + (x + 2)) := nI_1 _
theorem ir_e (x y : Nat) : (16 : Int32) * nI y + nI x = nI (ir x y) := by
  rw [show (16 : Int32) = nI 16 from rfl, pk_mul, nI_add]; rfl
theorem bI_ff : bI false = 0 := rfl
theorem bI_tt : bI true = 1 := rfl
theorem i10 : ((1 : Int32) = 0) = False := by decide
theorem i01 : ((0 : Int32) = 1) = False := by decide
/-- an index that holds, as simp takes it -/
theorem in_ok {c n : Nat} (h : c < n) (hn : n < 2 ^ 31) : (nI c < 0 ∨ n ≤ (nI c).toNatClampNeg) = False := eq_false (nI_in h hn)
theorem in_ok' {c n : Nat} (h : c < n) (hn : n < 2 ^ 31) : (nI c < 0 ∨ n ≤ c) = False := eq_false (fun q => q.elim (nI_pos (by omega)) (Nat.not_le.mpr h))
theorem WT_found_ok {sgn : Nat → Int32} {n i : Nat} (h : i < n) (hn : n < 2 ^ 31) : f_WT_found sgn n (nI i) = some (bI (nz (sgn i))) := by
  unfold f_WT_found
  rw [pc_ok h hn, nI_clamp (by omega), bI_nz]
theorem WT_ctx_ok {W Hh x y : Nat} {st bd : Int32} {sgn : Nat → Int32} (hW : W ≤ 16) (hH : Hh ≤ 16) (hx : x < W) (hy : y < Hh) :
    f_WT_contextOf sgn bd (nI (W + 2)) ((W + 2) * (Hh + 2)) (nI (ic W x y)) (bI (blB st y)) = some (ctxV W st bd sgn x y) := by
  have hn := nC_le hW hH
  have hn2 : (W + 2) * (Hh + 2) < 2 ^ 31 := by omega
  unfold f_WT_contextOf ctxV
  rw [ic_l, ic_r, ic_u, ic_d, ic_ul, ic_ur, ic_ul, ic_ur]
  rw [WT_found_ok (ps_lt (by omega) (by omega)) hn2, Option.bind_some, WT_found_ok (ps_lt (by omega) (by omega)) hn2, Option.bind_some, WT_found_ok (ps_lt (by omega) (by omega)) hn2, Option.bind_some, WT_found_ok (ps_lt (by omega) (by omega)) hn2, Option.bind_some, WT_found_ok (ps_lt (by omega) (by omega)) hn2, Option.bind_some]
  have f0 : ∀ X, fB W st sgn y X y = nz (sgn (y * (W + 2) + X)) := by
    intro X; unfold fB
    have : ¬ y = y + 2 := by omega
    simp [this]
  have f1 : ∀ X, fB W st sgn y X (y + 1) = nz (sgn ((y + 1) * (W + 2) + X)) := by
    intro X; unfold fB; simp
  rw [f1, f1, f0, f0, f0]
  cases hb : blB st y with
  | false =>
    have f2 : ∀ X, fB W st sgn y X (y + 2) = nz (sgn ((y + 2) * (W + 2) + X)) := by
      intro X; unfold fB; simp [hb]
    rw [f2, f2, f2, if_pos bI_ff, WT_found_ok (ps_lt (by omega) (by omega)) hn2, Option.bind_some, WT_found_ok (ps_lt (by omega) (by omega)) hn2, Option.bind_some, WT_found_ok (ps_lt (by omega) (by omega)) hn2, Option.bind_some, Option.bind_some]
  | true =>
    have f2 : ∀ X, fB W st sgn y X (y + 2) = false := by
      intro X; unfold fB; simp [hb]
    rw [f2, f2, f2, if_neg (by decide), Option.bind_some, bI_ff]
    simp
theorem WL_found_ok {sgn : Nat → Int32} {n i : Nat} (h : i < n) (hn : n < 2 ^ 31) : f_WL_found sgn n (nI i) = some (bI (nz (sgn i))) := by
  unfold f_WL_found
  rw [pc_ok h hn, nI_clamp (by omega), bI_nz]
theorem WL_ctx_ok {W Hh x y : Nat} {st bd : Int32} {sgn : Nat → Int32} (hW : W ≤ 16) (hH : Hh ≤ 16) (hx : x < W) (hy : y < Hh) :
    f_WL_contextOf sgn bd (nI (W + 2)) ((W + 2) * (Hh + 2)) (nI (ic W x y)) (bI (blB st y)) = some (ctxV W st bd sgn x y) := by
  have hn := nC_le hW hH
  have hn2 : (W + 2) * (Hh + 2) < 2 ^ 31 := by omega
  unfold f_WL_contextOf ctxV
  rw [ic_l, ic_r, ic_u, ic_d, ic_ul, ic_ur, ic_ul, ic_ur]
  rw [WL_found_ok (ps_lt (by omega) (by omega)) hn2, Option.bind_some, WL_found_ok (ps_lt (by omega) (by omega)) hn2, Option.bind_some, WL_found_ok (ps_lt (by omega) (by omega)) hn2, Option.bind_some, WL_found_ok (ps_lt (by omega) (by omega)) hn2, Option.bind_some, WL_found_ok (ps_lt (by omega) (by omega)) hn2, Option.bind_some]
  have f0 : ∀ X, fB W st sgn y X y = nz (sgn (y * (W + 2) + X)) := by
    intro X; unfold fB
    have : ¬ y = y + 2 := by omega
    simp [this]
  have f1 : ∀ X, fB W st sgn y X (y + 1) = nz (sgn ((y + 1) * (W + 2) + X)) := by
    intro X; unfold fB; simp
  rw [f1, f1, f0, f0, f0]
  cases hb : blB st y with
  | false =>
    have f2 : ∀ X, fB W st sgn y X (y + 2) = nz (sgn ((y + 2) * (W + 2) + X)) := by
      intro X; unfold fB; simp [hb]
    rw [f2, f2, f2, if_pos bI_ff, WL_found_ok (ps_lt (by omega) (by omega)) hn2, Option.bind_some, WL_found_ok (ps_lt (by omega) (by omega)) hn2, Option.bind_some, WL_found_ok (ps_lt (by omega) (by omega)) hn2, Option.bind_some, Option.bind_some]
  | true =>
    have f2 : ∀ X, fB W st sgn y X (y + 2) = false := by
      intro X; unfold fB; simp [hb]
    rw [f2, f2, f2, if_neg (by decide), Option.bind_some, bI_ff]
    simp
set_option maxRecDepth 20000 in
theorem ctx_nat : ∀ (k : Nat), k < 3 → ∀ (a b c d e f g i : Bool), (f_ST_ofSize (nI k) (bI a + bI b) (bI c + bI d) ((bI e + bI f) + (bI g + bI i))).toNatClampNeg < 9 ∧ f_ST_ofSize (nI k) (bI a + bI b) (bI c + bI d) ((bI e + bI f) + (bI g + bI i)) = nI (f_ST_ofSize (nI k) (bI a + bI b) (bI c + bI d) ((bI e + bI f) + (bI g + bI i))).toNatClampNeg := by decide +kernel
theorem ctxV_nat {W k x y : Nat} (st : Int32) (sgn : Nat → Int32) (hk : k < 3) : ∃ c : Nat, c < 9 ∧ ctxV W st (nI k) sgn x y = nI c := ⟨_, ctx_nat k hk _ _ _ _ _ _ _ _⟩
set_option maxRecDepth 20000 in
theorem ref_tab : ∀ (k : Nat), k < 3 → ∀ (a b c d e f g i : Bool),
   (((if f_ST_ofSize (nI k) (bI a + bI b) (bI c + bI d) ((bI e + bI f) + (bI g + bI i)) = 0 then some (1 : Int32) else some (0 : Int32)) : Option (Int32)).bind fun u5 => (if u5 = 0 then some (15 : Int32) else some (14 : Int32)))
   = (if (((((((bI e + bI f) + bI g) + bI i) + bI a) + bI b) + bI c) + bI d) ≤ 0 then some (14 : Int32) else some (15 : Int32)) := by decide +kernel
def s3 (v : Int32) : Prop := v = 0 ∨ v = 1 ∨ v = -1
theorem rS_s3 (fa be : Nat → Int32) (s : Nat) : s3 (rS fa be s) := by
  unfold rS s3
  by_cases h : fa s = -1
  · simp [h]
  · by_cases h2 : be s = 0 <;> simp [h, h2]
theorem SG_s3 {W Hh : Nat} {sgn fa be : Nat → Int32} (h : SG W Hh sgn fa be) {X Y : Nat} (hX : X ≤ W + 1) (hY : Y ≤ Hh + 1) : s3 (sgn (Y * (W + 2) + X)) := by
  obtain ⟨hin, hYb, hXb⟩ := h
  rcases Nat.eq_zero_or_pos Y with rfl | h0
  · rw [Nat.zero_mul, Nat.zero_add, (hXb X hX).1]; exact .inl rfl
  rcases Nat.eq_or_lt_of_le hY with rfl | h1
  · rw [(hXb X hX).2]; exact .inl rfl
  rcases Nat.eq_zero_or_pos X with rfl | h2
  · rw [Nat.add_zero, (hYb Y hY).1]; exact .inl rfl
  rcases Nat.eq_or_lt_of_le hX with rfl | h3
  · rw [(hYb Y hY).2]; exact .inl rfl
  obtain ⟨X, rfl⟩ : ∃ X', X = X' + 1 := ⟨X - 1, by omega⟩
  obtain ⟨Y, rfl⟩ : ∃ Y', Y = Y' + 1 := ⟨Y - 1, by omega⟩
  have := hin X Y (by omega) (by omega)
  unfold ic at this
  rw [this]; exact rS_s3 _ _ _
theorem wb_tab {a b : Int32} (ha : s3 a) (hb : s3 b) : f_MS_brought (a + b) = f_ST_within (a + b) (-1) 1 ∧ s3 (f_ST_within (a + b) (-1) 1) := by
  unfold s3 at *
  rcases ha with rfl | rfl | rfl <;> rcases hb with rfl | rfl | rfl <;> decide
/-- whether a sign is turned, and its context -/
def tS (A B : Int32) (rw : Bool) : Bool := !rw && (decide (A < 0) || (decide (A = 0) && decide (B < 0)))
def u6S (A B : Int32) : Int32 := if A < 0 then 1 else if A = 0 then (if 0 ≤ B then 0 else 1) else 0
def cS (A B : Int32) (rw : Bool) : Nat := if rw then 19 else (f_ST_ofSign A B).toNatClampNeg
theorem sign_tab {A B : Int32} (rw : Bool) (hA : s3 A) (hB : s3 B) :
    (if bI rw = 0 then (if (f_ST_turnsSign A B) = 0 then some (0 : Int32) else some (1 : Int32)) else some (0 : Int32)) = some (bI (tS A B rw))
    ∧ (if bI rw = 0 then some (f_ST_ofSign A B) else some (19 : Int32)) = some (nI (cS A B rw))
    ∧ (if A < 0 then some (1 : Int32) else (if A = 0 then (if 0 ≤ B then some (0 : Int32) else some (1 : Int32)) else some (0 : Int32))) = some (u6S A B)
    ∧ (if bI rw = 0 then (if (if u6S A B = 0 then A else -A) = (1 : Int32) then some ((12 : Int32) + (if u6S A B = 0 then B else -B)) else some ((9 : Int32) + (if u6S A B = 0 then B else -B))) else some (19 : Int32)) = some (nI (cS A B rw))
    ∧ (if u6S A B = 0 then some (0 : Int32) else (if bI rw = 0 then some (1 : Int32) else some (0 : Int32))) = some (bI (tS A B rw))
    ∧ cS A B rw < 32 := by
  unfold s3 at *
  rcases hA with rfl | rfl | rfl <;> rcases hB with rfl | rfl | rfl <;> cases rw <;> decide
theorem ite_some {α : Type} {p : Prop} [Decidable p] (a b : α) : (if p then some a else some b) = some (if p then a else b) := by
  by_cases h : p <;> simp [h]
theorem bI_ne (a b : Bool) : (if bI a = bI b then some (0 : Int32) else some (1 : Int32)) = some (bI (a ^^ b)) := by cases a <;> cases b <;> decide
theorem bI_id (a : Bool) : (if bI a = (1 : Int32) then some (1 : Int32) else some (0 : Int32)) = some (bI a) := by cases a <;> decide
theorem nar_bI (a : Bool) : vp_nar .boolean (bI a) = bI a := by cases a <;> decide +kernel
theorem M_l {W Hh x y : Nat} {sgn fa be : Nat → Int32} (st : Int32) (hW : W ≤ 16) (hH : Hh ≤ 16) (h : SG W Hh sgn fa be) (hx : x < W) (hy : y < Hh) :
    f_M_signAt (nI W) (nI Hh) st be fa 256 256 (nI x - 1) (nI y) (nI y) = some (sgn ((y + 1) * (W + 2) + x)) := by
  have := signAt_ok (st := st) hW hH h (X := x) (Y := y + 1) (by omega) (by omega) hy (by omega)
  rw [nI_pred] at this; rw [this]; simp
theorem M_r {W Hh x y : Nat} {sgn fa be : Nat → Int32} (st : Int32) (hW : W ≤ 16) (hH : Hh ≤ 16) (h : SG W Hh sgn fa be) (hx : x < W) (hy : y < Hh) :
    f_M_signAt (nI W) (nI Hh) st be fa 256 256 (nI x + 1) (nI y) (nI y) = some (sgn ((y + 1) * (W + 2) + (x + 2))) := by
  have := signAt_ok (st := st) hW hH h (X := x + 2) (Y := y + 1) (by omega) (by omega) hy (by omega)
  rw [← nI_p, nI_pred] at this; rw [this]; simp
theorem M_u {W Hh x y : Nat} {sgn fa be : Nat → Int32} (st : Int32) (hW : W ≤ 16) (hH : Hh ≤ 16) (h : SG W Hh sgn fa be) (hx : x < W) (hy : y < Hh) :
    f_M_signAt (nI W) (nI Hh) st be fa 256 256 (nI x) (nI y - 1) (nI y) = some (sgn (y * (W + 2) + (x + 1))) := by
  have := signAt_ok (st := st) hW hH h (X := x + 1) (Y := y) (by omega) (by omega) hy (by omega)
  have h2 : ¬ y = y + 2 := by omega
  rw [nI_pred] at this; rw [this]; simp [h2]
theorem M_d {W Hh x y : Nat} {sgn fa be : Nat → Int32} (st : Int32) (hW : W ≤ 16) (hH : Hh ≤ 16) (h : SG W Hh sgn fa be) (hx : x < W) (hy : y < Hh) :
    f_M_signAt (nI W) (nI Hh) st be fa 256 256 (nI x) (nI y + 1) (nI y) = some (if blB st y = true then 0 else sgn ((y + 2) * (W + 2) + (x + 1))) := by
  have := signAt_ok (st := st) hW hH h (X := x + 1) (Y := y + 2) (by omega) (by omega) hy (by omega)
  rw [nI_pred, ← nI_p] at this; rw [this]; simp

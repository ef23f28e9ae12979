/-! PURE: places of class and reference, signs round a sample, contexts -/
def ic (W x y : Nat) : Nat := (y + 1) * (W + 2) + (x + 1)
def ir (x y : Nat) : Nat := 16 * y + x
def nz (v : Int32) : Bool := !decide (v = 0)
theorem nz_0 {v : Int32} (h : v = 0) : nz v = false := by unfold nz; simp [h]
theorem nz_n {v : Int32} (h : ¬ v = 0) : nz v = true := by unfold nz; simp [h]
theorem bI_nz (v : Int32) : (if v = 0 then some (0 : Int32) else some (1 : Int32)) = some (bI (nz v)) := by
  by_cases h : v = 0
  · rw [if_pos h, nz_0 h]; rfl
  · rw [if_neg h, nz_n h]; rfl
/-- the sign that the reference's rows give at a place -/
def rS (fa be : Nat → Int32) (s : Nat) : Int32 := if fa s = -1 then 0 else if be s = 0 then 1 else -1
/-- the class's signs are the reference's; its border is 0 -/
def SG (W Hh : Nat) (sgn fa be : Nat → Int32) : Prop := (∀ x y, x < W → y < Hh → sgn (ic W x y) = rS fa be (ir x y)) ∧ (∀ Y, Y ≤ Hh + 1 → sgn (Y * (W + 2)) = 0 ∧ sgn (Y * (W + 2) + (W + 1)) = 0) ∧ (∀ X, X ≤ W + 1 → sgn X = 0 ∧ sgn ((Hh + 1) * (W + 2) + X) = 0)
/-- below a row of a stripe's last line, with CAUSAL: hidden -/
def blB (st : Int32) (y : Nat) : Bool := nz (st &&& 8) && decide (y % 4 = 3)
theorem nI_rem4 {y : Nat} (h : y < 2 ^ 31) : krem (nI y) 4 = nI (y % 4) := pk_rem h (by decide) (by decide)
theorem isBlind_ok {st : Int32} {y : Nat} (hy : y < 2 ^ 31) : f_K_isBlindBelow st (nI y) = bI (blB st y) := by
  unfold f_K_isBlindBelow f_K_hasStyle blB
  rw [nI_rem4 hy]
  by_cases h : st &&& 8 = 0
  · rw [if_pos h, if_pos rfl, nz_0 h]; rfl
  · rw [if_neg h, if_neg (by decide), nz_n h]
    by_cases h3 : y % 4 = 3
    · rw [h3, if_pos (by decide)]; rfl
    · rw [if_neg (show ¬ nI (y % 4) = (3 : Int32) from fun q => h3 ((nI_eq (by omega) (by decide)).mp (show nI (y % 4) = nI 3 from q)))]
      simp [h3, bI]
theorem cellOf_ok (W x y : Nat) : f_K_cellOf (nI (W + 2)) (nI x) (nI y) = nI (ic W x y) := by
  unfold f_K_cellOf ic
  rw [nI_1, pk_mul, nI_add, nI_1]
  rfl
theorem hid_ok {st : Int32} {Y y : Nat} (hy : y < 100) (hYy : Y ≤ y + 2) : (if f_M_has st 8 = 0 then some (0 : Int32) else if nI Y - 1 ≤ nI y then some 0 else if krem (nI Y - 1) 4 = 0 then some 1 else some 0) = some (bI (decide (Y = y + 2) && blB st y)) := by
  unfold f_M_has blB
  by_cases h : st &&& 8 = 0
  · rw [if_pos h, if_pos rfl, nz_0 h]; simp [bI]
  · rw [if_neg h, if_neg (by decide), nz_n h]
    cases Y with
    | zero =>
      rw [if_pos (show nI 0 - 1 ≤ nI y from by
        rw [Int32.le_iff_toInt_le, nI_toInt (by omega)]
        have : (nI 0 - 1).toInt = -1 := by decide
        omega)]
      simp [bI]
    | succ Y =>
      rw [nI_pred]
      by_cases h1 : Y ≤ y
      · rw [if_pos (nI_le h1 (by omega))]
        have : ¬ Y = y + 1 := by omega
        simp [bI, this]
      · have hY : Y = y + 1 := by omega
        subst hY
        rw [if_neg (nI_ge (by omega) (by omega)), nI_rem4 (by omega)]
        by_cases h2 : y % 4 = 3
        · have : (y + 1) % 4 = 0 := by omega
          rw [this, if_pos nI_0]; simp [bI, h2]
        · rw [if_neg (nI_ne0 (by omega) (by omega))]; simp [bI, h2]
theorem isIn_ok {W Hh X Y : Nat} (hW : W ≤ 16) (hH : Hh ≤ 16) (hX : X ≤ W + 1) (hY : Y ≤ Hh + 1) : f_M_isIn (nI W) (nI Hh) (nI X - 1) (nI Y - 1) = bI (decide (1 ≤ X ∧ X ≤ W) && decide (1 ≤ Y ∧ Y ≤ Hh)) := by
  unfold f_M_isIn
  cases X with
  | zero => rw [if_pos (by decide)]; simp [bI]
  | succ X =>
    rw [nI_pred, if_neg (nI_pos (by omega))]
    by_cases h1 : W ≤ X
    · rw [if_pos (nI_le h1 (by omega))]
      have : ¬ X + 1 ≤ W := by omega
      simp [bI, this]
    · rw [if_neg (nI_ge (by omega) (by omega))]
      have hx : X + 1 ≤ W := by omega
      cases Y with
      | zero => rw [if_pos (by decide)]; simp [bI]
      | succ Y =>
        rw [nI_pred, if_neg (nI_pos (by omega))]
        by_cases h2 : Hh ≤ Y
        · rw [if_pos (nI_le h2 (by omega))]
          have : ¬ Y + 1 ≤ Hh := by omega
          simp [bI, this]
        · rw [if_neg (nI_ge (by omega) (by omega))]
          have hy : Y + 1 ≤ Hh := by omega
          simp [bI, hx, hy]
theorem signAt_ok {W Hh : Nat} {sgn fa be : Nat → Int32} {st : Int32} (hW : W ≤ 16) (hH : Hh ≤ 16) (h : SG W Hh sgn fa be) {X Y y : Nat} (hX : X ≤ W + 1) (hY : Y ≤ Hh + 1) (hy : y < Hh) (hYy : Y ≤ y + 2) :
    f_M_signAt (nI W) (nI Hh) st be fa 256 256 (nI X - 1) (nI Y - 1) (nI y) = some (if (decide (Y = y + 2) && blB st y) = true then 0 else sgn (Y * (W + 2) + X)) := by
  obtain ⟨hin, hYb, hXb⟩ := h
  unfold f_M_signAt
  rw [hid_ok (by omega) hYy, Option.bind_some, isIn_ok hW hH hX hY]
  by_cases h1 : 1 ≤ X ∧ X ≤ W
  · by_cases h2 : 1 ≤ Y ∧ Y ≤ Hh
    · rw [if_neg (by simp [h1, h2, bI])]
      cases hh : (decide (Y = y + 2) && blB st y) with
      | true => rw [if_neg (by decide), if_pos rfl]
      | false =>
        rw [if_pos (by decide)]
        obtain ⟨X, rfl⟩ : ∃ X', X = X' + 1 := ⟨X - 1, by omega⟩
        obtain ⟨Y, rfl⟩ : ∃ Y', Y = Y' + 1 := ⟨Y - 1, by omega⟩
        have e : (16 : Int32) * (nI (Y + 1) - 1) + (nI (X + 1) - 1) = nI (ir X Y) := by
          rw [nI_pred, nI_pred, show (16 : Int32) = nI 16 from rfl, pk_mul, nI_add]; rfl
        have hlt : ir X Y < 256 := by unfold ir; omega
        have hs := hin X Y (by omega) (by omega)
        unfold ic at hs
        rw [e, nI_clamp (by omega), pc_ok' hlt (by decide), pc_ok' hlt (by decide), if_neg (by decide : ¬ false = true), hs]
        unfold rS
        by_cases hf : fa (ir X Y) = -1
        · rw [if_pos hf, if_pos hf]
        · rw [if_neg hf, if_neg hf]
          by_cases hb : be (ir X Y) = 0
          · rw [if_pos hb, if_pos hb]
          · rw [if_neg hb, if_neg hb]
    · rw [if_pos (by simp [h2, bI])]
      have hz : sgn (Y * (W + 2) + X) = 0 := by
        rcases (show Y = 0 ∨ Y = Hh + 1 by omega) with rfl | rfl
        · rw [Nat.zero_mul, Nat.zero_add]; exact (hXb X hX).1
        · exact (hXb X hX).2
      rw [hz]; simp
  · rw [if_pos (by simp [h1, bI])]
    have hz : sgn (Y * (W + 2) + X) = 0 := by
      rcases (show X = 0 ∨ X = W + 1 by omega) with rfl | rfl
      · rw [Nat.add_zero]; exact (hYb Y hY).1
      · exact (hYb Y hY).2
    rw [hz]; simp
/-- what is found at a place of the class's rows, a hidden one not -/
def fB (W : Nat) (st : Int32) (sgn : Nat → Int32) (y X Y : Nat) : Bool := !(decide (Y = y + 2) && blB st y) && nz (sgn (Y * (W + 2) + X))
theorem isFound_ok {W Hh : Nat} {sgn fa be : Nat → Int32} {st : Int32} (hW : W ≤ 16) (hH : Hh ≤ 16) (h : SG W Hh sgn fa be) {X Y y : Nat} (hX : X ≤ W + 1) (hY : Y ≤ Hh + 1) (hy : y < Hh) (hYy : Y ≤ y + 2) :
    f_M_isFound (nI W) (nI Hh) st be fa 256 256 (nI X - 1) (nI Y - 1) (nI y) = some (bI (fB W st sgn y X Y)) := by
  unfold f_M_isFound
  rw [signAt_ok hW hH h hX hY hy hYy, Option.bind_some, bI_nz]
  unfold fB
  cases hh : (decide (Y = y + 2) && blB st y) <;> simp [nz]
/-- the context, by the eight round a sample -/
def ctxV (W : Nat) (st bd : Int32) (sgn : Nat → Int32) (x y : Nat) : Int32 :=
  f_ST_ofSize bd (bI (fB W st sgn y x (y + 1)) + bI (fB W st sgn y (x + 2) (y + 1))) (bI (fB W st sgn y (x + 1) y) + bI (fB W st sgn y (x + 1) (y + 2)))
    ((bI (fB W st sgn y x y) + bI (fB W st sgn y (x + 2) y)) + (bI (fB W st sgn y x (y + 2)) + bI (fB W st sgn y (x + 2) (y + 2))))
theorem nI_m (x : Nat) : nI x = nI (x + 1) - 1 := (nI_pred x).symm
theorem nI_p (x : Nat) : nI x + 1 = nI (x + 2) - 1 := by rw [nI_1, nI_m]
theorem corners_ok {W Hh : Nat} {sgn fa be : Nat → Int32} {st : Int32} (hW : W ≤ 16) (hH : Hh ≤ 16) (h : SG W Hh sgn fa be) {x y : Nat} (hx : x < W) (hy : y < Hh) :
    f_M_corners (nI W) (nI Hh) st be fa 256 256 (nI x) (nI y) = some (((bI (fB W st sgn y x y) + bI (fB W st sgn y (x + 2) y)) + bI (fB W st sgn y x (y + 2))) + bI (fB W st sgn y (x + 2) (y + 2))) := by
  unfold f_M_corners
  rw [nI_p x, nI_p y]
  rw [isFound_ok hW hH h (X := x) (Y := y) (by omega) (by omega) hy (by omega), Option.bind_some, isFound_ok hW hH h (X := x + 2) (Y := y) (by omega) (by omega) hy (by omega), Option.bind_some, isFound_ok hW hH h (X := x) (Y := y + 2) (by omega) (by omega) hy (by omega), Option.bind_some, isFound_ok hW hH h (X := x + 2) (Y := y + 2) (by omega) (by omega) hy (by omega), Option.bind_some]
set_option maxRecDepth 20000 in
theorem ctx_tab : ∀ (k : Nat), k < 3 → ∀ (a b c d e f g i : Bool),
    (if nI k = (2 : Int32) then (if (((bI e + bI f) + bI g) + bI i) ≤ (2 : Int32) then (if (((bI e + bI f) + bI g) + bI i) = (2 : Int32) then (if ((bI a + bI b) + (bI c + bI d)) ≤ 0 then some (6 : Int32) else some (7 : Int32)) else (if (((bI e + bI f) + bI g) + bI i) = (1 : Int32) then (if ((bI a + bI b) + (bI c + bI d)) ≤ (1 : Int32) then some ((3 : Int32) + ((bI a + bI b) + (bI c + bI d))) else some (5 : Int32)) else (if ((bI a + bI b) + (bI c + bI d)) ≤ (1 : Int32) then some ((bI a + bI b) + (bI c + bI d)) else some (2 : Int32)))) else some (8 : Int32)) else (((if nI k = 0 then some (bI a + bI b) else some (bI c + bI d)) : Option (Int32)).bind fun u8 => (((if nI k = 0 then some (bI c + bI d) else some (bI a + bI b)) : Option (Int32)).bind fun u10 => (if u8 ≤ 0 then (if u10 = (2 : Int32) then some (4 : Int32) else (if u10 = (1 : Int32) then some (3 : Int32) else (if (((bI e + bI f) + bI g) + bI i) ≤ (1 : Int32) then some ((((bI e + bI f) + bI g) + bI i)) else some (2 : Int32)))) else (if u8 = (2 : Int32) then some (8 : Int32) else (if u10 ≤ 0 then (if (((bI e + bI f) + bI g) + bI i) ≤ 0 then some (5 : Int32) else some (6 : Int32)) else some (7 : Int32)))))))
    = some (f_ST_ofSize (nI k) (bI a + bI b) (bI c + bI d) ((bI e + bI f) + (bI g + bI i))) := by decide +kernel
theorem Mctx_ok {W Hh k : Nat} {sgn fa be : Nat → Int32} {st : Int32} (hW : W ≤ 16) (hH : Hh ≤ 16) (hk : k < 3) (h : SG W Hh sgn fa be) {x y : Nat} (hx : x < W) (hy : y < Hh) :
    f_M_contextOf (nI W) (nI Hh) st (nI k) be fa 256 256 (nI x) (nI y) = some (ctxV W st (nI k) sgn x y) := by
  unfold f_M_contextOf ctxV
  rw [corners_ok hW hH h hx hy]
  have e1 := isFound_ok (st := st) hW hH h (X := x) (Y := y + 1) (by omega) (by omega) hy (by omega)
  have e2 := isFound_ok (st := st) hW hH h (X := x + 2) (Y := y + 1) (by omega) (by omega) hy (by omega)
  have e3 := isFound_ok (st := st) hW hH h (X := x + 1) (Y := y) (by omega) (by omega) hy (by omega)
  have e4 := isFound_ok (st := st) hW hH h (X := x + 1) (Y := y + 2) (by omega) (by omega) hy (by omega)
  rw [← nI_m y, ] at e1 e2
  rw [← nI_p x] at e2
  rw [← nI_m x] at e3 e4
  rw [← nI_p y] at e4
  rw [e1, Option.bind_some, e2, Option.bind_some, e3, Option.bind_some, e4, Option.bind_some, Option.bind_some]
  exact ctx_tab k hk _ _ _ _ _ _ _ _

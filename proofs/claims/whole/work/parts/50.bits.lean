/-! from kit/laws/BITS.to-paste (the family of bt), then own rows -/
def bt (x : Int32) (i : Nat) : Bool := x.toBitVec.getLsbD i
theorem b_ext {x y : Int32} (h : ∀ i, i < 32 → bt x i = bt y i) : x = y := Int32.toBitVec_inj.mp (BitVec.eq_of_getLsbD_eq (fun i hi => h i hi))
theorem b_or (x y : Int32) (i : Nat) : bt (x ||| y) i = (bt x i || bt y i) := by unfold bt; rw [Int32.toBitVec_or, BitVec.getLsbD_or]
theorem b_and (x y : Int32) (i : Nat) : bt (x &&& y) i = (bt x i && bt y i) := by unfold bt; rw [Int32.toBitVec_and, BitVec.getLsbD_and]
theorem b_xor (x y : Int32) (i : Nat) : bt (x ^^^ y) i = (bt x i ^^ bt y i) := by unfold bt; rw [Int32.toBitVec_xor, BitVec.getLsbD_xor]
theorem b_big {x : Int32} {i : Nat} (h : 32 ≤ i) : bt x i = false := BitVec.getLsbD_of_ge _ _ h
theorem b_255 (i : Nat) : bt 255 i = decide (i < 8) := by
  rcases Nat.lt_or_ge i 32 with h | h
  · exact (by decide +kernel : ∀ i, i < 32 → bt 255 i = decide (i < 8)) i h
  · rw [b_big h, decide_eq_false (by omega)]
theorem b_65535 (i : Nat) : bt 65535 i = decide (i < 16) := by
  rcases Nat.lt_or_ge i 32 with h | h
  · exact (by decide +kernel : ∀ i, i < 32 → bt 65535 i = decide (i < 16)) i h
  · rw [b_big h, decide_eq_false (by omega)]
theorem b_m1 : ∀ i, i < 32 → bt (-1) i = true := by decide +kernel
theorem b_0 (i : Nat) : bt 0 i = false := BitVec.getLsbD_zero
theorem s_l : ∀ n, n < 32 → ((nI n &&& 31).toBitVec.smod 32).toNat = n := by decide +kernel
theorem s_u : ∀ n, n < 32 → (((nI n).toUInt32 &&& Int32.toUInt32 31).toBitVec % 32).toNat = n := by decide +kernel
theorem b_shl (n : Nat) (hn : n < 32) (x : Int32) {i : Nat} (hi : i < 32) : bt (x <<< (nI n &&& 31)) i = (decide (n ≤ i) && bt x (i - n)) := by
  unfold bt
  rw [Int32.toBitVec_shiftLeft]
  show (x.toBitVec <<< ((nI n &&& 31).toBitVec.smod 32).toNat).getLsbD i = _
  rw [s_l n hn, BitVec.getLsbD_shiftLeft]
  rcases Nat.lt_or_ge i n with h | h
  · simp [h, Nat.not_le.mpr h]
  · simp [hi, h, Nat.not_lt.mpr h]
theorem b_ushr (n : Nat) (hn : n < 32) (x : Int32) (i : Nat) : bt ((x.toUInt32 >>> ((nI n).toUInt32 &&& Int32.toUInt32 31)).toInt32) i = bt x (n + i) := by
  show (x.toUInt32 >>> ((nI n).toUInt32 &&& Int32.toUInt32 31)).toBitVec.getLsbD i = x.toUInt32.toBitVec.getLsbD (n + i)
  rw [UInt32.toBitVec_shiftRight]
  show (x.toUInt32.toBitVec >>> (((nI n).toUInt32 &&& Int32.toUInt32 31).toBitVec % 32).toNat).getLsbD i = _
  rw [s_u n hn, BitVec.getLsbD_ushiftRight]
theorem b_sshr (n : Nat) (hn : n < 32) (x : Int32) {i : Nat} (hi : i < 32) : bt (x >>> (nI n &&& 31)) i = if n + i < 32 then bt x (n + i) else bt x 31 := by
  unfold bt
  rw [Int32.toBitVec_shiftRight]
  show (x.toBitVec.sshiftRight ((nI n &&& 31).toBitVec.smod 32).toNat).getLsbD i = _
  rw [s_l n hn, BitVec.getLsbD_sshiftRight, BitVec.msb_eq_getLsbD_last]
  simp [hi]
theorem b_shl8 (x : Int32) {i : Nat} (hi : i < 32) : bt (x <<< ((8 : Int32) &&& 31)) i = (decide (8 ≤ i) && bt x (i - 8)) := b_shl 8 (by omega) x hi
theorem b_shl16 (x : Int32) {i : Nat} (hi : i < 32) : bt (x <<< ((16 : Int32) &&& 31)) i = (decide (16 ≤ i) && bt x (i - 16)) := b_shl 16 (by omega) x hi
theorem b_shl24 (x : Int32) {i : Nat} (hi : i < 32) : bt (x <<< ((24 : Int32) &&& 31)) i = (decide (24 ≤ i) && bt x (i - 24)) := b_shl 24 (by omega) x hi
theorem b_sshr8 (x : Int32) {i : Nat} (hi : i < 32) : bt (x >>> ((8 : Int32) &&& 31)) i = if 8 + i < 32 then bt x (8 + i) else bt x 31 := b_sshr 8 (by omega) x hi
/-! PURE ROWS: bits of a word, the listener's row of bits, the teller's packed numbers -/
def bI (b : Bool) : Int32 := if b then 1 else 0
theorem bt_1 (i : Nat) : bt 1 i = decide (i = 0) := by
  rcases Nat.lt_or_ge i 32 with h | h
  · exact (by decide +kernel : ∀ i, i < 32 → bt 1 i = decide (i = 0)) i h
  · rw [b_big h, decide_eq_false (by omega)]
theorem bt_bI (b : Bool) (i : Nat) : bt (bI b) i = (b && decide (i = 0)) := by
  cases b
  · exact (b_0 i).trans (by simp)
  · exact (bt_1 i).trans (by simp)
theorem and1_bI (x : Int32) : x &&& 1 = bI (bt x 0) := by
  apply b_ext
  intro i _
  rw [b_and, bt_1, bt_bI]
  by_cases h : i = 0
  · subst h; simp
  · simp [h]
theorem bI_1 (b : Bool) : bI b = 1 ↔ b = true := by cases b <;> decide
theorem bI_0 (b : Bool) : bI b = 0 ↔ b = false := by cases b <;> decide
theorem bI_xor (a b : Bool) : bI a ^^^ bI b = bI (a ^^ b) := by cases a <;> cases b <;> decide
theorem bI_01 (b : Bool) : bI b = 0 ∨ bI b = 1 := by cases b <;> decide
theorem kushr_bt (x : Int32) {j : Nat} (hj : j < 32) (i : Nat) : bt (kushr x (nI j)) i = bt x (j + i) := b_ushr j hj x i
theorem bt_shl1 {j : Nat} (hj : j < 32) {i : Nat} (hi : i < 32) : bt ((1 : Int32) <<< (nI j &&& 31)) i = decide (i = j) := by
  rw [b_shl j hj 1 hi, bt_1]
  by_cases h : i = j
  · subst h; simp
  · by_cases h2 : j ≤ i
    · have : ¬ i - j = 0 := by omega
      simp [h, this]
    · simp [h, h2]
/-- bit i of a row of words -/
def lb (wor : Nat → Int32) (i : Nat) : Bool := bt (wor (i / 32)) (i % 32)
theorem nI_shr5 {i : Nat} (h : i < 2 ^ 31) : nI i >>> ((5 : Int32) &&& 31) = nI (i / 32) := pk_shrN h _ 5 (by decide +kernel)
theorem nI_and31 {i : Nat} (h : i < 2 ^ 31) : nI i &&& (31 : Int32) = nI (i % 32) := pk_andN (by omega) 5 (by decide +kernel)
theorem pc_ok {α : Type} {c n : Nat} {x : Option α} (h : c < n) (hn : n < 2 ^ 31) : (if (nI c < 0 ∨ n ≤ (nI c).toNatClampNeg) then none else x) = x := if_neg (nI_in h hn)
theorem pc_ok' {α : Type} {c n : Nat} {x : Option α} (h : c < n) (hn : n < 2 ^ 31) : (if (nI c < 0 ∨ n ≤ c) then none else x) = x := if_neg (fun q => q.elim (nI_pos (by omega)) (Nat.not_le.mpr h))
theorem L_bitOf_ok {wor : Nat → Int32} {n i : Nat} (hi : i < 32 * n) (hn : n < 2 ^ 20) : f_L_bitOf wor n (nI i) = some (bI (lb wor i)) := by
  unfold f_L_bitOf
  have h1 : i / 32 < n := by omega
  rw [nI_shr5 (by omega), nI_and31 (by omega), pc_ok h1 (by omega), nI_clamp (by omega), and1_bI, kushr_bt _ (by omega)]
  rfl
/-- a row of words with bit k made b -/
theorem L_append_ok {wor : Nat → Int32} {n k : Nat} {b : Bool} (hk : k < 12000) (hn : k / 32 < n) (hn2 : n < 2 ^ 20) :
    ∃ wor', f_L_append (nI k) wor n (bI b) = some (nI (k + 1), wor') ∧ ∀ i, lb wor' i = if i = k then b else lb wor i := by
  unfold f_L_append
  rw [if_neg (show ¬ (12000 : Int32) ≤ nI k from nI_ge (a := k) (b := 12000) hk (by omega)), nI_shr5 (by omega), nI_and31 (by omega), nI_clamp (by omega)]
  have hm : k % 32 < 32 := Nat.mod_lt _ (by omega)
  cases b
  · refine ⟨_, by rw [if_neg (by decide), pc_ok' hn (by omega), Option.bind_some, pc_ok' hn (by omega), nI_1], ?_⟩
    intro i
    unfold lb upd
    by_cases hq : i / 32 = k / 32
    · rw [if_pos hq, b_and, b_xor, bt_shl1 hm (Nat.mod_lt _ (by omega)), b_m1 _ (Nat.mod_lt _ (by omega)), hq]
      by_cases hr : i = k
      · subst hr; simp
      · have : ¬ i % 32 = k % 32 := by omega
        simp [hr, this]
    · rw [if_neg hq, if_neg (by rintro rfl; exact hq rfl)]
  · refine ⟨_, by rw [if_pos (by decide), pc_ok' hn (by omega), Option.bind_some, pc_ok' hn (by omega), nI_1], ?_⟩
    intro i
    unfold lb upd
    by_cases hq : i / 32 = k / 32
    · rw [if_pos hq, b_or, bt_shl1 hm (Nat.mod_lt _ (by omega)), hq]
      by_cases hr : i = k
      · subst hr; simp
      · have : ¬ i % 32 = k % 32 := by omega
        simp [hr, this]
    · rw [if_neg hq, if_neg (by rintro rfl; exact hq rfl)]
theorem L_flip_ok {wor : Nat → Int32} {n k : Nat} (hk : k < 2 ^ 20) (hn : k / 32 < n) (hn2 : n < 2 ^ 20) :
    ∃ wor', f_L_flip wor n (nI k) = some (bI (!lb wor k), wor') ∧ ∀ i, lb wor' i = if i = k then !lb wor k else lb wor i := by
  unfold f_L_flip
  rw [nI_shr5 (by omega), nI_and31 (by omega), nI_clamp (by omega), pc_ok' hn (by omega), pc_ok' hn (by omega), L_bitOf_ok (by omega) hn2, Option.bind_some]
  have hm : k % 32 < 32 := Nat.mod_lt _ (by omega)
  have key : ∀ i, lb (upd wor (k / 32) (wor (k / 32) ^^^ (1 : Int32) <<< (nI (k % 32) &&& 31))) i = if i = k then !lb wor k else lb wor i := by
    intro i
    unfold lb upd
    by_cases hq : i / 32 = k / 32
    · rw [if_pos hq, b_xor, bt_shl1 hm (Nat.mod_lt _ (by omega)), hq]
      by_cases hr : i = k
      · subst hr; simp
      · have : ¬ i % 32 = k % 32 := by omega
        simp [hr, this]
    · rw [if_neg hq, if_neg (by rintro rfl; exact hq rfl)]
  refine ⟨_, by rw [key k, if_pos rfl], key⟩

/-! PURE: the tapes: teller against told bits, listener against bits to read -/
abbrev MT := Int32 × Int32 × Int32 × (Nat → Int32) × (Nat → Int32) × (Nat → Int32)
abbrev CA := (Nat → Int32) × (Nat → Int32) × (Nat → Int32)
abbrev RA := (Nat → Int32) × (Nat → Int32) × (Nat → Int32) × (Nat → Int32) × (Nat → Int32) × (Nat → Int32)
def pk3 (b : Bool) (cx pa : Nat) : Int32 := (bI b ||| (nI cx <<< ((1 : Int32) &&& 31))) ||| (nI pa <<< ((6 : Int32) &&& 31))
set_option maxRecDepth 20000 in
theorem pk3_un : ∀ (b : Bool) (cx : Nat), cx < 32 → ∀ (pa : Nat), pa < 64 → (pk3 b cx pa &&& (1 : Int32)) = bI b ∧ ((pk3 b cx pa >>> ((1 : Int32) &&& 31)) &&& (31 : Int32)) = nI cx ∧ (pk3 b cx pa >>> ((6 : Int32) &&& 31)) = nI pa := by decide +kernel
def RowOK (c : Nat) (row bits ctxs paso : Nat → Int32) : Prop := ∀ i, i < c → ∃ (b : Bool) (cx pa : Nat), cx < 32 ∧ pa < 64 ∧ row i = pk3 b cx pa ∧ bits i = bI b ∧ ctxs i = nI cx ∧ paso i = nI pa
theorem RowOK_upd {c : Nat} {row bits ctxs paso : Nat → Int32} (h : RowOK c row bits ctxs paso) (b : Bool) {cx pa : Nat} (h1 : cx < 32) (h2 : pa < 64) :
    RowOK (c + 1) (upd row c (pk3 b cx pa)) (upd bits c (bI b)) (upd ctxs c (nI cx)) (upd paso c (nI pa)) := by
  intro i hi
  by_cases hc : i = c
  · subst hc; exact ⟨b, cx, pa, h1, h2, pk_us, pk_us, pk_us, pk_us⟩
  · rw [pk_un hc, pk_un hc, pk_un hc, pk_un hc]; exact h i (by omega)
def TT (pn : Int32) (nR k : Nat) (s : Int32 × (Nat → Int32)) (m : MT) : Prop := ∃ c pa : Nat, c + k ≤ nR ∧ nR ≤ 12000 ∧ pa < 64 ∧ pn = nI pa ∧ s.1 = nI c ∧ m.1 = nI c ∧ RowOK c s.2 m.2.2.2.1 m.2.2.2.2.1 m.2.2.2.2.2
def TL (lcn : Int32) (wor : Nat → Int32) (mtr : Int32) (mreads : Nat → Int32) (m0 : MT) (k : Nat) (s : Int32 × Int32) (m : MT) : Prop := ∃ c j : Nat, c ≤ 12000 ∧ j ≤ c ∧ lcn = nI c ∧ mtr = nI c ∧ (∀ i, i < c → mreads i = bI (lb wor i)) ∧ s.2 = nI j ∧ m.2.1 = nI j ∧ m.2.2.1 = s.1 ∧ (s.1 = 0 ∨ s.1 = 1) ∧ m.1 = m0.1 ∧ m.2.2.2 = m0.2.2.2
theorem TT_le {pn : Int32} {nR k k' : Nat} {s : Int32 × (Nat → Int32)} {m : MT} (h : TT pn nR k s m) (hk : k' ≤ k) : TT pn nR k' s m := by
  obtain ⟨c, pa, h1, h2⟩ := h; exact ⟨c, pa, by omega, h2⟩
theorem TL_le {lcn : Int32} {wor : Nat → Int32} {mtr : Int32} {mreads : Nat → Int32} {m0 : MT} {k k' : Nat} {s : Int32 × Int32} {m : MT} (h : TL lcn wor mtr mreads m0 k s m) (hk : k' ≤ k) : TL lcn wor mtr mreads m0 k' s m := h
theorem ex_T {pn mtr : Int32} {nR k : Nat} {mreads : Nat → Int32} {s : Int32 × (Nat → Int32)} {m : MT} (h : TT pn nR (k + 1) s m) (b : Bool) {c : Nat} (hc : c < 32) :
    ∃ r s' m', f_T_exchange s.1 pn s.2 nR (bI b) (nI c) = some (bI r, s') ∧ f_M_code m.1 mtr 0 m.2.1 m.2.2.1 pn m.2.2.2.1 m.2.2.2.2.1 m.2.2.2.2.2 mreads 12000 12000 12000 12000 (bI b) (nI c) = some (bI r, m') ∧ TT pn nR k s' m' := by
  obtain ⟨c0, pa, h1, h2, h3, h4, h5, h6, h7⟩ := h
  subst h4
  refine ⟨b, (nI (c0 + 1), upd s.2 c0 (pk3 b c pa)), (nI (c0 + 1), m.2.1, m.2.2.1, upd m.2.2.2.1 c0 (bI b), upd m.2.2.2.2.1 c0 (nI c), upd m.2.2.2.2.2 c0 (nI pa)), ?_, ?_, c0 + 1, pa, by omega, h2, h3, rfl, rfl, rfl, RowOK_upd h7 b hc h3⟩
  · unfold f_T_exchange
    rw [h5, if_neg (nI_ge (by omega) (by omega)), pc_ok (by omega) (by omega), nI_1, nI_clamp (by omega)]; rfl
  · unfold f_M_code
    rw [if_pos rfl, h6, pc_ok (by omega) (by omega), pc_ok (by omega) (by omega), pc_ok (by omega) (by omega), nI_1, nI_clamp (by omega)]
theorem ex_L {pn lcn mtr : Int32} {wor mreads : Nat → Int32} {m0 : MT} {k : Nat} {s : Int32 × Int32} {m : MT} (h : TL lcn wor mtr mreads m0 (k + 1) s m) (a0 a1 : Int32) :
    ∃ r s' m', f_L_exchange lcn s.1 s.2 wor 376 = some (bI r, s') ∧ f_M_code m.1 mtr 1 m.2.1 m.2.2.1 pn m.2.2.2.1 m.2.2.2.2.1 m.2.2.2.2.2 mreads 12000 12000 12000 12000 a0 a1 = some (bI r, m') ∧ TL lcn wor mtr mreads m0 k s' m' := by
  obtain ⟨c, j, h1, h2, h3, h4, h5, h6, h7, h8, h9, h10, h11⟩ := h
  unfold f_L_exchange f_M_code
  rw [if_neg (show ¬ (1 : Int32) = 0 by decide), h3, h4, h6, h7]
  by_cases hj : j < c
  · rw [if_pos (nI_lt hj (by omega)), if_pos (nI_lt hj (by omega)), L_bitOf_ok (by omega) (by omega), Option.bind_some, nI_1, nI_pred, pc_ok (by omega) (by omega), nI_clamp (by omega), h5 j hj]
    exact ⟨lb wor j, (s.1, nI (j + 1)), (m.1, nI (j + 1), m.2.2.1, m.2.2.2.1, m.2.2.2.2.1, m.2.2.2.2.2), rfl, rfl, c, j + 1, h1, by omega, rfl, rfl, h5, rfl, rfl, h8, h9, h10, h11⟩
  · rw [if_neg (nI_nlt (by omega) (by omega)), if_neg (nI_nlt (by omega) (by omega))]
    exact ⟨false, (1, nI j), (m.1, nI j, 1, m.2.2.2.1, m.2.2.2.2.1, m.2.2.2.2.2), rfl, rfl, c, j, h1, by omega, rfl, rfl, h5, rfl, rfl, rfl, .inr rfl, h10, h11⟩
/-- the samples of class and reference -/
def SAM (W Hh : Nat) (sam msam : Nat → Int32) : Prop := ∀ x y, x < W → y < Hh → sam (ic W x y) = msam (ir x y)
def szb (v : Int32) (p : Nat) : Bool := bt ((kabs v) >>> (nI p &&& 31)) 0
def neg (v : Int32) : Bool := !decide (0 ≤ v)
theorem T_sizeBit_ok {sam : Nat → Int32} {n i p : Nat} (h : i < n) (hn : n < 2 ^ 31) : f_T_sizeBit sam n (nI i) (nI p) = some (bI (szb (sam i) p)) := by
  unfold f_T_sizeBit szb
  rw [pc_ok h hn, nI_clamp (by omega), and1_bI]
theorem neg_eq (v : Int32) : (if 0 ≤ v then some (0 : Int32) else some (1 : Int32)) = some (bI (neg v)) := by
  unfold neg; by_cases h : 0 ≤ v <;> simp [h, bI]
theorem T_signBit_ok {sam : Nat → Int32} {n i : Nat} (h : i < n) (hn : n < 2 ^ 31) : f_T_signBit sam n (nI i) = some (bI (neg (sam i))) := by
  unfold f_T_signBit
  rw [pc_ok h hn, nI_clamp (by omega), neg_eq]
theorem M_sizeOf_ok {sam : Nat → Int32} {n i : Nat} (h : i < n) (hn : n < 2 ^ 31) : f_M_sizeOf sam n (nI i) = some (kabs (sam i)) := by
  unfold f_M_sizeOf kabs
  rw [pc_ok h hn, pc_ok h hn, pc_ok h hn, nI_clamp (by omega)]
  by_cases h0 : 0 ≤ sam i
  · rw [if_pos h0, if_pos h0]
  · rw [if_neg h0, if_neg h0, Int32.zero_sub]
theorem M_bitOf_ok {sam : Nat → Int32} {n i p : Nat} (h : i < n) (hn : n < 2 ^ 31) : f_M_bitOf (nI p) sam n (nI i) = some (bI (szb (sam i) p)) := by
  unfold f_M_bitOf szb
  rw [M_sizeOf_ok h hn, Option.bind_some, and1_bI]
theorem cl_ok {c n : Nat} (h : c < n) (hn : n < 2 ^ 31) : (nI c).toNatClampNeg = c := nI_clamp (by omega)
theorem sg_b (r t : Bool) : (if (bI r ^^^ bI t) = (1 : Int32) then some (-1 : Int32) else some (1 : Int32)) = some (if (r ^^ t) then -1 else 1) := by cases r <;> cases t <;> decide
theorem dn_s3 {W Hh x y : Nat} {st : Int32} {sgn fa be : Nat → Int32} (hS : SG W Hh sgn fa be) (hx : x < W) (hy : y < Hh) : s3 (if blB st y = true then 0 else sgn ((y + 2) * (W + 2) + (x + 1))) := by
  by_cases h : blB st y = true
  · rw [if_pos h]; exact .inl rfl
  · rw [if_neg h]; exact SG_s3 hS (by omega) (by omega)
theorem dn_T {W Hh x y : Nat} {st : Int32} {sgn : Nat → Int32} (hW : W ≤ 16) (hH : Hh ≤ 16) (hx : x < W) (hy : y < Hh) :
    (if bI (blB st y) = 0 then if (nI ((y + 2) * (W + 2) + (x + 1)) < 0 ∨ ((W + 2) * (Hh + 2)) ≤ (nI ((y + 2) * (W + 2) + (x + 1))).toNatClampNeg) then none else some (sgn (nI ((y + 2) * (W + 2) + (x + 1))).toNatClampNeg) else some (0 : Int32)) = some (if blB st y = true then 0 else sgn ((y + 2) * (W + 2) + (x + 1))) := by
  have hn := nC_le hW hH
  have h1 : (y + 2) * (W + 2) + (x + 1) < ((W + 2) * (Hh + 2)) := ps_lt (by omega) (by omega)
  cases hb : blB st y with
  | false => rw [if_pos bI_ff, pc_ok h1 (by omega), nI_clamp (by omega), if_neg (by decide)]
  | true => rw [if_neg (by decide), if_pos rfl]
theorem sign_T {W Hh x y p k : Nat} {st : Int32} {rw : Bool} {pn mtr : Int32} {nR : Nat} {sam msam mreads : Nat → Int32} {sgn siz be fa : Nat → Int32} {s : (Int32 × (Nat → Int32))} {m : MT} (hW : W ≤ 16) (hH : Hh ≤ 16) (hS : SG W Hh sgn fa be) (hx : x < W) (hy : y < Hh) (hM : SAM W Hh sam msam) (hT : TT pn nR (k + 1) s m) :
    ∃ (b : Bool) (s' : (Int32 × (Nat → Int32))) (m' : MT),
      f_WT_exchangeSign (nI p) (bI rw) sgn siz (nI (W + 2)) s.1 pn sam s.2 ((W + 2) * (Hh + 2)) ((W + 2) * (Hh + 2)) ((W + 2) * (Hh + 2)) nR (nI (ic W x y)) (bI (blB st y)) = some (upd sgn (ic W x y) (if b then -1 else 1), upd siz (ic W x y) ((1 : Int32) <<< (nI p &&& 31)), s'.1, s'.2)
      ∧ f_M_find (nI W) (nI Hh) st m.1 mtr 0 m.2.1 m.2.2.1 (nI p) pn (bI rw) msam m.2.2.2.1 m.2.2.2.2.1 m.2.2.2.2.2 mreads be fa 256 12000 12000 12000 12000 256 256 (nI x) (nI y) = some (m'.1, m'.2.1, m'.2.2.1, m'.2.2.2.1, m'.2.2.2.2.1, m'.2.2.2.2.2, upd be (ir x y) (bI b), upd fa (ir x y) (nI p))
      ∧ TT pn nR (k) s' m' := by
  have hn := nC_le hW hH
  have hn2 : ((W + 2) * (Hh + 2)) < 2 ^ 31 := by omega
  have hi := ic_lt hx hy
  have hs : ir x y < 256 := ir_lt (by omega) (by omega)
  have l1 : (y + 1) * (W + 2) + x < ((W + 2) * (Hh + 2)) := ps_lt (by omega) (by omega)
  have l2 : (y + 1) * (W + 2) + (x + 2) < ((W + 2) * (Hh + 2)) := ps_lt (by omega) (by omega)
  have l3 : y * (W + 2) + (x + 1) < ((W + 2) * (Hh + 2)) := ps_lt (by omega) (by omega)
  have sl := SG_s3 hS (X := x) (Y := y + 1) (by omega) (by omega)
  have sr := SG_s3 hS (X := x + 2) (Y := y + 1) (by omega) (by omega)
  have su := SG_s3 hS (X := x + 1) (Y := y) (by omega) (by omega)
  have sd := dn_s3 (st := st) hS hx hy
  have hA := wb_tab sl sr
  have hB := wb_tab su sd
  have tab := sign_tab rw hA.2 hB.2
  obtain ⟨t1, t2, t3, t4, t5, t6⟩ := tab
  obtain ⟨r, s', m', e1, e2, hT'⟩ := ex_T (mtr := mtr) (mreads := mreads) hT (neg (sam (ic W x y)) ^^ tS (f_ST_within (sgn ((y + 1) * (W + 2) + x) + sgn ((y + 1) * (W + 2) + (x + 2))) (-1) 1) (f_ST_within (sgn (y * (W + 2) + (x + 1)) + (if blB st y = true then 0 else sgn ((y + 2) * (W + 2) + (x + 1)))) (-1) 1) rw) t6
  refine ⟨r ^^ tS (f_ST_within (sgn ((y + 1) * (W + 2) + x) + sgn ((y + 1) * (W + 2) + (x + 2))) (-1) 1) (f_ST_within (sgn (y * (W + 2) + (x + 1)) + (if blB st y = true then 0 else sgn ((y + 2) * (W + 2) + (x + 1)))) (-1) 1) rw, s', m', ?_, ?_, hT'⟩
  · unfold f_WT_exchangeSign
    rw [ic_l, ic_r, ic_u, ic_d, dn_T hW hH hx hy, Option.bind_some, pc_ok l1 hn2, pc_ok l2 hn2, pc_ok l3 hn2, cl_ok l1 hn2, cl_ok l2 hn2, cl_ok l3 hn2, t1, Option.bind_some, t2, Option.bind_some, T_signBit_ok hi hn2, Option.bind_some, bI_xor, e1, Option.bind_some, sg_b, Option.bind_some, pc_ok hi hn2, pc_ok hi hn2, cl_ok hi hn2]
  · unfold f_M_find
    rw [M_l st hW hH hS hx hy, Option.bind_some, M_r st hW hH hS hx hy, Option.bind_some, M_u st hW hH hS hx hy, Option.bind_some, M_d st hW hH hS hx hy, Option.bind_some, hA.1, hB.1, t3, Option.bind_some, ite_some, Option.bind_some, ite_some, Option.bind_some, t4, Option.bind_some, t5, Option.bind_some, ir_e, pc_ok hs (by decide), cl_ok hs (by decide), neg_eq, Option.bind_some, bI_ne, Option.bind_some]
    rw [← hM x y hx hy]
    rw [e2, Option.bind_some, bI_id, Option.bind_some, bI_ne, Option.bind_some, pc_ok' hs (by decide), pc_ok' hs (by decide), nar_bI]
theorem dn_L {W Hh x y : Nat} {st : Int32} {sgn : Nat → Int32} (hW : W ≤ 16) (hH : Hh ≤ 16) (hx : x < W) (hy : y < Hh) :
    (if bI (blB st y) = 0 then if (nI ((y + 2) * (W + 2) + (x + 1)) < 0 ∨ ((W + 2) * (Hh + 2)) ≤ (nI ((y + 2) * (W + 2) + (x + 1))).toNatClampNeg) then none else some (sgn (nI ((y + 2) * (W + 2) + (x + 1))).toNatClampNeg) else some (0 : Int32)) = some (if blB st y = true then 0 else sgn ((y + 2) * (W + 2) + (x + 1))) := by
  have hn := nC_le hW hH
  have h1 : (y + 2) * (W + 2) + (x + 1) < ((W + 2) * (Hh + 2)) := ps_lt (by omega) (by omega)
  cases hb : blB st y with
  | false => rw [if_pos bI_ff, pc_ok h1 (by omega), nI_clamp (by omega), if_neg (by decide)]
  | true => rw [if_neg (by decide), if_pos rfl]
theorem sign_L {W Hh x y p k : Nat} {st : Int32} {rw : Bool} {pn lcn mtr : Int32} {wor msam mreads : Nat → Int32} {m0 : MT} {sgn siz be fa : Nat → Int32} {s : (Int32 × Int32)} {m : MT} (hW : W ≤ 16) (hH : Hh ≤ 16) (hS : SG W Hh sgn fa be) (hx : x < W) (hy : y < Hh)  (hT : TL lcn wor mtr mreads m0 (k + 1) s m) :
    ∃ (b : Bool) (s' : (Int32 × Int32)) (m' : MT),
      f_WL_exchangeSign (nI p) (bI rw) sgn siz (nI (W + 2)) lcn s.1 s.2 wor ((W + 2) * (Hh + 2)) ((W + 2) * (Hh + 2)) 376 (nI (ic W x y)) (bI (blB st y)) = some (upd sgn (ic W x y) (if b then -1 else 1), upd siz (ic W x y) ((1 : Int32) <<< (nI p &&& 31)), s'.1, s'.2)
      ∧ f_M_find (nI W) (nI Hh) st m.1 mtr 1 m.2.1 m.2.2.1 (nI p) pn (bI rw) msam m.2.2.2.1 m.2.2.2.2.1 m.2.2.2.2.2 mreads be fa 256 12000 12000 12000 12000 256 256 (nI x) (nI y) = some (m'.1, m'.2.1, m'.2.2.1, m'.2.2.2.1, m'.2.2.2.2.1, m'.2.2.2.2.2, upd be (ir x y) (bI b), upd fa (ir x y) (nI p))
      ∧ TL lcn wor mtr mreads m0 (k) s' m' := by
  have hn := nC_le hW hH
  have hn2 : ((W + 2) * (Hh + 2)) < 2 ^ 31 := by omega
  have hi := ic_lt hx hy
  have hs : ir x y < 256 := ir_lt (by omega) (by omega)
  have l1 : (y + 1) * (W + 2) + x < ((W + 2) * (Hh + 2)) := ps_lt (by omega) (by omega)
  have l2 : (y + 1) * (W + 2) + (x + 2) < ((W + 2) * (Hh + 2)) := ps_lt (by omega) (by omega)
  have l3 : y * (W + 2) + (x + 1) < ((W + 2) * (Hh + 2)) := ps_lt (by omega) (by omega)
  have sl := SG_s3 hS (X := x) (Y := y + 1) (by omega) (by omega)
  have sr := SG_s3 hS (X := x + 2) (Y := y + 1) (by omega) (by omega)
  have su := SG_s3 hS (X := x + 1) (Y := y) (by omega) (by omega)
  have sd := dn_s3 (st := st) hS hx hy
  have hA := wb_tab sl sr
  have hB := wb_tab su sd
  have tab := sign_tab rw hA.2 hB.2
  obtain ⟨t1, t2, t3, t4, t5, t6⟩ := tab
  obtain ⟨r, s', m', e1, e2, hT'⟩ := ex_L (pn := pn) hT (bI (neg (msam (ir x y)) ^^ tS (f_ST_within (sgn ((y + 1) * (W + 2) + x) + sgn ((y + 1) * (W + 2) + (x + 2))) (-1) 1) (f_ST_within (sgn (y * (W + 2) + (x + 1)) + (if blB st y = true then 0 else sgn ((y + 2) * (W + 2) + (x + 1)))) (-1) 1) rw)) (nI (cS (f_ST_within (sgn ((y + 1) * (W + 2) + x) + sgn ((y + 1) * (W + 2) + (x + 2))) (-1) 1) (f_ST_within (sgn (y * (W + 2) + (x + 1)) + (if blB st y = true then 0 else sgn ((y + 2) * (W + 2) + (x + 1)))) (-1) 1) rw))
  refine ⟨r ^^ tS (f_ST_within (sgn ((y + 1) * (W + 2) + x) + sgn ((y + 1) * (W + 2) + (x + 2))) (-1) 1) (f_ST_within (sgn (y * (W + 2) + (x + 1)) + (if blB st y = true then 0 else sgn ((y + 2) * (W + 2) + (x + 1)))) (-1) 1) rw, s', m', ?_, ?_, hT'⟩
  · unfold f_WL_exchangeSign
    rw [ic_l, ic_r, ic_u, ic_d, dn_L hW hH hx hy, Option.bind_some, pc_ok l1 hn2, pc_ok l2 hn2, pc_ok l3 hn2, cl_ok l1 hn2, cl_ok l2 hn2, cl_ok l3 hn2, t1, Option.bind_some, t2, Option.bind_some, e1, Option.bind_some, sg_b, Option.bind_some, pc_ok hi hn2, pc_ok hi hn2, cl_ok hi hn2]
  · unfold f_M_find
    rw [M_l st hW hH hS hx hy, Option.bind_some, M_r st hW hH hS hx hy, Option.bind_some, M_u st hW hH hS hx hy, Option.bind_some, M_d st hW hH hS hx hy, Option.bind_some, hA.1, hB.1, t3, Option.bind_some, ite_some, Option.bind_some, ite_some, Option.bind_some, t4, Option.bind_some, t5, Option.bind_some, ir_e, pc_ok hs (by decide), cl_ok hs (by decide), neg_eq, Option.bind_some, bI_ne, Option.bind_some]
    skip
    rw [e2, Option.bind_some, bI_id, Option.bind_some, bI_ne, Option.bind_some, pc_ok' hs (by decide), pc_ok' hs (by decide), nar_bI]

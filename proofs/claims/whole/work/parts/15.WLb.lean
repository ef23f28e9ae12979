def f_WL_markTold_L3 (pl : Int32) (str : Int32) (n_lo : Nat) (a0 : Int32) (a1 : Int32) (a2 : Int32) : Nat → Int32 → (Nat → Int32) → Option (Int32 × (Nat → Int32))
  | 0, _, _ => none
  | N + 1, v3_4, low_3 => (if a2 ≤ v3_4 then some (v3_4, low_3) else if ((f_K_cellOf str a0 (a1 + v3_4)) < 0 ∨ n_lo ≤ (f_K_cellOf str a0 (a1 + v3_4)).toNatClampNeg) then none else f_WL_markTold_L3 pl str n_lo a0 a1 a2 N (v3_4 + 1) (upd low_3 (f_K_cellOf str a0 (a1 + v3_4)).toNatClampNeg pl))
def f_WL_markTold (pl : Int32) (low : (Nat → Int32)) (str : Int32) (n_lo : Nat) (a0 : Int32) (a1 : Int32) (a2 : Int32) : Option ((Nat → Int32)) :=
  ((f_WL_markTold_L3 pl str n_lo a0 a1 a2 kBig (0 : Int32) low).bind fun u1 => some (u1.2))
def f_WL_firstOne_L2  : Nat → Int32 → Option (Nat × Int32)
  | 0, _ => none
  | N + 1, v2_3 => (if (4 : Int32) ≤ v2_3 then some (0, v2_3) else (if (f_L_sizeBit) = (1 : Int32) then some (1, v2_3) else f_WL_firstOne_L2  N (v2_3 + 1)))
def f_WL_firstOne  : Option (Int32) :=
  ((f_WL_firstOne_L2  kBig (0 : Int32)).bind fun u1 => if u1.1 = 0 then some (4 : Int32) else some (u1.2))
def f_WL_exchangeRun (pl : Int32) (raw : Int32) (sgn : (Nat → Int32)) (siz : (Nat → Int32)) (low : (Nat → Int32)) (sty : Int32) (str : Int32) (lcn : Int32) (lak : Int32) (nxt : Int32) (wor : (Nat → Int32)) (n_sg : Nat) (n_sz : Nat) (n_lo : Nat) (n_wo : Nat) (a0 : Int32) (a1 : Int32) : Option (Int32 × (Nat → Int32) × (Nat → Int32) × (Nat → Int32) × Int32 × Int32) :=
  ((f_WL_firstOne).bind fun u1 => (((if (4 : Int32) ≤ u1 then some (0 : Int32) else some (1 : Int32)) : Option (Int32)).bind fun u3 => ((f_L_exchange lcn lak nxt wor n_wo).bind fun u4 => (if u4.1 = 0 then ((f_WL_markTold pl low str n_lo a0 a1 (4 : Int32)).bind fun u10 => some ((4 : Int32), sgn, siz, u10, u4.2.1, u4.2.2)) else ((f_L_exchange lcn u4.2.1 u4.2.2 wor n_wo).bind fun u6 => ((f_L_exchange lcn u6.2.1 u6.2.2 wor n_wo).bind fun u7 => ((f_WL_markTold pl low str n_lo a0 a1 ((((2 : Int32) * u6.1) + u7.1) + (1 : Int32))).bind fun u8 => ((f_WL_exchangeSign pl raw sgn siz str lcn u7.2.1 u7.2.2 wor n_sg n_sz n_wo (f_K_cellOf str a0 (a1 + (((2 : Int32) * u6.1) + u7.1))) (f_K_isBlindBelow sty (a1 + (((2 : Int32) * u6.1) + u7.1)))).bind fun u9 => some (((((2 : Int32) * u6.1) + u7.1) + (1 : Int32)), u9.1, u9.2.1, u8, u9.2.2.1, u9.2.2.2)))))))))
def f_WL_isUntouched_L12 (pl : Int32) (sgn : (Nat → Int32)) (low : (Nat → Int32)) (sty : Int32) (bd : Int32) (str : Int32) (n_sg : Nat) (n_lo : Nat) (a0 : Int32) (a2 : Int32) : Nat → Int32 → Option (Nat × Int32)
  | 0, _ => none
  | N + 1, v12_4 => (if a2 ≤ v12_4 then some (0, v12_4) else ((f_WL_isOpen pl sgn low n_sg n_lo (f_K_cellOf str a0 v12_4)).bind fun u4 => (if u4 = 0 then some (1, v12_4) else ((f_WL_contextOf sgn bd str n_sg (f_K_cellOf str a0 v12_4) (f_K_isBlindBelow sty v12_4)).bind fun u6 => (if u6 = 0 then f_WL_isUntouched_L12 pl sgn low sty bd str n_sg n_lo a0 a2 N (v12_4 + 1) else some (1, v12_4))))))
def f_WL_isUntouched (pl : Int32) (sgn : (Nat → Int32)) (low : (Nat → Int32)) (sty : Int32) (bd : Int32) (str : Int32) (n_sg : Nat) (n_lo : Nat) (a0 : Int32) (a1 : Int32) (a2 : Int32) : Option (Int32) :=
  (if (4 : Int32) ≤ (a2 - a1) then ((f_WL_isUntouched_L12 pl sgn low sty bd str n_sg n_lo a0 a2 kBig a1).bind fun u2 => if u2.1 = 0 then some (1 : Int32) else some (0 : Int32)) else some (0 : Int32))
def f_WL_findColumn_L3 (pl : Int32) (raw : Int32) (sty : Int32) (bd : Int32) (str : Int32) (lcn : Int32) (wor : (Nat → Int32)) (n_sg : Nat) (n_sz : Nat) (n_lo : Nat) (n_wo : Nat) (a0 : Int32) (a2 : Int32) : Nat → Int32 → (Nat → Int32) → (Nat → Int32) → (Nat → Int32) → Int32 → Int32 → Option (Int32 × (Nat → Int32) × (Nat → Int32) × (Nat → Int32) × Int32 × Int32)
  | 0, _, _, _, _, _, _ => none
  | N + 1, v3_4, sgn_3, siz_3, low_3, lak_3, nxt_3 => (if a2 ≤ v3_4 then some (v3_4, sgn_3, siz_3, low_3, lak_3, nxt_3) else if ((f_K_cellOf str a0 v3_4) < 0 ∨ n_sg ≤ (f_K_cellOf str a0 v3_4).toNatClampNeg) then none else (((if (sgn_3 (f_K_cellOf str a0 v3_4).toNatClampNeg) = 0 then ((f_WL_contextOf sgn_3 bd str n_sg (f_K_cellOf str a0 v3_4) (f_K_isBlindBelow sty v3_4)).bind fun u6 => (if u6 = 0 then some (sgn_3, siz_3, low_3, lak_3, nxt_3) else ((f_WL_exchangeSize pl raw sgn_3 siz_3 low_3 str lcn lak_3 nxt_3 wor n_sg n_sz n_lo n_wo (f_K_cellOf str a0 v3_4) (f_K_isBlindBelow sty v3_4) u6).bind fun u8 => some (u8.1, u8.2.1, u8.2.2.1, u8.2.2.2.1, u8.2.2.2.2)))) else some (sgn_3, siz_3, low_3, lak_3, nxt_3)) : Option ((Nat → Int32) × (Nat → Int32) × (Nat → Int32) × Int32 × Int32)).bind fun u5 => f_WL_findColumn_L3 pl raw sty bd str lcn wor n_sg n_sz n_lo n_wo a0 a2 N (v3_4 + 1) u5.1 u5.2.1 u5.2.2.1 u5.2.2.2.1 u5.2.2.2.2))
def f_WL_findColumn (pl : Int32) (raw : Int32) (sgn : (Nat → Int32)) (siz : (Nat → Int32)) (low : (Nat → Int32)) (sty : Int32) (bd : Int32) (str : Int32) (lcn : Int32) (lak : Int32) (nxt : Int32) (wor : (Nat → Int32)) (n_sg : Nat) (n_sz : Nat) (n_lo : Nat) (n_wo : Nat) (a0 : Int32) (a1 : Int32) (a2 : Int32) : Option ((Nat → Int32) × (Nat → Int32) × (Nat → Int32) × Int32 × Int32) :=
  ((f_WL_findColumn_L3 pl raw sty bd str lcn wor n_sg n_sz n_lo n_wo a0 a2 kBig a1 sgn siz low lak nxt).bind fun u1 => some (u1.2.1, u1.2.2.1, u1.2.2.2.1, u1.2.2.2.2.1, u1.2.2.2.2.2))
def f_WL_refineColumn_L3 (pl : Int32) (raw : Int32) (sgn : (Nat → Int32)) (sty : Int32) (bd : Int32) (str : Int32) (lcn : Int32) (wor : (Nat → Int32)) (n_sg : Nat) (n_sz : Nat) (n_lo : Nat) (n_wo : Nat) (a0 : Int32) (a2 : Int32) : Nat → Int32 → (Nat → Int32) → (Nat → Int32) → Int32 → Int32 → Option (Int32 × (Nat → Int32) × (Nat → Int32) × Int32 × Int32)
  | 0, _, _, _, _, _ => none
  | N + 1, v3_4, siz_3, low_3, lak_3, nxt_3 => (if a2 ≤ v3_4 then some (v3_4, siz_3, low_3, lak_3, nxt_3) else if ((f_K_cellOf str a0 v3_4) < 0 ∨ n_sg ≤ (f_K_cellOf str a0 v3_4).toNatClampNeg) then none else (((if (sgn (f_K_cellOf str a0 v3_4).toNatClampNeg) = 0 then some (siz_3, low_3, lak_3, nxt_3) else if ((f_K_cellOf str a0 v3_4) < 0 ∨ n_lo ≤ (f_K_cellOf str a0 v3_4).toNatClampNeg) then none else (if (low_3 (f_K_cellOf str a0 v3_4).toNatClampNeg) ≤ pl then some (siz_3, low_3, lak_3, nxt_3) else (((if raw = 0 then ((f_WL_refiningContextOf pl sgn siz_3 bd str n_sg n_sz (f_K_cellOf str a0 v3_4) (f_K_isBlindBelow sty v3_4)).bind fun u14 => some (u14)) else some (19 : Int32)) : Option (Int32)).bind fun u9 => ((f_L_exchange lcn lak_3 nxt_3 wor n_wo).bind fun u10 => if ((f_K_cellOf str a0 v3_4) < 0 ∨ n_sz ≤ (f_K_cellOf str a0 v3_4).toNatClampNeg) then none else if ((f_K_cellOf str a0 v3_4) < 0 ∨ n_sz ≤ (f_K_cellOf str a0 v3_4).toNatClampNeg) then none else if ((f_K_cellOf str a0 v3_4) < 0 ∨ n_lo ≤ (f_K_cellOf str a0 v3_4).toNatClampNeg) then none else some ((upd siz_3 (f_K_cellOf str a0 v3_4).toNatClampNeg ((siz_3 (f_K_cellOf str a0 v3_4).toNatClampNeg) ||| (u10.1 <<< (pl &&& 31)))), (upd low_3 (f_K_cellOf str a0 v3_4).toNatClampNeg pl), u10.2.1, u10.2.2))))) : Option ((Nat → Int32) × (Nat → Int32) × Int32 × Int32)).bind fun u5 => f_WL_refineColumn_L3 pl raw sgn sty bd str lcn wor n_sg n_sz n_lo n_wo a0 a2 N (v3_4 + 1) u5.1 u5.2.1 u5.2.2.1 u5.2.2.2))
def f_WL_refineColumn (pl : Int32) (raw : Int32) (sgn : (Nat → Int32)) (siz : (Nat → Int32)) (low : (Nat → Int32)) (sty : Int32) (bd : Int32) (str : Int32) (lcn : Int32) (lak : Int32) (nxt : Int32) (wor : (Nat → Int32)) (n_sg : Nat) (n_sz : Nat) (n_lo : Nat) (n_wo : Nat) (a0 : Int32) (a1 : Int32) (a2 : Int32) : Option ((Nat → Int32) × (Nat → Int32) × Int32 × Int32) :=
  ((f_WL_refineColumn_L3 pl raw sgn sty bd str lcn wor n_sg n_sz n_lo n_wo a0 a2 kBig a1 siz low lak nxt).bind fun u1 => some (u1.2.1, u1.2.2.1, u1.2.2.2.1, u1.2.2.2.2))
def f_WL_cleanColumn_L28 (pl : Int32) (raw : Int32) (sty : Int32) (bd : Int32) (str : Int32) (lcn : Int32) (wor : (Nat → Int32)) (n_sg : Nat) (n_sz : Nat) (n_lo : Nat) (n_wo : Nat) (a0 : Int32) (a2 : Int32) : Nat → Int32 → (Nat → Int32) → (Nat → Int32) → (Nat → Int32) → Int32 → Int32 → Option (Int32 × (Nat → Int32) × (Nat → Int32) × (Nat → Int32) × Int32 × Int32)
  | 0, _, _, _, _, _, _ => none
  | N + 1, v28_5, sgn_28, siz_28, low_28, lak_28, nxt_28 => (if a2 ≤ v28_5 then some (v28_5, sgn_28, siz_28, low_28, lak_28, nxt_28) else ((f_WL_isOpen pl sgn_28 low_28 n_sg n_lo (f_K_cellOf str a0 v28_5)).bind fun u6 => (((if u6 = 0 then some (sgn_28, siz_28, low_28, lak_28, nxt_28) else ((f_WL_contextOf sgn_28 bd str n_sg (f_K_cellOf str a0 v28_5) (f_K_isBlindBelow sty v28_5)).bind fun u9 => ((f_WL_exchangeSize pl raw sgn_28 siz_28 low_28 str lcn lak_28 nxt_28 wor n_sg n_sz n_lo n_wo (f_K_cellOf str a0 v28_5) (f_K_isBlindBelow sty v28_5) u9).bind fun u10 => some (u10.1, u10.2.1, u10.2.2.1, u10.2.2.2.1, u10.2.2.2.2)))) : Option ((Nat → Int32) × (Nat → Int32) × (Nat → Int32) × Int32 × Int32)).bind fun u8 => f_WL_cleanColumn_L28 pl raw sty bd str lcn wor n_sg n_sz n_lo n_wo a0 a2 N (v28_5 + 1) u8.1 u8.2.1 u8.2.2.1 u8.2.2.2.1 u8.2.2.2.2)))
def f_WL_cleanColumn (pl : Int32) (raw : Int32) (sgn : (Nat → Int32)) (siz : (Nat → Int32)) (low : (Nat → Int32)) (sty : Int32) (bd : Int32) (str : Int32) (lcn : Int32) (lak : Int32) (nxt : Int32) (wor : (Nat → Int32)) (n_sg : Nat) (n_sz : Nat) (n_lo : Nat) (n_wo : Nat) (a0 : Int32) (a1 : Int32) (a2 : Int32) : Option ((Nat → Int32) × (Nat → Int32) × (Nat → Int32) × Int32 × Int32) :=
  ((f_WL_isUntouched pl sgn low sty bd str n_sg n_lo a0 a1 a2).bind fun u1 => (((if u1 = 0 then some (a1, sgn, siz, low, lak, nxt) else ((f_WL_exchangeRun pl raw sgn siz low sty str lcn lak nxt wor n_sg n_sz n_lo n_wo a0 a1).bind fun u11 => some ((a1 + u11.1), u11.2.1, u11.2.2.1, u11.2.2.2.1, u11.2.2.2.2.1, u11.2.2.2.2.2))) : Option (Int32 × (Nat → Int32) × (Nat → Int32) × (Nat → Int32) × Int32 × Int32)).bind fun u3 => ((f_WL_cleanColumn_L28 pl raw sty bd str lcn wor n_sg n_sz n_lo n_wo a0 a2 kBig u3.1 u3.2.1 u3.2.2.1 u3.2.2.2.1 u3.2.2.2.2.1 u3.2.2.2.2.2).bind fun u4 => some (u4.2.1, u4.2.2.1, u4.2.2.2.1, u4.2.2.2.2.1, u4.2.2.2.2.2))))
def f_WL_begin (sgn : (Nat → Int32)) (siz : (Nat → Int32)) (low : (Nat → Int32)) (n_sg : Nat) (n_sz : Nat) (n_lo : Nat) (a0 : Int32) : Option (Int32 × (Nat → Int32) × (Nat → Int32) × (Nat → Int32)) :=
  ((f_FI_fillWith sgn n_sg (0 : Int32)).bind fun u1 => ((f_FI_fillWith siz n_sz (0 : Int32)).bind fun u2 => ((f_FI_fillWith low n_lo a0).bind fun u3 => some (a0, u1, u2, u3))))
def f_WL_goThrough_L83 (pls : Int32) (w : Int32) (h : Int32) (sty : Int32) (bd : Int32) (str : Int32) (lcn : Int32) (wor : (Nat → Int32)) (n_sg : Nat) (n_sz : Nat) (n_lo : Nat) (n_wo : Nat) (a0 : Int32) (u2 : Int32) (v54_3 : Int32) : Nat → Int32 → (Nat → Int32) → (Nat → Int32) → (Nat → Int32) → Int32 → Int32 → Option (Int32 × (Nat → Int32) × (Nat → Int32) × (Nat → Int32) × Int32 × Int32)
  | 0, _, _, _, _, _, _ => none
  | N + 1, v83_5, sgn_83, siz_83, low_83, lak_83, nxt_83 => (if w ≤ v83_5 then some (v83_5, sgn_83, siz_83, low_83, lak_83, nxt_83) else (((if (f_ST_kindOf a0) = 0 then ((f_WL_findColumn ((pls - (1 : Int32)) - ((a0 + (2 : Int32)) / (3 : Int32))) u2 sgn_83 siz_83 low_83 sty bd str lcn lak_83 nxt_83 wor n_sg n_sz n_lo n_wo v83_5 v54_3 (kmin (v54_3 + (4 : Int32)) h)).bind fun u17 => some (u17.1, u17.2.1, u17.2.2.1, u17.2.2.2.1, u17.2.2.2.2)) else (if (f_ST_kindOf a0) = (1 : Int32) then ((f_WL_refineColumn ((pls - (1 : Int32)) - ((a0 + (2 : Int32)) / (3 : Int32))) u2 sgn_83 siz_83 low_83 sty bd str lcn lak_83 nxt_83 wor n_sg n_sz n_lo n_wo v83_5 v54_3 (kmin (v54_3 + (4 : Int32)) h)).bind fun u16 => some (sgn_83, u16.1, u16.2.1, u16.2.2.1, u16.2.2.2)) else ((f_WL_cleanColumn ((pls - (1 : Int32)) - ((a0 + (2 : Int32)) / (3 : Int32))) u2 sgn_83 siz_83 low_83 sty bd str lcn lak_83 nxt_83 wor n_sg n_sz n_lo n_wo v83_5 v54_3 (kmin (v54_3 + (4 : Int32)) h)).bind fun u15 => some (u15.1, u15.2.1, u15.2.2.1, u15.2.2.2.1, u15.2.2.2.2)))) : Option ((Nat → Int32) × (Nat → Int32) × (Nat → Int32) × Int32 × Int32)).bind fun u13 => f_WL_goThrough_L83 pls w h sty bd str lcn wor n_sg n_sz n_lo n_wo a0 u2 v54_3 N (v83_5 + 1) u13.1 u13.2.1 u13.2.2.1 u13.2.2.2.1 u13.2.2.2.2))
def f_WL_goThrough_L54 (pls : Int32) (w : Int32) (h : Int32) (sty : Int32) (bd : Int32) (str : Int32) (lcn : Int32) (wor : (Nat → Int32)) (n_sg : Nat) (n_sz : Nat) (n_lo : Nat) (n_wo : Nat) (a0 : Int32) (u2 : Int32) : Nat → Int32 → (Nat → Int32) → (Nat → Int32) → (Nat → Int32) → Int32 → Int32 → Option (Int32 × (Nat → Int32) × (Nat → Int32) × (Nat → Int32) × Int32 × Int32)
  | 0, _, _, _, _, _, _ => none
  | N + 1, v54_3, sgn_54, siz_54, low_54, lak_54, nxt_54 => (if h ≤ v54_3 then some (v54_3, sgn_54, siz_54, low_54, lak_54, nxt_54) else ((f_WL_goThrough_L83 pls w h sty bd str lcn wor n_sg n_sz n_lo n_wo a0 u2 v54_3 kBig (0 : Int32) sgn_54 siz_54 low_54 lak_54 nxt_54).bind fun u10 => f_WL_goThrough_L54 pls w h sty bd str lcn wor n_sg n_sz n_lo n_wo a0 u2 N (v54_3 + 4) u10.2.1 u10.2.2.1 u10.2.2.2.1 u10.2.2.2.2.1 u10.2.2.2.2.2))
def f_WL_goThrough (pls : Int32) (sgn : (Nat → Int32)) (siz : (Nat → Int32)) (low : (Nat → Int32)) (w : Int32) (h : Int32) (sty : Int32) (bd : Int32) (str : Int32) (lcn : Int32) (lak : Int32) (nxt : Int32) (wor : (Nat → Int32)) (n_sg : Nat) (n_sz : Nat) (n_lo : Nat) (n_wo : Nat) (a0 : Int32) : Option (Int32 × Int32 × Int32 × (Nat → Int32) × (Nat → Int32) × (Nat → Int32) × Int32 × Int32) :=
  (((if (f_K_hasStyle sty (1 : Int32)) = 0 then some (0 : Int32) else (if a0 < (10 : Int32) then some (0 : Int32) else (if (f_ST_kindOf a0) = (2 : Int32) then some (0 : Int32) else some (1 : Int32)))) : Option (Int32)).bind fun u2 => if ¬ (u2 = 0 ∨ u2 = 1) then none else ((f_WL_goThrough_L54 pls w h sty bd str lcn wor n_sg n_sz n_lo n_wo a0 u2 kBig (0 : Int32) sgn siz low lak nxt).bind fun u4 => (if (f_ST_kindOf a0) = (2 : Int32) then (if (f_K_hasStyle sty (16 : Int32)) = 0 then some ((1 : Int32), ((pls - (1 : Int32)) - ((a0 + (2 : Int32)) / (3 : Int32))), u2, u4.2.1, u4.2.2.1, u4.2.2.2.1, u4.2.2.2.2.1, u4.2.2.2.2.2) else ((f_WL_exchangeMarks lcn u4.2.2.2.2.1 u4.2.2.2.2.2 wor n_wo).bind fun u7 => (if u7.1 = 0 then some ((0 : Int32), ((pls - (1 : Int32)) - ((a0 + (2 : Int32)) / (3 : Int32))), u2, u4.2.1, u4.2.2.1, u4.2.2.2.1, u7.2.1, u7.2.2) else some ((1 : Int32), ((pls - (1 : Int32)) - ((a0 + (2 : Int32)) / (3 : Int32))), u2, u4.2.1, u4.2.2.1, u4.2.2.2.1, u7.2.1, u7.2.2)))) else some ((1 : Int32), ((pls - (1 : Int32)) - ((a0 + (2 : Int32)) / (3 : Int32))), u2, u4.2.1, u4.2.2.1, u4.2.2.2.1, u4.2.2.2.2.1, u4.2.2.2.2.2))))

abbrev rm_WL_markTold : Room := { frames := 1, cells := 0, slots := 0, locals := 22 }
set_option maxHeartbeats 4000000 in
set_option maxRecDepth 100000 in
theorem m_WL_markTold (l : Launch) (dC : Nat → ClassId) (dI : Nat → Nat → Nat) (q_wk q_sg q_sz q_lo q_bk q_li : Nat) (k_lo : ClassId) (n_lo : Nat) (pls : Int32) (pl : Int32) (raw : Int32) (low : (Nat → Int32)) (w : Int32) (h : Int32) (sty : Int32) (bd : Int32) (str : Int32) (cel : Int32) (a0 : Int32) (a1 : Int32) (a2 : Int32) (u : (Nat → Int32)) (hF : f_WL_markTold pl low str n_lo a0 a1 a2 = some u) : ∀ sz : Nat, Met l y_W_markTold (kws y_W_markTold c_W_markTold 5 none) rm_WL_markTold (kPre (dC, dI) [.ref q_wk, .int a0, .int a1, .int a2] [(q_wk, .inr (4, [.ref q_bk, .ref q_li, .ref q_sg, .ref q_sz, .ref q_lo, .int pls, .int pl, .int raw])), (q_lo, .inl (k_lo, n_lo, .inl low)), (q_bk, .inr (1, [.int w, .int h, .int sty, .int bd, .int str, .int cel]))] [(k_lo, .int)] sz) (kPost (dC, dI) none [(q_wk, .inr (4, [.ref q_bk, .ref q_li, .ref q_sg, .ref q_sz, .ref q_lo, .int pls, .int pl, .int raw])), (q_lo, .inl (k_lo, n_lo, .inl u)), (q_bk, .inr (1, [.int w, .int h, .int sty, .int bd, .int str, .int cel]))] (va_A [(q_wk, .inr (4, [.ref q_bk, .ref q_li, .ref q_sg, .ref q_sz, .ref q_lo, .int pls, .int pl, .int raw])), (q_lo, .inl (k_lo, n_lo, .inl low)), (q_bk, .inr (1, [.int w, .int h, .int sty, .int bd, .int str, .int cel]))] sz)) 0 0 (va_A [(q_wk, .inr (4, [.ref q_bk, .ref q_li, .ref q_sg, .ref q_sz, .ref q_lo, .int pls, .int pl, .int raw])), (q_lo, .inl (k_lo, n_lo, .inl low)), (q_bk, .inr (1, [.int w, .int h, .int sty, .int bd, .int str, .int cel]))] sz) := by
  unfold f_WL_markTold at hF
  refine kU_of (cc := c_W_markTold) (maxL := 5) (ret := none) (by decide) (Nat.le_of_ble_eq_true rfl) ?_
  intro p e s m args below meth c Q A hQ hfx hK hN hA H locs ls hP hD hS hl
  obtain ⟨hx, hb, hr, hml, hown, hts, hlocks⟩ := hfx
  have hown : s.vm.findClass R_W = some m.cls := hown
  have hl : lv_has ls 5 [(0, .ref q_wk), (1, .int a0), (2, .int a1), (3, .int a2)] := hl
  refine lv_iconst (v := 0) hx hb d_W_markTold_0 (by decide) ?_
  refine lv_istore (lv' := [(4, .int (0 : Int32)), (0, .ref q_wk), (1, .int a0), (2, .int a1), (3, .int a2)]) hx hb d_W_markTold_1 hl (by decide) rfl (fun ls hl => ?_)
  obtain ⟨u1, hcu1, hF⟩ := kc_bnd hF
  have hJu1_36 : ∀ (H : Heap) (locs : List Loc) (ls : Array Slot), va_P (dC, dI) vwCl [(q_wk, .inr (4, [.ref q_bk, .ref q_li, .ref q_sg, .ref q_sz, .ref q_lo, .int pls, .int pl, .int raw])), (q_lo, .inl (k_lo, n_lo, .inl u1.2)), (q_bk, .inr (1, [.int w, .int h, .int sty, .int bd, .int str, .int cel]))] H → va_D A [(q_wk, .inr (4, [.ref q_bk, .ref q_li, .ref q_sg, .ref q_sz, .ref q_lo, .int pls, .int pl, .int raw])), (q_lo, .inl (k_lo, n_lo, .inl u1.2)), (q_bk, .inr (1, [.int w, .int h, .int sty, .int bd, .int str, .int cel]))] → va_S A s.heap H locs → lv_has ls 5 [(4, .int u1.1), (0, .ref q_wk), (1, .int a0), (2, .int a1), (3, .int a2)] → W p l e rm_WL_markTold s m args below meth c H locs 0 0 Q (F0 m 36 ls []) := by
    intro H locs ls hP hD hS hl
    obtain rfl := Option.some.inj hF
    exact ku_vret hx hb hr hlocks hQ (hP.sub [0, 1, 2] rfl) (hD.sub [0, 1, 2] (by decide) rfl) hS d_W_markTold_36
  have hIu1 : ∀ (N : Nat) (v3_4 : Int32) (low_3 : (Nat → Int32)), f_WL_markTold_L3 pl str n_lo a0 a1 a2 N v3_4 low_3 = some u1 → ∀ (H : Heap) (locs : List Loc) (ls : Array Slot), va_P (dC, dI) vwCl [(q_wk, .inr (4, [.ref q_bk, .ref q_li, .ref q_sg, .ref q_sz, .ref q_lo, .int pls, .int pl, .int raw])), (q_lo, .inl (k_lo, n_lo, .inl low_3)), (q_bk, .inr (1, [.int w, .int h, .int sty, .int bd, .int str, .int cel]))] H → va_D A [(q_wk, .inr (4, [.ref q_bk, .ref q_li, .ref q_sg, .ref q_sz, .ref q_lo, .int pls, .int pl, .int raw])), (q_lo, .inl (k_lo, n_lo, .inl low_3)), (q_bk, .inr (1, [.int w, .int h, .int sty, .int bd, .int str, .int cel]))] → va_S A s.heap H locs → lv_has ls 5 [(4, .int v3_4), (0, .ref q_wk), (1, .int a0), (2, .int a1), (3, .int a2)] → W p l e rm_WL_markTold s m args below meth c H locs 0 0 Q (F0 m 3 ls []) := by
    intro N
    induction N with
    | zero => intro v3_4 low_3 hF; rw [f_WL_markTold_L3] at hF; cases hF
    | succ N ih =>
      intro v3_4 low_3 hF
      intro H locs ls hP hD hS hl
      rw [f_WL_markTold_L3] at hF
      refine lv_iload hx hb d_W_markTold_3 (lv_at hl 0 rfl) ?_
      refine lv_iload_n hx hb d_W_markTold_5 rfl (lv_at hl 4 rfl) ?_
      refine lv_icmp_ge (tgt := 36) hx hb d_W_markTold_6 (by decide) (fun c2 => ?_) (fun c2 => ?_)
      · have hF := kc_pos c2 hF
        obtain rfl := Option.some.inj hF
        exact hJu1_36 _ _ _ hP hD hS (lv_sub hl [0, 1, 2, 3, 4] rfl)
      have hF := kc_neg c2 hF
      refine lv_aload_n hx hb d_W_markTold_9 rfl (lv_at hl 1 rfl) ?_
      refine va_get (D := (dC, dI)) (ci := 4) (v := .ref q_lo) (C := R_W) (T := T_W) (N := 8) hx hb hts ki_W hown hK hP 0 rfl rfl 4 (by decide) (hts _ kw_1_109) (fun _ h9 => h9) rfl d_W_markTold_10 ?_
      refine lv_aload_n hx hb d_W_markTold_13 rfl (lv_at hl 1 rfl) ?_
      refine va_get (D := (dC, dI)) (ci := 4) (v := .ref q_bk) (C := R_W) (T := T_W) (N := 8) hx hb hts ki_W hown hK hP 0 rfl rfl 0 (by decide) (hts _ kw_1_103) (fun _ h9 => h9) rfl d_W_markTold_14 ?_
      refine lv_iload_n hx hb d_W_markTold_17 rfl (lv_at hl 2 rfl) ?_
      refine lv_iload_n hx hb d_W_markTold_18 rfl (lv_at hl 3 rfl) ?_
      refine lv_iload hx hb d_W_markTold_19 (lv_at hl 0 rfl) ?_
      refine lv_iadd hx hb d_W_markTold_21 ?_
      refine kr_call (va_runV (As := [.int a0, .int (a1 + v3_4)]) (rest := [.ref q_lo]) ⟨hx, hb, hml, hown, hts⟩ (m_K_cellOf l dC dI q_bk w h sty bd str cel a0 (a1 + v3_4) (f_K_cellOf str a0 (a1 + v3_4)) rfl) (cwV 2 hts (kgV kw_1_236 kw_1_192 kw_1_193 kw_1_2 kw_1_194) rfl rfl rfl (by decide +kernel) ⟨Nat.le_of_ble_eq_true rfl, Nat.le_of_ble_eq_true rfl⟩) ⟨kRe_blind, va_recv hK hP (ci := 1) (q0 := 2) rfl rfl, kRe_of (hP.sub [2] rfl) (hK.sub [] rfl) hN⟩ rfl rfl hl.1 rfl (lv_room (Nat.le_of_ble_eq_true rfl)) d_W_markTold_22 ⟨Nat.le_of_ble_eq_true rfl, Nat.le_of_ble_eq_true rfl⟩) ?_
      refine lv_aload_n hx hb d_W_markTold_25 rfl (lv_at hl 1 rfl) ?_
      refine va_get (D := (dC, dI)) (ci := 4) (v := .int pl) (C := R_W) (T := T_W) (N := 8) hx hb hts ki_W hown hK hP 0 rfl rfl 6 (by decide) (hts _ kw_1_112) (fun _ h9 => h9) rfl d_W_markTold_26 ?_
      obtain ⟨h3, hF⟩ := kc_no hF
      refine va_iast hx hb hK hP hD hS 1 0 rfl rfl h3 d_W_markTold_29 (fun H locs hP hD hS => ?_)
      have hP : va_P (dC, dI) vwCl [(q_wk, .inr (4, [.ref q_bk, .ref q_li, .ref q_sg, .ref q_sz, .ref q_lo, .int pls, .int pl, .int raw])), (q_lo, .inl (k_lo, n_lo, .inl (upd low_3 (f_K_cellOf str a0 (a1 + v3_4)).toNatClampNeg pl))), (q_bk, .inr (1, [.int w, .int h, .int sty, .int bd, .int str, .int cel]))] H := hP
      have hD : va_D A [(q_wk, .inr (4, [.ref q_bk, .ref q_li, .ref q_sg, .ref q_sz, .ref q_lo, .int pls, .int pl, .int raw])), (q_lo, .inl (k_lo, n_lo, .inl (upd low_3 (f_K_cellOf str a0 (a1 + v3_4)).toNatClampNeg pl))), (q_bk, .inr (1, [.int w, .int h, .int sty, .int bd, .int str, .int cel]))] := hD
      refine lv_iinc (v := (v3_4 + 1)) (lv' := [(4, .int (v3_4 + 1)), (0, .ref q_wk), (1, .int a0), (2, .int a1), (3, .int a2)]) hx hb d_W_markTold_30 hl (k := 0) rfl rfl (by decide) rfl (fun ls hl => ?_)
      refine lv_goto (tgt := 3) hx hb d_W_markTold_33 (by decide) ?_
      exact ih _ _ hF _ _ _ hP hD hS (lv_sub hl [0, 1, 2, 3, 4] rfl)
  exact hIu1 _ _ _ hcu1 _ _ _ hP hD hS (lv_sub hl [0, 1, 2, 3, 4] rfl)
abbrev rm_WL_firstOne : Room := { frames := 1, cells := 0, slots := 0, locals := 22 }
set_option maxHeartbeats 4000000 in
set_option maxRecDepth 100000 in
theorem m_WL_firstOne (l : Launch) (dC : Nat → ClassId) (dI : Nat → Nat → Nat) (q_wk q_sg q_sz q_lo q_bk q_li q_wo : Nat) (pls : Int32) (pl : Int32) (raw : Int32) (w : Int32) (h : Int32) (sty : Int32) (bd : Int32) (str : Int32) (cel : Int32) (lcn : Int32) (lak : Int32) (nxt : Int32) (a0 : Int32) (a1 : Int32) (u : Int32) (hF : f_WL_firstOne = some u) : Met l y_W_firstOne (kws y_W_firstOne c_W_firstOne 4 (some .int)) rm_WL_firstOne (kRe (dC, dI) [.ref q_wk, .int a0, .int a1] [(q_wk, .inr (4, [.ref q_bk, .ref q_li, .ref q_sg, .ref q_sz, .ref q_lo, .int pls, .int pl, .int raw])), (q_bk, .inr (1, [.int w, .int h, .int sty, .int bd, .int str, .int cel])), (q_li, .inr (3, [.ref q_wo, .int lcn, .int lak, .int nxt]))] []) (k2_QcV (.int u)) 0 0 (fun _ => False) := by
  unfold f_WL_firstOne at hF
  refine kR_of (cc := c_W_firstOne) (maxL := 4) (ret := (some .int)) (by decide) (Nat.le_of_ble_eq_true rfl) ?_
  intro p e s m args below meth c Q hQ hfx hP hK hN ls hl
  obtain ⟨hx, hb, hr, hml, hown, hts, hlocks⟩ := hfx
  have hown : s.vm.findClass R_W = some m.cls := hown
  have hl : lv_has ls 4 [(0, .ref q_wk), (1, .int a0), (2, .int a1)] := hl
  refine lv_iconst (v := 0) hx hb d_W_firstOne_0 (by decide) ?_
  refine lv_istore_n (lv' := [(3, .int (0 : Int32)), (0, .ref q_wk), (1, .int a0), (2, .int a1)]) hx hb d_W_firstOne_1 rfl hl (by decide) rfl (fun ls hl => ?_)
  obtain ⟨u1, hcu1, hF⟩ := kc_bnd hF
  have hJu1_41 : u1.1 = 0 → ∀ (ls : Array Slot), lv_has ls 4 [(3, .int u1.2), (0, .ref q_wk), (1, .int a0), (2, .int a1)] → W p l e rm_WL_firstOne s m args below meth c s.heap [] 0 0 Q (F0 m 41 ls []) := by
    intro htag
    intro ls hl
    have hF := kc_pos htag hF
    refine lv_iconst (v := 4) hx hb d_W_firstOne_41 (by decide) ?_
    obtain rfl := Option.some.inj hF
    exact kr_iret hx hb hr hlocks hQ d_W_firstOne_42
  have hJu1_33 : u1.1 = 1 → ∀ (ls : Array Slot), lv_has ls 4 [(3, .int u1.2), (0, .ref q_wk), (1, .int a0), (2, .int a1)] → W p l e rm_WL_firstOne s m args below meth c s.heap [] 0 0 Q (F0 m 33 ls []) := by
    intro htag
    intro ls hl
    have hF := kc_neg (c := u1.1 = 0) (by rw [htag]; decide) hF
    refine lv_iload_n hx hb d_W_firstOne_33 rfl (lv_at hl 0 rfl) ?_
    obtain rfl := Option.some.inj hF
    exact kr_iret hx hb hr hlocks hQ d_W_firstOne_34
  have hIu1 : ∀ (N : Nat) (v2_3 : Int32), f_WL_firstOne_L2  N v2_3 = some u1 → ∀ (ls : Array Slot), lv_has ls 4 [(3, .int v2_3), (0, .ref q_wk), (1, .int a0), (2, .int a1)] → W p l e rm_WL_firstOne s m args below meth c s.heap [] 0 0 Q (F0 m 2 ls []) := by
    intro N
    induction N with
    | zero => intro v2_3 hF; rw [f_WL_firstOne_L2] at hF; cases hF
    | succ N ih =>
      intro v2_3 hF
      intro ls hl
      rw [f_WL_firstOne_L2] at hF
      refine lv_iload_n hx hb d_W_firstOne_2 rfl (lv_at hl 0 rfl) ?_
      refine lv_iconst (v := 4) hx hb d_W_firstOne_3 (by decide) ?_
      refine lv_icmp_ge (tgt := 41) hx hb d_W_firstOne_4 (by decide) (fun c2 => ?_) (fun c2 => ?_)
      · have hF := kc_pos c2 hF
        obtain rfl := Option.some.inj hF
        exact hJu1_41 rfl _ (lv_sub hl [0, 1, 2, 3] rfl)
      have hF := kc_neg c2 hF
      refine lv_aload_n hx hb d_W_firstOne_7 rfl (lv_at hl 1 rfl) ?_
      refine va_get (D := (dC, dI)) (ci := 4) (v := .ref q_li) (C := R_W) (T := T_W) (N := 8) hx hb hts ki_W hown hK hP 0 rfl rfl 1 (by decide) (hts _ kw_1_104) (fun _ h9 => h9) rfl d_W_firstOne_8 ?_
      refine lv_aload_n hx hb d_W_firstOne_11 rfl (lv_at hl 1 rfl) ?_
      refine va_get (D := (dC, dI)) (ci := 4) (v := .ref q_bk) (C := R_W) (T := T_W) (N := 8) hx hb hts ki_W hown hK hP 0 rfl rfl 0 (by decide) (hts _ kw_1_103) (fun _ h9 => h9) rfl d_W_firstOne_12 ?_
      refine lv_iload_n hx hb d_W_firstOne_15 rfl (lv_at hl 2 rfl) ?_
      refine lv_iload_n hx hb d_W_firstOne_16 rfl (lv_at hl 3 rfl) ?_
      refine lv_iload_n hx hb d_W_firstOne_17 rfl (lv_at hl 0 rfl) ?_
      refine lv_iadd hx hb d_W_firstOne_18 ?_
      refine kr_call (va_runV (As := [.int a0, .int (a1 + v2_3)]) (rest := [.ref q_li]) ⟨hx, hb, hml, hown, hts⟩ (m_K_cellOf l dC dI q_bk w h sty bd str cel a0 (a1 + v2_3) (f_K_cellOf str a0 (a1 + v2_3)) rfl) (cwV 2 hts (kgV kw_1_236 kw_1_192 kw_1_193 kw_1_2 kw_1_194) rfl rfl rfl (by decide +kernel) ⟨Nat.le_of_ble_eq_true rfl, Nat.le_of_ble_eq_true rfl⟩) ⟨kRe_blind, va_recv hK hP (ci := 1) (q0 := 1) rfl rfl, kRe_of (hP.sub [1] rfl) (hK.sub [] rfl) hN⟩ rfl rfl hl.1 rfl (lv_room (Nat.le_of_ble_eq_true rfl)) d_W_firstOne_19 ⟨Nat.le_of_ble_eq_true rfl, Nat.le_of_ble_eq_true rfl⟩) ?_
      refine lv_aload_n hx hb d_W_firstOne_22 rfl (lv_at hl 1 rfl) ?_
      refine va_get (D := (dC, dI)) (ci := 4) (v := .int pl) (C := R_W) (T := T_W) (N := 8) hx hb hts ki_W hown hK hP 0 rfl rfl 6 (by decide) (hts _ kw_1_112) (fun _ h9 => h9) rfl d_W_firstOne_23 ?_
      refine kr_call (va_runU (As := [.int (f_K_cellOf str a0 (a1 + v2_3)), .int pl]) (rest := []) ⟨hx, hb, hml, hown, hts⟩ (m_L_sizeBit l dC dI q_li (f_K_cellOf str a0 (a1 + v2_3)) pl (f_L_sizeBit) rfl) (va_cwA 2 hts (kgA kw_2_23 kw_2_25 kw_2_26 kw_2_27 kw_1_7 kw_2_28) rfl rfl rfl (kn_5 hN) (by decide +kernel) ⟨Nat.le_of_ble_eq_true rfl, Nat.le_of_ble_eq_true rfl⟩) ⟨kRe_blind, va_recv hK hP (ci := 3) (q0 := 2) rfl rfl, kRe_of (hP.sub [] rfl) (hK.sub [] rfl) hN⟩ rfl rfl hl.1 rfl (lv_room (Nat.le_of_ble_eq_true rfl)) d_W_firstOne_26 ⟨Nat.le_of_ble_eq_true rfl, Nat.le_of_ble_eq_true rfl⟩) ?_
      refine lv_iconst (v := 1) hx hb d_W_firstOne_29 (by decide) ?_
      refine lv_icmp_ne (tgt := 35) hx hb d_W_firstOne_30 (by decide) (fun c3 => ?_) (fun c3 => ?_)
      · have hF := kc_neg c3 hF
        refine lv_iinc (v := (v2_3 + 1)) (lv' := [(3, .int (v2_3 + 1)), (0, .ref q_wk), (1, .int a0), (2, .int a1)]) hx hb d_W_firstOne_35 hl (k := 0) rfl rfl (by decide) rfl (fun ls hl => ?_)
        refine lv_goto (tgt := 2) hx hb d_W_firstOne_38 (by decide) ?_
        exact ih _ hF _ (lv_sub hl [0, 1, 2, 3] rfl)
      have hF := kc_pos c3 hF
      obtain rfl := Option.some.inj hF
      exact hJu1_33 rfl _ (lv_sub hl [0, 1, 2, 3] rfl)
  exact hIu1 _ _ hcu1 _ (lv_sub hl [0, 1, 2, 3] rfl)
abbrev rm_WL_exchangeRun : Room := { frames := 3, cells := 0, slots := 0, locals := 72 }
set_option maxHeartbeats 4000000 in
set_option maxRecDepth 100000 in
theorem m_WL_exchangeRun (l : Launch) (dC : Nat → ClassId) (dI : Nat → Nat → Nat) (q_wk q_sg q_sz q_lo q_bk q_li q_wo : Nat) (k_sg : ClassId) (n_sg : Nat) (k_sz : ClassId) (n_sz : Nat) (k_lo : ClassId) (n_lo : Nat) (k_wo : ClassId) (n_wo : Nat) (pls : Int32) (pl : Int32) (raw : Int32) (sgn : (Nat → Int32)) (siz : (Nat → Int32)) (low : (Nat → Int32)) (w : Int32) (h : Int32) (sty : Int32) (bd : Int32) (str : Int32) (cel : Int32) (lcn : Int32) (lak : Int32) (nxt : Int32) (wor : (Nat → Int32)) (a0 : Int32) (a1 : Int32) (u : Int32 × (Nat → Int32) × (Nat → Int32) × (Nat → Int32) × Int32 × Int32) (hF : f_WL_exchangeRun pl raw sgn siz low sty str lcn lak nxt wor n_sg n_sz n_lo n_wo a0 a1 = some u) : ∀ sz : Nat, Met l y_W_exchangeRun (kws y_W_exchangeRun c_W_exchangeRun 7 (some .int)) rm_WL_exchangeRun (kPre (dC, dI) [.ref q_wk, .int a0, .int a1] [(q_wk, .inr (4, [.ref q_bk, .ref q_li, .ref q_sg, .ref q_sz, .ref q_lo, .int pls, .int pl, .int raw])), (q_sg, .inl (k_sg, n_sg, .inl sgn)), (q_sz, .inl (k_sz, n_sz, .inl siz)), (q_lo, .inl (k_lo, n_lo, .inl low)), (q_bk, .inr (1, [.int w, .int h, .int sty, .int bd, .int str, .int cel])), (q_li, .inr (3, [.ref q_wo, .int lcn, .int lak, .int nxt])), (q_wo, .inl (k_wo, n_wo, .inl wor))] [(k_sg, .int), (k_sz, .int), (k_lo, .int), (k_wo, .int)] sz) (kPost (dC, dI) (some (.int u.1)) [(q_wk, .inr (4, [.ref q_bk, .ref q_li, .ref q_sg, .ref q_sz, .ref q_lo, .int pls, .int pl, .int raw])), (q_sg, .inl (k_sg, n_sg, .inl u.2.1)), (q_sz, .inl (k_sz, n_sz, .inl u.2.2.1)), (q_lo, .inl (k_lo, n_lo, .inl u.2.2.2.1)), (q_bk, .inr (1, [.int w, .int h, .int sty, .int bd, .int str, .int cel])), (q_li, .inr (3, [.ref q_wo, .int lcn, .int u.2.2.2.2.1, .int u.2.2.2.2.2])), (q_wo, .inl (k_wo, n_wo, .inl wor))] (va_A [(q_wk, .inr (4, [.ref q_bk, .ref q_li, .ref q_sg, .ref q_sz, .ref q_lo, .int pls, .int pl, .int raw])), (q_sg, .inl (k_sg, n_sg, .inl sgn)), (q_sz, .inl (k_sz, n_sz, .inl siz)), (q_lo, .inl (k_lo, n_lo, .inl low)), (q_bk, .inr (1, [.int w, .int h, .int sty, .int bd, .int str, .int cel])), (q_li, .inr (3, [.ref q_wo, .int lcn, .int lak, .int nxt])), (q_wo, .inl (k_wo, n_wo, .inl wor))] sz)) 0 0 (va_A [(q_wk, .inr (4, [.ref q_bk, .ref q_li, .ref q_sg, .ref q_sz, .ref q_lo, .int pls, .int pl, .int raw])), (q_sg, .inl (k_sg, n_sg, .inl sgn)), (q_sz, .inl (k_sz, n_sz, .inl siz)), (q_lo, .inl (k_lo, n_lo, .inl low)), (q_bk, .inr (1, [.int w, .int h, .int sty, .int bd, .int str, .int cel])), (q_li, .inr (3, [.ref q_wo, .int lcn, .int lak, .int nxt])), (q_wo, .inl (k_wo, n_wo, .inl wor))] sz) := by
  unfold f_WL_exchangeRun at hF
  refine kU_of (cc := c_W_exchangeRun) (maxL := 7) (ret := (some .int)) (by decide) (Nat.le_of_ble_eq_true rfl) ?_
  intro p e s m args below meth c Q A hQ hfx hK hN hA H locs ls hP hD hS hl
  obtain ⟨hx, hb, hr, hml, hown, hts, hlocks⟩ := hfx
  have hown : s.vm.findClass R_W = some m.cls := hown
  have hl : lv_has ls 7 [(0, .ref q_wk), (1, .int a0), (2, .int a1)] := hl
  refine lv_aload_n hx hb d_W_exchangeRun_0 rfl (lv_at hl 0 rfl) ?_
  refine lv_iload_n hx hb d_W_exchangeRun_1 rfl (lv_at hl 1 rfl) ?_
  refine lv_iload_n hx hb d_W_exchangeRun_2 rfl (lv_at hl 2 rfl) ?_
  obtain ⟨u1, hc, hF⟩ := kc_bnd hF
  refine kr_call (va_runV (As := [.int a0, .int a1]) (rest := []) ⟨hx, hb, hml, hown, hts⟩ (m_WL_firstOne l dC dI q_wk q_sg q_sz q_lo q_bk q_li q_wo pls pl raw w h sty bd str cel lcn lak nxt a0 a1 _ hc) (cwV 2 hts (kgV kw_2_91 kw_2_93 kp_13 kw_1_6 kw_2_94) rfl rfl rfl (by decide +kernel) ⟨Nat.le_of_ble_eq_true rfl, Nat.le_of_ble_eq_true rfl⟩) ⟨kRe_blind, va_recv hK hP (ci := 4) (q0 := 0) rfl rfl, kRe_of (hP.sub [0, 4, 5] rfl) (hK.sub [] rfl) hN⟩ rfl rfl hl.1 rfl (lv_room (Nat.le_of_ble_eq_true rfl)) d_W_exchangeRun_3 ⟨Nat.le_of_ble_eq_true rfl, Nat.le_of_ble_eq_true rfl⟩) ?_
  refine lv_istore_n (lv' := [(3, .int u1), (0, .ref q_wk), (1, .int a0), (2, .int a1)]) hx hb d_W_exchangeRun_6 rfl hl (by decide) rfl (fun ls hl => ?_)
  refine lv_aload_n hx hb d_W_exchangeRun_7 rfl (lv_at hl 1 rfl) ?_
  refine va_get (D := (dC, dI)) (ci := 4) (v := .ref q_li) (C := R_W) (T := T_W) (N := 8) hx hb hts ki_W hown hK hP 0 rfl rfl 1 (by decide) (hts _ kw_1_104) (fun _ h9 => h9) rfl d_W_exchangeRun_8 ?_
  refine lv_iload_n hx hb d_W_exchangeRun_11 rfl (lv_at hl 0 rfl) ?_
  refine lv_iconst (v := 4) hx hb d_W_exchangeRun_12 (by decide) ?_
  obtain ⟨u3, hcu3, hF⟩ := kc_bnd hF
  have hJu3 : ∀ (H : Heap) (locs : List Loc) (ls : Array Slot), va_P (dC, dI) vwCl [(q_wk, .inr (4, [.ref q_bk, .ref q_li, .ref q_sg, .ref q_sz, .ref q_lo, .int pls, .int pl, .int raw])), (q_sg, .inl (k_sg, n_sg, .inl sgn)), (q_sz, .inl (k_sz, n_sz, .inl siz)), (q_lo, .inl (k_lo, n_lo, .inl low)), (q_bk, .inr (1, [.int w, .int h, .int sty, .int bd, .int str, .int cel])), (q_li, .inr (3, [.ref q_wo, .int lcn, .int lak, .int nxt])), (q_wo, .inl (k_wo, n_wo, .inl wor))] H → va_D A [(q_wk, .inr (4, [.ref q_bk, .ref q_li, .ref q_sg, .ref q_sz, .ref q_lo, .int pls, .int pl, .int raw])), (q_sg, .inl (k_sg, n_sg, .inl sgn)), (q_sz, .inl (k_sz, n_sz, .inl siz)), (q_lo, .inl (k_lo, n_lo, .inl low)), (q_bk, .inr (1, [.int w, .int h, .int sty, .int bd, .int str, .int cel])), (q_li, .inr (3, [.ref q_wo, .int lcn, .int lak, .int nxt])), (q_wo, .inl (k_wo, n_wo, .inl wor))] → va_S A s.heap H locs → lv_has ls 7 [(3, .int u1), (0, .ref q_wk), (1, .int a0), (2, .int a1)] → W p l e rm_WL_exchangeRun s m args below meth c H locs 0 0 Q (F0 m 21 ls [.int u3, .ref q_li]) := by
    intro H locs ls hP hD hS hl
    refine lv_bipush (v := 17) hx hb d_W_exchangeRun_21 (by decide) ?_
    obtain ⟨u4, hc, hF⟩ := kc_bnd hF
    refine ku_call (wr := [(q_wk, .inr (4, [.ref q_bk, .ref q_li, .ref q_sg, .ref q_sz, .ref q_lo, .int pls, .int pl, .int raw])), (q_sg, .inl (k_sg, n_sg, .inl sgn)), (q_sz, .inl (k_sz, n_sz, .inl siz)), (q_lo, .inl (k_lo, n_lo, .inl low)), (q_bk, .inr (1, [.int w, .int h, .int sty, .int bd, .int str, .int cel]))]) hA (va_runU (As := [.int u3, .int (17 : Int32)]) (rest := []) ⟨hx, hb, hml, hown, hts⟩ (m_L_exchange l dC dI q_li q_wo k_wo n_wo lcn lak nxt wor u3 (17 : Int32) _ hc H.size) (va_cwA 2 hts (kgA kw_2_33 kw_2_35 kw_2_36 kw_2_37 kw_1_7 kw_2_38) rfl rfl rfl (kn_6 hN) (by decide +kernel) ⟨Nat.le_of_ble_eq_true rfl, Nat.le_of_ble_eq_true rfl⟩) ⟨kPre_blind, va_recv hK hP (ci := 3) (q0 := 5) rfl rfl, kPre_of (hP.sub [5, 6] rfl) (hK.sub [3] rfl) (hD.sub [5, 6] (by decide) rfl) hN⟩ rfl rfl hl.1 rfl (lv_room (Nat.le_of_ble_eq_true rfl)) d_W_exchangeRun_23 ⟨Nat.le_of_ble_eq_true rfl, Nat.le_of_ble_eq_true rfl⟩) hP hD hS [5, 6] [0, 1, 2, 3, 4] rfl rfl (by decide) (by decide) (fun H locs hP hD hS => ?_)
    have hP : va_P (dC, dI) vwCl [(q_wk, .inr (4, [.ref q_bk, .ref q_li, .ref q_sg, .ref q_sz, .ref q_lo, .int pls, .int pl, .int raw])), (q_sg, .inl (k_sg, n_sg, .inl sgn)), (q_sz, .inl (k_sz, n_sz, .inl siz)), (q_lo, .inl (k_lo, n_lo, .inl low)), (q_bk, .inr (1, [.int w, .int h, .int sty, .int bd, .int str, .int cel])), (q_li, .inr (3, [.ref q_wo, .int lcn, .int u4.2.1, .int u4.2.2])), (q_wo, .inl (k_wo, n_wo, .inl wor))] H := hP
    have hD : va_D A [(q_wk, .inr (4, [.ref q_bk, .ref q_li, .ref q_sg, .ref q_sz, .ref q_lo, .int pls, .int pl, .int raw])), (q_sg, .inl (k_sg, n_sg, .inl sgn)), (q_sz, .inl (k_sz, n_sz, .inl siz)), (q_lo, .inl (k_lo, n_lo, .inl low)), (q_bk, .inr (1, [.int w, .int h, .int sty, .int bd, .int str, .int cel])), (q_li, .inr (3, [.ref q_wo, .int lcn, .int u4.2.1, .int u4.2.2])), (q_wo, .inl (k_wo, n_wo, .inl wor))] := hD
    refine lv_if_ne (tgt := 38) hx hb d_W_exchangeRun_26 (by decide) (fun c5 => ?_) (fun c5 => ?_)
    · have hF := kc_neg c5 hF
      refine lv_aload_n hx hb d_W_exchangeRun_38 rfl (lv_at hl 1 rfl) ?_
      refine va_get (D := (dC, dI)) (ci := 4) (v := .ref q_li) (C := R_W) (T := T_W) (N := 8) hx hb hts ki_W hown hK hP 0 rfl rfl 1 (by decide) (hts _ kw_1_104) (fun _ h9 => h9) rfl d_W_exchangeRun_39 ?_
      refine lv_iload_n hx hb d_W_exchangeRun_42 rfl (lv_at hl 0 rfl) ?_
      refine lv_iconst (v := 1) hx hb d_W_exchangeRun_43 (by decide) ?_
      refine lv_ishr hx hb d_W_exchangeRun_44 ?_
      refine lv_iconst (v := 1) hx hb d_W_exchangeRun_45 (by decide) ?_
      refine lv_iand hx hb d_W_exchangeRun_46 ?_
      refine lv_bipush (v := 18) hx hb d_W_exchangeRun_47 (by decide) ?_
      obtain ⟨u6, hc, hF⟩ := kc_bnd hF
      refine ku_call (wr := [(q_wk, .inr (4, [.ref q_bk, .ref q_li, .ref q_sg, .ref q_sz, .ref q_lo, .int pls, .int pl, .int raw])), (q_sg, .inl (k_sg, n_sg, .inl sgn)), (q_sz, .inl (k_sz, n_sz, .inl siz)), (q_lo, .inl (k_lo, n_lo, .inl low)), (q_bk, .inr (1, [.int w, .int h, .int sty, .int bd, .int str, .int cel]))]) hA (va_runU (As := [.int ((u1 >>> ((1 : Int32) &&& 31)) &&& (1 : Int32)), .int (18 : Int32)]) (rest := []) ⟨hx, hb, hml, hown, hts⟩ (m_L_exchange l dC dI q_li q_wo k_wo n_wo lcn u4.2.1 u4.2.2 wor ((u1 >>> ((1 : Int32) &&& 31)) &&& (1 : Int32)) (18 : Int32) _ hc H.size) (va_cwA 2 hts (kgA kw_2_33 kw_2_35 kw_2_36 kw_2_37 kw_1_7 kw_2_38) rfl rfl rfl (kn_6 hN) (by decide +kernel) ⟨Nat.le_of_ble_eq_true rfl, Nat.le_of_ble_eq_true rfl⟩) ⟨kPre_blind, va_recv hK hP (ci := 3) (q0 := 5) rfl rfl, kPre_of (hP.sub [5, 6] rfl) (hK.sub [3] rfl) (hD.sub [5, 6] (by decide) rfl) hN⟩ rfl rfl hl.1 rfl (lv_room (Nat.le_of_ble_eq_true rfl)) d_W_exchangeRun_49 ⟨Nat.le_of_ble_eq_true rfl, Nat.le_of_ble_eq_true rfl⟩) hP hD hS [5, 6] [0, 1, 2, 3, 4] rfl rfl (by decide) (by decide) (fun H locs hP hD hS => ?_)
      have hP : va_P (dC, dI) vwCl [(q_wk, .inr (4, [.ref q_bk, .ref q_li, .ref q_sg, .ref q_sz, .ref q_lo, .int pls, .int pl, .int raw])), (q_sg, .inl (k_sg, n_sg, .inl sgn)), (q_sz, .inl (k_sz, n_sz, .inl siz)), (q_lo, .inl (k_lo, n_lo, .inl low)), (q_bk, .inr (1, [.int w, .int h, .int sty, .int bd, .int str, .int cel])), (q_li, .inr (3, [.ref q_wo, .int lcn, .int u6.2.1, .int u6.2.2])), (q_wo, .inl (k_wo, n_wo, .inl wor))] H := hP
      have hD : va_D A [(q_wk, .inr (4, [.ref q_bk, .ref q_li, .ref q_sg, .ref q_sz, .ref q_lo, .int pls, .int pl, .int raw])), (q_sg, .inl (k_sg, n_sg, .inl sgn)), (q_sz, .inl (k_sz, n_sz, .inl siz)), (q_lo, .inl (k_lo, n_lo, .inl low)), (q_bk, .inr (1, [.int w, .int h, .int sty, .int bd, .int str, .int cel])), (q_li, .inr (3, [.ref q_wo, .int lcn, .int u6.2.1, .int u6.2.2])), (q_wo, .inl (k_wo, n_wo, .inl wor))] := hD
      refine lv_istore (lv' := [(4, .int u6.1), (3, .int u1), (0, .ref q_wk), (1, .int a0), (2, .int a1)]) hx hb d_W_exchangeRun_52 hl (by decide) rfl (fun ls hl => ?_)
      refine lv_aload_n hx hb d_W_exchangeRun_54 rfl (lv_at hl 2 rfl) ?_
      refine va_get (D := (dC, dI)) (ci := 4) (v := .ref q_li) (C := R_W) (T := T_W) (N := 8) hx hb hts ki_W hown hK hP 0 rfl rfl 1 (by decide) (hts _ kw_1_104) (fun _ h9 => h9) rfl d_W_exchangeRun_55 ?_
      refine lv_iload_n hx hb d_W_exchangeRun_58 rfl (lv_at hl 1 rfl) ?_
      refine lv_iconst (v := 1) hx hb d_W_exchangeRun_59 (by decide) ?_
      refine lv_iand hx hb d_W_exchangeRun_60 ?_
      refine lv_bipush (v := 18) hx hb d_W_exchangeRun_61 (by decide) ?_
      obtain ⟨u7, hc, hF⟩ := kc_bnd hF
      refine ku_call (wr := [(q_wk, .inr (4, [.ref q_bk, .ref q_li, .ref q_sg, .ref q_sz, .ref q_lo, .int pls, .int pl, .int raw])), (q_sg, .inl (k_sg, n_sg, .inl sgn)), (q_sz, .inl (k_sz, n_sz, .inl siz)), (q_lo, .inl (k_lo, n_lo, .inl low)), (q_bk, .inr (1, [.int w, .int h, .int sty, .int bd, .int str, .int cel]))]) hA (va_runU (As := [.int (u1 &&& (1 : Int32)), .int (18 : Int32)]) (rest := []) ⟨hx, hb, hml, hown, hts⟩ (m_L_exchange l dC dI q_li q_wo k_wo n_wo lcn u6.2.1 u6.2.2 wor (u1 &&& (1 : Int32)) (18 : Int32) _ hc H.size) (va_cwA 2 hts (kgA kw_2_33 kw_2_35 kw_2_36 kw_2_37 kw_1_7 kw_2_38) rfl rfl rfl (kn_6 hN) (by decide +kernel) ⟨Nat.le_of_ble_eq_true rfl, Nat.le_of_ble_eq_true rfl⟩) ⟨kPre_blind, va_recv hK hP (ci := 3) (q0 := 5) rfl rfl, kPre_of (hP.sub [5, 6] rfl) (hK.sub [3] rfl) (hD.sub [5, 6] (by decide) rfl) hN⟩ rfl rfl hl.1 rfl (lv_room (Nat.le_of_ble_eq_true rfl)) d_W_exchangeRun_63 ⟨Nat.le_of_ble_eq_true rfl, Nat.le_of_ble_eq_true rfl⟩) hP hD hS [5, 6] [0, 1, 2, 3, 4] rfl rfl (by decide) (by decide) (fun H locs hP hD hS => ?_)
      have hP : va_P (dC, dI) vwCl [(q_wk, .inr (4, [.ref q_bk, .ref q_li, .ref q_sg, .ref q_sz, .ref q_lo, .int pls, .int pl, .int raw])), (q_sg, .inl (k_sg, n_sg, .inl sgn)), (q_sz, .inl (k_sz, n_sz, .inl siz)), (q_lo, .inl (k_lo, n_lo, .inl low)), (q_bk, .inr (1, [.int w, .int h, .int sty, .int bd, .int str, .int cel])), (q_li, .inr (3, [.ref q_wo, .int lcn, .int u7.2.1, .int u7.2.2])), (q_wo, .inl (k_wo, n_wo, .inl wor))] H := hP
      have hD : va_D A [(q_wk, .inr (4, [.ref q_bk, .ref q_li, .ref q_sg, .ref q_sz, .ref q_lo, .int pls, .int pl, .int raw])), (q_sg, .inl (k_sg, n_sg, .inl sgn)), (q_sz, .inl (k_sz, n_sz, .inl siz)), (q_lo, .inl (k_lo, n_lo, .inl low)), (q_bk, .inr (1, [.int w, .int h, .int sty, .int bd, .int str, .int cel])), (q_li, .inr (3, [.ref q_wo, .int lcn, .int u7.2.1, .int u7.2.2])), (q_wo, .inl (k_wo, n_wo, .inl wor))] := hD
      refine lv_istore (lv' := [(5, .int u7.1), (4, .int u6.1), (3, .int u1), (0, .ref q_wk), (1, .int a0), (2, .int a1)]) hx hb d_W_exchangeRun_66 hl (by decide) rfl (fun ls hl => ?_)
      refine lv_iconst (v := 2) hx hb d_W_exchangeRun_68 (by decide) ?_
      refine lv_iload hx hb d_W_exchangeRun_69 (lv_at hl 1 rfl) ?_
      refine lv_imul hx hb d_W_exchangeRun_71 ?_
      refine lv_iload hx hb d_W_exchangeRun_72 (lv_at hl 0 rfl) ?_
      refine lv_iadd hx hb d_W_exchangeRun_74 ?_
      refine lv_istore (lv' := [(6, .int (((2 : Int32) * u6.1) + u7.1)), (5, .int u7.1), (4, .int u6.1), (3, .int u1), (0, .ref q_wk), (1, .int a0), (2, .int a1)]) hx hb d_W_exchangeRun_75 hl (by decide) rfl (fun ls hl => ?_)
      refine lv_aload_n hx hb d_W_exchangeRun_77 rfl (lv_at hl 4 rfl) ?_
      refine lv_iload_n hx hb d_W_exchangeRun_78 rfl (lv_at hl 5 rfl) ?_
      refine lv_iload_n hx hb d_W_exchangeRun_79 rfl (lv_at hl 6 rfl) ?_
      refine lv_iload hx hb d_W_exchangeRun_80 (lv_at hl 0 rfl) ?_
      refine lv_iconst (v := 1) hx hb d_W_exchangeRun_82 (by decide) ?_
      refine lv_iadd hx hb d_W_exchangeRun_83 ?_
      obtain ⟨u8, hc, hF⟩ := kc_bnd hF
      refine ku_call (wr := [(q_sg, .inl (k_sg, n_sg, .inl sgn)), (q_sz, .inl (k_sz, n_sz, .inl siz)), (q_li, .inr (3, [.ref q_wo, .int lcn, .int u7.2.1, .int u7.2.2])), (q_wo, .inl (k_wo, n_wo, .inl wor))]) hA (va_runV (As := [.int a0, .int a1, .int ((((2 : Int32) * u6.1) + u7.1) + (1 : Int32))]) (rest := []) ⟨hx, hb, hml, hown, hts⟩ (m_WL_markTold l dC dI q_wk q_sg q_sz q_lo q_bk q_li k_lo n_lo pls pl raw low w h sty bd str cel a0 a1 ((((2 : Int32) * u6.1) + u7.1) + (1 : Int32)) _ hc H.size) (cwV 3 hts (kgV kw_2_95 kw_2_97 kp_14 kw_1_6 kw_2_98) rfl rfl rfl (by decide +kernel) ⟨Nat.le_of_ble_eq_true rfl, Nat.le_of_ble_eq_true rfl⟩) ⟨kPre_blind, va_recv hK hP (ci := 4) (q0 := 0) rfl rfl, kPre_of (hP.sub [0, 3, 4] rfl) (hK.sub [2] rfl) (hD.sub [0, 3, 4] (by decide) rfl) hN⟩ rfl rfl hl.1 rfl (lv_room (Nat.le_of_ble_eq_true rfl)) d_W_exchangeRun_84 ⟨Nat.le_of_ble_eq_true rfl, Nat.le_of_ble_eq_true rfl⟩) hP hD hS [0, 3, 4] [1, 2, 5, 6] rfl rfl (by decide) (by decide) (fun H locs hP hD hS => ?_)
      have hP : va_P (dC, dI) vwCl [(q_sg, .inl (k_sg, n_sg, .inl sgn)), (q_sz, .inl (k_sz, n_sz, .inl siz)), (q_li, .inr (3, [.ref q_wo, .int lcn, .int u7.2.1, .int u7.2.2])), (q_wo, .inl (k_wo, n_wo, .inl wor)), (q_wk, .inr (4, [.ref q_bk, .ref q_li, .ref q_sg, .ref q_sz, .ref q_lo, .int pls, .int pl, .int raw])), (q_lo, .inl (k_lo, n_lo, .inl u8)), (q_bk, .inr (1, [.int w, .int h, .int sty, .int bd, .int str, .int cel]))] H := hP
      have hD : va_D A [(q_sg, .inl (k_sg, n_sg, .inl sgn)), (q_sz, .inl (k_sz, n_sz, .inl siz)), (q_li, .inr (3, [.ref q_wo, .int lcn, .int u7.2.1, .int u7.2.2])), (q_wo, .inl (k_wo, n_wo, .inl wor)), (q_wk, .inr (4, [.ref q_bk, .ref q_li, .ref q_sg, .ref q_sz, .ref q_lo, .int pls, .int pl, .int raw])), (q_lo, .inl (k_lo, n_lo, .inl u8)), (q_bk, .inr (1, [.int w, .int h, .int sty, .int bd, .int str, .int cel]))] := hD
      refine lv_aload_n hx hb d_W_exchangeRun_87 rfl (lv_at hl 4 rfl) ?_
      refine lv_aload_n hx hb d_W_exchangeRun_88 rfl (lv_at hl 4 rfl) ?_
      refine va_get (D := (dC, dI)) (ci := 4) (v := .ref q_bk) (C := R_W) (T := T_W) (N := 8) hx hb hts ki_W hown hK hP 4 rfl rfl 0 (by decide) (hts _ kw_1_103) (fun _ h9 => h9) rfl d_W_exchangeRun_89 ?_
      refine lv_iload_n hx hb d_W_exchangeRun_92 rfl (lv_at hl 5 rfl) ?_
      refine lv_iload_n hx hb d_W_exchangeRun_93 rfl (lv_at hl 6 rfl) ?_
      refine lv_iload hx hb d_W_exchangeRun_94 (lv_at hl 0 rfl) ?_
      refine lv_iadd hx hb d_W_exchangeRun_96 ?_
      refine kr_call (va_runV (As := [.int a0, .int (a1 + (((2 : Int32) * u6.1) + u7.1))]) (rest := [.ref q_wk]) ⟨hx, hb, hml, hown, hts⟩ (m_K_cellOf l dC dI q_bk w h sty bd str cel a0 (a1 + (((2 : Int32) * u6.1) + u7.1)) (f_K_cellOf str a0 (a1 + (((2 : Int32) * u6.1) + u7.1))) rfl) (cwV 2 hts (kgV kw_1_236 kw_1_192 kw_1_193 kw_1_2 kw_1_194) rfl rfl rfl (by decide +kernel) ⟨Nat.le_of_ble_eq_true rfl, Nat.le_of_ble_eq_true rfl⟩) ⟨kRe_blind, va_recv hK hP (ci := 1) (q0 := 6) rfl rfl, kRe_of (hP.sub [6] rfl) (hK.sub [] rfl) hN⟩ rfl rfl hl.1 rfl (lv_room (Nat.le_of_ble_eq_true rfl)) d_W_exchangeRun_97 ⟨Nat.le_of_ble_eq_true rfl, Nat.le_of_ble_eq_true rfl⟩) ?_
      refine lv_aload_n hx hb d_W_exchangeRun_100 rfl (lv_at hl 4 rfl) ?_
      refine va_get (D := (dC, dI)) (ci := 4) (v := .ref q_bk) (C := R_W) (T := T_W) (N := 8) hx hb hts ki_W hown hK hP 4 rfl rfl 0 (by decide) (hts _ kw_1_103) (fun _ h9 => h9) rfl d_W_exchangeRun_101 ?_
      refine lv_iload_n hx hb d_W_exchangeRun_104 rfl (lv_at hl 6 rfl) ?_
      refine lv_iload hx hb d_W_exchangeRun_105 (lv_at hl 0 rfl) ?_
      refine lv_iadd hx hb d_W_exchangeRun_107 ?_
      refine kr_call (va_runV (As := [.int (a1 + (((2 : Int32) * u6.1) + u7.1))]) (rest := [.int (f_K_cellOf str a0 (a1 + (((2 : Int32) * u6.1) + u7.1))), .ref q_wk]) ⟨hx, hb, hml, hown, hts⟩ (m_K_isBlindBelow l dC dI q_bk w h sty bd str cel (a1 + (((2 : Int32) * u6.1) + u7.1)) (f_K_isBlindBelow sty (a1 + (((2 : Int32) * u6.1) + u7.1))) rfl) (cwV 1 hts (kgV kw_1_237 kw_1_238 kw_1_239 kw_1_2 kw_2_0) rfl rfl rfl (by decide +kernel) ⟨Nat.le_of_ble_eq_true rfl, Nat.le_of_ble_eq_true rfl⟩) ⟨kRe_blind, va_recv hK hP (ci := 1) (q0 := 6) rfl rfl, kRe_of (hP.sub [6] rfl) (hK.sub [] rfl) hN⟩ rfl rfl hl.1 rfl (lv_room (Nat.le_of_ble_eq_true rfl)) d_W_exchangeRun_108 ⟨Nat.le_of_ble_eq_true rfl, Nat.le_of_ble_eq_true rfl⟩) ?_
      obtain ⟨u9, hc, hF⟩ := kc_bnd hF
      refine ku_call (wr := [(q_lo, .inl (k_lo, n_lo, .inl u8))]) hA (va_runV (As := [.int (f_K_cellOf str a0 (a1 + (((2 : Int32) * u6.1) + u7.1))), .int (f_K_isBlindBelow sty (a1 + (((2 : Int32) * u6.1) + u7.1)))]) (rest := []) ⟨hx, hb, hml, hown, hts⟩ (m_WL_exchangeSign l dC dI q_wk q_sg q_sz q_lo q_bk q_li q_wo k_sg n_sg k_sz n_sz k_wo n_wo pls pl raw sgn siz w h sty bd str cel lcn u7.2.1 u7.2.2 wor (f_K_cellOf str a0 (a1 + (((2 : Int32) * u6.1) + u7.1))) (f_K_isBlindBelow sty (a1 + (((2 : Int32) * u6.1) + u7.1))) _ hc H.size) (cwV 2 hts (kgV kw_2_46 kw_2_48 kp_6 kw_1_6 kw_2_49) rfl rfl rfl (by decide +kernel) ⟨Nat.le_of_ble_eq_true rfl, Nat.le_of_ble_eq_true rfl⟩) ⟨kPre_blind, va_recv hK hP (ci := 4) (q0 := 4) rfl rfl, kPre_of (hP.sub [4, 0, 1, 6, 2, 3] rfl) (hK.sub [0, 1, 3] rfl) (hD.sub [4, 0, 1, 6, 2, 3] (by decide) rfl) hN⟩ rfl rfl hl.1 rfl (lv_room (Nat.le_of_ble_eq_true rfl)) d_W_exchangeRun_111 ⟨Nat.le_of_ble_eq_true rfl, Nat.le_of_ble_eq_true rfl⟩) hP hD hS [4, 0, 1, 6, 2, 3] [5] rfl rfl (by decide) (by decide) (fun H locs hP hD hS => ?_)
      have hP : va_P (dC, dI) vwCl [(q_lo, .inl (k_lo, n_lo, .inl u8)), (q_wk, .inr (4, [.ref q_bk, .ref q_li, .ref q_sg, .ref q_sz, .ref q_lo, .int pls, .int pl, .int raw])), (q_sg, .inl (k_sg, n_sg, .inl u9.1)), (q_sz, .inl (k_sz, n_sz, .inl u9.2.1)), (q_bk, .inr (1, [.int w, .int h, .int sty, .int bd, .int str, .int cel])), (q_li, .inr (3, [.ref q_wo, .int lcn, .int u9.2.2.1, .int u9.2.2.2])), (q_wo, .inl (k_wo, n_wo, .inl wor))] H := hP
      have hD : va_D A [(q_lo, .inl (k_lo, n_lo, .inl u8)), (q_wk, .inr (4, [.ref q_bk, .ref q_li, .ref q_sg, .ref q_sz, .ref q_lo, .int pls, .int pl, .int raw])), (q_sg, .inl (k_sg, n_sg, .inl u9.1)), (q_sz, .inl (k_sz, n_sz, .inl u9.2.1)), (q_bk, .inr (1, [.int w, .int h, .int sty, .int bd, .int str, .int cel])), (q_li, .inr (3, [.ref q_wo, .int lcn, .int u9.2.2.1, .int u9.2.2.2])), (q_wo, .inl (k_wo, n_wo, .inl wor))] := hD
      refine lv_iload hx hb d_W_exchangeRun_114 (lv_at hl 0 rfl) ?_
      refine lv_iconst (v := 1) hx hb d_W_exchangeRun_116 (by decide) ?_
      refine lv_iadd hx hb d_W_exchangeRun_117 ?_
      obtain rfl := Option.some.inj hF
      exact ku_iret hx hb hr hlocks hQ (hP.sub [1, 2, 3, 0, 4, 5, 6] rfl) (hD.sub [1, 2, 3, 0, 4, 5, 6] (by decide) rfl) hS d_W_exchangeRun_118
    have hF := kc_pos c5 hF
    refine lv_aload_n hx hb d_W_exchangeRun_29 rfl (lv_at hl 1 rfl) ?_
    refine lv_iload_n hx hb d_W_exchangeRun_30 rfl (lv_at hl 2 rfl) ?_
    refine lv_iload_n hx hb d_W_exchangeRun_31 rfl (lv_at hl 3 rfl) ?_
    refine lv_iconst (v := 4) hx hb d_W_exchangeRun_32 (by decide) ?_
    obtain ⟨u10, hc, hF⟩ := kc_bnd hF
    refine ku_call (wr := [(q_sg, .inl (k_sg, n_sg, .inl sgn)), (q_sz, .inl (k_sz, n_sz, .inl siz)), (q_li, .inr (3, [.ref q_wo, .int lcn, .int u4.2.1, .int u4.2.2])), (q_wo, .inl (k_wo, n_wo, .inl wor))]) hA (va_runV (As := [.int a0, .int a1, .int (4 : Int32)]) (rest := []) ⟨hx, hb, hml, hown, hts⟩ (m_WL_markTold l dC dI q_wk q_sg q_sz q_lo q_bk q_li k_lo n_lo pls pl raw low w h sty bd str cel a0 a1 (4 : Int32) _ hc H.size) (cwV 3 hts (kgV kw_2_95 kw_2_97 kp_14 kw_1_6 kw_2_98) rfl rfl rfl (by decide +kernel) ⟨Nat.le_of_ble_eq_true rfl, Nat.le_of_ble_eq_true rfl⟩) ⟨kPre_blind, va_recv hK hP (ci := 4) (q0 := 0) rfl rfl, kPre_of (hP.sub [0, 3, 4] rfl) (hK.sub [2] rfl) (hD.sub [0, 3, 4] (by decide) rfl) hN⟩ rfl rfl hl.1 rfl (lv_room (Nat.le_of_ble_eq_true rfl)) d_W_exchangeRun_33 ⟨Nat.le_of_ble_eq_true rfl, Nat.le_of_ble_eq_true rfl⟩) hP hD hS [0, 3, 4] [1, 2, 5, 6] rfl rfl (by decide) (by decide) (fun H locs hP hD hS => ?_)
    have hP : va_P (dC, dI) vwCl [(q_sg, .inl (k_sg, n_sg, .inl sgn)), (q_sz, .inl (k_sz, n_sz, .inl siz)), (q_li, .inr (3, [.ref q_wo, .int lcn, .int u4.2.1, .int u4.2.2])), (q_wo, .inl (k_wo, n_wo, .inl wor)), (q_wk, .inr (4, [.ref q_bk, .ref q_li, .ref q_sg, .ref q_sz, .ref q_lo, .int pls, .int pl, .int raw])), (q_lo, .inl (k_lo, n_lo, .inl u10)), (q_bk, .inr (1, [.int w, .int h, .int sty, .int bd, .int str, .int cel]))] H := hP
    have hD : va_D A [(q_sg, .inl (k_sg, n_sg, .inl sgn)), (q_sz, .inl (k_sz, n_sz, .inl siz)), (q_li, .inr (3, [.ref q_wo, .int lcn, .int u4.2.1, .int u4.2.2])), (q_wo, .inl (k_wo, n_wo, .inl wor)), (q_wk, .inr (4, [.ref q_bk, .ref q_li, .ref q_sg, .ref q_sz, .ref q_lo, .int pls, .int pl, .int raw])), (q_lo, .inl (k_lo, n_lo, .inl u10)), (q_bk, .inr (1, [.int w, .int h, .int sty, .int bd, .int str, .int cel]))] := hD
    refine lv_iconst (v := 4) hx hb d_W_exchangeRun_36 (by decide) ?_
    obtain rfl := Option.some.inj hF
    exact ku_iret hx hb hr hlocks hQ (hP.sub [4, 0, 1, 5, 6, 2, 3] rfl) (hD.sub [4, 0, 1, 5, 6, 2, 3] (by decide) rfl) hS d_W_exchangeRun_37
  clear hF; have hF := hcu3; clear hcu3
  refine lv_icmp_ge (tgt := 20) hx hb d_W_exchangeRun_13 (by decide) (fun c2 => ?_) (fun c2 => ?_)
  · have hF := kc_pos c2 hF
    refine lv_iconst (v := 0) hx hb d_W_exchangeRun_20 (by decide) ?_
    obtain rfl := Option.some.inj hF
    exact hJu3 _ _ _ hP hD hS (lv_sub hl [0, 1, 2, 3] rfl)
  have hF := kc_neg c2 hF
  refine lv_iconst (v := 1) hx hb d_W_exchangeRun_16 (by decide) ?_
  refine lv_goto (tgt := 21) hx hb d_W_exchangeRun_17 (by decide) ?_
  obtain rfl := Option.some.inj hF
  exact hJu3 _ _ _ hP hD hS (lv_sub hl [0, 1, 2, 3] rfl)
abbrev rm_WL_isUntouched : Room := { frames := 3, cells := 0, slots := 0, locals := 72 }
set_option maxHeartbeats 4000000 in
set_option maxRecDepth 100000 in
theorem m_WL_isUntouched (l : Launch) (dC : Nat → ClassId) (dI : Nat → Nat → Nat) (q_wk q_sg q_sz q_lo q_bk q_li : Nat) (k_sg : ClassId) (n_sg : Nat) (k_lo : ClassId) (n_lo : Nat) (pls : Int32) (pl : Int32) (raw : Int32) (sgn : (Nat → Int32)) (low : (Nat → Int32)) (w : Int32) (h : Int32) (sty : Int32) (bd : Int32) (str : Int32) (cel : Int32) (a0 : Int32) (a1 : Int32) (a2 : Int32) (u : Int32) (hF : f_WL_isUntouched pl sgn low sty bd str n_sg n_lo a0 a1 a2 = some u) : Met l y_W_isUntouched (kws y_W_isUntouched c_W_isUntouched 6 (some .boolean)) rm_WL_isUntouched (kRe (dC, dI) [.ref q_wk, .int a0, .int a1, .int a2] [(q_wk, .inr (4, [.ref q_bk, .ref q_li, .ref q_sg, .ref q_sz, .ref q_lo, .int pls, .int pl, .int raw])), (q_sg, .inl (k_sg, n_sg, .inl sgn)), (q_lo, .inl (k_lo, n_lo, .inl low)), (q_bk, .inr (1, [.int w, .int h, .int sty, .int bd, .int str, .int cel]))] [(k_sg, .int), (k_lo, .int)]) (k2_QcV (.int u)) 0 0 (fun _ => False) := by
  unfold f_WL_isUntouched at hF
  refine kR_of (cc := c_W_isUntouched) (maxL := 6) (ret := (some .boolean)) (by decide) (Nat.le_of_ble_eq_true rfl) ?_
  intro p e s m args below meth c Q hQ hfx hP hK hN ls hl
  obtain ⟨hx, hb, hr, hml, hown, hts, hlocks⟩ := hfx
  have hown : s.vm.findClass R_W = some m.cls := hown
  have hl : lv_has ls 6 [(0, .ref q_wk), (1, .int a0), (2, .int a1), (3, .int a2)] := hl
  refine lv_iload_n hx hb d_W_isUntouched_0 rfl (lv_at hl 3 rfl) ?_
  refine lv_iload_n hx hb d_W_isUntouched_1 rfl (lv_at hl 2 rfl) ?_
  refine lv_isub hx hb d_W_isUntouched_2 ?_
  refine lv_iconst (v := 4) hx hb d_W_isUntouched_3 (by decide) ?_
  refine lv_icmp_ge (tgt := 9) hx hb d_W_isUntouched_4 (by decide) (fun c1 => ?_) (fun c1 => ?_)
  · have hF := kc_pos c1 hF
    refine lv_iload_n hx hb d_W_isUntouched_9 rfl (lv_at hl 2 rfl) ?_
    refine lv_istore (lv' := [(4, .int a1), (0, .ref q_wk), (1, .int a0), (2, .int a1), (3, .int a2)]) hx hb d_W_isUntouched_10 hl (by decide) rfl (fun ls hl => ?_)
    obtain ⟨u2, hcu2, hF⟩ := kc_bnd hF
    have hJu2_65 : u2.1 = 0 → ∀ (ls : Array Slot), lv_has ls 6 [(4, .int u2.2), (0, .ref q_wk), (1, .int a0), (2, .int a1), (3, .int a2)] → W p l e rm_WL_isUntouched s m args below meth c s.heap [] 0 0 Q (F0 m 65 ls []) := by
      intro htag
      intro ls hl
      have hF := kc_pos htag hF
      refine lv_iconst (v := 1) hx hb d_W_isUntouched_65 (by decide) ?_
      obtain rfl := Option.some.inj hF
      exact kr_zret hx hb hr hlocks hQ (by decide) d_W_isUntouched_66
    have hJu2_57 : u2.1 = 1 → ∀ (ls : Array Slot), lv_has ls 6 [(4, .int u2.2), (0, .ref q_wk), (1, .int a0), (2, .int a1), (3, .int a2)] → W p l e rm_WL_isUntouched s m args below meth c s.heap [] 0 0 Q (F0 m 57 ls []) := by
      intro htag
      intro ls hl
      have hF := kc_neg (c := u2.1 = 0) (by rw [htag]; decide) hF
      refine lv_iconst (v := 0) hx hb d_W_isUntouched_57 (by decide) ?_
      obtain rfl := Option.some.inj hF
      exact kr_zret hx hb hr hlocks hQ (by decide) d_W_isUntouched_58
    have hIu2 : ∀ (N : Nat) (v12_4 : Int32), f_WL_isUntouched_L12 pl sgn low sty bd str n_sg n_lo a0 a2 N v12_4 = some u2 → ∀ (ls : Array Slot), lv_has ls 6 [(4, .int v12_4), (0, .ref q_wk), (1, .int a0), (2, .int a1), (3, .int a2)] → W p l e rm_WL_isUntouched s m args below meth c s.heap [] 0 0 Q (F0 m 12 ls []) := by
      intro N
      induction N with
      | zero => intro v12_4 hF; rw [f_WL_isUntouched_L12] at hF; cases hF
      | succ N ih =>
        intro v12_4 hF
        intro ls hl
        rw [f_WL_isUntouched_L12] at hF
        refine lv_iload hx hb d_W_isUntouched_12 (lv_at hl 0 rfl) ?_
        refine lv_iload_n hx hb d_W_isUntouched_14 rfl (lv_at hl 4 rfl) ?_
        refine lv_icmp_ge (tgt := 65) hx hb d_W_isUntouched_15 (by decide) (fun c3 => ?_) (fun c3 => ?_)
        · have hF := kc_pos c3 hF
          obtain rfl := Option.some.inj hF
          exact hJu2_65 rfl _ (lv_sub hl [0, 1, 2, 3, 4] rfl)
        have hF := kc_neg c3 hF
        refine lv_aload_n hx hb d_W_isUntouched_18 rfl (lv_at hl 1 rfl) ?_
        refine va_get (D := (dC, dI)) (ci := 4) (v := .ref q_bk) (C := R_W) (T := T_W) (N := 8) hx hb hts ki_W hown hK hP 0 rfl rfl 0 (by decide) (hts _ kw_1_103) (fun _ h9 => h9) rfl d_W_isUntouched_19 ?_
        refine lv_iload_n hx hb d_W_isUntouched_22 rfl (lv_at hl 2 rfl) ?_
        refine lv_iload hx hb d_W_isUntouched_23 (lv_at hl 0 rfl) ?_
        refine kr_call (va_runV (As := [.int a0, .int v12_4]) (rest := []) ⟨hx, hb, hml, hown, hts⟩ (m_K_cellOf l dC dI q_bk w h sty bd str cel a0 v12_4 (f_K_cellOf str a0 v12_4) rfl) (cwV 2 hts (kgV kw_1_236 kw_1_192 kw_1_193 kw_1_2 kw_1_194) rfl rfl rfl (by decide +kernel) ⟨Nat.le_of_ble_eq_true rfl, Nat.le_of_ble_eq_true rfl⟩) ⟨kRe_blind, va_recv hK hP (ci := 1) (q0 := 3) rfl rfl, kRe_of (hP.sub [3] rfl) (hK.sub [] rfl) hN⟩ rfl rfl hl.1 rfl (lv_room (Nat.le_of_ble_eq_true rfl)) d_W_isUntouched_25 ⟨Nat.le_of_ble_eq_true rfl, Nat.le_of_ble_eq_true rfl⟩) ?_
        refine lv_istore (lv' := [(5, .int (f_K_cellOf str a0 v12_4)), (4, .int v12_4), (0, .ref q_wk), (1, .int a0), (2, .int a1), (3, .int a2)]) hx hb d_W_isUntouched_28 hl (by decide) rfl (fun ls hl => ?_)
        refine lv_aload_n hx hb d_W_isUntouched_30 rfl (lv_at hl 2 rfl) ?_
        refine lv_iload hx hb d_W_isUntouched_31 (lv_at hl 0 rfl) ?_
        obtain ⟨u4, hc, hF⟩ := kc_bnd hF
        refine kr_call (va_runV (As := [.int (f_K_cellOf str a0 v12_4)]) (rest := []) ⟨hx, hb, hml, hown, hts⟩ (m_WL_isOpen l dC dI q_wk q_sg q_sz q_lo q_bk q_li k_sg n_sg k_lo n_lo pls pl raw sgn low (f_K_cellOf str a0 v12_4) _ hc) (cwV 1 hts (kgV kw_2_83 kw_2_85 kp_11 kw_1_6 kw_2_86) rfl rfl rfl (by decide +kernel) ⟨Nat.le_of_ble_eq_true rfl, Nat.le_of_ble_eq_true rfl⟩) ⟨kRe_blind, va_recv hK hP (ci := 4) (q0 := 0) rfl rfl, kRe_of (hP.sub [0, 1, 2] rfl) (hK.sub [0, 1] rfl) hN⟩ rfl rfl hl.1 rfl (lv_room (Nat.le_of_ble_eq_true rfl)) d_W_isUntouched_33 ⟨Nat.le_of_ble_eq_true rfl, Nat.le_of_ble_eq_true rfl⟩) ?_
        refine lv_if_eq (tgt := 57) hx hb d_W_isUntouched_36 (by decide) (fun c5 => ?_) (fun c5 => ?_)
        · have hF := kc_pos c5 hF
          obtain rfl := Option.some.inj hF
          exact hJu2_57 rfl _ (lv_sub hl [1, 2, 3, 4, 5] rfl)
        have hF := kc_neg c5 hF
        refine lv_aload_n hx hb d_W_isUntouched_39 rfl (lv_at hl 2 rfl) ?_
        refine lv_iload hx hb d_W_isUntouched_40 (lv_at hl 0 rfl) ?_
        refine lv_aload_n hx hb d_W_isUntouched_42 rfl (lv_at hl 2 rfl) ?_
        refine va_get (D := (dC, dI)) (ci := 4) (v := .ref q_bk) (C := R_W) (T := T_W) (N := 8) hx hb hts ki_W hown hK hP 0 rfl rfl 0 (by decide) (hts _ kw_1_103) (fun _ h9 => h9) rfl d_W_isUntouched_43 ?_
        refine lv_iload hx hb d_W_isUntouched_46 (lv_at hl 1 rfl) ?_
        refine kr_call (va_runV (As := [.int v12_4]) (rest := [.int (f_K_cellOf str a0 v12_4), .ref q_wk]) ⟨hx, hb, hml, hown, hts⟩ (m_K_isBlindBelow l dC dI q_bk w h sty bd str cel v12_4 (f_K_isBlindBelow sty v12_4) rfl) (cwV 1 hts (kgV kw_1_237 kw_1_238 kw_1_239 kw_1_2 kw_2_0) rfl rfl rfl (by decide +kernel) ⟨Nat.le_of_ble_eq_true rfl, Nat.le_of_ble_eq_true rfl⟩) ⟨kRe_blind, va_recv hK hP (ci := 1) (q0 := 3) rfl rfl, kRe_of (hP.sub [3] rfl) (hK.sub [] rfl) hN⟩ rfl rfl hl.1 rfl (lv_room (Nat.le_of_ble_eq_true rfl)) d_W_isUntouched_48 ⟨Nat.le_of_ble_eq_true rfl, Nat.le_of_ble_eq_true rfl⟩) ?_
        obtain ⟨u6, hc, hF⟩ := kc_bnd hF
        refine kr_call (va_runV (As := [.int (f_K_cellOf str a0 v12_4), .int (f_K_isBlindBelow sty v12_4)]) (rest := []) ⟨hx, hb, hml, hown, hts⟩ (m_WL_contextOf l dC dI q_wk q_sg q_sz q_lo q_bk q_li k_sg n_sg pls pl raw sgn w h sty bd str cel (f_K_cellOf str a0 v12_4) (f_K_isBlindBelow sty v12_4) _ hc) (cwV 2 hts (kgV kw_2_2 kw_2_4 kp_2 kw_1_6 kw_2_5) rfl rfl rfl (by decide +kernel) ⟨Nat.le_of_ble_eq_true rfl, Nat.le_of_ble_eq_true rfl⟩) ⟨kRe_blind, va_recv hK hP (ci := 4) (q0 := 0) rfl rfl, kRe_of (hP.sub [0, 1, 3] rfl) (hK.sub [0] rfl) hN⟩ rfl rfl hl.1 rfl (lv_room (Nat.le_of_ble_eq_true rfl)) d_W_isUntouched_51 ⟨Nat.le_of_ble_eq_true rfl, Nat.le_of_ble_eq_true rfl⟩) ?_
        refine lv_if_eq (tgt := 59) hx hb d_W_isUntouched_54 (by decide) (fun c7 => ?_) (fun c7 => ?_)
        · have hF := kc_pos c7 hF
          refine lv_iinc (v := (v12_4 + 1)) (lv' := [(4, .int (v12_4 + 1)), (5, .int (f_K_cellOf str a0 v12_4)), (0, .ref q_wk), (1, .int a0), (2, .int a1), (3, .int a2)]) hx hb d_W_isUntouched_59 hl (k := 1) rfl rfl (by decide) rfl (fun ls hl => ?_)
          refine lv_goto (tgt := 12) hx hb d_W_isUntouched_62 (by decide) ?_
          exact ih _ hF _ (lv_sub hl [0, 2, 3, 4, 5] rfl)
        have hF := kc_neg c7 hF
        obtain rfl := Option.some.inj hF
        exact hJu2_57 rfl _ (lv_sub hl [1, 2, 3, 4, 5] rfl)
    exact hIu2 _ _ hcu2 _ (lv_sub hl [0, 1, 2, 3, 4] rfl)
  have hF := kc_neg c1 hF
  refine lv_iconst (v := 0) hx hb d_W_isUntouched_7 (by decide) ?_
  obtain rfl := Option.some.inj hF
  exact kr_zret hx hb hr hlocks hQ (by decide) d_W_isUntouched_8
abbrev rm_WL_findColumn : Room := { frames := 4, cells := 0, slots := 0, locals := 95 }
set_option maxHeartbeats 4000000 in
set_option maxRecDepth 100000 in
theorem m_WL_findColumn (l : Launch) (dC : Nat → ClassId) (dI : Nat → Nat → Nat) (q_wk q_sg q_sz q_lo q_bk q_li q_wo : Nat) (k_sg : ClassId) (n_sg : Nat) (k_sz : ClassId) (n_sz : Nat) (k_lo : ClassId) (n_lo : Nat) (k_wo : ClassId) (n_wo : Nat) (pls : Int32) (pl : Int32) (raw : Int32) (sgn : (Nat → Int32)) (siz : (Nat → Int32)) (low : (Nat → Int32)) (w : Int32) (h : Int32) (sty : Int32) (bd : Int32) (str : Int32) (cel : Int32) (lcn : Int32) (lak : Int32) (nxt : Int32) (wor : (Nat → Int32)) (a0 : Int32) (a1 : Int32) (a2 : Int32) (u : (Nat → Int32) × (Nat → Int32) × (Nat → Int32) × Int32 × Int32) (hF : f_WL_findColumn pl raw sgn siz low sty bd str lcn lak nxt wor n_sg n_sz n_lo n_wo a0 a1 a2 = some u) : ∀ sz : Nat, Met l y_W_findColumn (kws y_W_findColumn c_W_findColumn 8 none) rm_WL_findColumn (kPre (dC, dI) [.ref q_wk, .int a0, .int a1, .int a2] [(q_wk, .inr (4, [.ref q_bk, .ref q_li, .ref q_sg, .ref q_sz, .ref q_lo, .int pls, .int pl, .int raw])), (q_sg, .inl (k_sg, n_sg, .inl sgn)), (q_sz, .inl (k_sz, n_sz, .inl siz)), (q_lo, .inl (k_lo, n_lo, .inl low)), (q_bk, .inr (1, [.int w, .int h, .int sty, .int bd, .int str, .int cel])), (q_li, .inr (3, [.ref q_wo, .int lcn, .int lak, .int nxt])), (q_wo, .inl (k_wo, n_wo, .inl wor))] [(k_sg, .int), (k_sz, .int), (k_lo, .int), (k_wo, .int)] sz) (kPost (dC, dI) none [(q_wk, .inr (4, [.ref q_bk, .ref q_li, .ref q_sg, .ref q_sz, .ref q_lo, .int pls, .int pl, .int raw])), (q_sg, .inl (k_sg, n_sg, .inl u.1)), (q_sz, .inl (k_sz, n_sz, .inl u.2.1)), (q_lo, .inl (k_lo, n_lo, .inl u.2.2.1)), (q_bk, .inr (1, [.int w, .int h, .int sty, .int bd, .int str, .int cel])), (q_li, .inr (3, [.ref q_wo, .int lcn, .int u.2.2.2.1, .int u.2.2.2.2])), (q_wo, .inl (k_wo, n_wo, .inl wor))] (va_A [(q_wk, .inr (4, [.ref q_bk, .ref q_li, .ref q_sg, .ref q_sz, .ref q_lo, .int pls, .int pl, .int raw])), (q_sg, .inl (k_sg, n_sg, .inl sgn)), (q_sz, .inl (k_sz, n_sz, .inl siz)), (q_lo, .inl (k_lo, n_lo, .inl low)), (q_bk, .inr (1, [.int w, .int h, .int sty, .int bd, .int str, .int cel])), (q_li, .inr (3, [.ref q_wo, .int lcn, .int lak, .int nxt])), (q_wo, .inl (k_wo, n_wo, .inl wor))] sz)) 0 0 (va_A [(q_wk, .inr (4, [.ref q_bk, .ref q_li, .ref q_sg, .ref q_sz, .ref q_lo, .int pls, .int pl, .int raw])), (q_sg, .inl (k_sg, n_sg, .inl sgn)), (q_sz, .inl (k_sz, n_sz, .inl siz)), (q_lo, .inl (k_lo, n_lo, .inl low)), (q_bk, .inr (1, [.int w, .int h, .int sty, .int bd, .int str, .int cel])), (q_li, .inr (3, [.ref q_wo, .int lcn, .int lak, .int nxt])), (q_wo, .inl (k_wo, n_wo, .inl wor))] sz) := by
  unfold f_WL_findColumn at hF
  refine kU_of (cc := c_W_findColumn) (maxL := 8) (ret := none) (by decide) (Nat.le_of_ble_eq_true rfl) ?_
  intro p e s m args below meth c Q A hQ hfx hK hN hA H locs ls hP hD hS hl
  obtain ⟨hx, hb, hr, hml, hown, hts, hlocks⟩ := hfx
  have hown : s.vm.findClass R_W = some m.cls := hown
  have hl : lv_has ls 8 [(0, .ref q_wk), (1, .int a0), (2, .int a1), (3, .int a2)] := hl
  refine lv_iload_n hx hb d_W_findColumn_0 rfl (lv_at hl 2 rfl) ?_
  refine lv_istore (lv' := [(4, .int a1), (0, .ref q_wk), (1, .int a0), (2, .int a1), (3, .int a2)]) hx hb d_W_findColumn_1 hl (by decide) rfl (fun ls hl => ?_)
  obtain ⟨u1, hcu1, hF⟩ := kc_bnd hF
  have hJu1_73 : ∀ (H : Heap) (locs : List Loc) (ls : Array Slot), va_P (dC, dI) vwCl [(q_wk, .inr (4, [.ref q_bk, .ref q_li, .ref q_sg, .ref q_sz, .ref q_lo, .int pls, .int pl, .int raw])), (q_sg, .inl (k_sg, n_sg, .inl u1.2.1)), (q_sz, .inl (k_sz, n_sz, .inl u1.2.2.1)), (q_lo, .inl (k_lo, n_lo, .inl u1.2.2.2.1)), (q_bk, .inr (1, [.int w, .int h, .int sty, .int bd, .int str, .int cel])), (q_li, .inr (3, [.ref q_wo, .int lcn, .int u1.2.2.2.2.1, .int u1.2.2.2.2.2])), (q_wo, .inl (k_wo, n_wo, .inl wor))] H → va_D A [(q_wk, .inr (4, [.ref q_bk, .ref q_li, .ref q_sg, .ref q_sz, .ref q_lo, .int pls, .int pl, .int raw])), (q_sg, .inl (k_sg, n_sg, .inl u1.2.1)), (q_sz, .inl (k_sz, n_sz, .inl u1.2.2.1)), (q_lo, .inl (k_lo, n_lo, .inl u1.2.2.2.1)), (q_bk, .inr (1, [.int w, .int h, .int sty, .int bd, .int str, .int cel])), (q_li, .inr (3, [.ref q_wo, .int lcn, .int u1.2.2.2.2.1, .int u1.2.2.2.2.2])), (q_wo, .inl (k_wo, n_wo, .inl wor))] → va_S A s.heap H locs → lv_has ls 8 [(4, .int u1.1), (0, .ref q_wk), (1, .int a0), (2, .int a1), (3, .int a2)] → W p l e rm_WL_findColumn s m args below meth c H locs 0 0 Q (F0 m 73 ls []) := by
    intro H locs ls hP hD hS hl
    obtain rfl := Option.some.inj hF
    exact ku_vret hx hb hr hlocks hQ (hP.sub [0, 1, 2, 3, 4, 5, 6] rfl) (hD.sub [0, 1, 2, 3, 4, 5, 6] (by decide) rfl) hS d_W_findColumn_73
  have hIu1 : ∀ (N : Nat) (v3_4 : Int32) (sgn_3 : (Nat → Int32)) (siz_3 : (Nat → Int32)) (low_3 : (Nat → Int32)) (lak_3 : Int32) (nxt_3 : Int32), f_WL_findColumn_L3 pl raw sty bd str lcn wor n_sg n_sz n_lo n_wo a0 a2 N v3_4 sgn_3 siz_3 low_3 lak_3 nxt_3 = some u1 → ∀ (H : Heap) (locs : List Loc) (ls : Array Slot), va_P (dC, dI) vwCl [(q_wk, .inr (4, [.ref q_bk, .ref q_li, .ref q_sg, .ref q_sz, .ref q_lo, .int pls, .int pl, .int raw])), (q_sg, .inl (k_sg, n_sg, .inl sgn_3)), (q_sz, .inl (k_sz, n_sz, .inl siz_3)), (q_lo, .inl (k_lo, n_lo, .inl low_3)), (q_bk, .inr (1, [.int w, .int h, .int sty, .int bd, .int str, .int cel])), (q_li, .inr (3, [.ref q_wo, .int lcn, .int lak_3, .int nxt_3])), (q_wo, .inl (k_wo, n_wo, .inl wor))] H → va_D A [(q_wk, .inr (4, [.ref q_bk, .ref q_li, .ref q_sg, .ref q_sz, .ref q_lo, .int pls, .int pl, .int raw])), (q_sg, .inl (k_sg, n_sg, .inl sgn_3)), (q_sz, .inl (k_sz, n_sz, .inl siz_3)), (q_lo, .inl (k_lo, n_lo, .inl low_3)), (q_bk, .inr (1, [.int w, .int h, .int sty, .int bd, .int str, .int cel])), (q_li, .inr (3, [.ref q_wo, .int lcn, .int lak_3, .int nxt_3])), (q_wo, .inl (k_wo, n_wo, .inl wor))] → va_S A s.heap H locs → lv_has ls 8 [(4, .int v3_4), (0, .ref q_wk), (1, .int a0), (2, .int a1), (3, .int a2)] → W p l e rm_WL_findColumn s m args below meth c H locs 0 0 Q (F0 m 3 ls []) := by
    intro N
    induction N with
    | zero => intro v3_4 sgn_3 siz_3 low_3 lak_3 nxt_3 hF; rw [f_WL_findColumn_L3] at hF; cases hF
    | succ N ih =>
      intro v3_4 sgn_3 siz_3 low_3 lak_3 nxt_3 hF
      intro H locs ls hP hD hS hl
      rw [f_WL_findColumn_L3] at hF
      refine lv_iload hx hb d_W_findColumn_3 (lv_at hl 0 rfl) ?_
      refine lv_iload_n hx hb d_W_findColumn_5 rfl (lv_at hl 4 rfl) ?_
      refine lv_icmp_ge (tgt := 73) hx hb d_W_findColumn_6 (by decide) (fun c2 => ?_) (fun c2 => ?_)
      · have hF := kc_pos c2 hF
        obtain rfl := Option.some.inj hF
        exact hJu1_73 _ _ _ hP hD hS (lv_sub hl [0, 1, 2, 3, 4] rfl)
      have hF := kc_neg c2 hF
      refine lv_aload_n hx hb d_W_findColumn_9 rfl (lv_at hl 1 rfl) ?_
      refine va_get (D := (dC, dI)) (ci := 4) (v := .ref q_bk) (C := R_W) (T := T_W) (N := 8) hx hb hts ki_W hown hK hP 0 rfl rfl 0 (by decide) (hts _ kw_1_103) (fun _ h9 => h9) rfl d_W_findColumn_10 ?_
      refine lv_iload_n hx hb d_W_findColumn_13 rfl (lv_at hl 2 rfl) ?_
      refine lv_iload hx hb d_W_findColumn_14 (lv_at hl 0 rfl) ?_
      refine kr_call (va_runV (As := [.int a0, .int v3_4]) (rest := []) ⟨hx, hb, hml, hown, hts⟩ (m_K_cellOf l dC dI q_bk w h sty bd str cel a0 v3_4 (f_K_cellOf str a0 v3_4) rfl) (cwV 2 hts (kgV kw_1_236 kw_1_192 kw_1_193 kw_1_2 kw_1_194) rfl rfl rfl (by decide +kernel) ⟨Nat.le_of_ble_eq_true rfl, Nat.le_of_ble_eq_true rfl⟩) ⟨kRe_blind, va_recv hK hP (ci := 1) (q0 := 4) rfl rfl, kRe_of (hP.sub [4] rfl) (hK.sub [] rfl) hN⟩ rfl rfl hl.1 rfl (lv_room (Nat.le_of_ble_eq_true rfl)) d_W_findColumn_16 ⟨Nat.le_of_ble_eq_true rfl, Nat.le_of_ble_eq_true rfl⟩) ?_
      refine lv_istore (lv' := [(5, .int (f_K_cellOf str a0 v3_4)), (4, .int v3_4), (0, .ref q_wk), (1, .int a0), (2, .int a1), (3, .int a2)]) hx hb d_W_findColumn_19 hl (by decide) rfl (fun ls hl => ?_)
      refine lv_aload_n hx hb d_W_findColumn_21 rfl (lv_at hl 2 rfl) ?_
      refine va_get (D := (dC, dI)) (ci := 4) (v := .ref q_bk) (C := R_W) (T := T_W) (N := 8) hx hb hts ki_W hown hK hP 0 rfl rfl 0 (by decide) (hts _ kw_1_103) (fun _ h9 => h9) rfl d_W_findColumn_22 ?_
      refine lv_iload hx hb d_W_findColumn_25 (lv_at hl 1 rfl) ?_
      refine kr_call (va_runV (As := [.int v3_4]) (rest := []) ⟨hx, hb, hml, hown, hts⟩ (m_K_isBlindBelow l dC dI q_bk w h sty bd str cel v3_4 (f_K_isBlindBelow sty v3_4) rfl) (cwV 1 hts (kgV kw_1_237 kw_1_238 kw_1_239 kw_1_2 kw_2_0) rfl rfl rfl (by decide +kernel) ⟨Nat.le_of_ble_eq_true rfl, Nat.le_of_ble_eq_true rfl⟩) ⟨kRe_blind, va_recv hK hP (ci := 1) (q0 := 4) rfl rfl, kRe_of (hP.sub [4] rfl) (hK.sub [] rfl) hN⟩ rfl rfl hl.1 rfl (lv_room (Nat.le_of_ble_eq_true rfl)) d_W_findColumn_27 ⟨Nat.le_of_ble_eq_true rfl, Nat.le_of_ble_eq_true rfl⟩) ?_
      refine lv_istore (lv' := [(6, .int (f_K_isBlindBelow sty v3_4)), (5, .int (f_K_cellOf str a0 v3_4)), (4, .int v3_4), (0, .ref q_wk), (1, .int a0), (2, .int a1), (3, .int a2)]) hx hb d_W_findColumn_30 hl (by decide) rfl (fun ls hl => ?_)
      refine lv_aload_n hx hb d_W_findColumn_32 rfl (lv_at hl 3 rfl) ?_
      refine va_get (D := (dC, dI)) (ci := 4) (v := .ref q_sg) (C := R_W) (T := T_W) (N := 8) hx hb hts ki_W hown hK hP 0 rfl rfl 2 (by decide) (hts _ kw_1_105) (fun _ h9 => h9) rfl d_W_findColumn_33 ?_
      refine lv_iload hx hb d_W_findColumn_36 (lv_at hl 1 rfl) ?_
      obtain ⟨h3, hF⟩ := kc_no hF
      refine va_iald hx hb hK hP 1 0 rfl rfl h3 d_W_findColumn_38 ?_
      obtain ⟨u5, hcu5, hF⟩ := kc_bnd hF
      have hJu5 : ∀ (H : Heap) (locs : List Loc) (ls : Array Slot), va_P (dC, dI) vwCl [(q_wk, .inr (4, [.ref q_bk, .ref q_li, .ref q_sg, .ref q_sz, .ref q_lo, .int pls, .int pl, .int raw])), (q_sg, .inl (k_sg, n_sg, .inl u5.1)), (q_sz, .inl (k_sz, n_sz, .inl u5.2.1)), (q_lo, .inl (k_lo, n_lo, .inl u5.2.2.1)), (q_bk, .inr (1, [.int w, .int h, .int sty, .int bd, .int str, .int cel])), (q_li, .inr (3, [.ref q_wo, .int lcn, .int u5.2.2.2.1, .int u5.2.2.2.2])), (q_wo, .inl (k_wo, n_wo, .inl wor))] H → va_D A [(q_wk, .inr (4, [.ref q_bk, .ref q_li, .ref q_sg, .ref q_sz, .ref q_lo, .int pls, .int pl, .int raw])), (q_sg, .inl (k_sg, n_sg, .inl u5.1)), (q_sz, .inl (k_sz, n_sz, .inl u5.2.1)), (q_lo, .inl (k_lo, n_lo, .inl u5.2.2.1)), (q_bk, .inr (1, [.int w, .int h, .int sty, .int bd, .int str, .int cel])), (q_li, .inr (3, [.ref q_wo, .int lcn, .int u5.2.2.2.1, .int u5.2.2.2.2])), (q_wo, .inl (k_wo, n_wo, .inl wor))] → va_S A s.heap H locs → lv_has ls 8 [(6, .int (f_K_isBlindBelow sty v3_4)), (5, .int (f_K_cellOf str a0 v3_4)), (4, .int v3_4), (0, .ref q_wk), (1, .int a0), (2, .int a1), (3, .int a2)] → W p l e rm_WL_findColumn s m args below meth c H locs 0 0 Q (F0 m 67 ls []) := by
        intro H locs ls hP hD hS hl
        refine lv_iinc (v := (v3_4 + 1)) (lv' := [(4, .int (v3_4 + 1)), (6, .int (f_K_isBlindBelow sty v3_4)), (5, .int (f_K_cellOf str a0 v3_4)), (0, .ref q_wk), (1, .int a0), (2, .int a1), (3, .int a2)]) hx hb d_W_findColumn_67 hl (k := 2) rfl rfl (by decide) rfl (fun ls hl => ?_)
        refine lv_goto (tgt := 3) hx hb d_W_findColumn_70 (by decide) ?_
        exact ih _ _ _ _ _ _ hF _ _ _ hP hD hS (lv_sub hl [0, 3, 4, 5, 6] rfl)
      clear hF; have hF := hcu5; clear hcu5
      refine lv_if_ne (tgt := 67) hx hb d_W_findColumn_39 (by decide) (fun c4 => ?_) (fun c4 => ?_)
      · have hF := kc_neg c4 hF
        obtain rfl := Option.some.inj hF
        exact hJu5 _ _ _ hP hD hS (lv_sub hl [0, 1, 2, 3, 4, 5, 6] rfl)
      have hF := kc_pos c4 hF
      refine lv_aload_n hx hb d_W_findColumn_42 rfl (lv_at hl 3 rfl) ?_
      refine lv_iload hx hb d_W_findColumn_43 (lv_at hl 1 rfl) ?_
      refine lv_iload hx hb d_W_findColumn_45 (lv_at hl 0 rfl) ?_
      obtain ⟨u6, hc, hF⟩ := kc_bnd hF
      refine kr_call (va_runV (As := [.int (f_K_cellOf str a0 v3_4), .int (f_K_isBlindBelow sty v3_4)]) (rest := []) ⟨hx, hb, hml, hown, hts⟩ (m_WL_contextOf l dC dI q_wk q_sg q_sz q_lo q_bk q_li k_sg n_sg pls pl raw sgn_3 w h sty bd str cel (f_K_cellOf str a0 v3_4) (f_K_isBlindBelow sty v3_4) _ hc) (cwV 2 hts (kgV kw_2_2 kw_2_4 kp_2 kw_1_6 kw_2_5) rfl rfl rfl (by decide +kernel) ⟨Nat.le_of_ble_eq_true rfl, Nat.le_of_ble_eq_true rfl⟩) ⟨kRe_blind, va_recv hK hP (ci := 4) (q0 := 0) rfl rfl, kRe_of (hP.sub [0, 1, 4] rfl) (hK.sub [0] rfl) hN⟩ rfl rfl hl.1 rfl (lv_room (Nat.le_of_ble_eq_true rfl)) d_W_findColumn_47 ⟨Nat.le_of_ble_eq_true rfl, Nat.le_of_ble_eq_true rfl⟩) ?_
      refine lv_istore (lv' := [(7, .int u6), (6, .int (f_K_isBlindBelow sty v3_4)), (5, .int (f_K_cellOf str a0 v3_4)), (4, .int v3_4), (0, .ref q_wk), (1, .int a0), (2, .int a1), (3, .int a2)]) hx hb d_W_findColumn_50 hl (by decide) rfl (fun ls hl => ?_)
      refine lv_iload hx hb d_W_findColumn_52 (lv_at hl 0 rfl) ?_
      refine lv_if_eq (tgt := 67) hx hb d_W_findColumn_54 (by decide) (fun c7 => ?_) (fun c7 => ?_)
      · have hF := kc_pos c7 hF
        obtain rfl := Option.some.inj hF
        exact hJu5 _ _ _ hP hD hS (lv_sub hl [1, 2, 3, 4, 5, 6, 7] rfl)
      have hF := kc_neg c7 hF
      refine lv_aload_n hx hb d_W_findColumn_57 rfl (lv_at hl 4 rfl) ?_
      refine lv_iload hx hb d_W_findColumn_58 (lv_at hl 2 rfl) ?_
      refine lv_iload hx hb d_W_findColumn_60 (lv_at hl 1 rfl) ?_
      refine lv_iload hx hb d_W_findColumn_62 (lv_at hl 0 rfl) ?_
      obtain ⟨u8, hc, hF⟩ := kc_bnd hF
      refine ku_call (wr := []) hA (va_runV (As := [.int (f_K_cellOf str a0 v3_4), .int (f_K_isBlindBelow sty v3_4), .int u6]) (rest := []) ⟨hx, hb, hml, hown, hts⟩ (m_WL_exchangeSize l dC dI q_wk q_sg q_sz q_lo q_bk q_li q_wo k_sg n_sg k_sz n_sz k_lo n_lo k_wo n_wo pls pl raw sgn_3 siz_3 low_3 w h sty bd str cel lcn lak_3 nxt_3 wor (f_K_cellOf str a0 v3_4) (f_K_isBlindBelow sty v3_4) u6 _ hc H.size) (cwV 3 hts (kgV kw_2_19 kw_2_21 kp_4 kw_1_6 kw_2_22) rfl rfl rfl (by decide +kernel) ⟨Nat.le_of_ble_eq_true rfl, Nat.le_of_ble_eq_true rfl⟩) ⟨kPre_blind, va_recv hK hP (ci := 4) (q0 := 0) rfl rfl, kPre_of (hP.sub [0, 1, 2, 3, 4, 5, 6] rfl) (hK.sub [0, 1, 2, 3] rfl) (hD.sub [0, 1, 2, 3, 4, 5, 6] (by decide) rfl) hN⟩ rfl rfl hl.1 rfl (lv_room (Nat.le_of_ble_eq_true rfl)) d_W_findColumn_64 ⟨Nat.le_of_ble_eq_true rfl, Nat.le_of_ble_eq_true rfl⟩) hP hD hS [0, 1, 2, 3, 4, 5, 6] [] rfl rfl (by decide) (by decide) (fun H locs hP hD hS => ?_)
      have hP : va_P (dC, dI) vwCl [(q_wk, .inr (4, [.ref q_bk, .ref q_li, .ref q_sg, .ref q_sz, .ref q_lo, .int pls, .int pl, .int raw])), (q_sg, .inl (k_sg, n_sg, .inl u8.1)), (q_sz, .inl (k_sz, n_sz, .inl u8.2.1)), (q_lo, .inl (k_lo, n_lo, .inl u8.2.2.1)), (q_bk, .inr (1, [.int w, .int h, .int sty, .int bd, .int str, .int cel])), (q_li, .inr (3, [.ref q_wo, .int lcn, .int u8.2.2.2.1, .int u8.2.2.2.2])), (q_wo, .inl (k_wo, n_wo, .inl wor))] H := hP
      have hD : va_D A [(q_wk, .inr (4, [.ref q_bk, .ref q_li, .ref q_sg, .ref q_sz, .ref q_lo, .int pls, .int pl, .int raw])), (q_sg, .inl (k_sg, n_sg, .inl u8.1)), (q_sz, .inl (k_sz, n_sz, .inl u8.2.1)), (q_lo, .inl (k_lo, n_lo, .inl u8.2.2.1)), (q_bk, .inr (1, [.int w, .int h, .int sty, .int bd, .int str, .int cel])), (q_li, .inr (3, [.ref q_wo, .int lcn, .int u8.2.2.2.1, .int u8.2.2.2.2])), (q_wo, .inl (k_wo, n_wo, .inl wor))] := hD
      obtain rfl := Option.some.inj hF
      exact hJu5 _ _ _ hP hD hS (lv_sub hl [1, 2, 3, 4, 5, 6, 7] rfl)
  exact hIu1 _ _ _ _ _ _ _ hcu1 _ _ _ hP hD hS (lv_sub hl [0, 1, 2, 3, 4] rfl)
abbrev rm_WL_refineColumn : Room := { frames := 4, cells := 0, slots := 0, locals := 95 }
set_option maxHeartbeats 4000000 in
set_option maxRecDepth 100000 in
theorem m_WL_refineColumn (l : Launch) (dC : Nat → ClassId) (dI : Nat → Nat → Nat) (q_wk q_sg q_sz q_lo q_bk q_li q_wo : Nat) (k_sg : ClassId) (n_sg : Nat) (k_sz : ClassId) (n_sz : Nat) (k_lo : ClassId) (n_lo : Nat) (k_wo : ClassId) (n_wo : Nat) (pls : Int32) (pl : Int32) (raw : Int32) (sgn : (Nat → Int32)) (siz : (Nat → Int32)) (low : (Nat → Int32)) (w : Int32) (h : Int32) (sty : Int32) (bd : Int32) (str : Int32) (cel : Int32) (lcn : Int32) (lak : Int32) (nxt : Int32) (wor : (Nat → Int32)) (a0 : Int32) (a1 : Int32) (a2 : Int32) (u : (Nat → Int32) × (Nat → Int32) × Int32 × Int32) (hF : f_WL_refineColumn pl raw sgn siz low sty bd str lcn lak nxt wor n_sg n_sz n_lo n_wo a0 a1 a2 = some u) : ∀ sz : Nat, Met l y_W_refineColumn (kws y_W_refineColumn c_W_refineColumn 8 none) rm_WL_refineColumn (kPre (dC, dI) [.ref q_wk, .int a0, .int a1, .int a2] [(q_wk, .inr (4, [.ref q_bk, .ref q_li, .ref q_sg, .ref q_sz, .ref q_lo, .int pls, .int pl, .int raw])), (q_sg, .inl (k_sg, n_sg, .inl sgn)), (q_sz, .inl (k_sz, n_sz, .inl siz)), (q_lo, .inl (k_lo, n_lo, .inl low)), (q_bk, .inr (1, [.int w, .int h, .int sty, .int bd, .int str, .int cel])), (q_li, .inr (3, [.ref q_wo, .int lcn, .int lak, .int nxt])), (q_wo, .inl (k_wo, n_wo, .inl wor))] [(k_sg, .int), (k_sz, .int), (k_lo, .int), (k_wo, .int)] sz) (kPost (dC, dI) none [(q_wk, .inr (4, [.ref q_bk, .ref q_li, .ref q_sg, .ref q_sz, .ref q_lo, .int pls, .int pl, .int raw])), (q_sg, .inl (k_sg, n_sg, .inl sgn)), (q_sz, .inl (k_sz, n_sz, .inl u.1)), (q_lo, .inl (k_lo, n_lo, .inl u.2.1)), (q_bk, .inr (1, [.int w, .int h, .int sty, .int bd, .int str, .int cel])), (q_li, .inr (3, [.ref q_wo, .int lcn, .int u.2.2.1, .int u.2.2.2])), (q_wo, .inl (k_wo, n_wo, .inl wor))] (va_A [(q_wk, .inr (4, [.ref q_bk, .ref q_li, .ref q_sg, .ref q_sz, .ref q_lo, .int pls, .int pl, .int raw])), (q_sg, .inl (k_sg, n_sg, .inl sgn)), (q_sz, .inl (k_sz, n_sz, .inl siz)), (q_lo, .inl (k_lo, n_lo, .inl low)), (q_bk, .inr (1, [.int w, .int h, .int sty, .int bd, .int str, .int cel])), (q_li, .inr (3, [.ref q_wo, .int lcn, .int lak, .int nxt])), (q_wo, .inl (k_wo, n_wo, .inl wor))] sz)) 0 0 (va_A [(q_wk, .inr (4, [.ref q_bk, .ref q_li, .ref q_sg, .ref q_sz, .ref q_lo, .int pls, .int pl, .int raw])), (q_sg, .inl (k_sg, n_sg, .inl sgn)), (q_sz, .inl (k_sz, n_sz, .inl siz)), (q_lo, .inl (k_lo, n_lo, .inl low)), (q_bk, .inr (1, [.int w, .int h, .int sty, .int bd, .int str, .int cel])), (q_li, .inr (3, [.ref q_wo, .int lcn, .int lak, .int nxt])), (q_wo, .inl (k_wo, n_wo, .inl wor))] sz) := by
  unfold f_WL_refineColumn at hF
  refine kU_of (cc := c_W_refineColumn) (maxL := 8) (ret := none) (by decide) (Nat.le_of_ble_eq_true rfl) ?_
  intro p e s m args below meth c Q A hQ hfx hK hN hA H locs ls hP hD hS hl
  obtain ⟨hx, hb, hr, hml, hown, hts, hlocks⟩ := hfx
  have hown : s.vm.findClass R_W = some m.cls := hown
  have hl : lv_has ls 8 [(0, .ref q_wk), (1, .int a0), (2, .int a1), (3, .int a2)] := hl
  refine lv_iload_n hx hb d_W_refineColumn_0 rfl (lv_at hl 2 rfl) ?_
  refine lv_istore (lv' := [(4, .int a1), (0, .ref q_wk), (1, .int a0), (2, .int a1), (3, .int a2)]) hx hb d_W_refineColumn_1 hl (by decide) rfl (fun ls hl => ?_)
  obtain ⟨u1, hcu1, hF⟩ := kc_bnd hF
  have hJu1_132 : ∀ (H : Heap) (locs : List Loc) (ls : Array Slot), va_P (dC, dI) vwCl [(q_wk, .inr (4, [.ref q_bk, .ref q_li, .ref q_sg, .ref q_sz, .ref q_lo, .int pls, .int pl, .int raw])), (q_sg, .inl (k_sg, n_sg, .inl sgn)), (q_sz, .inl (k_sz, n_sz, .inl u1.2.1)), (q_lo, .inl (k_lo, n_lo, .inl u1.2.2.1)), (q_bk, .inr (1, [.int w, .int h, .int sty, .int bd, .int str, .int cel])), (q_li, .inr (3, [.ref q_wo, .int lcn, .int u1.2.2.2.1, .int u1.2.2.2.2])), (q_wo, .inl (k_wo, n_wo, .inl wor))] H → va_D A [(q_wk, .inr (4, [.ref q_bk, .ref q_li, .ref q_sg, .ref q_sz, .ref q_lo, .int pls, .int pl, .int raw])), (q_sg, .inl (k_sg, n_sg, .inl sgn)), (q_sz, .inl (k_sz, n_sz, .inl u1.2.1)), (q_lo, .inl (k_lo, n_lo, .inl u1.2.2.1)), (q_bk, .inr (1, [.int w, .int h, .int sty, .int bd, .int str, .int cel])), (q_li, .inr (3, [.ref q_wo, .int lcn, .int u1.2.2.2.1, .int u1.2.2.2.2])), (q_wo, .inl (k_wo, n_wo, .inl wor))] → va_S A s.heap H locs → lv_has ls 8 [(4, .int u1.1), (0, .ref q_wk), (1, .int a0), (2, .int a1), (3, .int a2)] → W p l e rm_WL_refineColumn s m args below meth c H locs 0 0 Q (F0 m 132 ls []) := by
    intro H locs ls hP hD hS hl
    obtain rfl := Option.some.inj hF
    exact ku_vret hx hb hr hlocks hQ (hP.sub [0, 1, 2, 3, 4, 5, 6] rfl) (hD.sub [0, 1, 2, 3, 4, 5, 6] (by decide) rfl) hS d_W_refineColumn_132
  have hIu1 : ∀ (N : Nat) (v3_4 : Int32) (siz_3 : (Nat → Int32)) (low_3 : (Nat → Int32)) (lak_3 : Int32) (nxt_3 : Int32), f_WL_refineColumn_L3 pl raw sgn sty bd str lcn wor n_sg n_sz n_lo n_wo a0 a2 N v3_4 siz_3 low_3 lak_3 nxt_3 = some u1 → ∀ (H : Heap) (locs : List Loc) (ls : Array Slot), va_P (dC, dI) vwCl [(q_wk, .inr (4, [.ref q_bk, .ref q_li, .ref q_sg, .ref q_sz, .ref q_lo, .int pls, .int pl, .int raw])), (q_sg, .inl (k_sg, n_sg, .inl sgn)), (q_sz, .inl (k_sz, n_sz, .inl siz_3)), (q_lo, .inl (k_lo, n_lo, .inl low_3)), (q_bk, .inr (1, [.int w, .int h, .int sty, .int bd, .int str, .int cel])), (q_li, .inr (3, [.ref q_wo, .int lcn, .int lak_3, .int nxt_3])), (q_wo, .inl (k_wo, n_wo, .inl wor))] H → va_D A [(q_wk, .inr (4, [.ref q_bk, .ref q_li, .ref q_sg, .ref q_sz, .ref q_lo, .int pls, .int pl, .int raw])), (q_sg, .inl (k_sg, n_sg, .inl sgn)), (q_sz, .inl (k_sz, n_sz, .inl siz_3)), (q_lo, .inl (k_lo, n_lo, .inl low_3)), (q_bk, .inr (1, [.int w, .int h, .int sty, .int bd, .int str, .int cel])), (q_li, .inr (3, [.ref q_wo, .int lcn, .int lak_3, .int nxt_3])), (q_wo, .inl (k_wo, n_wo, .inl wor))] → va_S A s.heap H locs → lv_has ls 8 [(4, .int v3_4), (0, .ref q_wk), (1, .int a0), (2, .int a1), (3, .int a2)] → W p l e rm_WL_refineColumn s m args below meth c H locs 0 0 Q (F0 m 3 ls []) := by
    intro N
    induction N with
    | zero => intro v3_4 siz_3 low_3 lak_3 nxt_3 hF; rw [f_WL_refineColumn_L3] at hF; cases hF
    | succ N ih =>
      intro v3_4 siz_3 low_3 lak_3 nxt_3 hF
      intro H locs ls hP hD hS hl
      rw [f_WL_refineColumn_L3] at hF
      refine lv_iload hx hb d_W_refineColumn_3 (lv_at hl 0 rfl) ?_
      refine lv_iload_n hx hb d_W_refineColumn_5 rfl (lv_at hl 4 rfl) ?_
      refine lv_icmp_ge (tgt := 132) hx hb d_W_refineColumn_6 (by decide) (fun c2 => ?_) (fun c2 => ?_)
      · have hF := kc_pos c2 hF
        obtain rfl := Option.some.inj hF
        exact hJu1_132 _ _ _ hP hD hS (lv_sub hl [0, 1, 2, 3, 4] rfl)
      have hF := kc_neg c2 hF
      refine lv_aload_n hx hb d_W_refineColumn_9 rfl (lv_at hl 1 rfl) ?_
      refine va_get (D := (dC, dI)) (ci := 4) (v := .ref q_bk) (C := R_W) (T := T_W) (N := 8) hx hb hts ki_W hown hK hP 0 rfl rfl 0 (by decide) (hts _ kw_1_103) (fun _ h9 => h9) rfl d_W_refineColumn_10 ?_
      refine lv_iload_n hx hb d_W_refineColumn_13 rfl (lv_at hl 2 rfl) ?_
      refine lv_iload hx hb d_W_refineColumn_14 (lv_at hl 0 rfl) ?_
      refine kr_call (va_runV (As := [.int a0, .int v3_4]) (rest := []) ⟨hx, hb, hml, hown, hts⟩ (m_K_cellOf l dC dI q_bk w h sty bd str cel a0 v3_4 (f_K_cellOf str a0 v3_4) rfl) (cwV 2 hts (kgV kw_1_236 kw_1_192 kw_1_193 kw_1_2 kw_1_194) rfl rfl rfl (by decide +kernel) ⟨Nat.le_of_ble_eq_true rfl, Nat.le_of_ble_eq_true rfl⟩) ⟨kRe_blind, va_recv hK hP (ci := 1) (q0 := 4) rfl rfl, kRe_of (hP.sub [4] rfl) (hK.sub [] rfl) hN⟩ rfl rfl hl.1 rfl (lv_room (Nat.le_of_ble_eq_true rfl)) d_W_refineColumn_16 ⟨Nat.le_of_ble_eq_true rfl, Nat.le_of_ble_eq_true rfl⟩) ?_
      refine lv_istore (lv' := [(5, .int (f_K_cellOf str a0 v3_4)), (4, .int v3_4), (0, .ref q_wk), (1, .int a0), (2, .int a1), (3, .int a2)]) hx hb d_W_refineColumn_19 hl (by decide) rfl (fun ls hl => ?_)
      refine lv_aload_n hx hb d_W_refineColumn_21 rfl (lv_at hl 2 rfl) ?_
      refine va_get (D := (dC, dI)) (ci := 4) (v := .ref q_sg) (C := R_W) (T := T_W) (N := 8) hx hb hts ki_W hown hK hP 0 rfl rfl 2 (by decide) (hts _ kw_1_105) (fun _ h9 => h9) rfl d_W_refineColumn_22 ?_
      refine lv_iload hx hb d_W_refineColumn_25 (lv_at hl 0 rfl) ?_
      obtain ⟨h3, hF⟩ := kc_no hF
      refine va_iald hx hb hK hP 1 0 rfl rfl h3 d_W_refineColumn_27 ?_
      obtain ⟨u5, hcu5, hF⟩ := kc_bnd hF
      have hJu5 : ∀ (H : Heap) (locs : List Loc) (ls : Array Slot), va_P (dC, dI) vwCl [(q_wk, .inr (4, [.ref q_bk, .ref q_li, .ref q_sg, .ref q_sz, .ref q_lo, .int pls, .int pl, .int raw])), (q_sg, .inl (k_sg, n_sg, .inl sgn)), (q_sz, .inl (k_sz, n_sz, .inl u5.1)), (q_lo, .inl (k_lo, n_lo, .inl u5.2.1)), (q_bk, .inr (1, [.int w, .int h, .int sty, .int bd, .int str, .int cel])), (q_li, .inr (3, [.ref q_wo, .int lcn, .int u5.2.2.1, .int u5.2.2.2])), (q_wo, .inl (k_wo, n_wo, .inl wor))] H → va_D A [(q_wk, .inr (4, [.ref q_bk, .ref q_li, .ref q_sg, .ref q_sz, .ref q_lo, .int pls, .int pl, .int raw])), (q_sg, .inl (k_sg, n_sg, .inl sgn)), (q_sz, .inl (k_sz, n_sz, .inl u5.1)), (q_lo, .inl (k_lo, n_lo, .inl u5.2.1)), (q_bk, .inr (1, [.int w, .int h, .int sty, .int bd, .int str, .int cel])), (q_li, .inr (3, [.ref q_wo, .int lcn, .int u5.2.2.1, .int u5.2.2.2])), (q_wo, .inl (k_wo, n_wo, .inl wor))] → va_S A s.heap H locs → lv_has ls 8 [(5, .int (f_K_cellOf str a0 v3_4)), (4, .int v3_4), (0, .ref q_wk), (1, .int a0), (2, .int a1), (3, .int a2)] → W p l e rm_WL_refineColumn s m args below meth c H locs 0 0 Q (F0 m 126 ls []) := by
        intro H locs ls hP hD hS hl
        refine lv_iinc (v := (v3_4 + 1)) (lv' := [(4, .int (v3_4 + 1)), (5, .int (f_K_cellOf str a0 v3_4)), (0, .ref q_wk), (1, .int a0), (2, .int a1), (3, .int a2)]) hx hb d_W_refineColumn_126 hl (k := 1) rfl rfl (by decide) rfl (fun ls hl => ?_)
        refine lv_goto (tgt := 3) hx hb d_W_refineColumn_129 (by decide) ?_
        exact ih _ _ _ _ _ hF _ _ _ hP hD hS (lv_sub hl [0, 2, 3, 4, 5] rfl)
      clear hF; have hF := hcu5; clear hcu5
      refine lv_if_eq (tgt := 126) hx hb d_W_refineColumn_28 (by decide) (fun c4 => ?_) (fun c4 => ?_)
      · have hF := kc_pos c4 hF
        obtain rfl := Option.some.inj hF
        exact hJu5 _ _ _ hP hD hS (lv_sub hl [0, 1, 2, 3, 4, 5] rfl)
      have hF := kc_neg c4 hF
      refine lv_aload_n hx hb d_W_refineColumn_31 rfl (lv_at hl 2 rfl) ?_
      refine va_get (D := (dC, dI)) (ci := 4) (v := .ref q_lo) (C := R_W) (T := T_W) (N := 8) hx hb hts ki_W hown hK hP 0 rfl rfl 4 (by decide) (hts _ kw_1_109) (fun _ h9 => h9) rfl d_W_refineColumn_32 ?_
      refine lv_iload hx hb d_W_refineColumn_35 (lv_at hl 0 rfl) ?_
      obtain ⟨h6, hF⟩ := kc_no hF
      refine va_iald hx hb hK hP 3 2 rfl rfl h6 d_W_refineColumn_37 ?_
      refine lv_aload_n hx hb d_W_refineColumn_38 rfl (lv_at hl 2 rfl) ?_
      refine va_get (D := (dC, dI)) (ci := 4) (v := .int pl) (C := R_W) (T := T_W) (N := 8) hx hb hts ki_W hown hK hP 0 rfl rfl 6 (by decide) (hts _ kw_1_112) (fun _ h9 => h9) rfl d_W_refineColumn_39 ?_
      refine lv_icmp_le (tgt := 126) hx hb d_W_refineColumn_42 (by decide) (fun c7 => ?_) (fun c7 => ?_)
      · have hF := kc_pos c7 hF
        obtain rfl := Option.some.inj hF
        exact hJu5 _ _ _ hP hD hS (lv_sub hl [0, 1, 2, 3, 4, 5] rfl)
      have hF := kc_neg c7 hF
      refine lv_aload_n hx hb d_W_refineColumn_45 rfl (lv_at hl 2 rfl) ?_
      refine va_get (D := (dC, dI)) (ci := 4) (v := .int raw) (C := R_W) (T := T_W) (N := 8) hx hb hts ki_W hown hK hP 0 rfl rfl 7 (by decide) (hts _ kw_1_113) (fun _ h9 => h9) rfl d_W_refineColumn_46 ?_
      obtain ⟨u9, hcu9, hF⟩ := kc_bnd hF
      have hJu9 : ∀ (H : Heap) (locs : List Loc) (ls : Array Slot), va_P (dC, dI) vwCl [(q_wk, .inr (4, [.ref q_bk, .ref q_li, .ref q_sg, .ref q_sz, .ref q_lo, .int pls, .int pl, .int raw])), (q_sg, .inl (k_sg, n_sg, .inl sgn)), (q_sz, .inl (k_sz, n_sz, .inl siz_3)), (q_lo, .inl (k_lo, n_lo, .inl low_3)), (q_bk, .inr (1, [.int w, .int h, .int sty, .int bd, .int str, .int cel])), (q_li, .inr (3, [.ref q_wo, .int lcn, .int lak_3, .int nxt_3])), (q_wo, .inl (k_wo, n_wo, .inl wor))] H → va_D A [(q_wk, .inr (4, [.ref q_bk, .ref q_li, .ref q_sg, .ref q_sz, .ref q_lo, .int pls, .int pl, .int raw])), (q_sg, .inl (k_sg, n_sg, .inl sgn)), (q_sz, .inl (k_sz, n_sz, .inl siz_3)), (q_lo, .inl (k_lo, n_lo, .inl low_3)), (q_bk, .inr (1, [.int w, .int h, .int sty, .int bd, .int str, .int cel])), (q_li, .inr (3, [.ref q_wo, .int lcn, .int lak_3, .int nxt_3])), (q_wo, .inl (k_wo, n_wo, .inl wor))] → va_S A s.heap H locs → lv_has ls 8 [(5, .int (f_K_cellOf str a0 v3_4)), (4, .int v3_4), (0, .ref q_wk), (1, .int a0), (2, .int a1), (3, .int a2)] → W p l e rm_WL_refineColumn s m args below meth c H locs 0 0 Q (F0 m 72 ls [.int u9]) := by
        intro H locs ls hP hD hS hl
        refine lv_istore (lv' := [(6, .int u9), (5, .int (f_K_cellOf str a0 v3_4)), (4, .int v3_4), (0, .ref q_wk), (1, .int a0), (2, .int a1), (3, .int a2)]) hx hb d_W_refineColumn_72 hl (by decide) rfl (fun ls hl => ?_)
        refine lv_aload_n hx hb d_W_refineColumn_74 rfl (lv_at hl 3 rfl) ?_
        refine va_get (D := (dC, dI)) (ci := 4) (v := .ref q_li) (C := R_W) (T := T_W) (N := 8) hx hb hts ki_W hown hK hP 0 rfl rfl 1 (by decide) (hts _ kw_1_104) (fun _ h9 => h9) rfl d_W_refineColumn_75 ?_
        refine lv_aload_n hx hb d_W_refineColumn_78 rfl (lv_at hl 3 rfl) ?_
        refine va_get (D := (dC, dI)) (ci := 4) (v := .ref q_li) (C := R_W) (T := T_W) (N := 8) hx hb hts ki_W hown hK hP 0 rfl rfl 1 (by decide) (hts _ kw_1_104) (fun _ h9 => h9) rfl d_W_refineColumn_79 ?_
        refine lv_iload hx hb d_W_refineColumn_82 (lv_at hl 1 rfl) ?_
        refine lv_aload_n hx hb d_W_refineColumn_84 rfl (lv_at hl 3 rfl) ?_
        refine va_get (D := (dC, dI)) (ci := 4) (v := .int pl) (C := R_W) (T := T_W) (N := 8) hx hb hts ki_W hown hK hP 0 rfl rfl 6 (by decide) (hts _ kw_1_112) (fun _ h9 => h9) rfl d_W_refineColumn_85 ?_
        refine kr_call (va_runU (As := [.int (f_K_cellOf str a0 v3_4), .int pl]) (rest := [.ref q_li]) ⟨hx, hb, hml, hown, hts⟩ (m_L_sizeBit l dC dI q_li (f_K_cellOf str a0 v3_4) pl (f_L_sizeBit) rfl) (va_cwA 2 hts (kgA kw_2_23 kw_2_25 kw_2_26 kw_2_27 kw_1_7 kw_2_28) rfl rfl rfl (kn_5 hN) (by decide +kernel) ⟨Nat.le_of_ble_eq_true rfl, Nat.le_of_ble_eq_true rfl⟩) ⟨kRe_blind, va_recv hK hP (ci := 3) (q0 := 5) rfl rfl, kRe_of (hP.sub [] rfl) (hK.sub [] rfl) hN⟩ rfl rfl hl.1 rfl (lv_room (Nat.le_of_ble_eq_true rfl)) d_W_refineColumn_88 ⟨Nat.le_of_ble_eq_true rfl, Nat.le_of_ble_eq_true rfl⟩) ?_
        refine lv_iload hx hb d_W_refineColumn_91 (lv_at hl 0 rfl) ?_
        obtain ⟨u10, hc, hF⟩ := kc_bnd hF
        refine ku_call (wr := [(q_wk, .inr (4, [.ref q_bk, .ref q_li, .ref q_sg, .ref q_sz, .ref q_lo, .int pls, .int pl, .int raw])), (q_sg, .inl (k_sg, n_sg, .inl sgn)), (q_sz, .inl (k_sz, n_sz, .inl siz_3)), (q_lo, .inl (k_lo, n_lo, .inl low_3)), (q_bk, .inr (1, [.int w, .int h, .int sty, .int bd, .int str, .int cel]))]) hA (va_runU (As := [.int (f_L_sizeBit), .int u9]) (rest := []) ⟨hx, hb, hml, hown, hts⟩ (m_L_exchange l dC dI q_li q_wo k_wo n_wo lcn lak_3 nxt_3 wor (f_L_sizeBit) u9 _ hc H.size) (va_cwA 2 hts (kgA kw_2_33 kw_2_35 kw_2_36 kw_2_37 kw_1_7 kw_2_38) rfl rfl rfl (kn_6 hN) (by decide +kernel) ⟨Nat.le_of_ble_eq_true rfl, Nat.le_of_ble_eq_true rfl⟩) ⟨kPre_blind, va_recv hK hP (ci := 3) (q0 := 5) rfl rfl, kPre_of (hP.sub [5, 6] rfl) (hK.sub [3] rfl) (hD.sub [5, 6] (by decide) rfl) hN⟩ rfl rfl hl.1 rfl (lv_room (Nat.le_of_ble_eq_true rfl)) d_W_refineColumn_93 ⟨Nat.le_of_ble_eq_true rfl, Nat.le_of_ble_eq_true rfl⟩) hP hD hS [5, 6] [0, 1, 2, 3, 4] rfl rfl (by decide) (by decide) (fun H locs hP hD hS => ?_)
        have hP : va_P (dC, dI) vwCl [(q_wk, .inr (4, [.ref q_bk, .ref q_li, .ref q_sg, .ref q_sz, .ref q_lo, .int pls, .int pl, .int raw])), (q_sg, .inl (k_sg, n_sg, .inl sgn)), (q_sz, .inl (k_sz, n_sz, .inl siz_3)), (q_lo, .inl (k_lo, n_lo, .inl low_3)), (q_bk, .inr (1, [.int w, .int h, .int sty, .int bd, .int str, .int cel])), (q_li, .inr (3, [.ref q_wo, .int lcn, .int u10.2.1, .int u10.2.2])), (q_wo, .inl (k_wo, n_wo, .inl wor))] H := hP
        have hD : va_D A [(q_wk, .inr (4, [.ref q_bk, .ref q_li, .ref q_sg, .ref q_sz, .ref q_lo, .int pls, .int pl, .int raw])), (q_sg, .inl (k_sg, n_sg, .inl sgn)), (q_sz, .inl (k_sz, n_sz, .inl siz_3)), (q_lo, .inl (k_lo, n_lo, .inl low_3)), (q_bk, .inr (1, [.int w, .int h, .int sty, .int bd, .int str, .int cel])), (q_li, .inr (3, [.ref q_wo, .int lcn, .int u10.2.1, .int u10.2.2])), (q_wo, .inl (k_wo, n_wo, .inl wor))] := hD
        refine lv_istore (lv' := [(7, .int u10.1), (6, .int u9), (5, .int (f_K_cellOf str a0 v3_4)), (4, .int v3_4), (0, .ref q_wk), (1, .int a0), (2, .int a1), (3, .int a2)]) hx hb d_W_refineColumn_96 hl (by decide) rfl (fun ls hl => ?_)
        refine lv_aload_n hx hb d_W_refineColumn_98 rfl (lv_at hl 4 rfl) ?_
        refine va_get (D := (dC, dI)) (ci := 4) (v := .ref q_sz) (C := R_W) (T := T_W) (N := 8) hx hb hts ki_W hown hK hP 0 rfl rfl 3 (by decide) (hts _ kw_1_107) (fun _ h9 => h9) rfl d_W_refineColumn_99 ?_
        refine lv_iload hx hb d_W_refineColumn_102 (lv_at hl 2 rfl) ?_
        refine lv_dup2_11 hx hb d_W_refineColumn_104 rfl rfl ?_
        obtain ⟨h11, hF⟩ := kc_no hF
        refine va_iald hx hb hK hP 2 1 rfl rfl h11 d_W_refineColumn_105 ?_
        refine lv_iload hx hb d_W_refineColumn_106 (lv_at hl 0 rfl) ?_
        refine lv_aload_n hx hb d_W_refineColumn_108 rfl (lv_at hl 4 rfl) ?_
        refine va_get (D := (dC, dI)) (ci := 4) (v := .int pl) (C := R_W) (T := T_W) (N := 8) hx hb hts ki_W hown hK hP 0 rfl rfl 6 (by decide) (hts _ kw_1_112) (fun _ h9 => h9) rfl d_W_refineColumn_109 ?_
        refine lv_ishl hx hb d_W_refineColumn_112 ?_
        refine lv_ior hx hb d_W_refineColumn_113 ?_
        obtain ⟨h12, hF⟩ := kc_no hF
        refine va_iast hx hb hK hP hD hS 2 1 rfl rfl h12 d_W_refineColumn_114 (fun H locs hP hD hS => ?_)
        have hP : va_P (dC, dI) vwCl [(q_wk, .inr (4, [.ref q_bk, .ref q_li, .ref q_sg, .ref q_sz, .ref q_lo, .int pls, .int pl, .int raw])), (q_sg, .inl (k_sg, n_sg, .inl sgn)), (q_sz, .inl (k_sz, n_sz, .inl (upd siz_3 (f_K_cellOf str a0 v3_4).toNatClampNeg ((siz_3 (f_K_cellOf str a0 v3_4).toNatClampNeg) ||| (u10.1 <<< (pl &&& 31)))))), (q_lo, .inl (k_lo, n_lo, .inl low_3)), (q_bk, .inr (1, [.int w, .int h, .int sty, .int bd, .int str, .int cel])), (q_li, .inr (3, [.ref q_wo, .int lcn, .int u10.2.1, .int u10.2.2])), (q_wo, .inl (k_wo, n_wo, .inl wor))] H := hP
        have hD : va_D A [(q_wk, .inr (4, [.ref q_bk, .ref q_li, .ref q_sg, .ref q_sz, .ref q_lo, .int pls, .int pl, .int raw])), (q_sg, .inl (k_sg, n_sg, .inl sgn)), (q_sz, .inl (k_sz, n_sz, .inl (upd siz_3 (f_K_cellOf str a0 v3_4).toNatClampNeg ((siz_3 (f_K_cellOf str a0 v3_4).toNatClampNeg) ||| (u10.1 <<< (pl &&& 31)))))), (q_lo, .inl (k_lo, n_lo, .inl low_3)), (q_bk, .inr (1, [.int w, .int h, .int sty, .int bd, .int str, .int cel])), (q_li, .inr (3, [.ref q_wo, .int lcn, .int u10.2.1, .int u10.2.2])), (q_wo, .inl (k_wo, n_wo, .inl wor))] := hD
        refine lv_aload_n hx hb d_W_refineColumn_115 rfl (lv_at hl 4 rfl) ?_
        refine va_get (D := (dC, dI)) (ci := 4) (v := .ref q_lo) (C := R_W) (T := T_W) (N := 8) hx hb hts ki_W hown hK hP 0 rfl rfl 4 (by decide) (hts _ kw_1_109) (fun _ h9 => h9) rfl d_W_refineColumn_116 ?_
        refine lv_iload hx hb d_W_refineColumn_119 (lv_at hl 2 rfl) ?_
        refine lv_aload_n hx hb d_W_refineColumn_121 rfl (lv_at hl 4 rfl) ?_
        refine va_get (D := (dC, dI)) (ci := 4) (v := .int pl) (C := R_W) (T := T_W) (N := 8) hx hb hts ki_W hown hK hP 0 rfl rfl 6 (by decide) (hts _ kw_1_112) (fun _ h9 => h9) rfl d_W_refineColumn_122 ?_
        obtain ⟨h13, hF⟩ := kc_no hF
        refine va_iast hx hb hK hP hD hS 3 2 rfl rfl h13 d_W_refineColumn_125 (fun H locs hP hD hS => ?_)
        have hP : va_P (dC, dI) vwCl [(q_wk, .inr (4, [.ref q_bk, .ref q_li, .ref q_sg, .ref q_sz, .ref q_lo, .int pls, .int pl, .int raw])), (q_sg, .inl (k_sg, n_sg, .inl sgn)), (q_sz, .inl (k_sz, n_sz, .inl (upd siz_3 (f_K_cellOf str a0 v3_4).toNatClampNeg ((siz_3 (f_K_cellOf str a0 v3_4).toNatClampNeg) ||| (u10.1 <<< (pl &&& 31)))))), (q_lo, .inl (k_lo, n_lo, .inl (upd low_3 (f_K_cellOf str a0 v3_4).toNatClampNeg pl))), (q_bk, .inr (1, [.int w, .int h, .int sty, .int bd, .int str, .int cel])), (q_li, .inr (3, [.ref q_wo, .int lcn, .int u10.2.1, .int u10.2.2])), (q_wo, .inl (k_wo, n_wo, .inl wor))] H := hP
        have hD : va_D A [(q_wk, .inr (4, [.ref q_bk, .ref q_li, .ref q_sg, .ref q_sz, .ref q_lo, .int pls, .int pl, .int raw])), (q_sg, .inl (k_sg, n_sg, .inl sgn)), (q_sz, .inl (k_sz, n_sz, .inl (upd siz_3 (f_K_cellOf str a0 v3_4).toNatClampNeg ((siz_3 (f_K_cellOf str a0 v3_4).toNatClampNeg) ||| (u10.1 <<< (pl &&& 31)))))), (q_lo, .inl (k_lo, n_lo, .inl (upd low_3 (f_K_cellOf str a0 v3_4).toNatClampNeg pl))), (q_bk, .inr (1, [.int w, .int h, .int sty, .int bd, .int str, .int cel])), (q_li, .inr (3, [.ref q_wo, .int lcn, .int u10.2.1, .int u10.2.2])), (q_wo, .inl (k_wo, n_wo, .inl wor))] := hD
        obtain rfl := Option.some.inj hF
        exact hJu5 _ _ _ hP hD hS (lv_sub hl [2, 3, 4, 5, 6, 7] rfl)
      clear hF; have hF := hcu9; clear hcu9
      refine lv_if_eq (tgt := 57) hx hb d_W_refineColumn_49 (by decide) (fun c8 => ?_) (fun c8 => ?_)
      · have hF := kc_pos c8 hF
        refine lv_aload_n hx hb d_W_refineColumn_57 rfl (lv_at hl 2 rfl) ?_
        refine lv_iload hx hb d_W_refineColumn_58 (lv_at hl 0 rfl) ?_
        refine lv_aload_n hx hb d_W_refineColumn_60 rfl (lv_at hl 2 rfl) ?_
        refine va_get (D := (dC, dI)) (ci := 4) (v := .ref q_bk) (C := R_W) (T := T_W) (N := 8) hx hb hts ki_W hown hK hP 0 rfl rfl 0 (by decide) (hts _ kw_1_103) (fun _ h9 => h9) rfl d_W_refineColumn_61 ?_
        refine lv_iload hx hb d_W_refineColumn_64 (lv_at hl 1 rfl) ?_
        refine kr_call (va_runV (As := [.int v3_4]) (rest := [.int (f_K_cellOf str a0 v3_4), .ref q_wk]) ⟨hx, hb, hml, hown, hts⟩ (m_K_isBlindBelow l dC dI q_bk w h sty bd str cel v3_4 (f_K_isBlindBelow sty v3_4) rfl) (cwV 1 hts (kgV kw_1_237 kw_1_238 kw_1_239 kw_1_2 kw_2_0) rfl rfl rfl (by decide +kernel) ⟨Nat.le_of_ble_eq_true rfl, Nat.le_of_ble_eq_true rfl⟩) ⟨kRe_blind, va_recv hK hP (ci := 1) (q0 := 4) rfl rfl, kRe_of (hP.sub [4] rfl) (hK.sub [] rfl) hN⟩ rfl rfl hl.1 rfl (lv_room (Nat.le_of_ble_eq_true rfl)) d_W_refineColumn_66 ⟨Nat.le_of_ble_eq_true rfl, Nat.le_of_ble_eq_true rfl⟩) ?_
        obtain ⟨u14, hc, hF⟩ := kc_bnd hF
        refine kr_call (va_runV (As := [.int (f_K_cellOf str a0 v3_4), .int (f_K_isBlindBelow sty v3_4)]) (rest := []) ⟨hx, hb, hml, hown, hts⟩ (m_WL_refiningContextOf l dC dI q_wk q_sg q_sz q_lo q_bk q_li k_sg n_sg k_sz n_sz pls pl raw sgn siz_3 w h sty bd str cel (f_K_cellOf str a0 v3_4) (f_K_isBlindBelow sty v3_4) _ hc) (cwV 2 hts (kgV kw_2_71 kw_2_73 kp_8 kw_1_6 kw_2_74) rfl rfl rfl (by decide +kernel) ⟨Nat.le_of_ble_eq_true rfl, Nat.le_of_ble_eq_true rfl⟩) ⟨kRe_blind, va_recv hK hP (ci := 4) (q0 := 0) rfl rfl, kRe_of (hP.sub [0, 1, 2, 4] rfl) (hK.sub [0, 1] rfl) hN⟩ rfl rfl hl.1 rfl (lv_room (Nat.le_of_ble_eq_true rfl)) d_W_refineColumn_69 ⟨Nat.le_of_ble_eq_true rfl, Nat.le_of_ble_eq_true rfl⟩) ?_
        obtain rfl := Option.some.inj hF
        exact hJu9 _ _ _ hP hD hS (lv_sub hl [0, 1, 2, 3, 4, 5] rfl)
      have hF := kc_neg c8 hF
      refine lv_bipush (v := 19) hx hb d_W_refineColumn_52 (by decide) ?_
      refine lv_goto (tgt := 72) hx hb d_W_refineColumn_54 (by decide) ?_
      obtain rfl := Option.some.inj hF
      exact hJu9 _ _ _ hP hD hS (lv_sub hl [0, 1, 2, 3, 4, 5] rfl)
  exact hIu1 _ _ _ _ _ _ hcu1 _ _ _ hP hD hS (lv_sub hl [0, 1, 2, 3, 4] rfl)
abbrev rm_WL_cleanColumn : Room := { frames := 4, cells := 0, slots := 0, locals := 98 }
set_option maxHeartbeats 4000000 in
set_option maxRecDepth 100000 in
theorem m_WL_cleanColumn (l : Launch) (dC : Nat → ClassId) (dI : Nat → Nat → Nat) (q_wk q_sg q_sz q_lo q_bk q_li q_wo : Nat) (k_sg : ClassId) (n_sg : Nat) (k_sz : ClassId) (n_sz : Nat) (k_lo : ClassId) (n_lo : Nat) (k_wo : ClassId) (n_wo : Nat) (pls : Int32) (pl : Int32) (raw : Int32) (sgn : (Nat → Int32)) (siz : (Nat → Int32)) (low : (Nat → Int32)) (w : Int32) (h : Int32) (sty : Int32) (bd : Int32) (str : Int32) (cel : Int32) (lcn : Int32) (lak : Int32) (nxt : Int32) (wor : (Nat → Int32)) (a0 : Int32) (a1 : Int32) (a2 : Int32) (u : (Nat → Int32) × (Nat → Int32) × (Nat → Int32) × Int32 × Int32) (hF : f_WL_cleanColumn pl raw sgn siz low sty bd str lcn lak nxt wor n_sg n_sz n_lo n_wo a0 a1 a2 = some u) : ∀ sz : Nat, Met l y_W_cleanColumn (kws y_W_cleanColumn c_W_cleanColumn 8 none) rm_WL_cleanColumn (kPre (dC, dI) [.ref q_wk, .int a0, .int a1, .int a2] [(q_wk, .inr (4, [.ref q_bk, .ref q_li, .ref q_sg, .ref q_sz, .ref q_lo, .int pls, .int pl, .int raw])), (q_sg, .inl (k_sg, n_sg, .inl sgn)), (q_sz, .inl (k_sz, n_sz, .inl siz)), (q_lo, .inl (k_lo, n_lo, .inl low)), (q_bk, .inr (1, [.int w, .int h, .int sty, .int bd, .int str, .int cel])), (q_li, .inr (3, [.ref q_wo, .int lcn, .int lak, .int nxt])), (q_wo, .inl (k_wo, n_wo, .inl wor))] [(k_sg, .int), (k_sz, .int), (k_lo, .int), (k_wo, .int)] sz) (kPost (dC, dI) none [(q_wk, .inr (4, [.ref q_bk, .ref q_li, .ref q_sg, .ref q_sz, .ref q_lo, .int pls, .int pl, .int raw])), (q_sg, .inl (k_sg, n_sg, .inl u.1)), (q_sz, .inl (k_sz, n_sz, .inl u.2.1)), (q_lo, .inl (k_lo, n_lo, .inl u.2.2.1)), (q_bk, .inr (1, [.int w, .int h, .int sty, .int bd, .int str, .int cel])), (q_li, .inr (3, [.ref q_wo, .int lcn, .int u.2.2.2.1, .int u.2.2.2.2])), (q_wo, .inl (k_wo, n_wo, .inl wor))] (va_A [(q_wk, .inr (4, [.ref q_bk, .ref q_li, .ref q_sg, .ref q_sz, .ref q_lo, .int pls, .int pl, .int raw])), (q_sg, .inl (k_sg, n_sg, .inl sgn)), (q_sz, .inl (k_sz, n_sz, .inl siz)), (q_lo, .inl (k_lo, n_lo, .inl low)), (q_bk, .inr (1, [.int w, .int h, .int sty, .int bd, .int str, .int cel])), (q_li, .inr (3, [.ref q_wo, .int lcn, .int lak, .int nxt])), (q_wo, .inl (k_wo, n_wo, .inl wor))] sz)) 0 0 (va_A [(q_wk, .inr (4, [.ref q_bk, .ref q_li, .ref q_sg, .ref q_sz, .ref q_lo, .int pls, .int pl, .int raw])), (q_sg, .inl (k_sg, n_sg, .inl sgn)), (q_sz, .inl (k_sz, n_sz, .inl siz)), (q_lo, .inl (k_lo, n_lo, .inl low)), (q_bk, .inr (1, [.int w, .int h, .int sty, .int bd, .int str, .int cel])), (q_li, .inr (3, [.ref q_wo, .int lcn, .int lak, .int nxt])), (q_wo, .inl (k_wo, n_wo, .inl wor))] sz) := by
  unfold f_WL_cleanColumn at hF
  refine kU_of (cc := c_W_cleanColumn) (maxL := 8) (ret := none) (by decide) (Nat.le_of_ble_eq_true rfl) ?_
  intro p e s m args below meth c Q A hQ hfx hK hN hA H locs ls hP hD hS hl
  obtain ⟨hx, hb, hr, hml, hown, hts, hlocks⟩ := hfx
  have hown : s.vm.findClass R_W = some m.cls := hown
  have hl : lv_has ls 8 [(0, .ref q_wk), (1, .int a0), (2, .int a1), (3, .int a2)] := hl
  refine lv_aload_n hx hb d_W_cleanColumn_0 rfl (lv_at hl 0 rfl) ?_
  refine lv_iload_n hx hb d_W_cleanColumn_1 rfl (lv_at hl 1 rfl) ?_
  refine lv_iload_n hx hb d_W_cleanColumn_2 rfl (lv_at hl 2 rfl) ?_
  refine lv_iload_n hx hb d_W_cleanColumn_3 rfl (lv_at hl 3 rfl) ?_
  obtain ⟨u1, hc, hF⟩ := kc_bnd hF
  refine kr_call (va_runV (As := [.int a0, .int a1, .int a2]) (rest := []) ⟨hx, hb, hml, hown, hts⟩ (m_WL_isUntouched l dC dI q_wk q_sg q_sz q_lo q_bk q_li k_sg n_sg k_lo n_lo pls pl raw sgn low w h sty bd str cel a0 a1 a2 _ hc) (cwV 3 hts (kgV kw_2_79 kw_2_81 kp_10 kw_1_6 kw_2_82) rfl rfl rfl (by decide +kernel) ⟨Nat.le_of_ble_eq_true rfl, Nat.le_of_ble_eq_true rfl⟩) ⟨kRe_blind, va_recv hK hP (ci := 4) (q0 := 0) rfl rfl, kRe_of (hP.sub [0, 1, 3, 4] rfl) (hK.sub [0, 2] rfl) hN⟩ rfl rfl hl.1 rfl (lv_room (Nat.le_of_ble_eq_true rfl)) d_W_cleanColumn_4 ⟨Nat.le_of_ble_eq_true rfl, Nat.le_of_ble_eq_true rfl⟩) ?_
  obtain ⟨u3, hcu3, hF⟩ := kc_bnd hF
  have hJu3 : ∀ (H : Heap) (locs : List Loc) (ls : Array Slot), va_P (dC, dI) vwCl [(q_wk, .inr (4, [.ref q_bk, .ref q_li, .ref q_sg, .ref q_sz, .ref q_lo, .int pls, .int pl, .int raw])), (q_sg, .inl (k_sg, n_sg, .inl u3.2.1)), (q_sz, .inl (k_sz, n_sz, .inl u3.2.2.1)), (q_lo, .inl (k_lo, n_lo, .inl u3.2.2.2.1)), (q_bk, .inr (1, [.int w, .int h, .int sty, .int bd, .int str, .int cel])), (q_li, .inr (3, [.ref q_wo, .int lcn, .int u3.2.2.2.2.1, .int u3.2.2.2.2.2])), (q_wo, .inl (k_wo, n_wo, .inl wor))] H → va_D A [(q_wk, .inr (4, [.ref q_bk, .ref q_li, .ref q_sg, .ref q_sz, .ref q_lo, .int pls, .int pl, .int raw])), (q_sg, .inl (k_sg, n_sg, .inl u3.2.1)), (q_sz, .inl (k_sz, n_sz, .inl u3.2.2.1)), (q_lo, .inl (k_lo, n_lo, .inl u3.2.2.2.1)), (q_bk, .inr (1, [.int w, .int h, .int sty, .int bd, .int str, .int cel])), (q_li, .inr (3, [.ref q_wo, .int lcn, .int u3.2.2.2.2.1, .int u3.2.2.2.2.2])), (q_wo, .inl (k_wo, n_wo, .inl wor))] → va_S A s.heap H locs → lv_has ls 8 [(0, .ref q_wk), (1, .int a0), (2, .int a1), (3, .int a2)] → W p l e rm_WL_cleanColumn s m args below meth c H locs 0 0 Q (F0 m 22 ls [.int u3.1]) := by
    intro H locs ls hP hD hS hl
    refine lv_istore (lv' := [(4, .int u3.1), (0, .ref q_wk), (1, .int a0), (2, .int a1), (3, .int a2)]) hx hb d_W_cleanColumn_22 hl (by decide) rfl (fun ls hl => ?_)
    refine lv_iload hx hb d_W_cleanColumn_24 (lv_at hl 0 rfl) ?_
    refine lv_istore (lv' := [(5, .int u3.1), (4, .int u3.1), (0, .ref q_wk), (1, .int a0), (2, .int a1), (3, .int a2)]) hx hb d_W_cleanColumn_26 hl (by decide) rfl (fun ls hl => ?_)
    obtain ⟨u4, hcu4, hF⟩ := kc_bnd hF
    have hJu4_88 : ∀ (H : Heap) (locs : List Loc) (ls : Array Slot), va_P (dC, dI) vwCl [(q_wk, .inr (4, [.ref q_bk, .ref q_li, .ref q_sg, .ref q_sz, .ref q_lo, .int pls, .int pl, .int raw])), (q_sg, .inl (k_sg, n_sg, .inl u4.2.1)), (q_sz, .inl (k_sz, n_sz, .inl u4.2.2.1)), (q_lo, .inl (k_lo, n_lo, .inl u4.2.2.2.1)), (q_bk, .inr (1, [.int w, .int h, .int sty, .int bd, .int str, .int cel])), (q_li, .inr (3, [.ref q_wo, .int lcn, .int u4.2.2.2.2.1, .int u4.2.2.2.2.2])), (q_wo, .inl (k_wo, n_wo, .inl wor))] H → va_D A [(q_wk, .inr (4, [.ref q_bk, .ref q_li, .ref q_sg, .ref q_sz, .ref q_lo, .int pls, .int pl, .int raw])), (q_sg, .inl (k_sg, n_sg, .inl u4.2.1)), (q_sz, .inl (k_sz, n_sz, .inl u4.2.2.1)), (q_lo, .inl (k_lo, n_lo, .inl u4.2.2.2.1)), (q_bk, .inr (1, [.int w, .int h, .int sty, .int bd, .int str, .int cel])), (q_li, .inr (3, [.ref q_wo, .int lcn, .int u4.2.2.2.2.1, .int u4.2.2.2.2.2])), (q_wo, .inl (k_wo, n_wo, .inl wor))] → va_S A s.heap H locs → lv_has ls 8 [(5, .int u4.1), (4, .int u3.1), (0, .ref q_wk), (1, .int a0), (2, .int a1), (3, .int a2)] → W p l e rm_WL_cleanColumn s m args below meth c H locs 0 0 Q (F0 m 88 ls []) := by
      intro H locs ls hP hD hS hl
      obtain rfl := Option.some.inj hF
      exact ku_vret hx hb hr hlocks hQ (hP.sub [0, 1, 2, 3, 4, 5, 6] rfl) (hD.sub [0, 1, 2, 3, 4, 5, 6] (by decide) rfl) hS d_W_cleanColumn_88
    have hIu4 : ∀ (N : Nat) (v28_5 : Int32) (sgn_28 : (Nat → Int32)) (siz_28 : (Nat → Int32)) (low_28 : (Nat → Int32)) (lak_28 : Int32) (nxt_28 : Int32), f_WL_cleanColumn_L28 pl raw sty bd str lcn wor n_sg n_sz n_lo n_wo a0 a2 N v28_5 sgn_28 siz_28 low_28 lak_28 nxt_28 = some u4 → ∀ (H : Heap) (locs : List Loc) (ls : Array Slot), va_P (dC, dI) vwCl [(q_wk, .inr (4, [.ref q_bk, .ref q_li, .ref q_sg, .ref q_sz, .ref q_lo, .int pls, .int pl, .int raw])), (q_sg, .inl (k_sg, n_sg, .inl sgn_28)), (q_sz, .inl (k_sz, n_sz, .inl siz_28)), (q_lo, .inl (k_lo, n_lo, .inl low_28)), (q_bk, .inr (1, [.int w, .int h, .int sty, .int bd, .int str, .int cel])), (q_li, .inr (3, [.ref q_wo, .int lcn, .int lak_28, .int nxt_28])), (q_wo, .inl (k_wo, n_wo, .inl wor))] H → va_D A [(q_wk, .inr (4, [.ref q_bk, .ref q_li, .ref q_sg, .ref q_sz, .ref q_lo, .int pls, .int pl, .int raw])), (q_sg, .inl (k_sg, n_sg, .inl sgn_28)), (q_sz, .inl (k_sz, n_sz, .inl siz_28)), (q_lo, .inl (k_lo, n_lo, .inl low_28)), (q_bk, .inr (1, [.int w, .int h, .int sty, .int bd, .int str, .int cel])), (q_li, .inr (3, [.ref q_wo, .int lcn, .int lak_28, .int nxt_28])), (q_wo, .inl (k_wo, n_wo, .inl wor))] → va_S A s.heap H locs → lv_has ls 8 [(5, .int v28_5), (4, .int u3.1), (0, .ref q_wk), (1, .int a0), (2, .int a1), (3, .int a2)] → W p l e rm_WL_cleanColumn s m args below meth c H locs 0 0 Q (F0 m 28 ls []) := by
      intro N
      induction N with
      | zero => intro v28_5 sgn_28 siz_28 low_28 lak_28 nxt_28 hF; rw [f_WL_cleanColumn_L28] at hF; cases hF
      | succ N ih =>
        intro v28_5 sgn_28 siz_28 low_28 lak_28 nxt_28 hF
        intro H locs ls hP hD hS hl
        rw [f_WL_cleanColumn_L28] at hF
        refine lv_iload hx hb d_W_cleanColumn_28 (lv_at hl 0 rfl) ?_
        refine lv_iload_n hx hb d_W_cleanColumn_30 rfl (lv_at hl 5 rfl) ?_
        refine lv_icmp_ge (tgt := 88) hx hb d_W_cleanColumn_31 (by decide) (fun c5 => ?_) (fun c5 => ?_)
        · have hF := kc_pos c5 hF
          obtain rfl := Option.some.inj hF
          exact hJu4_88 _ _ _ hP hD hS (lv_sub hl [0, 1, 2, 3, 4, 5] rfl)
        have hF := kc_neg c5 hF
        refine lv_aload_n hx hb d_W_cleanColumn_34 rfl (lv_at hl 2 rfl) ?_
        refine va_get (D := (dC, dI)) (ci := 4) (v := .ref q_bk) (C := R_W) (T := T_W) (N := 8) hx hb hts ki_W hown hK hP 0 rfl rfl 0 (by decide) (hts _ kw_1_103) (fun _ h9 => h9) rfl d_W_cleanColumn_35 ?_
        refine lv_iload_n hx hb d_W_cleanColumn_38 rfl (lv_at hl 3 rfl) ?_
        refine lv_iload hx hb d_W_cleanColumn_39 (lv_at hl 0 rfl) ?_
        refine kr_call (va_runV (As := [.int a0, .int v28_5]) (rest := []) ⟨hx, hb, hml, hown, hts⟩ (m_K_cellOf l dC dI q_bk w h sty bd str cel a0 v28_5 (f_K_cellOf str a0 v28_5) rfl) (cwV 2 hts (kgV kw_1_236 kw_1_192 kw_1_193 kw_1_2 kw_1_194) rfl rfl rfl (by decide +kernel) ⟨Nat.le_of_ble_eq_true rfl, Nat.le_of_ble_eq_true rfl⟩) ⟨kRe_blind, va_recv hK hP (ci := 1) (q0 := 4) rfl rfl, kRe_of (hP.sub [4] rfl) (hK.sub [] rfl) hN⟩ rfl rfl hl.1 rfl (lv_room (Nat.le_of_ble_eq_true rfl)) d_W_cleanColumn_41 ⟨Nat.le_of_ble_eq_true rfl, Nat.le_of_ble_eq_true rfl⟩) ?_
        refine lv_istore (lv' := [(6, .int (f_K_cellOf str a0 v28_5)), (5, .int v28_5), (4, .int u3.1), (0, .ref q_wk), (1, .int a0), (2, .int a1), (3, .int a2)]) hx hb d_W_cleanColumn_44 hl (by decide) rfl (fun ls hl => ?_)
        refine lv_aload_n hx hb d_W_cleanColumn_46 rfl (lv_at hl 3 rfl) ?_
        refine lv_iload hx hb d_W_cleanColumn_47 (lv_at hl 0 rfl) ?_
        obtain ⟨u6, hc, hF⟩ := kc_bnd hF
        refine kr_call (va_runV (As := [.int (f_K_cellOf str a0 v28_5)]) (rest := []) ⟨hx, hb, hml, hown, hts⟩ (m_WL_isOpen l dC dI q_wk q_sg q_sz q_lo q_bk q_li k_sg n_sg k_lo n_lo pls pl raw sgn_28 low_28 (f_K_cellOf str a0 v28_5) _ hc) (cwV 1 hts (kgV kw_2_83 kw_2_85 kp_11 kw_1_6 kw_2_86) rfl rfl rfl (by decide +kernel) ⟨Nat.le_of_ble_eq_true rfl, Nat.le_of_ble_eq_true rfl⟩) ⟨kRe_blind, va_recv hK hP (ci := 4) (q0 := 0) rfl rfl, kRe_of (hP.sub [0, 1, 3] rfl) (hK.sub [0, 2] rfl) hN⟩ rfl rfl hl.1 rfl (lv_room (Nat.le_of_ble_eq_true rfl)) d_W_cleanColumn_49 ⟨Nat.le_of_ble_eq_true rfl, Nat.le_of_ble_eq_true rfl⟩) ?_
        obtain ⟨u8, hcu8, hF⟩ := kc_bnd hF
        have hJu8 : ∀ (H : Heap) (locs : List Loc) (ls : Array Slot), va_P (dC, dI) vwCl [(q_wk, .inr (4, [.ref q_bk, .ref q_li, .ref q_sg, .ref q_sz, .ref q_lo, .int pls, .int pl, .int raw])), (q_sg, .inl (k_sg, n_sg, .inl u8.1)), (q_sz, .inl (k_sz, n_sz, .inl u8.2.1)), (q_lo, .inl (k_lo, n_lo, .inl u8.2.2.1)), (q_bk, .inr (1, [.int w, .int h, .int sty, .int bd, .int str, .int cel])), (q_li, .inr (3, [.ref q_wo, .int lcn, .int u8.2.2.2.1, .int u8.2.2.2.2])), (q_wo, .inl (k_wo, n_wo, .inl wor))] H → va_D A [(q_wk, .inr (4, [.ref q_bk, .ref q_li, .ref q_sg, .ref q_sz, .ref q_lo, .int pls, .int pl, .int raw])), (q_sg, .inl (k_sg, n_sg, .inl u8.1)), (q_sz, .inl (k_sz, n_sz, .inl u8.2.1)), (q_lo, .inl (k_lo, n_lo, .inl u8.2.2.1)), (q_bk, .inr (1, [.int w, .int h, .int sty, .int bd, .int str, .int cel])), (q_li, .inr (3, [.ref q_wo, .int lcn, .int u8.2.2.2.1, .int u8.2.2.2.2])), (q_wo, .inl (k_wo, n_wo, .inl wor))] → va_S A s.heap H locs → lv_has ls 8 [(6, .int (f_K_cellOf str a0 v28_5)), (5, .int v28_5), (4, .int u3.1), (0, .ref q_wk), (1, .int a0), (2, .int a1), (3, .int a2)] → W p l e rm_WL_cleanColumn s m args below meth c H locs 0 0 Q (F0 m 82 ls []) := by
          intro H locs ls hP hD hS hl
          refine lv_iinc (v := (v28_5 + 1)) (lv' := [(5, .int (v28_5 + 1)), (6, .int (f_K_cellOf str a0 v28_5)), (4, .int u3.1), (0, .ref q_wk), (1, .int a0), (2, .int a1), (3, .int a2)]) hx hb d_W_cleanColumn_82 hl (k := 1) rfl rfl (by decide) rfl (fun ls hl => ?_)
          refine lv_goto (tgt := 28) hx hb d_W_cleanColumn_85 (by decide) ?_
          exact ih _ _ _ _ _ _ hF _ _ _ hP hD hS (lv_sub hl [0, 2, 3, 4, 5, 6] rfl)
        clear hF; have hF := hcu8; clear hcu8
        refine lv_if_eq (tgt := 82) hx hb d_W_cleanColumn_52 (by decide) (fun c7 => ?_) (fun c7 => ?_)
        · have hF := kc_pos c7 hF
          obtain rfl := Option.some.inj hF
          exact hJu8 _ _ _ hP hD hS (lv_sub hl [0, 1, 2, 3, 4, 5, 6] rfl)
        have hF := kc_neg c7 hF
        refine lv_aload_n hx hb d_W_cleanColumn_55 rfl (lv_at hl 3 rfl) ?_
        refine va_get (D := (dC, dI)) (ci := 4) (v := .ref q_bk) (C := R_W) (T := T_W) (N := 8) hx hb hts ki_W hown hK hP 0 rfl rfl 0 (by decide) (hts _ kw_1_103) (fun _ h9 => h9) rfl d_W_cleanColumn_56 ?_
        refine lv_iload hx hb d_W_cleanColumn_59 (lv_at hl 1 rfl) ?_
        refine kr_call (va_runV (As := [.int v28_5]) (rest := []) ⟨hx, hb, hml, hown, hts⟩ (m_K_isBlindBelow l dC dI q_bk w h sty bd str cel v28_5 (f_K_isBlindBelow sty v28_5) rfl) (cwV 1 hts (kgV kw_1_237 kw_1_238 kw_1_239 kw_1_2 kw_2_0) rfl rfl rfl (by decide +kernel) ⟨Nat.le_of_ble_eq_true rfl, Nat.le_of_ble_eq_true rfl⟩) ⟨kRe_blind, va_recv hK hP (ci := 1) (q0 := 4) rfl rfl, kRe_of (hP.sub [4] rfl) (hK.sub [] rfl) hN⟩ rfl rfl hl.1 rfl (lv_room (Nat.le_of_ble_eq_true rfl)) d_W_cleanColumn_61 ⟨Nat.le_of_ble_eq_true rfl, Nat.le_of_ble_eq_true rfl⟩) ?_
        refine lv_istore (lv' := [(7, .int (f_K_isBlindBelow sty v28_5)), (6, .int (f_K_cellOf str a0 v28_5)), (5, .int v28_5), (4, .int u3.1), (0, .ref q_wk), (1, .int a0), (2, .int a1), (3, .int a2)]) hx hb d_W_cleanColumn_64 hl (by decide) rfl (fun ls hl => ?_)
        refine lv_aload_n hx hb d_W_cleanColumn_66 rfl (lv_at hl 4 rfl) ?_
        refine lv_iload hx hb d_W_cleanColumn_67 (lv_at hl 1 rfl) ?_
        refine lv_iload hx hb d_W_cleanColumn_69 (lv_at hl 0 rfl) ?_
        refine lv_aload_n hx hb d_W_cleanColumn_71 rfl (lv_at hl 4 rfl) ?_
        refine lv_iload hx hb d_W_cleanColumn_72 (lv_at hl 1 rfl) ?_
        refine lv_iload hx hb d_W_cleanColumn_74 (lv_at hl 0 rfl) ?_
        obtain ⟨u9, hc, hF⟩ := kc_bnd hF
        refine kr_call (va_runV (As := [.int (f_K_cellOf str a0 v28_5), .int (f_K_isBlindBelow sty v28_5)]) (rest := [.int (f_K_isBlindBelow sty v28_5), .int (f_K_cellOf str a0 v28_5), .ref q_wk]) ⟨hx, hb, hml, hown, hts⟩ (m_WL_contextOf l dC dI q_wk q_sg q_sz q_lo q_bk q_li k_sg n_sg pls pl raw sgn_28 w h sty bd str cel (f_K_cellOf str a0 v28_5) (f_K_isBlindBelow sty v28_5) _ hc) (cwV 2 hts (kgV kw_2_2 kw_2_4 kp_2 kw_1_6 kw_2_5) rfl rfl rfl (by decide +kernel) ⟨Nat.le_of_ble_eq_true rfl, Nat.le_of_ble_eq_true rfl⟩) ⟨kRe_blind, va_recv hK hP (ci := 4) (q0 := 0) rfl rfl, kRe_of (hP.sub [0, 1, 4] rfl) (hK.sub [0] rfl) hN⟩ rfl rfl hl.1 rfl (lv_room (Nat.le_of_ble_eq_true rfl)) d_W_cleanColumn_76 ⟨Nat.le_of_ble_eq_true rfl, Nat.le_of_ble_eq_true rfl⟩) ?_
        obtain ⟨u10, hc, hF⟩ := kc_bnd hF
        refine ku_call (wr := []) hA (va_runV (As := [.int (f_K_cellOf str a0 v28_5), .int (f_K_isBlindBelow sty v28_5), .int u9]) (rest := []) ⟨hx, hb, hml, hown, hts⟩ (m_WL_exchangeSize l dC dI q_wk q_sg q_sz q_lo q_bk q_li q_wo k_sg n_sg k_sz n_sz k_lo n_lo k_wo n_wo pls pl raw sgn_28 siz_28 low_28 w h sty bd str cel lcn lak_28 nxt_28 wor (f_K_cellOf str a0 v28_5) (f_K_isBlindBelow sty v28_5) u9 _ hc H.size) (cwV 3 hts (kgV kw_2_19 kw_2_21 kp_4 kw_1_6 kw_2_22) rfl rfl rfl (by decide +kernel) ⟨Nat.le_of_ble_eq_true rfl, Nat.le_of_ble_eq_true rfl⟩) ⟨kPre_blind, va_recv hK hP (ci := 4) (q0 := 0) rfl rfl, kPre_of (hP.sub [0, 1, 2, 3, 4, 5, 6] rfl) (hK.sub [0, 1, 2, 3] rfl) (hD.sub [0, 1, 2, 3, 4, 5, 6] (by decide) rfl) hN⟩ rfl rfl hl.1 rfl (lv_room (Nat.le_of_ble_eq_true rfl)) d_W_cleanColumn_79 ⟨Nat.le_of_ble_eq_true rfl, Nat.le_of_ble_eq_true rfl⟩) hP hD hS [0, 1, 2, 3, 4, 5, 6] [] rfl rfl (by decide) (by decide) (fun H locs hP hD hS => ?_)
        have hP : va_P (dC, dI) vwCl [(q_wk, .inr (4, [.ref q_bk, .ref q_li, .ref q_sg, .ref q_sz, .ref q_lo, .int pls, .int pl, .int raw])), (q_sg, .inl (k_sg, n_sg, .inl u10.1)), (q_sz, .inl (k_sz, n_sz, .inl u10.2.1)), (q_lo, .inl (k_lo, n_lo, .inl u10.2.2.1)), (q_bk, .inr (1, [.int w, .int h, .int sty, .int bd, .int str, .int cel])), (q_li, .inr (3, [.ref q_wo, .int lcn, .int u10.2.2.2.1, .int u10.2.2.2.2])), (q_wo, .inl (k_wo, n_wo, .inl wor))] H := hP
        have hD : va_D A [(q_wk, .inr (4, [.ref q_bk, .ref q_li, .ref q_sg, .ref q_sz, .ref q_lo, .int pls, .int pl, .int raw])), (q_sg, .inl (k_sg, n_sg, .inl u10.1)), (q_sz, .inl (k_sz, n_sz, .inl u10.2.1)), (q_lo, .inl (k_lo, n_lo, .inl u10.2.2.1)), (q_bk, .inr (1, [.int w, .int h, .int sty, .int bd, .int str, .int cel])), (q_li, .inr (3, [.ref q_wo, .int lcn, .int u10.2.2.2.1, .int u10.2.2.2.2])), (q_wo, .inl (k_wo, n_wo, .inl wor))] := hD
        obtain rfl := Option.some.inj hF
        exact hJu8 _ _ _ hP hD hS (lv_sub hl [1, 2, 3, 4, 5, 6, 7] rfl)
    exact hIu4 _ _ _ _ _ _ _ hcu4 _ _ _ hP hD hS (lv_sub hl [0, 1, 2, 3, 4, 5] rfl)
  clear hF; have hF := hcu3; clear hcu3
  refine lv_if_eq (tgt := 21) hx hb d_W_cleanColumn_7 (by decide) (fun c2 => ?_) (fun c2 => ?_)
  · have hF := kc_pos c2 hF
    refine lv_iload_n hx hb d_W_cleanColumn_21 rfl (lv_at hl 2 rfl) ?_
    obtain rfl := Option.some.inj hF
    exact hJu3 _ _ _ hP hD hS (lv_sub hl [0, 1, 2, 3] rfl)
  have hF := kc_neg c2 hF
  refine lv_iload_n hx hb d_W_cleanColumn_10 rfl (lv_at hl 2 rfl) ?_
  refine lv_aload_n hx hb d_W_cleanColumn_11 rfl (lv_at hl 0 rfl) ?_
  refine lv_iload_n hx hb d_W_cleanColumn_12 rfl (lv_at hl 1 rfl) ?_
  refine lv_iload_n hx hb d_W_cleanColumn_13 rfl (lv_at hl 2 rfl) ?_
  obtain ⟨u11, hc, hF⟩ := kc_bnd hF
  refine ku_call (wr := []) hA (va_runV (As := [.int a0, .int a1]) (rest := [.int a1]) ⟨hx, hb, hml, hown, hts⟩ (m_WL_exchangeRun l dC dI q_wk q_sg q_sz q_lo q_bk q_li q_wo k_sg n_sg k_sz n_sz k_lo n_lo k_wo n_wo pls pl raw sgn siz low w h sty bd str cel lcn lak nxt wor a0 a1 _ hc H.size) (cwV 2 hts (kgV kw_2_87 kw_2_89 kp_12 kw_1_6 kw_2_90) rfl rfl rfl (by decide +kernel) ⟨Nat.le_of_ble_eq_true rfl, Nat.le_of_ble_eq_true rfl⟩) ⟨kPre_blind, va_recv hK hP (ci := 4) (q0 := 0) rfl rfl, kPre_of (hP.sub [0, 1, 2, 3, 4, 5, 6] rfl) (hK.sub [0, 1, 2, 3] rfl) (hD.sub [0, 1, 2, 3, 4, 5, 6] (by decide) rfl) hN⟩ rfl rfl hl.1 rfl (lv_room (Nat.le_of_ble_eq_true rfl)) d_W_cleanColumn_14 ⟨Nat.le_of_ble_eq_true rfl, Nat.le_of_ble_eq_true rfl⟩) hP hD hS [0, 1, 2, 3, 4, 5, 6] [] rfl rfl (by decide) (by decide) (fun H locs hP hD hS => ?_)
  have hP : va_P (dC, dI) vwCl [(q_wk, .inr (4, [.ref q_bk, .ref q_li, .ref q_sg, .ref q_sz, .ref q_lo, .int pls, .int pl, .int raw])), (q_sg, .inl (k_sg, n_sg, .inl u11.2.1)), (q_sz, .inl (k_sz, n_sz, .inl u11.2.2.1)), (q_lo, .inl (k_lo, n_lo, .inl u11.2.2.2.1)), (q_bk, .inr (1, [.int w, .int h, .int sty, .int bd, .int str, .int cel])), (q_li, .inr (3, [.ref q_wo, .int lcn, .int u11.2.2.2.2.1, .int u11.2.2.2.2.2])), (q_wo, .inl (k_wo, n_wo, .inl wor))] H := hP
  have hD : va_D A [(q_wk, .inr (4, [.ref q_bk, .ref q_li, .ref q_sg, .ref q_sz, .ref q_lo, .int pls, .int pl, .int raw])), (q_sg, .inl (k_sg, n_sg, .inl u11.2.1)), (q_sz, .inl (k_sz, n_sz, .inl u11.2.2.1)), (q_lo, .inl (k_lo, n_lo, .inl u11.2.2.2.1)), (q_bk, .inr (1, [.int w, .int h, .int sty, .int bd, .int str, .int cel])), (q_li, .inr (3, [.ref q_wo, .int lcn, .int u11.2.2.2.2.1, .int u11.2.2.2.2.2])), (q_wo, .inl (k_wo, n_wo, .inl wor))] := hD
  refine lv_iadd hx hb d_W_cleanColumn_17 ?_
  refine lv_goto (tgt := 22) hx hb d_W_cleanColumn_18 (by decide) ?_
  obtain rfl := Option.some.inj hF
  exact hJu3 _ _ _ hP hD hS (lv_sub hl [0, 1, 2, 3] rfl)
abbrev rm_WL_begin : Room := { frames := 1, cells := 0, slots := 0, locals := 22 }
set_option maxHeartbeats 4000000 in
set_option maxRecDepth 100000 in
theorem m_WL_begin (l : Launch) (dC : Nat → ClassId) (dI : Nat → Nat → Nat) (q_wk q_sg q_sz q_lo q_bk q_li : Nat) (k_sg : ClassId) (n_sg : Nat) (k_sz : ClassId) (n_sz : Nat) (k_lo : ClassId) (n_lo : Nat) (pls : Int32) (pl : Int32) (raw : Int32) (sgn : (Nat → Int32)) (siz : (Nat → Int32)) (low : (Nat → Int32)) (a0 : Int32) (u : Int32 × (Nat → Int32) × (Nat → Int32) × (Nat → Int32)) (hF : f_WL_begin sgn siz low n_sg n_sz n_lo a0 = some u) : ∀ sz : Nat, Met l y_W_begin (kws y_W_begin c_W_begin 2 none) rm_WL_begin (kPre (dC, dI) [.ref q_wk, .int a0] [(q_wk, .inr (4, [.ref q_bk, .ref q_li, .ref q_sg, .ref q_sz, .ref q_lo, .int pls, .int pl, .int raw])), (q_sg, .inl (k_sg, n_sg, .inl sgn)), (q_sz, .inl (k_sz, n_sz, .inl siz)), (q_lo, .inl (k_lo, n_lo, .inl low))] [(k_sg, .int), (k_sz, .int), (k_lo, .int)] sz) (kPost (dC, dI) none [(q_wk, .inr (4, [.ref q_bk, .ref q_li, .ref q_sg, .ref q_sz, .ref q_lo, .int u.1, .int pl, .int raw])), (q_sg, .inl (k_sg, n_sg, .inl u.2.1)), (q_sz, .inl (k_sz, n_sz, .inl u.2.2.1)), (q_lo, .inl (k_lo, n_lo, .inl u.2.2.2))] (va_A [(q_wk, .inr (4, [.ref q_bk, .ref q_li, .ref q_sg, .ref q_sz, .ref q_lo, .int pls, .int pl, .int raw])), (q_sg, .inl (k_sg, n_sg, .inl sgn)), (q_sz, .inl (k_sz, n_sz, .inl siz)), (q_lo, .inl (k_lo, n_lo, .inl low))] sz)) 0 0 (va_A [(q_wk, .inr (4, [.ref q_bk, .ref q_li, .ref q_sg, .ref q_sz, .ref q_lo, .int pls, .int pl, .int raw])), (q_sg, .inl (k_sg, n_sg, .inl sgn)), (q_sz, .inl (k_sz, n_sz, .inl siz)), (q_lo, .inl (k_lo, n_lo, .inl low))] sz) := by
  unfold f_WL_begin at hF
  refine kU_of (cc := c_W_begin) (maxL := 2) (ret := none) (by decide) (Nat.le_of_ble_eq_true rfl) ?_
  intro p e s m args below meth c Q A hQ hfx hK hN hA H locs ls hP hD hS hl
  obtain ⟨hx, hb, hr, hml, hown, hts, hlocks⟩ := hfx
  have hown : s.vm.findClass R_W = some m.cls := hown
  have hl : lv_has ls 2 [(0, .ref q_wk), (1, .int a0)] := hl
  refine lv_aload_n hx hb d_W_begin_0 rfl (lv_at hl 0 rfl) ?_
  refine lv_iload_n hx hb d_W_begin_1 rfl (lv_at hl 1 rfl) ?_
  refine va_put (D := (dC, dI)) (ci := 4) (v := .int a0) (ty := .int) (C := R_W) (T := T_W) (N := 8) hx hb hts ki_W ty_W tyok_W nmok_W hown hK hP hD hS 0 rfl rfl 5 (by decide) (hts _ kw_1_111) (fun _ h9 => h9) rfl (by decide +kernel) rfl rfl (Nat.le_of_ble_eq_true rfl) d_W_begin_2 (fun H locs hP hD hS => ?_)
  have hP : va_P (dC, dI) vwCl [(q_wk, .inr (4, [.ref q_bk, .ref q_li, .ref q_sg, .ref q_sz, .ref q_lo, .int a0, .int pl, .int raw])), (q_sg, .inl (k_sg, n_sg, .inl sgn)), (q_sz, .inl (k_sz, n_sz, .inl siz)), (q_lo, .inl (k_lo, n_lo, .inl low))] H := hP
  have hD : va_D A [(q_wk, .inr (4, [.ref q_bk, .ref q_li, .ref q_sg, .ref q_sz, .ref q_lo, .int a0, .int pl, .int raw])), (q_sg, .inl (k_sg, n_sg, .inl sgn)), (q_sz, .inl (k_sz, n_sz, .inl siz)), (q_lo, .inl (k_lo, n_lo, .inl low))] := hD
  refine lv_aload_n hx hb d_W_begin_5 rfl (lv_at hl 0 rfl) ?_
  refine va_get (D := (dC, dI)) (ci := 4) (v := .ref q_sg) (C := R_W) (T := T_W) (N := 8) hx hb hts ki_W hown hK hP 0 rfl rfl 2 (by decide) (hts _ kw_1_105) (fun _ h9 => h9) rfl d_W_begin_6 ?_
  refine lv_iconst (v := 0) hx hb d_W_begin_9 (by decide) ?_
  obtain ⟨u1, hc, hF⟩ := kc_bnd hF
  refine ku_call (wr := [(q_wk, .inr (4, [.ref q_bk, .ref q_li, .ref q_sg, .ref q_sz, .ref q_lo, .int a0, .int pl, .int raw])), (q_sz, .inl (k_sz, n_sz, .inl siz)), (q_lo, .inl (k_lo, n_lo, .inl low))]) hA (va_runSN (As := [.ref q_sg, .int (0 : Int32)]) (rest := []) ⟨hx, hb, hml, hown, hts⟩ (m_FI_fillWith l dC dI q_sg k_sg n_sg sgn (0 : Int32) _ hc H.size) ⟨va_cnB (host := "BitPlanes") 2 hts (kgN kw_1_219) rfl rfl rfl (kn_3 hN) (hts _ kw_1_1) (by decide +kernel) ⟨Nat.le_of_ble_eq_true rfl, Nat.le_of_ble_eq_true rfl⟩, (hts _ kw_1_218), trivial⟩ ⟨kPre_blind, kPre_of (hP.sub [1] rfl) (hK.sub [0] rfl) (hD.sub [1] (by decide) rfl) hN⟩ rfl rfl hl.1 rfl (lv_room (Nat.le_of_ble_eq_true rfl)) d_W_begin_10 ⟨Nat.le_of_ble_eq_true rfl, Nat.le_of_ble_eq_true rfl⟩) hP hD hS [1] [0, 2, 3] rfl rfl (by decide) (by decide) (fun H locs hP hD hS => ?_)
  have hP : va_P (dC, dI) vwCl [(q_wk, .inr (4, [.ref q_bk, .ref q_li, .ref q_sg, .ref q_sz, .ref q_lo, .int a0, .int pl, .int raw])), (q_sz, .inl (k_sz, n_sz, .inl siz)), (q_lo, .inl (k_lo, n_lo, .inl low)), (q_sg, .inl (k_sg, n_sg, .inl u1))] H := hP
  have hD : va_D A [(q_wk, .inr (4, [.ref q_bk, .ref q_li, .ref q_sg, .ref q_sz, .ref q_lo, .int a0, .int pl, .int raw])), (q_sz, .inl (k_sz, n_sz, .inl siz)), (q_lo, .inl (k_lo, n_lo, .inl low)), (q_sg, .inl (k_sg, n_sg, .inl u1))] := hD
  refine lv_aload_n hx hb d_W_begin_13 rfl (lv_at hl 0 rfl) ?_
  refine va_get (D := (dC, dI)) (ci := 4) (v := .ref q_sz) (C := R_W) (T := T_W) (N := 8) hx hb hts ki_W hown hK hP 0 rfl rfl 3 (by decide) (hts _ kw_1_107) (fun _ h9 => h9) rfl d_W_begin_14 ?_
  refine lv_iconst (v := 0) hx hb d_W_begin_17 (by decide) ?_
  obtain ⟨u2, hc, hF⟩ := kc_bnd hF
  refine ku_call (wr := [(q_wk, .inr (4, [.ref q_bk, .ref q_li, .ref q_sg, .ref q_sz, .ref q_lo, .int a0, .int pl, .int raw])), (q_lo, .inl (k_lo, n_lo, .inl low)), (q_sg, .inl (k_sg, n_sg, .inl u1))]) hA (va_runSN (As := [.ref q_sz, .int (0 : Int32)]) (rest := []) ⟨hx, hb, hml, hown, hts⟩ (m_FI_fillWith l dC dI q_sz k_sz n_sz siz (0 : Int32) _ hc H.size) ⟨va_cnB (host := "BitPlanes") 2 hts (kgN kw_1_219) rfl rfl rfl (kn_3 hN) (hts _ kw_1_1) (by decide +kernel) ⟨Nat.le_of_ble_eq_true rfl, Nat.le_of_ble_eq_true rfl⟩, (hts _ kw_1_218), trivial⟩ ⟨kPre_blind, kPre_of (hP.sub [1] rfl) (hK.sub [1] rfl) (hD.sub [1] (by decide) rfl) hN⟩ rfl rfl hl.1 rfl (lv_room (Nat.le_of_ble_eq_true rfl)) d_W_begin_18 ⟨Nat.le_of_ble_eq_true rfl, Nat.le_of_ble_eq_true rfl⟩) hP hD hS [1] [0, 2, 3] rfl rfl (by decide) (by decide) (fun H locs hP hD hS => ?_)
  have hP : va_P (dC, dI) vwCl [(q_wk, .inr (4, [.ref q_bk, .ref q_li, .ref q_sg, .ref q_sz, .ref q_lo, .int a0, .int pl, .int raw])), (q_lo, .inl (k_lo, n_lo, .inl low)), (q_sg, .inl (k_sg, n_sg, .inl u1)), (q_sz, .inl (k_sz, n_sz, .inl u2))] H := hP
  have hD : va_D A [(q_wk, .inr (4, [.ref q_bk, .ref q_li, .ref q_sg, .ref q_sz, .ref q_lo, .int a0, .int pl, .int raw])), (q_lo, .inl (k_lo, n_lo, .inl low)), (q_sg, .inl (k_sg, n_sg, .inl u1)), (q_sz, .inl (k_sz, n_sz, .inl u2))] := hD
  refine lv_aload_n hx hb d_W_begin_21 rfl (lv_at hl 0 rfl) ?_
  refine va_get (D := (dC, dI)) (ci := 4) (v := .ref q_lo) (C := R_W) (T := T_W) (N := 8) hx hb hts ki_W hown hK hP 0 rfl rfl 4 (by decide) (hts _ kw_1_109) (fun _ h9 => h9) rfl d_W_begin_22 ?_
  refine lv_iload_n hx hb d_W_begin_25 rfl (lv_at hl 1 rfl) ?_
  obtain ⟨u3, hc, hF⟩ := kc_bnd hF
  refine ku_call (wr := [(q_wk, .inr (4, [.ref q_bk, .ref q_li, .ref q_sg, .ref q_sz, .ref q_lo, .int a0, .int pl, .int raw])), (q_sg, .inl (k_sg, n_sg, .inl u1)), (q_sz, .inl (k_sz, n_sz, .inl u2))]) hA (va_runSN (As := [.ref q_lo, .int a0]) (rest := []) ⟨hx, hb, hml, hown, hts⟩ (m_FI_fillWith l dC dI q_lo k_lo n_lo low a0 _ hc H.size) ⟨va_cnB (host := "BitPlanes") 2 hts (kgN kw_1_219) rfl rfl rfl (kn_3 hN) (hts _ kw_1_1) (by decide +kernel) ⟨Nat.le_of_ble_eq_true rfl, Nat.le_of_ble_eq_true rfl⟩, (hts _ kw_1_218), trivial⟩ ⟨kPre_blind, kPre_of (hP.sub [1] rfl) (hK.sub [2] rfl) (hD.sub [1] (by decide) rfl) hN⟩ rfl rfl hl.1 rfl (lv_room (Nat.le_of_ble_eq_true rfl)) d_W_begin_26 ⟨Nat.le_of_ble_eq_true rfl, Nat.le_of_ble_eq_true rfl⟩) hP hD hS [1] [0, 2, 3] rfl rfl (by decide) (by decide) (fun H locs hP hD hS => ?_)
  have hP : va_P (dC, dI) vwCl [(q_wk, .inr (4, [.ref q_bk, .ref q_li, .ref q_sg, .ref q_sz, .ref q_lo, .int a0, .int pl, .int raw])), (q_sg, .inl (k_sg, n_sg, .inl u1)), (q_sz, .inl (k_sz, n_sz, .inl u2)), (q_lo, .inl (k_lo, n_lo, .inl u3))] H := hP
  have hD : va_D A [(q_wk, .inr (4, [.ref q_bk, .ref q_li, .ref q_sg, .ref q_sz, .ref q_lo, .int a0, .int pl, .int raw])), (q_sg, .inl (k_sg, n_sg, .inl u1)), (q_sz, .inl (k_sz, n_sz, .inl u2)), (q_lo, .inl (k_lo, n_lo, .inl u3))] := hD
  obtain rfl := Option.some.inj hF
  exact ku_vret hx hb hr hlocks hQ (hP.sub [0, 1, 2, 3] rfl) (hD.sub [0, 1, 2, 3] (by decide) rfl) hS d_W_begin_29
abbrev rm_WL_goThrough : Room := { frames := 5, cells := 0, slots := 0, locals := 125 }
set_option maxHeartbeats 4000000 in
set_option maxRecDepth 100000 in
theorem m_WL_goThrough (l : Launch) (dC : Nat → ClassId) (dI : Nat → Nat → Nat) (q_wk q_sg q_sz q_lo q_bk q_li q_wo : Nat) (k_sg : ClassId) (n_sg : Nat) (k_sz : ClassId) (n_sz : Nat) (k_lo : ClassId) (n_lo : Nat) (k_wo : ClassId) (n_wo : Nat) (pls : Int32) (pl : Int32) (raw : Int32) (sgn : (Nat → Int32)) (siz : (Nat → Int32)) (low : (Nat → Int32)) (w : Int32) (h : Int32) (sty : Int32) (bd : Int32) (str : Int32) (cel : Int32) (lcn : Int32) (lak : Int32) (nxt : Int32) (wor : (Nat → Int32)) (a0 : Int32) (u : Int32 × Int32 × Int32 × (Nat → Int32) × (Nat → Int32) × (Nat → Int32) × Int32 × Int32) (hF : f_WL_goThrough pls sgn siz low w h sty bd str lcn lak nxt wor n_sg n_sz n_lo n_wo a0 = some u) : ∀ sz : Nat, Met l y_W_goThrough (kws y_W_goThrough c_W_goThrough 6 (some .boolean)) rm_WL_goThrough (kPre (dC, dI) [.ref q_wk, .int a0] [(q_wk, .inr (4, [.ref q_bk, .ref q_li, .ref q_sg, .ref q_sz, .ref q_lo, .int pls, .int pl, .int raw])), (q_sg, .inl (k_sg, n_sg, .inl sgn)), (q_sz, .inl (k_sz, n_sz, .inl siz)), (q_lo, .inl (k_lo, n_lo, .inl low)), (q_bk, .inr (1, [.int w, .int h, .int sty, .int bd, .int str, .int cel])), (q_li, .inr (3, [.ref q_wo, .int lcn, .int lak, .int nxt])), (q_wo, .inl (k_wo, n_wo, .inl wor))] [(k_sg, .int), (k_sz, .int), (k_lo, .int), (k_wo, .int)] sz) (kPost (dC, dI) (some (.int u.1)) [(q_wk, .inr (4, [.ref q_bk, .ref q_li, .ref q_sg, .ref q_sz, .ref q_lo, .int pls, .int u.2.1, .int u.2.2.1])), (q_sg, .inl (k_sg, n_sg, .inl u.2.2.2.1)), (q_sz, .inl (k_sz, n_sz, .inl u.2.2.2.2.1)), (q_lo, .inl (k_lo, n_lo, .inl u.2.2.2.2.2.1)), (q_bk, .inr (1, [.int w, .int h, .int sty, .int bd, .int str, .int cel])), (q_li, .inr (3, [.ref q_wo, .int lcn, .int u.2.2.2.2.2.2.1, .int u.2.2.2.2.2.2.2])), (q_wo, .inl (k_wo, n_wo, .inl wor))] (va_A [(q_wk, .inr (4, [.ref q_bk, .ref q_li, .ref q_sg, .ref q_sz, .ref q_lo, .int pls, .int pl, .int raw])), (q_sg, .inl (k_sg, n_sg, .inl sgn)), (q_sz, .inl (k_sz, n_sz, .inl siz)), (q_lo, .inl (k_lo, n_lo, .inl low)), (q_bk, .inr (1, [.int w, .int h, .int sty, .int bd, .int str, .int cel])), (q_li, .inr (3, [.ref q_wo, .int lcn, .int lak, .int nxt])), (q_wo, .inl (k_wo, n_wo, .inl wor))] sz)) 0 0 (va_A [(q_wk, .inr (4, [.ref q_bk, .ref q_li, .ref q_sg, .ref q_sz, .ref q_lo, .int pls, .int pl, .int raw])), (q_sg, .inl (k_sg, n_sg, .inl sgn)), (q_sz, .inl (k_sz, n_sz, .inl siz)), (q_lo, .inl (k_lo, n_lo, .inl low)), (q_bk, .inr (1, [.int w, .int h, .int sty, .int bd, .int str, .int cel])), (q_li, .inr (3, [.ref q_wo, .int lcn, .int lak, .int nxt])), (q_wo, .inl (k_wo, n_wo, .inl wor))] sz) := by
  unfold f_WL_goThrough at hF
  refine kU_of (cc := c_W_goThrough) (maxL := 6) (ret := (some .boolean)) (by decide) (Nat.le_of_ble_eq_true rfl) ?_
  intro p e s m args below meth c Q A hQ hfx hK hN hA H locs ls hP hD hS hl
  obtain ⟨hx, hb, hr, hml, hown, hts, hlocks⟩ := hfx
  have hown : s.vm.findClass R_W = some m.cls := hown
  have hl : lv_has ls 6 [(0, .ref q_wk), (1, .int a0)] := hl
  refine lv_iload_n hx hb d_W_goThrough_0 rfl (lv_at hl 1 rfl) ?_
  refine kr_call (va_runSN (As := [.int a0]) (rest := []) ⟨hx, hb, hml, hown, hts⟩ (m_ST_kindOf l dC dI a0 (f_ST_kindOf a0) rfl) ⟨va_cnB (host := "BitPlanes") 1 hts (kgN kw_1_226) rfl rfl rfl (kn_4 hN) (hts _ kw_1_1) (by decide +kernel) ⟨Nat.le_of_ble_eq_true rfl, Nat.le_of_ble_eq_true rfl⟩, (hts _ kw_1_225), trivial⟩ ⟨kRe_blind, kRe_of (hP.sub [] rfl) (hK.sub [] rfl) hN⟩ rfl rfl hl.1 rfl (lv_room (Nat.le_of_ble_eq_true rfl)) d_W_goThrough_1 ⟨Nat.le_of_ble_eq_true rfl, Nat.le_of_ble_eq_true rfl⟩) ?_
  refine lv_istore_n (lv' := [(2, .int (f_ST_kindOf a0)), (0, .ref q_wk), (1, .int a0)]) hx hb d_W_goThrough_4 rfl hl (by decide) rfl (fun ls hl => ?_)
  refine lv_aload_n hx hb d_W_goThrough_5 rfl (lv_at hl 1 rfl) ?_
  refine lv_aload_n hx hb d_W_goThrough_6 rfl (lv_at hl 1 rfl) ?_
  refine va_get (D := (dC, dI)) (ci := 4) (v := .int pls) (C := R_W) (T := T_W) (N := 8) hx hb hts ki_W hown hK hP 0 rfl rfl 5 (by decide) (hts _ kw_1_111) (fun _ h9 => h9) rfl d_W_goThrough_7 ?_
  refine lv_iconst (v := 1) hx hb d_W_goThrough_10 (by decide) ?_
  refine lv_isub hx hb d_W_goThrough_11 ?_
  refine lv_iload_n hx hb d_W_goThrough_12 rfl (lv_at hl 2 rfl) ?_
  refine lv_iconst (v := 2) hx hb d_W_goThrough_13 (by decide) ?_
  refine lv_iadd hx hb d_W_goThrough_14 ?_
  refine lv_iconst (v := 3) hx hb d_W_goThrough_15 (by decide) ?_
  refine lv_idiv hx hb d_W_goThrough_16 (by decide) ?_
  refine lv_isub hx hb d_W_goThrough_17 ?_
  refine va_put (D := (dC, dI)) (ci := 4) (v := .int ((pls - (1 : Int32)) - ((a0 + (2 : Int32)) / (3 : Int32)))) (ty := .int) (C := R_W) (T := T_W) (N := 8) hx hb hts ki_W ty_W tyok_W nmok_W hown hK hP hD hS 0 rfl rfl 6 (by decide) (hts _ kw_1_112) (fun _ h9 => h9) rfl (by decide +kernel) rfl rfl (Nat.le_of_ble_eq_true rfl) d_W_goThrough_18 (fun H locs hP hD hS => ?_)
  have hP : va_P (dC, dI) vwCl [(q_wk, .inr (4, [.ref q_bk, .ref q_li, .ref q_sg, .ref q_sz, .ref q_lo, .int pls, .int ((pls - (1 : Int32)) - ((a0 + (2 : Int32)) / (3 : Int32))), .int raw])), (q_sg, .inl (k_sg, n_sg, .inl sgn)), (q_sz, .inl (k_sz, n_sz, .inl siz)), (q_lo, .inl (k_lo, n_lo, .inl low)), (q_bk, .inr (1, [.int w, .int h, .int sty, .int bd, .int str, .int cel])), (q_li, .inr (3, [.ref q_wo, .int lcn, .int lak, .int nxt])), (q_wo, .inl (k_wo, n_wo, .inl wor))] H := hP
  have hD : va_D A [(q_wk, .inr (4, [.ref q_bk, .ref q_li, .ref q_sg, .ref q_sz, .ref q_lo, .int pls, .int ((pls - (1 : Int32)) - ((a0 + (2 : Int32)) / (3 : Int32))), .int raw])), (q_sg, .inl (k_sg, n_sg, .inl sgn)), (q_sz, .inl (k_sz, n_sz, .inl siz)), (q_lo, .inl (k_lo, n_lo, .inl low)), (q_bk, .inr (1, [.int w, .int h, .int sty, .int bd, .int str, .int cel])), (q_li, .inr (3, [.ref q_wo, .int lcn, .int lak, .int nxt])), (q_wo, .inl (k_wo, n_wo, .inl wor))] := hD
  refine lv_aload_n hx hb d_W_goThrough_21 rfl (lv_at hl 1 rfl) ?_
  refine lv_aload_n hx hb d_W_goThrough_22 rfl (lv_at hl 1 rfl) ?_
  refine va_get (D := (dC, dI)) (ci := 4) (v := .ref q_bk) (C := R_W) (T := T_W) (N := 8) hx hb hts ki_W hown hK hP 0 rfl rfl 0 (by decide) (hts _ kw_1_103) (fun _ h9 => h9) rfl d_W_goThrough_23 ?_
  refine lv_iconst (v := 1) hx hb d_W_goThrough_26 (by decide) ?_
  refine kr_call (va_runV (As := [.int (1 : Int32)]) (rest := [.ref q_wk]) ⟨hx, hb, hml, hown, hts⟩ (m_K_hasStyle l dC dI q_bk w h sty bd str cel (1 : Int32) (f_K_hasStyle sty (1 : Int32)) rfl) (cwV 1 hts (kgV kw_1_227 kw_1_228 kw_1_229 kw_1_2 kw_1_230) rfl rfl rfl (by decide +kernel) ⟨Nat.le_of_ble_eq_true rfl, Nat.le_of_ble_eq_true rfl⟩) ⟨kRe_blind, va_recv hK hP (ci := 1) (q0 := 4) rfl rfl, kRe_of (hP.sub [4] rfl) (hK.sub [] rfl) hN⟩ rfl rfl hl.1 rfl (lv_room (Nat.le_of_ble_eq_true rfl)) d_W_goThrough_27 ⟨Nat.le_of_ble_eq_true rfl, Nat.le_of_ble_eq_true rfl⟩) ?_
  obtain ⟨u2, hcu2, hF⟩ := kc_bnd hF
  have hJu2 : ∀ (H : Heap) (locs : List Loc) (ls : Array Slot), va_P (dC, dI) vwCl [(q_wk, .inr (4, [.ref q_bk, .ref q_li, .ref q_sg, .ref q_sz, .ref q_lo, .int pls, .int ((pls - (1 : Int32)) - ((a0 + (2 : Int32)) / (3 : Int32))), .int raw])), (q_sg, .inl (k_sg, n_sg, .inl sgn)), (q_sz, .inl (k_sz, n_sz, .inl siz)), (q_lo, .inl (k_lo, n_lo, .inl low)), (q_bk, .inr (1, [.int w, .int h, .int sty, .int bd, .int str, .int cel])), (q_li, .inr (3, [.ref q_wo, .int lcn, .int lak, .int nxt])), (q_wo, .inl (k_wo, n_wo, .inl wor))] H → va_D A [(q_wk, .inr (4, [.ref q_bk, .ref q_li, .ref q_sg, .ref q_sz, .ref q_lo, .int pls, .int ((pls - (1 : Int32)) - ((a0 + (2 : Int32)) / (3 : Int32))), .int raw])), (q_sg, .inl (k_sg, n_sg, .inl sgn)), (q_sz, .inl (k_sz, n_sz, .inl siz)), (q_lo, .inl (k_lo, n_lo, .inl low)), (q_bk, .inr (1, [.int w, .int h, .int sty, .int bd, .int str, .int cel])), (q_li, .inr (3, [.ref q_wo, .int lcn, .int lak, .int nxt])), (q_wo, .inl (k_wo, n_wo, .inl wor))] → va_S A s.heap H locs → lv_has ls 6 [(2, .int (f_ST_kindOf a0)), (0, .ref q_wk), (1, .int a0)] → W p l e rm_WL_goThrough s m args below meth c H locs 0 0 Q (F0 m 49 ls [.int u2, .ref q_wk]) := by
    intro H locs ls hP hD hS hl
    obtain ⟨h3, hF⟩ := kc_no hF
    refine va_put (D := (dC, dI)) (ci := 4) (v := .int u2) (ty := .boolean) (C := R_W) (T := T_W) (N := 8) hx hb hts ki_W ty_W tyok_W nmok_W hown hK hP hD hS 0 rfl rfl 7 (by decide) (hts _ kw_1_113) (fun _ h9 => h9) rfl (by decide +kernel) (kz_nar h3) (kz_fit h3) (Nat.le_of_ble_eq_true rfl) d_W_goThrough_49 (fun H locs hP hD hS => ?_)
    have hP : va_P (dC, dI) vwCl [(q_wk, .inr (4, [.ref q_bk, .ref q_li, .ref q_sg, .ref q_sz, .ref q_lo, .int pls, .int ((pls - (1 : Int32)) - ((a0 + (2 : Int32)) / (3 : Int32))), .int u2])), (q_sg, .inl (k_sg, n_sg, .inl sgn)), (q_sz, .inl (k_sz, n_sz, .inl siz)), (q_lo, .inl (k_lo, n_lo, .inl low)), (q_bk, .inr (1, [.int w, .int h, .int sty, .int bd, .int str, .int cel])), (q_li, .inr (3, [.ref q_wo, .int lcn, .int lak, .int nxt])), (q_wo, .inl (k_wo, n_wo, .inl wor))] H := hP
    have hD : va_D A [(q_wk, .inr (4, [.ref q_bk, .ref q_li, .ref q_sg, .ref q_sz, .ref q_lo, .int pls, .int ((pls - (1 : Int32)) - ((a0 + (2 : Int32)) / (3 : Int32))), .int u2])), (q_sg, .inl (k_sg, n_sg, .inl sgn)), (q_sz, .inl (k_sz, n_sz, .inl siz)), (q_lo, .inl (k_lo, n_lo, .inl low)), (q_bk, .inr (1, [.int w, .int h, .int sty, .int bd, .int str, .int cel])), (q_li, .inr (3, [.ref q_wo, .int lcn, .int lak, .int nxt])), (q_wo, .inl (k_wo, n_wo, .inl wor))] := hD
    refine lv_iconst (v := 0) hx hb d_W_goThrough_52 (by decide) ?_
    refine lv_istore_n (lv' := [(3, .int (0 : Int32)), (2, .int (f_ST_kindOf a0)), (0, .ref q_wk), (1, .int a0)]) hx hb d_W_goThrough_53 rfl hl (by decide) rfl (fun ls hl => ?_)
    obtain ⟨u4, hcu4, hF⟩ := kc_bnd hF
    have hJu4_149 : ∀ (H : Heap) (locs : List Loc) (ls : Array Slot), va_P (dC, dI) vwCl [(q_wk, .inr (4, [.ref q_bk, .ref q_li, .ref q_sg, .ref q_sz, .ref q_lo, .int pls, .int ((pls - (1 : Int32)) - ((a0 + (2 : Int32)) / (3 : Int32))), .int u2])), (q_sg, .inl (k_sg, n_sg, .inl u4.2.1)), (q_sz, .inl (k_sz, n_sz, .inl u4.2.2.1)), (q_lo, .inl (k_lo, n_lo, .inl u4.2.2.2.1)), (q_bk, .inr (1, [.int w, .int h, .int sty, .int bd, .int str, .int cel])), (q_li, .inr (3, [.ref q_wo, .int lcn, .int u4.2.2.2.2.1, .int u4.2.2.2.2.2])), (q_wo, .inl (k_wo, n_wo, .inl wor))] H → va_D A [(q_wk, .inr (4, [.ref q_bk, .ref q_li, .ref q_sg, .ref q_sz, .ref q_lo, .int pls, .int ((pls - (1 : Int32)) - ((a0 + (2 : Int32)) / (3 : Int32))), .int u2])), (q_sg, .inl (k_sg, n_sg, .inl u4.2.1)), (q_sz, .inl (k_sz, n_sz, .inl u4.2.2.1)), (q_lo, .inl (k_lo, n_lo, .inl u4.2.2.2.1)), (q_bk, .inr (1, [.int w, .int h, .int sty, .int bd, .int str, .int cel])), (q_li, .inr (3, [.ref q_wo, .int lcn, .int u4.2.2.2.2.1, .int u4.2.2.2.2.2])), (q_wo, .inl (k_wo, n_wo, .inl wor))] → va_S A s.heap H locs → lv_has ls 6 [(3, .int u4.1), (2, .int (f_ST_kindOf a0)), (0, .ref q_wk), (1, .int a0)] → W p l e rm_WL_goThrough s m args below meth c H locs 0 0 Q (F0 m 149 ls []) := by
      intro H locs ls hP hD hS hl
      refine lv_iload_n hx hb d_W_goThrough_149 rfl (lv_at hl 1 rfl) ?_
      refine lv_iconst (v := 2) hx hb d_W_goThrough_150 (by decide) ?_
      refine lv_icmp_ne (tgt := 173) hx hb d_W_goThrough_151 (by decide) (fun c5 => ?_) (fun c5 => ?_)
      · have hF := kc_neg c5 hF
        refine lv_iconst (v := 1) hx hb d_W_goThrough_173 (by decide) ?_
        refine lv_goto (tgt := 178) hx hb d_W_goThrough_174 (by decide) ?_
        obtain rfl := Option.some.inj hF
        exact ku_zret hx hb hr hlocks hQ (by decide) (hP.sub [0, 1, 2, 3, 4, 5, 6] rfl) (hD.sub [0, 1, 2, 3, 4, 5, 6] (by decide) rfl) hS d_W_goThrough_178
      have hF := kc_pos c5 hF
      refine lv_aload_n hx hb d_W_goThrough_154 rfl (lv_at hl 2 rfl) ?_
      refine va_get (D := (dC, dI)) (ci := 4) (v := .ref q_bk) (C := R_W) (T := T_W) (N := 8) hx hb hts ki_W hown hK hP 0 rfl rfl 0 (by decide) (hts _ kw_1_103) (fun _ h9 => h9) rfl d_W_goThrough_155 ?_
      refine lv_bipush (v := 16) hx hb d_W_goThrough_158 (by decide) ?_
      refine kr_call (va_runV (As := [.int (16 : Int32)]) (rest := []) ⟨hx, hb, hml, hown, hts⟩ (m_K_hasStyle l dC dI q_bk w h sty bd str cel (16 : Int32) (f_K_hasStyle sty (16 : Int32)) rfl) (cwV 1 hts (kgV kw_1_227 kw_1_228 kw_1_229 kw_1_2 kw_1_230) rfl rfl rfl (by decide +kernel) ⟨Nat.le_of_ble_eq_true rfl, Nat.le_of_ble_eq_true rfl⟩) ⟨kRe_blind, va_recv hK hP (ci := 1) (q0 := 4) rfl rfl, kRe_of (hP.sub [4] rfl) (hK.sub [] rfl) hN⟩ rfl rfl hl.1 rfl (lv_room (Nat.le_of_ble_eq_true rfl)) d_W_goThrough_160 ⟨Nat.le_of_ble_eq_true rfl, Nat.le_of_ble_eq_true rfl⟩) ?_
      refine lv_if_eq (tgt := 173) hx hb d_W_goThrough_163 (by decide) (fun c6 => ?_) (fun c6 => ?_)
      · have hF := kc_pos c6 hF
        refine lv_iconst (v := 1) hx hb d_W_goThrough_173 (by decide) ?_
        refine lv_goto (tgt := 178) hx hb d_W_goThrough_174 (by decide) ?_
        obtain rfl := Option.some.inj hF
        exact ku_zret hx hb hr hlocks hQ (by decide) (hP.sub [0, 1, 2, 3, 4, 5, 6] rfl) (hD.sub [0, 1, 2, 3, 4, 5, 6] (by decide) rfl) hS d_W_goThrough_178
      have hF := kc_neg c6 hF
      refine lv_aload_n hx hb d_W_goThrough_166 rfl (lv_at hl 2 rfl) ?_
      obtain ⟨u7, hc, hF⟩ := kc_bnd hF
      refine ku_call (wr := [(q_sg, .inl (k_sg, n_sg, .inl u4.2.1)), (q_sz, .inl (k_sz, n_sz, .inl u4.2.2.1)), (q_lo, .inl (k_lo, n_lo, .inl u4.2.2.2.1)), (q_bk, .inr (1, [.int w, .int h, .int sty, .int bd, .int str, .int cel]))]) hA (va_runV (As := []) (rest := []) ⟨hx, hb, hml, hown, hts⟩ (m_WL_exchangeMarks l dC dI q_wk q_sg q_sz q_lo q_bk q_li q_wo k_wo n_wo pls ((pls - (1 : Int32)) - ((a0 + (2 : Int32)) / (3 : Int32))) u2 lcn u4.2.2.2.2.1 u4.2.2.2.2.2 wor _ hc H.size) (cwV 0 hts (kgV kw_2_99 kw_2_101 kp_15 kw_1_6 kw_2_102) rfl rfl rfl (by decide +kernel) ⟨Nat.le_of_ble_eq_true rfl, Nat.le_of_ble_eq_true rfl⟩) ⟨kPre_blind, va_recv hK hP (ci := 4) (q0 := 0) rfl rfl, kPre_of (hP.sub [0, 5, 6] rfl) (hK.sub [3] rfl) (hD.sub [0, 5, 6] (by decide) rfl) hN⟩ rfl rfl hl.1 rfl (lv_room (Nat.le_of_ble_eq_true rfl)) d_W_goThrough_167 ⟨Nat.le_of_ble_eq_true rfl, Nat.le_of_ble_eq_true rfl⟩) hP hD hS [0, 5, 6] [1, 2, 3, 4] rfl rfl (by decide) (by decide) (fun H locs hP hD hS => ?_)
      have hP : va_P (dC, dI) vwCl [(q_sg, .inl (k_sg, n_sg, .inl u4.2.1)), (q_sz, .inl (k_sz, n_sz, .inl u4.2.2.1)), (q_lo, .inl (k_lo, n_lo, .inl u4.2.2.2.1)), (q_bk, .inr (1, [.int w, .int h, .int sty, .int bd, .int str, .int cel])), (q_wk, .inr (4, [.ref q_bk, .ref q_li, .ref q_sg, .ref q_sz, .ref q_lo, .int pls, .int ((pls - (1 : Int32)) - ((a0 + (2 : Int32)) / (3 : Int32))), .int u2])), (q_li, .inr (3, [.ref q_wo, .int lcn, .int u7.2.1, .int u7.2.2])), (q_wo, .inl (k_wo, n_wo, .inl wor))] H := hP
      have hD : va_D A [(q_sg, .inl (k_sg, n_sg, .inl u4.2.1)), (q_sz, .inl (k_sz, n_sz, .inl u4.2.2.1)), (q_lo, .inl (k_lo, n_lo, .inl u4.2.2.2.1)), (q_bk, .inr (1, [.int w, .int h, .int sty, .int bd, .int str, .int cel])), (q_wk, .inr (4, [.ref q_bk, .ref q_li, .ref q_sg, .ref q_sz, .ref q_lo, .int pls, .int ((pls - (1 : Int32)) - ((a0 + (2 : Int32)) / (3 : Int32))), .int u2])), (q_li, .inr (3, [.ref q_wo, .int lcn, .int u7.2.1, .int u7.2.2])), (q_wo, .inl (k_wo, n_wo, .inl wor))] := hD
      refine lv_if_eq (tgt := 177) hx hb d_W_goThrough_170 (by decide) (fun c8 => ?_) (fun c8 => ?_)
      · have hF := kc_pos c8 hF
        refine lv_iconst (v := 0) hx hb d_W_goThrough_177 (by decide) ?_
        obtain rfl := Option.some.inj hF
        exact ku_zret hx hb hr hlocks hQ (by decide) (hP.sub [4, 0, 1, 2, 3, 5, 6] rfl) (hD.sub [4, 0, 1, 2, 3, 5, 6] (by decide) rfl) hS d_W_goThrough_178
      have hF := kc_neg c8 hF
      refine lv_iconst (v := 1) hx hb d_W_goThrough_173 (by decide) ?_
      refine lv_goto (tgt := 178) hx hb d_W_goThrough_174 (by decide) ?_
      obtain rfl := Option.some.inj hF
      exact ku_zret hx hb hr hlocks hQ (by decide) (hP.sub [4, 0, 1, 2, 3, 5, 6] rfl) (hD.sub [4, 0, 1, 2, 3, 5, 6] (by decide) rfl) hS d_W_goThrough_178
    have hIu4 : ∀ (N : Nat) (v54_3 : Int32) (sgn_54 : (Nat → Int32)) (siz_54 : (Nat → Int32)) (low_54 : (Nat → Int32)) (lak_54 : Int32) (nxt_54 : Int32), f_WL_goThrough_L54 pls w h sty bd str lcn wor n_sg n_sz n_lo n_wo a0 u2 N v54_3 sgn_54 siz_54 low_54 lak_54 nxt_54 = some u4 → ∀ (H : Heap) (locs : List Loc) (ls : Array Slot), va_P (dC, dI) vwCl [(q_wk, .inr (4, [.ref q_bk, .ref q_li, .ref q_sg, .ref q_sz, .ref q_lo, .int pls, .int ((pls - (1 : Int32)) - ((a0 + (2 : Int32)) / (3 : Int32))), .int u2])), (q_sg, .inl (k_sg, n_sg, .inl sgn_54)), (q_sz, .inl (k_sz, n_sz, .inl siz_54)), (q_lo, .inl (k_lo, n_lo, .inl low_54)), (q_bk, .inr (1, [.int w, .int h, .int sty, .int bd, .int str, .int cel])), (q_li, .inr (3, [.ref q_wo, .int lcn, .int lak_54, .int nxt_54])), (q_wo, .inl (k_wo, n_wo, .inl wor))] H → va_D A [(q_wk, .inr (4, [.ref q_bk, .ref q_li, .ref q_sg, .ref q_sz, .ref q_lo, .int pls, .int ((pls - (1 : Int32)) - ((a0 + (2 : Int32)) / (3 : Int32))), .int u2])), (q_sg, .inl (k_sg, n_sg, .inl sgn_54)), (q_sz, .inl (k_sz, n_sz, .inl siz_54)), (q_lo, .inl (k_lo, n_lo, .inl low_54)), (q_bk, .inr (1, [.int w, .int h, .int sty, .int bd, .int str, .int cel])), (q_li, .inr (3, [.ref q_wo, .int lcn, .int lak_54, .int nxt_54])), (q_wo, .inl (k_wo, n_wo, .inl wor))] → va_S A s.heap H locs → lv_has ls 6 [(3, .int v54_3), (2, .int (f_ST_kindOf a0)), (0, .ref q_wk), (1, .int a0)] → W p l e rm_WL_goThrough s m args below meth c H locs 0 0 Q (F0 m 54 ls []) := by
      intro N
      induction N with
      | zero => intro v54_3 sgn_54 siz_54 low_54 lak_54 nxt_54 hF; rw [f_WL_goThrough_L54] at hF; cases hF
      | succ N ih =>
        intro v54_3 sgn_54 siz_54 low_54 lak_54 nxt_54 hF
        intro H locs ls hP hD hS hl
        rw [f_WL_goThrough_L54] at hF
        refine lv_iload_n hx hb d_W_goThrough_54 rfl (lv_at hl 0 rfl) ?_
        refine lv_aload_n hx hb d_W_goThrough_55 rfl (lv_at hl 2 rfl) ?_
        refine va_get (D := (dC, dI)) (ci := 4) (v := .ref q_bk) (C := R_W) (T := T_W) (N := 8) hx hb hts ki_W hown hK hP 0 rfl rfl 0 (by decide) (hts _ kw_1_103) (fun _ h9 => h9) rfl d_W_goThrough_56 ?_
        refine va_get (D := (dC, dI)) (ci := 1) (v := .int h) (C := R_K) (T := T_K) (N := 6) hx hb hts ki_K hown hK hP 4 rfl rfl 1 (by decide) (hts _ kw_1_44) (fun _ h9 => h9) rfl d_W_goThrough_59 ?_
        refine lv_icmp_ge (tgt := 149) hx hb d_W_goThrough_62 (by decide) (fun c9 => ?_) (fun c9 => ?_)
        · have hF := kc_pos c9 hF
          obtain rfl := Option.some.inj hF
          exact hJu4_149 _ _ _ hP hD hS (lv_sub hl [0, 1, 2, 3] rfl)
        have hF := kc_neg c9 hF
        refine lv_iload_n hx hb d_W_goThrough_65 rfl (lv_at hl 0 rfl) ?_
        refine lv_iconst (v := 4) hx hb d_W_goThrough_66 (by decide) ?_
        refine lv_iadd hx hb d_W_goThrough_67 ?_
        refine lv_aload_n hx hb d_W_goThrough_68 rfl (lv_at hl 2 rfl) ?_
        refine va_get (D := (dC, dI)) (ci := 4) (v := .ref q_bk) (C := R_W) (T := T_W) (N := 8) hx hb hts ki_W hown hK hP 0 rfl rfl 0 (by decide) (hts _ kw_1_103) (fun _ h9 => h9) rfl d_W_goThrough_69 ?_
        refine va_get (D := (dC, dI)) (ci := 1) (v := .int h) (C := R_K) (T := T_K) (N := 6) hx hb hts ki_K hown hK hP 4 rfl rfl 1 (by decide) (hts _ kw_1_44) (fun _ h9 => h9) rfl d_W_goThrough_72 ?_
        refine va_mmin hx hb (by rw [hml]; exact hl.1.symm) hown (hts _ kw_1_231) (hts _ kw_1_30) (hts _ kw_1_3) (hts _ kw_1_31) (Nat.le_of_ble_eq_true rfl) (Nat.le_of_ble_eq_true rfl) (Nat.le_of_ble_eq_true rfl) (Nat.le_of_ble_eq_true rfl) d_W_goThrough_75 ?_
        refine W.eq (g2 := F0 m 78 ls [.int (kmin (v54_3 + (4 : Int32)) h)]) rfl ?_
        refine lv_istore (lv' := [(4, .int (kmin (v54_3 + (4 : Int32)) h)), (3, .int v54_3), (2, .int (f_ST_kindOf a0)), (0, .ref q_wk), (1, .int a0)]) hx hb d_W_goThrough_78 hl (by decide) rfl (fun ls hl => ?_)
        refine lv_iconst (v := 0) hx hb d_W_goThrough_80 (by decide) ?_
        refine lv_istore (lv' := [(5, .int (0 : Int32)), (4, .int (kmin (v54_3 + (4 : Int32)) h)), (3, .int v54_3), (2, .int (f_ST_kindOf a0)), (0, .ref q_wk), (1, .int a0)]) hx hb d_W_goThrough_81 hl (by decide) rfl (fun ls hl => ?_)
        obtain ⟨u10, hcu10, hF⟩ := kc_bnd hF
        have hJu10_143 : ∀ (H : Heap) (locs : List Loc) (ls : Array Slot), va_P (dC, dI) vwCl [(q_wk, .inr (4, [.ref q_bk, .ref q_li, .ref q_sg, .ref q_sz, .ref q_lo, .int pls, .int ((pls - (1 : Int32)) - ((a0 + (2 : Int32)) / (3 : Int32))), .int u2])), (q_sg, .inl (k_sg, n_sg, .inl u10.2.1)), (q_sz, .inl (k_sz, n_sz, .inl u10.2.2.1)), (q_lo, .inl (k_lo, n_lo, .inl u10.2.2.2.1)), (q_bk, .inr (1, [.int w, .int h, .int sty, .int bd, .int str, .int cel])), (q_li, .inr (3, [.ref q_wo, .int lcn, .int u10.2.2.2.2.1, .int u10.2.2.2.2.2])), (q_wo, .inl (k_wo, n_wo, .inl wor))] H → va_D A [(q_wk, .inr (4, [.ref q_bk, .ref q_li, .ref q_sg, .ref q_sz, .ref q_lo, .int pls, .int ((pls - (1 : Int32)) - ((a0 + (2 : Int32)) / (3 : Int32))), .int u2])), (q_sg, .inl (k_sg, n_sg, .inl u10.2.1)), (q_sz, .inl (k_sz, n_sz, .inl u10.2.2.1)), (q_lo, .inl (k_lo, n_lo, .inl u10.2.2.2.1)), (q_bk, .inr (1, [.int w, .int h, .int sty, .int bd, .int str, .int cel])), (q_li, .inr (3, [.ref q_wo, .int lcn, .int u10.2.2.2.2.1, .int u10.2.2.2.2.2])), (q_wo, .inl (k_wo, n_wo, .inl wor))] → va_S A s.heap H locs → lv_has ls 6 [(5, .int u10.1), (4, .int (kmin (v54_3 + (4 : Int32)) h)), (3, .int v54_3), (2, .int (f_ST_kindOf a0)), (0, .ref q_wk), (1, .int a0)] → W p l e rm_WL_goThrough s m args below meth c H locs 0 0 Q (F0 m 143 ls []) := by
          intro H locs ls hP hD hS hl
          refine lv_iinc (v := (v54_3 + 4)) (lv' := [(3, .int (v54_3 + 4)), (5, .int u10.1), (4, .int (kmin (v54_3 + (4 : Int32)) h)), (2, .int (f_ST_kindOf a0)), (0, .ref q_wk), (1, .int a0)]) hx hb d_W_goThrough_143 hl (k := 2) rfl rfl (by decide) rfl (fun ls hl => ?_)
          refine lv_goto (tgt := 54) hx hb d_W_goThrough_146 (by decide) ?_
          exact ih _ _ _ _ _ _ hF _ _ _ hP hD hS (lv_sub hl [0, 3, 4, 5] rfl)
        have hIu10 : ∀ (N : Nat) (v83_5 : Int32) (sgn_83 : (Nat → Int32)) (siz_83 : (Nat → Int32)) (low_83 : (Nat → Int32)) (lak_83 : Int32) (nxt_83 : Int32), f_WL_goThrough_L83 pls w h sty bd str lcn wor n_sg n_sz n_lo n_wo a0 u2 v54_3 N v83_5 sgn_83 siz_83 low_83 lak_83 nxt_83 = some u10 → ∀ (H : Heap) (locs : List Loc) (ls : Array Slot), va_P (dC, dI) vwCl [(q_wk, .inr (4, [.ref q_bk, .ref q_li, .ref q_sg, .ref q_sz, .ref q_lo, .int pls, .int ((pls - (1 : Int32)) - ((a0 + (2 : Int32)) / (3 : Int32))), .int u2])), (q_sg, .inl (k_sg, n_sg, .inl sgn_83)), (q_sz, .inl (k_sz, n_sz, .inl siz_83)), (q_lo, .inl (k_lo, n_lo, .inl low_83)), (q_bk, .inr (1, [.int w, .int h, .int sty, .int bd, .int str, .int cel])), (q_li, .inr (3, [.ref q_wo, .int lcn, .int lak_83, .int nxt_83])), (q_wo, .inl (k_wo, n_wo, .inl wor))] H → va_D A [(q_wk, .inr (4, [.ref q_bk, .ref q_li, .ref q_sg, .ref q_sz, .ref q_lo, .int pls, .int ((pls - (1 : Int32)) - ((a0 + (2 : Int32)) / (3 : Int32))), .int u2])), (q_sg, .inl (k_sg, n_sg, .inl sgn_83)), (q_sz, .inl (k_sz, n_sz, .inl siz_83)), (q_lo, .inl (k_lo, n_lo, .inl low_83)), (q_bk, .inr (1, [.int w, .int h, .int sty, .int bd, .int str, .int cel])), (q_li, .inr (3, [.ref q_wo, .int lcn, .int lak_83, .int nxt_83])), (q_wo, .inl (k_wo, n_wo, .inl wor))] → va_S A s.heap H locs → lv_has ls 6 [(5, .int v83_5), (4, .int (kmin (v54_3 + (4 : Int32)) h)), (3, .int v54_3), (2, .int (f_ST_kindOf a0)), (0, .ref q_wk), (1, .int a0)] → W p l e rm_WL_goThrough s m args below meth c H locs 0 0 Q (F0 m 83 ls []) := by
          intro N
          induction N with
          | zero => intro v83_5 sgn_83 siz_83 low_83 lak_83 nxt_83 hF; rw [f_WL_goThrough_L83] at hF; cases hF
          | succ N ih =>
            intro v83_5 sgn_83 siz_83 low_83 lak_83 nxt_83 hF
            intro H locs ls hP hD hS hl
            rw [f_WL_goThrough_L83] at hF
            refine lv_iload hx hb d_W_goThrough_83 (lv_at hl 0 rfl) ?_
            refine lv_aload_n hx hb d_W_goThrough_85 rfl (lv_at hl 4 rfl) ?_
            refine va_get (D := (dC, dI)) (ci := 4) (v := .ref q_bk) (C := R_W) (T := T_W) (N := 8) hx hb hts ki_W hown hK hP 0 rfl rfl 0 (by decide) (hts _ kw_1_103) (fun _ h9 => h9) rfl d_W_goThrough_86 ?_
            refine va_get (D := (dC, dI)) (ci := 1) (v := .int w) (C := R_K) (T := T_K) (N := 6) hx hb hts ki_K hown hK hP 4 rfl rfl 0 (by decide) (hts _ kw_1_41) (fun _ h9 => h9) rfl d_W_goThrough_89 ?_
            refine lv_icmp_ge (tgt := 143) hx hb d_W_goThrough_92 (by decide) (fun c11 => ?_) (fun c11 => ?_)
            · have hF := kc_pos c11 hF
              obtain rfl := Option.some.inj hF
              exact hJu10_143 _ _ _ hP hD hS (lv_sub hl [0, 1, 2, 3, 4, 5] rfl)
            have hF := kc_neg c11 hF
            refine lv_iload_n hx hb d_W_goThrough_95 rfl (lv_at hl 3 rfl) ?_
            obtain ⟨u13, hcu13, hF⟩ := kc_bnd hF
            have hJu13 : ∀ (H : Heap) (locs : List Loc) (ls : Array Slot), va_P (dC, dI) vwCl [(q_wk, .inr (4, [.ref q_bk, .ref q_li, .ref q_sg, .ref q_sz, .ref q_lo, .int pls, .int ((pls - (1 : Int32)) - ((a0 + (2 : Int32)) / (3 : Int32))), .int u2])), (q_sg, .inl (k_sg, n_sg, .inl u13.1)), (q_sz, .inl (k_sz, n_sz, .inl u13.2.1)), (q_lo, .inl (k_lo, n_lo, .inl u13.2.2.1)), (q_bk, .inr (1, [.int w, .int h, .int sty, .int bd, .int str, .int cel])), (q_li, .inr (3, [.ref q_wo, .int lcn, .int u13.2.2.2.1, .int u13.2.2.2.2])), (q_wo, .inl (k_wo, n_wo, .inl wor))] H → va_D A [(q_wk, .inr (4, [.ref q_bk, .ref q_li, .ref q_sg, .ref q_sz, .ref q_lo, .int pls, .int ((pls - (1 : Int32)) - ((a0 + (2 : Int32)) / (3 : Int32))), .int u2])), (q_sg, .inl (k_sg, n_sg, .inl u13.1)), (q_sz, .inl (k_sz, n_sz, .inl u13.2.1)), (q_lo, .inl (k_lo, n_lo, .inl u13.2.2.1)), (q_bk, .inr (1, [.int w, .int h, .int sty, .int bd, .int str, .int cel])), (q_li, .inr (3, [.ref q_wo, .int lcn, .int u13.2.2.2.1, .int u13.2.2.2.2])), (q_wo, .inl (k_wo, n_wo, .inl wor))] → va_S A s.heap H locs → lv_has ls 6 [(5, .int v83_5), (4, .int (kmin (v54_3 + (4 : Int32)) h)), (3, .int v54_3), (2, .int (f_ST_kindOf a0)), (0, .ref q_wk), (1, .int a0)] → W p l e rm_WL_goThrough s m args below meth c H locs 0 0 Q (F0 m 137 ls []) := by
              intro H locs ls hP hD hS hl
              refine lv_iinc (v := (v83_5 + 1)) (lv' := [(5, .int (v83_5 + 1)), (4, .int (kmin (v54_3 + (4 : Int32)) h)), (3, .int v54_3), (2, .int (f_ST_kindOf a0)), (0, .ref q_wk), (1, .int a0)]) hx hb d_W_goThrough_137 hl (k := 0) rfl rfl (by decide) rfl (fun ls hl => ?_)
              refine lv_goto (tgt := 83) hx hb d_W_goThrough_140 (by decide) ?_
              exact ih _ _ _ _ _ _ hF _ _ _ hP hD hS (lv_sub hl [0, 1, 2, 3, 4, 5] rfl)
            clear hF; have hF := hcu13; clear hcu13
            refine lv_if_ne (tgt := 111) hx hb d_W_goThrough_96 (by decide) (fun c12 => ?_) (fun c12 => ?_)
            · have hF := kc_neg c12 hF
              refine lv_iload_n hx hb d_W_goThrough_111 rfl (lv_at hl 3 rfl) ?_
              refine lv_iconst (v := 1) hx hb d_W_goThrough_112 (by decide) ?_
              refine lv_icmp_ne (tgt := 128) hx hb d_W_goThrough_113 (by decide) (fun c14 => ?_) (fun c14 => ?_)
              · have hF := kc_neg c14 hF
                refine lv_aload_n hx hb d_W_goThrough_128 rfl (lv_at hl 4 rfl) ?_
                refine lv_iload hx hb d_W_goThrough_129 (lv_at hl 0 rfl) ?_
                refine lv_iload_n hx hb d_W_goThrough_131 rfl (lv_at hl 2 rfl) ?_
                refine lv_iload hx hb d_W_goThrough_132 (lv_at hl 1 rfl) ?_
                obtain ⟨u15, hc, hF⟩ := kc_bnd hF
                refine ku_call (wr := []) hA (va_runV (As := [.int v83_5, .int v54_3, .int (kmin (v54_3 + (4 : Int32)) h)]) (rest := []) ⟨hx, hb, hml, hown, hts⟩ (m_WL_cleanColumn l dC dI q_wk q_sg q_sz q_lo q_bk q_li q_wo k_sg n_sg k_sz n_sz k_lo n_lo k_wo n_wo pls ((pls - (1 : Int32)) - ((a0 + (2 : Int32)) / (3 : Int32))) u2 sgn_83 siz_83 low_83 w h sty bd str cel lcn lak_83 nxt_83 wor v83_5 v54_3 (kmin (v54_3 + (4 : Int32)) h) _ hc H.size) (cwV 3 hts (kgV kw_2_75 kw_2_77 kp_9 kw_1_6 kw_2_78) rfl rfl rfl (by decide +kernel) ⟨Nat.le_of_ble_eq_true rfl, Nat.le_of_ble_eq_true rfl⟩) ⟨kPre_blind, va_recv hK hP (ci := 4) (q0 := 0) rfl rfl, kPre_of (hP.sub [0, 1, 2, 3, 4, 5, 6] rfl) (hK.sub [0, 1, 2, 3] rfl) (hD.sub [0, 1, 2, 3, 4, 5, 6] (by decide) rfl) hN⟩ rfl rfl hl.1 rfl (lv_room (Nat.le_of_ble_eq_true rfl)) d_W_goThrough_134 ⟨Nat.le_of_ble_eq_true rfl, Nat.le_of_ble_eq_true rfl⟩) hP hD hS [0, 1, 2, 3, 4, 5, 6] [] rfl rfl (by decide) (by decide) (fun H locs hP hD hS => ?_)
                have hP : va_P (dC, dI) vwCl [(q_wk, .inr (4, [.ref q_bk, .ref q_li, .ref q_sg, .ref q_sz, .ref q_lo, .int pls, .int ((pls - (1 : Int32)) - ((a0 + (2 : Int32)) / (3 : Int32))), .int u2])), (q_sg, .inl (k_sg, n_sg, .inl u15.1)), (q_sz, .inl (k_sz, n_sz, .inl u15.2.1)), (q_lo, .inl (k_lo, n_lo, .inl u15.2.2.1)), (q_bk, .inr (1, [.int w, .int h, .int sty, .int bd, .int str, .int cel])), (q_li, .inr (3, [.ref q_wo, .int lcn, .int u15.2.2.2.1, .int u15.2.2.2.2])), (q_wo, .inl (k_wo, n_wo, .inl wor))] H := hP
                have hD : va_D A [(q_wk, .inr (4, [.ref q_bk, .ref q_li, .ref q_sg, .ref q_sz, .ref q_lo, .int pls, .int ((pls - (1 : Int32)) - ((a0 + (2 : Int32)) / (3 : Int32))), .int u2])), (q_sg, .inl (k_sg, n_sg, .inl u15.1)), (q_sz, .inl (k_sz, n_sz, .inl u15.2.1)), (q_lo, .inl (k_lo, n_lo, .inl u15.2.2.1)), (q_bk, .inr (1, [.int w, .int h, .int sty, .int bd, .int str, .int cel])), (q_li, .inr (3, [.ref q_wo, .int lcn, .int u15.2.2.2.1, .int u15.2.2.2.2])), (q_wo, .inl (k_wo, n_wo, .inl wor))] := hD
                obtain rfl := Option.some.inj hF
                exact hJu13 _ _ _ hP hD hS (lv_sub hl [0, 1, 2, 3, 4, 5] rfl)
              have hF := kc_pos c14 hF
              refine lv_aload_n hx hb d_W_goThrough_116 rfl (lv_at hl 4 rfl) ?_
              refine lv_iload hx hb d_W_goThrough_117 (lv_at hl 0 rfl) ?_
              refine lv_iload_n hx hb d_W_goThrough_119 rfl (lv_at hl 2 rfl) ?_
              refine lv_iload hx hb d_W_goThrough_120 (lv_at hl 1 rfl) ?_
              obtain ⟨u16, hc, hF⟩ := kc_bnd hF
              refine ku_call (wr := []) hA (va_runV (As := [.int v83_5, .int v54_3, .int (kmin (v54_3 + (4 : Int32)) h)]) (rest := []) ⟨hx, hb, hml, hown, hts⟩ (m_WL_refineColumn l dC dI q_wk q_sg q_sz q_lo q_bk q_li q_wo k_sg n_sg k_sz n_sz k_lo n_lo k_wo n_wo pls ((pls - (1 : Int32)) - ((a0 + (2 : Int32)) / (3 : Int32))) u2 sgn_83 siz_83 low_83 w h sty bd str cel lcn lak_83 nxt_83 wor v83_5 v54_3 (kmin (v54_3 + (4 : Int32)) h) _ hc H.size) (cwV 3 hts (kgV kw_2_67 kw_2_69 kp_7 kw_1_6 kw_2_70) rfl rfl rfl (by decide +kernel) ⟨Nat.le_of_ble_eq_true rfl, Nat.le_of_ble_eq_true rfl⟩) ⟨kPre_blind, va_recv hK hP (ci := 4) (q0 := 0) rfl rfl, kPre_of (hP.sub [0, 1, 2, 3, 4, 5, 6] rfl) (hK.sub [0, 1, 2, 3] rfl) (hD.sub [0, 1, 2, 3, 4, 5, 6] (by decide) rfl) hN⟩ rfl rfl hl.1 rfl (lv_room (Nat.le_of_ble_eq_true rfl)) d_W_goThrough_122 ⟨Nat.le_of_ble_eq_true rfl, Nat.le_of_ble_eq_true rfl⟩) hP hD hS [0, 1, 2, 3, 4, 5, 6] [] rfl rfl (by decide) (by decide) (fun H locs hP hD hS => ?_)
              have hP : va_P (dC, dI) vwCl [(q_wk, .inr (4, [.ref q_bk, .ref q_li, .ref q_sg, .ref q_sz, .ref q_lo, .int pls, .int ((pls - (1 : Int32)) - ((a0 + (2 : Int32)) / (3 : Int32))), .int u2])), (q_sg, .inl (k_sg, n_sg, .inl sgn_83)), (q_sz, .inl (k_sz, n_sz, .inl u16.1)), (q_lo, .inl (k_lo, n_lo, .inl u16.2.1)), (q_bk, .inr (1, [.int w, .int h, .int sty, .int bd, .int str, .int cel])), (q_li, .inr (3, [.ref q_wo, .int lcn, .int u16.2.2.1, .int u16.2.2.2])), (q_wo, .inl (k_wo, n_wo, .inl wor))] H := hP
              have hD : va_D A [(q_wk, .inr (4, [.ref q_bk, .ref q_li, .ref q_sg, .ref q_sz, .ref q_lo, .int pls, .int ((pls - (1 : Int32)) - ((a0 + (2 : Int32)) / (3 : Int32))), .int u2])), (q_sg, .inl (k_sg, n_sg, .inl sgn_83)), (q_sz, .inl (k_sz, n_sz, .inl u16.1)), (q_lo, .inl (k_lo, n_lo, .inl u16.2.1)), (q_bk, .inr (1, [.int w, .int h, .int sty, .int bd, .int str, .int cel])), (q_li, .inr (3, [.ref q_wo, .int lcn, .int u16.2.2.1, .int u16.2.2.2])), (q_wo, .inl (k_wo, n_wo, .inl wor))] := hD
              refine lv_goto (tgt := 137) hx hb d_W_goThrough_125 (by decide) ?_
              obtain rfl := Option.some.inj hF
              exact hJu13 _ _ _ hP hD hS (lv_sub hl [0, 1, 2, 3, 4, 5] rfl)
            have hF := kc_pos c12 hF
            refine lv_aload_n hx hb d_W_goThrough_99 rfl (lv_at hl 4 rfl) ?_
            refine lv_iload hx hb d_W_goThrough_100 (lv_at hl 0 rfl) ?_
            refine lv_iload_n hx hb d_W_goThrough_102 rfl (lv_at hl 2 rfl) ?_
            refine lv_iload hx hb d_W_goThrough_103 (lv_at hl 1 rfl) ?_
            obtain ⟨u17, hc, hF⟩ := kc_bnd hF
            refine ku_call (wr := []) hA (va_runV (As := [.int v83_5, .int v54_3, .int (kmin (v54_3 + (4 : Int32)) h)]) (rest := []) ⟨hx, hb, hml, hown, hts⟩ (m_WL_findColumn l dC dI q_wk q_sg q_sz q_lo q_bk q_li q_wo k_sg n_sg k_sz n_sz k_lo n_lo k_wo n_wo pls ((pls - (1 : Int32)) - ((a0 + (2 : Int32)) / (3 : Int32))) u2 sgn_83 siz_83 low_83 w h sty bd str cel lcn lak_83 nxt_83 wor v83_5 v54_3 (kmin (v54_3 + (4 : Int32)) h) _ hc H.size) (cwV 3 hts (kgV kw_1_232 kw_1_234 kp_1 kw_1_6 kw_1_235) rfl rfl rfl (by decide +kernel) ⟨Nat.le_of_ble_eq_true rfl, Nat.le_of_ble_eq_true rfl⟩) ⟨kPre_blind, va_recv hK hP (ci := 4) (q0 := 0) rfl rfl, kPre_of (hP.sub [0, 1, 2, 3, 4, 5, 6] rfl) (hK.sub [0, 1, 2, 3] rfl) (hD.sub [0, 1, 2, 3, 4, 5, 6] (by decide) rfl) hN⟩ rfl rfl hl.1 rfl (lv_room (Nat.le_of_ble_eq_true rfl)) d_W_goThrough_105 ⟨Nat.le_of_ble_eq_true rfl, Nat.le_of_ble_eq_true rfl⟩) hP hD hS [0, 1, 2, 3, 4, 5, 6] [] rfl rfl (by decide) (by decide) (fun H locs hP hD hS => ?_)
            have hP : va_P (dC, dI) vwCl [(q_wk, .inr (4, [.ref q_bk, .ref q_li, .ref q_sg, .ref q_sz, .ref q_lo, .int pls, .int ((pls - (1 : Int32)) - ((a0 + (2 : Int32)) / (3 : Int32))), .int u2])), (q_sg, .inl (k_sg, n_sg, .inl u17.1)), (q_sz, .inl (k_sz, n_sz, .inl u17.2.1)), (q_lo, .inl (k_lo, n_lo, .inl u17.2.2.1)), (q_bk, .inr (1, [.int w, .int h, .int sty, .int bd, .int str, .int cel])), (q_li, .inr (3, [.ref q_wo, .int lcn, .int u17.2.2.2.1, .int u17.2.2.2.2])), (q_wo, .inl (k_wo, n_wo, .inl wor))] H := hP
            have hD : va_D A [(q_wk, .inr (4, [.ref q_bk, .ref q_li, .ref q_sg, .ref q_sz, .ref q_lo, .int pls, .int ((pls - (1 : Int32)) - ((a0 + (2 : Int32)) / (3 : Int32))), .int u2])), (q_sg, .inl (k_sg, n_sg, .inl u17.1)), (q_sz, .inl (k_sz, n_sz, .inl u17.2.1)), (q_lo, .inl (k_lo, n_lo, .inl u17.2.2.1)), (q_bk, .inr (1, [.int w, .int h, .int sty, .int bd, .int str, .int cel])), (q_li, .inr (3, [.ref q_wo, .int lcn, .int u17.2.2.2.1, .int u17.2.2.2.2])), (q_wo, .inl (k_wo, n_wo, .inl wor))] := hD
            refine lv_goto (tgt := 137) hx hb d_W_goThrough_108 (by decide) ?_
            obtain rfl := Option.some.inj hF
            exact hJu13 _ _ _ hP hD hS (lv_sub hl [0, 1, 2, 3, 4, 5] rfl)
        exact hIu10 _ _ _ _ _ _ _ hcu10 _ _ _ hP hD hS (lv_sub hl [0, 1, 2, 3, 4, 5] rfl)
    exact hIu4 _ _ _ _ _ _ _ hcu4 _ _ _ hP hD hS (lv_sub hl [0, 1, 2, 3] rfl)
  clear hF; have hF := hcu2; clear hcu2
  refine lv_if_eq (tgt := 48) hx hb d_W_goThrough_30 (by decide) (fun c1 => ?_) (fun c1 => ?_)
  · have hF := kc_pos c1 hF
    refine lv_iconst (v := 0) hx hb d_W_goThrough_48 (by decide) ?_
    obtain rfl := Option.some.inj hF
    exact hJu2 _ _ _ hP hD hS (lv_sub hl [0, 1, 2] rfl)
  have hF := kc_neg c1 hF
  refine lv_iload_n hx hb d_W_goThrough_33 rfl (lv_at hl 2 rfl) ?_
  refine lv_bipush (v := 10) hx hb d_W_goThrough_34 (by decide) ?_
  refine lv_icmp_lt (tgt := 48) hx hb d_W_goThrough_36 (by decide) (fun c18 => ?_) (fun c18 => ?_)
  · have hF := kc_pos c18 hF
    refine lv_iconst (v := 0) hx hb d_W_goThrough_48 (by decide) ?_
    obtain rfl := Option.some.inj hF
    exact hJu2 _ _ _ hP hD hS (lv_sub hl [0, 1, 2] rfl)
  have hF := kc_neg c18 hF
  refine lv_iload_n hx hb d_W_goThrough_39 rfl (lv_at hl 0 rfl) ?_
  refine lv_iconst (v := 2) hx hb d_W_goThrough_40 (by decide) ?_
  refine lv_icmp_eq (tgt := 48) hx hb d_W_goThrough_41 (by decide) (fun c19 => ?_) (fun c19 => ?_)
  · have hF := kc_pos c19 hF
    refine lv_iconst (v := 0) hx hb d_W_goThrough_48 (by decide) ?_
    obtain rfl := Option.some.inj hF
    exact hJu2 _ _ _ hP hD hS (lv_sub hl [0, 1, 2] rfl)
  have hF := kc_neg c19 hF
  refine lv_iconst (v := 1) hx hb d_W_goThrough_44 (by decide) ?_
  refine lv_goto (tgt := 49) hx hb d_W_goThrough_45 (by decide) ?_
  obtain rfl := Option.some.inj hF
  exact hJu2 _ _ _ hP hD hS (lv_sub hl [0, 1, 2] rfl)

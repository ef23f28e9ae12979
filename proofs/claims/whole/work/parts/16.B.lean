def f_B_planesOfSamples_L35 (u1 : Int32 × Int32) : Nat → Int32 → Int32 → Option (Int32 × Int32)
  | 0, _, _ => none
  | N + 1, v35_2, v35_3 => (if (15 : Int32) ≤ v35_3 then some (v35_2, v35_3) else (((if ((u1.1 >>> (v35_3 &&& 31)) &&& (1 : Int32)) = (1 : Int32) then some (v35_3 + (1 : Int32)) else some (v35_2)) : Option (Int32)).bind fun u5 => f_B_planesOfSamples_L35 u1 N u5 (v35_3 + 1)))
def f_B_planesOfSamples_L4 (sam : (Nat → Int32)) (n_sa : Nat) : Nat → Int32 → Int32 → Option (Int32 × Int32)
  | 0, _, _ => none
  | N + 1, v4_1, v4_2 => (if (nI n_sa) ≤ v4_2 then some (v4_1, v4_2) else if (v4_2 < 0 ∨ n_sa ≤ v4_2.toNatClampNeg) then none else f_B_planesOfSamples_L4 sam n_sa N (v4_1 ||| (kabs (sam v4_2.toNatClampNeg))) (v4_2 + 1))
def f_B_planesOfSamples (sam : (Nat → Int32)) (n_sa : Nat) : Option (Int32) :=
  ((f_B_planesOfSamples_L4 sam n_sa kBig (0 : Int32) (0 : Int32)).bind fun u1 => ((f_B_planesOfSamples_L35 u1 kBig (0 : Int32) (0 : Int32)).bind fun u2 => some (u2.1)))
def f_B_squaresNotTold_L4 (sam : (Nat → Int32)) (tsiz : (Nat → Int32)) (n_sa : Nat) (n_tsz : Nat) : Nat → Int64 → Int32 → Option (Int64 × Int32)
  | 0, _, _ => none
  | N + 1, v4_1, v4_3 => (if (nI n_sa) ≤ v4_3 then some (v4_1, v4_3) else if (v4_3 < 0 ∨ n_sa ≤ v4_3.toNatClampNeg) then none else if (v4_3 < 0 ∨ n_tsz ≤ v4_3.toNatClampNeg) then none else f_B_squaresNotTold_L4 sam tsiz n_sa n_tsz N (v4_1 + (((kabs (sam v4_3.toNatClampNeg)) - (tsiz v4_3.toNatClampNeg)).toInt64 * ((kabs (sam v4_3.toNatClampNeg)) - (tsiz v4_3.toNatClampNeg)).toInt64)) (v4_3 + 1))
def f_B_squaresNotTold (sam : (Nat → Int32)) (tsiz : (Nat → Int32)) (n_sa : Nat) (n_tsz : Nat) : Option (Int64) :=
  ((f_B_squaresNotTold_L4 sam tsiz n_sa n_tsz kBig (0 : Int64) (0 : Int32)).bind fun u1 => some (u1.1))
def f_B_keepWhatIsRead_L2 (rsgn : (Nat → Int32)) (rsiz : (Nat → Int32)) (rlow : (Nat → Int32)) (n_va : Nat) (n_lr : Nat) (n_rsg : Nat) (n_rsz : Nat) (n_rlo : Nat) : Nat → Int32 → (Nat → Int32) → (Nat → Int32) → Option (Int32 × (Nat → Int32) × (Nat → Int32))
  | 0, _, _, _ => none
  | N + 1, v2_1, vals_2, lowr_2 => (if (nI n_va) ≤ v2_1 then some (v2_1, vals_2, lowr_2) else if (v2_1 < 0 ∨ n_rsg ≤ v2_1.toNatClampNeg) then none else if (v2_1 < 0 ∨ n_rsz ≤ v2_1.toNatClampNeg) then none else if (v2_1 < 0 ∨ n_va ≤ v2_1.toNatClampNeg) then none else if (v2_1 < 0 ∨ n_rlo ≤ v2_1.toNatClampNeg) then none else if (v2_1 < 0 ∨ n_lr ≤ v2_1.toNatClampNeg) then none else f_B_keepWhatIsRead_L2 rsgn rsiz rlow n_va n_lr n_rsg n_rsz n_rlo N (v2_1 + 1) (upd vals_2 v2_1.toNatClampNeg ((rsgn v2_1.toNatClampNeg) * (rsiz v2_1.toNatClampNeg))) (upd lowr_2 v2_1.toNatClampNeg (rlow v2_1.toNatClampNeg)))
def f_B_keepWhatIsRead (vals : (Nat → Int32)) (lowr : (Nat → Int32)) (rsgn : (Nat → Int32)) (rsiz : (Nat → Int32)) (rlow : (Nat → Int32)) (n_va : Nat) (n_lr : Nat) (n_rsg : Nat) (n_rsz : Nat) (n_rlo : Nat) : Option ((Nat → Int32) × (Nat → Int32)) :=
  ((f_B_keepWhatIsRead_L2 rsgn rsiz rlow n_va n_lr n_rsg n_rsz n_rlo kBig (0 : Int32) vals lowr).bind fun u1 => some (u1.2.1, u1.2.2))
def f_B_paint_L23 (w : Int32) (str : Int32) (n_sa : Nat) (a1 : Int32) (v8_5 : Int32) : Nat → Int32 → Int32 → Int32 → (Nat → Int32) → Option (Int32 × Int32 × Int32 × (Nat → Int32))
  | 0, _, _, _, _ => none
  | N + 1, v23_3, v23_4, v23_6, sam_23 => (if w ≤ v23_6 then some (v23_3, v23_4, v23_6, sam_23) else if ((f_K_cellOf str v23_6 v8_5) < 0 ∨ n_sa ≤ (f_K_cellOf str v23_6 v8_5).toNatClampNeg) then none else (((if (sam_23 (f_K_cellOf str v23_6 v8_5).toNatClampNeg) = (f_ST_within v23_4 (-32767 : Int32) (32767 : Int32)) then some (v23_3) else some (v23_3 + 1)) : Option (Int32)).bind fun u7 => if ((f_K_cellOf str v23_6 v8_5) < 0 ∨ n_sa ≤ (f_K_cellOf str v23_6 v8_5).toNatClampNeg) then none else f_B_paint_L23 w str n_sa a1 v8_5 N u7 (v23_4 + a1) (v23_6 + 1) (upd sam_23 (f_K_cellOf str v23_6 v8_5).toNatClampNeg (f_ST_within v23_4 (-32767 : Int32) (32767 : Int32)))))
def f_B_paint_L8 (w : Int32) (h : Int32) (str : Int32) (n_sa : Nat) (a1 : Int32) : Nat → Int32 → Int32 → Int32 → (Nat → Int32) → Option (Int32 × Int32 × Int32 × (Nat → Int32))
  | 0, _, _, _, _ => none
  | N + 1, v8_3, v8_4, v8_5, sam_8 => (if h ≤ v8_5 then some (v8_3, v8_4, v8_5, sam_8) else ((f_B_paint_L23 w str n_sa a1 v8_5 kBig v8_3 v8_4 (0 : Int32) sam_8).bind fun u3 => f_B_paint_L8 w h str n_sa a1 N u3.1 u3.2.1 (v8_5 + 1) u3.2.2.2))
def f_B_paint (w : Int32) (h : Int32) (str : Int32) (sam : (Nat → Int32)) (n_sa : Nat) (a0 : Int32) (a1 : Int32) : Option (Int32 × (Nat → Int32)) :=
  ((f_B_paint_L8 w h str n_sa a1 kBig (0 : Int32) a0 (0 : Int32) sam).bind fun u1 => some (u1.1, u1.2.2.2))
def f_B_encode_L30 (w : Int32) (h : Int32) (sty : Int32) (bd : Int32) (str : Int32) (sam : (Nat → Int32)) (n_len : Nat) (n_dis : Nat) (n_sa : Nat) (n_ro : Nat) (n_tsg : Nat) (n_tsz : Nat) (n_tlo : Nat) (u1 : Int32) (u2 : Int32 × (Nat → Int32) × (Nat → Int32) × (Nat → Int32)) : Nat → Int32 → (Nat → Int32) → (Nat → Int64) → Int32 → Int32 → (Nat → Int32) → Int32 → Int32 → (Nat → Int32) → (Nat → Int32) → (Nat → Int32) → Option (Int32 × (Nat → Int32) × (Nat → Int64) × Int32 × Int32 × (Nat → Int32) × Int32 × Int32 × (Nat → Int32) × (Nat → Int32) × (Nat → Int32))
  | 0, _, _, _, _, _, _, _, _, _, _, _ => none
  | N + 1, v30_2, lens_30, diss_30, cnt_30, pn_30, row_30, tpl_30, traw_30, tsgn_30, tsiz_30, tlow_30 => (if (f_ST_passesOf u1) ≤ v30_2 then some (v30_2, lens_30, diss_30, cnt_30, pn_30, row_30, tpl_30, traw_30, tsgn_30, tsiz_30, tlow_30) else ((f_WT_goThrough u2.1 tsgn_30 tsiz_30 tlow_30 w h sty bd str cnt_30 v30_2 sam row_30 n_tsg n_tsz n_tlo n_sa n_ro v30_2).bind fun u5 => if (v30_2 < 0 ∨ n_len ≤ v30_2.toNatClampNeg) then none else ((f_B_squaresNotTold sam u5.2.2.2.2.1 n_sa n_tsz).bind fun u7 => if (v30_2 < 0 ∨ n_dis ≤ v30_2.toNatClampNeg) then none else f_B_encode_L30 w h sty bd str sam n_len n_dis n_sa n_ro n_tsg n_tsz n_tlo u1 u2 N (v30_2 + 1) (upd lens_30 v30_2.toNatClampNeg u5.2.2.2.2.2.2.1) (vp_updL diss_30 v30_2.toNatClampNeg u7) u5.2.2.2.2.2.2.1 v30_2 u5.2.2.2.2.2.2.2 u5.2.1 u5.2.2.1 u5.2.2.2.1 u5.2.2.2.2.1 u5.2.2.2.2.2.1)))
def f_B_encode (w : Int32) (h : Int32) (sty : Int32) (bd : Int32) (str : Int32) (lens : (Nat → Int32)) (diss : (Nat → Int64)) (pn : Int32) (sam : (Nat → Int32)) (row : (Nat → Int32)) (tpl : Int32) (traw : Int32) (tsgn : (Nat → Int32)) (tsiz : (Nat → Int32)) (tlow : (Nat → Int32)) (n_len : Nat) (n_dis : Nat) (n_sa : Nat) (n_ro : Nat) (n_tsg : Nat) (n_tsz : Nat) (n_tlo : Nat) : Option (Int32 × Int32 × (Nat → Int32) × (Nat → Int64) × Int32 × Int32 × (Nat → Int32) × Int32 × Int32 × Int32 × (Nat → Int32) × (Nat → Int32) × (Nat → Int32)) :=
  ((f_B_planesOfSamples sam n_sa).bind fun u1 => ((f_WT_begin tsgn tsiz tlow n_tsg n_tsz n_tlo u1).bind fun u2 => ((f_B_encode_L30 w h sty bd str sam n_len n_dis n_sa n_ro n_tsg n_tsz n_tlo u1 u2 kBig (0 : Int32) lens diss (f_T_forget) pn row tpl traw u2.2.1 u2.2.2.1 u2.2.2.2).bind fun u3 => some ((f_ST_passesOf u1), (f_ST_passesOf u1), u3.2.1, u3.2.2.1, u3.2.2.2.1, u3.2.2.2.2.1, u3.2.2.2.2.2.1, u2.1, u3.2.2.2.2.2.2.1, u3.2.2.2.2.2.2.2.1, u3.2.2.2.2.2.2.2.2.1, u3.2.2.2.2.2.2.2.2.2.1, u3.2.2.2.2.2.2.2.2.2.2))))
def f_B_bits (cnt : Int32) : Int32 :=
  cnt
def f_B_told (pt : Int32) (w : Int32) (h : Int32) (sty : Int32) (bd : Int32) (sam : (Nat → Int32)) (lcn : Int32) (n_sa : Nat) (a0 : Int32) : Option (Int32) :=
  (if a0 = 0 then some (w) else (if a0 = 1 then some (h) else (if a0 = 2 then some (sty) else (if a0 = 3 then some (bd) else (if a0 = 4 then ((f_B_planesOfSamples sam n_sa).bind fun u6 => some (u6)) else (if a0 = 5 then some (pt) else (if a0 = 6 then some (lcn) else some (-1 : Int32))))))))
def f_B_clear (vals : (Nat → Int32)) (lowr : (Nat → Int32)) (sam : (Nat → Int32)) (n_va : Nat) (n_lr : Nat) (n_sa : Nat) : Option (Int32 × (Nat → Int32) × (Nat → Int32) × Int32 × (Nat → Int32) × Int32) :=
  ((f_FI_fillWith sam n_sa (0 : Int32)).bind fun u1 => ((f_FI_fillWith vals n_va (0 : Int32)).bind fun u2 => ((f_FI_fillWith lowr n_lr (0 : Int32)).bind fun u3 => some ((0 : Int32), u2, u3, (f_T_forget), u1, (f_L_forget)))))
theorem d_B_planesOfSamples_0 : decode c_B_planesOfSamples 0 = .ok (.iconst 0, 1) := by decide +kernel
theorem d_B_planesOfSamples_1 : decode c_B_planesOfSamples 1 = .ok (.istore_n 1, 1) := by decide +kernel
theorem d_B_planesOfSamples_2 : decode c_B_planesOfSamples 2 = .ok (.iconst 0, 1) := by decide +kernel
theorem d_B_planesOfSamples_3 : decode c_B_planesOfSamples 3 = .ok (.istore_n 2, 1) := by decide +kernel
theorem d_B_planesOfSamples_4 : decode c_B_planesOfSamples 4 = .ok (.iload_n 2, 1) := by decide +kernel
theorem d_B_planesOfSamples_5 : decode c_B_planesOfSamples 5 = .ok (.aload_n 0, 1) := by decide +kernel
theorem d_B_planesOfSamples_6 : decode c_B_planesOfSamples 6 = .ok (.getfield 26, 3) := by decide +kernel
theorem d_B_planesOfSamples_9 : decode c_B_planesOfSamples 9 = .ok (.arraylength, 1) := by decide +kernel
theorem d_B_planesOfSamples_10 : decode c_B_planesOfSamples 10 = .ok (.if_icmp .ge 21, 3) := by decide +kernel
theorem d_B_planesOfSamples_13 : decode c_B_planesOfSamples 13 = .ok (.iload_n 1, 1) := by decide +kernel
theorem d_B_planesOfSamples_14 : decode c_B_planesOfSamples 14 = .ok (.aload_n 0, 1) := by decide +kernel
theorem d_B_planesOfSamples_15 : decode c_B_planesOfSamples 15 = .ok (.getfield 26, 3) := by decide +kernel
theorem d_B_planesOfSamples_18 : decode c_B_planesOfSamples 18 = .ok (.iload_n 2, 1) := by decide +kernel
theorem d_B_planesOfSamples_19 : decode c_B_planesOfSamples 19 = .ok (.iaload, 1) := by decide +kernel
theorem d_B_planesOfSamples_20 : decode c_B_planesOfSamples 20 = .ok (.invokestatic 206, 3) := by decide +kernel
theorem d_B_planesOfSamples_23 : decode c_B_planesOfSamples 23 = .ok (.ior, 1) := by decide +kernel
theorem d_B_planesOfSamples_24 : decode c_B_planesOfSamples 24 = .ok (.istore_n 1, 1) := by decide +kernel
theorem d_B_planesOfSamples_25 : decode c_B_planesOfSamples 25 = .ok (.iinc 2 1, 3) := by decide +kernel
theorem d_B_planesOfSamples_28 : decode c_B_planesOfSamples 28 = .ok (.goto (-24), 3) := by decide +kernel
theorem d_B_planesOfSamples_31 : decode c_B_planesOfSamples 31 = .ok (.iconst 0, 1) := by decide +kernel
theorem d_B_planesOfSamples_32 : decode c_B_planesOfSamples 32 = .ok (.istore_n 2, 1) := by decide +kernel
theorem d_B_planesOfSamples_33 : decode c_B_planesOfSamples 33 = .ok (.iconst 0, 1) := by decide +kernel
theorem d_B_planesOfSamples_34 : decode c_B_planesOfSamples 34 = .ok (.istore_n 3, 1) := by decide +kernel
theorem d_B_planesOfSamples_35 : decode c_B_planesOfSamples 35 = .ok (.iload_n 3, 1) := by decide +kernel
theorem d_B_planesOfSamples_36 : decode c_B_planesOfSamples 36 = .ok (.bipush 15, 2) := by decide +kernel
theorem d_B_planesOfSamples_38 : decode c_B_planesOfSamples 38 = .ok (.if_icmp .ge 22, 3) := by decide +kernel
theorem d_B_planesOfSamples_41 : decode c_B_planesOfSamples 41 = .ok (.iload_n 1, 1) := by decide +kernel
theorem d_B_planesOfSamples_42 : decode c_B_planesOfSamples 42 = .ok (.iload_n 3, 1) := by decide +kernel
theorem d_B_planesOfSamples_43 : decode c_B_planesOfSamples 43 = .ok (.ishr, 1) := by decide +kernel
theorem d_B_planesOfSamples_44 : decode c_B_planesOfSamples 44 = .ok (.iconst 1, 1) := by decide +kernel
theorem d_B_planesOfSamples_45 : decode c_B_planesOfSamples 45 = .ok (.iand, 1) := by decide +kernel
theorem d_B_planesOfSamples_46 : decode c_B_planesOfSamples 46 = .ok (.iconst 1, 1) := by decide +kernel
theorem d_B_planesOfSamples_47 : decode c_B_planesOfSamples 47 = .ok (.if_icmp .ne 7, 3) := by decide +kernel
theorem d_B_planesOfSamples_50 : decode c_B_planesOfSamples 50 = .ok (.iload_n 3, 1) := by decide +kernel
theorem d_B_planesOfSamples_51 : decode c_B_planesOfSamples 51 = .ok (.iconst 1, 1) := by decide +kernel
theorem d_B_planesOfSamples_52 : decode c_B_planesOfSamples 52 = .ok (.iadd, 1) := by decide +kernel
theorem d_B_planesOfSamples_53 : decode c_B_planesOfSamples 53 = .ok (.istore_n 2, 1) := by decide +kernel
theorem d_B_planesOfSamples_54 : decode c_B_planesOfSamples 54 = .ok (.iinc 3 1, 3) := by decide +kernel
theorem d_B_planesOfSamples_57 : decode c_B_planesOfSamples 57 = .ok (.goto (-22), 3) := by decide +kernel
theorem d_B_planesOfSamples_60 : decode c_B_planesOfSamples 60 = .ok (.iload_n 2, 1) := by decide +kernel
theorem d_B_planesOfSamples_61 : decode c_B_planesOfSamples 61 = .ok (.ireturn, 1) := by decide +kernel
theorem d_B_squaresNotTold_0 : decode c_B_squaresNotTold 0 = .ok (.lconst 0, 1) := by decide +kernel
theorem d_B_squaresNotTold_1 : decode c_B_squaresNotTold 1 = .ok (.lstore_n 1, 1) := by decide +kernel
theorem d_B_squaresNotTold_2 : decode c_B_squaresNotTold 2 = .ok (.iconst 0, 1) := by decide +kernel
theorem d_B_squaresNotTold_3 : decode c_B_squaresNotTold 3 = .ok (.istore_n 3, 1) := by decide +kernel
theorem d_B_squaresNotTold_4 : decode c_B_squaresNotTold 4 = .ok (.iload_n 3, 1) := by decide +kernel
theorem d_B_squaresNotTold_5 : decode c_B_squaresNotTold 5 = .ok (.aload_n 0, 1) := by decide +kernel
theorem d_B_squaresNotTold_6 : decode c_B_squaresNotTold 6 = .ok (.getfield 26, 3) := by decide +kernel
theorem d_B_squaresNotTold_9 : decode c_B_squaresNotTold 9 = .ok (.arraylength, 1) := by decide +kernel
theorem d_B_squaresNotTold_10 : decode c_B_squaresNotTold 10 = .ok (.if_icmp .ge 39, 3) := by decide +kernel
theorem d_B_squaresNotTold_13 : decode c_B_squaresNotTold 13 = .ok (.aload_n 0, 1) := by decide +kernel
theorem d_B_squaresNotTold_14 : decode c_B_squaresNotTold 14 = .ok (.getfield 26, 3) := by decide +kernel
theorem d_B_squaresNotTold_17 : decode c_B_squaresNotTold 17 = .ok (.iload_n 3, 1) := by decide +kernel
theorem d_B_squaresNotTold_18 : decode c_B_squaresNotTold 18 = .ok (.iaload, 1) := by decide +kernel
theorem d_B_squaresNotTold_19 : decode c_B_squaresNotTold 19 = .ok (.invokestatic 206, 3) := by decide +kernel
theorem d_B_squaresNotTold_22 : decode c_B_squaresNotTold 22 = .ok (.aload_n 0, 1) := by decide +kernel
theorem d_B_squaresNotTold_23 : decode c_B_squaresNotTold 23 = .ok (.getfield 44, 3) := by decide +kernel
theorem d_B_squaresNotTold_26 : decode c_B_squaresNotTold 26 = .ok (.getfield 209, 3) := by decide +kernel
theorem d_B_squaresNotTold_29 : decode c_B_squaresNotTold 29 = .ok (.iload_n 3, 1) := by decide +kernel
theorem d_B_squaresNotTold_30 : decode c_B_squaresNotTold 30 = .ok (.iaload, 1) := by decide +kernel
theorem d_B_squaresNotTold_31 : decode c_B_squaresNotTold 31 = .ok (.isub, 1) := by decide +kernel
theorem d_B_squaresNotTold_32 : decode c_B_squaresNotTold 32 = .ok (.i2l, 1) := by decide +kernel
theorem d_B_squaresNotTold_33 : decode c_B_squaresNotTold 33 = .ok (.lstore 4, 2) := by decide +kernel
theorem d_B_squaresNotTold_35 : decode c_B_squaresNotTold 35 = .ok (.lload_n 1, 1) := by decide +kernel
theorem d_B_squaresNotTold_36 : decode c_B_squaresNotTold 36 = .ok (.lload 4, 2) := by decide +kernel
theorem d_B_squaresNotTold_38 : decode c_B_squaresNotTold 38 = .ok (.lload 4, 2) := by decide +kernel
theorem d_B_squaresNotTold_40 : decode c_B_squaresNotTold 40 = .ok (.lmul, 1) := by decide +kernel
theorem d_B_squaresNotTold_41 : decode c_B_squaresNotTold 41 = .ok (.ladd, 1) := by decide +kernel
theorem d_B_squaresNotTold_42 : decode c_B_squaresNotTold 42 = .ok (.lstore_n 1, 1) := by decide +kernel
theorem d_B_squaresNotTold_43 : decode c_B_squaresNotTold 43 = .ok (.iinc 3 1, 3) := by decide +kernel
theorem d_B_squaresNotTold_46 : decode c_B_squaresNotTold 46 = .ok (.goto (-42), 3) := by decide +kernel
theorem d_B_squaresNotTold_49 : decode c_B_squaresNotTold 49 = .ok (.lload_n 1, 1) := by decide +kernel
theorem d_B_squaresNotTold_50 : decode c_B_squaresNotTold 50 = .ok (.lreturn, 1) := by decide +kernel
theorem d_B_keepWhatIsRead_0 : decode c_B_keepWhatIsRead 0 = .ok (.iconst 0, 1) := by decide +kernel
theorem d_B_keepWhatIsRead_1 : decode c_B_keepWhatIsRead 1 = .ok (.istore_n 1, 1) := by decide +kernel
theorem d_B_keepWhatIsRead_2 : decode c_B_keepWhatIsRead 2 = .ok (.iload_n 1, 1) := by decide +kernel
theorem d_B_keepWhatIsRead_3 : decode c_B_keepWhatIsRead 3 = .ok (.aload_n 0, 1) := by decide +kernel
theorem d_B_keepWhatIsRead_4 : decode c_B_keepWhatIsRead 4 = .ok (.getfield 65, 3) := by decide +kernel
theorem d_B_keepWhatIsRead_7 : decode c_B_keepWhatIsRead 7 = .ok (.arraylength, 1) := by decide +kernel
theorem d_B_keepWhatIsRead_8 : decode c_B_keepWhatIsRead 8 = .ok (.if_icmp .ge 49, 3) := by decide +kernel
theorem d_B_keepWhatIsRead_11 : decode c_B_keepWhatIsRead 11 = .ok (.aload_n 0, 1) := by decide +kernel
theorem d_B_keepWhatIsRead_12 : decode c_B_keepWhatIsRead 12 = .ok (.getfield 65, 3) := by decide +kernel
theorem d_B_keepWhatIsRead_15 : decode c_B_keepWhatIsRead 15 = .ok (.iload_n 1, 1) := by decide +kernel
theorem d_B_keepWhatIsRead_16 : decode c_B_keepWhatIsRead 16 = .ok (.aload_n 0, 1) := by decide +kernel
theorem d_B_keepWhatIsRead_17 : decode c_B_keepWhatIsRead 17 = .ok (.getfield 62, 3) := by decide +kernel
theorem d_B_keepWhatIsRead_20 : decode c_B_keepWhatIsRead 20 = .ok (.getfield 212, 3) := by decide +kernel
theorem d_B_keepWhatIsRead_23 : decode c_B_keepWhatIsRead 23 = .ok (.iload_n 1, 1) := by decide +kernel
theorem d_B_keepWhatIsRead_24 : decode c_B_keepWhatIsRead 24 = .ok (.iaload, 1) := by decide +kernel
theorem d_B_keepWhatIsRead_25 : decode c_B_keepWhatIsRead 25 = .ok (.aload_n 0, 1) := by decide +kernel
theorem d_B_keepWhatIsRead_26 : decode c_B_keepWhatIsRead 26 = .ok (.getfield 62, 3) := by decide +kernel
theorem d_B_keepWhatIsRead_29 : decode c_B_keepWhatIsRead 29 = .ok (.getfield 209, 3) := by decide +kernel
theorem d_B_keepWhatIsRead_32 : decode c_B_keepWhatIsRead 32 = .ok (.iload_n 1, 1) := by decide +kernel
theorem d_B_keepWhatIsRead_33 : decode c_B_keepWhatIsRead 33 = .ok (.iaload, 1) := by decide +kernel
theorem d_B_keepWhatIsRead_34 : decode c_B_keepWhatIsRead 34 = .ok (.imul, 1) := by decide +kernel
theorem d_B_keepWhatIsRead_35 : decode c_B_keepWhatIsRead 35 = .ok (.iastore, 1) := by decide +kernel
theorem d_B_keepWhatIsRead_36 : decode c_B_keepWhatIsRead 36 = .ok (.aload_n 0, 1) := by decide +kernel
theorem d_B_keepWhatIsRead_37 : decode c_B_keepWhatIsRead 37 = .ok (.getfield 68, 3) := by decide +kernel
theorem d_B_keepWhatIsRead_40 : decode c_B_keepWhatIsRead 40 = .ok (.iload_n 1, 1) := by decide +kernel
theorem d_B_keepWhatIsRead_41 : decode c_B_keepWhatIsRead 41 = .ok (.aload_n 0, 1) := by decide +kernel
theorem d_B_keepWhatIsRead_42 : decode c_B_keepWhatIsRead 42 = .ok (.getfield 62, 3) := by decide +kernel
theorem d_B_keepWhatIsRead_45 : decode c_B_keepWhatIsRead 45 = .ok (.getfield 215, 3) := by decide +kernel
theorem d_B_keepWhatIsRead_48 : decode c_B_keepWhatIsRead 48 = .ok (.iload_n 1, 1) := by decide +kernel
theorem d_B_keepWhatIsRead_49 : decode c_B_keepWhatIsRead 49 = .ok (.iaload, 1) := by decide +kernel
theorem d_B_keepWhatIsRead_50 : decode c_B_keepWhatIsRead 50 = .ok (.iastore, 1) := by decide +kernel
theorem d_B_keepWhatIsRead_51 : decode c_B_keepWhatIsRead 51 = .ok (.iinc 1 1, 3) := by decide +kernel
theorem d_B_keepWhatIsRead_54 : decode c_B_keepWhatIsRead 54 = .ok (.goto (-52), 3) := by decide +kernel
theorem d_B_keepWhatIsRead_57 : decode c_B_keepWhatIsRead 57 = .ok (.return_, 1) := by decide +kernel
theorem d_B_paint_0 : decode c_B_paint 0 = .ok (.iconst 0, 1) := by decide +kernel
theorem d_B_paint_1 : decode c_B_paint 1 = .ok (.istore_n 3, 1) := by decide +kernel
theorem d_B_paint_2 : decode c_B_paint 2 = .ok (.iload_n 1, 1) := by decide +kernel
theorem d_B_paint_3 : decode c_B_paint 3 = .ok (.istore 4, 2) := by decide +kernel
theorem d_B_paint_5 : decode c_B_paint 5 = .ok (.iconst 0, 1) := by decide +kernel
theorem d_B_paint_6 : decode c_B_paint 6 = .ok (.istore 5, 2) := by decide +kernel
theorem d_B_paint_8 : decode c_B_paint 8 = .ok (.iload 5, 2) := by decide +kernel
theorem d_B_paint_10 : decode c_B_paint 10 = .ok (.aload_n 0, 1) := by decide +kernel
theorem d_B_paint_11 : decode c_B_paint 11 = .ok (.getfield 18, 3) := by decide +kernel
theorem d_B_paint_14 : decode c_B_paint 14 = .ok (.getfield 86, 3) := by decide +kernel
theorem d_B_paint_17 : decode c_B_paint 17 = .ok (.if_icmp .ge 86, 3) := by decide +kernel
theorem d_B_paint_20 : decode c_B_paint 20 = .ok (.iconst 0, 1) := by decide +kernel
theorem d_B_paint_21 : decode c_B_paint 21 = .ok (.istore 6, 2) := by decide +kernel
theorem d_B_paint_23 : decode c_B_paint 23 = .ok (.iload 6, 2) := by decide +kernel
theorem d_B_paint_25 : decode c_B_paint 25 = .ok (.aload_n 0, 1) := by decide +kernel
theorem d_B_paint_26 : decode c_B_paint 26 = .ok (.getfield 18, 3) := by decide +kernel
theorem d_B_paint_29 : decode c_B_paint 29 = .ok (.getfield 89, 3) := by decide +kernel
theorem d_B_paint_32 : decode c_B_paint 32 = .ok (.if_icmp .ge 65, 3) := by decide +kernel
theorem d_B_paint_35 : decode c_B_paint 35 = .ok (.aload_n 0, 1) := by decide +kernel
theorem d_B_paint_36 : decode c_B_paint 36 = .ok (.getfield 18, 3) := by decide +kernel
theorem d_B_paint_39 : decode c_B_paint 39 = .ok (.iload 6, 2) := by decide +kernel
theorem d_B_paint_41 : decode c_B_paint 41 = .ok (.iload 5, 2) := by decide +kernel
theorem d_B_paint_43 : decode c_B_paint 43 = .ok (.invokevirtual 82, 3) := by decide +kernel
theorem d_B_paint_46 : decode c_B_paint 46 = .ok (.istore 7, 2) := by decide +kernel
theorem d_B_paint_48 : decode c_B_paint 48 = .ok (.iload 4, 2) := by decide +kernel
theorem d_B_paint_50 : decode c_B_paint 50 = .ok (.sipush (-32767), 3) := by decide +kernel
theorem d_B_paint_53 : decode c_B_paint 53 = .ok (.sipush 32767, 3) := by decide +kernel
theorem d_B_paint_56 : decode c_B_paint 56 = .ok (.invokestatic 11, 3) := by decide +kernel
theorem d_B_paint_59 : decode c_B_paint 59 = .ok (.istore 8, 2) := by decide +kernel
theorem d_B_paint_61 : decode c_B_paint 61 = .ok (.aload_n 0, 1) := by decide +kernel
theorem d_B_paint_62 : decode c_B_paint 62 = .ok (.getfield 26, 3) := by decide +kernel
theorem d_B_paint_65 : decode c_B_paint 65 = .ok (.iload 7, 2) := by decide +kernel
theorem d_B_paint_67 : decode c_B_paint 67 = .ok (.iaload, 1) := by decide +kernel
theorem d_B_paint_68 : decode c_B_paint 68 = .ok (.iload 8, 2) := by decide +kernel
theorem d_B_paint_70 : decode c_B_paint 70 = .ok (.if_icmp .eq 6, 3) := by decide +kernel
theorem d_B_paint_73 : decode c_B_paint 73 = .ok (.iinc 3 1, 3) := by decide +kernel
theorem d_B_paint_76 : decode c_B_paint 76 = .ok (.aload_n 0, 1) := by decide +kernel
theorem d_B_paint_77 : decode c_B_paint 77 = .ok (.getfield 26, 3) := by decide +kernel
theorem d_B_paint_80 : decode c_B_paint 80 = .ok (.iload 7, 2) := by decide +kernel
theorem d_B_paint_82 : decode c_B_paint 82 = .ok (.iload 8, 2) := by decide +kernel
theorem d_B_paint_84 : decode c_B_paint 84 = .ok (.iastore, 1) := by decide +kernel
theorem d_B_paint_85 : decode c_B_paint 85 = .ok (.iload 4, 2) := by decide +kernel
theorem d_B_paint_87 : decode c_B_paint 87 = .ok (.iload_n 2, 1) := by decide +kernel
theorem d_B_paint_88 : decode c_B_paint 88 = .ok (.iadd, 1) := by decide +kernel
theorem d_B_paint_89 : decode c_B_paint 89 = .ok (.istore 4, 2) := by decide +kernel
theorem d_B_paint_91 : decode c_B_paint 91 = .ok (.iinc 6 1, 3) := by decide +kernel
theorem d_B_paint_94 : decode c_B_paint 94 = .ok (.goto (-71), 3) := by decide +kernel
theorem d_B_paint_97 : decode c_B_paint 97 = .ok (.iinc 5 1, 3) := by decide +kernel
theorem d_B_paint_100 : decode c_B_paint 100 = .ok (.goto (-92), 3) := by decide +kernel
theorem d_B_paint_103 : decode c_B_paint 103 = .ok (.iload_n 3, 1) := by decide +kernel
theorem d_B_paint_104 : decode c_B_paint 104 = .ok (.ireturn, 1) := by decide +kernel
theorem d_B_encode_0 : decode c_B_encode 0 = .ok (.aload_n 0, 1) := by decide +kernel
theorem d_B_encode_1 : decode c_B_encode 1 = .ok (.invokevirtual 92, 3) := by decide +kernel
theorem d_B_encode_4 : decode c_B_encode 4 = .ok (.istore_n 1, 1) := by decide +kernel
theorem d_B_encode_5 : decode c_B_encode 5 = .ok (.aload_n 0, 1) := by decide +kernel
theorem d_B_encode_6 : decode c_B_encode 6 = .ok (.iload_n 1, 1) := by decide +kernel
theorem d_B_encode_7 : decode c_B_encode 7 = .ok (.invokestatic 96, 3) := by decide +kernel
theorem d_B_encode_10 : decode c_B_encode 10 = .ok (.putfield 100, 3) := by decide +kernel
theorem d_B_encode_13 : decode c_B_encode 13 = .ok (.aload_n 0, 1) := by decide +kernel
theorem d_B_encode_14 : decode c_B_encode 14 = .ok (.getfield 35, 3) := by decide +kernel
theorem d_B_encode_17 : decode c_B_encode 17 = .ok (.invokevirtual 103, 3) := by decide +kernel
theorem d_B_encode_20 : decode c_B_encode 20 = .ok (.aload_n 0, 1) := by decide +kernel
theorem d_B_encode_21 : decode c_B_encode 21 = .ok (.getfield 44, 3) := by decide +kernel
theorem d_B_encode_24 : decode c_B_encode 24 = .ok (.iload_n 1, 1) := by decide +kernel
theorem d_B_encode_25 : decode c_B_encode 25 = .ok (.invokevirtual 106, 3) := by decide +kernel
theorem d_B_encode_28 : decode c_B_encode 28 = .ok (.iconst 0, 1) := by decide +kernel
theorem d_B_encode_29 : decode c_B_encode 29 = .ok (.istore_n 2, 1) := by decide +kernel
theorem d_B_encode_30 : decode c_B_encode 30 = .ok (.iload_n 2, 1) := by decide +kernel
theorem d_B_encode_31 : decode c_B_encode 31 = .ok (.aload_n 0, 1) := by decide +kernel
theorem d_B_encode_32 : decode c_B_encode 32 = .ok (.getfield 100, 3) := by decide +kernel
theorem d_B_encode_35 : decode c_B_encode 35 = .ok (.if_icmp .ge 49, 3) := by decide +kernel
theorem d_B_encode_38 : decode c_B_encode 38 = .ok (.aload_n 0, 1) := by decide +kernel
theorem d_B_encode_39 : decode c_B_encode 39 = .ok (.getfield 35, 3) := by decide +kernel
theorem d_B_encode_42 : decode c_B_encode 42 = .ok (.iload_n 2, 1) := by decide +kernel
theorem d_B_encode_43 : decode c_B_encode 43 = .ok (.putfield 110, 3) := by decide +kernel
theorem d_B_encode_46 : decode c_B_encode 46 = .ok (.aload_n 0, 1) := by decide +kernel
theorem d_B_encode_47 : decode c_B_encode 47 = .ok (.getfield 44, 3) := by decide +kernel
theorem d_B_encode_50 : decode c_B_encode 50 = .ok (.iload_n 2, 1) := by decide +kernel
theorem d_B_encode_51 : decode c_B_encode 51 = .ok (.invokevirtual 113, 3) := by decide +kernel
theorem d_B_encode_54 : decode c_B_encode 54 = .ok (.pop, 1) := by decide +kernel
theorem d_B_encode_55 : decode c_B_encode 55 = .ok (.aload_n 0, 1) := by decide +kernel
theorem d_B_encode_56 : decode c_B_encode 56 = .ok (.getfield 48, 3) := by decide +kernel
theorem d_B_encode_59 : decode c_B_encode 59 = .ok (.iload_n 2, 1) := by decide +kernel
theorem d_B_encode_60 : decode c_B_encode 60 = .ok (.aload_n 0, 1) := by decide +kernel
theorem d_B_encode_61 : decode c_B_encode 61 = .ok (.getfield 35, 3) := by decide +kernel
theorem d_B_encode_64 : decode c_B_encode 64 = .ok (.getfield 117, 3) := by decide +kernel
theorem d_B_encode_67 : decode c_B_encode 67 = .ok (.iastore, 1) := by decide +kernel
theorem d_B_encode_68 : decode c_B_encode 68 = .ok (.aload_n 0, 1) := by decide +kernel
theorem d_B_encode_69 : decode c_B_encode 69 = .ok (.getfield 51, 3) := by decide +kernel
theorem d_B_encode_72 : decode c_B_encode 72 = .ok (.iload_n 2, 1) := by decide +kernel
theorem d_B_encode_73 : decode c_B_encode 73 = .ok (.aload_n 0, 1) := by decide +kernel
theorem d_B_encode_74 : decode c_B_encode 74 = .ok (.invokevirtual 120, 3) := by decide +kernel
theorem d_B_encode_77 : decode c_B_encode 77 = .ok (.lastore, 1) := by decide +kernel
theorem d_B_encode_78 : decode c_B_encode 78 = .ok (.iinc 2 1, 3) := by decide +kernel
theorem d_B_encode_81 : decode c_B_encode 81 = .ok (.goto (-51), 3) := by decide +kernel
theorem d_B_encode_84 : decode c_B_encode 84 = .ok (.aload_n 0, 1) := by decide +kernel
theorem d_B_encode_85 : decode c_B_encode 85 = .ok (.getfield 100, 3) := by decide +kernel
theorem d_B_encode_88 : decode c_B_encode 88 = .ok (.ireturn, 1) := by decide +kernel
theorem d_B_bits_0 : decode c_B_bits 0 = .ok (.aload_n 0, 1) := by decide +kernel
theorem d_B_bits_1 : decode c_B_bits 1 = .ok (.getfield 35, 3) := by decide +kernel
theorem d_B_bits_4 : decode c_B_bits 4 = .ok (.getfield 117, 3) := by decide +kernel
theorem d_B_bits_7 : decode c_B_bits 7 = .ok (.ireturn, 1) := by decide +kernel
theorem d_B_told_0 : decode c_B_told 0 = .ok (.iload_n 1, 1) := by decide +kernel
theorem d_B_told_1 : decode c_B_told 1 = .ok (.tableswitch 93 0 6 #[43, 51, 59, 67, 75, 80, 85], 43) := by decide +kernel
theorem d_B_told_44 : decode c_B_told 44 = .ok (.aload_n 0, 1) := by decide +kernel
theorem d_B_told_45 : decode c_B_told 45 = .ok (.getfield 18, 3) := by decide +kernel
theorem d_B_told_48 : decode c_B_told 48 = .ok (.getfield 89, 3) := by decide +kernel
theorem d_B_told_51 : decode c_B_told 51 = .ok (.ireturn, 1) := by decide +kernel
theorem d_B_told_52 : decode c_B_told 52 = .ok (.aload_n 0, 1) := by decide +kernel
theorem d_B_told_53 : decode c_B_told 53 = .ok (.getfield 18, 3) := by decide +kernel
theorem d_B_told_56 : decode c_B_told 56 = .ok (.getfield 86, 3) := by decide +kernel
theorem d_B_told_59 : decode c_B_told 59 = .ok (.ireturn, 1) := by decide +kernel
theorem d_B_told_60 : decode c_B_told 60 = .ok (.aload_n 0, 1) := by decide +kernel
theorem d_B_told_61 : decode c_B_told 61 = .ok (.getfield 18, 3) := by decide +kernel
theorem d_B_told_64 : decode c_B_told 64 = .ok (.getfield 182, 3) := by decide +kernel
theorem d_B_told_67 : decode c_B_told 67 = .ok (.ireturn, 1) := by decide +kernel
theorem d_B_told_68 : decode c_B_told 68 = .ok (.aload_n 0, 1) := by decide +kernel
theorem d_B_told_69 : decode c_B_told 69 = .ok (.getfield 18, 3) := by decide +kernel
theorem d_B_told_72 : decode c_B_told 72 = .ok (.getfield 185, 3) := by decide +kernel
theorem d_B_told_75 : decode c_B_told 75 = .ok (.ireturn, 1) := by decide +kernel
theorem d_B_told_76 : decode c_B_told 76 = .ok (.aload_n 0, 1) := by decide +kernel
theorem d_B_told_77 : decode c_B_told 77 = .ok (.invokevirtual 92, 3) := by decide +kernel
theorem d_B_told_80 : decode c_B_told 80 = .ok (.ireturn, 1) := by decide +kernel
theorem d_B_told_81 : decode c_B_told 81 = .ok (.aload_n 0, 1) := by decide +kernel
theorem d_B_told_82 : decode c_B_told 82 = .ok (.getfield 100, 3) := by decide +kernel
theorem d_B_told_85 : decode c_B_told 85 = .ok (.ireturn, 1) := by decide +kernel
theorem d_B_told_86 : decode c_B_told 86 = .ok (.aload_n 0, 1) := by decide +kernel
theorem d_B_told_87 : decode c_B_told 87 = .ok (.getfield 58, 3) := by decide +kernel
theorem d_B_told_90 : decode c_B_told 90 = .ok (.getfield 157, 3) := by decide +kernel
theorem d_B_told_93 : decode c_B_told 93 = .ok (.ireturn, 1) := by decide +kernel
theorem d_B_told_94 : decode c_B_told 94 = .ok (.iconst (-1), 1) := by decide +kernel
theorem d_B_told_95 : decode c_B_told 95 = .ok (.ireturn, 1) := by decide +kernel
theorem d_B_clear_0 : decode c_B_clear 0 = .ok (.aload_n 0, 1) := by decide +kernel
theorem d_B_clear_1 : decode c_B_clear 1 = .ok (.getfield 26, 3) := by decide +kernel
theorem d_B_clear_4 : decode c_B_clear 4 = .ok (.iconst 0, 1) := by decide +kernel
theorem d_B_clear_5 : decode c_B_clear 5 = .ok (.invokestatic 188, 3) := by decide +kernel
theorem d_B_clear_8 : decode c_B_clear 8 = .ok (.aload_n 0, 1) := by decide +kernel
theorem d_B_clear_9 : decode c_B_clear 9 = .ok (.getfield 35, 3) := by decide +kernel
theorem d_B_clear_12 : decode c_B_clear 12 = .ok (.invokevirtual 103, 3) := by decide +kernel
theorem d_B_clear_15 : decode c_B_clear 15 = .ok (.aload_n 0, 1) := by decide +kernel
theorem d_B_clear_16 : decode c_B_clear 16 = .ok (.iconst 0, 1) := by decide +kernel
theorem d_B_clear_17 : decode c_B_clear 17 = .ok (.putfield 100, 3) := by decide +kernel
theorem d_B_clear_20 : decode c_B_clear 20 = .ok (.aload_n 0, 1) := by decide +kernel
theorem d_B_clear_21 : decode c_B_clear 21 = .ok (.getfield 58, 3) := by decide +kernel
theorem d_B_clear_24 : decode c_B_clear 24 = .ok (.invokevirtual 192, 3) := by decide +kernel
theorem d_B_clear_27 : decode c_B_clear 27 = .ok (.aload_n 0, 1) := by decide +kernel
theorem d_B_clear_28 : decode c_B_clear 28 = .ok (.getfield 65, 3) := by decide +kernel
theorem d_B_clear_31 : decode c_B_clear 31 = .ok (.iconst 0, 1) := by decide +kernel
theorem d_B_clear_32 : decode c_B_clear 32 = .ok (.invokestatic 188, 3) := by decide +kernel
theorem d_B_clear_35 : decode c_B_clear 35 = .ok (.aload_n 0, 1) := by decide +kernel
theorem d_B_clear_36 : decode c_B_clear 36 = .ok (.getfield 68, 3) := by decide +kernel
theorem d_B_clear_39 : decode c_B_clear 39 = .ok (.iconst 0, 1) := by decide +kernel
theorem d_B_clear_40 : decode c_B_clear 40 = .ok (.invokestatic 188, 3) := by decide +kernel
theorem d_B_clear_43 : decode c_B_clear 43 = .ok (.return_, 1) := by decide +kernel
abbrev rm_B_planesOfSamples : Room := { frames := 1, cells := 0, slots := 0, locals := 14 }
set_option maxHeartbeats 4000000 in
set_option maxRecDepth 100000 in
theorem m_B_planesOfSamples (l : Launch) (dC : Nat → ClassId) (dI : Nat → Nat → Nat) (q_bp q_bk q_len q_dis q_va q_lr q_te q_sa q_twk q_li q_rwk : Nat) (k_sa : ClassId) (n_sa : Nat) (pt : Int32) (sam : (Nat → Int32)) (u : Int32) (hF : f_B_planesOfSamples sam n_sa = some u) : Met l y_B_planesOfSamples (kws y_B_planesOfSamples c_B_planesOfSamples 4 (some .int)) rm_B_planesOfSamples (kRe (dC, dI) [.ref q_bp] [(q_bp, .inr (0, [.ref q_bk, .ref q_sa, .ref q_te, .ref q_twk, .ref q_len, .ref q_dis, .int pt, .ref q_li, .ref q_rwk, .ref q_va, .ref q_lr])), (q_sa, .inl (k_sa, n_sa, .inl sam))] [(k_sa, .int)]) (k2_QcV (.int u)) 0 0 (fun _ => False) := by
  unfold f_B_planesOfSamples at hF
  refine kR_of (cc := c_B_planesOfSamples) (maxL := 4) (ret := (some .int)) (by decide) (Nat.le_of_ble_eq_true rfl) ?_
  intro p e s m args below meth c Q hQ hfx hP hK hN ls hl
  obtain ⟨hx, hb, hr, hml, hown, hts, hlocks⟩ := hfx
  have hown : s.vm.findClass R_B = some m.cls := hown
  have hl : lv_has ls 4 [(0, .ref q_bp)] := hl
  refine lv_iconst (v := 0) hx hb d_B_planesOfSamples_0 (by decide) ?_
  refine lv_istore_n (lv' := [(1, .int (0 : Int32)), (0, .ref q_bp)]) hx hb d_B_planesOfSamples_1 rfl hl (by decide) rfl (fun ls hl => ?_)
  refine lv_iconst (v := 0) hx hb d_B_planesOfSamples_2 (by decide) ?_
  refine lv_istore_n (lv' := [(2, .int (0 : Int32)), (1, .int (0 : Int32)), (0, .ref q_bp)]) hx hb d_B_planesOfSamples_3 rfl hl (by decide) rfl (fun ls hl => ?_)
  obtain ⟨u1, hcu1, hF⟩ := kc_bnd hF
  have hJu1_31 : ∀ (ls : Array Slot), lv_has ls 4 [(2, .int u1.2), (1, .int u1.1), (0, .ref q_bp)] → W p l e rm_B_planesOfSamples s m args below meth c s.heap [] 0 0 Q (F0 m 31 ls []) := by
    intro ls hl
    refine lv_iconst (v := 0) hx hb d_B_planesOfSamples_31 (by decide) ?_
    refine lv_istore_n (lv' := [(2, .int (0 : Int32)), (1, .int u1.1), (0, .ref q_bp)]) hx hb d_B_planesOfSamples_32 rfl hl (by decide) rfl (fun ls hl => ?_)
    refine lv_iconst (v := 0) hx hb d_B_planesOfSamples_33 (by decide) ?_
    refine lv_istore_n (lv' := [(3, .int (0 : Int32)), (2, .int (0 : Int32)), (1, .int u1.1), (0, .ref q_bp)]) hx hb d_B_planesOfSamples_34 rfl hl (by decide) rfl (fun ls hl => ?_)
    obtain ⟨u2, hcu2, hF⟩ := kc_bnd hF
    have hJu2_60 : ∀ (ls : Array Slot), lv_has ls 4 [(3, .int u2.2), (2, .int u2.1), (1, .int u1.1), (0, .ref q_bp)] → W p l e rm_B_planesOfSamples s m args below meth c s.heap [] 0 0 Q (F0 m 60 ls []) := by
      intro ls hl
      refine lv_iload_n hx hb d_B_planesOfSamples_60 rfl (lv_at hl 1 rfl) ?_
      obtain rfl := Option.some.inj hF
      exact kr_iret hx hb hr hlocks hQ d_B_planesOfSamples_61
    have hIu2 : ∀ (N : Nat) (v35_2 : Int32) (v35_3 : Int32), f_B_planesOfSamples_L35 u1 N v35_2 v35_3 = some u2 → ∀ (ls : Array Slot), lv_has ls 4 [(3, .int v35_3), (2, .int v35_2), (1, .int u1.1), (0, .ref q_bp)] → W p l e rm_B_planesOfSamples s m args below meth c s.heap [] 0 0 Q (F0 m 35 ls []) := by
      intro N
      induction N with
      | zero => intro v35_2 v35_3 hF; rw [f_B_planesOfSamples_L35] at hF; cases hF
      | succ N ih =>
        intro v35_2 v35_3 hF
        intro ls hl
        rw [f_B_planesOfSamples_L35] at hF
        refine lv_iload_n hx hb d_B_planesOfSamples_35 rfl (lv_at hl 0 rfl) ?_
        refine lv_bipush (v := 15) hx hb d_B_planesOfSamples_36 (by decide) ?_
        refine lv_icmp_ge (tgt := 60) hx hb d_B_planesOfSamples_38 (by decide) (fun c3 => ?_) (fun c3 => ?_)
        · have hF := kc_pos c3 hF
          obtain rfl := Option.some.inj hF
          exact hJu2_60 _ (lv_sub hl [0, 1, 2, 3] rfl)
        have hF := kc_neg c3 hF
        refine lv_iload_n hx hb d_B_planesOfSamples_41 rfl (lv_at hl 2 rfl) ?_
        refine lv_iload_n hx hb d_B_planesOfSamples_42 rfl (lv_at hl 0 rfl) ?_
        refine lv_ishr hx hb d_B_planesOfSamples_43 ?_
        refine lv_iconst (v := 1) hx hb d_B_planesOfSamples_44 (by decide) ?_
        refine lv_iand hx hb d_B_planesOfSamples_45 ?_
        refine lv_iconst (v := 1) hx hb d_B_planesOfSamples_46 (by decide) ?_
        obtain ⟨u5, hcu5, hF⟩ := kc_bnd hF
        have hJu5 : ∀ (ls : Array Slot), lv_has ls 4 [(3, .int v35_3), (2, .int u5), (1, .int u1.1), (0, .ref q_bp)] → W p l e rm_B_planesOfSamples s m args below meth c s.heap [] 0 0 Q (F0 m 54 ls []) := by
          intro ls hl
          refine lv_iinc (v := (v35_3 + 1)) (lv' := [(3, .int (v35_3 + 1)), (2, .int u5), (1, .int u1.1), (0, .ref q_bp)]) hx hb d_B_planesOfSamples_54 hl (k := 0) rfl rfl (by decide) rfl (fun ls hl => ?_)
          refine lv_goto (tgt := 35) hx hb d_B_planesOfSamples_57 (by decide) ?_
          exact ih _ _ hF _ (lv_sub hl [0, 1, 2, 3] rfl)
        clear hF; have hF := hcu5; clear hcu5
        refine lv_icmp_ne (tgt := 54) hx hb d_B_planesOfSamples_47 (by decide) (fun c4 => ?_) (fun c4 => ?_)
        · have hF := kc_neg c4 hF
          obtain rfl := Option.some.inj hF
          exact hJu5 _ (lv_sub hl [0, 1, 2, 3] rfl)
        have hF := kc_pos c4 hF
        refine lv_iload_n hx hb d_B_planesOfSamples_50 rfl (lv_at hl 0 rfl) ?_
        refine lv_iconst (v := 1) hx hb d_B_planesOfSamples_51 (by decide) ?_
        refine lv_iadd hx hb d_B_planesOfSamples_52 ?_
        refine lv_istore_n (lv' := [(2, .int (v35_3 + (1 : Int32))), (3, .int v35_3), (1, .int u1.1), (0, .ref q_bp)]) hx hb d_B_planesOfSamples_53 rfl hl (by decide) rfl (fun ls hl => ?_)
        obtain rfl := Option.some.inj hF
        exact hJu5 _ (lv_sub hl [1, 0, 2, 3] rfl)
    exact hIu2 _ _ _ hcu2 _ (lv_sub hl [0, 1, 2, 3] rfl)
  have hIu1 : ∀ (N : Nat) (v4_1 : Int32) (v4_2 : Int32), f_B_planesOfSamples_L4 sam n_sa N v4_1 v4_2 = some u1 → ∀ (ls : Array Slot), lv_has ls 4 [(2, .int v4_2), (1, .int v4_1), (0, .ref q_bp)] → W p l e rm_B_planesOfSamples s m args below meth c s.heap [] 0 0 Q (F0 m 4 ls []) := by
    intro N
    induction N with
    | zero => intro v4_1 v4_2 hF; rw [f_B_planesOfSamples_L4] at hF; cases hF
    | succ N ih =>
      intro v4_1 v4_2 hF
      intro ls hl
      rw [f_B_planesOfSamples_L4] at hF
      refine lv_iload_n hx hb d_B_planesOfSamples_4 rfl (lv_at hl 0 rfl) ?_
      refine lv_aload_n hx hb d_B_planesOfSamples_5 rfl (lv_at hl 2 rfl) ?_
      refine va_get (D := (dC, dI)) (ci := 0) (v := .ref q_sa) (C := R_B) (T := T_B) (N := 11) hx hb hts ki_B hown hK hP 0 rfl rfl 1 (by decide) (hts _ kw_1_154) (fun _ h9 => h9) rfl d_B_planesOfSamples_6 ?_
      refine va_alen (v := nI n_sa) (ty := .int) hx hb hK hP 1 0 rfl rfl rfl d_B_planesOfSamples_9 ?_
      refine lv_icmp_ge (tgt := 31) hx hb d_B_planesOfSamples_10 (by decide) (fun c6 => ?_) (fun c6 => ?_)
      · have hF := kc_pos c6 hF
        obtain rfl := Option.some.inj hF
        exact hJu1_31 _ (lv_sub hl [0, 1, 2] rfl)
      have hF := kc_neg c6 hF
      refine lv_iload_n hx hb d_B_planesOfSamples_13 rfl (lv_at hl 1 rfl) ?_
      refine lv_aload_n hx hb d_B_planesOfSamples_14 rfl (lv_at hl 2 rfl) ?_
      refine va_get (D := (dC, dI)) (ci := 0) (v := .ref q_sa) (C := R_B) (T := T_B) (N := 11) hx hb hts ki_B hown hK hP 0 rfl rfl 1 (by decide) (hts _ kw_1_154) (fun _ h9 => h9) rfl d_B_planesOfSamples_15 ?_
      refine lv_iload_n hx hb d_B_planesOfSamples_18 rfl (lv_at hl 0 rfl) ?_
      obtain ⟨h7, hF⟩ := kc_no hF
      refine va_iald hx hb hK hP 1 0 rfl rfl h7 d_B_planesOfSamples_19 ?_
      refine va_mabs hx hb (by rw [hml]; exact hl.1.symm) hown (hts _ kw_1_203) (hts _ kw_1_204) (hts _ kw_1_3) (hts _ kw_1_205) (Nat.le_of_ble_eq_true rfl) (Nat.le_of_ble_eq_true rfl) (Nat.le_of_ble_eq_true rfl) (Nat.le_of_ble_eq_true rfl) d_B_planesOfSamples_20 ?_
      refine W.eq (g2 := F0 m 23 ls [.int (kabs (sam v4_2.toNatClampNeg)), .int v4_1]) rfl ?_
      refine lv_ior hx hb d_B_planesOfSamples_23 ?_
      refine lv_istore_n (lv' := [(1, .int (v4_1 ||| (kabs (sam v4_2.toNatClampNeg)))), (2, .int v4_2), (0, .ref q_bp)]) hx hb d_B_planesOfSamples_24 rfl hl (by decide) rfl (fun ls hl => ?_)
      refine lv_iinc (v := (v4_2 + 1)) (lv' := [(2, .int (v4_2 + 1)), (1, .int (v4_1 ||| (kabs (sam v4_2.toNatClampNeg)))), (0, .ref q_bp)]) hx hb d_B_planesOfSamples_25 hl (k := 1) rfl rfl (by decide) rfl (fun ls hl => ?_)
      refine lv_goto (tgt := 4) hx hb d_B_planesOfSamples_28 (by decide) ?_
      exact ih _ _ hF _ (lv_sub hl [0, 1, 2] rfl)
  exact hIu1 _ _ _ hcu1 _ (lv_sub hl [0, 1, 2] rfl)
abbrev rm_B_squaresNotTold : Room := { frames := 1, cells := 0, slots := 0, locals := 13 }
set_option maxHeartbeats 4000000 in
set_option maxRecDepth 100000 in
theorem m_B_squaresNotTold (l : Launch) (dC : Nat → ClassId) (dI : Nat → Nat → Nat) (q_bp q_bk q_len q_dis q_va q_lr q_te q_sa q_twk q_tsg q_tsz q_tlo q_li q_rwk : Nat) (k_sa : ClassId) (n_sa : Nat) (k_tsz : ClassId) (n_tsz : Nat) (pt : Int32) (sam : (Nat → Int32)) (tpls : Int32) (tpl : Int32) (traw : Int32) (tsiz : (Nat → Int32)) (u : Int64) (hF : f_B_squaresNotTold sam tsiz n_sa n_tsz = some u) : Met l y_B_squaresNotTold (kws y_B_squaresNotTold c_B_squaresNotTold 6 (some .long)) rm_B_squaresNotTold (kRe (dC, dI) [.ref q_bp] [(q_bp, .inr (0, [.ref q_bk, .ref q_sa, .ref q_te, .ref q_twk, .ref q_len, .ref q_dis, .int pt, .ref q_li, .ref q_rwk, .ref q_va, .ref q_lr])), (q_sa, .inl (k_sa, n_sa, .inl sam)), (q_twk, .inr (4, [.ref q_bk, .ref q_te, .ref q_tsg, .ref q_tsz, .ref q_tlo, .int tpls, .int tpl, .int traw])), (q_tsz, .inl (k_tsz, n_tsz, .inl tsiz))] [(k_sa, .int), (k_tsz, .int)]) (k2_QcV (.long u)) 0 0 (fun _ => False) := by
  unfold f_B_squaresNotTold at hF
  refine kR_of (cc := c_B_squaresNotTold) (maxL := 6) (ret := (some .long)) (by decide) (Nat.le_of_ble_eq_true rfl) ?_
  intro p e s m args below meth c Q hQ hfx hP hK hN ls hl
  obtain ⟨hx, hb, hr, hml, hown, hts, hlocks⟩ := hfx
  have hown : s.vm.findClass R_B = some m.cls := hown
  have hl : lv_has ls 6 [(0, .ref q_bp)] := hl
  refine lv_lconst (v := 0) hx hb d_B_squaresNotTold_0 (by decide) ?_
  refine lv_lstore_n (lv' := [(1, .long (0 : Int64)), (0, .ref q_bp)]) hx hb d_B_squaresNotTold_1 rfl hl (by decide) rfl (fun ls hl => ?_)
  refine lv_iconst (v := 0) hx hb d_B_squaresNotTold_2 (by decide) ?_
  refine lv_istore_n (lv' := [(3, .int (0 : Int32)), (1, .long (0 : Int64)), (0, .ref q_bp)]) hx hb d_B_squaresNotTold_3 rfl hl (by decide) rfl (fun ls hl => ?_)
  obtain ⟨u1, hcu1, hF⟩ := kc_bnd hF
  have hJu1_49 : ∀ (ls : Array Slot), lv_has ls 6 [(3, .int u1.2), (1, .long u1.1), (0, .ref q_bp)] → W p l e rm_B_squaresNotTold s m args below meth c s.heap [] 0 0 Q (F0 m 49 ls []) := by
    intro ls hl
    refine lv_lload_n hx hb d_B_squaresNotTold_49 rfl (lv_at hl 1 rfl) ?_
    obtain rfl := Option.some.inj hF
    exact kr_lret hx hb hr hlocks hQ d_B_squaresNotTold_50
  have hIu1 : ∀ (N : Nat) (v4_1 : Int64) (v4_3 : Int32), f_B_squaresNotTold_L4 sam tsiz n_sa n_tsz N v4_1 v4_3 = some u1 → ∀ (ls : Array Slot), lv_has ls 6 [(3, .int v4_3), (1, .long v4_1), (0, .ref q_bp)] → W p l e rm_B_squaresNotTold s m args below meth c s.heap [] 0 0 Q (F0 m 4 ls []) := by
    intro N
    induction N with
    | zero => intro v4_1 v4_3 hF; rw [f_B_squaresNotTold_L4] at hF; cases hF
    | succ N ih =>
      intro v4_1 v4_3 hF
      intro ls hl
      rw [f_B_squaresNotTold_L4] at hF
      refine lv_iload_n hx hb d_B_squaresNotTold_4 rfl (lv_at hl 0 rfl) ?_
      refine lv_aload_n hx hb d_B_squaresNotTold_5 rfl (lv_at hl 2 rfl) ?_
      refine va_get (D := (dC, dI)) (ci := 0) (v := .ref q_sa) (C := R_B) (T := T_B) (N := 11) hx hb hts ki_B hown hK hP 0 rfl rfl 1 (by decide) (hts _ kw_1_154) (fun _ h9 => h9) rfl d_B_squaresNotTold_6 ?_
      refine va_alen (v := nI n_sa) (ty := .int) hx hb hK hP 1 0 rfl rfl rfl d_B_squaresNotTold_9 ?_
      refine lv_icmp_ge (tgt := 49) hx hb d_B_squaresNotTold_10 (by decide) (fun c2 => ?_) (fun c2 => ?_)
      · have hF := kc_pos c2 hF
        obtain rfl := Option.some.inj hF
        exact hJu1_49 _ (lv_sub hl [0, 1, 2] rfl)
      have hF := kc_neg c2 hF
      refine lv_aload_n hx hb d_B_squaresNotTold_13 rfl (lv_at hl 2 rfl) ?_
      refine va_get (D := (dC, dI)) (ci := 0) (v := .ref q_sa) (C := R_B) (T := T_B) (N := 11) hx hb hts ki_B hown hK hP 0 rfl rfl 1 (by decide) (hts _ kw_1_154) (fun _ h9 => h9) rfl d_B_squaresNotTold_14 ?_
      refine lv_iload_n hx hb d_B_squaresNotTold_17 rfl (lv_at hl 0 rfl) ?_
      obtain ⟨h3, hF⟩ := kc_no hF
      refine va_iald hx hb hK hP 1 0 rfl rfl h3 d_B_squaresNotTold_18 ?_
      refine va_mabs hx hb (by rw [hml]; exact hl.1.symm) hown (hts _ kw_1_203) (hts _ kw_1_204) (hts _ kw_1_3) (hts _ kw_1_205) (Nat.le_of_ble_eq_true rfl) (Nat.le_of_ble_eq_true rfl) (Nat.le_of_ble_eq_true rfl) (Nat.le_of_ble_eq_true rfl) d_B_squaresNotTold_19 ?_
      refine W.eq (g2 := F0 m 22 ls [.int (kabs (sam v4_3.toNatClampNeg))]) rfl ?_
      refine lv_aload_n hx hb d_B_squaresNotTold_22 rfl (lv_at hl 2 rfl) ?_
      refine va_get (D := (dC, dI)) (ci := 0) (v := .ref q_twk) (C := R_B) (T := T_B) (N := 11) hx hb hts ki_B hown hK hP 0 rfl rfl 3 (by decide) (hts _ kw_1_156) (fun _ h9 => h9) rfl d_B_squaresNotTold_23 ?_
      refine va_get (D := (dC, dI)) (ci := 4) (v := .ref q_tsz) (C := R_W) (T := T_W) (N := 8) hx hb hts ki_W hown hK hP 2 rfl rfl 3 (by decide) (hts _ kw_1_108) (fun _ h9 => h9) rfl d_B_squaresNotTold_26 ?_
      refine lv_iload_n hx hb d_B_squaresNotTold_29 rfl (lv_at hl 0 rfl) ?_
      obtain ⟨h4, hF⟩ := kc_no hF
      refine va_iald hx hb hK hP 3 1 rfl rfl h4 d_B_squaresNotTold_30 ?_
      refine lv_isub hx hb d_B_squaresNotTold_31 ?_
      refine lv_i2l (v := ((kabs (sam v4_3.toNatClampNeg)) - (tsiz v4_3.toNatClampNeg)).toInt64) hx hb d_B_squaresNotTold_32 rfl ?_
      refine lv_lstore (lv' := [(4, .long ((kabs (sam v4_3.toNatClampNeg)) - (tsiz v4_3.toNatClampNeg)).toInt64), (3, .int v4_3), (1, .long v4_1), (0, .ref q_bp)]) hx hb d_B_squaresNotTold_33 hl (by decide) rfl (fun ls hl => ?_)
      refine lv_lload_n hx hb d_B_squaresNotTold_35 rfl (lv_at hl 2 rfl) ?_
      refine lv_lload hx hb d_B_squaresNotTold_36 (lv_at hl 0 rfl) ?_
      refine lv_lload hx hb d_B_squaresNotTold_38 (lv_at hl 0 rfl) ?_
      refine lv_lmul hx hb d_B_squaresNotTold_40 ?_
      refine lv_ladd hx hb d_B_squaresNotTold_41 ?_
      refine lv_lstore_n (lv' := [(1, .long (v4_1 + (((kabs (sam v4_3.toNatClampNeg)) - (tsiz v4_3.toNatClampNeg)).toInt64 * ((kabs (sam v4_3.toNatClampNeg)) - (tsiz v4_3.toNatClampNeg)).toInt64))), (4, .long ((kabs (sam v4_3.toNatClampNeg)) - (tsiz v4_3.toNatClampNeg)).toInt64), (3, .int v4_3), (0, .ref q_bp)]) hx hb d_B_squaresNotTold_42 rfl hl (by decide) rfl (fun ls hl => ?_)
      refine lv_iinc (v := (v4_3 + 1)) (lv' := [(3, .int (v4_3 + 1)), (1, .long (v4_1 + (((kabs (sam v4_3.toNatClampNeg)) - (tsiz v4_3.toNatClampNeg)).toInt64 * ((kabs (sam v4_3.toNatClampNeg)) - (tsiz v4_3.toNatClampNeg)).toInt64))), (4, .long ((kabs (sam v4_3.toNatClampNeg)) - (tsiz v4_3.toNatClampNeg)).toInt64), (0, .ref q_bp)]) hx hb d_B_squaresNotTold_43 hl (k := 2) rfl rfl (by decide) rfl (fun ls hl => ?_)
      refine lv_goto (tgt := 4) hx hb d_B_squaresNotTold_46 (by decide) ?_
      exact ih _ _ hF _ (lv_sub hl [0, 1, 3] rfl)
  exact hIu1 _ _ _ hcu1 _ (lv_sub hl [0, 1, 2] rfl)
abbrev rm_B_keepWhatIsRead : Room := { frames := 0, cells := 0, slots := 0, locals := 0 }
set_option maxHeartbeats 4000000 in
set_option maxRecDepth 100000 in
theorem m_B_keepWhatIsRead (l : Launch) (dC : Nat → ClassId) (dI : Nat → Nat → Nat) (q_bp q_bk q_len q_dis q_va q_lr q_te q_sa q_twk q_li q_rwk q_rsg q_rsz q_rlo : Nat) (k_va : ClassId) (n_va : Nat) (k_lr : ClassId) (n_lr : Nat) (k_rsg : ClassId) (n_rsg : Nat) (k_rsz : ClassId) (n_rsz : Nat) (k_rlo : ClassId) (n_rlo : Nat) (pt : Int32) (vals : (Nat → Int32)) (lowr : (Nat → Int32)) (rpls : Int32) (rpl : Int32) (rraw : Int32) (rsgn : (Nat → Int32)) (rsiz : (Nat → Int32)) (rlow : (Nat → Int32)) (u : (Nat → Int32) × (Nat → Int32)) (hF : f_B_keepWhatIsRead vals lowr rsgn rsiz rlow n_va n_lr n_rsg n_rsz n_rlo = some u) : ∀ sz : Nat, Met l y_B_keepWhatIsRead (kws y_B_keepWhatIsRead c_B_keepWhatIsRead 2 none) rm_B_keepWhatIsRead (kPre (dC, dI) [.ref q_bp] [(q_bp, .inr (0, [.ref q_bk, .ref q_sa, .ref q_te, .ref q_twk, .ref q_len, .ref q_dis, .int pt, .ref q_li, .ref q_rwk, .ref q_va, .ref q_lr])), (q_va, .inl (k_va, n_va, .inl vals)), (q_lr, .inl (k_lr, n_lr, .inl lowr)), (q_rwk, .inr (4, [.ref q_bk, .ref q_li, .ref q_rsg, .ref q_rsz, .ref q_rlo, .int rpls, .int rpl, .int rraw])), (q_rsg, .inl (k_rsg, n_rsg, .inl rsgn)), (q_rsz, .inl (k_rsz, n_rsz, .inl rsiz)), (q_rlo, .inl (k_rlo, n_rlo, .inl rlow))] [(k_va, .int), (k_lr, .int), (k_rsg, .int), (k_rsz, .int), (k_rlo, .int)] sz) (kPost (dC, dI) none [(q_bp, .inr (0, [.ref q_bk, .ref q_sa, .ref q_te, .ref q_twk, .ref q_len, .ref q_dis, .int pt, .ref q_li, .ref q_rwk, .ref q_va, .ref q_lr])), (q_va, .inl (k_va, n_va, .inl u.1)), (q_lr, .inl (k_lr, n_lr, .inl u.2)), (q_rwk, .inr (4, [.ref q_bk, .ref q_li, .ref q_rsg, .ref q_rsz, .ref q_rlo, .int rpls, .int rpl, .int rraw])), (q_rsg, .inl (k_rsg, n_rsg, .inl rsgn)), (q_rsz, .inl (k_rsz, n_rsz, .inl rsiz)), (q_rlo, .inl (k_rlo, n_rlo, .inl rlow))] (va_A [(q_bp, .inr (0, [.ref q_bk, .ref q_sa, .ref q_te, .ref q_twk, .ref q_len, .ref q_dis, .int pt, .ref q_li, .ref q_rwk, .ref q_va, .ref q_lr])), (q_va, .inl (k_va, n_va, .inl vals)), (q_lr, .inl (k_lr, n_lr, .inl lowr)), (q_rwk, .inr (4, [.ref q_bk, .ref q_li, .ref q_rsg, .ref q_rsz, .ref q_rlo, .int rpls, .int rpl, .int rraw])), (q_rsg, .inl (k_rsg, n_rsg, .inl rsgn)), (q_rsz, .inl (k_rsz, n_rsz, .inl rsiz)), (q_rlo, .inl (k_rlo, n_rlo, .inl rlow))] sz)) 0 0 (va_A [(q_bp, .inr (0, [.ref q_bk, .ref q_sa, .ref q_te, .ref q_twk, .ref q_len, .ref q_dis, .int pt, .ref q_li, .ref q_rwk, .ref q_va, .ref q_lr])), (q_va, .inl (k_va, n_va, .inl vals)), (q_lr, .inl (k_lr, n_lr, .inl lowr)), (q_rwk, .inr (4, [.ref q_bk, .ref q_li, .ref q_rsg, .ref q_rsz, .ref q_rlo, .int rpls, .int rpl, .int rraw])), (q_rsg, .inl (k_rsg, n_rsg, .inl rsgn)), (q_rsz, .inl (k_rsz, n_rsz, .inl rsiz)), (q_rlo, .inl (k_rlo, n_rlo, .inl rlow))] sz) := by
  unfold f_B_keepWhatIsRead at hF
  refine kU_of (cc := c_B_keepWhatIsRead) (maxL := 2) (ret := none) (by decide) (Nat.le_of_ble_eq_true rfl) ?_
  intro p e s m args below meth c Q A hQ hfx hK hN hA H locs ls hP hD hS hl
  obtain ⟨hx, hb, hr, hml, hown, hts, hlocks⟩ := hfx
  have hown : s.vm.findClass R_B = some m.cls := hown
  have hl : lv_has ls 2 [(0, .ref q_bp)] := hl
  refine lv_iconst (v := 0) hx hb d_B_keepWhatIsRead_0 (by decide) ?_
  refine lv_istore_n (lv' := [(1, .int (0 : Int32)), (0, .ref q_bp)]) hx hb d_B_keepWhatIsRead_1 rfl hl (by decide) rfl (fun ls hl => ?_)
  obtain ⟨u1, hcu1, hF⟩ := kc_bnd hF
  have hJu1_57 : ∀ (H : Heap) (locs : List Loc) (ls : Array Slot), va_P (dC, dI) vwCl [(q_bp, .inr (0, [.ref q_bk, .ref q_sa, .ref q_te, .ref q_twk, .ref q_len, .ref q_dis, .int pt, .ref q_li, .ref q_rwk, .ref q_va, .ref q_lr])), (q_va, .inl (k_va, n_va, .inl u1.2.1)), (q_lr, .inl (k_lr, n_lr, .inl u1.2.2)), (q_rwk, .inr (4, [.ref q_bk, .ref q_li, .ref q_rsg, .ref q_rsz, .ref q_rlo, .int rpls, .int rpl, .int rraw])), (q_rsg, .inl (k_rsg, n_rsg, .inl rsgn)), (q_rsz, .inl (k_rsz, n_rsz, .inl rsiz)), (q_rlo, .inl (k_rlo, n_rlo, .inl rlow))] H → va_D A [(q_bp, .inr (0, [.ref q_bk, .ref q_sa, .ref q_te, .ref q_twk, .ref q_len, .ref q_dis, .int pt, .ref q_li, .ref q_rwk, .ref q_va, .ref q_lr])), (q_va, .inl (k_va, n_va, .inl u1.2.1)), (q_lr, .inl (k_lr, n_lr, .inl u1.2.2)), (q_rwk, .inr (4, [.ref q_bk, .ref q_li, .ref q_rsg, .ref q_rsz, .ref q_rlo, .int rpls, .int rpl, .int rraw])), (q_rsg, .inl (k_rsg, n_rsg, .inl rsgn)), (q_rsz, .inl (k_rsz, n_rsz, .inl rsiz)), (q_rlo, .inl (k_rlo, n_rlo, .inl rlow))] → va_S A s.heap H locs → lv_has ls 2 [(1, .int u1.1), (0, .ref q_bp)] → W p l e rm_B_keepWhatIsRead s m args below meth c H locs 0 0 Q (F0 m 57 ls []) := by
    intro H locs ls hP hD hS hl
    obtain rfl := Option.some.inj hF
    exact ku_vret hx hb hr hlocks hQ (hP.sub [0, 1, 2, 3, 4, 5, 6] rfl) (hD.sub [0, 1, 2, 3, 4, 5, 6] (by decide) rfl) hS d_B_keepWhatIsRead_57
  have hIu1 : ∀ (N : Nat) (v2_1 : Int32) (vals_2 : (Nat → Int32)) (lowr_2 : (Nat → Int32)), f_B_keepWhatIsRead_L2 rsgn rsiz rlow n_va n_lr n_rsg n_rsz n_rlo N v2_1 vals_2 lowr_2 = some u1 → ∀ (H : Heap) (locs : List Loc) (ls : Array Slot), va_P (dC, dI) vwCl [(q_bp, .inr (0, [.ref q_bk, .ref q_sa, .ref q_te, .ref q_twk, .ref q_len, .ref q_dis, .int pt, .ref q_li, .ref q_rwk, .ref q_va, .ref q_lr])), (q_va, .inl (k_va, n_va, .inl vals_2)), (q_lr, .inl (k_lr, n_lr, .inl lowr_2)), (q_rwk, .inr (4, [.ref q_bk, .ref q_li, .ref q_rsg, .ref q_rsz, .ref q_rlo, .int rpls, .int rpl, .int rraw])), (q_rsg, .inl (k_rsg, n_rsg, .inl rsgn)), (q_rsz, .inl (k_rsz, n_rsz, .inl rsiz)), (q_rlo, .inl (k_rlo, n_rlo, .inl rlow))] H → va_D A [(q_bp, .inr (0, [.ref q_bk, .ref q_sa, .ref q_te, .ref q_twk, .ref q_len, .ref q_dis, .int pt, .ref q_li, .ref q_rwk, .ref q_va, .ref q_lr])), (q_va, .inl (k_va, n_va, .inl vals_2)), (q_lr, .inl (k_lr, n_lr, .inl lowr_2)), (q_rwk, .inr (4, [.ref q_bk, .ref q_li, .ref q_rsg, .ref q_rsz, .ref q_rlo, .int rpls, .int rpl, .int rraw])), (q_rsg, .inl (k_rsg, n_rsg, .inl rsgn)), (q_rsz, .inl (k_rsz, n_rsz, .inl rsiz)), (q_rlo, .inl (k_rlo, n_rlo, .inl rlow))] → va_S A s.heap H locs → lv_has ls 2 [(1, .int v2_1), (0, .ref q_bp)] → W p l e rm_B_keepWhatIsRead s m args below meth c H locs 0 0 Q (F0 m 2 ls []) := by
    intro N
    induction N with
    | zero => intro v2_1 vals_2 lowr_2 hF; rw [f_B_keepWhatIsRead_L2] at hF; cases hF
    | succ N ih =>
      intro v2_1 vals_2 lowr_2 hF
      intro H locs ls hP hD hS hl
      rw [f_B_keepWhatIsRead_L2] at hF
      refine lv_iload_n hx hb d_B_keepWhatIsRead_2 rfl (lv_at hl 0 rfl) ?_
      refine lv_aload_n hx hb d_B_keepWhatIsRead_3 rfl (lv_at hl 1 rfl) ?_
      refine va_get (D := (dC, dI)) (ci := 0) (v := .ref q_va) (C := R_B) (T := T_B) (N := 11) hx hb hts ki_B hown hK hP 0 rfl rfl 9 (by decide) (hts _ kw_1_162) (fun _ h9 => h9) rfl d_B_keepWhatIsRead_4 ?_
      refine va_alen (v := nI n_va) (ty := .int) hx hb hK hP 1 0 rfl rfl rfl d_B_keepWhatIsRead_7 ?_
      refine lv_icmp_ge (tgt := 57) hx hb d_B_keepWhatIsRead_8 (by decide) (fun c2 => ?_) (fun c2 => ?_)
      · have hF := kc_pos c2 hF
        obtain rfl := Option.some.inj hF
        exact hJu1_57 _ _ _ hP hD hS (lv_sub hl [0, 1] rfl)
      have hF := kc_neg c2 hF
      refine lv_aload_n hx hb d_B_keepWhatIsRead_11 rfl (lv_at hl 1 rfl) ?_
      refine va_get (D := (dC, dI)) (ci := 0) (v := .ref q_va) (C := R_B) (T := T_B) (N := 11) hx hb hts ki_B hown hK hP 0 rfl rfl 9 (by decide) (hts _ kw_1_162) (fun _ h9 => h9) rfl d_B_keepWhatIsRead_12 ?_
      refine lv_iload_n hx hb d_B_keepWhatIsRead_15 rfl (lv_at hl 0 rfl) ?_
      refine lv_aload_n hx hb d_B_keepWhatIsRead_16 rfl (lv_at hl 1 rfl) ?_
      refine va_get (D := (dC, dI)) (ci := 0) (v := .ref q_rwk) (C := R_B) (T := T_B) (N := 11) hx hb hts ki_B hown hK hP 0 rfl rfl 8 (by decide) (hts _ kw_1_161) (fun _ h9 => h9) rfl d_B_keepWhatIsRead_17 ?_
      refine va_get (D := (dC, dI)) (ci := 4) (v := .ref q_rsg) (C := R_W) (T := T_W) (N := 8) hx hb hts ki_W hown hK hP 3 rfl rfl 2 (by decide) (hts _ kw_1_106) (fun _ h9 => h9) rfl d_B_keepWhatIsRead_20 ?_
      refine lv_iload_n hx hb d_B_keepWhatIsRead_23 rfl (lv_at hl 0 rfl) ?_
      obtain ⟨h3, hF⟩ := kc_no hF
      refine va_iald hx hb hK hP 4 2 rfl rfl h3 d_B_keepWhatIsRead_24 ?_
      refine lv_aload_n hx hb d_B_keepWhatIsRead_25 rfl (lv_at hl 1 rfl) ?_
      refine va_get (D := (dC, dI)) (ci := 0) (v := .ref q_rwk) (C := R_B) (T := T_B) (N := 11) hx hb hts ki_B hown hK hP 0 rfl rfl 8 (by decide) (hts _ kw_1_161) (fun _ h9 => h9) rfl d_B_keepWhatIsRead_26 ?_
      refine va_get (D := (dC, dI)) (ci := 4) (v := .ref q_rsz) (C := R_W) (T := T_W) (N := 8) hx hb hts ki_W hown hK hP 3 rfl rfl 3 (by decide) (hts _ kw_1_108) (fun _ h9 => h9) rfl d_B_keepWhatIsRead_29 ?_
      refine lv_iload_n hx hb d_B_keepWhatIsRead_32 rfl (lv_at hl 0 rfl) ?_
      obtain ⟨h4, hF⟩ := kc_no hF
      refine va_iald hx hb hK hP 5 3 rfl rfl h4 d_B_keepWhatIsRead_33 ?_
      refine lv_imul hx hb d_B_keepWhatIsRead_34 ?_
      obtain ⟨h5, hF⟩ := kc_no hF
      refine va_iast hx hb hK hP hD hS 1 0 rfl rfl h5 d_B_keepWhatIsRead_35 (fun H locs hP hD hS => ?_)
      have hP : va_P (dC, dI) vwCl [(q_bp, .inr (0, [.ref q_bk, .ref q_sa, .ref q_te, .ref q_twk, .ref q_len, .ref q_dis, .int pt, .ref q_li, .ref q_rwk, .ref q_va, .ref q_lr])), (q_va, .inl (k_va, n_va, .inl (upd vals_2 v2_1.toNatClampNeg ((rsgn v2_1.toNatClampNeg) * (rsiz v2_1.toNatClampNeg))))), (q_lr, .inl (k_lr, n_lr, .inl lowr_2)), (q_rwk, .inr (4, [.ref q_bk, .ref q_li, .ref q_rsg, .ref q_rsz, .ref q_rlo, .int rpls, .int rpl, .int rraw])), (q_rsg, .inl (k_rsg, n_rsg, .inl rsgn)), (q_rsz, .inl (k_rsz, n_rsz, .inl rsiz)), (q_rlo, .inl (k_rlo, n_rlo, .inl rlow))] H := hP
      have hD : va_D A [(q_bp, .inr (0, [.ref q_bk, .ref q_sa, .ref q_te, .ref q_twk, .ref q_len, .ref q_dis, .int pt, .ref q_li, .ref q_rwk, .ref q_va, .ref q_lr])), (q_va, .inl (k_va, n_va, .inl (upd vals_2 v2_1.toNatClampNeg ((rsgn v2_1.toNatClampNeg) * (rsiz v2_1.toNatClampNeg))))), (q_lr, .inl (k_lr, n_lr, .inl lowr_2)), (q_rwk, .inr (4, [.ref q_bk, .ref q_li, .ref q_rsg, .ref q_rsz, .ref q_rlo, .int rpls, .int rpl, .int rraw])), (q_rsg, .inl (k_rsg, n_rsg, .inl rsgn)), (q_rsz, .inl (k_rsz, n_rsz, .inl rsiz)), (q_rlo, .inl (k_rlo, n_rlo, .inl rlow))] := hD
      refine lv_aload_n hx hb d_B_keepWhatIsRead_36 rfl (lv_at hl 1 rfl) ?_
      refine va_get (D := (dC, dI)) (ci := 0) (v := .ref q_lr) (C := R_B) (T := T_B) (N := 11) hx hb hts ki_B hown hK hP 0 rfl rfl 10 (by decide) (hts _ kw_1_163) (fun _ h9 => h9) rfl d_B_keepWhatIsRead_37 ?_
      refine lv_iload_n hx hb d_B_keepWhatIsRead_40 rfl (lv_at hl 0 rfl) ?_
      refine lv_aload_n hx hb d_B_keepWhatIsRead_41 rfl (lv_at hl 1 rfl) ?_
      refine va_get (D := (dC, dI)) (ci := 0) (v := .ref q_rwk) (C := R_B) (T := T_B) (N := 11) hx hb hts ki_B hown hK hP 0 rfl rfl 8 (by decide) (hts _ kw_1_161) (fun _ h9 => h9) rfl d_B_keepWhatIsRead_42 ?_
      refine va_get (D := (dC, dI)) (ci := 4) (v := .ref q_rlo) (C := R_W) (T := T_W) (N := 8) hx hb hts ki_W hown hK hP 3 rfl rfl 4 (by decide) (hts _ kw_1_110) (fun _ h9 => h9) rfl d_B_keepWhatIsRead_45 ?_
      refine lv_iload_n hx hb d_B_keepWhatIsRead_48 rfl (lv_at hl 0 rfl) ?_
      obtain ⟨h6, hF⟩ := kc_no hF
      refine va_iald hx hb hK hP 6 4 rfl rfl h6 d_B_keepWhatIsRead_49 ?_
      obtain ⟨h7, hF⟩ := kc_no hF
      refine va_iast hx hb hK hP hD hS 2 1 rfl rfl h7 d_B_keepWhatIsRead_50 (fun H locs hP hD hS => ?_)
      have hP : va_P (dC, dI) vwCl [(q_bp, .inr (0, [.ref q_bk, .ref q_sa, .ref q_te, .ref q_twk, .ref q_len, .ref q_dis, .int pt, .ref q_li, .ref q_rwk, .ref q_va, .ref q_lr])), (q_va, .inl (k_va, n_va, .inl (upd vals_2 v2_1.toNatClampNeg ((rsgn v2_1.toNatClampNeg) * (rsiz v2_1.toNatClampNeg))))), (q_lr, .inl (k_lr, n_lr, .inl (upd lowr_2 v2_1.toNatClampNeg (rlow v2_1.toNatClampNeg)))), (q_rwk, .inr (4, [.ref q_bk, .ref q_li, .ref q_rsg, .ref q_rsz, .ref q_rlo, .int rpls, .int rpl, .int rraw])), (q_rsg, .inl (k_rsg, n_rsg, .inl rsgn)), (q_rsz, .inl (k_rsz, n_rsz, .inl rsiz)), (q_rlo, .inl (k_rlo, n_rlo, .inl rlow))] H := hP
      have hD : va_D A [(q_bp, .inr (0, [.ref q_bk, .ref q_sa, .ref q_te, .ref q_twk, .ref q_len, .ref q_dis, .int pt, .ref q_li, .ref q_rwk, .ref q_va, .ref q_lr])), (q_va, .inl (k_va, n_va, .inl (upd vals_2 v2_1.toNatClampNeg ((rsgn v2_1.toNatClampNeg) * (rsiz v2_1.toNatClampNeg))))), (q_lr, .inl (k_lr, n_lr, .inl (upd lowr_2 v2_1.toNatClampNeg (rlow v2_1.toNatClampNeg)))), (q_rwk, .inr (4, [.ref q_bk, .ref q_li, .ref q_rsg, .ref q_rsz, .ref q_rlo, .int rpls, .int rpl, .int rraw])), (q_rsg, .inl (k_rsg, n_rsg, .inl rsgn)), (q_rsz, .inl (k_rsz, n_rsz, .inl rsiz)), (q_rlo, .inl (k_rlo, n_rlo, .inl rlow))] := hD
      refine lv_iinc (v := (v2_1 + 1)) (lv' := [(1, .int (v2_1 + 1)), (0, .ref q_bp)]) hx hb d_B_keepWhatIsRead_51 hl (k := 0) rfl rfl (by decide) rfl (fun ls hl => ?_)
      refine lv_goto (tgt := 2) hx hb d_B_keepWhatIsRead_54 (by decide) ?_
      exact ih _ _ _ hF _ _ _ hP hD hS (lv_sub hl [0, 1] rfl)
  exact hIu1 _ _ _ _ hcu1 _ _ _ hP hD hS (lv_sub hl [0, 1] rfl)
abbrev rm_B_paint : Room := { frames := 2, cells := 0, slots := 0, locals := 36 }
set_option maxHeartbeats 4000000 in
set_option maxRecDepth 100000 in
theorem m_B_paint (l : Launch) (dC : Nat → ClassId) (dI : Nat → Nat → Nat) (q_bp q_bk q_len q_dis q_va q_lr q_te q_sa q_twk q_li q_rwk : Nat) (k_sa : ClassId) (n_sa : Nat) (pt : Int32) (w : Int32) (h : Int32) (sty : Int32) (bd : Int32) (str : Int32) (cel : Int32) (sam : (Nat → Int32)) (a0 : Int32) (a1 : Int32) (u : Int32 × (Nat → Int32)) (hF : f_B_paint w h str sam n_sa a0 a1 = some u) : ∀ sz : Nat, Met l y_B_paint (kws y_B_paint c_B_paint 9 (some .int)) rm_B_paint (kPre (dC, dI) [.ref q_bp, .int a0, .int a1] [(q_bp, .inr (0, [.ref q_bk, .ref q_sa, .ref q_te, .ref q_twk, .ref q_len, .ref q_dis, .int pt, .ref q_li, .ref q_rwk, .ref q_va, .ref q_lr])), (q_bk, .inr (1, [.int w, .int h, .int sty, .int bd, .int str, .int cel])), (q_sa, .inl (k_sa, n_sa, .inl sam))] [(k_sa, .int)] sz) (kPost (dC, dI) (some (.int u.1)) [(q_bp, .inr (0, [.ref q_bk, .ref q_sa, .ref q_te, .ref q_twk, .ref q_len, .ref q_dis, .int pt, .ref q_li, .ref q_rwk, .ref q_va, .ref q_lr])), (q_bk, .inr (1, [.int w, .int h, .int sty, .int bd, .int str, .int cel])), (q_sa, .inl (k_sa, n_sa, .inl u.2))] (va_A [(q_bp, .inr (0, [.ref q_bk, .ref q_sa, .ref q_te, .ref q_twk, .ref q_len, .ref q_dis, .int pt, .ref q_li, .ref q_rwk, .ref q_va, .ref q_lr])), (q_bk, .inr (1, [.int w, .int h, .int sty, .int bd, .int str, .int cel])), (q_sa, .inl (k_sa, n_sa, .inl sam))] sz)) 0 0 (va_A [(q_bp, .inr (0, [.ref q_bk, .ref q_sa, .ref q_te, .ref q_twk, .ref q_len, .ref q_dis, .int pt, .ref q_li, .ref q_rwk, .ref q_va, .ref q_lr])), (q_bk, .inr (1, [.int w, .int h, .int sty, .int bd, .int str, .int cel])), (q_sa, .inl (k_sa, n_sa, .inl sam))] sz) := by
  unfold f_B_paint at hF
  refine kU_of (cc := c_B_paint) (maxL := 9) (ret := (some .int)) (by decide) (Nat.le_of_ble_eq_true rfl) ?_
  intro p e s m args below meth c Q A hQ hfx hK hN hA H locs ls hP hD hS hl
  obtain ⟨hx, hb, hr, hml, hown, hts, hlocks⟩ := hfx
  have hown : s.vm.findClass R_B = some m.cls := hown
  have hl : lv_has ls 9 [(0, .ref q_bp), (1, .int a0), (2, .int a1)] := hl
  refine lv_iconst (v := 0) hx hb d_B_paint_0 (by decide) ?_
  refine lv_istore_n (lv' := [(3, .int (0 : Int32)), (0, .ref q_bp), (1, .int a0), (2, .int a1)]) hx hb d_B_paint_1 rfl hl (by decide) rfl (fun ls hl => ?_)
  refine lv_iload_n hx hb d_B_paint_2 rfl (lv_at hl 2 rfl) ?_
  refine lv_istore (lv' := [(4, .int a0), (3, .int (0 : Int32)), (0, .ref q_bp), (1, .int a0), (2, .int a1)]) hx hb d_B_paint_3 hl (by decide) rfl (fun ls hl => ?_)
  refine lv_iconst (v := 0) hx hb d_B_paint_5 (by decide) ?_
  refine lv_istore (lv' := [(5, .int (0 : Int32)), (4, .int a0), (3, .int (0 : Int32)), (0, .ref q_bp), (1, .int a0), (2, .int a1)]) hx hb d_B_paint_6 hl (by decide) rfl (fun ls hl => ?_)
  obtain ⟨u1, hcu1, hF⟩ := kc_bnd hF
  have hJu1_103 : ∀ (H : Heap) (locs : List Loc) (ls : Array Slot), va_P (dC, dI) vwCl [(q_bp, .inr (0, [.ref q_bk, .ref q_sa, .ref q_te, .ref q_twk, .ref q_len, .ref q_dis, .int pt, .ref q_li, .ref q_rwk, .ref q_va, .ref q_lr])), (q_bk, .inr (1, [.int w, .int h, .int sty, .int bd, .int str, .int cel])), (q_sa, .inl (k_sa, n_sa, .inl u1.2.2.2))] H → va_D A [(q_bp, .inr (0, [.ref q_bk, .ref q_sa, .ref q_te, .ref q_twk, .ref q_len, .ref q_dis, .int pt, .ref q_li, .ref q_rwk, .ref q_va, .ref q_lr])), (q_bk, .inr (1, [.int w, .int h, .int sty, .int bd, .int str, .int cel])), (q_sa, .inl (k_sa, n_sa, .inl u1.2.2.2))] → va_S A s.heap H locs → lv_has ls 9 [(5, .int u1.2.2.1), (4, .int u1.2.1), (3, .int u1.1), (0, .ref q_bp), (1, .int a0), (2, .int a1)] → W p l e rm_B_paint s m args below meth c H locs 0 0 Q (F0 m 103 ls []) := by
    intro H locs ls hP hD hS hl
    refine lv_iload_n hx hb d_B_paint_103 rfl (lv_at hl 2 rfl) ?_
    obtain rfl := Option.some.inj hF
    exact ku_iret hx hb hr hlocks hQ (hP.sub [0, 1, 2] rfl) (hD.sub [0, 1, 2] (by decide) rfl) hS d_B_paint_104
  have hIu1 : ∀ (N : Nat) (v8_3 : Int32) (v8_4 : Int32) (v8_5 : Int32) (sam_8 : (Nat → Int32)), f_B_paint_L8 w h str n_sa a1 N v8_3 v8_4 v8_5 sam_8 = some u1 → ∀ (H : Heap) (locs : List Loc) (ls : Array Slot), va_P (dC, dI) vwCl [(q_bp, .inr (0, [.ref q_bk, .ref q_sa, .ref q_te, .ref q_twk, .ref q_len, .ref q_dis, .int pt, .ref q_li, .ref q_rwk, .ref q_va, .ref q_lr])), (q_bk, .inr (1, [.int w, .int h, .int sty, .int bd, .int str, .int cel])), (q_sa, .inl (k_sa, n_sa, .inl sam_8))] H → va_D A [(q_bp, .inr (0, [.ref q_bk, .ref q_sa, .ref q_te, .ref q_twk, .ref q_len, .ref q_dis, .int pt, .ref q_li, .ref q_rwk, .ref q_va, .ref q_lr])), (q_bk, .inr (1, [.int w, .int h, .int sty, .int bd, .int str, .int cel])), (q_sa, .inl (k_sa, n_sa, .inl sam_8))] → va_S A s.heap H locs → lv_has ls 9 [(5, .int v8_5), (4, .int v8_4), (3, .int v8_3), (0, .ref q_bp), (1, .int a0), (2, .int a1)] → W p l e rm_B_paint s m args below meth c H locs 0 0 Q (F0 m 8 ls []) := by
    intro N
    induction N with
    | zero => intro v8_3 v8_4 v8_5 sam_8 hF; rw [f_B_paint_L8] at hF; cases hF
    | succ N ih =>
      intro v8_3 v8_4 v8_5 sam_8 hF
      intro H locs ls hP hD hS hl
      rw [f_B_paint_L8] at hF
      refine lv_iload hx hb d_B_paint_8 (lv_at hl 0 rfl) ?_
      refine lv_aload_n hx hb d_B_paint_10 rfl (lv_at hl 3 rfl) ?_
      refine va_get (D := (dC, dI)) (ci := 0) (v := .ref q_bk) (C := R_B) (T := T_B) (N := 11) hx hb hts ki_B hown hK hP 0 rfl rfl 0 (by decide) (hts _ kw_1_153) (fun _ h9 => h9) rfl d_B_paint_11 ?_
      refine va_get (D := (dC, dI)) (ci := 1) (v := .int h) (C := R_K) (T := T_K) (N := 6) hx hb hts ki_K hown hK hP 1 rfl rfl 1 (by decide) (hts _ kw_1_43) (fun _ h9 => h9) rfl d_B_paint_14 ?_
      refine lv_icmp_ge (tgt := 103) hx hb d_B_paint_17 (by decide) (fun c2 => ?_) (fun c2 => ?_)
      · have hF := kc_pos c2 hF
        obtain rfl := Option.some.inj hF
        exact hJu1_103 _ _ _ hP hD hS (lv_sub hl [0, 1, 2, 3, 4, 5] rfl)
      have hF := kc_neg c2 hF
      refine lv_iconst (v := 0) hx hb d_B_paint_20 (by decide) ?_
      refine lv_istore (lv' := [(6, .int (0 : Int32)), (5, .int v8_5), (4, .int v8_4), (3, .int v8_3), (0, .ref q_bp), (1, .int a0), (2, .int a1)]) hx hb d_B_paint_21 hl (by decide) rfl (fun ls hl => ?_)
      obtain ⟨u3, hcu3, hF⟩ := kc_bnd hF
      have hJu3_97 : ∀ (H : Heap) (locs : List Loc) (ls : Array Slot), va_P (dC, dI) vwCl [(q_bp, .inr (0, [.ref q_bk, .ref q_sa, .ref q_te, .ref q_twk, .ref q_len, .ref q_dis, .int pt, .ref q_li, .ref q_rwk, .ref q_va, .ref q_lr])), (q_bk, .inr (1, [.int w, .int h, .int sty, .int bd, .int str, .int cel])), (q_sa, .inl (k_sa, n_sa, .inl u3.2.2.2))] H → va_D A [(q_bp, .inr (0, [.ref q_bk, .ref q_sa, .ref q_te, .ref q_twk, .ref q_len, .ref q_dis, .int pt, .ref q_li, .ref q_rwk, .ref q_va, .ref q_lr])), (q_bk, .inr (1, [.int w, .int h, .int sty, .int bd, .int str, .int cel])), (q_sa, .inl (k_sa, n_sa, .inl u3.2.2.2))] → va_S A s.heap H locs → lv_has ls 9 [(6, .int u3.2.2.1), (5, .int v8_5), (4, .int u3.2.1), (3, .int u3.1), (0, .ref q_bp), (1, .int a0), (2, .int a1)] → W p l e rm_B_paint s m args below meth c H locs 0 0 Q (F0 m 97 ls []) := by
        intro H locs ls hP hD hS hl
        refine lv_iinc (v := (v8_5 + 1)) (lv' := [(5, .int (v8_5 + 1)), (6, .int u3.2.2.1), (4, .int u3.2.1), (3, .int u3.1), (0, .ref q_bp), (1, .int a0), (2, .int a1)]) hx hb d_B_paint_97 hl (k := 1) rfl rfl (by decide) rfl (fun ls hl => ?_)
        refine lv_goto (tgt := 8) hx hb d_B_paint_100 (by decide) ?_
        exact ih _ _ _ _ hF _ _ _ hP hD hS (lv_sub hl [0, 2, 3, 4, 5, 6] rfl)
      have hIu3 : ∀ (N : Nat) (v23_3 : Int32) (v23_4 : Int32) (v23_6 : Int32) (sam_23 : (Nat → Int32)), f_B_paint_L23 w str n_sa a1 v8_5 N v23_3 v23_4 v23_6 sam_23 = some u3 → ∀ (H : Heap) (locs : List Loc) (ls : Array Slot), va_P (dC, dI) vwCl [(q_bp, .inr (0, [.ref q_bk, .ref q_sa, .ref q_te, .ref q_twk, .ref q_len, .ref q_dis, .int pt, .ref q_li, .ref q_rwk, .ref q_va, .ref q_lr])), (q_bk, .inr (1, [.int w, .int h, .int sty, .int bd, .int str, .int cel])), (q_sa, .inl (k_sa, n_sa, .inl sam_23))] H → va_D A [(q_bp, .inr (0, [.ref q_bk, .ref q_sa, .ref q_te, .ref q_twk, .ref q_len, .ref q_dis, .int pt, .ref q_li, .ref q_rwk, .ref q_va, .ref q_lr])), (q_bk, .inr (1, [.int w, .int h, .int sty, .int bd, .int str, .int cel])), (q_sa, .inl (k_sa, n_sa, .inl sam_23))] → va_S A s.heap H locs → lv_has ls 9 [(6, .int v23_6), (5, .int v8_5), (4, .int v23_4), (3, .int v23_3), (0, .ref q_bp), (1, .int a0), (2, .int a1)] → W p l e rm_B_paint s m args below meth c H locs 0 0 Q (F0 m 23 ls []) := by
        intro N
        induction N with
        | zero => intro v23_3 v23_4 v23_6 sam_23 hF; rw [f_B_paint_L23] at hF; cases hF
        | succ N ih =>
          intro v23_3 v23_4 v23_6 sam_23 hF
          intro H locs ls hP hD hS hl
          rw [f_B_paint_L23] at hF
          refine lv_iload hx hb d_B_paint_23 (lv_at hl 0 rfl) ?_
          refine lv_aload_n hx hb d_B_paint_25 rfl (lv_at hl 4 rfl) ?_
          refine va_get (D := (dC, dI)) (ci := 0) (v := .ref q_bk) (C := R_B) (T := T_B) (N := 11) hx hb hts ki_B hown hK hP 0 rfl rfl 0 (by decide) (hts _ kw_1_153) (fun _ h9 => h9) rfl d_B_paint_26 ?_
          refine va_get (D := (dC, dI)) (ci := 1) (v := .int w) (C := R_K) (T := T_K) (N := 6) hx hb hts ki_K hown hK hP 1 rfl rfl 0 (by decide) (hts _ kw_1_40) (fun _ h9 => h9) rfl d_B_paint_29 ?_
          refine lv_icmp_ge (tgt := 97) hx hb d_B_paint_32 (by decide) (fun c4 => ?_) (fun c4 => ?_)
          · have hF := kc_pos c4 hF
            obtain rfl := Option.some.inj hF
            exact hJu3_97 _ _ _ hP hD hS (lv_sub hl [0, 1, 2, 3, 4, 5, 6] rfl)
          have hF := kc_neg c4 hF
          refine lv_aload_n hx hb d_B_paint_35 rfl (lv_at hl 4 rfl) ?_
          refine va_get (D := (dC, dI)) (ci := 0) (v := .ref q_bk) (C := R_B) (T := T_B) (N := 11) hx hb hts ki_B hown hK hP 0 rfl rfl 0 (by decide) (hts _ kw_1_153) (fun _ h9 => h9) rfl d_B_paint_36 ?_
          refine lv_iload hx hb d_B_paint_39 (lv_at hl 0 rfl) ?_
          refine lv_iload hx hb d_B_paint_41 (lv_at hl 1 rfl) ?_
          refine kr_call (va_runV (As := [.int v23_6, .int v8_5]) (rest := []) ⟨hx, hb, hml, hown, hts⟩ (m_K_cellOf l dC dI q_bk w h sty bd str cel v23_6 v8_5 (f_K_cellOf str v23_6 v8_5) rfl) (cwV 2 hts (kgV kw_1_191 kw_1_192 kw_1_193 kw_1_2 kw_1_194) rfl rfl rfl (by decide +kernel) ⟨Nat.le_of_ble_eq_true rfl, Nat.le_of_ble_eq_true rfl⟩) ⟨kRe_blind, va_recv hK hP (ci := 1) (q0 := 1) rfl rfl, kRe_of (hP.sub [1] rfl) (hK.sub [] rfl) hN⟩ rfl rfl hl.1 rfl (lv_room (Nat.le_of_ble_eq_true rfl)) d_B_paint_43 ⟨Nat.le_of_ble_eq_true rfl, Nat.le_of_ble_eq_true rfl⟩) ?_
          refine lv_istore (lv' := [(7, .int (f_K_cellOf str v23_6 v8_5)), (6, .int v23_6), (5, .int v8_5), (4, .int v23_4), (3, .int v23_3), (0, .ref q_bp), (1, .int a0), (2, .int a1)]) hx hb d_B_paint_46 hl (by decide) rfl (fun ls hl => ?_)
          refine lv_iload hx hb d_B_paint_48 (lv_at hl 3 rfl) ?_
          refine lv_sipush (v := -32767) hx hb d_B_paint_50 (by decide) ?_
          refine lv_sipush (v := 32767) hx hb d_B_paint_53 (by decide) ?_
          refine kr_call (va_runS (As := [.int v23_4, .int (-32767 : Int32), .int (32767 : Int32)]) (rest := []) ⟨hx, hb, hml, hown, hts⟩ (m_ST_within l dC dI v23_4 (-32767 : Int32) (32767 : Int32) (f_ST_within v23_4 (-32767 : Int32) (32767 : Int32)) rfl) (va_cwS 3 hts (kgS kw_1_26 kw_1_27 kw_1_1 kw_1_28) rfl rfl rfl (by decide +kernel) ⟨Nat.le_of_ble_eq_true rfl, Nat.le_of_ble_eq_true rfl⟩) ⟨kRe_blind, kRe_of (hP.sub [] rfl) (hK.sub [] rfl) hN⟩ rfl rfl hl.1 rfl (lv_room (Nat.le_of_ble_eq_true rfl)) d_B_paint_56 ⟨Nat.le_of_ble_eq_true rfl, Nat.le_of_ble_eq_true rfl⟩) ?_
          refine lv_istore (lv' := [(8, .int (f_ST_within v23_4 (-32767 : Int32) (32767 : Int32))), (7, .int (f_K_cellOf str v23_6 v8_5)), (6, .int v23_6), (5, .int v8_5), (4, .int v23_4), (3, .int v23_3), (0, .ref q_bp), (1, .int a0), (2, .int a1)]) hx hb d_B_paint_59 hl (by decide) rfl (fun ls hl => ?_)
          refine lv_aload_n hx hb d_B_paint_61 rfl (lv_at hl 6 rfl) ?_
          refine va_get (D := (dC, dI)) (ci := 0) (v := .ref q_sa) (C := R_B) (T := T_B) (N := 11) hx hb hts ki_B hown hK hP 0 rfl rfl 1 (by decide) (hts _ kw_1_154) (fun _ h9 => h9) rfl d_B_paint_62 ?_
          refine lv_iload hx hb d_B_paint_65 (lv_at hl 1 rfl) ?_
          obtain ⟨h5, hF⟩ := kc_no hF
          refine va_iald hx hb hK hP 2 0 rfl rfl h5 d_B_paint_67 ?_
          refine lv_iload hx hb d_B_paint_68 (lv_at hl 0 rfl) ?_
          obtain ⟨u7, hcu7, hF⟩ := kc_bnd hF
          have hJu7 : ∀ (H : Heap) (locs : List Loc) (ls : Array Slot), va_P (dC, dI) vwCl [(q_bp, .inr (0, [.ref q_bk, .ref q_sa, .ref q_te, .ref q_twk, .ref q_len, .ref q_dis, .int pt, .ref q_li, .ref q_rwk, .ref q_va, .ref q_lr])), (q_bk, .inr (1, [.int w, .int h, .int sty, .int bd, .int str, .int cel])), (q_sa, .inl (k_sa, n_sa, .inl sam_23))] H → va_D A [(q_bp, .inr (0, [.ref q_bk, .ref q_sa, .ref q_te, .ref q_twk, .ref q_len, .ref q_dis, .int pt, .ref q_li, .ref q_rwk, .ref q_va, .ref q_lr])), (q_bk, .inr (1, [.int w, .int h, .int sty, .int bd, .int str, .int cel])), (q_sa, .inl (k_sa, n_sa, .inl sam_23))] → va_S A s.heap H locs → lv_has ls 9 [(8, .int (f_ST_within v23_4 (-32767 : Int32) (32767 : Int32))), (7, .int (f_K_cellOf str v23_6 v8_5)), (6, .int v23_6), (5, .int v8_5), (4, .int v23_4), (3, .int u7), (0, .ref q_bp), (1, .int a0), (2, .int a1)] → W p l e rm_B_paint s m args below meth c H locs 0 0 Q (F0 m 76 ls []) := by
            intro H locs ls hP hD hS hl
            refine lv_aload_n hx hb d_B_paint_76 rfl (lv_at hl 6 rfl) ?_
            refine va_get (D := (dC, dI)) (ci := 0) (v := .ref q_sa) (C := R_B) (T := T_B) (N := 11) hx hb hts ki_B hown hK hP 0 rfl rfl 1 (by decide) (hts _ kw_1_154) (fun _ h9 => h9) rfl d_B_paint_77 ?_
            refine lv_iload hx hb d_B_paint_80 (lv_at hl 1 rfl) ?_
            refine lv_iload hx hb d_B_paint_82 (lv_at hl 0 rfl) ?_
            obtain ⟨h8, hF⟩ := kc_no hF
            refine va_iast hx hb hK hP hD hS 2 0 rfl rfl h8 d_B_paint_84 (fun H locs hP hD hS => ?_)
            have hP : va_P (dC, dI) vwCl [(q_bp, .inr (0, [.ref q_bk, .ref q_sa, .ref q_te, .ref q_twk, .ref q_len, .ref q_dis, .int pt, .ref q_li, .ref q_rwk, .ref q_va, .ref q_lr])), (q_bk, .inr (1, [.int w, .int h, .int sty, .int bd, .int str, .int cel])), (q_sa, .inl (k_sa, n_sa, .inl (upd sam_23 (f_K_cellOf str v23_6 v8_5).toNatClampNeg (f_ST_within v23_4 (-32767 : Int32) (32767 : Int32)))))] H := hP
            have hD : va_D A [(q_bp, .inr (0, [.ref q_bk, .ref q_sa, .ref q_te, .ref q_twk, .ref q_len, .ref q_dis, .int pt, .ref q_li, .ref q_rwk, .ref q_va, .ref q_lr])), (q_bk, .inr (1, [.int w, .int h, .int sty, .int bd, .int str, .int cel])), (q_sa, .inl (k_sa, n_sa, .inl (upd sam_23 (f_K_cellOf str v23_6 v8_5).toNatClampNeg (f_ST_within v23_4 (-32767 : Int32) (32767 : Int32)))))] := hD
            refine lv_iload hx hb d_B_paint_85 (lv_at hl 4 rfl) ?_
            refine lv_iload_n hx hb d_B_paint_87 rfl (lv_at hl 8 rfl) ?_
            refine lv_iadd hx hb d_B_paint_88 ?_
            refine lv_istore (lv' := [(4, .int (v23_4 + a1)), (8, .int (f_ST_within v23_4 (-32767 : Int32) (32767 : Int32))), (7, .int (f_K_cellOf str v23_6 v8_5)), (6, .int v23_6), (5, .int v8_5), (3, .int u7), (0, .ref q_bp), (1, .int a0), (2, .int a1)]) hx hb d_B_paint_89 hl (by decide) rfl (fun ls hl => ?_)
            refine lv_iinc (v := (v23_6 + 1)) (lv' := [(6, .int (v23_6 + 1)), (4, .int (v23_4 + a1)), (8, .int (f_ST_within v23_4 (-32767 : Int32) (32767 : Int32))), (7, .int (f_K_cellOf str v23_6 v8_5)), (5, .int v8_5), (3, .int u7), (0, .ref q_bp), (1, .int a0), (2, .int a1)]) hx hb d_B_paint_91 hl (k := 3) rfl rfl (by decide) rfl (fun ls hl => ?_)
            refine lv_goto (tgt := 23) hx hb d_B_paint_94 (by decide) ?_
            exact ih _ _ _ _ hF _ _ _ hP hD hS (lv_sub hl [0, 4, 1, 5, 6, 7, 8] rfl)
          clear hF; have hF := hcu7; clear hcu7
          refine lv_icmp_eq (tgt := 76) hx hb d_B_paint_70 (by decide) (fun c6 => ?_) (fun c6 => ?_)
          · have hF := kc_pos c6 hF
            obtain rfl := Option.some.inj hF
            exact hJu7 _ _ _ hP hD hS (lv_sub hl [0, 1, 2, 3, 4, 5, 6, 7, 8] rfl)
          have hF := kc_neg c6 hF
          refine lv_iinc (v := (v23_3 + 1)) (lv' := [(3, .int (v23_3 + 1)), (8, .int (f_ST_within v23_4 (-32767 : Int32) (32767 : Int32))), (7, .int (f_K_cellOf str v23_6 v8_5)), (6, .int v23_6), (5, .int v8_5), (4, .int v23_4), (0, .ref q_bp), (1, .int a0), (2, .int a1)]) hx hb d_B_paint_73 hl (k := 5) rfl rfl (by decide) rfl (fun ls hl => ?_)
          obtain rfl := Option.some.inj hF
          exact hJu7 _ _ _ hP hD hS (lv_sub hl [1, 2, 3, 4, 5, 0, 6, 7, 8] rfl)
      exact hIu3 _ _ _ _ _ hcu3 _ _ _ hP hD hS (lv_sub hl [0, 1, 2, 3, 4, 5, 6] rfl)
  exact hIu1 _ _ _ _ _ hcu1 _ _ _ hP hD hS (lv_sub hl [0, 1, 2, 3, 4, 5] rfl)
abbrev rm_B_encode : Room := { frames := 6, cells := 0, slots := 0, locals := 149 }
set_option maxHeartbeats 4000000 in
set_option maxRecDepth 100000 in
theorem m_B_encode (l : Launch) (dC : Nat → ClassId) (dI : Nat → Nat → Nat) (q_bp q_bk q_len q_dis q_va q_lr q_te q_sa q_ro q_twk q_tsg q_tsz q_tlo q_li q_rwk : Nat) (k_len : ClassId) (n_len : Nat) (k_dis : ClassId) (n_dis : Nat) (k_sa : ClassId) (n_sa : Nat) (k_ro : ClassId) (n_ro : Nat) (k_tsg : ClassId) (n_tsg : Nat) (k_tsz : ClassId) (n_tsz : Nat) (k_tlo : ClassId) (n_tlo : Nat) (pt : Int32) (w : Int32) (h : Int32) (sty : Int32) (bd : Int32) (str : Int32) (cel : Int32) (lens : (Nat → Int32)) (diss : (Nat → Int64)) (cnt : Int32) (pn : Int32) (sam : (Nat → Int32)) (row : (Nat → Int32)) (tpls : Int32) (tpl : Int32) (traw : Int32) (tsgn : (Nat → Int32)) (tsiz : (Nat → Int32)) (tlow : (Nat → Int32)) (u : Int32 × Int32 × (Nat → Int32) × (Nat → Int64) × Int32 × Int32 × (Nat → Int32) × Int32 × Int32 × Int32 × (Nat → Int32) × (Nat → Int32) × (Nat → Int32)) (hF : f_B_encode w h sty bd str lens diss pn sam row tpl traw tsgn tsiz tlow n_len n_dis n_sa n_ro n_tsg n_tsz n_tlo = some u) : ∀ sz : Nat, Met l y_B_encode (kws y_B_encode c_B_encode 3 (some .int)) rm_B_encode (kPre (dC, dI) [.ref q_bp] [(q_bp, .inr (0, [.ref q_bk, .ref q_sa, .ref q_te, .ref q_twk, .ref q_len, .ref q_dis, .int pt, .ref q_li, .ref q_rwk, .ref q_va, .ref q_lr])), (q_bk, .inr (1, [.int w, .int h, .int sty, .int bd, .int str, .int cel])), (q_len, .inl (k_len, n_len, .inl lens)), (q_dis, .inl (k_dis, n_dis, .inr (.inl diss))), (q_te, .inr (2, [.ref q_sa, .ref q_ro, .int cnt, .int pn])), (q_sa, .inl (k_sa, n_sa, .inl sam)), (q_ro, .inl (k_ro, n_ro, .inl row)), (q_twk, .inr (4, [.ref q_bk, .ref q_te, .ref q_tsg, .ref q_tsz, .ref q_tlo, .int tpls, .int tpl, .int traw])), (q_tsg, .inl (k_tsg, n_tsg, .inl tsgn)), (q_tsz, .inl (k_tsz, n_tsz, .inl tsiz)), (q_tlo, .inl (k_tlo, n_tlo, .inl tlow))] [(k_len, .int), (k_dis, .long), (k_sa, .int), (k_ro, .int), (k_tsg, .int), (k_tsz, .int), (k_tlo, .int)] sz) (kPost (dC, dI) (some (.int u.1)) [(q_bp, .inr (0, [.ref q_bk, .ref q_sa, .ref q_te, .ref q_twk, .ref q_len, .ref q_dis, .int u.2.1, .ref q_li, .ref q_rwk, .ref q_va, .ref q_lr])), (q_bk, .inr (1, [.int w, .int h, .int sty, .int bd, .int str, .int cel])), (q_len, .inl (k_len, n_len, .inl u.2.2.1)), (q_dis, .inl (k_dis, n_dis, .inr (.inl u.2.2.2.1))), (q_te, .inr (2, [.ref q_sa, .ref q_ro, .int u.2.2.2.2.1, .int u.2.2.2.2.2.1])), (q_sa, .inl (k_sa, n_sa, .inl sam)), (q_ro, .inl (k_ro, n_ro, .inl u.2.2.2.2.2.2.1)), (q_twk, .inr (4, [.ref q_bk, .ref q_te, .ref q_tsg, .ref q_tsz, .ref q_tlo, .int u.2.2.2.2.2.2.2.1, .int u.2.2.2.2.2.2.2.2.1, .int u.2.2.2.2.2.2.2.2.2.1])), (q_tsg, .inl (k_tsg, n_tsg, .inl u.2.2.2.2.2.2.2.2.2.2.1)), (q_tsz, .inl (k_tsz, n_tsz, .inl u.2.2.2.2.2.2.2.2.2.2.2.1)), (q_tlo, .inl (k_tlo, n_tlo, .inl u.2.2.2.2.2.2.2.2.2.2.2.2))] (va_A [(q_bp, .inr (0, [.ref q_bk, .ref q_sa, .ref q_te, .ref q_twk, .ref q_len, .ref q_dis, .int pt, .ref q_li, .ref q_rwk, .ref q_va, .ref q_lr])), (q_bk, .inr (1, [.int w, .int h, .int sty, .int bd, .int str, .int cel])), (q_len, .inl (k_len, n_len, .inl lens)), (q_dis, .inl (k_dis, n_dis, .inr (.inl diss))), (q_te, .inr (2, [.ref q_sa, .ref q_ro, .int cnt, .int pn])), (q_sa, .inl (k_sa, n_sa, .inl sam)), (q_ro, .inl (k_ro, n_ro, .inl row)), (q_twk, .inr (4, [.ref q_bk, .ref q_te, .ref q_tsg, .ref q_tsz, .ref q_tlo, .int tpls, .int tpl, .int traw])), (q_tsg, .inl (k_tsg, n_tsg, .inl tsgn)), (q_tsz, .inl (k_tsz, n_tsz, .inl tsiz)), (q_tlo, .inl (k_tlo, n_tlo, .inl tlow))] sz)) 0 0 (va_A [(q_bp, .inr (0, [.ref q_bk, .ref q_sa, .ref q_te, .ref q_twk, .ref q_len, .ref q_dis, .int pt, .ref q_li, .ref q_rwk, .ref q_va, .ref q_lr])), (q_bk, .inr (1, [.int w, .int h, .int sty, .int bd, .int str, .int cel])), (q_len, .inl (k_len, n_len, .inl lens)), (q_dis, .inl (k_dis, n_dis, .inr (.inl diss))), (q_te, .inr (2, [.ref q_sa, .ref q_ro, .int cnt, .int pn])), (q_sa, .inl (k_sa, n_sa, .inl sam)), (q_ro, .inl (k_ro, n_ro, .inl row)), (q_twk, .inr (4, [.ref q_bk, .ref q_te, .ref q_tsg, .ref q_tsz, .ref q_tlo, .int tpls, .int tpl, .int traw])), (q_tsg, .inl (k_tsg, n_tsg, .inl tsgn)), (q_tsz, .inl (k_tsz, n_tsz, .inl tsiz)), (q_tlo, .inl (k_tlo, n_tlo, .inl tlow))] sz) := by
  unfold f_B_encode at hF
  refine kU_of (cc := c_B_encode) (maxL := 3) (ret := (some .int)) (by decide) (Nat.le_of_ble_eq_true rfl) ?_
  intro p e s m args below meth c Q A hQ hfx hK hN hA H locs ls hP hD hS hl
  obtain ⟨hx, hb, hr, hml, hown, hts, hlocks⟩ := hfx
  have hown : s.vm.findClass R_B = some m.cls := hown
  have hl : lv_has ls 3 [(0, .ref q_bp)] := hl
  refine lv_aload_n hx hb d_B_encode_0 rfl (lv_at hl 0 rfl) ?_
  obtain ⟨u1, hc, hF⟩ := kc_bnd hF
  refine kr_call (va_runV (As := []) (rest := []) ⟨hx, hb, hml, hown, hts⟩ (m_B_planesOfSamples l dC dI q_bp q_bk q_len q_dis q_va q_lr q_te q_sa q_twk q_li q_rwk k_sa n_sa pt sam _ hc) (cwV 0 hts (kgV kw_1_199 kw_1_201 kp_0 kw_1_1 kw_1_202) rfl rfl rfl (by decide +kernel) ⟨Nat.le_of_ble_eq_true rfl, Nat.le_of_ble_eq_true rfl⟩) ⟨kRe_blind, va_recv hK hP (ci := 0) (q0 := 0) rfl rfl, kRe_of (hP.sub [0, 5] rfl) (hK.sub [2] rfl) hN⟩ rfl rfl hl.1 rfl (lv_room (Nat.le_of_ble_eq_true rfl)) d_B_encode_1 ⟨Nat.le_of_ble_eq_true rfl, Nat.le_of_ble_eq_true rfl⟩) ?_
  refine lv_istore_n (lv' := [(1, .int u1), (0, .ref q_bp)]) hx hb d_B_encode_4 rfl hl (by decide) rfl (fun ls hl => ?_)
  refine lv_aload_n hx hb d_B_encode_5 rfl (lv_at hl 1 rfl) ?_
  refine lv_iload_n hx hb d_B_encode_6 rfl (lv_at hl 0 rfl) ?_
  refine kr_call (va_runS (As := [.int u1]) (rest := [.ref q_bp]) ⟨hx, hb, hml, hown, hts⟩ (m_ST_passesOf l dC dI u1 (f_ST_passesOf u1) rfl) (va_cwS 1 hts (kgS kw_1_206 kw_1_207 kw_1_1 kw_1_208) rfl rfl rfl (by decide +kernel) ⟨Nat.le_of_ble_eq_true rfl, Nat.le_of_ble_eq_true rfl⟩) ⟨kRe_blind, kRe_of (hP.sub [] rfl) (hK.sub [] rfl) hN⟩ rfl rfl hl.1 rfl (lv_room (Nat.le_of_ble_eq_true rfl)) d_B_encode_7 ⟨Nat.le_of_ble_eq_true rfl, Nat.le_of_ble_eq_true rfl⟩) ?_
  refine va_put (D := (dC, dI)) (ci := 0) (v := .int (f_ST_passesOf u1)) (ty := .int) (C := R_B) (T := T_B) (N := 11) hx hb hts ki_B ty_B tyok_B nmok_B hown hK hP hD hS 0 rfl rfl 6 (by decide) (hts _ kw_1_159) (fun _ h9 => h9) rfl (by decide +kernel) rfl rfl (Nat.le_of_ble_eq_true rfl) d_B_encode_10 (fun H locs hP hD hS => ?_)
  have hP : va_P (dC, dI) vwCl [(q_bp, .inr (0, [.ref q_bk, .ref q_sa, .ref q_te, .ref q_twk, .ref q_len, .ref q_dis, .int (f_ST_passesOf u1), .ref q_li, .ref q_rwk, .ref q_va, .ref q_lr])), (q_bk, .inr (1, [.int w, .int h, .int sty, .int bd, .int str, .int cel])), (q_len, .inl (k_len, n_len, .inl lens)), (q_dis, .inl (k_dis, n_dis, .inr (.inl diss))), (q_te, .inr (2, [.ref q_sa, .ref q_ro, .int cnt, .int pn])), (q_sa, .inl (k_sa, n_sa, .inl sam)), (q_ro, .inl (k_ro, n_ro, .inl row)), (q_twk, .inr (4, [.ref q_bk, .ref q_te, .ref q_tsg, .ref q_tsz, .ref q_tlo, .int tpls, .int tpl, .int traw])), (q_tsg, .inl (k_tsg, n_tsg, .inl tsgn)), (q_tsz, .inl (k_tsz, n_tsz, .inl tsiz)), (q_tlo, .inl (k_tlo, n_tlo, .inl tlow))] H := hP
  have hD : va_D A [(q_bp, .inr (0, [.ref q_bk, .ref q_sa, .ref q_te, .ref q_twk, .ref q_len, .ref q_dis, .int (f_ST_passesOf u1), .ref q_li, .ref q_rwk, .ref q_va, .ref q_lr])), (q_bk, .inr (1, [.int w, .int h, .int sty, .int bd, .int str, .int cel])), (q_len, .inl (k_len, n_len, .inl lens)), (q_dis, .inl (k_dis, n_dis, .inr (.inl diss))), (q_te, .inr (2, [.ref q_sa, .ref q_ro, .int cnt, .int pn])), (q_sa, .inl (k_sa, n_sa, .inl sam)), (q_ro, .inl (k_ro, n_ro, .inl row)), (q_twk, .inr (4, [.ref q_bk, .ref q_te, .ref q_tsg, .ref q_tsz, .ref q_tlo, .int tpls, .int tpl, .int traw])), (q_tsg, .inl (k_tsg, n_tsg, .inl tsgn)), (q_tsz, .inl (k_tsz, n_tsz, .inl tsiz)), (q_tlo, .inl (k_tlo, n_tlo, .inl tlow))] := hD
  refine lv_aload_n hx hb d_B_encode_13 rfl (lv_at hl 1 rfl) ?_
  refine va_get (D := (dC, dI)) (ci := 0) (v := .ref q_te) (C := R_B) (T := T_B) (N := 11) hx hb hts ki_B hown hK hP 0 rfl rfl 2 (by decide) (hts _ kw_1_155) (fun _ h9 => h9) rfl d_B_encode_14 ?_
  refine ku_call (wr := [(q_bp, .inr (0, [.ref q_bk, .ref q_sa, .ref q_te, .ref q_twk, .ref q_len, .ref q_dis, .int (f_ST_passesOf u1), .ref q_li, .ref q_rwk, .ref q_va, .ref q_lr])), (q_bk, .inr (1, [.int w, .int h, .int sty, .int bd, .int str, .int cel])), (q_len, .inl (k_len, n_len, .inl lens)), (q_dis, .inl (k_dis, n_dis, .inr (.inl diss))), (q_sa, .inl (k_sa, n_sa, .inl sam)), (q_ro, .inl (k_ro, n_ro, .inl row)), (q_twk, .inr (4, [.ref q_bk, .ref q_te, .ref q_tsg, .ref q_tsz, .ref q_tlo, .int tpls, .int tpl, .int traw])), (q_tsg, .inl (k_tsg, n_tsg, .inl tsgn)), (q_tsz, .inl (k_tsz, n_tsz, .inl tsiz)), (q_tlo, .inl (k_tlo, n_tlo, .inl tlow))]) hA (va_runV (As := []) (rest := []) ⟨hx, hb, hml, hown, hts⟩ (m_T_forget l dC dI q_te q_sa q_ro cnt pn (f_T_forget) rfl H.size) (cwV 0 hts (kgV kw_1_209 kw_1_210 kw_1_211 kw_1_5 kw_1_212) rfl rfl rfl (by decide +kernel) ⟨Nat.le_of_ble_eq_true rfl, Nat.le_of_ble_eq_true rfl⟩) ⟨kPre_blind, va_recv hK hP (ci := 2) (q0 := 4) rfl rfl, kPre_of (hP.sub [4] rfl) (hK.sub [] rfl) (hD.sub [4] (by decide) rfl) hN⟩ rfl rfl hl.1 rfl (lv_room (Nat.le_of_ble_eq_true rfl)) d_B_encode_17 ⟨Nat.le_of_ble_eq_true rfl, Nat.le_of_ble_eq_true rfl⟩) hP hD hS [4] [0, 1, 2, 3, 5, 6, 7, 8, 9, 10] rfl rfl (by decide) (by decide) (fun H locs hP hD hS => ?_)
  have hP : va_P (dC, dI) vwCl [(q_bp, .inr (0, [.ref q_bk, .ref q_sa, .ref q_te, .ref q_twk, .ref q_len, .ref q_dis, .int (f_ST_passesOf u1), .ref q_li, .ref q_rwk, .ref q_va, .ref q_lr])), (q_bk, .inr (1, [.int w, .int h, .int sty, .int bd, .int str, .int cel])), (q_len, .inl (k_len, n_len, .inl lens)), (q_dis, .inl (k_dis, n_dis, .inr (.inl diss))), (q_sa, .inl (k_sa, n_sa, .inl sam)), (q_ro, .inl (k_ro, n_ro, .inl row)), (q_twk, .inr (4, [.ref q_bk, .ref q_te, .ref q_tsg, .ref q_tsz, .ref q_tlo, .int tpls, .int tpl, .int traw])), (q_tsg, .inl (k_tsg, n_tsg, .inl tsgn)), (q_tsz, .inl (k_tsz, n_tsz, .inl tsiz)), (q_tlo, .inl (k_tlo, n_tlo, .inl tlow)), (q_te, .inr (2, [.ref q_sa, .ref q_ro, .int (f_T_forget), .int pn]))] H := hP
  have hD : va_D A [(q_bp, .inr (0, [.ref q_bk, .ref q_sa, .ref q_te, .ref q_twk, .ref q_len, .ref q_dis, .int (f_ST_passesOf u1), .ref q_li, .ref q_rwk, .ref q_va, .ref q_lr])), (q_bk, .inr (1, [.int w, .int h, .int sty, .int bd, .int str, .int cel])), (q_len, .inl (k_len, n_len, .inl lens)), (q_dis, .inl (k_dis, n_dis, .inr (.inl diss))), (q_sa, .inl (k_sa, n_sa, .inl sam)), (q_ro, .inl (k_ro, n_ro, .inl row)), (q_twk, .inr (4, [.ref q_bk, .ref q_te, .ref q_tsg, .ref q_tsz, .ref q_tlo, .int tpls, .int tpl, .int traw])), (q_tsg, .inl (k_tsg, n_tsg, .inl tsgn)), (q_tsz, .inl (k_tsz, n_tsz, .inl tsiz)), (q_tlo, .inl (k_tlo, n_tlo, .inl tlow)), (q_te, .inr (2, [.ref q_sa, .ref q_ro, .int (f_T_forget), .int pn]))] := hD
  refine lv_aload_n hx hb d_B_encode_20 rfl (lv_at hl 1 rfl) ?_
  refine va_get (D := (dC, dI)) (ci := 0) (v := .ref q_twk) (C := R_B) (T := T_B) (N := 11) hx hb hts ki_B hown hK hP 0 rfl rfl 3 (by decide) (hts _ kw_1_156) (fun _ h9 => h9) rfl d_B_encode_21 ?_
  refine lv_iload_n hx hb d_B_encode_24 rfl (lv_at hl 0 rfl) ?_
  obtain ⟨u2, hc, hF⟩ := kc_bnd hF
  refine ku_call (wr := [(q_bp, .inr (0, [.ref q_bk, .ref q_sa, .ref q_te, .ref q_twk, .ref q_len, .ref q_dis, .int (f_ST_passesOf u1), .ref q_li, .ref q_rwk, .ref q_va, .ref q_lr])), (q_bk, .inr (1, [.int w, .int h, .int sty, .int bd, .int str, .int cel])), (q_len, .inl (k_len, n_len, .inl lens)), (q_dis, .inl (k_dis, n_dis, .inr (.inl diss))), (q_sa, .inl (k_sa, n_sa, .inl sam)), (q_ro, .inl (k_ro, n_ro, .inl row)), (q_te, .inr (2, [.ref q_sa, .ref q_ro, .int (f_T_forget), .int pn]))]) hA (va_runV (As := [.int u1]) (rest := []) ⟨hx, hb, hml, hown, hts⟩ (m_WT_begin l dC dI q_twk q_tsg q_tsz q_tlo q_bk q_te k_tsg n_tsg k_tsz n_tsz k_tlo n_tlo tpls tpl traw tsgn tsiz tlow u1 _ hc H.size) (cwV 1 hts (kgV kw_1_213 kw_1_214 kw_1_215 kw_1_6 kw_1_216) rfl rfl rfl (by decide +kernel) ⟨Nat.le_of_ble_eq_true rfl, Nat.le_of_ble_eq_true rfl⟩) ⟨kPre_blind, va_recv hK hP (ci := 4) (q0 := 6) rfl rfl, kPre_of (hP.sub [6, 7, 8, 9] rfl) (hK.sub [4, 5, 6] rfl) (hD.sub [6, 7, 8, 9] (by decide) rfl) hN⟩ rfl rfl hl.1 rfl (lv_room (Nat.le_of_ble_eq_true rfl)) d_B_encode_25 ⟨Nat.le_of_ble_eq_true rfl, Nat.le_of_ble_eq_true rfl⟩) hP hD hS [6, 7, 8, 9] [0, 1, 2, 3, 4, 5, 10] rfl rfl (by decide) (by decide) (fun H locs hP hD hS => ?_)
  have hP : va_P (dC, dI) vwCl [(q_bp, .inr (0, [.ref q_bk, .ref q_sa, .ref q_te, .ref q_twk, .ref q_len, .ref q_dis, .int (f_ST_passesOf u1), .ref q_li, .ref q_rwk, .ref q_va, .ref q_lr])), (q_bk, .inr (1, [.int w, .int h, .int sty, .int bd, .int str, .int cel])), (q_len, .inl (k_len, n_len, .inl lens)), (q_dis, .inl (k_dis, n_dis, .inr (.inl diss))), (q_sa, .inl (k_sa, n_sa, .inl sam)), (q_ro, .inl (k_ro, n_ro, .inl row)), (q_te, .inr (2, [.ref q_sa, .ref q_ro, .int (f_T_forget), .int pn])), (q_twk, .inr (4, [.ref q_bk, .ref q_te, .ref q_tsg, .ref q_tsz, .ref q_tlo, .int u2.1, .int tpl, .int traw])), (q_tsg, .inl (k_tsg, n_tsg, .inl u2.2.1)), (q_tsz, .inl (k_tsz, n_tsz, .inl u2.2.2.1)), (q_tlo, .inl (k_tlo, n_tlo, .inl u2.2.2.2))] H := hP
  have hD : va_D A [(q_bp, .inr (0, [.ref q_bk, .ref q_sa, .ref q_te, .ref q_twk, .ref q_len, .ref q_dis, .int (f_ST_passesOf u1), .ref q_li, .ref q_rwk, .ref q_va, .ref q_lr])), (q_bk, .inr (1, [.int w, .int h, .int sty, .int bd, .int str, .int cel])), (q_len, .inl (k_len, n_len, .inl lens)), (q_dis, .inl (k_dis, n_dis, .inr (.inl diss))), (q_sa, .inl (k_sa, n_sa, .inl sam)), (q_ro, .inl (k_ro, n_ro, .inl row)), (q_te, .inr (2, [.ref q_sa, .ref q_ro, .int (f_T_forget), .int pn])), (q_twk, .inr (4, [.ref q_bk, .ref q_te, .ref q_tsg, .ref q_tsz, .ref q_tlo, .int u2.1, .int tpl, .int traw])), (q_tsg, .inl (k_tsg, n_tsg, .inl u2.2.1)), (q_tsz, .inl (k_tsz, n_tsz, .inl u2.2.2.1)), (q_tlo, .inl (k_tlo, n_tlo, .inl u2.2.2.2))] := hD
  refine lv_iconst (v := 0) hx hb d_B_encode_28 (by decide) ?_
  refine lv_istore_n (lv' := [(2, .int (0 : Int32)), (1, .int u1), (0, .ref q_bp)]) hx hb d_B_encode_29 rfl hl (by decide) rfl (fun ls hl => ?_)
  obtain ⟨u3, hcu3, hF⟩ := kc_bnd hF
  have hJu3_84 : ∀ (H : Heap) (locs : List Loc) (ls : Array Slot), va_P (dC, dI) vwCl [(q_bp, .inr (0, [.ref q_bk, .ref q_sa, .ref q_te, .ref q_twk, .ref q_len, .ref q_dis, .int (f_ST_passesOf u1), .ref q_li, .ref q_rwk, .ref q_va, .ref q_lr])), (q_bk, .inr (1, [.int w, .int h, .int sty, .int bd, .int str, .int cel])), (q_len, .inl (k_len, n_len, .inl u3.2.1)), (q_dis, .inl (k_dis, n_dis, .inr (.inl u3.2.2.1))), (q_sa, .inl (k_sa, n_sa, .inl sam)), (q_ro, .inl (k_ro, n_ro, .inl u3.2.2.2.2.2.1)), (q_te, .inr (2, [.ref q_sa, .ref q_ro, .int u3.2.2.2.1, .int u3.2.2.2.2.1])), (q_twk, .inr (4, [.ref q_bk, .ref q_te, .ref q_tsg, .ref q_tsz, .ref q_tlo, .int u2.1, .int u3.2.2.2.2.2.2.1, .int u3.2.2.2.2.2.2.2.1])), (q_tsg, .inl (k_tsg, n_tsg, .inl u3.2.2.2.2.2.2.2.2.1)), (q_tsz, .inl (k_tsz, n_tsz, .inl u3.2.2.2.2.2.2.2.2.2.1)), (q_tlo, .inl (k_tlo, n_tlo, .inl u3.2.2.2.2.2.2.2.2.2.2))] H → va_D A [(q_bp, .inr (0, [.ref q_bk, .ref q_sa, .ref q_te, .ref q_twk, .ref q_len, .ref q_dis, .int (f_ST_passesOf u1), .ref q_li, .ref q_rwk, .ref q_va, .ref q_lr])), (q_bk, .inr (1, [.int w, .int h, .int sty, .int bd, .int str, .int cel])), (q_len, .inl (k_len, n_len, .inl u3.2.1)), (q_dis, .inl (k_dis, n_dis, .inr (.inl u3.2.2.1))), (q_sa, .inl (k_sa, n_sa, .inl sam)), (q_ro, .inl (k_ro, n_ro, .inl u3.2.2.2.2.2.1)), (q_te, .inr (2, [.ref q_sa, .ref q_ro, .int u3.2.2.2.1, .int u3.2.2.2.2.1])), (q_twk, .inr (4, [.ref q_bk, .ref q_te, .ref q_tsg, .ref q_tsz, .ref q_tlo, .int u2.1, .int u3.2.2.2.2.2.2.1, .int u3.2.2.2.2.2.2.2.1])), (q_tsg, .inl (k_tsg, n_tsg, .inl u3.2.2.2.2.2.2.2.2.1)), (q_tsz, .inl (k_tsz, n_tsz, .inl u3.2.2.2.2.2.2.2.2.2.1)), (q_tlo, .inl (k_tlo, n_tlo, .inl u3.2.2.2.2.2.2.2.2.2.2))] → va_S A s.heap H locs → lv_has ls 3 [(2, .int u3.1), (1, .int u1), (0, .ref q_bp)] → W p l e rm_B_encode s m args below meth c H locs 0 0 Q (F0 m 84 ls []) := by
    intro H locs ls hP hD hS hl
    refine lv_aload_n hx hb d_B_encode_84 rfl (lv_at hl 2 rfl) ?_
    refine va_get (D := (dC, dI)) (ci := 0) (v := .int (f_ST_passesOf u1)) (C := R_B) (T := T_B) (N := 11) hx hb hts ki_B hown hK hP 0 rfl rfl 6 (by decide) (hts _ kw_1_159) (fun _ h9 => h9) rfl d_B_encode_85 ?_
    obtain rfl := Option.some.inj hF
    exact ku_iret hx hb hr hlocks hQ (hP.sub [0, 1, 2, 3, 6, 4, 5, 7, 8, 9, 10] rfl) (hD.sub [0, 1, 2, 3, 6, 4, 5, 7, 8, 9, 10] (by decide) rfl) hS d_B_encode_88
  have hIu3 : ∀ (N : Nat) (v30_2 : Int32) (lens_30 : (Nat → Int32)) (diss_30 : (Nat → Int64)) (cnt_30 : Int32) (pn_30 : Int32) (row_30 : (Nat → Int32)) (tpl_30 : Int32) (traw_30 : Int32) (tsgn_30 : (Nat → Int32)) (tsiz_30 : (Nat → Int32)) (tlow_30 : (Nat → Int32)), f_B_encode_L30 w h sty bd str sam n_len n_dis n_sa n_ro n_tsg n_tsz n_tlo u1 u2 N v30_2 lens_30 diss_30 cnt_30 pn_30 row_30 tpl_30 traw_30 tsgn_30 tsiz_30 tlow_30 = some u3 → ∀ (H : Heap) (locs : List Loc) (ls : Array Slot), va_P (dC, dI) vwCl [(q_bp, .inr (0, [.ref q_bk, .ref q_sa, .ref q_te, .ref q_twk, .ref q_len, .ref q_dis, .int (f_ST_passesOf u1), .ref q_li, .ref q_rwk, .ref q_va, .ref q_lr])), (q_bk, .inr (1, [.int w, .int h, .int sty, .int bd, .int str, .int cel])), (q_len, .inl (k_len, n_len, .inl lens_30)), (q_dis, .inl (k_dis, n_dis, .inr (.inl diss_30))), (q_sa, .inl (k_sa, n_sa, .inl sam)), (q_ro, .inl (k_ro, n_ro, .inl row_30)), (q_te, .inr (2, [.ref q_sa, .ref q_ro, .int cnt_30, .int pn_30])), (q_twk, .inr (4, [.ref q_bk, .ref q_te, .ref q_tsg, .ref q_tsz, .ref q_tlo, .int u2.1, .int tpl_30, .int traw_30])), (q_tsg, .inl (k_tsg, n_tsg, .inl tsgn_30)), (q_tsz, .inl (k_tsz, n_tsz, .inl tsiz_30)), (q_tlo, .inl (k_tlo, n_tlo, .inl tlow_30))] H → va_D A [(q_bp, .inr (0, [.ref q_bk, .ref q_sa, .ref q_te, .ref q_twk, .ref q_len, .ref q_dis, .int (f_ST_passesOf u1), .ref q_li, .ref q_rwk, .ref q_va, .ref q_lr])), (q_bk, .inr (1, [.int w, .int h, .int sty, .int bd, .int str, .int cel])), (q_len, .inl (k_len, n_len, .inl lens_30)), (q_dis, .inl (k_dis, n_dis, .inr (.inl diss_30))), (q_sa, .inl (k_sa, n_sa, .inl sam)), (q_ro, .inl (k_ro, n_ro, .inl row_30)), (q_te, .inr (2, [.ref q_sa, .ref q_ro, .int cnt_30, .int pn_30])), (q_twk, .inr (4, [.ref q_bk, .ref q_te, .ref q_tsg, .ref q_tsz, .ref q_tlo, .int u2.1, .int tpl_30, .int traw_30])), (q_tsg, .inl (k_tsg, n_tsg, .inl tsgn_30)), (q_tsz, .inl (k_tsz, n_tsz, .inl tsiz_30)), (q_tlo, .inl (k_tlo, n_tlo, .inl tlow_30))] → va_S A s.heap H locs → lv_has ls 3 [(2, .int v30_2), (1, .int u1), (0, .ref q_bp)] → W p l e rm_B_encode s m args below meth c H locs 0 0 Q (F0 m 30 ls []) := by
    intro N
    induction N with
    | zero => intro v30_2 lens_30 diss_30 cnt_30 pn_30 row_30 tpl_30 traw_30 tsgn_30 tsiz_30 tlow_30 hF; rw [f_B_encode_L30] at hF; cases hF
    | succ N ih =>
      intro v30_2 lens_30 diss_30 cnt_30 pn_30 row_30 tpl_30 traw_30 tsgn_30 tsiz_30 tlow_30 hF
      intro H locs ls hP hD hS hl
      rw [f_B_encode_L30] at hF
      refine lv_iload_n hx hb d_B_encode_30 rfl (lv_at hl 0 rfl) ?_
      refine lv_aload_n hx hb d_B_encode_31 rfl (lv_at hl 2 rfl) ?_
      refine va_get (D := (dC, dI)) (ci := 0) (v := .int (f_ST_passesOf u1)) (C := R_B) (T := T_B) (N := 11) hx hb hts ki_B hown hK hP 0 rfl rfl 6 (by decide) (hts _ kw_1_159) (fun _ h9 => h9) rfl d_B_encode_32 ?_
      refine lv_icmp_ge (tgt := 84) hx hb d_B_encode_35 (by decide) (fun c4 => ?_) (fun c4 => ?_)
      · have hF := kc_pos c4 hF
        obtain rfl := Option.some.inj hF
        exact hJu3_84 _ _ _ hP hD hS (lv_sub hl [0, 1, 2] rfl)
      have hF := kc_neg c4 hF
      refine lv_aload_n hx hb d_B_encode_38 rfl (lv_at hl 2 rfl) ?_
      refine va_get (D := (dC, dI)) (ci := 0) (v := .ref q_te) (C := R_B) (T := T_B) (N := 11) hx hb hts ki_B hown hK hP 0 rfl rfl 2 (by decide) (hts _ kw_1_155) (fun _ h9 => h9) rfl d_B_encode_39 ?_
      refine lv_iload_n hx hb d_B_encode_42 rfl (lv_at hl 0 rfl) ?_
      refine va_put (D := (dC, dI)) (ci := 2) (v := .int v30_2) (ty := .int) (C := R_T) (T := T_T) (N := 4) hx hb hts ki_T ty_T tyok_T nmok_T hown hK hP hD hS 6 rfl rfl 3 (by decide) (hts _ kw_1_85) (fun _ h9 => h9) rfl (by decide +kernel) rfl rfl (Nat.le_of_ble_eq_true rfl) d_B_encode_43 (fun H locs hP hD hS => ?_)
      have hP : va_P (dC, dI) vwCl [(q_bp, .inr (0, [.ref q_bk, .ref q_sa, .ref q_te, .ref q_twk, .ref q_len, .ref q_dis, .int (f_ST_passesOf u1), .ref q_li, .ref q_rwk, .ref q_va, .ref q_lr])), (q_bk, .inr (1, [.int w, .int h, .int sty, .int bd, .int str, .int cel])), (q_len, .inl (k_len, n_len, .inl lens_30)), (q_dis, .inl (k_dis, n_dis, .inr (.inl diss_30))), (q_sa, .inl (k_sa, n_sa, .inl sam)), (q_ro, .inl (k_ro, n_ro, .inl row_30)), (q_te, .inr (2, [.ref q_sa, .ref q_ro, .int cnt_30, .int v30_2])), (q_twk, .inr (4, [.ref q_bk, .ref q_te, .ref q_tsg, .ref q_tsz, .ref q_tlo, .int u2.1, .int tpl_30, .int traw_30])), (q_tsg, .inl (k_tsg, n_tsg, .inl tsgn_30)), (q_tsz, .inl (k_tsz, n_tsz, .inl tsiz_30)), (q_tlo, .inl (k_tlo, n_tlo, .inl tlow_30))] H := hP
      have hD : va_D A [(q_bp, .inr (0, [.ref q_bk, .ref q_sa, .ref q_te, .ref q_twk, .ref q_len, .ref q_dis, .int (f_ST_passesOf u1), .ref q_li, .ref q_rwk, .ref q_va, .ref q_lr])), (q_bk, .inr (1, [.int w, .int h, .int sty, .int bd, .int str, .int cel])), (q_len, .inl (k_len, n_len, .inl lens_30)), (q_dis, .inl (k_dis, n_dis, .inr (.inl diss_30))), (q_sa, .inl (k_sa, n_sa, .inl sam)), (q_ro, .inl (k_ro, n_ro, .inl row_30)), (q_te, .inr (2, [.ref q_sa, .ref q_ro, .int cnt_30, .int v30_2])), (q_twk, .inr (4, [.ref q_bk, .ref q_te, .ref q_tsg, .ref q_tsz, .ref q_tlo, .int u2.1, .int tpl_30, .int traw_30])), (q_tsg, .inl (k_tsg, n_tsg, .inl tsgn_30)), (q_tsz, .inl (k_tsz, n_tsz, .inl tsiz_30)), (q_tlo, .inl (k_tlo, n_tlo, .inl tlow_30))] := hD
      refine lv_aload_n hx hb d_B_encode_46 rfl (lv_at hl 2 rfl) ?_
      refine va_get (D := (dC, dI)) (ci := 0) (v := .ref q_twk) (C := R_B) (T := T_B) (N := 11) hx hb hts ki_B hown hK hP 0 rfl rfl 3 (by decide) (hts _ kw_1_156) (fun _ h9 => h9) rfl d_B_encode_47 ?_
      refine lv_iload_n hx hb d_B_encode_50 rfl (lv_at hl 0 rfl) ?_
      obtain ⟨u5, hc, hF⟩ := kc_bnd hF
      refine ku_call (wr := [(q_bp, .inr (0, [.ref q_bk, .ref q_sa, .ref q_te, .ref q_twk, .ref q_len, .ref q_dis, .int (f_ST_passesOf u1), .ref q_li, .ref q_rwk, .ref q_va, .ref q_lr])), (q_len, .inl (k_len, n_len, .inl lens_30)), (q_dis, .inl (k_dis, n_dis, .inr (.inl diss_30)))]) hA (va_runV (As := [.int v30_2]) (rest := []) ⟨hx, hb, hml, hown, hts⟩ (m_WT_goThrough l dC dI q_twk q_tsg q_tsz q_tlo q_bk q_te q_sa q_ro k_tsg n_tsg k_tsz n_tsz k_tlo n_tlo k_sa n_sa k_ro n_ro u2.1 tpl_30 traw_30 tsgn_30 tsiz_30 tlow_30 w h sty bd str cel cnt_30 v30_2 sam row_30 v30_2 _ hc H.size) (cwV 1 hts (kgV kw_1_220 kw_1_221 kw_1_222 kw_1_6 kw_1_223) rfl rfl rfl (by decide +kernel) ⟨Nat.le_of_ble_eq_true rfl, Nat.le_of_ble_eq_true rfl⟩) ⟨kPre_blind, va_recv hK hP (ci := 4) (q0 := 7) rfl rfl, kPre_of (hP.sub [7, 8, 9, 10, 1, 6, 4, 5] rfl) (hK.sub [4, 5, 6, 2, 3] rfl) (hD.sub [7, 8, 9, 10, 1, 6, 4, 5] (by decide) rfl) hN⟩ rfl rfl hl.1 rfl (lv_room (Nat.le_of_ble_eq_true rfl)) d_B_encode_51 ⟨Nat.le_of_ble_eq_true rfl, Nat.le_of_ble_eq_true rfl⟩) hP hD hS [7, 8, 9, 10, 1, 6, 4, 5] [0, 2, 3] rfl rfl (by decide) (by decide) (fun H locs hP hD hS => ?_)
      have hP : va_P (dC, dI) vwCl [(q_bp, .inr (0, [.ref q_bk, .ref q_sa, .ref q_te, .ref q_twk, .ref q_len, .ref q_dis, .int (f_ST_passesOf u1), .ref q_li, .ref q_rwk, .ref q_va, .ref q_lr])), (q_len, .inl (k_len, n_len, .inl lens_30)), (q_dis, .inl (k_dis, n_dis, .inr (.inl diss_30))), (q_twk, .inr (4, [.ref q_bk, .ref q_te, .ref q_tsg, .ref q_tsz, .ref q_tlo, .int u2.1, .int u5.2.1, .int u5.2.2.1])), (q_tsg, .inl (k_tsg, n_tsg, .inl u5.2.2.2.1)), (q_tsz, .inl (k_tsz, n_tsz, .inl u5.2.2.2.2.1)), (q_tlo, .inl (k_tlo, n_tlo, .inl u5.2.2.2.2.2.1)), (q_bk, .inr (1, [.int w, .int h, .int sty, .int bd, .int str, .int cel])), (q_te, .inr (2, [.ref q_sa, .ref q_ro, .int u5.2.2.2.2.2.2.1, .int v30_2])), (q_sa, .inl (k_sa, n_sa, .inl sam)), (q_ro, .inl (k_ro, n_ro, .inl u5.2.2.2.2.2.2.2))] H := hP
      have hD : va_D A [(q_bp, .inr (0, [.ref q_bk, .ref q_sa, .ref q_te, .ref q_twk, .ref q_len, .ref q_dis, .int (f_ST_passesOf u1), .ref q_li, .ref q_rwk, .ref q_va, .ref q_lr])), (q_len, .inl (k_len, n_len, .inl lens_30)), (q_dis, .inl (k_dis, n_dis, .inr (.inl diss_30))), (q_twk, .inr (4, [.ref q_bk, .ref q_te, .ref q_tsg, .ref q_tsz, .ref q_tlo, .int u2.1, .int u5.2.1, .int u5.2.2.1])), (q_tsg, .inl (k_tsg, n_tsg, .inl u5.2.2.2.1)), (q_tsz, .inl (k_tsz, n_tsz, .inl u5.2.2.2.2.1)), (q_tlo, .inl (k_tlo, n_tlo, .inl u5.2.2.2.2.2.1)), (q_bk, .inr (1, [.int w, .int h, .int sty, .int bd, .int str, .int cel])), (q_te, .inr (2, [.ref q_sa, .ref q_ro, .int u5.2.2.2.2.2.2.1, .int v30_2])), (q_sa, .inl (k_sa, n_sa, .inl sam)), (q_ro, .inl (k_ro, n_ro, .inl u5.2.2.2.2.2.2.2))] := hD
      refine lv_pop hx hb d_B_encode_54 rfl ?_
      refine lv_aload_n hx hb d_B_encode_55 rfl (lv_at hl 2 rfl) ?_
      refine va_get (D := (dC, dI)) (ci := 0) (v := .ref q_len) (C := R_B) (T := T_B) (N := 11) hx hb hts ki_B hown hK hP 0 rfl rfl 4 (by decide) (hts _ kw_1_157) (fun _ h9 => h9) rfl d_B_encode_56 ?_
      refine lv_iload_n hx hb d_B_encode_59 rfl (lv_at hl 0 rfl) ?_
      refine lv_aload_n hx hb d_B_encode_60 rfl (lv_at hl 2 rfl) ?_
      refine va_get (D := (dC, dI)) (ci := 0) (v := .ref q_te) (C := R_B) (T := T_B) (N := 11) hx hb hts ki_B hown hK hP 0 rfl rfl 2 (by decide) (hts _ kw_1_155) (fun _ h9 => h9) rfl d_B_encode_61 ?_
      refine va_get (D := (dC, dI)) (ci := 2) (v := .int u5.2.2.2.2.2.2.1) (C := R_T) (T := T_T) (N := 4) hx hb hts ki_T hown hK hP 8 rfl rfl 2 (by decide) (hts _ kw_1_84) (fun _ h9 => h9) rfl d_B_encode_64 ?_
      obtain ⟨h6, hF⟩ := kc_no hF
      refine va_iast hx hb hK hP hD hS 1 0 rfl rfl h6 d_B_encode_67 (fun H locs hP hD hS => ?_)
      have hP : va_P (dC, dI) vwCl [(q_bp, .inr (0, [.ref q_bk, .ref q_sa, .ref q_te, .ref q_twk, .ref q_len, .ref q_dis, .int (f_ST_passesOf u1), .ref q_li, .ref q_rwk, .ref q_va, .ref q_lr])), (q_len, .inl (k_len, n_len, .inl (upd lens_30 v30_2.toNatClampNeg u5.2.2.2.2.2.2.1))), (q_dis, .inl (k_dis, n_dis, .inr (.inl diss_30))), (q_twk, .inr (4, [.ref q_bk, .ref q_te, .ref q_tsg, .ref q_tsz, .ref q_tlo, .int u2.1, .int u5.2.1, .int u5.2.2.1])), (q_tsg, .inl (k_tsg, n_tsg, .inl u5.2.2.2.1)), (q_tsz, .inl (k_tsz, n_tsz, .inl u5.2.2.2.2.1)), (q_tlo, .inl (k_tlo, n_tlo, .inl u5.2.2.2.2.2.1)), (q_bk, .inr (1, [.int w, .int h, .int sty, .int bd, .int str, .int cel])), (q_te, .inr (2, [.ref q_sa, .ref q_ro, .int u5.2.2.2.2.2.2.1, .int v30_2])), (q_sa, .inl (k_sa, n_sa, .inl sam)), (q_ro, .inl (k_ro, n_ro, .inl u5.2.2.2.2.2.2.2))] H := hP
      have hD : va_D A [(q_bp, .inr (0, [.ref q_bk, .ref q_sa, .ref q_te, .ref q_twk, .ref q_len, .ref q_dis, .int (f_ST_passesOf u1), .ref q_li, .ref q_rwk, .ref q_va, .ref q_lr])), (q_len, .inl (k_len, n_len, .inl (upd lens_30 v30_2.toNatClampNeg u5.2.2.2.2.2.2.1))), (q_dis, .inl (k_dis, n_dis, .inr (.inl diss_30))), (q_twk, .inr (4, [.ref q_bk, .ref q_te, .ref q_tsg, .ref q_tsz, .ref q_tlo, .int u2.1, .int u5.2.1, .int u5.2.2.1])), (q_tsg, .inl (k_tsg, n_tsg, .inl u5.2.2.2.1)), (q_tsz, .inl (k_tsz, n_tsz, .inl u5.2.2.2.2.1)), (q_tlo, .inl (k_tlo, n_tlo, .inl u5.2.2.2.2.2.1)), (q_bk, .inr (1, [.int w, .int h, .int sty, .int bd, .int str, .int cel])), (q_te, .inr (2, [.ref q_sa, .ref q_ro, .int u5.2.2.2.2.2.2.1, .int v30_2])), (q_sa, .inl (k_sa, n_sa, .inl sam)), (q_ro, .inl (k_ro, n_ro, .inl u5.2.2.2.2.2.2.2))] := hD
      refine lv_aload_n hx hb d_B_encode_68 rfl (lv_at hl 2 rfl) ?_
      refine va_get (D := (dC, dI)) (ci := 0) (v := .ref q_dis) (C := R_B) (T := T_B) (N := 11) hx hb hts ki_B hown hK hP 0 rfl rfl 5 (by decide) (hts _ kw_1_158) (fun _ h9 => h9) rfl d_B_encode_69 ?_
      refine lv_iload_n hx hb d_B_encode_72 rfl (lv_at hl 0 rfl) ?_
      refine lv_aload_n hx hb d_B_encode_73 rfl (lv_at hl 2 rfl) ?_
      obtain ⟨u7, hc, hF⟩ := kc_bnd hF
      refine kr_call (va_runV (As := []) (rest := [.int v30_2, .ref q_dis]) ⟨hx, hb, hml, hown, hts⟩ (m_B_squaresNotTold l dC dI q_bp q_bk q_len q_dis q_va q_lr q_te q_sa q_twk q_tsg q_tsz q_tlo q_li q_rwk k_sa n_sa k_tsz n_tsz (f_ST_passesOf u1) sam u2.1 u5.2.1 u5.2.2.1 u5.2.2.2.2.1 _ hc) (cwV 0 hts (kgV kw_2_103 kw_2_105 kp_16 kw_1_1 kw_2_106) rfl rfl rfl (by decide +kernel) ⟨Nat.le_of_ble_eq_true rfl, Nat.le_of_ble_eq_true rfl⟩) ⟨kRe_blind, va_recv hK hP (ci := 0) (q0 := 0) rfl rfl, kRe_of (hP.sub [0, 9, 3, 5] rfl) (hK.sub [2, 5] rfl) hN⟩ rfl rfl hl.1 rfl (lv_room (Nat.le_of_ble_eq_true rfl)) d_B_encode_74 ⟨Nat.le_of_ble_eq_true rfl, Nat.le_of_ble_eq_true rfl⟩) ?_
      obtain ⟨h8, hF⟩ := kc_no hF
      refine va_last hx hb hK hP hD hS 2 1 rfl rfl h8 d_B_encode_77 (fun H locs hP hD hS => ?_)
      have hP : va_P (dC, dI) vwCl [(q_bp, .inr (0, [.ref q_bk, .ref q_sa, .ref q_te, .ref q_twk, .ref q_len, .ref q_dis, .int (f_ST_passesOf u1), .ref q_li, .ref q_rwk, .ref q_va, .ref q_lr])), (q_len, .inl (k_len, n_len, .inl (upd lens_30 v30_2.toNatClampNeg u5.2.2.2.2.2.2.1))), (q_dis, .inl (k_dis, n_dis, .inr (.inl (vp_updL diss_30 v30_2.toNatClampNeg u7)))), (q_twk, .inr (4, [.ref q_bk, .ref q_te, .ref q_tsg, .ref q_tsz, .ref q_tlo, .int u2.1, .int u5.2.1, .int u5.2.2.1])), (q_tsg, .inl (k_tsg, n_tsg, .inl u5.2.2.2.1)), (q_tsz, .inl (k_tsz, n_tsz, .inl u5.2.2.2.2.1)), (q_tlo, .inl (k_tlo, n_tlo, .inl u5.2.2.2.2.2.1)), (q_bk, .inr (1, [.int w, .int h, .int sty, .int bd, .int str, .int cel])), (q_te, .inr (2, [.ref q_sa, .ref q_ro, .int u5.2.2.2.2.2.2.1, .int v30_2])), (q_sa, .inl (k_sa, n_sa, .inl sam)), (q_ro, .inl (k_ro, n_ro, .inl u5.2.2.2.2.2.2.2))] H := hP
      have hD : va_D A [(q_bp, .inr (0, [.ref q_bk, .ref q_sa, .ref q_te, .ref q_twk, .ref q_len, .ref q_dis, .int (f_ST_passesOf u1), .ref q_li, .ref q_rwk, .ref q_va, .ref q_lr])), (q_len, .inl (k_len, n_len, .inl (upd lens_30 v30_2.toNatClampNeg u5.2.2.2.2.2.2.1))), (q_dis, .inl (k_dis, n_dis, .inr (.inl (vp_updL diss_30 v30_2.toNatClampNeg u7)))), (q_twk, .inr (4, [.ref q_bk, .ref q_te, .ref q_tsg, .ref q_tsz, .ref q_tlo, .int u2.1, .int u5.2.1, .int u5.2.2.1])), (q_tsg, .inl (k_tsg, n_tsg, .inl u5.2.2.2.1)), (q_tsz, .inl (k_tsz, n_tsz, .inl u5.2.2.2.2.1)), (q_tlo, .inl (k_tlo, n_tlo, .inl u5.2.2.2.2.2.1)), (q_bk, .inr (1, [.int w, .int h, .int sty, .int bd, .int str, .int cel])), (q_te, .inr (2, [.ref q_sa, .ref q_ro, .int u5.2.2.2.2.2.2.1, .int v30_2])), (q_sa, .inl (k_sa, n_sa, .inl sam)), (q_ro, .inl (k_ro, n_ro, .inl u5.2.2.2.2.2.2.2))] := hD
      refine lv_iinc (v := (v30_2 + 1)) (lv' := [(2, .int (v30_2 + 1)), (1, .int u1), (0, .ref q_bp)]) hx hb d_B_encode_78 hl (k := 0) rfl rfl (by decide) rfl (fun ls hl => ?_)
      refine lv_goto (tgt := 30) hx hb d_B_encode_81 (by decide) ?_
      exact ih _ _ _ _ _ _ _ _ _ _ _ hF _ _ _ (hP.sub [0, 7, 1, 2, 9, 10, 8, 3, 4, 5, 6] rfl) (hD.sub [0, 7, 1, 2, 9, 10, 8, 3, 4, 5, 6] (by decide) rfl) hS (lv_sub hl [0, 1, 2] rfl)
  exact hIu3 _ _ _ _ _ _ _ _ _ _ _ _ hcu3 _ _ _ hP hD hS (lv_sub hl [0, 1, 2] rfl)
abbrev rm_B_bits : Room := { frames := 0, cells := 0, slots := 0, locals := 0 }
set_option maxHeartbeats 4000000 in
set_option maxRecDepth 100000 in
theorem m_B_bits (l : Launch) (dC : Nat → ClassId) (dI : Nat → Nat → Nat) (q_bp q_bk q_len q_dis q_va q_lr q_te q_sa q_ro q_twk q_li q_rwk : Nat) (pt : Int32) (cnt : Int32) (pn : Int32) (u : Int32) (hF : f_B_bits cnt = u) : Met l y_B_bits (kws y_B_bits c_B_bits 1 (some .int)) rm_B_bits (kRe (dC, dI) [.ref q_bp] [(q_bp, .inr (0, [.ref q_bk, .ref q_sa, .ref q_te, .ref q_twk, .ref q_len, .ref q_dis, .int pt, .ref q_li, .ref q_rwk, .ref q_va, .ref q_lr])), (q_te, .inr (2, [.ref q_sa, .ref q_ro, .int cnt, .int pn]))] []) (k2_QcV (.int u)) 0 0 (fun _ => False) := by
  unfold f_B_bits at hF
  refine kR_of (cc := c_B_bits) (maxL := 1) (ret := (some .int)) (by decide) (Nat.le_of_ble_eq_true rfl) ?_
  intro p e s m args below meth c Q hQ hfx hP hK hN ls hl
  obtain ⟨hx, hb, hr, hml, hown, hts, hlocks⟩ := hfx
  have hown : s.vm.findClass R_B = some m.cls := hown
  have hl : lv_has ls 1 [(0, .ref q_bp)] := hl
  refine lv_aload_n hx hb d_B_bits_0 rfl (lv_at hl 0 rfl) ?_
  refine va_get (D := (dC, dI)) (ci := 0) (v := .ref q_te) (C := R_B) (T := T_B) (N := 11) hx hb hts ki_B hown hK hP 0 rfl rfl 2 (by decide) (hts _ kw_1_155) (fun _ h9 => h9) rfl d_B_bits_1 ?_
  refine va_get (D := (dC, dI)) (ci := 2) (v := .int cnt) (C := R_T) (T := T_T) (N := 4) hx hb hts ki_T hown hK hP 1 rfl rfl 2 (by decide) (hts _ kw_1_84) (fun _ h9 => h9) rfl d_B_bits_4 ?_
  subst hF
  exact kr_iret hx hb hr hlocks hQ d_B_bits_7
abbrev rm_B_told : Room := { frames := 2, cells := 0, slots := 0, locals := 37 }
set_option maxHeartbeats 4000000 in
set_option maxRecDepth 100000 in
theorem m_B_told (l : Launch) (dC : Nat → ClassId) (dI : Nat → Nat → Nat) (q_bp q_bk q_len q_dis q_va q_lr q_te q_sa q_twk q_li q_wo q_rwk : Nat) (k_sa : ClassId) (n_sa : Nat) (pt : Int32) (w : Int32) (h : Int32) (sty : Int32) (bd : Int32) (str : Int32) (cel : Int32) (sam : (Nat → Int32)) (lcn : Int32) (lak : Int32) (nxt : Int32) (a0 : Int32) (u : Int32) (hF : f_B_told pt w h sty bd sam lcn n_sa a0 = some u) : Met l y_B_told (kws y_B_told c_B_told 2 (some .int)) rm_B_told (kRe (dC, dI) [.ref q_bp, .int a0] [(q_bp, .inr (0, [.ref q_bk, .ref q_sa, .ref q_te, .ref q_twk, .ref q_len, .ref q_dis, .int pt, .ref q_li, .ref q_rwk, .ref q_va, .ref q_lr])), (q_bk, .inr (1, [.int w, .int h, .int sty, .int bd, .int str, .int cel])), (q_sa, .inl (k_sa, n_sa, .inl sam)), (q_li, .inr (3, [.ref q_wo, .int lcn, .int lak, .int nxt]))] [(k_sa, .int)]) (k2_QcV (.int u)) 0 0 (fun _ => False) := by
  unfold f_B_told at hF
  refine kR_of (cc := c_B_told) (maxL := 2) (ret := (some .int)) (by decide) (Nat.le_of_ble_eq_true rfl) ?_
  intro p e s m args below meth c Q hQ hfx hP hK hN ls hl
  obtain ⟨hx, hb, hr, hml, hown, hts, hlocks⟩ := hfx
  have hown : s.vm.findClass R_B = some m.cls := hown
  have hl : lv_has ls 2 [(0, .ref q_bp), (1, .int a0)] := hl
  refine lv_iload_n hx hb d_B_told_0 rfl (lv_at hl 1 rfl) ?_
  by_cases c1 : a0 = 0
  · have hF := kc_pos c1 hF
    have hti : (a0).toInt = 0 := by rw [c1]; decide
    refine lv_tableIn (off := 43) (tgt := 44) hx hb d_B_told_1 (by rw [hti]; decide) (by rw [hti]; decide) (by rw [hti]; rfl) (by decide) ?_
    refine lv_aload_n hx hb d_B_told_44 rfl (lv_at hl 0 rfl) ?_
    refine va_get (D := (dC, dI)) (ci := 0) (v := .ref q_bk) (C := R_B) (T := T_B) (N := 11) hx hb hts ki_B hown hK hP 0 rfl rfl 0 (by decide) (hts _ kw_1_153) (fun _ h9 => h9) rfl d_B_told_45 ?_
    refine va_get (D := (dC, dI)) (ci := 1) (v := .int w) (C := R_K) (T := T_K) (N := 6) hx hb hts ki_K hown hK hP 1 rfl rfl 0 (by decide) (hts _ kw_1_40) (fun _ h9 => h9) rfl d_B_told_48 ?_
    obtain rfl := Option.some.inj hF
    exact kr_iret hx hb hr hlocks hQ d_B_told_51
  have hF := kc_neg c1 hF
  by_cases c2 : a0 = 1
  · have hF := kc_pos c2 hF
    have hti : (a0).toInt = 1 := by rw [c2]; decide
    refine lv_tableIn (off := 51) (tgt := 52) hx hb d_B_told_1 (by rw [hti]; decide) (by rw [hti]; decide) (by rw [hti]; rfl) (by decide) ?_
    refine lv_aload_n hx hb d_B_told_52 rfl (lv_at hl 0 rfl) ?_
    refine va_get (D := (dC, dI)) (ci := 0) (v := .ref q_bk) (C := R_B) (T := T_B) (N := 11) hx hb hts ki_B hown hK hP 0 rfl rfl 0 (by decide) (hts _ kw_1_153) (fun _ h9 => h9) rfl d_B_told_53 ?_
    refine va_get (D := (dC, dI)) (ci := 1) (v := .int h) (C := R_K) (T := T_K) (N := 6) hx hb hts ki_K hown hK hP 1 rfl rfl 1 (by decide) (hts _ kw_1_43) (fun _ h9 => h9) rfl d_B_told_56 ?_
    obtain rfl := Option.some.inj hF
    exact kr_iret hx hb hr hlocks hQ d_B_told_59
  have hF := kc_neg c2 hF
  by_cases c3 : a0 = 2
  · have hF := kc_pos c3 hF
    have hti : (a0).toInt = 2 := by rw [c3]; decide
    refine lv_tableIn (off := 59) (tgt := 60) hx hb d_B_told_1 (by rw [hti]; decide) (by rw [hti]; decide) (by rw [hti]; rfl) (by decide) ?_
    refine lv_aload_n hx hb d_B_told_60 rfl (lv_at hl 0 rfl) ?_
    refine va_get (D := (dC, dI)) (ci := 0) (v := .ref q_bk) (C := R_B) (T := T_B) (N := 11) hx hb hts ki_B hown hK hP 0 rfl rfl 0 (by decide) (hts _ kw_1_153) (fun _ h9 => h9) rfl d_B_told_61 ?_
    refine va_get (D := (dC, dI)) (ci := 1) (v := .int sty) (C := R_K) (T := T_K) (N := 6) hx hb hts ki_K hown hK hP 1 rfl rfl 2 (by decide) (hts _ kw_1_46) (fun _ h9 => h9) rfl d_B_told_64 ?_
    obtain rfl := Option.some.inj hF
    exact kr_iret hx hb hr hlocks hQ d_B_told_67
  have hF := kc_neg c3 hF
  by_cases c4 : a0 = 3
  · have hF := kc_pos c4 hF
    have hti : (a0).toInt = 3 := by rw [c4]; decide
    refine lv_tableIn (off := 67) (tgt := 68) hx hb d_B_told_1 (by rw [hti]; decide) (by rw [hti]; decide) (by rw [hti]; rfl) (by decide) ?_
    refine lv_aload_n hx hb d_B_told_68 rfl (lv_at hl 0 rfl) ?_
    refine va_get (D := (dC, dI)) (ci := 0) (v := .ref q_bk) (C := R_B) (T := T_B) (N := 11) hx hb hts ki_B hown hK hP 0 rfl rfl 0 (by decide) (hts _ kw_1_153) (fun _ h9 => h9) rfl d_B_told_69 ?_
    refine va_get (D := (dC, dI)) (ci := 1) (v := .int bd) (C := R_K) (T := T_K) (N := 6) hx hb hts ki_K hown hK hP 1 rfl rfl 3 (by decide) (hts _ kw_1_49) (fun _ h9 => h9) rfl d_B_told_72 ?_
    obtain rfl := Option.some.inj hF
    exact kr_iret hx hb hr hlocks hQ d_B_told_75
  have hF := kc_neg c4 hF
  by_cases c5 : a0 = 4
  · have hF := kc_pos c5 hF
    have hti : (a0).toInt = 4 := by rw [c5]; decide
    refine lv_tableIn (off := 75) (tgt := 76) hx hb d_B_told_1 (by rw [hti]; decide) (by rw [hti]; decide) (by rw [hti]; rfl) (by decide) ?_
    refine lv_aload_n hx hb d_B_told_76 rfl (lv_at hl 0 rfl) ?_
    obtain ⟨u6, hc, hF⟩ := kc_bnd hF
    refine kr_call (va_runV (As := []) (rest := []) ⟨hx, hb, hml, hown, hts⟩ (m_B_planesOfSamples l dC dI q_bp q_bk q_len q_dis q_va q_lr q_te q_sa q_twk q_li q_rwk k_sa n_sa pt sam _ hc) (cwV 0 hts (kgV kw_1_199 kw_1_201 kp_0 kw_1_1 kw_1_202) rfl rfl rfl (by decide +kernel) ⟨Nat.le_of_ble_eq_true rfl, Nat.le_of_ble_eq_true rfl⟩) ⟨kRe_blind, va_recv hK hP (ci := 0) (q0 := 0) rfl rfl, kRe_of (hP.sub [0, 2] rfl) (hK.sub [0] rfl) hN⟩ rfl rfl hl.1 rfl (lv_room (Nat.le_of_ble_eq_true rfl)) d_B_told_77 ⟨Nat.le_of_ble_eq_true rfl, Nat.le_of_ble_eq_true rfl⟩) ?_
    obtain rfl := Option.some.inj hF
    exact kr_iret hx hb hr hlocks hQ d_B_told_80
  have hF := kc_neg c5 hF
  by_cases c7 : a0 = 5
  · have hF := kc_pos c7 hF
    have hti : (a0).toInt = 5 := by rw [c7]; decide
    refine lv_tableIn (off := 80) (tgt := 81) hx hb d_B_told_1 (by rw [hti]; decide) (by rw [hti]; decide) (by rw [hti]; rfl) (by decide) ?_
    refine lv_aload_n hx hb d_B_told_81 rfl (lv_at hl 0 rfl) ?_
    refine va_get (D := (dC, dI)) (ci := 0) (v := .int pt) (C := R_B) (T := T_B) (N := 11) hx hb hts ki_B hown hK hP 0 rfl rfl 6 (by decide) (hts _ kw_1_159) (fun _ h9 => h9) rfl d_B_told_82 ?_
    obtain rfl := Option.some.inj hF
    exact kr_iret hx hb hr hlocks hQ d_B_told_85
  have hF := kc_neg c7 hF
  by_cases c8 : a0 = 6
  · have hF := kc_pos c8 hF
    have hti : (a0).toInt = 6 := by rw [c8]; decide
    refine lv_tableIn (off := 85) (tgt := 86) hx hb d_B_told_1 (by rw [hti]; decide) (by rw [hti]; decide) (by rw [hti]; rfl) (by decide) ?_
    refine lv_aload_n hx hb d_B_told_86 rfl (lv_at hl 0 rfl) ?_
    refine va_get (D := (dC, dI)) (ci := 0) (v := .ref q_li) (C := R_B) (T := T_B) (N := 11) hx hb hts ki_B hown hK hP 0 rfl rfl 7 (by decide) (hts _ kw_1_160) (fun _ h9 => h9) rfl d_B_told_87 ?_
    refine va_get (D := (dC, dI)) (ci := 3) (v := .int lcn) (C := R_L) (T := T_L) (N := 4) hx hb hts ki_L hown hK hP 3 rfl rfl 1 (by decide) (hts _ kw_1_139) (fun _ h9 => h9) rfl d_B_told_90 ?_
    obtain rfl := Option.some.inj hF
    exact kr_iret hx hb hr hlocks hQ d_B_told_93
  have hF := kc_neg c8 hF
  have tc1 : (a0).toInt ≠ 0 := kt_ne c1 (by decide)
  have tc2 : (a0).toInt ≠ 1 := kt_ne c2 (by decide)
  have tc3 : (a0).toInt ≠ 2 := kt_ne c3 (by decide)
  have tc4 : (a0).toInt ≠ 3 := kt_ne c4 (by decide)
  have tc5 : (a0).toInt ≠ 4 := kt_ne c5 (by decide)
  have tc7 : (a0).toInt ≠ 5 := kt_ne c7 (by decide)
  have tc8 : (a0).toInt ≠ 6 := kt_ne c8 (by decide)
  refine lv_tableOut (tgt := 94) hx hb d_B_told_1 (by omega) (by decide) ?_
  refine lv_iconst (v := -1) hx hb d_B_told_94 (by decide) ?_
  obtain rfl := Option.some.inj hF
  exact kr_iret hx hb hr hlocks hQ d_B_told_95
abbrev rm_B_clear : Room := { frames := 1, cells := 0, slots := 0, locals := 22 }
set_option maxHeartbeats 4000000 in
set_option maxRecDepth 100000 in
theorem m_B_clear (l : Launch) (dC : Nat → ClassId) (dI : Nat → Nat → Nat) (q_bp q_bk q_len q_dis q_va q_lr q_te q_sa q_ro q_twk q_li q_wo q_rwk : Nat) (k_va : ClassId) (n_va : Nat) (k_lr : ClassId) (n_lr : Nat) (k_sa : ClassId) (n_sa : Nat) (pt : Int32) (vals : (Nat → Int32)) (lowr : (Nat → Int32)) (cnt : Int32) (pn : Int32) (sam : (Nat → Int32)) (lcn : Int32) (lak : Int32) (nxt : Int32) (u : Int32 × (Nat → Int32) × (Nat → Int32) × Int32 × (Nat → Int32) × Int32) (hF : f_B_clear vals lowr sam n_va n_lr n_sa = some u) : ∀ sz : Nat, Met l y_B_clear (kws y_B_clear c_B_clear 1 none) rm_B_clear (kPre (dC, dI) [.ref q_bp] [(q_bp, .inr (0, [.ref q_bk, .ref q_sa, .ref q_te, .ref q_twk, .ref q_len, .ref q_dis, .int pt, .ref q_li, .ref q_rwk, .ref q_va, .ref q_lr])), (q_va, .inl (k_va, n_va, .inl vals)), (q_lr, .inl (k_lr, n_lr, .inl lowr)), (q_te, .inr (2, [.ref q_sa, .ref q_ro, .int cnt, .int pn])), (q_sa, .inl (k_sa, n_sa, .inl sam)), (q_li, .inr (3, [.ref q_wo, .int lcn, .int lak, .int nxt]))] [(k_va, .int), (k_lr, .int), (k_sa, .int)] sz) (kPost (dC, dI) none [(q_bp, .inr (0, [.ref q_bk, .ref q_sa, .ref q_te, .ref q_twk, .ref q_len, .ref q_dis, .int u.1, .ref q_li, .ref q_rwk, .ref q_va, .ref q_lr])), (q_va, .inl (k_va, n_va, .inl u.2.1)), (q_lr, .inl (k_lr, n_lr, .inl u.2.2.1)), (q_te, .inr (2, [.ref q_sa, .ref q_ro, .int u.2.2.2.1, .int pn])), (q_sa, .inl (k_sa, n_sa, .inl u.2.2.2.2.1)), (q_li, .inr (3, [.ref q_wo, .int u.2.2.2.2.2, .int lak, .int nxt]))] (va_A [(q_bp, .inr (0, [.ref q_bk, .ref q_sa, .ref q_te, .ref q_twk, .ref q_len, .ref q_dis, .int pt, .ref q_li, .ref q_rwk, .ref q_va, .ref q_lr])), (q_va, .inl (k_va, n_va, .inl vals)), (q_lr, .inl (k_lr, n_lr, .inl lowr)), (q_te, .inr (2, [.ref q_sa, .ref q_ro, .int cnt, .int pn])), (q_sa, .inl (k_sa, n_sa, .inl sam)), (q_li, .inr (3, [.ref q_wo, .int lcn, .int lak, .int nxt]))] sz)) 0 0 (va_A [(q_bp, .inr (0, [.ref q_bk, .ref q_sa, .ref q_te, .ref q_twk, .ref q_len, .ref q_dis, .int pt, .ref q_li, .ref q_rwk, .ref q_va, .ref q_lr])), (q_va, .inl (k_va, n_va, .inl vals)), (q_lr, .inl (k_lr, n_lr, .inl lowr)), (q_te, .inr (2, [.ref q_sa, .ref q_ro, .int cnt, .int pn])), (q_sa, .inl (k_sa, n_sa, .inl sam)), (q_li, .inr (3, [.ref q_wo, .int lcn, .int lak, .int nxt]))] sz) := by
  unfold f_B_clear at hF
  refine kU_of (cc := c_B_clear) (maxL := 1) (ret := none) (by decide) (Nat.le_of_ble_eq_true rfl) ?_
  intro p e s m args below meth c Q A hQ hfx hK hN hA H locs ls hP hD hS hl
  obtain ⟨hx, hb, hr, hml, hown, hts, hlocks⟩ := hfx
  have hown : s.vm.findClass R_B = some m.cls := hown
  have hl : lv_has ls 1 [(0, .ref q_bp)] := hl
  refine lv_aload_n hx hb d_B_clear_0 rfl (lv_at hl 0 rfl) ?_
  refine va_get (D := (dC, dI)) (ci := 0) (v := .ref q_sa) (C := R_B) (T := T_B) (N := 11) hx hb hts ki_B hown hK hP 0 rfl rfl 1 (by decide) (hts _ kw_1_154) (fun _ h9 => h9) rfl d_B_clear_1 ?_
  refine lv_iconst (v := 0) hx hb d_B_clear_4 (by decide) ?_
  obtain ⟨u1, hc, hF⟩ := kc_bnd hF
  refine ku_call (wr := [(q_bp, .inr (0, [.ref q_bk, .ref q_sa, .ref q_te, .ref q_twk, .ref q_len, .ref q_dis, .int pt, .ref q_li, .ref q_rwk, .ref q_va, .ref q_lr])), (q_va, .inl (k_va, n_va, .inl vals)), (q_lr, .inl (k_lr, n_lr, .inl lowr)), (q_te, .inr (2, [.ref q_sa, .ref q_ro, .int cnt, .int pn])), (q_li, .inr (3, [.ref q_wo, .int lcn, .int lak, .int nxt]))]) hA (va_runS (As := [.ref q_sa, .int (0 : Int32)]) (rest := []) ⟨hx, hb, hml, hown, hts⟩ (m_FI_fillWith l dC dI q_sa k_sa n_sa sam (0 : Int32) _ hc H.size) (va_cwS 2 hts (kgS kw_2_119 kw_1_218 kw_1_1 kw_1_219) rfl rfl rfl (by decide +kernel) ⟨Nat.le_of_ble_eq_true rfl, Nat.le_of_ble_eq_true rfl⟩) ⟨kPre_blind, kPre_of (hP.sub [4] rfl) (hK.sub [2] rfl) (hD.sub [4] (by decide) rfl) hN⟩ rfl rfl hl.1 rfl (lv_room (Nat.le_of_ble_eq_true rfl)) d_B_clear_5 ⟨Nat.le_of_ble_eq_true rfl, Nat.le_of_ble_eq_true rfl⟩) hP hD hS [4] [0, 1, 2, 3, 5] rfl rfl (by decide) (by decide) (fun H locs hP hD hS => ?_)
  have hP : va_P (dC, dI) vwCl [(q_bp, .inr (0, [.ref q_bk, .ref q_sa, .ref q_te, .ref q_twk, .ref q_len, .ref q_dis, .int pt, .ref q_li, .ref q_rwk, .ref q_va, .ref q_lr])), (q_va, .inl (k_va, n_va, .inl vals)), (q_lr, .inl (k_lr, n_lr, .inl lowr)), (q_te, .inr (2, [.ref q_sa, .ref q_ro, .int cnt, .int pn])), (q_li, .inr (3, [.ref q_wo, .int lcn, .int lak, .int nxt])), (q_sa, .inl (k_sa, n_sa, .inl u1))] H := hP
  have hD : va_D A [(q_bp, .inr (0, [.ref q_bk, .ref q_sa, .ref q_te, .ref q_twk, .ref q_len, .ref q_dis, .int pt, .ref q_li, .ref q_rwk, .ref q_va, .ref q_lr])), (q_va, .inl (k_va, n_va, .inl vals)), (q_lr, .inl (k_lr, n_lr, .inl lowr)), (q_te, .inr (2, [.ref q_sa, .ref q_ro, .int cnt, .int pn])), (q_li, .inr (3, [.ref q_wo, .int lcn, .int lak, .int nxt])), (q_sa, .inl (k_sa, n_sa, .inl u1))] := hD
  refine lv_aload_n hx hb d_B_clear_8 rfl (lv_at hl 0 rfl) ?_
  refine va_get (D := (dC, dI)) (ci := 0) (v := .ref q_te) (C := R_B) (T := T_B) (N := 11) hx hb hts ki_B hown hK hP 0 rfl rfl 2 (by decide) (hts _ kw_1_155) (fun _ h9 => h9) rfl d_B_clear_9 ?_
  refine ku_call (wr := [(q_bp, .inr (0, [.ref q_bk, .ref q_sa, .ref q_te, .ref q_twk, .ref q_len, .ref q_dis, .int pt, .ref q_li, .ref q_rwk, .ref q_va, .ref q_lr])), (q_va, .inl (k_va, n_va, .inl vals)), (q_lr, .inl (k_lr, n_lr, .inl lowr)), (q_li, .inr (3, [.ref q_wo, .int lcn, .int lak, .int nxt])), (q_sa, .inl (k_sa, n_sa, .inl u1))]) hA (va_runV (As := []) (rest := []) ⟨hx, hb, hml, hown, hts⟩ (m_T_forget l dC dI q_te q_sa q_ro cnt pn (f_T_forget) rfl H.size) (cwV 0 hts (kgV kw_1_209 kw_1_210 kw_1_211 kw_1_5 kw_1_212) rfl rfl rfl (by decide +kernel) ⟨Nat.le_of_ble_eq_true rfl, Nat.le_of_ble_eq_true rfl⟩) ⟨kPre_blind, va_recv hK hP (ci := 2) (q0 := 3) rfl rfl, kPre_of (hP.sub [3] rfl) (hK.sub [] rfl) (hD.sub [3] (by decide) rfl) hN⟩ rfl rfl hl.1 rfl (lv_room (Nat.le_of_ble_eq_true rfl)) d_B_clear_12 ⟨Nat.le_of_ble_eq_true rfl, Nat.le_of_ble_eq_true rfl⟩) hP hD hS [3] [0, 1, 2, 4, 5] rfl rfl (by decide) (by decide) (fun H locs hP hD hS => ?_)
  have hP : va_P (dC, dI) vwCl [(q_bp, .inr (0, [.ref q_bk, .ref q_sa, .ref q_te, .ref q_twk, .ref q_len, .ref q_dis, .int pt, .ref q_li, .ref q_rwk, .ref q_va, .ref q_lr])), (q_va, .inl (k_va, n_va, .inl vals)), (q_lr, .inl (k_lr, n_lr, .inl lowr)), (q_li, .inr (3, [.ref q_wo, .int lcn, .int lak, .int nxt])), (q_sa, .inl (k_sa, n_sa, .inl u1)), (q_te, .inr (2, [.ref q_sa, .ref q_ro, .int (f_T_forget), .int pn]))] H := hP
  have hD : va_D A [(q_bp, .inr (0, [.ref q_bk, .ref q_sa, .ref q_te, .ref q_twk, .ref q_len, .ref q_dis, .int pt, .ref q_li, .ref q_rwk, .ref q_va, .ref q_lr])), (q_va, .inl (k_va, n_va, .inl vals)), (q_lr, .inl (k_lr, n_lr, .inl lowr)), (q_li, .inr (3, [.ref q_wo, .int lcn, .int lak, .int nxt])), (q_sa, .inl (k_sa, n_sa, .inl u1)), (q_te, .inr (2, [.ref q_sa, .ref q_ro, .int (f_T_forget), .int pn]))] := hD
  refine lv_aload_n hx hb d_B_clear_15 rfl (lv_at hl 0 rfl) ?_
  refine lv_iconst (v := 0) hx hb d_B_clear_16 (by decide) ?_
  refine va_put (D := (dC, dI)) (ci := 0) (v := .int (0 : Int32)) (ty := .int) (C := R_B) (T := T_B) (N := 11) hx hb hts ki_B ty_B tyok_B nmok_B hown hK hP hD hS 0 rfl rfl 6 (by decide) (hts _ kw_1_159) (fun _ h9 => h9) rfl (by decide +kernel) rfl rfl (Nat.le_of_ble_eq_true rfl) d_B_clear_17 (fun H locs hP hD hS => ?_)
  have hP : va_P (dC, dI) vwCl [(q_bp, .inr (0, [.ref q_bk, .ref q_sa, .ref q_te, .ref q_twk, .ref q_len, .ref q_dis, .int (0 : Int32), .ref q_li, .ref q_rwk, .ref q_va, .ref q_lr])), (q_va, .inl (k_va, n_va, .inl vals)), (q_lr, .inl (k_lr, n_lr, .inl lowr)), (q_li, .inr (3, [.ref q_wo, .int lcn, .int lak, .int nxt])), (q_sa, .inl (k_sa, n_sa, .inl u1)), (q_te, .inr (2, [.ref q_sa, .ref q_ro, .int (f_T_forget), .int pn]))] H := hP
  have hD : va_D A [(q_bp, .inr (0, [.ref q_bk, .ref q_sa, .ref q_te, .ref q_twk, .ref q_len, .ref q_dis, .int (0 : Int32), .ref q_li, .ref q_rwk, .ref q_va, .ref q_lr])), (q_va, .inl (k_va, n_va, .inl vals)), (q_lr, .inl (k_lr, n_lr, .inl lowr)), (q_li, .inr (3, [.ref q_wo, .int lcn, .int lak, .int nxt])), (q_sa, .inl (k_sa, n_sa, .inl u1)), (q_te, .inr (2, [.ref q_sa, .ref q_ro, .int (f_T_forget), .int pn]))] := hD
  refine lv_aload_n hx hb d_B_clear_20 rfl (lv_at hl 0 rfl) ?_
  refine va_get (D := (dC, dI)) (ci := 0) (v := .ref q_li) (C := R_B) (T := T_B) (N := 11) hx hb hts ki_B hown hK hP 0 rfl rfl 7 (by decide) (hts _ kw_1_160) (fun _ h9 => h9) rfl d_B_clear_21 ?_
  refine ku_call (wr := [(q_bp, .inr (0, [.ref q_bk, .ref q_sa, .ref q_te, .ref q_twk, .ref q_len, .ref q_dis, .int (0 : Int32), .ref q_li, .ref q_rwk, .ref q_va, .ref q_lr])), (q_va, .inl (k_va, n_va, .inl vals)), (q_lr, .inl (k_lr, n_lr, .inl lowr)), (q_sa, .inl (k_sa, n_sa, .inl u1)), (q_te, .inr (2, [.ref q_sa, .ref q_ro, .int (f_T_forget), .int pn]))]) hA (va_runV (As := []) (rest := []) ⟨hx, hb, hml, hown, hts⟩ (m_L_forget l dC dI q_li q_wo lcn lak nxt (f_L_forget) rfl H.size) (cwV 0 hts (kgV kw_2_120 kw_2_121 kw_2_122 kw_1_7 kw_2_123) rfl rfl rfl (by decide +kernel) ⟨Nat.le_of_ble_eq_true rfl, Nat.le_of_ble_eq_true rfl⟩) ⟨kPre_blind, va_recv hK hP (ci := 3) (q0 := 3) rfl rfl, kPre_of (hP.sub [3] rfl) (hK.sub [] rfl) (hD.sub [3] (by decide) rfl) hN⟩ rfl rfl hl.1 rfl (lv_room (Nat.le_of_ble_eq_true rfl)) d_B_clear_24 ⟨Nat.le_of_ble_eq_true rfl, Nat.le_of_ble_eq_true rfl⟩) hP hD hS [3] [0, 1, 2, 4, 5] rfl rfl (by decide) (by decide) (fun H locs hP hD hS => ?_)
  have hP : va_P (dC, dI) vwCl [(q_bp, .inr (0, [.ref q_bk, .ref q_sa, .ref q_te, .ref q_twk, .ref q_len, .ref q_dis, .int (0 : Int32), .ref q_li, .ref q_rwk, .ref q_va, .ref q_lr])), (q_va, .inl (k_va, n_va, .inl vals)), (q_lr, .inl (k_lr, n_lr, .inl lowr)), (q_sa, .inl (k_sa, n_sa, .inl u1)), (q_te, .inr (2, [.ref q_sa, .ref q_ro, .int (f_T_forget), .int pn])), (q_li, .inr (3, [.ref q_wo, .int (f_L_forget), .int lak, .int nxt]))] H := hP
  have hD : va_D A [(q_bp, .inr (0, [.ref q_bk, .ref q_sa, .ref q_te, .ref q_twk, .ref q_len, .ref q_dis, .int (0 : Int32), .ref q_li, .ref q_rwk, .ref q_va, .ref q_lr])), (q_va, .inl (k_va, n_va, .inl vals)), (q_lr, .inl (k_lr, n_lr, .inl lowr)), (q_sa, .inl (k_sa, n_sa, .inl u1)), (q_te, .inr (2, [.ref q_sa, .ref q_ro, .int (f_T_forget), .int pn])), (q_li, .inr (3, [.ref q_wo, .int (f_L_forget), .int lak, .int nxt]))] := hD
  refine lv_aload_n hx hb d_B_clear_27 rfl (lv_at hl 0 rfl) ?_
  refine va_get (D := (dC, dI)) (ci := 0) (v := .ref q_va) (C := R_B) (T := T_B) (N := 11) hx hb hts ki_B hown hK hP 0 rfl rfl 9 (by decide) (hts _ kw_1_162) (fun _ h9 => h9) rfl d_B_clear_28 ?_
  refine lv_iconst (v := 0) hx hb d_B_clear_31 (by decide) ?_
  obtain ⟨u2, hc, hF⟩ := kc_bnd hF
  refine ku_call (wr := [(q_bp, .inr (0, [.ref q_bk, .ref q_sa, .ref q_te, .ref q_twk, .ref q_len, .ref q_dis, .int (0 : Int32), .ref q_li, .ref q_rwk, .ref q_va, .ref q_lr])), (q_lr, .inl (k_lr, n_lr, .inl lowr)), (q_sa, .inl (k_sa, n_sa, .inl u1)), (q_te, .inr (2, [.ref q_sa, .ref q_ro, .int (f_T_forget), .int pn])), (q_li, .inr (3, [.ref q_wo, .int (f_L_forget), .int lak, .int nxt]))]) hA (va_runS (As := [.ref q_va, .int (0 : Int32)]) (rest := []) ⟨hx, hb, hml, hown, hts⟩ (m_FI_fillWith l dC dI q_va k_va n_va vals (0 : Int32) _ hc H.size) (va_cwS 2 hts (kgS kw_2_119 kw_1_218 kw_1_1 kw_1_219) rfl rfl rfl (by decide +kernel) ⟨Nat.le_of_ble_eq_true rfl, Nat.le_of_ble_eq_true rfl⟩) ⟨kPre_blind, kPre_of (hP.sub [1] rfl) (hK.sub [0] rfl) (hD.sub [1] (by decide) rfl) hN⟩ rfl rfl hl.1 rfl (lv_room (Nat.le_of_ble_eq_true rfl)) d_B_clear_32 ⟨Nat.le_of_ble_eq_true rfl, Nat.le_of_ble_eq_true rfl⟩) hP hD hS [1] [0, 2, 3, 4, 5] rfl rfl (by decide) (by decide) (fun H locs hP hD hS => ?_)
  have hP : va_P (dC, dI) vwCl [(q_bp, .inr (0, [.ref q_bk, .ref q_sa, .ref q_te, .ref q_twk, .ref q_len, .ref q_dis, .int (0 : Int32), .ref q_li, .ref q_rwk, .ref q_va, .ref q_lr])), (q_lr, .inl (k_lr, n_lr, .inl lowr)), (q_sa, .inl (k_sa, n_sa, .inl u1)), (q_te, .inr (2, [.ref q_sa, .ref q_ro, .int (f_T_forget), .int pn])), (q_li, .inr (3, [.ref q_wo, .int (f_L_forget), .int lak, .int nxt])), (q_va, .inl (k_va, n_va, .inl u2))] H := hP
  have hD : va_D A [(q_bp, .inr (0, [.ref q_bk, .ref q_sa, .ref q_te, .ref q_twk, .ref q_len, .ref q_dis, .int (0 : Int32), .ref q_li, .ref q_rwk, .ref q_va, .ref q_lr])), (q_lr, .inl (k_lr, n_lr, .inl lowr)), (q_sa, .inl (k_sa, n_sa, .inl u1)), (q_te, .inr (2, [.ref q_sa, .ref q_ro, .int (f_T_forget), .int pn])), (q_li, .inr (3, [.ref q_wo, .int (f_L_forget), .int lak, .int nxt])), (q_va, .inl (k_va, n_va, .inl u2))] := hD
  refine lv_aload_n hx hb d_B_clear_35 rfl (lv_at hl 0 rfl) ?_
  refine va_get (D := (dC, dI)) (ci := 0) (v := .ref q_lr) (C := R_B) (T := T_B) (N := 11) hx hb hts ki_B hown hK hP 0 rfl rfl 10 (by decide) (hts _ kw_1_163) (fun _ h9 => h9) rfl d_B_clear_36 ?_
  refine lv_iconst (v := 0) hx hb d_B_clear_39 (by decide) ?_
  obtain ⟨u3, hc, hF⟩ := kc_bnd hF
  refine ku_call (wr := [(q_bp, .inr (0, [.ref q_bk, .ref q_sa, .ref q_te, .ref q_twk, .ref q_len, .ref q_dis, .int (0 : Int32), .ref q_li, .ref q_rwk, .ref q_va, .ref q_lr])), (q_sa, .inl (k_sa, n_sa, .inl u1)), (q_te, .inr (2, [.ref q_sa, .ref q_ro, .int (f_T_forget), .int pn])), (q_li, .inr (3, [.ref q_wo, .int (f_L_forget), .int lak, .int nxt])), (q_va, .inl (k_va, n_va, .inl u2))]) hA (va_runS (As := [.ref q_lr, .int (0 : Int32)]) (rest := []) ⟨hx, hb, hml, hown, hts⟩ (m_FI_fillWith l dC dI q_lr k_lr n_lr lowr (0 : Int32) _ hc H.size) (va_cwS 2 hts (kgS kw_2_119 kw_1_218 kw_1_1 kw_1_219) rfl rfl rfl (by decide +kernel) ⟨Nat.le_of_ble_eq_true rfl, Nat.le_of_ble_eq_true rfl⟩) ⟨kPre_blind, kPre_of (hP.sub [1] rfl) (hK.sub [1] rfl) (hD.sub [1] (by decide) rfl) hN⟩ rfl rfl hl.1 rfl (lv_room (Nat.le_of_ble_eq_true rfl)) d_B_clear_40 ⟨Nat.le_of_ble_eq_true rfl, Nat.le_of_ble_eq_true rfl⟩) hP hD hS [1] [0, 2, 3, 4, 5] rfl rfl (by decide) (by decide) (fun H locs hP hD hS => ?_)
  have hP : va_P (dC, dI) vwCl [(q_bp, .inr (0, [.ref q_bk, .ref q_sa, .ref q_te, .ref q_twk, .ref q_len, .ref q_dis, .int (0 : Int32), .ref q_li, .ref q_rwk, .ref q_va, .ref q_lr])), (q_sa, .inl (k_sa, n_sa, .inl u1)), (q_te, .inr (2, [.ref q_sa, .ref q_ro, .int (f_T_forget), .int pn])), (q_li, .inr (3, [.ref q_wo, .int (f_L_forget), .int lak, .int nxt])), (q_va, .inl (k_va, n_va, .inl u2)), (q_lr, .inl (k_lr, n_lr, .inl u3))] H := hP
  have hD : va_D A [(q_bp, .inr (0, [.ref q_bk, .ref q_sa, .ref q_te, .ref q_twk, .ref q_len, .ref q_dis, .int (0 : Int32), .ref q_li, .ref q_rwk, .ref q_va, .ref q_lr])), (q_sa, .inl (k_sa, n_sa, .inl u1)), (q_te, .inr (2, [.ref q_sa, .ref q_ro, .int (f_T_forget), .int pn])), (q_li, .inr (3, [.ref q_wo, .int (f_L_forget), .int lak, .int nxt])), (q_va, .inl (k_va, n_va, .inl u2)), (q_lr, .inl (k_lr, n_lr, .inl u3))] := hD
  obtain rfl := Option.some.inj hF
  exact ku_vret hx hb hr hlocks hQ (hP.sub [0, 4, 5, 2, 1, 3] rfl) (hD.sub [0, 4, 5, 2, 1, 3] (by decide) rfl) hS d_B_clear_43

def f_B_mustHoldSample (w : Int32) (h : Int32) (a0 : Int32) (a1 : Int32) : Option (Nat) :=
  (if (f_K_holds w h a0 a1) = 0 then some (1) else some (0))
def f_B_mustBeTold (pt : Int32) (a0 : Int32) : Option (Nat) :=
  (if a0 < 0 then some (1) else (if a0 < pt then some (0) else some (1)))
def f_B_mustHaveRoomFor (lcn : Int32) (a0 : Int32) : Option (Nat) :=
  (if a0 ≤ ((12000 : Int32) - lcn) then some (0) else some (3))
def f_B_put (w : Int32) (h : Int32) (str : Int32) (sam : (Nat → Int32)) (n_sa : Nat) (a0 : Int32) (a1 : Int32) (a2 : Int32) : Option (Nat × Int32 × (Nat → Int32)) :=
  ((f_B_mustHoldSample w h a0 a1).bind fun u1 => if u1 = 0 then (if a2 < (-32767 : Int32) then some (2, (0 : Int32), sam) else (if a2 ≤ (32767 : Int32) then if ((f_K_cellOf str a0 a1) < 0 ∨ n_sa ≤ (f_K_cellOf str a0 a1).toNatClampNeg) then none else if ((f_K_cellOf str a0 a1) < 0 ∨ n_sa ≤ (f_K_cellOf str a0 a1).toNatClampNeg) then none else some (0, (sam (f_K_cellOf str a0 a1).toNatClampNeg), (upd sam (f_K_cellOf str a0 a1).toNatClampNeg a2)) else some (2, (0 : Int32), sam))) else some (u1, (0 : Int32), sam))
def f_B_bit (cnt : Int32) (row : (Nat → Int32)) (n_ro : Nat) (a0 : Int32) (a1 : Int32) : Option (Nat × Int32) :=
  (if a0 < 0 then some (1, (0 : Int32)) else (if a0 < cnt then (if a1 = 0 then ((f_T_bitOf row n_ro a0).bind fun u4 => some (0, u4)) else (if a1 = 1 then ((f_T_contextOf row n_ro a0).bind fun u6 => some (0, u6)) else (if a1 = 2 then ((f_T_passOf row n_ro a0).bind fun u8 => some (0, u8)) else some (2, (0 : Int32))))) else some (1, (0 : Int32))))
def f_B_length (pt : Int32) (lens : (Nat → Int32)) (n_len : Nat) (a0 : Int32) : Option (Nat × Int32) :=
  ((f_B_mustBeTold pt a0).bind fun u1 => if u1 = 0 then if (a0 < 0 ∨ n_len ≤ a0.toNatClampNeg) then none else some (0, (lens a0.toNatClampNeg)) else some (u1, (0 : Int32)))
def f_B_distortion (pt : Int32) (diss : (Nat → Int64)) (n_dis : Nat) (a0 : Int32) : Option (Nat × Int64) :=
  ((f_B_mustBeTold pt a0).bind fun u1 => if u1 = 0 then if (a0 < 0 ∨ n_dis ≤ a0.toNatClampNeg) then none else some (0, (diss a0.toNatClampNeg)) else some (u1, (0 : Int64)))
def f_B_kind (pt : Int32) (a0 : Int32) : Option (Nat × Int32) :=
  ((f_B_mustBeTold pt a0).bind fun u1 => if u1 = 0 then some (0, (f_ST_kindOf a0)) else some (u1, (0 : Int32)))
def f_B_terminated (pt : Int32) (sty : Int32) (a0 : Int32) : Option (Nat × Int32) :=
  ((f_B_mustBeTold pt a0).bind fun u1 => if u1 = 0 then (if a0 = (pt - (1 : Int32)) then some (0, (1 : Int32)) else (if (f_K_hasStyle sty (4 : Int32)) = 0 then (if (f_K_hasStyle sty (1 : Int32)) = 0 then some (0, (0 : Int32)) else (if a0 < (9 : Int32) then some (0, (0 : Int32)) else (if (f_ST_kindOf a0) = 0 then some (0, (0 : Int32)) else some (0, (1 : Int32))))) else some (0, (1 : Int32)))) else some (u1, (0 : Int32)))
def f_B_feed (lcn : Int32) (wor : (Nat → Int32)) (n_wo : Nat) (a0 : Int32) : Option (Nat × Int32 × Int32 × (Nat → Int32)) :=
  (if a0 < 0 then some (2, (0 : Int32), lcn, wor) else (if a0 ≤ (1 : Int32) then ((f_B_mustHaveRoomFor lcn (1 : Int32)).bind fun u3 => if u3 = 0 then ((f_L_append lcn wor n_wo a0).bind fun u4 => some (0, u4.1, u4.1, u4.2)) else some (u3, (0 : Int32), lcn, wor)) else some (2, (0 : Int32), lcn, wor)))
def f_B_pass_L33 (cnt : Int32) (row : (Nat → Int32)) (n_ro : Nat) (n_wo : Nat) (a0 : Int32) : Nat → Int32 → Int32 → (Nat → Int32) → Option (Int32 × Int32 × (Nat → Int32))
  | 0, _, _, _ => none
  | N + 1, v33_3, lcn_33, wor_33 => (if (kmin a0 cnt) ≤ v33_3 then some (v33_3, lcn_33, wor_33) else ((f_T_bitOf row n_ro v33_3).bind fun u5 => ((f_L_append lcn_33 wor_33 n_wo u5).bind fun u6 => f_B_pass_L33 cnt row n_ro n_wo a0 N (v33_3 + 1) u6.1 u6.2)))
def f_B_pass (cnt : Int32) (row : (Nat → Int32)) (lcn : Int32) (wor : (Nat → Int32)) (n_ro : Nat) (n_wo : Nat) (a0 : Int32) : Option (Nat × Int32 × Int32 × (Nat → Int32)) :=
  (if 0 ≤ a0 then ((f_B_mustHaveRoomFor lcn (kmin a0 cnt)).bind fun u2 => if u2 = 0 then ((f_B_pass_L33 cnt row n_ro n_wo a0 kBig (0 : Int32) lcn wor).bind fun u3 => some (0, (kmin a0 cnt), u3.2.1, u3.2.2)) else some (u2, (0 : Int32), lcn, wor)) else some (2, (0 : Int32), lcn, wor))
def f_B_turn (lcn : Int32) (wor : (Nat → Int32)) (n_wo : Nat) (a0 : Int32) : Option (Nat × Int32 × (Nat → Int32)) :=
  (if a0 < 0 then some (1, (0 : Int32), wor) else (if a0 < lcn then ((f_L_flip wor n_wo a0).bind fun u3 => some (0, u3.1, u3.2)) else some (1, (0 : Int32), wor)))
def f_B_decode_L55 (w : Int32) (h : Int32) (sty : Int32) (bd : Int32) (str : Int32) (lcn : Int32) (wor : (Nat → Int32)) (n_va : Nat) (n_lr : Nat) (n_wo : Nat) (n_rsg : Nat) (n_rsz : Nat) (n_rlo : Nat) (a0 : Int32) (a1 : Int32) (u4 : Int32 × (Nat → Int32) × (Nat → Int32) × (Nat → Int32)) : Nat → Int32 → (Nat → Int32) → (Nat → Int32) → Int32 → Int32 → Int32 → Int32 → (Nat → Int32) → (Nat → Int32) → (Nat → Int32) → Option (Nat × Int32 × (Nat → Int32) × (Nat → Int32) × Int32 × Int32 × Int32 × Int32 × (Nat → Int32) × (Nat → Int32) × (Nat → Int32))
  | 0, _, _, _, _, _, _, _, _, _, _ => none
  | N + 1, v55_4, vals_55, lowr_55, lak_55, nxt_55, rpl_55, rraw_55, rsgn_55, rsiz_55, rlow_55 => (if (kmin a1 (f_ST_passesOf a0)) ≤ v55_4 then some (0, v55_4, vals_55, lowr_55, lak_55, nxt_55, rpl_55, rraw_55, rsgn_55, rsiz_55, rlow_55) else ((f_WL_goThrough u4.1 rsgn_55 rsiz_55 rlow_55 w h sty bd str lcn lak_55 nxt_55 wor n_rsg n_rsz n_rlo n_wo v55_4).bind fun u8 => (if u8.2.2.2.2.2.2.1 = 0 then ((f_B_keepWhatIsRead vals_55 lowr_55 u8.2.2.2.1 u8.2.2.2.2.1 u8.2.2.2.2.2.1 n_va n_lr n_rsg n_rsz n_rlo).bind fun u10 => (if u8.1 = 0 then some (2, v55_4, u10.1, u10.2, u8.2.2.2.2.2.2.1, u8.2.2.2.2.2.2.2, u8.2.1, u8.2.2.1, u8.2.2.2.1, u8.2.2.2.2.1, u8.2.2.2.2.2.1) else f_B_decode_L55 w h sty bd str lcn wor n_va n_lr n_wo n_rsg n_rsz n_rlo a0 a1 u4 N (v55_4 + 1) u10.1 u10.2 u8.2.2.2.2.2.2.1 u8.2.2.2.2.2.2.2 u8.2.1 u8.2.2.1 u8.2.2.2.1 u8.2.2.2.2.1 u8.2.2.2.2.2.1)) else some (1, v55_4, vals_55, lowr_55, u8.2.2.2.2.2.2.1, u8.2.2.2.2.2.2.2, u8.2.1, u8.2.2.1, u8.2.2.2.1, u8.2.2.2.2.1, u8.2.2.2.2.2.1))))
def f_B_decode (w : Int32) (h : Int32) (sty : Int32) (bd : Int32) (str : Int32) (vals : (Nat → Int32)) (lowr : (Nat → Int32)) (lcn : Int32) (lak : Int32) (nxt : Int32) (wor : (Nat → Int32)) (rpls : Int32) (rpl : Int32) (rraw : Int32) (rsgn : (Nat → Int32)) (rsiz : (Nat → Int32)) (rlow : (Nat → Int32)) (n_va : Nat) (n_lr : Nat) (n_wo : Nat) (n_rsg : Nat) (n_rsz : Nat) (n_rlo : Nat) (a0 : Int32) (a1 : Int32) : Option (Nat × Int32 × (Nat → Int32) × (Nat → Int32) × Int32 × Int32 × Int32 × Int32 × Int32 × (Nat → Int32) × (Nat → Int32) × (Nat → Int32)) :=
  (if a0 < 0 then some (2, (0 : Int32), vals, lowr, lak, nxt, rpls, rpl, rraw, rsgn, rsiz, rlow) else (if (15 : Int32) < a0 then some (2, (0 : Int32), vals, lowr, lak, nxt, rpls, rpl, rraw, rsgn, rsiz, rlow) else (if 0 ≤ a1 then ((f_WL_begin rsgn rsiz rlow n_rsg n_rsz n_rlo a0).bind fun u4 => ((f_B_keepWhatIsRead vals lowr u4.2.1 u4.2.2.1 u4.2.2.2 n_va n_lr n_rsg n_rsz n_rlo).bind fun u5 => ((f_B_decode_L55 w h sty bd str lcn wor n_va n_lr n_wo n_rsg n_rsz n_rlo a0 a1 u4 kBig (0 : Int32) u5.1 u5.2 (f_L_rewind).1 (f_L_rewind).2 rpl rraw u4.2.1 u4.2.2.1 u4.2.2.2).bind fun u6 => if u6.1 = 0 then some (0, (kmin a1 (f_ST_passesOf a0)), u6.2.2.1, u6.2.2.2.1, u6.2.2.2.2.1, u6.2.2.2.2.2.1, u4.1, u6.2.2.2.2.2.2.1, u6.2.2.2.2.2.2.2.1, u6.2.2.2.2.2.2.2.2.1, u6.2.2.2.2.2.2.2.2.2.1, u6.2.2.2.2.2.2.2.2.2.2) else if u6.1 = 1 then some (0, u6.2.1, u6.2.2.1, u6.2.2.2.1, u6.2.2.2.2.1, u6.2.2.2.2.2.1, u4.1, u6.2.2.2.2.2.2.1, u6.2.2.2.2.2.2.2.1, u6.2.2.2.2.2.2.2.2.1, u6.2.2.2.2.2.2.2.2.2.1, u6.2.2.2.2.2.2.2.2.2.2) else some (0, ((-1 : Int32) - u6.2.1), u6.2.2.1, u6.2.2.2.1, u6.2.2.2.2.1, u6.2.2.2.2.2.1, u4.1, u6.2.2.2.2.2.2.1, u6.2.2.2.2.2.2.2.1, u6.2.2.2.2.2.2.2.2.1, u6.2.2.2.2.2.2.2.2.2.1, u6.2.2.2.2.2.2.2.2.2.2)))) else some (2, (0 : Int32), vals, lowr, lak, nxt, rpls, rpl, rraw, rsgn, rsiz, rlow))))
def f_B_at (w : Int32) (h : Int32) (str : Int32) (vals : (Nat → Int32)) (n_va : Nat) (a0 : Int32) (a1 : Int32) : Option (Nat × Int32) :=
  ((f_B_mustHoldSample w h a0 a1).bind fun u1 => if u1 = 0 then if ((f_K_cellOf str a0 a1) < 0 ∨ n_va ≤ (f_K_cellOf str a0 a1).toNatClampNeg) then none else some (0, (vals (f_K_cellOf str a0 a1).toNatClampNeg)) else some (u1, (0 : Int32)))
def f_B_known (w : Int32) (h : Int32) (str : Int32) (lowr : (Nat → Int32)) (n_lr : Nat) (a0 : Int32) (a1 : Int32) : Option (Nat × Int32) :=
  ((f_B_mustHoldSample w h a0 a1).bind fun u1 => if u1 = 0 then if ((f_K_cellOf str a0 a1) < 0 ∨ n_lr ≤ (f_K_cellOf str a0 a1).toNatClampNeg) then none else some (0, (lowr (f_K_cellOf str a0 a1).toNatClampNeg)) else some (u1, (0 : Int32)))
theorem d_B_mustHoldSample_0 : decode c_B_mustHoldSample 0 = .ok (.aload_n 0, 1) := by decide +kernel
theorem d_B_mustHoldSample_1 : decode c_B_mustHoldSample 1 = .ok (.getfield 18, 3) := by decide +kernel
theorem d_B_mustHoldSample_4 : decode c_B_mustHoldSample 4 = .ok (.iload_n 1, 1) := by decide +kernel
theorem d_B_mustHoldSample_5 : decode c_B_mustHoldSample 5 = .ok (.iload_n 2, 1) := by decide +kernel
theorem d_B_mustHoldSample_6 : decode c_B_mustHoldSample 6 = .ok (.invokevirtual 193, 3) := by decide +kernel
theorem d_B_mustHoldSample_9 : decode c_B_mustHoldSample 9 = .ok (.ifCond .ne 13, 3) := by decide +kernel
theorem d_B_mustHoldSample_12 : decode c_B_mustHoldSample 12 = .ok (.new 124, 3) := by decide +kernel
theorem d_B_mustHoldSample_15 : decode c_B_mustHoldSample 15 = .ok (.dup, 1) := by decide +kernel
theorem d_B_mustHoldSample_16 : decode c_B_mustHoldSample 16 = .ok (.ldc 197, 2) := by decide +kernel
theorem d_B_mustHoldSample_18 : decode c_B_mustHoldSample 18 = .ok (.invokespecial 128, 3) := by decide +kernel
theorem d_B_mustHoldSample_21 : decode c_B_mustHoldSample 21 = .ok (.athrow, 1) := by decide +kernel
theorem d_B_mustHoldSample_22 : decode c_B_mustHoldSample 22 = .ok (.return_, 1) := by decide +kernel
theorem d_B_mustBeTold_0 : decode c_B_mustBeTold 0 = .ok (.iload_n 1, 1) := by decide +kernel
theorem d_B_mustBeTold_1 : decode c_B_mustBeTold 1 = .ok (.ifCond .lt 11, 3) := by decide +kernel
theorem d_B_mustBeTold_4 : decode c_B_mustBeTold 4 = .ok (.iload_n 1, 1) := by decide +kernel
theorem d_B_mustBeTold_5 : decode c_B_mustBeTold 5 = .ok (.aload_n 0, 1) := by decide +kernel
theorem d_B_mustBeTold_6 : decode c_B_mustBeTold 6 = .ok (.getfield 100, 3) := by decide +kernel
theorem d_B_mustBeTold_9 : decode c_B_mustBeTold 9 = .ok (.if_icmp .lt 13, 3) := by decide +kernel
theorem d_B_mustBeTold_12 : decode c_B_mustBeTold 12 = .ok (.new 124, 3) := by decide +kernel
theorem d_B_mustBeTold_15 : decode c_B_mustBeTold 15 = .ok (.dup, 1) := by decide +kernel
theorem d_B_mustBeTold_16 : decode c_B_mustBeTold 16 = .ok (.ldc 199, 2) := by decide +kernel
theorem d_B_mustBeTold_18 : decode c_B_mustBeTold 18 = .ok (.invokespecial 128, 3) := by decide +kernel
theorem d_B_mustBeTold_21 : decode c_B_mustBeTold 21 = .ok (.athrow, 1) := by decide +kernel
theorem d_B_mustBeTold_22 : decode c_B_mustBeTold 22 = .ok (.return_, 1) := by decide +kernel
theorem d_B_mustHaveRoomFor_0 : decode c_B_mustHaveRoomFor 0 = .ok (.iload_n 1, 1) := by decide +kernel
theorem d_B_mustHaveRoomFor_1 : decode c_B_mustHaveRoomFor 1 = .ok (.sipush 12000, 3) := by decide +kernel
theorem d_B_mustHaveRoomFor_4 : decode c_B_mustHaveRoomFor 4 = .ok (.aload_n 0, 1) := by decide +kernel
theorem d_B_mustHaveRoomFor_5 : decode c_B_mustHaveRoomFor 5 = .ok (.getfield 58, 3) := by decide +kernel
theorem d_B_mustHaveRoomFor_8 : decode c_B_mustHaveRoomFor 8 = .ok (.getfield 157, 3) := by decide +kernel
theorem d_B_mustHaveRoomFor_11 : decode c_B_mustHaveRoomFor 11 = .ok (.isub, 1) := by decide +kernel
theorem d_B_mustHaveRoomFor_12 : decode c_B_mustHaveRoomFor 12 = .ok (.if_icmp .le 13, 3) := by decide +kernel
theorem d_B_mustHaveRoomFor_15 : decode c_B_mustHaveRoomFor 15 = .ok (.new 201, 3) := by decide +kernel
theorem d_B_mustHaveRoomFor_18 : decode c_B_mustHaveRoomFor 18 = .ok (.dup, 1) := by decide +kernel
theorem d_B_mustHaveRoomFor_19 : decode c_B_mustHaveRoomFor 19 = .ok (.ldc 203, 2) := by decide +kernel
theorem d_B_mustHaveRoomFor_21 : decode c_B_mustHaveRoomFor 21 = .ok (.invokespecial 205, 3) := by decide +kernel
theorem d_B_mustHaveRoomFor_24 : decode c_B_mustHaveRoomFor 24 = .ok (.athrow, 1) := by decide +kernel
theorem d_B_mustHaveRoomFor_25 : decode c_B_mustHaveRoomFor 25 = .ok (.return_, 1) := by decide +kernel
theorem d_B_put_0 : decode c_B_put 0 = .ok (.aload_n 0, 1) := by decide +kernel
theorem d_B_put_1 : decode c_B_put 1 = .ok (.iload_n 1, 1) := by decide +kernel
theorem d_B_put_2 : decode c_B_put 2 = .ok (.iload_n 2, 1) := by decide +kernel
theorem d_B_put_3 : decode c_B_put 3 = .ok (.invokevirtual 71, 3) := by decide +kernel
theorem d_B_put_6 : decode c_B_put 6 = .ok (.iload_n 3, 1) := by decide +kernel
theorem d_B_put_7 : decode c_B_put 7 = .ok (.sipush (-32767), 3) := by decide +kernel
theorem d_B_put_10 : decode c_B_put 10 = .ok (.if_icmp .lt 10, 3) := by decide +kernel
theorem d_B_put_13 : decode c_B_put 13 = .ok (.iload_n 3, 1) := by decide +kernel
theorem d_B_put_14 : decode c_B_put 14 = .ok (.sipush 32767, 3) := by decide +kernel
theorem d_B_put_17 : decode c_B_put 17 = .ok (.if_icmp .le 13, 3) := by decide +kernel
theorem d_B_put_20 : decode c_B_put 20 = .ok (.new 75, 3) := by decide +kernel
theorem d_B_put_23 : decode c_B_put 23 = .ok (.dup, 1) := by decide +kernel
theorem d_B_put_24 : decode c_B_put 24 = .ok (.ldc 77, 2) := by decide +kernel
theorem d_B_put_26 : decode c_B_put 26 = .ok (.invokespecial 79, 3) := by decide +kernel
theorem d_B_put_29 : decode c_B_put 29 = .ok (.athrow, 1) := by decide +kernel
theorem d_B_put_30 : decode c_B_put 30 = .ok (.aload_n 0, 1) := by decide +kernel
theorem d_B_put_31 : decode c_B_put 31 = .ok (.getfield 18, 3) := by decide +kernel
theorem d_B_put_34 : decode c_B_put 34 = .ok (.iload_n 1, 1) := by decide +kernel
theorem d_B_put_35 : decode c_B_put 35 = .ok (.iload_n 2, 1) := by decide +kernel
theorem d_B_put_36 : decode c_B_put 36 = .ok (.invokevirtual 82, 3) := by decide +kernel
theorem d_B_put_39 : decode c_B_put 39 = .ok (.istore 4, 2) := by decide +kernel
theorem d_B_put_41 : decode c_B_put 41 = .ok (.aload_n 0, 1) := by decide +kernel
theorem d_B_put_42 : decode c_B_put 42 = .ok (.getfield 26, 3) := by decide +kernel
theorem d_B_put_45 : decode c_B_put 45 = .ok (.iload 4, 2) := by decide +kernel
theorem d_B_put_47 : decode c_B_put 47 = .ok (.iaload, 1) := by decide +kernel
theorem d_B_put_48 : decode c_B_put 48 = .ok (.istore 5, 2) := by decide +kernel
theorem d_B_put_50 : decode c_B_put 50 = .ok (.aload_n 0, 1) := by decide +kernel
theorem d_B_put_51 : decode c_B_put 51 = .ok (.getfield 26, 3) := by decide +kernel
theorem d_B_put_54 : decode c_B_put 54 = .ok (.iload 4, 2) := by decide +kernel
theorem d_B_put_56 : decode c_B_put 56 = .ok (.iload_n 3, 1) := by decide +kernel
theorem d_B_put_57 : decode c_B_put 57 = .ok (.iastore, 1) := by decide +kernel
theorem d_B_put_58 : decode c_B_put 58 = .ok (.iload 5, 2) := by decide +kernel
theorem d_B_put_60 : decode c_B_put 60 = .ok (.ireturn, 1) := by decide +kernel
theorem d_B_bit_0 : decode c_B_bit 0 = .ok (.iload_n 1, 1) := by decide +kernel
theorem d_B_bit_1 : decode c_B_bit 1 = .ok (.ifCond .lt 14, 3) := by decide +kernel
theorem d_B_bit_4 : decode c_B_bit 4 = .ok (.iload_n 1, 1) := by decide +kernel
theorem d_B_bit_5 : decode c_B_bit 5 = .ok (.aload_n 0, 1) := by decide +kernel
theorem d_B_bit_6 : decode c_B_bit 6 = .ok (.getfield 35, 3) := by decide +kernel
theorem d_B_bit_9 : decode c_B_bit 9 = .ok (.getfield 117, 3) := by decide +kernel
theorem d_B_bit_12 : decode c_B_bit 12 = .ok (.if_icmp .lt 13, 3) := by decide +kernel
theorem d_B_bit_15 : decode c_B_bit 15 = .ok (.new 124, 3) := by decide +kernel
theorem d_B_bit_18 : decode c_B_bit 18 = .ok (.dup, 1) := by decide +kernel
theorem d_B_bit_19 : decode c_B_bit 19 = .ok (.ldc 126, 2) := by decide +kernel
theorem d_B_bit_21 : decode c_B_bit 21 = .ok (.invokespecial 128, 3) := by decide +kernel
theorem d_B_bit_24 : decode c_B_bit 24 = .ok (.athrow, 1) := by decide +kernel
theorem d_B_bit_25 : decode c_B_bit 25 = .ok (.iload_n 2, 1) := by decide +kernel
theorem d_B_bit_26 : decode c_B_bit 26 = .ok (.tableswitch 53 0 2 #[26, 35, 44], 26) := by decide +kernel
theorem d_B_bit_52 : decode c_B_bit 52 = .ok (.aload_n 0, 1) := by decide +kernel
theorem d_B_bit_53 : decode c_B_bit 53 = .ok (.getfield 35, 3) := by decide +kernel
theorem d_B_bit_56 : decode c_B_bit 56 = .ok (.iload_n 1, 1) := by decide +kernel
theorem d_B_bit_57 : decode c_B_bit 57 = .ok (.invokevirtual 129, 3) := by decide +kernel
theorem d_B_bit_60 : decode c_B_bit 60 = .ok (.ireturn, 1) := by decide +kernel
theorem d_B_bit_61 : decode c_B_bit 61 = .ok (.aload_n 0, 1) := by decide +kernel
theorem d_B_bit_62 : decode c_B_bit 62 = .ok (.getfield 35, 3) := by decide +kernel
theorem d_B_bit_65 : decode c_B_bit 65 = .ok (.iload_n 1, 1) := by decide +kernel
theorem d_B_bit_66 : decode c_B_bit 66 = .ok (.invokevirtual 132, 3) := by decide +kernel
theorem d_B_bit_69 : decode c_B_bit 69 = .ok (.ireturn, 1) := by decide +kernel
theorem d_B_bit_70 : decode c_B_bit 70 = .ok (.aload_n 0, 1) := by decide +kernel
theorem d_B_bit_71 : decode c_B_bit 71 = .ok (.getfield 35, 3) := by decide +kernel
theorem d_B_bit_74 : decode c_B_bit 74 = .ok (.iload_n 1, 1) := by decide +kernel
theorem d_B_bit_75 : decode c_B_bit 75 = .ok (.invokevirtual 135, 3) := by decide +kernel
theorem d_B_bit_78 : decode c_B_bit 78 = .ok (.ireturn, 1) := by decide +kernel
theorem d_B_bit_79 : decode c_B_bit 79 = .ok (.new 75, 3) := by decide +kernel
theorem d_B_bit_82 : decode c_B_bit 82 = .ok (.dup, 1) := by decide +kernel
theorem d_B_bit_83 : decode c_B_bit 83 = .ok (.ldc 138, 2) := by decide +kernel
theorem d_B_bit_85 : decode c_B_bit 85 = .ok (.invokespecial 79, 3) := by decide +kernel
theorem d_B_bit_88 : decode c_B_bit 88 = .ok (.athrow, 1) := by decide +kernel
theorem d_B_length_0 : decode c_B_length 0 = .ok (.aload_n 0, 1) := by decide +kernel
theorem d_B_length_1 : decode c_B_length 1 = .ok (.iload_n 1, 1) := by decide +kernel
theorem d_B_length_2 : decode c_B_length 2 = .ok (.invokevirtual 140, 3) := by decide +kernel
theorem d_B_length_5 : decode c_B_length 5 = .ok (.aload_n 0, 1) := by decide +kernel
theorem d_B_length_6 : decode c_B_length 6 = .ok (.getfield 48, 3) := by decide +kernel
theorem d_B_length_9 : decode c_B_length 9 = .ok (.iload_n 1, 1) := by decide +kernel
theorem d_B_length_10 : decode c_B_length 10 = .ok (.iaload, 1) := by decide +kernel
theorem d_B_length_11 : decode c_B_length 11 = .ok (.ireturn, 1) := by decide +kernel
theorem d_B_distortion_0 : decode c_B_distortion 0 = .ok (.aload_n 0, 1) := by decide +kernel
theorem d_B_distortion_1 : decode c_B_distortion 1 = .ok (.iload_n 1, 1) := by decide +kernel
theorem d_B_distortion_2 : decode c_B_distortion 2 = .ok (.invokevirtual 140, 3) := by decide +kernel
theorem d_B_distortion_5 : decode c_B_distortion 5 = .ok (.aload_n 0, 1) := by decide +kernel
theorem d_B_distortion_6 : decode c_B_distortion 6 = .ok (.getfield 51, 3) := by decide +kernel
theorem d_B_distortion_9 : decode c_B_distortion 9 = .ok (.iload_n 1, 1) := by decide +kernel
theorem d_B_distortion_10 : decode c_B_distortion 10 = .ok (.laload, 1) := by decide +kernel
theorem d_B_distortion_11 : decode c_B_distortion 11 = .ok (.lreturn, 1) := by decide +kernel
theorem d_B_kind_0 : decode c_B_kind 0 = .ok (.aload_n 0, 1) := by decide +kernel
theorem d_B_kind_1 : decode c_B_kind 1 = .ok (.iload_n 1, 1) := by decide +kernel
theorem d_B_kind_2 : decode c_B_kind 2 = .ok (.invokevirtual 140, 3) := by decide +kernel
theorem d_B_kind_5 : decode c_B_kind 5 = .ok (.iload_n 1, 1) := by decide +kernel
theorem d_B_kind_6 : decode c_B_kind 6 = .ok (.invokestatic 143, 3) := by decide +kernel
theorem d_B_kind_9 : decode c_B_kind 9 = .ok (.ireturn, 1) := by decide +kernel
theorem d_B_terminated_0 : decode c_B_terminated 0 = .ok (.aload_n 0, 1) := by decide +kernel
theorem d_B_terminated_1 : decode c_B_terminated 1 = .ok (.iload_n 1, 1) := by decide +kernel
theorem d_B_terminated_2 : decode c_B_terminated 2 = .ok (.invokevirtual 140, 3) := by decide +kernel
theorem d_B_terminated_5 : decode c_B_terminated 5 = .ok (.iload_n 1, 1) := by decide +kernel
theorem d_B_terminated_6 : decode c_B_terminated 6 = .ok (.aload_n 0, 1) := by decide +kernel
theorem d_B_terminated_7 : decode c_B_terminated 7 = .ok (.getfield 100, 3) := by decide +kernel
theorem d_B_terminated_10 : decode c_B_terminated 10 = .ok (.iconst 1, 1) := by decide +kernel
theorem d_B_terminated_11 : decode c_B_terminated 11 = .ok (.isub, 1) := by decide +kernel
theorem d_B_terminated_12 : decode c_B_terminated 12 = .ok (.if_icmp .eq 14, 3) := by decide +kernel
theorem d_B_terminated_15 : decode c_B_terminated 15 = .ok (.aload_n 0, 1) := by decide +kernel
theorem d_B_terminated_16 : decode c_B_terminated 16 = .ok (.getfield 18, 3) := by decide +kernel
theorem d_B_terminated_19 : decode c_B_terminated 19 = .ok (.iconst 4, 1) := by decide +kernel
theorem d_B_terminated_20 : decode c_B_terminated 20 = .ok (.invokevirtual 146, 3) := by decide +kernel
theorem d_B_terminated_23 : decode c_B_terminated 23 = .ok (.ifCond .eq 5, 3) := by decide +kernel
theorem d_B_terminated_26 : decode c_B_terminated 26 = .ok (.iconst 1, 1) := by decide +kernel
theorem d_B_terminated_27 : decode c_B_terminated 27 = .ok (.ireturn, 1) := by decide +kernel
theorem d_B_terminated_28 : decode c_B_terminated 28 = .ok (.aload_n 0, 1) := by decide +kernel
theorem d_B_terminated_29 : decode c_B_terminated 29 = .ok (.getfield 18, 3) := by decide +kernel
theorem d_B_terminated_32 : decode c_B_terminated 32 = .ok (.iconst 1, 1) := by decide +kernel
theorem d_B_terminated_33 : decode c_B_terminated 33 = .ok (.invokevirtual 146, 3) := by decide +kernel
theorem d_B_terminated_36 : decode c_B_terminated 36 = .ok (.ifCond .eq 20, 3) := by decide +kernel
theorem d_B_terminated_39 : decode c_B_terminated 39 = .ok (.iload_n 1, 1) := by decide +kernel
theorem d_B_terminated_40 : decode c_B_terminated 40 = .ok (.bipush 9, 2) := by decide +kernel
theorem d_B_terminated_42 : decode c_B_terminated 42 = .ok (.if_icmp .lt 14, 3) := by decide +kernel
theorem d_B_terminated_45 : decode c_B_terminated 45 = .ok (.iload_n 1, 1) := by decide +kernel
theorem d_B_terminated_46 : decode c_B_terminated 46 = .ok (.invokestatic 143, 3) := by decide +kernel
theorem d_B_terminated_49 : decode c_B_terminated 49 = .ok (.ifCond .eq 7, 3) := by decide +kernel
theorem d_B_terminated_52 : decode c_B_terminated 52 = .ok (.iconst 1, 1) := by decide +kernel
theorem d_B_terminated_53 : decode c_B_terminated 53 = .ok (.goto 4, 3) := by decide +kernel
theorem d_B_terminated_56 : decode c_B_terminated 56 = .ok (.iconst 0, 1) := by decide +kernel
theorem d_B_terminated_57 : decode c_B_terminated 57 = .ok (.ireturn, 1) := by decide +kernel
theorem d_B_feed_0 : decode c_B_feed 0 = .ok (.iload_n 1, 1) := by decide +kernel
theorem d_B_feed_1 : decode c_B_feed 1 = .ok (.ifCond .lt 8, 3) := by decide +kernel
theorem d_B_feed_4 : decode c_B_feed 4 = .ok (.iload_n 1, 1) := by decide +kernel
theorem d_B_feed_5 : decode c_B_feed 5 = .ok (.iconst 1, 1) := by decide +kernel
theorem d_B_feed_6 : decode c_B_feed 6 = .ok (.if_icmp .le 13, 3) := by decide +kernel
theorem d_B_feed_9 : decode c_B_feed 9 = .ok (.new 75, 3) := by decide +kernel
theorem d_B_feed_12 : decode c_B_feed 12 = .ok (.dup, 1) := by decide +kernel
theorem d_B_feed_13 : decode c_B_feed 13 = .ok (.ldc 149, 2) := by decide +kernel
theorem d_B_feed_15 : decode c_B_feed 15 = .ok (.invokespecial 79, 3) := by decide +kernel
theorem d_B_feed_18 : decode c_B_feed 18 = .ok (.athrow, 1) := by decide +kernel
theorem d_B_feed_19 : decode c_B_feed 19 = .ok (.aload_n 0, 1) := by decide +kernel
theorem d_B_feed_20 : decode c_B_feed 20 = .ok (.iconst 1, 1) := by decide +kernel
theorem d_B_feed_21 : decode c_B_feed 21 = .ok (.invokevirtual 151, 3) := by decide +kernel
theorem d_B_feed_24 : decode c_B_feed 24 = .ok (.aload_n 0, 1) := by decide +kernel
theorem d_B_feed_25 : decode c_B_feed 25 = .ok (.getfield 58, 3) := by decide +kernel
theorem d_B_feed_28 : decode c_B_feed 28 = .ok (.iload_n 1, 1) := by decide +kernel
theorem d_B_feed_29 : decode c_B_feed 29 = .ok (.invokevirtual 154, 3) := by decide +kernel
theorem d_B_feed_32 : decode c_B_feed 32 = .ok (.aload_n 0, 1) := by decide +kernel
theorem d_B_feed_33 : decode c_B_feed 33 = .ok (.getfield 58, 3) := by decide +kernel
theorem d_B_feed_36 : decode c_B_feed 36 = .ok (.getfield 157, 3) := by decide +kernel
theorem d_B_feed_39 : decode c_B_feed 39 = .ok (.ireturn, 1) := by decide +kernel
theorem d_B_pass_0 : decode c_B_pass 0 = .ok (.iload_n 1, 1) := by decide +kernel
theorem d_B_pass_1 : decode c_B_pass 1 = .ok (.ifCond .ge 13, 3) := by decide +kernel
theorem d_B_pass_4 : decode c_B_pass 4 = .ok (.new 75, 3) := by decide +kernel
theorem d_B_pass_7 : decode c_B_pass 7 = .ok (.dup, 1) := by decide +kernel
theorem d_B_pass_8 : decode c_B_pass 8 = .ok (.ldc 158, 2) := by decide +kernel
theorem d_B_pass_10 : decode c_B_pass 10 = .ok (.invokespecial 79, 3) := by decide +kernel
theorem d_B_pass_13 : decode c_B_pass 13 = .ok (.athrow, 1) := by decide +kernel
theorem d_B_pass_14 : decode c_B_pass 14 = .ok (.iload_n 1, 1) := by decide +kernel
theorem d_B_pass_15 : decode c_B_pass 15 = .ok (.aload_n 0, 1) := by decide +kernel
theorem d_B_pass_16 : decode c_B_pass 16 = .ok (.getfield 35, 3) := by decide +kernel
theorem d_B_pass_19 : decode c_B_pass 19 = .ok (.getfield 117, 3) := by decide +kernel
theorem d_B_pass_22 : decode c_B_pass 22 = .ok (.invokestatic 160, 3) := by decide +kernel
theorem d_B_pass_25 : decode c_B_pass 25 = .ok (.istore_n 2, 1) := by decide +kernel
theorem d_B_pass_26 : decode c_B_pass 26 = .ok (.aload_n 0, 1) := by decide +kernel
theorem d_B_pass_27 : decode c_B_pass 27 = .ok (.iload_n 2, 1) := by decide +kernel
theorem d_B_pass_28 : decode c_B_pass 28 = .ok (.invokevirtual 151, 3) := by decide +kernel
theorem d_B_pass_31 : decode c_B_pass 31 = .ok (.iconst 0, 1) := by decide +kernel
theorem d_B_pass_32 : decode c_B_pass 32 = .ok (.istore_n 3, 1) := by decide +kernel
theorem d_B_pass_33 : decode c_B_pass 33 = .ok (.iload_n 3, 1) := by decide +kernel
theorem d_B_pass_34 : decode c_B_pass 34 = .ok (.iload_n 2, 1) := by decide +kernel
theorem d_B_pass_35 : decode c_B_pass 35 = .ok (.if_icmp .ge 24, 3) := by decide +kernel
theorem d_B_pass_38 : decode c_B_pass 38 = .ok (.aload_n 0, 1) := by decide +kernel
theorem d_B_pass_39 : decode c_B_pass 39 = .ok (.getfield 58, 3) := by decide +kernel
theorem d_B_pass_42 : decode c_B_pass 42 = .ok (.aload_n 0, 1) := by decide +kernel
theorem d_B_pass_43 : decode c_B_pass 43 = .ok (.getfield 35, 3) := by decide +kernel
theorem d_B_pass_46 : decode c_B_pass 46 = .ok (.iload_n 3, 1) := by decide +kernel
theorem d_B_pass_47 : decode c_B_pass 47 = .ok (.invokevirtual 129, 3) := by decide +kernel
theorem d_B_pass_50 : decode c_B_pass 50 = .ok (.invokevirtual 154, 3) := by decide +kernel
theorem d_B_pass_53 : decode c_B_pass 53 = .ok (.iinc 3 1, 3) := by decide +kernel
theorem d_B_pass_56 : decode c_B_pass 56 = .ok (.goto (-23), 3) := by decide +kernel
theorem d_B_pass_59 : decode c_B_pass 59 = .ok (.iload_n 2, 1) := by decide +kernel
theorem d_B_pass_60 : decode c_B_pass 60 = .ok (.ireturn, 1) := by decide +kernel
theorem d_B_turn_0 : decode c_B_turn 0 = .ok (.iload_n 1, 1) := by decide +kernel
theorem d_B_turn_1 : decode c_B_turn 1 = .ok (.ifCond .lt 14, 3) := by decide +kernel
theorem d_B_turn_4 : decode c_B_turn 4 = .ok (.iload_n 1, 1) := by decide +kernel
theorem d_B_turn_5 : decode c_B_turn 5 = .ok (.aload_n 0, 1) := by decide +kernel
theorem d_B_turn_6 : decode c_B_turn 6 = .ok (.getfield 58, 3) := by decide +kernel
theorem d_B_turn_9 : decode c_B_turn 9 = .ok (.getfield 157, 3) := by decide +kernel
theorem d_B_turn_12 : decode c_B_turn 12 = .ok (.if_icmp .lt 13, 3) := by decide +kernel
theorem d_B_turn_15 : decode c_B_turn 15 = .ok (.new 124, 3) := by decide +kernel
theorem d_B_turn_18 : decode c_B_turn 18 = .ok (.dup, 1) := by decide +kernel
theorem d_B_turn_19 : decode c_B_turn 19 = .ok (.ldc 165, 2) := by decide +kernel
theorem d_B_turn_21 : decode c_B_turn 21 = .ok (.invokespecial 128, 3) := by decide +kernel
theorem d_B_turn_24 : decode c_B_turn 24 = .ok (.athrow, 1) := by decide +kernel
theorem d_B_turn_25 : decode c_B_turn 25 = .ok (.aload_n 0, 1) := by decide +kernel
theorem d_B_turn_26 : decode c_B_turn 26 = .ok (.getfield 58, 3) := by decide +kernel
theorem d_B_turn_29 : decode c_B_turn 29 = .ok (.iload_n 1, 1) := by decide +kernel
theorem d_B_turn_30 : decode c_B_turn 30 = .ok (.invokevirtual 167, 3) := by decide +kernel
theorem d_B_turn_33 : decode c_B_turn 33 = .ok (.ireturn, 1) := by decide +kernel
theorem d_B_decode_0 : decode c_B_decode 0 = .ok (.iload_n 1, 1) := by decide +kernel
theorem d_B_decode_1 : decode c_B_decode 1 = .ok (.ifCond .lt 13, 3) := by decide +kernel
theorem d_B_decode_4 : decode c_B_decode 4 = .ok (.iload_n 1, 1) := by decide +kernel
theorem d_B_decode_5 : decode c_B_decode 5 = .ok (.bipush 15, 2) := by decide +kernel
theorem d_B_decode_7 : decode c_B_decode 7 = .ok (.if_icmp .gt 7, 3) := by decide +kernel
theorem d_B_decode_10 : decode c_B_decode 10 = .ok (.iload_n 2, 1) := by decide +kernel
theorem d_B_decode_11 : decode c_B_decode 11 = .ok (.ifCond .ge 13, 3) := by decide +kernel
theorem d_B_decode_14 : decode c_B_decode 14 = .ok (.new 75, 3) := by decide +kernel
theorem d_B_decode_17 : decode c_B_decode 17 = .ok (.dup, 1) := by decide +kernel
theorem d_B_decode_18 : decode c_B_decode 18 = .ok (.ldc 170, 2) := by decide +kernel
theorem d_B_decode_20 : decode c_B_decode 20 = .ok (.invokespecial 79, 3) := by decide +kernel
theorem d_B_decode_23 : decode c_B_decode 23 = .ok (.athrow, 1) := by decide +kernel
theorem d_B_decode_24 : decode c_B_decode 24 = .ok (.iload_n 2, 1) := by decide +kernel
theorem d_B_decode_25 : decode c_B_decode 25 = .ok (.iload_n 1, 1) := by decide +kernel
theorem d_B_decode_26 : decode c_B_decode 26 = .ok (.invokestatic 96, 3) := by decide +kernel
theorem d_B_decode_29 : decode c_B_decode 29 = .ok (.invokestatic 160, 3) := by decide +kernel
theorem d_B_decode_32 : decode c_B_decode 32 = .ok (.istore_n 3, 1) := by decide +kernel
theorem d_B_decode_33 : decode c_B_decode 33 = .ok (.aload_n 0, 1) := by decide +kernel
theorem d_B_decode_34 : decode c_B_decode 34 = .ok (.getfield 58, 3) := by decide +kernel
theorem d_B_decode_37 : decode c_B_decode 37 = .ok (.invokevirtual 172, 3) := by decide +kernel
theorem d_B_decode_40 : decode c_B_decode 40 = .ok (.aload_n 0, 1) := by decide +kernel
theorem d_B_decode_41 : decode c_B_decode 41 = .ok (.getfield 62, 3) := by decide +kernel
theorem d_B_decode_44 : decode c_B_decode 44 = .ok (.iload_n 1, 1) := by decide +kernel
theorem d_B_decode_45 : decode c_B_decode 45 = .ok (.invokevirtual 106, 3) := by decide +kernel
theorem d_B_decode_48 : decode c_B_decode 48 = .ok (.aload_n 0, 1) := by decide +kernel
theorem d_B_decode_49 : decode c_B_decode 49 = .ok (.invokevirtual 175, 3) := by decide +kernel
theorem d_B_decode_52 : decode c_B_decode 52 = .ok (.iconst 0, 1) := by decide +kernel
theorem d_B_decode_53 : decode c_B_decode 53 = .ok (.istore 4, 2) := by decide +kernel
theorem d_B_decode_55 : decode c_B_decode 55 = .ok (.iload 4, 2) := by decide +kernel
theorem d_B_decode_57 : decode c_B_decode 57 = .ok (.iload_n 3, 1) := by decide +kernel
theorem d_B_decode_58 : decode c_B_decode 58 = .ok (.if_icmp .ge 47, 3) := by decide +kernel
theorem d_B_decode_61 : decode c_B_decode 61 = .ok (.aload_n 0, 1) := by decide +kernel
theorem d_B_decode_62 : decode c_B_decode 62 = .ok (.getfield 62, 3) := by decide +kernel
theorem d_B_decode_65 : decode c_B_decode 65 = .ok (.iload 4, 2) := by decide +kernel
theorem d_B_decode_67 : decode c_B_decode 67 = .ok (.invokevirtual 113, 3) := by decide +kernel
theorem d_B_decode_70 : decode c_B_decode 70 = .ok (.istore 5, 2) := by decide +kernel
theorem d_B_decode_72 : decode c_B_decode 72 = .ok (.aload_n 0, 1) := by decide +kernel
theorem d_B_decode_73 : decode c_B_decode 73 = .ok (.getfield 58, 3) := by decide +kernel
theorem d_B_decode_76 : decode c_B_decode 76 = .ok (.getfield 178, 3) := by decide +kernel
theorem d_B_decode_79 : decode c_B_decode 79 = .ok (.ifCond .eq 6, 3) := by decide +kernel
theorem d_B_decode_82 : decode c_B_decode 82 = .ok (.iload 4, 2) := by decide +kernel
theorem d_B_decode_84 : decode c_B_decode 84 = .ok (.ireturn, 1) := by decide +kernel
theorem d_B_decode_85 : decode c_B_decode 85 = .ok (.aload_n 0, 1) := by decide +kernel
theorem d_B_decode_86 : decode c_B_decode 86 = .ok (.invokevirtual 175, 3) := by decide +kernel
theorem d_B_decode_89 : decode c_B_decode 89 = .ok (.iload 5, 2) := by decide +kernel
theorem d_B_decode_91 : decode c_B_decode 91 = .ok (.ifCond .ne 8, 3) := by decide +kernel
theorem d_B_decode_94 : decode c_B_decode 94 = .ok (.iconst (-1), 1) := by decide +kernel
theorem d_B_decode_95 : decode c_B_decode 95 = .ok (.iload 4, 2) := by decide +kernel
theorem d_B_decode_97 : decode c_B_decode 97 = .ok (.isub, 1) := by decide +kernel
theorem d_B_decode_98 : decode c_B_decode 98 = .ok (.ireturn, 1) := by decide +kernel
theorem d_B_decode_99 : decode c_B_decode 99 = .ok (.iinc 4 1, 3) := by decide +kernel
theorem d_B_decode_102 : decode c_B_decode 102 = .ok (.goto (-47), 3) := by decide +kernel
theorem d_B_decode_105 : decode c_B_decode 105 = .ok (.iload_n 3, 1) := by decide +kernel
theorem d_B_decode_106 : decode c_B_decode 106 = .ok (.ireturn, 1) := by decide +kernel
theorem d_B_at_0 : decode c_B_at 0 = .ok (.aload_n 0, 1) := by decide +kernel
theorem d_B_at_1 : decode c_B_at 1 = .ok (.iload_n 1, 1) := by decide +kernel
theorem d_B_at_2 : decode c_B_at 2 = .ok (.iload_n 2, 1) := by decide +kernel
theorem d_B_at_3 : decode c_B_at 3 = .ok (.invokevirtual 71, 3) := by decide +kernel
theorem d_B_at_6 : decode c_B_at 6 = .ok (.aload_n 0, 1) := by decide +kernel
theorem d_B_at_7 : decode c_B_at 7 = .ok (.getfield 65, 3) := by decide +kernel
theorem d_B_at_10 : decode c_B_at 10 = .ok (.aload_n 0, 1) := by decide +kernel
theorem d_B_at_11 : decode c_B_at 11 = .ok (.getfield 18, 3) := by decide +kernel
theorem d_B_at_14 : decode c_B_at 14 = .ok (.iload_n 1, 1) := by decide +kernel
theorem d_B_at_15 : decode c_B_at 15 = .ok (.iload_n 2, 1) := by decide +kernel
theorem d_B_at_16 : decode c_B_at 16 = .ok (.invokevirtual 82, 3) := by decide +kernel
theorem d_B_at_19 : decode c_B_at 19 = .ok (.iaload, 1) := by decide +kernel
theorem d_B_at_20 : decode c_B_at 20 = .ok (.ireturn, 1) := by decide +kernel
theorem d_B_known_0 : decode c_B_known 0 = .ok (.aload_n 0, 1) := by decide +kernel
theorem d_B_known_1 : decode c_B_known 1 = .ok (.iload_n 1, 1) := by decide +kernel
theorem d_B_known_2 : decode c_B_known 2 = .ok (.iload_n 2, 1) := by decide +kernel
theorem d_B_known_3 : decode c_B_known 3 = .ok (.invokevirtual 71, 3) := by decide +kernel
theorem d_B_known_6 : decode c_B_known 6 = .ok (.aload_n 0, 1) := by decide +kernel
theorem d_B_known_7 : decode c_B_known 7 = .ok (.getfield 68, 3) := by decide +kernel
theorem d_B_known_10 : decode c_B_known 10 = .ok (.aload_n 0, 1) := by decide +kernel
theorem d_B_known_11 : decode c_B_known 11 = .ok (.getfield 18, 3) := by decide +kernel
theorem d_B_known_14 : decode c_B_known 14 = .ok (.iload_n 1, 1) := by decide +kernel
theorem d_B_known_15 : decode c_B_known 15 = .ok (.iload_n 2, 1) := by decide +kernel
theorem d_B_known_16 : decode c_B_known 16 = .ok (.invokevirtual 82, 3) := by decide +kernel
theorem d_B_known_19 : decode c_B_known 19 = .ok (.iaload, 1) := by decide +kernel
theorem d_B_known_20 : decode c_B_known 20 = .ok (.ireturn, 1) := by decide +kernel
abbrev rm_B_mustHoldSample : Room := { frames := 6, cells := 1, slots := 6, locals := 82 }
set_option maxHeartbeats 4000000 in
set_option maxRecDepth 100000 in
theorem m_B_mustHoldSample (l : Launch) (dC : Nat → ClassId) (dI : Nat → Nat → Nat) (q_bp q_bk q_len q_dis q_va q_lr q_te q_sa q_twk q_li q_rwk : Nat) (pt : Int32) (w : Int32) (h : Int32) (sty : Int32) (bd : Int32) (str : Int32) (cel : Int32) (a0 : Int32) (a1 : Int32) (hfl : l.flags = pinnedFlags ++ [noTraceFlag]) (u : Nat) (hF : f_B_mustHoldSample w h a0 a1 = some u) : ∀ sz : Nat, xMet l y_B_mustHoldSample (kws y_B_mustHoldSample c_B_mustHoldSample 3 none) rm_B_mustHoldSample (xPre (dC, dI) [.ref q_bp, .int a0, .int a1] [(q_bp, .inr (0, [.ref q_bk, .ref q_sa, .ref q_te, .ref q_twk, .ref q_len, .ref q_dis, .int pt, .ref q_li, .ref q_rwk, .ref q_va, .ref q_lr])), (q_bk, .inr (1, [.int w, .int h, .int sty, .int bd, .int str, .int cel]))] [] sz) (xV u) (xX u (dC, dI) [(q_bp, .inr (0, [.ref q_bk, .ref q_sa, .ref q_te, .ref q_twk, .ref q_len, .ref q_dis, .int pt, .ref q_li, .ref q_rwk, .ref q_va, .ref q_lr])), (q_bk, .inr (1, [.int w, .int h, .int sty, .int bd, .int str, .int cel]))] (va_A [(q_bp, .inr (0, [.ref q_bk, .ref q_sa, .ref q_te, .ref q_twk, .ref q_len, .ref q_dis, .int pt, .ref q_li, .ref q_rwk, .ref q_va, .ref q_lr])), (q_bk, .inr (1, [.int w, .int h, .int sty, .int bd, .int str, .int cel]))] sz)) 1 6 (va_A [(q_bp, .inr (0, [.ref q_bk, .ref q_sa, .ref q_te, .ref q_twk, .ref q_len, .ref q_dis, .int pt, .ref q_li, .ref q_rwk, .ref q_va, .ref q_lr])), (q_bk, .inr (1, [.int w, .int h, .int sty, .int bd, .int str, .int cel]))] sz) 0 0 (fun _ => False) := by
  unfold f_B_mustHoldSample at hF
  refine xU_of (Qc := fun _ => xV u) (rc := 0) (rs := 0) (rf := fun _ _ => False) (cc := c_B_mustHoldSample) (maxL := 3) (ret := none) (by decide) (Nat.le_of_ble_eq_true rfl) ?_
  intro p e s m args below meth c Q A hQ hfx hno hK hN hXK hA hP hD ls hl
  have hS : va_S A s.heap s.heap [] := va_S.rf
  obtain ⟨hx, hb, hr, hml, hown, hts, hlocks⟩ := hfx
  have hown : s.vm.findClass R_B = some m.cls := hown
  have hl : lv_has ls 3 [(0, .ref q_bp), (1, .int a0), (2, .int a1)] := hl
  refine lv_aload_n hx hb d_B_mustHoldSample_0 rfl (lv_at hl 0 rfl) ?_
  refine va_get (D := (dC, dI)) (ci := 0) (v := .ref q_bk) (C := R_B) (T := T_B) (N := 11) hx hb hts ki_B hown hK hP 0 rfl rfl 0 (by decide) (hts _ kw_1_153) (fun _ h9 => h9) rfl d_B_mustHoldSample_1 ?_
  refine lv_iload_n hx hb d_B_mustHoldSample_4 rfl (lv_at hl 1 rfl) ?_
  refine lv_iload_n hx hb d_B_mustHoldSample_5 rfl (lv_at hl 2 rfl) ?_
  refine kr_call (va_runV (As := [.int a0, .int a1]) (rest := []) ⟨hx, hb, hml, hown, hts⟩ (m_K_holds l dC dI q_bk w h sty bd str cel a0 a1 (f_K_holds w h a0 a1) rfl) (cwV 2 hts (kgV kw_2_140 kw_2_141 kw_2_142 kw_1_2 kw_2_143) rfl rfl rfl (by decide +kernel) ⟨Nat.le_of_ble_eq_true rfl, Nat.le_of_ble_eq_true rfl⟩) ⟨kRe_blind, va_recv hK hP (ci := 1) (q0 := 1) rfl rfl, kRe_of (hP.sub [1] rfl) (hK.sub [] rfl) hN⟩ rfl rfl hl.1 rfl (lv_room (Nat.le_of_ble_eq_true rfl)) d_B_mustHoldSample_6 ⟨Nat.le_of_ble_eq_true rfl, Nat.le_of_ble_eq_true rfl⟩) ?_
  refine lv_if_ne (tgt := 22) hx hb d_B_mustHoldSample_9 (by decide) (fun c1 => ?_) (fun c1 => ?_)
  · have hF := kc_neg c1 hF
    obtain rfl := Option.some.inj hF
    exact xc_vret hx hb hr hlocks hQ d_B_mustHoldSample_22
  have hF := kc_pos c1 hF
  obtain rfl := Option.some.inj hF
  obtain ⟨sa, hstr⟩ := xs_197 hXK.2.1
  exact xthrow (tag := 1) (names := ["java/lang/RuntimeException", "java/lang/Exception"]) (ic := 128) (tx := _) hfl hx hb (hml.trans hl.1.symm) hno hlocks hQ (by decide) (hP.sub [0, 1] rfl) (hD.sub [0, 1] (by decide) rfl) hown (hts _ kw_2_144) (hts _ kw_2_145) (hts _ kw_1_12) hstr (by decide +kernel) (by decide +kernel) (x_atoms xall_1 hts (xn_1 hXK.2.2) hXK) d_B_mustHoldSample_12 d_B_mustHoldSample_15 d_B_mustHoldSample_16 d_B_mustHoldSample_18 d_B_mustHoldSample_21 (Nat.le_of_ble_eq_true rfl) (Nat.le_of_ble_eq_true rfl) (Nat.le_of_ble_eq_true rfl) (Nat.le_of_ble_eq_true rfl) (Nat.le_of_ble_eq_true rfl) (Nat.le_of_ble_eq_true rfl)
abbrev rm_B_mustBeTold : Room := { frames := 6, cells := 1, slots := 6, locals := 82 }
set_option maxHeartbeats 4000000 in
set_option maxRecDepth 100000 in
theorem m_B_mustBeTold (l : Launch) (dC : Nat → ClassId) (dI : Nat → Nat → Nat) (q_bp q_bk q_len q_dis q_va q_lr q_te q_sa q_twk q_li q_rwk : Nat) (pt : Int32) (a0 : Int32) (hfl : l.flags = pinnedFlags ++ [noTraceFlag]) (u : Nat) (hF : f_B_mustBeTold pt a0 = some u) : ∀ sz : Nat, xMet l y_B_mustBeTold (kws y_B_mustBeTold c_B_mustBeTold 2 none) rm_B_mustBeTold (xPre (dC, dI) [.ref q_bp, .int a0] [(q_bp, .inr (0, [.ref q_bk, .ref q_sa, .ref q_te, .ref q_twk, .ref q_len, .ref q_dis, .int pt, .ref q_li, .ref q_rwk, .ref q_va, .ref q_lr]))] [] sz) (xV u) (xX u (dC, dI) [(q_bp, .inr (0, [.ref q_bk, .ref q_sa, .ref q_te, .ref q_twk, .ref q_len, .ref q_dis, .int pt, .ref q_li, .ref q_rwk, .ref q_va, .ref q_lr]))] (va_A [(q_bp, .inr (0, [.ref q_bk, .ref q_sa, .ref q_te, .ref q_twk, .ref q_len, .ref q_dis, .int pt, .ref q_li, .ref q_rwk, .ref q_va, .ref q_lr]))] sz)) 1 6 (va_A [(q_bp, .inr (0, [.ref q_bk, .ref q_sa, .ref q_te, .ref q_twk, .ref q_len, .ref q_dis, .int pt, .ref q_li, .ref q_rwk, .ref q_va, .ref q_lr]))] sz) 0 0 (fun _ => False) := by
  unfold f_B_mustBeTold at hF
  refine xU_of (Qc := fun _ => xV u) (rc := 0) (rs := 0) (rf := fun _ _ => False) (cc := c_B_mustBeTold) (maxL := 2) (ret := none) (by decide) (Nat.le_of_ble_eq_true rfl) ?_
  intro p e s m args below meth c Q A hQ hfx hno hK hN hXK hA hP hD ls hl
  have hS : va_S A s.heap s.heap [] := va_S.rf
  obtain ⟨hx, hb, hr, hml, hown, hts, hlocks⟩ := hfx
  have hown : s.vm.findClass R_B = some m.cls := hown
  have hl : lv_has ls 2 [(0, .ref q_bp), (1, .int a0)] := hl
  refine lv_iload_n hx hb d_B_mustBeTold_0 rfl (lv_at hl 1 rfl) ?_
  refine lv_if_lt (tgt := 12) hx hb d_B_mustBeTold_1 (by decide) (fun c1 => ?_) (fun c1 => ?_)
  · have hF := kc_pos c1 hF
    obtain rfl := Option.some.inj hF
    obtain ⟨sa, hstr⟩ := xs_199 hXK.2.1
    exact xthrow (tag := 1) (names := ["java/lang/RuntimeException", "java/lang/Exception"]) (ic := 128) (tx := _) hfl hx hb (hml.trans hl.1.symm) hno hlocks hQ (by decide) (hP.sub [0] rfl) (hD.sub [0] (by decide) rfl) hown (hts _ kw_2_144) (hts _ kw_2_145) (hts _ kw_1_12) hstr (by decide +kernel) (by decide +kernel) (x_atoms xall_1 hts (xn_1 hXK.2.2) hXK) d_B_mustBeTold_12 d_B_mustBeTold_15 d_B_mustBeTold_16 d_B_mustBeTold_18 d_B_mustBeTold_21 (Nat.le_of_ble_eq_true rfl) (Nat.le_of_ble_eq_true rfl) (Nat.le_of_ble_eq_true rfl) (Nat.le_of_ble_eq_true rfl) (Nat.le_of_ble_eq_true rfl) (Nat.le_of_ble_eq_true rfl)
  have hF := kc_neg c1 hF
  refine lv_iload_n hx hb d_B_mustBeTold_4 rfl (lv_at hl 1 rfl) ?_
  refine lv_aload_n hx hb d_B_mustBeTold_5 rfl (lv_at hl 0 rfl) ?_
  refine va_get (D := (dC, dI)) (ci := 0) (v := .int pt) (C := R_B) (T := T_B) (N := 11) hx hb hts ki_B hown hK hP 0 rfl rfl 6 (by decide) (hts _ kw_1_159) (fun _ h9 => h9) rfl d_B_mustBeTold_6 ?_
  refine lv_icmp_lt (tgt := 22) hx hb d_B_mustBeTold_9 (by decide) (fun c2 => ?_) (fun c2 => ?_)
  · have hF := kc_pos c2 hF
    obtain rfl := Option.some.inj hF
    exact xc_vret hx hb hr hlocks hQ d_B_mustBeTold_22
  have hF := kc_neg c2 hF
  obtain rfl := Option.some.inj hF
  obtain ⟨sa, hstr⟩ := xs_199 hXK.2.1
  exact xthrow (tag := 1) (names := ["java/lang/RuntimeException", "java/lang/Exception"]) (ic := 128) (tx := _) hfl hx hb (hml.trans hl.1.symm) hno hlocks hQ (by decide) (hP.sub [0] rfl) (hD.sub [0] (by decide) rfl) hown (hts _ kw_2_144) (hts _ kw_2_145) (hts _ kw_1_12) hstr (by decide +kernel) (by decide +kernel) (x_atoms xall_1 hts (xn_1 hXK.2.2) hXK) d_B_mustBeTold_12 d_B_mustBeTold_15 d_B_mustBeTold_16 d_B_mustBeTold_18 d_B_mustBeTold_21 (Nat.le_of_ble_eq_true rfl) (Nat.le_of_ble_eq_true rfl) (Nat.le_of_ble_eq_true rfl) (Nat.le_of_ble_eq_true rfl) (Nat.le_of_ble_eq_true rfl) (Nat.le_of_ble_eq_true rfl)
abbrev rm_B_mustHaveRoomFor : Room := { frames := 6, cells := 1, slots := 6, locals := 82 }
set_option maxHeartbeats 4000000 in
set_option maxRecDepth 100000 in
theorem m_B_mustHaveRoomFor (l : Launch) (dC : Nat → ClassId) (dI : Nat → Nat → Nat) (q_bp q_bk q_len q_dis q_va q_lr q_te q_sa q_twk q_li q_wo q_rwk : Nat) (pt : Int32) (lcn : Int32) (lak : Int32) (nxt : Int32) (a0 : Int32) (hfl : l.flags = pinnedFlags ++ [noTraceFlag]) (u : Nat) (hF : f_B_mustHaveRoomFor lcn a0 = some u) : ∀ sz : Nat, xMet l y_B_mustHaveRoomFor (kws y_B_mustHaveRoomFor c_B_mustHaveRoomFor 2 none) rm_B_mustHaveRoomFor (xPre (dC, dI) [.ref q_bp, .int a0] [(q_bp, .inr (0, [.ref q_bk, .ref q_sa, .ref q_te, .ref q_twk, .ref q_len, .ref q_dis, .int pt, .ref q_li, .ref q_rwk, .ref q_va, .ref q_lr])), (q_li, .inr (3, [.ref q_wo, .int lcn, .int lak, .int nxt]))] [] sz) (xV u) (xX u (dC, dI) [(q_bp, .inr (0, [.ref q_bk, .ref q_sa, .ref q_te, .ref q_twk, .ref q_len, .ref q_dis, .int pt, .ref q_li, .ref q_rwk, .ref q_va, .ref q_lr])), (q_li, .inr (3, [.ref q_wo, .int lcn, .int lak, .int nxt]))] (va_A [(q_bp, .inr (0, [.ref q_bk, .ref q_sa, .ref q_te, .ref q_twk, .ref q_len, .ref q_dis, .int pt, .ref q_li, .ref q_rwk, .ref q_va, .ref q_lr])), (q_li, .inr (3, [.ref q_wo, .int lcn, .int lak, .int nxt]))] sz)) 1 6 (va_A [(q_bp, .inr (0, [.ref q_bk, .ref q_sa, .ref q_te, .ref q_twk, .ref q_len, .ref q_dis, .int pt, .ref q_li, .ref q_rwk, .ref q_va, .ref q_lr])), (q_li, .inr (3, [.ref q_wo, .int lcn, .int lak, .int nxt]))] sz) 0 0 (fun _ => False) := by
  unfold f_B_mustHaveRoomFor at hF
  refine xU_of (Qc := fun _ => xV u) (rc := 0) (rs := 0) (rf := fun _ _ => False) (cc := c_B_mustHaveRoomFor) (maxL := 2) (ret := none) (by decide) (Nat.le_of_ble_eq_true rfl) ?_
  intro p e s m args below meth c Q A hQ hfx hno hK hN hXK hA hP hD ls hl
  have hS : va_S A s.heap s.heap [] := va_S.rf
  obtain ⟨hx, hb, hr, hml, hown, hts, hlocks⟩ := hfx
  have hown : s.vm.findClass R_B = some m.cls := hown
  have hl : lv_has ls 2 [(0, .ref q_bp), (1, .int a0)] := hl
  refine lv_iload_n hx hb d_B_mustHaveRoomFor_0 rfl (lv_at hl 1 rfl) ?_
  refine lv_sipush (v := 12000) hx hb d_B_mustHaveRoomFor_1 (by decide) ?_
  refine lv_aload_n hx hb d_B_mustHaveRoomFor_4 rfl (lv_at hl 0 rfl) ?_
  refine va_get (D := (dC, dI)) (ci := 0) (v := .ref q_li) (C := R_B) (T := T_B) (N := 11) hx hb hts ki_B hown hK hP 0 rfl rfl 7 (by decide) (hts _ kw_1_160) (fun _ h9 => h9) rfl d_B_mustHaveRoomFor_5 ?_
  refine va_get (D := (dC, dI)) (ci := 3) (v := .int lcn) (C := R_L) (T := T_L) (N := 4) hx hb hts ki_L hown hK hP 1 rfl rfl 1 (by decide) (hts _ kw_1_139) (fun _ h9 => h9) rfl d_B_mustHaveRoomFor_8 ?_
  refine lv_isub hx hb d_B_mustHaveRoomFor_11 ?_
  refine lv_icmp_le (tgt := 25) hx hb d_B_mustHaveRoomFor_12 (by decide) (fun c1 => ?_) (fun c1 => ?_)
  · have hF := kc_pos c1 hF
    obtain rfl := Option.some.inj hF
    exact xc_vret hx hb hr hlocks hQ d_B_mustHaveRoomFor_25
  have hF := kc_neg c1 hF
  obtain rfl := Option.some.inj hF
  obtain ⟨sa, hstr⟩ := xs_203 hXK.2.1
  exact xthrow (tag := 3) (names := ["java/lang/RuntimeException", "java/lang/Exception"]) (ic := 205) (tx := _) hfl hx hb (hml.trans hl.1.symm) hno hlocks hQ (by decide) (hP.sub [0, 1] rfl) (hD.sub [0, 1] (by decide) rfl) hown (hts _ kw_3_57) (hts _ kw_3_58) (hts _ kw_1_15) hstr (by decide +kernel) (by decide +kernel) (x_atoms xall_3 hts (xn_3 hXK.2.2) hXK) d_B_mustHaveRoomFor_15 d_B_mustHaveRoomFor_18 d_B_mustHaveRoomFor_19 d_B_mustHaveRoomFor_21 d_B_mustHaveRoomFor_24 (Nat.le_of_ble_eq_true rfl) (Nat.le_of_ble_eq_true rfl) (Nat.le_of_ble_eq_true rfl) (Nat.le_of_ble_eq_true rfl) (Nat.le_of_ble_eq_true rfl) (Nat.le_of_ble_eq_true rfl)
abbrev rm_B_put : Room := { frames := 7, cells := 1, slots := 6, locals := 104 }
set_option maxHeartbeats 4000000 in
set_option maxRecDepth 100000 in
theorem m_B_put (l : Launch) (dC : Nat → ClassId) (dI : Nat → Nat → Nat) (q_bp q_bk q_len q_dis q_va q_lr q_te q_sa q_twk q_li q_rwk : Nat) (k_sa : ClassId) (n_sa : Nat) (pt : Int32) (w : Int32) (h : Int32) (sty : Int32) (bd : Int32) (str : Int32) (cel : Int32) (sam : (Nat → Int32)) (a0 : Int32) (a1 : Int32) (a2 : Int32) (hfl : l.flags = pinnedFlags ++ [noTraceFlag]) (u : Nat × Int32 × (Nat → Int32)) (hF : f_B_put w h str sam n_sa a0 a1 a2 = some u) : ∀ sz : Nat, xMet l y_B_put (kws y_B_put c_B_put 6 (some .int)) rm_B_put (xPre (dC, dI) [.ref q_bp, .int a0, .int a1, .int a2] [(q_bp, .inr (0, [.ref q_bk, .ref q_sa, .ref q_te, .ref q_twk, .ref q_len, .ref q_dis, .int pt, .ref q_li, .ref q_rwk, .ref q_va, .ref q_lr])), (q_bk, .inr (1, [.int w, .int h, .int sty, .int bd, .int str, .int cel])), (q_sa, .inl (k_sa, n_sa, .inl sam))] [(k_sa, .int)] sz) (xR u.1 (dC, dI) (some (.int u.2.1)) [(q_bp, .inr (0, [.ref q_bk, .ref q_sa, .ref q_te, .ref q_twk, .ref q_len, .ref q_dis, .int pt, .ref q_li, .ref q_rwk, .ref q_va, .ref q_lr])), (q_bk, .inr (1, [.int w, .int h, .int sty, .int bd, .int str, .int cel])), (q_sa, .inl (k_sa, n_sa, .inl u.2.2))] (va_A [(q_bp, .inr (0, [.ref q_bk, .ref q_sa, .ref q_te, .ref q_twk, .ref q_len, .ref q_dis, .int pt, .ref q_li, .ref q_rwk, .ref q_va, .ref q_lr])), (q_bk, .inr (1, [.int w, .int h, .int sty, .int bd, .int str, .int cel])), (q_sa, .inl (k_sa, n_sa, .inl sam))] sz)) (xX u.1 (dC, dI) [(q_bp, .inr (0, [.ref q_bk, .ref q_sa, .ref q_te, .ref q_twk, .ref q_len, .ref q_dis, .int pt, .ref q_li, .ref q_rwk, .ref q_va, .ref q_lr])), (q_bk, .inr (1, [.int w, .int h, .int sty, .int bd, .int str, .int cel])), (q_sa, .inl (k_sa, n_sa, .inl u.2.2))] (va_A [(q_bp, .inr (0, [.ref q_bk, .ref q_sa, .ref q_te, .ref q_twk, .ref q_len, .ref q_dis, .int pt, .ref q_li, .ref q_rwk, .ref q_va, .ref q_lr])), (q_bk, .inr (1, [.int w, .int h, .int sty, .int bd, .int str, .int cel])), (q_sa, .inl (k_sa, n_sa, .inl sam))] sz)) 1 6 (va_A [(q_bp, .inr (0, [.ref q_bk, .ref q_sa, .ref q_te, .ref q_twk, .ref q_len, .ref q_dis, .int pt, .ref q_li, .ref q_rwk, .ref q_va, .ref q_lr])), (q_bk, .inr (1, [.int w, .int h, .int sty, .int bd, .int str, .int cel])), (q_sa, .inl (k_sa, n_sa, .inl sam))] sz) 1 6 (va_A [(q_bp, .inr (0, [.ref q_bk, .ref q_sa, .ref q_te, .ref q_twk, .ref q_len, .ref q_dis, .int pt, .ref q_li, .ref q_rwk, .ref q_va, .ref q_lr])), (q_bk, .inr (1, [.int w, .int h, .int sty, .int bd, .int str, .int cel])), (q_sa, .inl (k_sa, n_sa, .inl sam))] sz) := by
  unfold f_B_put at hF
  refine xU_of (Qc := fun A => xR u.1 (dC, dI) (some (.int u.2.1)) [(q_bp, .inr (0, [.ref q_bk, .ref q_sa, .ref q_te, .ref q_twk, .ref q_len, .ref q_dis, .int pt, .ref q_li, .ref q_rwk, .ref q_va, .ref q_lr])), (q_bk, .inr (1, [.int w, .int h, .int sty, .int bd, .int str, .int cel])), (q_sa, .inl (k_sa, n_sa, .inl u.2.2))] A) (rc := 1) (rs := 6) (rf := fun A => A) (cc := c_B_put) (maxL := 6) (ret := (some .int)) (by decide) (Nat.le_of_ble_eq_true rfl) ?_
  intro p e s m args below meth c Q A hQ hfx hno hK hN hXK hA hP hD ls hl
  have hS : va_S A s.heap s.heap [] := va_S.rf
  obtain ⟨hx, hb, hr, hml, hown, hts, hlocks⟩ := hfx
  have hown : s.vm.findClass R_B = some m.cls := hown
  have hl : lv_has ls 6 [(0, .ref q_bp), (1, .int a0), (2, .int a1), (3, .int a2)] := hl
  refine lv_aload_n hx hb d_B_put_0 rfl (lv_at hl 0 rfl) ?_
  refine lv_iload_n hx hb d_B_put_1 rfl (lv_at hl 1 rfl) ?_
  refine lv_iload_n hx hb d_B_put_2 rfl (lv_at hl 2 rfl) ?_
  obtain ⟨u1, hc, hF⟩ := kc_bnd hF
  refine xc_call (tag := u1) (wr := [(q_sa, .inl (k_sa, n_sa, .inl sam))]) hA (xrunV (As := [.int a0, .int a1]) (rest := []) ⟨hx, hb, hml, hown, hts⟩ (m_B_mustHoldSample l dC dI q_bp q_bk q_len q_dis q_va q_lr q_te q_sa q_twk q_li q_rwk pt w h sty bd str cel a0 a1 hfl _ hc s.heap.size) (cwV 2 hts (kgV kw_2_136 kw_2_138 kp_17 kw_1_1 kw_2_139) rfl rfl rfl (by decide +kernel) ⟨Nat.le_of_ble_eq_true rfl, Nat.le_of_ble_eq_true rfl⟩) ⟨xPre_blind, va_recv hK hP (ci := 0) (q0 := 0) rfl rfl, xPre_of (hP.sub [0, 1] rfl) (hK.sub [] rfl) (hD.sub [0, 1] (by decide) rfl) hN hXK⟩ rfl rfl hl.1 rfl (lv_room (Nat.le_of_ble_eq_true rfl)) d_B_put_3 ⟨Nat.le_of_ble_eq_true rfl, Nat.le_of_ble_eq_true rfl⟩) hP hD hS [0, 1] [2] rfl rfl (by decide) (by decide) (fun htag H locs q ce hP hD hS hce hcv hcl => ?_) (fun htag => ?_)
  · have hP : va_P (dC, dI) vwCl [(q_sa, .inl (k_sa, n_sa, .inl sam)), (q_bp, .inr (0, [.ref q_bk, .ref q_sa, .ref q_te, .ref q_twk, .ref q_len, .ref q_dis, .int pt, .ref q_li, .ref q_rwk, .ref q_va, .ref q_lr])), (q_bk, .inr (1, [.int w, .int h, .int sty, .int bd, .int str, .int cel]))] H := hP
    have hD : va_D A [(q_sa, .inl (k_sa, n_sa, .inl sam)), (q_bp, .inr (0, [.ref q_bk, .ref q_sa, .ref q_te, .ref q_twk, .ref q_len, .ref q_dis, .int pt, .ref q_li, .ref q_rwk, .ref q_va, .ref q_lr])), (q_bk, .inr (1, [.int w, .int h, .int sty, .int bd, .int str, .int cel]))] := hD
    have hF := kc_neg htag hF
    obtain rfl := Option.some.inj hF
    exact xout hno hlocks hQ htag (hP.sub [1, 2, 0] rfl) (hD.sub [1, 2, 0] (by decide) rfl) hS hce hcv hcl (Nat.le_of_ble_eq_true rfl) (Nat.le_of_ble_eq_true rfl)
  have hF := kc_pos htag hF
  refine lv_iload_n hx hb d_B_put_6 rfl (lv_at hl 3 rfl) ?_
  refine lv_sipush (v := -32767) hx hb d_B_put_7 (by decide) ?_
  refine lv_icmp_lt (tgt := 20) hx hb d_B_put_10 (by decide) (fun c2 => ?_) (fun c2 => ?_)
  · have hF := kc_pos c2 hF
    obtain rfl := Option.some.inj hF
    obtain ⟨sa, hstr⟩ := xs_77 hXK.2.1
    exact xthrow (tag := 2) (names := ["java/lang/RuntimeException", "java/lang/Exception"]) (ic := 79) (tx := _) hfl hx hb (hml.trans hl.1.symm) hno hlocks hQ (by decide) (hP.sub [0, 1, 2] rfl) (hD.sub [0, 1, 2] (by decide) rfl) hown (hts _ kw_2_212) (hts _ kw_2_213) (hts _ kw_1_13) hstr (by decide +kernel) (by decide +kernel) (x_atoms xall_2 hts (xn_2 hXK.2.2) hXK) d_B_put_20 d_B_put_23 d_B_put_24 d_B_put_26 d_B_put_29 (Nat.le_of_ble_eq_true rfl) (Nat.le_of_ble_eq_true rfl) (Nat.le_of_ble_eq_true rfl) (Nat.le_of_ble_eq_true rfl) (Nat.le_of_ble_eq_true rfl) (Nat.le_of_ble_eq_true rfl)
  have hF := kc_neg c2 hF
  refine lv_iload_n hx hb d_B_put_13 rfl (lv_at hl 3 rfl) ?_
  refine lv_sipush (v := 32767) hx hb d_B_put_14 (by decide) ?_
  refine lv_icmp_le (tgt := 30) hx hb d_B_put_17 (by decide) (fun c3 => ?_) (fun c3 => ?_)
  · have hF := kc_pos c3 hF
    refine lv_aload_n hx hb d_B_put_30 rfl (lv_at hl 0 rfl) ?_
    refine va_get (D := (dC, dI)) (ci := 0) (v := .ref q_bk) (C := R_B) (T := T_B) (N := 11) hx hb hts ki_B hown hK hP 0 rfl rfl 0 (by decide) (hts _ kw_1_153) (fun _ h9 => h9) rfl d_B_put_31 ?_
    refine lv_iload_n hx hb d_B_put_34 rfl (lv_at hl 1 rfl) ?_
    refine lv_iload_n hx hb d_B_put_35 rfl (lv_at hl 2 rfl) ?_
    refine kr_call (va_runV (As := [.int a0, .int a1]) (rest := []) ⟨hx, hb, hml, hown, hts⟩ (m_K_cellOf l dC dI q_bk w h sty bd str cel a0 a1 (f_K_cellOf str a0 a1) rfl) (cwV 2 hts (kgV kw_1_191 kw_1_192 kw_1_193 kw_1_2 kw_1_194) rfl rfl rfl (by decide +kernel) ⟨Nat.le_of_ble_eq_true rfl, Nat.le_of_ble_eq_true rfl⟩) ⟨kRe_blind, va_recv hK hP (ci := 1) (q0 := 1) rfl rfl, kRe_of (hP.sub [1] rfl) (hK.sub [] rfl) hN⟩ rfl rfl hl.1 rfl (lv_room (Nat.le_of_ble_eq_true rfl)) d_B_put_36 ⟨Nat.le_of_ble_eq_true rfl, Nat.le_of_ble_eq_true rfl⟩) ?_
    refine lv_istore (lv' := [(4, .int (f_K_cellOf str a0 a1)), (0, .ref q_bp), (1, .int a0), (2, .int a1), (3, .int a2)]) hx hb d_B_put_39 hl (by decide) rfl (fun ls hl => ?_)
    refine lv_aload_n hx hb d_B_put_41 rfl (lv_at hl 1 rfl) ?_
    refine va_get (D := (dC, dI)) (ci := 0) (v := .ref q_sa) (C := R_B) (T := T_B) (N := 11) hx hb hts ki_B hown hK hP 0 rfl rfl 1 (by decide) (hts _ kw_1_154) (fun _ h9 => h9) rfl d_B_put_42 ?_
    refine lv_iload hx hb d_B_put_45 (lv_at hl 0 rfl) ?_
    obtain ⟨h4, hF⟩ := kc_no hF
    refine va_iald hx hb hK hP 2 0 rfl rfl h4 d_B_put_47 ?_
    refine lv_istore (lv' := [(5, .int (sam (f_K_cellOf str a0 a1).toNatClampNeg)), (4, .int (f_K_cellOf str a0 a1)), (0, .ref q_bp), (1, .int a0), (2, .int a1), (3, .int a2)]) hx hb d_B_put_48 hl (by decide) rfl (fun ls hl => ?_)
    refine lv_aload_n hx hb d_B_put_50 rfl (lv_at hl 2 rfl) ?_
    refine va_get (D := (dC, dI)) (ci := 0) (v := .ref q_sa) (C := R_B) (T := T_B) (N := 11) hx hb hts ki_B hown hK hP 0 rfl rfl 1 (by decide) (hts _ kw_1_154) (fun _ h9 => h9) rfl d_B_put_51 ?_
    refine lv_iload hx hb d_B_put_54 (lv_at hl 1 rfl) ?_
    refine lv_iload_n hx hb d_B_put_56 rfl (lv_at hl 5 rfl) ?_
    obtain ⟨h5, hF⟩ := kc_no hF
    refine va_iast hx hb hK hP hD hS 2 0 rfl rfl h5 d_B_put_57 (fun H locs hP hD hS => ?_)
    have hP : va_P (dC, dI) vwCl [(q_bp, .inr (0, [.ref q_bk, .ref q_sa, .ref q_te, .ref q_twk, .ref q_len, .ref q_dis, .int pt, .ref q_li, .ref q_rwk, .ref q_va, .ref q_lr])), (q_bk, .inr (1, [.int w, .int h, .int sty, .int bd, .int str, .int cel])), (q_sa, .inl (k_sa, n_sa, .inl (upd sam (f_K_cellOf str a0 a1).toNatClampNeg a2)))] H := hP
    have hD : va_D A [(q_bp, .inr (0, [.ref q_bk, .ref q_sa, .ref q_te, .ref q_twk, .ref q_len, .ref q_dis, .int pt, .ref q_li, .ref q_rwk, .ref q_va, .ref q_lr])), (q_bk, .inr (1, [.int w, .int h, .int sty, .int bd, .int str, .int cel])), (q_sa, .inl (k_sa, n_sa, .inl (upd sam (f_K_cellOf str a0 a1).toNatClampNeg a2)))] := hD
    refine lv_iload hx hb d_B_put_58 (lv_at hl 0 rfl) ?_
    obtain rfl := Option.some.inj hF
    exact xu_iret hx hb hr hlocks hQ (Nat.le_of_ble_eq_true rfl) (Nat.le_of_ble_eq_true rfl) (hP.sub [0, 1, 2] rfl) (hD.sub [0, 1, 2] (by decide) rfl) hS d_B_put_60
  have hF := kc_neg c3 hF
  obtain rfl := Option.some.inj hF
  obtain ⟨sa, hstr⟩ := xs_77 hXK.2.1
  exact xthrow (tag := 2) (names := ["java/lang/RuntimeException", "java/lang/Exception"]) (ic := 79) (tx := _) hfl hx hb (hml.trans hl.1.symm) hno hlocks hQ (by decide) (hP.sub [0, 1, 2] rfl) (hD.sub [0, 1, 2] (by decide) rfl) hown (hts _ kw_2_212) (hts _ kw_2_213) (hts _ kw_1_13) hstr (by decide +kernel) (by decide +kernel) (x_atoms xall_2 hts (xn_2 hXK.2.2) hXK) d_B_put_20 d_B_put_23 d_B_put_24 d_B_put_26 d_B_put_29 (Nat.le_of_ble_eq_true rfl) (Nat.le_of_ble_eq_true rfl) (Nat.le_of_ble_eq_true rfl) (Nat.le_of_ble_eq_true rfl) (Nat.le_of_ble_eq_true rfl) (Nat.le_of_ble_eq_true rfl)
abbrev rm_B_bit : Room := { frames := 6, cells := 1, slots := 6, locals := 82 }
set_option maxHeartbeats 4000000 in
set_option maxRecDepth 100000 in
theorem m_B_bit (l : Launch) (dC : Nat → ClassId) (dI : Nat → Nat → Nat) (q_bp q_bk q_len q_dis q_va q_lr q_te q_sa q_ro q_twk q_li q_rwk : Nat) (k_ro : ClassId) (n_ro : Nat) (pt : Int32) (cnt : Int32) (pn : Int32) (row : (Nat → Int32)) (a0 : Int32) (a1 : Int32) (hfl : l.flags = pinnedFlags ++ [noTraceFlag]) (u : Nat × Int32) (hF : f_B_bit cnt row n_ro a0 a1 = some u) : ∀ sz : Nat, xMet l y_B_bit (kws y_B_bit c_B_bit 3 (some .int)) rm_B_bit (xPre (dC, dI) [.ref q_bp, .int a0, .int a1] [(q_bp, .inr (0, [.ref q_bk, .ref q_sa, .ref q_te, .ref q_twk, .ref q_len, .ref q_dis, .int pt, .ref q_li, .ref q_rwk, .ref q_va, .ref q_lr])), (q_te, .inr (2, [.ref q_sa, .ref q_ro, .int cnt, .int pn])), (q_ro, .inl (k_ro, n_ro, .inl row))] [(k_ro, .int)] sz) (xR u.1 (dC, dI) (some (.int u.2)) [(q_bp, .inr (0, [.ref q_bk, .ref q_sa, .ref q_te, .ref q_twk, .ref q_len, .ref q_dis, .int pt, .ref q_li, .ref q_rwk, .ref q_va, .ref q_lr])), (q_te, .inr (2, [.ref q_sa, .ref q_ro, .int cnt, .int pn])), (q_ro, .inl (k_ro, n_ro, .inl row))] (va_A [(q_bp, .inr (0, [.ref q_bk, .ref q_sa, .ref q_te, .ref q_twk, .ref q_len, .ref q_dis, .int pt, .ref q_li, .ref q_rwk, .ref q_va, .ref q_lr])), (q_te, .inr (2, [.ref q_sa, .ref q_ro, .int cnt, .int pn])), (q_ro, .inl (k_ro, n_ro, .inl row))] sz)) (xX u.1 (dC, dI) [(q_bp, .inr (0, [.ref q_bk, .ref q_sa, .ref q_te, .ref q_twk, .ref q_len, .ref q_dis, .int pt, .ref q_li, .ref q_rwk, .ref q_va, .ref q_lr])), (q_te, .inr (2, [.ref q_sa, .ref q_ro, .int cnt, .int pn])), (q_ro, .inl (k_ro, n_ro, .inl row))] (va_A [(q_bp, .inr (0, [.ref q_bk, .ref q_sa, .ref q_te, .ref q_twk, .ref q_len, .ref q_dis, .int pt, .ref q_li, .ref q_rwk, .ref q_va, .ref q_lr])), (q_te, .inr (2, [.ref q_sa, .ref q_ro, .int cnt, .int pn])), (q_ro, .inl (k_ro, n_ro, .inl row))] sz)) 1 6 (va_A [(q_bp, .inr (0, [.ref q_bk, .ref q_sa, .ref q_te, .ref q_twk, .ref q_len, .ref q_dis, .int pt, .ref q_li, .ref q_rwk, .ref q_va, .ref q_lr])), (q_te, .inr (2, [.ref q_sa, .ref q_ro, .int cnt, .int pn])), (q_ro, .inl (k_ro, n_ro, .inl row))] sz) 1 6 (va_A [(q_bp, .inr (0, [.ref q_bk, .ref q_sa, .ref q_te, .ref q_twk, .ref q_len, .ref q_dis, .int pt, .ref q_li, .ref q_rwk, .ref q_va, .ref q_lr])), (q_te, .inr (2, [.ref q_sa, .ref q_ro, .int cnt, .int pn])), (q_ro, .inl (k_ro, n_ro, .inl row))] sz) := by
  unfold f_B_bit at hF
  refine xU_of (Qc := fun A => xR u.1 (dC, dI) (some (.int u.2)) [(q_bp, .inr (0, [.ref q_bk, .ref q_sa, .ref q_te, .ref q_twk, .ref q_len, .ref q_dis, .int pt, .ref q_li, .ref q_rwk, .ref q_va, .ref q_lr])), (q_te, .inr (2, [.ref q_sa, .ref q_ro, .int cnt, .int pn])), (q_ro, .inl (k_ro, n_ro, .inl row))] A) (rc := 1) (rs := 6) (rf := fun A => A) (cc := c_B_bit) (maxL := 3) (ret := (some .int)) (by decide) (Nat.le_of_ble_eq_true rfl) ?_
  intro p e s m args below meth c Q A hQ hfx hno hK hN hXK hA hP hD ls hl
  have hS : va_S A s.heap s.heap [] := va_S.rf
  obtain ⟨hx, hb, hr, hml, hown, hts, hlocks⟩ := hfx
  have hown : s.vm.findClass R_B = some m.cls := hown
  have hl : lv_has ls 3 [(0, .ref q_bp), (1, .int a0), (2, .int a1)] := hl
  refine lv_iload_n hx hb d_B_bit_0 rfl (lv_at hl 1 rfl) ?_
  refine lv_if_lt (tgt := 15) hx hb d_B_bit_1 (by decide) (fun c1 => ?_) (fun c1 => ?_)
  · have hF := kc_pos c1 hF
    obtain rfl := Option.some.inj hF
    obtain ⟨sa, hstr⟩ := xs_126 hXK.2.1
    exact xthrow (tag := 1) (names := ["java/lang/RuntimeException", "java/lang/Exception"]) (ic := 128) (tx := _) hfl hx hb (hml.trans hl.1.symm) hno hlocks hQ (by decide) (hP.sub [0, 1, 2] rfl) (hD.sub [0, 1, 2] (by decide) rfl) hown (hts _ kw_2_144) (hts _ kw_2_145) (hts _ kw_1_12) hstr (by decide +kernel) (by decide +kernel) (x_atoms xall_1 hts (xn_1 hXK.2.2) hXK) d_B_bit_15 d_B_bit_18 d_B_bit_19 d_B_bit_21 d_B_bit_24 (Nat.le_of_ble_eq_true rfl) (Nat.le_of_ble_eq_true rfl) (Nat.le_of_ble_eq_true rfl) (Nat.le_of_ble_eq_true rfl) (Nat.le_of_ble_eq_true rfl) (Nat.le_of_ble_eq_true rfl)
  have hF := kc_neg c1 hF
  refine lv_iload_n hx hb d_B_bit_4 rfl (lv_at hl 1 rfl) ?_
  refine lv_aload_n hx hb d_B_bit_5 rfl (lv_at hl 0 rfl) ?_
  refine va_get (D := (dC, dI)) (ci := 0) (v := .ref q_te) (C := R_B) (T := T_B) (N := 11) hx hb hts ki_B hown hK hP 0 rfl rfl 2 (by decide) (hts _ kw_1_155) (fun _ h9 => h9) rfl d_B_bit_6 ?_
  refine va_get (D := (dC, dI)) (ci := 2) (v := .int cnt) (C := R_T) (T := T_T) (N := 4) hx hb hts ki_T hown hK hP 1 rfl rfl 2 (by decide) (hts _ kw_1_84) (fun _ h9 => h9) rfl d_B_bit_9 ?_
  refine lv_icmp_lt (tgt := 25) hx hb d_B_bit_12 (by decide) (fun c2 => ?_) (fun c2 => ?_)
  · have hF := kc_pos c2 hF
    refine lv_iload_n hx hb d_B_bit_25 rfl (lv_at hl 2 rfl) ?_
    by_cases c3 : a1 = 0
    · have hF := kc_pos c3 hF
      have hti : (a1).toInt = 0 := by rw [c3]; decide
      refine lv_tableIn (off := 26) (tgt := 52) hx hb d_B_bit_26 (by rw [hti]; decide) (by rw [hti]; decide) (by rw [hti]; rfl) (by decide) ?_
      refine lv_aload_n hx hb d_B_bit_52 rfl (lv_at hl 0 rfl) ?_
      refine va_get (D := (dC, dI)) (ci := 0) (v := .ref q_te) (C := R_B) (T := T_B) (N := 11) hx hb hts ki_B hown hK hP 0 rfl rfl 2 (by decide) (hts _ kw_1_155) (fun _ h9 => h9) rfl d_B_bit_53 ?_
      refine lv_iload_n hx hb d_B_bit_56 rfl (lv_at hl 1 rfl) ?_
      obtain ⟨u4, hc, hF⟩ := kc_bnd hF
      refine kr_call (va_runV (As := [.int a0]) (rest := []) ⟨hx, hb, hml, hown, hts⟩ (m_T_bitOf l dC dI q_te q_sa q_ro k_ro n_ro cnt pn row a0 _ hc) (cwV 1 hts (kgV kw_2_236 kw_2_237 kw_2_238 kw_1_5 kw_2_239) rfl rfl rfl (by decide +kernel) ⟨Nat.le_of_ble_eq_true rfl, Nat.le_of_ble_eq_true rfl⟩) ⟨kRe_blind, va_recv hK hP (ci := 2) (q0 := 1) rfl rfl, kRe_of (hP.sub [1, 2] rfl) (hK.sub [0] rfl) hN⟩ rfl rfl hl.1 rfl (lv_room (Nat.le_of_ble_eq_true rfl)) d_B_bit_57 ⟨Nat.le_of_ble_eq_true rfl, Nat.le_of_ble_eq_true rfl⟩) ?_
      obtain rfl := Option.some.inj hF
      exact xu_iret hx hb hr hlocks hQ (Nat.le_of_ble_eq_true rfl) (Nat.le_of_ble_eq_true rfl) (hP.sub [0, 1, 2] rfl) (hD.sub [0, 1, 2] (by decide) rfl) hS d_B_bit_60
    have hF := kc_neg c3 hF
    by_cases c5 : a1 = 1
    · have hF := kc_pos c5 hF
      have hti : (a1).toInt = 1 := by rw [c5]; decide
      refine lv_tableIn (off := 35) (tgt := 61) hx hb d_B_bit_26 (by rw [hti]; decide) (by rw [hti]; decide) (by rw [hti]; rfl) (by decide) ?_
      refine lv_aload_n hx hb d_B_bit_61 rfl (lv_at hl 0 rfl) ?_
      refine va_get (D := (dC, dI)) (ci := 0) (v := .ref q_te) (C := R_B) (T := T_B) (N := 11) hx hb hts ki_B hown hK hP 0 rfl rfl 2 (by decide) (hts _ kw_1_155) (fun _ h9 => h9) rfl d_B_bit_62 ?_
      refine lv_iload_n hx hb d_B_bit_65 rfl (lv_at hl 1 rfl) ?_
      obtain ⟨u6, hc, hF⟩ := kc_bnd hF
      refine kr_call (va_runV (As := [.int a0]) (rest := []) ⟨hx, hb, hml, hown, hts⟩ (m_T_contextOf l dC dI q_te q_sa q_ro k_ro n_ro cnt pn row a0 _ hc) (cwV 1 hts (kgV kw_3_0 kw_3_1 kw_3_2 kw_1_5 kw_3_3) rfl rfl rfl (by decide +kernel) ⟨Nat.le_of_ble_eq_true rfl, Nat.le_of_ble_eq_true rfl⟩) ⟨kRe_blind, va_recv hK hP (ci := 2) (q0 := 1) rfl rfl, kRe_of (hP.sub [1, 2] rfl) (hK.sub [0] rfl) hN⟩ rfl rfl hl.1 rfl (lv_room (Nat.le_of_ble_eq_true rfl)) d_B_bit_66 ⟨Nat.le_of_ble_eq_true rfl, Nat.le_of_ble_eq_true rfl⟩) ?_
      obtain rfl := Option.some.inj hF
      exact xu_iret hx hb hr hlocks hQ (Nat.le_of_ble_eq_true rfl) (Nat.le_of_ble_eq_true rfl) (hP.sub [0, 1, 2] rfl) (hD.sub [0, 1, 2] (by decide) rfl) hS d_B_bit_69
    have hF := kc_neg c5 hF
    by_cases c7 : a1 = 2
    · have hF := kc_pos c7 hF
      have hti : (a1).toInt = 2 := by rw [c7]; decide
      refine lv_tableIn (off := 44) (tgt := 70) hx hb d_B_bit_26 (by rw [hti]; decide) (by rw [hti]; decide) (by rw [hti]; rfl) (by decide) ?_
      refine lv_aload_n hx hb d_B_bit_70 rfl (lv_at hl 0 rfl) ?_
      refine va_get (D := (dC, dI)) (ci := 0) (v := .ref q_te) (C := R_B) (T := T_B) (N := 11) hx hb hts ki_B hown hK hP 0 rfl rfl 2 (by decide) (hts _ kw_1_155) (fun _ h9 => h9) rfl d_B_bit_71 ?_
      refine lv_iload_n hx hb d_B_bit_74 rfl (lv_at hl 1 rfl) ?_
      obtain ⟨u8, hc, hF⟩ := kc_bnd hF
      refine kr_call (va_runV (As := [.int a0]) (rest := []) ⟨hx, hb, hml, hown, hts⟩ (m_T_passOf l dC dI q_te q_sa q_ro k_ro n_ro cnt pn row a0 _ hc) (cwV 1 hts (kgV kw_3_4 kw_3_5 kw_3_6 kw_1_5 kw_3_7) rfl rfl rfl (by decide +kernel) ⟨Nat.le_of_ble_eq_true rfl, Nat.le_of_ble_eq_true rfl⟩) ⟨kRe_blind, va_recv hK hP (ci := 2) (q0 := 1) rfl rfl, kRe_of (hP.sub [1, 2] rfl) (hK.sub [0] rfl) hN⟩ rfl rfl hl.1 rfl (lv_room (Nat.le_of_ble_eq_true rfl)) d_B_bit_75 ⟨Nat.le_of_ble_eq_true rfl, Nat.le_of_ble_eq_true rfl⟩) ?_
      obtain rfl := Option.some.inj hF
      exact xu_iret hx hb hr hlocks hQ (Nat.le_of_ble_eq_true rfl) (Nat.le_of_ble_eq_true rfl) (hP.sub [0, 1, 2] rfl) (hD.sub [0, 1, 2] (by decide) rfl) hS d_B_bit_78
    have hF := kc_neg c7 hF
    have tc3 : (a1).toInt ≠ 0 := kt_ne c3 (by decide)
    have tc5 : (a1).toInt ≠ 1 := kt_ne c5 (by decide)
    have tc7 : (a1).toInt ≠ 2 := kt_ne c7 (by decide)
    refine lv_tableOut (tgt := 79) hx hb d_B_bit_26 (by omega) (by decide) ?_
    obtain rfl := Option.some.inj hF
    obtain ⟨sa, hstr⟩ := xs_138 hXK.2.1
    exact xthrow (tag := 2) (names := ["java/lang/RuntimeException", "java/lang/Exception"]) (ic := 79) (tx := _) hfl hx hb (hml.trans hl.1.symm) hno hlocks hQ (by decide) (hP.sub [0, 1, 2] rfl) (hD.sub [0, 1, 2] (by decide) rfl) hown (hts _ kw_2_212) (hts _ kw_2_213) (hts _ kw_1_13) hstr (by decide +kernel) (by decide +kernel) (x_atoms xall_2 hts (xn_2 hXK.2.2) hXK) d_B_bit_79 d_B_bit_82 d_B_bit_83 d_B_bit_85 d_B_bit_88 (Nat.le_of_ble_eq_true rfl) (Nat.le_of_ble_eq_true rfl) (Nat.le_of_ble_eq_true rfl) (Nat.le_of_ble_eq_true rfl) (Nat.le_of_ble_eq_true rfl) (Nat.le_of_ble_eq_true rfl)
  have hF := kc_neg c2 hF
  obtain rfl := Option.some.inj hF
  obtain ⟨sa, hstr⟩ := xs_126 hXK.2.1
  exact xthrow (tag := 1) (names := ["java/lang/RuntimeException", "java/lang/Exception"]) (ic := 128) (tx := _) hfl hx hb (hml.trans hl.1.symm) hno hlocks hQ (by decide) (hP.sub [0, 1, 2] rfl) (hD.sub [0, 1, 2] (by decide) rfl) hown (hts _ kw_2_144) (hts _ kw_2_145) (hts _ kw_1_12) hstr (by decide +kernel) (by decide +kernel) (x_atoms xall_1 hts (xn_1 hXK.2.2) hXK) d_B_bit_15 d_B_bit_18 d_B_bit_19 d_B_bit_21 d_B_bit_24 (Nat.le_of_ble_eq_true rfl) (Nat.le_of_ble_eq_true rfl) (Nat.le_of_ble_eq_true rfl) (Nat.le_of_ble_eq_true rfl) (Nat.le_of_ble_eq_true rfl) (Nat.le_of_ble_eq_true rfl)
abbrev rm_B_length : Room := { frames := 7, cells := 1, slots := 6, locals := 103 }
set_option maxHeartbeats 4000000 in
set_option maxRecDepth 100000 in
theorem m_B_length (l : Launch) (dC : Nat → ClassId) (dI : Nat → Nat → Nat) (q_bp q_bk q_len q_dis q_va q_lr q_te q_sa q_twk q_li q_rwk : Nat) (k_len : ClassId) (n_len : Nat) (pt : Int32) (lens : (Nat → Int32)) (a0 : Int32) (hfl : l.flags = pinnedFlags ++ [noTraceFlag]) (u : Nat × Int32) (hF : f_B_length pt lens n_len a0 = some u) : ∀ sz : Nat, xMet l y_B_length (kws y_B_length c_B_length 2 (some .int)) rm_B_length (xPre (dC, dI) [.ref q_bp, .int a0] [(q_bp, .inr (0, [.ref q_bk, .ref q_sa, .ref q_te, .ref q_twk, .ref q_len, .ref q_dis, .int pt, .ref q_li, .ref q_rwk, .ref q_va, .ref q_lr])), (q_len, .inl (k_len, n_len, .inl lens))] [(k_len, .int)] sz) (xR u.1 (dC, dI) (some (.int u.2)) [(q_bp, .inr (0, [.ref q_bk, .ref q_sa, .ref q_te, .ref q_twk, .ref q_len, .ref q_dis, .int pt, .ref q_li, .ref q_rwk, .ref q_va, .ref q_lr])), (q_len, .inl (k_len, n_len, .inl lens))] (va_A [(q_bp, .inr (0, [.ref q_bk, .ref q_sa, .ref q_te, .ref q_twk, .ref q_len, .ref q_dis, .int pt, .ref q_li, .ref q_rwk, .ref q_va, .ref q_lr])), (q_len, .inl (k_len, n_len, .inl lens))] sz)) (xX u.1 (dC, dI) [(q_bp, .inr (0, [.ref q_bk, .ref q_sa, .ref q_te, .ref q_twk, .ref q_len, .ref q_dis, .int pt, .ref q_li, .ref q_rwk, .ref q_va, .ref q_lr])), (q_len, .inl (k_len, n_len, .inl lens))] (va_A [(q_bp, .inr (0, [.ref q_bk, .ref q_sa, .ref q_te, .ref q_twk, .ref q_len, .ref q_dis, .int pt, .ref q_li, .ref q_rwk, .ref q_va, .ref q_lr])), (q_len, .inl (k_len, n_len, .inl lens))] sz)) 1 6 (va_A [(q_bp, .inr (0, [.ref q_bk, .ref q_sa, .ref q_te, .ref q_twk, .ref q_len, .ref q_dis, .int pt, .ref q_li, .ref q_rwk, .ref q_va, .ref q_lr])), (q_len, .inl (k_len, n_len, .inl lens))] sz) 1 6 (va_A [(q_bp, .inr (0, [.ref q_bk, .ref q_sa, .ref q_te, .ref q_twk, .ref q_len, .ref q_dis, .int pt, .ref q_li, .ref q_rwk, .ref q_va, .ref q_lr])), (q_len, .inl (k_len, n_len, .inl lens))] sz) := by
  unfold f_B_length at hF
  refine xU_of (Qc := fun A => xR u.1 (dC, dI) (some (.int u.2)) [(q_bp, .inr (0, [.ref q_bk, .ref q_sa, .ref q_te, .ref q_twk, .ref q_len, .ref q_dis, .int pt, .ref q_li, .ref q_rwk, .ref q_va, .ref q_lr])), (q_len, .inl (k_len, n_len, .inl lens))] A) (rc := 1) (rs := 6) (rf := fun A => A) (cc := c_B_length) (maxL := 2) (ret := (some .int)) (by decide) (Nat.le_of_ble_eq_true rfl) ?_
  intro p e s m args below meth c Q A hQ hfx hno hK hN hXK hA hP hD ls hl
  have hS : va_S A s.heap s.heap [] := va_S.rf
  obtain ⟨hx, hb, hr, hml, hown, hts, hlocks⟩ := hfx
  have hown : s.vm.findClass R_B = some m.cls := hown
  have hl : lv_has ls 2 [(0, .ref q_bp), (1, .int a0)] := hl
  refine lv_aload_n hx hb d_B_length_0 rfl (lv_at hl 0 rfl) ?_
  refine lv_iload_n hx hb d_B_length_1 rfl (lv_at hl 1 rfl) ?_
  obtain ⟨u1, hc, hF⟩ := kc_bnd hF
  refine xc_call (tag := u1) (wr := [(q_len, .inl (k_len, n_len, .inl lens))]) hA (xrunV (As := [.int a0]) (rest := []) ⟨hx, hb, hml, hown, hts⟩ (m_B_mustBeTold l dC dI q_bp q_bk q_len q_dis q_va q_lr q_te q_sa q_twk q_li q_rwk pt a0 hfl _ hc s.heap.size) (cwV 1 hts (kgV kw_3_16 kw_3_18 kp_19 kw_1_1 kw_3_19) rfl rfl rfl (by decide +kernel) ⟨Nat.le_of_ble_eq_true rfl, Nat.le_of_ble_eq_true rfl⟩) ⟨xPre_blind, va_recv hK hP (ci := 0) (q0 := 0) rfl rfl, xPre_of (hP.sub [0] rfl) (hK.sub [] rfl) (hD.sub [0] (by decide) rfl) hN hXK⟩ rfl rfl hl.1 rfl (lv_room (Nat.le_of_ble_eq_true rfl)) d_B_length_2 ⟨Nat.le_of_ble_eq_true rfl, Nat.le_of_ble_eq_true rfl⟩) hP hD hS [0] [1] rfl rfl (by decide) (by decide) (fun htag H locs q ce hP hD hS hce hcv hcl => ?_) (fun htag => ?_)
  · have hP : va_P (dC, dI) vwCl [(q_len, .inl (k_len, n_len, .inl lens)), (q_bp, .inr (0, [.ref q_bk, .ref q_sa, .ref q_te, .ref q_twk, .ref q_len, .ref q_dis, .int pt, .ref q_li, .ref q_rwk, .ref q_va, .ref q_lr]))] H := hP
    have hD : va_D A [(q_len, .inl (k_len, n_len, .inl lens)), (q_bp, .inr (0, [.ref q_bk, .ref q_sa, .ref q_te, .ref q_twk, .ref q_len, .ref q_dis, .int pt, .ref q_li, .ref q_rwk, .ref q_va, .ref q_lr]))] := hD
    have hF := kc_neg htag hF
    obtain rfl := Option.some.inj hF
    exact xout hno hlocks hQ htag (hP.sub [1, 0] rfl) (hD.sub [1, 0] (by decide) rfl) hS hce hcv hcl (Nat.le_of_ble_eq_true rfl) (Nat.le_of_ble_eq_true rfl)
  have hF := kc_pos htag hF
  refine lv_aload_n hx hb d_B_length_5 rfl (lv_at hl 0 rfl) ?_
  refine va_get (D := (dC, dI)) (ci := 0) (v := .ref q_len) (C := R_B) (T := T_B) (N := 11) hx hb hts ki_B hown hK hP 0 rfl rfl 4 (by decide) (hts _ kw_1_157) (fun _ h9 => h9) rfl d_B_length_6 ?_
  refine lv_iload_n hx hb d_B_length_9 rfl (lv_at hl 1 rfl) ?_
  obtain ⟨h2, hF⟩ := kc_no hF
  refine va_iald hx hb hK hP 1 0 rfl rfl h2 d_B_length_10 ?_
  obtain rfl := Option.some.inj hF
  exact xu_iret hx hb hr hlocks hQ (Nat.le_of_ble_eq_true rfl) (Nat.le_of_ble_eq_true rfl) (hP.sub [0, 1] rfl) (hD.sub [0, 1] (by decide) rfl) hS d_B_length_11
abbrev rm_B_distortion : Room := { frames := 7, cells := 1, slots := 6, locals := 103 }
set_option maxHeartbeats 4000000 in
set_option maxRecDepth 100000 in
theorem m_B_distortion (l : Launch) (dC : Nat → ClassId) (dI : Nat → Nat → Nat) (q_bp q_bk q_len q_dis q_va q_lr q_te q_sa q_twk q_li q_rwk : Nat) (k_dis : ClassId) (n_dis : Nat) (pt : Int32) (diss : (Nat → Int64)) (a0 : Int32) (hfl : l.flags = pinnedFlags ++ [noTraceFlag]) (u : Nat × Int64) (hF : f_B_distortion pt diss n_dis a0 = some u) : ∀ sz : Nat, xMet l y_B_distortion (kws y_B_distortion c_B_distortion 2 (some .long)) rm_B_distortion (xPre (dC, dI) [.ref q_bp, .int a0] [(q_bp, .inr (0, [.ref q_bk, .ref q_sa, .ref q_te, .ref q_twk, .ref q_len, .ref q_dis, .int pt, .ref q_li, .ref q_rwk, .ref q_va, .ref q_lr])), (q_dis, .inl (k_dis, n_dis, .inr (.inl diss)))] [(k_dis, .long)] sz) (xR u.1 (dC, dI) (some (.long u.2)) [(q_bp, .inr (0, [.ref q_bk, .ref q_sa, .ref q_te, .ref q_twk, .ref q_len, .ref q_dis, .int pt, .ref q_li, .ref q_rwk, .ref q_va, .ref q_lr])), (q_dis, .inl (k_dis, n_dis, .inr (.inl diss)))] (va_A [(q_bp, .inr (0, [.ref q_bk, .ref q_sa, .ref q_te, .ref q_twk, .ref q_len, .ref q_dis, .int pt, .ref q_li, .ref q_rwk, .ref q_va, .ref q_lr])), (q_dis, .inl (k_dis, n_dis, .inr (.inl diss)))] sz)) (xX u.1 (dC, dI) [(q_bp, .inr (0, [.ref q_bk, .ref q_sa, .ref q_te, .ref q_twk, .ref q_len, .ref q_dis, .int pt, .ref q_li, .ref q_rwk, .ref q_va, .ref q_lr])), (q_dis, .inl (k_dis, n_dis, .inr (.inl diss)))] (va_A [(q_bp, .inr (0, [.ref q_bk, .ref q_sa, .ref q_te, .ref q_twk, .ref q_len, .ref q_dis, .int pt, .ref q_li, .ref q_rwk, .ref q_va, .ref q_lr])), (q_dis, .inl (k_dis, n_dis, .inr (.inl diss)))] sz)) 1 6 (va_A [(q_bp, .inr (0, [.ref q_bk, .ref q_sa, .ref q_te, .ref q_twk, .ref q_len, .ref q_dis, .int pt, .ref q_li, .ref q_rwk, .ref q_va, .ref q_lr])), (q_dis, .inl (k_dis, n_dis, .inr (.inl diss)))] sz) 1 6 (va_A [(q_bp, .inr (0, [.ref q_bk, .ref q_sa, .ref q_te, .ref q_twk, .ref q_len, .ref q_dis, .int pt, .ref q_li, .ref q_rwk, .ref q_va, .ref q_lr])), (q_dis, .inl (k_dis, n_dis, .inr (.inl diss)))] sz) := by
  unfold f_B_distortion at hF
  refine xU_of (Qc := fun A => xR u.1 (dC, dI) (some (.long u.2)) [(q_bp, .inr (0, [.ref q_bk, .ref q_sa, .ref q_te, .ref q_twk, .ref q_len, .ref q_dis, .int pt, .ref q_li, .ref q_rwk, .ref q_va, .ref q_lr])), (q_dis, .inl (k_dis, n_dis, .inr (.inl diss)))] A) (rc := 1) (rs := 6) (rf := fun A => A) (cc := c_B_distortion) (maxL := 2) (ret := (some .long)) (by decide) (Nat.le_of_ble_eq_true rfl) ?_
  intro p e s m args below meth c Q A hQ hfx hno hK hN hXK hA hP hD ls hl
  have hS : va_S A s.heap s.heap [] := va_S.rf
  obtain ⟨hx, hb, hr, hml, hown, hts, hlocks⟩ := hfx
  have hown : s.vm.findClass R_B = some m.cls := hown
  have hl : lv_has ls 2 [(0, .ref q_bp), (1, .int a0)] := hl
  refine lv_aload_n hx hb d_B_distortion_0 rfl (lv_at hl 0 rfl) ?_
  refine lv_iload_n hx hb d_B_distortion_1 rfl (lv_at hl 1 rfl) ?_
  obtain ⟨u1, hc, hF⟩ := kc_bnd hF
  refine xc_call (tag := u1) (wr := [(q_dis, .inl (k_dis, n_dis, .inr (.inl diss)))]) hA (xrunV (As := [.int a0]) (rest := []) ⟨hx, hb, hml, hown, hts⟩ (m_B_mustBeTold l dC dI q_bp q_bk q_len q_dis q_va q_lr q_te q_sa q_twk q_li q_rwk pt a0 hfl _ hc s.heap.size) (cwV 1 hts (kgV kw_3_16 kw_3_18 kp_19 kw_1_1 kw_3_19) rfl rfl rfl (by decide +kernel) ⟨Nat.le_of_ble_eq_true rfl, Nat.le_of_ble_eq_true rfl⟩) ⟨xPre_blind, va_recv hK hP (ci := 0) (q0 := 0) rfl rfl, xPre_of (hP.sub [0] rfl) (hK.sub [] rfl) (hD.sub [0] (by decide) rfl) hN hXK⟩ rfl rfl hl.1 rfl (lv_room (Nat.le_of_ble_eq_true rfl)) d_B_distortion_2 ⟨Nat.le_of_ble_eq_true rfl, Nat.le_of_ble_eq_true rfl⟩) hP hD hS [0] [1] rfl rfl (by decide) (by decide) (fun htag H locs q ce hP hD hS hce hcv hcl => ?_) (fun htag => ?_)
  · have hP : va_P (dC, dI) vwCl [(q_dis, .inl (k_dis, n_dis, .inr (.inl diss))), (q_bp, .inr (0, [.ref q_bk, .ref q_sa, .ref q_te, .ref q_twk, .ref q_len, .ref q_dis, .int pt, .ref q_li, .ref q_rwk, .ref q_va, .ref q_lr]))] H := hP
    have hD : va_D A [(q_dis, .inl (k_dis, n_dis, .inr (.inl diss))), (q_bp, .inr (0, [.ref q_bk, .ref q_sa, .ref q_te, .ref q_twk, .ref q_len, .ref q_dis, .int pt, .ref q_li, .ref q_rwk, .ref q_va, .ref q_lr]))] := hD
    have hF := kc_neg htag hF
    obtain rfl := Option.some.inj hF
    exact xout hno hlocks hQ htag (hP.sub [1, 0] rfl) (hD.sub [1, 0] (by decide) rfl) hS hce hcv hcl (Nat.le_of_ble_eq_true rfl) (Nat.le_of_ble_eq_true rfl)
  have hF := kc_pos htag hF
  refine lv_aload_n hx hb d_B_distortion_5 rfl (lv_at hl 0 rfl) ?_
  refine va_get (D := (dC, dI)) (ci := 0) (v := .ref q_dis) (C := R_B) (T := T_B) (N := 11) hx hb hts ki_B hown hK hP 0 rfl rfl 5 (by decide) (hts _ kw_1_158) (fun _ h9 => h9) rfl d_B_distortion_6 ?_
  refine lv_iload_n hx hb d_B_distortion_9 rfl (lv_at hl 1 rfl) ?_
  obtain ⟨h2, hF⟩ := kc_no hF
  refine va_lald hx hb hK hP 1 0 rfl rfl h2 d_B_distortion_10 ?_
  obtain rfl := Option.some.inj hF
  exact xu_lret hx hb hr hlocks hQ (Nat.le_of_ble_eq_true rfl) (Nat.le_of_ble_eq_true rfl) (hP.sub [0, 1] rfl) (hD.sub [0, 1] (by decide) rfl) hS d_B_distortion_11
abbrev rm_B_kind : Room := { frames := 7, cells := 1, slots := 6, locals := 103 }
set_option maxHeartbeats 4000000 in
set_option maxRecDepth 100000 in
theorem m_B_kind (l : Launch) (dC : Nat → ClassId) (dI : Nat → Nat → Nat) (q_bp q_bk q_len q_dis q_va q_lr q_te q_sa q_twk q_li q_rwk : Nat) (pt : Int32) (a0 : Int32) (hfl : l.flags = pinnedFlags ++ [noTraceFlag]) (u : Nat × Int32) (hF : f_B_kind pt a0 = some u) : ∀ sz : Nat, xMet l y_B_kind (kws y_B_kind c_B_kind 2 (some .int)) rm_B_kind (xPre (dC, dI) [.ref q_bp, .int a0] [(q_bp, .inr (0, [.ref q_bk, .ref q_sa, .ref q_te, .ref q_twk, .ref q_len, .ref q_dis, .int pt, .ref q_li, .ref q_rwk, .ref q_va, .ref q_lr]))] [] sz) (xR u.1 (dC, dI) (some (.int u.2)) [(q_bp, .inr (0, [.ref q_bk, .ref q_sa, .ref q_te, .ref q_twk, .ref q_len, .ref q_dis, .int pt, .ref q_li, .ref q_rwk, .ref q_va, .ref q_lr]))] (va_A [(q_bp, .inr (0, [.ref q_bk, .ref q_sa, .ref q_te, .ref q_twk, .ref q_len, .ref q_dis, .int pt, .ref q_li, .ref q_rwk, .ref q_va, .ref q_lr]))] sz)) (xX u.1 (dC, dI) [(q_bp, .inr (0, [.ref q_bk, .ref q_sa, .ref q_te, .ref q_twk, .ref q_len, .ref q_dis, .int pt, .ref q_li, .ref q_rwk, .ref q_va, .ref q_lr]))] (va_A [(q_bp, .inr (0, [.ref q_bk, .ref q_sa, .ref q_te, .ref q_twk, .ref q_len, .ref q_dis, .int pt, .ref q_li, .ref q_rwk, .ref q_va, .ref q_lr]))] sz)) 1 6 (va_A [(q_bp, .inr (0, [.ref q_bk, .ref q_sa, .ref q_te, .ref q_twk, .ref q_len, .ref q_dis, .int pt, .ref q_li, .ref q_rwk, .ref q_va, .ref q_lr]))] sz) 1 6 (va_A [(q_bp, .inr (0, [.ref q_bk, .ref q_sa, .ref q_te, .ref q_twk, .ref q_len, .ref q_dis, .int pt, .ref q_li, .ref q_rwk, .ref q_va, .ref q_lr]))] sz) := by
  unfold f_B_kind at hF
  refine xU_of (Qc := fun A => xR u.1 (dC, dI) (some (.int u.2)) [(q_bp, .inr (0, [.ref q_bk, .ref q_sa, .ref q_te, .ref q_twk, .ref q_len, .ref q_dis, .int pt, .ref q_li, .ref q_rwk, .ref q_va, .ref q_lr]))] A) (rc := 1) (rs := 6) (rf := fun A => A) (cc := c_B_kind) (maxL := 2) (ret := (some .int)) (by decide) (Nat.le_of_ble_eq_true rfl) ?_
  intro p e s m args below meth c Q A hQ hfx hno hK hN hXK hA hP hD ls hl
  have hS : va_S A s.heap s.heap [] := va_S.rf
  obtain ⟨hx, hb, hr, hml, hown, hts, hlocks⟩ := hfx
  have hown : s.vm.findClass R_B = some m.cls := hown
  have hl : lv_has ls 2 [(0, .ref q_bp), (1, .int a0)] := hl
  refine lv_aload_n hx hb d_B_kind_0 rfl (lv_at hl 0 rfl) ?_
  refine lv_iload_n hx hb d_B_kind_1 rfl (lv_at hl 1 rfl) ?_
  obtain ⟨u1, hc, hF⟩ := kc_bnd hF
  refine xc_call (tag := u1) (wr := []) hA (xrunV (As := [.int a0]) (rest := []) ⟨hx, hb, hml, hown, hts⟩ (m_B_mustBeTold l dC dI q_bp q_bk q_len q_dis q_va q_lr q_te q_sa q_twk q_li q_rwk pt a0 hfl _ hc s.heap.size) (cwV 1 hts (kgV kw_3_16 kw_3_18 kp_19 kw_1_1 kw_3_19) rfl rfl rfl (by decide +kernel) ⟨Nat.le_of_ble_eq_true rfl, Nat.le_of_ble_eq_true rfl⟩) ⟨xPre_blind, va_recv hK hP (ci := 0) (q0 := 0) rfl rfl, xPre_of (hP.sub [0] rfl) (hK.sub [] rfl) (hD.sub [0] (by decide) rfl) hN hXK⟩ rfl rfl hl.1 rfl (lv_room (Nat.le_of_ble_eq_true rfl)) d_B_kind_2 ⟨Nat.le_of_ble_eq_true rfl, Nat.le_of_ble_eq_true rfl⟩) hP hD hS [0] [] rfl rfl (by decide) (by decide) (fun htag H locs q ce hP hD hS hce hcv hcl => ?_) (fun htag => ?_)
  · have hP : va_P (dC, dI) vwCl [(q_bp, .inr (0, [.ref q_bk, .ref q_sa, .ref q_te, .ref q_twk, .ref q_len, .ref q_dis, .int pt, .ref q_li, .ref q_rwk, .ref q_va, .ref q_lr]))] H := hP
    have hD : va_D A [(q_bp, .inr (0, [.ref q_bk, .ref q_sa, .ref q_te, .ref q_twk, .ref q_len, .ref q_dis, .int pt, .ref q_li, .ref q_rwk, .ref q_va, .ref q_lr]))] := hD
    have hF := kc_neg htag hF
    obtain rfl := Option.some.inj hF
    exact xout hno hlocks hQ htag (hP.sub [0] rfl) (hD.sub [0] (by decide) rfl) hS hce hcv hcl (Nat.le_of_ble_eq_true rfl) (Nat.le_of_ble_eq_true rfl)
  have hF := kc_pos htag hF
  refine lv_iload_n hx hb d_B_kind_5 rfl (lv_at hl 1 rfl) ?_
  refine kr_call (va_runS (As := [.int a0]) (rest := []) ⟨hx, hb, hml, hown, hts⟩ (m_ST_kindOf l dC dI a0 (f_ST_kindOf a0) rfl) (va_cwS 1 hts (kgS kw_3_35 kw_1_225 kw_1_1 kw_1_226) rfl rfl rfl (by decide +kernel) ⟨Nat.le_of_ble_eq_true rfl, Nat.le_of_ble_eq_true rfl⟩) ⟨kRe_blind, kRe_of (hP.sub [] rfl) (hK.sub [] rfl) hN⟩ rfl rfl hl.1 rfl (lv_room (Nat.le_of_ble_eq_true rfl)) d_B_kind_6 ⟨Nat.le_of_ble_eq_true rfl, Nat.le_of_ble_eq_true rfl⟩) ?_
  obtain rfl := Option.some.inj hF
  exact xu_iret hx hb hr hlocks hQ (Nat.le_of_ble_eq_true rfl) (Nat.le_of_ble_eq_true rfl) (hP.sub [0] rfl) (hD.sub [0] (by decide) rfl) hS d_B_kind_9
abbrev rm_B_terminated : Room := { frames := 7, cells := 1, slots := 6, locals := 103 }
set_option maxHeartbeats 4000000 in
set_option maxRecDepth 100000 in
theorem m_B_terminated (l : Launch) (dC : Nat → ClassId) (dI : Nat → Nat → Nat) (q_bp q_bk q_len q_dis q_va q_lr q_te q_sa q_twk q_li q_rwk : Nat) (pt : Int32) (w : Int32) (h : Int32) (sty : Int32) (bd : Int32) (str : Int32) (cel : Int32) (a0 : Int32) (hfl : l.flags = pinnedFlags ++ [noTraceFlag]) (u : Nat × Int32) (hF : f_B_terminated pt sty a0 = some u) : ∀ sz : Nat, xMet l y_B_terminated (kws y_B_terminated c_B_terminated 2 (some .boolean)) rm_B_terminated (xPre (dC, dI) [.ref q_bp, .int a0] [(q_bp, .inr (0, [.ref q_bk, .ref q_sa, .ref q_te, .ref q_twk, .ref q_len, .ref q_dis, .int pt, .ref q_li, .ref q_rwk, .ref q_va, .ref q_lr])), (q_bk, .inr (1, [.int w, .int h, .int sty, .int bd, .int str, .int cel]))] [] sz) (xR u.1 (dC, dI) (some (.int u.2)) [(q_bp, .inr (0, [.ref q_bk, .ref q_sa, .ref q_te, .ref q_twk, .ref q_len, .ref q_dis, .int pt, .ref q_li, .ref q_rwk, .ref q_va, .ref q_lr])), (q_bk, .inr (1, [.int w, .int h, .int sty, .int bd, .int str, .int cel]))] (va_A [(q_bp, .inr (0, [.ref q_bk, .ref q_sa, .ref q_te, .ref q_twk, .ref q_len, .ref q_dis, .int pt, .ref q_li, .ref q_rwk, .ref q_va, .ref q_lr])), (q_bk, .inr (1, [.int w, .int h, .int sty, .int bd, .int str, .int cel]))] sz)) (xX u.1 (dC, dI) [(q_bp, .inr (0, [.ref q_bk, .ref q_sa, .ref q_te, .ref q_twk, .ref q_len, .ref q_dis, .int pt, .ref q_li, .ref q_rwk, .ref q_va, .ref q_lr])), (q_bk, .inr (1, [.int w, .int h, .int sty, .int bd, .int str, .int cel]))] (va_A [(q_bp, .inr (0, [.ref q_bk, .ref q_sa, .ref q_te, .ref q_twk, .ref q_len, .ref q_dis, .int pt, .ref q_li, .ref q_rwk, .ref q_va, .ref q_lr])), (q_bk, .inr (1, [.int w, .int h, .int sty, .int bd, .int str, .int cel]))] sz)) 1 6 (va_A [(q_bp, .inr (0, [.ref q_bk, .ref q_sa, .ref q_te, .ref q_twk, .ref q_len, .ref q_dis, .int pt, .ref q_li, .ref q_rwk, .ref q_va, .ref q_lr])), (q_bk, .inr (1, [.int w, .int h, .int sty, .int bd, .int str, .int cel]))] sz) 1 6 (va_A [(q_bp, .inr (0, [.ref q_bk, .ref q_sa, .ref q_te, .ref q_twk, .ref q_len, .ref q_dis, .int pt, .ref q_li, .ref q_rwk, .ref q_va, .ref q_lr])), (q_bk, .inr (1, [.int w, .int h, .int sty, .int bd, .int str, .int cel]))] sz) := by
  unfold f_B_terminated at hF
  refine xU_of (Qc := fun A => xR u.1 (dC, dI) (some (.int u.2)) [(q_bp, .inr (0, [.ref q_bk, .ref q_sa, .ref q_te, .ref q_twk, .ref q_len, .ref q_dis, .int pt, .ref q_li, .ref q_rwk, .ref q_va, .ref q_lr])), (q_bk, .inr (1, [.int w, .int h, .int sty, .int bd, .int str, .int cel]))] A) (rc := 1) (rs := 6) (rf := fun A => A) (cc := c_B_terminated) (maxL := 2) (ret := (some .boolean)) (by decide) (Nat.le_of_ble_eq_true rfl) ?_
  intro p e s m args below meth c Q A hQ hfx hno hK hN hXK hA hP hD ls hl
  have hS : va_S A s.heap s.heap [] := va_S.rf
  obtain ⟨hx, hb, hr, hml, hown, hts, hlocks⟩ := hfx
  have hown : s.vm.findClass R_B = some m.cls := hown
  have hl : lv_has ls 2 [(0, .ref q_bp), (1, .int a0)] := hl
  refine lv_aload_n hx hb d_B_terminated_0 rfl (lv_at hl 0 rfl) ?_
  refine lv_iload_n hx hb d_B_terminated_1 rfl (lv_at hl 1 rfl) ?_
  obtain ⟨u1, hc, hF⟩ := kc_bnd hF
  refine xc_call (tag := u1) (wr := [(q_bk, .inr (1, [.int w, .int h, .int sty, .int bd, .int str, .int cel]))]) hA (xrunV (As := [.int a0]) (rest := []) ⟨hx, hb, hml, hown, hts⟩ (m_B_mustBeTold l dC dI q_bp q_bk q_len q_dis q_va q_lr q_te q_sa q_twk q_li q_rwk pt a0 hfl _ hc s.heap.size) (cwV 1 hts (kgV kw_3_16 kw_3_18 kp_19 kw_1_1 kw_3_19) rfl rfl rfl (by decide +kernel) ⟨Nat.le_of_ble_eq_true rfl, Nat.le_of_ble_eq_true rfl⟩) ⟨xPre_blind, va_recv hK hP (ci := 0) (q0 := 0) rfl rfl, xPre_of (hP.sub [0] rfl) (hK.sub [] rfl) (hD.sub [0] (by decide) rfl) hN hXK⟩ rfl rfl hl.1 rfl (lv_room (Nat.le_of_ble_eq_true rfl)) d_B_terminated_2 ⟨Nat.le_of_ble_eq_true rfl, Nat.le_of_ble_eq_true rfl⟩) hP hD hS [0] [1] rfl rfl (by decide) (by decide) (fun htag H locs q ce hP hD hS hce hcv hcl => ?_) (fun htag => ?_)
  · have hP : va_P (dC, dI) vwCl [(q_bk, .inr (1, [.int w, .int h, .int sty, .int bd, .int str, .int cel])), (q_bp, .inr (0, [.ref q_bk, .ref q_sa, .ref q_te, .ref q_twk, .ref q_len, .ref q_dis, .int pt, .ref q_li, .ref q_rwk, .ref q_va, .ref q_lr]))] H := hP
    have hD : va_D A [(q_bk, .inr (1, [.int w, .int h, .int sty, .int bd, .int str, .int cel])), (q_bp, .inr (0, [.ref q_bk, .ref q_sa, .ref q_te, .ref q_twk, .ref q_len, .ref q_dis, .int pt, .ref q_li, .ref q_rwk, .ref q_va, .ref q_lr]))] := hD
    have hF := kc_neg htag hF
    obtain rfl := Option.some.inj hF
    exact xout hno hlocks hQ htag (hP.sub [1, 0] rfl) (hD.sub [1, 0] (by decide) rfl) hS hce hcv hcl (Nat.le_of_ble_eq_true rfl) (Nat.le_of_ble_eq_true rfl)
  have hF := kc_pos htag hF
  refine lv_iload_n hx hb d_B_terminated_5 rfl (lv_at hl 1 rfl) ?_
  refine lv_aload_n hx hb d_B_terminated_6 rfl (lv_at hl 0 rfl) ?_
  refine va_get (D := (dC, dI)) (ci := 0) (v := .int pt) (C := R_B) (T := T_B) (N := 11) hx hb hts ki_B hown hK hP 0 rfl rfl 6 (by decide) (hts _ kw_1_159) (fun _ h9 => h9) rfl d_B_terminated_7 ?_
  refine lv_iconst (v := 1) hx hb d_B_terminated_10 (by decide) ?_
  refine lv_isub hx hb d_B_terminated_11 ?_
  refine lv_icmp_eq (tgt := 26) hx hb d_B_terminated_12 (by decide) (fun c2 => ?_) (fun c2 => ?_)
  · have hF := kc_pos c2 hF
    refine lv_iconst (v := 1) hx hb d_B_terminated_26 (by decide) ?_
    obtain rfl := Option.some.inj hF
    exact xu_zret hx hb hr hlocks hQ (Nat.le_of_ble_eq_true rfl) (Nat.le_of_ble_eq_true rfl) (by decide) (hP.sub [0, 1] rfl) (hD.sub [0, 1] (by decide) rfl) hS d_B_terminated_27
  have hF := kc_neg c2 hF
  refine lv_aload_n hx hb d_B_terminated_15 rfl (lv_at hl 0 rfl) ?_
  refine va_get (D := (dC, dI)) (ci := 0) (v := .ref q_bk) (C := R_B) (T := T_B) (N := 11) hx hb hts ki_B hown hK hP 0 rfl rfl 0 (by decide) (hts _ kw_1_153) (fun _ h9 => h9) rfl d_B_terminated_16 ?_
  refine lv_iconst (v := 4) hx hb d_B_terminated_19 (by decide) ?_
  refine kr_call (va_runV (As := [.int (4 : Int32)]) (rest := []) ⟨hx, hb, hml, hown, hts⟩ (m_K_hasStyle l dC dI q_bk w h sty bd str cel (4 : Int32) (f_K_hasStyle sty (4 : Int32)) rfl) (cwV 1 hts (kgV kw_3_43 kw_1_228 kw_1_229 kw_1_2 kw_1_230) rfl rfl rfl (by decide +kernel) ⟨Nat.le_of_ble_eq_true rfl, Nat.le_of_ble_eq_true rfl⟩) ⟨kRe_blind, va_recv hK hP (ci := 1) (q0 := 1) rfl rfl, kRe_of (hP.sub [1] rfl) (hK.sub [] rfl) hN⟩ rfl rfl hl.1 rfl (lv_room (Nat.le_of_ble_eq_true rfl)) d_B_terminated_20 ⟨Nat.le_of_ble_eq_true rfl, Nat.le_of_ble_eq_true rfl⟩) ?_
  refine lv_if_eq (tgt := 28) hx hb d_B_terminated_23 (by decide) (fun c3 => ?_) (fun c3 => ?_)
  · have hF := kc_pos c3 hF
    refine lv_aload_n hx hb d_B_terminated_28 rfl (lv_at hl 0 rfl) ?_
    refine va_get (D := (dC, dI)) (ci := 0) (v := .ref q_bk) (C := R_B) (T := T_B) (N := 11) hx hb hts ki_B hown hK hP 0 rfl rfl 0 (by decide) (hts _ kw_1_153) (fun _ h9 => h9) rfl d_B_terminated_29 ?_
    refine lv_iconst (v := 1) hx hb d_B_terminated_32 (by decide) ?_
    refine kr_call (va_runV (As := [.int (1 : Int32)]) (rest := []) ⟨hx, hb, hml, hown, hts⟩ (m_K_hasStyle l dC dI q_bk w h sty bd str cel (1 : Int32) (f_K_hasStyle sty (1 : Int32)) rfl) (cwV 1 hts (kgV kw_3_43 kw_1_228 kw_1_229 kw_1_2 kw_1_230) rfl rfl rfl (by decide +kernel) ⟨Nat.le_of_ble_eq_true rfl, Nat.le_of_ble_eq_true rfl⟩) ⟨kRe_blind, va_recv hK hP (ci := 1) (q0 := 1) rfl rfl, kRe_of (hP.sub [1] rfl) (hK.sub [] rfl) hN⟩ rfl rfl hl.1 rfl (lv_room (Nat.le_of_ble_eq_true rfl)) d_B_terminated_33 ⟨Nat.le_of_ble_eq_true rfl, Nat.le_of_ble_eq_true rfl⟩) ?_
    refine lv_if_eq (tgt := 56) hx hb d_B_terminated_36 (by decide) (fun c4 => ?_) (fun c4 => ?_)
    · have hF := kc_pos c4 hF
      refine lv_iconst (v := 0) hx hb d_B_terminated_56 (by decide) ?_
      obtain rfl := Option.some.inj hF
      exact xu_zret hx hb hr hlocks hQ (Nat.le_of_ble_eq_true rfl) (Nat.le_of_ble_eq_true rfl) (by decide) (hP.sub [0, 1] rfl) (hD.sub [0, 1] (by decide) rfl) hS d_B_terminated_57
    have hF := kc_neg c4 hF
    refine lv_iload_n hx hb d_B_terminated_39 rfl (lv_at hl 1 rfl) ?_
    refine lv_bipush (v := 9) hx hb d_B_terminated_40 (by decide) ?_
    refine lv_icmp_lt (tgt := 56) hx hb d_B_terminated_42 (by decide) (fun c5 => ?_) (fun c5 => ?_)
    · have hF := kc_pos c5 hF
      refine lv_iconst (v := 0) hx hb d_B_terminated_56 (by decide) ?_
      obtain rfl := Option.some.inj hF
      exact xu_zret hx hb hr hlocks hQ (Nat.le_of_ble_eq_true rfl) (Nat.le_of_ble_eq_true rfl) (by decide) (hP.sub [0, 1] rfl) (hD.sub [0, 1] (by decide) rfl) hS d_B_terminated_57
    have hF := kc_neg c5 hF
    refine lv_iload_n hx hb d_B_terminated_45 rfl (lv_at hl 1 rfl) ?_
    refine kr_call (va_runS (As := [.int a0]) (rest := []) ⟨hx, hb, hml, hown, hts⟩ (m_ST_kindOf l dC dI a0 (f_ST_kindOf a0) rfl) (va_cwS 1 hts (kgS kw_3_35 kw_1_225 kw_1_1 kw_1_226) rfl rfl rfl (by decide +kernel) ⟨Nat.le_of_ble_eq_true rfl, Nat.le_of_ble_eq_true rfl⟩) ⟨kRe_blind, kRe_of (hP.sub [] rfl) (hK.sub [] rfl) hN⟩ rfl rfl hl.1 rfl (lv_room (Nat.le_of_ble_eq_true rfl)) d_B_terminated_46 ⟨Nat.le_of_ble_eq_true rfl, Nat.le_of_ble_eq_true rfl⟩) ?_
    refine lv_if_eq (tgt := 56) hx hb d_B_terminated_49 (by decide) (fun c6 => ?_) (fun c6 => ?_)
    · have hF := kc_pos c6 hF
      refine lv_iconst (v := 0) hx hb d_B_terminated_56 (by decide) ?_
      obtain rfl := Option.some.inj hF
      exact xu_zret hx hb hr hlocks hQ (Nat.le_of_ble_eq_true rfl) (Nat.le_of_ble_eq_true rfl) (by decide) (hP.sub [0, 1] rfl) (hD.sub [0, 1] (by decide) rfl) hS d_B_terminated_57
    have hF := kc_neg c6 hF
    refine lv_iconst (v := 1) hx hb d_B_terminated_52 (by decide) ?_
    refine lv_goto (tgt := 57) hx hb d_B_terminated_53 (by decide) ?_
    obtain rfl := Option.some.inj hF
    exact xu_zret hx hb hr hlocks hQ (Nat.le_of_ble_eq_true rfl) (Nat.le_of_ble_eq_true rfl) (by decide) (hP.sub [0, 1] rfl) (hD.sub [0, 1] (by decide) rfl) hS d_B_terminated_57
  have hF := kc_neg c3 hF
  refine lv_iconst (v := 1) hx hb d_B_terminated_26 (by decide) ?_
  obtain rfl := Option.some.inj hF
  exact xu_zret hx hb hr hlocks hQ (Nat.le_of_ble_eq_true rfl) (Nat.le_of_ble_eq_true rfl) (by decide) (hP.sub [0, 1] rfl) (hD.sub [0, 1] (by decide) rfl) hS d_B_terminated_27
abbrev rm_B_feed : Room := { frames := 7, cells := 1, slots := 6, locals := 103 }
set_option maxHeartbeats 4000000 in
set_option maxRecDepth 100000 in
theorem m_B_feed (l : Launch) (dC : Nat → ClassId) (dI : Nat → Nat → Nat) (q_bp q_bk q_len q_dis q_va q_lr q_te q_sa q_twk q_li q_wo q_rwk : Nat) (k_wo : ClassId) (n_wo : Nat) (pt : Int32) (lcn : Int32) (lak : Int32) (nxt : Int32) (wor : (Nat → Int32)) (a0 : Int32) (hfl : l.flags = pinnedFlags ++ [noTraceFlag]) (u : Nat × Int32 × Int32 × (Nat → Int32)) (hF : f_B_feed lcn wor n_wo a0 = some u) : ∀ sz : Nat, xMet l y_B_feed (kws y_B_feed c_B_feed 2 (some .int)) rm_B_feed (xPre (dC, dI) [.ref q_bp, .int a0] [(q_bp, .inr (0, [.ref q_bk, .ref q_sa, .ref q_te, .ref q_twk, .ref q_len, .ref q_dis, .int pt, .ref q_li, .ref q_rwk, .ref q_va, .ref q_lr])), (q_li, .inr (3, [.ref q_wo, .int lcn, .int lak, .int nxt])), (q_wo, .inl (k_wo, n_wo, .inl wor))] [(k_wo, .int)] sz) (xR u.1 (dC, dI) (some (.int u.2.1)) [(q_bp, .inr (0, [.ref q_bk, .ref q_sa, .ref q_te, .ref q_twk, .ref q_len, .ref q_dis, .int pt, .ref q_li, .ref q_rwk, .ref q_va, .ref q_lr])), (q_li, .inr (3, [.ref q_wo, .int u.2.2.1, .int lak, .int nxt])), (q_wo, .inl (k_wo, n_wo, .inl u.2.2.2))] (va_A [(q_bp, .inr (0, [.ref q_bk, .ref q_sa, .ref q_te, .ref q_twk, .ref q_len, .ref q_dis, .int pt, .ref q_li, .ref q_rwk, .ref q_va, .ref q_lr])), (q_li, .inr (3, [.ref q_wo, .int lcn, .int lak, .int nxt])), (q_wo, .inl (k_wo, n_wo, .inl wor))] sz)) (xX u.1 (dC, dI) [(q_bp, .inr (0, [.ref q_bk, .ref q_sa, .ref q_te, .ref q_twk, .ref q_len, .ref q_dis, .int pt, .ref q_li, .ref q_rwk, .ref q_va, .ref q_lr])), (q_li, .inr (3, [.ref q_wo, .int u.2.2.1, .int lak, .int nxt])), (q_wo, .inl (k_wo, n_wo, .inl u.2.2.2))] (va_A [(q_bp, .inr (0, [.ref q_bk, .ref q_sa, .ref q_te, .ref q_twk, .ref q_len, .ref q_dis, .int pt, .ref q_li, .ref q_rwk, .ref q_va, .ref q_lr])), (q_li, .inr (3, [.ref q_wo, .int lcn, .int lak, .int nxt])), (q_wo, .inl (k_wo, n_wo, .inl wor))] sz)) 1 6 (va_A [(q_bp, .inr (0, [.ref q_bk, .ref q_sa, .ref q_te, .ref q_twk, .ref q_len, .ref q_dis, .int pt, .ref q_li, .ref q_rwk, .ref q_va, .ref q_lr])), (q_li, .inr (3, [.ref q_wo, .int lcn, .int lak, .int nxt])), (q_wo, .inl (k_wo, n_wo, .inl wor))] sz) 1 6 (va_A [(q_bp, .inr (0, [.ref q_bk, .ref q_sa, .ref q_te, .ref q_twk, .ref q_len, .ref q_dis, .int pt, .ref q_li, .ref q_rwk, .ref q_va, .ref q_lr])), (q_li, .inr (3, [.ref q_wo, .int lcn, .int lak, .int nxt])), (q_wo, .inl (k_wo, n_wo, .inl wor))] sz) := by
  unfold f_B_feed at hF
  refine xU_of (Qc := fun A => xR u.1 (dC, dI) (some (.int u.2.1)) [(q_bp, .inr (0, [.ref q_bk, .ref q_sa, .ref q_te, .ref q_twk, .ref q_len, .ref q_dis, .int pt, .ref q_li, .ref q_rwk, .ref q_va, .ref q_lr])), (q_li, .inr (3, [.ref q_wo, .int u.2.2.1, .int lak, .int nxt])), (q_wo, .inl (k_wo, n_wo, .inl u.2.2.2))] A) (rc := 1) (rs := 6) (rf := fun A => A) (cc := c_B_feed) (maxL := 2) (ret := (some .int)) (by decide) (Nat.le_of_ble_eq_true rfl) ?_
  intro p e s m args below meth c Q A hQ hfx hno hK hN hXK hA hP hD ls hl
  have hS : va_S A s.heap s.heap [] := va_S.rf
  obtain ⟨hx, hb, hr, hml, hown, hts, hlocks⟩ := hfx
  have hown : s.vm.findClass R_B = some m.cls := hown
  have hl : lv_has ls 2 [(0, .ref q_bp), (1, .int a0)] := hl
  refine lv_iload_n hx hb d_B_feed_0 rfl (lv_at hl 1 rfl) ?_
  refine lv_if_lt (tgt := 9) hx hb d_B_feed_1 (by decide) (fun c1 => ?_) (fun c1 => ?_)
  · have hF := kc_pos c1 hF
    obtain rfl := Option.some.inj hF
    obtain ⟨sa, hstr⟩ := xs_149 hXK.2.1
    exact xthrow (tag := 2) (names := ["java/lang/RuntimeException", "java/lang/Exception"]) (ic := 79) (tx := _) hfl hx hb (hml.trans hl.1.symm) hno hlocks hQ (by decide) (hP.sub [0, 1, 2] rfl) (hD.sub [0, 1, 2] (by decide) rfl) hown (hts _ kw_2_212) (hts _ kw_2_213) (hts _ kw_1_13) hstr (by decide +kernel) (by decide +kernel) (x_atoms xall_2 hts (xn_2 hXK.2.2) hXK) d_B_feed_9 d_B_feed_12 d_B_feed_13 d_B_feed_15 d_B_feed_18 (Nat.le_of_ble_eq_true rfl) (Nat.le_of_ble_eq_true rfl) (Nat.le_of_ble_eq_true rfl) (Nat.le_of_ble_eq_true rfl) (Nat.le_of_ble_eq_true rfl) (Nat.le_of_ble_eq_true rfl)
  have hF := kc_neg c1 hF
  refine lv_iload_n hx hb d_B_feed_4 rfl (lv_at hl 1 rfl) ?_
  refine lv_iconst (v := 1) hx hb d_B_feed_5 (by decide) ?_
  refine lv_icmp_le (tgt := 19) hx hb d_B_feed_6 (by decide) (fun c2 => ?_) (fun c2 => ?_)
  · have hF := kc_pos c2 hF
    refine lv_aload_n hx hb d_B_feed_19 rfl (lv_at hl 0 rfl) ?_
    refine lv_iconst (v := 1) hx hb d_B_feed_20 (by decide) ?_
    obtain ⟨u3, hc, hF⟩ := kc_bnd hF
    refine xc_call (tag := u3) (wr := [(q_wo, .inl (k_wo, n_wo, .inl wor))]) hA (xrunV (As := [.int (1 : Int32)]) (rest := []) ⟨hx, hb, hml, hown, hts⟩ (m_B_mustHaveRoomFor l dC dI q_bp q_bk q_len q_dis q_va q_lr q_te q_sa q_twk q_li q_wo q_rwk pt lcn lak nxt (1 : Int32) hfl _ hc s.heap.size) (cwV 1 hts (kgV kw_3_53 kw_3_55 kp_20 kw_1_1 kw_3_56) rfl rfl rfl (by decide +kernel) ⟨Nat.le_of_ble_eq_true rfl, Nat.le_of_ble_eq_true rfl⟩) ⟨xPre_blind, va_recv hK hP (ci := 0) (q0 := 0) rfl rfl, xPre_of (hP.sub [0, 1] rfl) (hK.sub [] rfl) (hD.sub [0, 1] (by decide) rfl) hN hXK⟩ rfl rfl hl.1 rfl (lv_room (Nat.le_of_ble_eq_true rfl)) d_B_feed_21 ⟨Nat.le_of_ble_eq_true rfl, Nat.le_of_ble_eq_true rfl⟩) hP hD hS [0, 1] [2] rfl rfl (by decide) (by decide) (fun htag H locs q ce hP hD hS hce hcv hcl => ?_) (fun htag => ?_)
    · have hP : va_P (dC, dI) vwCl [(q_wo, .inl (k_wo, n_wo, .inl wor)), (q_bp, .inr (0, [.ref q_bk, .ref q_sa, .ref q_te, .ref q_twk, .ref q_len, .ref q_dis, .int pt, .ref q_li, .ref q_rwk, .ref q_va, .ref q_lr])), (q_li, .inr (3, [.ref q_wo, .int lcn, .int lak, .int nxt]))] H := hP
      have hD : va_D A [(q_wo, .inl (k_wo, n_wo, .inl wor)), (q_bp, .inr (0, [.ref q_bk, .ref q_sa, .ref q_te, .ref q_twk, .ref q_len, .ref q_dis, .int pt, .ref q_li, .ref q_rwk, .ref q_va, .ref q_lr])), (q_li, .inr (3, [.ref q_wo, .int lcn, .int lak, .int nxt]))] := hD
      have hF := kc_neg htag hF
      obtain rfl := Option.some.inj hF
      exact xout hno hlocks hQ htag (hP.sub [1, 2, 0] rfl) (hD.sub [1, 2, 0] (by decide) rfl) hS hce hcv hcl (Nat.le_of_ble_eq_true rfl) (Nat.le_of_ble_eq_true rfl)
    have hF := kc_pos htag hF
    refine lv_aload_n hx hb d_B_feed_24 rfl (lv_at hl 0 rfl) ?_
    refine va_get (D := (dC, dI)) (ci := 0) (v := .ref q_li) (C := R_B) (T := T_B) (N := 11) hx hb hts ki_B hown hK hP 0 rfl rfl 7 (by decide) (hts _ kw_1_160) (fun _ h9 => h9) rfl d_B_feed_25 ?_
    refine lv_iload_n hx hb d_B_feed_28 rfl (lv_at hl 1 rfl) ?_
    obtain ⟨u4, hc, hF⟩ := kc_bnd hF
    refine ku_call (wr := [(q_bp, .inr (0, [.ref q_bk, .ref q_sa, .ref q_te, .ref q_twk, .ref q_len, .ref q_dis, .int pt, .ref q_li, .ref q_rwk, .ref q_va, .ref q_lr]))]) hA (va_runV (As := [.int a0]) (rest := []) ⟨hx, hb, hml, hown, hts⟩ (m_L_append l dC dI q_li q_wo k_wo n_wo lcn lak nxt wor a0 _ hc s.heap.size) (cwV 1 hts (kgV kw_3_73 kw_3_74 kw_3_75 kw_1_7 kw_3_76) rfl rfl rfl (by decide +kernel) ⟨Nat.le_of_ble_eq_true rfl, Nat.le_of_ble_eq_true rfl⟩) ⟨kPre_blind, va_recv hK hP (ci := 3) (q0 := 1) rfl rfl, kPre_of (hP.sub [1, 2] rfl) (hK.sub [0] rfl) (hD.sub [1, 2] (by decide) rfl) hN⟩ rfl rfl hl.1 rfl (lv_room (Nat.le_of_ble_eq_true rfl)) d_B_feed_29 ⟨Nat.le_of_ble_eq_true rfl, Nat.le_of_ble_eq_true rfl⟩) hP hD hS [1, 2] [0] rfl rfl (by decide) (by decide) (fun H locs hP hD hS => ?_)
    have hP : va_P (dC, dI) vwCl [(q_bp, .inr (0, [.ref q_bk, .ref q_sa, .ref q_te, .ref q_twk, .ref q_len, .ref q_dis, .int pt, .ref q_li, .ref q_rwk, .ref q_va, .ref q_lr])), (q_li, .inr (3, [.ref q_wo, .int u4.1, .int lak, .int nxt])), (q_wo, .inl (k_wo, n_wo, .inl u4.2))] H := hP
    have hD : va_D A [(q_bp, .inr (0, [.ref q_bk, .ref q_sa, .ref q_te, .ref q_twk, .ref q_len, .ref q_dis, .int pt, .ref q_li, .ref q_rwk, .ref q_va, .ref q_lr])), (q_li, .inr (3, [.ref q_wo, .int u4.1, .int lak, .int nxt])), (q_wo, .inl (k_wo, n_wo, .inl u4.2))] := hD
    refine lv_aload_n hx hb d_B_feed_32 rfl (lv_at hl 0 rfl) ?_
    refine va_get (D := (dC, dI)) (ci := 0) (v := .ref q_li) (C := R_B) (T := T_B) (N := 11) hx hb hts ki_B hown hK hP 0 rfl rfl 7 (by decide) (hts _ kw_1_160) (fun _ h9 => h9) rfl d_B_feed_33 ?_
    refine va_get (D := (dC, dI)) (ci := 3) (v := .int u4.1) (C := R_L) (T := T_L) (N := 4) hx hb hts ki_L hown hK hP 1 rfl rfl 1 (by decide) (hts _ kw_1_139) (fun _ h9 => h9) rfl d_B_feed_36 ?_
    obtain rfl := Option.some.inj hF
    exact xu_iret hx hb hr hlocks hQ (Nat.le_of_ble_eq_true rfl) (Nat.le_of_ble_eq_true rfl) (hP.sub [0, 1, 2] rfl) (hD.sub [0, 1, 2] (by decide) rfl) hS d_B_feed_39
  have hF := kc_neg c2 hF
  obtain rfl := Option.some.inj hF
  obtain ⟨sa, hstr⟩ := xs_149 hXK.2.1
  exact xthrow (tag := 2) (names := ["java/lang/RuntimeException", "java/lang/Exception"]) (ic := 79) (tx := _) hfl hx hb (hml.trans hl.1.symm) hno hlocks hQ (by decide) (hP.sub [0, 1, 2] rfl) (hD.sub [0, 1, 2] (by decide) rfl) hown (hts _ kw_2_212) (hts _ kw_2_213) (hts _ kw_1_13) hstr (by decide +kernel) (by decide +kernel) (x_atoms xall_2 hts (xn_2 hXK.2.2) hXK) d_B_feed_9 d_B_feed_12 d_B_feed_13 d_B_feed_15 d_B_feed_18 (Nat.le_of_ble_eq_true rfl) (Nat.le_of_ble_eq_true rfl) (Nat.le_of_ble_eq_true rfl) (Nat.le_of_ble_eq_true rfl) (Nat.le_of_ble_eq_true rfl) (Nat.le_of_ble_eq_true rfl)
abbrev rm_B_pass : Room := { frames := 7, cells := 1, slots := 6, locals := 103 }
set_option maxHeartbeats 4000000 in
set_option maxRecDepth 100000 in
theorem m_B_pass (l : Launch) (dC : Nat → ClassId) (dI : Nat → Nat → Nat) (q_bp q_bk q_len q_dis q_va q_lr q_te q_sa q_ro q_twk q_li q_wo q_rwk : Nat) (k_ro : ClassId) (n_ro : Nat) (k_wo : ClassId) (n_wo : Nat) (pt : Int32) (cnt : Int32) (pn : Int32) (row : (Nat → Int32)) (lcn : Int32) (lak : Int32) (nxt : Int32) (wor : (Nat → Int32)) (a0 : Int32) (hfl : l.flags = pinnedFlags ++ [noTraceFlag]) (u : Nat × Int32 × Int32 × (Nat → Int32)) (hF : f_B_pass cnt row lcn wor n_ro n_wo a0 = some u) : ∀ sz : Nat, xMet l y_B_pass (kws y_B_pass c_B_pass 4 (some .int)) rm_B_pass (xPre (dC, dI) [.ref q_bp, .int a0] [(q_bp, .inr (0, [.ref q_bk, .ref q_sa, .ref q_te, .ref q_twk, .ref q_len, .ref q_dis, .int pt, .ref q_li, .ref q_rwk, .ref q_va, .ref q_lr])), (q_te, .inr (2, [.ref q_sa, .ref q_ro, .int cnt, .int pn])), (q_ro, .inl (k_ro, n_ro, .inl row)), (q_li, .inr (3, [.ref q_wo, .int lcn, .int lak, .int nxt])), (q_wo, .inl (k_wo, n_wo, .inl wor))] [(k_ro, .int), (k_wo, .int)] sz) (xR u.1 (dC, dI) (some (.int u.2.1)) [(q_bp, .inr (0, [.ref q_bk, .ref q_sa, .ref q_te, .ref q_twk, .ref q_len, .ref q_dis, .int pt, .ref q_li, .ref q_rwk, .ref q_va, .ref q_lr])), (q_te, .inr (2, [.ref q_sa, .ref q_ro, .int cnt, .int pn])), (q_ro, .inl (k_ro, n_ro, .inl row)), (q_li, .inr (3, [.ref q_wo, .int u.2.2.1, .int lak, .int nxt])), (q_wo, .inl (k_wo, n_wo, .inl u.2.2.2))] (va_A [(q_bp, .inr (0, [.ref q_bk, .ref q_sa, .ref q_te, .ref q_twk, .ref q_len, .ref q_dis, .int pt, .ref q_li, .ref q_rwk, .ref q_va, .ref q_lr])), (q_te, .inr (2, [.ref q_sa, .ref q_ro, .int cnt, .int pn])), (q_ro, .inl (k_ro, n_ro, .inl row)), (q_li, .inr (3, [.ref q_wo, .int lcn, .int lak, .int nxt])), (q_wo, .inl (k_wo, n_wo, .inl wor))] sz)) (xX u.1 (dC, dI) [(q_bp, .inr (0, [.ref q_bk, .ref q_sa, .ref q_te, .ref q_twk, .ref q_len, .ref q_dis, .int pt, .ref q_li, .ref q_rwk, .ref q_va, .ref q_lr])), (q_te, .inr (2, [.ref q_sa, .ref q_ro, .int cnt, .int pn])), (q_ro, .inl (k_ro, n_ro, .inl row)), (q_li, .inr (3, [.ref q_wo, .int u.2.2.1, .int lak, .int nxt])), (q_wo, .inl (k_wo, n_wo, .inl u.2.2.2))] (va_A [(q_bp, .inr (0, [.ref q_bk, .ref q_sa, .ref q_te, .ref q_twk, .ref q_len, .ref q_dis, .int pt, .ref q_li, .ref q_rwk, .ref q_va, .ref q_lr])), (q_te, .inr (2, [.ref q_sa, .ref q_ro, .int cnt, .int pn])), (q_ro, .inl (k_ro, n_ro, .inl row)), (q_li, .inr (3, [.ref q_wo, .int lcn, .int lak, .int nxt])), (q_wo, .inl (k_wo, n_wo, .inl wor))] sz)) 1 6 (va_A [(q_bp, .inr (0, [.ref q_bk, .ref q_sa, .ref q_te, .ref q_twk, .ref q_len, .ref q_dis, .int pt, .ref q_li, .ref q_rwk, .ref q_va, .ref q_lr])), (q_te, .inr (2, [.ref q_sa, .ref q_ro, .int cnt, .int pn])), (q_ro, .inl (k_ro, n_ro, .inl row)), (q_li, .inr (3, [.ref q_wo, .int lcn, .int lak, .int nxt])), (q_wo, .inl (k_wo, n_wo, .inl wor))] sz) 1 6 (va_A [(q_bp, .inr (0, [.ref q_bk, .ref q_sa, .ref q_te, .ref q_twk, .ref q_len, .ref q_dis, .int pt, .ref q_li, .ref q_rwk, .ref q_va, .ref q_lr])), (q_te, .inr (2, [.ref q_sa, .ref q_ro, .int cnt, .int pn])), (q_ro, .inl (k_ro, n_ro, .inl row)), (q_li, .inr (3, [.ref q_wo, .int lcn, .int lak, .int nxt])), (q_wo, .inl (k_wo, n_wo, .inl wor))] sz) := by
  unfold f_B_pass at hF
  refine xU_of (Qc := fun A => xR u.1 (dC, dI) (some (.int u.2.1)) [(q_bp, .inr (0, [.ref q_bk, .ref q_sa, .ref q_te, .ref q_twk, .ref q_len, .ref q_dis, .int pt, .ref q_li, .ref q_rwk, .ref q_va, .ref q_lr])), (q_te, .inr (2, [.ref q_sa, .ref q_ro, .int cnt, .int pn])), (q_ro, .inl (k_ro, n_ro, .inl row)), (q_li, .inr (3, [.ref q_wo, .int u.2.2.1, .int lak, .int nxt])), (q_wo, .inl (k_wo, n_wo, .inl u.2.2.2))] A) (rc := 1) (rs := 6) (rf := fun A => A) (cc := c_B_pass) (maxL := 4) (ret := (some .int)) (by decide) (Nat.le_of_ble_eq_true rfl) ?_
  intro p e s m args below meth c Q A hQ hfx hno hK hN hXK hA hP hD ls hl
  have hS : va_S A s.heap s.heap [] := va_S.rf
  obtain ⟨hx, hb, hr, hml, hown, hts, hlocks⟩ := hfx
  have hown : s.vm.findClass R_B = some m.cls := hown
  have hl : lv_has ls 4 [(0, .ref q_bp), (1, .int a0)] := hl
  refine lv_iload_n hx hb d_B_pass_0 rfl (lv_at hl 1 rfl) ?_
  refine lv_if_ge (tgt := 14) hx hb d_B_pass_1 (by decide) (fun c1 => ?_) (fun c1 => ?_)
  · have hF := kc_pos c1 hF
    refine lv_iload_n hx hb d_B_pass_14 rfl (lv_at hl 1 rfl) ?_
    refine lv_aload_n hx hb d_B_pass_15 rfl (lv_at hl 0 rfl) ?_
    refine va_get (D := (dC, dI)) (ci := 0) (v := .ref q_te) (C := R_B) (T := T_B) (N := 11) hx hb hts ki_B hown hK hP 0 rfl rfl 2 (by decide) (hts _ kw_1_155) (fun _ h9 => h9) rfl d_B_pass_16 ?_
    refine va_get (D := (dC, dI)) (ci := 2) (v := .int cnt) (C := R_T) (T := T_T) (N := 4) hx hb hts ki_T hown hK hP 1 rfl rfl 2 (by decide) (hts _ kw_1_84) (fun _ h9 => h9) rfl d_B_pass_19 ?_
    refine va_mmin hx hb (by rw [hml]; exact hl.1.symm) hown (hts _ kw_1_29) (hts _ kw_1_30) (hts _ kw_1_3) (hts _ kw_1_31) (Nat.le_of_ble_eq_true rfl) (Nat.le_of_ble_eq_true rfl) (Nat.le_of_ble_eq_true rfl) (Nat.le_of_ble_eq_true rfl) d_B_pass_22 ?_
    refine W.eq (g2 := F0 m 25 ls [.int (kmin a0 cnt)]) rfl ?_
    refine lv_istore_n (lv' := [(2, .int (kmin a0 cnt)), (0, .ref q_bp), (1, .int a0)]) hx hb d_B_pass_25 rfl hl (by decide) rfl (fun ls hl => ?_)
    refine lv_aload_n hx hb d_B_pass_26 rfl (lv_at hl 1 rfl) ?_
    refine lv_iload_n hx hb d_B_pass_27 rfl (lv_at hl 0 rfl) ?_
    obtain ⟨u2, hc, hF⟩ := kc_bnd hF
    refine xc_call (tag := u2) (wr := [(q_te, .inr (2, [.ref q_sa, .ref q_ro, .int cnt, .int pn])), (q_ro, .inl (k_ro, n_ro, .inl row)), (q_wo, .inl (k_wo, n_wo, .inl wor))]) hA (xrunV (As := [.int (kmin a0 cnt)]) (rest := []) ⟨hx, hb, hml, hown, hts⟩ (m_B_mustHaveRoomFor l dC dI q_bp q_bk q_len q_dis q_va q_lr q_te q_sa q_twk q_li q_wo q_rwk pt lcn lak nxt (kmin a0 cnt) hfl _ hc s.heap.size) (cwV 1 hts (kgV kw_3_53 kw_3_55 kp_20 kw_1_1 kw_3_56) rfl rfl rfl (by decide +kernel) ⟨Nat.le_of_ble_eq_true rfl, Nat.le_of_ble_eq_true rfl⟩) ⟨xPre_blind, va_recv hK hP (ci := 0) (q0 := 0) rfl rfl, xPre_of (hP.sub [0, 3] rfl) (hK.sub [] rfl) (hD.sub [0, 3] (by decide) rfl) hN hXK⟩ rfl rfl hl.1 rfl (lv_room (Nat.le_of_ble_eq_true rfl)) d_B_pass_28 ⟨Nat.le_of_ble_eq_true rfl, Nat.le_of_ble_eq_true rfl⟩) hP hD hS [0, 3] [1, 2, 4] rfl rfl (by decide) (by decide) (fun htag H locs q ce hP hD hS hce hcv hcl => ?_) (fun htag => ?_)
    · have hP : va_P (dC, dI) vwCl [(q_te, .inr (2, [.ref q_sa, .ref q_ro, .int cnt, .int pn])), (q_ro, .inl (k_ro, n_ro, .inl row)), (q_wo, .inl (k_wo, n_wo, .inl wor)), (q_bp, .inr (0, [.ref q_bk, .ref q_sa, .ref q_te, .ref q_twk, .ref q_len, .ref q_dis, .int pt, .ref q_li, .ref q_rwk, .ref q_va, .ref q_lr])), (q_li, .inr (3, [.ref q_wo, .int lcn, .int lak, .int nxt]))] H := hP
      have hD : va_D A [(q_te, .inr (2, [.ref q_sa, .ref q_ro, .int cnt, .int pn])), (q_ro, .inl (k_ro, n_ro, .inl row)), (q_wo, .inl (k_wo, n_wo, .inl wor)), (q_bp, .inr (0, [.ref q_bk, .ref q_sa, .ref q_te, .ref q_twk, .ref q_len, .ref q_dis, .int pt, .ref q_li, .ref q_rwk, .ref q_va, .ref q_lr])), (q_li, .inr (3, [.ref q_wo, .int lcn, .int lak, .int nxt]))] := hD
      have hF := kc_neg htag hF
      obtain rfl := Option.some.inj hF
      exact xout hno hlocks hQ htag (hP.sub [3, 0, 1, 4, 2] rfl) (hD.sub [3, 0, 1, 4, 2] (by decide) rfl) hS hce hcv hcl (Nat.le_of_ble_eq_true rfl) (Nat.le_of_ble_eq_true rfl)
    have hF := kc_pos htag hF
    refine lv_iconst (v := 0) hx hb d_B_pass_31 (by decide) ?_
    refine lv_istore_n (lv' := [(3, .int (0 : Int32)), (2, .int (kmin a0 cnt)), (0, .ref q_bp), (1, .int a0)]) hx hb d_B_pass_32 rfl hl (by decide) rfl (fun ls hl => ?_)
    obtain ⟨u3, hcu3, hF⟩ := kc_bnd hF
    have hJu3_59 : ∀ (H : Heap) (locs : List Loc) (ls : Array Slot), va_P (dC, dI) vwCl [(q_bp, .inr (0, [.ref q_bk, .ref q_sa, .ref q_te, .ref q_twk, .ref q_len, .ref q_dis, .int pt, .ref q_li, .ref q_rwk, .ref q_va, .ref q_lr])), (q_te, .inr (2, [.ref q_sa, .ref q_ro, .int cnt, .int pn])), (q_ro, .inl (k_ro, n_ro, .inl row)), (q_li, .inr (3, [.ref q_wo, .int u3.2.1, .int lak, .int nxt])), (q_wo, .inl (k_wo, n_wo, .inl u3.2.2))] H → va_D A [(q_bp, .inr (0, [.ref q_bk, .ref q_sa, .ref q_te, .ref q_twk, .ref q_len, .ref q_dis, .int pt, .ref q_li, .ref q_rwk, .ref q_va, .ref q_lr])), (q_te, .inr (2, [.ref q_sa, .ref q_ro, .int cnt, .int pn])), (q_ro, .inl (k_ro, n_ro, .inl row)), (q_li, .inr (3, [.ref q_wo, .int u3.2.1, .int lak, .int nxt])), (q_wo, .inl (k_wo, n_wo, .inl u3.2.2))] → va_S A s.heap H locs → lv_has ls 4 [(3, .int u3.1), (2, .int (kmin a0 cnt)), (0, .ref q_bp), (1, .int a0)] → W p l e rm_B_pass s m args below meth c H locs 0 0 Q (F0 m 59 ls []) := by
      intro H locs ls hP hD hS hl
      refine lv_iload_n hx hb d_B_pass_59 rfl (lv_at hl 1 rfl) ?_
      obtain rfl := Option.some.inj hF
      exact xu_iret hx hb hr hlocks hQ (Nat.le_of_ble_eq_true rfl) (Nat.le_of_ble_eq_true rfl) (hP.sub [0, 1, 2, 3, 4] rfl) (hD.sub [0, 1, 2, 3, 4] (by decide) rfl) hS d_B_pass_60
    have hIu3 : ∀ (N : Nat) (v33_3 : Int32) (lcn_33 : Int32) (wor_33 : (Nat → Int32)), f_B_pass_L33 cnt row n_ro n_wo a0 N v33_3 lcn_33 wor_33 = some u3 → ∀ (H : Heap) (locs : List Loc) (ls : Array Slot), va_P (dC, dI) vwCl [(q_bp, .inr (0, [.ref q_bk, .ref q_sa, .ref q_te, .ref q_twk, .ref q_len, .ref q_dis, .int pt, .ref q_li, .ref q_rwk, .ref q_va, .ref q_lr])), (q_te, .inr (2, [.ref q_sa, .ref q_ro, .int cnt, .int pn])), (q_ro, .inl (k_ro, n_ro, .inl row)), (q_li, .inr (3, [.ref q_wo, .int lcn_33, .int lak, .int nxt])), (q_wo, .inl (k_wo, n_wo, .inl wor_33))] H → va_D A [(q_bp, .inr (0, [.ref q_bk, .ref q_sa, .ref q_te, .ref q_twk, .ref q_len, .ref q_dis, .int pt, .ref q_li, .ref q_rwk, .ref q_va, .ref q_lr])), (q_te, .inr (2, [.ref q_sa, .ref q_ro, .int cnt, .int pn])), (q_ro, .inl (k_ro, n_ro, .inl row)), (q_li, .inr (3, [.ref q_wo, .int lcn_33, .int lak, .int nxt])), (q_wo, .inl (k_wo, n_wo, .inl wor_33))] → va_S A s.heap H locs → lv_has ls 4 [(3, .int v33_3), (2, .int (kmin a0 cnt)), (0, .ref q_bp), (1, .int a0)] → W p l e rm_B_pass s m args below meth c H locs 0 0 Q (F0 m 33 ls []) := by
      intro N
      induction N with
      | zero => intro v33_3 lcn_33 wor_33 hF; rw [f_B_pass_L33] at hF; cases hF
      | succ N ih =>
        intro v33_3 lcn_33 wor_33 hF
        intro H locs ls hP hD hS hl
        rw [f_B_pass_L33] at hF
        refine lv_iload_n hx hb d_B_pass_33 rfl (lv_at hl 0 rfl) ?_
        refine lv_iload_n hx hb d_B_pass_34 rfl (lv_at hl 1 rfl) ?_
        refine lv_icmp_ge (tgt := 59) hx hb d_B_pass_35 (by decide) (fun c4 => ?_) (fun c4 => ?_)
        · have hF := kc_pos c4 hF
          obtain rfl := Option.some.inj hF
          exact hJu3_59 _ _ _ hP hD hS (lv_sub hl [0, 1, 2, 3] rfl)
        have hF := kc_neg c4 hF
        refine lv_aload_n hx hb d_B_pass_38 rfl (lv_at hl 2 rfl) ?_
        refine va_get (D := (dC, dI)) (ci := 0) (v := .ref q_li) (C := R_B) (T := T_B) (N := 11) hx hb hts ki_B hown hK hP 0 rfl rfl 7 (by decide) (hts _ kw_1_160) (fun _ h9 => h9) rfl d_B_pass_39 ?_
        refine lv_aload_n hx hb d_B_pass_42 rfl (lv_at hl 2 rfl) ?_
        refine va_get (D := (dC, dI)) (ci := 0) (v := .ref q_te) (C := R_B) (T := T_B) (N := 11) hx hb hts ki_B hown hK hP 0 rfl rfl 2 (by decide) (hts _ kw_1_155) (fun _ h9 => h9) rfl d_B_pass_43 ?_
        refine lv_iload_n hx hb d_B_pass_46 rfl (lv_at hl 0 rfl) ?_
        obtain ⟨u5, hc, hF⟩ := kc_bnd hF
        refine kr_call (va_runV (As := [.int v33_3]) (rest := [.ref q_li]) ⟨hx, hb, hml, hown, hts⟩ (m_T_bitOf l dC dI q_te q_sa q_ro k_ro n_ro cnt pn row v33_3 _ hc) (cwV 1 hts (kgV kw_2_236 kw_2_237 kw_2_238 kw_1_5 kw_2_239) rfl rfl rfl (by decide +kernel) ⟨Nat.le_of_ble_eq_true rfl, Nat.le_of_ble_eq_true rfl⟩) ⟨kRe_blind, va_recv hK hP (ci := 2) (q0 := 1) rfl rfl, kRe_of (hP.sub [1, 2] rfl) (hK.sub [0] rfl) hN⟩ rfl rfl hl.1 rfl (lv_room (Nat.le_of_ble_eq_true rfl)) d_B_pass_47 ⟨Nat.le_of_ble_eq_true rfl, Nat.le_of_ble_eq_true rfl⟩) ?_
        obtain ⟨u6, hc, hF⟩ := kc_bnd hF
        refine ku_call (wr := [(q_bp, .inr (0, [.ref q_bk, .ref q_sa, .ref q_te, .ref q_twk, .ref q_len, .ref q_dis, .int pt, .ref q_li, .ref q_rwk, .ref q_va, .ref q_lr])), (q_te, .inr (2, [.ref q_sa, .ref q_ro, .int cnt, .int pn])), (q_ro, .inl (k_ro, n_ro, .inl row))]) hA (va_runV (As := [.int u5]) (rest := []) ⟨hx, hb, hml, hown, hts⟩ (m_L_append l dC dI q_li q_wo k_wo n_wo lcn_33 lak nxt wor_33 u5 _ hc H.size) (cwV 1 hts (kgV kw_3_73 kw_3_74 kw_3_75 kw_1_7 kw_3_76) rfl rfl rfl (by decide +kernel) ⟨Nat.le_of_ble_eq_true rfl, Nat.le_of_ble_eq_true rfl⟩) ⟨kPre_blind, va_recv hK hP (ci := 3) (q0 := 3) rfl rfl, kPre_of (hP.sub [3, 4] rfl) (hK.sub [1] rfl) (hD.sub [3, 4] (by decide) rfl) hN⟩ rfl rfl hl.1 rfl (lv_room (Nat.le_of_ble_eq_true rfl)) d_B_pass_50 ⟨Nat.le_of_ble_eq_true rfl, Nat.le_of_ble_eq_true rfl⟩) hP hD hS [3, 4] [0, 1, 2] rfl rfl (by decide) (by decide) (fun H locs hP hD hS => ?_)
        have hP : va_P (dC, dI) vwCl [(q_bp, .inr (0, [.ref q_bk, .ref q_sa, .ref q_te, .ref q_twk, .ref q_len, .ref q_dis, .int pt, .ref q_li, .ref q_rwk, .ref q_va, .ref q_lr])), (q_te, .inr (2, [.ref q_sa, .ref q_ro, .int cnt, .int pn])), (q_ro, .inl (k_ro, n_ro, .inl row)), (q_li, .inr (3, [.ref q_wo, .int u6.1, .int lak, .int nxt])), (q_wo, .inl (k_wo, n_wo, .inl u6.2))] H := hP
        have hD : va_D A [(q_bp, .inr (0, [.ref q_bk, .ref q_sa, .ref q_te, .ref q_twk, .ref q_len, .ref q_dis, .int pt, .ref q_li, .ref q_rwk, .ref q_va, .ref q_lr])), (q_te, .inr (2, [.ref q_sa, .ref q_ro, .int cnt, .int pn])), (q_ro, .inl (k_ro, n_ro, .inl row)), (q_li, .inr (3, [.ref q_wo, .int u6.1, .int lak, .int nxt])), (q_wo, .inl (k_wo, n_wo, .inl u6.2))] := hD
        refine lv_iinc (v := (v33_3 + 1)) (lv' := [(3, .int (v33_3 + 1)), (2, .int (kmin a0 cnt)), (0, .ref q_bp), (1, .int a0)]) hx hb d_B_pass_53 hl (k := 0) rfl rfl (by decide) rfl (fun ls hl => ?_)
        refine lv_goto (tgt := 33) hx hb d_B_pass_56 (by decide) ?_
        exact ih _ _ _ hF _ _ _ hP hD hS (lv_sub hl [0, 1, 2, 3] rfl)
    exact hIu3 _ _ _ _ hcu3 _ _ _ hP hD hS (lv_sub hl [0, 1, 2, 3] rfl)
  have hF := kc_neg c1 hF
  obtain rfl := Option.some.inj hF
  obtain ⟨sa, hstr⟩ := xs_158 hXK.2.1
  exact xthrow (tag := 2) (names := ["java/lang/RuntimeException", "java/lang/Exception"]) (ic := 79) (tx := _) hfl hx hb (hml.trans hl.1.symm) hno hlocks hQ (by decide) (hP.sub [0, 1, 2, 3, 4] rfl) (hD.sub [0, 1, 2, 3, 4] (by decide) rfl) hown (hts _ kw_2_212) (hts _ kw_2_213) (hts _ kw_1_13) hstr (by decide +kernel) (by decide +kernel) (x_atoms xall_2 hts (xn_2 hXK.2.2) hXK) d_B_pass_4 d_B_pass_7 d_B_pass_8 d_B_pass_10 d_B_pass_13 (Nat.le_of_ble_eq_true rfl) (Nat.le_of_ble_eq_true rfl) (Nat.le_of_ble_eq_true rfl) (Nat.le_of_ble_eq_true rfl) (Nat.le_of_ble_eq_true rfl) (Nat.le_of_ble_eq_true rfl)
abbrev rm_B_turn : Room := { frames := 6, cells := 1, slots := 6, locals := 82 }
set_option maxHeartbeats 4000000 in
set_option maxRecDepth 100000 in
theorem m_B_turn (l : Launch) (dC : Nat → ClassId) (dI : Nat → Nat → Nat) (q_bp q_bk q_len q_dis q_va q_lr q_te q_sa q_twk q_li q_wo q_rwk : Nat) (k_wo : ClassId) (n_wo : Nat) (pt : Int32) (lcn : Int32) (lak : Int32) (nxt : Int32) (wor : (Nat → Int32)) (a0 : Int32) (hfl : l.flags = pinnedFlags ++ [noTraceFlag]) (u : Nat × Int32 × (Nat → Int32)) (hF : f_B_turn lcn wor n_wo a0 = some u) : ∀ sz : Nat, xMet l y_B_turn (kws y_B_turn c_B_turn 2 (some .int)) rm_B_turn (xPre (dC, dI) [.ref q_bp, .int a0] [(q_bp, .inr (0, [.ref q_bk, .ref q_sa, .ref q_te, .ref q_twk, .ref q_len, .ref q_dis, .int pt, .ref q_li, .ref q_rwk, .ref q_va, .ref q_lr])), (q_li, .inr (3, [.ref q_wo, .int lcn, .int lak, .int nxt])), (q_wo, .inl (k_wo, n_wo, .inl wor))] [(k_wo, .int)] sz) (xR u.1 (dC, dI) (some (.int u.2.1)) [(q_bp, .inr (0, [.ref q_bk, .ref q_sa, .ref q_te, .ref q_twk, .ref q_len, .ref q_dis, .int pt, .ref q_li, .ref q_rwk, .ref q_va, .ref q_lr])), (q_li, .inr (3, [.ref q_wo, .int lcn, .int lak, .int nxt])), (q_wo, .inl (k_wo, n_wo, .inl u.2.2))] (va_A [(q_bp, .inr (0, [.ref q_bk, .ref q_sa, .ref q_te, .ref q_twk, .ref q_len, .ref q_dis, .int pt, .ref q_li, .ref q_rwk, .ref q_va, .ref q_lr])), (q_li, .inr (3, [.ref q_wo, .int lcn, .int lak, .int nxt])), (q_wo, .inl (k_wo, n_wo, .inl wor))] sz)) (xX u.1 (dC, dI) [(q_bp, .inr (0, [.ref q_bk, .ref q_sa, .ref q_te, .ref q_twk, .ref q_len, .ref q_dis, .int pt, .ref q_li, .ref q_rwk, .ref q_va, .ref q_lr])), (q_li, .inr (3, [.ref q_wo, .int lcn, .int lak, .int nxt])), (q_wo, .inl (k_wo, n_wo, .inl u.2.2))] (va_A [(q_bp, .inr (0, [.ref q_bk, .ref q_sa, .ref q_te, .ref q_twk, .ref q_len, .ref q_dis, .int pt, .ref q_li, .ref q_rwk, .ref q_va, .ref q_lr])), (q_li, .inr (3, [.ref q_wo, .int lcn, .int lak, .int nxt])), (q_wo, .inl (k_wo, n_wo, .inl wor))] sz)) 1 6 (va_A [(q_bp, .inr (0, [.ref q_bk, .ref q_sa, .ref q_te, .ref q_twk, .ref q_len, .ref q_dis, .int pt, .ref q_li, .ref q_rwk, .ref q_va, .ref q_lr])), (q_li, .inr (3, [.ref q_wo, .int lcn, .int lak, .int nxt])), (q_wo, .inl (k_wo, n_wo, .inl wor))] sz) 1 6 (va_A [(q_bp, .inr (0, [.ref q_bk, .ref q_sa, .ref q_te, .ref q_twk, .ref q_len, .ref q_dis, .int pt, .ref q_li, .ref q_rwk, .ref q_va, .ref q_lr])), (q_li, .inr (3, [.ref q_wo, .int lcn, .int lak, .int nxt])), (q_wo, .inl (k_wo, n_wo, .inl wor))] sz) := by
  unfold f_B_turn at hF
  refine xU_of (Qc := fun A => xR u.1 (dC, dI) (some (.int u.2.1)) [(q_bp, .inr (0, [.ref q_bk, .ref q_sa, .ref q_te, .ref q_twk, .ref q_len, .ref q_dis, .int pt, .ref q_li, .ref q_rwk, .ref q_va, .ref q_lr])), (q_li, .inr (3, [.ref q_wo, .int lcn, .int lak, .int nxt])), (q_wo, .inl (k_wo, n_wo, .inl u.2.2))] A) (rc := 1) (rs := 6) (rf := fun A => A) (cc := c_B_turn) (maxL := 2) (ret := (some .int)) (by decide) (Nat.le_of_ble_eq_true rfl) ?_
  intro p e s m args below meth c Q A hQ hfx hno hK hN hXK hA hP hD ls hl
  have hS : va_S A s.heap s.heap [] := va_S.rf
  obtain ⟨hx, hb, hr, hml, hown, hts, hlocks⟩ := hfx
  have hown : s.vm.findClass R_B = some m.cls := hown
  have hl : lv_has ls 2 [(0, .ref q_bp), (1, .int a0)] := hl
  refine lv_iload_n hx hb d_B_turn_0 rfl (lv_at hl 1 rfl) ?_
  refine lv_if_lt (tgt := 15) hx hb d_B_turn_1 (by decide) (fun c1 => ?_) (fun c1 => ?_)
  · have hF := kc_pos c1 hF
    obtain rfl := Option.some.inj hF
    obtain ⟨sa, hstr⟩ := xs_165 hXK.2.1
    exact xthrow (tag := 1) (names := ["java/lang/RuntimeException", "java/lang/Exception"]) (ic := 128) (tx := _) hfl hx hb (hml.trans hl.1.symm) hno hlocks hQ (by decide) (hP.sub [0, 1, 2] rfl) (hD.sub [0, 1, 2] (by decide) rfl) hown (hts _ kw_2_144) (hts _ kw_2_145) (hts _ kw_1_12) hstr (by decide +kernel) (by decide +kernel) (x_atoms xall_1 hts (xn_1 hXK.2.2) hXK) d_B_turn_15 d_B_turn_18 d_B_turn_19 d_B_turn_21 d_B_turn_24 (Nat.le_of_ble_eq_true rfl) (Nat.le_of_ble_eq_true rfl) (Nat.le_of_ble_eq_true rfl) (Nat.le_of_ble_eq_true rfl) (Nat.le_of_ble_eq_true rfl) (Nat.le_of_ble_eq_true rfl)
  have hF := kc_neg c1 hF
  refine lv_iload_n hx hb d_B_turn_4 rfl (lv_at hl 1 rfl) ?_
  refine lv_aload_n hx hb d_B_turn_5 rfl (lv_at hl 0 rfl) ?_
  refine va_get (D := (dC, dI)) (ci := 0) (v := .ref q_li) (C := R_B) (T := T_B) (N := 11) hx hb hts ki_B hown hK hP 0 rfl rfl 7 (by decide) (hts _ kw_1_160) (fun _ h9 => h9) rfl d_B_turn_6 ?_
  refine va_get (D := (dC, dI)) (ci := 3) (v := .int lcn) (C := R_L) (T := T_L) (N := 4) hx hb hts ki_L hown hK hP 1 rfl rfl 1 (by decide) (hts _ kw_1_139) (fun _ h9 => h9) rfl d_B_turn_9 ?_
  refine lv_icmp_lt (tgt := 25) hx hb d_B_turn_12 (by decide) (fun c2 => ?_) (fun c2 => ?_)
  · have hF := kc_pos c2 hF
    refine lv_aload_n hx hb d_B_turn_25 rfl (lv_at hl 0 rfl) ?_
    refine va_get (D := (dC, dI)) (ci := 0) (v := .ref q_li) (C := R_B) (T := T_B) (N := 11) hx hb hts ki_B hown hK hP 0 rfl rfl 7 (by decide) (hts _ kw_1_160) (fun _ h9 => h9) rfl d_B_turn_26 ?_
    refine lv_iload_n hx hb d_B_turn_29 rfl (lv_at hl 1 rfl) ?_
    obtain ⟨u3, hc, hF⟩ := kc_bnd hF
    refine ku_call (wr := [(q_bp, .inr (0, [.ref q_bk, .ref q_sa, .ref q_te, .ref q_twk, .ref q_len, .ref q_dis, .int pt, .ref q_li, .ref q_rwk, .ref q_va, .ref q_lr]))]) hA (va_runV (As := [.int a0]) (rest := []) ⟨hx, hb, hml, hown, hts⟩ (m_L_flip l dC dI q_li q_wo k_wo n_wo lcn lak nxt wor a0 _ hc s.heap.size) (cwV 1 hts (kgV kw_3_93 kw_3_94 kw_3_95 kw_1_7 kw_3_96) rfl rfl rfl (by decide +kernel) ⟨Nat.le_of_ble_eq_true rfl, Nat.le_of_ble_eq_true rfl⟩) ⟨kPre_blind, va_recv hK hP (ci := 3) (q0 := 1) rfl rfl, kPre_of (hP.sub [1, 2] rfl) (hK.sub [0] rfl) (hD.sub [1, 2] (by decide) rfl) hN⟩ rfl rfl hl.1 rfl (lv_room (Nat.le_of_ble_eq_true rfl)) d_B_turn_30 ⟨Nat.le_of_ble_eq_true rfl, Nat.le_of_ble_eq_true rfl⟩) hP hD hS [1, 2] [0] rfl rfl (by decide) (by decide) (fun H locs hP hD hS => ?_)
    have hP : va_P (dC, dI) vwCl [(q_bp, .inr (0, [.ref q_bk, .ref q_sa, .ref q_te, .ref q_twk, .ref q_len, .ref q_dis, .int pt, .ref q_li, .ref q_rwk, .ref q_va, .ref q_lr])), (q_li, .inr (3, [.ref q_wo, .int lcn, .int lak, .int nxt])), (q_wo, .inl (k_wo, n_wo, .inl u3.2))] H := hP
    have hD : va_D A [(q_bp, .inr (0, [.ref q_bk, .ref q_sa, .ref q_te, .ref q_twk, .ref q_len, .ref q_dis, .int pt, .ref q_li, .ref q_rwk, .ref q_va, .ref q_lr])), (q_li, .inr (3, [.ref q_wo, .int lcn, .int lak, .int nxt])), (q_wo, .inl (k_wo, n_wo, .inl u3.2))] := hD
    obtain rfl := Option.some.inj hF
    exact xu_iret hx hb hr hlocks hQ (Nat.le_of_ble_eq_true rfl) (Nat.le_of_ble_eq_true rfl) (hP.sub [0, 1, 2] rfl) (hD.sub [0, 1, 2] (by decide) rfl) hS d_B_turn_33
  have hF := kc_neg c2 hF
  obtain rfl := Option.some.inj hF
  obtain ⟨sa, hstr⟩ := xs_165 hXK.2.1
  exact xthrow (tag := 1) (names := ["java/lang/RuntimeException", "java/lang/Exception"]) (ic := 128) (tx := _) hfl hx hb (hml.trans hl.1.symm) hno hlocks hQ (by decide) (hP.sub [0, 1, 2] rfl) (hD.sub [0, 1, 2] (by decide) rfl) hown (hts _ kw_2_144) (hts _ kw_2_145) (hts _ kw_1_12) hstr (by decide +kernel) (by decide +kernel) (x_atoms xall_1 hts (xn_1 hXK.2.2) hXK) d_B_turn_15 d_B_turn_18 d_B_turn_19 d_B_turn_21 d_B_turn_24 (Nat.le_of_ble_eq_true rfl) (Nat.le_of_ble_eq_true rfl) (Nat.le_of_ble_eq_true rfl) (Nat.le_of_ble_eq_true rfl) (Nat.le_of_ble_eq_true rfl) (Nat.le_of_ble_eq_true rfl)
abbrev rm_B_decode : Room := { frames := 6, cells := 1, slots := 6, locals := 150 }
set_option maxHeartbeats 4000000 in
set_option maxRecDepth 100000 in
theorem m_B_decode (l : Launch) (dC : Nat → ClassId) (dI : Nat → Nat → Nat) (q_bp q_bk q_len q_dis q_va q_lr q_te q_sa q_twk q_li q_wo q_rwk q_rsg q_rsz q_rlo : Nat) (k_va : ClassId) (n_va : Nat) (k_lr : ClassId) (n_lr : Nat) (k_wo : ClassId) (n_wo : Nat) (k_rsg : ClassId) (n_rsg : Nat) (k_rsz : ClassId) (n_rsz : Nat) (k_rlo : ClassId) (n_rlo : Nat) (pt : Int32) (w : Int32) (h : Int32) (sty : Int32) (bd : Int32) (str : Int32) (cel : Int32) (vals : (Nat → Int32)) (lowr : (Nat → Int32)) (lcn : Int32) (lak : Int32) (nxt : Int32) (wor : (Nat → Int32)) (rpls : Int32) (rpl : Int32) (rraw : Int32) (rsgn : (Nat → Int32)) (rsiz : (Nat → Int32)) (rlow : (Nat → Int32)) (a0 : Int32) (a1 : Int32) (hfl : l.flags = pinnedFlags ++ [noTraceFlag]) (u : Nat × Int32 × (Nat → Int32) × (Nat → Int32) × Int32 × Int32 × Int32 × Int32 × Int32 × (Nat → Int32) × (Nat → Int32) × (Nat → Int32)) (hF : f_B_decode w h sty bd str vals lowr lcn lak nxt wor rpls rpl rraw rsgn rsiz rlow n_va n_lr n_wo n_rsg n_rsz n_rlo a0 a1 = some u) : ∀ sz : Nat, xMet l y_B_decode (kws y_B_decode c_B_decode 6 (some .int)) rm_B_decode (xPre (dC, dI) [.ref q_bp, .int a0, .int a1] [(q_bp, .inr (0, [.ref q_bk, .ref q_sa, .ref q_te, .ref q_twk, .ref q_len, .ref q_dis, .int pt, .ref q_li, .ref q_rwk, .ref q_va, .ref q_lr])), (q_bk, .inr (1, [.int w, .int h, .int sty, .int bd, .int str, .int cel])), (q_va, .inl (k_va, n_va, .inl vals)), (q_lr, .inl (k_lr, n_lr, .inl lowr)), (q_li, .inr (3, [.ref q_wo, .int lcn, .int lak, .int nxt])), (q_wo, .inl (k_wo, n_wo, .inl wor)), (q_rwk, .inr (4, [.ref q_bk, .ref q_li, .ref q_rsg, .ref q_rsz, .ref q_rlo, .int rpls, .int rpl, .int rraw])), (q_rsg, .inl (k_rsg, n_rsg, .inl rsgn)), (q_rsz, .inl (k_rsz, n_rsz, .inl rsiz)), (q_rlo, .inl (k_rlo, n_rlo, .inl rlow))] [(k_va, .int), (k_lr, .int), (k_wo, .int), (k_rsg, .int), (k_rsz, .int), (k_rlo, .int)] sz) (xR u.1 (dC, dI) (some (.int u.2.1)) [(q_bp, .inr (0, [.ref q_bk, .ref q_sa, .ref q_te, .ref q_twk, .ref q_len, .ref q_dis, .int pt, .ref q_li, .ref q_rwk, .ref q_va, .ref q_lr])), (q_bk, .inr (1, [.int w, .int h, .int sty, .int bd, .int str, .int cel])), (q_va, .inl (k_va, n_va, .inl u.2.2.1)), (q_lr, .inl (k_lr, n_lr, .inl u.2.2.2.1)), (q_li, .inr (3, [.ref q_wo, .int lcn, .int u.2.2.2.2.1, .int u.2.2.2.2.2.1])), (q_wo, .inl (k_wo, n_wo, .inl wor)), (q_rwk, .inr (4, [.ref q_bk, .ref q_li, .ref q_rsg, .ref q_rsz, .ref q_rlo, .int u.2.2.2.2.2.2.1, .int u.2.2.2.2.2.2.2.1, .int u.2.2.2.2.2.2.2.2.1])), (q_rsg, .inl (k_rsg, n_rsg, .inl u.2.2.2.2.2.2.2.2.2.1)), (q_rsz, .inl (k_rsz, n_rsz, .inl u.2.2.2.2.2.2.2.2.2.2.1)), (q_rlo, .inl (k_rlo, n_rlo, .inl u.2.2.2.2.2.2.2.2.2.2.2))] (va_A [(q_bp, .inr (0, [.ref q_bk, .ref q_sa, .ref q_te, .ref q_twk, .ref q_len, .ref q_dis, .int pt, .ref q_li, .ref q_rwk, .ref q_va, .ref q_lr])), (q_bk, .inr (1, [.int w, .int h, .int sty, .int bd, .int str, .int cel])), (q_va, .inl (k_va, n_va, .inl vals)), (q_lr, .inl (k_lr, n_lr, .inl lowr)), (q_li, .inr (3, [.ref q_wo, .int lcn, .int lak, .int nxt])), (q_wo, .inl (k_wo, n_wo, .inl wor)), (q_rwk, .inr (4, [.ref q_bk, .ref q_li, .ref q_rsg, .ref q_rsz, .ref q_rlo, .int rpls, .int rpl, .int rraw])), (q_rsg, .inl (k_rsg, n_rsg, .inl rsgn)), (q_rsz, .inl (k_rsz, n_rsz, .inl rsiz)), (q_rlo, .inl (k_rlo, n_rlo, .inl rlow))] sz)) (xX u.1 (dC, dI) [(q_bp, .inr (0, [.ref q_bk, .ref q_sa, .ref q_te, .ref q_twk, .ref q_len, .ref q_dis, .int pt, .ref q_li, .ref q_rwk, .ref q_va, .ref q_lr])), (q_bk, .inr (1, [.int w, .int h, .int sty, .int bd, .int str, .int cel])), (q_va, .inl (k_va, n_va, .inl u.2.2.1)), (q_lr, .inl (k_lr, n_lr, .inl u.2.2.2.1)), (q_li, .inr (3, [.ref q_wo, .int lcn, .int u.2.2.2.2.1, .int u.2.2.2.2.2.1])), (q_wo, .inl (k_wo, n_wo, .inl wor)), (q_rwk, .inr (4, [.ref q_bk, .ref q_li, .ref q_rsg, .ref q_rsz, .ref q_rlo, .int u.2.2.2.2.2.2.1, .int u.2.2.2.2.2.2.2.1, .int u.2.2.2.2.2.2.2.2.1])), (q_rsg, .inl (k_rsg, n_rsg, .inl u.2.2.2.2.2.2.2.2.2.1)), (q_rsz, .inl (k_rsz, n_rsz, .inl u.2.2.2.2.2.2.2.2.2.2.1)), (q_rlo, .inl (k_rlo, n_rlo, .inl u.2.2.2.2.2.2.2.2.2.2.2))] (va_A [(q_bp, .inr (0, [.ref q_bk, .ref q_sa, .ref q_te, .ref q_twk, .ref q_len, .ref q_dis, .int pt, .ref q_li, .ref q_rwk, .ref q_va, .ref q_lr])), (q_bk, .inr (1, [.int w, .int h, .int sty, .int bd, .int str, .int cel])), (q_va, .inl (k_va, n_va, .inl vals)), (q_lr, .inl (k_lr, n_lr, .inl lowr)), (q_li, .inr (3, [.ref q_wo, .int lcn, .int lak, .int nxt])), (q_wo, .inl (k_wo, n_wo, .inl wor)), (q_rwk, .inr (4, [.ref q_bk, .ref q_li, .ref q_rsg, .ref q_rsz, .ref q_rlo, .int rpls, .int rpl, .int rraw])), (q_rsg, .inl (k_rsg, n_rsg, .inl rsgn)), (q_rsz, .inl (k_rsz, n_rsz, .inl rsiz)), (q_rlo, .inl (k_rlo, n_rlo, .inl rlow))] sz)) 1 6 (va_A [(q_bp, .inr (0, [.ref q_bk, .ref q_sa, .ref q_te, .ref q_twk, .ref q_len, .ref q_dis, .int pt, .ref q_li, .ref q_rwk, .ref q_va, .ref q_lr])), (q_bk, .inr (1, [.int w, .int h, .int sty, .int bd, .int str, .int cel])), (q_va, .inl (k_va, n_va, .inl vals)), (q_lr, .inl (k_lr, n_lr, .inl lowr)), (q_li, .inr (3, [.ref q_wo, .int lcn, .int lak, .int nxt])), (q_wo, .inl (k_wo, n_wo, .inl wor)), (q_rwk, .inr (4, [.ref q_bk, .ref q_li, .ref q_rsg, .ref q_rsz, .ref q_rlo, .int rpls, .int rpl, .int rraw])), (q_rsg, .inl (k_rsg, n_rsg, .inl rsgn)), (q_rsz, .inl (k_rsz, n_rsz, .inl rsiz)), (q_rlo, .inl (k_rlo, n_rlo, .inl rlow))] sz) 1 6 (va_A [(q_bp, .inr (0, [.ref q_bk, .ref q_sa, .ref q_te, .ref q_twk, .ref q_len, .ref q_dis, .int pt, .ref q_li, .ref q_rwk, .ref q_va, .ref q_lr])), (q_bk, .inr (1, [.int w, .int h, .int sty, .int bd, .int str, .int cel])), (q_va, .inl (k_va, n_va, .inl vals)), (q_lr, .inl (k_lr, n_lr, .inl lowr)), (q_li, .inr (3, [.ref q_wo, .int lcn, .int lak, .int nxt])), (q_wo, .inl (k_wo, n_wo, .inl wor)), (q_rwk, .inr (4, [.ref q_bk, .ref q_li, .ref q_rsg, .ref q_rsz, .ref q_rlo, .int rpls, .int rpl, .int rraw])), (q_rsg, .inl (k_rsg, n_rsg, .inl rsgn)), (q_rsz, .inl (k_rsz, n_rsz, .inl rsiz)), (q_rlo, .inl (k_rlo, n_rlo, .inl rlow))] sz) := by
  unfold f_B_decode at hF
  refine xU_of (Qc := fun A => xR u.1 (dC, dI) (some (.int u.2.1)) [(q_bp, .inr (0, [.ref q_bk, .ref q_sa, .ref q_te, .ref q_twk, .ref q_len, .ref q_dis, .int pt, .ref q_li, .ref q_rwk, .ref q_va, .ref q_lr])), (q_bk, .inr (1, [.int w, .int h, .int sty, .int bd, .int str, .int cel])), (q_va, .inl (k_va, n_va, .inl u.2.2.1)), (q_lr, .inl (k_lr, n_lr, .inl u.2.2.2.1)), (q_li, .inr (3, [.ref q_wo, .int lcn, .int u.2.2.2.2.1, .int u.2.2.2.2.2.1])), (q_wo, .inl (k_wo, n_wo, .inl wor)), (q_rwk, .inr (4, [.ref q_bk, .ref q_li, .ref q_rsg, .ref q_rsz, .ref q_rlo, .int u.2.2.2.2.2.2.1, .int u.2.2.2.2.2.2.2.1, .int u.2.2.2.2.2.2.2.2.1])), (q_rsg, .inl (k_rsg, n_rsg, .inl u.2.2.2.2.2.2.2.2.2.1)), (q_rsz, .inl (k_rsz, n_rsz, .inl u.2.2.2.2.2.2.2.2.2.2.1)), (q_rlo, .inl (k_rlo, n_rlo, .inl u.2.2.2.2.2.2.2.2.2.2.2))] A) (rc := 1) (rs := 6) (rf := fun A => A) (cc := c_B_decode) (maxL := 6) (ret := (some .int)) (by decide) (Nat.le_of_ble_eq_true rfl) ?_
  intro p e s m args below meth c Q A hQ hfx hno hK hN hXK hA hP hD ls hl
  have hS : va_S A s.heap s.heap [] := va_S.rf
  obtain ⟨hx, hb, hr, hml, hown, hts, hlocks⟩ := hfx
  have hown : s.vm.findClass R_B = some m.cls := hown
  have hl : lv_has ls 6 [(0, .ref q_bp), (1, .int a0), (2, .int a1)] := hl
  refine lv_iload_n hx hb d_B_decode_0 rfl (lv_at hl 1 rfl) ?_
  refine lv_if_lt (tgt := 14) hx hb d_B_decode_1 (by decide) (fun c1 => ?_) (fun c1 => ?_)
  · have hF := kc_pos c1 hF
    obtain rfl := Option.some.inj hF
    obtain ⟨sa, hstr⟩ := xs_170 hXK.2.1
    exact xthrow (tag := 2) (names := ["java/lang/RuntimeException", "java/lang/Exception"]) (ic := 79) (tx := _) hfl hx hb (hml.trans hl.1.symm) hno hlocks hQ (by decide) (hP.sub [0, 1, 2, 3, 4, 5, 6, 7, 8, 9] rfl) (hD.sub [0, 1, 2, 3, 4, 5, 6, 7, 8, 9] (by decide) rfl) hown (hts _ kw_2_212) (hts _ kw_2_213) (hts _ kw_1_13) hstr (by decide +kernel) (by decide +kernel) (x_atoms xall_2 hts (xn_2 hXK.2.2) hXK) d_B_decode_14 d_B_decode_17 d_B_decode_18 d_B_decode_20 d_B_decode_23 (Nat.le_of_ble_eq_true rfl) (Nat.le_of_ble_eq_true rfl) (Nat.le_of_ble_eq_true rfl) (Nat.le_of_ble_eq_true rfl) (Nat.le_of_ble_eq_true rfl) (Nat.le_of_ble_eq_true rfl)
  have hF := kc_neg c1 hF
  refine lv_iload_n hx hb d_B_decode_4 rfl (lv_at hl 1 rfl) ?_
  refine lv_bipush (v := 15) hx hb d_B_decode_5 (by decide) ?_
  refine lv_icmp_gt (tgt := 14) hx hb d_B_decode_7 (by decide) (fun c2 => ?_) (fun c2 => ?_)
  · have hF := kc_pos c2 hF
    obtain rfl := Option.some.inj hF
    obtain ⟨sa, hstr⟩ := xs_170 hXK.2.1
    exact xthrow (tag := 2) (names := ["java/lang/RuntimeException", "java/lang/Exception"]) (ic := 79) (tx := _) hfl hx hb (hml.trans hl.1.symm) hno hlocks hQ (by decide) (hP.sub [0, 1, 2, 3, 4, 5, 6, 7, 8, 9] rfl) (hD.sub [0, 1, 2, 3, 4, 5, 6, 7, 8, 9] (by decide) rfl) hown (hts _ kw_2_212) (hts _ kw_2_213) (hts _ kw_1_13) hstr (by decide +kernel) (by decide +kernel) (x_atoms xall_2 hts (xn_2 hXK.2.2) hXK) d_B_decode_14 d_B_decode_17 d_B_decode_18 d_B_decode_20 d_B_decode_23 (Nat.le_of_ble_eq_true rfl) (Nat.le_of_ble_eq_true rfl) (Nat.le_of_ble_eq_true rfl) (Nat.le_of_ble_eq_true rfl) (Nat.le_of_ble_eq_true rfl) (Nat.le_of_ble_eq_true rfl)
  have hF := kc_neg c2 hF
  refine lv_iload_n hx hb d_B_decode_10 rfl (lv_at hl 2 rfl) ?_
  refine lv_if_ge (tgt := 24) hx hb d_B_decode_11 (by decide) (fun c3 => ?_) (fun c3 => ?_)
  · have hF := kc_pos c3 hF
    refine lv_iload_n hx hb d_B_decode_24 rfl (lv_at hl 2 rfl) ?_
    refine lv_iload_n hx hb d_B_decode_25 rfl (lv_at hl 1 rfl) ?_
    refine kr_call (va_runS (As := [.int a0]) (rest := [.int a1]) ⟨hx, hb, hml, hown, hts⟩ (m_ST_passesOf l dC dI a0 (f_ST_passesOf a0) rfl) (va_cwS 1 hts (kgS kw_1_206 kw_1_207 kw_1_1 kw_1_208) rfl rfl rfl (by decide +kernel) ⟨Nat.le_of_ble_eq_true rfl, Nat.le_of_ble_eq_true rfl⟩) ⟨kRe_blind, kRe_of (hP.sub [] rfl) (hK.sub [] rfl) hN⟩ rfl rfl hl.1 rfl (lv_room (Nat.le_of_ble_eq_true rfl)) d_B_decode_26 ⟨Nat.le_of_ble_eq_true rfl, Nat.le_of_ble_eq_true rfl⟩) ?_
    refine va_mmin hx hb (by rw [hml]; exact hl.1.symm) hown (hts _ kw_1_29) (hts _ kw_1_30) (hts _ kw_1_3) (hts _ kw_1_31) (Nat.le_of_ble_eq_true rfl) (Nat.le_of_ble_eq_true rfl) (Nat.le_of_ble_eq_true rfl) (Nat.le_of_ble_eq_true rfl) d_B_decode_29 ?_
    refine W.eq (g2 := F0 m 32 ls [.int (kmin a1 (f_ST_passesOf a0))]) rfl ?_
    refine lv_istore_n (lv' := [(3, .int (kmin a1 (f_ST_passesOf a0))), (0, .ref q_bp), (1, .int a0), (2, .int a1)]) hx hb d_B_decode_32 rfl hl (by decide) rfl (fun ls hl => ?_)
    refine lv_aload_n hx hb d_B_decode_33 rfl (lv_at hl 1 rfl) ?_
    refine va_get (D := (dC, dI)) (ci := 0) (v := .ref q_li) (C := R_B) (T := T_B) (N := 11) hx hb hts ki_B hown hK hP 0 rfl rfl 7 (by decide) (hts _ kw_1_160) (fun _ h9 => h9) rfl d_B_decode_34 ?_
    refine ku_call (wr := [(q_bp, .inr (0, [.ref q_bk, .ref q_sa, .ref q_te, .ref q_twk, .ref q_len, .ref q_dis, .int pt, .ref q_li, .ref q_rwk, .ref q_va, .ref q_lr])), (q_bk, .inr (1, [.int w, .int h, .int sty, .int bd, .int str, .int cel])), (q_va, .inl (k_va, n_va, .inl vals)), (q_lr, .inl (k_lr, n_lr, .inl lowr)), (q_wo, .inl (k_wo, n_wo, .inl wor)), (q_rwk, .inr (4, [.ref q_bk, .ref q_li, .ref q_rsg, .ref q_rsz, .ref q_rlo, .int rpls, .int rpl, .int rraw])), (q_rsg, .inl (k_rsg, n_rsg, .inl rsgn)), (q_rsz, .inl (k_rsz, n_rsz, .inl rsiz)), (q_rlo, .inl (k_rlo, n_rlo, .inl rlow))]) hA (va_runV (As := []) (rest := []) ⟨hx, hb, hml, hown, hts⟩ (m_L_rewind l dC dI q_li q_wo lcn lak nxt (f_L_rewind) rfl s.heap.size) (cwV 0 hts (kgV kw_3_105 kw_3_106 kw_3_107 kw_1_7 kw_3_108) rfl rfl rfl (by decide +kernel) ⟨Nat.le_of_ble_eq_true rfl, Nat.le_of_ble_eq_true rfl⟩) ⟨kPre_blind, va_recv hK hP (ci := 3) (q0 := 4) rfl rfl, kPre_of (hP.sub [4] rfl) (hK.sub [] rfl) (hD.sub [4] (by decide) rfl) hN⟩ rfl rfl hl.1 rfl (lv_room (Nat.le_of_ble_eq_true rfl)) d_B_decode_37 ⟨Nat.le_of_ble_eq_true rfl, Nat.le_of_ble_eq_true rfl⟩) hP hD hS [4] [0, 1, 2, 3, 5, 6, 7, 8, 9] rfl rfl (by decide) (by decide) (fun H locs hP hD hS => ?_)
    have hP : va_P (dC, dI) vwCl [(q_bp, .inr (0, [.ref q_bk, .ref q_sa, .ref q_te, .ref q_twk, .ref q_len, .ref q_dis, .int pt, .ref q_li, .ref q_rwk, .ref q_va, .ref q_lr])), (q_bk, .inr (1, [.int w, .int h, .int sty, .int bd, .int str, .int cel])), (q_va, .inl (k_va, n_va, .inl vals)), (q_lr, .inl (k_lr, n_lr, .inl lowr)), (q_wo, .inl (k_wo, n_wo, .inl wor)), (q_rwk, .inr (4, [.ref q_bk, .ref q_li, .ref q_rsg, .ref q_rsz, .ref q_rlo, .int rpls, .int rpl, .int rraw])), (q_rsg, .inl (k_rsg, n_rsg, .inl rsgn)), (q_rsz, .inl (k_rsz, n_rsz, .inl rsiz)), (q_rlo, .inl (k_rlo, n_rlo, .inl rlow)), (q_li, .inr (3, [.ref q_wo, .int lcn, .int (f_L_rewind).1, .int (f_L_rewind).2]))] H := hP
    have hD : va_D A [(q_bp, .inr (0, [.ref q_bk, .ref q_sa, .ref q_te, .ref q_twk, .ref q_len, .ref q_dis, .int pt, .ref q_li, .ref q_rwk, .ref q_va, .ref q_lr])), (q_bk, .inr (1, [.int w, .int h, .int sty, .int bd, .int str, .int cel])), (q_va, .inl (k_va, n_va, .inl vals)), (q_lr, .inl (k_lr, n_lr, .inl lowr)), (q_wo, .inl (k_wo, n_wo, .inl wor)), (q_rwk, .inr (4, [.ref q_bk, .ref q_li, .ref q_rsg, .ref q_rsz, .ref q_rlo, .int rpls, .int rpl, .int rraw])), (q_rsg, .inl (k_rsg, n_rsg, .inl rsgn)), (q_rsz, .inl (k_rsz, n_rsz, .inl rsiz)), (q_rlo, .inl (k_rlo, n_rlo, .inl rlow)), (q_li, .inr (3, [.ref q_wo, .int lcn, .int (f_L_rewind).1, .int (f_L_rewind).2]))] := hD
    refine lv_aload_n hx hb d_B_decode_40 rfl (lv_at hl 1 rfl) ?_
    refine va_get (D := (dC, dI)) (ci := 0) (v := .ref q_rwk) (C := R_B) (T := T_B) (N := 11) hx hb hts ki_B hown hK hP 0 rfl rfl 8 (by decide) (hts _ kw_1_161) (fun _ h9 => h9) rfl d_B_decode_41 ?_
    refine lv_iload_n hx hb d_B_decode_44 rfl (lv_at hl 2 rfl) ?_
    obtain ⟨u4, hc, hF⟩ := kc_bnd hF
    refine ku_call (wr := [(q_bp, .inr (0, [.ref q_bk, .ref q_sa, .ref q_te, .ref q_twk, .ref q_len, .ref q_dis, .int pt, .ref q_li, .ref q_rwk, .ref q_va, .ref q_lr])), (q_bk, .inr (1, [.int w, .int h, .int sty, .int bd, .int str, .int cel])), (q_va, .inl (k_va, n_va, .inl vals)), (q_lr, .inl (k_lr, n_lr, .inl lowr)), (q_wo, .inl (k_wo, n_wo, .inl wor)), (q_li, .inr (3, [.ref q_wo, .int lcn, .int (f_L_rewind).1, .int (f_L_rewind).2]))]) hA (va_runV (As := [.int a0]) (rest := []) ⟨hx, hb, hml, hown, hts⟩ (m_WL_begin l dC dI q_rwk q_rsg q_rsz q_rlo q_bk q_li k_rsg n_rsg k_rsz n_rsz k_rlo n_rlo rpls rpl rraw rsgn rsiz rlow a0 _ hc H.size) (cwV 1 hts (kgV kw_1_213 kw_1_214 kw_1_215 kw_1_6 kw_1_216) rfl rfl rfl (by decide +kernel) ⟨Nat.le_of_ble_eq_true rfl, Nat.le_of_ble_eq_true rfl⟩) ⟨kPre_blind, va_recv hK hP (ci := 4) (q0 := 5) rfl rfl, kPre_of (hP.sub [5, 6, 7, 8] rfl) (hK.sub [3, 4, 5] rfl) (hD.sub [5, 6, 7, 8] (by decide) rfl) hN⟩ rfl rfl hl.1 rfl (lv_room (Nat.le_of_ble_eq_true rfl)) d_B_decode_45 ⟨Nat.le_of_ble_eq_true rfl, Nat.le_of_ble_eq_true rfl⟩) hP hD hS [5, 6, 7, 8] [0, 1, 2, 3, 4, 9] rfl rfl (by decide) (by decide) (fun H locs hP hD hS => ?_)
    have hP : va_P (dC, dI) vwCl [(q_bp, .inr (0, [.ref q_bk, .ref q_sa, .ref q_te, .ref q_twk, .ref q_len, .ref q_dis, .int pt, .ref q_li, .ref q_rwk, .ref q_va, .ref q_lr])), (q_bk, .inr (1, [.int w, .int h, .int sty, .int bd, .int str, .int cel])), (q_va, .inl (k_va, n_va, .inl vals)), (q_lr, .inl (k_lr, n_lr, .inl lowr)), (q_wo, .inl (k_wo, n_wo, .inl wor)), (q_li, .inr (3, [.ref q_wo, .int lcn, .int (f_L_rewind).1, .int (f_L_rewind).2])), (q_rwk, .inr (4, [.ref q_bk, .ref q_li, .ref q_rsg, .ref q_rsz, .ref q_rlo, .int u4.1, .int rpl, .int rraw])), (q_rsg, .inl (k_rsg, n_rsg, .inl u4.2.1)), (q_rsz, .inl (k_rsz, n_rsz, .inl u4.2.2.1)), (q_rlo, .inl (k_rlo, n_rlo, .inl u4.2.2.2))] H := hP
    have hD : va_D A [(q_bp, .inr (0, [.ref q_bk, .ref q_sa, .ref q_te, .ref q_twk, .ref q_len, .ref q_dis, .int pt, .ref q_li, .ref q_rwk, .ref q_va, .ref q_lr])), (q_bk, .inr (1, [.int w, .int h, .int sty, .int bd, .int str, .int cel])), (q_va, .inl (k_va, n_va, .inl vals)), (q_lr, .inl (k_lr, n_lr, .inl lowr)), (q_wo, .inl (k_wo, n_wo, .inl wor)), (q_li, .inr (3, [.ref q_wo, .int lcn, .int (f_L_rewind).1, .int (f_L_rewind).2])), (q_rwk, .inr (4, [.ref q_bk, .ref q_li, .ref q_rsg, .ref q_rsz, .ref q_rlo, .int u4.1, .int rpl, .int rraw])), (q_rsg, .inl (k_rsg, n_rsg, .inl u4.2.1)), (q_rsz, .inl (k_rsz, n_rsz, .inl u4.2.2.1)), (q_rlo, .inl (k_rlo, n_rlo, .inl u4.2.2.2))] := hD
    refine lv_aload_n hx hb d_B_decode_48 rfl (lv_at hl 1 rfl) ?_
    obtain ⟨u5, hc, hF⟩ := kc_bnd hF
    refine ku_call (wr := [(q_bk, .inr (1, [.int w, .int h, .int sty, .int bd, .int str, .int cel])), (q_wo, .inl (k_wo, n_wo, .inl wor)), (q_li, .inr (3, [.ref q_wo, .int lcn, .int (f_L_rewind).1, .int (f_L_rewind).2]))]) hA (va_runV (As := []) (rest := []) ⟨hx, hb, hml, hown, hts⟩ (m_B_keepWhatIsRead l dC dI q_bp q_bk q_len q_dis q_va q_lr q_te q_sa q_twk q_li q_rwk q_rsg q_rsz q_rlo k_va n_va k_lr n_lr k_rsg n_rsg k_rsz n_rsz k_rlo n_rlo pt vals lowr u4.1 rpl rraw u4.2.1 u4.2.2.1 u4.2.2.2 _ hc H.size) (cwV 0 hts (kgV kw_3_109 kw_3_111 kp_21 kw_1_1 kw_3_112) rfl rfl rfl (by decide +kernel) ⟨Nat.le_of_ble_eq_true rfl, Nat.le_of_ble_eq_true rfl⟩) ⟨kPre_blind, va_recv hK hP (ci := 0) (q0 := 0) rfl rfl, kPre_of (hP.sub [0, 2, 3, 6, 7, 8, 9] rfl) (hK.sub [0, 1, 3, 4, 5] rfl) (hD.sub [0, 2, 3, 6, 7, 8, 9] (by decide) rfl) hN⟩ rfl rfl hl.1 rfl (lv_room (Nat.le_of_ble_eq_true rfl)) d_B_decode_49 ⟨Nat.le_of_ble_eq_true rfl, Nat.le_of_ble_eq_true rfl⟩) hP hD hS [0, 2, 3, 6, 7, 8, 9] [1, 4, 5] rfl rfl (by decide) (by decide) (fun H locs hP hD hS => ?_)
    have hP : va_P (dC, dI) vwCl [(q_bk, .inr (1, [.int w, .int h, .int sty, .int bd, .int str, .int cel])), (q_wo, .inl (k_wo, n_wo, .inl wor)), (q_li, .inr (3, [.ref q_wo, .int lcn, .int (f_L_rewind).1, .int (f_L_rewind).2])), (q_bp, .inr (0, [.ref q_bk, .ref q_sa, .ref q_te, .ref q_twk, .ref q_len, .ref q_dis, .int pt, .ref q_li, .ref q_rwk, .ref q_va, .ref q_lr])), (q_va, .inl (k_va, n_va, .inl u5.1)), (q_lr, .inl (k_lr, n_lr, .inl u5.2)), (q_rwk, .inr (4, [.ref q_bk, .ref q_li, .ref q_rsg, .ref q_rsz, .ref q_rlo, .int u4.1, .int rpl, .int rraw])), (q_rsg, .inl (k_rsg, n_rsg, .inl u4.2.1)), (q_rsz, .inl (k_rsz, n_rsz, .inl u4.2.2.1)), (q_rlo, .inl (k_rlo, n_rlo, .inl u4.2.2.2))] H := hP
    have hD : va_D A [(q_bk, .inr (1, [.int w, .int h, .int sty, .int bd, .int str, .int cel])), (q_wo, .inl (k_wo, n_wo, .inl wor)), (q_li, .inr (3, [.ref q_wo, .int lcn, .int (f_L_rewind).1, .int (f_L_rewind).2])), (q_bp, .inr (0, [.ref q_bk, .ref q_sa, .ref q_te, .ref q_twk, .ref q_len, .ref q_dis, .int pt, .ref q_li, .ref q_rwk, .ref q_va, .ref q_lr])), (q_va, .inl (k_va, n_va, .inl u5.1)), (q_lr, .inl (k_lr, n_lr, .inl u5.2)), (q_rwk, .inr (4, [.ref q_bk, .ref q_li, .ref q_rsg, .ref q_rsz, .ref q_rlo, .int u4.1, .int rpl, .int rraw])), (q_rsg, .inl (k_rsg, n_rsg, .inl u4.2.1)), (q_rsz, .inl (k_rsz, n_rsz, .inl u4.2.2.1)), (q_rlo, .inl (k_rlo, n_rlo, .inl u4.2.2.2))] := hD
    refine lv_iconst (v := 0) hx hb d_B_decode_52 (by decide) ?_
    refine lv_istore (lv' := [(4, .int (0 : Int32)), (3, .int (kmin a1 (f_ST_passesOf a0))), (0, .ref q_bp), (1, .int a0), (2, .int a1)]) hx hb d_B_decode_53 hl (by decide) rfl (fun ls hl => ?_)
    obtain ⟨u6, hcu6, hF⟩ := kc_bnd hF
    have hJu6_105 : u6.1 = 0 → ∀ (H : Heap) (locs : List Loc) (ls : Array Slot), va_P (dC, dI) vwCl [(q_bk, .inr (1, [.int w, .int h, .int sty, .int bd, .int str, .int cel])), (q_wo, .inl (k_wo, n_wo, .inl wor)), (q_li, .inr (3, [.ref q_wo, .int lcn, .int u6.2.2.2.2.1, .int u6.2.2.2.2.2.1])), (q_bp, .inr (0, [.ref q_bk, .ref q_sa, .ref q_te, .ref q_twk, .ref q_len, .ref q_dis, .int pt, .ref q_li, .ref q_rwk, .ref q_va, .ref q_lr])), (q_va, .inl (k_va, n_va, .inl u6.2.2.1)), (q_lr, .inl (k_lr, n_lr, .inl u6.2.2.2.1)), (q_rwk, .inr (4, [.ref q_bk, .ref q_li, .ref q_rsg, .ref q_rsz, .ref q_rlo, .int u4.1, .int u6.2.2.2.2.2.2.1, .int u6.2.2.2.2.2.2.2.1])), (q_rsg, .inl (k_rsg, n_rsg, .inl u6.2.2.2.2.2.2.2.2.1)), (q_rsz, .inl (k_rsz, n_rsz, .inl u6.2.2.2.2.2.2.2.2.2.1)), (q_rlo, .inl (k_rlo, n_rlo, .inl u6.2.2.2.2.2.2.2.2.2.2))] H → va_D A [(q_bk, .inr (1, [.int w, .int h, .int sty, .int bd, .int str, .int cel])), (q_wo, .inl (k_wo, n_wo, .inl wor)), (q_li, .inr (3, [.ref q_wo, .int lcn, .int u6.2.2.2.2.1, .int u6.2.2.2.2.2.1])), (q_bp, .inr (0, [.ref q_bk, .ref q_sa, .ref q_te, .ref q_twk, .ref q_len, .ref q_dis, .int pt, .ref q_li, .ref q_rwk, .ref q_va, .ref q_lr])), (q_va, .inl (k_va, n_va, .inl u6.2.2.1)), (q_lr, .inl (k_lr, n_lr, .inl u6.2.2.2.1)), (q_rwk, .inr (4, [.ref q_bk, .ref q_li, .ref q_rsg, .ref q_rsz, .ref q_rlo, .int u4.1, .int u6.2.2.2.2.2.2.1, .int u6.2.2.2.2.2.2.2.1])), (q_rsg, .inl (k_rsg, n_rsg, .inl u6.2.2.2.2.2.2.2.2.1)), (q_rsz, .inl (k_rsz, n_rsz, .inl u6.2.2.2.2.2.2.2.2.2.1)), (q_rlo, .inl (k_rlo, n_rlo, .inl u6.2.2.2.2.2.2.2.2.2.2))] → va_S A s.heap H locs → lv_has ls 6 [(4, .int u6.2.1), (3, .int (kmin a1 (f_ST_passesOf a0))), (0, .ref q_bp), (1, .int a0), (2, .int a1)] → W p l e rm_B_decode s m args below meth c H locs 0 0 Q (F0 m 105 ls []) := by
      intro htag
      intro H locs ls hP hD hS hl
      have hF := kc_pos htag hF
      refine lv_iload_n hx hb d_B_decode_105 rfl (lv_at hl 1 rfl) ?_
      obtain rfl := Option.some.inj hF
      exact xu_iret hx hb hr hlocks hQ (Nat.le_of_ble_eq_true rfl) (Nat.le_of_ble_eq_true rfl) (hP.sub [3, 0, 4, 5, 2, 1, 6, 7, 8, 9] rfl) (hD.sub [3, 0, 4, 5, 2, 1, 6, 7, 8, 9] (by decide) rfl) hS d_B_decode_106
    have hJu6_82 : u6.1 = 1 → ∀ (H : Heap) (locs : List Loc) (ls : Array Slot), va_P (dC, dI) vwCl [(q_bk, .inr (1, [.int w, .int h, .int sty, .int bd, .int str, .int cel])), (q_wo, .inl (k_wo, n_wo, .inl wor)), (q_li, .inr (3, [.ref q_wo, .int lcn, .int u6.2.2.2.2.1, .int u6.2.2.2.2.2.1])), (q_bp, .inr (0, [.ref q_bk, .ref q_sa, .ref q_te, .ref q_twk, .ref q_len, .ref q_dis, .int pt, .ref q_li, .ref q_rwk, .ref q_va, .ref q_lr])), (q_va, .inl (k_va, n_va, .inl u6.2.2.1)), (q_lr, .inl (k_lr, n_lr, .inl u6.2.2.2.1)), (q_rwk, .inr (4, [.ref q_bk, .ref q_li, .ref q_rsg, .ref q_rsz, .ref q_rlo, .int u4.1, .int u6.2.2.2.2.2.2.1, .int u6.2.2.2.2.2.2.2.1])), (q_rsg, .inl (k_rsg, n_rsg, .inl u6.2.2.2.2.2.2.2.2.1)), (q_rsz, .inl (k_rsz, n_rsz, .inl u6.2.2.2.2.2.2.2.2.2.1)), (q_rlo, .inl (k_rlo, n_rlo, .inl u6.2.2.2.2.2.2.2.2.2.2))] H → va_D A [(q_bk, .inr (1, [.int w, .int h, .int sty, .int bd, .int str, .int cel])), (q_wo, .inl (k_wo, n_wo, .inl wor)), (q_li, .inr (3, [.ref q_wo, .int lcn, .int u6.2.2.2.2.1, .int u6.2.2.2.2.2.1])), (q_bp, .inr (0, [.ref q_bk, .ref q_sa, .ref q_te, .ref q_twk, .ref q_len, .ref q_dis, .int pt, .ref q_li, .ref q_rwk, .ref q_va, .ref q_lr])), (q_va, .inl (k_va, n_va, .inl u6.2.2.1)), (q_lr, .inl (k_lr, n_lr, .inl u6.2.2.2.1)), (q_rwk, .inr (4, [.ref q_bk, .ref q_li, .ref q_rsg, .ref q_rsz, .ref q_rlo, .int u4.1, .int u6.2.2.2.2.2.2.1, .int u6.2.2.2.2.2.2.2.1])), (q_rsg, .inl (k_rsg, n_rsg, .inl u6.2.2.2.2.2.2.2.2.1)), (q_rsz, .inl (k_rsz, n_rsz, .inl u6.2.2.2.2.2.2.2.2.2.1)), (q_rlo, .inl (k_rlo, n_rlo, .inl u6.2.2.2.2.2.2.2.2.2.2))] → va_S A s.heap H locs → lv_has ls 6 [(4, .int u6.2.1), (3, .int (kmin a1 (f_ST_passesOf a0))), (0, .ref q_bp), (1, .int a0), (2, .int a1)] → W p l e rm_B_decode s m args below meth c H locs 0 0 Q (F0 m 82 ls []) := by
      intro htag
      intro H locs ls hP hD hS hl
      have hF := kc_neg (c := u6.1 = 0) (by rw [htag]; decide) hF
      have hF := kc_pos htag hF
      refine lv_iload hx hb d_B_decode_82 (lv_at hl 0 rfl) ?_
      obtain rfl := Option.some.inj hF
      exact xu_iret hx hb hr hlocks hQ (Nat.le_of_ble_eq_true rfl) (Nat.le_of_ble_eq_true rfl) (hP.sub [3, 0, 4, 5, 2, 1, 6, 7, 8, 9] rfl) (hD.sub [3, 0, 4, 5, 2, 1, 6, 7, 8, 9] (by decide) rfl) hS d_B_decode_84
    have hJu6_94 : u6.1 = 2 → ∀ (H : Heap) (locs : List Loc) (ls : Array Slot), va_P (dC, dI) vwCl [(q_bk, .inr (1, [.int w, .int h, .int sty, .int bd, .int str, .int cel])), (q_wo, .inl (k_wo, n_wo, .inl wor)), (q_li, .inr (3, [.ref q_wo, .int lcn, .int u6.2.2.2.2.1, .int u6.2.2.2.2.2.1])), (q_bp, .inr (0, [.ref q_bk, .ref q_sa, .ref q_te, .ref q_twk, .ref q_len, .ref q_dis, .int pt, .ref q_li, .ref q_rwk, .ref q_va, .ref q_lr])), (q_va, .inl (k_va, n_va, .inl u6.2.2.1)), (q_lr, .inl (k_lr, n_lr, .inl u6.2.2.2.1)), (q_rwk, .inr (4, [.ref q_bk, .ref q_li, .ref q_rsg, .ref q_rsz, .ref q_rlo, .int u4.1, .int u6.2.2.2.2.2.2.1, .int u6.2.2.2.2.2.2.2.1])), (q_rsg, .inl (k_rsg, n_rsg, .inl u6.2.2.2.2.2.2.2.2.1)), (q_rsz, .inl (k_rsz, n_rsz, .inl u6.2.2.2.2.2.2.2.2.2.1)), (q_rlo, .inl (k_rlo, n_rlo, .inl u6.2.2.2.2.2.2.2.2.2.2))] H → va_D A [(q_bk, .inr (1, [.int w, .int h, .int sty, .int bd, .int str, .int cel])), (q_wo, .inl (k_wo, n_wo, .inl wor)), (q_li, .inr (3, [.ref q_wo, .int lcn, .int u6.2.2.2.2.1, .int u6.2.2.2.2.2.1])), (q_bp, .inr (0, [.ref q_bk, .ref q_sa, .ref q_te, .ref q_twk, .ref q_len, .ref q_dis, .int pt, .ref q_li, .ref q_rwk, .ref q_va, .ref q_lr])), (q_va, .inl (k_va, n_va, .inl u6.2.2.1)), (q_lr, .inl (k_lr, n_lr, .inl u6.2.2.2.1)), (q_rwk, .inr (4, [.ref q_bk, .ref q_li, .ref q_rsg, .ref q_rsz, .ref q_rlo, .int u4.1, .int u6.2.2.2.2.2.2.1, .int u6.2.2.2.2.2.2.2.1])), (q_rsg, .inl (k_rsg, n_rsg, .inl u6.2.2.2.2.2.2.2.2.1)), (q_rsz, .inl (k_rsz, n_rsz, .inl u6.2.2.2.2.2.2.2.2.2.1)), (q_rlo, .inl (k_rlo, n_rlo, .inl u6.2.2.2.2.2.2.2.2.2.2))] → va_S A s.heap H locs → lv_has ls 6 [(4, .int u6.2.1), (3, .int (kmin a1 (f_ST_passesOf a0))), (0, .ref q_bp), (1, .int a0), (2, .int a1)] → W p l e rm_B_decode s m args below meth c H locs 0 0 Q (F0 m 94 ls []) := by
      intro htag
      intro H locs ls hP hD hS hl
      have hF := kc_neg (c := u6.1 = 0) (by rw [htag]; decide) hF
      have hF := kc_neg (c := u6.1 = 1) (by rw [htag]; decide) hF
      refine lv_iconst (v := -1) hx hb d_B_decode_94 (by decide) ?_
      refine lv_iload hx hb d_B_decode_95 (lv_at hl 0 rfl) ?_
      refine lv_isub hx hb d_B_decode_97 ?_
      obtain rfl := Option.some.inj hF
      exact xu_iret hx hb hr hlocks hQ (Nat.le_of_ble_eq_true rfl) (Nat.le_of_ble_eq_true rfl) (hP.sub [3, 0, 4, 5, 2, 1, 6, 7, 8, 9] rfl) (hD.sub [3, 0, 4, 5, 2, 1, 6, 7, 8, 9] (by decide) rfl) hS d_B_decode_98
    have hIu6 : ∀ (N : Nat) (v55_4 : Int32) (vals_55 : (Nat → Int32)) (lowr_55 : (Nat → Int32)) (lak_55 : Int32) (nxt_55 : Int32) (rpl_55 : Int32) (rraw_55 : Int32) (rsgn_55 : (Nat → Int32)) (rsiz_55 : (Nat → Int32)) (rlow_55 : (Nat → Int32)), f_B_decode_L55 w h sty bd str lcn wor n_va n_lr n_wo n_rsg n_rsz n_rlo a0 a1 u4 N v55_4 vals_55 lowr_55 lak_55 nxt_55 rpl_55 rraw_55 rsgn_55 rsiz_55 rlow_55 = some u6 → ∀ (H : Heap) (locs : List Loc) (ls : Array Slot), va_P (dC, dI) vwCl [(q_bk, .inr (1, [.int w, .int h, .int sty, .int bd, .int str, .int cel])), (q_wo, .inl (k_wo, n_wo, .inl wor)), (q_li, .inr (3, [.ref q_wo, .int lcn, .int lak_55, .int nxt_55])), (q_bp, .inr (0, [.ref q_bk, .ref q_sa, .ref q_te, .ref q_twk, .ref q_len, .ref q_dis, .int pt, .ref q_li, .ref q_rwk, .ref q_va, .ref q_lr])), (q_va, .inl (k_va, n_va, .inl vals_55)), (q_lr, .inl (k_lr, n_lr, .inl lowr_55)), (q_rwk, .inr (4, [.ref q_bk, .ref q_li, .ref q_rsg, .ref q_rsz, .ref q_rlo, .int u4.1, .int rpl_55, .int rraw_55])), (q_rsg, .inl (k_rsg, n_rsg, .inl rsgn_55)), (q_rsz, .inl (k_rsz, n_rsz, .inl rsiz_55)), (q_rlo, .inl (k_rlo, n_rlo, .inl rlow_55))] H → va_D A [(q_bk, .inr (1, [.int w, .int h, .int sty, .int bd, .int str, .int cel])), (q_wo, .inl (k_wo, n_wo, .inl wor)), (q_li, .inr (3, [.ref q_wo, .int lcn, .int lak_55, .int nxt_55])), (q_bp, .inr (0, [.ref q_bk, .ref q_sa, .ref q_te, .ref q_twk, .ref q_len, .ref q_dis, .int pt, .ref q_li, .ref q_rwk, .ref q_va, .ref q_lr])), (q_va, .inl (k_va, n_va, .inl vals_55)), (q_lr, .inl (k_lr, n_lr, .inl lowr_55)), (q_rwk, .inr (4, [.ref q_bk, .ref q_li, .ref q_rsg, .ref q_rsz, .ref q_rlo, .int u4.1, .int rpl_55, .int rraw_55])), (q_rsg, .inl (k_rsg, n_rsg, .inl rsgn_55)), (q_rsz, .inl (k_rsz, n_rsz, .inl rsiz_55)), (q_rlo, .inl (k_rlo, n_rlo, .inl rlow_55))] → va_S A s.heap H locs → lv_has ls 6 [(4, .int v55_4), (3, .int (kmin a1 (f_ST_passesOf a0))), (0, .ref q_bp), (1, .int a0), (2, .int a1)] → W p l e rm_B_decode s m args below meth c H locs 0 0 Q (F0 m 55 ls []) := by
      intro N
      induction N with
      | zero => intro v55_4 vals_55 lowr_55 lak_55 nxt_55 rpl_55 rraw_55 rsgn_55 rsiz_55 rlow_55 hF; rw [f_B_decode_L55] at hF; cases hF
      | succ N ih =>
        intro v55_4 vals_55 lowr_55 lak_55 nxt_55 rpl_55 rraw_55 rsgn_55 rsiz_55 rlow_55 hF
        intro H locs ls hP hD hS hl
        rw [f_B_decode_L55] at hF
        refine lv_iload hx hb d_B_decode_55 (lv_at hl 0 rfl) ?_
        refine lv_iload_n hx hb d_B_decode_57 rfl (lv_at hl 1 rfl) ?_
        refine lv_icmp_ge (tgt := 105) hx hb d_B_decode_58 (by decide) (fun c7 => ?_) (fun c7 => ?_)
        · have hF := kc_pos c7 hF
          obtain rfl := Option.some.inj hF
          exact hJu6_105 rfl _ _ _ hP hD hS (lv_sub hl [0, 1, 2, 3, 4] rfl)
        have hF := kc_neg c7 hF
        refine lv_aload_n hx hb d_B_decode_61 rfl (lv_at hl 2 rfl) ?_
        refine va_get (D := (dC, dI)) (ci := 0) (v := .ref q_rwk) (C := R_B) (T := T_B) (N := 11) hx hb hts ki_B hown hK hP 3 rfl rfl 8 (by decide) (hts _ kw_1_161) (fun _ h9 => h9) rfl d_B_decode_62 ?_
        refine lv_iload hx hb d_B_decode_65 (lv_at hl 0 rfl) ?_
        obtain ⟨u8, hc, hF⟩ := kc_bnd hF
        refine ku_call (wr := [(q_bp, .inr (0, [.ref q_bk, .ref q_sa, .ref q_te, .ref q_twk, .ref q_len, .ref q_dis, .int pt, .ref q_li, .ref q_rwk, .ref q_va, .ref q_lr])), (q_va, .inl (k_va, n_va, .inl vals_55)), (q_lr, .inl (k_lr, n_lr, .inl lowr_55))]) hA (va_runV (As := [.int v55_4]) (rest := []) ⟨hx, hb, hml, hown, hts⟩ (m_WL_goThrough l dC dI q_rwk q_rsg q_rsz q_rlo q_bk q_li q_wo k_rsg n_rsg k_rsz n_rsz k_rlo n_rlo k_wo n_wo u4.1 rpl_55 rraw_55 rsgn_55 rsiz_55 rlow_55 w h sty bd str cel lcn lak_55 nxt_55 wor v55_4 _ hc H.size) (cwV 1 hts (kgV kw_1_220 kw_1_221 kw_1_222 kw_1_6 kw_1_223) rfl rfl rfl (by decide +kernel) ⟨Nat.le_of_ble_eq_true rfl, Nat.le_of_ble_eq_true rfl⟩) ⟨kPre_blind, va_recv hK hP (ci := 4) (q0 := 6) rfl rfl, kPre_of (hP.sub [6, 7, 8, 9, 0, 2, 1] rfl) (hK.sub [3, 4, 5, 2] rfl) (hD.sub [6, 7, 8, 9, 0, 2, 1] (by decide) rfl) hN⟩ rfl rfl hl.1 rfl (lv_room (Nat.le_of_ble_eq_true rfl)) d_B_decode_67 ⟨Nat.le_of_ble_eq_true rfl, Nat.le_of_ble_eq_true rfl⟩) hP hD hS [6, 7, 8, 9, 0, 2, 1] [3, 4, 5] rfl rfl (by decide) (by decide) (fun H locs hP hD hS => ?_)
        have hP : va_P (dC, dI) vwCl [(q_bp, .inr (0, [.ref q_bk, .ref q_sa, .ref q_te, .ref q_twk, .ref q_len, .ref q_dis, .int pt, .ref q_li, .ref q_rwk, .ref q_va, .ref q_lr])), (q_va, .inl (k_va, n_va, .inl vals_55)), (q_lr, .inl (k_lr, n_lr, .inl lowr_55)), (q_rwk, .inr (4, [.ref q_bk, .ref q_li, .ref q_rsg, .ref q_rsz, .ref q_rlo, .int u4.1, .int u8.2.1, .int u8.2.2.1])), (q_rsg, .inl (k_rsg, n_rsg, .inl u8.2.2.2.1)), (q_rsz, .inl (k_rsz, n_rsz, .inl u8.2.2.2.2.1)), (q_rlo, .inl (k_rlo, n_rlo, .inl u8.2.2.2.2.2.1)), (q_bk, .inr (1, [.int w, .int h, .int sty, .int bd, .int str, .int cel])), (q_li, .inr (3, [.ref q_wo, .int lcn, .int u8.2.2.2.2.2.2.1, .int u8.2.2.2.2.2.2.2])), (q_wo, .inl (k_wo, n_wo, .inl wor))] H := hP
        have hD : va_D A [(q_bp, .inr (0, [.ref q_bk, .ref q_sa, .ref q_te, .ref q_twk, .ref q_len, .ref q_dis, .int pt, .ref q_li, .ref q_rwk, .ref q_va, .ref q_lr])), (q_va, .inl (k_va, n_va, .inl vals_55)), (q_lr, .inl (k_lr, n_lr, .inl lowr_55)), (q_rwk, .inr (4, [.ref q_bk, .ref q_li, .ref q_rsg, .ref q_rsz, .ref q_rlo, .int u4.1, .int u8.2.1, .int u8.2.2.1])), (q_rsg, .inl (k_rsg, n_rsg, .inl u8.2.2.2.1)), (q_rsz, .inl (k_rsz, n_rsz, .inl u8.2.2.2.2.1)), (q_rlo, .inl (k_rlo, n_rlo, .inl u8.2.2.2.2.2.1)), (q_bk, .inr (1, [.int w, .int h, .int sty, .int bd, .int str, .int cel])), (q_li, .inr (3, [.ref q_wo, .int lcn, .int u8.2.2.2.2.2.2.1, .int u8.2.2.2.2.2.2.2])), (q_wo, .inl (k_wo, n_wo, .inl wor))] := hD
        refine lv_istore (lv' := [(5, .int u8.1), (4, .int v55_4), (3, .int (kmin a1 (f_ST_passesOf a0))), (0, .ref q_bp), (1, .int a0), (2, .int a1)]) hx hb d_B_decode_70 hl (by decide) rfl (fun ls hl => ?_)
        refine lv_aload_n hx hb d_B_decode_72 rfl (lv_at hl 3 rfl) ?_
        refine va_get (D := (dC, dI)) (ci := 0) (v := .ref q_li) (C := R_B) (T := T_B) (N := 11) hx hb hts ki_B hown hK hP 0 rfl rfl 7 (by decide) (hts _ kw_1_160) (fun _ h9 => h9) rfl d_B_decode_73 ?_
        refine va_get (D := (dC, dI)) (ci := 3) (v := .int u8.2.2.2.2.2.2.1) (C := R_L) (T := T_L) (N := 4) hx hb hts ki_L hown hK hP 8 rfl rfl 2 (by decide) (hts _ kw_1_141) (fun _ h9 => h9) rfl d_B_decode_76 ?_
        refine lv_if_eq (tgt := 85) hx hb d_B_decode_79 (by decide) (fun c9 => ?_) (fun c9 => ?_)
        · have hF := kc_pos c9 hF
          refine lv_aload_n hx hb d_B_decode_85 rfl (lv_at hl 3 rfl) ?_
          obtain ⟨u10, hc, hF⟩ := kc_bnd hF
          refine ku_call (wr := [(q_bk, .inr (1, [.int w, .int h, .int sty, .int bd, .int str, .int cel])), (q_li, .inr (3, [.ref q_wo, .int lcn, .int u8.2.2.2.2.2.2.1, .int u8.2.2.2.2.2.2.2])), (q_wo, .inl (k_wo, n_wo, .inl wor))]) hA (va_runV (As := []) (rest := []) ⟨hx, hb, hml, hown, hts⟩ (m_B_keepWhatIsRead l dC dI q_bp q_bk q_len q_dis q_va q_lr q_te q_sa q_twk q_li q_rwk q_rsg q_rsz q_rlo k_va n_va k_lr n_lr k_rsg n_rsg k_rsz n_rsz k_rlo n_rlo pt vals_55 lowr_55 u4.1 u8.2.1 u8.2.2.1 u8.2.2.2.1 u8.2.2.2.2.1 u8.2.2.2.2.2.1 _ hc H.size) (cwV 0 hts (kgV kw_3_109 kw_3_111 kp_21 kw_1_1 kw_3_112) rfl rfl rfl (by decide +kernel) ⟨Nat.le_of_ble_eq_true rfl, Nat.le_of_ble_eq_true rfl⟩) ⟨kPre_blind, va_recv hK hP (ci := 0) (q0 := 0) rfl rfl, kPre_of (hP.sub [0, 1, 2, 3, 4, 5, 6] rfl) (hK.sub [0, 1, 3, 4, 5] rfl) (hD.sub [0, 1, 2, 3, 4, 5, 6] (by decide) rfl) hN⟩ rfl rfl hl.1 rfl (lv_room (Nat.le_of_ble_eq_true rfl)) d_B_decode_86 ⟨Nat.le_of_ble_eq_true rfl, Nat.le_of_ble_eq_true rfl⟩) hP hD hS [0, 1, 2, 3, 4, 5, 6] [7, 8, 9] rfl rfl (by decide) (by decide) (fun H locs hP hD hS => ?_)
          have hP : va_P (dC, dI) vwCl [(q_bk, .inr (1, [.int w, .int h, .int sty, .int bd, .int str, .int cel])), (q_li, .inr (3, [.ref q_wo, .int lcn, .int u8.2.2.2.2.2.2.1, .int u8.2.2.2.2.2.2.2])), (q_wo, .inl (k_wo, n_wo, .inl wor)), (q_bp, .inr (0, [.ref q_bk, .ref q_sa, .ref q_te, .ref q_twk, .ref q_len, .ref q_dis, .int pt, .ref q_li, .ref q_rwk, .ref q_va, .ref q_lr])), (q_va, .inl (k_va, n_va, .inl u10.1)), (q_lr, .inl (k_lr, n_lr, .inl u10.2)), (q_rwk, .inr (4, [.ref q_bk, .ref q_li, .ref q_rsg, .ref q_rsz, .ref q_rlo, .int u4.1, .int u8.2.1, .int u8.2.2.1])), (q_rsg, .inl (k_rsg, n_rsg, .inl u8.2.2.2.1)), (q_rsz, .inl (k_rsz, n_rsz, .inl u8.2.2.2.2.1)), (q_rlo, .inl (k_rlo, n_rlo, .inl u8.2.2.2.2.2.1))] H := hP
          have hD : va_D A [(q_bk, .inr (1, [.int w, .int h, .int sty, .int bd, .int str, .int cel])), (q_li, .inr (3, [.ref q_wo, .int lcn, .int u8.2.2.2.2.2.2.1, .int u8.2.2.2.2.2.2.2])), (q_wo, .inl (k_wo, n_wo, .inl wor)), (q_bp, .inr (0, [.ref q_bk, .ref q_sa, .ref q_te, .ref q_twk, .ref q_len, .ref q_dis, .int pt, .ref q_li, .ref q_rwk, .ref q_va, .ref q_lr])), (q_va, .inl (k_va, n_va, .inl u10.1)), (q_lr, .inl (k_lr, n_lr, .inl u10.2)), (q_rwk, .inr (4, [.ref q_bk, .ref q_li, .ref q_rsg, .ref q_rsz, .ref q_rlo, .int u4.1, .int u8.2.1, .int u8.2.2.1])), (q_rsg, .inl (k_rsg, n_rsg, .inl u8.2.2.2.1)), (q_rsz, .inl (k_rsz, n_rsz, .inl u8.2.2.2.2.1)), (q_rlo, .inl (k_rlo, n_rlo, .inl u8.2.2.2.2.2.1))] := hD
          refine lv_iload hx hb d_B_decode_89 (lv_at hl 0 rfl) ?_
          refine lv_if_ne (tgt := 99) hx hb d_B_decode_91 (by decide) (fun c11 => ?_) (fun c11 => ?_)
          · have hF := kc_neg c11 hF
            refine lv_iinc (v := (v55_4 + 1)) (lv' := [(4, .int (v55_4 + 1)), (5, .int u8.1), (3, .int (kmin a1 (f_ST_passesOf a0))), (0, .ref q_bp), (1, .int a0), (2, .int a1)]) hx hb d_B_decode_99 hl (k := 1) rfl rfl (by decide) rfl (fun ls hl => ?_)
            refine lv_goto (tgt := 55) hx hb d_B_decode_102 (by decide) ?_
            exact ih _ _ _ _ _ _ _ _ _ _ hF _ _ _ (hP.sub [0, 2, 1, 3, 4, 5, 6, 7, 8, 9] rfl) (hD.sub [0, 2, 1, 3, 4, 5, 6, 7, 8, 9] (by decide) rfl) hS (lv_sub hl [0, 2, 3, 4, 5] rfl)
          have hF := kc_pos c11 hF
          obtain rfl := Option.some.inj hF
          exact hJu6_94 rfl _ _ _ (hP.sub [0, 2, 1, 3, 4, 5, 6, 7, 8, 9] rfl) (hD.sub [0, 2, 1, 3, 4, 5, 6, 7, 8, 9] (by decide) rfl) hS (lv_sub hl [1, 2, 3, 4, 5] rfl)
        have hF := kc_neg c9 hF
        obtain rfl := Option.some.inj hF
        exact hJu6_82 rfl _ _ _ (hP.sub [7, 9, 8, 0, 1, 2, 3, 4, 5, 6] rfl) (hD.sub [7, 9, 8, 0, 1, 2, 3, 4, 5, 6] (by decide) rfl) hS (lv_sub hl [1, 2, 3, 4, 5] rfl)
    exact hIu6 _ _ _ _ _ _ _ _ _ _ _ hcu6 _ _ _ hP hD hS (lv_sub hl [0, 1, 2, 3, 4] rfl)
  have hF := kc_neg c3 hF
  obtain rfl := Option.some.inj hF
  obtain ⟨sa, hstr⟩ := xs_170 hXK.2.1
  exact xthrow (tag := 2) (names := ["java/lang/RuntimeException", "java/lang/Exception"]) (ic := 79) (tx := _) hfl hx hb (hml.trans hl.1.symm) hno hlocks hQ (by decide) (hP.sub [0, 1, 2, 3, 4, 5, 6, 7, 8, 9] rfl) (hD.sub [0, 1, 2, 3, 4, 5, 6, 7, 8, 9] (by decide) rfl) hown (hts _ kw_2_212) (hts _ kw_2_213) (hts _ kw_1_13) hstr (by decide +kernel) (by decide +kernel) (x_atoms xall_2 hts (xn_2 hXK.2.2) hXK) d_B_decode_14 d_B_decode_17 d_B_decode_18 d_B_decode_20 d_B_decode_23 (Nat.le_of_ble_eq_true rfl) (Nat.le_of_ble_eq_true rfl) (Nat.le_of_ble_eq_true rfl) (Nat.le_of_ble_eq_true rfl) (Nat.le_of_ble_eq_true rfl) (Nat.le_of_ble_eq_true rfl)
abbrev rm_B_at : Room := { frames := 7, cells := 1, slots := 6, locals := 104 }
set_option maxHeartbeats 4000000 in
set_option maxRecDepth 100000 in
theorem m_B_at (l : Launch) (dC : Nat → ClassId) (dI : Nat → Nat → Nat) (q_bp q_bk q_len q_dis q_va q_lr q_te q_sa q_twk q_li q_rwk : Nat) (k_va : ClassId) (n_va : Nat) (pt : Int32) (w : Int32) (h : Int32) (sty : Int32) (bd : Int32) (str : Int32) (cel : Int32) (vals : (Nat → Int32)) (a0 : Int32) (a1 : Int32) (hfl : l.flags = pinnedFlags ++ [noTraceFlag]) (u : Nat × Int32) (hF : f_B_at w h str vals n_va a0 a1 = some u) : ∀ sz : Nat, xMet l y_B_at (kws y_B_at c_B_at 3 (some .int)) rm_B_at (xPre (dC, dI) [.ref q_bp, .int a0, .int a1] [(q_bp, .inr (0, [.ref q_bk, .ref q_sa, .ref q_te, .ref q_twk, .ref q_len, .ref q_dis, .int pt, .ref q_li, .ref q_rwk, .ref q_va, .ref q_lr])), (q_bk, .inr (1, [.int w, .int h, .int sty, .int bd, .int str, .int cel])), (q_va, .inl (k_va, n_va, .inl vals))] [(k_va, .int)] sz) (xR u.1 (dC, dI) (some (.int u.2)) [(q_bp, .inr (0, [.ref q_bk, .ref q_sa, .ref q_te, .ref q_twk, .ref q_len, .ref q_dis, .int pt, .ref q_li, .ref q_rwk, .ref q_va, .ref q_lr])), (q_bk, .inr (1, [.int w, .int h, .int sty, .int bd, .int str, .int cel])), (q_va, .inl (k_va, n_va, .inl vals))] (va_A [(q_bp, .inr (0, [.ref q_bk, .ref q_sa, .ref q_te, .ref q_twk, .ref q_len, .ref q_dis, .int pt, .ref q_li, .ref q_rwk, .ref q_va, .ref q_lr])), (q_bk, .inr (1, [.int w, .int h, .int sty, .int bd, .int str, .int cel])), (q_va, .inl (k_va, n_va, .inl vals))] sz)) (xX u.1 (dC, dI) [(q_bp, .inr (0, [.ref q_bk, .ref q_sa, .ref q_te, .ref q_twk, .ref q_len, .ref q_dis, .int pt, .ref q_li, .ref q_rwk, .ref q_va, .ref q_lr])), (q_bk, .inr (1, [.int w, .int h, .int sty, .int bd, .int str, .int cel])), (q_va, .inl (k_va, n_va, .inl vals))] (va_A [(q_bp, .inr (0, [.ref q_bk, .ref q_sa, .ref q_te, .ref q_twk, .ref q_len, .ref q_dis, .int pt, .ref q_li, .ref q_rwk, .ref q_va, .ref q_lr])), (q_bk, .inr (1, [.int w, .int h, .int sty, .int bd, .int str, .int cel])), (q_va, .inl (k_va, n_va, .inl vals))] sz)) 1 6 (va_A [(q_bp, .inr (0, [.ref q_bk, .ref q_sa, .ref q_te, .ref q_twk, .ref q_len, .ref q_dis, .int pt, .ref q_li, .ref q_rwk, .ref q_va, .ref q_lr])), (q_bk, .inr (1, [.int w, .int h, .int sty, .int bd, .int str, .int cel])), (q_va, .inl (k_va, n_va, .inl vals))] sz) 1 6 (va_A [(q_bp, .inr (0, [.ref q_bk, .ref q_sa, .ref q_te, .ref q_twk, .ref q_len, .ref q_dis, .int pt, .ref q_li, .ref q_rwk, .ref q_va, .ref q_lr])), (q_bk, .inr (1, [.int w, .int h, .int sty, .int bd, .int str, .int cel])), (q_va, .inl (k_va, n_va, .inl vals))] sz) := by
  unfold f_B_at at hF
  refine xU_of (Qc := fun A => xR u.1 (dC, dI) (some (.int u.2)) [(q_bp, .inr (0, [.ref q_bk, .ref q_sa, .ref q_te, .ref q_twk, .ref q_len, .ref q_dis, .int pt, .ref q_li, .ref q_rwk, .ref q_va, .ref q_lr])), (q_bk, .inr (1, [.int w, .int h, .int sty, .int bd, .int str, .int cel])), (q_va, .inl (k_va, n_va, .inl vals))] A) (rc := 1) (rs := 6) (rf := fun A => A) (cc := c_B_at) (maxL := 3) (ret := (some .int)) (by decide) (Nat.le_of_ble_eq_true rfl) ?_
  intro p e s m args below meth c Q A hQ hfx hno hK hN hXK hA hP hD ls hl
  have hS : va_S A s.heap s.heap [] := va_S.rf
  obtain ⟨hx, hb, hr, hml, hown, hts, hlocks⟩ := hfx
  have hown : s.vm.findClass R_B = some m.cls := hown
  have hl : lv_has ls 3 [(0, .ref q_bp), (1, .int a0), (2, .int a1)] := hl
  refine lv_aload_n hx hb d_B_at_0 rfl (lv_at hl 0 rfl) ?_
  refine lv_iload_n hx hb d_B_at_1 rfl (lv_at hl 1 rfl) ?_
  refine lv_iload_n hx hb d_B_at_2 rfl (lv_at hl 2 rfl) ?_
  obtain ⟨u1, hc, hF⟩ := kc_bnd hF
  refine xc_call (tag := u1) (wr := [(q_va, .inl (k_va, n_va, .inl vals))]) hA (xrunV (As := [.int a0, .int a1]) (rest := []) ⟨hx, hb, hml, hown, hts⟩ (m_B_mustHoldSample l dC dI q_bp q_bk q_len q_dis q_va q_lr q_te q_sa q_twk q_li q_rwk pt w h sty bd str cel a0 a1 hfl _ hc s.heap.size) (cwV 2 hts (kgV kw_2_136 kw_2_138 kp_17 kw_1_1 kw_2_139) rfl rfl rfl (by decide +kernel) ⟨Nat.le_of_ble_eq_true rfl, Nat.le_of_ble_eq_true rfl⟩) ⟨xPre_blind, va_recv hK hP (ci := 0) (q0 := 0) rfl rfl, xPre_of (hP.sub [0, 1] rfl) (hK.sub [] rfl) (hD.sub [0, 1] (by decide) rfl) hN hXK⟩ rfl rfl hl.1 rfl (lv_room (Nat.le_of_ble_eq_true rfl)) d_B_at_3 ⟨Nat.le_of_ble_eq_true rfl, Nat.le_of_ble_eq_true rfl⟩) hP hD hS [0, 1] [2] rfl rfl (by decide) (by decide) (fun htag H locs q ce hP hD hS hce hcv hcl => ?_) (fun htag => ?_)
  · have hP : va_P (dC, dI) vwCl [(q_va, .inl (k_va, n_va, .inl vals)), (q_bp, .inr (0, [.ref q_bk, .ref q_sa, .ref q_te, .ref q_twk, .ref q_len, .ref q_dis, .int pt, .ref q_li, .ref q_rwk, .ref q_va, .ref q_lr])), (q_bk, .inr (1, [.int w, .int h, .int sty, .int bd, .int str, .int cel]))] H := hP
    have hD : va_D A [(q_va, .inl (k_va, n_va, .inl vals)), (q_bp, .inr (0, [.ref q_bk, .ref q_sa, .ref q_te, .ref q_twk, .ref q_len, .ref q_dis, .int pt, .ref q_li, .ref q_rwk, .ref q_va, .ref q_lr])), (q_bk, .inr (1, [.int w, .int h, .int sty, .int bd, .int str, .int cel]))] := hD
    have hF := kc_neg htag hF
    obtain rfl := Option.some.inj hF
    exact xout hno hlocks hQ htag (hP.sub [1, 2, 0] rfl) (hD.sub [1, 2, 0] (by decide) rfl) hS hce hcv hcl (Nat.le_of_ble_eq_true rfl) (Nat.le_of_ble_eq_true rfl)
  have hF := kc_pos htag hF
  refine lv_aload_n hx hb d_B_at_6 rfl (lv_at hl 0 rfl) ?_
  refine va_get (D := (dC, dI)) (ci := 0) (v := .ref q_va) (C := R_B) (T := T_B) (N := 11) hx hb hts ki_B hown hK hP 0 rfl rfl 9 (by decide) (hts _ kw_1_162) (fun _ h9 => h9) rfl d_B_at_7 ?_
  refine lv_aload_n hx hb d_B_at_10 rfl (lv_at hl 0 rfl) ?_
  refine va_get (D := (dC, dI)) (ci := 0) (v := .ref q_bk) (C := R_B) (T := T_B) (N := 11) hx hb hts ki_B hown hK hP 0 rfl rfl 0 (by decide) (hts _ kw_1_153) (fun _ h9 => h9) rfl d_B_at_11 ?_
  refine lv_iload_n hx hb d_B_at_14 rfl (lv_at hl 1 rfl) ?_
  refine lv_iload_n hx hb d_B_at_15 rfl (lv_at hl 2 rfl) ?_
  refine kr_call (va_runV (As := [.int a0, .int a1]) (rest := [.ref q_va]) ⟨hx, hb, hml, hown, hts⟩ (m_K_cellOf l dC dI q_bk w h sty bd str cel a0 a1 (f_K_cellOf str a0 a1) rfl) (cwV 2 hts (kgV kw_1_191 kw_1_192 kw_1_193 kw_1_2 kw_1_194) rfl rfl rfl (by decide +kernel) ⟨Nat.le_of_ble_eq_true rfl, Nat.le_of_ble_eq_true rfl⟩) ⟨kRe_blind, va_recv hK hP (ci := 1) (q0 := 1) rfl rfl, kRe_of (hP.sub [1] rfl) (hK.sub [] rfl) hN⟩ rfl rfl hl.1 rfl (lv_room (Nat.le_of_ble_eq_true rfl)) d_B_at_16 ⟨Nat.le_of_ble_eq_true rfl, Nat.le_of_ble_eq_true rfl⟩) ?_
  obtain ⟨h2, hF⟩ := kc_no hF
  refine va_iald hx hb hK hP 2 0 rfl rfl h2 d_B_at_19 ?_
  obtain rfl := Option.some.inj hF
  exact xu_iret hx hb hr hlocks hQ (Nat.le_of_ble_eq_true rfl) (Nat.le_of_ble_eq_true rfl) (hP.sub [0, 1, 2] rfl) (hD.sub [0, 1, 2] (by decide) rfl) hS d_B_at_20
abbrev rm_B_known : Room := { frames := 7, cells := 1, slots := 6, locals := 104 }
set_option maxHeartbeats 4000000 in
set_option maxRecDepth 100000 in
theorem m_B_known (l : Launch) (dC : Nat → ClassId) (dI : Nat → Nat → Nat) (q_bp q_bk q_len q_dis q_va q_lr q_te q_sa q_twk q_li q_rwk : Nat) (k_lr : ClassId) (n_lr : Nat) (pt : Int32) (w : Int32) (h : Int32) (sty : Int32) (bd : Int32) (str : Int32) (cel : Int32) (lowr : (Nat → Int32)) (a0 : Int32) (a1 : Int32) (hfl : l.flags = pinnedFlags ++ [noTraceFlag]) (u : Nat × Int32) (hF : f_B_known w h str lowr n_lr a0 a1 = some u) : ∀ sz : Nat, xMet l y_B_known (kws y_B_known c_B_known 3 (some .int)) rm_B_known (xPre (dC, dI) [.ref q_bp, .int a0, .int a1] [(q_bp, .inr (0, [.ref q_bk, .ref q_sa, .ref q_te, .ref q_twk, .ref q_len, .ref q_dis, .int pt, .ref q_li, .ref q_rwk, .ref q_va, .ref q_lr])), (q_bk, .inr (1, [.int w, .int h, .int sty, .int bd, .int str, .int cel])), (q_lr, .inl (k_lr, n_lr, .inl lowr))] [(k_lr, .int)] sz) (xR u.1 (dC, dI) (some (.int u.2)) [(q_bp, .inr (0, [.ref q_bk, .ref q_sa, .ref q_te, .ref q_twk, .ref q_len, .ref q_dis, .int pt, .ref q_li, .ref q_rwk, .ref q_va, .ref q_lr])), (q_bk, .inr (1, [.int w, .int h, .int sty, .int bd, .int str, .int cel])), (q_lr, .inl (k_lr, n_lr, .inl lowr))] (va_A [(q_bp, .inr (0, [.ref q_bk, .ref q_sa, .ref q_te, .ref q_twk, .ref q_len, .ref q_dis, .int pt, .ref q_li, .ref q_rwk, .ref q_va, .ref q_lr])), (q_bk, .inr (1, [.int w, .int h, .int sty, .int bd, .int str, .int cel])), (q_lr, .inl (k_lr, n_lr, .inl lowr))] sz)) (xX u.1 (dC, dI) [(q_bp, .inr (0, [.ref q_bk, .ref q_sa, .ref q_te, .ref q_twk, .ref q_len, .ref q_dis, .int pt, .ref q_li, .ref q_rwk, .ref q_va, .ref q_lr])), (q_bk, .inr (1, [.int w, .int h, .int sty, .int bd, .int str, .int cel])), (q_lr, .inl (k_lr, n_lr, .inl lowr))] (va_A [(q_bp, .inr (0, [.ref q_bk, .ref q_sa, .ref q_te, .ref q_twk, .ref q_len, .ref q_dis, .int pt, .ref q_li, .ref q_rwk, .ref q_va, .ref q_lr])), (q_bk, .inr (1, [.int w, .int h, .int sty, .int bd, .int str, .int cel])), (q_lr, .inl (k_lr, n_lr, .inl lowr))] sz)) 1 6 (va_A [(q_bp, .inr (0, [.ref q_bk, .ref q_sa, .ref q_te, .ref q_twk, .ref q_len, .ref q_dis, .int pt, .ref q_li, .ref q_rwk, .ref q_va, .ref q_lr])), (q_bk, .inr (1, [.int w, .int h, .int sty, .int bd, .int str, .int cel])), (q_lr, .inl (k_lr, n_lr, .inl lowr))] sz) 1 6 (va_A [(q_bp, .inr (0, [.ref q_bk, .ref q_sa, .ref q_te, .ref q_twk, .ref q_len, .ref q_dis, .int pt, .ref q_li, .ref q_rwk, .ref q_va, .ref q_lr])), (q_bk, .inr (1, [.int w, .int h, .int sty, .int bd, .int str, .int cel])), (q_lr, .inl (k_lr, n_lr, .inl lowr))] sz) := by
  unfold f_B_known at hF
  refine xU_of (Qc := fun A => xR u.1 (dC, dI) (some (.int u.2)) [(q_bp, .inr (0, [.ref q_bk, .ref q_sa, .ref q_te, .ref q_twk, .ref q_len, .ref q_dis, .int pt, .ref q_li, .ref q_rwk, .ref q_va, .ref q_lr])), (q_bk, .inr (1, [.int w, .int h, .int sty, .int bd, .int str, .int cel])), (q_lr, .inl (k_lr, n_lr, .inl lowr))] A) (rc := 1) (rs := 6) (rf := fun A => A) (cc := c_B_known) (maxL := 3) (ret := (some .int)) (by decide) (Nat.le_of_ble_eq_true rfl) ?_
  intro p e s m args below meth c Q A hQ hfx hno hK hN hXK hA hP hD ls hl
  have hS : va_S A s.heap s.heap [] := va_S.rf
  obtain ⟨hx, hb, hr, hml, hown, hts, hlocks⟩ := hfx
  have hown : s.vm.findClass R_B = some m.cls := hown
  have hl : lv_has ls 3 [(0, .ref q_bp), (1, .int a0), (2, .int a1)] := hl
  refine lv_aload_n hx hb d_B_known_0 rfl (lv_at hl 0 rfl) ?_
  refine lv_iload_n hx hb d_B_known_1 rfl (lv_at hl 1 rfl) ?_
  refine lv_iload_n hx hb d_B_known_2 rfl (lv_at hl 2 rfl) ?_
  obtain ⟨u1, hc, hF⟩ := kc_bnd hF
  refine xc_call (tag := u1) (wr := [(q_lr, .inl (k_lr, n_lr, .inl lowr))]) hA (xrunV (As := [.int a0, .int a1]) (rest := []) ⟨hx, hb, hml, hown, hts⟩ (m_B_mustHoldSample l dC dI q_bp q_bk q_len q_dis q_va q_lr q_te q_sa q_twk q_li q_rwk pt w h sty bd str cel a0 a1 hfl _ hc s.heap.size) (cwV 2 hts (kgV kw_2_136 kw_2_138 kp_17 kw_1_1 kw_2_139) rfl rfl rfl (by decide +kernel) ⟨Nat.le_of_ble_eq_true rfl, Nat.le_of_ble_eq_true rfl⟩) ⟨xPre_blind, va_recv hK hP (ci := 0) (q0 := 0) rfl rfl, xPre_of (hP.sub [0, 1] rfl) (hK.sub [] rfl) (hD.sub [0, 1] (by decide) rfl) hN hXK⟩ rfl rfl hl.1 rfl (lv_room (Nat.le_of_ble_eq_true rfl)) d_B_known_3 ⟨Nat.le_of_ble_eq_true rfl, Nat.le_of_ble_eq_true rfl⟩) hP hD hS [0, 1] [2] rfl rfl (by decide) (by decide) (fun htag H locs q ce hP hD hS hce hcv hcl => ?_) (fun htag => ?_)
  · have hP : va_P (dC, dI) vwCl [(q_lr, .inl (k_lr, n_lr, .inl lowr)), (q_bp, .inr (0, [.ref q_bk, .ref q_sa, .ref q_te, .ref q_twk, .ref q_len, .ref q_dis, .int pt, .ref q_li, .ref q_rwk, .ref q_va, .ref q_lr])), (q_bk, .inr (1, [.int w, .int h, .int sty, .int bd, .int str, .int cel]))] H := hP
    have hD : va_D A [(q_lr, .inl (k_lr, n_lr, .inl lowr)), (q_bp, .inr (0, [.ref q_bk, .ref q_sa, .ref q_te, .ref q_twk, .ref q_len, .ref q_dis, .int pt, .ref q_li, .ref q_rwk, .ref q_va, .ref q_lr])), (q_bk, .inr (1, [.int w, .int h, .int sty, .int bd, .int str, .int cel]))] := hD
    have hF := kc_neg htag hF
    obtain rfl := Option.some.inj hF
    exact xout hno hlocks hQ htag (hP.sub [1, 2, 0] rfl) (hD.sub [1, 2, 0] (by decide) rfl) hS hce hcv hcl (Nat.le_of_ble_eq_true rfl) (Nat.le_of_ble_eq_true rfl)
  have hF := kc_pos htag hF
  refine lv_aload_n hx hb d_B_known_6 rfl (lv_at hl 0 rfl) ?_
  refine va_get (D := (dC, dI)) (ci := 0) (v := .ref q_lr) (C := R_B) (T := T_B) (N := 11) hx hb hts ki_B hown hK hP 0 rfl rfl 10 (by decide) (hts _ kw_1_163) (fun _ h9 => h9) rfl d_B_known_7 ?_
  refine lv_aload_n hx hb d_B_known_10 rfl (lv_at hl 0 rfl) ?_
  refine va_get (D := (dC, dI)) (ci := 0) (v := .ref q_bk) (C := R_B) (T := T_B) (N := 11) hx hb hts ki_B hown hK hP 0 rfl rfl 0 (by decide) (hts _ kw_1_153) (fun _ h9 => h9) rfl d_B_known_11 ?_
  refine lv_iload_n hx hb d_B_known_14 rfl (lv_at hl 1 rfl) ?_
  refine lv_iload_n hx hb d_B_known_15 rfl (lv_at hl 2 rfl) ?_
  refine kr_call (va_runV (As := [.int a0, .int a1]) (rest := [.ref q_lr]) ⟨hx, hb, hml, hown, hts⟩ (m_K_cellOf l dC dI q_bk w h sty bd str cel a0 a1 (f_K_cellOf str a0 a1) rfl) (cwV 2 hts (kgV kw_1_191 kw_1_192 kw_1_193 kw_1_2 kw_1_194) rfl rfl rfl (by decide +kernel) ⟨Nat.le_of_ble_eq_true rfl, Nat.le_of_ble_eq_true rfl⟩) ⟨kRe_blind, va_recv hK hP (ci := 1) (q0 := 1) rfl rfl, kRe_of (hP.sub [1] rfl) (hK.sub [] rfl) hN⟩ rfl rfl hl.1 rfl (lv_room (Nat.le_of_ble_eq_true rfl)) d_B_known_16 ⟨Nat.le_of_ble_eq_true rfl, Nat.le_of_ble_eq_true rfl⟩) ?_
  obtain ⟨h2, hF⟩ := kc_no hF
  refine va_iald hx hb hK hP 2 0 rfl rfl h2 d_B_known_19 ?_
  obtain rfl := Option.some.inj hF
  exact xu_iret hx hb hr hlocks hQ (Nat.le_of_ble_eq_true rfl) (Nat.le_of_ble_eq_true rfl) (hP.sub [0, 1, 2] rfl) (hD.sub [0, 1, 2] (by decide) rfl) hS d_B_known_20

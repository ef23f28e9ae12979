def f_MS_within (a0 : Int64) : Int32 :=
  (if (lg_cmp a0 (32767 : Int64)) ≤ 0 then (if 0 ≤ (lg_cmp a0 (-32767 : Int64)) then a0.toInt32 else (-32767 : Int32)) else (32767 : Int32))
def f_MS_passesFor (a0 : Int32) : Int32 :=
  (if a0 = 0 then (0 : Int32) else (((3 : Int32) * a0) - (2 : Int32)))
def f_MS_kindOf (a0 : Int32) : Int32 :=
  (if a0 = 0 then (2 : Int32) else (krem (a0 - (1 : Int32)) (3 : Int32)))
def f_MS_brought (a0 : Int32) : Int32 :=
  (if a0 ≤ (1 : Int32) then (if (-1 : Int32) ≤ a0 then a0 else (-1 : Int32)) else (1 : Int32))
def f_M_thrown (mref : Int32) : Int32 :=
  mref
def f_M_has (mst : Int32) (a0 : Int32) : Int32 :=
  (if (mst &&& a0) = 0 then (0 : Int32) else (1 : Int32))
def f_M_isIn (mw : Int32) (mh : Int32) (a0 : Int32) (a1 : Int32) : Int32 :=
  (if a0 < 0 then (0 : Int32) else (if mw ≤ a0 then (0 : Int32) else (if a1 < 0 then (0 : Int32) else (if mh ≤ a1 then (0 : Int32) else (1 : Int32)))))
def f_M_put (mw : Int32) (mh : Int32) (msam : (Nat → Int32)) (n_msa : Nat) (a0 : Int32) (a1 : Int32) (a2 : Int32) : Option (Int32 × Int32 × (Nat → Int32)) :=
  (((if (f_M_isIn mw mh a0 a1) = 0 then some (1 : Int32) else (if a2 < (-32767 : Int32) then some (2 : Int32) else (if a2 ≤ (32767 : Int32) then some (0 : Int32) else some (2 : Int32)))) : Option (Int32)).bind fun u2 => (if u2 ≤ 0 then if ((((16 : Int32) * a1) + a0) < 0 ∨ n_msa ≤ (((16 : Int32) * a1) + a0).toNatClampNeg) then none else if ((((16 : Int32) * a1) + a0) < 0 ∨ n_msa ≤ (((16 : Int32) * a1) + a0).toNatClampNeg) then none else some ((msam (((16 : Int32) * a1) + a0).toNatClampNeg), u2, (upd msam (((16 : Int32) * a1) + a0).toNatClampNeg a2)) else some ((0 : Int32), u2, msam)))
def f_M_paint_L25 (mw : Int32) (n_msa : Nat) (a1 : Int32) (v13_5 : Int32) : Nat → Int32 → Int32 → Int32 → (Nat → Int32) → Option (Int32 × Int32 × Int32 × (Nat → Int32))
  | 0, _, _, _, _ => none
  | N + 1, v25_3, v25_4, v25_6, msam_25 => (if mw ≤ v25_6 then some (v25_3, v25_4, v25_6, msam_25) else if ((((16 : Int32) * v13_5) + v25_6) < 0 ∨ n_msa ≤ (((16 : Int32) * v13_5) + v25_6).toNatClampNeg) then none else (((if (msam_25 (((16 : Int32) * v13_5) + v25_6).toNatClampNeg) = (f_MS_within v25_4.toInt64) then some (v25_3) else some (v25_3 + (1 : Int32))) : Option (Int32)).bind fun u7 => if ((((16 : Int32) * v13_5) + v25_6) < 0 ∨ n_msa ≤ (((16 : Int32) * v13_5) + v25_6).toNatClampNeg) then none else f_M_paint_L25 mw n_msa a1 v13_5 N u7 (v25_4 + a1) (v25_6 + 1) (upd msam_25 (((16 : Int32) * v13_5) + v25_6).toNatClampNeg (f_MS_within v25_4.toInt64))))
def f_M_paint_L13 (mw : Int32) (mh : Int32) (n_msa : Nat) (a1 : Int32) : Nat → Int32 → Int32 → Int32 → (Nat → Int32) → Option (Int32 × Int32 × Int32 × (Nat → Int32))
  | 0, _, _, _, _ => none
  | N + 1, v13_3, v13_4, v13_5, msam_13 => (if mh ≤ v13_5 then some (v13_3, v13_4, v13_5, msam_13) else ((f_M_paint_L25 mw n_msa a1 v13_5 kBig v13_3 v13_4 (0 : Int32) msam_13).bind fun u3 => f_M_paint_L13 mw mh n_msa a1 N u3.1 u3.2.1 (v13_5 + 1) u3.2.2.2))
def f_M_paint (mw : Int32) (mh : Int32) (msam : (Nat → Int32)) (n_msa : Nat) (a0 : Int32) (a1 : Int32) : Option (Int32 × Int32 × (Nat → Int32)) :=
  ((f_M_paint_L13 mw mh n_msa a1 kBig (0 : Int32) a0 (0 : Int32) msam).bind fun u1 => some (u1.1, (0 : Int32), u1.2.2.2))
def f_M_sizeOf (msam : (Nat → Int32)) (n_msa : Nat) (a0 : Int32) : Option (Int32) :=
  if (a0 < 0 ∨ n_msa ≤ a0.toNatClampNeg) then none else (if 0 ≤ (msam a0.toNatClampNeg) then if (a0 < 0 ∨ n_msa ≤ a0.toNatClampNeg) then none else some (msam a0.toNatClampNeg) else if (a0 < 0 ∨ n_msa ≤ a0.toNatClampNeg) then none else some (-(msam a0.toNatClampNeg)))
def f_M_planes_L27 (u1 : Int32 × Int32) : Nat → Int32 → Option (Int32)
  | 0, _ => none
  | N + 1, v27_2 => (if (u1.1 >>> (v27_2 &&& 31)) = 0 then some (v27_2) else f_M_planes_L27 u1 N (v27_2 + 1))
def f_M_planes_L4 (msam : (Nat → Int32)) (n_msa : Nat) : Nat → Int32 → Int32 → Option (Int32 × Int32)
  | 0, _, _ => none
  | N + 1, v4_1, v4_2 => (if (256 : Int32) ≤ v4_2 then some (v4_1, v4_2) else ((f_M_sizeOf msam n_msa v4_2).bind fun u5 => f_M_planes_L4 msam n_msa N (v4_1 ||| u5) (v4_2 + 1)))
def f_M_planes (msam : (Nat → Int32)) (n_msa : Nat) : Option (Int32) :=
  ((f_M_planes_L4 msam n_msa kBig (0 : Int32) (0 : Int32)).bind fun u1 => ((f_M_planes_L27 u1 kBig (0 : Int32)).bind fun u2 => some (u2)))
def f_M_code (mtb : Int32) (mtr : Int32) (misr : Int32) (mplc : Int32) (mlak : Int32) (mpass : Int32) (mbits : (Nat → Int32)) (mctxs : (Nat → Int32)) (mpaso : (Nat → Int32)) (mreads : (Nat → Int32)) (n_mbi : Nat) (n_mcx : Nat) (n_mpa : Nat) (n_mrd : Nat) (a0 : Int32) (a1 : Int32) : Option (Int32 × Int32 × Int32 × Int32 × (Nat → Int32) × (Nat → Int32) × (Nat → Int32)) :=
  (if misr = 0 then if (mtb < 0 ∨ n_mbi ≤ mtb.toNatClampNeg) then none else if (mtb < 0 ∨ n_mcx ≤ mtb.toNatClampNeg) then none else if (mtb < 0 ∨ n_mpa ≤ mtb.toNatClampNeg) then none else some (a0, (mtb + (1 : Int32)), mplc, mlak, (upd mbits mtb.toNatClampNeg a0), (upd mctxs mtb.toNatClampNeg a1), (upd mpaso mtb.toNatClampNeg mpass)) else (if mplc < mtr then if (((mplc + (1 : Int32)) - (1 : Int32)) < 0 ∨ n_mrd ≤ ((mplc + (1 : Int32)) - (1 : Int32)).toNatClampNeg) then none else some ((mreads ((mplc + (1 : Int32)) - (1 : Int32)).toNatClampNeg), mtb, (mplc + (1 : Int32)), mlak, mbits, mctxs, mpaso) else some ((0 : Int32), mtb, mplc, (1 : Int32), mbits, mctxs, mpaso)))
def f_M_signAt (mw : Int32) (mh : Int32) (mst : Int32) (mbels : (Nat → Int32)) (mfnds : (Nat → Int32)) (n_mbe : Nat) (n_mfa : Nat) (a0 : Int32) (a1 : Int32) (a2 : Int32) : Option (Int32) :=
  (((if (f_M_has mst (8 : Int32)) = 0 then some (0 : Int32) else (if a1 ≤ a2 then some (0 : Int32) else (if (krem a1 (4 : Int32)) = 0 then some (1 : Int32) else some (0 : Int32)))) : Option (Int32)).bind fun u2 => (if (f_M_isIn mw mh a0 a1) = 0 then some (0 : Int32) else (if u2 = 0 then if ((((16 : Int32) * a1) + a0) < 0 ∨ n_mfa ≤ (((16 : Int32) * a1) + a0).toNatClampNeg) then none else (if (mfnds (((16 : Int32) * a1) + a0).toNatClampNeg) = (-1 : Int32) then some (0 : Int32) else if ((((16 : Int32) * a1) + a0) < 0 ∨ n_mbe ≤ (((16 : Int32) * a1) + a0).toNatClampNeg) then none else (if (mbels (((16 : Int32) * a1) + a0).toNatClampNeg) = 0 then some (1 : Int32) else some (-1 : Int32))) else some (0 : Int32))))
def f_M_isFound (mw : Int32) (mh : Int32) (mst : Int32) (mbels : (Nat → Int32)) (mfnds : (Nat → Int32)) (n_mbe : Nat) (n_mfa : Nat) (a0 : Int32) (a1 : Int32) (a2 : Int32) : Option (Int32) :=
  ((f_M_signAt mw mh mst mbels mfnds n_mbe n_mfa a0 a1 a2).bind fun u1 => (if u1 = 0 then some (0 : Int32) else some (1 : Int32)))
def f_M_corners (mw : Int32) (mh : Int32) (mst : Int32) (mbels : (Nat → Int32)) (mfnds : (Nat → Int32)) (n_mbe : Nat) (n_mfa : Nat) (a0 : Int32) (a1 : Int32) : Option (Int32) :=
  ((f_M_isFound mw mh mst mbels mfnds n_mbe n_mfa (a0 - (1 : Int32)) (a1 - (1 : Int32)) a1).bind fun u1 => ((f_M_isFound mw mh mst mbels mfnds n_mbe n_mfa (a0 + (1 : Int32)) (a1 - (1 : Int32)) a1).bind fun u2 => ((f_M_isFound mw mh mst mbels mfnds n_mbe n_mfa (a0 - (1 : Int32)) (a1 + (1 : Int32)) a1).bind fun u3 => ((f_M_isFound mw mh mst mbels mfnds n_mbe n_mfa (a0 + (1 : Int32)) (a1 + (1 : Int32)) a1).bind fun u4 => some (((u1 + u2) + u3) + u4)))))
def f_M_contextOf (mw : Int32) (mh : Int32) (mst : Int32) (mbd : Int32) (mbels : (Nat → Int32)) (mfnds : (Nat → Int32)) (n_mbe : Nat) (n_mfa : Nat) (a0 : Int32) (a1 : Int32) : Option (Int32) :=
  ((f_M_isFound mw mh mst mbels mfnds n_mbe n_mfa (a0 - (1 : Int32)) a1 a1).bind fun u1 => ((f_M_isFound mw mh mst mbels mfnds n_mbe n_mfa (a0 + (1 : Int32)) a1 a1).bind fun u2 => ((f_M_isFound mw mh mst mbels mfnds n_mbe n_mfa a0 (a1 - (1 : Int32)) a1).bind fun u3 => ((f_M_isFound mw mh mst mbels mfnds n_mbe n_mfa a0 (a1 + (1 : Int32)) a1).bind fun u4 => ((f_M_corners mw mh mst mbels mfnds n_mbe n_mfa a0 a1).bind fun u5 => (if mbd = (2 : Int32) then (if u5 ≤ (2 : Int32) then (if u5 = (2 : Int32) then (if ((u1 + u2) + (u3 + u4)) ≤ 0 then some (6 : Int32) else some (7 : Int32)) else (if u5 = (1 : Int32) then (if ((u1 + u2) + (u3 + u4)) ≤ (1 : Int32) then some ((3 : Int32) + ((u1 + u2) + (u3 + u4))) else some (5 : Int32)) else (if ((u1 + u2) + (u3 + u4)) ≤ (1 : Int32) then some ((u1 + u2) + (u3 + u4)) else some (2 : Int32)))) else some (8 : Int32)) else (((if mbd = 0 then some (u1 + u2) else some (u3 + u4)) : Option (Int32)).bind fun u8 => (((if mbd = 0 then some (u3 + u4) else some (u1 + u2)) : Option (Int32)).bind fun u10 => (if u8 ≤ 0 then (if u10 = (2 : Int32) then some (4 : Int32) else (if u10 = (1 : Int32) then some (3 : Int32) else (if u5 ≤ (1 : Int32) then some (u5) else some (2 : Int32)))) else (if u8 = (2 : Int32) then some (8 : Int32) else (if u10 ≤ 0 then (if u5 ≤ 0 then some (5 : Int32) else some (6 : Int32)) else some (7 : Int32))))))))))))
theorem d_M_within_0 : decode c_M_within 0 = .ok (.lload_n 0, 1) := by decide +kernel
theorem d_M_within_1 : decode c_M_within 1 = .ok (.ldc2_w 82, 3) := by decide +kernel
theorem d_M_within_4 : decode c_M_within 4 = .ok (.lcmp, 1) := by decide +kernel
theorem d_M_within_5 : decode c_M_within 5 = .ok (.ifCond .le 9, 3) := by decide +kernel
theorem d_M_within_8 : decode c_M_within 8 = .ok (.sipush 32767, 3) := by decide +kernel
theorem d_M_within_11 : decode c_M_within 11 = .ok (.goto 19, 3) := by decide +kernel
theorem d_M_within_14 : decode c_M_within 14 = .ok (.lload_n 0, 1) := by decide +kernel
theorem d_M_within_15 : decode c_M_within 15 = .ok (.ldc2_w 84, 3) := by decide +kernel
theorem d_M_within_18 : decode c_M_within 18 = .ok (.lcmp, 1) := by decide +kernel
theorem d_M_within_19 : decode c_M_within 19 = .ok (.ifCond .ge 9, 3) := by decide +kernel
theorem d_M_within_22 : decode c_M_within 22 = .ok (.sipush (-32767), 3) := by decide +kernel
theorem d_M_within_25 : decode c_M_within 25 = .ok (.goto 5, 3) := by decide +kernel
theorem d_M_within_28 : decode c_M_within 28 = .ok (.lload_n 0, 1) := by decide +kernel
theorem d_M_within_29 : decode c_M_within 29 = .ok (.l2i, 1) := by decide +kernel
theorem d_M_within_30 : decode c_M_within 30 = .ok (.ireturn, 1) := by decide +kernel
theorem d_M_passesFor_0 : decode c_M_passesFor 0 = .ok (.iload_n 0, 1) := by decide +kernel
theorem d_M_passesFor_1 : decode c_M_passesFor 1 = .ok (.ifCond .ne 7, 3) := by decide +kernel
theorem d_M_passesFor_4 : decode c_M_passesFor 4 = .ok (.iconst 0, 1) := by decide +kernel
theorem d_M_passesFor_5 : decode c_M_passesFor 5 = .ok (.goto 8, 3) := by decide +kernel
theorem d_M_passesFor_8 : decode c_M_passesFor 8 = .ok (.iconst 3, 1) := by decide +kernel
theorem d_M_passesFor_9 : decode c_M_passesFor 9 = .ok (.iload_n 0, 1) := by decide +kernel
theorem d_M_passesFor_10 : decode c_M_passesFor 10 = .ok (.imul, 1) := by decide +kernel
theorem d_M_passesFor_11 : decode c_M_passesFor 11 = .ok (.iconst 2, 1) := by decide +kernel
theorem d_M_passesFor_12 : decode c_M_passesFor 12 = .ok (.isub, 1) := by decide +kernel
theorem d_M_passesFor_13 : decode c_M_passesFor 13 = .ok (.ireturn, 1) := by decide +kernel
theorem d_M_kindOf_0 : decode c_M_kindOf 0 = .ok (.iload_n 0, 1) := by decide +kernel
theorem d_M_kindOf_1 : decode c_M_kindOf 1 = .ok (.ifCond .ne 7, 3) := by decide +kernel
theorem d_M_kindOf_4 : decode c_M_kindOf 4 = .ok (.iconst 2, 1) := by decide +kernel
theorem d_M_kindOf_5 : decode c_M_kindOf 5 = .ok (.goto 8, 3) := by decide +kernel
theorem d_M_kindOf_8 : decode c_M_kindOf 8 = .ok (.iload_n 0, 1) := by decide +kernel
theorem d_M_kindOf_9 : decode c_M_kindOf 9 = .ok (.iconst 1, 1) := by decide +kernel
theorem d_M_kindOf_10 : decode c_M_kindOf 10 = .ok (.isub, 1) := by decide +kernel
theorem d_M_kindOf_11 : decode c_M_kindOf 11 = .ok (.iconst 3, 1) := by decide +kernel
theorem d_M_kindOf_12 : decode c_M_kindOf 12 = .ok (.irem, 1) := by decide +kernel
theorem d_M_kindOf_13 : decode c_M_kindOf 13 = .ok (.ireturn, 1) := by decide +kernel
theorem d_M_brought_0 : decode c_M_brought 0 = .ok (.iload_n 0, 1) := by decide +kernel
theorem d_M_brought_1 : decode c_M_brought 1 = .ok (.iconst 1, 1) := by decide +kernel
theorem d_M_brought_2 : decode c_M_brought 2 = .ok (.if_icmp .le 7, 3) := by decide +kernel
theorem d_M_brought_5 : decode c_M_brought 5 = .ok (.iconst 1, 1) := by decide +kernel
theorem d_M_brought_6 : decode c_M_brought 6 = .ok (.goto 13, 3) := by decide +kernel
theorem d_M_brought_9 : decode c_M_brought 9 = .ok (.iload_n 0, 1) := by decide +kernel
theorem d_M_brought_10 : decode c_M_brought 10 = .ok (.iconst (-1), 1) := by decide +kernel
theorem d_M_brought_11 : decode c_M_brought 11 = .ok (.if_icmp .ge 7, 3) := by decide +kernel
theorem d_M_brought_14 : decode c_M_brought 14 = .ok (.iconst (-1), 1) := by decide +kernel
theorem d_M_brought_15 : decode c_M_brought 15 = .ok (.goto 4, 3) := by decide +kernel
theorem d_M_brought_18 : decode c_M_brought 18 = .ok (.iload_n 0, 1) := by decide +kernel
theorem d_M_brought_19 : decode c_M_brought 19 = .ok (.ireturn, 1) := by decide +kernel
theorem d_M_thrown_0 : decode c_M_thrown 0 = .ok (.aload_n 0, 1) := by decide +kernel
theorem d_M_thrown_1 : decode c_M_thrown 1 = .ok (.getfield 79, 3) := by decide +kernel
theorem d_M_thrown_4 : decode c_M_thrown 4 = .ok (.ireturn, 1) := by decide +kernel
theorem d_M_has_0 : decode c_M_has 0 = .ok (.aload_n 0, 1) := by decide +kernel
theorem d_M_has_1 : decode c_M_has 1 = .ok (.getfield 73, 3) := by decide +kernel
theorem d_M_has_4 : decode c_M_has 4 = .ok (.iload_n 1, 1) := by decide +kernel
theorem d_M_has_5 : decode c_M_has 5 = .ok (.iand, 1) := by decide +kernel
theorem d_M_has_6 : decode c_M_has 6 = .ok (.ifCond .eq 7, 3) := by decide +kernel
theorem d_M_has_9 : decode c_M_has 9 = .ok (.iconst 1, 1) := by decide +kernel
theorem d_M_has_10 : decode c_M_has 10 = .ok (.goto 4, 3) := by decide +kernel
theorem d_M_has_13 : decode c_M_has 13 = .ok (.iconst 0, 1) := by decide +kernel
theorem d_M_has_14 : decode c_M_has 14 = .ok (.ireturn, 1) := by decide +kernel
theorem d_M_isIn_0 : decode c_M_isIn 0 = .ok (.iload_n 1, 1) := by decide +kernel
theorem d_M_isIn_1 : decode c_M_isIn 1 = .ok (.ifCond .lt 27, 3) := by decide +kernel
theorem d_M_isIn_4 : decode c_M_isIn 4 = .ok (.iload_n 1, 1) := by decide +kernel
theorem d_M_isIn_5 : decode c_M_isIn 5 = .ok (.aload_n 0, 1) := by decide +kernel
theorem d_M_isIn_6 : decode c_M_isIn 6 = .ok (.getfield 66, 3) := by decide +kernel
theorem d_M_isIn_9 : decode c_M_isIn 9 = .ok (.if_icmp .ge 19, 3) := by decide +kernel
theorem d_M_isIn_12 : decode c_M_isIn 12 = .ok (.iload_n 2, 1) := by decide +kernel
theorem d_M_isIn_13 : decode c_M_isIn 13 = .ok (.ifCond .lt 15, 3) := by decide +kernel
theorem d_M_isIn_16 : decode c_M_isIn 16 = .ok (.iload_n 2, 1) := by decide +kernel
theorem d_M_isIn_17 : decode c_M_isIn 17 = .ok (.aload_n 0, 1) := by decide +kernel
theorem d_M_isIn_18 : decode c_M_isIn 18 = .ok (.getfield 70, 3) := by decide +kernel
theorem d_M_isIn_21 : decode c_M_isIn 21 = .ok (.if_icmp .ge 7, 3) := by decide +kernel
theorem d_M_isIn_24 : decode c_M_isIn 24 = .ok (.iconst 1, 1) := by decide +kernel
theorem d_M_isIn_25 : decode c_M_isIn 25 = .ok (.goto 4, 3) := by decide +kernel
theorem d_M_isIn_28 : decode c_M_isIn 28 = .ok (.iconst 0, 1) := by decide +kernel
theorem d_M_isIn_29 : decode c_M_isIn 29 = .ok (.ireturn, 1) := by decide +kernel
theorem d_M_put_0 : decode c_M_put 0 = .ok (.aload_n 0, 1) := by decide +kernel
theorem d_M_put_1 : decode c_M_put 1 = .ok (.aload_n 0, 1) := by decide +kernel
theorem d_M_put_2 : decode c_M_put 2 = .ok (.iload_n 1, 1) := by decide +kernel
theorem d_M_put_3 : decode c_M_put 3 = .ok (.iload_n 2, 1) := by decide +kernel
theorem d_M_put_4 : decode c_M_put 4 = .ok (.invokevirtual 86, 3) := by decide +kernel
theorem d_M_put_7 : decode c_M_put 7 = .ok (.ifCond .ne 7, 3) := by decide +kernel
theorem d_M_put_10 : decode c_M_put 10 = .ok (.iconst 1, 1) := by decide +kernel
theorem d_M_put_11 : decode c_M_put 11 = .ok (.goto 22, 3) := by decide +kernel
theorem d_M_put_14 : decode c_M_put 14 = .ok (.iload_n 3, 1) := by decide +kernel
theorem d_M_put_15 : decode c_M_put 15 = .ok (.sipush (-32767), 3) := by decide +kernel
theorem d_M_put_18 : decode c_M_put 18 = .ok (.if_icmp .lt 10, 3) := by decide +kernel
theorem d_M_put_21 : decode c_M_put 21 = .ok (.iload_n 3, 1) := by decide +kernel
theorem d_M_put_22 : decode c_M_put 22 = .ok (.sipush 32767, 3) := by decide +kernel
theorem d_M_put_25 : decode c_M_put 25 = .ok (.if_icmp .le 7, 3) := by decide +kernel
theorem d_M_put_28 : decode c_M_put 28 = .ok (.iconst 2, 1) := by decide +kernel
theorem d_M_put_29 : decode c_M_put 29 = .ok (.goto 4, 3) := by decide +kernel
theorem d_M_put_32 : decode c_M_put 32 = .ok (.iconst 0, 1) := by decide +kernel
theorem d_M_put_33 : decode c_M_put 33 = .ok (.putfield 79, 3) := by decide +kernel
theorem d_M_put_36 : decode c_M_put 36 = .ok (.aload_n 0, 1) := by decide +kernel
theorem d_M_put_37 : decode c_M_put 37 = .ok (.getfield 79, 3) := by decide +kernel
theorem d_M_put_40 : decode c_M_put 40 = .ok (.ifCond .le 5, 3) := by decide +kernel
theorem d_M_put_43 : decode c_M_put 43 = .ok (.iconst 0, 1) := by decide +kernel
theorem d_M_put_44 : decode c_M_put 44 = .ok (.ireturn, 1) := by decide +kernel
theorem d_M_put_45 : decode c_M_put 45 = .ok (.aload_n 0, 1) := by decide +kernel
theorem d_M_put_46 : decode c_M_put 46 = .ok (.getfield 7, 3) := by decide +kernel
theorem d_M_put_49 : decode c_M_put 49 = .ok (.bipush 16, 2) := by decide +kernel
theorem d_M_put_51 : decode c_M_put 51 = .ok (.iload_n 2, 1) := by decide +kernel
theorem d_M_put_52 : decode c_M_put 52 = .ok (.imul, 1) := by decide +kernel
theorem d_M_put_53 : decode c_M_put 53 = .ok (.iload_n 1, 1) := by decide +kernel
theorem d_M_put_54 : decode c_M_put 54 = .ok (.iadd, 1) := by decide +kernel
theorem d_M_put_55 : decode c_M_put 55 = .ok (.iaload, 1) := by decide +kernel
theorem d_M_put_56 : decode c_M_put 56 = .ok (.istore 4, 2) := by decide +kernel
theorem d_M_put_58 : decode c_M_put 58 = .ok (.aload_n 0, 1) := by decide +kernel
theorem d_M_put_59 : decode c_M_put 59 = .ok (.getfield 7, 3) := by decide +kernel
theorem d_M_put_62 : decode c_M_put 62 = .ok (.bipush 16, 2) := by decide +kernel
theorem d_M_put_64 : decode c_M_put 64 = .ok (.iload_n 2, 1) := by decide +kernel
theorem d_M_put_65 : decode c_M_put 65 = .ok (.imul, 1) := by decide +kernel
theorem d_M_put_66 : decode c_M_put 66 = .ok (.iload_n 1, 1) := by decide +kernel
theorem d_M_put_67 : decode c_M_put 67 = .ok (.iadd, 1) := by decide +kernel
theorem d_M_put_68 : decode c_M_put 68 = .ok (.iload_n 3, 1) := by decide +kernel
theorem d_M_put_69 : decode c_M_put 69 = .ok (.iastore, 1) := by decide +kernel
theorem d_M_put_70 : decode c_M_put 70 = .ok (.iload 4, 2) := by decide +kernel
theorem d_M_put_72 : decode c_M_put 72 = .ok (.ireturn, 1) := by decide +kernel
theorem d_M_paint_0 : decode c_M_paint 0 = .ok (.aload_n 0, 1) := by decide +kernel
theorem d_M_paint_1 : decode c_M_paint 1 = .ok (.iconst 0, 1) := by decide +kernel
theorem d_M_paint_2 : decode c_M_paint 2 = .ok (.putfield 79, 3) := by decide +kernel
theorem d_M_paint_5 : decode c_M_paint 5 = .ok (.iconst 0, 1) := by decide +kernel
theorem d_M_paint_6 : decode c_M_paint 6 = .ok (.istore_n 3, 1) := by decide +kernel
theorem d_M_paint_7 : decode c_M_paint 7 = .ok (.iload_n 1, 1) := by decide +kernel
theorem d_M_paint_8 : decode c_M_paint 8 = .ok (.istore 4, 2) := by decide +kernel
theorem d_M_paint_10 : decode c_M_paint 10 = .ok (.iconst 0, 1) := by decide +kernel
theorem d_M_paint_11 : decode c_M_paint 11 = .ok (.istore 5, 2) := by decide +kernel
theorem d_M_paint_13 : decode c_M_paint 13 = .ok (.iload 5, 2) := by decide +kernel
theorem d_M_paint_15 : decode c_M_paint 15 = .ok (.aload_n 0, 1) := by decide +kernel
theorem d_M_paint_16 : decode c_M_paint 16 = .ok (.getfield 70, 3) := by decide +kernel
theorem d_M_paint_19 : decode c_M_paint 19 = .ok (.if_icmp .ge 82, 3) := by decide +kernel
theorem d_M_paint_22 : decode c_M_paint 22 = .ok (.iconst 0, 1) := by decide +kernel
theorem d_M_paint_23 : decode c_M_paint 23 = .ok (.istore 6, 2) := by decide +kernel
theorem d_M_paint_25 : decode c_M_paint 25 = .ok (.iload 6, 2) := by decide +kernel
theorem d_M_paint_27 : decode c_M_paint 27 = .ok (.aload_n 0, 1) := by decide +kernel
theorem d_M_paint_28 : decode c_M_paint 28 = .ok (.getfield 66, 3) := by decide +kernel
theorem d_M_paint_31 : decode c_M_paint 31 = .ok (.if_icmp .ge 64, 3) := by decide +kernel
theorem d_M_paint_34 : decode c_M_paint 34 = .ok (.iload 4, 2) := by decide +kernel
theorem d_M_paint_36 : decode c_M_paint 36 = .ok (.i2l, 1) := by decide +kernel
theorem d_M_paint_37 : decode c_M_paint 37 = .ok (.invokestatic 90, 3) := by decide +kernel
theorem d_M_paint_40 : decode c_M_paint 40 = .ok (.istore 7, 2) := by decide +kernel
theorem d_M_paint_42 : decode c_M_paint 42 = .ok (.aload_n 0, 1) := by decide +kernel
theorem d_M_paint_43 : decode c_M_paint 43 = .ok (.getfield 7, 3) := by decide +kernel
theorem d_M_paint_46 : decode c_M_paint 46 = .ok (.bipush 16, 2) := by decide +kernel
theorem d_M_paint_48 : decode c_M_paint 48 = .ok (.iload 5, 2) := by decide +kernel
theorem d_M_paint_50 : decode c_M_paint 50 = .ok (.imul, 1) := by decide +kernel
theorem d_M_paint_51 : decode c_M_paint 51 = .ok (.iload 6, 2) := by decide +kernel
theorem d_M_paint_53 : decode c_M_paint 53 = .ok (.iadd, 1) := by decide +kernel
theorem d_M_paint_54 : decode c_M_paint 54 = .ok (.iaload, 1) := by decide +kernel
theorem d_M_paint_55 : decode c_M_paint 55 = .ok (.iload 7, 2) := by decide +kernel
theorem d_M_paint_57 : decode c_M_paint 57 = .ok (.if_icmp .eq 9, 3) := by decide +kernel
theorem d_M_paint_60 : decode c_M_paint 60 = .ok (.iload_n 3, 1) := by decide +kernel
theorem d_M_paint_61 : decode c_M_paint 61 = .ok (.iconst 1, 1) := by decide +kernel
theorem d_M_paint_62 : decode c_M_paint 62 = .ok (.iadd, 1) := by decide +kernel
theorem d_M_paint_63 : decode c_M_paint 63 = .ok (.goto 4, 3) := by decide +kernel
theorem d_M_paint_66 : decode c_M_paint 66 = .ok (.iload_n 3, 1) := by decide +kernel
theorem d_M_paint_67 : decode c_M_paint 67 = .ok (.istore_n 3, 1) := by decide +kernel
theorem d_M_paint_68 : decode c_M_paint 68 = .ok (.aload_n 0, 1) := by decide +kernel
theorem d_M_paint_69 : decode c_M_paint 69 = .ok (.getfield 7, 3) := by decide +kernel
theorem d_M_paint_72 : decode c_M_paint 72 = .ok (.bipush 16, 2) := by decide +kernel
theorem d_M_paint_74 : decode c_M_paint 74 = .ok (.iload 5, 2) := by decide +kernel
theorem d_M_paint_76 : decode c_M_paint 76 = .ok (.imul, 1) := by decide +kernel
theorem d_M_paint_77 : decode c_M_paint 77 = .ok (.iload 6, 2) := by decide +kernel
theorem d_M_paint_79 : decode c_M_paint 79 = .ok (.iadd, 1) := by decide +kernel
theorem d_M_paint_80 : decode c_M_paint 80 = .ok (.iload 7, 2) := by decide +kernel
theorem d_M_paint_82 : decode c_M_paint 82 = .ok (.iastore, 1) := by decide +kernel
theorem d_M_paint_83 : decode c_M_paint 83 = .ok (.iload 4, 2) := by decide +kernel
theorem d_M_paint_85 : decode c_M_paint 85 = .ok (.iload_n 2, 1) := by decide +kernel
theorem d_M_paint_86 : decode c_M_paint 86 = .ok (.iadd, 1) := by decide +kernel
theorem d_M_paint_87 : decode c_M_paint 87 = .ok (.istore 4, 2) := by decide +kernel
theorem d_M_paint_89 : decode c_M_paint 89 = .ok (.iinc 6 1, 3) := by decide +kernel
theorem d_M_paint_92 : decode c_M_paint 92 = .ok (.goto (-67), 3) := by decide +kernel
theorem d_M_paint_95 : decode c_M_paint 95 = .ok (.iinc 5 1, 3) := by decide +kernel
theorem d_M_paint_98 : decode c_M_paint 98 = .ok (.goto (-85), 3) := by decide +kernel
theorem d_M_paint_101 : decode c_M_paint 101 = .ok (.iload_n 3, 1) := by decide +kernel
theorem d_M_paint_102 : decode c_M_paint 102 = .ok (.ireturn, 1) := by decide +kernel
theorem d_M_sizeOf_0 : decode c_M_sizeOf 0 = .ok (.aload_n 0, 1) := by decide +kernel
theorem d_M_sizeOf_1 : decode c_M_sizeOf 1 = .ok (.getfield 7, 3) := by decide +kernel
theorem d_M_sizeOf_4 : decode c_M_sizeOf 4 = .ok (.iload_n 1, 1) := by decide +kernel
theorem d_M_sizeOf_5 : decode c_M_sizeOf 5 = .ok (.iaload, 1) := by decide +kernel
theorem d_M_sizeOf_6 : decode c_M_sizeOf 6 = .ok (.ifCond .ge 13, 3) := by decide +kernel
theorem d_M_sizeOf_9 : decode c_M_sizeOf 9 = .ok (.aload_n 0, 1) := by decide +kernel
theorem d_M_sizeOf_10 : decode c_M_sizeOf 10 = .ok (.getfield 7, 3) := by decide +kernel
theorem d_M_sizeOf_13 : decode c_M_sizeOf 13 = .ok (.iload_n 1, 1) := by decide +kernel
theorem d_M_sizeOf_14 : decode c_M_sizeOf 14 = .ok (.iaload, 1) := by decide +kernel
theorem d_M_sizeOf_15 : decode c_M_sizeOf 15 = .ok (.ineg, 1) := by decide +kernel
theorem d_M_sizeOf_16 : decode c_M_sizeOf 16 = .ok (.goto 9, 3) := by decide +kernel
theorem d_M_sizeOf_19 : decode c_M_sizeOf 19 = .ok (.aload_n 0, 1) := by decide +kernel
theorem d_M_sizeOf_20 : decode c_M_sizeOf 20 = .ok (.getfield 7, 3) := by decide +kernel
theorem d_M_sizeOf_23 : decode c_M_sizeOf 23 = .ok (.iload_n 1, 1) := by decide +kernel
theorem d_M_sizeOf_24 : decode c_M_sizeOf 24 = .ok (.iaload, 1) := by decide +kernel
theorem d_M_sizeOf_25 : decode c_M_sizeOf 25 = .ok (.ireturn, 1) := by decide +kernel
theorem d_M_planes_0 : decode c_M_planes 0 = .ok (.iconst 0, 1) := by decide +kernel
theorem d_M_planes_1 : decode c_M_planes 1 = .ok (.istore_n 1, 1) := by decide +kernel
theorem d_M_planes_2 : decode c_M_planes 2 = .ok (.iconst 0, 1) := by decide +kernel
theorem d_M_planes_3 : decode c_M_planes 3 = .ok (.istore_n 2, 1) := by decide +kernel
theorem d_M_planes_4 : decode c_M_planes 4 = .ok (.iload_n 2, 1) := by decide +kernel
theorem d_M_planes_5 : decode c_M_planes 5 = .ok (.sipush 256, 3) := by decide +kernel
theorem d_M_planes_8 : decode c_M_planes 8 = .ok (.if_icmp .ge 17, 3) := by decide +kernel
theorem d_M_planes_11 : decode c_M_planes 11 = .ok (.iload_n 1, 1) := by decide +kernel
theorem d_M_planes_12 : decode c_M_planes 12 = .ok (.aload_n 0, 1) := by decide +kernel
theorem d_M_planes_13 : decode c_M_planes 13 = .ok (.iload_n 2, 1) := by decide +kernel
theorem d_M_planes_14 : decode c_M_planes 14 = .ok (.invokevirtual 94, 3) := by decide +kernel
theorem d_M_planes_17 : decode c_M_planes 17 = .ok (.ior, 1) := by decide +kernel
theorem d_M_planes_18 : decode c_M_planes 18 = .ok (.istore_n 1, 1) := by decide +kernel
theorem d_M_planes_19 : decode c_M_planes 19 = .ok (.iinc 2 1, 3) := by decide +kernel
theorem d_M_planes_22 : decode c_M_planes 22 = .ok (.goto (-18), 3) := by decide +kernel
theorem d_M_planes_25 : decode c_M_planes 25 = .ok (.iconst 0, 1) := by decide +kernel
theorem d_M_planes_26 : decode c_M_planes 26 = .ok (.istore_n 2, 1) := by decide +kernel
theorem d_M_planes_27 : decode c_M_planes 27 = .ok (.iload_n 1, 1) := by decide +kernel
theorem d_M_planes_28 : decode c_M_planes 28 = .ok (.iload_n 2, 1) := by decide +kernel
theorem d_M_planes_29 : decode c_M_planes 29 = .ok (.ishr, 1) := by decide +kernel
theorem d_M_planes_30 : decode c_M_planes 30 = .ok (.ifCond .eq 9, 3) := by decide +kernel
theorem d_M_planes_33 : decode c_M_planes 33 = .ok (.iinc 2 1, 3) := by decide +kernel
theorem d_M_planes_36 : decode c_M_planes 36 = .ok (.goto (-9), 3) := by decide +kernel
theorem d_M_planes_39 : decode c_M_planes 39 = .ok (.iload_n 2, 1) := by decide +kernel
theorem d_M_planes_40 : decode c_M_planes 40 = .ok (.ireturn, 1) := by decide +kernel
theorem d_M_code_0 : decode c_M_code 0 = .ok (.aload_n 0, 1) := by decide +kernel
theorem d_M_code_1 : decode c_M_code 1 = .ok (.getfield 98, 3) := by decide +kernel
theorem d_M_code_4 : decode c_M_code 4 = .ok (.ifCond .eq 43, 3) := by decide +kernel
theorem d_M_code_7 : decode c_M_code 7 = .ok (.aload_n 0, 1) := by decide +kernel
theorem d_M_code_8 : decode c_M_code 8 = .ok (.getfield 102, 3) := by decide +kernel
theorem d_M_code_11 : decode c_M_code 11 = .ok (.aload_n 0, 1) := by decide +kernel
theorem d_M_code_12 : decode c_M_code 12 = .ok (.getfield 105, 3) := by decide +kernel
theorem d_M_code_15 : decode c_M_code 15 = .ok (.if_icmp .lt 10, 3) := by decide +kernel
theorem d_M_code_18 : decode c_M_code 18 = .ok (.aload_n 0, 1) := by decide +kernel
theorem d_M_code_19 : decode c_M_code 19 = .ok (.iconst 1, 1) := by decide +kernel
theorem d_M_code_20 : decode c_M_code 20 = .ok (.putfield 108, 3) := by decide +kernel
theorem d_M_code_23 : decode c_M_code 23 = .ok (.iconst 0, 1) := by decide +kernel
theorem d_M_code_24 : decode c_M_code 24 = .ok (.ireturn, 1) := by decide +kernel
theorem d_M_code_25 : decode c_M_code 25 = .ok (.aload_n 0, 1) := by decide +kernel
theorem d_M_code_26 : decode c_M_code 26 = .ok (.dup, 1) := by decide +kernel
theorem d_M_code_27 : decode c_M_code 27 = .ok (.getfield 102, 3) := by decide +kernel
theorem d_M_code_30 : decode c_M_code 30 = .ok (.iconst 1, 1) := by decide +kernel
theorem d_M_code_31 : decode c_M_code 31 = .ok (.iadd, 1) := by decide +kernel
theorem d_M_code_32 : decode c_M_code 32 = .ok (.putfield 102, 3) := by decide +kernel
theorem d_M_code_35 : decode c_M_code 35 = .ok (.aload_n 0, 1) := by decide +kernel
theorem d_M_code_36 : decode c_M_code 36 = .ok (.getfield 29, 3) := by decide +kernel
theorem d_M_code_39 : decode c_M_code 39 = .ok (.aload_n 0, 1) := by decide +kernel
theorem d_M_code_40 : decode c_M_code 40 = .ok (.getfield 102, 3) := by decide +kernel
theorem d_M_code_43 : decode c_M_code 43 = .ok (.iconst 1, 1) := by decide +kernel
theorem d_M_code_44 : decode c_M_code 44 = .ok (.isub, 1) := by decide +kernel
theorem d_M_code_45 : decode c_M_code 45 = .ok (.iaload, 1) := by decide +kernel
theorem d_M_code_46 : decode c_M_code 46 = .ok (.ireturn, 1) := by decide +kernel
theorem d_M_code_47 : decode c_M_code 47 = .ok (.aload_n 0, 1) := by decide +kernel
theorem d_M_code_48 : decode c_M_code 48 = .ok (.getfield 13, 3) := by decide +kernel
theorem d_M_code_51 : decode c_M_code 51 = .ok (.aload_n 0, 1) := by decide +kernel
theorem d_M_code_52 : decode c_M_code 52 = .ok (.getfield 111, 3) := by decide +kernel
theorem d_M_code_55 : decode c_M_code 55 = .ok (.iload_n 1, 1) := by decide +kernel
theorem d_M_code_56 : decode c_M_code 56 = .ok (.iastore, 1) := by decide +kernel
theorem d_M_code_57 : decode c_M_code 57 = .ok (.aload_n 0, 1) := by decide +kernel
theorem d_M_code_58 : decode c_M_code 58 = .ok (.getfield 16, 3) := by decide +kernel
theorem d_M_code_61 : decode c_M_code 61 = .ok (.aload_n 0, 1) := by decide +kernel
theorem d_M_code_62 : decode c_M_code 62 = .ok (.getfield 111, 3) := by decide +kernel
theorem d_M_code_65 : decode c_M_code 65 = .ok (.iload_n 2, 1) := by decide +kernel
theorem d_M_code_66 : decode c_M_code 66 = .ok (.iastore, 1) := by decide +kernel
theorem d_M_code_67 : decode c_M_code 67 = .ok (.aload_n 0, 1) := by decide +kernel
theorem d_M_code_68 : decode c_M_code 68 = .ok (.getfield 19, 3) := by decide +kernel
theorem d_M_code_71 : decode c_M_code 71 = .ok (.aload_n 0, 1) := by decide +kernel
theorem d_M_code_72 : decode c_M_code 72 = .ok (.getfield 111, 3) := by decide +kernel
theorem d_M_code_75 : decode c_M_code 75 = .ok (.aload_n 0, 1) := by decide +kernel
theorem d_M_code_76 : decode c_M_code 76 = .ok (.getfield 114, 3) := by decide +kernel
theorem d_M_code_79 : decode c_M_code 79 = .ok (.iastore, 1) := by decide +kernel
theorem d_M_code_80 : decode c_M_code 80 = .ok (.aload_n 0, 1) := by decide +kernel
theorem d_M_code_81 : decode c_M_code 81 = .ok (.dup, 1) := by decide +kernel
theorem d_M_code_82 : decode c_M_code 82 = .ok (.getfield 111, 3) := by decide +kernel
theorem d_M_code_85 : decode c_M_code 85 = .ok (.iconst 1, 1) := by decide +kernel
theorem d_M_code_86 : decode c_M_code 86 = .ok (.iadd, 1) := by decide +kernel
theorem d_M_code_87 : decode c_M_code 87 = .ok (.putfield 111, 3) := by decide +kernel
theorem d_M_code_90 : decode c_M_code 90 = .ok (.iload_n 1, 1) := by decide +kernel
theorem d_M_code_91 : decode c_M_code 91 = .ok (.ireturn, 1) := by decide +kernel
theorem d_M_signAt_0 : decode c_M_signAt 0 = .ok (.aload_n 0, 1) := by decide +kernel
theorem d_M_signAt_1 : decode c_M_signAt 1 = .ok (.bipush 8, 2) := by decide +kernel
theorem d_M_signAt_3 : decode c_M_signAt 3 = .ok (.invokevirtual 117, 3) := by decide +kernel
theorem d_M_signAt_6 : decode c_M_signAt 6 = .ok (.ifCond .eq 18, 3) := by decide +kernel
theorem d_M_signAt_9 : decode c_M_signAt 9 = .ok (.iload_n 2, 1) := by decide +kernel
theorem d_M_signAt_10 : decode c_M_signAt 10 = .ok (.iload_n 3, 1) := by decide +kernel
theorem d_M_signAt_11 : decode c_M_signAt 11 = .ok (.if_icmp .le 13, 3) := by decide +kernel
theorem d_M_signAt_14 : decode c_M_signAt 14 = .ok (.iload_n 2, 1) := by decide +kernel
theorem d_M_signAt_15 : decode c_M_signAt 15 = .ok (.iconst 4, 1) := by decide +kernel
theorem d_M_signAt_16 : decode c_M_signAt 16 = .ok (.irem, 1) := by decide +kernel
theorem d_M_signAt_17 : decode c_M_signAt 17 = .ok (.ifCond .ne 7, 3) := by decide +kernel
theorem d_M_signAt_20 : decode c_M_signAt 20 = .ok (.iconst 1, 1) := by decide +kernel
theorem d_M_signAt_21 : decode c_M_signAt 21 = .ok (.goto 4, 3) := by decide +kernel
theorem d_M_signAt_24 : decode c_M_signAt 24 = .ok (.iconst 0, 1) := by decide +kernel
theorem d_M_signAt_25 : decode c_M_signAt 25 = .ok (.istore 4, 2) := by decide +kernel
theorem d_M_signAt_27 : decode c_M_signAt 27 = .ok (.bipush 16, 2) := by decide +kernel
theorem d_M_signAt_29 : decode c_M_signAt 29 = .ok (.iload_n 2, 1) := by decide +kernel
theorem d_M_signAt_30 : decode c_M_signAt 30 = .ok (.imul, 1) := by decide +kernel
theorem d_M_signAt_31 : decode c_M_signAt 31 = .ok (.iload_n 1, 1) := by decide +kernel
theorem d_M_signAt_32 : decode c_M_signAt 32 = .ok (.iadd, 1) := by decide +kernel
theorem d_M_signAt_33 : decode c_M_signAt 33 = .ok (.istore 5, 2) := by decide +kernel
theorem d_M_signAt_35 : decode c_M_signAt 35 = .ok (.aload_n 0, 1) := by decide +kernel
theorem d_M_signAt_36 : decode c_M_signAt 36 = .ok (.iload_n 1, 1) := by decide +kernel
theorem d_M_signAt_37 : decode c_M_signAt 37 = .ok (.iload_n 2, 1) := by decide +kernel
theorem d_M_signAt_38 : decode c_M_signAt 38 = .ok (.invokevirtual 86, 3) := by decide +kernel
theorem d_M_signAt_41 : decode c_M_signAt 41 = .ok (.ifCond .eq 19, 3) := by decide +kernel
theorem d_M_signAt_44 : decode c_M_signAt 44 = .ok (.iload 4, 2) := by decide +kernel
theorem d_M_signAt_46 : decode c_M_signAt 46 = .ok (.ifCond .ne 14, 3) := by decide +kernel
theorem d_M_signAt_49 : decode c_M_signAt 49 = .ok (.aload_n 0, 1) := by decide +kernel
theorem d_M_signAt_50 : decode c_M_signAt 50 = .ok (.getfield 39, 3) := by decide +kernel
theorem d_M_signAt_53 : decode c_M_signAt 53 = .ok (.iload 5, 2) := by decide +kernel
theorem d_M_signAt_55 : decode c_M_signAt 55 = .ok (.iaload, 1) := by decide +kernel
theorem d_M_signAt_56 : decode c_M_signAt 56 = .ok (.iconst (-1), 1) := by decide +kernel
theorem d_M_signAt_57 : decode c_M_signAt 57 = .ok (.if_icmp .ne 7, 3) := by decide +kernel
theorem d_M_signAt_60 : decode c_M_signAt 60 = .ok (.iconst 0, 1) := by decide +kernel
theorem d_M_signAt_61 : decode c_M_signAt 61 = .ok (.goto 18, 3) := by decide +kernel
theorem d_M_signAt_64 : decode c_M_signAt 64 = .ok (.aload_n 0, 1) := by decide +kernel
theorem d_M_signAt_65 : decode c_M_signAt 65 = .ok (.getfield 35, 3) := by decide +kernel
theorem d_M_signAt_68 : decode c_M_signAt 68 = .ok (.iload 5, 2) := by decide +kernel
theorem d_M_signAt_70 : decode c_M_signAt 70 = .ok (.baload, 1) := by decide +kernel
theorem d_M_signAt_71 : decode c_M_signAt 71 = .ok (.ifCond .eq 7, 3) := by decide +kernel
theorem d_M_signAt_74 : decode c_M_signAt 74 = .ok (.iconst (-1), 1) := by decide +kernel
theorem d_M_signAt_75 : decode c_M_signAt 75 = .ok (.goto 4, 3) := by decide +kernel
theorem d_M_signAt_78 : decode c_M_signAt 78 = .ok (.iconst 1, 1) := by decide +kernel
theorem d_M_signAt_79 : decode c_M_signAt 79 = .ok (.ireturn, 1) := by decide +kernel
theorem d_M_isFound_0 : decode c_M_isFound 0 = .ok (.aload_n 0, 1) := by decide +kernel
theorem d_M_isFound_1 : decode c_M_isFound 1 = .ok (.iload_n 1, 1) := by decide +kernel
theorem d_M_isFound_2 : decode c_M_isFound 2 = .ok (.iload_n 2, 1) := by decide +kernel
theorem d_M_isFound_3 : decode c_M_isFound 3 = .ok (.iload_n 3, 1) := by decide +kernel
theorem d_M_isFound_4 : decode c_M_isFound 4 = .ok (.invokevirtual 121, 3) := by decide +kernel
theorem d_M_isFound_7 : decode c_M_isFound 7 = .ok (.ifCond .eq 7, 3) := by decide +kernel
theorem d_M_isFound_10 : decode c_M_isFound 10 = .ok (.iconst 1, 1) := by decide +kernel
theorem d_M_isFound_11 : decode c_M_isFound 11 = .ok (.goto 4, 3) := by decide +kernel
theorem d_M_isFound_14 : decode c_M_isFound 14 = .ok (.iconst 0, 1) := by decide +kernel
theorem d_M_isFound_15 : decode c_M_isFound 15 = .ok (.ireturn, 1) := by decide +kernel
theorem d_M_corners_0 : decode c_M_corners 0 = .ok (.aload_n 0, 1) := by decide +kernel
theorem d_M_corners_1 : decode c_M_corners 1 = .ok (.iload_n 1, 1) := by decide +kernel
theorem d_M_corners_2 : decode c_M_corners 2 = .ok (.iconst 1, 1) := by decide +kernel
theorem d_M_corners_3 : decode c_M_corners 3 = .ok (.isub, 1) := by decide +kernel
theorem d_M_corners_4 : decode c_M_corners 4 = .ok (.iload_n 2, 1) := by decide +kernel
theorem d_M_corners_5 : decode c_M_corners 5 = .ok (.iconst 1, 1) := by decide +kernel
theorem d_M_corners_6 : decode c_M_corners 6 = .ok (.isub, 1) := by decide +kernel
theorem d_M_corners_7 : decode c_M_corners 7 = .ok (.iload_n 2, 1) := by decide +kernel
theorem d_M_corners_8 : decode c_M_corners 8 = .ok (.invokevirtual 125, 3) := by decide +kernel
theorem d_M_corners_11 : decode c_M_corners 11 = .ok (.aload_n 0, 1) := by decide +kernel
theorem d_M_corners_12 : decode c_M_corners 12 = .ok (.iload_n 1, 1) := by decide +kernel
theorem d_M_corners_13 : decode c_M_corners 13 = .ok (.iconst 1, 1) := by decide +kernel
theorem d_M_corners_14 : decode c_M_corners 14 = .ok (.iadd, 1) := by decide +kernel
theorem d_M_corners_15 : decode c_M_corners 15 = .ok (.iload_n 2, 1) := by decide +kernel
theorem d_M_corners_16 : decode c_M_corners 16 = .ok (.iconst 1, 1) := by decide +kernel
theorem d_M_corners_17 : decode c_M_corners 17 = .ok (.isub, 1) := by decide +kernel
theorem d_M_corners_18 : decode c_M_corners 18 = .ok (.iload_n 2, 1) := by decide +kernel
theorem d_M_corners_19 : decode c_M_corners 19 = .ok (.invokevirtual 125, 3) := by decide +kernel
theorem d_M_corners_22 : decode c_M_corners 22 = .ok (.iadd, 1) := by decide +kernel
theorem d_M_corners_23 : decode c_M_corners 23 = .ok (.aload_n 0, 1) := by decide +kernel
theorem d_M_corners_24 : decode c_M_corners 24 = .ok (.iload_n 1, 1) := by decide +kernel
theorem d_M_corners_25 : decode c_M_corners 25 = .ok (.iconst 1, 1) := by decide +kernel
theorem d_M_corners_26 : decode c_M_corners 26 = .ok (.isub, 1) := by decide +kernel
theorem d_M_corners_27 : decode c_M_corners 27 = .ok (.iload_n 2, 1) := by decide +kernel
theorem d_M_corners_28 : decode c_M_corners 28 = .ok (.iconst 1, 1) := by decide +kernel
theorem d_M_corners_29 : decode c_M_corners 29 = .ok (.iadd, 1) := by decide +kernel
theorem d_M_corners_30 : decode c_M_corners 30 = .ok (.iload_n 2, 1) := by decide +kernel
theorem d_M_corners_31 : decode c_M_corners 31 = .ok (.invokevirtual 125, 3) := by decide +kernel
theorem d_M_corners_34 : decode c_M_corners 34 = .ok (.iadd, 1) := by decide +kernel
theorem d_M_corners_35 : decode c_M_corners 35 = .ok (.aload_n 0, 1) := by decide +kernel
theorem d_M_corners_36 : decode c_M_corners 36 = .ok (.iload_n 1, 1) := by decide +kernel
theorem d_M_corners_37 : decode c_M_corners 37 = .ok (.iconst 1, 1) := by decide +kernel
theorem d_M_corners_38 : decode c_M_corners 38 = .ok (.iadd, 1) := by decide +kernel
theorem d_M_corners_39 : decode c_M_corners 39 = .ok (.iload_n 2, 1) := by decide +kernel
theorem d_M_corners_40 : decode c_M_corners 40 = .ok (.iconst 1, 1) := by decide +kernel
theorem d_M_corners_41 : decode c_M_corners 41 = .ok (.iadd, 1) := by decide +kernel
theorem d_M_corners_42 : decode c_M_corners 42 = .ok (.iload_n 2, 1) := by decide +kernel
theorem d_M_corners_43 : decode c_M_corners 43 = .ok (.invokevirtual 125, 3) := by decide +kernel
theorem d_M_corners_46 : decode c_M_corners 46 = .ok (.iadd, 1) := by decide +kernel
theorem d_M_corners_47 : decode c_M_corners 47 = .ok (.ireturn, 1) := by decide +kernel
theorem d_M_contextOf_0 : decode c_M_contextOf 0 = .ok (.aload_n 0, 1) := by decide +kernel
theorem d_M_contextOf_1 : decode c_M_contextOf 1 = .ok (.iload_n 1, 1) := by decide +kernel
theorem d_M_contextOf_2 : decode c_M_contextOf 2 = .ok (.iconst 1, 1) := by decide +kernel
theorem d_M_contextOf_3 : decode c_M_contextOf 3 = .ok (.isub, 1) := by decide +kernel
theorem d_M_contextOf_4 : decode c_M_contextOf 4 = .ok (.iload_n 2, 1) := by decide +kernel
theorem d_M_contextOf_5 : decode c_M_contextOf 5 = .ok (.iload_n 2, 1) := by decide +kernel
theorem d_M_contextOf_6 : decode c_M_contextOf 6 = .ok (.invokevirtual 125, 3) := by decide +kernel
theorem d_M_contextOf_9 : decode c_M_contextOf 9 = .ok (.aload_n 0, 1) := by decide +kernel
theorem d_M_contextOf_10 : decode c_M_contextOf 10 = .ok (.iload_n 1, 1) := by decide +kernel
theorem d_M_contextOf_11 : decode c_M_contextOf 11 = .ok (.iconst 1, 1) := by decide +kernel
theorem d_M_contextOf_12 : decode c_M_contextOf 12 = .ok (.iadd, 1) := by decide +kernel
theorem d_M_contextOf_13 : decode c_M_contextOf 13 = .ok (.iload_n 2, 1) := by decide +kernel
theorem d_M_contextOf_14 : decode c_M_contextOf 14 = .ok (.iload_n 2, 1) := by decide +kernel
theorem d_M_contextOf_15 : decode c_M_contextOf 15 = .ok (.invokevirtual 125, 3) := by decide +kernel
theorem d_M_contextOf_18 : decode c_M_contextOf 18 = .ok (.iadd, 1) := by decide +kernel
theorem d_M_contextOf_19 : decode c_M_contextOf 19 = .ok (.istore_n 3, 1) := by decide +kernel
theorem d_M_contextOf_20 : decode c_M_contextOf 20 = .ok (.aload_n 0, 1) := by decide +kernel
theorem d_M_contextOf_21 : decode c_M_contextOf 21 = .ok (.iload_n 1, 1) := by decide +kernel
theorem d_M_contextOf_22 : decode c_M_contextOf 22 = .ok (.iload_n 2, 1) := by decide +kernel
theorem d_M_contextOf_23 : decode c_M_contextOf 23 = .ok (.iconst 1, 1) := by decide +kernel
theorem d_M_contextOf_24 : decode c_M_contextOf 24 = .ok (.isub, 1) := by decide +kernel
theorem d_M_contextOf_25 : decode c_M_contextOf 25 = .ok (.iload_n 2, 1) := by decide +kernel
theorem d_M_contextOf_26 : decode c_M_contextOf 26 = .ok (.invokevirtual 125, 3) := by decide +kernel
theorem d_M_contextOf_29 : decode c_M_contextOf 29 = .ok (.aload_n 0, 1) := by decide +kernel
theorem d_M_contextOf_30 : decode c_M_contextOf 30 = .ok (.iload_n 1, 1) := by decide +kernel
theorem d_M_contextOf_31 : decode c_M_contextOf 31 = .ok (.iload_n 2, 1) := by decide +kernel
theorem d_M_contextOf_32 : decode c_M_contextOf 32 = .ok (.iconst 1, 1) := by decide +kernel
theorem d_M_contextOf_33 : decode c_M_contextOf 33 = .ok (.iadd, 1) := by decide +kernel
theorem d_M_contextOf_34 : decode c_M_contextOf 34 = .ok (.iload_n 2, 1) := by decide +kernel
theorem d_M_contextOf_35 : decode c_M_contextOf 35 = .ok (.invokevirtual 125, 3) := by decide +kernel
theorem d_M_contextOf_38 : decode c_M_contextOf 38 = .ok (.iadd, 1) := by decide +kernel
theorem d_M_contextOf_39 : decode c_M_contextOf 39 = .ok (.istore 4, 2) := by decide +kernel
theorem d_M_contextOf_41 : decode c_M_contextOf 41 = .ok (.aload_n 0, 1) := by decide +kernel
theorem d_M_contextOf_42 : decode c_M_contextOf 42 = .ok (.iload_n 1, 1) := by decide +kernel
theorem d_M_contextOf_43 : decode c_M_contextOf 43 = .ok (.iload_n 2, 1) := by decide +kernel
theorem d_M_contextOf_44 : decode c_M_contextOf 44 = .ok (.invokevirtual 128, 3) := by decide +kernel
theorem d_M_contextOf_47 : decode c_M_contextOf 47 = .ok (.istore 5, 2) := by decide +kernel
theorem d_M_contextOf_49 : decode c_M_contextOf 49 = .ok (.aload_n 0, 1) := by decide +kernel
theorem d_M_contextOf_50 : decode c_M_contextOf 50 = .ok (.getfield 76, 3) := by decide +kernel
theorem d_M_contextOf_53 : decode c_M_contextOf 53 = .ok (.iconst 2, 1) := by decide +kernel
theorem d_M_contextOf_54 : decode c_M_contextOf 54 = .ok (.if_icmp .ne 77, 3) := by decide +kernel
theorem d_M_contextOf_57 : decode c_M_contextOf 57 = .ok (.iload_n 3, 1) := by decide +kernel
theorem d_M_contextOf_58 : decode c_M_contextOf 58 = .ok (.iload 4, 2) := by decide +kernel
theorem d_M_contextOf_60 : decode c_M_contextOf 60 = .ok (.iadd, 1) := by decide +kernel
theorem d_M_contextOf_61 : decode c_M_contextOf 61 = .ok (.istore 6, 2) := by decide +kernel
theorem d_M_contextOf_63 : decode c_M_contextOf 63 = .ok (.iload 5, 2) := by decide +kernel
theorem d_M_contextOf_65 : decode c_M_contextOf 65 = .ok (.iconst 2, 1) := by decide +kernel
theorem d_M_contextOf_66 : decode c_M_contextOf 66 = .ok (.if_icmp .le 8, 3) := by decide +kernel
theorem d_M_contextOf_69 : decode c_M_contextOf 69 = .ok (.bipush 8, 2) := by decide +kernel
theorem d_M_contextOf_71 : decode c_M_contextOf 71 = .ok (.goto 59, 3) := by decide +kernel
theorem d_M_contextOf_74 : decode c_M_contextOf 74 = .ok (.iload 5, 2) := by decide +kernel
theorem d_M_contextOf_76 : decode c_M_contextOf 76 = .ok (.iconst 2, 1) := by decide +kernel
theorem d_M_contextOf_77 : decode c_M_contextOf 77 = .ok (.if_icmp .ne 18, 3) := by decide +kernel
theorem d_M_contextOf_80 : decode c_M_contextOf 80 = .ok (.iload 6, 2) := by decide +kernel
theorem d_M_contextOf_82 : decode c_M_contextOf 82 = .ok (.ifCond .le 8, 3) := by decide +kernel
theorem d_M_contextOf_85 : decode c_M_contextOf 85 = .ok (.bipush 7, 2) := by decide +kernel
theorem d_M_contextOf_87 : decode c_M_contextOf 87 = .ok (.goto 43, 3) := by decide +kernel
theorem d_M_contextOf_90 : decode c_M_contextOf 90 = .ok (.bipush 6, 2) := by decide +kernel
theorem d_M_contextOf_92 : decode c_M_contextOf 92 = .ok (.goto 38, 3) := by decide +kernel
theorem d_M_contextOf_95 : decode c_M_contextOf 95 = .ok (.iload 5, 2) := by decide +kernel
theorem d_M_contextOf_97 : decode c_M_contextOf 97 = .ok (.iconst 1, 1) := by decide +kernel
theorem d_M_contextOf_98 : decode c_M_contextOf 98 = .ok (.if_icmp .ne 20, 3) := by decide +kernel
theorem d_M_contextOf_101 : decode c_M_contextOf 101 = .ok (.iload 6, 2) := by decide +kernel
theorem d_M_contextOf_103 : decode c_M_contextOf 103 = .ok (.iconst 1, 1) := by decide +kernel
theorem d_M_contextOf_104 : decode c_M_contextOf 104 = .ok (.if_icmp .le 7, 3) := by decide +kernel
theorem d_M_contextOf_107 : decode c_M_contextOf 107 = .ok (.iconst 5, 1) := by decide +kernel
theorem d_M_contextOf_108 : decode c_M_contextOf 108 = .ok (.goto 22, 3) := by decide +kernel
theorem d_M_contextOf_111 : decode c_M_contextOf 111 = .ok (.iconst 3, 1) := by decide +kernel
theorem d_M_contextOf_112 : decode c_M_contextOf 112 = .ok (.iload 6, 2) := by decide +kernel
theorem d_M_contextOf_114 : decode c_M_contextOf 114 = .ok (.iadd, 1) := by decide +kernel
theorem d_M_contextOf_115 : decode c_M_contextOf 115 = .ok (.goto 15, 3) := by decide +kernel
theorem d_M_contextOf_118 : decode c_M_contextOf 118 = .ok (.iload 6, 2) := by decide +kernel
theorem d_M_contextOf_120 : decode c_M_contextOf 120 = .ok (.iconst 1, 1) := by decide +kernel
theorem d_M_contextOf_121 : decode c_M_contextOf 121 = .ok (.if_icmp .le 7, 3) := by decide +kernel
theorem d_M_contextOf_124 : decode c_M_contextOf 124 = .ok (.iconst 2, 1) := by decide +kernel
theorem d_M_contextOf_125 : decode c_M_contextOf 125 = .ok (.goto 5, 3) := by decide +kernel
theorem d_M_contextOf_128 : decode c_M_contextOf 128 = .ok (.iload 6, 2) := by decide +kernel
theorem d_M_contextOf_130 : decode c_M_contextOf 130 = .ok (.ireturn, 1) := by decide +kernel
theorem d_M_contextOf_131 : decode c_M_contextOf 131 = .ok (.aload_n 0, 1) := by decide +kernel
theorem d_M_contextOf_132 : decode c_M_contextOf 132 = .ok (.getfield 76, 3) := by decide +kernel
theorem d_M_contextOf_135 : decode c_M_contextOf 135 = .ok (.ifCond .ne 7, 3) := by decide +kernel
theorem d_M_contextOf_138 : decode c_M_contextOf 138 = .ok (.iload_n 3, 1) := by decide +kernel
theorem d_M_contextOf_139 : decode c_M_contextOf 139 = .ok (.goto 5, 3) := by decide +kernel
theorem d_M_contextOf_142 : decode c_M_contextOf 142 = .ok (.iload 4, 2) := by decide +kernel
theorem d_M_contextOf_144 : decode c_M_contextOf 144 = .ok (.istore 6, 2) := by decide +kernel
theorem d_M_contextOf_146 : decode c_M_contextOf 146 = .ok (.aload_n 0, 1) := by decide +kernel
theorem d_M_contextOf_147 : decode c_M_contextOf 147 = .ok (.getfield 76, 3) := by decide +kernel
theorem d_M_contextOf_150 : decode c_M_contextOf 150 = .ok (.ifCond .ne 8, 3) := by decide +kernel
theorem d_M_contextOf_153 : decode c_M_contextOf 153 = .ok (.iload 4, 2) := by decide +kernel
theorem d_M_contextOf_155 : decode c_M_contextOf 155 = .ok (.goto 4, 3) := by decide +kernel
theorem d_M_contextOf_158 : decode c_M_contextOf 158 = .ok (.iload_n 3, 1) := by decide +kernel
theorem d_M_contextOf_159 : decode c_M_contextOf 159 = .ok (.istore 7, 2) := by decide +kernel
theorem d_M_contextOf_161 : decode c_M_contextOf 161 = .ok (.iload 6, 2) := by decide +kernel
theorem d_M_contextOf_163 : decode c_M_contextOf 163 = .ok (.ifCond .le 36, 3) := by decide +kernel
theorem d_M_contextOf_166 : decode c_M_contextOf 166 = .ok (.iload 6, 2) := by decide +kernel
theorem d_M_contextOf_168 : decode c_M_contextOf 168 = .ok (.iconst 2, 1) := by decide +kernel
theorem d_M_contextOf_169 : decode c_M_contextOf 169 = .ok (.if_icmp .ne 8, 3) := by decide +kernel
theorem d_M_contextOf_172 : decode c_M_contextOf 172 = .ok (.bipush 8, 2) := by decide +kernel
theorem d_M_contextOf_174 : decode c_M_contextOf 174 = .ok (.goto 24, 3) := by decide +kernel
theorem d_M_contextOf_177 : decode c_M_contextOf 177 = .ok (.iload 7, 2) := by decide +kernel
theorem d_M_contextOf_179 : decode c_M_contextOf 179 = .ok (.ifCond .le 8, 3) := by decide +kernel
theorem d_M_contextOf_182 : decode c_M_contextOf 182 = .ok (.bipush 7, 2) := by decide +kernel
theorem d_M_contextOf_184 : decode c_M_contextOf 184 = .ok (.goto 14, 3) := by decide +kernel
theorem d_M_contextOf_187 : decode c_M_contextOf 187 = .ok (.iload 5, 2) := by decide +kernel
theorem d_M_contextOf_189 : decode c_M_contextOf 189 = .ok (.ifCond .le 8, 3) := by decide +kernel
theorem d_M_contextOf_192 : decode c_M_contextOf 192 = .ok (.bipush 6, 2) := by decide +kernel
theorem d_M_contextOf_194 : decode c_M_contextOf 194 = .ok (.goto 4, 3) := by decide +kernel
theorem d_M_contextOf_197 : decode c_M_contextOf 197 = .ok (.iconst 5, 1) := by decide +kernel
theorem d_M_contextOf_198 : decode c_M_contextOf 198 = .ok (.ireturn, 1) := by decide +kernel
theorem d_M_contextOf_199 : decode c_M_contextOf 199 = .ok (.iload 7, 2) := by decide +kernel
theorem d_M_contextOf_201 : decode c_M_contextOf 201 = .ok (.iconst 2, 1) := by decide +kernel
theorem d_M_contextOf_202 : decode c_M_contextOf 202 = .ok (.if_icmp .ne 7, 3) := by decide +kernel
theorem d_M_contextOf_205 : decode c_M_contextOf 205 = .ok (.iconst 4, 1) := by decide +kernel
theorem d_M_contextOf_206 : decode c_M_contextOf 206 = .ok (.goto 25, 3) := by decide +kernel
theorem d_M_contextOf_209 : decode c_M_contextOf 209 = .ok (.iload 7, 2) := by decide +kernel
theorem d_M_contextOf_211 : decode c_M_contextOf 211 = .ok (.iconst 1, 1) := by decide +kernel
theorem d_M_contextOf_212 : decode c_M_contextOf 212 = .ok (.if_icmp .ne 7, 3) := by decide +kernel
theorem d_M_contextOf_215 : decode c_M_contextOf 215 = .ok (.iconst 3, 1) := by decide +kernel
theorem d_M_contextOf_216 : decode c_M_contextOf 216 = .ok (.goto 15, 3) := by decide +kernel
theorem d_M_contextOf_219 : decode c_M_contextOf 219 = .ok (.iload 5, 2) := by decide +kernel
theorem d_M_contextOf_221 : decode c_M_contextOf 221 = .ok (.iconst 1, 1) := by decide +kernel
theorem d_M_contextOf_222 : decode c_M_contextOf 222 = .ok (.if_icmp .le 7, 3) := by decide +kernel
theorem d_M_contextOf_225 : decode c_M_contextOf 225 = .ok (.iconst 2, 1) := by decide +kernel
theorem d_M_contextOf_226 : decode c_M_contextOf 226 = .ok (.goto 5, 3) := by decide +kernel
theorem d_M_contextOf_229 : decode c_M_contextOf 229 = .ok (.iload 5, 2) := by decide +kernel
theorem d_M_contextOf_231 : decode c_M_contextOf 231 = .ok (.ireturn, 1) := by decide +kernel
abbrev rm_MS_within : Room := { frames := 0, cells := 0, slots := 0, locals := 0 }
set_option maxHeartbeats 4000000 in
set_option maxRecDepth 100000 in
theorem m_MS_within (l : Launch) (dC : Nat → ClassId) (dI : Nat → Nat → Nat) (a0 : Int64) (u : Int32) (hF : f_MS_within a0 = u) : Met l y_M_within (kws y_M_within c_M_within 2 (some .int)) rm_MS_within (kRe (dC, dI) [.long a0] [] []) (k2_QcV (.int u)) 0 0 (fun _ => False) := by
  unfold f_MS_within at hF
  refine kR_of (cc := c_M_within) (maxL := 2) (ret := (some .int)) (by decide) (Nat.le_of_ble_eq_true rfl) ?_
  intro p e s m args below meth c Q hQ hfx hP hK hN ls hl
  obtain ⟨hx, hb, hr, hml, hown, hts, hlocks⟩ := hfx
  have hown : s.vm.findClass R_M = some m.cls := hown
  have hl : lv_has ls 2 [(0, .long a0)] := hl
  refine lv_lload_n hx hb d_M_within_0 rfl (lv_at hl 0 rfl) ?_
  refine lv_ldc2 (v := 32767) hx hb hown (hts _ kw_4_10) d_M_within_1 ?_
  refine W.lcmp hx hb d_M_within_4 ?_
  refine lv_if_le (tgt := 14) hx hb d_M_within_5 (by decide) (fun c1 => ?_) (fun c1 => ?_)
  · have hF := kc_pos c1 hF
    refine lv_lload_n hx hb d_M_within_14 rfl (lv_at hl 0 rfl) ?_
    refine lv_ldc2 (v := -32767) hx hb hown (hts _ kw_4_11) d_M_within_15 ?_
    refine W.lcmp hx hb d_M_within_18 ?_
    refine lv_if_ge (tgt := 28) hx hb d_M_within_19 (by decide) (fun c2 => ?_) (fun c2 => ?_)
    · have hF := kc_pos c2 hF
      refine lv_lload_n hx hb d_M_within_28 rfl (lv_at hl 0 rfl) ?_
      refine lv_l2i (v := a0.toInt32) hx hb d_M_within_29 rfl ?_
      subst hF
      exact kr_iret hx hb hr hlocks hQ d_M_within_30
    have hF := kc_neg c2 hF
    refine lv_sipush (v := -32767) hx hb d_M_within_22 (by decide) ?_
    refine lv_goto (tgt := 30) hx hb d_M_within_25 (by decide) ?_
    subst hF
    exact kr_iret hx hb hr hlocks hQ d_M_within_30
  have hF := kc_neg c1 hF
  refine lv_sipush (v := 32767) hx hb d_M_within_8 (by decide) ?_
  refine lv_goto (tgt := 30) hx hb d_M_within_11 (by decide) ?_
  subst hF
  exact kr_iret hx hb hr hlocks hQ d_M_within_30
abbrev rm_MS_passesFor : Room := { frames := 0, cells := 0, slots := 0, locals := 0 }
set_option maxHeartbeats 4000000 in
set_option maxRecDepth 100000 in
theorem m_MS_passesFor (l : Launch) (dC : Nat → ClassId) (dI : Nat → Nat → Nat) (a0 : Int32) (u : Int32) (hF : f_MS_passesFor a0 = u) : Met l y_M_passesFor (kws y_M_passesFor c_M_passesFor 1 (some .int)) rm_MS_passesFor (kRe (dC, dI) [.int a0] [] []) (k2_QcV (.int u)) 0 0 (fun _ => False) := by
  unfold f_MS_passesFor at hF
  refine kR_of (cc := c_M_passesFor) (maxL := 1) (ret := (some .int)) (by decide) (Nat.le_of_ble_eq_true rfl) ?_
  intro p e s m args below meth c Q hQ hfx hP hK hN ls hl
  obtain ⟨hx, hb, hr, hml, hown, hts, hlocks⟩ := hfx
  have hown : s.vm.findClass R_M = some m.cls := hown
  have hl : lv_has ls 1 [(0, .int a0)] := hl
  refine lv_iload_n hx hb d_M_passesFor_0 rfl (lv_at hl 0 rfl) ?_
  refine lv_if_ne (tgt := 8) hx hb d_M_passesFor_1 (by decide) (fun c1 => ?_) (fun c1 => ?_)
  · have hF := kc_neg c1 hF
    refine lv_iconst (v := 3) hx hb d_M_passesFor_8 (by decide) ?_
    refine lv_iload_n hx hb d_M_passesFor_9 rfl (lv_at hl 0 rfl) ?_
    refine lv_imul hx hb d_M_passesFor_10 ?_
    refine lv_iconst (v := 2) hx hb d_M_passesFor_11 (by decide) ?_
    refine lv_isub hx hb d_M_passesFor_12 ?_
    subst hF
    exact kr_iret hx hb hr hlocks hQ d_M_passesFor_13
  have hF := kc_pos c1 hF
  refine lv_iconst (v := 0) hx hb d_M_passesFor_4 (by decide) ?_
  refine lv_goto (tgt := 13) hx hb d_M_passesFor_5 (by decide) ?_
  subst hF
  exact kr_iret hx hb hr hlocks hQ d_M_passesFor_13
abbrev rm_MS_kindOf : Room := { frames := 0, cells := 0, slots := 0, locals := 0 }
set_option maxHeartbeats 4000000 in
set_option maxRecDepth 100000 in
theorem m_MS_kindOf (l : Launch) (dC : Nat → ClassId) (dI : Nat → Nat → Nat) (a0 : Int32) (u : Int32) (hF : f_MS_kindOf a0 = u) : Met l y_M_kindOf (kws y_M_kindOf c_M_kindOf 1 (some .int)) rm_MS_kindOf (kRe (dC, dI) [.int a0] [] []) (k2_QcV (.int u)) 0 0 (fun _ => False) := by
  unfold f_MS_kindOf at hF
  refine kR_of (cc := c_M_kindOf) (maxL := 1) (ret := (some .int)) (by decide) (Nat.le_of_ble_eq_true rfl) ?_
  intro p e s m args below meth c Q hQ hfx hP hK hN ls hl
  obtain ⟨hx, hb, hr, hml, hown, hts, hlocks⟩ := hfx
  have hown : s.vm.findClass R_M = some m.cls := hown
  have hl : lv_has ls 1 [(0, .int a0)] := hl
  refine lv_iload_n hx hb d_M_kindOf_0 rfl (lv_at hl 0 rfl) ?_
  refine lv_if_ne (tgt := 8) hx hb d_M_kindOf_1 (by decide) (fun c1 => ?_) (fun c1 => ?_)
  · have hF := kc_neg c1 hF
    refine lv_iload_n hx hb d_M_kindOf_8 rfl (lv_at hl 0 rfl) ?_
    refine lv_iconst (v := 1) hx hb d_M_kindOf_9 (by decide) ?_
    refine lv_isub hx hb d_M_kindOf_10 ?_
    refine lv_iconst (v := 3) hx hb d_M_kindOf_11 (by decide) ?_
    refine lv_irem hx hb d_M_kindOf_12 (by decide) ?_
    refine W.eq (g2 := F0 m 13 ls [.int (krem (a0 - (1 : Int32)) (3 : Int32))]) rfl ?_
    subst hF
    exact kr_iret hx hb hr hlocks hQ d_M_kindOf_13
  have hF := kc_pos c1 hF
  refine lv_iconst (v := 2) hx hb d_M_kindOf_4 (by decide) ?_
  refine lv_goto (tgt := 13) hx hb d_M_kindOf_5 (by decide) ?_
  subst hF
  exact kr_iret hx hb hr hlocks hQ d_M_kindOf_13
abbrev rm_MS_brought : Room := { frames := 0, cells := 0, slots := 0, locals := 0 }
set_option maxHeartbeats 4000000 in
set_option maxRecDepth 100000 in
theorem m_MS_brought (l : Launch) (dC : Nat → ClassId) (dI : Nat → Nat → Nat) (a0 : Int32) (u : Int32) (hF : f_MS_brought a0 = u) : Met l y_M_brought (kws y_M_brought c_M_brought 1 (some .int)) rm_MS_brought (kRe (dC, dI) [.int a0] [] []) (k2_QcV (.int u)) 0 0 (fun _ => False) := by
  unfold f_MS_brought at hF
  refine kR_of (cc := c_M_brought) (maxL := 1) (ret := (some .int)) (by decide) (Nat.le_of_ble_eq_true rfl) ?_
  intro p e s m args below meth c Q hQ hfx hP hK hN ls hl
  obtain ⟨hx, hb, hr, hml, hown, hts, hlocks⟩ := hfx
  have hown : s.vm.findClass R_M = some m.cls := hown
  have hl : lv_has ls 1 [(0, .int a0)] := hl
  refine lv_iload_n hx hb d_M_brought_0 rfl (lv_at hl 0 rfl) ?_
  refine lv_iconst (v := 1) hx hb d_M_brought_1 (by decide) ?_
  refine lv_icmp_le (tgt := 9) hx hb d_M_brought_2 (by decide) (fun c1 => ?_) (fun c1 => ?_)
  · have hF := kc_pos c1 hF
    refine lv_iload_n hx hb d_M_brought_9 rfl (lv_at hl 0 rfl) ?_
    refine lv_iconst (v := -1) hx hb d_M_brought_10 (by decide) ?_
    refine lv_icmp_ge (tgt := 18) hx hb d_M_brought_11 (by decide) (fun c2 => ?_) (fun c2 => ?_)
    · have hF := kc_pos c2 hF
      refine lv_iload_n hx hb d_M_brought_18 rfl (lv_at hl 0 rfl) ?_
      subst hF
      exact kr_iret hx hb hr hlocks hQ d_M_brought_19
    have hF := kc_neg c2 hF
    refine lv_iconst (v := -1) hx hb d_M_brought_14 (by decide) ?_
    refine lv_goto (tgt := 19) hx hb d_M_brought_15 (by decide) ?_
    subst hF
    exact kr_iret hx hb hr hlocks hQ d_M_brought_19
  have hF := kc_neg c1 hF
  refine lv_iconst (v := 1) hx hb d_M_brought_5 (by decide) ?_
  refine lv_goto (tgt := 19) hx hb d_M_brought_6 (by decide) ?_
  subst hF
  exact kr_iret hx hb hr hlocks hQ d_M_brought_19
abbrev rm_M_thrown : Room := { frames := 0, cells := 0, slots := 0, locals := 0 }
set_option maxHeartbeats 4000000 in
set_option maxRecDepth 100000 in
theorem m_M_thrown (l : Launch) (dC : Nat → ClassId) (dI : Nat → Nat → Nat) (q_mo q_msa q_mbi q_mcx q_mpa q_mle q_mdi q_mrd q_msz q_mbe q_mfa q_mse q_mrf q_mlo q_mos q_mwb q_mol q_mrv q_mrl : Nat) (mref : Int32) (mw : Int32) (mh : Int32) (mst : Int32) (mbd : Int32) (mtb : Int32) (mps : Int32) (mtr : Int32) (misr : Int32) (mplc : Int32) (mlak : Int32) (mpl : Int32) (mpass : Int32) (mraw : Int32) (u : Int32) (hF : f_M_thrown mref = u) : Met l y_M_thrown (kws y_M_thrown c_M_thrown 1 (some .int)) rm_M_thrown (kRe (dC, dI) [.ref q_mo] [(q_mo, .inr (5, [.int mref, .int mw, .int mh, .int mst, .int mbd, .ref q_msa, .int mtb, .ref q_mbi, .ref q_mcx, .ref q_mpa, .int mps, .ref q_mle, .ref q_mdi, .int mtr, .ref q_mrd, .int misr, .int mplc, .int mlak, .int mpl, .int mpass, .int mraw, .ref q_msz, .ref q_mbe, .ref q_mfa, .ref q_mse, .ref q_mrf, .ref q_mlo, .ref q_mos, .ref q_mwb, .ref q_mol, .ref q_mrv, .ref q_mrl]))] []) (k2_QcV (.int u)) 0 0 (fun _ => False) := by
  unfold f_M_thrown at hF
  refine kR_of (cc := c_M_thrown) (maxL := 1) (ret := (some .int)) (by decide) (Nat.le_of_ble_eq_true rfl) ?_
  intro p e s m args below meth c Q hQ hfx hP hK hN ls hl
  obtain ⟨hx, hb, hr, hml, hown, hts, hlocks⟩ := hfx
  have hown : s.vm.findClass R_M = some m.cls := hown
  have hl : lv_has ls 1 [(0, .ref q_mo)] := hl
  refine lv_aload_n hx hb d_M_thrown_0 rfl (lv_at hl 0 rfl) ?_
  refine va_get (D := (dC, dI)) (ci := 5) (v := .int mref) (C := R_M) (T := T_M) (N := 32) hx hb hts ki_M hown hK hP 0 rfl rfl 0 (by decide) (hts _ kw_3_133) (fun _ h9 => h9) rfl d_M_thrown_1 ?_
  subst hF
  exact kr_iret hx hb hr hlocks hQ d_M_thrown_4
abbrev rm_M_has : Room := { frames := 0, cells := 0, slots := 0, locals := 0 }
set_option maxHeartbeats 4000000 in
set_option maxRecDepth 100000 in
theorem m_M_has (l : Launch) (dC : Nat → ClassId) (dI : Nat → Nat → Nat) (q_mo q_msa q_mbi q_mcx q_mpa q_mle q_mdi q_mrd q_msz q_mbe q_mfa q_mse q_mrf q_mlo q_mos q_mwb q_mol q_mrv q_mrl : Nat) (mref : Int32) (mw : Int32) (mh : Int32) (mst : Int32) (mbd : Int32) (mtb : Int32) (mps : Int32) (mtr : Int32) (misr : Int32) (mplc : Int32) (mlak : Int32) (mpl : Int32) (mpass : Int32) (mraw : Int32) (a0 : Int32) (u : Int32) (hF : f_M_has mst a0 = u) : Met l y_M_has (kws y_M_has c_M_has 2 (some .boolean)) rm_M_has (kRe (dC, dI) [.ref q_mo, .int a0] [(q_mo, .inr (5, [.int mref, .int mw, .int mh, .int mst, .int mbd, .ref q_msa, .int mtb, .ref q_mbi, .ref q_mcx, .ref q_mpa, .int mps, .ref q_mle, .ref q_mdi, .int mtr, .ref q_mrd, .int misr, .int mplc, .int mlak, .int mpl, .int mpass, .int mraw, .ref q_msz, .ref q_mbe, .ref q_mfa, .ref q_mse, .ref q_mrf, .ref q_mlo, .ref q_mos, .ref q_mwb, .ref q_mol, .ref q_mrv, .ref q_mrl]))] []) (k2_QcV (.int u)) 0 0 (fun _ => False) := by
  unfold f_M_has at hF
  refine kR_of (cc := c_M_has) (maxL := 2) (ret := (some .boolean)) (by decide) (Nat.le_of_ble_eq_true rfl) ?_
  intro p e s m args below meth c Q hQ hfx hP hK hN ls hl
  obtain ⟨hx, hb, hr, hml, hown, hts, hlocks⟩ := hfx
  have hown : s.vm.findClass R_M = some m.cls := hown
  have hl : lv_has ls 2 [(0, .ref q_mo), (1, .int a0)] := hl
  refine lv_aload_n hx hb d_M_has_0 rfl (lv_at hl 0 rfl) ?_
  refine va_get (D := (dC, dI)) (ci := 5) (v := .int mst) (C := R_M) (T := T_M) (N := 32) hx hb hts ki_M hown hK hP 0 rfl rfl 3 (by decide) (hts _ kw_3_136) (fun _ h9 => h9) rfl d_M_has_1 ?_
  refine lv_iload_n hx hb d_M_has_4 rfl (lv_at hl 1 rfl) ?_
  refine lv_iand hx hb d_M_has_5 ?_
  refine lv_if_eq (tgt := 13) hx hb d_M_has_6 (by decide) (fun c1 => ?_) (fun c1 => ?_)
  · have hF := kc_pos c1 hF
    refine lv_iconst (v := 0) hx hb d_M_has_13 (by decide) ?_
    subst hF
    exact kr_zret hx hb hr hlocks hQ (by decide) d_M_has_14
  have hF := kc_neg c1 hF
  refine lv_iconst (v := 1) hx hb d_M_has_9 (by decide) ?_
  refine lv_goto (tgt := 14) hx hb d_M_has_10 (by decide) ?_
  subst hF
  exact kr_zret hx hb hr hlocks hQ (by decide) d_M_has_14
abbrev rm_M_isIn : Room := { frames := 0, cells := 0, slots := 0, locals := 0 }
set_option maxHeartbeats 4000000 in
set_option maxRecDepth 100000 in
theorem m_M_isIn (l : Launch) (dC : Nat → ClassId) (dI : Nat → Nat → Nat) (q_mo q_msa q_mbi q_mcx q_mpa q_mle q_mdi q_mrd q_msz q_mbe q_mfa q_mse q_mrf q_mlo q_mos q_mwb q_mol q_mrv q_mrl : Nat) (mref : Int32) (mw : Int32) (mh : Int32) (mst : Int32) (mbd : Int32) (mtb : Int32) (mps : Int32) (mtr : Int32) (misr : Int32) (mplc : Int32) (mlak : Int32) (mpl : Int32) (mpass : Int32) (mraw : Int32) (a0 : Int32) (a1 : Int32) (u : Int32) (hF : f_M_isIn mw mh a0 a1 = u) : Met l y_M_isIn (kws y_M_isIn c_M_isIn 3 (some .boolean)) rm_M_isIn (kRe (dC, dI) [.ref q_mo, .int a0, .int a1] [(q_mo, .inr (5, [.int mref, .int mw, .int mh, .int mst, .int mbd, .ref q_msa, .int mtb, .ref q_mbi, .ref q_mcx, .ref q_mpa, .int mps, .ref q_mle, .ref q_mdi, .int mtr, .ref q_mrd, .int misr, .int mplc, .int mlak, .int mpl, .int mpass, .int mraw, .ref q_msz, .ref q_mbe, .ref q_mfa, .ref q_mse, .ref q_mrf, .ref q_mlo, .ref q_mos, .ref q_mwb, .ref q_mol, .ref q_mrv, .ref q_mrl]))] []) (k2_QcV (.int u)) 0 0 (fun _ => False) := by
  unfold f_M_isIn at hF
  refine kR_of (cc := c_M_isIn) (maxL := 3) (ret := (some .boolean)) (by decide) (Nat.le_of_ble_eq_true rfl) ?_
  intro p e s m args below meth c Q hQ hfx hP hK hN ls hl
  obtain ⟨hx, hb, hr, hml, hown, hts, hlocks⟩ := hfx
  have hown : s.vm.findClass R_M = some m.cls := hown
  have hl : lv_has ls 3 [(0, .ref q_mo), (1, .int a0), (2, .int a1)] := hl
  refine lv_iload_n hx hb d_M_isIn_0 rfl (lv_at hl 1 rfl) ?_
  refine lv_if_lt (tgt := 28) hx hb d_M_isIn_1 (by decide) (fun c1 => ?_) (fun c1 => ?_)
  · have hF := kc_pos c1 hF
    refine lv_iconst (v := 0) hx hb d_M_isIn_28 (by decide) ?_
    subst hF
    exact kr_zret hx hb hr hlocks hQ (by decide) d_M_isIn_29
  have hF := kc_neg c1 hF
  refine lv_iload_n hx hb d_M_isIn_4 rfl (lv_at hl 1 rfl) ?_
  refine lv_aload_n hx hb d_M_isIn_5 rfl (lv_at hl 0 rfl) ?_
  refine va_get (D := (dC, dI)) (ci := 5) (v := .int mw) (C := R_M) (T := T_M) (N := 32) hx hb hts ki_M hown hK hP 0 rfl rfl 1 (by decide) (hts _ kw_3_134) (fun _ h9 => h9) rfl d_M_isIn_6 ?_
  refine lv_icmp_ge (tgt := 28) hx hb d_M_isIn_9 (by decide) (fun c2 => ?_) (fun c2 => ?_)
  · have hF := kc_pos c2 hF
    refine lv_iconst (v := 0) hx hb d_M_isIn_28 (by decide) ?_
    subst hF
    exact kr_zret hx hb hr hlocks hQ (by decide) d_M_isIn_29
  have hF := kc_neg c2 hF
  refine lv_iload_n hx hb d_M_isIn_12 rfl (lv_at hl 2 rfl) ?_
  refine lv_if_lt (tgt := 28) hx hb d_M_isIn_13 (by decide) (fun c3 => ?_) (fun c3 => ?_)
  · have hF := kc_pos c3 hF
    refine lv_iconst (v := 0) hx hb d_M_isIn_28 (by decide) ?_
    subst hF
    exact kr_zret hx hb hr hlocks hQ (by decide) d_M_isIn_29
  have hF := kc_neg c3 hF
  refine lv_iload_n hx hb d_M_isIn_16 rfl (lv_at hl 2 rfl) ?_
  refine lv_aload_n hx hb d_M_isIn_17 rfl (lv_at hl 0 rfl) ?_
  refine va_get (D := (dC, dI)) (ci := 5) (v := .int mh) (C := R_M) (T := T_M) (N := 32) hx hb hts ki_M hown hK hP 0 rfl rfl 2 (by decide) (hts _ kw_3_135) (fun _ h9 => h9) rfl d_M_isIn_18 ?_
  refine lv_icmp_ge (tgt := 28) hx hb d_M_isIn_21 (by decide) (fun c4 => ?_) (fun c4 => ?_)
  · have hF := kc_pos c4 hF
    refine lv_iconst (v := 0) hx hb d_M_isIn_28 (by decide) ?_
    subst hF
    exact kr_zret hx hb hr hlocks hQ (by decide) d_M_isIn_29
  have hF := kc_neg c4 hF
  refine lv_iconst (v := 1) hx hb d_M_isIn_24 (by decide) ?_
  refine lv_goto (tgt := 29) hx hb d_M_isIn_25 (by decide) ?_
  subst hF
  exact kr_zret hx hb hr hlocks hQ (by decide) d_M_isIn_29
abbrev rm_M_put : Room := { frames := 1, cells := 0, slots := 0, locals := 22 }
set_option maxHeartbeats 4000000 in
set_option maxRecDepth 100000 in
theorem m_M_put (l : Launch) (dC : Nat → ClassId) (dI : Nat → Nat → Nat) (q_mo q_msa q_mbi q_mcx q_mpa q_mle q_mdi q_mrd q_msz q_mbe q_mfa q_mse q_mrf q_mlo q_mos q_mwb q_mol q_mrv q_mrl : Nat) (k_msa : ClassId) (n_msa : Nat) (mref : Int32) (mw : Int32) (mh : Int32) (mst : Int32) (mbd : Int32) (mtb : Int32) (mps : Int32) (mtr : Int32) (misr : Int32) (mplc : Int32) (mlak : Int32) (mpl : Int32) (mpass : Int32) (mraw : Int32) (msam : (Nat → Int32)) (a0 : Int32) (a1 : Int32) (a2 : Int32) (u : Int32 × Int32 × (Nat → Int32)) (hF : f_M_put mw mh msam n_msa a0 a1 a2 = some u) : ∀ sz : Nat, Met l y_M_put (kws y_M_put c_M_put 5 (some .int)) rm_M_put (kPre (dC, dI) [.ref q_mo, .int a0, .int a1, .int a2] [(q_mo, .inr (5, [.int mref, .int mw, .int mh, .int mst, .int mbd, .ref q_msa, .int mtb, .ref q_mbi, .ref q_mcx, .ref q_mpa, .int mps, .ref q_mle, .ref q_mdi, .int mtr, .ref q_mrd, .int misr, .int mplc, .int mlak, .int mpl, .int mpass, .int mraw, .ref q_msz, .ref q_mbe, .ref q_mfa, .ref q_mse, .ref q_mrf, .ref q_mlo, .ref q_mos, .ref q_mwb, .ref q_mol, .ref q_mrv, .ref q_mrl])), (q_msa, .inl (k_msa, n_msa, .inl msam))] [(k_msa, .int)] sz) (kPost (dC, dI) (some (.int u.1)) [(q_mo, .inr (5, [.int u.2.1, .int mw, .int mh, .int mst, .int mbd, .ref q_msa, .int mtb, .ref q_mbi, .ref q_mcx, .ref q_mpa, .int mps, .ref q_mle, .ref q_mdi, .int mtr, .ref q_mrd, .int misr, .int mplc, .int mlak, .int mpl, .int mpass, .int mraw, .ref q_msz, .ref q_mbe, .ref q_mfa, .ref q_mse, .ref q_mrf, .ref q_mlo, .ref q_mos, .ref q_mwb, .ref q_mol, .ref q_mrv, .ref q_mrl])), (q_msa, .inl (k_msa, n_msa, .inl u.2.2))] (va_A [(q_mo, .inr (5, [.int mref, .int mw, .int mh, .int mst, .int mbd, .ref q_msa, .int mtb, .ref q_mbi, .ref q_mcx, .ref q_mpa, .int mps, .ref q_mle, .ref q_mdi, .int mtr, .ref q_mrd, .int misr, .int mplc, .int mlak, .int mpl, .int mpass, .int mraw, .ref q_msz, .ref q_mbe, .ref q_mfa, .ref q_mse, .ref q_mrf, .ref q_mlo, .ref q_mos, .ref q_mwb, .ref q_mol, .ref q_mrv, .ref q_mrl])), (q_msa, .inl (k_msa, n_msa, .inl msam))] sz)) 0 0 (va_A [(q_mo, .inr (5, [.int mref, .int mw, .int mh, .int mst, .int mbd, .ref q_msa, .int mtb, .ref q_mbi, .ref q_mcx, .ref q_mpa, .int mps, .ref q_mle, .ref q_mdi, .int mtr, .ref q_mrd, .int misr, .int mplc, .int mlak, .int mpl, .int mpass, .int mraw, .ref q_msz, .ref q_mbe, .ref q_mfa, .ref q_mse, .ref q_mrf, .ref q_mlo, .ref q_mos, .ref q_mwb, .ref q_mol, .ref q_mrv, .ref q_mrl])), (q_msa, .inl (k_msa, n_msa, .inl msam))] sz) := by
  unfold f_M_put at hF
  refine kU_of (cc := c_M_put) (maxL := 5) (ret := (some .int)) (by decide) (Nat.le_of_ble_eq_true rfl) ?_
  intro p e s m args below meth c Q A hQ hfx hK hN hA H locs ls hP hD hS hl
  obtain ⟨hx, hb, hr, hml, hown, hts, hlocks⟩ := hfx
  have hown : s.vm.findClass R_M = some m.cls := hown
  have hl : lv_has ls 5 [(0, .ref q_mo), (1, .int a0), (2, .int a1), (3, .int a2)] := hl
  refine lv_aload_n hx hb d_M_put_0 rfl (lv_at hl 0 rfl) ?_
  refine lv_aload_n hx hb d_M_put_1 rfl (lv_at hl 0 rfl) ?_
  refine lv_iload_n hx hb d_M_put_2 rfl (lv_at hl 1 rfl) ?_
  refine lv_iload_n hx hb d_M_put_3 rfl (lv_at hl 2 rfl) ?_
  refine kr_call (va_runV (As := [.int a0, .int a1]) (rest := [.ref q_mo]) ⟨hx, hb, hml, hown, hts⟩ (m_M_isIn l dC dI q_mo q_msa q_mbi q_mcx q_mpa q_mle q_mdi q_mrd q_msz q_mbe q_mfa q_mse q_mrf q_mlo q_mos q_mwb q_mol q_mrv q_mrl mref mw mh mst mbd mtb mps mtr misr mplc mlak mpl mpass mraw a0 a1 (f_M_isIn mw mh a0 a1) rfl) (cwV 2 hts (kgV kw_3_239 kw_4_1 kp_22 kw_1_8 kw_4_2) rfl rfl rfl (by decide +kernel) ⟨Nat.le_of_ble_eq_true rfl, Nat.le_of_ble_eq_true rfl⟩) ⟨kRe_blind, va_recv hK hP (ci := 5) (q0 := 0) rfl rfl, kRe_of (hP.sub [0] rfl) (hK.sub [] rfl) hN⟩ rfl rfl hl.1 rfl (lv_room (Nat.le_of_ble_eq_true rfl)) d_M_put_4 ⟨Nat.le_of_ble_eq_true rfl, Nat.le_of_ble_eq_true rfl⟩) ?_
  obtain ⟨u2, hcu2, hF⟩ := kc_bnd hF
  have hJu2 : ∀ (H : Heap) (locs : List Loc) (ls : Array Slot), va_P (dC, dI) vwCl [(q_mo, .inr (5, [.int mref, .int mw, .int mh, .int mst, .int mbd, .ref q_msa, .int mtb, .ref q_mbi, .ref q_mcx, .ref q_mpa, .int mps, .ref q_mle, .ref q_mdi, .int mtr, .ref q_mrd, .int misr, .int mplc, .int mlak, .int mpl, .int mpass, .int mraw, .ref q_msz, .ref q_mbe, .ref q_mfa, .ref q_mse, .ref q_mrf, .ref q_mlo, .ref q_mos, .ref q_mwb, .ref q_mol, .ref q_mrv, .ref q_mrl])), (q_msa, .inl (k_msa, n_msa, .inl msam))] H → va_D A [(q_mo, .inr (5, [.int mref, .int mw, .int mh, .int mst, .int mbd, .ref q_msa, .int mtb, .ref q_mbi, .ref q_mcx, .ref q_mpa, .int mps, .ref q_mle, .ref q_mdi, .int mtr, .ref q_mrd, .int misr, .int mplc, .int mlak, .int mpl, .int mpass, .int mraw, .ref q_msz, .ref q_mbe, .ref q_mfa, .ref q_mse, .ref q_mrf, .ref q_mlo, .ref q_mos, .ref q_mwb, .ref q_mol, .ref q_mrv, .ref q_mrl])), (q_msa, .inl (k_msa, n_msa, .inl msam))] → va_S A s.heap H locs → lv_has ls 5 [(0, .ref q_mo), (1, .int a0), (2, .int a1), (3, .int a2)] → W p l e rm_M_put s m args below meth c H locs 0 0 Q (F0 m 33 ls [.int u2, .ref q_mo]) := by
    intro H locs ls hP hD hS hl
    refine va_put (D := (dC, dI)) (ci := 5) (v := .int u2) (ty := .int) (C := R_M) (T := T_M) (N := 32) hx hb hts ki_M ty_M tyok_M nmok_M hown hK hP hD hS 0 rfl rfl 0 (by decide) (hts _ kw_3_133) (fun _ h9 => h9) rfl (by decide +kernel) rfl rfl (Nat.le_of_ble_eq_true rfl) d_M_put_33 (fun H locs hP hD hS => ?_)
    have hP : va_P (dC, dI) vwCl [(q_mo, .inr (5, [.int u2, .int mw, .int mh, .int mst, .int mbd, .ref q_msa, .int mtb, .ref q_mbi, .ref q_mcx, .ref q_mpa, .int mps, .ref q_mle, .ref q_mdi, .int mtr, .ref q_mrd, .int misr, .int mplc, .int mlak, .int mpl, .int mpass, .int mraw, .ref q_msz, .ref q_mbe, .ref q_mfa, .ref q_mse, .ref q_mrf, .ref q_mlo, .ref q_mos, .ref q_mwb, .ref q_mol, .ref q_mrv, .ref q_mrl])), (q_msa, .inl (k_msa, n_msa, .inl msam))] H := hP
    have hD : va_D A [(q_mo, .inr (5, [.int u2, .int mw, .int mh, .int mst, .int mbd, .ref q_msa, .int mtb, .ref q_mbi, .ref q_mcx, .ref q_mpa, .int mps, .ref q_mle, .ref q_mdi, .int mtr, .ref q_mrd, .int misr, .int mplc, .int mlak, .int mpl, .int mpass, .int mraw, .ref q_msz, .ref q_mbe, .ref q_mfa, .ref q_mse, .ref q_mrf, .ref q_mlo, .ref q_mos, .ref q_mwb, .ref q_mol, .ref q_mrv, .ref q_mrl])), (q_msa, .inl (k_msa, n_msa, .inl msam))] := hD
    refine lv_aload_n hx hb d_M_put_36 rfl (lv_at hl 0 rfl) ?_
    refine va_get (D := (dC, dI)) (ci := 5) (v := .int u2) (C := R_M) (T := T_M) (N := 32) hx hb hts ki_M hown hK hP 0 rfl rfl 0 (by decide) (hts _ kw_3_133) (fun _ h9 => h9) rfl d_M_put_37 ?_
    refine lv_if_le (tgt := 45) hx hb d_M_put_40 (by decide) (fun c3 => ?_) (fun c3 => ?_)
    · have hF := kc_pos c3 hF
      refine lv_aload_n hx hb d_M_put_45 rfl (lv_at hl 0 rfl) ?_
      refine va_get (D := (dC, dI)) (ci := 5) (v := .ref q_msa) (C := R_M) (T := T_M) (N := 32) hx hb hts ki_M hown hK hP 0 rfl rfl 5 (by decide) (hts _ kw_3_138) (fun _ h9 => h9) rfl d_M_put_46 ?_
      refine lv_bipush (v := 16) hx hb d_M_put_49 (by decide) ?_
      refine lv_iload_n hx hb d_M_put_51 rfl (lv_at hl 2 rfl) ?_
      refine lv_imul hx hb d_M_put_52 ?_
      refine lv_iload_n hx hb d_M_put_53 rfl (lv_at hl 1 rfl) ?_
      refine lv_iadd hx hb d_M_put_54 ?_
      obtain ⟨h4, hF⟩ := kc_no hF
      refine va_iald hx hb hK hP 1 0 rfl rfl h4 d_M_put_55 ?_
      refine lv_istore (lv' := [(4, .int (msam (((16 : Int32) * a1) + a0).toNatClampNeg)), (0, .ref q_mo), (1, .int a0), (2, .int a1), (3, .int a2)]) hx hb d_M_put_56 hl (by decide) rfl (fun ls hl => ?_)
      refine lv_aload_n hx hb d_M_put_58 rfl (lv_at hl 1 rfl) ?_
      refine va_get (D := (dC, dI)) (ci := 5) (v := .ref q_msa) (C := R_M) (T := T_M) (N := 32) hx hb hts ki_M hown hK hP 0 rfl rfl 5 (by decide) (hts _ kw_3_138) (fun _ h9 => h9) rfl d_M_put_59 ?_
      refine lv_bipush (v := 16) hx hb d_M_put_62 (by decide) ?_
      refine lv_iload_n hx hb d_M_put_64 rfl (lv_at hl 3 rfl) ?_
      refine lv_imul hx hb d_M_put_65 ?_
      refine lv_iload_n hx hb d_M_put_66 rfl (lv_at hl 2 rfl) ?_
      refine lv_iadd hx hb d_M_put_67 ?_
      refine lv_iload_n hx hb d_M_put_68 rfl (lv_at hl 4 rfl) ?_
      obtain ⟨h5, hF⟩ := kc_no hF
      refine va_iast hx hb hK hP hD hS 1 0 rfl rfl h5 d_M_put_69 (fun H locs hP hD hS => ?_)
      have hP : va_P (dC, dI) vwCl [(q_mo, .inr (5, [.int u2, .int mw, .int mh, .int mst, .int mbd, .ref q_msa, .int mtb, .ref q_mbi, .ref q_mcx, .ref q_mpa, .int mps, .ref q_mle, .ref q_mdi, .int mtr, .ref q_mrd, .int misr, .int mplc, .int mlak, .int mpl, .int mpass, .int mraw, .ref q_msz, .ref q_mbe, .ref q_mfa, .ref q_mse, .ref q_mrf, .ref q_mlo, .ref q_mos, .ref q_mwb, .ref q_mol, .ref q_mrv, .ref q_mrl])), (q_msa, .inl (k_msa, n_msa, .inl (upd msam (((16 : Int32) * a1) + a0).toNatClampNeg a2)))] H := hP
      have hD : va_D A [(q_mo, .inr (5, [.int u2, .int mw, .int mh, .int mst, .int mbd, .ref q_msa, .int mtb, .ref q_mbi, .ref q_mcx, .ref q_mpa, .int mps, .ref q_mle, .ref q_mdi, .int mtr, .ref q_mrd, .int misr, .int mplc, .int mlak, .int mpl, .int mpass, .int mraw, .ref q_msz, .ref q_mbe, .ref q_mfa, .ref q_mse, .ref q_mrf, .ref q_mlo, .ref q_mos, .ref q_mwb, .ref q_mol, .ref q_mrv, .ref q_mrl])), (q_msa, .inl (k_msa, n_msa, .inl (upd msam (((16 : Int32) * a1) + a0).toNatClampNeg a2)))] := hD
      refine lv_iload hx hb d_M_put_70 (lv_at hl 0 rfl) ?_
      obtain rfl := Option.some.inj hF
      exact ku_iret hx hb hr hlocks hQ (hP.sub [0, 1] rfl) (hD.sub [0, 1] (by decide) rfl) hS d_M_put_72
    have hF := kc_neg c3 hF
    refine lv_iconst (v := 0) hx hb d_M_put_43 (by decide) ?_
    obtain rfl := Option.some.inj hF
    exact ku_iret hx hb hr hlocks hQ (hP.sub [0, 1] rfl) (hD.sub [0, 1] (by decide) rfl) hS d_M_put_44
  clear hF; have hF := hcu2; clear hcu2
  refine lv_if_ne (tgt := 14) hx hb d_M_put_7 (by decide) (fun c1 => ?_) (fun c1 => ?_)
  · have hF := kc_neg c1 hF
    refine lv_iload_n hx hb d_M_put_14 rfl (lv_at hl 3 rfl) ?_
    refine lv_sipush (v := -32767) hx hb d_M_put_15 (by decide) ?_
    refine lv_icmp_lt (tgt := 28) hx hb d_M_put_18 (by decide) (fun c6 => ?_) (fun c6 => ?_)
    · have hF := kc_pos c6 hF
      refine lv_iconst (v := 2) hx hb d_M_put_28 (by decide) ?_
      refine lv_goto (tgt := 33) hx hb d_M_put_29 (by decide) ?_
      obtain rfl := Option.some.inj hF
      exact hJu2 _ _ _ hP hD hS (lv_sub hl [0, 1, 2, 3] rfl)
    have hF := kc_neg c6 hF
    refine lv_iload_n hx hb d_M_put_21 rfl (lv_at hl 3 rfl) ?_
    refine lv_sipush (v := 32767) hx hb d_M_put_22 (by decide) ?_
    refine lv_icmp_le (tgt := 32) hx hb d_M_put_25 (by decide) (fun c7 => ?_) (fun c7 => ?_)
    · have hF := kc_pos c7 hF
      refine lv_iconst (v := 0) hx hb d_M_put_32 (by decide) ?_
      obtain rfl := Option.some.inj hF
      exact hJu2 _ _ _ hP hD hS (lv_sub hl [0, 1, 2, 3] rfl)
    have hF := kc_neg c7 hF
    refine lv_iconst (v := 2) hx hb d_M_put_28 (by decide) ?_
    refine lv_goto (tgt := 33) hx hb d_M_put_29 (by decide) ?_
    obtain rfl := Option.some.inj hF
    exact hJu2 _ _ _ hP hD hS (lv_sub hl [0, 1, 2, 3] rfl)
  have hF := kc_pos c1 hF
  refine lv_iconst (v := 1) hx hb d_M_put_10 (by decide) ?_
  refine lv_goto (tgt := 33) hx hb d_M_put_11 (by decide) ?_
  obtain rfl := Option.some.inj hF
  exact hJu2 _ _ _ hP hD hS (lv_sub hl [0, 1, 2, 3] rfl)
abbrev rm_M_paint : Room := { frames := 1, cells := 0, slots := 0, locals := 21 }
set_option maxHeartbeats 4000000 in
set_option maxRecDepth 100000 in
theorem m_M_paint (l : Launch) (dC : Nat → ClassId) (dI : Nat → Nat → Nat) (q_mo q_msa q_mbi q_mcx q_mpa q_mle q_mdi q_mrd q_msz q_mbe q_mfa q_mse q_mrf q_mlo q_mos q_mwb q_mol q_mrv q_mrl : Nat) (k_msa : ClassId) (n_msa : Nat) (mref : Int32) (mw : Int32) (mh : Int32) (mst : Int32) (mbd : Int32) (mtb : Int32) (mps : Int32) (mtr : Int32) (misr : Int32) (mplc : Int32) (mlak : Int32) (mpl : Int32) (mpass : Int32) (mraw : Int32) (msam : (Nat → Int32)) (a0 : Int32) (a1 : Int32) (u : Int32 × Int32 × (Nat → Int32)) (hF : f_M_paint mw mh msam n_msa a0 a1 = some u) : ∀ sz : Nat, Met l y_M_paint (kws y_M_paint c_M_paint 8 (some .int)) rm_M_paint (kPre (dC, dI) [.ref q_mo, .int a0, .int a1] [(q_mo, .inr (5, [.int mref, .int mw, .int mh, .int mst, .int mbd, .ref q_msa, .int mtb, .ref q_mbi, .ref q_mcx, .ref q_mpa, .int mps, .ref q_mle, .ref q_mdi, .int mtr, .ref q_mrd, .int misr, .int mplc, .int mlak, .int mpl, .int mpass, .int mraw, .ref q_msz, .ref q_mbe, .ref q_mfa, .ref q_mse, .ref q_mrf, .ref q_mlo, .ref q_mos, .ref q_mwb, .ref q_mol, .ref q_mrv, .ref q_mrl])), (q_msa, .inl (k_msa, n_msa, .inl msam))] [(k_msa, .int)] sz) (kPost (dC, dI) (some (.int u.1)) [(q_mo, .inr (5, [.int u.2.1, .int mw, .int mh, .int mst, .int mbd, .ref q_msa, .int mtb, .ref q_mbi, .ref q_mcx, .ref q_mpa, .int mps, .ref q_mle, .ref q_mdi, .int mtr, .ref q_mrd, .int misr, .int mplc, .int mlak, .int mpl, .int mpass, .int mraw, .ref q_msz, .ref q_mbe, .ref q_mfa, .ref q_mse, .ref q_mrf, .ref q_mlo, .ref q_mos, .ref q_mwb, .ref q_mol, .ref q_mrv, .ref q_mrl])), (q_msa, .inl (k_msa, n_msa, .inl u.2.2))] (va_A [(q_mo, .inr (5, [.int mref, .int mw, .int mh, .int mst, .int mbd, .ref q_msa, .int mtb, .ref q_mbi, .ref q_mcx, .ref q_mpa, .int mps, .ref q_mle, .ref q_mdi, .int mtr, .ref q_mrd, .int misr, .int mplc, .int mlak, .int mpl, .int mpass, .int mraw, .ref q_msz, .ref q_mbe, .ref q_mfa, .ref q_mse, .ref q_mrf, .ref q_mlo, .ref q_mos, .ref q_mwb, .ref q_mol, .ref q_mrv, .ref q_mrl])), (q_msa, .inl (k_msa, n_msa, .inl msam))] sz)) 0 0 (va_A [(q_mo, .inr (5, [.int mref, .int mw, .int mh, .int mst, .int mbd, .ref q_msa, .int mtb, .ref q_mbi, .ref q_mcx, .ref q_mpa, .int mps, .ref q_mle, .ref q_mdi, .int mtr, .ref q_mrd, .int misr, .int mplc, .int mlak, .int mpl, .int mpass, .int mraw, .ref q_msz, .ref q_mbe, .ref q_mfa, .ref q_mse, .ref q_mrf, .ref q_mlo, .ref q_mos, .ref q_mwb, .ref q_mol, .ref q_mrv, .ref q_mrl])), (q_msa, .inl (k_msa, n_msa, .inl msam))] sz) := by
  unfold f_M_paint at hF
  refine kU_of (cc := c_M_paint) (maxL := 8) (ret := (some .int)) (by decide) (Nat.le_of_ble_eq_true rfl) ?_
  intro p e s m args below meth c Q A hQ hfx hK hN hA H locs ls hP hD hS hl
  obtain ⟨hx, hb, hr, hml, hown, hts, hlocks⟩ := hfx
  have hown : s.vm.findClass R_M = some m.cls := hown
  have hl : lv_has ls 8 [(0, .ref q_mo), (1, .int a0), (2, .int a1)] := hl
  refine lv_aload_n hx hb d_M_paint_0 rfl (lv_at hl 0 rfl) ?_
  refine lv_iconst (v := 0) hx hb d_M_paint_1 (by decide) ?_
  refine va_put (D := (dC, dI)) (ci := 5) (v := .int (0 : Int32)) (ty := .int) (C := R_M) (T := T_M) (N := 32) hx hb hts ki_M ty_M tyok_M nmok_M hown hK hP hD hS 0 rfl rfl 0 (by decide) (hts _ kw_3_133) (fun _ h9 => h9) rfl (by decide +kernel) rfl rfl (Nat.le_of_ble_eq_true rfl) d_M_paint_2 (fun H locs hP hD hS => ?_)
  have hP : va_P (dC, dI) vwCl [(q_mo, .inr (5, [.int (0 : Int32), .int mw, .int mh, .int mst, .int mbd, .ref q_msa, .int mtb, .ref q_mbi, .ref q_mcx, .ref q_mpa, .int mps, .ref q_mle, .ref q_mdi, .int mtr, .ref q_mrd, .int misr, .int mplc, .int mlak, .int mpl, .int mpass, .int mraw, .ref q_msz, .ref q_mbe, .ref q_mfa, .ref q_mse, .ref q_mrf, .ref q_mlo, .ref q_mos, .ref q_mwb, .ref q_mol, .ref q_mrv, .ref q_mrl])), (q_msa, .inl (k_msa, n_msa, .inl msam))] H := hP
  have hD : va_D A [(q_mo, .inr (5, [.int (0 : Int32), .int mw, .int mh, .int mst, .int mbd, .ref q_msa, .int mtb, .ref q_mbi, .ref q_mcx, .ref q_mpa, .int mps, .ref q_mle, .ref q_mdi, .int mtr, .ref q_mrd, .int misr, .int mplc, .int mlak, .int mpl, .int mpass, .int mraw, .ref q_msz, .ref q_mbe, .ref q_mfa, .ref q_mse, .ref q_mrf, .ref q_mlo, .ref q_mos, .ref q_mwb, .ref q_mol, .ref q_mrv, .ref q_mrl])), (q_msa, .inl (k_msa, n_msa, .inl msam))] := hD
  refine lv_iconst (v := 0) hx hb d_M_paint_5 (by decide) ?_
  refine lv_istore_n (lv' := [(3, .int (0 : Int32)), (0, .ref q_mo), (1, .int a0), (2, .int a1)]) hx hb d_M_paint_6 rfl hl (by decide) rfl (fun ls hl => ?_)
  refine lv_iload_n hx hb d_M_paint_7 rfl (lv_at hl 2 rfl) ?_
  refine lv_istore (lv' := [(4, .int a0), (3, .int (0 : Int32)), (0, .ref q_mo), (1, .int a0), (2, .int a1)]) hx hb d_M_paint_8 hl (by decide) rfl (fun ls hl => ?_)
  refine lv_iconst (v := 0) hx hb d_M_paint_10 (by decide) ?_
  refine lv_istore (lv' := [(5, .int (0 : Int32)), (4, .int a0), (3, .int (0 : Int32)), (0, .ref q_mo), (1, .int a0), (2, .int a1)]) hx hb d_M_paint_11 hl (by decide) rfl (fun ls hl => ?_)
  obtain ⟨u1, hcu1, hF⟩ := kc_bnd hF
  have hJu1_101 : ∀ (H : Heap) (locs : List Loc) (ls : Array Slot), va_P (dC, dI) vwCl [(q_mo, .inr (5, [.int (0 : Int32), .int mw, .int mh, .int mst, .int mbd, .ref q_msa, .int mtb, .ref q_mbi, .ref q_mcx, .ref q_mpa, .int mps, .ref q_mle, .ref q_mdi, .int mtr, .ref q_mrd, .int misr, .int mplc, .int mlak, .int mpl, .int mpass, .int mraw, .ref q_msz, .ref q_mbe, .ref q_mfa, .ref q_mse, .ref q_mrf, .ref q_mlo, .ref q_mos, .ref q_mwb, .ref q_mol, .ref q_mrv, .ref q_mrl])), (q_msa, .inl (k_msa, n_msa, .inl u1.2.2.2))] H → va_D A [(q_mo, .inr (5, [.int (0 : Int32), .int mw, .int mh, .int mst, .int mbd, .ref q_msa, .int mtb, .ref q_mbi, .ref q_mcx, .ref q_mpa, .int mps, .ref q_mle, .ref q_mdi, .int mtr, .ref q_mrd, .int misr, .int mplc, .int mlak, .int mpl, .int mpass, .int mraw, .ref q_msz, .ref q_mbe, .ref q_mfa, .ref q_mse, .ref q_mrf, .ref q_mlo, .ref q_mos, .ref q_mwb, .ref q_mol, .ref q_mrv, .ref q_mrl])), (q_msa, .inl (k_msa, n_msa, .inl u1.2.2.2))] → va_S A s.heap H locs → lv_has ls 8 [(5, .int u1.2.2.1), (4, .int u1.2.1), (3, .int u1.1), (0, .ref q_mo), (1, .int a0), (2, .int a1)] → W p l e rm_M_paint s m args below meth c H locs 0 0 Q (F0 m 101 ls []) := by
    intro H locs ls hP hD hS hl
    refine lv_iload_n hx hb d_M_paint_101 rfl (lv_at hl 2 rfl) ?_
    obtain rfl := Option.some.inj hF
    exact ku_iret hx hb hr hlocks hQ (hP.sub [0, 1] rfl) (hD.sub [0, 1] (by decide) rfl) hS d_M_paint_102
  have hIu1 : ∀ (N : Nat) (v13_3 : Int32) (v13_4 : Int32) (v13_5 : Int32) (msam_13 : (Nat → Int32)), f_M_paint_L13 mw mh n_msa a1 N v13_3 v13_4 v13_5 msam_13 = some u1 → ∀ (H : Heap) (locs : List Loc) (ls : Array Slot), va_P (dC, dI) vwCl [(q_mo, .inr (5, [.int (0 : Int32), .int mw, .int mh, .int mst, .int mbd, .ref q_msa, .int mtb, .ref q_mbi, .ref q_mcx, .ref q_mpa, .int mps, .ref q_mle, .ref q_mdi, .int mtr, .ref q_mrd, .int misr, .int mplc, .int mlak, .int mpl, .int mpass, .int mraw, .ref q_msz, .ref q_mbe, .ref q_mfa, .ref q_mse, .ref q_mrf, .ref q_mlo, .ref q_mos, .ref q_mwb, .ref q_mol, .ref q_mrv, .ref q_mrl])), (q_msa, .inl (k_msa, n_msa, .inl msam_13))] H → va_D A [(q_mo, .inr (5, [.int (0 : Int32), .int mw, .int mh, .int mst, .int mbd, .ref q_msa, .int mtb, .ref q_mbi, .ref q_mcx, .ref q_mpa, .int mps, .ref q_mle, .ref q_mdi, .int mtr, .ref q_mrd, .int misr, .int mplc, .int mlak, .int mpl, .int mpass, .int mraw, .ref q_msz, .ref q_mbe, .ref q_mfa, .ref q_mse, .ref q_mrf, .ref q_mlo, .ref q_mos, .ref q_mwb, .ref q_mol, .ref q_mrv, .ref q_mrl])), (q_msa, .inl (k_msa, n_msa, .inl msam_13))] → va_S A s.heap H locs → lv_has ls 8 [(5, .int v13_5), (4, .int v13_4), (3, .int v13_3), (0, .ref q_mo), (1, .int a0), (2, .int a1)] → W p l e rm_M_paint s m args below meth c H locs 0 0 Q (F0 m 13 ls []) := by
    intro N
    induction N with
    | zero => intro v13_3 v13_4 v13_5 msam_13 hF; rw [f_M_paint_L13] at hF; cases hF
    | succ N ih =>
      intro v13_3 v13_4 v13_5 msam_13 hF
      intro H locs ls hP hD hS hl
      rw [f_M_paint_L13] at hF
      refine lv_iload hx hb d_M_paint_13 (lv_at hl 0 rfl) ?_
      refine lv_aload_n hx hb d_M_paint_15 rfl (lv_at hl 3 rfl) ?_
      refine va_get (D := (dC, dI)) (ci := 5) (v := .int mh) (C := R_M) (T := T_M) (N := 32) hx hb hts ki_M hown hK hP 0 rfl rfl 2 (by decide) (hts _ kw_3_135) (fun _ h9 => h9) rfl d_M_paint_16 ?_
      refine lv_icmp_ge (tgt := 101) hx hb d_M_paint_19 (by decide) (fun c2 => ?_) (fun c2 => ?_)
      · have hF := kc_pos c2 hF
        obtain rfl := Option.some.inj hF
        exact hJu1_101 _ _ _ hP hD hS (lv_sub hl [0, 1, 2, 3, 4, 5] rfl)
      have hF := kc_neg c2 hF
      refine lv_iconst (v := 0) hx hb d_M_paint_22 (by decide) ?_
      refine lv_istore (lv' := [(6, .int (0 : Int32)), (5, .int v13_5), (4, .int v13_4), (3, .int v13_3), (0, .ref q_mo), (1, .int a0), (2, .int a1)]) hx hb d_M_paint_23 hl (by decide) rfl (fun ls hl => ?_)
      obtain ⟨u3, hcu3, hF⟩ := kc_bnd hF
      have hJu3_95 : ∀ (H : Heap) (locs : List Loc) (ls : Array Slot), va_P (dC, dI) vwCl [(q_mo, .inr (5, [.int (0 : Int32), .int mw, .int mh, .int mst, .int mbd, .ref q_msa, .int mtb, .ref q_mbi, .ref q_mcx, .ref q_mpa, .int mps, .ref q_mle, .ref q_mdi, .int mtr, .ref q_mrd, .int misr, .int mplc, .int mlak, .int mpl, .int mpass, .int mraw, .ref q_msz, .ref q_mbe, .ref q_mfa, .ref q_mse, .ref q_mrf, .ref q_mlo, .ref q_mos, .ref q_mwb, .ref q_mol, .ref q_mrv, .ref q_mrl])), (q_msa, .inl (k_msa, n_msa, .inl u3.2.2.2))] H → va_D A [(q_mo, .inr (5, [.int (0 : Int32), .int mw, .int mh, .int mst, .int mbd, .ref q_msa, .int mtb, .ref q_mbi, .ref q_mcx, .ref q_mpa, .int mps, .ref q_mle, .ref q_mdi, .int mtr, .ref q_mrd, .int misr, .int mplc, .int mlak, .int mpl, .int mpass, .int mraw, .ref q_msz, .ref q_mbe, .ref q_mfa, .ref q_mse, .ref q_mrf, .ref q_mlo, .ref q_mos, .ref q_mwb, .ref q_mol, .ref q_mrv, .ref q_mrl])), (q_msa, .inl (k_msa, n_msa, .inl u3.2.2.2))] → va_S A s.heap H locs → lv_has ls 8 [(6, .int u3.2.2.1), (5, .int v13_5), (4, .int u3.2.1), (3, .int u3.1), (0, .ref q_mo), (1, .int a0), (2, .int a1)] → W p l e rm_M_paint s m args below meth c H locs 0 0 Q (F0 m 95 ls []) := by
        intro H locs ls hP hD hS hl
        refine lv_iinc (v := (v13_5 + 1)) (lv' := [(5, .int (v13_5 + 1)), (6, .int u3.2.2.1), (4, .int u3.2.1), (3, .int u3.1), (0, .ref q_mo), (1, .int a0), (2, .int a1)]) hx hb d_M_paint_95 hl (k := 1) rfl rfl (by decide) rfl (fun ls hl => ?_)
        refine lv_goto (tgt := 13) hx hb d_M_paint_98 (by decide) ?_
        exact ih _ _ _ _ hF _ _ _ hP hD hS (lv_sub hl [0, 2, 3, 4, 5, 6] rfl)
      have hIu3 : ∀ (N : Nat) (v25_3 : Int32) (v25_4 : Int32) (v25_6 : Int32) (msam_25 : (Nat → Int32)), f_M_paint_L25 mw n_msa a1 v13_5 N v25_3 v25_4 v25_6 msam_25 = some u3 → ∀ (H : Heap) (locs : List Loc) (ls : Array Slot), va_P (dC, dI) vwCl [(q_mo, .inr (5, [.int (0 : Int32), .int mw, .int mh, .int mst, .int mbd, .ref q_msa, .int mtb, .ref q_mbi, .ref q_mcx, .ref q_mpa, .int mps, .ref q_mle, .ref q_mdi, .int mtr, .ref q_mrd, .int misr, .int mplc, .int mlak, .int mpl, .int mpass, .int mraw, .ref q_msz, .ref q_mbe, .ref q_mfa, .ref q_mse, .ref q_mrf, .ref q_mlo, .ref q_mos, .ref q_mwb, .ref q_mol, .ref q_mrv, .ref q_mrl])), (q_msa, .inl (k_msa, n_msa, .inl msam_25))] H → va_D A [(q_mo, .inr (5, [.int (0 : Int32), .int mw, .int mh, .int mst, .int mbd, .ref q_msa, .int mtb, .ref q_mbi, .ref q_mcx, .ref q_mpa, .int mps, .ref q_mle, .ref q_mdi, .int mtr, .ref q_mrd, .int misr, .int mplc, .int mlak, .int mpl, .int mpass, .int mraw, .ref q_msz, .ref q_mbe, .ref q_mfa, .ref q_mse, .ref q_mrf, .ref q_mlo, .ref q_mos, .ref q_mwb, .ref q_mol, .ref q_mrv, .ref q_mrl])), (q_msa, .inl (k_msa, n_msa, .inl msam_25))] → va_S A s.heap H locs → lv_has ls 8 [(6, .int v25_6), (5, .int v13_5), (4, .int v25_4), (3, .int v25_3), (0, .ref q_mo), (1, .int a0), (2, .int a1)] → W p l e rm_M_paint s m args below meth c H locs 0 0 Q (F0 m 25 ls []) := by
        intro N
        induction N with
        | zero => intro v25_3 v25_4 v25_6 msam_25 hF; rw [f_M_paint_L25] at hF; cases hF
        | succ N ih =>
          intro v25_3 v25_4 v25_6 msam_25 hF
          intro H locs ls hP hD hS hl
          rw [f_M_paint_L25] at hF
          refine lv_iload hx hb d_M_paint_25 (lv_at hl 0 rfl) ?_
          refine lv_aload_n hx hb d_M_paint_27 rfl (lv_at hl 4 rfl) ?_
          refine va_get (D := (dC, dI)) (ci := 5) (v := .int mw) (C := R_M) (T := T_M) (N := 32) hx hb hts ki_M hown hK hP 0 rfl rfl 1 (by decide) (hts _ kw_3_134) (fun _ h9 => h9) rfl d_M_paint_28 ?_
          refine lv_icmp_ge (tgt := 95) hx hb d_M_paint_31 (by decide) (fun c4 => ?_) (fun c4 => ?_)
          · have hF := kc_pos c4 hF
            obtain rfl := Option.some.inj hF
            exact hJu3_95 _ _ _ hP hD hS (lv_sub hl [0, 1, 2, 3, 4, 5, 6] rfl)
          have hF := kc_neg c4 hF
          refine lv_iload hx hb d_M_paint_34 (lv_at hl 2 rfl) ?_
          refine lv_i2l (v := v25_4.toInt64) hx hb d_M_paint_36 rfl ?_
          refine kr_call (va_runS (As := [.long v25_4.toInt64]) (rest := []) ⟨hx, hb, hml, hown, hts⟩ (m_MS_within l dC dI v25_4.toInt64 (f_MS_within v25_4.toInt64) rfl) (va_cwS 1 hts (kgS kw_4_7 kw_4_8 kw_1_8 kw_4_9) rfl rfl rfl (by decide +kernel) ⟨Nat.le_of_ble_eq_true rfl, Nat.le_of_ble_eq_true rfl⟩) ⟨kRe_blind, kRe_of (hP.sub [] rfl) (hK.sub [] rfl) hN⟩ rfl rfl hl.1 rfl (lv_room (Nat.le_of_ble_eq_true rfl)) d_M_paint_37 ⟨Nat.le_of_ble_eq_true rfl, Nat.le_of_ble_eq_true rfl⟩) ?_
          refine lv_istore (lv' := [(7, .int (f_MS_within v25_4.toInt64)), (6, .int v25_6), (5, .int v13_5), (4, .int v25_4), (3, .int v25_3), (0, .ref q_mo), (1, .int a0), (2, .int a1)]) hx hb d_M_paint_40 hl (by decide) rfl (fun ls hl => ?_)
          refine lv_aload_n hx hb d_M_paint_42 rfl (lv_at hl 5 rfl) ?_
          refine va_get (D := (dC, dI)) (ci := 5) (v := .ref q_msa) (C := R_M) (T := T_M) (N := 32) hx hb hts ki_M hown hK hP 0 rfl rfl 5 (by decide) (hts _ kw_3_138) (fun _ h9 => h9) rfl d_M_paint_43 ?_
          refine lv_bipush (v := 16) hx hb d_M_paint_46 (by decide) ?_
          refine lv_iload hx hb d_M_paint_48 (lv_at hl 2 rfl) ?_
          refine lv_imul hx hb d_M_paint_50 ?_
          refine lv_iload hx hb d_M_paint_51 (lv_at hl 1 rfl) ?_
          refine lv_iadd hx hb d_M_paint_53 ?_
          obtain ⟨h5, hF⟩ := kc_no hF
          refine va_iald hx hb hK hP 1 0 rfl rfl h5 d_M_paint_54 ?_
          refine lv_iload hx hb d_M_paint_55 (lv_at hl 0 rfl) ?_
          obtain ⟨u7, hcu7, hF⟩ := kc_bnd hF
          have hJu7 : ∀ (H : Heap) (locs : List Loc) (ls : Array Slot), va_P (dC, dI) vwCl [(q_mo, .inr (5, [.int (0 : Int32), .int mw, .int mh, .int mst, .int mbd, .ref q_msa, .int mtb, .ref q_mbi, .ref q_mcx, .ref q_mpa, .int mps, .ref q_mle, .ref q_mdi, .int mtr, .ref q_mrd, .int misr, .int mplc, .int mlak, .int mpl, .int mpass, .int mraw, .ref q_msz, .ref q_mbe, .ref q_mfa, .ref q_mse, .ref q_mrf, .ref q_mlo, .ref q_mos, .ref q_mwb, .ref q_mol, .ref q_mrv, .ref q_mrl])), (q_msa, .inl (k_msa, n_msa, .inl msam_25))] H → va_D A [(q_mo, .inr (5, [.int (0 : Int32), .int mw, .int mh, .int mst, .int mbd, .ref q_msa, .int mtb, .ref q_mbi, .ref q_mcx, .ref q_mpa, .int mps, .ref q_mle, .ref q_mdi, .int mtr, .ref q_mrd, .int misr, .int mplc, .int mlak, .int mpl, .int mpass, .int mraw, .ref q_msz, .ref q_mbe, .ref q_mfa, .ref q_mse, .ref q_mrf, .ref q_mlo, .ref q_mos, .ref q_mwb, .ref q_mol, .ref q_mrv, .ref q_mrl])), (q_msa, .inl (k_msa, n_msa, .inl msam_25))] → va_S A s.heap H locs → lv_has ls 8 [(7, .int (f_MS_within v25_4.toInt64)), (6, .int v25_6), (5, .int v13_5), (4, .int v25_4), (3, .int v25_3), (0, .ref q_mo), (1, .int a0), (2, .int a1)] → W p l e rm_M_paint s m args below meth c H locs 0 0 Q (F0 m 67 ls [.int u7]) := by
            intro H locs ls hP hD hS hl
            refine lv_istore_n (lv' := [(3, .int u7), (7, .int (f_MS_within v25_4.toInt64)), (6, .int v25_6), (5, .int v13_5), (4, .int v25_4), (0, .ref q_mo), (1, .int a0), (2, .int a1)]) hx hb d_M_paint_67 rfl hl (by decide) rfl (fun ls hl => ?_)
            refine lv_aload_n hx hb d_M_paint_68 rfl (lv_at hl 5 rfl) ?_
            refine va_get (D := (dC, dI)) (ci := 5) (v := .ref q_msa) (C := R_M) (T := T_M) (N := 32) hx hb hts ki_M hown hK hP 0 rfl rfl 5 (by decide) (hts _ kw_3_138) (fun _ h9 => h9) rfl d_M_paint_69 ?_
            refine lv_bipush (v := 16) hx hb d_M_paint_72 (by decide) ?_
            refine lv_iload hx hb d_M_paint_74 (lv_at hl 3 rfl) ?_
            refine lv_imul hx hb d_M_paint_76 ?_
            refine lv_iload hx hb d_M_paint_77 (lv_at hl 2 rfl) ?_
            refine lv_iadd hx hb d_M_paint_79 ?_
            refine lv_iload hx hb d_M_paint_80 (lv_at hl 1 rfl) ?_
            obtain ⟨h8, hF⟩ := kc_no hF
            refine va_iast hx hb hK hP hD hS 1 0 rfl rfl h8 d_M_paint_82 (fun H locs hP hD hS => ?_)
            have hP : va_P (dC, dI) vwCl [(q_mo, .inr (5, [.int (0 : Int32), .int mw, .int mh, .int mst, .int mbd, .ref q_msa, .int mtb, .ref q_mbi, .ref q_mcx, .ref q_mpa, .int mps, .ref q_mle, .ref q_mdi, .int mtr, .ref q_mrd, .int misr, .int mplc, .int mlak, .int mpl, .int mpass, .int mraw, .ref q_msz, .ref q_mbe, .ref q_mfa, .ref q_mse, .ref q_mrf, .ref q_mlo, .ref q_mos, .ref q_mwb, .ref q_mol, .ref q_mrv, .ref q_mrl])), (q_msa, .inl (k_msa, n_msa, .inl (upd msam_25 (((16 : Int32) * v13_5) + v25_6).toNatClampNeg (f_MS_within v25_4.toInt64))))] H := hP
            have hD : va_D A [(q_mo, .inr (5, [.int (0 : Int32), .int mw, .int mh, .int mst, .int mbd, .ref q_msa, .int mtb, .ref q_mbi, .ref q_mcx, .ref q_mpa, .int mps, .ref q_mle, .ref q_mdi, .int mtr, .ref q_mrd, .int misr, .int mplc, .int mlak, .int mpl, .int mpass, .int mraw, .ref q_msz, .ref q_mbe, .ref q_mfa, .ref q_mse, .ref q_mrf, .ref q_mlo, .ref q_mos, .ref q_mwb, .ref q_mol, .ref q_mrv, .ref q_mrl])), (q_msa, .inl (k_msa, n_msa, .inl (upd msam_25 (((16 : Int32) * v13_5) + v25_6).toNatClampNeg (f_MS_within v25_4.toInt64))))] := hD
            refine lv_iload hx hb d_M_paint_83 (lv_at hl 4 rfl) ?_
            refine lv_iload_n hx hb d_M_paint_85 rfl (lv_at hl 7 rfl) ?_
            refine lv_iadd hx hb d_M_paint_86 ?_
            refine lv_istore (lv' := [(4, .int (v25_4 + a1)), (3, .int u7), (7, .int (f_MS_within v25_4.toInt64)), (6, .int v25_6), (5, .int v13_5), (0, .ref q_mo), (1, .int a0), (2, .int a1)]) hx hb d_M_paint_87 hl (by decide) rfl (fun ls hl => ?_)
            refine lv_iinc (v := (v25_6 + 1)) (lv' := [(6, .int (v25_6 + 1)), (4, .int (v25_4 + a1)), (3, .int u7), (7, .int (f_MS_within v25_4.toInt64)), (5, .int v13_5), (0, .ref q_mo), (1, .int a0), (2, .int a1)]) hx hb d_M_paint_89 hl (k := 3) rfl rfl (by decide) rfl (fun ls hl => ?_)
            refine lv_goto (tgt := 25) hx hb d_M_paint_92 (by decide) ?_
            exact ih _ _ _ _ hF _ _ _ hP hD hS (lv_sub hl [0, 4, 1, 2, 5, 6, 7] rfl)
          clear hF; have hF := hcu7; clear hcu7
          refine lv_icmp_eq (tgt := 66) hx hb d_M_paint_57 (by decide) (fun c6 => ?_) (fun c6 => ?_)
          · have hF := kc_pos c6 hF
            refine lv_iload_n hx hb d_M_paint_66 rfl (lv_at hl 4 rfl) ?_
            obtain rfl := Option.some.inj hF
            exact hJu7 _ _ _ hP hD hS (lv_sub hl [0, 1, 2, 3, 4, 5, 6, 7] rfl)
          have hF := kc_neg c6 hF
          refine lv_iload_n hx hb d_M_paint_60 rfl (lv_at hl 4 rfl) ?_
          refine lv_iconst (v := 1) hx hb d_M_paint_61 (by decide) ?_
          refine lv_iadd hx hb d_M_paint_62 ?_
          refine lv_goto (tgt := 67) hx hb d_M_paint_63 (by decide) ?_
          obtain rfl := Option.some.inj hF
          exact hJu7 _ _ _ hP hD hS (lv_sub hl [0, 1, 2, 3, 4, 5, 6, 7] rfl)
      exact hIu3 _ _ _ _ _ hcu3 _ _ _ hP hD hS (lv_sub hl [0, 1, 2, 3, 4, 5, 6] rfl)
  exact hIu1 _ _ _ _ _ hcu1 _ _ _ hP hD hS (lv_sub hl [0, 1, 2, 3, 4, 5] rfl)
abbrev rm_M_sizeOf : Room := { frames := 0, cells := 0, slots := 0, locals := 0 }
set_option maxHeartbeats 4000000 in
set_option maxRecDepth 100000 in
theorem m_M_sizeOf (l : Launch) (dC : Nat → ClassId) (dI : Nat → Nat → Nat) (q_mo q_msa q_mbi q_mcx q_mpa q_mle q_mdi q_mrd q_msz q_mbe q_mfa q_mse q_mrf q_mlo q_mos q_mwb q_mol q_mrv q_mrl : Nat) (k_msa : ClassId) (n_msa : Nat) (mref : Int32) (mw : Int32) (mh : Int32) (mst : Int32) (mbd : Int32) (mtb : Int32) (mps : Int32) (mtr : Int32) (misr : Int32) (mplc : Int32) (mlak : Int32) (mpl : Int32) (mpass : Int32) (mraw : Int32) (msam : (Nat → Int32)) (a0 : Int32) (u : Int32) (hF : f_M_sizeOf msam n_msa a0 = some u) : Met l y_M_sizeOf (kws y_M_sizeOf c_M_sizeOf 2 (some .int)) rm_M_sizeOf (kRe (dC, dI) [.ref q_mo, .int a0] [(q_mo, .inr (5, [.int mref, .int mw, .int mh, .int mst, .int mbd, .ref q_msa, .int mtb, .ref q_mbi, .ref q_mcx, .ref q_mpa, .int mps, .ref q_mle, .ref q_mdi, .int mtr, .ref q_mrd, .int misr, .int mplc, .int mlak, .int mpl, .int mpass, .int mraw, .ref q_msz, .ref q_mbe, .ref q_mfa, .ref q_mse, .ref q_mrf, .ref q_mlo, .ref q_mos, .ref q_mwb, .ref q_mol, .ref q_mrv, .ref q_mrl])), (q_msa, .inl (k_msa, n_msa, .inl msam))] [(k_msa, .int)]) (k2_QcV (.int u)) 0 0 (fun _ => False) := by
  unfold f_M_sizeOf at hF
  refine kR_of (cc := c_M_sizeOf) (maxL := 2) (ret := (some .int)) (by decide) (Nat.le_of_ble_eq_true rfl) ?_
  intro p e s m args below meth c Q hQ hfx hP hK hN ls hl
  obtain ⟨hx, hb, hr, hml, hown, hts, hlocks⟩ := hfx
  have hown : s.vm.findClass R_M = some m.cls := hown
  have hl : lv_has ls 2 [(0, .ref q_mo), (1, .int a0)] := hl
  refine lv_aload_n hx hb d_M_sizeOf_0 rfl (lv_at hl 0 rfl) ?_
  refine va_get (D := (dC, dI)) (ci := 5) (v := .ref q_msa) (C := R_M) (T := T_M) (N := 32) hx hb hts ki_M hown hK hP 0 rfl rfl 5 (by decide) (hts _ kw_3_138) (fun _ h9 => h9) rfl d_M_sizeOf_1 ?_
  refine lv_iload_n hx hb d_M_sizeOf_4 rfl (lv_at hl 1 rfl) ?_
  obtain ⟨h1, hF⟩ := kc_no hF
  refine va_iald hx hb hK hP 1 0 rfl rfl h1 d_M_sizeOf_5 ?_
  refine lv_if_ge (tgt := 19) hx hb d_M_sizeOf_6 (by decide) (fun c2 => ?_) (fun c2 => ?_)
  · have hF := kc_pos c2 hF
    refine lv_aload_n hx hb d_M_sizeOf_19 rfl (lv_at hl 0 rfl) ?_
    refine va_get (D := (dC, dI)) (ci := 5) (v := .ref q_msa) (C := R_M) (T := T_M) (N := 32) hx hb hts ki_M hown hK hP 0 rfl rfl 5 (by decide) (hts _ kw_3_138) (fun _ h9 => h9) rfl d_M_sizeOf_20 ?_
    refine lv_iload_n hx hb d_M_sizeOf_23 rfl (lv_at hl 1 rfl) ?_
    obtain ⟨h3, hF⟩ := kc_no hF
    refine va_iald hx hb hK hP 1 0 rfl rfl h3 d_M_sizeOf_24 ?_
    obtain rfl := Option.some.inj hF
    exact kr_iret hx hb hr hlocks hQ d_M_sizeOf_25
  have hF := kc_neg c2 hF
  refine lv_aload_n hx hb d_M_sizeOf_9 rfl (lv_at hl 0 rfl) ?_
  refine va_get (D := (dC, dI)) (ci := 5) (v := .ref q_msa) (C := R_M) (T := T_M) (N := 32) hx hb hts ki_M hown hK hP 0 rfl rfl 5 (by decide) (hts _ kw_3_138) (fun _ h9 => h9) rfl d_M_sizeOf_10 ?_
  refine lv_iload_n hx hb d_M_sizeOf_13 rfl (lv_at hl 1 rfl) ?_
  obtain ⟨h4, hF⟩ := kc_no hF
  refine va_iald hx hb hK hP 1 0 rfl rfl h4 d_M_sizeOf_14 ?_
  refine lv_ineg hx hb d_M_sizeOf_15 ?_
  refine lv_goto (tgt := 25) hx hb d_M_sizeOf_16 (by decide) ?_
  obtain rfl := Option.some.inj hF
  exact kr_iret hx hb hr hlocks hQ d_M_sizeOf_25
abbrev rm_M_planes : Room := { frames := 1, cells := 0, slots := 0, locals := 21 }
set_option maxHeartbeats 4000000 in
set_option maxRecDepth 100000 in
theorem m_M_planes (l : Launch) (dC : Nat → ClassId) (dI : Nat → Nat → Nat) (q_mo q_msa q_mbi q_mcx q_mpa q_mle q_mdi q_mrd q_msz q_mbe q_mfa q_mse q_mrf q_mlo q_mos q_mwb q_mol q_mrv q_mrl : Nat) (k_msa : ClassId) (n_msa : Nat) (mref : Int32) (mw : Int32) (mh : Int32) (mst : Int32) (mbd : Int32) (mtb : Int32) (mps : Int32) (mtr : Int32) (misr : Int32) (mplc : Int32) (mlak : Int32) (mpl : Int32) (mpass : Int32) (mraw : Int32) (msam : (Nat → Int32)) (u : Int32) (hF : f_M_planes msam n_msa = some u) : Met l y_M_planes (kws y_M_planes c_M_planes 3 (some .int)) rm_M_planes (kRe (dC, dI) [.ref q_mo] [(q_mo, .inr (5, [.int mref, .int mw, .int mh, .int mst, .int mbd, .ref q_msa, .int mtb, .ref q_mbi, .ref q_mcx, .ref q_mpa, .int mps, .ref q_mle, .ref q_mdi, .int mtr, .ref q_mrd, .int misr, .int mplc, .int mlak, .int mpl, .int mpass, .int mraw, .ref q_msz, .ref q_mbe, .ref q_mfa, .ref q_mse, .ref q_mrf, .ref q_mlo, .ref q_mos, .ref q_mwb, .ref q_mol, .ref q_mrv, .ref q_mrl])), (q_msa, .inl (k_msa, n_msa, .inl msam))] [(k_msa, .int)]) (k2_QcV (.int u)) 0 0 (fun _ => False) := by
  unfold f_M_planes at hF
  refine kR_of (cc := c_M_planes) (maxL := 3) (ret := (some .int)) (by decide) (Nat.le_of_ble_eq_true rfl) ?_
  intro p e s m args below meth c Q hQ hfx hP hK hN ls hl
  obtain ⟨hx, hb, hr, hml, hown, hts, hlocks⟩ := hfx
  have hown : s.vm.findClass R_M = some m.cls := hown
  have hl : lv_has ls 3 [(0, .ref q_mo)] := hl
  refine lv_iconst (v := 0) hx hb d_M_planes_0 (by decide) ?_
  refine lv_istore_n (lv' := [(1, .int (0 : Int32)), (0, .ref q_mo)]) hx hb d_M_planes_1 rfl hl (by decide) rfl (fun ls hl => ?_)
  refine lv_iconst (v := 0) hx hb d_M_planes_2 (by decide) ?_
  refine lv_istore_n (lv' := [(2, .int (0 : Int32)), (1, .int (0 : Int32)), (0, .ref q_mo)]) hx hb d_M_planes_3 rfl hl (by decide) rfl (fun ls hl => ?_)
  obtain ⟨u1, hcu1, hF⟩ := kc_bnd hF
  have hJu1_25 : ∀ (ls : Array Slot), lv_has ls 3 [(2, .int u1.2), (1, .int u1.1), (0, .ref q_mo)] → W p l e rm_M_planes s m args below meth c s.heap [] 0 0 Q (F0 m 25 ls []) := by
    intro ls hl
    refine lv_iconst (v := 0) hx hb d_M_planes_25 (by decide) ?_
    refine lv_istore_n (lv' := [(2, .int (0 : Int32)), (1, .int u1.1), (0, .ref q_mo)]) hx hb d_M_planes_26 rfl hl (by decide) rfl (fun ls hl => ?_)
    obtain ⟨u2, hcu2, hF⟩ := kc_bnd hF
    have hJu2_39 : ∀ (ls : Array Slot), lv_has ls 3 [(2, .int u2), (1, .int u1.1), (0, .ref q_mo)] → W p l e rm_M_planes s m args below meth c s.heap [] 0 0 Q (F0 m 39 ls []) := by
      intro ls hl
      refine lv_iload_n hx hb d_M_planes_39 rfl (lv_at hl 0 rfl) ?_
      obtain rfl := Option.some.inj hF
      exact kr_iret hx hb hr hlocks hQ d_M_planes_40
    have hIu2 : ∀ (N : Nat) (v27_2 : Int32), f_M_planes_L27 u1 N v27_2 = some u2 → ∀ (ls : Array Slot), lv_has ls 3 [(2, .int v27_2), (1, .int u1.1), (0, .ref q_mo)] → W p l e rm_M_planes s m args below meth c s.heap [] 0 0 Q (F0 m 27 ls []) := by
      intro N
      induction N with
      | zero => intro v27_2 hF; rw [f_M_planes_L27] at hF; cases hF
      | succ N ih =>
        intro v27_2 hF
        intro ls hl
        rw [f_M_planes_L27] at hF
        refine lv_iload_n hx hb d_M_planes_27 rfl (lv_at hl 1 rfl) ?_
        refine lv_iload_n hx hb d_M_planes_28 rfl (lv_at hl 0 rfl) ?_
        refine lv_ishr hx hb d_M_planes_29 ?_
        refine lv_if_eq (tgt := 39) hx hb d_M_planes_30 (by decide) (fun c3 => ?_) (fun c3 => ?_)
        · have hF := kc_pos c3 hF
          obtain rfl := Option.some.inj hF
          exact hJu2_39 _ (lv_sub hl [0, 1, 2] rfl)
        have hF := kc_neg c3 hF
        refine lv_iinc (v := (v27_2 + 1)) (lv' := [(2, .int (v27_2 + 1)), (1, .int u1.1), (0, .ref q_mo)]) hx hb d_M_planes_33 hl (k := 0) rfl rfl (by decide) rfl (fun ls hl => ?_)
        refine lv_goto (tgt := 27) hx hb d_M_planes_36 (by decide) ?_
        exact ih _ hF _ (lv_sub hl [0, 1, 2] rfl)
    exact hIu2 _ _ hcu2 _ (lv_sub hl [0, 1, 2] rfl)
  have hIu1 : ∀ (N : Nat) (v4_1 : Int32) (v4_2 : Int32), f_M_planes_L4 msam n_msa N v4_1 v4_2 = some u1 → ∀ (ls : Array Slot), lv_has ls 3 [(2, .int v4_2), (1, .int v4_1), (0, .ref q_mo)] → W p l e rm_M_planes s m args below meth c s.heap [] 0 0 Q (F0 m 4 ls []) := by
    intro N
    induction N with
    | zero => intro v4_1 v4_2 hF; rw [f_M_planes_L4] at hF; cases hF
    | succ N ih =>
      intro v4_1 v4_2 hF
      intro ls hl
      rw [f_M_planes_L4] at hF
      refine lv_iload_n hx hb d_M_planes_4 rfl (lv_at hl 0 rfl) ?_
      refine lv_sipush (v := 256) hx hb d_M_planes_5 (by decide) ?_
      refine lv_icmp_ge (tgt := 25) hx hb d_M_planes_8 (by decide) (fun c4 => ?_) (fun c4 => ?_)
      · have hF := kc_pos c4 hF
        obtain rfl := Option.some.inj hF
        exact hJu1_25 _ (lv_sub hl [0, 1, 2] rfl)
      have hF := kc_neg c4 hF
      refine lv_iload_n hx hb d_M_planes_11 rfl (lv_at hl 1 rfl) ?_
      refine lv_aload_n hx hb d_M_planes_12 rfl (lv_at hl 2 rfl) ?_
      refine lv_iload_n hx hb d_M_planes_13 rfl (lv_at hl 0 rfl) ?_
      obtain ⟨u5, hc, hF⟩ := kc_bnd hF
      refine kr_call (va_runV (As := [.int v4_2]) (rest := [.int v4_1]) ⟨hx, hb, hml, hown, hts⟩ (m_M_sizeOf l dC dI q_mo q_msa q_mbi q_mcx q_mpa q_mle q_mdi q_mrd q_msz q_mbe q_mfa q_mse q_mrf q_mlo q_mos q_mwb q_mol q_mrv q_mrl k_msa n_msa mref mw mh mst mbd mtb mps mtr misr mplc mlak mpl mpass mraw msam v4_2 _ hc) (cwV 1 hts (kgV kw_4_20 kw_4_22 kp_24 kw_1_8 kw_4_23) rfl rfl rfl (by decide +kernel) ⟨Nat.le_of_ble_eq_true rfl, Nat.le_of_ble_eq_true rfl⟩) ⟨kRe_blind, va_recv hK hP (ci := 5) (q0 := 0) rfl rfl, kRe_of (hP.sub [0, 1] rfl) (hK.sub [0] rfl) hN⟩ rfl rfl hl.1 rfl (lv_room (Nat.le_of_ble_eq_true rfl)) d_M_planes_14 ⟨Nat.le_of_ble_eq_true rfl, Nat.le_of_ble_eq_true rfl⟩) ?_
      refine lv_ior hx hb d_M_planes_17 ?_
      refine lv_istore_n (lv' := [(1, .int (v4_1 ||| u5)), (2, .int v4_2), (0, .ref q_mo)]) hx hb d_M_planes_18 rfl hl (by decide) rfl (fun ls hl => ?_)
      refine lv_iinc (v := (v4_2 + 1)) (lv' := [(2, .int (v4_2 + 1)), (1, .int (v4_1 ||| u5)), (0, .ref q_mo)]) hx hb d_M_planes_19 hl (k := 1) rfl rfl (by decide) rfl (fun ls hl => ?_)
      refine lv_goto (tgt := 4) hx hb d_M_planes_22 (by decide) ?_
      exact ih _ _ hF _ (lv_sub hl [0, 1, 2] rfl)
  exact hIu1 _ _ _ hcu1 _ (lv_sub hl [0, 1, 2] rfl)
abbrev rm_M_code : Room := { frames := 0, cells := 0, slots := 0, locals := 0 }
set_option maxHeartbeats 4000000 in
set_option maxRecDepth 100000 in
theorem m_M_code (l : Launch) (dC : Nat → ClassId) (dI : Nat → Nat → Nat) (q_mo q_msa q_mbi q_mcx q_mpa q_mle q_mdi q_mrd q_msz q_mbe q_mfa q_mse q_mrf q_mlo q_mos q_mwb q_mol q_mrv q_mrl : Nat) (k_mbi : ClassId) (n_mbi : Nat) (k_mcx : ClassId) (n_mcx : Nat) (k_mpa : ClassId) (n_mpa : Nat) (k_mrd : ClassId) (n_mrd : Nat) (mref : Int32) (mw : Int32) (mh : Int32) (mst : Int32) (mbd : Int32) (mtb : Int32) (mps : Int32) (mtr : Int32) (misr : Int32) (mplc : Int32) (mlak : Int32) (mpl : Int32) (mpass : Int32) (mraw : Int32) (mbits : (Nat → Int32)) (mctxs : (Nat → Int32)) (mpaso : (Nat → Int32)) (mreads : (Nat → Int32)) (a0 : Int32) (a1 : Int32) (u : Int32 × Int32 × Int32 × Int32 × (Nat → Int32) × (Nat → Int32) × (Nat → Int32)) (hF : f_M_code mtb mtr misr mplc mlak mpass mbits mctxs mpaso mreads n_mbi n_mcx n_mpa n_mrd a0 a1 = some u) : ∀ sz : Nat, Met l y_M_code (kws y_M_code c_M_code 3 (some .int)) rm_M_code (kPre (dC, dI) [.ref q_mo, .int a0, .int a1] [(q_mo, .inr (5, [.int mref, .int mw, .int mh, .int mst, .int mbd, .ref q_msa, .int mtb, .ref q_mbi, .ref q_mcx, .ref q_mpa, .int mps, .ref q_mle, .ref q_mdi, .int mtr, .ref q_mrd, .int misr, .int mplc, .int mlak, .int mpl, .int mpass, .int mraw, .ref q_msz, .ref q_mbe, .ref q_mfa, .ref q_mse, .ref q_mrf, .ref q_mlo, .ref q_mos, .ref q_mwb, .ref q_mol, .ref q_mrv, .ref q_mrl])), (q_mbi, .inl (k_mbi, n_mbi, .inl mbits)), (q_mcx, .inl (k_mcx, n_mcx, .inl mctxs)), (q_mpa, .inl (k_mpa, n_mpa, .inl mpaso)), (q_mrd, .inl (k_mrd, n_mrd, .inl mreads))] [(k_mbi, .int), (k_mcx, .int), (k_mpa, .int), (k_mrd, .int)] sz) (kPost (dC, dI) (some (.int u.1)) [(q_mo, .inr (5, [.int mref, .int mw, .int mh, .int mst, .int mbd, .ref q_msa, .int u.2.1, .ref q_mbi, .ref q_mcx, .ref q_mpa, .int mps, .ref q_mle, .ref q_mdi, .int mtr, .ref q_mrd, .int misr, .int u.2.2.1, .int u.2.2.2.1, .int mpl, .int mpass, .int mraw, .ref q_msz, .ref q_mbe, .ref q_mfa, .ref q_mse, .ref q_mrf, .ref q_mlo, .ref q_mos, .ref q_mwb, .ref q_mol, .ref q_mrv, .ref q_mrl])), (q_mbi, .inl (k_mbi, n_mbi, .inl u.2.2.2.2.1)), (q_mcx, .inl (k_mcx, n_mcx, .inl u.2.2.2.2.2.1)), (q_mpa, .inl (k_mpa, n_mpa, .inl u.2.2.2.2.2.2)), (q_mrd, .inl (k_mrd, n_mrd, .inl mreads))] (va_A [(q_mo, .inr (5, [.int mref, .int mw, .int mh, .int mst, .int mbd, .ref q_msa, .int mtb, .ref q_mbi, .ref q_mcx, .ref q_mpa, .int mps, .ref q_mle, .ref q_mdi, .int mtr, .ref q_mrd, .int misr, .int mplc, .int mlak, .int mpl, .int mpass, .int mraw, .ref q_msz, .ref q_mbe, .ref q_mfa, .ref q_mse, .ref q_mrf, .ref q_mlo, .ref q_mos, .ref q_mwb, .ref q_mol, .ref q_mrv, .ref q_mrl])), (q_mbi, .inl (k_mbi, n_mbi, .inl mbits)), (q_mcx, .inl (k_mcx, n_mcx, .inl mctxs)), (q_mpa, .inl (k_mpa, n_mpa, .inl mpaso)), (q_mrd, .inl (k_mrd, n_mrd, .inl mreads))] sz)) 0 0 (va_A [(q_mo, .inr (5, [.int mref, .int mw, .int mh, .int mst, .int mbd, .ref q_msa, .int mtb, .ref q_mbi, .ref q_mcx, .ref q_mpa, .int mps, .ref q_mle, .ref q_mdi, .int mtr, .ref q_mrd, .int misr, .int mplc, .int mlak, .int mpl, .int mpass, .int mraw, .ref q_msz, .ref q_mbe, .ref q_mfa, .ref q_mse, .ref q_mrf, .ref q_mlo, .ref q_mos, .ref q_mwb, .ref q_mol, .ref q_mrv, .ref q_mrl])), (q_mbi, .inl (k_mbi, n_mbi, .inl mbits)), (q_mcx, .inl (k_mcx, n_mcx, .inl mctxs)), (q_mpa, .inl (k_mpa, n_mpa, .inl mpaso)), (q_mrd, .inl (k_mrd, n_mrd, .inl mreads))] sz) := by
  unfold f_M_code at hF
  refine kU_of (cc := c_M_code) (maxL := 3) (ret := (some .int)) (by decide) (Nat.le_of_ble_eq_true rfl) ?_
  intro p e s m args below meth c Q A hQ hfx hK hN hA H locs ls hP hD hS hl
  obtain ⟨hx, hb, hr, hml, hown, hts, hlocks⟩ := hfx
  have hown : s.vm.findClass R_M = some m.cls := hown
  have hl : lv_has ls 3 [(0, .ref q_mo), (1, .int a0), (2, .int a1)] := hl
  refine lv_aload_n hx hb d_M_code_0 rfl (lv_at hl 0 rfl) ?_
  refine va_get (D := (dC, dI)) (ci := 5) (v := .int misr) (C := R_M) (T := T_M) (N := 32) hx hb hts ki_M hown hK hP 0 rfl rfl 15 (by decide) (hts _ kw_3_148) (fun _ h9 => h9) rfl d_M_code_1 ?_
  refine lv_if_eq (tgt := 47) hx hb d_M_code_4 (by decide) (fun c1 => ?_) (fun c1 => ?_)
  · have hF := kc_pos c1 hF
    refine lv_aload_n hx hb d_M_code_47 rfl (lv_at hl 0 rfl) ?_
    refine va_get (D := (dC, dI)) (ci := 5) (v := .ref q_mbi) (C := R_M) (T := T_M) (N := 32) hx hb hts ki_M hown hK hP 0 rfl rfl 7 (by decide) (hts _ kw_3_140) (fun _ h9 => h9) rfl d_M_code_48 ?_
    refine lv_aload_n hx hb d_M_code_51 rfl (lv_at hl 0 rfl) ?_
    refine va_get (D := (dC, dI)) (ci := 5) (v := .int mtb) (C := R_M) (T := T_M) (N := 32) hx hb hts ki_M hown hK hP 0 rfl rfl 6 (by decide) (hts _ kw_3_139) (fun _ h9 => h9) rfl d_M_code_52 ?_
    refine lv_iload_n hx hb d_M_code_55 rfl (lv_at hl 1 rfl) ?_
    obtain ⟨h2, hF⟩ := kc_no hF
    refine va_iast hx hb hK hP hD hS 1 0 rfl rfl h2 d_M_code_56 (fun H locs hP hD hS => ?_)
    have hP : va_P (dC, dI) vwCl [(q_mo, .inr (5, [.int mref, .int mw, .int mh, .int mst, .int mbd, .ref q_msa, .int mtb, .ref q_mbi, .ref q_mcx, .ref q_mpa, .int mps, .ref q_mle, .ref q_mdi, .int mtr, .ref q_mrd, .int misr, .int mplc, .int mlak, .int mpl, .int mpass, .int mraw, .ref q_msz, .ref q_mbe, .ref q_mfa, .ref q_mse, .ref q_mrf, .ref q_mlo, .ref q_mos, .ref q_mwb, .ref q_mol, .ref q_mrv, .ref q_mrl])), (q_mbi, .inl (k_mbi, n_mbi, .inl (upd mbits mtb.toNatClampNeg a0))), (q_mcx, .inl (k_mcx, n_mcx, .inl mctxs)), (q_mpa, .inl (k_mpa, n_mpa, .inl mpaso)), (q_mrd, .inl (k_mrd, n_mrd, .inl mreads))] H := hP
    have hD : va_D A [(q_mo, .inr (5, [.int mref, .int mw, .int mh, .int mst, .int mbd, .ref q_msa, .int mtb, .ref q_mbi, .ref q_mcx, .ref q_mpa, .int mps, .ref q_mle, .ref q_mdi, .int mtr, .ref q_mrd, .int misr, .int mplc, .int mlak, .int mpl, .int mpass, .int mraw, .ref q_msz, .ref q_mbe, .ref q_mfa, .ref q_mse, .ref q_mrf, .ref q_mlo, .ref q_mos, .ref q_mwb, .ref q_mol, .ref q_mrv, .ref q_mrl])), (q_mbi, .inl (k_mbi, n_mbi, .inl (upd mbits mtb.toNatClampNeg a0))), (q_mcx, .inl (k_mcx, n_mcx, .inl mctxs)), (q_mpa, .inl (k_mpa, n_mpa, .inl mpaso)), (q_mrd, .inl (k_mrd, n_mrd, .inl mreads))] := hD
    refine lv_aload_n hx hb d_M_code_57 rfl (lv_at hl 0 rfl) ?_
    refine va_get (D := (dC, dI)) (ci := 5) (v := .ref q_mcx) (C := R_M) (T := T_M) (N := 32) hx hb hts ki_M hown hK hP 0 rfl rfl 8 (by decide) (hts _ kw_3_141) (fun _ h9 => h9) rfl d_M_code_58 ?_
    refine lv_aload_n hx hb d_M_code_61 rfl (lv_at hl 0 rfl) ?_
    refine va_get (D := (dC, dI)) (ci := 5) (v := .int mtb) (C := R_M) (T := T_M) (N := 32) hx hb hts ki_M hown hK hP 0 rfl rfl 6 (by decide) (hts _ kw_3_139) (fun _ h9 => h9) rfl d_M_code_62 ?_
    refine lv_iload_n hx hb d_M_code_65 rfl (lv_at hl 2 rfl) ?_
    obtain ⟨h3, hF⟩ := kc_no hF
    refine va_iast hx hb hK hP hD hS 2 1 rfl rfl h3 d_M_code_66 (fun H locs hP hD hS => ?_)
    have hP : va_P (dC, dI) vwCl [(q_mo, .inr (5, [.int mref, .int mw, .int mh, .int mst, .int mbd, .ref q_msa, .int mtb, .ref q_mbi, .ref q_mcx, .ref q_mpa, .int mps, .ref q_mle, .ref q_mdi, .int mtr, .ref q_mrd, .int misr, .int mplc, .int mlak, .int mpl, .int mpass, .int mraw, .ref q_msz, .ref q_mbe, .ref q_mfa, .ref q_mse, .ref q_mrf, .ref q_mlo, .ref q_mos, .ref q_mwb, .ref q_mol, .ref q_mrv, .ref q_mrl])), (q_mbi, .inl (k_mbi, n_mbi, .inl (upd mbits mtb.toNatClampNeg a0))), (q_mcx, .inl (k_mcx, n_mcx, .inl (upd mctxs mtb.toNatClampNeg a1))), (q_mpa, .inl (k_mpa, n_mpa, .inl mpaso)), (q_mrd, .inl (k_mrd, n_mrd, .inl mreads))] H := hP
    have hD : va_D A [(q_mo, .inr (5, [.int mref, .int mw, .int mh, .int mst, .int mbd, .ref q_msa, .int mtb, .ref q_mbi, .ref q_mcx, .ref q_mpa, .int mps, .ref q_mle, .ref q_mdi, .int mtr, .ref q_mrd, .int misr, .int mplc, .int mlak, .int mpl, .int mpass, .int mraw, .ref q_msz, .ref q_mbe, .ref q_mfa, .ref q_mse, .ref q_mrf, .ref q_mlo, .ref q_mos, .ref q_mwb, .ref q_mol, .ref q_mrv, .ref q_mrl])), (q_mbi, .inl (k_mbi, n_mbi, .inl (upd mbits mtb.toNatClampNeg a0))), (q_mcx, .inl (k_mcx, n_mcx, .inl (upd mctxs mtb.toNatClampNeg a1))), (q_mpa, .inl (k_mpa, n_mpa, .inl mpaso)), (q_mrd, .inl (k_mrd, n_mrd, .inl mreads))] := hD
    refine lv_aload_n hx hb d_M_code_67 rfl (lv_at hl 0 rfl) ?_
    refine va_get (D := (dC, dI)) (ci := 5) (v := .ref q_mpa) (C := R_M) (T := T_M) (N := 32) hx hb hts ki_M hown hK hP 0 rfl rfl 9 (by decide) (hts _ kw_3_142) (fun _ h9 => h9) rfl d_M_code_68 ?_
    refine lv_aload_n hx hb d_M_code_71 rfl (lv_at hl 0 rfl) ?_
    refine va_get (D := (dC, dI)) (ci := 5) (v := .int mtb) (C := R_M) (T := T_M) (N := 32) hx hb hts ki_M hown hK hP 0 rfl rfl 6 (by decide) (hts _ kw_3_139) (fun _ h9 => h9) rfl d_M_code_72 ?_
    refine lv_aload_n hx hb d_M_code_75 rfl (lv_at hl 0 rfl) ?_
    refine va_get (D := (dC, dI)) (ci := 5) (v := .int mpass) (C := R_M) (T := T_M) (N := 32) hx hb hts ki_M hown hK hP 0 rfl rfl 19 (by decide) (hts _ kw_3_152) (fun _ h9 => h9) rfl d_M_code_76 ?_
    obtain ⟨h4, hF⟩ := kc_no hF
    refine va_iast hx hb hK hP hD hS 3 2 rfl rfl h4 d_M_code_79 (fun H locs hP hD hS => ?_)
    have hP : va_P (dC, dI) vwCl [(q_mo, .inr (5, [.int mref, .int mw, .int mh, .int mst, .int mbd, .ref q_msa, .int mtb, .ref q_mbi, .ref q_mcx, .ref q_mpa, .int mps, .ref q_mle, .ref q_mdi, .int mtr, .ref q_mrd, .int misr, .int mplc, .int mlak, .int mpl, .int mpass, .int mraw, .ref q_msz, .ref q_mbe, .ref q_mfa, .ref q_mse, .ref q_mrf, .ref q_mlo, .ref q_mos, .ref q_mwb, .ref q_mol, .ref q_mrv, .ref q_mrl])), (q_mbi, .inl (k_mbi, n_mbi, .inl (upd mbits mtb.toNatClampNeg a0))), (q_mcx, .inl (k_mcx, n_mcx, .inl (upd mctxs mtb.toNatClampNeg a1))), (q_mpa, .inl (k_mpa, n_mpa, .inl (upd mpaso mtb.toNatClampNeg mpass))), (q_mrd, .inl (k_mrd, n_mrd, .inl mreads))] H := hP
    have hD : va_D A [(q_mo, .inr (5, [.int mref, .int mw, .int mh, .int mst, .int mbd, .ref q_msa, .int mtb, .ref q_mbi, .ref q_mcx, .ref q_mpa, .int mps, .ref q_mle, .ref q_mdi, .int mtr, .ref q_mrd, .int misr, .int mplc, .int mlak, .int mpl, .int mpass, .int mraw, .ref q_msz, .ref q_mbe, .ref q_mfa, .ref q_mse, .ref q_mrf, .ref q_mlo, .ref q_mos, .ref q_mwb, .ref q_mol, .ref q_mrv, .ref q_mrl])), (q_mbi, .inl (k_mbi, n_mbi, .inl (upd mbits mtb.toNatClampNeg a0))), (q_mcx, .inl (k_mcx, n_mcx, .inl (upd mctxs mtb.toNatClampNeg a1))), (q_mpa, .inl (k_mpa, n_mpa, .inl (upd mpaso mtb.toNatClampNeg mpass))), (q_mrd, .inl (k_mrd, n_mrd, .inl mreads))] := hD
    refine lv_aload_n hx hb d_M_code_80 rfl (lv_at hl 0 rfl) ?_
    refine lv_dup hx hb d_M_code_81 rfl ?_
    refine va_get (D := (dC, dI)) (ci := 5) (v := .int mtb) (C := R_M) (T := T_M) (N := 32) hx hb hts ki_M hown hK hP 0 rfl rfl 6 (by decide) (hts _ kw_3_139) (fun _ h9 => h9) rfl d_M_code_82 ?_
    refine lv_iconst (v := 1) hx hb d_M_code_85 (by decide) ?_
    refine lv_iadd hx hb d_M_code_86 ?_
    refine va_put (D := (dC, dI)) (ci := 5) (v := .int (mtb + (1 : Int32))) (ty := .int) (C := R_M) (T := T_M) (N := 32) hx hb hts ki_M ty_M tyok_M nmok_M hown hK hP hD hS 0 rfl rfl 6 (by decide) (hts _ kw_3_139) (fun _ h9 => h9) rfl (by decide +kernel) rfl rfl (Nat.le_of_ble_eq_true rfl) d_M_code_87 (fun H locs hP hD hS => ?_)
    have hP : va_P (dC, dI) vwCl [(q_mo, .inr (5, [.int mref, .int mw, .int mh, .int mst, .int mbd, .ref q_msa, .int (mtb + (1 : Int32)), .ref q_mbi, .ref q_mcx, .ref q_mpa, .int mps, .ref q_mle, .ref q_mdi, .int mtr, .ref q_mrd, .int misr, .int mplc, .int mlak, .int mpl, .int mpass, .int mraw, .ref q_msz, .ref q_mbe, .ref q_mfa, .ref q_mse, .ref q_mrf, .ref q_mlo, .ref q_mos, .ref q_mwb, .ref q_mol, .ref q_mrv, .ref q_mrl])), (q_mbi, .inl (k_mbi, n_mbi, .inl (upd mbits mtb.toNatClampNeg a0))), (q_mcx, .inl (k_mcx, n_mcx, .inl (upd mctxs mtb.toNatClampNeg a1))), (q_mpa, .inl (k_mpa, n_mpa, .inl (upd mpaso mtb.toNatClampNeg mpass))), (q_mrd, .inl (k_mrd, n_mrd, .inl mreads))] H := hP
    have hD : va_D A [(q_mo, .inr (5, [.int mref, .int mw, .int mh, .int mst, .int mbd, .ref q_msa, .int (mtb + (1 : Int32)), .ref q_mbi, .ref q_mcx, .ref q_mpa, .int mps, .ref q_mle, .ref q_mdi, .int mtr, .ref q_mrd, .int misr, .int mplc, .int mlak, .int mpl, .int mpass, .int mraw, .ref q_msz, .ref q_mbe, .ref q_mfa, .ref q_mse, .ref q_mrf, .ref q_mlo, .ref q_mos, .ref q_mwb, .ref q_mol, .ref q_mrv, .ref q_mrl])), (q_mbi, .inl (k_mbi, n_mbi, .inl (upd mbits mtb.toNatClampNeg a0))), (q_mcx, .inl (k_mcx, n_mcx, .inl (upd mctxs mtb.toNatClampNeg a1))), (q_mpa, .inl (k_mpa, n_mpa, .inl (upd mpaso mtb.toNatClampNeg mpass))), (q_mrd, .inl (k_mrd, n_mrd, .inl mreads))] := hD
    refine lv_iload_n hx hb d_M_code_90 rfl (lv_at hl 1 rfl) ?_
    obtain rfl := Option.some.inj hF
    exact ku_iret hx hb hr hlocks hQ (hP.sub [0, 1, 2, 3, 4] rfl) (hD.sub [0, 1, 2, 3, 4] (by decide) rfl) hS d_M_code_91
  have hF := kc_neg c1 hF
  refine lv_aload_n hx hb d_M_code_7 rfl (lv_at hl 0 rfl) ?_
  refine va_get (D := (dC, dI)) (ci := 5) (v := .int mplc) (C := R_M) (T := T_M) (N := 32) hx hb hts ki_M hown hK hP 0 rfl rfl 16 (by decide) (hts _ kw_3_149) (fun _ h9 => h9) rfl d_M_code_8 ?_
  refine lv_aload_n hx hb d_M_code_11 rfl (lv_at hl 0 rfl) ?_
  refine va_get (D := (dC, dI)) (ci := 5) (v := .int mtr) (C := R_M) (T := T_M) (N := 32) hx hb hts ki_M hown hK hP 0 rfl rfl 13 (by decide) (hts _ kw_3_146) (fun _ h9 => h9) rfl d_M_code_12 ?_
  refine lv_icmp_lt (tgt := 25) hx hb d_M_code_15 (by decide) (fun c5 => ?_) (fun c5 => ?_)
  · have hF := kc_pos c5 hF
    refine lv_aload_n hx hb d_M_code_25 rfl (lv_at hl 0 rfl) ?_
    refine lv_dup hx hb d_M_code_26 rfl ?_
    refine va_get (D := (dC, dI)) (ci := 5) (v := .int mplc) (C := R_M) (T := T_M) (N := 32) hx hb hts ki_M hown hK hP 0 rfl rfl 16 (by decide) (hts _ kw_3_149) (fun _ h9 => h9) rfl d_M_code_27 ?_
    refine lv_iconst (v := 1) hx hb d_M_code_30 (by decide) ?_
    refine lv_iadd hx hb d_M_code_31 ?_
    refine va_put (D := (dC, dI)) (ci := 5) (v := .int (mplc + (1 : Int32))) (ty := .int) (C := R_M) (T := T_M) (N := 32) hx hb hts ki_M ty_M tyok_M nmok_M hown hK hP hD hS 0 rfl rfl 16 (by decide) (hts _ kw_3_149) (fun _ h9 => h9) rfl (by decide +kernel) rfl rfl (Nat.le_of_ble_eq_true rfl) d_M_code_32 (fun H locs hP hD hS => ?_)
    have hP : va_P (dC, dI) vwCl [(q_mo, .inr (5, [.int mref, .int mw, .int mh, .int mst, .int mbd, .ref q_msa, .int mtb, .ref q_mbi, .ref q_mcx, .ref q_mpa, .int mps, .ref q_mle, .ref q_mdi, .int mtr, .ref q_mrd, .int misr, .int (mplc + (1 : Int32)), .int mlak, .int mpl, .int mpass, .int mraw, .ref q_msz, .ref q_mbe, .ref q_mfa, .ref q_mse, .ref q_mrf, .ref q_mlo, .ref q_mos, .ref q_mwb, .ref q_mol, .ref q_mrv, .ref q_mrl])), (q_mbi, .inl (k_mbi, n_mbi, .inl mbits)), (q_mcx, .inl (k_mcx, n_mcx, .inl mctxs)), (q_mpa, .inl (k_mpa, n_mpa, .inl mpaso)), (q_mrd, .inl (k_mrd, n_mrd, .inl mreads))] H := hP
    have hD : va_D A [(q_mo, .inr (5, [.int mref, .int mw, .int mh, .int mst, .int mbd, .ref q_msa, .int mtb, .ref q_mbi, .ref q_mcx, .ref q_mpa, .int mps, .ref q_mle, .ref q_mdi, .int mtr, .ref q_mrd, .int misr, .int (mplc + (1 : Int32)), .int mlak, .int mpl, .int mpass, .int mraw, .ref q_msz, .ref q_mbe, .ref q_mfa, .ref q_mse, .ref q_mrf, .ref q_mlo, .ref q_mos, .ref q_mwb, .ref q_mol, .ref q_mrv, .ref q_mrl])), (q_mbi, .inl (k_mbi, n_mbi, .inl mbits)), (q_mcx, .inl (k_mcx, n_mcx, .inl mctxs)), (q_mpa, .inl (k_mpa, n_mpa, .inl mpaso)), (q_mrd, .inl (k_mrd, n_mrd, .inl mreads))] := hD
    refine lv_aload_n hx hb d_M_code_35 rfl (lv_at hl 0 rfl) ?_
    refine va_get (D := (dC, dI)) (ci := 5) (v := .ref q_mrd) (C := R_M) (T := T_M) (N := 32) hx hb hts ki_M hown hK hP 0 rfl rfl 14 (by decide) (hts _ kw_3_147) (fun _ h9 => h9) rfl d_M_code_36 ?_
    refine lv_aload_n hx hb d_M_code_39 rfl (lv_at hl 0 rfl) ?_
    refine va_get (D := (dC, dI)) (ci := 5) (v := .int (mplc + (1 : Int32))) (C := R_M) (T := T_M) (N := 32) hx hb hts ki_M hown hK hP 0 rfl rfl 16 (by decide) (hts _ kw_3_149) (fun _ h9 => h9) rfl d_M_code_40 ?_
    refine lv_iconst (v := 1) hx hb d_M_code_43 (by decide) ?_
    refine lv_isub hx hb d_M_code_44 ?_
    obtain ⟨h6, hF⟩ := kc_no hF
    refine va_iald hx hb hK hP 4 3 rfl rfl h6 d_M_code_45 ?_
    obtain rfl := Option.some.inj hF
    exact ku_iret hx hb hr hlocks hQ (hP.sub [0, 1, 2, 3, 4] rfl) (hD.sub [0, 1, 2, 3, 4] (by decide) rfl) hS d_M_code_46
  have hF := kc_neg c5 hF
  refine lv_aload_n hx hb d_M_code_18 rfl (lv_at hl 0 rfl) ?_
  refine lv_iconst (v := 1) hx hb d_M_code_19 (by decide) ?_
  refine va_put (D := (dC, dI)) (ci := 5) (v := .int (1 : Int32)) (ty := .boolean) (C := R_M) (T := T_M) (N := 32) hx hb hts ki_M ty_M tyok_M nmok_M hown hK hP hD hS 0 rfl rfl 17 (by decide) (hts _ kw_3_150) (fun _ h9 => h9) rfl (by decide +kernel) rfl rfl (Nat.le_of_ble_eq_true rfl) d_M_code_20 (fun H locs hP hD hS => ?_)
  have hP : va_P (dC, dI) vwCl [(q_mo, .inr (5, [.int mref, .int mw, .int mh, .int mst, .int mbd, .ref q_msa, .int mtb, .ref q_mbi, .ref q_mcx, .ref q_mpa, .int mps, .ref q_mle, .ref q_mdi, .int mtr, .ref q_mrd, .int misr, .int mplc, .int (1 : Int32), .int mpl, .int mpass, .int mraw, .ref q_msz, .ref q_mbe, .ref q_mfa, .ref q_mse, .ref q_mrf, .ref q_mlo, .ref q_mos, .ref q_mwb, .ref q_mol, .ref q_mrv, .ref q_mrl])), (q_mbi, .inl (k_mbi, n_mbi, .inl mbits)), (q_mcx, .inl (k_mcx, n_mcx, .inl mctxs)), (q_mpa, .inl (k_mpa, n_mpa, .inl mpaso)), (q_mrd, .inl (k_mrd, n_mrd, .inl mreads))] H := hP
  have hD : va_D A [(q_mo, .inr (5, [.int mref, .int mw, .int mh, .int mst, .int mbd, .ref q_msa, .int mtb, .ref q_mbi, .ref q_mcx, .ref q_mpa, .int mps, .ref q_mle, .ref q_mdi, .int mtr, .ref q_mrd, .int misr, .int mplc, .int (1 : Int32), .int mpl, .int mpass, .int mraw, .ref q_msz, .ref q_mbe, .ref q_mfa, .ref q_mse, .ref q_mrf, .ref q_mlo, .ref q_mos, .ref q_mwb, .ref q_mol, .ref q_mrv, .ref q_mrl])), (q_mbi, .inl (k_mbi, n_mbi, .inl mbits)), (q_mcx, .inl (k_mcx, n_mcx, .inl mctxs)), (q_mpa, .inl (k_mpa, n_mpa, .inl mpaso)), (q_mrd, .inl (k_mrd, n_mrd, .inl mreads))] := hD
  refine lv_iconst (v := 0) hx hb d_M_code_23 (by decide) ?_
  obtain rfl := Option.some.inj hF
  exact ku_iret hx hb hr hlocks hQ (hP.sub [0, 1, 2, 3, 4] rfl) (hD.sub [0, 1, 2, 3, 4] (by decide) rfl) hS d_M_code_24
abbrev rm_M_signAt : Room := { frames := 1, cells := 0, slots := 0, locals := 22 }
set_option maxHeartbeats 4000000 in
set_option maxRecDepth 100000 in
theorem m_M_signAt (l : Launch) (dC : Nat → ClassId) (dI : Nat → Nat → Nat) (q_mo q_msa q_mbi q_mcx q_mpa q_mle q_mdi q_mrd q_msz q_mbe q_mfa q_mse q_mrf q_mlo q_mos q_mwb q_mol q_mrv q_mrl : Nat) (k_mbe : ClassId) (n_mbe : Nat) (k_mfa : ClassId) (n_mfa : Nat) (mref : Int32) (mw : Int32) (mh : Int32) (mst : Int32) (mbd : Int32) (mtb : Int32) (mps : Int32) (mtr : Int32) (misr : Int32) (mplc : Int32) (mlak : Int32) (mpl : Int32) (mpass : Int32) (mraw : Int32) (mbels : (Nat → Int32)) (mfnds : (Nat → Int32)) (a0 : Int32) (a1 : Int32) (a2 : Int32) (u : Int32) (hF : f_M_signAt mw mh mst mbels mfnds n_mbe n_mfa a0 a1 a2 = some u) : Met l y_M_signAt (kws y_M_signAt c_M_signAt 6 (some .int)) rm_M_signAt (kRe (dC, dI) [.ref q_mo, .int a0, .int a1, .int a2] [(q_mo, .inr (5, [.int mref, .int mw, .int mh, .int mst, .int mbd, .ref q_msa, .int mtb, .ref q_mbi, .ref q_mcx, .ref q_mpa, .int mps, .ref q_mle, .ref q_mdi, .int mtr, .ref q_mrd, .int misr, .int mplc, .int mlak, .int mpl, .int mpass, .int mraw, .ref q_msz, .ref q_mbe, .ref q_mfa, .ref q_mse, .ref q_mrf, .ref q_mlo, .ref q_mos, .ref q_mwb, .ref q_mol, .ref q_mrv, .ref q_mrl])), (q_mbe, .inl (k_mbe, n_mbe, .inl mbels)), (q_mfa, .inl (k_mfa, n_mfa, .inl mfnds))] [(k_mbe, .boolean), (k_mfa, .int)]) (k2_QcV (.int u)) 0 0 (fun _ => False) := by
  unfold f_M_signAt at hF
  refine kR_of (cc := c_M_signAt) (maxL := 6) (ret := (some .int)) (by decide) (Nat.le_of_ble_eq_true rfl) ?_
  intro p e s m args below meth c Q hQ hfx hP hK hN ls hl
  obtain ⟨hx, hb, hr, hml, hown, hts, hlocks⟩ := hfx
  have hown : s.vm.findClass R_M = some m.cls := hown
  have hl : lv_has ls 6 [(0, .ref q_mo), (1, .int a0), (2, .int a1), (3, .int a2)] := hl
  refine lv_aload_n hx hb d_M_signAt_0 rfl (lv_at hl 0 rfl) ?_
  refine lv_bipush (v := 8) hx hb d_M_signAt_1 (by decide) ?_
  refine kr_call (va_runV (As := [.int (8 : Int32)]) (rest := []) ⟨hx, hb, hml, hown, hts⟩ (m_M_has l dC dI q_mo q_msa q_mbi q_mcx q_mpa q_mle q_mdi q_mrd q_msz q_mbe q_mfa q_mse q_mrf q_mlo q_mos q_mwb q_mol q_mrv q_mrl mref mw mh mst mbd mtb mps mtr misr mplc mlak mpl mpass mraw (8 : Int32) (f_M_has mst (8 : Int32)) rfl) (cwV 1 hts (kgV kw_4_38 kw_4_40 kp_27 kw_1_8 kw_4_41) rfl rfl rfl (by decide +kernel) ⟨Nat.le_of_ble_eq_true rfl, Nat.le_of_ble_eq_true rfl⟩) ⟨kRe_blind, va_recv hK hP (ci := 5) (q0 := 0) rfl rfl, kRe_of (hP.sub [0] rfl) (hK.sub [] rfl) hN⟩ rfl rfl hl.1 rfl (lv_room (Nat.le_of_ble_eq_true rfl)) d_M_signAt_3 ⟨Nat.le_of_ble_eq_true rfl, Nat.le_of_ble_eq_true rfl⟩) ?_
  obtain ⟨u2, hcu2, hF⟩ := kc_bnd hF
  have hJu2 : ∀ (ls : Array Slot), lv_has ls 6 [(0, .ref q_mo), (1, .int a0), (2, .int a1), (3, .int a2)] → W p l e rm_M_signAt s m args below meth c s.heap [] 0 0 Q (F0 m 25 ls [.int u2]) := by
    intro ls hl
    refine lv_istore (lv' := [(4, .int u2), (0, .ref q_mo), (1, .int a0), (2, .int a1), (3, .int a2)]) hx hb d_M_signAt_25 hl (by decide) rfl (fun ls hl => ?_)
    refine lv_bipush (v := 16) hx hb d_M_signAt_27 (by decide) ?_
    refine lv_iload_n hx hb d_M_signAt_29 rfl (lv_at hl 3 rfl) ?_
    refine lv_imul hx hb d_M_signAt_30 ?_
    refine lv_iload_n hx hb d_M_signAt_31 rfl (lv_at hl 2 rfl) ?_
    refine lv_iadd hx hb d_M_signAt_32 ?_
    refine lv_istore (lv' := [(5, .int (((16 : Int32) * a1) + a0)), (4, .int u2), (0, .ref q_mo), (1, .int a0), (2, .int a1), (3, .int a2)]) hx hb d_M_signAt_33 hl (by decide) rfl (fun ls hl => ?_)
    refine lv_aload_n hx hb d_M_signAt_35 rfl (lv_at hl 2 rfl) ?_
    refine lv_iload_n hx hb d_M_signAt_36 rfl (lv_at hl 3 rfl) ?_
    refine lv_iload_n hx hb d_M_signAt_37 rfl (lv_at hl 4 rfl) ?_
    refine kr_call (va_runV (As := [.int a0, .int a1]) (rest := []) ⟨hx, hb, hml, hown, hts⟩ (m_M_isIn l dC dI q_mo q_msa q_mbi q_mcx q_mpa q_mle q_mdi q_mrd q_msz q_mbe q_mfa q_mse q_mrf q_mlo q_mos q_mwb q_mol q_mrv q_mrl mref mw mh mst mbd mtb mps mtr misr mplc mlak mpl mpass mraw a0 a1 (f_M_isIn mw mh a0 a1) rfl) (cwV 2 hts (kgV kw_3_239 kw_4_1 kp_22 kw_1_8 kw_4_2) rfl rfl rfl (by decide +kernel) ⟨Nat.le_of_ble_eq_true rfl, Nat.le_of_ble_eq_true rfl⟩) ⟨kRe_blind, va_recv hK hP (ci := 5) (q0 := 0) rfl rfl, kRe_of (hP.sub [0] rfl) (hK.sub [] rfl) hN⟩ rfl rfl hl.1 rfl (lv_room (Nat.le_of_ble_eq_true rfl)) d_M_signAt_38 ⟨Nat.le_of_ble_eq_true rfl, Nat.le_of_ble_eq_true rfl⟩) ?_
    refine lv_if_eq (tgt := 60) hx hb d_M_signAt_41 (by decide) (fun c3 => ?_) (fun c3 => ?_)
    · have hF := kc_pos c3 hF
      refine lv_iconst (v := 0) hx hb d_M_signAt_60 (by decide) ?_
      refine lv_goto (tgt := 79) hx hb d_M_signAt_61 (by decide) ?_
      obtain rfl := Option.some.inj hF
      exact kr_iret hx hb hr hlocks hQ d_M_signAt_79
    have hF := kc_neg c3 hF
    refine lv_iload hx hb d_M_signAt_44 (lv_at hl 1 rfl) ?_
    refine lv_if_ne (tgt := 60) hx hb d_M_signAt_46 (by decide) (fun c4 => ?_) (fun c4 => ?_)
    · have hF := kc_neg c4 hF
      refine lv_iconst (v := 0) hx hb d_M_signAt_60 (by decide) ?_
      refine lv_goto (tgt := 79) hx hb d_M_signAt_61 (by decide) ?_
      obtain rfl := Option.some.inj hF
      exact kr_iret hx hb hr hlocks hQ d_M_signAt_79
    have hF := kc_pos c4 hF
    refine lv_aload_n hx hb d_M_signAt_49 rfl (lv_at hl 2 rfl) ?_
    refine va_get (D := (dC, dI)) (ci := 5) (v := .ref q_mfa) (C := R_M) (T := T_M) (N := 32) hx hb hts ki_M hown hK hP 0 rfl rfl 23 (by decide) (hts _ kw_3_156) (fun _ h9 => h9) rfl d_M_signAt_50 ?_
    refine lv_iload hx hb d_M_signAt_53 (lv_at hl 0 rfl) ?_
    obtain ⟨h5, hF⟩ := kc_no hF
    refine va_iald hx hb hK hP 2 1 rfl rfl h5 d_M_signAt_55 ?_
    refine lv_iconst (v := -1) hx hb d_M_signAt_56 (by decide) ?_
    refine lv_icmp_ne (tgt := 64) hx hb d_M_signAt_57 (by decide) (fun c6 => ?_) (fun c6 => ?_)
    · have hF := kc_neg c6 hF
      refine lv_aload_n hx hb d_M_signAt_64 rfl (lv_at hl 2 rfl) ?_
      refine va_get (D := (dC, dI)) (ci := 5) (v := .ref q_mbe) (C := R_M) (T := T_M) (N := 32) hx hb hts ki_M hown hK hP 0 rfl rfl 22 (by decide) (hts _ kw_3_155) (fun _ h9 => h9) rfl d_M_signAt_65 ?_
      refine lv_iload hx hb d_M_signAt_68 (lv_at hl 0 rfl) ?_
      obtain ⟨h7, hF⟩ := kc_no hF
      refine va_zald hx hb hK hP 1 0 rfl rfl h7 d_M_signAt_70 ?_
      refine lv_if_eq (tgt := 78) hx hb d_M_signAt_71 (by decide) (fun c8 => ?_) (fun c8 => ?_)
      · have hF := kc_pos c8 hF
        refine lv_iconst (v := 1) hx hb d_M_signAt_78 (by decide) ?_
        obtain rfl := Option.some.inj hF
        exact kr_iret hx hb hr hlocks hQ d_M_signAt_79
      have hF := kc_neg c8 hF
      refine lv_iconst (v := -1) hx hb d_M_signAt_74 (by decide) ?_
      refine lv_goto (tgt := 79) hx hb d_M_signAt_75 (by decide) ?_
      obtain rfl := Option.some.inj hF
      exact kr_iret hx hb hr hlocks hQ d_M_signAt_79
    have hF := kc_pos c6 hF
    refine lv_iconst (v := 0) hx hb d_M_signAt_60 (by decide) ?_
    refine lv_goto (tgt := 79) hx hb d_M_signAt_61 (by decide) ?_
    obtain rfl := Option.some.inj hF
    exact kr_iret hx hb hr hlocks hQ d_M_signAt_79
  clear hF; have hF := hcu2; clear hcu2
  refine lv_if_eq (tgt := 24) hx hb d_M_signAt_6 (by decide) (fun c1 => ?_) (fun c1 => ?_)
  · have hF := kc_pos c1 hF
    refine lv_iconst (v := 0) hx hb d_M_signAt_24 (by decide) ?_
    obtain rfl := Option.some.inj hF
    exact hJu2 _ (lv_sub hl [0, 1, 2, 3] rfl)
  have hF := kc_neg c1 hF
  refine lv_iload_n hx hb d_M_signAt_9 rfl (lv_at hl 2 rfl) ?_
  refine lv_iload_n hx hb d_M_signAt_10 rfl (lv_at hl 3 rfl) ?_
  refine lv_icmp_le (tgt := 24) hx hb d_M_signAt_11 (by decide) (fun c9 => ?_) (fun c9 => ?_)
  · have hF := kc_pos c9 hF
    refine lv_iconst (v := 0) hx hb d_M_signAt_24 (by decide) ?_
    obtain rfl := Option.some.inj hF
    exact hJu2 _ (lv_sub hl [0, 1, 2, 3] rfl)
  have hF := kc_neg c9 hF
  refine lv_iload_n hx hb d_M_signAt_14 rfl (lv_at hl 2 rfl) ?_
  refine lv_iconst (v := 4) hx hb d_M_signAt_15 (by decide) ?_
  refine lv_irem hx hb d_M_signAt_16 (by decide) ?_
  refine W.eq (g2 := F0 m 17 ls [.int (krem a1 (4 : Int32))]) rfl ?_
  refine lv_if_ne (tgt := 24) hx hb d_M_signAt_17 (by decide) (fun c10 => ?_) (fun c10 => ?_)
  · have hF := kc_neg c10 hF
    refine lv_iconst (v := 0) hx hb d_M_signAt_24 (by decide) ?_
    obtain rfl := Option.some.inj hF
    exact hJu2 _ (lv_sub hl [0, 1, 2, 3] rfl)
  have hF := kc_pos c10 hF
  refine lv_iconst (v := 1) hx hb d_M_signAt_20 (by decide) ?_
  refine lv_goto (tgt := 25) hx hb d_M_signAt_21 (by decide) ?_
  obtain rfl := Option.some.inj hF
  exact hJu2 _ (lv_sub hl [0, 1, 2, 3] rfl)
abbrev rm_M_isFound : Room := { frames := 2, cells := 0, slots := 0, locals := 47 }
set_option maxHeartbeats 4000000 in
set_option maxRecDepth 100000 in
theorem m_M_isFound (l : Launch) (dC : Nat → ClassId) (dI : Nat → Nat → Nat) (q_mo q_msa q_mbi q_mcx q_mpa q_mle q_mdi q_mrd q_msz q_mbe q_mfa q_mse q_mrf q_mlo q_mos q_mwb q_mol q_mrv q_mrl : Nat) (k_mbe : ClassId) (n_mbe : Nat) (k_mfa : ClassId) (n_mfa : Nat) (mref : Int32) (mw : Int32) (mh : Int32) (mst : Int32) (mbd : Int32) (mtb : Int32) (mps : Int32) (mtr : Int32) (misr : Int32) (mplc : Int32) (mlak : Int32) (mpl : Int32) (mpass : Int32) (mraw : Int32) (mbels : (Nat → Int32)) (mfnds : (Nat → Int32)) (a0 : Int32) (a1 : Int32) (a2 : Int32) (u : Int32) (hF : f_M_isFound mw mh mst mbels mfnds n_mbe n_mfa a0 a1 a2 = some u) : Met l y_M_isFound (kws y_M_isFound c_M_isFound 4 (some .int)) rm_M_isFound (kRe (dC, dI) [.ref q_mo, .int a0, .int a1, .int a2] [(q_mo, .inr (5, [.int mref, .int mw, .int mh, .int mst, .int mbd, .ref q_msa, .int mtb, .ref q_mbi, .ref q_mcx, .ref q_mpa, .int mps, .ref q_mle, .ref q_mdi, .int mtr, .ref q_mrd, .int misr, .int mplc, .int mlak, .int mpl, .int mpass, .int mraw, .ref q_msz, .ref q_mbe, .ref q_mfa, .ref q_mse, .ref q_mrf, .ref q_mlo, .ref q_mos, .ref q_mwb, .ref q_mol, .ref q_mrv, .ref q_mrl])), (q_mbe, .inl (k_mbe, n_mbe, .inl mbels)), (q_mfa, .inl (k_mfa, n_mfa, .inl mfnds))] [(k_mbe, .boolean), (k_mfa, .int)]) (k2_QcV (.int u)) 0 0 (fun _ => False) := by
  unfold f_M_isFound at hF
  refine kR_of (cc := c_M_isFound) (maxL := 4) (ret := (some .int)) (by decide) (Nat.le_of_ble_eq_true rfl) ?_
  intro p e s m args below meth c Q hQ hfx hP hK hN ls hl
  obtain ⟨hx, hb, hr, hml, hown, hts, hlocks⟩ := hfx
  have hown : s.vm.findClass R_M = some m.cls := hown
  have hl : lv_has ls 4 [(0, .ref q_mo), (1, .int a0), (2, .int a1), (3, .int a2)] := hl
  refine lv_aload_n hx hb d_M_isFound_0 rfl (lv_at hl 0 rfl) ?_
  refine lv_iload_n hx hb d_M_isFound_1 rfl (lv_at hl 1 rfl) ?_
  refine lv_iload_n hx hb d_M_isFound_2 rfl (lv_at hl 2 rfl) ?_
  refine lv_iload_n hx hb d_M_isFound_3 rfl (lv_at hl 3 rfl) ?_
  obtain ⟨u1, hc, hF⟩ := kc_bnd hF
  refine kr_call (va_runV (As := [.int a0, .int a1, .int a2]) (rest := []) ⟨hx, hb, hml, hown, hts⟩ (m_M_signAt l dC dI q_mo q_msa q_mbi q_mcx q_mpa q_mle q_mdi q_mrd q_msz q_mbe q_mfa q_mse q_mrf q_mlo q_mos q_mwb q_mol q_mrv q_mrl k_mbe n_mbe k_mfa n_mfa mref mw mh mst mbd mtb mps mtr misr mplc mlak mpl mpass mraw mbels mfnds a0 a1 a2 _ hc) (cwV 3 hts (kgV kw_4_66 kw_4_68 kp_34 kw_1_8 kw_4_69) rfl rfl rfl (by decide +kernel) ⟨Nat.le_of_ble_eq_true rfl, Nat.le_of_ble_eq_true rfl⟩) ⟨kRe_blind, va_recv hK hP (ci := 5) (q0 := 0) rfl rfl, kRe_of (hP.sub [0, 1, 2] rfl) (hK.sub [0, 1] rfl) hN⟩ rfl rfl hl.1 rfl (lv_room (Nat.le_of_ble_eq_true rfl)) d_M_isFound_4 ⟨Nat.le_of_ble_eq_true rfl, Nat.le_of_ble_eq_true rfl⟩) ?_
  refine lv_if_eq (tgt := 14) hx hb d_M_isFound_7 (by decide) (fun c2 => ?_) (fun c2 => ?_)
  · have hF := kc_pos c2 hF
    refine lv_iconst (v := 0) hx hb d_M_isFound_14 (by decide) ?_
    obtain rfl := Option.some.inj hF
    exact kr_iret hx hb hr hlocks hQ d_M_isFound_15
  have hF := kc_neg c2 hF
  refine lv_iconst (v := 1) hx hb d_M_isFound_10 (by decide) ?_
  refine lv_goto (tgt := 15) hx hb d_M_isFound_11 (by decide) ?_
  obtain rfl := Option.some.inj hF
  exact kr_iret hx hb hr hlocks hQ d_M_isFound_15
abbrev rm_M_corners : Room := { frames := 3, cells := 0, slots := 0, locals := 70 }
set_option maxHeartbeats 4000000 in
set_option maxRecDepth 100000 in
theorem m_M_corners (l : Launch) (dC : Nat → ClassId) (dI : Nat → Nat → Nat) (q_mo q_msa q_mbi q_mcx q_mpa q_mle q_mdi q_mrd q_msz q_mbe q_mfa q_mse q_mrf q_mlo q_mos q_mwb q_mol q_mrv q_mrl : Nat) (k_mbe : ClassId) (n_mbe : Nat) (k_mfa : ClassId) (n_mfa : Nat) (mref : Int32) (mw : Int32) (mh : Int32) (mst : Int32) (mbd : Int32) (mtb : Int32) (mps : Int32) (mtr : Int32) (misr : Int32) (mplc : Int32) (mlak : Int32) (mpl : Int32) (mpass : Int32) (mraw : Int32) (mbels : (Nat → Int32)) (mfnds : (Nat → Int32)) (a0 : Int32) (a1 : Int32) (u : Int32) (hF : f_M_corners mw mh mst mbels mfnds n_mbe n_mfa a0 a1 = some u) : Met l y_M_corners (kws y_M_corners c_M_corners 3 (some .int)) rm_M_corners (kRe (dC, dI) [.ref q_mo, .int a0, .int a1] [(q_mo, .inr (5, [.int mref, .int mw, .int mh, .int mst, .int mbd, .ref q_msa, .int mtb, .ref q_mbi, .ref q_mcx, .ref q_mpa, .int mps, .ref q_mle, .ref q_mdi, .int mtr, .ref q_mrd, .int misr, .int mplc, .int mlak, .int mpl, .int mpass, .int mraw, .ref q_msz, .ref q_mbe, .ref q_mfa, .ref q_mse, .ref q_mrf, .ref q_mlo, .ref q_mos, .ref q_mwb, .ref q_mol, .ref q_mrv, .ref q_mrl])), (q_mbe, .inl (k_mbe, n_mbe, .inl mbels)), (q_mfa, .inl (k_mfa, n_mfa, .inl mfnds))] [(k_mbe, .boolean), (k_mfa, .int)]) (k2_QcV (.int u)) 0 0 (fun _ => False) := by
  unfold f_M_corners at hF
  refine kR_of (cc := c_M_corners) (maxL := 3) (ret := (some .int)) (by decide) (Nat.le_of_ble_eq_true rfl) ?_
  intro p e s m args below meth c Q hQ hfx hP hK hN ls hl
  obtain ⟨hx, hb, hr, hml, hown, hts, hlocks⟩ := hfx
  have hown : s.vm.findClass R_M = some m.cls := hown
  have hl : lv_has ls 3 [(0, .ref q_mo), (1, .int a0), (2, .int a1)] := hl
  refine lv_aload_n hx hb d_M_corners_0 rfl (lv_at hl 0 rfl) ?_
  refine lv_iload_n hx hb d_M_corners_1 rfl (lv_at hl 1 rfl) ?_
  refine lv_iconst (v := 1) hx hb d_M_corners_2 (by decide) ?_
  refine lv_isub hx hb d_M_corners_3 ?_
  refine lv_iload_n hx hb d_M_corners_4 rfl (lv_at hl 2 rfl) ?_
  refine lv_iconst (v := 1) hx hb d_M_corners_5 (by decide) ?_
  refine lv_isub hx hb d_M_corners_6 ?_
  refine lv_iload_n hx hb d_M_corners_7 rfl (lv_at hl 2 rfl) ?_
  obtain ⟨u1, hc, hF⟩ := kc_bnd hF
  refine kr_call (va_runV (As := [.int (a0 - (1 : Int32)), .int (a1 - (1 : Int32)), .int a1]) (rest := []) ⟨hx, hb, hml, hown, hts⟩ (m_M_isFound l dC dI q_mo q_msa q_mbi q_mcx q_mpa q_mle q_mdi q_mrd q_msz q_mbe q_mfa q_mse q_mrf q_mlo q_mos q_mwb q_mol q_mrv q_mrl k_mbe n_mbe k_mfa n_mfa mref mw mh mst mbd mtb mps mtr misr mplc mlak mpl mpass mraw mbels mfnds (a0 - (1 : Int32)) (a1 - (1 : Int32)) a1 _ hc) (cwV 3 hts (kgV kw_4_62 kw_4_64 kp_33 kw_1_8 kw_4_65) rfl rfl rfl (by decide +kernel) ⟨Nat.le_of_ble_eq_true rfl, Nat.le_of_ble_eq_true rfl⟩) ⟨kRe_blind, va_recv hK hP (ci := 5) (q0 := 0) rfl rfl, kRe_of (hP.sub [0, 1, 2] rfl) (hK.sub [0, 1] rfl) hN⟩ rfl rfl hl.1 rfl (lv_room (Nat.le_of_ble_eq_true rfl)) d_M_corners_8 ⟨Nat.le_of_ble_eq_true rfl, Nat.le_of_ble_eq_true rfl⟩) ?_
  refine lv_aload_n hx hb d_M_corners_11 rfl (lv_at hl 0 rfl) ?_
  refine lv_iload_n hx hb d_M_corners_12 rfl (lv_at hl 1 rfl) ?_
  refine lv_iconst (v := 1) hx hb d_M_corners_13 (by decide) ?_
  refine lv_iadd hx hb d_M_corners_14 ?_
  refine lv_iload_n hx hb d_M_corners_15 rfl (lv_at hl 2 rfl) ?_
  refine lv_iconst (v := 1) hx hb d_M_corners_16 (by decide) ?_
  refine lv_isub hx hb d_M_corners_17 ?_
  refine lv_iload_n hx hb d_M_corners_18 rfl (lv_at hl 2 rfl) ?_
  obtain ⟨u2, hc, hF⟩ := kc_bnd hF
  refine kr_call (va_runV (As := [.int (a0 + (1 : Int32)), .int (a1 - (1 : Int32)), .int a1]) (rest := [.int u1]) ⟨hx, hb, hml, hown, hts⟩ (m_M_isFound l dC dI q_mo q_msa q_mbi q_mcx q_mpa q_mle q_mdi q_mrd q_msz q_mbe q_mfa q_mse q_mrf q_mlo q_mos q_mwb q_mol q_mrv q_mrl k_mbe n_mbe k_mfa n_mfa mref mw mh mst mbd mtb mps mtr misr mplc mlak mpl mpass mraw mbels mfnds (a0 + (1 : Int32)) (a1 - (1 : Int32)) a1 _ hc) (cwV 3 hts (kgV kw_4_62 kw_4_64 kp_33 kw_1_8 kw_4_65) rfl rfl rfl (by decide +kernel) ⟨Nat.le_of_ble_eq_true rfl, Nat.le_of_ble_eq_true rfl⟩) ⟨kRe_blind, va_recv hK hP (ci := 5) (q0 := 0) rfl rfl, kRe_of (hP.sub [0, 1, 2] rfl) (hK.sub [0, 1] rfl) hN⟩ rfl rfl hl.1 rfl (lv_room (Nat.le_of_ble_eq_true rfl)) d_M_corners_19 ⟨Nat.le_of_ble_eq_true rfl, Nat.le_of_ble_eq_true rfl⟩) ?_
  refine lv_iadd hx hb d_M_corners_22 ?_
  refine lv_aload_n hx hb d_M_corners_23 rfl (lv_at hl 0 rfl) ?_
  refine lv_iload_n hx hb d_M_corners_24 rfl (lv_at hl 1 rfl) ?_
  refine lv_iconst (v := 1) hx hb d_M_corners_25 (by decide) ?_
  refine lv_isub hx hb d_M_corners_26 ?_
  refine lv_iload_n hx hb d_M_corners_27 rfl (lv_at hl 2 rfl) ?_
  refine lv_iconst (v := 1) hx hb d_M_corners_28 (by decide) ?_
  refine lv_iadd hx hb d_M_corners_29 ?_
  refine lv_iload_n hx hb d_M_corners_30 rfl (lv_at hl 2 rfl) ?_
  obtain ⟨u3, hc, hF⟩ := kc_bnd hF
  refine kr_call (va_runV (As := [.int (a0 - (1 : Int32)), .int (a1 + (1 : Int32)), .int a1]) (rest := [.int (u1 + u2)]) ⟨hx, hb, hml, hown, hts⟩ (m_M_isFound l dC dI q_mo q_msa q_mbi q_mcx q_mpa q_mle q_mdi q_mrd q_msz q_mbe q_mfa q_mse q_mrf q_mlo q_mos q_mwb q_mol q_mrv q_mrl k_mbe n_mbe k_mfa n_mfa mref mw mh mst mbd mtb mps mtr misr mplc mlak mpl mpass mraw mbels mfnds (a0 - (1 : Int32)) (a1 + (1 : Int32)) a1 _ hc) (cwV 3 hts (kgV kw_4_62 kw_4_64 kp_33 kw_1_8 kw_4_65) rfl rfl rfl (by decide +kernel) ⟨Nat.le_of_ble_eq_true rfl, Nat.le_of_ble_eq_true rfl⟩) ⟨kRe_blind, va_recv hK hP (ci := 5) (q0 := 0) rfl rfl, kRe_of (hP.sub [0, 1, 2] rfl) (hK.sub [0, 1] rfl) hN⟩ rfl rfl hl.1 rfl (lv_room (Nat.le_of_ble_eq_true rfl)) d_M_corners_31 ⟨Nat.le_of_ble_eq_true rfl, Nat.le_of_ble_eq_true rfl⟩) ?_
  refine lv_iadd hx hb d_M_corners_34 ?_
  refine lv_aload_n hx hb d_M_corners_35 rfl (lv_at hl 0 rfl) ?_
  refine lv_iload_n hx hb d_M_corners_36 rfl (lv_at hl 1 rfl) ?_
  refine lv_iconst (v := 1) hx hb d_M_corners_37 (by decide) ?_
  refine lv_iadd hx hb d_M_corners_38 ?_
  refine lv_iload_n hx hb d_M_corners_39 rfl (lv_at hl 2 rfl) ?_
  refine lv_iconst (v := 1) hx hb d_M_corners_40 (by decide) ?_
  refine lv_iadd hx hb d_M_corners_41 ?_
  refine lv_iload_n hx hb d_M_corners_42 rfl (lv_at hl 2 rfl) ?_
  obtain ⟨u4, hc, hF⟩ := kc_bnd hF
  refine kr_call (va_runV (As := [.int (a0 + (1 : Int32)), .int (a1 + (1 : Int32)), .int a1]) (rest := [.int ((u1 + u2) + u3)]) ⟨hx, hb, hml, hown, hts⟩ (m_M_isFound l dC dI q_mo q_msa q_mbi q_mcx q_mpa q_mle q_mdi q_mrd q_msz q_mbe q_mfa q_mse q_mrf q_mlo q_mos q_mwb q_mol q_mrv q_mrl k_mbe n_mbe k_mfa n_mfa mref mw mh mst mbd mtb mps mtr misr mplc mlak mpl mpass mraw mbels mfnds (a0 + (1 : Int32)) (a1 + (1 : Int32)) a1 _ hc) (cwV 3 hts (kgV kw_4_62 kw_4_64 kp_33 kw_1_8 kw_4_65) rfl rfl rfl (by decide +kernel) ⟨Nat.le_of_ble_eq_true rfl, Nat.le_of_ble_eq_true rfl⟩) ⟨kRe_blind, va_recv hK hP (ci := 5) (q0 := 0) rfl rfl, kRe_of (hP.sub [0, 1, 2] rfl) (hK.sub [0, 1] rfl) hN⟩ rfl rfl hl.1 rfl (lv_room (Nat.le_of_ble_eq_true rfl)) d_M_corners_43 ⟨Nat.le_of_ble_eq_true rfl, Nat.le_of_ble_eq_true rfl⟩) ?_
  refine lv_iadd hx hb d_M_corners_46 ?_
  obtain rfl := Option.some.inj hF
  exact kr_iret hx hb hr hlocks hQ d_M_corners_47
abbrev rm_M_contextOf : Room := { frames := 4, cells := 0, slots := 0, locals := 92 }
set_option maxHeartbeats 4000000 in
set_option maxRecDepth 100000 in
theorem m_M_contextOf (l : Launch) (dC : Nat → ClassId) (dI : Nat → Nat → Nat) (q_mo q_msa q_mbi q_mcx q_mpa q_mle q_mdi q_mrd q_msz q_mbe q_mfa q_mse q_mrf q_mlo q_mos q_mwb q_mol q_mrv q_mrl : Nat) (k_mbe : ClassId) (n_mbe : Nat) (k_mfa : ClassId) (n_mfa : Nat) (mref : Int32) (mw : Int32) (mh : Int32) (mst : Int32) (mbd : Int32) (mtb : Int32) (mps : Int32) (mtr : Int32) (misr : Int32) (mplc : Int32) (mlak : Int32) (mpl : Int32) (mpass : Int32) (mraw : Int32) (mbels : (Nat → Int32)) (mfnds : (Nat → Int32)) (a0 : Int32) (a1 : Int32) (u : Int32) (hF : f_M_contextOf mw mh mst mbd mbels mfnds n_mbe n_mfa a0 a1 = some u) : Met l y_M_contextOf (kws y_M_contextOf c_M_contextOf 8 (some .int)) rm_M_contextOf (kRe (dC, dI) [.ref q_mo, .int a0, .int a1] [(q_mo, .inr (5, [.int mref, .int mw, .int mh, .int mst, .int mbd, .ref q_msa, .int mtb, .ref q_mbi, .ref q_mcx, .ref q_mpa, .int mps, .ref q_mle, .ref q_mdi, .int mtr, .ref q_mrd, .int misr, .int mplc, .int mlak, .int mpl, .int mpass, .int mraw, .ref q_msz, .ref q_mbe, .ref q_mfa, .ref q_mse, .ref q_mrf, .ref q_mlo, .ref q_mos, .ref q_mwb, .ref q_mol, .ref q_mrv, .ref q_mrl])), (q_mbe, .inl (k_mbe, n_mbe, .inl mbels)), (q_mfa, .inl (k_mfa, n_mfa, .inl mfnds))] [(k_mbe, .boolean), (k_mfa, .int)]) (k2_QcV (.int u)) 0 0 (fun _ => False) := by
  unfold f_M_contextOf at hF
  refine kR_of (cc := c_M_contextOf) (maxL := 8) (ret := (some .int)) (by decide) (Nat.le_of_ble_eq_true rfl) ?_
  intro p e s m args below meth c Q hQ hfx hP hK hN ls hl
  obtain ⟨hx, hb, hr, hml, hown, hts, hlocks⟩ := hfx
  have hown : s.vm.findClass R_M = some m.cls := hown
  have hl : lv_has ls 8 [(0, .ref q_mo), (1, .int a0), (2, .int a1)] := hl
  refine lv_aload_n hx hb d_M_contextOf_0 rfl (lv_at hl 0 rfl) ?_
  refine lv_iload_n hx hb d_M_contextOf_1 rfl (lv_at hl 1 rfl) ?_
  refine lv_iconst (v := 1) hx hb d_M_contextOf_2 (by decide) ?_
  refine lv_isub hx hb d_M_contextOf_3 ?_
  refine lv_iload_n hx hb d_M_contextOf_4 rfl (lv_at hl 2 rfl) ?_
  refine lv_iload_n hx hb d_M_contextOf_5 rfl (lv_at hl 2 rfl) ?_
  obtain ⟨u1, hc, hF⟩ := kc_bnd hF
  refine kr_call (va_runV (As := [.int (a0 - (1 : Int32)), .int a1, .int a1]) (rest := []) ⟨hx, hb, hml, hown, hts⟩ (m_M_isFound l dC dI q_mo q_msa q_mbi q_mcx q_mpa q_mle q_mdi q_mrd q_msz q_mbe q_mfa q_mse q_mrf q_mlo q_mos q_mwb q_mol q_mrv q_mrl k_mbe n_mbe k_mfa n_mfa mref mw mh mst mbd mtb mps mtr misr mplc mlak mpl mpass mraw mbels mfnds (a0 - (1 : Int32)) a1 a1 _ hc) (cwV 3 hts (kgV kw_4_62 kw_4_64 kp_33 kw_1_8 kw_4_65) rfl rfl rfl (by decide +kernel) ⟨Nat.le_of_ble_eq_true rfl, Nat.le_of_ble_eq_true rfl⟩) ⟨kRe_blind, va_recv hK hP (ci := 5) (q0 := 0) rfl rfl, kRe_of (hP.sub [0, 1, 2] rfl) (hK.sub [0, 1] rfl) hN⟩ rfl rfl hl.1 rfl (lv_room (Nat.le_of_ble_eq_true rfl)) d_M_contextOf_6 ⟨Nat.le_of_ble_eq_true rfl, Nat.le_of_ble_eq_true rfl⟩) ?_
  refine lv_aload_n hx hb d_M_contextOf_9 rfl (lv_at hl 0 rfl) ?_
  refine lv_iload_n hx hb d_M_contextOf_10 rfl (lv_at hl 1 rfl) ?_
  refine lv_iconst (v := 1) hx hb d_M_contextOf_11 (by decide) ?_
  refine lv_iadd hx hb d_M_contextOf_12 ?_
  refine lv_iload_n hx hb d_M_contextOf_13 rfl (lv_at hl 2 rfl) ?_
  refine lv_iload_n hx hb d_M_contextOf_14 rfl (lv_at hl 2 rfl) ?_
  obtain ⟨u2, hc, hF⟩ := kc_bnd hF
  refine kr_call (va_runV (As := [.int (a0 + (1 : Int32)), .int a1, .int a1]) (rest := [.int u1]) ⟨hx, hb, hml, hown, hts⟩ (m_M_isFound l dC dI q_mo q_msa q_mbi q_mcx q_mpa q_mle q_mdi q_mrd q_msz q_mbe q_mfa q_mse q_mrf q_mlo q_mos q_mwb q_mol q_mrv q_mrl k_mbe n_mbe k_mfa n_mfa mref mw mh mst mbd mtb mps mtr misr mplc mlak mpl mpass mraw mbels mfnds (a0 + (1 : Int32)) a1 a1 _ hc) (cwV 3 hts (kgV kw_4_62 kw_4_64 kp_33 kw_1_8 kw_4_65) rfl rfl rfl (by decide +kernel) ⟨Nat.le_of_ble_eq_true rfl, Nat.le_of_ble_eq_true rfl⟩) ⟨kRe_blind, va_recv hK hP (ci := 5) (q0 := 0) rfl rfl, kRe_of (hP.sub [0, 1, 2] rfl) (hK.sub [0, 1] rfl) hN⟩ rfl rfl hl.1 rfl (lv_room (Nat.le_of_ble_eq_true rfl)) d_M_contextOf_15 ⟨Nat.le_of_ble_eq_true rfl, Nat.le_of_ble_eq_true rfl⟩) ?_
  refine lv_iadd hx hb d_M_contextOf_18 ?_
  refine lv_istore_n (lv' := [(3, .int (u1 + u2)), (0, .ref q_mo), (1, .int a0), (2, .int a1)]) hx hb d_M_contextOf_19 rfl hl (by decide) rfl (fun ls hl => ?_)
  refine lv_aload_n hx hb d_M_contextOf_20 rfl (lv_at hl 1 rfl) ?_
  refine lv_iload_n hx hb d_M_contextOf_21 rfl (lv_at hl 2 rfl) ?_
  refine lv_iload_n hx hb d_M_contextOf_22 rfl (lv_at hl 3 rfl) ?_
  refine lv_iconst (v := 1) hx hb d_M_contextOf_23 (by decide) ?_
  refine lv_isub hx hb d_M_contextOf_24 ?_
  refine lv_iload_n hx hb d_M_contextOf_25 rfl (lv_at hl 3 rfl) ?_
  obtain ⟨u3, hc, hF⟩ := kc_bnd hF
  refine kr_call (va_runV (As := [.int a0, .int (a1 - (1 : Int32)), .int a1]) (rest := []) ⟨hx, hb, hml, hown, hts⟩ (m_M_isFound l dC dI q_mo q_msa q_mbi q_mcx q_mpa q_mle q_mdi q_mrd q_msz q_mbe q_mfa q_mse q_mrf q_mlo q_mos q_mwb q_mol q_mrv q_mrl k_mbe n_mbe k_mfa n_mfa mref mw mh mst mbd mtb mps mtr misr mplc mlak mpl mpass mraw mbels mfnds a0 (a1 - (1 : Int32)) a1 _ hc) (cwV 3 hts (kgV kw_4_62 kw_4_64 kp_33 kw_1_8 kw_4_65) rfl rfl rfl (by decide +kernel) ⟨Nat.le_of_ble_eq_true rfl, Nat.le_of_ble_eq_true rfl⟩) ⟨kRe_blind, va_recv hK hP (ci := 5) (q0 := 0) rfl rfl, kRe_of (hP.sub [0, 1, 2] rfl) (hK.sub [0, 1] rfl) hN⟩ rfl rfl hl.1 rfl (lv_room (Nat.le_of_ble_eq_true rfl)) d_M_contextOf_26 ⟨Nat.le_of_ble_eq_true rfl, Nat.le_of_ble_eq_true rfl⟩) ?_
  refine lv_aload_n hx hb d_M_contextOf_29 rfl (lv_at hl 1 rfl) ?_
  refine lv_iload_n hx hb d_M_contextOf_30 rfl (lv_at hl 2 rfl) ?_
  refine lv_iload_n hx hb d_M_contextOf_31 rfl (lv_at hl 3 rfl) ?_
  refine lv_iconst (v := 1) hx hb d_M_contextOf_32 (by decide) ?_
  refine lv_iadd hx hb d_M_contextOf_33 ?_
  refine lv_iload_n hx hb d_M_contextOf_34 rfl (lv_at hl 3 rfl) ?_
  obtain ⟨u4, hc, hF⟩ := kc_bnd hF
  refine kr_call (va_runV (As := [.int a0, .int (a1 + (1 : Int32)), .int a1]) (rest := [.int u3]) ⟨hx, hb, hml, hown, hts⟩ (m_M_isFound l dC dI q_mo q_msa q_mbi q_mcx q_mpa q_mle q_mdi q_mrd q_msz q_mbe q_mfa q_mse q_mrf q_mlo q_mos q_mwb q_mol q_mrv q_mrl k_mbe n_mbe k_mfa n_mfa mref mw mh mst mbd mtb mps mtr misr mplc mlak mpl mpass mraw mbels mfnds a0 (a1 + (1 : Int32)) a1 _ hc) (cwV 3 hts (kgV kw_4_62 kw_4_64 kp_33 kw_1_8 kw_4_65) rfl rfl rfl (by decide +kernel) ⟨Nat.le_of_ble_eq_true rfl, Nat.le_of_ble_eq_true rfl⟩) ⟨kRe_blind, va_recv hK hP (ci := 5) (q0 := 0) rfl rfl, kRe_of (hP.sub [0, 1, 2] rfl) (hK.sub [0, 1] rfl) hN⟩ rfl rfl hl.1 rfl (lv_room (Nat.le_of_ble_eq_true rfl)) d_M_contextOf_35 ⟨Nat.le_of_ble_eq_true rfl, Nat.le_of_ble_eq_true rfl⟩) ?_
  refine lv_iadd hx hb d_M_contextOf_38 ?_
  refine lv_istore (lv' := [(4, .int (u3 + u4)), (3, .int (u1 + u2)), (0, .ref q_mo), (1, .int a0), (2, .int a1)]) hx hb d_M_contextOf_39 hl (by decide) rfl (fun ls hl => ?_)
  refine lv_aload_n hx hb d_M_contextOf_41 rfl (lv_at hl 2 rfl) ?_
  refine lv_iload_n hx hb d_M_contextOf_42 rfl (lv_at hl 3 rfl) ?_
  refine lv_iload_n hx hb d_M_contextOf_43 rfl (lv_at hl 4 rfl) ?_
  obtain ⟨u5, hc, hF⟩ := kc_bnd hF
  refine kr_call (va_runV (As := [.int a0, .int a1]) (rest := []) ⟨hx, hb, hml, hown, hts⟩ (m_M_corners l dC dI q_mo q_msa q_mbi q_mcx q_mpa q_mle q_mdi q_mrd q_msz q_mbe q_mfa q_mse q_mrf q_mlo q_mos q_mwb q_mol q_mrv q_mrl k_mbe n_mbe k_mfa n_mfa mref mw mh mst mbd mtb mps mtr misr mplc mlak mpl mpass mraw mbels mfnds a0 a1 _ hc) (cwV 2 hts (kgV kw_4_70 kw_4_72 kp_35 kw_1_8 kw_4_73) rfl rfl rfl (by decide +kernel) ⟨Nat.le_of_ble_eq_true rfl, Nat.le_of_ble_eq_true rfl⟩) ⟨kRe_blind, va_recv hK hP (ci := 5) (q0 := 0) rfl rfl, kRe_of (hP.sub [0, 1, 2] rfl) (hK.sub [0, 1] rfl) hN⟩ rfl rfl hl.1 rfl (lv_room (Nat.le_of_ble_eq_true rfl)) d_M_contextOf_44 ⟨Nat.le_of_ble_eq_true rfl, Nat.le_of_ble_eq_true rfl⟩) ?_
  refine lv_istore (lv' := [(5, .int u5), (4, .int (u3 + u4)), (3, .int (u1 + u2)), (0, .ref q_mo), (1, .int a0), (2, .int a1)]) hx hb d_M_contextOf_47 hl (by decide) rfl (fun ls hl => ?_)
  refine lv_aload_n hx hb d_M_contextOf_49 rfl (lv_at hl 3 rfl) ?_
  refine va_get (D := (dC, dI)) (ci := 5) (v := .int mbd) (C := R_M) (T := T_M) (N := 32) hx hb hts ki_M hown hK hP 0 rfl rfl 4 (by decide) (hts _ kw_3_137) (fun _ h9 => h9) rfl d_M_contextOf_50 ?_
  refine lv_iconst (v := 2) hx hb d_M_contextOf_53 (by decide) ?_
  refine lv_icmp_ne (tgt := 131) hx hb d_M_contextOf_54 (by decide) (fun c6 => ?_) (fun c6 => ?_)
  · have hF := kc_neg c6 hF
    refine lv_aload_n hx hb d_M_contextOf_131 rfl (lv_at hl 3 rfl) ?_
    refine va_get (D := (dC, dI)) (ci := 5) (v := .int mbd) (C := R_M) (T := T_M) (N := 32) hx hb hts ki_M hown hK hP 0 rfl rfl 4 (by decide) (hts _ kw_3_137) (fun _ h9 => h9) rfl d_M_contextOf_132 ?_
    obtain ⟨u8, hcu8, hF⟩ := kc_bnd hF
    have hJu8 : ∀ (ls : Array Slot), lv_has ls 8 [(5, .int u5), (4, .int (u3 + u4)), (3, .int (u1 + u2)), (0, .ref q_mo), (1, .int a0), (2, .int a1)] → W p l e rm_M_contextOf s m args below meth c s.heap [] 0 0 Q (F0 m 144 ls [.int u8]) := by
      intro ls hl
      refine lv_istore (lv' := [(6, .int u8), (5, .int u5), (4, .int (u3 + u4)), (3, .int (u1 + u2)), (0, .ref q_mo), (1, .int a0), (2, .int a1)]) hx hb d_M_contextOf_144 hl (by decide) rfl (fun ls hl => ?_)
      refine lv_aload_n hx hb d_M_contextOf_146 rfl (lv_at hl 4 rfl) ?_
      refine va_get (D := (dC, dI)) (ci := 5) (v := .int mbd) (C := R_M) (T := T_M) (N := 32) hx hb hts ki_M hown hK hP 0 rfl rfl 4 (by decide) (hts _ kw_3_137) (fun _ h9 => h9) rfl d_M_contextOf_147 ?_
      obtain ⟨u10, hcu10, hF⟩ := kc_bnd hF
      have hJu10 : ∀ (ls : Array Slot), lv_has ls 8 [(6, .int u8), (5, .int u5), (4, .int (u3 + u4)), (3, .int (u1 + u2)), (0, .ref q_mo), (1, .int a0), (2, .int a1)] → W p l e rm_M_contextOf s m args below meth c s.heap [] 0 0 Q (F0 m 159 ls [.int u10]) := by
        intro ls hl
        refine lv_istore (lv' := [(7, .int u10), (6, .int u8), (5, .int u5), (4, .int (u3 + u4)), (3, .int (u1 + u2)), (0, .ref q_mo), (1, .int a0), (2, .int a1)]) hx hb d_M_contextOf_159 hl (by decide) rfl (fun ls hl => ?_)
        refine lv_iload hx hb d_M_contextOf_161 (lv_at hl 1 rfl) ?_
        refine lv_if_le (tgt := 199) hx hb d_M_contextOf_163 (by decide) (fun c11 => ?_) (fun c11 => ?_)
        · have hF := kc_pos c11 hF
          refine lv_iload hx hb d_M_contextOf_199 (lv_at hl 0 rfl) ?_
          refine lv_iconst (v := 2) hx hb d_M_contextOf_201 (by decide) ?_
          refine lv_icmp_ne (tgt := 209) hx hb d_M_contextOf_202 (by decide) (fun c12 => ?_) (fun c12 => ?_)
          · have hF := kc_neg c12 hF
            refine lv_iload hx hb d_M_contextOf_209 (lv_at hl 0 rfl) ?_
            refine lv_iconst (v := 1) hx hb d_M_contextOf_211 (by decide) ?_
            refine lv_icmp_ne (tgt := 219) hx hb d_M_contextOf_212 (by decide) (fun c13 => ?_) (fun c13 => ?_)
            · have hF := kc_neg c13 hF
              refine lv_iload hx hb d_M_contextOf_219 (lv_at hl 2 rfl) ?_
              refine lv_iconst (v := 1) hx hb d_M_contextOf_221 (by decide) ?_
              refine lv_icmp_le (tgt := 229) hx hb d_M_contextOf_222 (by decide) (fun c14 => ?_) (fun c14 => ?_)
              · have hF := kc_pos c14 hF
                refine lv_iload hx hb d_M_contextOf_229 (lv_at hl 2 rfl) ?_
                obtain rfl := Option.some.inj hF
                exact kr_iret hx hb hr hlocks hQ d_M_contextOf_231
              have hF := kc_neg c14 hF
              refine lv_iconst (v := 2) hx hb d_M_contextOf_225 (by decide) ?_
              refine lv_goto (tgt := 231) hx hb d_M_contextOf_226 (by decide) ?_
              obtain rfl := Option.some.inj hF
              exact kr_iret hx hb hr hlocks hQ d_M_contextOf_231
            have hF := kc_pos c13 hF
            refine lv_iconst (v := 3) hx hb d_M_contextOf_215 (by decide) ?_
            refine lv_goto (tgt := 231) hx hb d_M_contextOf_216 (by decide) ?_
            obtain rfl := Option.some.inj hF
            exact kr_iret hx hb hr hlocks hQ d_M_contextOf_231
          have hF := kc_pos c12 hF
          refine lv_iconst (v := 4) hx hb d_M_contextOf_205 (by decide) ?_
          refine lv_goto (tgt := 231) hx hb d_M_contextOf_206 (by decide) ?_
          obtain rfl := Option.some.inj hF
          exact kr_iret hx hb hr hlocks hQ d_M_contextOf_231
        have hF := kc_neg c11 hF
        refine lv_iload hx hb d_M_contextOf_166 (lv_at hl 1 rfl) ?_
        refine lv_iconst (v := 2) hx hb d_M_contextOf_168 (by decide) ?_
        refine lv_icmp_ne (tgt := 177) hx hb d_M_contextOf_169 (by decide) (fun c15 => ?_) (fun c15 => ?_)
        · have hF := kc_neg c15 hF
          refine lv_iload hx hb d_M_contextOf_177 (lv_at hl 0 rfl) ?_
          refine lv_if_le (tgt := 187) hx hb d_M_contextOf_179 (by decide) (fun c16 => ?_) (fun c16 => ?_)
          · have hF := kc_pos c16 hF
            refine lv_iload hx hb d_M_contextOf_187 (lv_at hl 2 rfl) ?_
            refine lv_if_le (tgt := 197) hx hb d_M_contextOf_189 (by decide) (fun c17 => ?_) (fun c17 => ?_)
            · have hF := kc_pos c17 hF
              refine lv_iconst (v := 5) hx hb d_M_contextOf_197 (by decide) ?_
              obtain rfl := Option.some.inj hF
              exact kr_iret hx hb hr hlocks hQ d_M_contextOf_198
            have hF := kc_neg c17 hF
            refine lv_bipush (v := 6) hx hb d_M_contextOf_192 (by decide) ?_
            refine lv_goto (tgt := 198) hx hb d_M_contextOf_194 (by decide) ?_
            obtain rfl := Option.some.inj hF
            exact kr_iret hx hb hr hlocks hQ d_M_contextOf_198
          have hF := kc_neg c16 hF
          refine lv_bipush (v := 7) hx hb d_M_contextOf_182 (by decide) ?_
          refine lv_goto (tgt := 198) hx hb d_M_contextOf_184 (by decide) ?_
          obtain rfl := Option.some.inj hF
          exact kr_iret hx hb hr hlocks hQ d_M_contextOf_198
        have hF := kc_pos c15 hF
        refine lv_bipush (v := 8) hx hb d_M_contextOf_172 (by decide) ?_
        refine lv_goto (tgt := 198) hx hb d_M_contextOf_174 (by decide) ?_
        obtain rfl := Option.some.inj hF
        exact kr_iret hx hb hr hlocks hQ d_M_contextOf_198
      clear hF; have hF := hcu10; clear hcu10
      refine lv_if_ne (tgt := 158) hx hb d_M_contextOf_150 (by decide) (fun c9 => ?_) (fun c9 => ?_)
      · have hF := kc_neg c9 hF
        refine lv_iload_n hx hb d_M_contextOf_158 rfl (lv_at hl 3 rfl) ?_
        obtain rfl := Option.some.inj hF
        exact hJu10 _ (lv_sub hl [0, 1, 2, 3, 4, 5, 6] rfl)
      have hF := kc_pos c9 hF
      refine lv_iload hx hb d_M_contextOf_153 (lv_at hl 2 rfl) ?_
      refine lv_goto (tgt := 159) hx hb d_M_contextOf_155 (by decide) ?_
      obtain rfl := Option.some.inj hF
      exact hJu10 _ (lv_sub hl [0, 1, 2, 3, 4, 5, 6] rfl)
    clear hF; have hF := hcu8; clear hcu8
    refine lv_if_ne (tgt := 142) hx hb d_M_contextOf_135 (by decide) (fun c7 => ?_) (fun c7 => ?_)
    · have hF := kc_neg c7 hF
      refine lv_iload hx hb d_M_contextOf_142 (lv_at hl 1 rfl) ?_
      obtain rfl := Option.some.inj hF
      exact hJu8 _ (lv_sub hl [0, 1, 2, 3, 4, 5] rfl)
    have hF := kc_pos c7 hF
    refine lv_iload_n hx hb d_M_contextOf_138 rfl (lv_at hl 2 rfl) ?_
    refine lv_goto (tgt := 144) hx hb d_M_contextOf_139 (by decide) ?_
    obtain rfl := Option.some.inj hF
    exact hJu8 _ (lv_sub hl [0, 1, 2, 3, 4, 5] rfl)
  have hF := kc_pos c6 hF
  refine lv_iload_n hx hb d_M_contextOf_57 rfl (lv_at hl 2 rfl) ?_
  refine lv_iload hx hb d_M_contextOf_58 (lv_at hl 1 rfl) ?_
  refine lv_iadd hx hb d_M_contextOf_60 ?_
  refine lv_istore (lv' := [(6, .int ((u1 + u2) + (u3 + u4))), (5, .int u5), (4, .int (u3 + u4)), (3, .int (u1 + u2)), (0, .ref q_mo), (1, .int a0), (2, .int a1)]) hx hb d_M_contextOf_61 hl (by decide) rfl (fun ls hl => ?_)
  refine lv_iload hx hb d_M_contextOf_63 (lv_at hl 1 rfl) ?_
  refine lv_iconst (v := 2) hx hb d_M_contextOf_65 (by decide) ?_
  refine lv_icmp_le (tgt := 74) hx hb d_M_contextOf_66 (by decide) (fun c18 => ?_) (fun c18 => ?_)
  · have hF := kc_pos c18 hF
    refine lv_iload hx hb d_M_contextOf_74 (lv_at hl 1 rfl) ?_
    refine lv_iconst (v := 2) hx hb d_M_contextOf_76 (by decide) ?_
    refine lv_icmp_ne (tgt := 95) hx hb d_M_contextOf_77 (by decide) (fun c19 => ?_) (fun c19 => ?_)
    · have hF := kc_neg c19 hF
      refine lv_iload hx hb d_M_contextOf_95 (lv_at hl 1 rfl) ?_
      refine lv_iconst (v := 1) hx hb d_M_contextOf_97 (by decide) ?_
      refine lv_icmp_ne (tgt := 118) hx hb d_M_contextOf_98 (by decide) (fun c20 => ?_) (fun c20 => ?_)
      · have hF := kc_neg c20 hF
        refine lv_iload hx hb d_M_contextOf_118 (lv_at hl 0 rfl) ?_
        refine lv_iconst (v := 1) hx hb d_M_contextOf_120 (by decide) ?_
        refine lv_icmp_le (tgt := 128) hx hb d_M_contextOf_121 (by decide) (fun c21 => ?_) (fun c21 => ?_)
        · have hF := kc_pos c21 hF
          refine lv_iload hx hb d_M_contextOf_128 (lv_at hl 0 rfl) ?_
          obtain rfl := Option.some.inj hF
          exact kr_iret hx hb hr hlocks hQ d_M_contextOf_130
        have hF := kc_neg c21 hF
        refine lv_iconst (v := 2) hx hb d_M_contextOf_124 (by decide) ?_
        refine lv_goto (tgt := 130) hx hb d_M_contextOf_125 (by decide) ?_
        obtain rfl := Option.some.inj hF
        exact kr_iret hx hb hr hlocks hQ d_M_contextOf_130
      have hF := kc_pos c20 hF
      refine lv_iload hx hb d_M_contextOf_101 (lv_at hl 0 rfl) ?_
      refine lv_iconst (v := 1) hx hb d_M_contextOf_103 (by decide) ?_
      refine lv_icmp_le (tgt := 111) hx hb d_M_contextOf_104 (by decide) (fun c22 => ?_) (fun c22 => ?_)
      · have hF := kc_pos c22 hF
        refine lv_iconst (v := 3) hx hb d_M_contextOf_111 (by decide) ?_
        refine lv_iload hx hb d_M_contextOf_112 (lv_at hl 0 rfl) ?_
        refine lv_iadd hx hb d_M_contextOf_114 ?_
        refine lv_goto (tgt := 130) hx hb d_M_contextOf_115 (by decide) ?_
        obtain rfl := Option.some.inj hF
        exact kr_iret hx hb hr hlocks hQ d_M_contextOf_130
      have hF := kc_neg c22 hF
      refine lv_iconst (v := 5) hx hb d_M_contextOf_107 (by decide) ?_
      refine lv_goto (tgt := 130) hx hb d_M_contextOf_108 (by decide) ?_
      obtain rfl := Option.some.inj hF
      exact kr_iret hx hb hr hlocks hQ d_M_contextOf_130
    have hF := kc_pos c19 hF
    refine lv_iload hx hb d_M_contextOf_80 (lv_at hl 0 rfl) ?_
    refine lv_if_le (tgt := 90) hx hb d_M_contextOf_82 (by decide) (fun c23 => ?_) (fun c23 => ?_)
    · have hF := kc_pos c23 hF
      refine lv_bipush (v := 6) hx hb d_M_contextOf_90 (by decide) ?_
      refine lv_goto (tgt := 130) hx hb d_M_contextOf_92 (by decide) ?_
      obtain rfl := Option.some.inj hF
      exact kr_iret hx hb hr hlocks hQ d_M_contextOf_130
    have hF := kc_neg c23 hF
    refine lv_bipush (v := 7) hx hb d_M_contextOf_85 (by decide) ?_
    refine lv_goto (tgt := 130) hx hb d_M_contextOf_87 (by decide) ?_
    obtain rfl := Option.some.inj hF
    exact kr_iret hx hb hr hlocks hQ d_M_contextOf_130
  have hF := kc_neg c18 hF
  refine lv_bipush (v := 8) hx hb d_M_contextOf_69 (by decide) ?_
  refine lv_goto (tgt := 130) hx hb d_M_contextOf_71 (by decide) ?_
  obtain rfl := Option.some.inj hF
  exact kr_iret hx hb hr hlocks hQ d_M_contextOf_130

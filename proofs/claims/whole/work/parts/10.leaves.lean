def f_ST_passesOf (a0 : Int32) : Int32 :=
  (if a0 = 0 then (0 : Int32) else (((3 : Int32) * a0) - (2 : Int32)))
def f_ST_kindOf (a0 : Int32) : Int32 :=
  (krem (a0 + (2 : Int32)) (3 : Int32))
def f_ST_within (a0 : Int32) (a1 : Int32) (a2 : Int32) : Int32 :=
  (kmax a1 (kmin a2 a0))
def f_FI_fillWith_L2 (n_fr : Nat) (a1 : Int32) : Nat → Int32 → (Nat → Int32) → Option (Int32 × (Nat → Int32))
  | 0, _, _ => none
  | N + 1, v2_2, frw_2 => (if (nI n_fr) ≤ v2_2 then some (v2_2, frw_2) else if (v2_2 < 0 ∨ n_fr ≤ v2_2.toNatClampNeg) then none else f_FI_fillWith_L2 n_fr a1 N (v2_2 + 1) (upd frw_2 v2_2.toNatClampNeg a1))
def f_FI_fillWith (frw : (Nat → Int32)) (n_fr : Nat) (a1 : Int32) : Option ((Nat → Int32)) :=
  ((f_FI_fillWith_L2 n_fr a1 kBig (0 : Int32) frw).bind fun u1 => some (u1.2))
def f_ST_ofSides (a0 : Int32) (a1 : Int32) (a2 : Int32) : Int32 :=
  (if a0 = (2 : Int32) then (8 : Int32) else (if a0 = (1 : Int32) then (if a1 ≤ 0 then (if a2 ≤ 0 then (5 : Int32) else (6 : Int32)) else (7 : Int32)) else (if a1 ≤ 0 then (if a2 ≤ (1 : Int32) then a2 else (2 : Int32)) else ((2 : Int32) + a1))))
def f_ST_ofCorners (a0 : Int32) (a1 : Int32) : Int32 :=
  (if a1 ≤ (2 : Int32) then (if a1 = (2 : Int32) then (if a0 ≤ 0 then (6 : Int32) else (7 : Int32)) else (if a0 ≤ (1 : Int32) then (if a1 = (1 : Int32) then ((3 : Int32) + a0) else a0) else (if a1 = (1 : Int32) then ((3 : Int32) + (2 : Int32)) else (2 : Int32)))) else (8 : Int32))
def f_ST_ofSize (a0 : Int32) (a1 : Int32) (a2 : Int32) (a3 : Int32) : Int32 :=
  (if a0 = 0 then (f_ST_ofSides a1 a2 a3) else (if a0 = (1 : Int32) then (f_ST_ofSides a2 a1 a3) else (f_ST_ofCorners (a1 + a2) a3)))
def f_ST_turnsSign (a0 : Int32) (a1 : Int32) : Int32 :=
  (if a0 < 0 then (1 : Int32) else (if a0 = 0 then (if 0 ≤ a1 then (0 : Int32) else (1 : Int32)) else (0 : Int32)))
def f_ST_ofSign (a0 : Int32) (a1 : Int32) : Int32 :=
  (if (f_ST_turnsSign a0 a1) = 0 then (if a0 = 0 then ((9 : Int32) + a1) else ((12 : Int32) + a1)) else (if a0 = 0 then ((9 : Int32) + (-a1)) else ((12 : Int32) + (-a1))))
def f_K_holds (w : Int32) (h : Int32) (a0 : Int32) (a1 : Int32) : Int32 :=
  (if a0 < 0 then (0 : Int32) else (if w ≤ a0 then (0 : Int32) else (if a1 < 0 then (0 : Int32) else (if h ≤ a1 then (0 : Int32) else (1 : Int32)))))
def f_K_cellOf (str : Int32) (a0 : Int32) (a1 : Int32) : Int32 :=
  ((((a1 + (1 : Int32)) * str) + a0) + (1 : Int32))
def f_K_hasStyle (sty : Int32) (a0 : Int32) : Int32 :=
  (if (sty &&& a0) = 0 then (0 : Int32) else (1 : Int32))
def f_K_isBlindBelow (sty : Int32) (a0 : Int32) : Int32 :=
  (if (f_K_hasStyle sty (8 : Int32)) = 0 then (0 : Int32) else (if (krem a0 (4 : Int32)) = (3 : Int32) then (1 : Int32) else (0 : Int32)))
theorem d_B_passesOf_0 : decode c_B_passesOf 0 = .ok (.iload_n 0, 1) := by decide +kernel
theorem d_B_passesOf_1 : decode c_B_passesOf 1 = .ok (.ifCond .ne 7, 3) := by decide +kernel
theorem d_B_passesOf_4 : decode c_B_passesOf 4 = .ok (.iconst 0, 1) := by decide +kernel
theorem d_B_passesOf_5 : decode c_B_passesOf 5 = .ok (.goto 8, 3) := by decide +kernel
theorem d_B_passesOf_8 : decode c_B_passesOf 8 = .ok (.iconst 3, 1) := by decide +kernel
theorem d_B_passesOf_9 : decode c_B_passesOf 9 = .ok (.iload_n 0, 1) := by decide +kernel
theorem d_B_passesOf_10 : decode c_B_passesOf 10 = .ok (.imul, 1) := by decide +kernel
theorem d_B_passesOf_11 : decode c_B_passesOf 11 = .ok (.iconst 2, 1) := by decide +kernel
theorem d_B_passesOf_12 : decode c_B_passesOf 12 = .ok (.isub, 1) := by decide +kernel
theorem d_B_passesOf_13 : decode c_B_passesOf 13 = .ok (.ireturn, 1) := by decide +kernel
theorem d_B_kindOf_0 : decode c_B_kindOf 0 = .ok (.iload_n 0, 1) := by decide +kernel
theorem d_B_kindOf_1 : decode c_B_kindOf 1 = .ok (.iconst 2, 1) := by decide +kernel
theorem d_B_kindOf_2 : decode c_B_kindOf 2 = .ok (.iadd, 1) := by decide +kernel
theorem d_B_kindOf_3 : decode c_B_kindOf 3 = .ok (.iconst 3, 1) := by decide +kernel
theorem d_B_kindOf_4 : decode c_B_kindOf 4 = .ok (.irem, 1) := by decide +kernel
theorem d_B_kindOf_5 : decode c_B_kindOf 5 = .ok (.ireturn, 1) := by decide +kernel
theorem d_B_within_0 : decode c_B_within 0 = .ok (.iload_n 1, 1) := by decide +kernel
theorem d_B_within_1 : decode c_B_within 1 = .ok (.iload_n 2, 1) := by decide +kernel
theorem d_B_within_2 : decode c_B_within 2 = .ok (.iload_n 0, 1) := by decide +kernel
theorem d_B_within_3 : decode c_B_within 3 = .ok (.invokestatic 160, 3) := by decide +kernel
theorem d_B_within_6 : decode c_B_within 6 = .ok (.invokestatic 218, 3) := by decide +kernel
theorem d_B_within_9 : decode c_B_within 9 = .ok (.ireturn, 1) := by decide +kernel
theorem d_B_fillWith_0 : decode c_B_fillWith 0 = .ok (.iconst 0, 1) := by decide +kernel
theorem d_B_fillWith_1 : decode c_B_fillWith 1 = .ok (.istore_n 2, 1) := by decide +kernel
theorem d_B_fillWith_2 : decode c_B_fillWith 2 = .ok (.iload_n 2, 1) := by decide +kernel
theorem d_B_fillWith_3 : decode c_B_fillWith 3 = .ok (.aload_n 0, 1) := by decide +kernel
theorem d_B_fillWith_4 : decode c_B_fillWith 4 = .ok (.arraylength, 1) := by decide +kernel
theorem d_B_fillWith_5 : decode c_B_fillWith 5 = .ok (.if_icmp .ge 13, 3) := by decide +kernel
theorem d_B_fillWith_8 : decode c_B_fillWith 8 = .ok (.aload_n 0, 1) := by decide +kernel
theorem d_B_fillWith_9 : decode c_B_fillWith 9 = .ok (.iload_n 2, 1) := by decide +kernel
theorem d_B_fillWith_10 : decode c_B_fillWith 10 = .ok (.iload_n 1, 1) := by decide +kernel
theorem d_B_fillWith_11 : decode c_B_fillWith 11 = .ok (.iastore, 1) := by decide +kernel
theorem d_B_fillWith_12 : decode c_B_fillWith 12 = .ok (.iinc 2 1, 3) := by decide +kernel
theorem d_B_fillWith_15 : decode c_B_fillWith 15 = .ok (.goto (-13), 3) := by decide +kernel
theorem d_B_fillWith_18 : decode c_B_fillWith 18 = .ok (.return_, 1) := by decide +kernel
theorem d_C_ofSides_0 : decode c_C_ofSides 0 = .ok (.iload_n 0, 1) := by decide +kernel
theorem d_C_ofSides_1 : decode c_C_ofSides 1 = .ok (.iconst 2, 1) := by decide +kernel
theorem d_C_ofSides_2 : decode c_C_ofSides 2 = .ok (.if_icmp .ne 6, 3) := by decide +kernel
theorem d_C_ofSides_5 : decode c_C_ofSides 5 = .ok (.bipush 8, 2) := by decide +kernel
theorem d_C_ofSides_7 : decode c_C_ofSides 7 = .ok (.ireturn, 1) := by decide +kernel
theorem d_C_ofSides_8 : decode c_C_ofSides 8 = .ok (.iload_n 0, 1) := by decide +kernel
theorem d_C_ofSides_9 : decode c_C_ofSides 9 = .ok (.iconst 1, 1) := by decide +kernel
theorem d_C_ofSides_10 : decode c_C_ofSides 10 = .ok (.if_icmp .ne 23, 3) := by decide +kernel
theorem d_C_ofSides_13 : decode c_C_ofSides 13 = .ok (.iload_n 1, 1) := by decide +kernel
theorem d_C_ofSides_14 : decode c_C_ofSides 14 = .ok (.ifCond .le 8, 3) := by decide +kernel
theorem d_C_ofSides_17 : decode c_C_ofSides 17 = .ok (.bipush 7, 2) := by decide +kernel
theorem d_C_ofSides_19 : decode c_C_ofSides 19 = .ok (.goto 13, 3) := by decide +kernel
theorem d_C_ofSides_22 : decode c_C_ofSides 22 = .ok (.iload_n 2, 1) := by decide +kernel
theorem d_C_ofSides_23 : decode c_C_ofSides 23 = .ok (.ifCond .le 8, 3) := by decide +kernel
theorem d_C_ofSides_26 : decode c_C_ofSides 26 = .ok (.bipush 6, 2) := by decide +kernel
theorem d_C_ofSides_28 : decode c_C_ofSides 28 = .ok (.goto 4, 3) := by decide +kernel
theorem d_C_ofSides_31 : decode c_C_ofSides 31 = .ok (.iconst 5, 1) := by decide +kernel
theorem d_C_ofSides_32 : decode c_C_ofSides 32 = .ok (.ireturn, 1) := by decide +kernel
theorem d_C_ofSides_33 : decode c_C_ofSides 33 = .ok (.iload_n 1, 1) := by decide +kernel
theorem d_C_ofSides_34 : decode c_C_ofSides 34 = .ok (.ifCond .le 9, 3) := by decide +kernel
theorem d_C_ofSides_37 : decode c_C_ofSides 37 = .ok (.iconst 2, 1) := by decide +kernel
theorem d_C_ofSides_38 : decode c_C_ofSides 38 = .ok (.iload_n 1, 1) := by decide +kernel
theorem d_C_ofSides_39 : decode c_C_ofSides 39 = .ok (.iadd, 1) := by decide +kernel
theorem d_C_ofSides_40 : decode c_C_ofSides 40 = .ok (.goto 13, 3) := by decide +kernel
theorem d_C_ofSides_43 : decode c_C_ofSides 43 = .ok (.iload_n 2, 1) := by decide +kernel
theorem d_C_ofSides_44 : decode c_C_ofSides 44 = .ok (.iconst 1, 1) := by decide +kernel
theorem d_C_ofSides_45 : decode c_C_ofSides 45 = .ok (.if_icmp .le 7, 3) := by decide +kernel
theorem d_C_ofSides_48 : decode c_C_ofSides 48 = .ok (.iconst 2, 1) := by decide +kernel
theorem d_C_ofSides_49 : decode c_C_ofSides 49 = .ok (.goto 4, 3) := by decide +kernel
theorem d_C_ofSides_52 : decode c_C_ofSides 52 = .ok (.iload_n 2, 1) := by decide +kernel
theorem d_C_ofSides_53 : decode c_C_ofSides 53 = .ok (.ireturn, 1) := by decide +kernel
theorem d_C_ofCorners_0 : decode c_C_ofCorners 0 = .ok (.iload_n 1, 1) := by decide +kernel
theorem d_C_ofCorners_1 : decode c_C_ofCorners 1 = .ok (.iconst 2, 1) := by decide +kernel
theorem d_C_ofCorners_2 : decode c_C_ofCorners 2 = .ok (.if_icmp .le 6, 3) := by decide +kernel
theorem d_C_ofCorners_5 : decode c_C_ofCorners 5 = .ok (.bipush 8, 2) := by decide +kernel
theorem d_C_ofCorners_7 : decode c_C_ofCorners 7 = .ok (.ireturn, 1) := by decide +kernel
theorem d_C_ofCorners_8 : decode c_C_ofCorners 8 = .ok (.iload_n 1, 1) := by decide +kernel
theorem d_C_ofCorners_9 : decode c_C_ofCorners 9 = .ok (.iconst 2, 1) := by decide +kernel
theorem d_C_ofCorners_10 : decode c_C_ofCorners 10 = .ok (.if_icmp .ne 15, 3) := by decide +kernel
theorem d_C_ofCorners_13 : decode c_C_ofCorners 13 = .ok (.iload_n 0, 1) := by decide +kernel
theorem d_C_ofCorners_14 : decode c_C_ofCorners 14 = .ok (.ifCond .le 8, 3) := by decide +kernel
theorem d_C_ofCorners_17 : decode c_C_ofCorners 17 = .ok (.bipush 7, 2) := by decide +kernel
theorem d_C_ofCorners_19 : decode c_C_ofCorners 19 = .ok (.goto 5, 3) := by decide +kernel
theorem d_C_ofCorners_22 : decode c_C_ofCorners 22 = .ok (.bipush 6, 2) := by decide +kernel
theorem d_C_ofCorners_24 : decode c_C_ofCorners 24 = .ok (.ireturn, 1) := by decide +kernel
theorem d_C_ofCorners_25 : decode c_C_ofCorners 25 = .ok (.iload_n 0, 1) := by decide +kernel
theorem d_C_ofCorners_26 : decode c_C_ofCorners 26 = .ok (.iconst 1, 1) := by decide +kernel
theorem d_C_ofCorners_27 : decode c_C_ofCorners 27 = .ok (.if_icmp .le 7, 3) := by decide +kernel
theorem d_C_ofCorners_30 : decode c_C_ofCorners 30 = .ok (.iconst 2, 1) := by decide +kernel
theorem d_C_ofCorners_31 : decode c_C_ofCorners 31 = .ok (.goto 4, 3) := by decide +kernel
theorem d_C_ofCorners_34 : decode c_C_ofCorners 34 = .ok (.iload_n 0, 1) := by decide +kernel
theorem d_C_ofCorners_35 : decode c_C_ofCorners 35 = .ok (.istore_n 2, 1) := by decide +kernel
theorem d_C_ofCorners_36 : decode c_C_ofCorners 36 = .ok (.iload_n 1, 1) := by decide +kernel
theorem d_C_ofCorners_37 : decode c_C_ofCorners 37 = .ok (.iconst 1, 1) := by decide +kernel
theorem d_C_ofCorners_38 : decode c_C_ofCorners 38 = .ok (.if_icmp .ne 9, 3) := by decide +kernel
theorem d_C_ofCorners_41 : decode c_C_ofCorners 41 = .ok (.iconst 3, 1) := by decide +kernel
theorem d_C_ofCorners_42 : decode c_C_ofCorners 42 = .ok (.iload_n 2, 1) := by decide +kernel
theorem d_C_ofCorners_43 : decode c_C_ofCorners 43 = .ok (.iadd, 1) := by decide +kernel
theorem d_C_ofCorners_44 : decode c_C_ofCorners 44 = .ok (.goto 4, 3) := by decide +kernel
theorem d_C_ofCorners_47 : decode c_C_ofCorners 47 = .ok (.iload_n 2, 1) := by decide +kernel
theorem d_C_ofCorners_48 : decode c_C_ofCorners 48 = .ok (.ireturn, 1) := by decide +kernel
theorem d_C_ofSize_0 : decode c_C_ofSize 0 = .ok (.iload_n 0, 1) := by decide +kernel
theorem d_C_ofSize_1 : decode c_C_ofSize 1 = .ok (.ifCond .ne 10, 3) := by decide +kernel
theorem d_C_ofSize_4 : decode c_C_ofSize 4 = .ok (.iload_n 1, 1) := by decide +kernel
theorem d_C_ofSize_5 : decode c_C_ofSize 5 = .ok (.iload_n 2, 1) := by decide +kernel
theorem d_C_ofSize_6 : decode c_C_ofSize 6 = .ok (.iload_n 3, 1) := by decide +kernel
theorem d_C_ofSize_7 : decode c_C_ofSize 7 = .ok (.invokestatic 7, 3) := by decide +kernel
theorem d_C_ofSize_10 : decode c_C_ofSize 10 = .ok (.ireturn, 1) := by decide +kernel
theorem d_C_ofSize_11 : decode c_C_ofSize 11 = .ok (.iload_n 0, 1) := by decide +kernel
theorem d_C_ofSize_12 : decode c_C_ofSize 12 = .ok (.iconst 1, 1) := by decide +kernel
theorem d_C_ofSize_13 : decode c_C_ofSize 13 = .ok (.if_icmp .ne 12, 3) := by decide +kernel
theorem d_C_ofSize_16 : decode c_C_ofSize 16 = .ok (.iload_n 2, 1) := by decide +kernel
theorem d_C_ofSize_17 : decode c_C_ofSize 17 = .ok (.iload_n 1, 1) := by decide +kernel
theorem d_C_ofSize_18 : decode c_C_ofSize 18 = .ok (.iload_n 3, 1) := by decide +kernel
theorem d_C_ofSize_19 : decode c_C_ofSize 19 = .ok (.invokestatic 7, 3) := by decide +kernel
theorem d_C_ofSize_22 : decode c_C_ofSize 22 = .ok (.goto 10, 3) := by decide +kernel
theorem d_C_ofSize_25 : decode c_C_ofSize 25 = .ok (.iload_n 1, 1) := by decide +kernel
theorem d_C_ofSize_26 : decode c_C_ofSize 26 = .ok (.iload_n 2, 1) := by decide +kernel
theorem d_C_ofSize_27 : decode c_C_ofSize 27 = .ok (.iadd, 1) := by decide +kernel
theorem d_C_ofSize_28 : decode c_C_ofSize 28 = .ok (.iload_n 3, 1) := by decide +kernel
theorem d_C_ofSize_29 : decode c_C_ofSize 29 = .ok (.invokestatic 13, 3) := by decide +kernel
theorem d_C_ofSize_32 : decode c_C_ofSize 32 = .ok (.ireturn, 1) := by decide +kernel
theorem d_C_turnsSign_0 : decode c_C_turnsSign 0 = .ok (.iload_n 0, 1) := by decide +kernel
theorem d_C_turnsSign_1 : decode c_C_turnsSign 1 = .ok (.ifCond .lt 11, 3) := by decide +kernel
theorem d_C_turnsSign_4 : decode c_C_turnsSign 4 = .ok (.iload_n 0, 1) := by decide +kernel
theorem d_C_turnsSign_5 : decode c_C_turnsSign 5 = .ok (.ifCond .ne 11, 3) := by decide +kernel
theorem d_C_turnsSign_8 : decode c_C_turnsSign 8 = .ok (.iload_n 1, 1) := by decide +kernel
theorem d_C_turnsSign_9 : decode c_C_turnsSign 9 = .ok (.ifCond .ge 7, 3) := by decide +kernel
theorem d_C_turnsSign_12 : decode c_C_turnsSign 12 = .ok (.iconst 1, 1) := by decide +kernel
theorem d_C_turnsSign_13 : decode c_C_turnsSign 13 = .ok (.goto 4, 3) := by decide +kernel
theorem d_C_turnsSign_16 : decode c_C_turnsSign 16 = .ok (.iconst 0, 1) := by decide +kernel
theorem d_C_turnsSign_17 : decode c_C_turnsSign 17 = .ok (.ireturn, 1) := by decide +kernel
theorem d_C_ofSign_0 : decode c_C_ofSign 0 = .ok (.iload_n 0, 1) := by decide +kernel
theorem d_C_ofSign_1 : decode c_C_ofSign 1 = .ok (.iload_n 1, 1) := by decide +kernel
theorem d_C_ofSign_2 : decode c_C_ofSign 2 = .ok (.invokestatic 17, 3) := by decide +kernel
theorem d_C_ofSign_5 : decode c_C_ofSign 5 = .ok (.ifCond .eq 8, 3) := by decide +kernel
theorem d_C_ofSign_8 : decode c_C_ofSign 8 = .ok (.iload_n 1, 1) := by decide +kernel
theorem d_C_ofSign_9 : decode c_C_ofSign 9 = .ok (.ineg, 1) := by decide +kernel
theorem d_C_ofSign_10 : decode c_C_ofSign 10 = .ok (.goto 4, 3) := by decide +kernel
theorem d_C_ofSign_13 : decode c_C_ofSign 13 = .ok (.iload_n 1, 1) := by decide +kernel
theorem d_C_ofSign_14 : decode c_C_ofSign 14 = .ok (.istore_n 2, 1) := by decide +kernel
theorem d_C_ofSign_15 : decode c_C_ofSign 15 = .ok (.iload_n 0, 1) := by decide +kernel
theorem d_C_ofSign_16 : decode c_C_ofSign 16 = .ok (.ifCond .ne 8, 3) := by decide +kernel
theorem d_C_ofSign_19 : decode c_C_ofSign 19 = .ok (.bipush 9, 2) := by decide +kernel
theorem d_C_ofSign_21 : decode c_C_ofSign 21 = .ok (.goto 5, 3) := by decide +kernel
theorem d_C_ofSign_24 : decode c_C_ofSign 24 = .ok (.bipush 12, 2) := by decide +kernel
theorem d_C_ofSign_26 : decode c_C_ofSign 26 = .ok (.iload_n 2, 1) := by decide +kernel
theorem d_C_ofSign_27 : decode c_C_ofSign 27 = .ok (.iadd, 1) := by decide +kernel
theorem d_C_ofSign_28 : decode c_C_ofSign 28 = .ok (.ireturn, 1) := by decide +kernel
theorem d_K_holds_0 : decode c_K_holds 0 = .ok (.iload_n 1, 1) := by decide +kernel
theorem d_K_holds_1 : decode c_K_holds 1 = .ok (.ifCond .lt 27, 3) := by decide +kernel
theorem d_K_holds_4 : decode c_K_holds 4 = .ok (.iload_n 1, 1) := by decide +kernel
theorem d_K_holds_5 : decode c_K_holds 5 = .ok (.aload_n 0, 1) := by decide +kernel
theorem d_K_holds_6 : decode c_K_holds 6 = .ok (.getfield 9, 3) := by decide +kernel
theorem d_K_holds_9 : decode c_K_holds 9 = .ok (.if_icmp .ge 19, 3) := by decide +kernel
theorem d_K_holds_12 : decode c_K_holds 12 = .ok (.iload_n 2, 1) := by decide +kernel
theorem d_K_holds_13 : decode c_K_holds 13 = .ok (.ifCond .lt 15, 3) := by decide +kernel
theorem d_K_holds_16 : decode c_K_holds 16 = .ok (.iload_n 2, 1) := by decide +kernel
theorem d_K_holds_17 : decode c_K_holds 17 = .ok (.aload_n 0, 1) := by decide +kernel
theorem d_K_holds_18 : decode c_K_holds 18 = .ok (.getfield 15, 3) := by decide +kernel
theorem d_K_holds_21 : decode c_K_holds 21 = .ok (.if_icmp .ge 7, 3) := by decide +kernel
theorem d_K_holds_24 : decode c_K_holds 24 = .ok (.iconst 1, 1) := by decide +kernel
theorem d_K_holds_25 : decode c_K_holds 25 = .ok (.goto 4, 3) := by decide +kernel
theorem d_K_holds_28 : decode c_K_holds 28 = .ok (.iconst 0, 1) := by decide +kernel
theorem d_K_holds_29 : decode c_K_holds 29 = .ok (.ireturn, 1) := by decide +kernel
theorem d_K_cellOf_0 : decode c_K_cellOf 0 = .ok (.iload_n 2, 1) := by decide +kernel
theorem d_K_cellOf_1 : decode c_K_cellOf 1 = .ok (.iconst 1, 1) := by decide +kernel
theorem d_K_cellOf_2 : decode c_K_cellOf 2 = .ok (.iadd, 1) := by decide +kernel
theorem d_K_cellOf_3 : decode c_K_cellOf 3 = .ok (.aload_n 0, 1) := by decide +kernel
theorem d_K_cellOf_4 : decode c_K_cellOf 4 = .ok (.getfield 24, 3) := by decide +kernel
theorem d_K_cellOf_7 : decode c_K_cellOf 7 = .ok (.imul, 1) := by decide +kernel
theorem d_K_cellOf_8 : decode c_K_cellOf 8 = .ok (.iload_n 1, 1) := by decide +kernel
theorem d_K_cellOf_9 : decode c_K_cellOf 9 = .ok (.iadd, 1) := by decide +kernel
theorem d_K_cellOf_10 : decode c_K_cellOf 10 = .ok (.iconst 1, 1) := by decide +kernel
theorem d_K_cellOf_11 : decode c_K_cellOf 11 = .ok (.iadd, 1) := by decide +kernel
theorem d_K_cellOf_12 : decode c_K_cellOf 12 = .ok (.ireturn, 1) := by decide +kernel
theorem d_K_hasStyle_0 : decode c_K_hasStyle 0 = .ok (.aload_n 0, 1) := by decide +kernel
theorem d_K_hasStyle_1 : decode c_K_hasStyle 1 = .ok (.getfield 18, 3) := by decide +kernel
theorem d_K_hasStyle_4 : decode c_K_hasStyle 4 = .ok (.iload_n 1, 1) := by decide +kernel
theorem d_K_hasStyle_5 : decode c_K_hasStyle 5 = .ok (.iand, 1) := by decide +kernel
theorem d_K_hasStyle_6 : decode c_K_hasStyle 6 = .ok (.ifCond .eq 7, 3) := by decide +kernel
theorem d_K_hasStyle_9 : decode c_K_hasStyle 9 = .ok (.iconst 1, 1) := by decide +kernel
theorem d_K_hasStyle_10 : decode c_K_hasStyle 10 = .ok (.goto 4, 3) := by decide +kernel
theorem d_K_hasStyle_13 : decode c_K_hasStyle 13 = .ok (.iconst 0, 1) := by decide +kernel
theorem d_K_hasStyle_14 : decode c_K_hasStyle 14 = .ok (.ireturn, 1) := by decide +kernel
theorem d_K_isBlindBelow_0 : decode c_K_isBlindBelow 0 = .ok (.aload_n 0, 1) := by decide +kernel
theorem d_K_isBlindBelow_1 : decode c_K_isBlindBelow 1 = .ok (.bipush 8, 2) := by decide +kernel
theorem d_K_isBlindBelow_3 : decode c_K_isBlindBelow 3 = .ok (.invokevirtual 30, 3) := by decide +kernel
theorem d_K_isBlindBelow_6 : decode c_K_isBlindBelow 6 = .ok (.ifCond .eq 14, 3) := by decide +kernel
theorem d_K_isBlindBelow_9 : decode c_K_isBlindBelow 9 = .ok (.iload_n 1, 1) := by decide +kernel
theorem d_K_isBlindBelow_10 : decode c_K_isBlindBelow 10 = .ok (.iconst 4, 1) := by decide +kernel
theorem d_K_isBlindBelow_11 : decode c_K_isBlindBelow 11 = .ok (.irem, 1) := by decide +kernel
theorem d_K_isBlindBelow_12 : decode c_K_isBlindBelow 12 = .ok (.iconst 3, 1) := by decide +kernel
theorem d_K_isBlindBelow_13 : decode c_K_isBlindBelow 13 = .ok (.if_icmp .ne 7, 3) := by decide +kernel
theorem d_K_isBlindBelow_16 : decode c_K_isBlindBelow 16 = .ok (.iconst 1, 1) := by decide +kernel
theorem d_K_isBlindBelow_17 : decode c_K_isBlindBelow 17 = .ok (.goto 4, 3) := by decide +kernel
theorem d_K_isBlindBelow_20 : decode c_K_isBlindBelow 20 = .ok (.iconst 0, 1) := by decide +kernel
theorem d_K_isBlindBelow_21 : decode c_K_isBlindBelow 21 = .ok (.ireturn, 1) := by decide +kernel
abbrev rm_ST_passesOf : Room := { frames := 0, cells := 0, slots := 0, locals := 0 }
set_option maxHeartbeats 4000000 in
set_option maxRecDepth 100000 in
theorem m_ST_passesOf (l : Launch) (dC : Nat → ClassId) (dI : Nat → Nat → Nat) (a0 : Int32) (u : Int32) (hF : f_ST_passesOf a0 = u) : Met l y_B_passesOf (kws y_B_passesOf c_B_passesOf 1 (some .int)) rm_ST_passesOf (kRe (dC, dI) [.int a0] [] []) (k2_QcV (.int u)) 0 0 (fun _ => False) := by
  unfold f_ST_passesOf at hF
  refine kR_of (cc := c_B_passesOf) (maxL := 1) (ret := (some .int)) (by decide) (Nat.le_of_ble_eq_true rfl) ?_
  intro p e s m args below meth c Q hQ hfx hP hK hN ls hl
  obtain ⟨hx, hb, hr, hml, hown, hts, hlocks⟩ := hfx
  have hown : s.vm.findClass R_B = some m.cls := hown
  have hl : lv_has ls 1 [(0, .int a0)] := hl
  refine lv_iload_n hx hb d_B_passesOf_0 rfl (lv_at hl 0 rfl) ?_
  refine lv_if_ne (tgt := 8) hx hb d_B_passesOf_1 (by decide) (fun c1 => ?_) (fun c1 => ?_)
  · have hF := kc_neg c1 hF
    refine lv_iconst (v := 3) hx hb d_B_passesOf_8 (by decide) ?_
    refine lv_iload_n hx hb d_B_passesOf_9 rfl (lv_at hl 0 rfl) ?_
    refine lv_imul hx hb d_B_passesOf_10 ?_
    refine lv_iconst (v := 2) hx hb d_B_passesOf_11 (by decide) ?_
    refine lv_isub hx hb d_B_passesOf_12 ?_
    subst hF
    exact kr_iret hx hb hr hlocks hQ d_B_passesOf_13
  have hF := kc_pos c1 hF
  refine lv_iconst (v := 0) hx hb d_B_passesOf_4 (by decide) ?_
  refine lv_goto (tgt := 13) hx hb d_B_passesOf_5 (by decide) ?_
  subst hF
  exact kr_iret hx hb hr hlocks hQ d_B_passesOf_13
abbrev rm_ST_kindOf : Room := { frames := 0, cells := 0, slots := 0, locals := 0 }
set_option maxHeartbeats 4000000 in
set_option maxRecDepth 100000 in
theorem m_ST_kindOf (l : Launch) (dC : Nat → ClassId) (dI : Nat → Nat → Nat) (a0 : Int32) (u : Int32) (hF : f_ST_kindOf a0 = u) : Met l y_B_kindOf (kws y_B_kindOf c_B_kindOf 1 (some .int)) rm_ST_kindOf (kRe (dC, dI) [.int a0] [] []) (k2_QcV (.int u)) 0 0 (fun _ => False) := by
  unfold f_ST_kindOf at hF
  refine kR_of (cc := c_B_kindOf) (maxL := 1) (ret := (some .int)) (by decide) (Nat.le_of_ble_eq_true rfl) ?_
  intro p e s m args below meth c Q hQ hfx hP hK hN ls hl
  obtain ⟨hx, hb, hr, hml, hown, hts, hlocks⟩ := hfx
  have hown : s.vm.findClass R_B = some m.cls := hown
  have hl : lv_has ls 1 [(0, .int a0)] := hl
  refine lv_iload_n hx hb d_B_kindOf_0 rfl (lv_at hl 0 rfl) ?_
  refine lv_iconst (v := 2) hx hb d_B_kindOf_1 (by decide) ?_
  refine lv_iadd hx hb d_B_kindOf_2 ?_
  refine lv_iconst (v := 3) hx hb d_B_kindOf_3 (by decide) ?_
  refine lv_irem hx hb d_B_kindOf_4 (by decide) ?_
  refine W.eq (g2 := F0 m 5 ls [.int (krem (a0 + (2 : Int32)) (3 : Int32))]) rfl ?_
  subst hF
  exact kr_iret hx hb hr hlocks hQ d_B_kindOf_5
abbrev rm_ST_within : Room := { frames := 1, cells := 0, slots := 0, locals := 14 }
set_option maxHeartbeats 4000000 in
set_option maxRecDepth 100000 in
theorem m_ST_within (l : Launch) (dC : Nat → ClassId) (dI : Nat → Nat → Nat) (a0 : Int32) (a1 : Int32) (a2 : Int32) (u : Int32) (hF : f_ST_within a0 a1 a2 = u) : Met l y_B_within (kws y_B_within c_B_within 3 (some .int)) rm_ST_within (kRe (dC, dI) [.int a0, .int a1, .int a2] [] []) (k2_QcV (.int u)) 0 0 (fun _ => False) := by
  unfold f_ST_within at hF
  refine kR_of (cc := c_B_within) (maxL := 3) (ret := (some .int)) (by decide) (Nat.le_of_ble_eq_true rfl) ?_
  intro p e s m args below meth c Q hQ hfx hP hK hN ls hl
  obtain ⟨hx, hb, hr, hml, hown, hts, hlocks⟩ := hfx
  have hown : s.vm.findClass R_B = some m.cls := hown
  have hl : lv_has ls 3 [(0, .int a0), (1, .int a1), (2, .int a2)] := hl
  refine lv_iload_n hx hb d_B_within_0 rfl (lv_at hl 1 rfl) ?_
  refine lv_iload_n hx hb d_B_within_1 rfl (lv_at hl 2 rfl) ?_
  refine lv_iload_n hx hb d_B_within_2 rfl (lv_at hl 0 rfl) ?_
  refine va_mmin hx hb (by rw [hml]; exact hl.1.symm) hown (hts _ kw_1_29) (hts _ kw_1_30) (hts _ kw_1_3) (hts _ kw_1_31) (Nat.le_of_ble_eq_true rfl) (Nat.le_of_ble_eq_true rfl) (Nat.le_of_ble_eq_true rfl) (Nat.le_of_ble_eq_true rfl) d_B_within_3 ?_
  refine W.eq (g2 := F0 m 6 ls [.int (kmin a2 a0), .int a1]) rfl ?_
  refine va_mmax hx hb (by rw [hml]; exact hl.1.symm) hown (hts _ kw_1_32) (hts _ kw_1_33) (hts _ kw_1_3) (hts _ kw_1_34) (Nat.le_of_ble_eq_true rfl) (Nat.le_of_ble_eq_true rfl) (Nat.le_of_ble_eq_true rfl) (Nat.le_of_ble_eq_true rfl) d_B_within_6 ?_
  refine W.eq (g2 := F0 m 9 ls [.int (kmax a1 (kmin a2 a0))]) rfl ?_
  subst hF
  exact kr_iret hx hb hr hlocks hQ d_B_within_9
abbrev rm_FI_fillWith : Room := { frames := 0, cells := 0, slots := 0, locals := 0 }
set_option maxHeartbeats 4000000 in
set_option maxRecDepth 100000 in
theorem m_FI_fillWith (l : Launch) (dC : Nat → ClassId) (dI : Nat → Nat → Nat) (q_fr : Nat) (k_fr : ClassId) (n_fr : Nat) (frw : (Nat → Int32)) (a1 : Int32) (u : (Nat → Int32)) (hF : f_FI_fillWith frw n_fr a1 = some u) : ∀ sz : Nat, Met l y_B_fillWith (kws y_B_fillWith c_B_fillWith 3 none) rm_FI_fillWith (kPre (dC, dI) [.ref q_fr, .int a1] [(q_fr, .inl (k_fr, n_fr, .inl frw))] [(k_fr, .int)] sz) (kPost (dC, dI) none [(q_fr, .inl (k_fr, n_fr, .inl u))] (va_A [(q_fr, .inl (k_fr, n_fr, .inl frw))] sz)) 0 0 (va_A [(q_fr, .inl (k_fr, n_fr, .inl frw))] sz) := by
  unfold f_FI_fillWith at hF
  refine kU_of (cc := c_B_fillWith) (maxL := 3) (ret := none) (by decide) (Nat.le_of_ble_eq_true rfl) ?_
  intro p e s m args below meth c Q A hQ hfx hK hN hA H locs ls hP hD hS hl
  obtain ⟨hx, hb, hr, hml, hown, hts, hlocks⟩ := hfx
  have hown : s.vm.findClass R_B = some m.cls := hown
  have hl : lv_has ls 3 [(0, .ref q_fr), (1, .int a1)] := hl
  refine lv_iconst (v := 0) hx hb d_B_fillWith_0 (by decide) ?_
  refine lv_istore_n (lv' := [(2, .int (0 : Int32)), (0, .ref q_fr), (1, .int a1)]) hx hb d_B_fillWith_1 rfl hl (by decide) rfl (fun ls hl => ?_)
  obtain ⟨u1, hcu1, hF⟩ := kc_bnd hF
  have hJu1_18 : ∀ (H : Heap) (locs : List Loc) (ls : Array Slot), va_P (dC, dI) vwCl [(q_fr, .inl (k_fr, n_fr, .inl u1.2))] H → va_D A [(q_fr, .inl (k_fr, n_fr, .inl u1.2))] → va_S A s.heap H locs → lv_has ls 3 [(2, .int u1.1), (0, .ref q_fr), (1, .int a1)] → W p l e rm_FI_fillWith s m args below meth c H locs 0 0 Q (F0 m 18 ls []) := by
    intro H locs ls hP hD hS hl
    obtain rfl := Option.some.inj hF
    exact ku_vret hx hb hr hlocks hQ (hP.sub [0] rfl) (hD.sub [0] (by decide) rfl) hS d_B_fillWith_18
  have hIu1 : ∀ (N : Nat) (v2_2 : Int32) (frw_2 : (Nat → Int32)), f_FI_fillWith_L2 n_fr a1 N v2_2 frw_2 = some u1 → ∀ (H : Heap) (locs : List Loc) (ls : Array Slot), va_P (dC, dI) vwCl [(q_fr, .inl (k_fr, n_fr, .inl frw_2))] H → va_D A [(q_fr, .inl (k_fr, n_fr, .inl frw_2))] → va_S A s.heap H locs → lv_has ls 3 [(2, .int v2_2), (0, .ref q_fr), (1, .int a1)] → W p l e rm_FI_fillWith s m args below meth c H locs 0 0 Q (F0 m 2 ls []) := by
    intro N
    induction N with
    | zero => intro v2_2 frw_2 hF; rw [f_FI_fillWith_L2] at hF; cases hF
    | succ N ih =>
      intro v2_2 frw_2 hF
      intro H locs ls hP hD hS hl
      rw [f_FI_fillWith_L2] at hF
      refine lv_iload_n hx hb d_B_fillWith_2 rfl (lv_at hl 0 rfl) ?_
      refine lv_aload_n hx hb d_B_fillWith_3 rfl (lv_at hl 1 rfl) ?_
      refine va_alen (v := nI n_fr) (ty := .int) hx hb hK hP 0 0 rfl rfl rfl d_B_fillWith_4 ?_
      refine lv_icmp_ge (tgt := 18) hx hb d_B_fillWith_5 (by decide) (fun c2 => ?_) (fun c2 => ?_)
      · have hF := kc_pos c2 hF
        obtain rfl := Option.some.inj hF
        exact hJu1_18 _ _ _ hP hD hS (lv_sub hl [0, 1, 2] rfl)
      have hF := kc_neg c2 hF
      refine lv_aload_n hx hb d_B_fillWith_8 rfl (lv_at hl 1 rfl) ?_
      refine lv_iload_n hx hb d_B_fillWith_9 rfl (lv_at hl 0 rfl) ?_
      refine lv_iload_n hx hb d_B_fillWith_10 rfl (lv_at hl 2 rfl) ?_
      obtain ⟨h3, hF⟩ := kc_no hF
      refine va_iast hx hb hK hP hD hS 0 0 rfl rfl h3 d_B_fillWith_11 (fun H locs hP hD hS => ?_)
      have hP : va_P (dC, dI) vwCl [(q_fr, .inl (k_fr, n_fr, .inl (upd frw_2 v2_2.toNatClampNeg a1)))] H := hP
      have hD : va_D A [(q_fr, .inl (k_fr, n_fr, .inl (upd frw_2 v2_2.toNatClampNeg a1)))] := hD
      refine lv_iinc (v := (v2_2 + 1)) (lv' := [(2, .int (v2_2 + 1)), (0, .ref q_fr), (1, .int a1)]) hx hb d_B_fillWith_12 hl (k := 0) rfl rfl (by decide) rfl (fun ls hl => ?_)
      refine lv_goto (tgt := 2) hx hb d_B_fillWith_15 (by decide) ?_
      exact ih _ _ hF _ _ _ hP hD hS (lv_sub hl [0, 1, 2] rfl)
  exact hIu1 _ _ _ hcu1 _ _ _ hP hD hS (lv_sub hl [0, 1, 2] rfl)
abbrev rm_ST_ofSides : Room := { frames := 0, cells := 0, slots := 0, locals := 0 }
set_option maxHeartbeats 4000000 in
set_option maxRecDepth 100000 in
theorem m_ST_ofSides (l : Launch) (dC : Nat → ClassId) (dI : Nat → Nat → Nat) (a0 : Int32) (a1 : Int32) (a2 : Int32) (u : Int32) (hF : f_ST_ofSides a0 a1 a2 = u) : Met l y_C_ofSides (kws y_C_ofSides c_C_ofSides 3 (some .int)) rm_ST_ofSides (kRe (dC, dI) [.int a0, .int a1, .int a2] [] []) (k2_QcV (.int u)) 0 0 (fun _ => False) := by
  unfold f_ST_ofSides at hF
  refine kR_of (cc := c_C_ofSides) (maxL := 3) (ret := (some .int)) (by decide) (Nat.le_of_ble_eq_true rfl) ?_
  intro p e s m args below meth c Q hQ hfx hP hK hN ls hl
  obtain ⟨hx, hb, hr, hml, hown, hts, hlocks⟩ := hfx
  have hown : s.vm.findClass R_C = some m.cls := hown
  have hl : lv_has ls 3 [(0, .int a0), (1, .int a1), (2, .int a2)] := hl
  refine lv_iload_n hx hb d_C_ofSides_0 rfl (lv_at hl 0 rfl) ?_
  refine lv_iconst (v := 2) hx hb d_C_ofSides_1 (by decide) ?_
  refine lv_icmp_ne (tgt := 8) hx hb d_C_ofSides_2 (by decide) (fun c1 => ?_) (fun c1 => ?_)
  · have hF := kc_neg c1 hF
    refine lv_iload_n hx hb d_C_ofSides_8 rfl (lv_at hl 0 rfl) ?_
    refine lv_iconst (v := 1) hx hb d_C_ofSides_9 (by decide) ?_
    refine lv_icmp_ne (tgt := 33) hx hb d_C_ofSides_10 (by decide) (fun c2 => ?_) (fun c2 => ?_)
    · have hF := kc_neg c2 hF
      refine lv_iload_n hx hb d_C_ofSides_33 rfl (lv_at hl 1 rfl) ?_
      refine lv_if_le (tgt := 43) hx hb d_C_ofSides_34 (by decide) (fun c3 => ?_) (fun c3 => ?_)
      · have hF := kc_pos c3 hF
        refine lv_iload_n hx hb d_C_ofSides_43 rfl (lv_at hl 2 rfl) ?_
        refine lv_iconst (v := 1) hx hb d_C_ofSides_44 (by decide) ?_
        refine lv_icmp_le (tgt := 52) hx hb d_C_ofSides_45 (by decide) (fun c4 => ?_) (fun c4 => ?_)
        · have hF := kc_pos c4 hF
          refine lv_iload_n hx hb d_C_ofSides_52 rfl (lv_at hl 2 rfl) ?_
          subst hF
          exact kr_iret hx hb hr hlocks hQ d_C_ofSides_53
        have hF := kc_neg c4 hF
        refine lv_iconst (v := 2) hx hb d_C_ofSides_48 (by decide) ?_
        refine lv_goto (tgt := 53) hx hb d_C_ofSides_49 (by decide) ?_
        subst hF
        exact kr_iret hx hb hr hlocks hQ d_C_ofSides_53
      have hF := kc_neg c3 hF
      refine lv_iconst (v := 2) hx hb d_C_ofSides_37 (by decide) ?_
      refine lv_iload_n hx hb d_C_ofSides_38 rfl (lv_at hl 1 rfl) ?_
      refine lv_iadd hx hb d_C_ofSides_39 ?_
      refine lv_goto (tgt := 53) hx hb d_C_ofSides_40 (by decide) ?_
      subst hF
      exact kr_iret hx hb hr hlocks hQ d_C_ofSides_53
    have hF := kc_pos c2 hF
    refine lv_iload_n hx hb d_C_ofSides_13 rfl (lv_at hl 1 rfl) ?_
    refine lv_if_le (tgt := 22) hx hb d_C_ofSides_14 (by decide) (fun c5 => ?_) (fun c5 => ?_)
    · have hF := kc_pos c5 hF
      refine lv_iload_n hx hb d_C_ofSides_22 rfl (lv_at hl 2 rfl) ?_
      refine lv_if_le (tgt := 31) hx hb d_C_ofSides_23 (by decide) (fun c6 => ?_) (fun c6 => ?_)
      · have hF := kc_pos c6 hF
        refine lv_iconst (v := 5) hx hb d_C_ofSides_31 (by decide) ?_
        subst hF
        exact kr_iret hx hb hr hlocks hQ d_C_ofSides_32
      have hF := kc_neg c6 hF
      refine lv_bipush (v := 6) hx hb d_C_ofSides_26 (by decide) ?_
      refine lv_goto (tgt := 32) hx hb d_C_ofSides_28 (by decide) ?_
      subst hF
      exact kr_iret hx hb hr hlocks hQ d_C_ofSides_32
    have hF := kc_neg c5 hF
    refine lv_bipush (v := 7) hx hb d_C_ofSides_17 (by decide) ?_
    refine lv_goto (tgt := 32) hx hb d_C_ofSides_19 (by decide) ?_
    subst hF
    exact kr_iret hx hb hr hlocks hQ d_C_ofSides_32
  have hF := kc_pos c1 hF
  refine lv_bipush (v := 8) hx hb d_C_ofSides_5 (by decide) ?_
  subst hF
  exact kr_iret hx hb hr hlocks hQ d_C_ofSides_7
abbrev rm_ST_ofCorners : Room := { frames := 0, cells := 0, slots := 0, locals := 0 }
set_option maxHeartbeats 4000000 in
set_option maxRecDepth 100000 in
theorem m_ST_ofCorners (l : Launch) (dC : Nat → ClassId) (dI : Nat → Nat → Nat) (a0 : Int32) (a1 : Int32) (u : Int32) (hF : f_ST_ofCorners a0 a1 = u) : Met l y_C_ofCorners (kws y_C_ofCorners c_C_ofCorners 3 (some .int)) rm_ST_ofCorners (kRe (dC, dI) [.int a0, .int a1] [] []) (k2_QcV (.int u)) 0 0 (fun _ => False) := by
  unfold f_ST_ofCorners at hF
  refine kR_of (cc := c_C_ofCorners) (maxL := 3) (ret := (some .int)) (by decide) (Nat.le_of_ble_eq_true rfl) ?_
  intro p e s m args below meth c Q hQ hfx hP hK hN ls hl
  obtain ⟨hx, hb, hr, hml, hown, hts, hlocks⟩ := hfx
  have hown : s.vm.findClass R_C = some m.cls := hown
  have hl : lv_has ls 3 [(0, .int a0), (1, .int a1)] := hl
  refine lv_iload_n hx hb d_C_ofCorners_0 rfl (lv_at hl 1 rfl) ?_
  refine lv_iconst (v := 2) hx hb d_C_ofCorners_1 (by decide) ?_
  refine lv_icmp_le (tgt := 8) hx hb d_C_ofCorners_2 (by decide) (fun c1 => ?_) (fun c1 => ?_)
  · have hF := kc_pos c1 hF
    refine lv_iload_n hx hb d_C_ofCorners_8 rfl (lv_at hl 1 rfl) ?_
    refine lv_iconst (v := 2) hx hb d_C_ofCorners_9 (by decide) ?_
    refine lv_icmp_ne (tgt := 25) hx hb d_C_ofCorners_10 (by decide) (fun c2 => ?_) (fun c2 => ?_)
    · have hF := kc_neg c2 hF
      refine lv_iload_n hx hb d_C_ofCorners_25 rfl (lv_at hl 0 rfl) ?_
      refine lv_iconst (v := 1) hx hb d_C_ofCorners_26 (by decide) ?_
      refine lv_icmp_le (tgt := 34) hx hb d_C_ofCorners_27 (by decide) (fun c3 => ?_) (fun c3 => ?_)
      · have hF := kc_pos c3 hF
        refine lv_iload_n hx hb d_C_ofCorners_34 rfl (lv_at hl 0 rfl) ?_
        refine lv_istore_n (lv' := [(2, .int a0), (0, .int a0), (1, .int a1)]) hx hb d_C_ofCorners_35 rfl hl (by decide) rfl (fun ls hl => ?_)
        refine lv_iload_n hx hb d_C_ofCorners_36 rfl (lv_at hl 2 rfl) ?_
        refine lv_iconst (v := 1) hx hb d_C_ofCorners_37 (by decide) ?_
        refine lv_icmp_ne (tgt := 47) hx hb d_C_ofCorners_38 (by decide) (fun c4 => ?_) (fun c4 => ?_)
        · have hF := kc_neg c4 hF
          refine lv_iload_n hx hb d_C_ofCorners_47 rfl (lv_at hl 0 rfl) ?_
          subst hF
          exact kr_iret hx hb hr hlocks hQ d_C_ofCorners_48
        have hF := kc_pos c4 hF
        refine lv_iconst (v := 3) hx hb d_C_ofCorners_41 (by decide) ?_
        refine lv_iload_n hx hb d_C_ofCorners_42 rfl (lv_at hl 0 rfl) ?_
        refine lv_iadd hx hb d_C_ofCorners_43 ?_
        refine lv_goto (tgt := 48) hx hb d_C_ofCorners_44 (by decide) ?_
        subst hF
        exact kr_iret hx hb hr hlocks hQ d_C_ofCorners_48
      have hF := kc_neg c3 hF
      refine lv_iconst (v := 2) hx hb d_C_ofCorners_30 (by decide) ?_
      refine lv_goto (tgt := 35) hx hb d_C_ofCorners_31 (by decide) ?_
      refine lv_istore_n (lv' := [(2, .int (2 : Int32)), (0, .int a0), (1, .int a1)]) hx hb d_C_ofCorners_35 rfl hl (by decide) rfl (fun ls hl => ?_)
      refine lv_iload_n hx hb d_C_ofCorners_36 rfl (lv_at hl 2 rfl) ?_
      refine lv_iconst (v := 1) hx hb d_C_ofCorners_37 (by decide) ?_
      refine lv_icmp_ne (tgt := 47) hx hb d_C_ofCorners_38 (by decide) (fun c5 => ?_) (fun c5 => ?_)
      · have hF := kc_neg c5 hF
        refine lv_iload_n hx hb d_C_ofCorners_47 rfl (lv_at hl 0 rfl) ?_
        subst hF
        exact kr_iret hx hb hr hlocks hQ d_C_ofCorners_48
      have hF := kc_pos c5 hF
      refine lv_iconst (v := 3) hx hb d_C_ofCorners_41 (by decide) ?_
      refine lv_iload_n hx hb d_C_ofCorners_42 rfl (lv_at hl 0 rfl) ?_
      refine lv_iadd hx hb d_C_ofCorners_43 ?_
      refine lv_goto (tgt := 48) hx hb d_C_ofCorners_44 (by decide) ?_
      subst hF
      exact kr_iret hx hb hr hlocks hQ d_C_ofCorners_48
    have hF := kc_pos c2 hF
    refine lv_iload_n hx hb d_C_ofCorners_13 rfl (lv_at hl 0 rfl) ?_
    refine lv_if_le (tgt := 22) hx hb d_C_ofCorners_14 (by decide) (fun c6 => ?_) (fun c6 => ?_)
    · have hF := kc_pos c6 hF
      refine lv_bipush (v := 6) hx hb d_C_ofCorners_22 (by decide) ?_
      subst hF
      exact kr_iret hx hb hr hlocks hQ d_C_ofCorners_24
    have hF := kc_neg c6 hF
    refine lv_bipush (v := 7) hx hb d_C_ofCorners_17 (by decide) ?_
    refine lv_goto (tgt := 24) hx hb d_C_ofCorners_19 (by decide) ?_
    subst hF
    exact kr_iret hx hb hr hlocks hQ d_C_ofCorners_24
  have hF := kc_neg c1 hF
  refine lv_bipush (v := 8) hx hb d_C_ofCorners_5 (by decide) ?_
  subst hF
  exact kr_iret hx hb hr hlocks hQ d_C_ofCorners_7
abbrev rm_ST_ofSize : Room := { frames := 1, cells := 0, slots := 0, locals := 22 }
set_option maxHeartbeats 4000000 in
set_option maxRecDepth 100000 in
theorem m_ST_ofSize (l : Launch) (dC : Nat → ClassId) (dI : Nat → Nat → Nat) (a0 : Int32) (a1 : Int32) (a2 : Int32) (a3 : Int32) (u : Int32) (hF : f_ST_ofSize a0 a1 a2 a3 = u) : Met l y_C_ofSize (kws y_C_ofSize c_C_ofSize 4 (some .int)) rm_ST_ofSize (kRe (dC, dI) [.int a0, .int a1, .int a2, .int a3] [] []) (k2_QcV (.int u)) 0 0 (fun _ => False) := by
  unfold f_ST_ofSize at hF
  refine kR_of (cc := c_C_ofSize) (maxL := 4) (ret := (some .int)) (by decide) (Nat.le_of_ble_eq_true rfl) ?_
  intro p e s m args below meth c Q hQ hfx hP hK hN ls hl
  obtain ⟨hx, hb, hr, hml, hown, hts, hlocks⟩ := hfx
  have hown : s.vm.findClass R_C = some m.cls := hown
  have hl : lv_has ls 4 [(0, .int a0), (1, .int a1), (2, .int a2), (3, .int a3)] := hl
  refine lv_iload_n hx hb d_C_ofSize_0 rfl (lv_at hl 0 rfl) ?_
  refine lv_if_ne (tgt := 11) hx hb d_C_ofSize_1 (by decide) (fun c1 => ?_) (fun c1 => ?_)
  · have hF := kc_neg c1 hF
    refine lv_iload_n hx hb d_C_ofSize_11 rfl (lv_at hl 0 rfl) ?_
    refine lv_iconst (v := 1) hx hb d_C_ofSize_12 (by decide) ?_
    refine lv_icmp_ne (tgt := 25) hx hb d_C_ofSize_13 (by decide) (fun c2 => ?_) (fun c2 => ?_)
    · have hF := kc_neg c2 hF
      refine lv_iload_n hx hb d_C_ofSize_25 rfl (lv_at hl 1 rfl) ?_
      refine lv_iload_n hx hb d_C_ofSize_26 rfl (lv_at hl 2 rfl) ?_
      refine lv_iadd hx hb d_C_ofSize_27 ?_
      refine lv_iload_n hx hb d_C_ofSize_28 rfl (lv_at hl 3 rfl) ?_
      refine kr_call (va_runS (As := [.int (a1 + a2), .int a3]) (rest := []) ⟨hx, hb, hml, hown, hts⟩ (m_ST_ofCorners l dC dI (a1 + a2) a3 (f_ST_ofCorners (a1 + a2) a3) rfl) (va_cwS 2 hts (kgS kw_2_16 kw_2_17 kw_1_14 kw_2_18) rfl rfl rfl (by decide +kernel) ⟨Nat.le_of_ble_eq_true rfl, Nat.le_of_ble_eq_true rfl⟩) ⟨kRe_blind, kRe_of (hP.sub [] rfl) (hK.sub [] rfl) hN⟩ rfl rfl hl.1 rfl (lv_room (Nat.le_of_ble_eq_true rfl)) d_C_ofSize_29 ⟨Nat.le_of_ble_eq_true rfl, Nat.le_of_ble_eq_true rfl⟩) ?_
      subst hF
      exact kr_iret hx hb hr hlocks hQ d_C_ofSize_32
    have hF := kc_pos c2 hF
    refine lv_iload_n hx hb d_C_ofSize_16 rfl (lv_at hl 2 rfl) ?_
    refine lv_iload_n hx hb d_C_ofSize_17 rfl (lv_at hl 1 rfl) ?_
    refine lv_iload_n hx hb d_C_ofSize_18 rfl (lv_at hl 3 rfl) ?_
    refine kr_call (va_runS (As := [.int a2, .int a1, .int a3]) (rest := []) ⟨hx, hb, hml, hown, hts⟩ (m_ST_ofSides l dC dI a2 a1 a3 (f_ST_ofSides a2 a1 a3) rfl) (va_cwS 3 hts (kgS kw_2_13 kw_2_14 kw_1_14 kw_2_15) rfl rfl rfl (by decide +kernel) ⟨Nat.le_of_ble_eq_true rfl, Nat.le_of_ble_eq_true rfl⟩) ⟨kRe_blind, kRe_of (hP.sub [] rfl) (hK.sub [] rfl) hN⟩ rfl rfl hl.1 rfl (lv_room (Nat.le_of_ble_eq_true rfl)) d_C_ofSize_19 ⟨Nat.le_of_ble_eq_true rfl, Nat.le_of_ble_eq_true rfl⟩) ?_
    refine lv_goto (tgt := 32) hx hb d_C_ofSize_22 (by decide) ?_
    subst hF
    exact kr_iret hx hb hr hlocks hQ d_C_ofSize_32
  have hF := kc_pos c1 hF
  refine lv_iload_n hx hb d_C_ofSize_4 rfl (lv_at hl 1 rfl) ?_
  refine lv_iload_n hx hb d_C_ofSize_5 rfl (lv_at hl 2 rfl) ?_
  refine lv_iload_n hx hb d_C_ofSize_6 rfl (lv_at hl 3 rfl) ?_
  refine kr_call (va_runS (As := [.int a1, .int a2, .int a3]) (rest := []) ⟨hx, hb, hml, hown, hts⟩ (m_ST_ofSides l dC dI a1 a2 a3 (f_ST_ofSides a1 a2 a3) rfl) (va_cwS 3 hts (kgS kw_2_13 kw_2_14 kw_1_14 kw_2_15) rfl rfl rfl (by decide +kernel) ⟨Nat.le_of_ble_eq_true rfl, Nat.le_of_ble_eq_true rfl⟩) ⟨kRe_blind, kRe_of (hP.sub [] rfl) (hK.sub [] rfl) hN⟩ rfl rfl hl.1 rfl (lv_room (Nat.le_of_ble_eq_true rfl)) d_C_ofSize_7 ⟨Nat.le_of_ble_eq_true rfl, Nat.le_of_ble_eq_true rfl⟩) ?_
  subst hF
  exact kr_iret hx hb hr hlocks hQ d_C_ofSize_10
abbrev rm_ST_turnsSign : Room := { frames := 0, cells := 0, slots := 0, locals := 0 }
set_option maxHeartbeats 4000000 in
set_option maxRecDepth 100000 in
theorem m_ST_turnsSign (l : Launch) (dC : Nat → ClassId) (dI : Nat → Nat → Nat) (a0 : Int32) (a1 : Int32) (u : Int32) (hF : f_ST_turnsSign a0 a1 = u) : Met l y_C_turnsSign (kws y_C_turnsSign c_C_turnsSign 2 (some .boolean)) rm_ST_turnsSign (kRe (dC, dI) [.int a0, .int a1] [] []) (k2_QcV (.int u)) 0 0 (fun _ => False) := by
  unfold f_ST_turnsSign at hF
  refine kR_of (cc := c_C_turnsSign) (maxL := 2) (ret := (some .boolean)) (by decide) (Nat.le_of_ble_eq_true rfl) ?_
  intro p e s m args below meth c Q hQ hfx hP hK hN ls hl
  obtain ⟨hx, hb, hr, hml, hown, hts, hlocks⟩ := hfx
  have hown : s.vm.findClass R_C = some m.cls := hown
  have hl : lv_has ls 2 [(0, .int a0), (1, .int a1)] := hl
  refine lv_iload_n hx hb d_C_turnsSign_0 rfl (lv_at hl 0 rfl) ?_
  refine lv_if_lt (tgt := 12) hx hb d_C_turnsSign_1 (by decide) (fun c1 => ?_) (fun c1 => ?_)
  · have hF := kc_pos c1 hF
    refine lv_iconst (v := 1) hx hb d_C_turnsSign_12 (by decide) ?_
    refine lv_goto (tgt := 17) hx hb d_C_turnsSign_13 (by decide) ?_
    subst hF
    exact kr_zret hx hb hr hlocks hQ (by decide) d_C_turnsSign_17
  have hF := kc_neg c1 hF
  refine lv_iload_n hx hb d_C_turnsSign_4 rfl (lv_at hl 0 rfl) ?_
  refine lv_if_ne (tgt := 16) hx hb d_C_turnsSign_5 (by decide) (fun c2 => ?_) (fun c2 => ?_)
  · have hF := kc_neg c2 hF
    refine lv_iconst (v := 0) hx hb d_C_turnsSign_16 (by decide) ?_
    subst hF
    exact kr_zret hx hb hr hlocks hQ (by decide) d_C_turnsSign_17
  have hF := kc_pos c2 hF
  refine lv_iload_n hx hb d_C_turnsSign_8 rfl (lv_at hl 1 rfl) ?_
  refine lv_if_ge (tgt := 16) hx hb d_C_turnsSign_9 (by decide) (fun c3 => ?_) (fun c3 => ?_)
  · have hF := kc_pos c3 hF
    refine lv_iconst (v := 0) hx hb d_C_turnsSign_16 (by decide) ?_
    subst hF
    exact kr_zret hx hb hr hlocks hQ (by decide) d_C_turnsSign_17
  have hF := kc_neg c3 hF
  refine lv_iconst (v := 1) hx hb d_C_turnsSign_12 (by decide) ?_
  refine lv_goto (tgt := 17) hx hb d_C_turnsSign_13 (by decide) ?_
  subst hF
  exact kr_zret hx hb hr hlocks hQ (by decide) d_C_turnsSign_17
abbrev rm_ST_ofSign : Room := { frames := 1, cells := 0, slots := 0, locals := 21 }
set_option maxHeartbeats 4000000 in
set_option maxRecDepth 100000 in
theorem m_ST_ofSign (l : Launch) (dC : Nat → ClassId) (dI : Nat → Nat → Nat) (a0 : Int32) (a1 : Int32) (u : Int32) (hF : f_ST_ofSign a0 a1 = u) : Met l y_C_ofSign (kws y_C_ofSign c_C_ofSign 3 (some .int)) rm_ST_ofSign (kRe (dC, dI) [.int a0, .int a1] [] []) (k2_QcV (.int u)) 0 0 (fun _ => False) := by
  unfold f_ST_ofSign at hF
  refine kR_of (cc := c_C_ofSign) (maxL := 3) (ret := (some .int)) (by decide) (Nat.le_of_ble_eq_true rfl) ?_
  intro p e s m args below meth c Q hQ hfx hP hK hN ls hl
  obtain ⟨hx, hb, hr, hml, hown, hts, hlocks⟩ := hfx
  have hown : s.vm.findClass R_C = some m.cls := hown
  have hl : lv_has ls 3 [(0, .int a0), (1, .int a1)] := hl
  refine lv_iload_n hx hb d_C_ofSign_0 rfl (lv_at hl 0 rfl) ?_
  refine lv_iload_n hx hb d_C_ofSign_1 rfl (lv_at hl 1 rfl) ?_
  refine kr_call (va_runS (As := [.int a0, .int a1]) (rest := []) ⟨hx, hb, hml, hown, hts⟩ (m_ST_turnsSign l dC dI a0 a1 (f_ST_turnsSign a0 a1) rfl) (va_cwS 2 hts (kgS kw_2_57 kw_2_52 kw_1_14 kw_2_53) rfl rfl rfl (by decide +kernel) ⟨Nat.le_of_ble_eq_true rfl, Nat.le_of_ble_eq_true rfl⟩) ⟨kRe_blind, kRe_of (hP.sub [] rfl) (hK.sub [] rfl) hN⟩ rfl rfl hl.1 rfl (lv_room (Nat.le_of_ble_eq_true rfl)) d_C_ofSign_2 ⟨Nat.le_of_ble_eq_true rfl, Nat.le_of_ble_eq_true rfl⟩) ?_
  refine lv_if_eq (tgt := 13) hx hb d_C_ofSign_5 (by decide) (fun c1 => ?_) (fun c1 => ?_)
  · have hF := kc_pos c1 hF
    refine lv_iload_n hx hb d_C_ofSign_13 rfl (lv_at hl 1 rfl) ?_
    refine lv_istore_n (lv' := [(2, .int a1), (0, .int a0), (1, .int a1)]) hx hb d_C_ofSign_14 rfl hl (by decide) rfl (fun ls hl => ?_)
    refine lv_iload_n hx hb d_C_ofSign_15 rfl (lv_at hl 1 rfl) ?_
    refine lv_if_ne (tgt := 24) hx hb d_C_ofSign_16 (by decide) (fun c2 => ?_) (fun c2 => ?_)
    · have hF := kc_neg c2 hF
      refine lv_bipush (v := 12) hx hb d_C_ofSign_24 (by decide) ?_
      refine lv_iload_n hx hb d_C_ofSign_26 rfl (lv_at hl 0 rfl) ?_
      refine lv_iadd hx hb d_C_ofSign_27 ?_
      subst hF
      exact kr_iret hx hb hr hlocks hQ d_C_ofSign_28
    have hF := kc_pos c2 hF
    refine lv_bipush (v := 9) hx hb d_C_ofSign_19 (by decide) ?_
    refine lv_goto (tgt := 26) hx hb d_C_ofSign_21 (by decide) ?_
    refine lv_iload_n hx hb d_C_ofSign_26 rfl (lv_at hl 0 rfl) ?_
    refine lv_iadd hx hb d_C_ofSign_27 ?_
    subst hF
    exact kr_iret hx hb hr hlocks hQ d_C_ofSign_28
  have hF := kc_neg c1 hF
  refine lv_iload_n hx hb d_C_ofSign_8 rfl (lv_at hl 1 rfl) ?_
  refine lv_ineg hx hb d_C_ofSign_9 ?_
  refine lv_goto (tgt := 14) hx hb d_C_ofSign_10 (by decide) ?_
  refine lv_istore_n (lv' := [(2, .int (-a1)), (0, .int a0), (1, .int a1)]) hx hb d_C_ofSign_14 rfl hl (by decide) rfl (fun ls hl => ?_)
  refine lv_iload_n hx hb d_C_ofSign_15 rfl (lv_at hl 1 rfl) ?_
  refine lv_if_ne (tgt := 24) hx hb d_C_ofSign_16 (by decide) (fun c3 => ?_) (fun c3 => ?_)
  · have hF := kc_neg c3 hF
    refine lv_bipush (v := 12) hx hb d_C_ofSign_24 (by decide) ?_
    refine lv_iload_n hx hb d_C_ofSign_26 rfl (lv_at hl 0 rfl) ?_
    refine lv_iadd hx hb d_C_ofSign_27 ?_
    subst hF
    exact kr_iret hx hb hr hlocks hQ d_C_ofSign_28
  have hF := kc_pos c3 hF
  refine lv_bipush (v := 9) hx hb d_C_ofSign_19 (by decide) ?_
  refine lv_goto (tgt := 26) hx hb d_C_ofSign_21 (by decide) ?_
  refine lv_iload_n hx hb d_C_ofSign_26 rfl (lv_at hl 0 rfl) ?_
  refine lv_iadd hx hb d_C_ofSign_27 ?_
  subst hF
  exact kr_iret hx hb hr hlocks hQ d_C_ofSign_28
abbrev rm_K_holds : Room := { frames := 0, cells := 0, slots := 0, locals := 0 }
set_option maxHeartbeats 4000000 in
set_option maxRecDepth 100000 in
theorem m_K_holds (l : Launch) (dC : Nat → ClassId) (dI : Nat → Nat → Nat) (q_bk : Nat) (w : Int32) (h : Int32) (sty : Int32) (bd : Int32) (str : Int32) (cel : Int32) (a0 : Int32) (a1 : Int32) (u : Int32) (hF : f_K_holds w h a0 a1 = u) : Met l y_K_holds (kws y_K_holds c_K_holds 3 (some .boolean)) rm_K_holds (kRe (dC, dI) [.ref q_bk, .int a0, .int a1] [(q_bk, .inr (1, [.int w, .int h, .int sty, .int bd, .int str, .int cel]))] []) (k2_QcV (.int u)) 0 0 (fun _ => False) := by
  unfold f_K_holds at hF
  refine kR_of (cc := c_K_holds) (maxL := 3) (ret := (some .boolean)) (by decide) (Nat.le_of_ble_eq_true rfl) ?_
  intro p e s m args below meth c Q hQ hfx hP hK hN ls hl
  obtain ⟨hx, hb, hr, hml, hown, hts, hlocks⟩ := hfx
  have hown : s.vm.findClass R_K = some m.cls := hown
  have hl : lv_has ls 3 [(0, .ref q_bk), (1, .int a0), (2, .int a1)] := hl
  refine lv_iload_n hx hb d_K_holds_0 rfl (lv_at hl 1 rfl) ?_
  refine lv_if_lt (tgt := 28) hx hb d_K_holds_1 (by decide) (fun c1 => ?_) (fun c1 => ?_)
  · have hF := kc_pos c1 hF
    refine lv_iconst (v := 0) hx hb d_K_holds_28 (by decide) ?_
    subst hF
    exact kr_zret hx hb hr hlocks hQ (by decide) d_K_holds_29
  have hF := kc_neg c1 hF
  refine lv_iload_n hx hb d_K_holds_4 rfl (lv_at hl 1 rfl) ?_
  refine lv_aload_n hx hb d_K_holds_5 rfl (lv_at hl 0 rfl) ?_
  refine va_get (D := (dC, dI)) (ci := 1) (v := .int w) (C := R_K) (T := T_K) (N := 6) hx hb hts ki_K hown hK hP 0 rfl rfl 0 (by decide) (hts _ kw_1_39) (fun _ h9 => h9) rfl d_K_holds_6 ?_
  refine lv_icmp_ge (tgt := 28) hx hb d_K_holds_9 (by decide) (fun c2 => ?_) (fun c2 => ?_)
  · have hF := kc_pos c2 hF
    refine lv_iconst (v := 0) hx hb d_K_holds_28 (by decide) ?_
    subst hF
    exact kr_zret hx hb hr hlocks hQ (by decide) d_K_holds_29
  have hF := kc_neg c2 hF
  refine lv_iload_n hx hb d_K_holds_12 rfl (lv_at hl 2 rfl) ?_
  refine lv_if_lt (tgt := 28) hx hb d_K_holds_13 (by decide) (fun c3 => ?_) (fun c3 => ?_)
  · have hF := kc_pos c3 hF
    refine lv_iconst (v := 0) hx hb d_K_holds_28 (by decide) ?_
    subst hF
    exact kr_zret hx hb hr hlocks hQ (by decide) d_K_holds_29
  have hF := kc_neg c3 hF
  refine lv_iload_n hx hb d_K_holds_16 rfl (lv_at hl 2 rfl) ?_
  refine lv_aload_n hx hb d_K_holds_17 rfl (lv_at hl 0 rfl) ?_
  refine va_get (D := (dC, dI)) (ci := 1) (v := .int h) (C := R_K) (T := T_K) (N := 6) hx hb hts ki_K hown hK hP 0 rfl rfl 1 (by decide) (hts _ kw_1_42) (fun _ h9 => h9) rfl d_K_holds_18 ?_
  refine lv_icmp_ge (tgt := 28) hx hb d_K_holds_21 (by decide) (fun c4 => ?_) (fun c4 => ?_)
  · have hF := kc_pos c4 hF
    refine lv_iconst (v := 0) hx hb d_K_holds_28 (by decide) ?_
    subst hF
    exact kr_zret hx hb hr hlocks hQ (by decide) d_K_holds_29
  have hF := kc_neg c4 hF
  refine lv_iconst (v := 1) hx hb d_K_holds_24 (by decide) ?_
  refine lv_goto (tgt := 29) hx hb d_K_holds_25 (by decide) ?_
  subst hF
  exact kr_zret hx hb hr hlocks hQ (by decide) d_K_holds_29
abbrev rm_K_cellOf : Room := { frames := 0, cells := 0, slots := 0, locals := 0 }
set_option maxHeartbeats 4000000 in
set_option maxRecDepth 100000 in
theorem m_K_cellOf (l : Launch) (dC : Nat → ClassId) (dI : Nat → Nat → Nat) (q_bk : Nat) (w : Int32) (h : Int32) (sty : Int32) (bd : Int32) (str : Int32) (cel : Int32) (a0 : Int32) (a1 : Int32) (u : Int32) (hF : f_K_cellOf str a0 a1 = u) : Met l y_K_cellOf (kws y_K_cellOf c_K_cellOf 3 (some .int)) rm_K_cellOf (kRe (dC, dI) [.ref q_bk, .int a0, .int a1] [(q_bk, .inr (1, [.int w, .int h, .int sty, .int bd, .int str, .int cel]))] []) (k2_QcV (.int u)) 0 0 (fun _ => False) := by
  unfold f_K_cellOf at hF
  refine kR_of (cc := c_K_cellOf) (maxL := 3) (ret := (some .int)) (by decide) (Nat.le_of_ble_eq_true rfl) ?_
  intro p e s m args below meth c Q hQ hfx hP hK hN ls hl
  obtain ⟨hx, hb, hr, hml, hown, hts, hlocks⟩ := hfx
  have hown : s.vm.findClass R_K = some m.cls := hown
  have hl : lv_has ls 3 [(0, .ref q_bk), (1, .int a0), (2, .int a1)] := hl
  refine lv_iload_n hx hb d_K_cellOf_0 rfl (lv_at hl 2 rfl) ?_
  refine lv_iconst (v := 1) hx hb d_K_cellOf_1 (by decide) ?_
  refine lv_iadd hx hb d_K_cellOf_2 ?_
  refine lv_aload_n hx hb d_K_cellOf_3 rfl (lv_at hl 0 rfl) ?_
  refine va_get (D := (dC, dI)) (ci := 1) (v := .int str) (C := R_K) (T := T_K) (N := 6) hx hb hts ki_K hown hK hP 0 rfl rfl 4 (by decide) (hts _ kw_1_50) (fun _ h9 => h9) rfl d_K_cellOf_4 ?_
  refine lv_imul hx hb d_K_cellOf_7 ?_
  refine lv_iload_n hx hb d_K_cellOf_8 rfl (lv_at hl 1 rfl) ?_
  refine lv_iadd hx hb d_K_cellOf_9 ?_
  refine lv_iconst (v := 1) hx hb d_K_cellOf_10 (by decide) ?_
  refine lv_iadd hx hb d_K_cellOf_11 ?_
  subst hF
  exact kr_iret hx hb hr hlocks hQ d_K_cellOf_12
abbrev rm_K_hasStyle : Room := { frames := 0, cells := 0, slots := 0, locals := 0 }
set_option maxHeartbeats 4000000 in
set_option maxRecDepth 100000 in
theorem m_K_hasStyle (l : Launch) (dC : Nat → ClassId) (dI : Nat → Nat → Nat) (q_bk : Nat) (w : Int32) (h : Int32) (sty : Int32) (bd : Int32) (str : Int32) (cel : Int32) (a0 : Int32) (u : Int32) (hF : f_K_hasStyle sty a0 = u) : Met l y_K_hasStyle (kws y_K_hasStyle c_K_hasStyle 2 (some .boolean)) rm_K_hasStyle (kRe (dC, dI) [.ref q_bk, .int a0] [(q_bk, .inr (1, [.int w, .int h, .int sty, .int bd, .int str, .int cel]))] []) (k2_QcV (.int u)) 0 0 (fun _ => False) := by
  unfold f_K_hasStyle at hF
  refine kR_of (cc := c_K_hasStyle) (maxL := 2) (ret := (some .boolean)) (by decide) (Nat.le_of_ble_eq_true rfl) ?_
  intro p e s m args below meth c Q hQ hfx hP hK hN ls hl
  obtain ⟨hx, hb, hr, hml, hown, hts, hlocks⟩ := hfx
  have hown : s.vm.findClass R_K = some m.cls := hown
  have hl : lv_has ls 2 [(0, .ref q_bk), (1, .int a0)] := hl
  refine lv_aload_n hx hb d_K_hasStyle_0 rfl (lv_at hl 0 rfl) ?_
  refine va_get (D := (dC, dI)) (ci := 1) (v := .int sty) (C := R_K) (T := T_K) (N := 6) hx hb hts ki_K hown hK hP 0 rfl rfl 2 (by decide) (hts _ kw_1_45) (fun _ h9 => h9) rfl d_K_hasStyle_1 ?_
  refine lv_iload_n hx hb d_K_hasStyle_4 rfl (lv_at hl 1 rfl) ?_
  refine lv_iand hx hb d_K_hasStyle_5 ?_
  refine lv_if_eq (tgt := 13) hx hb d_K_hasStyle_6 (by decide) (fun c1 => ?_) (fun c1 => ?_)
  · have hF := kc_pos c1 hF
    refine lv_iconst (v := 0) hx hb d_K_hasStyle_13 (by decide) ?_
    subst hF
    exact kr_zret hx hb hr hlocks hQ (by decide) d_K_hasStyle_14
  have hF := kc_neg c1 hF
  refine lv_iconst (v := 1) hx hb d_K_hasStyle_9 (by decide) ?_
  refine lv_goto (tgt := 14) hx hb d_K_hasStyle_10 (by decide) ?_
  subst hF
  exact kr_zret hx hb hr hlocks hQ (by decide) d_K_hasStyle_14
abbrev rm_K_isBlindBelow : Room := { frames := 1, cells := 0, slots := 0, locals := 21 }
set_option maxHeartbeats 4000000 in
set_option maxRecDepth 100000 in
theorem m_K_isBlindBelow (l : Launch) (dC : Nat → ClassId) (dI : Nat → Nat → Nat) (q_bk : Nat) (w : Int32) (h : Int32) (sty : Int32) (bd : Int32) (str : Int32) (cel : Int32) (a0 : Int32) (u : Int32) (hF : f_K_isBlindBelow sty a0 = u) : Met l y_K_isBlindBelow (kws y_K_isBlindBelow c_K_isBlindBelow 2 (some .boolean)) rm_K_isBlindBelow (kRe (dC, dI) [.ref q_bk, .int a0] [(q_bk, .inr (1, [.int w, .int h, .int sty, .int bd, .int str, .int cel]))] []) (k2_QcV (.int u)) 0 0 (fun _ => False) := by
  unfold f_K_isBlindBelow at hF
  refine kR_of (cc := c_K_isBlindBelow) (maxL := 2) (ret := (some .boolean)) (by decide) (Nat.le_of_ble_eq_true rfl) ?_
  intro p e s m args below meth c Q hQ hfx hP hK hN ls hl
  obtain ⟨hx, hb, hr, hml, hown, hts, hlocks⟩ := hfx
  have hown : s.vm.findClass R_K = some m.cls := hown
  have hl : lv_has ls 2 [(0, .ref q_bk), (1, .int a0)] := hl
  refine lv_aload_n hx hb d_K_isBlindBelow_0 rfl (lv_at hl 0 rfl) ?_
  refine lv_bipush (v := 8) hx hb d_K_isBlindBelow_1 (by decide) ?_
  refine kr_call (va_runV (As := [.int (8 : Int32)]) (rest := []) ⟨hx, hb, hml, hown, hts⟩ (m_K_hasStyle l dC dI q_bk w h sty bd str cel (8 : Int32) (f_K_hasStyle sty (8 : Int32)) rfl) (cwV 1 hts (kgV kw_2_1 kw_1_228 kw_1_229 kw_1_2 kw_1_230) rfl rfl rfl (by decide +kernel) ⟨Nat.le_of_ble_eq_true rfl, Nat.le_of_ble_eq_true rfl⟩) ⟨kRe_blind, va_recv hK hP (ci := 1) (q0 := 0) rfl rfl, kRe_of (hP.sub [0] rfl) (hK.sub [] rfl) hN⟩ rfl rfl hl.1 rfl (lv_room (Nat.le_of_ble_eq_true rfl)) d_K_isBlindBelow_3 ⟨Nat.le_of_ble_eq_true rfl, Nat.le_of_ble_eq_true rfl⟩) ?_
  refine lv_if_eq (tgt := 20) hx hb d_K_isBlindBelow_6 (by decide) (fun c1 => ?_) (fun c1 => ?_)
  · have hF := kc_pos c1 hF
    refine lv_iconst (v := 0) hx hb d_K_isBlindBelow_20 (by decide) ?_
    subst hF
    exact kr_zret hx hb hr hlocks hQ (by decide) d_K_isBlindBelow_21
  have hF := kc_neg c1 hF
  refine lv_iload_n hx hb d_K_isBlindBelow_9 rfl (lv_at hl 1 rfl) ?_
  refine lv_iconst (v := 4) hx hb d_K_isBlindBelow_10 (by decide) ?_
  refine lv_irem hx hb d_K_isBlindBelow_11 (by decide) ?_
  refine W.eq (g2 := F0 m 12 ls [.int (krem a0 (4 : Int32))]) rfl ?_
  refine lv_iconst (v := 3) hx hb d_K_isBlindBelow_12 (by decide) ?_
  refine lv_icmp_ne (tgt := 20) hx hb d_K_isBlindBelow_13 (by decide) (fun c2 => ?_) (fun c2 => ?_)
  · have hF := kc_neg c2 hF
    refine lv_iconst (v := 0) hx hb d_K_isBlindBelow_20 (by decide) ?_
    subst hF
    exact kr_zret hx hb hr hlocks hQ (by decide) d_K_isBlindBelow_21
  have hF := kc_pos c2 hF
  refine lv_iconst (v := 1) hx hb d_K_isBlindBelow_16 (by decide) ?_
  refine lv_goto (tgt := 21) hx hb d_K_isBlindBelow_17 (by decide) ?_
  subst hF
  exact kr_zret hx hb hr hlocks hQ (by decide) d_K_isBlindBelow_21

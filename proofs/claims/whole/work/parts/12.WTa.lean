def f_WT_found (sgn : (Nat → Int32)) (n_sg : Nat) (a0 : Int32) : Option (Int32) :=
  if (a0 < 0 ∨ n_sg ≤ a0.toNatClampNeg) then none else (if (sgn a0.toNatClampNeg) = 0 then some (0 : Int32) else some (1 : Int32))
def f_WT_contextOf (sgn : (Nat → Int32)) (bd : Int32) (str : Int32) (n_sg : Nat) (a0 : Int32) (a1 : Int32) : Option (Int32) :=
  ((f_WT_found sgn n_sg (a0 - (1 : Int32))).bind fun u1 => ((f_WT_found sgn n_sg (a0 + (1 : Int32))).bind fun u2 => ((f_WT_found sgn n_sg (a0 - str)).bind fun u3 => ((f_WT_found sgn n_sg ((a0 - str) - (1 : Int32))).bind fun u4 => ((f_WT_found sgn n_sg ((a0 - str) + (1 : Int32))).bind fun u5 => (((if a1 = 0 then ((f_WT_found sgn n_sg (a0 + str)).bind fun u8 => ((f_WT_found sgn n_sg ((a0 + str) - (1 : Int32))).bind fun u9 => ((f_WT_found sgn n_sg ((a0 + str) + (1 : Int32))).bind fun u10 => some (((u4 + u5) + (u9 + u10)), (u3 + u8))))) else some ((u4 + u5), u3)) : Option (Int32 × Int32)).bind fun u7 => some (f_ST_ofSize bd (u1 + u2) u7.2 u7.1)))))))
def f_WT_isOpen (pl : Int32) (sgn : (Nat → Int32)) (low : (Nat → Int32)) (n_sg : Nat) (n_lo : Nat) (a0 : Int32) : Option (Int32) :=
  if (a0 < 0 ∨ n_sg ≤ a0.toNatClampNeg) then none else (if (sgn a0.toNatClampNeg) = 0 then if (a0 < 0 ∨ n_lo ≤ a0.toNatClampNeg) then none else (if (low a0.toNatClampNeg) ≤ pl then some (0 : Int32) else some (1 : Int32)) else some (0 : Int32))
def f_WT_refiningContextOf (pl : Int32) (sgn : (Nat → Int32)) (siz : (Nat → Int32)) (bd : Int32) (str : Int32) (n_sg : Nat) (n_sz : Nat) (a0 : Int32) (a1 : Int32) : Option (Int32) :=
  if (a0 < 0 ∨ n_sz ≤ a0.toNatClampNeg) then none else (if (siz a0.toNatClampNeg) = ((2 : Int32) <<< (pl &&& 31)) then ((f_WT_contextOf sgn bd str n_sg a0 a1).bind fun u3 => (((if u3 = 0 then some (1 : Int32) else some (0 : Int32)) : Option (Int32)).bind fun u5 => (if u5 = 0 then some (15 : Int32) else some (14 : Int32)))) else some (16 : Int32))
def f_WT_exchangeSign (pl : Int32) (raw : Int32) (sgn : (Nat → Int32)) (siz : (Nat → Int32)) (str : Int32) (cnt : Int32) (pn : Int32) (sam : (Nat → Int32)) (row : (Nat → Int32)) (n_sg : Nat) (n_sz : Nat) (n_sa : Nat) (n_ro : Nat) (a0 : Int32) (a1 : Int32) : Option ((Nat → Int32) × (Nat → Int32) × Int32 × (Nat → Int32)) :=
  (((if a1 = 0 then if ((a0 + str) < 0 ∨ n_sg ≤ (a0 + str).toNatClampNeg) then none else some (sgn (a0 + str).toNatClampNeg) else some (0 : Int32)) : Option (Int32)).bind fun u2 => if ((a0 - (1 : Int32)) < 0 ∨ n_sg ≤ (a0 - (1 : Int32)).toNatClampNeg) then none else if ((a0 + (1 : Int32)) < 0 ∨ n_sg ≤ (a0 + (1 : Int32)).toNatClampNeg) then none else if ((a0 - str) < 0 ∨ n_sg ≤ (a0 - str).toNatClampNeg) then none else (((if raw = 0 then (if (f_ST_turnsSign (f_ST_within ((sgn (a0 - (1 : Int32)).toNatClampNeg) + (sgn (a0 + (1 : Int32)).toNatClampNeg)) (-1 : Int32) (1 : Int32)) (f_ST_within ((sgn (a0 - str).toNatClampNeg) + u2) (-1 : Int32) (1 : Int32))) = 0 then some (0 : Int32) else some (1 : Int32)) else some (0 : Int32)) : Option (Int32)).bind fun u7 => (((if raw = 0 then some (f_ST_ofSign (f_ST_within ((sgn (a0 - (1 : Int32)).toNatClampNeg) + (sgn (a0 + (1 : Int32)).toNatClampNeg)) (-1 : Int32) (1 : Int32)) (f_ST_within ((sgn (a0 - str).toNatClampNeg) + u2) (-1 : Int32) (1 : Int32))) else some (19 : Int32)) : Option (Int32)).bind fun u9 => ((f_T_signBit sam n_sa a0).bind fun u10 => ((f_T_exchange cnt pn row n_ro (u10 ^^^ u7) u9).bind fun u11 => (((if (u11.1 ^^^ u7) = (1 : Int32) then some (-1 : Int32) else some (1 : Int32)) : Option (Int32)).bind fun u13 => if (a0 < 0 ∨ n_sg ≤ a0.toNatClampNeg) then none else if (a0 < 0 ∨ n_sz ≤ a0.toNatClampNeg) then none else some ((upd sgn a0.toNatClampNeg u13), (upd siz a0.toNatClampNeg ((1 : Int32) <<< (pl &&& 31))), u11.2.1, u11.2.2)))))))
def f_WT_exchangeSize (pl : Int32) (raw : Int32) (sgn : (Nat → Int32)) (siz : (Nat → Int32)) (low : (Nat → Int32)) (str : Int32) (cnt : Int32) (pn : Int32) (sam : (Nat → Int32)) (row : (Nat → Int32)) (n_sg : Nat) (n_sz : Nat) (n_lo : Nat) (n_sa : Nat) (n_ro : Nat) (a0 : Int32) (a1 : Int32) (a2 : Int32) : Option ((Nat → Int32) × (Nat → Int32) × (Nat → Int32) × Int32 × (Nat → Int32)) :=
  if (a0 < 0 ∨ n_lo ≤ a0.toNatClampNeg) then none else ((f_T_sizeBit sam n_sa a0 pl).bind fun u2 => (((if raw = 0 then some (a2) else some (19 : Int32)) : Option (Int32)).bind fun u4 => ((f_T_exchange cnt pn row n_ro u2 u4).bind fun u5 => (if u5.1 = (1 : Int32) then ((f_WT_exchangeSign pl raw sgn siz str u5.2.1 pn sam u5.2.2 n_sg n_sz n_sa n_ro a0 a1).bind fun u7 => some (u7.1, u7.2.1, (upd low a0.toNatClampNeg pl), u7.2.2.1, u7.2.2.2)) else some (sgn, siz, (upd low a0.toNatClampNeg pl), u5.2.1, u5.2.2)))))
def f_WT_exchangeMarks_L4 (pn : Int32) (n_ro : Nat) : Nat → Int32 → Int32 → Int32 → (Nat → Int32) → Option (Int32 × Int32 × Int32 × (Nat → Int32))
  | 0, _, _, _, _ => none
  | N + 1, v4_1, v4_2, cnt_4, row_4 => (if (4 : Int32) ≤ v4_2 then some (v4_1, v4_2, cnt_4, row_4) else ((f_T_exchange cnt_4 pn row_4 n_ro ((1 : Int32) - (krem v4_2 (2 : Int32))) (18 : Int32)).bind fun u4 => (((if u4.1 = ((1 : Int32) - (krem v4_2 (2 : Int32))) then some (v4_1) else some (0 : Int32)) : Option (Int32)).bind fun u6 => f_WT_exchangeMarks_L4 pn n_ro N u6 (v4_2 + 1) u4.2.1 u4.2.2)))
def f_WT_exchangeMarks (cnt : Int32) (pn : Int32) (row : (Nat → Int32)) (n_ro : Nat) : Option (Int32 × Int32 × (Nat → Int32)) :=
  ((f_WT_exchangeMarks_L4 pn n_ro kBig (1 : Int32) (0 : Int32) cnt row).bind fun u1 => if ¬ (u1.1 = 0 ∨ u1.1 = 1) then none else some (u1.1, u1.2.2.1, u1.2.2.2))
theorem d_W_found_0 : decode c_W_found 0 = .ok (.aload_n 0, 1) := by decide +kernel
theorem d_W_found_1 : decode c_W_found 1 = .ok (.getfield 25, 3) := by decide +kernel
theorem d_W_found_4 : decode c_W_found 4 = .ok (.iload_n 1, 1) := by decide +kernel
theorem d_W_found_5 : decode c_W_found 5 = .ok (.iaload, 1) := by decide +kernel
theorem d_W_found_6 : decode c_W_found 6 = .ok (.ifCond .ne 7, 3) := by decide +kernel
theorem d_W_found_9 : decode c_W_found 9 = .ok (.iconst 0, 1) := by decide +kernel
theorem d_W_found_10 : decode c_W_found 10 = .ok (.goto 4, 3) := by decide +kernel
theorem d_W_found_13 : decode c_W_found 13 = .ok (.iconst 1, 1) := by decide +kernel
theorem d_W_found_14 : decode c_W_found 14 = .ok (.ireturn, 1) := by decide +kernel
theorem d_W_contextOf_0 : decode c_W_contextOf 0 = .ok (.iload_n 1, 1) := by decide +kernel
theorem d_W_contextOf_1 : decode c_W_contextOf 1 = .ok (.aload_n 0, 1) := by decide +kernel
theorem d_W_contextOf_2 : decode c_W_contextOf 2 = .ok (.getfield 9, 3) := by decide +kernel
theorem d_W_contextOf_5 : decode c_W_contextOf 5 = .ok (.getfield 130, 3) := by decide +kernel
theorem d_W_contextOf_8 : decode c_W_contextOf 8 = .ok (.isub, 1) := by decide +kernel
theorem d_W_contextOf_9 : decode c_W_contextOf 9 = .ok (.istore_n 3, 1) := by decide +kernel
theorem d_W_contextOf_10 : decode c_W_contextOf 10 = .ok (.iload_n 1, 1) := by decide +kernel
theorem d_W_contextOf_11 : decode c_W_contextOf 11 = .ok (.aload_n 0, 1) := by decide +kernel
theorem d_W_contextOf_12 : decode c_W_contextOf 12 = .ok (.getfield 9, 3) := by decide +kernel
theorem d_W_contextOf_15 : decode c_W_contextOf 15 = .ok (.getfield 130, 3) := by decide +kernel
theorem d_W_contextOf_18 : decode c_W_contextOf 18 = .ok (.iadd, 1) := by decide +kernel
theorem d_W_contextOf_19 : decode c_W_contextOf 19 = .ok (.istore 4, 2) := by decide +kernel
theorem d_W_contextOf_21 : decode c_W_contextOf 21 = .ok (.aload_n 0, 1) := by decide +kernel
theorem d_W_contextOf_22 : decode c_W_contextOf 22 = .ok (.iload_n 1, 1) := by decide +kernel
theorem d_W_contextOf_23 : decode c_W_contextOf 23 = .ok (.iconst 1, 1) := by decide +kernel
theorem d_W_contextOf_24 : decode c_W_contextOf 24 = .ok (.isub, 1) := by decide +kernel
theorem d_W_contextOf_25 : decode c_W_contextOf 25 = .ok (.invokevirtual 147, 3) := by decide +kernel
theorem d_W_contextOf_28 : decode c_W_contextOf 28 = .ok (.aload_n 0, 1) := by decide +kernel
theorem d_W_contextOf_29 : decode c_W_contextOf 29 = .ok (.iload_n 1, 1) := by decide +kernel
theorem d_W_contextOf_30 : decode c_W_contextOf 30 = .ok (.iconst 1, 1) := by decide +kernel
theorem d_W_contextOf_31 : decode c_W_contextOf 31 = .ok (.iadd, 1) := by decide +kernel
theorem d_W_contextOf_32 : decode c_W_contextOf 32 = .ok (.invokevirtual 147, 3) := by decide +kernel
theorem d_W_contextOf_35 : decode c_W_contextOf 35 = .ok (.iadd, 1) := by decide +kernel
theorem d_W_contextOf_36 : decode c_W_contextOf 36 = .ok (.istore 5, 2) := by decide +kernel
theorem d_W_contextOf_38 : decode c_W_contextOf 38 = .ok (.aload_n 0, 1) := by decide +kernel
theorem d_W_contextOf_39 : decode c_W_contextOf 39 = .ok (.iload_n 3, 1) := by decide +kernel
theorem d_W_contextOf_40 : decode c_W_contextOf 40 = .ok (.invokevirtual 147, 3) := by decide +kernel
theorem d_W_contextOf_43 : decode c_W_contextOf 43 = .ok (.istore 6, 2) := by decide +kernel
theorem d_W_contextOf_45 : decode c_W_contextOf 45 = .ok (.aload_n 0, 1) := by decide +kernel
theorem d_W_contextOf_46 : decode c_W_contextOf 46 = .ok (.iload_n 3, 1) := by decide +kernel
theorem d_W_contextOf_47 : decode c_W_contextOf 47 = .ok (.iconst 1, 1) := by decide +kernel
theorem d_W_contextOf_48 : decode c_W_contextOf 48 = .ok (.isub, 1) := by decide +kernel
theorem d_W_contextOf_49 : decode c_W_contextOf 49 = .ok (.invokevirtual 147, 3) := by decide +kernel
theorem d_W_contextOf_52 : decode c_W_contextOf 52 = .ok (.aload_n 0, 1) := by decide +kernel
theorem d_W_contextOf_53 : decode c_W_contextOf 53 = .ok (.iload_n 3, 1) := by decide +kernel
theorem d_W_contextOf_54 : decode c_W_contextOf 54 = .ok (.iconst 1, 1) := by decide +kernel
theorem d_W_contextOf_55 : decode c_W_contextOf 55 = .ok (.iadd, 1) := by decide +kernel
theorem d_W_contextOf_56 : decode c_W_contextOf 56 = .ok (.invokevirtual 147, 3) := by decide +kernel
theorem d_W_contextOf_59 : decode c_W_contextOf 59 = .ok (.iadd, 1) := by decide +kernel
theorem d_W_contextOf_60 : decode c_W_contextOf 60 = .ok (.istore 7, 2) := by decide +kernel
theorem d_W_contextOf_62 : decode c_W_contextOf 62 = .ok (.iload_n 2, 1) := by decide +kernel
theorem d_W_contextOf_63 : decode c_W_contextOf 63 = .ok (.ifCond .ne 36, 3) := by decide +kernel
theorem d_W_contextOf_66 : decode c_W_contextOf 66 = .ok (.iload 6, 2) := by decide +kernel
theorem d_W_contextOf_68 : decode c_W_contextOf 68 = .ok (.aload_n 0, 1) := by decide +kernel
theorem d_W_contextOf_69 : decode c_W_contextOf 69 = .ok (.iload 4, 2) := by decide +kernel
theorem d_W_contextOf_71 : decode c_W_contextOf 71 = .ok (.invokevirtual 147, 3) := by decide +kernel
theorem d_W_contextOf_74 : decode c_W_contextOf 74 = .ok (.iadd, 1) := by decide +kernel
theorem d_W_contextOf_75 : decode c_W_contextOf 75 = .ok (.istore 6, 2) := by decide +kernel
theorem d_W_contextOf_77 : decode c_W_contextOf 77 = .ok (.iload 7, 2) := by decide +kernel
theorem d_W_contextOf_79 : decode c_W_contextOf 79 = .ok (.aload_n 0, 1) := by decide +kernel
theorem d_W_contextOf_80 : decode c_W_contextOf 80 = .ok (.iload 4, 2) := by decide +kernel
theorem d_W_contextOf_82 : decode c_W_contextOf 82 = .ok (.iconst 1, 1) := by decide +kernel
theorem d_W_contextOf_83 : decode c_W_contextOf 83 = .ok (.isub, 1) := by decide +kernel
theorem d_W_contextOf_84 : decode c_W_contextOf 84 = .ok (.invokevirtual 147, 3) := by decide +kernel
theorem d_W_contextOf_87 : decode c_W_contextOf 87 = .ok (.aload_n 0, 1) := by decide +kernel
theorem d_W_contextOf_88 : decode c_W_contextOf 88 = .ok (.iload 4, 2) := by decide +kernel
theorem d_W_contextOf_90 : decode c_W_contextOf 90 = .ok (.iconst 1, 1) := by decide +kernel
theorem d_W_contextOf_91 : decode c_W_contextOf 91 = .ok (.iadd, 1) := by decide +kernel
theorem d_W_contextOf_92 : decode c_W_contextOf 92 = .ok (.invokevirtual 147, 3) := by decide +kernel
theorem d_W_contextOf_95 : decode c_W_contextOf 95 = .ok (.iadd, 1) := by decide +kernel
theorem d_W_contextOf_96 : decode c_W_contextOf 96 = .ok (.iadd, 1) := by decide +kernel
theorem d_W_contextOf_97 : decode c_W_contextOf 97 = .ok (.istore 7, 2) := by decide +kernel
theorem d_W_contextOf_99 : decode c_W_contextOf 99 = .ok (.aload_n 0, 1) := by decide +kernel
theorem d_W_contextOf_100 : decode c_W_contextOf 100 = .ok (.getfield 9, 3) := by decide +kernel
theorem d_W_contextOf_103 : decode c_W_contextOf 103 = .ok (.getfield 150, 3) := by decide +kernel
theorem d_W_contextOf_106 : decode c_W_contextOf 106 = .ok (.iload 5, 2) := by decide +kernel
theorem d_W_contextOf_108 : decode c_W_contextOf 108 = .ok (.iload 6, 2) := by decide +kernel
theorem d_W_contextOf_110 : decode c_W_contextOf 110 = .ok (.iload 7, 2) := by decide +kernel
theorem d_W_contextOf_112 : decode c_W_contextOf 112 = .ok (.invokestatic 153, 3) := by decide +kernel
theorem d_W_contextOf_115 : decode c_W_contextOf 115 = .ok (.ireturn, 1) := by decide +kernel
theorem d_W_isOpen_0 : decode c_W_isOpen 0 = .ok (.aload_n 0, 1) := by decide +kernel
theorem d_W_isOpen_1 : decode c_W_isOpen 1 = .ok (.getfield 25, 3) := by decide +kernel
theorem d_W_isOpen_4 : decode c_W_isOpen 4 = .ok (.iload_n 1, 1) := by decide +kernel
theorem d_W_isOpen_5 : decode c_W_isOpen 5 = .ok (.iaload, 1) := by decide +kernel
theorem d_W_isOpen_6 : decode c_W_isOpen 6 = .ok (.ifCond .ne 20, 3) := by decide +kernel
theorem d_W_isOpen_9 : decode c_W_isOpen 9 = .ok (.aload_n 0, 1) := by decide +kernel
theorem d_W_isOpen_10 : decode c_W_isOpen 10 = .ok (.getfield 32, 3) := by decide +kernel
theorem d_W_isOpen_13 : decode c_W_isOpen 13 = .ok (.iload_n 1, 1) := by decide +kernel
theorem d_W_isOpen_14 : decode c_W_isOpen 14 = .ok (.iaload, 1) := by decide +kernel
theorem d_W_isOpen_15 : decode c_W_isOpen 15 = .ok (.aload_n 0, 1) := by decide +kernel
theorem d_W_isOpen_16 : decode c_W_isOpen 16 = .ok (.getfield 46, 3) := by decide +kernel
theorem d_W_isOpen_19 : decode c_W_isOpen 19 = .ok (.if_icmp .le 7, 3) := by decide +kernel
theorem d_W_isOpen_22 : decode c_W_isOpen 22 = .ok (.iconst 1, 1) := by decide +kernel
theorem d_W_isOpen_23 : decode c_W_isOpen 23 = .ok (.goto 4, 3) := by decide +kernel
theorem d_W_isOpen_26 : decode c_W_isOpen 26 = .ok (.iconst 0, 1) := by decide +kernel
theorem d_W_isOpen_27 : decode c_W_isOpen 27 = .ok (.ireturn, 1) := by decide +kernel
theorem d_W_refiningContextOf_0 : decode c_W_refiningContextOf 0 = .ok (.aload_n 0, 1) := by decide +kernel
theorem d_W_refiningContextOf_1 : decode c_W_refiningContextOf 1 = .ok (.getfield 29, 3) := by decide +kernel
theorem d_W_refiningContextOf_4 : decode c_W_refiningContextOf 4 = .ok (.iload_n 1, 1) := by decide +kernel
theorem d_W_refiningContextOf_5 : decode c_W_refiningContextOf 5 = .ok (.iaload, 1) := by decide +kernel
theorem d_W_refiningContextOf_6 : decode c_W_refiningContextOf 6 = .ok (.iconst 2, 1) := by decide +kernel
theorem d_W_refiningContextOf_7 : decode c_W_refiningContextOf 7 = .ok (.aload_n 0, 1) := by decide +kernel
theorem d_W_refiningContextOf_8 : decode c_W_refiningContextOf 8 = .ok (.getfield 46, 3) := by decide +kernel
theorem d_W_refiningContextOf_11 : decode c_W_refiningContextOf 11 = .ok (.ishl, 1) := by decide +kernel
theorem d_W_refiningContextOf_12 : decode c_W_refiningContextOf 12 = .ok (.if_icmp .eq 6, 3) := by decide +kernel
theorem d_W_refiningContextOf_15 : decode c_W_refiningContextOf 15 = .ok (.bipush 16, 2) := by decide +kernel
theorem d_W_refiningContextOf_17 : decode c_W_refiningContextOf 17 = .ok (.ireturn, 1) := by decide +kernel
theorem d_W_refiningContextOf_18 : decode c_W_refiningContextOf 18 = .ok (.aload_n 0, 1) := by decide +kernel
theorem d_W_refiningContextOf_19 : decode c_W_refiningContextOf 19 = .ok (.iload_n 1, 1) := by decide +kernel
theorem d_W_refiningContextOf_20 : decode c_W_refiningContextOf 20 = .ok (.iload_n 2, 1) := by decide +kernel
theorem d_W_refiningContextOf_21 : decode c_W_refiningContextOf 21 = .ok (.invokevirtual 89, 3) := by decide +kernel
theorem d_W_refiningContextOf_24 : decode c_W_refiningContextOf 24 = .ok (.ifCond .ne 7, 3) := by decide +kernel
theorem d_W_refiningContextOf_27 : decode c_W_refiningContextOf 27 = .ok (.iconst 1, 1) := by decide +kernel
theorem d_W_refiningContextOf_28 : decode c_W_refiningContextOf 28 = .ok (.goto 4, 3) := by decide +kernel
theorem d_W_refiningContextOf_31 : decode c_W_refiningContextOf 31 = .ok (.iconst 0, 1) := by decide +kernel
theorem d_W_refiningContextOf_32 : decode c_W_refiningContextOf 32 = .ok (.istore_n 3, 1) := by decide +kernel
theorem d_W_refiningContextOf_33 : decode c_W_refiningContextOf 33 = .ok (.iload_n 3, 1) := by decide +kernel
theorem d_W_refiningContextOf_34 : decode c_W_refiningContextOf 34 = .ok (.ifCond .eq 8, 3) := by decide +kernel
theorem d_W_refiningContextOf_37 : decode c_W_refiningContextOf 37 = .ok (.bipush 14, 2) := by decide +kernel
theorem d_W_refiningContextOf_39 : decode c_W_refiningContextOf 39 = .ok (.goto 5, 3) := by decide +kernel
theorem d_W_refiningContextOf_42 : decode c_W_refiningContextOf 42 = .ok (.bipush 15, 2) := by decide +kernel
theorem d_W_refiningContextOf_44 : decode c_W_refiningContextOf 44 = .ok (.ireturn, 1) := by decide +kernel
theorem d_W_exchangeSign_0 : decode c_W_exchangeSign 0 = .ok (.iload_n 2, 1) := by decide +kernel
theorem d_W_exchangeSign_1 : decode c_W_exchangeSign 1 = .ok (.ifCond .eq 7, 3) := by decide +kernel
theorem d_W_exchangeSign_4 : decode c_W_exchangeSign 4 = .ok (.iconst 0, 1) := by decide +kernel
theorem d_W_exchangeSign_5 : decode c_W_exchangeSign 5 = .ok (.goto 17, 3) := by decide +kernel
theorem d_W_exchangeSign_8 : decode c_W_exchangeSign 8 = .ok (.aload_n 0, 1) := by decide +kernel
theorem d_W_exchangeSign_9 : decode c_W_exchangeSign 9 = .ok (.getfield 25, 3) := by decide +kernel
theorem d_W_exchangeSign_12 : decode c_W_exchangeSign 12 = .ok (.iload_n 1, 1) := by decide +kernel
theorem d_W_exchangeSign_13 : decode c_W_exchangeSign 13 = .ok (.aload_n 0, 1) := by decide +kernel
theorem d_W_exchangeSign_14 : decode c_W_exchangeSign 14 = .ok (.getfield 9, 3) := by decide +kernel
theorem d_W_exchangeSign_17 : decode c_W_exchangeSign 17 = .ok (.getfield 130, 3) := by decide +kernel
theorem d_W_exchangeSign_20 : decode c_W_exchangeSign 20 = .ok (.iadd, 1) := by decide +kernel
theorem d_W_exchangeSign_21 : decode c_W_exchangeSign 21 = .ok (.iaload, 1) := by decide +kernel
theorem d_W_exchangeSign_22 : decode c_W_exchangeSign 22 = .ok (.istore_n 3, 1) := by decide +kernel
theorem d_W_exchangeSign_23 : decode c_W_exchangeSign 23 = .ok (.aload_n 0, 1) := by decide +kernel
theorem d_W_exchangeSign_24 : decode c_W_exchangeSign 24 = .ok (.getfield 25, 3) := by decide +kernel
theorem d_W_exchangeSign_27 : decode c_W_exchangeSign 27 = .ok (.iload_n 1, 1) := by decide +kernel
theorem d_W_exchangeSign_28 : decode c_W_exchangeSign 28 = .ok (.iconst 1, 1) := by decide +kernel
theorem d_W_exchangeSign_29 : decode c_W_exchangeSign 29 = .ok (.isub, 1) := by decide +kernel
theorem d_W_exchangeSign_30 : decode c_W_exchangeSign 30 = .ok (.iaload, 1) := by decide +kernel
theorem d_W_exchangeSign_31 : decode c_W_exchangeSign 31 = .ok (.aload_n 0, 1) := by decide +kernel
theorem d_W_exchangeSign_32 : decode c_W_exchangeSign 32 = .ok (.getfield 25, 3) := by decide +kernel
theorem d_W_exchangeSign_35 : decode c_W_exchangeSign 35 = .ok (.iload_n 1, 1) := by decide +kernel
theorem d_W_exchangeSign_36 : decode c_W_exchangeSign 36 = .ok (.iconst 1, 1) := by decide +kernel
theorem d_W_exchangeSign_37 : decode c_W_exchangeSign 37 = .ok (.iadd, 1) := by decide +kernel
theorem d_W_exchangeSign_38 : decode c_W_exchangeSign 38 = .ok (.iaload, 1) := by decide +kernel
theorem d_W_exchangeSign_39 : decode c_W_exchangeSign 39 = .ok (.iadd, 1) := by decide +kernel
theorem d_W_exchangeSign_40 : decode c_W_exchangeSign 40 = .ok (.iconst (-1), 1) := by decide +kernel
theorem d_W_exchangeSign_41 : decode c_W_exchangeSign 41 = .ok (.iconst 1, 1) := by decide +kernel
theorem d_W_exchangeSign_42 : decode c_W_exchangeSign 42 = .ok (.invokestatic 133, 3) := by decide +kernel
theorem d_W_exchangeSign_45 : decode c_W_exchangeSign 45 = .ok (.istore 4, 2) := by decide +kernel
theorem d_W_exchangeSign_47 : decode c_W_exchangeSign 47 = .ok (.aload_n 0, 1) := by decide +kernel
theorem d_W_exchangeSign_48 : decode c_W_exchangeSign 48 = .ok (.getfield 25, 3) := by decide +kernel
theorem d_W_exchangeSign_51 : decode c_W_exchangeSign 51 = .ok (.iload_n 1, 1) := by decide +kernel
theorem d_W_exchangeSign_52 : decode c_W_exchangeSign 52 = .ok (.aload_n 0, 1) := by decide +kernel
theorem d_W_exchangeSign_53 : decode c_W_exchangeSign 53 = .ok (.getfield 9, 3) := by decide +kernel
theorem d_W_exchangeSign_56 : decode c_W_exchangeSign 56 = .ok (.getfield 130, 3) := by decide +kernel
theorem d_W_exchangeSign_59 : decode c_W_exchangeSign 59 = .ok (.isub, 1) := by decide +kernel
theorem d_W_exchangeSign_60 : decode c_W_exchangeSign 60 = .ok (.iaload, 1) := by decide +kernel
theorem d_W_exchangeSign_61 : decode c_W_exchangeSign 61 = .ok (.iload_n 3, 1) := by decide +kernel
theorem d_W_exchangeSign_62 : decode c_W_exchangeSign 62 = .ok (.iadd, 1) := by decide +kernel
theorem d_W_exchangeSign_63 : decode c_W_exchangeSign 63 = .ok (.iconst (-1), 1) := by decide +kernel
theorem d_W_exchangeSign_64 : decode c_W_exchangeSign 64 = .ok (.iconst 1, 1) := by decide +kernel
theorem d_W_exchangeSign_65 : decode c_W_exchangeSign 65 = .ok (.invokestatic 133, 3) := by decide +kernel
theorem d_W_exchangeSign_68 : decode c_W_exchangeSign 68 = .ok (.istore 5, 2) := by decide +kernel
theorem d_W_exchangeSign_70 : decode c_W_exchangeSign 70 = .ok (.aload_n 0, 1) := by decide +kernel
theorem d_W_exchangeSign_71 : decode c_W_exchangeSign 71 = .ok (.getfield 53, 3) := by decide +kernel
theorem d_W_exchangeSign_74 : decode c_W_exchangeSign 74 = .ok (.ifCond .ne 17, 3) := by decide +kernel
theorem d_W_exchangeSign_77 : decode c_W_exchangeSign 77 = .ok (.iload 4, 2) := by decide +kernel
theorem d_W_exchangeSign_79 : decode c_W_exchangeSign 79 = .ok (.iload 5, 2) := by decide +kernel
theorem d_W_exchangeSign_81 : decode c_W_exchangeSign 81 = .ok (.invokestatic 137, 3) := by decide +kernel
theorem d_W_exchangeSign_84 : decode c_W_exchangeSign 84 = .ok (.ifCond .eq 7, 3) := by decide +kernel
theorem d_W_exchangeSign_87 : decode c_W_exchangeSign 87 = .ok (.iconst 1, 1) := by decide +kernel
theorem d_W_exchangeSign_88 : decode c_W_exchangeSign 88 = .ok (.goto 4, 3) := by decide +kernel
theorem d_W_exchangeSign_91 : decode c_W_exchangeSign 91 = .ok (.iconst 0, 1) := by decide +kernel
theorem d_W_exchangeSign_92 : decode c_W_exchangeSign 92 = .ok (.istore 6, 2) := by decide +kernel
theorem d_W_exchangeSign_94 : decode c_W_exchangeSign 94 = .ok (.aload_n 0, 1) := by decide +kernel
theorem d_W_exchangeSign_95 : decode c_W_exchangeSign 95 = .ok (.getfield 53, 3) := by decide +kernel
theorem d_W_exchangeSign_98 : decode c_W_exchangeSign 98 = .ok (.ifCond .eq 8, 3) := by decide +kernel
theorem d_W_exchangeSign_101 : decode c_W_exchangeSign 101 = .ok (.bipush 19, 2) := by decide +kernel
theorem d_W_exchangeSign_103 : decode c_W_exchangeSign 103 = .ok (.goto 10, 3) := by decide +kernel
theorem d_W_exchangeSign_106 : decode c_W_exchangeSign 106 = .ok (.iload 4, 2) := by decide +kernel
theorem d_W_exchangeSign_108 : decode c_W_exchangeSign 108 = .ok (.iload 5, 2) := by decide +kernel
theorem d_W_exchangeSign_110 : decode c_W_exchangeSign 110 = .ok (.invokestatic 141, 3) := by decide +kernel
theorem d_W_exchangeSign_113 : decode c_W_exchangeSign 113 = .ok (.istore 7, 2) := by decide +kernel
theorem d_W_exchangeSign_115 : decode c_W_exchangeSign 115 = .ok (.aload_n 0, 1) := by decide +kernel
theorem d_W_exchangeSign_116 : decode c_W_exchangeSign 116 = .ok (.getfield 15, 3) := by decide +kernel
theorem d_W_exchangeSign_119 : decode c_W_exchangeSign 119 = .ok (.aload_n 0, 1) := by decide +kernel
theorem d_W_exchangeSign_120 : decode c_W_exchangeSign 120 = .ok (.getfield 15, 3) := by decide +kernel
theorem d_W_exchangeSign_123 : decode c_W_exchangeSign 123 = .ok (.iload_n 1, 1) := by decide +kernel
theorem d_W_exchangeSign_124 : decode c_W_exchangeSign 124 = .ok (.invokevirtual 144, 3) := by decide +kernel
theorem d_W_exchangeSign_127 : decode c_W_exchangeSign 127 = .ok (.iload 6, 2) := by decide +kernel
theorem d_W_exchangeSign_129 : decode c_W_exchangeSign 129 = .ok (.ixor, 1) := by decide +kernel
theorem d_W_exchangeSign_130 : decode c_W_exchangeSign 130 = .ok (.iload 7, 2) := by decide +kernel
theorem d_W_exchangeSign_132 : decode c_W_exchangeSign 132 = .ok (.invokevirtual 105, 3) := by decide +kernel
theorem d_W_exchangeSign_135 : decode c_W_exchangeSign 135 = .ok (.iload 6, 2) := by decide +kernel
theorem d_W_exchangeSign_137 : decode c_W_exchangeSign 137 = .ok (.ixor, 1) := by decide +kernel
theorem d_W_exchangeSign_138 : decode c_W_exchangeSign 138 = .ok (.istore 8, 2) := by decide +kernel
theorem d_W_exchangeSign_140 : decode c_W_exchangeSign 140 = .ok (.aload_n 0, 1) := by decide +kernel
theorem d_W_exchangeSign_141 : decode c_W_exchangeSign 141 = .ok (.getfield 25, 3) := by decide +kernel
theorem d_W_exchangeSign_144 : decode c_W_exchangeSign 144 = .ok (.iload_n 1, 1) := by decide +kernel
theorem d_W_exchangeSign_145 : decode c_W_exchangeSign 145 = .ok (.iload 8, 2) := by decide +kernel
theorem d_W_exchangeSign_147 : decode c_W_exchangeSign 147 = .ok (.iconst 1, 1) := by decide +kernel
theorem d_W_exchangeSign_148 : decode c_W_exchangeSign 148 = .ok (.if_icmp .ne 7, 3) := by decide +kernel
theorem d_W_exchangeSign_151 : decode c_W_exchangeSign 151 = .ok (.iconst (-1), 1) := by decide +kernel
theorem d_W_exchangeSign_152 : decode c_W_exchangeSign 152 = .ok (.goto 4, 3) := by decide +kernel
theorem d_W_exchangeSign_155 : decode c_W_exchangeSign 155 = .ok (.iconst 1, 1) := by decide +kernel
theorem d_W_exchangeSign_156 : decode c_W_exchangeSign 156 = .ok (.iastore, 1) := by decide +kernel
theorem d_W_exchangeSign_157 : decode c_W_exchangeSign 157 = .ok (.aload_n 0, 1) := by decide +kernel
theorem d_W_exchangeSign_158 : decode c_W_exchangeSign 158 = .ok (.getfield 29, 3) := by decide +kernel
theorem d_W_exchangeSign_161 : decode c_W_exchangeSign 161 = .ok (.iload_n 1, 1) := by decide +kernel
theorem d_W_exchangeSign_162 : decode c_W_exchangeSign 162 = .ok (.iconst 1, 1) := by decide +kernel
theorem d_W_exchangeSign_163 : decode c_W_exchangeSign 163 = .ok (.aload_n 0, 1) := by decide +kernel
theorem d_W_exchangeSign_164 : decode c_W_exchangeSign 164 = .ok (.getfield 46, 3) := by decide +kernel
theorem d_W_exchangeSign_167 : decode c_W_exchangeSign 167 = .ok (.ishl, 1) := by decide +kernel
theorem d_W_exchangeSign_168 : decode c_W_exchangeSign 168 = .ok (.iastore, 1) := by decide +kernel
theorem d_W_exchangeSign_169 : decode c_W_exchangeSign 169 = .ok (.return_, 1) := by decide +kernel
theorem d_W_exchangeSize_0 : decode c_W_exchangeSize 0 = .ok (.aload_n 0, 1) := by decide +kernel
theorem d_W_exchangeSize_1 : decode c_W_exchangeSize 1 = .ok (.getfield 32, 3) := by decide +kernel
theorem d_W_exchangeSize_4 : decode c_W_exchangeSize 4 = .ok (.iload_n 1, 1) := by decide +kernel
theorem d_W_exchangeSize_5 : decode c_W_exchangeSize 5 = .ok (.aload_n 0, 1) := by decide +kernel
theorem d_W_exchangeSize_6 : decode c_W_exchangeSize 6 = .ok (.getfield 46, 3) := by decide +kernel
theorem d_W_exchangeSize_9 : decode c_W_exchangeSize 9 = .ok (.iastore, 1) := by decide +kernel
theorem d_W_exchangeSize_10 : decode c_W_exchangeSize 10 = .ok (.aload_n 0, 1) := by decide +kernel
theorem d_W_exchangeSize_11 : decode c_W_exchangeSize 11 = .ok (.getfield 15, 3) := by decide +kernel
theorem d_W_exchangeSize_14 : decode c_W_exchangeSize 14 = .ok (.aload_n 0, 1) := by decide +kernel
theorem d_W_exchangeSize_15 : decode c_W_exchangeSize 15 = .ok (.getfield 15, 3) := by decide +kernel
theorem d_W_exchangeSize_18 : decode c_W_exchangeSize 18 = .ok (.iload_n 1, 1) := by decide +kernel
theorem d_W_exchangeSize_19 : decode c_W_exchangeSize 19 = .ok (.aload_n 0, 1) := by decide +kernel
theorem d_W_exchangeSize_20 : decode c_W_exchangeSize 20 = .ok (.getfield 46, 3) := by decide +kernel
theorem d_W_exchangeSize_23 : decode c_W_exchangeSize 23 = .ok (.invokevirtual 100, 3) := by decide +kernel
theorem d_W_exchangeSize_26 : decode c_W_exchangeSize 26 = .ok (.aload_n 0, 1) := by decide +kernel
theorem d_W_exchangeSize_27 : decode c_W_exchangeSize 27 = .ok (.getfield 53, 3) := by decide +kernel
theorem d_W_exchangeSize_30 : decode c_W_exchangeSize 30 = .ok (.ifCond .eq 8, 3) := by decide +kernel
theorem d_W_exchangeSize_33 : decode c_W_exchangeSize 33 = .ok (.bipush 19, 2) := by decide +kernel
theorem d_W_exchangeSize_35 : decode c_W_exchangeSize 35 = .ok (.goto 4, 3) := by decide +kernel
theorem d_W_exchangeSize_38 : decode c_W_exchangeSize 38 = .ok (.iload_n 3, 1) := by decide +kernel
theorem d_W_exchangeSize_39 : decode c_W_exchangeSize 39 = .ok (.invokevirtual 105, 3) := by decide +kernel
theorem d_W_exchangeSize_42 : decode c_W_exchangeSize 42 = .ok (.iconst 1, 1) := by decide +kernel
theorem d_W_exchangeSize_43 : decode c_W_exchangeSize 43 = .ok (.if_icmp .ne 9, 3) := by decide +kernel
theorem d_W_exchangeSize_46 : decode c_W_exchangeSize 46 = .ok (.aload_n 0, 1) := by decide +kernel
theorem d_W_exchangeSize_47 : decode c_W_exchangeSize 47 = .ok (.iload_n 1, 1) := by decide +kernel
theorem d_W_exchangeSize_48 : decode c_W_exchangeSize 48 = .ok (.iload_n 2, 1) := by decide +kernel
theorem d_W_exchangeSize_49 : decode c_W_exchangeSize 49 = .ok (.invokevirtual 126, 3) := by decide +kernel
theorem d_W_exchangeSize_52 : decode c_W_exchangeSize 52 = .ok (.return_, 1) := by decide +kernel
theorem d_W_exchangeMarks_0 : decode c_W_exchangeMarks 0 = .ok (.iconst 1, 1) := by decide +kernel
theorem d_W_exchangeMarks_1 : decode c_W_exchangeMarks 1 = .ok (.istore_n 1, 1) := by decide +kernel
theorem d_W_exchangeMarks_2 : decode c_W_exchangeMarks 2 = .ok (.iconst 0, 1) := by decide +kernel
theorem d_W_exchangeMarks_3 : decode c_W_exchangeMarks 3 = .ok (.istore_n 2, 1) := by decide +kernel
theorem d_W_exchangeMarks_4 : decode c_W_exchangeMarks 4 = .ok (.iload_n 2, 1) := by decide +kernel
theorem d_W_exchangeMarks_5 : decode c_W_exchangeMarks 5 = .ok (.iconst 4, 1) := by decide +kernel
theorem d_W_exchangeMarks_6 : decode c_W_exchangeMarks 6 = .ok (.if_icmp .ge 31, 3) := by decide +kernel
theorem d_W_exchangeMarks_9 : decode c_W_exchangeMarks 9 = .ok (.iconst 1, 1) := by decide +kernel
theorem d_W_exchangeMarks_10 : decode c_W_exchangeMarks 10 = .ok (.iload_n 2, 1) := by decide +kernel
theorem d_W_exchangeMarks_11 : decode c_W_exchangeMarks 11 = .ok (.iconst 2, 1) := by decide +kernel
theorem d_W_exchangeMarks_12 : decode c_W_exchangeMarks 12 = .ok (.irem, 1) := by decide +kernel
theorem d_W_exchangeMarks_13 : decode c_W_exchangeMarks 13 = .ok (.isub, 1) := by decide +kernel
theorem d_W_exchangeMarks_14 : decode c_W_exchangeMarks 14 = .ok (.istore_n 3, 1) := by decide +kernel
theorem d_W_exchangeMarks_15 : decode c_W_exchangeMarks 15 = .ok (.aload_n 0, 1) := by decide +kernel
theorem d_W_exchangeMarks_16 : decode c_W_exchangeMarks 16 = .ok (.getfield 15, 3) := by decide +kernel
theorem d_W_exchangeMarks_19 : decode c_W_exchangeMarks 19 = .ok (.iload_n 3, 1) := by decide +kernel
theorem d_W_exchangeMarks_20 : decode c_W_exchangeMarks 20 = .ok (.bipush 18, 2) := by decide +kernel
theorem d_W_exchangeMarks_22 : decode c_W_exchangeMarks 22 = .ok (.invokevirtual 105, 3) := by decide +kernel
theorem d_W_exchangeMarks_25 : decode c_W_exchangeMarks 25 = .ok (.iload_n 3, 1) := by decide +kernel
theorem d_W_exchangeMarks_26 : decode c_W_exchangeMarks 26 = .ok (.if_icmp .eq 5, 3) := by decide +kernel
theorem d_W_exchangeMarks_29 : decode c_W_exchangeMarks 29 = .ok (.iconst 0, 1) := by decide +kernel
theorem d_W_exchangeMarks_30 : decode c_W_exchangeMarks 30 = .ok (.istore_n 1, 1) := by decide +kernel
theorem d_W_exchangeMarks_31 : decode c_W_exchangeMarks 31 = .ok (.iinc 2 1, 3) := by decide +kernel
theorem d_W_exchangeMarks_34 : decode c_W_exchangeMarks 34 = .ok (.goto (-30), 3) := by decide +kernel
theorem d_W_exchangeMarks_37 : decode c_W_exchangeMarks 37 = .ok (.iload_n 1, 1) := by decide +kernel
theorem d_W_exchangeMarks_38 : decode c_W_exchangeMarks 38 = .ok (.ireturn, 1) := by decide +kernel
abbrev rm_WT_found : Room := { frames := 0, cells := 0, slots := 0, locals := 0 }
set_option maxHeartbeats 4000000 in
set_option maxRecDepth 100000 in
theorem m_WT_found (l : Launch) (dC : Nat → ClassId) (dI : Nat → Nat → Nat) (q_wk q_sg q_sz q_lo q_bk q_te : Nat) (k_sg : ClassId) (n_sg : Nat) (pls : Int32) (pl : Int32) (raw : Int32) (sgn : (Nat → Int32)) (a0 : Int32) (u : Int32) (hF : f_WT_found sgn n_sg a0 = some u) : Met l y_W_found (kws y_W_found c_W_found 2 (some .int)) rm_WT_found (kRe (dC, dI) [.ref q_wk, .int a0] [(q_wk, .inr (4, [.ref q_bk, .ref q_te, .ref q_sg, .ref q_sz, .ref q_lo, .int pls, .int pl, .int raw])), (q_sg, .inl (k_sg, n_sg, .inl sgn))] [(k_sg, .int)]) (k2_QcV (.int u)) 0 0 (fun _ => False) := by
  unfold f_WT_found at hF
  refine kR_of (cc := c_W_found) (maxL := 2) (ret := (some .int)) (by decide) (Nat.le_of_ble_eq_true rfl) ?_
  intro p e s m args below meth c Q hQ hfx hP hK hN ls hl
  obtain ⟨hx, hb, hr, hml, hown, hts, hlocks⟩ := hfx
  have hown : s.vm.findClass R_W = some m.cls := hown
  have hl : lv_has ls 2 [(0, .ref q_wk), (1, .int a0)] := hl
  refine lv_aload_n hx hb d_W_found_0 rfl (lv_at hl 0 rfl) ?_
  refine va_get (D := (dC, dI)) (ci := 4) (v := .ref q_sg) (C := R_W) (T := T_W) (N := 8) hx hb hts ki_W hown hK hP 0 rfl rfl 2 (by decide) (hts _ kw_1_105) (fun _ h9 => h9) rfl d_W_found_1 ?_
  refine lv_iload_n hx hb d_W_found_4 rfl (lv_at hl 1 rfl) ?_
  obtain ⟨h1, hF⟩ := kc_no hF
  refine va_iald hx hb hK hP 1 0 rfl rfl h1 d_W_found_5 ?_
  refine lv_if_ne (tgt := 13) hx hb d_W_found_6 (by decide) (fun c2 => ?_) (fun c2 => ?_)
  · have hF := kc_neg c2 hF
    refine lv_iconst (v := 1) hx hb d_W_found_13 (by decide) ?_
    obtain rfl := Option.some.inj hF
    exact kr_iret hx hb hr hlocks hQ d_W_found_14
  have hF := kc_pos c2 hF
  refine lv_iconst (v := 0) hx hb d_W_found_9 (by decide) ?_
  refine lv_goto (tgt := 14) hx hb d_W_found_10 (by decide) ?_
  obtain rfl := Option.some.inj hF
  exact kr_iret hx hb hr hlocks hQ d_W_found_14
abbrev rm_WT_contextOf : Room := { frames := 2, cells := 0, slots := 0, locals := 45 }
set_option maxHeartbeats 4000000 in
set_option maxRecDepth 100000 in
theorem m_WT_contextOf (l : Launch) (dC : Nat → ClassId) (dI : Nat → Nat → Nat) (q_wk q_sg q_sz q_lo q_bk q_te : Nat) (k_sg : ClassId) (n_sg : Nat) (pls : Int32) (pl : Int32) (raw : Int32) (sgn : (Nat → Int32)) (w : Int32) (h : Int32) (sty : Int32) (bd : Int32) (str : Int32) (cel : Int32) (a0 : Int32) (a1 : Int32) (u : Int32) (hF : f_WT_contextOf sgn bd str n_sg a0 a1 = some u) : Met l y_W_contextOf (kws y_W_contextOf c_W_contextOf 8 (some .int)) rm_WT_contextOf (kRe (dC, dI) [.ref q_wk, .int a0, .int a1] [(q_wk, .inr (4, [.ref q_bk, .ref q_te, .ref q_sg, .ref q_sz, .ref q_lo, .int pls, .int pl, .int raw])), (q_sg, .inl (k_sg, n_sg, .inl sgn)), (q_bk, .inr (1, [.int w, .int h, .int sty, .int bd, .int str, .int cel]))] [(k_sg, .int)]) (k2_QcV (.int u)) 0 0 (fun _ => False) := by
  unfold f_WT_contextOf at hF
  refine kR_of (cc := c_W_contextOf) (maxL := 8) (ret := (some .int)) (by decide) (Nat.le_of_ble_eq_true rfl) ?_
  intro p e s m args below meth c Q hQ hfx hP hK hN ls hl
  obtain ⟨hx, hb, hr, hml, hown, hts, hlocks⟩ := hfx
  have hown : s.vm.findClass R_W = some m.cls := hown
  have hl : lv_has ls 8 [(0, .ref q_wk), (1, .int a0), (2, .int a1)] := hl
  refine lv_iload_n hx hb d_W_contextOf_0 rfl (lv_at hl 1 rfl) ?_
  refine lv_aload_n hx hb d_W_contextOf_1 rfl (lv_at hl 0 rfl) ?_
  refine va_get (D := (dC, dI)) (ci := 4) (v := .ref q_bk) (C := R_W) (T := T_W) (N := 8) hx hb hts ki_W hown hK hP 0 rfl rfl 0 (by decide) (hts _ kw_1_103) (fun _ h9 => h9) rfl d_W_contextOf_2 ?_
  refine va_get (D := (dC, dI)) (ci := 1) (v := .int str) (C := R_K) (T := T_K) (N := 6) hx hb hts ki_K hown hK hP 2 rfl rfl 4 (by decide) (hts _ kw_1_51) (fun _ h9 => h9) rfl d_W_contextOf_5 ?_
  refine lv_isub hx hb d_W_contextOf_8 ?_
  refine lv_istore_n (lv' := [(3, .int (a0 - str)), (0, .ref q_wk), (1, .int a0), (2, .int a1)]) hx hb d_W_contextOf_9 rfl hl (by decide) rfl (fun ls hl => ?_)
  refine lv_iload_n hx hb d_W_contextOf_10 rfl (lv_at hl 2 rfl) ?_
  refine lv_aload_n hx hb d_W_contextOf_11 rfl (lv_at hl 1 rfl) ?_
  refine va_get (D := (dC, dI)) (ci := 4) (v := .ref q_bk) (C := R_W) (T := T_W) (N := 8) hx hb hts ki_W hown hK hP 0 rfl rfl 0 (by decide) (hts _ kw_1_103) (fun _ h9 => h9) rfl d_W_contextOf_12 ?_
  refine va_get (D := (dC, dI)) (ci := 1) (v := .int str) (C := R_K) (T := T_K) (N := 6) hx hb hts ki_K hown hK hP 2 rfl rfl 4 (by decide) (hts _ kw_1_51) (fun _ h9 => h9) rfl d_W_contextOf_15 ?_
  refine lv_iadd hx hb d_W_contextOf_18 ?_
  refine lv_istore (lv' := [(4, .int (a0 + str)), (3, .int (a0 - str)), (0, .ref q_wk), (1, .int a0), (2, .int a1)]) hx hb d_W_contextOf_19 hl (by decide) rfl (fun ls hl => ?_)
  refine lv_aload_n hx hb d_W_contextOf_21 rfl (lv_at hl 2 rfl) ?_
  refine lv_iload_n hx hb d_W_contextOf_22 rfl (lv_at hl 3 rfl) ?_
  refine lv_iconst (v := 1) hx hb d_W_contextOf_23 (by decide) ?_
  refine lv_isub hx hb d_W_contextOf_24 ?_
  obtain ⟨u1, hc, hF⟩ := kc_bnd hF
  refine kr_call (va_runV (As := [.int (a0 - (1 : Int32))]) (rest := []) ⟨hx, hb, hml, hown, hts⟩ (m_WT_found l dC dI q_wk q_sg q_sz q_lo q_bk q_te k_sg n_sg pls pl raw sgn (a0 - (1 : Int32)) _ hc) (cwV 1 hts (kgV kw_2_6 kw_2_8 kp_3 kw_1_6 kw_2_9) rfl rfl rfl (by decide +kernel) ⟨Nat.le_of_ble_eq_true rfl, Nat.le_of_ble_eq_true rfl⟩) ⟨kRe_blind, va_recv hK hP (ci := 4) (q0 := 0) rfl rfl, kRe_of (hP.sub [0, 1] rfl) (hK.sub [0] rfl) hN⟩ rfl rfl hl.1 rfl (lv_room (Nat.le_of_ble_eq_true rfl)) d_W_contextOf_25 ⟨Nat.le_of_ble_eq_true rfl, Nat.le_of_ble_eq_true rfl⟩) ?_
  refine lv_aload_n hx hb d_W_contextOf_28 rfl (lv_at hl 2 rfl) ?_
  refine lv_iload_n hx hb d_W_contextOf_29 rfl (lv_at hl 3 rfl) ?_
  refine lv_iconst (v := 1) hx hb d_W_contextOf_30 (by decide) ?_
  refine lv_iadd hx hb d_W_contextOf_31 ?_
  obtain ⟨u2, hc, hF⟩ := kc_bnd hF
  refine kr_call (va_runV (As := [.int (a0 + (1 : Int32))]) (rest := [.int u1]) ⟨hx, hb, hml, hown, hts⟩ (m_WT_found l dC dI q_wk q_sg q_sz q_lo q_bk q_te k_sg n_sg pls pl raw sgn (a0 + (1 : Int32)) _ hc) (cwV 1 hts (kgV kw_2_6 kw_2_8 kp_3 kw_1_6 kw_2_9) rfl rfl rfl (by decide +kernel) ⟨Nat.le_of_ble_eq_true rfl, Nat.le_of_ble_eq_true rfl⟩) ⟨kRe_blind, va_recv hK hP (ci := 4) (q0 := 0) rfl rfl, kRe_of (hP.sub [0, 1] rfl) (hK.sub [0] rfl) hN⟩ rfl rfl hl.1 rfl (lv_room (Nat.le_of_ble_eq_true rfl)) d_W_contextOf_32 ⟨Nat.le_of_ble_eq_true rfl, Nat.le_of_ble_eq_true rfl⟩) ?_
  refine lv_iadd hx hb d_W_contextOf_35 ?_
  refine lv_istore (lv' := [(5, .int (u1 + u2)), (4, .int (a0 + str)), (3, .int (a0 - str)), (0, .ref q_wk), (1, .int a0), (2, .int a1)]) hx hb d_W_contextOf_36 hl (by decide) rfl (fun ls hl => ?_)
  refine lv_aload_n hx hb d_W_contextOf_38 rfl (lv_at hl 3 rfl) ?_
  refine lv_iload_n hx hb d_W_contextOf_39 rfl (lv_at hl 2 rfl) ?_
  obtain ⟨u3, hc, hF⟩ := kc_bnd hF
  refine kr_call (va_runV (As := [.int (a0 - str)]) (rest := []) ⟨hx, hb, hml, hown, hts⟩ (m_WT_found l dC dI q_wk q_sg q_sz q_lo q_bk q_te k_sg n_sg pls pl raw sgn (a0 - str) _ hc) (cwV 1 hts (kgV kw_2_6 kw_2_8 kp_3 kw_1_6 kw_2_9) rfl rfl rfl (by decide +kernel) ⟨Nat.le_of_ble_eq_true rfl, Nat.le_of_ble_eq_true rfl⟩) ⟨kRe_blind, va_recv hK hP (ci := 4) (q0 := 0) rfl rfl, kRe_of (hP.sub [0, 1] rfl) (hK.sub [0] rfl) hN⟩ rfl rfl hl.1 rfl (lv_room (Nat.le_of_ble_eq_true rfl)) d_W_contextOf_40 ⟨Nat.le_of_ble_eq_true rfl, Nat.le_of_ble_eq_true rfl⟩) ?_
  refine lv_istore (lv' := [(6, .int u3), (5, .int (u1 + u2)), (4, .int (a0 + str)), (3, .int (a0 - str)), (0, .ref q_wk), (1, .int a0), (2, .int a1)]) hx hb d_W_contextOf_43 hl (by decide) rfl (fun ls hl => ?_)
  refine lv_aload_n hx hb d_W_contextOf_45 rfl (lv_at hl 4 rfl) ?_
  refine lv_iload_n hx hb d_W_contextOf_46 rfl (lv_at hl 3 rfl) ?_
  refine lv_iconst (v := 1) hx hb d_W_contextOf_47 (by decide) ?_
  refine lv_isub hx hb d_W_contextOf_48 ?_
  obtain ⟨u4, hc, hF⟩ := kc_bnd hF
  refine kr_call (va_runV (As := [.int ((a0 - str) - (1 : Int32))]) (rest := []) ⟨hx, hb, hml, hown, hts⟩ (m_WT_found l dC dI q_wk q_sg q_sz q_lo q_bk q_te k_sg n_sg pls pl raw sgn ((a0 - str) - (1 : Int32)) _ hc) (cwV 1 hts (kgV kw_2_6 kw_2_8 kp_3 kw_1_6 kw_2_9) rfl rfl rfl (by decide +kernel) ⟨Nat.le_of_ble_eq_true rfl, Nat.le_of_ble_eq_true rfl⟩) ⟨kRe_blind, va_recv hK hP (ci := 4) (q0 := 0) rfl rfl, kRe_of (hP.sub [0, 1] rfl) (hK.sub [0] rfl) hN⟩ rfl rfl hl.1 rfl (lv_room (Nat.le_of_ble_eq_true rfl)) d_W_contextOf_49 ⟨Nat.le_of_ble_eq_true rfl, Nat.le_of_ble_eq_true rfl⟩) ?_
  refine lv_aload_n hx hb d_W_contextOf_52 rfl (lv_at hl 4 rfl) ?_
  refine lv_iload_n hx hb d_W_contextOf_53 rfl (lv_at hl 3 rfl) ?_
  refine lv_iconst (v := 1) hx hb d_W_contextOf_54 (by decide) ?_
  refine lv_iadd hx hb d_W_contextOf_55 ?_
  obtain ⟨u5, hc, hF⟩ := kc_bnd hF
  refine kr_call (va_runV (As := [.int ((a0 - str) + (1 : Int32))]) (rest := [.int u4]) ⟨hx, hb, hml, hown, hts⟩ (m_WT_found l dC dI q_wk q_sg q_sz q_lo q_bk q_te k_sg n_sg pls pl raw sgn ((a0 - str) + (1 : Int32)) _ hc) (cwV 1 hts (kgV kw_2_6 kw_2_8 kp_3 kw_1_6 kw_2_9) rfl rfl rfl (by decide +kernel) ⟨Nat.le_of_ble_eq_true rfl, Nat.le_of_ble_eq_true rfl⟩) ⟨kRe_blind, va_recv hK hP (ci := 4) (q0 := 0) rfl rfl, kRe_of (hP.sub [0, 1] rfl) (hK.sub [0] rfl) hN⟩ rfl rfl hl.1 rfl (lv_room (Nat.le_of_ble_eq_true rfl)) d_W_contextOf_56 ⟨Nat.le_of_ble_eq_true rfl, Nat.le_of_ble_eq_true rfl⟩) ?_
  refine lv_iadd hx hb d_W_contextOf_59 ?_
  refine lv_istore (lv' := [(7, .int (u4 + u5)), (6, .int u3), (5, .int (u1 + u2)), (4, .int (a0 + str)), (3, .int (a0 - str)), (0, .ref q_wk), (1, .int a0), (2, .int a1)]) hx hb d_W_contextOf_60 hl (by decide) rfl (fun ls hl => ?_)
  refine lv_iload_n hx hb d_W_contextOf_62 rfl (lv_at hl 7 rfl) ?_
  obtain ⟨u7, hcu7, hF⟩ := kc_bnd hF
  have hJu7 : ∀ (ls : Array Slot), lv_has ls 8 [(7, .int u7.1), (6, .int u7.2), (5, .int (u1 + u2)), (4, .int (a0 + str)), (3, .int (a0 - str)), (0, .ref q_wk), (1, .int a0), (2, .int a1)] → W p l e rm_WT_contextOf s m args below meth c s.heap [] 0 0 Q (F0 m 99 ls []) := by
    intro ls hl
    refine lv_aload_n hx hb d_W_contextOf_99 rfl (lv_at hl 5 rfl) ?_
    refine va_get (D := (dC, dI)) (ci := 4) (v := .ref q_bk) (C := R_W) (T := T_W) (N := 8) hx hb hts ki_W hown hK hP 0 rfl rfl 0 (by decide) (hts _ kw_1_103) (fun _ h9 => h9) rfl d_W_contextOf_100 ?_
    refine va_get (D := (dC, dI)) (ci := 1) (v := .int bd) (C := R_K) (T := T_K) (N := 6) hx hb hts ki_K hown hK hP 2 rfl rfl 3 (by decide) (hts _ kw_1_48) (fun _ h9 => h9) rfl d_W_contextOf_103 ?_
    refine lv_iload hx hb d_W_contextOf_106 (lv_at hl 2 rfl) ?_
    refine lv_iload hx hb d_W_contextOf_108 (lv_at hl 1 rfl) ?_
    refine lv_iload hx hb d_W_contextOf_110 (lv_at hl 0 rfl) ?_
    refine kr_call (va_runS (As := [.int bd, .int (u1 + u2), .int u7.2, .int u7.1]) (rest := []) ⟨hx, hb, hml, hown, hts⟩ (m_ST_ofSize l dC dI bd (u1 + u2) u7.2 u7.1 (f_ST_ofSize bd (u1 + u2) u7.2 u7.1) rfl) (va_cwS 4 hts (kgS kw_2_10 kw_2_11 kw_1_14 kw_2_12) rfl rfl rfl (by decide +kernel) ⟨Nat.le_of_ble_eq_true rfl, Nat.le_of_ble_eq_true rfl⟩) ⟨kRe_blind, kRe_of (hP.sub [] rfl) (hK.sub [] rfl) hN⟩ rfl rfl hl.1 rfl (lv_room (Nat.le_of_ble_eq_true rfl)) d_W_contextOf_112 ⟨Nat.le_of_ble_eq_true rfl, Nat.le_of_ble_eq_true rfl⟩) ?_
    obtain rfl := Option.some.inj hF
    exact kr_iret hx hb hr hlocks hQ d_W_contextOf_115
  clear hF; have hF := hcu7; clear hcu7
  refine lv_if_ne (tgt := 99) hx hb d_W_contextOf_63 (by decide) (fun c6 => ?_) (fun c6 => ?_)
  · have hF := kc_neg c6 hF
    obtain rfl := Option.some.inj hF
    exact hJu7 _ (lv_sub hl [0, 1, 2, 3, 4, 5, 6, 7] rfl)
  have hF := kc_pos c6 hF
  refine lv_iload hx hb d_W_contextOf_66 (lv_at hl 1 rfl) ?_
  refine lv_aload_n hx hb d_W_contextOf_68 rfl (lv_at hl 5 rfl) ?_
  refine lv_iload hx hb d_W_contextOf_69 (lv_at hl 3 rfl) ?_
  obtain ⟨u8, hc, hF⟩ := kc_bnd hF
  refine kr_call (va_runV (As := [.int (a0 + str)]) (rest := [.int u3]) ⟨hx, hb, hml, hown, hts⟩ (m_WT_found l dC dI q_wk q_sg q_sz q_lo q_bk q_te k_sg n_sg pls pl raw sgn (a0 + str) _ hc) (cwV 1 hts (kgV kw_2_6 kw_2_8 kp_3 kw_1_6 kw_2_9) rfl rfl rfl (by decide +kernel) ⟨Nat.le_of_ble_eq_true rfl, Nat.le_of_ble_eq_true rfl⟩) ⟨kRe_blind, va_recv hK hP (ci := 4) (q0 := 0) rfl rfl, kRe_of (hP.sub [0, 1] rfl) (hK.sub [0] rfl) hN⟩ rfl rfl hl.1 rfl (lv_room (Nat.le_of_ble_eq_true rfl)) d_W_contextOf_71 ⟨Nat.le_of_ble_eq_true rfl, Nat.le_of_ble_eq_true rfl⟩) ?_
  refine lv_iadd hx hb d_W_contextOf_74 ?_
  refine lv_istore (lv' := [(6, .int (u3 + u8)), (7, .int (u4 + u5)), (5, .int (u1 + u2)), (4, .int (a0 + str)), (3, .int (a0 - str)), (0, .ref q_wk), (1, .int a0), (2, .int a1)]) hx hb d_W_contextOf_75 hl (by decide) rfl (fun ls hl => ?_)
  refine lv_iload hx hb d_W_contextOf_77 (lv_at hl 1 rfl) ?_
  refine lv_aload_n hx hb d_W_contextOf_79 rfl (lv_at hl 5 rfl) ?_
  refine lv_iload hx hb d_W_contextOf_80 (lv_at hl 3 rfl) ?_
  refine lv_iconst (v := 1) hx hb d_W_contextOf_82 (by decide) ?_
  refine lv_isub hx hb d_W_contextOf_83 ?_
  obtain ⟨u9, hc, hF⟩ := kc_bnd hF
  refine kr_call (va_runV (As := [.int ((a0 + str) - (1 : Int32))]) (rest := [.int (u4 + u5)]) ⟨hx, hb, hml, hown, hts⟩ (m_WT_found l dC dI q_wk q_sg q_sz q_lo q_bk q_te k_sg n_sg pls pl raw sgn ((a0 + str) - (1 : Int32)) _ hc) (cwV 1 hts (kgV kw_2_6 kw_2_8 kp_3 kw_1_6 kw_2_9) rfl rfl rfl (by decide +kernel) ⟨Nat.le_of_ble_eq_true rfl, Nat.le_of_ble_eq_true rfl⟩) ⟨kRe_blind, va_recv hK hP (ci := 4) (q0 := 0) rfl rfl, kRe_of (hP.sub [0, 1] rfl) (hK.sub [0] rfl) hN⟩ rfl rfl hl.1 rfl (lv_room (Nat.le_of_ble_eq_true rfl)) d_W_contextOf_84 ⟨Nat.le_of_ble_eq_true rfl, Nat.le_of_ble_eq_true rfl⟩) ?_
  refine lv_aload_n hx hb d_W_contextOf_87 rfl (lv_at hl 5 rfl) ?_
  refine lv_iload hx hb d_W_contextOf_88 (lv_at hl 3 rfl) ?_
  refine lv_iconst (v := 1) hx hb d_W_contextOf_90 (by decide) ?_
  refine lv_iadd hx hb d_W_contextOf_91 ?_
  obtain ⟨u10, hc, hF⟩ := kc_bnd hF
  refine kr_call (va_runV (As := [.int ((a0 + str) + (1 : Int32))]) (rest := [.int u9, .int (u4 + u5)]) ⟨hx, hb, hml, hown, hts⟩ (m_WT_found l dC dI q_wk q_sg q_sz q_lo q_bk q_te k_sg n_sg pls pl raw sgn ((a0 + str) + (1 : Int32)) _ hc) (cwV 1 hts (kgV kw_2_6 kw_2_8 kp_3 kw_1_6 kw_2_9) rfl rfl rfl (by decide +kernel) ⟨Nat.le_of_ble_eq_true rfl, Nat.le_of_ble_eq_true rfl⟩) ⟨kRe_blind, va_recv hK hP (ci := 4) (q0 := 0) rfl rfl, kRe_of (hP.sub [0, 1] rfl) (hK.sub [0] rfl) hN⟩ rfl rfl hl.1 rfl (lv_room (Nat.le_of_ble_eq_true rfl)) d_W_contextOf_92 ⟨Nat.le_of_ble_eq_true rfl, Nat.le_of_ble_eq_true rfl⟩) ?_
  refine lv_iadd hx hb d_W_contextOf_95 ?_
  refine lv_iadd hx hb d_W_contextOf_96 ?_
  refine lv_istore (lv' := [(7, .int ((u4 + u5) + (u9 + u10))), (6, .int (u3 + u8)), (5, .int (u1 + u2)), (4, .int (a0 + str)), (3, .int (a0 - str)), (0, .ref q_wk), (1, .int a0), (2, .int a1)]) hx hb d_W_contextOf_97 hl (by decide) rfl (fun ls hl => ?_)
  obtain rfl := Option.some.inj hF
  exact hJu7 _ (lv_sub hl [0, 1, 2, 3, 4, 5, 6, 7] rfl)
abbrev rm_WT_isOpen : Room := { frames := 0, cells := 0, slots := 0, locals := 0 }
set_option maxHeartbeats 4000000 in
set_option maxRecDepth 100000 in
theorem m_WT_isOpen (l : Launch) (dC : Nat → ClassId) (dI : Nat → Nat → Nat) (q_wk q_sg q_sz q_lo q_bk q_te : Nat) (k_sg : ClassId) (n_sg : Nat) (k_lo : ClassId) (n_lo : Nat) (pls : Int32) (pl : Int32) (raw : Int32) (sgn : (Nat → Int32)) (low : (Nat → Int32)) (a0 : Int32) (u : Int32) (hF : f_WT_isOpen pl sgn low n_sg n_lo a0 = some u) : Met l y_W_isOpen (kws y_W_isOpen c_W_isOpen 2 (some .boolean)) rm_WT_isOpen (kRe (dC, dI) [.ref q_wk, .int a0] [(q_wk, .inr (4, [.ref q_bk, .ref q_te, .ref q_sg, .ref q_sz, .ref q_lo, .int pls, .int pl, .int raw])), (q_sg, .inl (k_sg, n_sg, .inl sgn)), (q_lo, .inl (k_lo, n_lo, .inl low))] [(k_sg, .int), (k_lo, .int)]) (k2_QcV (.int u)) 0 0 (fun _ => False) := by
  unfold f_WT_isOpen at hF
  refine kR_of (cc := c_W_isOpen) (maxL := 2) (ret := (some .boolean)) (by decide) (Nat.le_of_ble_eq_true rfl) ?_
  intro p e s m args below meth c Q hQ hfx hP hK hN ls hl
  obtain ⟨hx, hb, hr, hml, hown, hts, hlocks⟩ := hfx
  have hown : s.vm.findClass R_W = some m.cls := hown
  have hl : lv_has ls 2 [(0, .ref q_wk), (1, .int a0)] := hl
  refine lv_aload_n hx hb d_W_isOpen_0 rfl (lv_at hl 0 rfl) ?_
  refine va_get (D := (dC, dI)) (ci := 4) (v := .ref q_sg) (C := R_W) (T := T_W) (N := 8) hx hb hts ki_W hown hK hP 0 rfl rfl 2 (by decide) (hts _ kw_1_105) (fun _ h9 => h9) rfl d_W_isOpen_1 ?_
  refine lv_iload_n hx hb d_W_isOpen_4 rfl (lv_at hl 1 rfl) ?_
  obtain ⟨h1, hF⟩ := kc_no hF
  refine va_iald hx hb hK hP 1 0 rfl rfl h1 d_W_isOpen_5 ?_
  refine lv_if_ne (tgt := 26) hx hb d_W_isOpen_6 (by decide) (fun c2 => ?_) (fun c2 => ?_)
  · have hF := kc_neg c2 hF
    refine lv_iconst (v := 0) hx hb d_W_isOpen_26 (by decide) ?_
    obtain rfl := Option.some.inj hF
    exact kr_zret hx hb hr hlocks hQ (by decide) d_W_isOpen_27
  have hF := kc_pos c2 hF
  refine lv_aload_n hx hb d_W_isOpen_9 rfl (lv_at hl 0 rfl) ?_
  refine va_get (D := (dC, dI)) (ci := 4) (v := .ref q_lo) (C := R_W) (T := T_W) (N := 8) hx hb hts ki_W hown hK hP 0 rfl rfl 4 (by decide) (hts _ kw_1_109) (fun _ h9 => h9) rfl d_W_isOpen_10 ?_
  refine lv_iload_n hx hb d_W_isOpen_13 rfl (lv_at hl 1 rfl) ?_
  obtain ⟨h3, hF⟩ := kc_no hF
  refine va_iald hx hb hK hP 2 1 rfl rfl h3 d_W_isOpen_14 ?_
  refine lv_aload_n hx hb d_W_isOpen_15 rfl (lv_at hl 0 rfl) ?_
  refine va_get (D := (dC, dI)) (ci := 4) (v := .int pl) (C := R_W) (T := T_W) (N := 8) hx hb hts ki_W hown hK hP 0 rfl rfl 6 (by decide) (hts _ kw_1_112) (fun _ h9 => h9) rfl d_W_isOpen_16 ?_
  refine lv_icmp_le (tgt := 26) hx hb d_W_isOpen_19 (by decide) (fun c4 => ?_) (fun c4 => ?_)
  · have hF := kc_pos c4 hF
    refine lv_iconst (v := 0) hx hb d_W_isOpen_26 (by decide) ?_
    obtain rfl := Option.some.inj hF
    exact kr_zret hx hb hr hlocks hQ (by decide) d_W_isOpen_27
  have hF := kc_neg c4 hF
  refine lv_iconst (v := 1) hx hb d_W_isOpen_22 (by decide) ?_
  refine lv_goto (tgt := 27) hx hb d_W_isOpen_23 (by decide) ?_
  obtain rfl := Option.some.inj hF
  exact kr_zret hx hb hr hlocks hQ (by decide) d_W_isOpen_27
abbrev rm_WT_refiningContextOf : Room := { frames := 3, cells := 0, slots := 0, locals := 72 }
set_option maxHeartbeats 4000000 in
set_option maxRecDepth 100000 in
theorem m_WT_refiningContextOf (l : Launch) (dC : Nat → ClassId) (dI : Nat → Nat → Nat) (q_wk q_sg q_sz q_lo q_bk q_te : Nat) (k_sg : ClassId) (n_sg : Nat) (k_sz : ClassId) (n_sz : Nat) (pls : Int32) (pl : Int32) (raw : Int32) (sgn : (Nat → Int32)) (siz : (Nat → Int32)) (w : Int32) (h : Int32) (sty : Int32) (bd : Int32) (str : Int32) (cel : Int32) (a0 : Int32) (a1 : Int32) (u : Int32) (hF : f_WT_refiningContextOf pl sgn siz bd str n_sg n_sz a0 a1 = some u) : Met l y_W_refiningContextOf (kws y_W_refiningContextOf c_W_refiningContextOf 4 (some .int)) rm_WT_refiningContextOf (kRe (dC, dI) [.ref q_wk, .int a0, .int a1] [(q_wk, .inr (4, [.ref q_bk, .ref q_te, .ref q_sg, .ref q_sz, .ref q_lo, .int pls, .int pl, .int raw])), (q_sg, .inl (k_sg, n_sg, .inl sgn)), (q_sz, .inl (k_sz, n_sz, .inl siz)), (q_bk, .inr (1, [.int w, .int h, .int sty, .int bd, .int str, .int cel]))] [(k_sg, .int), (k_sz, .int)]) (k2_QcV (.int u)) 0 0 (fun _ => False) := by
  unfold f_WT_refiningContextOf at hF
  refine kR_of (cc := c_W_refiningContextOf) (maxL := 4) (ret := (some .int)) (by decide) (Nat.le_of_ble_eq_true rfl) ?_
  intro p e s m args below meth c Q hQ hfx hP hK hN ls hl
  obtain ⟨hx, hb, hr, hml, hown, hts, hlocks⟩ := hfx
  have hown : s.vm.findClass R_W = some m.cls := hown
  have hl : lv_has ls 4 [(0, .ref q_wk), (1, .int a0), (2, .int a1)] := hl
  refine lv_aload_n hx hb d_W_refiningContextOf_0 rfl (lv_at hl 0 rfl) ?_
  refine va_get (D := (dC, dI)) (ci := 4) (v := .ref q_sz) (C := R_W) (T := T_W) (N := 8) hx hb hts ki_W hown hK hP 0 rfl rfl 3 (by decide) (hts _ kw_1_107) (fun _ h9 => h9) rfl d_W_refiningContextOf_1 ?_
  refine lv_iload_n hx hb d_W_refiningContextOf_4 rfl (lv_at hl 1 rfl) ?_
  obtain ⟨h1, hF⟩ := kc_no hF
  refine va_iald hx hb hK hP 2 1 rfl rfl h1 d_W_refiningContextOf_5 ?_
  refine lv_iconst (v := 2) hx hb d_W_refiningContextOf_6 (by decide) ?_
  refine lv_aload_n hx hb d_W_refiningContextOf_7 rfl (lv_at hl 0 rfl) ?_
  refine va_get (D := (dC, dI)) (ci := 4) (v := .int pl) (C := R_W) (T := T_W) (N := 8) hx hb hts ki_W hown hK hP 0 rfl rfl 6 (by decide) (hts _ kw_1_112) (fun _ h9 => h9) rfl d_W_refiningContextOf_8 ?_
  refine lv_ishl hx hb d_W_refiningContextOf_11 ?_
  refine lv_icmp_eq (tgt := 18) hx hb d_W_refiningContextOf_12 (by decide) (fun c2 => ?_) (fun c2 => ?_)
  · have hF := kc_pos c2 hF
    refine lv_aload_n hx hb d_W_refiningContextOf_18 rfl (lv_at hl 0 rfl) ?_
    refine lv_iload_n hx hb d_W_refiningContextOf_19 rfl (lv_at hl 1 rfl) ?_
    refine lv_iload_n hx hb d_W_refiningContextOf_20 rfl (lv_at hl 2 rfl) ?_
    obtain ⟨u3, hc, hF⟩ := kc_bnd hF
    refine kr_call (va_runV (As := [.int a0, .int a1]) (rest := []) ⟨hx, hb, hml, hown, hts⟩ (m_WT_contextOf l dC dI q_wk q_sg q_sz q_lo q_bk q_te k_sg n_sg pls pl raw sgn w h sty bd str cel a0 a1 _ hc) (cwV 2 hts (kgV kw_2_2 kw_2_4 kp_2 kw_1_6 kw_2_5) rfl rfl rfl (by decide +kernel) ⟨Nat.le_of_ble_eq_true rfl, Nat.le_of_ble_eq_true rfl⟩) ⟨kRe_blind, va_recv hK hP (ci := 4) (q0 := 0) rfl rfl, kRe_of (hP.sub [0, 1, 3] rfl) (hK.sub [0] rfl) hN⟩ rfl rfl hl.1 rfl (lv_room (Nat.le_of_ble_eq_true rfl)) d_W_refiningContextOf_21 ⟨Nat.le_of_ble_eq_true rfl, Nat.le_of_ble_eq_true rfl⟩) ?_
    obtain ⟨u5, hcu5, hF⟩ := kc_bnd hF
    have hJu5 : ∀ (ls : Array Slot), lv_has ls 4 [(0, .ref q_wk), (1, .int a0), (2, .int a1)] → W p l e rm_WT_refiningContextOf s m args below meth c s.heap [] 0 0 Q (F0 m 32 ls [.int u5]) := by
      intro ls hl
      refine lv_istore_n (lv' := [(3, .int u5), (0, .ref q_wk), (1, .int a0), (2, .int a1)]) hx hb d_W_refiningContextOf_32 rfl hl (by decide) rfl (fun ls hl => ?_)
      refine lv_iload_n hx hb d_W_refiningContextOf_33 rfl (lv_at hl 0 rfl) ?_
      refine lv_if_eq (tgt := 42) hx hb d_W_refiningContextOf_34 (by decide) (fun c6 => ?_) (fun c6 => ?_)
      · have hF := kc_pos c6 hF
        refine lv_bipush (v := 15) hx hb d_W_refiningContextOf_42 (by decide) ?_
        obtain rfl := Option.some.inj hF
        exact kr_iret hx hb hr hlocks hQ d_W_refiningContextOf_44
      have hF := kc_neg c6 hF
      refine lv_bipush (v := 14) hx hb d_W_refiningContextOf_37 (by decide) ?_
      refine lv_goto (tgt := 44) hx hb d_W_refiningContextOf_39 (by decide) ?_
      obtain rfl := Option.some.inj hF
      exact kr_iret hx hb hr hlocks hQ d_W_refiningContextOf_44
    clear hF; have hF := hcu5; clear hcu5
    refine lv_if_ne (tgt := 31) hx hb d_W_refiningContextOf_24 (by decide) (fun c4 => ?_) (fun c4 => ?_)
    · have hF := kc_neg c4 hF
      refine lv_iconst (v := 0) hx hb d_W_refiningContextOf_31 (by decide) ?_
      obtain rfl := Option.some.inj hF
      exact hJu5 _ (lv_sub hl [0, 1, 2] rfl)
    have hF := kc_pos c4 hF
    refine lv_iconst (v := 1) hx hb d_W_refiningContextOf_27 (by decide) ?_
    refine lv_goto (tgt := 32) hx hb d_W_refiningContextOf_28 (by decide) ?_
    obtain rfl := Option.some.inj hF
    exact hJu5 _ (lv_sub hl [0, 1, 2] rfl)
  have hF := kc_neg c2 hF
  refine lv_bipush (v := 16) hx hb d_W_refiningContextOf_15 (by decide) ?_
  obtain rfl := Option.some.inj hF
  exact kr_iret hx hb hr hlocks hQ d_W_refiningContextOf_17
abbrev rm_WT_exchangeSign : Room := { frames := 2, cells := 0, slots := 0, locals := 43 }
set_option maxHeartbeats 4000000 in
set_option maxRecDepth 100000 in
theorem m_WT_exchangeSign (l : Launch) (dC : Nat → ClassId) (dI : Nat → Nat → Nat) (q_wk q_sg q_sz q_lo q_bk q_te q_sa q_ro : Nat) (k_sg : ClassId) (n_sg : Nat) (k_sz : ClassId) (n_sz : Nat) (k_sa : ClassId) (n_sa : Nat) (k_ro : ClassId) (n_ro : Nat) (pls : Int32) (pl : Int32) (raw : Int32) (sgn : (Nat → Int32)) (siz : (Nat → Int32)) (w : Int32) (h : Int32) (sty : Int32) (bd : Int32) (str : Int32) (cel : Int32) (cnt : Int32) (pn : Int32) (sam : (Nat → Int32)) (row : (Nat → Int32)) (a0 : Int32) (a1 : Int32) (u : (Nat → Int32) × (Nat → Int32) × Int32 × (Nat → Int32)) (hF : f_WT_exchangeSign pl raw sgn siz str cnt pn sam row n_sg n_sz n_sa n_ro a0 a1 = some u) : ∀ sz : Nat, Met l y_W_exchangeSign (kws y_W_exchangeSign c_W_exchangeSign 9 none) rm_WT_exchangeSign (kPre (dC, dI) [.ref q_wk, .int a0, .int a1] [(q_wk, .inr (4, [.ref q_bk, .ref q_te, .ref q_sg, .ref q_sz, .ref q_lo, .int pls, .int pl, .int raw])), (q_sg, .inl (k_sg, n_sg, .inl sgn)), (q_sz, .inl (k_sz, n_sz, .inl siz)), (q_bk, .inr (1, [.int w, .int h, .int sty, .int bd, .int str, .int cel])), (q_te, .inr (2, [.ref q_sa, .ref q_ro, .int cnt, .int pn])), (q_sa, .inl (k_sa, n_sa, .inl sam)), (q_ro, .inl (k_ro, n_ro, .inl row))] [(k_sg, .int), (k_sz, .int), (k_sa, .int), (k_ro, .int)] sz) (kPost (dC, dI) none [(q_wk, .inr (4, [.ref q_bk, .ref q_te, .ref q_sg, .ref q_sz, .ref q_lo, .int pls, .int pl, .int raw])), (q_sg, .inl (k_sg, n_sg, .inl u.1)), (q_sz, .inl (k_sz, n_sz, .inl u.2.1)), (q_bk, .inr (1, [.int w, .int h, .int sty, .int bd, .int str, .int cel])), (q_te, .inr (2, [.ref q_sa, .ref q_ro, .int u.2.2.1, .int pn])), (q_sa, .inl (k_sa, n_sa, .inl sam)), (q_ro, .inl (k_ro, n_ro, .inl u.2.2.2))] (va_A [(q_wk, .inr (4, [.ref q_bk, .ref q_te, .ref q_sg, .ref q_sz, .ref q_lo, .int pls, .int pl, .int raw])), (q_sg, .inl (k_sg, n_sg, .inl sgn)), (q_sz, .inl (k_sz, n_sz, .inl siz)), (q_bk, .inr (1, [.int w, .int h, .int sty, .int bd, .int str, .int cel])), (q_te, .inr (2, [.ref q_sa, .ref q_ro, .int cnt, .int pn])), (q_sa, .inl (k_sa, n_sa, .inl sam)), (q_ro, .inl (k_ro, n_ro, .inl row))] sz)) 0 0 (va_A [(q_wk, .inr (4, [.ref q_bk, .ref q_te, .ref q_sg, .ref q_sz, .ref q_lo, .int pls, .int pl, .int raw])), (q_sg, .inl (k_sg, n_sg, .inl sgn)), (q_sz, .inl (k_sz, n_sz, .inl siz)), (q_bk, .inr (1, [.int w, .int h, .int sty, .int bd, .int str, .int cel])), (q_te, .inr (2, [.ref q_sa, .ref q_ro, .int cnt, .int pn])), (q_sa, .inl (k_sa, n_sa, .inl sam)), (q_ro, .inl (k_ro, n_ro, .inl row))] sz) := by
  unfold f_WT_exchangeSign at hF
  refine kU_of (cc := c_W_exchangeSign) (maxL := 9) (ret := none) (by decide) (Nat.le_of_ble_eq_true rfl) ?_
  intro p e s m args below meth c Q A hQ hfx hK hN hA H locs ls hP hD hS hl
  obtain ⟨hx, hb, hr, hml, hown, hts, hlocks⟩ := hfx
  have hown : s.vm.findClass R_W = some m.cls := hown
  have hl : lv_has ls 9 [(0, .ref q_wk), (1, .int a0), (2, .int a1)] := hl
  refine lv_iload_n hx hb d_W_exchangeSign_0 rfl (lv_at hl 2 rfl) ?_
  obtain ⟨u2, hcu2, hF⟩ := kc_bnd hF
  have hJu2 : ∀ (H : Heap) (locs : List Loc) (ls : Array Slot), va_P (dC, dI) vwCl [(q_wk, .inr (4, [.ref q_bk, .ref q_te, .ref q_sg, .ref q_sz, .ref q_lo, .int pls, .int pl, .int raw])), (q_sg, .inl (k_sg, n_sg, .inl sgn)), (q_sz, .inl (k_sz, n_sz, .inl siz)), (q_bk, .inr (1, [.int w, .int h, .int sty, .int bd, .int str, .int cel])), (q_te, .inr (2, [.ref q_sa, .ref q_ro, .int cnt, .int pn])), (q_sa, .inl (k_sa, n_sa, .inl sam)), (q_ro, .inl (k_ro, n_ro, .inl row))] H → va_D A [(q_wk, .inr (4, [.ref q_bk, .ref q_te, .ref q_sg, .ref q_sz, .ref q_lo, .int pls, .int pl, .int raw])), (q_sg, .inl (k_sg, n_sg, .inl sgn)), (q_sz, .inl (k_sz, n_sz, .inl siz)), (q_bk, .inr (1, [.int w, .int h, .int sty, .int bd, .int str, .int cel])), (q_te, .inr (2, [.ref q_sa, .ref q_ro, .int cnt, .int pn])), (q_sa, .inl (k_sa, n_sa, .inl sam)), (q_ro, .inl (k_ro, n_ro, .inl row))] → va_S A s.heap H locs → lv_has ls 9 [(0, .ref q_wk), (1, .int a0), (2, .int a1)] → W p l e rm_WT_exchangeSign s m args below meth c H locs 0 0 Q (F0 m 22 ls [.int u2]) := by
    intro H locs ls hP hD hS hl
    refine lv_istore_n (lv' := [(3, .int u2), (0, .ref q_wk), (1, .int a0), (2, .int a1)]) hx hb d_W_exchangeSign_22 rfl hl (by decide) rfl (fun ls hl => ?_)
    refine lv_aload_n hx hb d_W_exchangeSign_23 rfl (lv_at hl 1 rfl) ?_
    refine va_get (D := (dC, dI)) (ci := 4) (v := .ref q_sg) (C := R_W) (T := T_W) (N := 8) hx hb hts ki_W hown hK hP 0 rfl rfl 2 (by decide) (hts _ kw_1_105) (fun _ h9 => h9) rfl d_W_exchangeSign_24 ?_
    refine lv_iload_n hx hb d_W_exchangeSign_27 rfl (lv_at hl 2 rfl) ?_
    refine lv_iconst (v := 1) hx hb d_W_exchangeSign_28 (by decide) ?_
    refine lv_isub hx hb d_W_exchangeSign_29 ?_
    obtain ⟨h3, hF⟩ := kc_no hF
    refine va_iald hx hb hK hP 1 0 rfl rfl h3 d_W_exchangeSign_30 ?_
    refine lv_aload_n hx hb d_W_exchangeSign_31 rfl (lv_at hl 1 rfl) ?_
    refine va_get (D := (dC, dI)) (ci := 4) (v := .ref q_sg) (C := R_W) (T := T_W) (N := 8) hx hb hts ki_W hown hK hP 0 rfl rfl 2 (by decide) (hts _ kw_1_105) (fun _ h9 => h9) rfl d_W_exchangeSign_32 ?_
    refine lv_iload_n hx hb d_W_exchangeSign_35 rfl (lv_at hl 2 rfl) ?_
    refine lv_iconst (v := 1) hx hb d_W_exchangeSign_36 (by decide) ?_
    refine lv_iadd hx hb d_W_exchangeSign_37 ?_
    obtain ⟨h4, hF⟩ := kc_no hF
    refine va_iald hx hb hK hP 1 0 rfl rfl h4 d_W_exchangeSign_38 ?_
    refine lv_iadd hx hb d_W_exchangeSign_39 ?_
    refine lv_iconst (v := -1) hx hb d_W_exchangeSign_40 (by decide) ?_
    refine lv_iconst (v := 1) hx hb d_W_exchangeSign_41 (by decide) ?_
    refine kr_call (va_runSN (As := [.int ((sgn (a0 - (1 : Int32)).toNatClampNeg) + (sgn (a0 + (1 : Int32)).toNatClampNeg)), .int (-1 : Int32), .int (1 : Int32)]) (rest := []) ⟨hx, hb, hml, hown, hts⟩ (m_ST_within l dC dI ((sgn (a0 - (1 : Int32)).toNatClampNeg) + (sgn (a0 + (1 : Int32)).toNatClampNeg)) (-1 : Int32) (1 : Int32) (f_ST_within ((sgn (a0 - (1 : Int32)).toNatClampNeg) + (sgn (a0 + (1 : Int32)).toNatClampNeg)) (-1 : Int32) (1 : Int32)) rfl) ⟨va_cnB (host := "BitPlanes") 3 hts (kgN kw_1_28) rfl rfl rfl (kn_7 hN) (hts _ kw_1_1) (by decide +kernel) ⟨Nat.le_of_ble_eq_true rfl, Nat.le_of_ble_eq_true rfl⟩, (hts _ kw_1_27), trivial⟩ ⟨kRe_blind, kRe_of (hP.sub [] rfl) (hK.sub [] rfl) hN⟩ rfl rfl hl.1 rfl (lv_room (Nat.le_of_ble_eq_true rfl)) d_W_exchangeSign_42 ⟨Nat.le_of_ble_eq_true rfl, Nat.le_of_ble_eq_true rfl⟩) ?_
    refine lv_istore (lv' := [(4, .int (f_ST_within ((sgn (a0 - (1 : Int32)).toNatClampNeg) + (sgn (a0 + (1 : Int32)).toNatClampNeg)) (-1 : Int32) (1 : Int32))), (3, .int u2), (0, .ref q_wk), (1, .int a0), (2, .int a1)]) hx hb d_W_exchangeSign_45 hl (by decide) rfl (fun ls hl => ?_)
    refine lv_aload_n hx hb d_W_exchangeSign_47 rfl (lv_at hl 2 rfl) ?_
    refine va_get (D := (dC, dI)) (ci := 4) (v := .ref q_sg) (C := R_W) (T := T_W) (N := 8) hx hb hts ki_W hown hK hP 0 rfl rfl 2 (by decide) (hts _ kw_1_105) (fun _ h9 => h9) rfl d_W_exchangeSign_48 ?_
    refine lv_iload_n hx hb d_W_exchangeSign_51 rfl (lv_at hl 3 rfl) ?_
    refine lv_aload_n hx hb d_W_exchangeSign_52 rfl (lv_at hl 2 rfl) ?_
    refine va_get (D := (dC, dI)) (ci := 4) (v := .ref q_bk) (C := R_W) (T := T_W) (N := 8) hx hb hts ki_W hown hK hP 0 rfl rfl 0 (by decide) (hts _ kw_1_103) (fun _ h9 => h9) rfl d_W_exchangeSign_53 ?_
    refine va_get (D := (dC, dI)) (ci := 1) (v := .int str) (C := R_K) (T := T_K) (N := 6) hx hb hts ki_K hown hK hP 3 rfl rfl 4 (by decide) (hts _ kw_1_51) (fun _ h9 => h9) rfl d_W_exchangeSign_56 ?_
    refine lv_isub hx hb d_W_exchangeSign_59 ?_
    obtain ⟨h5, hF⟩ := kc_no hF
    refine va_iald hx hb hK hP 1 0 rfl rfl h5 d_W_exchangeSign_60 ?_
    refine lv_iload_n hx hb d_W_exchangeSign_61 rfl (lv_at hl 1 rfl) ?_
    refine lv_iadd hx hb d_W_exchangeSign_62 ?_
    refine lv_iconst (v := -1) hx hb d_W_exchangeSign_63 (by decide) ?_
    refine lv_iconst (v := 1) hx hb d_W_exchangeSign_64 (by decide) ?_
    refine kr_call (va_runSN (As := [.int ((sgn (a0 - str).toNatClampNeg) + u2), .int (-1 : Int32), .int (1 : Int32)]) (rest := []) ⟨hx, hb, hml, hown, hts⟩ (m_ST_within l dC dI ((sgn (a0 - str).toNatClampNeg) + u2) (-1 : Int32) (1 : Int32) (f_ST_within ((sgn (a0 - str).toNatClampNeg) + u2) (-1 : Int32) (1 : Int32)) rfl) ⟨va_cnB (host := "BitPlanes") 3 hts (kgN kw_1_28) rfl rfl rfl (kn_7 hN) (hts _ kw_1_1) (by decide +kernel) ⟨Nat.le_of_ble_eq_true rfl, Nat.le_of_ble_eq_true rfl⟩, (hts _ kw_1_27), trivial⟩ ⟨kRe_blind, kRe_of (hP.sub [] rfl) (hK.sub [] rfl) hN⟩ rfl rfl hl.1 rfl (lv_room (Nat.le_of_ble_eq_true rfl)) d_W_exchangeSign_65 ⟨Nat.le_of_ble_eq_true rfl, Nat.le_of_ble_eq_true rfl⟩) ?_
    refine lv_istore (lv' := [(5, .int (f_ST_within ((sgn (a0 - str).toNatClampNeg) + u2) (-1 : Int32) (1 : Int32))), (4, .int (f_ST_within ((sgn (a0 - (1 : Int32)).toNatClampNeg) + (sgn (a0 + (1 : Int32)).toNatClampNeg)) (-1 : Int32) (1 : Int32))), (3, .int u2), (0, .ref q_wk), (1, .int a0), (2, .int a1)]) hx hb d_W_exchangeSign_68 hl (by decide) rfl (fun ls hl => ?_)
    refine lv_aload_n hx hb d_W_exchangeSign_70 rfl (lv_at hl 3 rfl) ?_
    refine va_get (D := (dC, dI)) (ci := 4) (v := .int raw) (C := R_W) (T := T_W) (N := 8) hx hb hts ki_W hown hK hP 0 rfl rfl 7 (by decide) (hts _ kw_1_113) (fun _ h9 => h9) rfl d_W_exchangeSign_71 ?_
    obtain ⟨u7, hcu7, hF⟩ := kc_bnd hF
    have hJu7 : ∀ (H : Heap) (locs : List Loc) (ls : Array Slot), va_P (dC, dI) vwCl [(q_wk, .inr (4, [.ref q_bk, .ref q_te, .ref q_sg, .ref q_sz, .ref q_lo, .int pls, .int pl, .int raw])), (q_sg, .inl (k_sg, n_sg, .inl sgn)), (q_sz, .inl (k_sz, n_sz, .inl siz)), (q_bk, .inr (1, [.int w, .int h, .int sty, .int bd, .int str, .int cel])), (q_te, .inr (2, [.ref q_sa, .ref q_ro, .int cnt, .int pn])), (q_sa, .inl (k_sa, n_sa, .inl sam)), (q_ro, .inl (k_ro, n_ro, .inl row))] H → va_D A [(q_wk, .inr (4, [.ref q_bk, .ref q_te, .ref q_sg, .ref q_sz, .ref q_lo, .int pls, .int pl, .int raw])), (q_sg, .inl (k_sg, n_sg, .inl sgn)), (q_sz, .inl (k_sz, n_sz, .inl siz)), (q_bk, .inr (1, [.int w, .int h, .int sty, .int bd, .int str, .int cel])), (q_te, .inr (2, [.ref q_sa, .ref q_ro, .int cnt, .int pn])), (q_sa, .inl (k_sa, n_sa, .inl sam)), (q_ro, .inl (k_ro, n_ro, .inl row))] → va_S A s.heap H locs → lv_has ls 9 [(5, .int (f_ST_within ((sgn (a0 - str).toNatClampNeg) + u2) (-1 : Int32) (1 : Int32))), (4, .int (f_ST_within ((sgn (a0 - (1 : Int32)).toNatClampNeg) + (sgn (a0 + (1 : Int32)).toNatClampNeg)) (-1 : Int32) (1 : Int32))), (3, .int u2), (0, .ref q_wk), (1, .int a0), (2, .int a1)] → W p l e rm_WT_exchangeSign s m args below meth c H locs 0 0 Q (F0 m 92 ls [.int u7]) := by
      intro H locs ls hP hD hS hl
      refine lv_istore (lv' := [(6, .int u7), (5, .int (f_ST_within ((sgn (a0 - str).toNatClampNeg) + u2) (-1 : Int32) (1 : Int32))), (4, .int (f_ST_within ((sgn (a0 - (1 : Int32)).toNatClampNeg) + (sgn (a0 + (1 : Int32)).toNatClampNeg)) (-1 : Int32) (1 : Int32))), (3, .int u2), (0, .ref q_wk), (1, .int a0), (2, .int a1)]) hx hb d_W_exchangeSign_92 hl (by decide) rfl (fun ls hl => ?_)
      refine lv_aload_n hx hb d_W_exchangeSign_94 rfl (lv_at hl 4 rfl) ?_
      refine va_get (D := (dC, dI)) (ci := 4) (v := .int raw) (C := R_W) (T := T_W) (N := 8) hx hb hts ki_W hown hK hP 0 rfl rfl 7 (by decide) (hts _ kw_1_113) (fun _ h9 => h9) rfl d_W_exchangeSign_95 ?_
      obtain ⟨u9, hcu9, hF⟩ := kc_bnd hF
      have hJu9 : ∀ (H : Heap) (locs : List Loc) (ls : Array Slot), va_P (dC, dI) vwCl [(q_wk, .inr (4, [.ref q_bk, .ref q_te, .ref q_sg, .ref q_sz, .ref q_lo, .int pls, .int pl, .int raw])), (q_sg, .inl (k_sg, n_sg, .inl sgn)), (q_sz, .inl (k_sz, n_sz, .inl siz)), (q_bk, .inr (1, [.int w, .int h, .int sty, .int bd, .int str, .int cel])), (q_te, .inr (2, [.ref q_sa, .ref q_ro, .int cnt, .int pn])), (q_sa, .inl (k_sa, n_sa, .inl sam)), (q_ro, .inl (k_ro, n_ro, .inl row))] H → va_D A [(q_wk, .inr (4, [.ref q_bk, .ref q_te, .ref q_sg, .ref q_sz, .ref q_lo, .int pls, .int pl, .int raw])), (q_sg, .inl (k_sg, n_sg, .inl sgn)), (q_sz, .inl (k_sz, n_sz, .inl siz)), (q_bk, .inr (1, [.int w, .int h, .int sty, .int bd, .int str, .int cel])), (q_te, .inr (2, [.ref q_sa, .ref q_ro, .int cnt, .int pn])), (q_sa, .inl (k_sa, n_sa, .inl sam)), (q_ro, .inl (k_ro, n_ro, .inl row))] → va_S A s.heap H locs → lv_has ls 9 [(6, .int u7), (5, .int (f_ST_within ((sgn (a0 - str).toNatClampNeg) + u2) (-1 : Int32) (1 : Int32))), (4, .int (f_ST_within ((sgn (a0 - (1 : Int32)).toNatClampNeg) + (sgn (a0 + (1 : Int32)).toNatClampNeg)) (-1 : Int32) (1 : Int32))), (3, .int u2), (0, .ref q_wk), (1, .int a0), (2, .int a1)] → W p l e rm_WT_exchangeSign s m args below meth c H locs 0 0 Q (F0 m 113 ls [.int u9]) := by
        intro H locs ls hP hD hS hl
        refine lv_istore (lv' := [(7, .int u9), (6, .int u7), (5, .int (f_ST_within ((sgn (a0 - str).toNatClampNeg) + u2) (-1 : Int32) (1 : Int32))), (4, .int (f_ST_within ((sgn (a0 - (1 : Int32)).toNatClampNeg) + (sgn (a0 + (1 : Int32)).toNatClampNeg)) (-1 : Int32) (1 : Int32))), (3, .int u2), (0, .ref q_wk), (1, .int a0), (2, .int a1)]) hx hb d_W_exchangeSign_113 hl (by decide) rfl (fun ls hl => ?_)
        refine lv_aload_n hx hb d_W_exchangeSign_115 rfl (lv_at hl 5 rfl) ?_
        refine va_get (D := (dC, dI)) (ci := 4) (v := .ref q_te) (C := R_W) (T := T_W) (N := 8) hx hb hts ki_W hown hK hP 0 rfl rfl 1 (by decide) (hts _ kw_1_104) (fun _ h9 => h9) rfl d_W_exchangeSign_116 ?_
        refine lv_aload_n hx hb d_W_exchangeSign_119 rfl (lv_at hl 5 rfl) ?_
        refine va_get (D := (dC, dI)) (ci := 4) (v := .ref q_te) (C := R_W) (T := T_W) (N := 8) hx hb hts ki_W hown hK hP 0 rfl rfl 1 (by decide) (hts _ kw_1_104) (fun _ h9 => h9) rfl d_W_exchangeSign_120 ?_
        refine lv_iload_n hx hb d_W_exchangeSign_123 rfl (lv_at hl 6 rfl) ?_
        obtain ⟨u10, hc, hF⟩ := kc_bnd hF
        refine kr_call (va_runU (As := [.int a0]) (rest := [.ref q_te]) ⟨hx, hb, hml, hown, hts⟩ (m_T_signBit l dC dI q_te q_sa q_ro k_sa n_sa cnt pn sam a0 _ hc) (va_cwA 1 hts (kgA kw_2_58 kw_2_60 kw_2_64 kw_2_65 kw_1_5 kw_2_66) rfl rfl rfl (kn_8 hN) (by decide +kernel) ⟨Nat.le_of_ble_eq_true rfl, Nat.le_of_ble_eq_true rfl⟩) ⟨kRe_blind, va_recv hK hP (ci := 2) (q0 := 4) rfl rfl, kRe_of (hP.sub [4, 5] rfl) (hK.sub [2] rfl) hN⟩ rfl rfl hl.1 rfl (lv_room (Nat.le_of_ble_eq_true rfl)) d_W_exchangeSign_124 ⟨Nat.le_of_ble_eq_true rfl, Nat.le_of_ble_eq_true rfl⟩) ?_
        refine lv_iload hx hb d_W_exchangeSign_127 (lv_at hl 1 rfl) ?_
        refine lv_ixor hx hb d_W_exchangeSign_129 ?_
        refine lv_iload hx hb d_W_exchangeSign_130 (lv_at hl 0 rfl) ?_
        obtain ⟨u11, hc, hF⟩ := kc_bnd hF
        refine ku_call (wr := [(q_wk, .inr (4, [.ref q_bk, .ref q_te, .ref q_sg, .ref q_sz, .ref q_lo, .int pls, .int pl, .int raw])), (q_sg, .inl (k_sg, n_sg, .inl sgn)), (q_sz, .inl (k_sz, n_sz, .inl siz)), (q_bk, .inr (1, [.int w, .int h, .int sty, .int bd, .int str, .int cel])), (q_sa, .inl (k_sa, n_sa, .inl sam))]) hA (va_runU (As := [.int (u10 ^^^ u7), .int u9]) (rest := []) ⟨hx, hb, hml, hown, hts⟩ (m_T_exchange l dC dI q_te q_sa q_ro k_ro n_ro cnt pn row (u10 ^^^ u7) u9 _ hc H.size) (va_cwA 2 hts (kgA kw_2_33 kw_2_35 kw_2_43 kw_2_44 kw_1_5 kw_2_45) rfl rfl rfl (kn_6 hN) (by decide +kernel) ⟨Nat.le_of_ble_eq_true rfl, Nat.le_of_ble_eq_true rfl⟩) ⟨kPre_blind, va_recv hK hP (ci := 2) (q0 := 4) rfl rfl, kPre_of (hP.sub [4, 6] rfl) (hK.sub [3] rfl) (hD.sub [4, 6] (by decide) rfl) hN⟩ rfl rfl hl.1 rfl (lv_room (Nat.le_of_ble_eq_true rfl)) d_W_exchangeSign_132 ⟨Nat.le_of_ble_eq_true rfl, Nat.le_of_ble_eq_true rfl⟩) hP hD hS [4, 6] [0, 1, 2, 3, 5] rfl rfl (by decide) (by decide) (fun H locs hP hD hS => ?_)
        have hP : va_P (dC, dI) vwCl [(q_wk, .inr (4, [.ref q_bk, .ref q_te, .ref q_sg, .ref q_sz, .ref q_lo, .int pls, .int pl, .int raw])), (q_sg, .inl (k_sg, n_sg, .inl sgn)), (q_sz, .inl (k_sz, n_sz, .inl siz)), (q_bk, .inr (1, [.int w, .int h, .int sty, .int bd, .int str, .int cel])), (q_sa, .inl (k_sa, n_sa, .inl sam)), (q_te, .inr (2, [.ref q_sa, .ref q_ro, .int u11.2.1, .int pn])), (q_ro, .inl (k_ro, n_ro, .inl u11.2.2))] H := hP
        have hD : va_D A [(q_wk, .inr (4, [.ref q_bk, .ref q_te, .ref q_sg, .ref q_sz, .ref q_lo, .int pls, .int pl, .int raw])), (q_sg, .inl (k_sg, n_sg, .inl sgn)), (q_sz, .inl (k_sz, n_sz, .inl siz)), (q_bk, .inr (1, [.int w, .int h, .int sty, .int bd, .int str, .int cel])), (q_sa, .inl (k_sa, n_sa, .inl sam)), (q_te, .inr (2, [.ref q_sa, .ref q_ro, .int u11.2.1, .int pn])), (q_ro, .inl (k_ro, n_ro, .inl u11.2.2))] := hD
        refine lv_iload hx hb d_W_exchangeSign_135 (lv_at hl 1 rfl) ?_
        refine lv_ixor hx hb d_W_exchangeSign_137 ?_
        refine lv_istore (lv' := [(8, .int (u11.1 ^^^ u7)), (7, .int u9), (6, .int u7), (5, .int (f_ST_within ((sgn (a0 - str).toNatClampNeg) + u2) (-1 : Int32) (1 : Int32))), (4, .int (f_ST_within ((sgn (a0 - (1 : Int32)).toNatClampNeg) + (sgn (a0 + (1 : Int32)).toNatClampNeg)) (-1 : Int32) (1 : Int32))), (3, .int u2), (0, .ref q_wk), (1, .int a0), (2, .int a1)]) hx hb d_W_exchangeSign_138 hl (by decide) rfl (fun ls hl => ?_)
        refine lv_aload_n hx hb d_W_exchangeSign_140 rfl (lv_at hl 6 rfl) ?_
        refine va_get (D := (dC, dI)) (ci := 4) (v := .ref q_sg) (C := R_W) (T := T_W) (N := 8) hx hb hts ki_W hown hK hP 0 rfl rfl 2 (by decide) (hts _ kw_1_105) (fun _ h9 => h9) rfl d_W_exchangeSign_141 ?_
        refine lv_iload_n hx hb d_W_exchangeSign_144 rfl (lv_at hl 7 rfl) ?_
        refine lv_iload hx hb d_W_exchangeSign_145 (lv_at hl 0 rfl) ?_
        refine lv_iconst (v := 1) hx hb d_W_exchangeSign_147 (by decide) ?_
        obtain ⟨u13, hcu13, hF⟩ := kc_bnd hF
        have hJu13 : ∀ (H : Heap) (locs : List Loc) (ls : Array Slot), va_P (dC, dI) vwCl [(q_wk, .inr (4, [.ref q_bk, .ref q_te, .ref q_sg, .ref q_sz, .ref q_lo, .int pls, .int pl, .int raw])), (q_sg, .inl (k_sg, n_sg, .inl sgn)), (q_sz, .inl (k_sz, n_sz, .inl siz)), (q_bk, .inr (1, [.int w, .int h, .int sty, .int bd, .int str, .int cel])), (q_sa, .inl (k_sa, n_sa, .inl sam)), (q_te, .inr (2, [.ref q_sa, .ref q_ro, .int u11.2.1, .int pn])), (q_ro, .inl (k_ro, n_ro, .inl u11.2.2))] H → va_D A [(q_wk, .inr (4, [.ref q_bk, .ref q_te, .ref q_sg, .ref q_sz, .ref q_lo, .int pls, .int pl, .int raw])), (q_sg, .inl (k_sg, n_sg, .inl sgn)), (q_sz, .inl (k_sz, n_sz, .inl siz)), (q_bk, .inr (1, [.int w, .int h, .int sty, .int bd, .int str, .int cel])), (q_sa, .inl (k_sa, n_sa, .inl sam)), (q_te, .inr (2, [.ref q_sa, .ref q_ro, .int u11.2.1, .int pn])), (q_ro, .inl (k_ro, n_ro, .inl u11.2.2))] → va_S A s.heap H locs → lv_has ls 9 [(8, .int (u11.1 ^^^ u7)), (7, .int u9), (6, .int u7), (5, .int (f_ST_within ((sgn (a0 - str).toNatClampNeg) + u2) (-1 : Int32) (1 : Int32))), (4, .int (f_ST_within ((sgn (a0 - (1 : Int32)).toNatClampNeg) + (sgn (a0 + (1 : Int32)).toNatClampNeg)) (-1 : Int32) (1 : Int32))), (3, .int u2), (0, .ref q_wk), (1, .int a0), (2, .int a1)] → W p l e rm_WT_exchangeSign s m args below meth c H locs 0 0 Q (F0 m 156 ls [.int u13, .int a0, .ref q_sg]) := by
          intro H locs ls hP hD hS hl
          obtain ⟨h14, hF⟩ := kc_no hF
          refine va_iast hx hb hK hP hD hS 1 0 rfl rfl h14 d_W_exchangeSign_156 (fun H locs hP hD hS => ?_)
          have hP : va_P (dC, dI) vwCl [(q_wk, .inr (4, [.ref q_bk, .ref q_te, .ref q_sg, .ref q_sz, .ref q_lo, .int pls, .int pl, .int raw])), (q_sg, .inl (k_sg, n_sg, .inl (upd sgn a0.toNatClampNeg u13))), (q_sz, .inl (k_sz, n_sz, .inl siz)), (q_bk, .inr (1, [.int w, .int h, .int sty, .int bd, .int str, .int cel])), (q_sa, .inl (k_sa, n_sa, .inl sam)), (q_te, .inr (2, [.ref q_sa, .ref q_ro, .int u11.2.1, .int pn])), (q_ro, .inl (k_ro, n_ro, .inl u11.2.2))] H := hP
          have hD : va_D A [(q_wk, .inr (4, [.ref q_bk, .ref q_te, .ref q_sg, .ref q_sz, .ref q_lo, .int pls, .int pl, .int raw])), (q_sg, .inl (k_sg, n_sg, .inl (upd sgn a0.toNatClampNeg u13))), (q_sz, .inl (k_sz, n_sz, .inl siz)), (q_bk, .inr (1, [.int w, .int h, .int sty, .int bd, .int str, .int cel])), (q_sa, .inl (k_sa, n_sa, .inl sam)), (q_te, .inr (2, [.ref q_sa, .ref q_ro, .int u11.2.1, .int pn])), (q_ro, .inl (k_ro, n_ro, .inl u11.2.2))] := hD
          refine lv_aload_n hx hb d_W_exchangeSign_157 rfl (lv_at hl 6 rfl) ?_
          refine va_get (D := (dC, dI)) (ci := 4) (v := .ref q_sz) (C := R_W) (T := T_W) (N := 8) hx hb hts ki_W hown hK hP 0 rfl rfl 3 (by decide) (hts _ kw_1_107) (fun _ h9 => h9) rfl d_W_exchangeSign_158 ?_
          refine lv_iload_n hx hb d_W_exchangeSign_161 rfl (lv_at hl 7 rfl) ?_
          refine lv_iconst (v := 1) hx hb d_W_exchangeSign_162 (by decide) ?_
          refine lv_aload_n hx hb d_W_exchangeSign_163 rfl (lv_at hl 6 rfl) ?_
          refine va_get (D := (dC, dI)) (ci := 4) (v := .int pl) (C := R_W) (T := T_W) (N := 8) hx hb hts ki_W hown hK hP 0 rfl rfl 6 (by decide) (hts _ kw_1_112) (fun _ h9 => h9) rfl d_W_exchangeSign_164 ?_
          refine lv_ishl hx hb d_W_exchangeSign_167 ?_
          obtain ⟨h15, hF⟩ := kc_no hF
          refine va_iast hx hb hK hP hD hS 2 1 rfl rfl h15 d_W_exchangeSign_168 (fun H locs hP hD hS => ?_)
          have hP : va_P (dC, dI) vwCl [(q_wk, .inr (4, [.ref q_bk, .ref q_te, .ref q_sg, .ref q_sz, .ref q_lo, .int pls, .int pl, .int raw])), (q_sg, .inl (k_sg, n_sg, .inl (upd sgn a0.toNatClampNeg u13))), (q_sz, .inl (k_sz, n_sz, .inl (upd siz a0.toNatClampNeg ((1 : Int32) <<< (pl &&& 31))))), (q_bk, .inr (1, [.int w, .int h, .int sty, .int bd, .int str, .int cel])), (q_sa, .inl (k_sa, n_sa, .inl sam)), (q_te, .inr (2, [.ref q_sa, .ref q_ro, .int u11.2.1, .int pn])), (q_ro, .inl (k_ro, n_ro, .inl u11.2.2))] H := hP
          have hD : va_D A [(q_wk, .inr (4, [.ref q_bk, .ref q_te, .ref q_sg, .ref q_sz, .ref q_lo, .int pls, .int pl, .int raw])), (q_sg, .inl (k_sg, n_sg, .inl (upd sgn a0.toNatClampNeg u13))), (q_sz, .inl (k_sz, n_sz, .inl (upd siz a0.toNatClampNeg ((1 : Int32) <<< (pl &&& 31))))), (q_bk, .inr (1, [.int w, .int h, .int sty, .int bd, .int str, .int cel])), (q_sa, .inl (k_sa, n_sa, .inl sam)), (q_te, .inr (2, [.ref q_sa, .ref q_ro, .int u11.2.1, .int pn])), (q_ro, .inl (k_ro, n_ro, .inl u11.2.2))] := hD
          obtain rfl := Option.some.inj hF
          exact ku_vret hx hb hr hlocks hQ (hP.sub [0, 1, 2, 3, 5, 4, 6] rfl) (hD.sub [0, 1, 2, 3, 5, 4, 6] (by decide) rfl) hS d_W_exchangeSign_169
        clear hF; have hF := hcu13; clear hcu13
        refine lv_icmp_ne (tgt := 155) hx hb d_W_exchangeSign_148 (by decide) (fun c12 => ?_) (fun c12 => ?_)
        · have hF := kc_neg c12 hF
          refine lv_iconst (v := 1) hx hb d_W_exchangeSign_155 (by decide) ?_
          obtain rfl := Option.some.inj hF
          exact hJu13 _ _ _ hP hD hS (lv_sub hl [0, 1, 2, 3, 4, 5, 6, 7, 8] rfl)
        have hF := kc_pos c12 hF
        refine lv_iconst (v := -1) hx hb d_W_exchangeSign_151 (by decide) ?_
        refine lv_goto (tgt := 156) hx hb d_W_exchangeSign_152 (by decide) ?_
        obtain rfl := Option.some.inj hF
        exact hJu13 _ _ _ hP hD hS (lv_sub hl [0, 1, 2, 3, 4, 5, 6, 7, 8] rfl)
      clear hF; have hF := hcu9; clear hcu9
      refine lv_if_eq (tgt := 106) hx hb d_W_exchangeSign_98 (by decide) (fun c8 => ?_) (fun c8 => ?_)
      · have hF := kc_pos c8 hF
        refine lv_iload hx hb d_W_exchangeSign_106 (lv_at hl 2 rfl) ?_
        refine lv_iload hx hb d_W_exchangeSign_108 (lv_at hl 1 rfl) ?_
        refine kr_call (va_runS (As := [.int (f_ST_within ((sgn (a0 - (1 : Int32)).toNatClampNeg) + (sgn (a0 + (1 : Int32)).toNatClampNeg)) (-1 : Int32) (1 : Int32)), .int (f_ST_within ((sgn (a0 - str).toNatClampNeg) + u2) (-1 : Int32) (1 : Int32))]) (rest := []) ⟨hx, hb, hml, hown, hts⟩ (m_ST_ofSign l dC dI (f_ST_within ((sgn (a0 - (1 : Int32)).toNatClampNeg) + (sgn (a0 + (1 : Int32)).toNatClampNeg)) (-1 : Int32) (1 : Int32)) (f_ST_within ((sgn (a0 - str).toNatClampNeg) + u2) (-1 : Int32) (1 : Int32)) (f_ST_ofSign (f_ST_within ((sgn (a0 - (1 : Int32)).toNatClampNeg) + (sgn (a0 + (1 : Int32)).toNatClampNeg)) (-1 : Int32) (1 : Int32)) (f_ST_within ((sgn (a0 - str).toNatClampNeg) + u2) (-1 : Int32) (1 : Int32))) rfl) (va_cwS 2 hts (kgS kw_2_54 kw_2_55 kw_1_14 kw_2_56) rfl rfl rfl (by decide +kernel) ⟨Nat.le_of_ble_eq_true rfl, Nat.le_of_ble_eq_true rfl⟩) ⟨kRe_blind, kRe_of (hP.sub [] rfl) (hK.sub [] rfl) hN⟩ rfl rfl hl.1 rfl (lv_room (Nat.le_of_ble_eq_true rfl)) d_W_exchangeSign_110 ⟨Nat.le_of_ble_eq_true rfl, Nat.le_of_ble_eq_true rfl⟩) ?_
        obtain rfl := Option.some.inj hF
        exact hJu9 _ _ _ hP hD hS (lv_sub hl [0, 1, 2, 3, 4, 5, 6] rfl)
      have hF := kc_neg c8 hF
      refine lv_bipush (v := 19) hx hb d_W_exchangeSign_101 (by decide) ?_
      refine lv_goto (tgt := 113) hx hb d_W_exchangeSign_103 (by decide) ?_
      obtain rfl := Option.some.inj hF
      exact hJu9 _ _ _ hP hD hS (lv_sub hl [0, 1, 2, 3, 4, 5, 6] rfl)
    clear hF; have hF := hcu7; clear hcu7
    refine lv_if_ne (tgt := 91) hx hb d_W_exchangeSign_74 (by decide) (fun c6 => ?_) (fun c6 => ?_)
    · have hF := kc_neg c6 hF
      refine lv_iconst (v := 0) hx hb d_W_exchangeSign_91 (by decide) ?_
      obtain rfl := Option.some.inj hF
      exact hJu7 _ _ _ hP hD hS (lv_sub hl [0, 1, 2, 3, 4, 5] rfl)
    have hF := kc_pos c6 hF
    refine lv_iload hx hb d_W_exchangeSign_77 (lv_at hl 1 rfl) ?_
    refine lv_iload hx hb d_W_exchangeSign_79 (lv_at hl 0 rfl) ?_
    refine kr_call (va_runS (As := [.int (f_ST_within ((sgn (a0 - (1 : Int32)).toNatClampNeg) + (sgn (a0 + (1 : Int32)).toNatClampNeg)) (-1 : Int32) (1 : Int32)), .int (f_ST_within ((sgn (a0 - str).toNatClampNeg) + u2) (-1 : Int32) (1 : Int32))]) (rest := []) ⟨hx, hb, hml, hown, hts⟩ (m_ST_turnsSign l dC dI (f_ST_within ((sgn (a0 - (1 : Int32)).toNatClampNeg) + (sgn (a0 + (1 : Int32)).toNatClampNeg)) (-1 : Int32) (1 : Int32)) (f_ST_within ((sgn (a0 - str).toNatClampNeg) + u2) (-1 : Int32) (1 : Int32)) (f_ST_turnsSign (f_ST_within ((sgn (a0 - (1 : Int32)).toNatClampNeg) + (sgn (a0 + (1 : Int32)).toNatClampNeg)) (-1 : Int32) (1 : Int32)) (f_ST_within ((sgn (a0 - str).toNatClampNeg) + u2) (-1 : Int32) (1 : Int32))) rfl) (va_cwS 2 hts (kgS kw_2_51 kw_2_52 kw_1_14 kw_2_53) rfl rfl rfl (by decide +kernel) ⟨Nat.le_of_ble_eq_true rfl, Nat.le_of_ble_eq_true rfl⟩) ⟨kRe_blind, kRe_of (hP.sub [] rfl) (hK.sub [] rfl) hN⟩ rfl rfl hl.1 rfl (lv_room (Nat.le_of_ble_eq_true rfl)) d_W_exchangeSign_81 ⟨Nat.le_of_ble_eq_true rfl, Nat.le_of_ble_eq_true rfl⟩) ?_
    refine lv_if_eq (tgt := 91) hx hb d_W_exchangeSign_84 (by decide) (fun c16 => ?_) (fun c16 => ?_)
    · have hF := kc_pos c16 hF
      refine lv_iconst (v := 0) hx hb d_W_exchangeSign_91 (by decide) ?_
      obtain rfl := Option.some.inj hF
      exact hJu7 _ _ _ hP hD hS (lv_sub hl [0, 1, 2, 3, 4, 5] rfl)
    have hF := kc_neg c16 hF
    refine lv_iconst (v := 1) hx hb d_W_exchangeSign_87 (by decide) ?_
    refine lv_goto (tgt := 92) hx hb d_W_exchangeSign_88 (by decide) ?_
    obtain rfl := Option.some.inj hF
    exact hJu7 _ _ _ hP hD hS (lv_sub hl [0, 1, 2, 3, 4, 5] rfl)
  clear hF; have hF := hcu2; clear hcu2
  refine lv_if_eq (tgt := 8) hx hb d_W_exchangeSign_1 (by decide) (fun c1 => ?_) (fun c1 => ?_)
  · have hF := kc_pos c1 hF
    refine lv_aload_n hx hb d_W_exchangeSign_8 rfl (lv_at hl 0 rfl) ?_
    refine va_get (D := (dC, dI)) (ci := 4) (v := .ref q_sg) (C := R_W) (T := T_W) (N := 8) hx hb hts ki_W hown hK hP 0 rfl rfl 2 (by decide) (hts _ kw_1_105) (fun _ h9 => h9) rfl d_W_exchangeSign_9 ?_
    refine lv_iload_n hx hb d_W_exchangeSign_12 rfl (lv_at hl 1 rfl) ?_
    refine lv_aload_n hx hb d_W_exchangeSign_13 rfl (lv_at hl 0 rfl) ?_
    refine va_get (D := (dC, dI)) (ci := 4) (v := .ref q_bk) (C := R_W) (T := T_W) (N := 8) hx hb hts ki_W hown hK hP 0 rfl rfl 0 (by decide) (hts _ kw_1_103) (fun _ h9 => h9) rfl d_W_exchangeSign_14 ?_
    refine va_get (D := (dC, dI)) (ci := 1) (v := .int str) (C := R_K) (T := T_K) (N := 6) hx hb hts ki_K hown hK hP 3 rfl rfl 4 (by decide) (hts _ kw_1_51) (fun _ h9 => h9) rfl d_W_exchangeSign_17 ?_
    refine lv_iadd hx hb d_W_exchangeSign_20 ?_
    obtain ⟨h17, hF⟩ := kc_no hF
    refine va_iald hx hb hK hP 1 0 rfl rfl h17 d_W_exchangeSign_21 ?_
    obtain rfl := Option.some.inj hF
    exact hJu2 _ _ _ hP hD hS (lv_sub hl [0, 1, 2] rfl)
  have hF := kc_neg c1 hF
  refine lv_iconst (v := 0) hx hb d_W_exchangeSign_4 (by decide) ?_
  refine lv_goto (tgt := 22) hx hb d_W_exchangeSign_5 (by decide) ?_
  obtain rfl := Option.some.inj hF
  exact hJu2 _ _ _ hP hD hS (lv_sub hl [0, 1, 2] rfl)
abbrev rm_WT_exchangeSize : Room := { frames := 3, cells := 0, slots := 0, locals := 71 }
set_option maxHeartbeats 4000000 in
set_option maxRecDepth 100000 in
theorem m_WT_exchangeSize (l : Launch) (dC : Nat → ClassId) (dI : Nat → Nat → Nat) (q_wk q_sg q_sz q_lo q_bk q_te q_sa q_ro : Nat) (k_sg : ClassId) (n_sg : Nat) (k_sz : ClassId) (n_sz : Nat) (k_lo : ClassId) (n_lo : Nat) (k_sa : ClassId) (n_sa : Nat) (k_ro : ClassId) (n_ro : Nat) (pls : Int32) (pl : Int32) (raw : Int32) (sgn : (Nat → Int32)) (siz : (Nat → Int32)) (low : (Nat → Int32)) (w : Int32) (h : Int32) (sty : Int32) (bd : Int32) (str : Int32) (cel : Int32) (cnt : Int32) (pn : Int32) (sam : (Nat → Int32)) (row : (Nat → Int32)) (a0 : Int32) (a1 : Int32) (a2 : Int32) (u : (Nat → Int32) × (Nat → Int32) × (Nat → Int32) × Int32 × (Nat → Int32)) (hF : f_WT_exchangeSize pl raw sgn siz low str cnt pn sam row n_sg n_sz n_lo n_sa n_ro a0 a1 a2 = some u) : ∀ sz : Nat, Met l y_W_exchangeSize (kws y_W_exchangeSize c_W_exchangeSize 4 none) rm_WT_exchangeSize (kPre (dC, dI) [.ref q_wk, .int a0, .int a1, .int a2] [(q_wk, .inr (4, [.ref q_bk, .ref q_te, .ref q_sg, .ref q_sz, .ref q_lo, .int pls, .int pl, .int raw])), (q_sg, .inl (k_sg, n_sg, .inl sgn)), (q_sz, .inl (k_sz, n_sz, .inl siz)), (q_lo, .inl (k_lo, n_lo, .inl low)), (q_bk, .inr (1, [.int w, .int h, .int sty, .int bd, .int str, .int cel])), (q_te, .inr (2, [.ref q_sa, .ref q_ro, .int cnt, .int pn])), (q_sa, .inl (k_sa, n_sa, .inl sam)), (q_ro, .inl (k_ro, n_ro, .inl row))] [(k_sg, .int), (k_sz, .int), (k_lo, .int), (k_sa, .int), (k_ro, .int)] sz) (kPost (dC, dI) none [(q_wk, .inr (4, [.ref q_bk, .ref q_te, .ref q_sg, .ref q_sz, .ref q_lo, .int pls, .int pl, .int raw])), (q_sg, .inl (k_sg, n_sg, .inl u.1)), (q_sz, .inl (k_sz, n_sz, .inl u.2.1)), (q_lo, .inl (k_lo, n_lo, .inl u.2.2.1)), (q_bk, .inr (1, [.int w, .int h, .int sty, .int bd, .int str, .int cel])), (q_te, .inr (2, [.ref q_sa, .ref q_ro, .int u.2.2.2.1, .int pn])), (q_sa, .inl (k_sa, n_sa, .inl sam)), (q_ro, .inl (k_ro, n_ro, .inl u.2.2.2.2))] (va_A [(q_wk, .inr (4, [.ref q_bk, .ref q_te, .ref q_sg, .ref q_sz, .ref q_lo, .int pls, .int pl, .int raw])), (q_sg, .inl (k_sg, n_sg, .inl sgn)), (q_sz, .inl (k_sz, n_sz, .inl siz)), (q_lo, .inl (k_lo, n_lo, .inl low)), (q_bk, .inr (1, [.int w, .int h, .int sty, .int bd, .int str, .int cel])), (q_te, .inr (2, [.ref q_sa, .ref q_ro, .int cnt, .int pn])), (q_sa, .inl (k_sa, n_sa, .inl sam)), (q_ro, .inl (k_ro, n_ro, .inl row))] sz)) 0 0 (va_A [(q_wk, .inr (4, [.ref q_bk, .ref q_te, .ref q_sg, .ref q_sz, .ref q_lo, .int pls, .int pl, .int raw])), (q_sg, .inl (k_sg, n_sg, .inl sgn)), (q_sz, .inl (k_sz, n_sz, .inl siz)), (q_lo, .inl (k_lo, n_lo, .inl low)), (q_bk, .inr (1, [.int w, .int h, .int sty, .int bd, .int str, .int cel])), (q_te, .inr (2, [.ref q_sa, .ref q_ro, .int cnt, .int pn])), (q_sa, .inl (k_sa, n_sa, .inl sam)), (q_ro, .inl (k_ro, n_ro, .inl row))] sz) := by
  unfold f_WT_exchangeSize at hF
  refine kU_of (cc := c_W_exchangeSize) (maxL := 4) (ret := none) (by decide) (Nat.le_of_ble_eq_true rfl) ?_
  intro p e s m args below meth c Q A hQ hfx hK hN hA H locs ls hP hD hS hl
  obtain ⟨hx, hb, hr, hml, hown, hts, hlocks⟩ := hfx
  have hown : s.vm.findClass R_W = some m.cls := hown
  have hl : lv_has ls 4 [(0, .ref q_wk), (1, .int a0), (2, .int a1), (3, .int a2)] := hl
  refine lv_aload_n hx hb d_W_exchangeSize_0 rfl (lv_at hl 0 rfl) ?_
  refine va_get (D := (dC, dI)) (ci := 4) (v := .ref q_lo) (C := R_W) (T := T_W) (N := 8) hx hb hts ki_W hown hK hP 0 rfl rfl 4 (by decide) (hts _ kw_1_109) (fun _ h9 => h9) rfl d_W_exchangeSize_1 ?_
  refine lv_iload_n hx hb d_W_exchangeSize_4 rfl (lv_at hl 1 rfl) ?_
  refine lv_aload_n hx hb d_W_exchangeSize_5 rfl (lv_at hl 0 rfl) ?_
  refine va_get (D := (dC, dI)) (ci := 4) (v := .int pl) (C := R_W) (T := T_W) (N := 8) hx hb hts ki_W hown hK hP 0 rfl rfl 6 (by decide) (hts _ kw_1_112) (fun _ h9 => h9) rfl d_W_exchangeSize_6 ?_
  obtain ⟨h1, hF⟩ := kc_no hF
  refine va_iast hx hb hK hP hD hS 3 2 rfl rfl h1 d_W_exchangeSize_9 (fun H locs hP hD hS => ?_)
  have hP : va_P (dC, dI) vwCl [(q_wk, .inr (4, [.ref q_bk, .ref q_te, .ref q_sg, .ref q_sz, .ref q_lo, .int pls, .int pl, .int raw])), (q_sg, .inl (k_sg, n_sg, .inl sgn)), (q_sz, .inl (k_sz, n_sz, .inl siz)), (q_lo, .inl (k_lo, n_lo, .inl (upd low a0.toNatClampNeg pl))), (q_bk, .inr (1, [.int w, .int h, .int sty, .int bd, .int str, .int cel])), (q_te, .inr (2, [.ref q_sa, .ref q_ro, .int cnt, .int pn])), (q_sa, .inl (k_sa, n_sa, .inl sam)), (q_ro, .inl (k_ro, n_ro, .inl row))] H := hP
  have hD : va_D A [(q_wk, .inr (4, [.ref q_bk, .ref q_te, .ref q_sg, .ref q_sz, .ref q_lo, .int pls, .int pl, .int raw])), (q_sg, .inl (k_sg, n_sg, .inl sgn)), (q_sz, .inl (k_sz, n_sz, .inl siz)), (q_lo, .inl (k_lo, n_lo, .inl (upd low a0.toNatClampNeg pl))), (q_bk, .inr (1, [.int w, .int h, .int sty, .int bd, .int str, .int cel])), (q_te, .inr (2, [.ref q_sa, .ref q_ro, .int cnt, .int pn])), (q_sa, .inl (k_sa, n_sa, .inl sam)), (q_ro, .inl (k_ro, n_ro, .inl row))] := hD
  refine lv_aload_n hx hb d_W_exchangeSize_10 rfl (lv_at hl 0 rfl) ?_
  refine va_get (D := (dC, dI)) (ci := 4) (v := .ref q_te) (C := R_W) (T := T_W) (N := 8) hx hb hts ki_W hown hK hP 0 rfl rfl 1 (by decide) (hts _ kw_1_104) (fun _ h9 => h9) rfl d_W_exchangeSize_11 ?_
  refine lv_aload_n hx hb d_W_exchangeSize_14 rfl (lv_at hl 0 rfl) ?_
  refine va_get (D := (dC, dI)) (ci := 4) (v := .ref q_te) (C := R_W) (T := T_W) (N := 8) hx hb hts ki_W hown hK hP 0 rfl rfl 1 (by decide) (hts _ kw_1_104) (fun _ h9 => h9) rfl d_W_exchangeSize_15 ?_
  refine lv_iload_n hx hb d_W_exchangeSize_18 rfl (lv_at hl 1 rfl) ?_
  refine lv_aload_n hx hb d_W_exchangeSize_19 rfl (lv_at hl 0 rfl) ?_
  refine va_get (D := (dC, dI)) (ci := 4) (v := .int pl) (C := R_W) (T := T_W) (N := 8) hx hb hts ki_W hown hK hP 0 rfl rfl 6 (by decide) (hts _ kw_1_112) (fun _ h9 => h9) rfl d_W_exchangeSize_20 ?_
  obtain ⟨u2, hc, hF⟩ := kc_bnd hF
  refine kr_call (va_runU (As := [.int a0, .int pl]) (rest := [.ref q_te]) ⟨hx, hb, hml, hown, hts⟩ (m_T_sizeBit l dC dI q_te q_sa q_ro k_sa n_sa cnt pn sam a0 pl _ hc) (va_cwA 2 hts (kgA kw_2_23 kw_2_25 kw_2_29 kw_2_30 kw_1_5 kw_2_31) rfl rfl rfl (kn_5 hN) (by decide +kernel) ⟨Nat.le_of_ble_eq_true rfl, Nat.le_of_ble_eq_true rfl⟩) ⟨kRe_blind, va_recv hK hP (ci := 2) (q0 := 5) rfl rfl, kRe_of (hP.sub [5, 6] rfl) (hK.sub [3] rfl) hN⟩ rfl rfl hl.1 rfl (lv_room (Nat.le_of_ble_eq_true rfl)) d_W_exchangeSize_23 ⟨Nat.le_of_ble_eq_true rfl, Nat.le_of_ble_eq_true rfl⟩) ?_
  refine lv_aload_n hx hb d_W_exchangeSize_26 rfl (lv_at hl 0 rfl) ?_
  refine va_get (D := (dC, dI)) (ci := 4) (v := .int raw) (C := R_W) (T := T_W) (N := 8) hx hb hts ki_W hown hK hP 0 rfl rfl 7 (by decide) (hts _ kw_1_113) (fun _ h9 => h9) rfl d_W_exchangeSize_27 ?_
  obtain ⟨u4, hcu4, hF⟩ := kc_bnd hF
  have hJu4 : ∀ (H : Heap) (locs : List Loc) (ls : Array Slot), va_P (dC, dI) vwCl [(q_wk, .inr (4, [.ref q_bk, .ref q_te, .ref q_sg, .ref q_sz, .ref q_lo, .int pls, .int pl, .int raw])), (q_sg, .inl (k_sg, n_sg, .inl sgn)), (q_sz, .inl (k_sz, n_sz, .inl siz)), (q_lo, .inl (k_lo, n_lo, .inl (upd low a0.toNatClampNeg pl))), (q_bk, .inr (1, [.int w, .int h, .int sty, .int bd, .int str, .int cel])), (q_te, .inr (2, [.ref q_sa, .ref q_ro, .int cnt, .int pn])), (q_sa, .inl (k_sa, n_sa, .inl sam)), (q_ro, .inl (k_ro, n_ro, .inl row))] H → va_D A [(q_wk, .inr (4, [.ref q_bk, .ref q_te, .ref q_sg, .ref q_sz, .ref q_lo, .int pls, .int pl, .int raw])), (q_sg, .inl (k_sg, n_sg, .inl sgn)), (q_sz, .inl (k_sz, n_sz, .inl siz)), (q_lo, .inl (k_lo, n_lo, .inl (upd low a0.toNatClampNeg pl))), (q_bk, .inr (1, [.int w, .int h, .int sty, .int bd, .int str, .int cel])), (q_te, .inr (2, [.ref q_sa, .ref q_ro, .int cnt, .int pn])), (q_sa, .inl (k_sa, n_sa, .inl sam)), (q_ro, .inl (k_ro, n_ro, .inl row))] → va_S A s.heap H locs → lv_has ls 4 [(0, .ref q_wk), (1, .int a0), (2, .int a1), (3, .int a2)] → W p l e rm_WT_exchangeSize s m args below meth c H locs 0 0 Q (F0 m 39 ls [.int u4, .int u2, .ref q_te]) := by
    intro H locs ls hP hD hS hl
    obtain ⟨u5, hc, hF⟩ := kc_bnd hF
    refine ku_call (wr := [(q_wk, .inr (4, [.ref q_bk, .ref q_te, .ref q_sg, .ref q_sz, .ref q_lo, .int pls, .int pl, .int raw])), (q_sg, .inl (k_sg, n_sg, .inl sgn)), (q_sz, .inl (k_sz, n_sz, .inl siz)), (q_lo, .inl (k_lo, n_lo, .inl (upd low a0.toNatClampNeg pl))), (q_bk, .inr (1, [.int w, .int h, .int sty, .int bd, .int str, .int cel])), (q_sa, .inl (k_sa, n_sa, .inl sam))]) hA (va_runU (As := [.int u2, .int u4]) (rest := []) ⟨hx, hb, hml, hown, hts⟩ (m_T_exchange l dC dI q_te q_sa q_ro k_ro n_ro cnt pn row u2 u4 _ hc H.size) (va_cwA 2 hts (kgA kw_2_33 kw_2_35 kw_2_43 kw_2_44 kw_1_5 kw_2_45) rfl rfl rfl (kn_6 hN) (by decide +kernel) ⟨Nat.le_of_ble_eq_true rfl, Nat.le_of_ble_eq_true rfl⟩) ⟨kPre_blind, va_recv hK hP (ci := 2) (q0 := 5) rfl rfl, kPre_of (hP.sub [5, 7] rfl) (hK.sub [4] rfl) (hD.sub [5, 7] (by decide) rfl) hN⟩ rfl rfl hl.1 rfl (lv_room (Nat.le_of_ble_eq_true rfl)) d_W_exchangeSize_39 ⟨Nat.le_of_ble_eq_true rfl, Nat.le_of_ble_eq_true rfl⟩) hP hD hS [5, 7] [0, 1, 2, 3, 4, 6] rfl rfl (by decide) (by decide) (fun H locs hP hD hS => ?_)
    have hP : va_P (dC, dI) vwCl [(q_wk, .inr (4, [.ref q_bk, .ref q_te, .ref q_sg, .ref q_sz, .ref q_lo, .int pls, .int pl, .int raw])), (q_sg, .inl (k_sg, n_sg, .inl sgn)), (q_sz, .inl (k_sz, n_sz, .inl siz)), (q_lo, .inl (k_lo, n_lo, .inl (upd low a0.toNatClampNeg pl))), (q_bk, .inr (1, [.int w, .int h, .int sty, .int bd, .int str, .int cel])), (q_sa, .inl (k_sa, n_sa, .inl sam)), (q_te, .inr (2, [.ref q_sa, .ref q_ro, .int u5.2.1, .int pn])), (q_ro, .inl (k_ro, n_ro, .inl u5.2.2))] H := hP
    have hD : va_D A [(q_wk, .inr (4, [.ref q_bk, .ref q_te, .ref q_sg, .ref q_sz, .ref q_lo, .int pls, .int pl, .int raw])), (q_sg, .inl (k_sg, n_sg, .inl sgn)), (q_sz, .inl (k_sz, n_sz, .inl siz)), (q_lo, .inl (k_lo, n_lo, .inl (upd low a0.toNatClampNeg pl))), (q_bk, .inr (1, [.int w, .int h, .int sty, .int bd, .int str, .int cel])), (q_sa, .inl (k_sa, n_sa, .inl sam)), (q_te, .inr (2, [.ref q_sa, .ref q_ro, .int u5.2.1, .int pn])), (q_ro, .inl (k_ro, n_ro, .inl u5.2.2))] := hD
    refine lv_iconst (v := 1) hx hb d_W_exchangeSize_42 (by decide) ?_
    refine lv_icmp_ne (tgt := 52) hx hb d_W_exchangeSize_43 (by decide) (fun c6 => ?_) (fun c6 => ?_)
    · have hF := kc_neg c6 hF
      obtain rfl := Option.some.inj hF
      exact ku_vret hx hb hr hlocks hQ (hP.sub [0, 1, 2, 3, 4, 6, 5, 7] rfl) (hD.sub [0, 1, 2, 3, 4, 6, 5, 7] (by decide) rfl) hS d_W_exchangeSize_52
    have hF := kc_pos c6 hF
    refine lv_aload_n hx hb d_W_exchangeSize_46 rfl (lv_at hl 0 rfl) ?_
    refine lv_iload_n hx hb d_W_exchangeSize_47 rfl (lv_at hl 1 rfl) ?_
    refine lv_iload_n hx hb d_W_exchangeSize_48 rfl (lv_at hl 2 rfl) ?_
    obtain ⟨u7, hc, hF⟩ := kc_bnd hF
    refine ku_call (wr := [(q_lo, .inl (k_lo, n_lo, .inl (upd low a0.toNatClampNeg pl)))]) hA (va_runV (As := [.int a0, .int a1]) (rest := []) ⟨hx, hb, hml, hown, hts⟩ (m_WT_exchangeSign l dC dI q_wk q_sg q_sz q_lo q_bk q_te q_sa q_ro k_sg n_sg k_sz n_sz k_sa n_sa k_ro n_ro pls pl raw sgn siz w h sty bd str cel u5.2.1 pn sam u5.2.2 a0 a1 _ hc H.size) (cwV 2 hts (kgV kw_2_46 kw_2_48 kp_6 kw_1_6 kw_2_49) rfl rfl rfl (by decide +kernel) ⟨Nat.le_of_ble_eq_true rfl, Nat.le_of_ble_eq_true rfl⟩) ⟨kPre_blind, va_recv hK hP (ci := 4) (q0 := 0) rfl rfl, kPre_of (hP.sub [0, 1, 2, 4, 6, 5, 7] rfl) (hK.sub [0, 1, 3, 4] rfl) (hD.sub [0, 1, 2, 4, 6, 5, 7] (by decide) rfl) hN⟩ rfl rfl hl.1 rfl (lv_room (Nat.le_of_ble_eq_true rfl)) d_W_exchangeSize_49 ⟨Nat.le_of_ble_eq_true rfl, Nat.le_of_ble_eq_true rfl⟩) hP hD hS [0, 1, 2, 4, 6, 5, 7] [3] rfl rfl (by decide) (by decide) (fun H locs hP hD hS => ?_)
    have hP : va_P (dC, dI) vwCl [(q_lo, .inl (k_lo, n_lo, .inl (upd low a0.toNatClampNeg pl))), (q_wk, .inr (4, [.ref q_bk, .ref q_te, .ref q_sg, .ref q_sz, .ref q_lo, .int pls, .int pl, .int raw])), (q_sg, .inl (k_sg, n_sg, .inl u7.1)), (q_sz, .inl (k_sz, n_sz, .inl u7.2.1)), (q_bk, .inr (1, [.int w, .int h, .int sty, .int bd, .int str, .int cel])), (q_te, .inr (2, [.ref q_sa, .ref q_ro, .int u7.2.2.1, .int pn])), (q_sa, .inl (k_sa, n_sa, .inl sam)), (q_ro, .inl (k_ro, n_ro, .inl u7.2.2.2))] H := hP
    have hD : va_D A [(q_lo, .inl (k_lo, n_lo, .inl (upd low a0.toNatClampNeg pl))), (q_wk, .inr (4, [.ref q_bk, .ref q_te, .ref q_sg, .ref q_sz, .ref q_lo, .int pls, .int pl, .int raw])), (q_sg, .inl (k_sg, n_sg, .inl u7.1)), (q_sz, .inl (k_sz, n_sz, .inl u7.2.1)), (q_bk, .inr (1, [.int w, .int h, .int sty, .int bd, .int str, .int cel])), (q_te, .inr (2, [.ref q_sa, .ref q_ro, .int u7.2.2.1, .int pn])), (q_sa, .inl (k_sa, n_sa, .inl sam)), (q_ro, .inl (k_ro, n_ro, .inl u7.2.2.2))] := hD
    obtain rfl := Option.some.inj hF
    exact ku_vret hx hb hr hlocks hQ (hP.sub [1, 2, 3, 0, 4, 5, 6, 7] rfl) (hD.sub [1, 2, 3, 0, 4, 5, 6, 7] (by decide) rfl) hS d_W_exchangeSize_52
  clear hF; have hF := hcu4; clear hcu4
  refine lv_if_eq (tgt := 38) hx hb d_W_exchangeSize_30 (by decide) (fun c3 => ?_) (fun c3 => ?_)
  · have hF := kc_pos c3 hF
    refine lv_iload_n hx hb d_W_exchangeSize_38 rfl (lv_at hl 3 rfl) ?_
    obtain rfl := Option.some.inj hF
    exact hJu4 _ _ _ hP hD hS (lv_sub hl [0, 1, 2, 3] rfl)
  have hF := kc_neg c3 hF
  refine lv_bipush (v := 19) hx hb d_W_exchangeSize_33 (by decide) ?_
  refine lv_goto (tgt := 39) hx hb d_W_exchangeSize_35 (by decide) ?_
  obtain rfl := Option.some.inj hF
  exact hJu4 _ _ _ hP hD hS (lv_sub hl [0, 1, 2, 3] rfl)
abbrev rm_WT_exchangeMarks : Room := { frames := 1, cells := 0, slots := 0, locals := 22 }
set_option maxHeartbeats 4000000 in
set_option maxRecDepth 100000 in
theorem m_WT_exchangeMarks (l : Launch) (dC : Nat → ClassId) (dI : Nat → Nat → Nat) (q_wk q_sg q_sz q_lo q_bk q_te q_sa q_ro : Nat) (k_ro : ClassId) (n_ro : Nat) (pls : Int32) (pl : Int32) (raw : Int32) (cnt : Int32) (pn : Int32) (row : (Nat → Int32)) (u : Int32 × Int32 × (Nat → Int32)) (hF : f_WT_exchangeMarks cnt pn row n_ro = some u) : ∀ sz : Nat, Met l y_W_exchangeMarks (kws y_W_exchangeMarks c_W_exchangeMarks 4 (some .boolean)) rm_WT_exchangeMarks (kPre (dC, dI) [.ref q_wk] [(q_wk, .inr (4, [.ref q_bk, .ref q_te, .ref q_sg, .ref q_sz, .ref q_lo, .int pls, .int pl, .int raw])), (q_te, .inr (2, [.ref q_sa, .ref q_ro, .int cnt, .int pn])), (q_ro, .inl (k_ro, n_ro, .inl row))] [(k_ro, .int)] sz) (kPost (dC, dI) (some (.int u.1)) [(q_wk, .inr (4, [.ref q_bk, .ref q_te, .ref q_sg, .ref q_sz, .ref q_lo, .int pls, .int pl, .int raw])), (q_te, .inr (2, [.ref q_sa, .ref q_ro, .int u.2.1, .int pn])), (q_ro, .inl (k_ro, n_ro, .inl u.2.2))] (va_A [(q_wk, .inr (4, [.ref q_bk, .ref q_te, .ref q_sg, .ref q_sz, .ref q_lo, .int pls, .int pl, .int raw])), (q_te, .inr (2, [.ref q_sa, .ref q_ro, .int cnt, .int pn])), (q_ro, .inl (k_ro, n_ro, .inl row))] sz)) 0 0 (va_A [(q_wk, .inr (4, [.ref q_bk, .ref q_te, .ref q_sg, .ref q_sz, .ref q_lo, .int pls, .int pl, .int raw])), (q_te, .inr (2, [.ref q_sa, .ref q_ro, .int cnt, .int pn])), (q_ro, .inl (k_ro, n_ro, .inl row))] sz) := by
  unfold f_WT_exchangeMarks at hF
  refine kU_of (cc := c_W_exchangeMarks) (maxL := 4) (ret := (some .boolean)) (by decide) (Nat.le_of_ble_eq_true rfl) ?_
  intro p e s m args below meth c Q A hQ hfx hK hN hA H locs ls hP hD hS hl
  obtain ⟨hx, hb, hr, hml, hown, hts, hlocks⟩ := hfx
  have hown : s.vm.findClass R_W = some m.cls := hown
  have hl : lv_has ls 4 [(0, .ref q_wk)] := hl
  refine lv_iconst (v := 1) hx hb d_W_exchangeMarks_0 (by decide) ?_
  refine lv_istore_n (lv' := [(1, .int (1 : Int32)), (0, .ref q_wk)]) hx hb d_W_exchangeMarks_1 rfl hl (by decide) rfl (fun ls hl => ?_)
  refine lv_iconst (v := 0) hx hb d_W_exchangeMarks_2 (by decide) ?_
  refine lv_istore_n (lv' := [(2, .int (0 : Int32)), (1, .int (1 : Int32)), (0, .ref q_wk)]) hx hb d_W_exchangeMarks_3 rfl hl (by decide) rfl (fun ls hl => ?_)
  obtain ⟨u1, hcu1, hF⟩ := kc_bnd hF
  have hJu1_37 : ∀ (H : Heap) (locs : List Loc) (ls : Array Slot), va_P (dC, dI) vwCl [(q_wk, .inr (4, [.ref q_bk, .ref q_te, .ref q_sg, .ref q_sz, .ref q_lo, .int pls, .int pl, .int raw])), (q_te, .inr (2, [.ref q_sa, .ref q_ro, .int u1.2.2.1, .int pn])), (q_ro, .inl (k_ro, n_ro, .inl u1.2.2.2))] H → va_D A [(q_wk, .inr (4, [.ref q_bk, .ref q_te, .ref q_sg, .ref q_sz, .ref q_lo, .int pls, .int pl, .int raw])), (q_te, .inr (2, [.ref q_sa, .ref q_ro, .int u1.2.2.1, .int pn])), (q_ro, .inl (k_ro, n_ro, .inl u1.2.2.2))] → va_S A s.heap H locs → lv_has ls 4 [(2, .int u1.2.1), (1, .int u1.1), (0, .ref q_wk)] → W p l e rm_WT_exchangeMarks s m args below meth c H locs 0 0 Q (F0 m 37 ls []) := by
    intro H locs ls hP hD hS hl
    refine lv_iload_n hx hb d_W_exchangeMarks_37 rfl (lv_at hl 1 rfl) ?_
    obtain ⟨h2, hF⟩ := kc_no hF
    obtain rfl := Option.some.inj hF
    exact ku_zret hx hb hr hlocks hQ (kz_nar h2) (hP.sub [0, 1, 2] rfl) (hD.sub [0, 1, 2] (by decide) rfl) hS d_W_exchangeMarks_38
  have hIu1 : ∀ (N : Nat) (v4_1 : Int32) (v4_2 : Int32) (cnt_4 : Int32) (row_4 : (Nat → Int32)), f_WT_exchangeMarks_L4 pn n_ro N v4_1 v4_2 cnt_4 row_4 = some u1 → ∀ (H : Heap) (locs : List Loc) (ls : Array Slot), va_P (dC, dI) vwCl [(q_wk, .inr (4, [.ref q_bk, .ref q_te, .ref q_sg, .ref q_sz, .ref q_lo, .int pls, .int pl, .int raw])), (q_te, .inr (2, [.ref q_sa, .ref q_ro, .int cnt_4, .int pn])), (q_ro, .inl (k_ro, n_ro, .inl row_4))] H → va_D A [(q_wk, .inr (4, [.ref q_bk, .ref q_te, .ref q_sg, .ref q_sz, .ref q_lo, .int pls, .int pl, .int raw])), (q_te, .inr (2, [.ref q_sa, .ref q_ro, .int cnt_4, .int pn])), (q_ro, .inl (k_ro, n_ro, .inl row_4))] → va_S A s.heap H locs → lv_has ls 4 [(2, .int v4_2), (1, .int v4_1), (0, .ref q_wk)] → W p l e rm_WT_exchangeMarks s m args below meth c H locs 0 0 Q (F0 m 4 ls []) := by
    intro N
    induction N with
    | zero => intro v4_1 v4_2 cnt_4 row_4 hF; rw [f_WT_exchangeMarks_L4] at hF; cases hF
    | succ N ih =>
      intro v4_1 v4_2 cnt_4 row_4 hF
      intro H locs ls hP hD hS hl
      rw [f_WT_exchangeMarks_L4] at hF
      refine lv_iload_n hx hb d_W_exchangeMarks_4 rfl (lv_at hl 0 rfl) ?_
      refine lv_iconst (v := 4) hx hb d_W_exchangeMarks_5 (by decide) ?_
      refine lv_icmp_ge (tgt := 37) hx hb d_W_exchangeMarks_6 (by decide) (fun c3 => ?_) (fun c3 => ?_)
      · have hF := kc_pos c3 hF
        obtain rfl := Option.some.inj hF
        exact hJu1_37 _ _ _ hP hD hS (lv_sub hl [0, 1, 2] rfl)
      have hF := kc_neg c3 hF
      refine lv_iconst (v := 1) hx hb d_W_exchangeMarks_9 (by decide) ?_
      refine lv_iload_n hx hb d_W_exchangeMarks_10 rfl (lv_at hl 0 rfl) ?_
      refine lv_iconst (v := 2) hx hb d_W_exchangeMarks_11 (by decide) ?_
      refine lv_irem hx hb d_W_exchangeMarks_12 (by decide) ?_
      refine W.eq (g2 := F0 m 13 ls [.int (krem v4_2 (2 : Int32)), .int (1 : Int32)]) rfl ?_
      refine lv_isub hx hb d_W_exchangeMarks_13 ?_
      refine lv_istore_n (lv' := [(3, .int ((1 : Int32) - (krem v4_2 (2 : Int32)))), (2, .int v4_2), (1, .int v4_1), (0, .ref q_wk)]) hx hb d_W_exchangeMarks_14 rfl hl (by decide) rfl (fun ls hl => ?_)
      refine lv_aload_n hx hb d_W_exchangeMarks_15 rfl (lv_at hl 3 rfl) ?_
      refine va_get (D := (dC, dI)) (ci := 4) (v := .ref q_te) (C := R_W) (T := T_W) (N := 8) hx hb hts ki_W hown hK hP 0 rfl rfl 1 (by decide) (hts _ kw_1_104) (fun _ h9 => h9) rfl d_W_exchangeMarks_16 ?_
      refine lv_iload_n hx hb d_W_exchangeMarks_19 rfl (lv_at hl 0 rfl) ?_
      refine lv_bipush (v := 18) hx hb d_W_exchangeMarks_20 (by decide) ?_
      obtain ⟨u4, hc, hF⟩ := kc_bnd hF
      refine ku_call (wr := [(q_wk, .inr (4, [.ref q_bk, .ref q_te, .ref q_sg, .ref q_sz, .ref q_lo, .int pls, .int pl, .int raw]))]) hA (va_runU (As := [.int ((1 : Int32) - (krem v4_2 (2 : Int32))), .int (18 : Int32)]) (rest := []) ⟨hx, hb, hml, hown, hts⟩ (m_T_exchange l dC dI q_te q_sa q_ro k_ro n_ro cnt_4 pn row_4 ((1 : Int32) - (krem v4_2 (2 : Int32))) (18 : Int32) _ hc H.size) (va_cwA 2 hts (kgA kw_2_33 kw_2_35 kw_2_43 kw_2_44 kw_1_5 kw_2_45) rfl rfl rfl (kn_6 hN) (by decide +kernel) ⟨Nat.le_of_ble_eq_true rfl, Nat.le_of_ble_eq_true rfl⟩) ⟨kPre_blind, va_recv hK hP (ci := 2) (q0 := 1) rfl rfl, kPre_of (hP.sub [1, 2] rfl) (hK.sub [0] rfl) (hD.sub [1, 2] (by decide) rfl) hN⟩ rfl rfl hl.1 rfl (lv_room (Nat.le_of_ble_eq_true rfl)) d_W_exchangeMarks_22 ⟨Nat.le_of_ble_eq_true rfl, Nat.le_of_ble_eq_true rfl⟩) hP hD hS [1, 2] [0] rfl rfl (by decide) (by decide) (fun H locs hP hD hS => ?_)
      have hP : va_P (dC, dI) vwCl [(q_wk, .inr (4, [.ref q_bk, .ref q_te, .ref q_sg, .ref q_sz, .ref q_lo, .int pls, .int pl, .int raw])), (q_te, .inr (2, [.ref q_sa, .ref q_ro, .int u4.2.1, .int pn])), (q_ro, .inl (k_ro, n_ro, .inl u4.2.2))] H := hP
      have hD : va_D A [(q_wk, .inr (4, [.ref q_bk, .ref q_te, .ref q_sg, .ref q_sz, .ref q_lo, .int pls, .int pl, .int raw])), (q_te, .inr (2, [.ref q_sa, .ref q_ro, .int u4.2.1, .int pn])), (q_ro, .inl (k_ro, n_ro, .inl u4.2.2))] := hD
      refine lv_iload_n hx hb d_W_exchangeMarks_25 rfl (lv_at hl 0 rfl) ?_
      obtain ⟨u6, hcu6, hF⟩ := kc_bnd hF
      have hJu6 : ∀ (H : Heap) (locs : List Loc) (ls : Array Slot), va_P (dC, dI) vwCl [(q_wk, .inr (4, [.ref q_bk, .ref q_te, .ref q_sg, .ref q_sz, .ref q_lo, .int pls, .int pl, .int raw])), (q_te, .inr (2, [.ref q_sa, .ref q_ro, .int u4.2.1, .int pn])), (q_ro, .inl (k_ro, n_ro, .inl u4.2.2))] H → va_D A [(q_wk, .inr (4, [.ref q_bk, .ref q_te, .ref q_sg, .ref q_sz, .ref q_lo, .int pls, .int pl, .int raw])), (q_te, .inr (2, [.ref q_sa, .ref q_ro, .int u4.2.1, .int pn])), (q_ro, .inl (k_ro, n_ro, .inl u4.2.2))] → va_S A s.heap H locs → lv_has ls 4 [(3, .int ((1 : Int32) - (krem v4_2 (2 : Int32)))), (2, .int v4_2), (1, .int u6), (0, .ref q_wk)] → W p l e rm_WT_exchangeMarks s m args below meth c H locs 0 0 Q (F0 m 31 ls []) := by
        intro H locs ls hP hD hS hl
        refine lv_iinc (v := (v4_2 + 1)) (lv' := [(2, .int (v4_2 + 1)), (3, .int ((1 : Int32) - (krem v4_2 (2 : Int32)))), (1, .int u6), (0, .ref q_wk)]) hx hb d_W_exchangeMarks_31 hl (k := 1) rfl rfl (by decide) rfl (fun ls hl => ?_)
        refine lv_goto (tgt := 4) hx hb d_W_exchangeMarks_34 (by decide) ?_
        exact ih _ _ _ _ hF _ _ _ hP hD hS (lv_sub hl [0, 2, 3] rfl)
      clear hF; have hF := hcu6; clear hcu6
      refine lv_icmp_eq (tgt := 31) hx hb d_W_exchangeMarks_26 (by decide) (fun c5 => ?_) (fun c5 => ?_)
      · have hF := kc_pos c5 hF
        obtain rfl := Option.some.inj hF
        exact hJu6 _ _ _ hP hD hS (lv_sub hl [0, 1, 2, 3] rfl)
      have hF := kc_neg c5 hF
      refine lv_iconst (v := 0) hx hb d_W_exchangeMarks_29 (by decide) ?_
      refine lv_istore_n (lv' := [(1, .int (0 : Int32)), (3, .int ((1 : Int32) - (krem v4_2 (2 : Int32)))), (2, .int v4_2), (0, .ref q_wk)]) hx hb d_W_exchangeMarks_30 rfl hl (by decide) rfl (fun ls hl => ?_)
      obtain rfl := Option.some.inj hF
      exact hJu6 _ _ _ hP hD hS (lv_sub hl [1, 2, 0, 3] rfl)
  exact hIu1 _ _ _ _ _ hcu1 _ _ _ hP hD hS (lv_sub hl [0, 1, 2] rfl)

def f_T_forget  : Int32 :=
  (0 : Int32)
def f_T_sizeBit (sam : (Nat → Int32)) (n_sa : Nat) (a0 : Int32) (a1 : Int32) : Option (Int32) :=
  if (a0 < 0 ∨ n_sa ≤ a0.toNatClampNeg) then none else some (((kabs (sam a0.toNatClampNeg)) >>> (a1 &&& 31)) &&& (1 : Int32))
def f_T_signBit (sam : (Nat → Int32)) (n_sa : Nat) (a0 : Int32) : Option (Int32) :=
  if (a0 < 0 ∨ n_sa ≤ a0.toNatClampNeg) then none else (if 0 ≤ (sam a0.toNatClampNeg) then some (0 : Int32) else some (1 : Int32))
def f_T_exchange (cnt : Int32) (pn : Int32) (row : (Nat → Int32)) (n_ro : Nat) (a0 : Int32) (a1 : Int32) : Option (Int32 × Int32 × (Nat → Int32)) :=
  (if (nI n_ro) ≤ cnt then some (a0, cnt, row) else if (cnt < 0 ∨ n_ro ≤ cnt.toNatClampNeg) then none else some (a0, (cnt + (1 : Int32)), (upd row cnt.toNatClampNeg ((a0 ||| (a1 <<< ((1 : Int32) &&& 31))) ||| (pn <<< ((6 : Int32) &&& 31))))))
def f_T_bitOf (row : (Nat → Int32)) (n_ro : Nat) (a0 : Int32) : Option (Int32) :=
  if (a0 < 0 ∨ n_ro ≤ a0.toNatClampNeg) then none else some ((row a0.toNatClampNeg) &&& (1 : Int32))
def f_T_contextOf (row : (Nat → Int32)) (n_ro : Nat) (a0 : Int32) : Option (Int32) :=
  if (a0 < 0 ∨ n_ro ≤ a0.toNatClampNeg) then none else some (((row a0.toNatClampNeg) >>> ((1 : Int32) &&& 31)) &&& (31 : Int32))
def f_T_passOf (row : (Nat → Int32)) (n_ro : Nat) (a0 : Int32) : Option (Int32) :=
  if (a0 < 0 ∨ n_ro ≤ a0.toNatClampNeg) then none else some ((row a0.toNatClampNeg) >>> ((6 : Int32) &&& 31))
def f_L_forget  : Int32 :=
  (0 : Int32)
def f_L_rewind  : Int32 × Int32 :=
  ((0 : Int32), (0 : Int32))
def f_L_append (lcn : Int32) (wor : (Nat → Int32)) (n_wo : Nat) (a0 : Int32) : Option (Int32 × (Nat → Int32)) :=
  (if (12000 : Int32) ≤ lcn then some (lcn, wor) else (((if a0 = (1 : Int32) then if ((lcn >>> ((5 : Int32) &&& 31)) < 0 ∨ n_wo ≤ (lcn >>> ((5 : Int32) &&& 31)).toNatClampNeg) then none else some ((wor (lcn >>> ((5 : Int32) &&& 31)).toNatClampNeg) ||| ((1 : Int32) <<< ((lcn &&& (31 : Int32)) &&& 31))) else if ((lcn >>> ((5 : Int32) &&& 31)) < 0 ∨ n_wo ≤ (lcn >>> ((5 : Int32) &&& 31)).toNatClampNeg) then none else some ((wor (lcn >>> ((5 : Int32) &&& 31)).toNatClampNeg) &&& (((1 : Int32) <<< ((lcn &&& (31 : Int32)) &&& 31)) ^^^ (-1 : Int32)))) : Option (Int32)).bind fun u3 => if ((lcn >>> ((5 : Int32) &&& 31)) < 0 ∨ n_wo ≤ (lcn >>> ((5 : Int32) &&& 31)).toNatClampNeg) then none else some ((lcn + (1 : Int32)), (upd wor (lcn >>> ((5 : Int32) &&& 31)).toNatClampNeg u3))))
def f_L_bitOf (wor : (Nat → Int32)) (n_wo : Nat) (a0 : Int32) : Option (Int32) :=
  if ((a0 >>> ((5 : Int32) &&& 31)) < 0 ∨ n_wo ≤ (a0 >>> ((5 : Int32) &&& 31)).toNatClampNeg) then none else some ((kushr (wor (a0 >>> ((5 : Int32) &&& 31)).toNatClampNeg) (a0 &&& (31 : Int32))) &&& (1 : Int32))
def f_L_flip (wor : (Nat → Int32)) (n_wo : Nat) (a0 : Int32) : Option (Int32 × (Nat → Int32)) :=
  if ((a0 >>> ((5 : Int32) &&& 31)) < 0 ∨ n_wo ≤ (a0 >>> ((5 : Int32) &&& 31)).toNatClampNeg) then none else if ((a0 >>> ((5 : Int32) &&& 31)) < 0 ∨ n_wo ≤ (a0 >>> ((5 : Int32) &&& 31)).toNatClampNeg) then none else ((f_L_bitOf (upd wor (a0 >>> ((5 : Int32) &&& 31)).toNatClampNeg ((wor (a0 >>> ((5 : Int32) &&& 31)).toNatClampNeg) ^^^ ((1 : Int32) <<< ((a0 &&& (31 : Int32)) &&& 31)))) n_wo a0).bind fun u3 => some (u3, (upd wor (a0 >>> ((5 : Int32) &&& 31)).toNatClampNeg ((wor (a0 >>> ((5 : Int32) &&& 31)).toNatClampNeg) ^^^ ((1 : Int32) <<< ((a0 &&& (31 : Int32)) &&& 31))))))
def f_L_sizeBit  : Int32 :=
  (0 : Int32)
def f_L_signBit  : Int32 :=
  (0 : Int32)
def f_L_exchange (lcn : Int32) (lak : Int32) (nxt : Int32) (wor : (Nat → Int32)) (n_wo : Nat) : Option (Int32 × Int32 × Int32) :=
  (if nxt < lcn then ((f_L_bitOf wor n_wo nxt).bind fun u2 => some (u2, lak, (nxt + (1 : Int32)))) else some ((0 : Int32), (1 : Int32), nxt))
theorem d_T_forget_0 : decode c_T_forget 0 = .ok (.aload_n 0, 1) := by decide +kernel
theorem d_T_forget_1 : decode c_T_forget 1 = .ok (.iconst 0, 1) := by decide +kernel
theorem d_T_forget_2 : decode c_T_forget 2 = .ok (.putfield 22, 3) := by decide +kernel
theorem d_T_forget_5 : decode c_T_forget 5 = .ok (.return_, 1) := by decide +kernel
theorem d_T_sizeBit_0 : decode c_T_sizeBit 0 = .ok (.aload_n 0, 1) := by decide +kernel
theorem d_T_sizeBit_1 : decode c_T_sizeBit 1 = .ok (.getfield 7, 3) := by decide +kernel
theorem d_T_sizeBit_4 : decode c_T_sizeBit 4 = .ok (.iload_n 1, 1) := by decide +kernel
theorem d_T_sizeBit_5 : decode c_T_sizeBit 5 = .ok (.iaload, 1) := by decide +kernel
theorem d_T_sizeBit_6 : decode c_T_sizeBit 6 = .ok (.invokestatic 26, 3) := by decide +kernel
theorem d_T_sizeBit_9 : decode c_T_sizeBit 9 = .ok (.iload_n 2, 1) := by decide +kernel
theorem d_T_sizeBit_10 : decode c_T_sizeBit 10 = .ok (.ishr, 1) := by decide +kernel
theorem d_T_sizeBit_11 : decode c_T_sizeBit 11 = .ok (.iconst 1, 1) := by decide +kernel
theorem d_T_sizeBit_12 : decode c_T_sizeBit 12 = .ok (.iand, 1) := by decide +kernel
theorem d_T_sizeBit_13 : decode c_T_sizeBit 13 = .ok (.ireturn, 1) := by decide +kernel
theorem d_T_signBit_0 : decode c_T_signBit 0 = .ok (.aload_n 0, 1) := by decide +kernel
theorem d_T_signBit_1 : decode c_T_signBit 1 = .ok (.getfield 7, 3) := by decide +kernel
theorem d_T_signBit_4 : decode c_T_signBit 4 = .ok (.iload_n 1, 1) := by decide +kernel
theorem d_T_signBit_5 : decode c_T_signBit 5 = .ok (.iaload, 1) := by decide +kernel
theorem d_T_signBit_6 : decode c_T_signBit 6 = .ok (.ifCond .ge 7, 3) := by decide +kernel
theorem d_T_signBit_9 : decode c_T_signBit 9 = .ok (.iconst 1, 1) := by decide +kernel
theorem d_T_signBit_10 : decode c_T_signBit 10 = .ok (.goto 4, 3) := by decide +kernel
theorem d_T_signBit_13 : decode c_T_signBit 13 = .ok (.iconst 0, 1) := by decide +kernel
theorem d_T_signBit_14 : decode c_T_signBit 14 = .ok (.ireturn, 1) := by decide +kernel
theorem d_T_exchange_0 : decode c_T_exchange 0 = .ok (.aload_n 0, 1) := by decide +kernel
theorem d_T_exchange_1 : decode c_T_exchange 1 = .ok (.getfield 22, 3) := by decide +kernel
theorem d_T_exchange_4 : decode c_T_exchange 4 = .ok (.aload_n 0, 1) := by decide +kernel
theorem d_T_exchange_5 : decode c_T_exchange 5 = .ok (.getfield 19, 3) := by decide +kernel
theorem d_T_exchange_8 : decode c_T_exchange 8 = .ok (.arraylength, 1) := by decide +kernel
theorem d_T_exchange_9 : decode c_T_exchange 9 = .ok (.if_icmp .ge 35, 3) := by decide +kernel
theorem d_T_exchange_12 : decode c_T_exchange 12 = .ok (.aload_n 0, 1) := by decide +kernel
theorem d_T_exchange_13 : decode c_T_exchange 13 = .ok (.getfield 19, 3) := by decide +kernel
theorem d_T_exchange_16 : decode c_T_exchange 16 = .ok (.aload_n 0, 1) := by decide +kernel
theorem d_T_exchange_17 : decode c_T_exchange 17 = .ok (.getfield 22, 3) := by decide +kernel
theorem d_T_exchange_20 : decode c_T_exchange 20 = .ok (.iload_n 1, 1) := by decide +kernel
theorem d_T_exchange_21 : decode c_T_exchange 21 = .ok (.iload_n 2, 1) := by decide +kernel
theorem d_T_exchange_22 : decode c_T_exchange 22 = .ok (.iconst 1, 1) := by decide +kernel
theorem d_T_exchange_23 : decode c_T_exchange 23 = .ok (.ishl, 1) := by decide +kernel
theorem d_T_exchange_24 : decode c_T_exchange 24 = .ok (.ior, 1) := by decide +kernel
theorem d_T_exchange_25 : decode c_T_exchange 25 = .ok (.aload_n 0, 1) := by decide +kernel
theorem d_T_exchange_26 : decode c_T_exchange 26 = .ok (.getfield 32, 3) := by decide +kernel
theorem d_T_exchange_29 : decode c_T_exchange 29 = .ok (.bipush 6, 2) := by decide +kernel
theorem d_T_exchange_31 : decode c_T_exchange 31 = .ok (.ishl, 1) := by decide +kernel
theorem d_T_exchange_32 : decode c_T_exchange 32 = .ok (.ior, 1) := by decide +kernel
theorem d_T_exchange_33 : decode c_T_exchange 33 = .ok (.iastore, 1) := by decide +kernel
theorem d_T_exchange_34 : decode c_T_exchange 34 = .ok (.aload_n 0, 1) := by decide +kernel
theorem d_T_exchange_35 : decode c_T_exchange 35 = .ok (.dup, 1) := by decide +kernel
theorem d_T_exchange_36 : decode c_T_exchange 36 = .ok (.getfield 22, 3) := by decide +kernel
theorem d_T_exchange_39 : decode c_T_exchange 39 = .ok (.iconst 1, 1) := by decide +kernel
theorem d_T_exchange_40 : decode c_T_exchange 40 = .ok (.iadd, 1) := by decide +kernel
theorem d_T_exchange_41 : decode c_T_exchange 41 = .ok (.putfield 22, 3) := by decide +kernel
theorem d_T_exchange_44 : decode c_T_exchange 44 = .ok (.iload_n 1, 1) := by decide +kernel
theorem d_T_exchange_45 : decode c_T_exchange 45 = .ok (.ireturn, 1) := by decide +kernel
theorem d_T_bitOf_0 : decode c_T_bitOf 0 = .ok (.aload_n 0, 1) := by decide +kernel
theorem d_T_bitOf_1 : decode c_T_bitOf 1 = .ok (.getfield 19, 3) := by decide +kernel
theorem d_T_bitOf_4 : decode c_T_bitOf 4 = .ok (.iload_n 1, 1) := by decide +kernel
theorem d_T_bitOf_5 : decode c_T_bitOf 5 = .ok (.iaload, 1) := by decide +kernel
theorem d_T_bitOf_6 : decode c_T_bitOf 6 = .ok (.iconst 1, 1) := by decide +kernel
theorem d_T_bitOf_7 : decode c_T_bitOf 7 = .ok (.iand, 1) := by decide +kernel
theorem d_T_bitOf_8 : decode c_T_bitOf 8 = .ok (.ireturn, 1) := by decide +kernel
theorem d_T_contextOf_0 : decode c_T_contextOf 0 = .ok (.aload_n 0, 1) := by decide +kernel
theorem d_T_contextOf_1 : decode c_T_contextOf 1 = .ok (.getfield 19, 3) := by decide +kernel
theorem d_T_contextOf_4 : decode c_T_contextOf 4 = .ok (.iload_n 1, 1) := by decide +kernel
theorem d_T_contextOf_5 : decode c_T_contextOf 5 = .ok (.iaload, 1) := by decide +kernel
theorem d_T_contextOf_6 : decode c_T_contextOf 6 = .ok (.iconst 1, 1) := by decide +kernel
theorem d_T_contextOf_7 : decode c_T_contextOf 7 = .ok (.ishr, 1) := by decide +kernel
theorem d_T_contextOf_8 : decode c_T_contextOf 8 = .ok (.bipush 31, 2) := by decide +kernel
theorem d_T_contextOf_10 : decode c_T_contextOf 10 = .ok (.iand, 1) := by decide +kernel
theorem d_T_contextOf_11 : decode c_T_contextOf 11 = .ok (.ireturn, 1) := by decide +kernel
theorem d_T_passOf_0 : decode c_T_passOf 0 = .ok (.aload_n 0, 1) := by decide +kernel
theorem d_T_passOf_1 : decode c_T_passOf 1 = .ok (.getfield 19, 3) := by decide +kernel
theorem d_T_passOf_4 : decode c_T_passOf 4 = .ok (.iload_n 1, 1) := by decide +kernel
theorem d_T_passOf_5 : decode c_T_passOf 5 = .ok (.iaload, 1) := by decide +kernel
theorem d_T_passOf_6 : decode c_T_passOf 6 = .ok (.bipush 6, 2) := by decide +kernel
theorem d_T_passOf_8 : decode c_T_passOf 8 = .ok (.ishr, 1) := by decide +kernel
theorem d_T_passOf_9 : decode c_T_passOf 9 = .ok (.ireturn, 1) := by decide +kernel
theorem d_L_forget_0 : decode c_L_forget 0 = .ok (.aload_n 0, 1) := by decide +kernel
theorem d_L_forget_1 : decode c_L_forget 1 = .ok (.iconst 0, 1) := by decide +kernel
theorem d_L_forget_2 : decode c_L_forget 2 = .ok (.putfield 15, 3) := by decide +kernel
theorem d_L_forget_5 : decode c_L_forget 5 = .ok (.return_, 1) := by decide +kernel
theorem d_L_rewind_0 : decode c_L_rewind 0 = .ok (.aload_n 0, 1) := by decide +kernel
theorem d_L_rewind_1 : decode c_L_rewind 1 = .ok (.iconst 0, 1) := by decide +kernel
theorem d_L_rewind_2 : decode c_L_rewind 2 = .ok (.putfield 19, 3) := by decide +kernel
theorem d_L_rewind_5 : decode c_L_rewind 5 = .ok (.aload_n 0, 1) := by decide +kernel
theorem d_L_rewind_6 : decode c_L_rewind 6 = .ok (.iconst 0, 1) := by decide +kernel
theorem d_L_rewind_7 : decode c_L_rewind 7 = .ok (.putfield 22, 3) := by decide +kernel
theorem d_L_rewind_10 : decode c_L_rewind 10 = .ok (.return_, 1) := by decide +kernel
theorem d_L_append_0 : decode c_L_append 0 = .ok (.aload_n 0, 1) := by decide +kernel
theorem d_L_append_1 : decode c_L_append 1 = .ok (.getfield 15, 3) := by decide +kernel
theorem d_L_append_4 : decode c_L_append 4 = .ok (.sipush 12000, 3) := by decide +kernel
theorem d_L_append_7 : decode c_L_append 7 = .ok (.if_icmp .ge 62, 3) := by decide +kernel
theorem d_L_append_10 : decode c_L_append 10 = .ok (.aload_n 0, 1) := by decide +kernel
theorem d_L_append_11 : decode c_L_append 11 = .ok (.getfield 15, 3) := by decide +kernel
theorem d_L_append_14 : decode c_L_append 14 = .ok (.iconst 5, 1) := by decide +kernel
theorem d_L_append_15 : decode c_L_append 15 = .ok (.ishr, 1) := by decide +kernel
theorem d_L_append_16 : decode c_L_append 16 = .ok (.istore_n 2, 1) := by decide +kernel
theorem d_L_append_17 : decode c_L_append 17 = .ok (.iconst 1, 1) := by decide +kernel
theorem d_L_append_18 : decode c_L_append 18 = .ok (.aload_n 0, 1) := by decide +kernel
theorem d_L_append_19 : decode c_L_append 19 = .ok (.getfield 15, 3) := by decide +kernel
theorem d_L_append_22 : decode c_L_append 22 = .ok (.bipush 31, 2) := by decide +kernel
theorem d_L_append_24 : decode c_L_append 24 = .ok (.iand, 1) := by decide +kernel
theorem d_L_append_25 : decode c_L_append 25 = .ok (.ishl, 1) := by decide +kernel
theorem d_L_append_26 : decode c_L_append 26 = .ok (.istore_n 3, 1) := by decide +kernel
theorem d_L_append_27 : decode c_L_append 27 = .ok (.aload_n 0, 1) := by decide +kernel
theorem d_L_append_28 : decode c_L_append 28 = .ok (.getfield 11, 3) := by decide +kernel
theorem d_L_append_31 : decode c_L_append 31 = .ok (.iload_n 2, 1) := by decide +kernel
theorem d_L_append_32 : decode c_L_append 32 = .ok (.iload_n 1, 1) := by decide +kernel
theorem d_L_append_33 : decode c_L_append 33 = .ok (.iconst 1, 1) := by decide +kernel
theorem d_L_append_34 : decode c_L_append 34 = .ok (.if_icmp .ne 14, 3) := by decide +kernel
theorem d_L_append_37 : decode c_L_append 37 = .ok (.aload_n 0, 1) := by decide +kernel
theorem d_L_append_38 : decode c_L_append 38 = .ok (.getfield 11, 3) := by decide +kernel
theorem d_L_append_41 : decode c_L_append 41 = .ok (.iload_n 2, 1) := by decide +kernel
theorem d_L_append_42 : decode c_L_append 42 = .ok (.iaload, 1) := by decide +kernel
theorem d_L_append_43 : decode c_L_append 43 = .ok (.iload_n 3, 1) := by decide +kernel
theorem d_L_append_44 : decode c_L_append 44 = .ok (.ior, 1) := by decide +kernel
theorem d_L_append_45 : decode c_L_append 45 = .ok (.goto 13, 3) := by decide +kernel
theorem d_L_append_48 : decode c_L_append 48 = .ok (.aload_n 0, 1) := by decide +kernel
theorem d_L_append_49 : decode c_L_append 49 = .ok (.getfield 11, 3) := by decide +kernel
theorem d_L_append_52 : decode c_L_append 52 = .ok (.iload_n 2, 1) := by decide +kernel
theorem d_L_append_53 : decode c_L_append 53 = .ok (.iaload, 1) := by decide +kernel
theorem d_L_append_54 : decode c_L_append 54 = .ok (.iload_n 3, 1) := by decide +kernel
theorem d_L_append_55 : decode c_L_append 55 = .ok (.iconst (-1), 1) := by decide +kernel
theorem d_L_append_56 : decode c_L_append 56 = .ok (.ixor, 1) := by decide +kernel
theorem d_L_append_57 : decode c_L_append 57 = .ok (.iand, 1) := by decide +kernel
theorem d_L_append_58 : decode c_L_append 58 = .ok (.iastore, 1) := by decide +kernel
theorem d_L_append_59 : decode c_L_append 59 = .ok (.aload_n 0, 1) := by decide +kernel
theorem d_L_append_60 : decode c_L_append 60 = .ok (.dup, 1) := by decide +kernel
theorem d_L_append_61 : decode c_L_append 61 = .ok (.getfield 15, 3) := by decide +kernel
theorem d_L_append_64 : decode c_L_append 64 = .ok (.iconst 1, 1) := by decide +kernel
theorem d_L_append_65 : decode c_L_append 65 = .ok (.iadd, 1) := by decide +kernel
theorem d_L_append_66 : decode c_L_append 66 = .ok (.putfield 15, 3) := by decide +kernel
theorem d_L_append_69 : decode c_L_append 69 = .ok (.return_, 1) := by decide +kernel
theorem d_L_bitOf_0 : decode c_L_bitOf 0 = .ok (.aload_n 0, 1) := by decide +kernel
theorem d_L_bitOf_1 : decode c_L_bitOf 1 = .ok (.getfield 11, 3) := by decide +kernel
theorem d_L_bitOf_4 : decode c_L_bitOf 4 = .ok (.iload_n 1, 1) := by decide +kernel
theorem d_L_bitOf_5 : decode c_L_bitOf 5 = .ok (.iconst 5, 1) := by decide +kernel
theorem d_L_bitOf_6 : decode c_L_bitOf 6 = .ok (.ishr, 1) := by decide +kernel
theorem d_L_bitOf_7 : decode c_L_bitOf 7 = .ok (.iaload, 1) := by decide +kernel
theorem d_L_bitOf_8 : decode c_L_bitOf 8 = .ok (.iload_n 1, 1) := by decide +kernel
theorem d_L_bitOf_9 : decode c_L_bitOf 9 = .ok (.bipush 31, 2) := by decide +kernel
theorem d_L_bitOf_11 : decode c_L_bitOf 11 = .ok (.iand, 1) := by decide +kernel
theorem d_L_bitOf_12 : decode c_L_bitOf 12 = .ok (.iushr, 1) := by decide +kernel
theorem d_L_bitOf_13 : decode c_L_bitOf 13 = .ok (.iconst 1, 1) := by decide +kernel
theorem d_L_bitOf_14 : decode c_L_bitOf 14 = .ok (.iand, 1) := by decide +kernel
theorem d_L_bitOf_15 : decode c_L_bitOf 15 = .ok (.ireturn, 1) := by decide +kernel
theorem d_L_flip_0 : decode c_L_flip 0 = .ok (.aload_n 0, 1) := by decide +kernel
theorem d_L_flip_1 : decode c_L_flip 1 = .ok (.getfield 11, 3) := by decide +kernel
theorem d_L_flip_4 : decode c_L_flip 4 = .ok (.iload_n 1, 1) := by decide +kernel
theorem d_L_flip_5 : decode c_L_flip 5 = .ok (.iconst 5, 1) := by decide +kernel
theorem d_L_flip_6 : decode c_L_flip 6 = .ok (.ishr, 1) := by decide +kernel
theorem d_L_flip_7 : decode c_L_flip 7 = .ok (.dup2, 1) := by decide +kernel
theorem d_L_flip_8 : decode c_L_flip 8 = .ok (.iaload, 1) := by decide +kernel
theorem d_L_flip_9 : decode c_L_flip 9 = .ok (.iconst 1, 1) := by decide +kernel
theorem d_L_flip_10 : decode c_L_flip 10 = .ok (.iload_n 1, 1) := by decide +kernel
theorem d_L_flip_11 : decode c_L_flip 11 = .ok (.bipush 31, 2) := by decide +kernel
theorem d_L_flip_13 : decode c_L_flip 13 = .ok (.iand, 1) := by decide +kernel
theorem d_L_flip_14 : decode c_L_flip 14 = .ok (.ishl, 1) := by decide +kernel
theorem d_L_flip_15 : decode c_L_flip 15 = .ok (.ixor, 1) := by decide +kernel
theorem d_L_flip_16 : decode c_L_flip 16 = .ok (.iastore, 1) := by decide +kernel
theorem d_L_flip_17 : decode c_L_flip 17 = .ok (.aload_n 0, 1) := by decide +kernel
theorem d_L_flip_18 : decode c_L_flip 18 = .ok (.iload_n 1, 1) := by decide +kernel
theorem d_L_flip_19 : decode c_L_flip 19 = .ok (.invokevirtual 26, 3) := by decide +kernel
theorem d_L_flip_22 : decode c_L_flip 22 = .ok (.ireturn, 1) := by decide +kernel
theorem d_L_sizeBit_0 : decode c_L_sizeBit 0 = .ok (.iconst 0, 1) := by decide +kernel
theorem d_L_sizeBit_1 : decode c_L_sizeBit 1 = .ok (.ireturn, 1) := by decide +kernel
theorem d_L_signBit_0 : decode c_L_signBit 0 = .ok (.iconst 0, 1) := by decide +kernel
theorem d_L_signBit_1 : decode c_L_signBit 1 = .ok (.ireturn, 1) := by decide +kernel
theorem d_L_exchange_0 : decode c_L_exchange 0 = .ok (.aload_n 0, 1) := by decide +kernel
theorem d_L_exchange_1 : decode c_L_exchange 1 = .ok (.getfield 19, 3) := by decide +kernel
theorem d_L_exchange_4 : decode c_L_exchange 4 = .ok (.aload_n 0, 1) := by decide +kernel
theorem d_L_exchange_5 : decode c_L_exchange 5 = .ok (.getfield 15, 3) := by decide +kernel
theorem d_L_exchange_8 : decode c_L_exchange 8 = .ok (.if_icmp .lt 10, 3) := by decide +kernel
theorem d_L_exchange_11 : decode c_L_exchange 11 = .ok (.aload_n 0, 1) := by decide +kernel
theorem d_L_exchange_12 : decode c_L_exchange 12 = .ok (.iconst 1, 1) := by decide +kernel
theorem d_L_exchange_13 : decode c_L_exchange 13 = .ok (.putfield 22, 3) := by decide +kernel
theorem d_L_exchange_16 : decode c_L_exchange 16 = .ok (.iconst 0, 1) := by decide +kernel
theorem d_L_exchange_17 : decode c_L_exchange 17 = .ok (.ireturn, 1) := by decide +kernel
theorem d_L_exchange_18 : decode c_L_exchange 18 = .ok (.aload_n 0, 1) := by decide +kernel
theorem d_L_exchange_19 : decode c_L_exchange 19 = .ok (.aload_n 0, 1) := by decide +kernel
theorem d_L_exchange_20 : decode c_L_exchange 20 = .ok (.getfield 19, 3) := by decide +kernel
theorem d_L_exchange_23 : decode c_L_exchange 23 = .ok (.invokevirtual 26, 3) := by decide +kernel
theorem d_L_exchange_26 : decode c_L_exchange 26 = .ok (.istore_n 3, 1) := by decide +kernel
theorem d_L_exchange_27 : decode c_L_exchange 27 = .ok (.aload_n 0, 1) := by decide +kernel
theorem d_L_exchange_28 : decode c_L_exchange 28 = .ok (.dup, 1) := by decide +kernel
theorem d_L_exchange_29 : decode c_L_exchange 29 = .ok (.getfield 19, 3) := by decide +kernel
theorem d_L_exchange_32 : decode c_L_exchange 32 = .ok (.iconst 1, 1) := by decide +kernel
theorem d_L_exchange_33 : decode c_L_exchange 33 = .ok (.iadd, 1) := by decide +kernel
theorem d_L_exchange_34 : decode c_L_exchange 34 = .ok (.putfield 19, 3) := by decide +kernel
theorem d_L_exchange_37 : decode c_L_exchange 37 = .ok (.iload_n 3, 1) := by decide +kernel
theorem d_L_exchange_38 : decode c_L_exchange 38 = .ok (.ireturn, 1) := by decide +kernel
abbrev rm_T_forget : Room := { frames := 0, cells := 0, slots := 0, locals := 0 }
set_option maxHeartbeats 4000000 in
set_option maxRecDepth 100000 in
theorem m_T_forget (l : Launch) (dC : Nat → ClassId) (dI : Nat → Nat → Nat) (q_te q_sa q_ro : Nat) (cnt : Int32) (pn : Int32) (u : Int32) (hF : f_T_forget = u) : ∀ sz : Nat, Met l y_T_forget (kws y_T_forget c_T_forget 1 none) rm_T_forget (kPre (dC, dI) [.ref q_te] [(q_te, .inr (2, [.ref q_sa, .ref q_ro, .int cnt, .int pn]))] [] sz) (kPost (dC, dI) none [(q_te, .inr (2, [.ref q_sa, .ref q_ro, .int u, .int pn]))] (va_A [(q_te, .inr (2, [.ref q_sa, .ref q_ro, .int cnt, .int pn]))] sz)) 0 0 (va_A [(q_te, .inr (2, [.ref q_sa, .ref q_ro, .int cnt, .int pn]))] sz) := by
  unfold f_T_forget at hF
  refine kU_of (cc := c_T_forget) (maxL := 1) (ret := none) (by decide) (Nat.le_of_ble_eq_true rfl) ?_
  intro p e s m args below meth c Q A hQ hfx hK hN hA H locs ls hP hD hS hl
  obtain ⟨hx, hb, hr, hml, hown, hts, hlocks⟩ := hfx
  have hown : s.vm.findClass R_T = some m.cls := hown
  have hl : lv_has ls 1 [(0, .ref q_te)] := hl
  refine lv_aload_n hx hb d_T_forget_0 rfl (lv_at hl 0 rfl) ?_
  refine lv_iconst (v := 0) hx hb d_T_forget_1 (by decide) ?_
  refine va_put (D := (dC, dI)) (ci := 2) (v := .int (0 : Int32)) (ty := .int) (C := R_T) (T := T_T) (N := 4) hx hb hts ki_T ty_T tyok_T nmok_T hown hK hP hD hS 0 rfl rfl 2 (by decide) (hts _ kw_1_83) (fun _ h9 => h9) rfl (by decide +kernel) rfl rfl (Nat.le_of_ble_eq_true rfl) d_T_forget_2 (fun H locs hP hD hS => ?_)
  have hP : va_P (dC, dI) vwCl [(q_te, .inr (2, [.ref q_sa, .ref q_ro, .int (0 : Int32), .int pn]))] H := hP
  have hD : va_D A [(q_te, .inr (2, [.ref q_sa, .ref q_ro, .int (0 : Int32), .int pn]))] := hD
  subst hF
  exact ku_vret hx hb hr hlocks hQ (hP.sub [0] rfl) (hD.sub [0] (by decide) rfl) hS d_T_forget_5
abbrev rm_T_sizeBit : Room := { frames := 1, cells := 0, slots := 0, locals := 13 }
set_option maxHeartbeats 4000000 in
set_option maxRecDepth 100000 in
theorem m_T_sizeBit (l : Launch) (dC : Nat → ClassId) (dI : Nat → Nat → Nat) (q_te q_sa q_ro : Nat) (k_sa : ClassId) (n_sa : Nat) (cnt : Int32) (pn : Int32) (sam : (Nat → Int32)) (a0 : Int32) (a1 : Int32) (u : Int32) (hF : f_T_sizeBit sam n_sa a0 a1 = some u) : Met l y_T_sizeBit (kws y_T_sizeBit c_T_sizeBit 3 (some .int)) rm_T_sizeBit (kRe (dC, dI) [.ref q_te, .int a0, .int a1] [(q_te, .inr (2, [.ref q_sa, .ref q_ro, .int cnt, .int pn])), (q_sa, .inl (k_sa, n_sa, .inl sam))] [(k_sa, .int)]) (k2_QcV (.int u)) 0 0 (fun _ => False) := by
  unfold f_T_sizeBit at hF
  refine kR_of (cc := c_T_sizeBit) (maxL := 3) (ret := (some .int)) (by decide) (Nat.le_of_ble_eq_true rfl) ?_
  intro p e s m args below meth c Q hQ hfx hP hK hN ls hl
  obtain ⟨hx, hb, hr, hml, hown, hts, hlocks⟩ := hfx
  have hown : s.vm.findClass R_T = some m.cls := hown
  have hl : lv_has ls 3 [(0, .ref q_te), (1, .int a0), (2, .int a1)] := hl
  refine lv_aload_n hx hb d_T_sizeBit_0 rfl (lv_at hl 0 rfl) ?_
  refine va_get (D := (dC, dI)) (ci := 2) (v := .ref q_sa) (C := R_T) (T := T_T) (N := 4) hx hb hts ki_T hown hK hP 0 rfl rfl 0 (by decide) (hts _ kw_1_81) (fun _ h9 => h9) rfl d_T_sizeBit_1 ?_
  refine lv_iload_n hx hb d_T_sizeBit_4 rfl (lv_at hl 1 rfl) ?_
  obtain ⟨h1, hF⟩ := kc_no hF
  refine va_iald hx hb hK hP 1 0 rfl rfl h1 d_T_sizeBit_5 ?_
  refine va_mabs hx hb (by rw [hml]; exact hl.1.symm) hown (hts _ kw_2_32) (hts _ kw_1_204) (hts _ kw_1_3) (hts _ kw_1_205) (Nat.le_of_ble_eq_true rfl) (Nat.le_of_ble_eq_true rfl) (Nat.le_of_ble_eq_true rfl) (Nat.le_of_ble_eq_true rfl) d_T_sizeBit_6 ?_
  refine W.eq (g2 := F0 m 9 ls [.int (kabs (sam a0.toNatClampNeg))]) rfl ?_
  refine lv_iload_n hx hb d_T_sizeBit_9 rfl (lv_at hl 2 rfl) ?_
  refine lv_ishr hx hb d_T_sizeBit_10 ?_
  refine lv_iconst (v := 1) hx hb d_T_sizeBit_11 (by decide) ?_
  refine lv_iand hx hb d_T_sizeBit_12 ?_
  obtain rfl := Option.some.inj hF
  exact kr_iret hx hb hr hlocks hQ d_T_sizeBit_13
abbrev rm_T_signBit : Room := { frames := 0, cells := 0, slots := 0, locals := 0 }
set_option maxHeartbeats 4000000 in
set_option maxRecDepth 100000 in
theorem m_T_signBit (l : Launch) (dC : Nat → ClassId) (dI : Nat → Nat → Nat) (q_te q_sa q_ro : Nat) (k_sa : ClassId) (n_sa : Nat) (cnt : Int32) (pn : Int32) (sam : (Nat → Int32)) (a0 : Int32) (u : Int32) (hF : f_T_signBit sam n_sa a0 = some u) : Met l y_T_signBit (kws y_T_signBit c_T_signBit 2 (some .int)) rm_T_signBit (kRe (dC, dI) [.ref q_te, .int a0] [(q_te, .inr (2, [.ref q_sa, .ref q_ro, .int cnt, .int pn])), (q_sa, .inl (k_sa, n_sa, .inl sam))] [(k_sa, .int)]) (k2_QcV (.int u)) 0 0 (fun _ => False) := by
  unfold f_T_signBit at hF
  refine kR_of (cc := c_T_signBit) (maxL := 2) (ret := (some .int)) (by decide) (Nat.le_of_ble_eq_true rfl) ?_
  intro p e s m args below meth c Q hQ hfx hP hK hN ls hl
  obtain ⟨hx, hb, hr, hml, hown, hts, hlocks⟩ := hfx
  have hown : s.vm.findClass R_T = some m.cls := hown
  have hl : lv_has ls 2 [(0, .ref q_te), (1, .int a0)] := hl
  refine lv_aload_n hx hb d_T_signBit_0 rfl (lv_at hl 0 rfl) ?_
  refine va_get (D := (dC, dI)) (ci := 2) (v := .ref q_sa) (C := R_T) (T := T_T) (N := 4) hx hb hts ki_T hown hK hP 0 rfl rfl 0 (by decide) (hts _ kw_1_81) (fun _ h9 => h9) rfl d_T_signBit_1 ?_
  refine lv_iload_n hx hb d_T_signBit_4 rfl (lv_at hl 1 rfl) ?_
  obtain ⟨h1, hF⟩ := kc_no hF
  refine va_iald hx hb hK hP 1 0 rfl rfl h1 d_T_signBit_5 ?_
  refine lv_if_ge (tgt := 13) hx hb d_T_signBit_6 (by decide) (fun c2 => ?_) (fun c2 => ?_)
  · have hF := kc_pos c2 hF
    refine lv_iconst (v := 0) hx hb d_T_signBit_13 (by decide) ?_
    obtain rfl := Option.some.inj hF
    exact kr_iret hx hb hr hlocks hQ d_T_signBit_14
  have hF := kc_neg c2 hF
  refine lv_iconst (v := 1) hx hb d_T_signBit_9 (by decide) ?_
  refine lv_goto (tgt := 14) hx hb d_T_signBit_10 (by decide) ?_
  obtain rfl := Option.some.inj hF
  exact kr_iret hx hb hr hlocks hQ d_T_signBit_14
abbrev rm_T_exchange : Room := { frames := 0, cells := 0, slots := 0, locals := 0 }
set_option maxHeartbeats 4000000 in
set_option maxRecDepth 100000 in
theorem m_T_exchange (l : Launch) (dC : Nat → ClassId) (dI : Nat → Nat → Nat) (q_te q_sa q_ro : Nat) (k_ro : ClassId) (n_ro : Nat) (cnt : Int32) (pn : Int32) (row : (Nat → Int32)) (a0 : Int32) (a1 : Int32) (u : Int32 × Int32 × (Nat → Int32)) (hF : f_T_exchange cnt pn row n_ro a0 a1 = some u) : ∀ sz : Nat, Met l y_T_exchange (kws y_T_exchange c_T_exchange 3 (some .int)) rm_T_exchange (kPre (dC, dI) [.ref q_te, .int a0, .int a1] [(q_te, .inr (2, [.ref q_sa, .ref q_ro, .int cnt, .int pn])), (q_ro, .inl (k_ro, n_ro, .inl row))] [(k_ro, .int)] sz) (kPost (dC, dI) (some (.int u.1)) [(q_te, .inr (2, [.ref q_sa, .ref q_ro, .int u.2.1, .int pn])), (q_ro, .inl (k_ro, n_ro, .inl u.2.2))] (va_A [(q_te, .inr (2, [.ref q_sa, .ref q_ro, .int cnt, .int pn])), (q_ro, .inl (k_ro, n_ro, .inl row))] sz)) 0 0 (va_A [(q_te, .inr (2, [.ref q_sa, .ref q_ro, .int cnt, .int pn])), (q_ro, .inl (k_ro, n_ro, .inl row))] sz) := by
  unfold f_T_exchange at hF
  refine kU_of (cc := c_T_exchange) (maxL := 3) (ret := (some .int)) (by decide) (Nat.le_of_ble_eq_true rfl) ?_
  intro p e s m args below meth c Q A hQ hfx hK hN hA H locs ls hP hD hS hl
  obtain ⟨hx, hb, hr, hml, hown, hts, hlocks⟩ := hfx
  have hown : s.vm.findClass R_T = some m.cls := hown
  have hl : lv_has ls 3 [(0, .ref q_te), (1, .int a0), (2, .int a1)] := hl
  refine lv_aload_n hx hb d_T_exchange_0 rfl (lv_at hl 0 rfl) ?_
  refine va_get (D := (dC, dI)) (ci := 2) (v := .int cnt) (C := R_T) (T := T_T) (N := 4) hx hb hts ki_T hown hK hP 0 rfl rfl 2 (by decide) (hts _ kw_1_83) (fun _ h9 => h9) rfl d_T_exchange_1 ?_
  refine lv_aload_n hx hb d_T_exchange_4 rfl (lv_at hl 0 rfl) ?_
  refine va_get (D := (dC, dI)) (ci := 2) (v := .ref q_ro) (C := R_T) (T := T_T) (N := 4) hx hb hts ki_T hown hK hP 0 rfl rfl 1 (by decide) (hts _ kw_1_82) (fun _ h9 => h9) rfl d_T_exchange_5 ?_
  refine va_alen (v := nI n_ro) (ty := .int) hx hb hK hP 1 0 rfl rfl rfl d_T_exchange_8 ?_
  refine lv_icmp_ge (tgt := 44) hx hb d_T_exchange_9 (by decide) (fun c1 => ?_) (fun c1 => ?_)
  · have hF := kc_pos c1 hF
    refine lv_iload_n hx hb d_T_exchange_44 rfl (lv_at hl 1 rfl) ?_
    obtain rfl := Option.some.inj hF
    exact ku_iret hx hb hr hlocks hQ (hP.sub [0, 1] rfl) (hD.sub [0, 1] (by decide) rfl) hS d_T_exchange_45
  have hF := kc_neg c1 hF
  refine lv_aload_n hx hb d_T_exchange_12 rfl (lv_at hl 0 rfl) ?_
  refine va_get (D := (dC, dI)) (ci := 2) (v := .ref q_ro) (C := R_T) (T := T_T) (N := 4) hx hb hts ki_T hown hK hP 0 rfl rfl 1 (by decide) (hts _ kw_1_82) (fun _ h9 => h9) rfl d_T_exchange_13 ?_
  refine lv_aload_n hx hb d_T_exchange_16 rfl (lv_at hl 0 rfl) ?_
  refine va_get (D := (dC, dI)) (ci := 2) (v := .int cnt) (C := R_T) (T := T_T) (N := 4) hx hb hts ki_T hown hK hP 0 rfl rfl 2 (by decide) (hts _ kw_1_83) (fun _ h9 => h9) rfl d_T_exchange_17 ?_
  refine lv_iload_n hx hb d_T_exchange_20 rfl (lv_at hl 1 rfl) ?_
  refine lv_iload_n hx hb d_T_exchange_21 rfl (lv_at hl 2 rfl) ?_
  refine lv_iconst (v := 1) hx hb d_T_exchange_22 (by decide) ?_
  refine lv_ishl hx hb d_T_exchange_23 ?_
  refine lv_ior hx hb d_T_exchange_24 ?_
  refine lv_aload_n hx hb d_T_exchange_25 rfl (lv_at hl 0 rfl) ?_
  refine va_get (D := (dC, dI)) (ci := 2) (v := .int pn) (C := R_T) (T := T_T) (N := 4) hx hb hts ki_T hown hK hP 0 rfl rfl 3 (by decide) (hts _ kw_1_86) (fun _ h9 => h9) rfl d_T_exchange_26 ?_
  refine lv_bipush (v := 6) hx hb d_T_exchange_29 (by decide) ?_
  refine lv_ishl hx hb d_T_exchange_31 ?_
  refine lv_ior hx hb d_T_exchange_32 ?_
  obtain ⟨h2, hF⟩ := kc_no hF
  refine va_iast hx hb hK hP hD hS 1 0 rfl rfl h2 d_T_exchange_33 (fun H locs hP hD hS => ?_)
  have hP : va_P (dC, dI) vwCl [(q_te, .inr (2, [.ref q_sa, .ref q_ro, .int cnt, .int pn])), (q_ro, .inl (k_ro, n_ro, .inl (upd row cnt.toNatClampNeg ((a0 ||| (a1 <<< ((1 : Int32) &&& 31))) ||| (pn <<< ((6 : Int32) &&& 31))))))] H := hP
  have hD : va_D A [(q_te, .inr (2, [.ref q_sa, .ref q_ro, .int cnt, .int pn])), (q_ro, .inl (k_ro, n_ro, .inl (upd row cnt.toNatClampNeg ((a0 ||| (a1 <<< ((1 : Int32) &&& 31))) ||| (pn <<< ((6 : Int32) &&& 31))))))] := hD
  refine lv_aload_n hx hb d_T_exchange_34 rfl (lv_at hl 0 rfl) ?_
  refine lv_dup hx hb d_T_exchange_35 rfl ?_
  refine va_get (D := (dC, dI)) (ci := 2) (v := .int cnt) (C := R_T) (T := T_T) (N := 4) hx hb hts ki_T hown hK hP 0 rfl rfl 2 (by decide) (hts _ kw_1_83) (fun _ h9 => h9) rfl d_T_exchange_36 ?_
  refine lv_iconst (v := 1) hx hb d_T_exchange_39 (by decide) ?_
  refine lv_iadd hx hb d_T_exchange_40 ?_
  refine va_put (D := (dC, dI)) (ci := 2) (v := .int (cnt + (1 : Int32))) (ty := .int) (C := R_T) (T := T_T) (N := 4) hx hb hts ki_T ty_T tyok_T nmok_T hown hK hP hD hS 0 rfl rfl 2 (by decide) (hts _ kw_1_83) (fun _ h9 => h9) rfl (by decide +kernel) rfl rfl (Nat.le_of_ble_eq_true rfl) d_T_exchange_41 (fun H locs hP hD hS => ?_)
  have hP : va_P (dC, dI) vwCl [(q_te, .inr (2, [.ref q_sa, .ref q_ro, .int (cnt + (1 : Int32)), .int pn])), (q_ro, .inl (k_ro, n_ro, .inl (upd row cnt.toNatClampNeg ((a0 ||| (a1 <<< ((1 : Int32) &&& 31))) ||| (pn <<< ((6 : Int32) &&& 31))))))] H := hP
  have hD : va_D A [(q_te, .inr (2, [.ref q_sa, .ref q_ro, .int (cnt + (1 : Int32)), .int pn])), (q_ro, .inl (k_ro, n_ro, .inl (upd row cnt.toNatClampNeg ((a0 ||| (a1 <<< ((1 : Int32) &&& 31))) ||| (pn <<< ((6 : Int32) &&& 31))))))] := hD
  refine lv_iload_n hx hb d_T_exchange_44 rfl (lv_at hl 1 rfl) ?_
  obtain rfl := Option.some.inj hF
  exact ku_iret hx hb hr hlocks hQ (hP.sub [0, 1] rfl) (hD.sub [0, 1] (by decide) rfl) hS d_T_exchange_45
abbrev rm_T_bitOf : Room := { frames := 0, cells := 0, slots := 0, locals := 0 }
set_option maxHeartbeats 4000000 in
set_option maxRecDepth 100000 in
theorem m_T_bitOf (l : Launch) (dC : Nat → ClassId) (dI : Nat → Nat → Nat) (q_te q_sa q_ro : Nat) (k_ro : ClassId) (n_ro : Nat) (cnt : Int32) (pn : Int32) (row : (Nat → Int32)) (a0 : Int32) (u : Int32) (hF : f_T_bitOf row n_ro a0 = some u) : Met l y_T_bitOf (kws y_T_bitOf c_T_bitOf 2 (some .int)) rm_T_bitOf (kRe (dC, dI) [.ref q_te, .int a0] [(q_te, .inr (2, [.ref q_sa, .ref q_ro, .int cnt, .int pn])), (q_ro, .inl (k_ro, n_ro, .inl row))] [(k_ro, .int)]) (k2_QcV (.int u)) 0 0 (fun _ => False) := by
  unfold f_T_bitOf at hF
  refine kR_of (cc := c_T_bitOf) (maxL := 2) (ret := (some .int)) (by decide) (Nat.le_of_ble_eq_true rfl) ?_
  intro p e s m args below meth c Q hQ hfx hP hK hN ls hl
  obtain ⟨hx, hb, hr, hml, hown, hts, hlocks⟩ := hfx
  have hown : s.vm.findClass R_T = some m.cls := hown
  have hl : lv_has ls 2 [(0, .ref q_te), (1, .int a0)] := hl
  refine lv_aload_n hx hb d_T_bitOf_0 rfl (lv_at hl 0 rfl) ?_
  refine va_get (D := (dC, dI)) (ci := 2) (v := .ref q_ro) (C := R_T) (T := T_T) (N := 4) hx hb hts ki_T hown hK hP 0 rfl rfl 1 (by decide) (hts _ kw_1_82) (fun _ h9 => h9) rfl d_T_bitOf_1 ?_
  refine lv_iload_n hx hb d_T_bitOf_4 rfl (lv_at hl 1 rfl) ?_
  obtain ⟨h1, hF⟩ := kc_no hF
  refine va_iald hx hb hK hP 1 0 rfl rfl h1 d_T_bitOf_5 ?_
  refine lv_iconst (v := 1) hx hb d_T_bitOf_6 (by decide) ?_
  refine lv_iand hx hb d_T_bitOf_7 ?_
  obtain rfl := Option.some.inj hF
  exact kr_iret hx hb hr hlocks hQ d_T_bitOf_8
abbrev rm_T_contextOf : Room := { frames := 0, cells := 0, slots := 0, locals := 0 }
set_option maxHeartbeats 4000000 in
set_option maxRecDepth 100000 in
theorem m_T_contextOf (l : Launch) (dC : Nat → ClassId) (dI : Nat → Nat → Nat) (q_te q_sa q_ro : Nat) (k_ro : ClassId) (n_ro : Nat) (cnt : Int32) (pn : Int32) (row : (Nat → Int32)) (a0 : Int32) (u : Int32) (hF : f_T_contextOf row n_ro a0 = some u) : Met l y_T_contextOf (kws y_T_contextOf c_T_contextOf 2 (some .int)) rm_T_contextOf (kRe (dC, dI) [.ref q_te, .int a0] [(q_te, .inr (2, [.ref q_sa, .ref q_ro, .int cnt, .int pn])), (q_ro, .inl (k_ro, n_ro, .inl row))] [(k_ro, .int)]) (k2_QcV (.int u)) 0 0 (fun _ => False) := by
  unfold f_T_contextOf at hF
  refine kR_of (cc := c_T_contextOf) (maxL := 2) (ret := (some .int)) (by decide) (Nat.le_of_ble_eq_true rfl) ?_
  intro p e s m args below meth c Q hQ hfx hP hK hN ls hl
  obtain ⟨hx, hb, hr, hml, hown, hts, hlocks⟩ := hfx
  have hown : s.vm.findClass R_T = some m.cls := hown
  have hl : lv_has ls 2 [(0, .ref q_te), (1, .int a0)] := hl
  refine lv_aload_n hx hb d_T_contextOf_0 rfl (lv_at hl 0 rfl) ?_
  refine va_get (D := (dC, dI)) (ci := 2) (v := .ref q_ro) (C := R_T) (T := T_T) (N := 4) hx hb hts ki_T hown hK hP 0 rfl rfl 1 (by decide) (hts _ kw_1_82) (fun _ h9 => h9) rfl d_T_contextOf_1 ?_
  refine lv_iload_n hx hb d_T_contextOf_4 rfl (lv_at hl 1 rfl) ?_
  obtain ⟨h1, hF⟩ := kc_no hF
  refine va_iald hx hb hK hP 1 0 rfl rfl h1 d_T_contextOf_5 ?_
  refine lv_iconst (v := 1) hx hb d_T_contextOf_6 (by decide) ?_
  refine lv_ishr hx hb d_T_contextOf_7 ?_
  refine lv_bipush (v := 31) hx hb d_T_contextOf_8 (by decide) ?_
  refine lv_iand hx hb d_T_contextOf_10 ?_
  obtain rfl := Option.some.inj hF
  exact kr_iret hx hb hr hlocks hQ d_T_contextOf_11
abbrev rm_T_passOf : Room := { frames := 0, cells := 0, slots := 0, locals := 0 }
set_option maxHeartbeats 4000000 in
set_option maxRecDepth 100000 in
theorem m_T_passOf (l : Launch) (dC : Nat → ClassId) (dI : Nat → Nat → Nat) (q_te q_sa q_ro : Nat) (k_ro : ClassId) (n_ro : Nat) (cnt : Int32) (pn : Int32) (row : (Nat → Int32)) (a0 : Int32) (u : Int32) (hF : f_T_passOf row n_ro a0 = some u) : Met l y_T_passOf (kws y_T_passOf c_T_passOf 2 (some .int)) rm_T_passOf (kRe (dC, dI) [.ref q_te, .int a0] [(q_te, .inr (2, [.ref q_sa, .ref q_ro, .int cnt, .int pn])), (q_ro, .inl (k_ro, n_ro, .inl row))] [(k_ro, .int)]) (k2_QcV (.int u)) 0 0 (fun _ => False) := by
  unfold f_T_passOf at hF
  refine kR_of (cc := c_T_passOf) (maxL := 2) (ret := (some .int)) (by decide) (Nat.le_of_ble_eq_true rfl) ?_
  intro p e s m args below meth c Q hQ hfx hP hK hN ls hl
  obtain ⟨hx, hb, hr, hml, hown, hts, hlocks⟩ := hfx
  have hown : s.vm.findClass R_T = some m.cls := hown
  have hl : lv_has ls 2 [(0, .ref q_te), (1, .int a0)] := hl
  refine lv_aload_n hx hb d_T_passOf_0 rfl (lv_at hl 0 rfl) ?_
  refine va_get (D := (dC, dI)) (ci := 2) (v := .ref q_ro) (C := R_T) (T := T_T) (N := 4) hx hb hts ki_T hown hK hP 0 rfl rfl 1 (by decide) (hts _ kw_1_82) (fun _ h9 => h9) rfl d_T_passOf_1 ?_
  refine lv_iload_n hx hb d_T_passOf_4 rfl (lv_at hl 1 rfl) ?_
  obtain ⟨h1, hF⟩ := kc_no hF
  refine va_iald hx hb hK hP 1 0 rfl rfl h1 d_T_passOf_5 ?_
  refine lv_bipush (v := 6) hx hb d_T_passOf_6 (by decide) ?_
  refine lv_ishr hx hb d_T_passOf_8 ?_
  obtain rfl := Option.some.inj hF
  exact kr_iret hx hb hr hlocks hQ d_T_passOf_9
abbrev rm_L_forget : Room := { frames := 0, cells := 0, slots := 0, locals := 0 }
set_option maxHeartbeats 4000000 in
set_option maxRecDepth 100000 in
theorem m_L_forget (l : Launch) (dC : Nat → ClassId) (dI : Nat → Nat → Nat) (q_li q_wo : Nat) (lcn : Int32) (lak : Int32) (nxt : Int32) (u : Int32) (hF : f_L_forget = u) : ∀ sz : Nat, Met l y_L_forget (kws y_L_forget c_L_forget 1 none) rm_L_forget (kPre (dC, dI) [.ref q_li] [(q_li, .inr (3, [.ref q_wo, .int lcn, .int lak, .int nxt]))] [] sz) (kPost (dC, dI) none [(q_li, .inr (3, [.ref q_wo, .int u, .int lak, .int nxt]))] (va_A [(q_li, .inr (3, [.ref q_wo, .int lcn, .int lak, .int nxt]))] sz)) 0 0 (va_A [(q_li, .inr (3, [.ref q_wo, .int lcn, .int lak, .int nxt]))] sz) := by
  unfold f_L_forget at hF
  refine kU_of (cc := c_L_forget) (maxL := 1) (ret := none) (by decide) (Nat.le_of_ble_eq_true rfl) ?_
  intro p e s m args below meth c Q A hQ hfx hK hN hA H locs ls hP hD hS hl
  obtain ⟨hx, hb, hr, hml, hown, hts, hlocks⟩ := hfx
  have hown : s.vm.findClass R_L = some m.cls := hown
  have hl : lv_has ls 1 [(0, .ref q_li)] := hl
  refine lv_aload_n hx hb d_L_forget_0 rfl (lv_at hl 0 rfl) ?_
  refine lv_iconst (v := 0) hx hb d_L_forget_1 (by decide) ?_
  refine va_put (D := (dC, dI)) (ci := 3) (v := .int (0 : Int32)) (ty := .int) (C := R_L) (T := T_L) (N := 4) hx hb hts ki_L ty_L tyok_L nmok_L hown hK hP hD hS 0 rfl rfl 1 (by decide) (hts _ kw_1_138) (fun _ h9 => h9) rfl (by decide +kernel) rfl rfl (Nat.le_of_ble_eq_true rfl) d_L_forget_2 (fun H locs hP hD hS => ?_)
  have hP : va_P (dC, dI) vwCl [(q_li, .inr (3, [.ref q_wo, .int (0 : Int32), .int lak, .int nxt]))] H := hP
  have hD : va_D A [(q_li, .inr (3, [.ref q_wo, .int (0 : Int32), .int lak, .int nxt]))] := hD
  subst hF
  exact ku_vret hx hb hr hlocks hQ (hP.sub [0] rfl) (hD.sub [0] (by decide) rfl) hS d_L_forget_5
abbrev rm_L_rewind : Room := { frames := 0, cells := 0, slots := 0, locals := 0 }
set_option maxHeartbeats 4000000 in
set_option maxRecDepth 100000 in
theorem m_L_rewind (l : Launch) (dC : Nat → ClassId) (dI : Nat → Nat → Nat) (q_li q_wo : Nat) (lcn : Int32) (lak : Int32) (nxt : Int32) (u : Int32 × Int32) (hF : f_L_rewind = u) : ∀ sz : Nat, Met l y_L_rewind (kws y_L_rewind c_L_rewind 1 none) rm_L_rewind (kPre (dC, dI) [.ref q_li] [(q_li, .inr (3, [.ref q_wo, .int lcn, .int lak, .int nxt]))] [] sz) (kPost (dC, dI) none [(q_li, .inr (3, [.ref q_wo, .int lcn, .int u.1, .int u.2]))] (va_A [(q_li, .inr (3, [.ref q_wo, .int lcn, .int lak, .int nxt]))] sz)) 0 0 (va_A [(q_li, .inr (3, [.ref q_wo, .int lcn, .int lak, .int nxt]))] sz) := by
  unfold f_L_rewind at hF
  refine kU_of (cc := c_L_rewind) (maxL := 1) (ret := none) (by decide) (Nat.le_of_ble_eq_true rfl) ?_
  intro p e s m args below meth c Q A hQ hfx hK hN hA H locs ls hP hD hS hl
  obtain ⟨hx, hb, hr, hml, hown, hts, hlocks⟩ := hfx
  have hown : s.vm.findClass R_L = some m.cls := hown
  have hl : lv_has ls 1 [(0, .ref q_li)] := hl
  refine lv_aload_n hx hb d_L_rewind_0 rfl (lv_at hl 0 rfl) ?_
  refine lv_iconst (v := 0) hx hb d_L_rewind_1 (by decide) ?_
  refine va_put (D := (dC, dI)) (ci := 3) (v := .int (0 : Int32)) (ty := .int) (C := R_L) (T := T_L) (N := 4) hx hb hts ki_L ty_L tyok_L nmok_L hown hK hP hD hS 0 rfl rfl 3 (by decide) (hts _ kw_1_142) (fun _ h9 => h9) rfl (by decide +kernel) rfl rfl (Nat.le_of_ble_eq_true rfl) d_L_rewind_2 (fun H locs hP hD hS => ?_)
  have hP : va_P (dC, dI) vwCl [(q_li, .inr (3, [.ref q_wo, .int lcn, .int lak, .int (0 : Int32)]))] H := hP
  have hD : va_D A [(q_li, .inr (3, [.ref q_wo, .int lcn, .int lak, .int (0 : Int32)]))] := hD
  refine lv_aload_n hx hb d_L_rewind_5 rfl (lv_at hl 0 rfl) ?_
  refine lv_iconst (v := 0) hx hb d_L_rewind_6 (by decide) ?_
  refine va_put (D := (dC, dI)) (ci := 3) (v := .int (0 : Int32)) (ty := .boolean) (C := R_L) (T := T_L) (N := 4) hx hb hts ki_L ty_L tyok_L nmok_L hown hK hP hD hS 0 rfl rfl 2 (by decide) (hts _ kw_1_140) (fun _ h9 => h9) rfl (by decide +kernel) rfl rfl (Nat.le_of_ble_eq_true rfl) d_L_rewind_7 (fun H locs hP hD hS => ?_)
  have hP : va_P (dC, dI) vwCl [(q_li, .inr (3, [.ref q_wo, .int lcn, .int (0 : Int32), .int (0 : Int32)]))] H := hP
  have hD : va_D A [(q_li, .inr (3, [.ref q_wo, .int lcn, .int (0 : Int32), .int (0 : Int32)]))] := hD
  subst hF
  exact ku_vret hx hb hr hlocks hQ (hP.sub [0] rfl) (hD.sub [0] (by decide) rfl) hS d_L_rewind_10
abbrev rm_L_append : Room := { frames := 0, cells := 0, slots := 0, locals := 0 }
set_option maxHeartbeats 4000000 in
set_option maxRecDepth 100000 in
theorem m_L_append (l : Launch) (dC : Nat → ClassId) (dI : Nat → Nat → Nat) (q_li q_wo : Nat) (k_wo : ClassId) (n_wo : Nat) (lcn : Int32) (lak : Int32) (nxt : Int32) (wor : (Nat → Int32)) (a0 : Int32) (u : Int32 × (Nat → Int32)) (hF : f_L_append lcn wor n_wo a0 = some u) : ∀ sz : Nat, Met l y_L_append (kws y_L_append c_L_append 4 none) rm_L_append (kPre (dC, dI) [.ref q_li, .int a0] [(q_li, .inr (3, [.ref q_wo, .int lcn, .int lak, .int nxt])), (q_wo, .inl (k_wo, n_wo, .inl wor))] [(k_wo, .int)] sz) (kPost (dC, dI) none [(q_li, .inr (3, [.ref q_wo, .int u.1, .int lak, .int nxt])), (q_wo, .inl (k_wo, n_wo, .inl u.2))] (va_A [(q_li, .inr (3, [.ref q_wo, .int lcn, .int lak, .int nxt])), (q_wo, .inl (k_wo, n_wo, .inl wor))] sz)) 0 0 (va_A [(q_li, .inr (3, [.ref q_wo, .int lcn, .int lak, .int nxt])), (q_wo, .inl (k_wo, n_wo, .inl wor))] sz) := by
  unfold f_L_append at hF
  refine kU_of (cc := c_L_append) (maxL := 4) (ret := none) (by decide) (Nat.le_of_ble_eq_true rfl) ?_
  intro p e s m args below meth c Q A hQ hfx hK hN hA H locs ls hP hD hS hl
  obtain ⟨hx, hb, hr, hml, hown, hts, hlocks⟩ := hfx
  have hown : s.vm.findClass R_L = some m.cls := hown
  have hl : lv_has ls 4 [(0, .ref q_li), (1, .int a0)] := hl
  refine lv_aload_n hx hb d_L_append_0 rfl (lv_at hl 0 rfl) ?_
  refine va_get (D := (dC, dI)) (ci := 3) (v := .int lcn) (C := R_L) (T := T_L) (N := 4) hx hb hts ki_L hown hK hP 0 rfl rfl 1 (by decide) (hts _ kw_1_138) (fun _ h9 => h9) rfl d_L_append_1 ?_
  refine lv_sipush (v := 12000) hx hb d_L_append_4 (by decide) ?_
  refine lv_icmp_ge (tgt := 69) hx hb d_L_append_7 (by decide) (fun c1 => ?_) (fun c1 => ?_)
  · have hF := kc_pos c1 hF
    obtain rfl := Option.some.inj hF
    exact ku_vret hx hb hr hlocks hQ (hP.sub [0, 1] rfl) (hD.sub [0, 1] (by decide) rfl) hS d_L_append_69
  have hF := kc_neg c1 hF
  refine lv_aload_n hx hb d_L_append_10 rfl (lv_at hl 0 rfl) ?_
  refine va_get (D := (dC, dI)) (ci := 3) (v := .int lcn) (C := R_L) (T := T_L) (N := 4) hx hb hts ki_L hown hK hP 0 rfl rfl 1 (by decide) (hts _ kw_1_138) (fun _ h9 => h9) rfl d_L_append_11 ?_
  refine lv_iconst (v := 5) hx hb d_L_append_14 (by decide) ?_
  refine lv_ishr hx hb d_L_append_15 ?_
  refine lv_istore_n (lv' := [(2, .int (lcn >>> ((5 : Int32) &&& 31))), (0, .ref q_li), (1, .int a0)]) hx hb d_L_append_16 rfl hl (by decide) rfl (fun ls hl => ?_)
  refine lv_iconst (v := 1) hx hb d_L_append_17 (by decide) ?_
  refine lv_aload_n hx hb d_L_append_18 rfl (lv_at hl 1 rfl) ?_
  refine va_get (D := (dC, dI)) (ci := 3) (v := .int lcn) (C := R_L) (T := T_L) (N := 4) hx hb hts ki_L hown hK hP 0 rfl rfl 1 (by decide) (hts _ kw_1_138) (fun _ h9 => h9) rfl d_L_append_19 ?_
  refine lv_bipush (v := 31) hx hb d_L_append_22 (by decide) ?_
  refine lv_iand hx hb d_L_append_24 ?_
  refine lv_ishl hx hb d_L_append_25 ?_
  refine lv_istore_n (lv' := [(3, .int ((1 : Int32) <<< ((lcn &&& (31 : Int32)) &&& 31))), (2, .int (lcn >>> ((5 : Int32) &&& 31))), (0, .ref q_li), (1, .int a0)]) hx hb d_L_append_26 rfl hl (by decide) rfl (fun ls hl => ?_)
  refine lv_aload_n hx hb d_L_append_27 rfl (lv_at hl 2 rfl) ?_
  refine va_get (D := (dC, dI)) (ci := 3) (v := .ref q_wo) (C := R_L) (T := T_L) (N := 4) hx hb hts ki_L hown hK hP 0 rfl rfl 0 (by decide) (hts _ kw_1_137) (fun _ h9 => h9) rfl d_L_append_28 ?_
  refine lv_iload_n hx hb d_L_append_31 rfl (lv_at hl 1 rfl) ?_
  refine lv_iload_n hx hb d_L_append_32 rfl (lv_at hl 3 rfl) ?_
  refine lv_iconst (v := 1) hx hb d_L_append_33 (by decide) ?_
  obtain ⟨u3, hcu3, hF⟩ := kc_bnd hF
  have hJu3 : ∀ (H : Heap) (locs : List Loc) (ls : Array Slot), va_P (dC, dI) vwCl [(q_li, .inr (3, [.ref q_wo, .int lcn, .int lak, .int nxt])), (q_wo, .inl (k_wo, n_wo, .inl wor))] H → va_D A [(q_li, .inr (3, [.ref q_wo, .int lcn, .int lak, .int nxt])), (q_wo, .inl (k_wo, n_wo, .inl wor))] → va_S A s.heap H locs → lv_has ls 4 [(3, .int ((1 : Int32) <<< ((lcn &&& (31 : Int32)) &&& 31))), (2, .int (lcn >>> ((5 : Int32) &&& 31))), (0, .ref q_li), (1, .int a0)] → W p l e rm_L_append s m args below meth c H locs 0 0 Q (F0 m 58 ls [.int u3, .int (lcn >>> ((5 : Int32) &&& 31)), .ref q_wo]) := by
    intro H locs ls hP hD hS hl
    obtain ⟨h4, hF⟩ := kc_no hF
    refine va_iast hx hb hK hP hD hS 1 0 rfl rfl h4 d_L_append_58 (fun H locs hP hD hS => ?_)
    have hP : va_P (dC, dI) vwCl [(q_li, .inr (3, [.ref q_wo, .int lcn, .int lak, .int nxt])), (q_wo, .inl (k_wo, n_wo, .inl (upd wor (lcn >>> ((5 : Int32) &&& 31)).toNatClampNeg u3)))] H := hP
    have hD : va_D A [(q_li, .inr (3, [.ref q_wo, .int lcn, .int lak, .int nxt])), (q_wo, .inl (k_wo, n_wo, .inl (upd wor (lcn >>> ((5 : Int32) &&& 31)).toNatClampNeg u3)))] := hD
    refine lv_aload_n hx hb d_L_append_59 rfl (lv_at hl 2 rfl) ?_
    refine lv_dup hx hb d_L_append_60 rfl ?_
    refine va_get (D := (dC, dI)) (ci := 3) (v := .int lcn) (C := R_L) (T := T_L) (N := 4) hx hb hts ki_L hown hK hP 0 rfl rfl 1 (by decide) (hts _ kw_1_138) (fun _ h9 => h9) rfl d_L_append_61 ?_
    refine lv_iconst (v := 1) hx hb d_L_append_64 (by decide) ?_
    refine lv_iadd hx hb d_L_append_65 ?_
    refine va_put (D := (dC, dI)) (ci := 3) (v := .int (lcn + (1 : Int32))) (ty := .int) (C := R_L) (T := T_L) (N := 4) hx hb hts ki_L ty_L tyok_L nmok_L hown hK hP hD hS 0 rfl rfl 1 (by decide) (hts _ kw_1_138) (fun _ h9 => h9) rfl (by decide +kernel) rfl rfl (Nat.le_of_ble_eq_true rfl) d_L_append_66 (fun H locs hP hD hS => ?_)
    have hP : va_P (dC, dI) vwCl [(q_li, .inr (3, [.ref q_wo, .int (lcn + (1 : Int32)), .int lak, .int nxt])), (q_wo, .inl (k_wo, n_wo, .inl (upd wor (lcn >>> ((5 : Int32) &&& 31)).toNatClampNeg u3)))] H := hP
    have hD : va_D A [(q_li, .inr (3, [.ref q_wo, .int (lcn + (1 : Int32)), .int lak, .int nxt])), (q_wo, .inl (k_wo, n_wo, .inl (upd wor (lcn >>> ((5 : Int32) &&& 31)).toNatClampNeg u3)))] := hD
    obtain rfl := Option.some.inj hF
    exact ku_vret hx hb hr hlocks hQ (hP.sub [0, 1] rfl) (hD.sub [0, 1] (by decide) rfl) hS d_L_append_69
  clear hF; have hF := hcu3; clear hcu3
  refine lv_icmp_ne (tgt := 48) hx hb d_L_append_34 (by decide) (fun c2 => ?_) (fun c2 => ?_)
  · have hF := kc_neg c2 hF
    refine lv_aload_n hx hb d_L_append_48 rfl (lv_at hl 2 rfl) ?_
    refine va_get (D := (dC, dI)) (ci := 3) (v := .ref q_wo) (C := R_L) (T := T_L) (N := 4) hx hb hts ki_L hown hK hP 0 rfl rfl 0 (by decide) (hts _ kw_1_137) (fun _ h9 => h9) rfl d_L_append_49 ?_
    refine lv_iload_n hx hb d_L_append_52 rfl (lv_at hl 1 rfl) ?_
    obtain ⟨h5, hF⟩ := kc_no hF
    refine va_iald hx hb hK hP 1 0 rfl rfl h5 d_L_append_53 ?_
    refine lv_iload_n hx hb d_L_append_54 rfl (lv_at hl 0 rfl) ?_
    refine lv_iconst (v := -1) hx hb d_L_append_55 (by decide) ?_
    refine lv_ixor hx hb d_L_append_56 ?_
    refine lv_iand hx hb d_L_append_57 ?_
    obtain rfl := Option.some.inj hF
    exact hJu3 _ _ _ hP hD hS (lv_sub hl [0, 1, 2, 3] rfl)
  have hF := kc_pos c2 hF
  refine lv_aload_n hx hb d_L_append_37 rfl (lv_at hl 2 rfl) ?_
  refine va_get (D := (dC, dI)) (ci := 3) (v := .ref q_wo) (C := R_L) (T := T_L) (N := 4) hx hb hts ki_L hown hK hP 0 rfl rfl 0 (by decide) (hts _ kw_1_137) (fun _ h9 => h9) rfl d_L_append_38 ?_
  refine lv_iload_n hx hb d_L_append_41 rfl (lv_at hl 1 rfl) ?_
  obtain ⟨h6, hF⟩ := kc_no hF
  refine va_iald hx hb hK hP 1 0 rfl rfl h6 d_L_append_42 ?_
  refine lv_iload_n hx hb d_L_append_43 rfl (lv_at hl 0 rfl) ?_
  refine lv_ior hx hb d_L_append_44 ?_
  refine lv_goto (tgt := 58) hx hb d_L_append_45 (by decide) ?_
  obtain rfl := Option.some.inj hF
  exact hJu3 _ _ _ hP hD hS (lv_sub hl [0, 1, 2, 3] rfl)
abbrev rm_L_bitOf : Room := { frames := 0, cells := 0, slots := 0, locals := 0 }
set_option maxHeartbeats 4000000 in
set_option maxRecDepth 100000 in
theorem m_L_bitOf (l : Launch) (dC : Nat → ClassId) (dI : Nat → Nat → Nat) (q_li q_wo : Nat) (k_wo : ClassId) (n_wo : Nat) (lcn : Int32) (lak : Int32) (nxt : Int32) (wor : (Nat → Int32)) (a0 : Int32) (u : Int32) (hF : f_L_bitOf wor n_wo a0 = some u) : Met l y_L_bitOf (kws y_L_bitOf c_L_bitOf 2 (some .int)) rm_L_bitOf (kRe (dC, dI) [.ref q_li, .int a0] [(q_li, .inr (3, [.ref q_wo, .int lcn, .int lak, .int nxt])), (q_wo, .inl (k_wo, n_wo, .inl wor))] [(k_wo, .int)]) (k2_QcV (.int u)) 0 0 (fun _ => False) := by
  unfold f_L_bitOf at hF
  refine kR_of (cc := c_L_bitOf) (maxL := 2) (ret := (some .int)) (by decide) (Nat.le_of_ble_eq_true rfl) ?_
  intro p e s m args below meth c Q hQ hfx hP hK hN ls hl
  obtain ⟨hx, hb, hr, hml, hown, hts, hlocks⟩ := hfx
  have hown : s.vm.findClass R_L = some m.cls := hown
  have hl : lv_has ls 2 [(0, .ref q_li), (1, .int a0)] := hl
  refine lv_aload_n hx hb d_L_bitOf_0 rfl (lv_at hl 0 rfl) ?_
  refine va_get (D := (dC, dI)) (ci := 3) (v := .ref q_wo) (C := R_L) (T := T_L) (N := 4) hx hb hts ki_L hown hK hP 0 rfl rfl 0 (by decide) (hts _ kw_1_137) (fun _ h9 => h9) rfl d_L_bitOf_1 ?_
  refine lv_iload_n hx hb d_L_bitOf_4 rfl (lv_at hl 1 rfl) ?_
  refine lv_iconst (v := 5) hx hb d_L_bitOf_5 (by decide) ?_
  refine lv_ishr hx hb d_L_bitOf_6 ?_
  obtain ⟨h1, hF⟩ := kc_no hF
  refine va_iald hx hb hK hP 1 0 rfl rfl h1 d_L_bitOf_7 ?_
  refine lv_iload_n hx hb d_L_bitOf_8 rfl (lv_at hl 1 rfl) ?_
  refine lv_bipush (v := 31) hx hb d_L_bitOf_9 (by decide) ?_
  refine lv_iand hx hb d_L_bitOf_11 ?_
  refine lv_iushr (v := kushr (wor (a0 >>> ((5 : Int32) &&& 31)).toNatClampNeg) (a0 &&& (31 : Int32))) hx hb d_L_bitOf_12 rfl ?_
  refine lv_iconst (v := 1) hx hb d_L_bitOf_13 (by decide) ?_
  refine lv_iand hx hb d_L_bitOf_14 ?_
  obtain rfl := Option.some.inj hF
  exact kr_iret hx hb hr hlocks hQ d_L_bitOf_15
abbrev rm_L_flip : Room := { frames := 1, cells := 0, slots := 0, locals := 21 }
set_option maxHeartbeats 4000000 in
set_option maxRecDepth 100000 in
theorem m_L_flip (l : Launch) (dC : Nat → ClassId) (dI : Nat → Nat → Nat) (q_li q_wo : Nat) (k_wo : ClassId) (n_wo : Nat) (lcn : Int32) (lak : Int32) (nxt : Int32) (wor : (Nat → Int32)) (a0 : Int32) (u : Int32 × (Nat → Int32)) (hF : f_L_flip wor n_wo a0 = some u) : ∀ sz : Nat, Met l y_L_flip (kws y_L_flip c_L_flip 2 (some .int)) rm_L_flip (kPre (dC, dI) [.ref q_li, .int a0] [(q_li, .inr (3, [.ref q_wo, .int lcn, .int lak, .int nxt])), (q_wo, .inl (k_wo, n_wo, .inl wor))] [(k_wo, .int)] sz) (kPost (dC, dI) (some (.int u.1)) [(q_li, .inr (3, [.ref q_wo, .int lcn, .int lak, .int nxt])), (q_wo, .inl (k_wo, n_wo, .inl u.2))] (va_A [(q_li, .inr (3, [.ref q_wo, .int lcn, .int lak, .int nxt])), (q_wo, .inl (k_wo, n_wo, .inl wor))] sz)) 0 0 (va_A [(q_li, .inr (3, [.ref q_wo, .int lcn, .int lak, .int nxt])), (q_wo, .inl (k_wo, n_wo, .inl wor))] sz) := by
  unfold f_L_flip at hF
  refine kU_of (cc := c_L_flip) (maxL := 2) (ret := (some .int)) (by decide) (Nat.le_of_ble_eq_true rfl) ?_
  intro p e s m args below meth c Q A hQ hfx hK hN hA H locs ls hP hD hS hl
  obtain ⟨hx, hb, hr, hml, hown, hts, hlocks⟩ := hfx
  have hown : s.vm.findClass R_L = some m.cls := hown
  have hl : lv_has ls 2 [(0, .ref q_li), (1, .int a0)] := hl
  refine lv_aload_n hx hb d_L_flip_0 rfl (lv_at hl 0 rfl) ?_
  refine va_get (D := (dC, dI)) (ci := 3) (v := .ref q_wo) (C := R_L) (T := T_L) (N := 4) hx hb hts ki_L hown hK hP 0 rfl rfl 0 (by decide) (hts _ kw_1_137) (fun _ h9 => h9) rfl d_L_flip_1 ?_
  refine lv_iload_n hx hb d_L_flip_4 rfl (lv_at hl 1 rfl) ?_
  refine lv_iconst (v := 5) hx hb d_L_flip_5 (by decide) ?_
  refine lv_ishr hx hb d_L_flip_6 ?_
  refine lv_dup2_11 hx hb d_L_flip_7 rfl rfl ?_
  obtain ⟨h1, hF⟩ := kc_no hF
  refine va_iald hx hb hK hP 1 0 rfl rfl h1 d_L_flip_8 ?_
  refine lv_iconst (v := 1) hx hb d_L_flip_9 (by decide) ?_
  refine lv_iload_n hx hb d_L_flip_10 rfl (lv_at hl 1 rfl) ?_
  refine lv_bipush (v := 31) hx hb d_L_flip_11 (by decide) ?_
  refine lv_iand hx hb d_L_flip_13 ?_
  refine lv_ishl hx hb d_L_flip_14 ?_
  refine lv_ixor hx hb d_L_flip_15 ?_
  obtain ⟨h2, hF⟩ := kc_no hF
  refine va_iast hx hb hK hP hD hS 1 0 rfl rfl h2 d_L_flip_16 (fun H locs hP hD hS => ?_)
  have hP : va_P (dC, dI) vwCl [(q_li, .inr (3, [.ref q_wo, .int lcn, .int lak, .int nxt])), (q_wo, .inl (k_wo, n_wo, .inl (upd wor (a0 >>> ((5 : Int32) &&& 31)).toNatClampNeg ((wor (a0 >>> ((5 : Int32) &&& 31)).toNatClampNeg) ^^^ ((1 : Int32) <<< ((a0 &&& (31 : Int32)) &&& 31))))))] H := hP
  have hD : va_D A [(q_li, .inr (3, [.ref q_wo, .int lcn, .int lak, .int nxt])), (q_wo, .inl (k_wo, n_wo, .inl (upd wor (a0 >>> ((5 : Int32) &&& 31)).toNatClampNeg ((wor (a0 >>> ((5 : Int32) &&& 31)).toNatClampNeg) ^^^ ((1 : Int32) <<< ((a0 &&& (31 : Int32)) &&& 31))))))] := hD
  refine lv_aload_n hx hb d_L_flip_17 rfl (lv_at hl 0 rfl) ?_
  refine lv_iload_n hx hb d_L_flip_18 rfl (lv_at hl 1 rfl) ?_
  obtain ⟨u3, hc, hF⟩ := kc_bnd hF
  refine kr_call (va_runV (As := [.int a0]) (rest := []) ⟨hx, hb, hml, hown, hts⟩ (m_L_bitOf l dC dI q_li q_wo k_wo n_wo lcn lak nxt (upd wor (a0 >>> ((5 : Int32) &&& 31)).toNatClampNeg ((wor (a0 >>> ((5 : Int32) &&& 31)).toNatClampNeg) ^^^ ((1 : Int32) <<< ((a0 &&& (31 : Int32)) &&& 31)))) a0 _ hc) (cwV 1 hts (kgV kw_2_39 kw_2_41 kp_5 kw_1_7 kw_2_42) rfl rfl rfl (by decide +kernel) ⟨Nat.le_of_ble_eq_true rfl, Nat.le_of_ble_eq_true rfl⟩) ⟨kRe_blind, va_recv hK hP (ci := 3) (q0 := 0) rfl rfl, kRe_of (hP.sub [0, 1] rfl) (hK.sub [0] rfl) hN⟩ rfl rfl hl.1 rfl (lv_room (Nat.le_of_ble_eq_true rfl)) d_L_flip_19 ⟨Nat.le_of_ble_eq_true rfl, Nat.le_of_ble_eq_true rfl⟩) ?_
  obtain rfl := Option.some.inj hF
  exact ku_iret hx hb hr hlocks hQ (hP.sub [0, 1] rfl) (hD.sub [0, 1] (by decide) rfl) hS d_L_flip_22
abbrev rm_L_sizeBit : Room := { frames := 0, cells := 0, slots := 0, locals := 0 }
set_option maxHeartbeats 4000000 in
set_option maxRecDepth 100000 in
theorem m_L_sizeBit (l : Launch) (dC : Nat → ClassId) (dI : Nat → Nat → Nat) (q_li : Nat) (a0 : Int32) (a1 : Int32) (u : Int32) (hF : f_L_sizeBit = u) : Met l y_L_sizeBit (kws y_L_sizeBit c_L_sizeBit 3 (some .int)) rm_L_sizeBit (kRe (dC, dI) [.ref q_li, .int a0, .int a1] [] []) (k2_QcV (.int u)) 0 0 (fun _ => False) := by
  unfold f_L_sizeBit at hF
  refine kR_of (cc := c_L_sizeBit) (maxL := 3) (ret := (some .int)) (by decide) (Nat.le_of_ble_eq_true rfl) ?_
  intro p e s m args below meth c Q hQ hfx hP hK hN ls hl
  obtain ⟨hx, hb, hr, hml, hown, hts, hlocks⟩ := hfx
  have hown : s.vm.findClass R_L = some m.cls := hown
  have hl : lv_has ls 3 [(0, .ref q_li), (1, .int a0), (2, .int a1)] := hl
  refine lv_iconst (v := 0) hx hb d_L_sizeBit_0 (by decide) ?_
  subst hF
  exact kr_iret hx hb hr hlocks hQ d_L_sizeBit_1
abbrev rm_L_signBit : Room := { frames := 0, cells := 0, slots := 0, locals := 0 }
set_option maxHeartbeats 4000000 in
set_option maxRecDepth 100000 in
theorem m_L_signBit (l : Launch) (dC : Nat → ClassId) (dI : Nat → Nat → Nat) (q_li : Nat) (a0 : Int32) (u : Int32) (hF : f_L_signBit = u) : Met l y_L_signBit (kws y_L_signBit c_L_signBit 2 (some .int)) rm_L_signBit (kRe (dC, dI) [.ref q_li, .int a0] [] []) (k2_QcV (.int u)) 0 0 (fun _ => False) := by
  unfold f_L_signBit at hF
  refine kR_of (cc := c_L_signBit) (maxL := 2) (ret := (some .int)) (by decide) (Nat.le_of_ble_eq_true rfl) ?_
  intro p e s m args below meth c Q hQ hfx hP hK hN ls hl
  obtain ⟨hx, hb, hr, hml, hown, hts, hlocks⟩ := hfx
  have hown : s.vm.findClass R_L = some m.cls := hown
  have hl : lv_has ls 2 [(0, .ref q_li), (1, .int a0)] := hl
  refine lv_iconst (v := 0) hx hb d_L_signBit_0 (by decide) ?_
  subst hF
  exact kr_iret hx hb hr hlocks hQ d_L_signBit_1
abbrev rm_L_exchange : Room := { frames := 1, cells := 0, slots := 0, locals := 21 }
set_option maxHeartbeats 4000000 in
set_option maxRecDepth 100000 in
theorem m_L_exchange (l : Launch) (dC : Nat → ClassId) (dI : Nat → Nat → Nat) (q_li q_wo : Nat) (k_wo : ClassId) (n_wo : Nat) (lcn : Int32) (lak : Int32) (nxt : Int32) (wor : (Nat → Int32)) (a0 : Int32) (a1 : Int32) (u : Int32 × Int32 × Int32) (hF : f_L_exchange lcn lak nxt wor n_wo = some u) : ∀ sz : Nat, Met l y_L_exchange (kws y_L_exchange c_L_exchange 4 (some .int)) rm_L_exchange (kPre (dC, dI) [.ref q_li, .int a0, .int a1] [(q_li, .inr (3, [.ref q_wo, .int lcn, .int lak, .int nxt])), (q_wo, .inl (k_wo, n_wo, .inl wor))] [(k_wo, .int)] sz) (kPost (dC, dI) (some (.int u.1)) [(q_li, .inr (3, [.ref q_wo, .int lcn, .int u.2.1, .int u.2.2])), (q_wo, .inl (k_wo, n_wo, .inl wor))] (va_A [(q_li, .inr (3, [.ref q_wo, .int lcn, .int lak, .int nxt])), (q_wo, .inl (k_wo, n_wo, .inl wor))] sz)) 0 0 (va_A [(q_li, .inr (3, [.ref q_wo, .int lcn, .int lak, .int nxt])), (q_wo, .inl (k_wo, n_wo, .inl wor))] sz) := by
  unfold f_L_exchange at hF
  refine kU_of (cc := c_L_exchange) (maxL := 4) (ret := (some .int)) (by decide) (Nat.le_of_ble_eq_true rfl) ?_
  intro p e s m args below meth c Q A hQ hfx hK hN hA H locs ls hP hD hS hl
  obtain ⟨hx, hb, hr, hml, hown, hts, hlocks⟩ := hfx
  have hown : s.vm.findClass R_L = some m.cls := hown
  have hl : lv_has ls 4 [(0, .ref q_li), (1, .int a0), (2, .int a1)] := hl
  refine lv_aload_n hx hb d_L_exchange_0 rfl (lv_at hl 0 rfl) ?_
  refine va_get (D := (dC, dI)) (ci := 3) (v := .int nxt) (C := R_L) (T := T_L) (N := 4) hx hb hts ki_L hown hK hP 0 rfl rfl 3 (by decide) (hts _ kw_1_142) (fun _ h9 => h9) rfl d_L_exchange_1 ?_
  refine lv_aload_n hx hb d_L_exchange_4 rfl (lv_at hl 0 rfl) ?_
  refine va_get (D := (dC, dI)) (ci := 3) (v := .int lcn) (C := R_L) (T := T_L) (N := 4) hx hb hts ki_L hown hK hP 0 rfl rfl 1 (by decide) (hts _ kw_1_138) (fun _ h9 => h9) rfl d_L_exchange_5 ?_
  refine lv_icmp_lt (tgt := 18) hx hb d_L_exchange_8 (by decide) (fun c1 => ?_) (fun c1 => ?_)
  · have hF := kc_pos c1 hF
    refine lv_aload_n hx hb d_L_exchange_18 rfl (lv_at hl 0 rfl) ?_
    refine lv_aload_n hx hb d_L_exchange_19 rfl (lv_at hl 0 rfl) ?_
    refine va_get (D := (dC, dI)) (ci := 3) (v := .int nxt) (C := R_L) (T := T_L) (N := 4) hx hb hts ki_L hown hK hP 0 rfl rfl 3 (by decide) (hts _ kw_1_142) (fun _ h9 => h9) rfl d_L_exchange_20 ?_
    obtain ⟨u2, hc, hF⟩ := kc_bnd hF
    refine kr_call (va_runV (As := [.int nxt]) (rest := []) ⟨hx, hb, hml, hown, hts⟩ (m_L_bitOf l dC dI q_li q_wo k_wo n_wo lcn lak nxt wor nxt _ hc) (cwV 1 hts (kgV kw_2_39 kw_2_41 kp_5 kw_1_7 kw_2_42) rfl rfl rfl (by decide +kernel) ⟨Nat.le_of_ble_eq_true rfl, Nat.le_of_ble_eq_true rfl⟩) ⟨kRe_blind, va_recv hK hP (ci := 3) (q0 := 0) rfl rfl, kRe_of (hP.sub [0, 1] rfl) (hK.sub [0] rfl) hN⟩ rfl rfl hl.1 rfl (lv_room (Nat.le_of_ble_eq_true rfl)) d_L_exchange_23 ⟨Nat.le_of_ble_eq_true rfl, Nat.le_of_ble_eq_true rfl⟩) ?_
    refine lv_istore_n (lv' := [(3, .int u2), (0, .ref q_li), (1, .int a0), (2, .int a1)]) hx hb d_L_exchange_26 rfl hl (by decide) rfl (fun ls hl => ?_)
    refine lv_aload_n hx hb d_L_exchange_27 rfl (lv_at hl 1 rfl) ?_
    refine lv_dup hx hb d_L_exchange_28 rfl ?_
    refine va_get (D := (dC, dI)) (ci := 3) (v := .int nxt) (C := R_L) (T := T_L) (N := 4) hx hb hts ki_L hown hK hP 0 rfl rfl 3 (by decide) (hts _ kw_1_142) (fun _ h9 => h9) rfl d_L_exchange_29 ?_
    refine lv_iconst (v := 1) hx hb d_L_exchange_32 (by decide) ?_
    refine lv_iadd hx hb d_L_exchange_33 ?_
    refine va_put (D := (dC, dI)) (ci := 3) (v := .int (nxt + (1 : Int32))) (ty := .int) (C := R_L) (T := T_L) (N := 4) hx hb hts ki_L ty_L tyok_L nmok_L hown hK hP hD hS 0 rfl rfl 3 (by decide) (hts _ kw_1_142) (fun _ h9 => h9) rfl (by decide +kernel) rfl rfl (Nat.le_of_ble_eq_true rfl) d_L_exchange_34 (fun H locs hP hD hS => ?_)
    have hP : va_P (dC, dI) vwCl [(q_li, .inr (3, [.ref q_wo, .int lcn, .int lak, .int (nxt + (1 : Int32))])), (q_wo, .inl (k_wo, n_wo, .inl wor))] H := hP
    have hD : va_D A [(q_li, .inr (3, [.ref q_wo, .int lcn, .int lak, .int (nxt + (1 : Int32))])), (q_wo, .inl (k_wo, n_wo, .inl wor))] := hD
    refine lv_iload_n hx hb d_L_exchange_37 rfl (lv_at hl 0 rfl) ?_
    obtain rfl := Option.some.inj hF
    exact ku_iret hx hb hr hlocks hQ (hP.sub [0, 1] rfl) (hD.sub [0, 1] (by decide) rfl) hS d_L_exchange_38
  have hF := kc_neg c1 hF
  refine lv_aload_n hx hb d_L_exchange_11 rfl (lv_at hl 0 rfl) ?_
  refine lv_iconst (v := 1) hx hb d_L_exchange_12 (by decide) ?_
  refine va_put (D := (dC, dI)) (ci := 3) (v := .int (1 : Int32)) (ty := .boolean) (C := R_L) (T := T_L) (N := 4) hx hb hts ki_L ty_L tyok_L nmok_L hown hK hP hD hS 0 rfl rfl 2 (by decide) (hts _ kw_1_140) (fun _ h9 => h9) rfl (by decide +kernel) rfl rfl (Nat.le_of_ble_eq_true rfl) d_L_exchange_13 (fun H locs hP hD hS => ?_)
  have hP : va_P (dC, dI) vwCl [(q_li, .inr (3, [.ref q_wo, .int lcn, .int (1 : Int32), .int nxt])), (q_wo, .inl (k_wo, n_wo, .inl wor))] H := hP
  have hD : va_D A [(q_li, .inr (3, [.ref q_wo, .int lcn, .int (1 : Int32), .int nxt])), (q_wo, .inl (k_wo, n_wo, .inl wor))] := hD
  refine lv_iconst (v := 0) hx hb d_L_exchange_16 (by decide) ?_
  obtain rfl := Option.some.inj hF
  exact ku_iret hx hb hr hlocks hQ (hP.sub [0, 1] rfl) (hD.sub [0, 1] (by decide) rfl) hS d_L_exchange_17

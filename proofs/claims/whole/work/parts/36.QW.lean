def f_Q_put (w : Int32) (h : Int32) (str : Int32) (sam : (Nat → Int32)) (outs : (Nat → Int64)) (n_sa : Nat) (n_out : Nat) (a1 : Int32) (a2 : Int32) (a3 : Int32) : Option (Int32 × (Nat → Int32) × (Nat → Int64)) :=
  ((f_B_put w h str sam n_sa a1 a2 a3).bind fun u1 => if u1.1 = 0 then if ((0 : Int32) < 0 ∨ n_out ≤ (0 : Int32).toNatClampNeg) then none else some ((0 : Int32), u1.2.2, (vp_updL outs (0 : Int32).toNatClampNeg u1.2.1.toInt64)) else if u1.1 = 1 then some ((1 : Int32), u1.2.2, outs) else if u1.1 = 2 then some ((2 : Int32), u1.2.2, outs) else none)
def f_Q_bit (cnt : Int32) (row : (Nat → Int32)) (outs : (Nat → Int64)) (n_ro : Nat) (n_out : Nat) (a1 : Int32) (a2 : Int32) : Option (Int32 × (Nat → Int64)) :=
  ((f_B_bit cnt row n_ro a1 a2).bind fun u1 => if u1.1 = 0 then if ((0 : Int32) < 0 ∨ n_out ≤ (0 : Int32).toNatClampNeg) then none else some ((0 : Int32), (vp_updL outs (0 : Int32).toNatClampNeg u1.2.toInt64)) else if u1.1 = 1 then some ((1 : Int32), outs) else if u1.1 = 2 then some ((2 : Int32), outs) else none)
def f_Q_length (pt : Int32) (lens : (Nat → Int32)) (outs : (Nat → Int64)) (n_len : Nat) (n_out : Nat) (a1 : Int32) : Option (Int32 × (Nat → Int64)) :=
  ((f_B_length pt lens n_len a1).bind fun u1 => if u1.1 = 0 then if ((0 : Int32) < 0 ∨ n_out ≤ (0 : Int32).toNatClampNeg) then none else some ((0 : Int32), (vp_updL outs (0 : Int32).toNatClampNeg u1.2.toInt64)) else if u1.1 = 1 then some ((1 : Int32), outs) else none)
def f_Q_distortion (pt : Int32) (diss : (Nat → Int64)) (outs : (Nat → Int64)) (n_dis : Nat) (n_out : Nat) (a1 : Int32) : Option (Int32 × (Nat → Int64)) :=
  ((f_B_distortion pt diss n_dis a1).bind fun u1 => if u1.1 = 0 then if ((0 : Int32) < 0 ∨ n_out ≤ (0 : Int32).toNatClampNeg) then none else some ((0 : Int32), (vp_updL outs (0 : Int32).toNatClampNeg u1.2)) else if u1.1 = 1 then some ((1 : Int32), outs) else none)
def f_Q_kind (pt : Int32) (outs : (Nat → Int64)) (n_out : Nat) (a1 : Int32) : Option (Int32 × (Nat → Int64)) :=
  ((f_B_kind pt a1).bind fun u1 => if u1.1 = 0 then if ((0 : Int32) < 0 ∨ n_out ≤ (0 : Int32).toNatClampNeg) then none else some ((0 : Int32), (vp_updL outs (0 : Int32).toNatClampNeg u1.2.toInt64)) else if u1.1 = 1 then some ((1 : Int32), outs) else none)
def f_Q_terminated (pt : Int32) (sty : Int32) (outs : (Nat → Int64)) (n_out : Nat) (a1 : Int32) : Option (Int32 × (Nat → Int64)) :=
  ((f_B_terminated pt sty a1).bind fun u1 => if u1.1 = 0 then (((if u1.2 = 0 then some (0 : Int64) else some (1 : Int64)) : Option (Int64)).bind fun u3 => if ((0 : Int32) < 0 ∨ n_out ≤ (0 : Int32).toNatClampNeg) then none else some ((0 : Int32), (vp_updL outs (0 : Int32).toNatClampNeg u3))) else if u1.1 = 1 then some ((1 : Int32), outs) else none)
def f_Q_feed (lcn : Int32) (wor : (Nat → Int32)) (outs : (Nat → Int64)) (n_wo : Nat) (n_out : Nat) (a1 : Int32) : Option (Int32 × Int32 × (Nat → Int32) × (Nat → Int64)) :=
  ((f_B_feed lcn wor n_wo a1).bind fun u1 => if u1.1 = 0 then if ((0 : Int32) < 0 ∨ n_out ≤ (0 : Int32).toNatClampNeg) then none else some ((0 : Int32), u1.2.2.1, u1.2.2.2, (vp_updL outs (0 : Int32).toNatClampNeg u1.2.1.toInt64)) else if u1.1 = 2 then some ((1 : Int32), u1.2.2.1, u1.2.2.2, outs) else if u1.1 = 3 then some ((2 : Int32), u1.2.2.1, u1.2.2.2, outs) else none)
def f_Q_pass (cnt : Int32) (row : (Nat → Int32)) (lcn : Int32) (wor : (Nat → Int32)) (outs : (Nat → Int64)) (n_ro : Nat) (n_wo : Nat) (n_out : Nat) (a1 : Int32) : Option (Int32 × Int32 × (Nat → Int32) × (Nat → Int64)) :=
  ((f_B_pass cnt row lcn wor n_ro n_wo a1).bind fun u1 => if u1.1 = 0 then if ((0 : Int32) < 0 ∨ n_out ≤ (0 : Int32).toNatClampNeg) then none else some ((0 : Int32), u1.2.2.1, u1.2.2.2, (vp_updL outs (0 : Int32).toNatClampNeg u1.2.1.toInt64)) else if u1.1 = 2 then some ((1 : Int32), u1.2.2.1, u1.2.2.2, outs) else if u1.1 = 3 then some ((2 : Int32), u1.2.2.1, u1.2.2.2, outs) else none)
def f_Q_turn (lcn : Int32) (wor : (Nat → Int32)) (outs : (Nat → Int64)) (n_wo : Nat) (n_out : Nat) (a1 : Int32) : Option (Int32 × (Nat → Int32) × (Nat → Int64)) :=
  ((f_B_turn lcn wor n_wo a1).bind fun u1 => if u1.1 = 0 then if ((0 : Int32) < 0 ∨ n_out ≤ (0 : Int32).toNatClampNeg) then none else some ((0 : Int32), u1.2.2, (vp_updL outs (0 : Int32).toNatClampNeg u1.2.1.toInt64)) else if u1.1 = 1 then some ((1 : Int32), u1.2.2, outs) else none)
def f_Q_decode (w : Int32) (h : Int32) (sty : Int32) (bd : Int32) (str : Int32) (vals : (Nat → Int32)) (lowr : (Nat → Int32)) (lcn : Int32) (lak : Int32) (nxt : Int32) (wor : (Nat → Int32)) (rpls : Int32) (rpl : Int32) (rraw : Int32) (rsgn : (Nat → Int32)) (rsiz : (Nat → Int32)) (rlow : (Nat → Int32)) (outs : (Nat → Int64)) (n_va : Nat) (n_lr : Nat) (n_wo : Nat) (n_rsg : Nat) (n_rsz : Nat) (n_rlo : Nat) (n_out : Nat) (a1 : Int32) (a2 : Int32) : Option (Int32 × (Nat → Int32) × (Nat → Int32) × Int32 × Int32 × Int32 × Int32 × Int32 × (Nat → Int32) × (Nat → Int32) × (Nat → Int32) × (Nat → Int64)) :=
  ((f_B_decode w h sty bd str vals lowr lcn lak nxt wor rpls rpl rraw rsgn rsiz rlow n_va n_lr n_wo n_rsg n_rsz n_rlo a1 a2).bind fun u1 => if u1.1 = 0 then if ((0 : Int32) < 0 ∨ n_out ≤ (0 : Int32).toNatClampNeg) then none else some ((0 : Int32), u1.2.2.1, u1.2.2.2.1, u1.2.2.2.2.1, u1.2.2.2.2.2.1, u1.2.2.2.2.2.2.1, u1.2.2.2.2.2.2.2.1, u1.2.2.2.2.2.2.2.2.1, u1.2.2.2.2.2.2.2.2.2.1, u1.2.2.2.2.2.2.2.2.2.2.1, u1.2.2.2.2.2.2.2.2.2.2.2, (vp_updL outs (0 : Int32).toNatClampNeg u1.2.1.toInt64)) else if u1.1 = 2 then some ((1 : Int32), u1.2.2.1, u1.2.2.2.1, u1.2.2.2.2.1, u1.2.2.2.2.2.1, u1.2.2.2.2.2.2.1, u1.2.2.2.2.2.2.2.1, u1.2.2.2.2.2.2.2.2.1, u1.2.2.2.2.2.2.2.2.2.1, u1.2.2.2.2.2.2.2.2.2.2.1, u1.2.2.2.2.2.2.2.2.2.2.2, outs) else none)
def f_Q_at (w : Int32) (h : Int32) (str : Int32) (vals : (Nat → Int32)) (outs : (Nat → Int64)) (n_va : Nat) (n_out : Nat) (a1 : Int32) (a2 : Int32) : Option (Int32 × (Nat → Int64)) :=
  ((f_B_at w h str vals n_va a1 a2).bind fun u1 => if u1.1 = 0 then if ((0 : Int32) < 0 ∨ n_out ≤ (0 : Int32).toNatClampNeg) then none else some ((0 : Int32), (vp_updL outs (0 : Int32).toNatClampNeg u1.2.toInt64)) else if u1.1 = 1 then some ((1 : Int32), outs) else none)
def f_Q_known (w : Int32) (h : Int32) (str : Int32) (lowr : (Nat → Int32)) (outs : (Nat → Int64)) (n_lr : Nat) (n_out : Nat) (a1 : Int32) (a2 : Int32) : Option (Int32 × (Nat → Int64)) :=
  ((f_B_known w h str lowr n_lr a1 a2).bind fun u1 => if u1.1 = 0 then if ((0 : Int32) < 0 ∨ n_out ≤ (0 : Int32).toNatClampNeg) then none else some ((0 : Int32), (vp_updL outs (0 : Int32).toNatClampNeg u1.2.toInt64)) else if u1.1 = 1 then some ((1 : Int32), outs) else none)
theorem d_Q_put_0 : decode c_Q_put 0 = .ok (.aload 4, 2) := by decide +kernel
theorem d_Q_put_2 : decode c_Q_put 2 = .ok (.iconst 0, 1) := by decide +kernel
theorem d_Q_put_3 : decode c_Q_put 3 = .ok (.aload_n 0, 1) := by decide +kernel
theorem d_Q_put_4 : decode c_Q_put 4 = .ok (.iload_n 1, 1) := by decide +kernel
theorem d_Q_put_5 : decode c_Q_put 5 = .ok (.iload_n 2, 1) := by decide +kernel
theorem d_Q_put_6 : decode c_Q_put 6 = .ok (.iload_n 3, 1) := by decide +kernel
theorem d_Q_put_7 : decode c_Q_put 7 = .ok (.invokevirtual 7, 3) := by decide +kernel
theorem d_Q_put_10 : decode c_Q_put 10 = .ok (.i2l, 1) := by decide +kernel
theorem d_Q_put_11 : decode c_Q_put 11 = .ok (.lastore, 1) := by decide +kernel
theorem d_Q_put_12 : decode c_Q_put 12 = .ok (.goto 11, 3) := by decide +kernel
theorem d_Q_put_15 : decode c_Q_put 15 = .ok (.astore 5, 2) := by decide +kernel
theorem d_Q_put_17 : decode c_Q_put 17 = .ok (.iconst 1, 1) := by decide +kernel
theorem d_Q_put_18 : decode c_Q_put 18 = .ok (.ireturn, 1) := by decide +kernel
theorem d_Q_put_19 : decode c_Q_put 19 = .ok (.astore 5, 2) := by decide +kernel
theorem d_Q_put_21 : decode c_Q_put 21 = .ok (.iconst 2, 1) := by decide +kernel
theorem d_Q_put_22 : decode c_Q_put 22 = .ok (.ireturn, 1) := by decide +kernel
theorem d_Q_put_23 : decode c_Q_put 23 = .ok (.iconst 0, 1) := by decide +kernel
theorem d_Q_put_24 : decode c_Q_put 24 = .ok (.ireturn, 1) := by decide +kernel
theorem d_Q_bit_0 : decode c_Q_bit 0 = .ok (.aload_n 3, 1) := by decide +kernel
theorem d_Q_bit_1 : decode c_Q_bit 1 = .ok (.iconst 0, 1) := by decide +kernel
theorem d_Q_bit_2 : decode c_Q_bit 2 = .ok (.aload_n 0, 1) := by decide +kernel
theorem d_Q_bit_3 : decode c_Q_bit 3 = .ok (.iload_n 1, 1) := by decide +kernel
theorem d_Q_bit_4 : decode c_Q_bit 4 = .ok (.iload_n 2, 1) := by decide +kernel
theorem d_Q_bit_5 : decode c_Q_bit 5 = .ok (.invokevirtual 17, 3) := by decide +kernel
theorem d_Q_bit_8 : decode c_Q_bit 8 = .ok (.i2l, 1) := by decide +kernel
theorem d_Q_bit_9 : decode c_Q_bit 9 = .ok (.lastore, 1) := by decide +kernel
theorem d_Q_bit_10 : decode c_Q_bit 10 = .ok (.goto 11, 3) := by decide +kernel
theorem d_Q_bit_13 : decode c_Q_bit 13 = .ok (.astore 4, 2) := by decide +kernel
theorem d_Q_bit_15 : decode c_Q_bit 15 = .ok (.iconst 1, 1) := by decide +kernel
theorem d_Q_bit_16 : decode c_Q_bit 16 = .ok (.ireturn, 1) := by decide +kernel
theorem d_Q_bit_17 : decode c_Q_bit 17 = .ok (.astore 4, 2) := by decide +kernel
theorem d_Q_bit_19 : decode c_Q_bit 19 = .ok (.iconst 2, 1) := by decide +kernel
theorem d_Q_bit_20 : decode c_Q_bit 20 = .ok (.ireturn, 1) := by decide +kernel
theorem d_Q_bit_21 : decode c_Q_bit 21 = .ok (.iconst 0, 1) := by decide +kernel
theorem d_Q_bit_22 : decode c_Q_bit 22 = .ok (.ireturn, 1) := by decide +kernel
theorem d_Q_length_0 : decode c_Q_length 0 = .ok (.aload_n 2, 1) := by decide +kernel
theorem d_Q_length_1 : decode c_Q_length 1 = .ok (.iconst 0, 1) := by decide +kernel
theorem d_Q_length_2 : decode c_Q_length 2 = .ok (.aload_n 0, 1) := by decide +kernel
theorem d_Q_length_3 : decode c_Q_length 3 = .ok (.iload_n 1, 1) := by decide +kernel
theorem d_Q_length_4 : decode c_Q_length 4 = .ok (.invokevirtual 21, 3) := by decide +kernel
theorem d_Q_length_7 : decode c_Q_length 7 = .ok (.i2l, 1) := by decide +kernel
theorem d_Q_length_8 : decode c_Q_length 8 = .ok (.lastore, 1) := by decide +kernel
theorem d_Q_length_9 : decode c_Q_length 9 = .ok (.goto 6, 3) := by decide +kernel
theorem d_Q_length_12 : decode c_Q_length 12 = .ok (.astore_n 3, 1) := by decide +kernel
theorem d_Q_length_13 : decode c_Q_length 13 = .ok (.iconst 1, 1) := by decide +kernel
theorem d_Q_length_14 : decode c_Q_length 14 = .ok (.ireturn, 1) := by decide +kernel
theorem d_Q_length_15 : decode c_Q_length 15 = .ok (.iconst 0, 1) := by decide +kernel
theorem d_Q_length_16 : decode c_Q_length 16 = .ok (.ireturn, 1) := by decide +kernel
theorem d_Q_distortion_0 : decode c_Q_distortion 0 = .ok (.aload_n 2, 1) := by decide +kernel
theorem d_Q_distortion_1 : decode c_Q_distortion 1 = .ok (.iconst 0, 1) := by decide +kernel
theorem d_Q_distortion_2 : decode c_Q_distortion 2 = .ok (.aload_n 0, 1) := by decide +kernel
theorem d_Q_distortion_3 : decode c_Q_distortion 3 = .ok (.iload_n 1, 1) := by decide +kernel
theorem d_Q_distortion_4 : decode c_Q_distortion 4 = .ok (.invokevirtual 25, 3) := by decide +kernel
theorem d_Q_distortion_7 : decode c_Q_distortion 7 = .ok (.lastore, 1) := by decide +kernel
theorem d_Q_distortion_8 : decode c_Q_distortion 8 = .ok (.goto 6, 3) := by decide +kernel
theorem d_Q_distortion_11 : decode c_Q_distortion 11 = .ok (.astore_n 3, 1) := by decide +kernel
theorem d_Q_distortion_12 : decode c_Q_distortion 12 = .ok (.iconst 1, 1) := by decide +kernel
theorem d_Q_distortion_13 : decode c_Q_distortion 13 = .ok (.ireturn, 1) := by decide +kernel
theorem d_Q_distortion_14 : decode c_Q_distortion 14 = .ok (.iconst 0, 1) := by decide +kernel
theorem d_Q_distortion_15 : decode c_Q_distortion 15 = .ok (.ireturn, 1) := by decide +kernel
theorem d_Q_kind_0 : decode c_Q_kind 0 = .ok (.aload_n 2, 1) := by decide +kernel
theorem d_Q_kind_1 : decode c_Q_kind 1 = .ok (.iconst 0, 1) := by decide +kernel
theorem d_Q_kind_2 : decode c_Q_kind 2 = .ok (.aload_n 0, 1) := by decide +kernel
theorem d_Q_kind_3 : decode c_Q_kind 3 = .ok (.iload_n 1, 1) := by decide +kernel
theorem d_Q_kind_4 : decode c_Q_kind 4 = .ok (.invokevirtual 29, 3) := by decide +kernel
theorem d_Q_kind_7 : decode c_Q_kind 7 = .ok (.i2l, 1) := by decide +kernel
theorem d_Q_kind_8 : decode c_Q_kind 8 = .ok (.lastore, 1) := by decide +kernel
theorem d_Q_kind_9 : decode c_Q_kind 9 = .ok (.goto 6, 3) := by decide +kernel
theorem d_Q_kind_12 : decode c_Q_kind 12 = .ok (.astore_n 3, 1) := by decide +kernel
theorem d_Q_kind_13 : decode c_Q_kind 13 = .ok (.iconst 1, 1) := by decide +kernel
theorem d_Q_kind_14 : decode c_Q_kind 14 = .ok (.ireturn, 1) := by decide +kernel
theorem d_Q_kind_15 : decode c_Q_kind 15 = .ok (.iconst 0, 1) := by decide +kernel
theorem d_Q_kind_16 : decode c_Q_kind 16 = .ok (.ireturn, 1) := by decide +kernel
theorem d_Q_terminated_0 : decode c_Q_terminated 0 = .ok (.aload_n 2, 1) := by decide +kernel
theorem d_Q_terminated_1 : decode c_Q_terminated 1 = .ok (.iconst 0, 1) := by decide +kernel
theorem d_Q_terminated_2 : decode c_Q_terminated 2 = .ok (.aload_n 0, 1) := by decide +kernel
theorem d_Q_terminated_3 : decode c_Q_terminated 3 = .ok (.iload_n 1, 1) := by decide +kernel
theorem d_Q_terminated_4 : decode c_Q_terminated 4 = .ok (.invokevirtual 32, 3) := by decide +kernel
theorem d_Q_terminated_7 : decode c_Q_terminated 7 = .ok (.ifCond .eq 7, 3) := by decide +kernel
theorem d_Q_terminated_10 : decode c_Q_terminated 10 = .ok (.lconst 1, 1) := by decide +kernel
theorem d_Q_terminated_11 : decode c_Q_terminated 11 = .ok (.goto 4, 3) := by decide +kernel
theorem d_Q_terminated_14 : decode c_Q_terminated 14 = .ok (.lconst 0, 1) := by decide +kernel
theorem d_Q_terminated_15 : decode c_Q_terminated 15 = .ok (.lastore, 1) := by decide +kernel
theorem d_Q_terminated_16 : decode c_Q_terminated 16 = .ok (.goto 6, 3) := by decide +kernel
theorem d_Q_terminated_19 : decode c_Q_terminated 19 = .ok (.astore_n 3, 1) := by decide +kernel
theorem d_Q_terminated_20 : decode c_Q_terminated 20 = .ok (.iconst 1, 1) := by decide +kernel
theorem d_Q_terminated_21 : decode c_Q_terminated 21 = .ok (.ireturn, 1) := by decide +kernel
theorem d_Q_terminated_22 : decode c_Q_terminated 22 = .ok (.iconst 0, 1) := by decide +kernel
theorem d_Q_terminated_23 : decode c_Q_terminated 23 = .ok (.ireturn, 1) := by decide +kernel
theorem d_Q_feed_0 : decode c_Q_feed 0 = .ok (.aload_n 2, 1) := by decide +kernel
theorem d_Q_feed_1 : decode c_Q_feed 1 = .ok (.iconst 0, 1) := by decide +kernel
theorem d_Q_feed_2 : decode c_Q_feed 2 = .ok (.aload_n 0, 1) := by decide +kernel
theorem d_Q_feed_3 : decode c_Q_feed 3 = .ok (.iload_n 1, 1) := by decide +kernel
theorem d_Q_feed_4 : decode c_Q_feed 4 = .ok (.invokevirtual 36, 3) := by decide +kernel
theorem d_Q_feed_7 : decode c_Q_feed 7 = .ok (.i2l, 1) := by decide +kernel
theorem d_Q_feed_8 : decode c_Q_feed 8 = .ok (.lastore, 1) := by decide +kernel
theorem d_Q_feed_9 : decode c_Q_feed 9 = .ok (.goto 9, 3) := by decide +kernel
theorem d_Q_feed_12 : decode c_Q_feed 12 = .ok (.astore_n 3, 1) := by decide +kernel
theorem d_Q_feed_13 : decode c_Q_feed 13 = .ok (.iconst 1, 1) := by decide +kernel
theorem d_Q_feed_14 : decode c_Q_feed 14 = .ok (.ireturn, 1) := by decide +kernel
theorem d_Q_feed_15 : decode c_Q_feed 15 = .ok (.astore_n 3, 1) := by decide +kernel
theorem d_Q_feed_16 : decode c_Q_feed 16 = .ok (.iconst 2, 1) := by decide +kernel
theorem d_Q_feed_17 : decode c_Q_feed 17 = .ok (.ireturn, 1) := by decide +kernel
theorem d_Q_feed_18 : decode c_Q_feed 18 = .ok (.iconst 0, 1) := by decide +kernel
theorem d_Q_feed_19 : decode c_Q_feed 19 = .ok (.ireturn, 1) := by decide +kernel
theorem d_Q_pass_0 : decode c_Q_pass 0 = .ok (.aload_n 2, 1) := by decide +kernel
theorem d_Q_pass_1 : decode c_Q_pass 1 = .ok (.iconst 0, 1) := by decide +kernel
theorem d_Q_pass_2 : decode c_Q_pass 2 = .ok (.aload_n 0, 1) := by decide +kernel
theorem d_Q_pass_3 : decode c_Q_pass 3 = .ok (.iload_n 1, 1) := by decide +kernel
theorem d_Q_pass_4 : decode c_Q_pass 4 = .ok (.invokevirtual 41, 3) := by decide +kernel
theorem d_Q_pass_7 : decode c_Q_pass 7 = .ok (.i2l, 1) := by decide +kernel
theorem d_Q_pass_8 : decode c_Q_pass 8 = .ok (.lastore, 1) := by decide +kernel
theorem d_Q_pass_9 : decode c_Q_pass 9 = .ok (.goto 9, 3) := by decide +kernel
theorem d_Q_pass_12 : decode c_Q_pass 12 = .ok (.astore_n 3, 1) := by decide +kernel
theorem d_Q_pass_13 : decode c_Q_pass 13 = .ok (.iconst 1, 1) := by decide +kernel
theorem d_Q_pass_14 : decode c_Q_pass 14 = .ok (.ireturn, 1) := by decide +kernel
theorem d_Q_pass_15 : decode c_Q_pass 15 = .ok (.astore_n 3, 1) := by decide +kernel
theorem d_Q_pass_16 : decode c_Q_pass 16 = .ok (.iconst 2, 1) := by decide +kernel
theorem d_Q_pass_17 : decode c_Q_pass 17 = .ok (.ireturn, 1) := by decide +kernel
theorem d_Q_pass_18 : decode c_Q_pass 18 = .ok (.iconst 0, 1) := by decide +kernel
theorem d_Q_pass_19 : decode c_Q_pass 19 = .ok (.ireturn, 1) := by decide +kernel
theorem d_Q_turn_0 : decode c_Q_turn 0 = .ok (.aload_n 2, 1) := by decide +kernel
theorem d_Q_turn_1 : decode c_Q_turn 1 = .ok (.iconst 0, 1) := by decide +kernel
theorem d_Q_turn_2 : decode c_Q_turn 2 = .ok (.aload_n 0, 1) := by decide +kernel
theorem d_Q_turn_3 : decode c_Q_turn 3 = .ok (.iload_n 1, 1) := by decide +kernel
theorem d_Q_turn_4 : decode c_Q_turn 4 = .ok (.invokevirtual 44, 3) := by decide +kernel
theorem d_Q_turn_7 : decode c_Q_turn 7 = .ok (.i2l, 1) := by decide +kernel
theorem d_Q_turn_8 : decode c_Q_turn 8 = .ok (.lastore, 1) := by decide +kernel
theorem d_Q_turn_9 : decode c_Q_turn 9 = .ok (.goto 6, 3) := by decide +kernel
theorem d_Q_turn_12 : decode c_Q_turn 12 = .ok (.astore_n 3, 1) := by decide +kernel
theorem d_Q_turn_13 : decode c_Q_turn 13 = .ok (.iconst 1, 1) := by decide +kernel
theorem d_Q_turn_14 : decode c_Q_turn 14 = .ok (.ireturn, 1) := by decide +kernel
theorem d_Q_turn_15 : decode c_Q_turn 15 = .ok (.iconst 0, 1) := by decide +kernel
theorem d_Q_turn_16 : decode c_Q_turn 16 = .ok (.ireturn, 1) := by decide +kernel
theorem d_Q_decode_0 : decode c_Q_decode 0 = .ok (.aload_n 3, 1) := by decide +kernel
theorem d_Q_decode_1 : decode c_Q_decode 1 = .ok (.iconst 0, 1) := by decide +kernel
theorem d_Q_decode_2 : decode c_Q_decode 2 = .ok (.aload_n 0, 1) := by decide +kernel
theorem d_Q_decode_3 : decode c_Q_decode 3 = .ok (.iload_n 1, 1) := by decide +kernel
theorem d_Q_decode_4 : decode c_Q_decode 4 = .ok (.iload_n 2, 1) := by decide +kernel
theorem d_Q_decode_5 : decode c_Q_decode 5 = .ok (.invokevirtual 47, 3) := by decide +kernel
theorem d_Q_decode_8 : decode c_Q_decode 8 = .ok (.i2l, 1) := by decide +kernel
theorem d_Q_decode_9 : decode c_Q_decode 9 = .ok (.lastore, 1) := by decide +kernel
theorem d_Q_decode_10 : decode c_Q_decode 10 = .ok (.goto 7, 3) := by decide +kernel
theorem d_Q_decode_13 : decode c_Q_decode 13 = .ok (.astore 4, 2) := by decide +kernel
theorem d_Q_decode_15 : decode c_Q_decode 15 = .ok (.iconst 1, 1) := by decide +kernel
theorem d_Q_decode_16 : decode c_Q_decode 16 = .ok (.ireturn, 1) := by decide +kernel
theorem d_Q_decode_17 : decode c_Q_decode 17 = .ok (.iconst 0, 1) := by decide +kernel
theorem d_Q_decode_18 : decode c_Q_decode 18 = .ok (.ireturn, 1) := by decide +kernel
theorem d_Q_at_0 : decode c_Q_at 0 = .ok (.aload_n 3, 1) := by decide +kernel
theorem d_Q_at_1 : decode c_Q_at 1 = .ok (.iconst 0, 1) := by decide +kernel
theorem d_Q_at_2 : decode c_Q_at 2 = .ok (.aload_n 0, 1) := by decide +kernel
theorem d_Q_at_3 : decode c_Q_at 3 = .ok (.iload_n 1, 1) := by decide +kernel
theorem d_Q_at_4 : decode c_Q_at 4 = .ok (.iload_n 2, 1) := by decide +kernel
theorem d_Q_at_5 : decode c_Q_at 5 = .ok (.invokevirtual 50, 3) := by decide +kernel
theorem d_Q_at_8 : decode c_Q_at 8 = .ok (.i2l, 1) := by decide +kernel
theorem d_Q_at_9 : decode c_Q_at 9 = .ok (.lastore, 1) := by decide +kernel
theorem d_Q_at_10 : decode c_Q_at 10 = .ok (.goto 7, 3) := by decide +kernel
theorem d_Q_at_13 : decode c_Q_at 13 = .ok (.astore 4, 2) := by decide +kernel
theorem d_Q_at_15 : decode c_Q_at 15 = .ok (.iconst 1, 1) := by decide +kernel
theorem d_Q_at_16 : decode c_Q_at 16 = .ok (.ireturn, 1) := by decide +kernel
theorem d_Q_at_17 : decode c_Q_at 17 = .ok (.iconst 0, 1) := by decide +kernel
theorem d_Q_at_18 : decode c_Q_at 18 = .ok (.ireturn, 1) := by decide +kernel
theorem d_Q_known_0 : decode c_Q_known 0 = .ok (.aload_n 3, 1) := by decide +kernel
theorem d_Q_known_1 : decode c_Q_known 1 = .ok (.iconst 0, 1) := by decide +kernel
theorem d_Q_known_2 : decode c_Q_known 2 = .ok (.aload_n 0, 1) := by decide +kernel
theorem d_Q_known_3 : decode c_Q_known 3 = .ok (.iload_n 1, 1) := by decide +kernel
theorem d_Q_known_4 : decode c_Q_known 4 = .ok (.iload_n 2, 1) := by decide +kernel
theorem d_Q_known_5 : decode c_Q_known 5 = .ok (.invokevirtual 53, 3) := by decide +kernel
theorem d_Q_known_8 : decode c_Q_known 8 = .ok (.i2l, 1) := by decide +kernel
theorem d_Q_known_9 : decode c_Q_known 9 = .ok (.lastore, 1) := by decide +kernel
theorem d_Q_known_10 : decode c_Q_known 10 = .ok (.goto 7, 3) := by decide +kernel
theorem d_Q_known_13 : decode c_Q_known 13 = .ok (.astore 4, 2) := by decide +kernel
theorem d_Q_known_15 : decode c_Q_known 15 = .ok (.iconst 1, 1) := by decide +kernel
theorem d_Q_known_16 : decode c_Q_known 16 = .ok (.ireturn, 1) := by decide +kernel
theorem d_Q_known_17 : decode c_Q_known 17 = .ok (.iconst 0, 1) := by decide +kernel
theorem d_Q_known_18 : decode c_Q_known 18 = .ok (.ireturn, 1) := by decide +kernel
abbrev rm_Q_put : Room := { frames := 8, cells := 1, slots := 6, locals := 129 }
set_option maxHeartbeats 4000000 in
set_option maxRecDepth 100000 in
theorem m_Q_put (l : Launch) (dC : Nat → ClassId) (dI : Nat → Nat → Nat) (q_bp q_bk q_len q_dis q_va q_lr q_te q_sa q_twk q_li q_rwk q_out : Nat) (k_sa : ClassId) (n_sa : Nat) (k_out : ClassId) (n_out : Nat) (pt : Int32) (w : Int32) (h : Int32) (sty : Int32) (bd : Int32) (str : Int32) (cel : Int32) (sam : (Nat → Int32)) (outs : (Nat → Int64)) (a1 : Int32) (a2 : Int32) (a3 : Int32) (hfl : l.flags = pinnedFlags ++ [noTraceFlag]) (u : Int32 × (Nat → Int32) × (Nat → Int64)) (hF : f_Q_put w h str sam outs n_sa n_out a1 a2 a3 = some u) : ∀ sz : Nat, Met l y_Q_put (kwsH y_Q_put c_Q_put 6 (some .int) [(0, 12, 15, 13), (0, 12, 19, 15)]) rm_Q_put (wPre (dC, dI) [.ref q_bp, .int a1, .int a2, .int a3, .ref q_out] [(q_bp, .inr (0, [.ref q_bk, .ref q_sa, .ref q_te, .ref q_twk, .ref q_len, .ref q_dis, .int pt, .ref q_li, .ref q_rwk, .ref q_va, .ref q_lr])), (q_bk, .inr (1, [.int w, .int h, .int sty, .int bd, .int str, .int cel])), (q_sa, .inl (k_sa, n_sa, .inl sam)), (q_out, .inl (k_out, n_out, .inr (.inl outs)))] [(k_sa, .int), (k_out, .long)] sz) (kPost (dC, dI) (some (.int u.1)) [(q_bp, .inr (0, [.ref q_bk, .ref q_sa, .ref q_te, .ref q_twk, .ref q_len, .ref q_dis, .int pt, .ref q_li, .ref q_rwk, .ref q_va, .ref q_lr])), (q_bk, .inr (1, [.int w, .int h, .int sty, .int bd, .int str, .int cel])), (q_sa, .inl (k_sa, n_sa, .inl u.2.1)), (q_out, .inl (k_out, n_out, .inr (.inl u.2.2)))] (va_A [(q_bp, .inr (0, [.ref q_bk, .ref q_sa, .ref q_te, .ref q_twk, .ref q_len, .ref q_dis, .int pt, .ref q_li, .ref q_rwk, .ref q_va, .ref q_lr])), (q_bk, .inr (1, [.int w, .int h, .int sty, .int bd, .int str, .int cel])), (q_sa, .inl (k_sa, n_sa, .inl sam)), (q_out, .inl (k_out, n_out, .inr (.inl outs)))] sz)) 1 6 (va_A [(q_bp, .inr (0, [.ref q_bk, .ref q_sa, .ref q_te, .ref q_twk, .ref q_len, .ref q_dis, .int pt, .ref q_li, .ref q_rwk, .ref q_va, .ref q_lr])), (q_bk, .inr (1, [.int w, .int h, .int sty, .int bd, .int str, .int cel])), (q_sa, .inl (k_sa, n_sa, .inl sam)), (q_out, .inl (k_out, n_out, .inr (.inl outs)))] sz) := by
  unfold f_Q_put at hF
  refine wU_of (cc := c_Q_put) (maxL := 6) (ret := (some .int)) (by decide) (Nat.le_of_ble_eq_true rfl) ?_
  intro p e s m args below meth c Q A hQ hfx htab hK hN hXK hWN hA hP hD ls hl
  have hS : va_S A s.heap s.heap [] := va_S.rf
  obtain ⟨ex1, ex2, hsplit, hex1, hex2⟩ := w_tbl2 htab
  obtain ⟨hx, hb, hr, hml, hown, hts, hlocks⟩ := hfx
  have hown : s.vm.findClass R_Q = some m.cls := hown
  have hl : lv_has ls 6 [(0, .ref q_bp), (1, .int a1), (2, .int a2), (3, .int a3), (4, .ref q_out)] := hl
  refine lv_aload hx hb d_Q_put_0 (lv_at hl 4 rfl) ?_
  refine lv_iconst (v := 0) hx hb d_Q_put_2 (by decide) ?_
  refine lv_aload_n hx hb d_Q_put_3 rfl (lv_at hl 0 rfl) ?_
  refine lv_iload_n hx hb d_Q_put_4 rfl (lv_at hl 1 rfl) ?_
  refine lv_iload_n hx hb d_Q_put_5 rfl (lv_at hl 2 rfl) ?_
  refine lv_iload_n hx hb d_Q_put_6 rfl (lv_at hl 3 rfl) ?_
  obtain ⟨u1, hc, hF⟩ := kc_bnd hF
  refine xu_call (tag := u1.1) (wr := [(q_out, .inl (k_out, n_out, .inr (.inl outs)))]) hA (xrunV (As := [.int a1, .int a2, .int a3]) (rest := [.int (0 : Int32), .ref q_out]) ⟨hx, hb, hml, hown, hts⟩ (m_B_put l dC dI q_bp q_bk q_len q_dis q_va q_lr q_te q_sa q_twk q_li q_rwk k_sa n_sa pt w h sty bd str cel sam a1 a2 a3 hfl _ hc s.heap.size) (cwV 3 hts (kgV kw_2_132 kw_2_133 kw_2_134 kw_1_1 kw_2_135) rfl rfl rfl (by decide +kernel) ⟨Nat.le_of_ble_eq_true rfl, Nat.le_of_ble_eq_true rfl⟩) ⟨xPre_blind, va_recv hK hP (ci := 0) (q0 := 0) rfl rfl, xPre_of (hP.sub [0, 1, 2] rfl) (hK.sub [0] rfl) (hD.sub [0, 1, 2] (by decide) rfl) hN hXK⟩ rfl rfl hl.1 rfl (lv_room (Nat.le_of_ble_eq_true rfl)) d_Q_put_7 ⟨Nat.le_of_ble_eq_true rfl, Nat.le_of_ble_eq_true rfl⟩) hP hD hS [0, 1, 2] [3] rfl rfl (by decide) (by decide) (fun htag H locs q ce hP hD hS hce hcv hcl => ?_) (fun htag H locs hP hD hS => ?_)
  · have hP : va_P (dC, dI) vwCl [(q_out, .inl (k_out, n_out, .inr (.inl outs))), (q_bp, .inr (0, [.ref q_bk, .ref q_sa, .ref q_te, .ref q_twk, .ref q_len, .ref q_dis, .int pt, .ref q_li, .ref q_rwk, .ref q_va, .ref q_lr])), (q_bk, .inr (1, [.int w, .int h, .int sty, .int bd, .int str, .int cel])), (q_sa, .inl (k_sa, n_sa, .inl u1.2.2))] H := hP
    have hD : va_D A [(q_out, .inl (k_out, n_out, .inr (.inl outs))), (q_bp, .inr (0, [.ref q_bk, .ref q_sa, .ref q_te, .ref q_twk, .ref q_len, .ref q_dis, .int pt, .ref q_li, .ref q_rwk, .ref q_va, .ref q_lr])), (q_bk, .inr (1, [.int w, .int h, .int sty, .int bd, .int str, .int cel])), (q_sa, .inl (k_sa, n_sa, .inl u1.2.2))] := hD
    have hF := kc_neg htag hF
    by_cases ht1 : u1.1 = 1
    · have hF := kc_pos ht1 hF
      rw [ht1] at hcl
      refine wcatch1 (E := xE 1) hown ex1 [ex2] hsplit hex1 (by decide) (by decide) (hts _ kw_2_130) (va_Nw.use rfl (xn_1 hXK.2.2)) hce hcv hcl ?_
      refine W.widen (k := 1) (n := 6) (Nat.le_refl _) (Nat.le_refl _) ?_
      refine lv_astore (lv' := [(5, .ref q), (0, .ref q_bp), (1, .int a1), (2, .int a2), (3, .int a3), (4, .ref q_out)]) hx hb d_Q_put_15 hl (by decide) rfl (fun ls hl => ?_)
      refine lv_iconst (v := 1) hx hb d_Q_put_17 (by decide) ?_
      obtain rfl := Option.some.inj hF
      exact ww_iret hx hb hr hlocks hQ (Nat.le_of_ble_eq_true rfl) (Nat.le_of_ble_eq_true rfl) (hP.sub [1, 2, 3, 0] rfl) (hD.sub [1, 2, 3, 0] (by decide) rfl) hS d_Q_put_18
    have hF := kc_neg ht1 hF
    by_cases ht2 : u1.1 = 2
    · have hF := kc_pos ht2 hF
      rw [ht2] at hcl
      refine wcatch2 (E := xE 2) hown ex1 ex2 [] hsplit hex1 hex2 (by decide) (by decide) (by decide) (hts _ kw_2_130) hWN.1 (hts _ kw_2_131) (va_Nw.use rfl (xn_2 hXK.2.2)) hce hcv hcl ?_
      refine W.widen (k := 1) (n := 6) (Nat.le_refl _) (Nat.le_refl _) ?_
      refine lv_astore (lv' := [(5, .ref q), (0, .ref q_bp), (1, .int a1), (2, .int a2), (3, .int a3), (4, .ref q_out)]) hx hb d_Q_put_19 hl (by decide) rfl (fun ls hl => ?_)
      refine lv_iconst (v := 2) hx hb d_Q_put_21 (by decide) ?_
      obtain rfl := Option.some.inj hF
      exact ww_iret hx hb hr hlocks hQ (Nat.le_of_ble_eq_true rfl) (Nat.le_of_ble_eq_true rfl) (hP.sub [1, 2, 3, 0] rfl) (hD.sub [1, 2, 3, 0] (by decide) rfl) hS d_Q_put_22
    have hF := kc_neg ht2 hF
    cases hF
  have hF := kc_pos htag hF
  refine W.widen (k := 1) (n := 6) (Nat.le_refl _) (Nat.le_refl _) ?_
  have hP : va_P (dC, dI) vwCl [(q_out, .inl (k_out, n_out, .inr (.inl outs))), (q_bp, .inr (0, [.ref q_bk, .ref q_sa, .ref q_te, .ref q_twk, .ref q_len, .ref q_dis, .int pt, .ref q_li, .ref q_rwk, .ref q_va, .ref q_lr])), (q_bk, .inr (1, [.int w, .int h, .int sty, .int bd, .int str, .int cel])), (q_sa, .inl (k_sa, n_sa, .inl u1.2.2))] H := hP
  have hD : va_D A [(q_out, .inl (k_out, n_out, .inr (.inl outs))), (q_bp, .inr (0, [.ref q_bk, .ref q_sa, .ref q_te, .ref q_twk, .ref q_len, .ref q_dis, .int pt, .ref q_li, .ref q_rwk, .ref q_va, .ref q_lr])), (q_bk, .inr (1, [.int w, .int h, .int sty, .int bd, .int str, .int cel])), (q_sa, .inl (k_sa, n_sa, .inl u1.2.2))] := hD
  refine lv_i2l (v := u1.2.1.toInt64) hx hb d_Q_put_10 rfl ?_
  obtain ⟨h2, hF⟩ := kc_no hF
  refine va_last hx hb hK hP hD hS 0 1 rfl rfl h2 d_Q_put_11 (fun H locs hP hD hS => ?_)
  have hP : va_P (dC, dI) vwCl [(q_out, .inl (k_out, n_out, .inr (.inl (vp_updL outs (0 : Int32).toNatClampNeg u1.2.1.toInt64)))), (q_bp, .inr (0, [.ref q_bk, .ref q_sa, .ref q_te, .ref q_twk, .ref q_len, .ref q_dis, .int pt, .ref q_li, .ref q_rwk, .ref q_va, .ref q_lr])), (q_bk, .inr (1, [.int w, .int h, .int sty, .int bd, .int str, .int cel])), (q_sa, .inl (k_sa, n_sa, .inl u1.2.2))] H := hP
  have hD : va_D A [(q_out, .inl (k_out, n_out, .inr (.inl (vp_updL outs (0 : Int32).toNatClampNeg u1.2.1.toInt64)))), (q_bp, .inr (0, [.ref q_bk, .ref q_sa, .ref q_te, .ref q_twk, .ref q_len, .ref q_dis, .int pt, .ref q_li, .ref q_rwk, .ref q_va, .ref q_lr])), (q_bk, .inr (1, [.int w, .int h, .int sty, .int bd, .int str, .int cel])), (q_sa, .inl (k_sa, n_sa, .inl u1.2.2))] := hD
  refine lv_goto (tgt := 23) hx hb d_Q_put_12 (by decide) ?_
  refine lv_iconst (v := 0) hx hb d_Q_put_23 (by decide) ?_
  obtain rfl := Option.some.inj hF
  exact ww_iret hx hb hr hlocks hQ (Nat.le_of_ble_eq_true rfl) (Nat.le_of_ble_eq_true rfl) (hP.sub [1, 2, 3, 0] rfl) (hD.sub [1, 2, 3, 0] (by decide) rfl) hS d_Q_put_24
abbrev rm_Q_bit : Room := { frames := 7, cells := 1, slots := 6, locals := 104 }
set_option maxHeartbeats 4000000 in
set_option maxRecDepth 100000 in
theorem m_Q_bit (l : Launch) (dC : Nat → ClassId) (dI : Nat → Nat → Nat) (q_bp q_bk q_len q_dis q_va q_lr q_te q_sa q_ro q_twk q_li q_rwk q_out : Nat) (k_ro : ClassId) (n_ro : Nat) (k_out : ClassId) (n_out : Nat) (pt : Int32) (cnt : Int32) (pn : Int32) (row : (Nat → Int32)) (outs : (Nat → Int64)) (a1 : Int32) (a2 : Int32) (hfl : l.flags = pinnedFlags ++ [noTraceFlag]) (u : Int32 × (Nat → Int64)) (hF : f_Q_bit cnt row outs n_ro n_out a1 a2 = some u) : ∀ sz : Nat, Met l y_Q_bit (kwsH y_Q_bit c_Q_bit 5 (some .int) [(0, 10, 13, 13), (0, 10, 17, 15)]) rm_Q_bit (wPre (dC, dI) [.ref q_bp, .int a1, .int a2, .ref q_out] [(q_bp, .inr (0, [.ref q_bk, .ref q_sa, .ref q_te, .ref q_twk, .ref q_len, .ref q_dis, .int pt, .ref q_li, .ref q_rwk, .ref q_va, .ref q_lr])), (q_te, .inr (2, [.ref q_sa, .ref q_ro, .int cnt, .int pn])), (q_ro, .inl (k_ro, n_ro, .inl row)), (q_out, .inl (k_out, n_out, .inr (.inl outs)))] [(k_ro, .int), (k_out, .long)] sz) (kPost (dC, dI) (some (.int u.1)) [(q_bp, .inr (0, [.ref q_bk, .ref q_sa, .ref q_te, .ref q_twk, .ref q_len, .ref q_dis, .int pt, .ref q_li, .ref q_rwk, .ref q_va, .ref q_lr])), (q_te, .inr (2, [.ref q_sa, .ref q_ro, .int cnt, .int pn])), (q_ro, .inl (k_ro, n_ro, .inl row)), (q_out, .inl (k_out, n_out, .inr (.inl u.2)))] (va_A [(q_bp, .inr (0, [.ref q_bk, .ref q_sa, .ref q_te, .ref q_twk, .ref q_len, .ref q_dis, .int pt, .ref q_li, .ref q_rwk, .ref q_va, .ref q_lr])), (q_te, .inr (2, [.ref q_sa, .ref q_ro, .int cnt, .int pn])), (q_ro, .inl (k_ro, n_ro, .inl row)), (q_out, .inl (k_out, n_out, .inr (.inl outs)))] sz)) 1 6 (va_A [(q_bp, .inr (0, [.ref q_bk, .ref q_sa, .ref q_te, .ref q_twk, .ref q_len, .ref q_dis, .int pt, .ref q_li, .ref q_rwk, .ref q_va, .ref q_lr])), (q_te, .inr (2, [.ref q_sa, .ref q_ro, .int cnt, .int pn])), (q_ro, .inl (k_ro, n_ro, .inl row)), (q_out, .inl (k_out, n_out, .inr (.inl outs)))] sz) := by
  unfold f_Q_bit at hF
  refine wU_of (cc := c_Q_bit) (maxL := 5) (ret := (some .int)) (by decide) (Nat.le_of_ble_eq_true rfl) ?_
  intro p e s m args below meth c Q A hQ hfx htab hK hN hXK hWN hA hP hD ls hl
  have hS : va_S A s.heap s.heap [] := va_S.rf
  obtain ⟨ex1, ex2, hsplit, hex1, hex2⟩ := w_tbl2 htab
  obtain ⟨hx, hb, hr, hml, hown, hts, hlocks⟩ := hfx
  have hown : s.vm.findClass R_Q = some m.cls := hown
  have hl : lv_has ls 5 [(0, .ref q_bp), (1, .int a1), (2, .int a2), (3, .ref q_out)] := hl
  refine lv_aload_n hx hb d_Q_bit_0 rfl (lv_at hl 3 rfl) ?_
  refine lv_iconst (v := 0) hx hb d_Q_bit_1 (by decide) ?_
  refine lv_aload_n hx hb d_Q_bit_2 rfl (lv_at hl 0 rfl) ?_
  refine lv_iload_n hx hb d_Q_bit_3 rfl (lv_at hl 1 rfl) ?_
  refine lv_iload_n hx hb d_Q_bit_4 rfl (lv_at hl 2 rfl) ?_
  obtain ⟨u1, hc, hF⟩ := kc_bnd hF
  refine xu_call (tag := u1.1) (wr := [(q_out, .inl (k_out, n_out, .inr (.inl outs)))]) hA (xrunV (As := [.int a1, .int a2]) (rest := [.int (0 : Int32), .ref q_out]) ⟨hx, hb, hml, hown, hts⟩ (m_B_bit l dC dI q_bp q_bk q_len q_dis q_va q_lr q_te q_sa q_ro q_twk q_li q_rwk k_ro n_ro pt cnt pn row a1 a2 hfl _ hc s.heap.size) (cwV 2 hts (kgV kw_2_231 kw_2_232 kw_2_233 kw_1_1 kw_2_234) rfl rfl rfl (by decide +kernel) ⟨Nat.le_of_ble_eq_true rfl, Nat.le_of_ble_eq_true rfl⟩) ⟨xPre_blind, va_recv hK hP (ci := 0) (q0 := 0) rfl rfl, xPre_of (hP.sub [0, 1, 2] rfl) (hK.sub [0] rfl) (hD.sub [0, 1, 2] (by decide) rfl) hN hXK⟩ rfl rfl hl.1 rfl (lv_room (Nat.le_of_ble_eq_true rfl)) d_Q_bit_5 ⟨Nat.le_of_ble_eq_true rfl, Nat.le_of_ble_eq_true rfl⟩) hP hD hS [0, 1, 2] [3] rfl rfl (by decide) (by decide) (fun htag H locs q ce hP hD hS hce hcv hcl => ?_) (fun htag H locs hP hD hS => ?_)
  · have hP : va_P (dC, dI) vwCl [(q_out, .inl (k_out, n_out, .inr (.inl outs))), (q_bp, .inr (0, [.ref q_bk, .ref q_sa, .ref q_te, .ref q_twk, .ref q_len, .ref q_dis, .int pt, .ref q_li, .ref q_rwk, .ref q_va, .ref q_lr])), (q_te, .inr (2, [.ref q_sa, .ref q_ro, .int cnt, .int pn])), (q_ro, .inl (k_ro, n_ro, .inl row))] H := hP
    have hD : va_D A [(q_out, .inl (k_out, n_out, .inr (.inl outs))), (q_bp, .inr (0, [.ref q_bk, .ref q_sa, .ref q_te, .ref q_twk, .ref q_len, .ref q_dis, .int pt, .ref q_li, .ref q_rwk, .ref q_va, .ref q_lr])), (q_te, .inr (2, [.ref q_sa, .ref q_ro, .int cnt, .int pn])), (q_ro, .inl (k_ro, n_ro, .inl row))] := hD
    have hF := kc_neg htag hF
    by_cases ht1 : u1.1 = 1
    · have hF := kc_pos ht1 hF
      rw [ht1] at hcl
      refine wcatch1 (E := xE 1) hown ex1 [ex2] hsplit hex1 (by decide) (by decide) (hts _ kw_2_130) (va_Nw.use rfl (xn_1 hXK.2.2)) hce hcv hcl ?_
      refine W.widen (k := 1) (n := 6) (Nat.le_refl _) (Nat.le_refl _) ?_
      refine lv_astore (lv' := [(4, .ref q), (0, .ref q_bp), (1, .int a1), (2, .int a2), (3, .ref q_out)]) hx hb d_Q_bit_13 hl (by decide) rfl (fun ls hl => ?_)
      refine lv_iconst (v := 1) hx hb d_Q_bit_15 (by decide) ?_
      obtain rfl := Option.some.inj hF
      exact ww_iret hx hb hr hlocks hQ (Nat.le_of_ble_eq_true rfl) (Nat.le_of_ble_eq_true rfl) (hP.sub [1, 2, 3, 0] rfl) (hD.sub [1, 2, 3, 0] (by decide) rfl) hS d_Q_bit_16
    have hF := kc_neg ht1 hF
    by_cases ht2 : u1.1 = 2
    · have hF := kc_pos ht2 hF
      rw [ht2] at hcl
      refine wcatch2 (E := xE 2) hown ex1 ex2 [] hsplit hex1 hex2 (by decide) (by decide) (by decide) (hts _ kw_2_130) hWN.1 (hts _ kw_2_131) (va_Nw.use rfl (xn_2 hXK.2.2)) hce hcv hcl ?_
      refine W.widen (k := 1) (n := 6) (Nat.le_refl _) (Nat.le_refl _) ?_
      refine lv_astore (lv' := [(4, .ref q), (0, .ref q_bp), (1, .int a1), (2, .int a2), (3, .ref q_out)]) hx hb d_Q_bit_17 hl (by decide) rfl (fun ls hl => ?_)
      refine lv_iconst (v := 2) hx hb d_Q_bit_19 (by decide) ?_
      obtain rfl := Option.some.inj hF
      exact ww_iret hx hb hr hlocks hQ (Nat.le_of_ble_eq_true rfl) (Nat.le_of_ble_eq_true rfl) (hP.sub [1, 2, 3, 0] rfl) (hD.sub [1, 2, 3, 0] (by decide) rfl) hS d_Q_bit_20
    have hF := kc_neg ht2 hF
    cases hF
  have hF := kc_pos htag hF
  refine W.widen (k := 1) (n := 6) (Nat.le_refl _) (Nat.le_refl _) ?_
  have hP : va_P (dC, dI) vwCl [(q_out, .inl (k_out, n_out, .inr (.inl outs))), (q_bp, .inr (0, [.ref q_bk, .ref q_sa, .ref q_te, .ref q_twk, .ref q_len, .ref q_dis, .int pt, .ref q_li, .ref q_rwk, .ref q_va, .ref q_lr])), (q_te, .inr (2, [.ref q_sa, .ref q_ro, .int cnt, .int pn])), (q_ro, .inl (k_ro, n_ro, .inl row))] H := hP
  have hD : va_D A [(q_out, .inl (k_out, n_out, .inr (.inl outs))), (q_bp, .inr (0, [.ref q_bk, .ref q_sa, .ref q_te, .ref q_twk, .ref q_len, .ref q_dis, .int pt, .ref q_li, .ref q_rwk, .ref q_va, .ref q_lr])), (q_te, .inr (2, [.ref q_sa, .ref q_ro, .int cnt, .int pn])), (q_ro, .inl (k_ro, n_ro, .inl row))] := hD
  refine lv_i2l (v := u1.2.toInt64) hx hb d_Q_bit_8 rfl ?_
  obtain ⟨h2, hF⟩ := kc_no hF
  refine va_last hx hb hK hP hD hS 0 1 rfl rfl h2 d_Q_bit_9 (fun H locs hP hD hS => ?_)
  have hP : va_P (dC, dI) vwCl [(q_out, .inl (k_out, n_out, .inr (.inl (vp_updL outs (0 : Int32).toNatClampNeg u1.2.toInt64)))), (q_bp, .inr (0, [.ref q_bk, .ref q_sa, .ref q_te, .ref q_twk, .ref q_len, .ref q_dis, .int pt, .ref q_li, .ref q_rwk, .ref q_va, .ref q_lr])), (q_te, .inr (2, [.ref q_sa, .ref q_ro, .int cnt, .int pn])), (q_ro, .inl (k_ro, n_ro, .inl row))] H := hP
  have hD : va_D A [(q_out, .inl (k_out, n_out, .inr (.inl (vp_updL outs (0 : Int32).toNatClampNeg u1.2.toInt64)))), (q_bp, .inr (0, [.ref q_bk, .ref q_sa, .ref q_te, .ref q_twk, .ref q_len, .ref q_dis, .int pt, .ref q_li, .ref q_rwk, .ref q_va, .ref q_lr])), (q_te, .inr (2, [.ref q_sa, .ref q_ro, .int cnt, .int pn])), (q_ro, .inl (k_ro, n_ro, .inl row))] := hD
  refine lv_goto (tgt := 21) hx hb d_Q_bit_10 (by decide) ?_
  refine lv_iconst (v := 0) hx hb d_Q_bit_21 (by decide) ?_
  obtain rfl := Option.some.inj hF
  exact ww_iret hx hb hr hlocks hQ (Nat.le_of_ble_eq_true rfl) (Nat.le_of_ble_eq_true rfl) (hP.sub [1, 2, 3, 0] rfl) (hD.sub [1, 2, 3, 0] (by decide) rfl) hS d_Q_bit_22
abbrev rm_Q_length : Room := { frames := 8, cells := 1, slots := 6, locals := 124 }
set_option maxHeartbeats 4000000 in
set_option maxRecDepth 100000 in
theorem m_Q_length (l : Launch) (dC : Nat → ClassId) (dI : Nat → Nat → Nat) (q_bp q_bk q_len q_dis q_va q_lr q_te q_sa q_twk q_li q_rwk q_out : Nat) (k_len : ClassId) (n_len : Nat) (k_out : ClassId) (n_out : Nat) (pt : Int32) (lens : (Nat → Int32)) (outs : (Nat → Int64)) (a1 : Int32) (hfl : l.flags = pinnedFlags ++ [noTraceFlag]) (u : Int32 × (Nat → Int64)) (hF : f_Q_length pt lens outs n_len n_out a1 = some u) : ∀ sz : Nat, Met l y_Q_length (kwsH y_Q_length c_Q_length 4 (some .int) [(0, 9, 12, 13)]) rm_Q_length (wPre (dC, dI) [.ref q_bp, .int a1, .ref q_out] [(q_bp, .inr (0, [.ref q_bk, .ref q_sa, .ref q_te, .ref q_twk, .ref q_len, .ref q_dis, .int pt, .ref q_li, .ref q_rwk, .ref q_va, .ref q_lr])), (q_len, .inl (k_len, n_len, .inl lens)), (q_out, .inl (k_out, n_out, .inr (.inl outs)))] [(k_len, .int), (k_out, .long)] sz) (kPost (dC, dI) (some (.int u.1)) [(q_bp, .inr (0, [.ref q_bk, .ref q_sa, .ref q_te, .ref q_twk, .ref q_len, .ref q_dis, .int pt, .ref q_li, .ref q_rwk, .ref q_va, .ref q_lr])), (q_len, .inl (k_len, n_len, .inl lens)), (q_out, .inl (k_out, n_out, .inr (.inl u.2)))] (va_A [(q_bp, .inr (0, [.ref q_bk, .ref q_sa, .ref q_te, .ref q_twk, .ref q_len, .ref q_dis, .int pt, .ref q_li, .ref q_rwk, .ref q_va, .ref q_lr])), (q_len, .inl (k_len, n_len, .inl lens)), (q_out, .inl (k_out, n_out, .inr (.inl outs)))] sz)) 1 6 (va_A [(q_bp, .inr (0, [.ref q_bk, .ref q_sa, .ref q_te, .ref q_twk, .ref q_len, .ref q_dis, .int pt, .ref q_li, .ref q_rwk, .ref q_va, .ref q_lr])), (q_len, .inl (k_len, n_len, .inl lens)), (q_out, .inl (k_out, n_out, .inr (.inl outs)))] sz) := by
  unfold f_Q_length at hF
  refine wU_of (cc := c_Q_length) (maxL := 4) (ret := (some .int)) (by decide) (Nat.le_of_ble_eq_true rfl) ?_
  intro p e s m args below meth c Q A hQ hfx htab hK hN hXK hWN hA hP hD ls hl
  have hS : va_S A s.heap s.heap [] := va_S.rf
  obtain ⟨ex1, hsplit, hex1⟩ := w_tbl1 htab
  obtain ⟨hx, hb, hr, hml, hown, hts, hlocks⟩ := hfx
  have hown : s.vm.findClass R_Q = some m.cls := hown
  have hl : lv_has ls 4 [(0, .ref q_bp), (1, .int a1), (2, .ref q_out)] := hl
  refine lv_aload_n hx hb d_Q_length_0 rfl (lv_at hl 2 rfl) ?_
  refine lv_iconst (v := 0) hx hb d_Q_length_1 (by decide) ?_
  refine lv_aload_n hx hb d_Q_length_2 rfl (lv_at hl 0 rfl) ?_
  refine lv_iload_n hx hb d_Q_length_3 rfl (lv_at hl 1 rfl) ?_
  obtain ⟨u1, hc, hF⟩ := kc_bnd hF
  refine xu_call (tag := u1.1) (wr := [(q_out, .inl (k_out, n_out, .inr (.inl outs)))]) hA (xrunV (As := [.int a1]) (rest := [.int (0 : Int32), .ref q_out]) ⟨hx, hb, hml, hown, hts⟩ (m_B_length l dC dI q_bp q_bk q_len q_dis q_va q_lr q_te q_sa q_twk q_li q_rwk k_len n_len pt lens a1 hfl _ hc s.heap.size) (cwV 1 hts (kgV kw_3_12 kw_3_13 kw_3_14 kw_1_1 kw_3_15) rfl rfl rfl (by decide +kernel) ⟨Nat.le_of_ble_eq_true rfl, Nat.le_of_ble_eq_true rfl⟩) ⟨xPre_blind, va_recv hK hP (ci := 0) (q0 := 0) rfl rfl, xPre_of (hP.sub [0, 1] rfl) (hK.sub [0] rfl) (hD.sub [0, 1] (by decide) rfl) hN hXK⟩ rfl rfl hl.1 rfl (lv_room (Nat.le_of_ble_eq_true rfl)) d_Q_length_4 ⟨Nat.le_of_ble_eq_true rfl, Nat.le_of_ble_eq_true rfl⟩) hP hD hS [0, 1] [2] rfl rfl (by decide) (by decide) (fun htag H locs q ce hP hD hS hce hcv hcl => ?_) (fun htag H locs hP hD hS => ?_)
  · have hP : va_P (dC, dI) vwCl [(q_out, .inl (k_out, n_out, .inr (.inl outs))), (q_bp, .inr (0, [.ref q_bk, .ref q_sa, .ref q_te, .ref q_twk, .ref q_len, .ref q_dis, .int pt, .ref q_li, .ref q_rwk, .ref q_va, .ref q_lr])), (q_len, .inl (k_len, n_len, .inl lens))] H := hP
    have hD : va_D A [(q_out, .inl (k_out, n_out, .inr (.inl outs))), (q_bp, .inr (0, [.ref q_bk, .ref q_sa, .ref q_te, .ref q_twk, .ref q_len, .ref q_dis, .int pt, .ref q_li, .ref q_rwk, .ref q_va, .ref q_lr])), (q_len, .inl (k_len, n_len, .inl lens))] := hD
    have hF := kc_neg htag hF
    by_cases ht1 : u1.1 = 1
    · have hF := kc_pos ht1 hF
      rw [ht1] at hcl
      refine wcatch1 (E := xE 1) hown ex1 [] hsplit hex1 (by decide) (by decide) (hts _ kw_2_130) (va_Nw.use rfl (xn_1 hXK.2.2)) hce hcv hcl ?_
      refine W.widen (k := 1) (n := 6) (Nat.le_refl _) (Nat.le_refl _) ?_
      refine lv_astore_n (lv' := [(3, .ref q), (0, .ref q_bp), (1, .int a1), (2, .ref q_out)]) hx hb d_Q_length_12 rfl hl (by decide) rfl (fun ls hl => ?_)
      refine lv_iconst (v := 1) hx hb d_Q_length_13 (by decide) ?_
      obtain rfl := Option.some.inj hF
      exact ww_iret hx hb hr hlocks hQ (Nat.le_of_ble_eq_true rfl) (Nat.le_of_ble_eq_true rfl) (hP.sub [1, 2, 0] rfl) (hD.sub [1, 2, 0] (by decide) rfl) hS d_Q_length_14
    have hF := kc_neg ht1 hF
    cases hF
  have hF := kc_pos htag hF
  refine W.widen (k := 1) (n := 6) (Nat.le_refl _) (Nat.le_refl _) ?_
  have hP : va_P (dC, dI) vwCl [(q_out, .inl (k_out, n_out, .inr (.inl outs))), (q_bp, .inr (0, [.ref q_bk, .ref q_sa, .ref q_te, .ref q_twk, .ref q_len, .ref q_dis, .int pt, .ref q_li, .ref q_rwk, .ref q_va, .ref q_lr])), (q_len, .inl (k_len, n_len, .inl lens))] H := hP
  have hD : va_D A [(q_out, .inl (k_out, n_out, .inr (.inl outs))), (q_bp, .inr (0, [.ref q_bk, .ref q_sa, .ref q_te, .ref q_twk, .ref q_len, .ref q_dis, .int pt, .ref q_li, .ref q_rwk, .ref q_va, .ref q_lr])), (q_len, .inl (k_len, n_len, .inl lens))] := hD
  refine lv_i2l (v := u1.2.toInt64) hx hb d_Q_length_7 rfl ?_
  obtain ⟨h2, hF⟩ := kc_no hF
  refine va_last hx hb hK hP hD hS 0 1 rfl rfl h2 d_Q_length_8 (fun H locs hP hD hS => ?_)
  have hP : va_P (dC, dI) vwCl [(q_out, .inl (k_out, n_out, .inr (.inl (vp_updL outs (0 : Int32).toNatClampNeg u1.2.toInt64)))), (q_bp, .inr (0, [.ref q_bk, .ref q_sa, .ref q_te, .ref q_twk, .ref q_len, .ref q_dis, .int pt, .ref q_li, .ref q_rwk, .ref q_va, .ref q_lr])), (q_len, .inl (k_len, n_len, .inl lens))] H := hP
  have hD : va_D A [(q_out, .inl (k_out, n_out, .inr (.inl (vp_updL outs (0 : Int32).toNatClampNeg u1.2.toInt64)))), (q_bp, .inr (0, [.ref q_bk, .ref q_sa, .ref q_te, .ref q_twk, .ref q_len, .ref q_dis, .int pt, .ref q_li, .ref q_rwk, .ref q_va, .ref q_lr])), (q_len, .inl (k_len, n_len, .inl lens))] := hD
  refine lv_goto (tgt := 15) hx hb d_Q_length_9 (by decide) ?_
  refine lv_iconst (v := 0) hx hb d_Q_length_15 (by decide) ?_
  obtain rfl := Option.some.inj hF
  exact ww_iret hx hb hr hlocks hQ (Nat.le_of_ble_eq_true rfl) (Nat.le_of_ble_eq_true rfl) (hP.sub [1, 2, 0] rfl) (hD.sub [1, 2, 0] (by decide) rfl) hS d_Q_length_16
abbrev rm_Q_distortion : Room := { frames := 8, cells := 1, slots := 6, locals := 124 }
set_option maxHeartbeats 4000000 in
set_option maxRecDepth 100000 in
theorem m_Q_distortion (l : Launch) (dC : Nat → ClassId) (dI : Nat → Nat → Nat) (q_bp q_bk q_len q_dis q_va q_lr q_te q_sa q_twk q_li q_rwk q_out : Nat) (k_dis : ClassId) (n_dis : Nat) (k_out : ClassId) (n_out : Nat) (pt : Int32) (diss : (Nat → Int64)) (outs : (Nat → Int64)) (a1 : Int32) (hfl : l.flags = pinnedFlags ++ [noTraceFlag]) (u : Int32 × (Nat → Int64)) (hF : f_Q_distortion pt diss outs n_dis n_out a1 = some u) : ∀ sz : Nat, Met l y_Q_distortion (kwsH y_Q_distortion c_Q_distortion 4 (some .int) [(0, 8, 11, 13)]) rm_Q_distortion (wPre (dC, dI) [.ref q_bp, .int a1, .ref q_out] [(q_bp, .inr (0, [.ref q_bk, .ref q_sa, .ref q_te, .ref q_twk, .ref q_len, .ref q_dis, .int pt, .ref q_li, .ref q_rwk, .ref q_va, .ref q_lr])), (q_dis, .inl (k_dis, n_dis, .inr (.inl diss))), (q_out, .inl (k_out, n_out, .inr (.inl outs)))] [(k_dis, .long), (k_out, .long)] sz) (kPost (dC, dI) (some (.int u.1)) [(q_bp, .inr (0, [.ref q_bk, .ref q_sa, .ref q_te, .ref q_twk, .ref q_len, .ref q_dis, .int pt, .ref q_li, .ref q_rwk, .ref q_va, .ref q_lr])), (q_dis, .inl (k_dis, n_dis, .inr (.inl diss))), (q_out, .inl (k_out, n_out, .inr (.inl u.2)))] (va_A [(q_bp, .inr (0, [.ref q_bk, .ref q_sa, .ref q_te, .ref q_twk, .ref q_len, .ref q_dis, .int pt, .ref q_li, .ref q_rwk, .ref q_va, .ref q_lr])), (q_dis, .inl (k_dis, n_dis, .inr (.inl diss))), (q_out, .inl (k_out, n_out, .inr (.inl outs)))] sz)) 1 6 (va_A [(q_bp, .inr (0, [.ref q_bk, .ref q_sa, .ref q_te, .ref q_twk, .ref q_len, .ref q_dis, .int pt, .ref q_li, .ref q_rwk, .ref q_va, .ref q_lr])), (q_dis, .inl (k_dis, n_dis, .inr (.inl diss))), (q_out, .inl (k_out, n_out, .inr (.inl outs)))] sz) := by
  unfold f_Q_distortion at hF
  refine wU_of (cc := c_Q_distortion) (maxL := 4) (ret := (some .int)) (by decide) (Nat.le_of_ble_eq_true rfl) ?_
  intro p e s m args below meth c Q A hQ hfx htab hK hN hXK hWN hA hP hD ls hl
  have hS : va_S A s.heap s.heap [] := va_S.rf
  obtain ⟨ex1, hsplit, hex1⟩ := w_tbl1 htab
  obtain ⟨hx, hb, hr, hml, hown, hts, hlocks⟩ := hfx
  have hown : s.vm.findClass R_Q = some m.cls := hown
  have hl : lv_has ls 4 [(0, .ref q_bp), (1, .int a1), (2, .ref q_out)] := hl
  refine lv_aload_n hx hb d_Q_distortion_0 rfl (lv_at hl 2 rfl) ?_
  refine lv_iconst (v := 0) hx hb d_Q_distortion_1 (by decide) ?_
  refine lv_aload_n hx hb d_Q_distortion_2 rfl (lv_at hl 0 rfl) ?_
  refine lv_iload_n hx hb d_Q_distortion_3 rfl (lv_at hl 1 rfl) ?_
  obtain ⟨u1, hc, hF⟩ := kc_bnd hF
  refine xu_call (tag := u1.1) (wr := [(q_out, .inl (k_out, n_out, .inr (.inl outs)))]) hA (xrunV (As := [.int a1]) (rest := [.int (0 : Int32), .ref q_out]) ⟨hx, hb, hml, hown, hts⟩ (m_B_distortion l dC dI q_bp q_bk q_len q_dis q_va q_lr q_te q_sa q_twk q_li q_rwk k_dis n_dis pt diss a1 hfl _ hc s.heap.size) (cwV 1 hts (kgV kw_3_24 kw_3_25 kw_3_26 kw_1_1 kw_3_27) rfl rfl rfl (by decide +kernel) ⟨Nat.le_of_ble_eq_true rfl, Nat.le_of_ble_eq_true rfl⟩) ⟨xPre_blind, va_recv hK hP (ci := 0) (q0 := 0) rfl rfl, xPre_of (hP.sub [0, 1] rfl) (hK.sub [0] rfl) (hD.sub [0, 1] (by decide) rfl) hN hXK⟩ rfl rfl hl.1 rfl (lv_room (Nat.le_of_ble_eq_true rfl)) d_Q_distortion_4 ⟨Nat.le_of_ble_eq_true rfl, Nat.le_of_ble_eq_true rfl⟩) hP hD hS [0, 1] [2] rfl rfl (by decide) (by decide) (fun htag H locs q ce hP hD hS hce hcv hcl => ?_) (fun htag H locs hP hD hS => ?_)
  · have hP : va_P (dC, dI) vwCl [(q_out, .inl (k_out, n_out, .inr (.inl outs))), (q_bp, .inr (0, [.ref q_bk, .ref q_sa, .ref q_te, .ref q_twk, .ref q_len, .ref q_dis, .int pt, .ref q_li, .ref q_rwk, .ref q_va, .ref q_lr])), (q_dis, .inl (k_dis, n_dis, .inr (.inl diss)))] H := hP
    have hD : va_D A [(q_out, .inl (k_out, n_out, .inr (.inl outs))), (q_bp, .inr (0, [.ref q_bk, .ref q_sa, .ref q_te, .ref q_twk, .ref q_len, .ref q_dis, .int pt, .ref q_li, .ref q_rwk, .ref q_va, .ref q_lr])), (q_dis, .inl (k_dis, n_dis, .inr (.inl diss)))] := hD
    have hF := kc_neg htag hF
    by_cases ht1 : u1.1 = 1
    · have hF := kc_pos ht1 hF
      rw [ht1] at hcl
      refine wcatch1 (E := xE 1) hown ex1 [] hsplit hex1 (by decide) (by decide) (hts _ kw_2_130) (va_Nw.use rfl (xn_1 hXK.2.2)) hce hcv hcl ?_
      refine W.widen (k := 1) (n := 6) (Nat.le_refl _) (Nat.le_refl _) ?_
      refine lv_astore_n (lv' := [(3, .ref q), (0, .ref q_bp), (1, .int a1), (2, .ref q_out)]) hx hb d_Q_distortion_11 rfl hl (by decide) rfl (fun ls hl => ?_)
      refine lv_iconst (v := 1) hx hb d_Q_distortion_12 (by decide) ?_
      obtain rfl := Option.some.inj hF
      exact ww_iret hx hb hr hlocks hQ (Nat.le_of_ble_eq_true rfl) (Nat.le_of_ble_eq_true rfl) (hP.sub [1, 2, 0] rfl) (hD.sub [1, 2, 0] (by decide) rfl) hS d_Q_distortion_13
    have hF := kc_neg ht1 hF
    cases hF
  have hF := kc_pos htag hF
  refine W.widen (k := 1) (n := 6) (Nat.le_refl _) (Nat.le_refl _) ?_
  have hP : va_P (dC, dI) vwCl [(q_out, .inl (k_out, n_out, .inr (.inl outs))), (q_bp, .inr (0, [.ref q_bk, .ref q_sa, .ref q_te, .ref q_twk, .ref q_len, .ref q_dis, .int pt, .ref q_li, .ref q_rwk, .ref q_va, .ref q_lr])), (q_dis, .inl (k_dis, n_dis, .inr (.inl diss)))] H := hP
  have hD : va_D A [(q_out, .inl (k_out, n_out, .inr (.inl outs))), (q_bp, .inr (0, [.ref q_bk, .ref q_sa, .ref q_te, .ref q_twk, .ref q_len, .ref q_dis, .int pt, .ref q_li, .ref q_rwk, .ref q_va, .ref q_lr])), (q_dis, .inl (k_dis, n_dis, .inr (.inl diss)))] := hD
  obtain ⟨h2, hF⟩ := kc_no hF
  refine va_last hx hb hK hP hD hS 0 1 rfl rfl h2 d_Q_distortion_7 (fun H locs hP hD hS => ?_)
  have hP : va_P (dC, dI) vwCl [(q_out, .inl (k_out, n_out, .inr (.inl (vp_updL outs (0 : Int32).toNatClampNeg u1.2)))), (q_bp, .inr (0, [.ref q_bk, .ref q_sa, .ref q_te, .ref q_twk, .ref q_len, .ref q_dis, .int pt, .ref q_li, .ref q_rwk, .ref q_va, .ref q_lr])), (q_dis, .inl (k_dis, n_dis, .inr (.inl diss)))] H := hP
  have hD : va_D A [(q_out, .inl (k_out, n_out, .inr (.inl (vp_updL outs (0 : Int32).toNatClampNeg u1.2)))), (q_bp, .inr (0, [.ref q_bk, .ref q_sa, .ref q_te, .ref q_twk, .ref q_len, .ref q_dis, .int pt, .ref q_li, .ref q_rwk, .ref q_va, .ref q_lr])), (q_dis, .inl (k_dis, n_dis, .inr (.inl diss)))] := hD
  refine lv_goto (tgt := 14) hx hb d_Q_distortion_8 (by decide) ?_
  refine lv_iconst (v := 0) hx hb d_Q_distortion_14 (by decide) ?_
  obtain rfl := Option.some.inj hF
  exact ww_iret hx hb hr hlocks hQ (Nat.le_of_ble_eq_true rfl) (Nat.le_of_ble_eq_true rfl) (hP.sub [1, 2, 0] rfl) (hD.sub [1, 2, 0] (by decide) rfl) hS d_Q_distortion_15
abbrev rm_Q_kind : Room := { frames := 8, cells := 1, slots := 6, locals := 124 }
set_option maxHeartbeats 4000000 in
set_option maxRecDepth 100000 in
theorem m_Q_kind (l : Launch) (dC : Nat → ClassId) (dI : Nat → Nat → Nat) (q_bp q_bk q_len q_dis q_va q_lr q_te q_sa q_twk q_li q_rwk q_out : Nat) (k_out : ClassId) (n_out : Nat) (pt : Int32) (outs : (Nat → Int64)) (a1 : Int32) (hfl : l.flags = pinnedFlags ++ [noTraceFlag]) (u : Int32 × (Nat → Int64)) (hF : f_Q_kind pt outs n_out a1 = some u) : ∀ sz : Nat, Met l y_Q_kind (kwsH y_Q_kind c_Q_kind 4 (some .int) [(0, 9, 12, 13)]) rm_Q_kind (wPre (dC, dI) [.ref q_bp, .int a1, .ref q_out] [(q_bp, .inr (0, [.ref q_bk, .ref q_sa, .ref q_te, .ref q_twk, .ref q_len, .ref q_dis, .int pt, .ref q_li, .ref q_rwk, .ref q_va, .ref q_lr])), (q_out, .inl (k_out, n_out, .inr (.inl outs)))] [(k_out, .long)] sz) (kPost (dC, dI) (some (.int u.1)) [(q_bp, .inr (0, [.ref q_bk, .ref q_sa, .ref q_te, .ref q_twk, .ref q_len, .ref q_dis, .int pt, .ref q_li, .ref q_rwk, .ref q_va, .ref q_lr])), (q_out, .inl (k_out, n_out, .inr (.inl u.2)))] (va_A [(q_bp, .inr (0, [.ref q_bk, .ref q_sa, .ref q_te, .ref q_twk, .ref q_len, .ref q_dis, .int pt, .ref q_li, .ref q_rwk, .ref q_va, .ref q_lr])), (q_out, .inl (k_out, n_out, .inr (.inl outs)))] sz)) 1 6 (va_A [(q_bp, .inr (0, [.ref q_bk, .ref q_sa, .ref q_te, .ref q_twk, .ref q_len, .ref q_dis, .int pt, .ref q_li, .ref q_rwk, .ref q_va, .ref q_lr])), (q_out, .inl (k_out, n_out, .inr (.inl outs)))] sz) := by
  unfold f_Q_kind at hF
  refine wU_of (cc := c_Q_kind) (maxL := 4) (ret := (some .int)) (by decide) (Nat.le_of_ble_eq_true rfl) ?_
  intro p e s m args below meth c Q A hQ hfx htab hK hN hXK hWN hA hP hD ls hl
  have hS : va_S A s.heap s.heap [] := va_S.rf
  obtain ⟨ex1, hsplit, hex1⟩ := w_tbl1 htab
  obtain ⟨hx, hb, hr, hml, hown, hts, hlocks⟩ := hfx
  have hown : s.vm.findClass R_Q = some m.cls := hown
  have hl : lv_has ls 4 [(0, .ref q_bp), (1, .int a1), (2, .ref q_out)] := hl
  refine lv_aload_n hx hb d_Q_kind_0 rfl (lv_at hl 2 rfl) ?_
  refine lv_iconst (v := 0) hx hb d_Q_kind_1 (by decide) ?_
  refine lv_aload_n hx hb d_Q_kind_2 rfl (lv_at hl 0 rfl) ?_
  refine lv_iload_n hx hb d_Q_kind_3 rfl (lv_at hl 1 rfl) ?_
  obtain ⟨u1, hc, hF⟩ := kc_bnd hF
  refine xu_call (tag := u1.1) (wr := [(q_out, .inl (k_out, n_out, .inr (.inl outs)))]) hA (xrunV (As := [.int a1]) (rest := [.int (0 : Int32), .ref q_out]) ⟨hx, hb, hml, hown, hts⟩ (m_B_kind l dC dI q_bp q_bk q_len q_dis q_va q_lr q_te q_sa q_twk q_li q_rwk pt a1 hfl _ hc s.heap.size) (cwV 1 hts (kgV kw_3_31 kw_3_32 kw_3_33 kw_1_1 kw_3_34) rfl rfl rfl (by decide +kernel) ⟨Nat.le_of_ble_eq_true rfl, Nat.le_of_ble_eq_true rfl⟩) ⟨xPre_blind, va_recv hK hP (ci := 0) (q0 := 0) rfl rfl, xPre_of (hP.sub [0] rfl) (hK.sub [] rfl) (hD.sub [0] (by decide) rfl) hN hXK⟩ rfl rfl hl.1 rfl (lv_room (Nat.le_of_ble_eq_true rfl)) d_Q_kind_4 ⟨Nat.le_of_ble_eq_true rfl, Nat.le_of_ble_eq_true rfl⟩) hP hD hS [0] [1] rfl rfl (by decide) (by decide) (fun htag H locs q ce hP hD hS hce hcv hcl => ?_) (fun htag H locs hP hD hS => ?_)
  · have hP : va_P (dC, dI) vwCl [(q_out, .inl (k_out, n_out, .inr (.inl outs))), (q_bp, .inr (0, [.ref q_bk, .ref q_sa, .ref q_te, .ref q_twk, .ref q_len, .ref q_dis, .int pt, .ref q_li, .ref q_rwk, .ref q_va, .ref q_lr]))] H := hP
    have hD : va_D A [(q_out, .inl (k_out, n_out, .inr (.inl outs))), (q_bp, .inr (0, [.ref q_bk, .ref q_sa, .ref q_te, .ref q_twk, .ref q_len, .ref q_dis, .int pt, .ref q_li, .ref q_rwk, .ref q_va, .ref q_lr]))] := hD
    have hF := kc_neg htag hF
    by_cases ht1 : u1.1 = 1
    · have hF := kc_pos ht1 hF
      rw [ht1] at hcl
      refine wcatch1 (E := xE 1) hown ex1 [] hsplit hex1 (by decide) (by decide) (hts _ kw_2_130) (va_Nw.use rfl (xn_1 hXK.2.2)) hce hcv hcl ?_
      refine W.widen (k := 1) (n := 6) (Nat.le_refl _) (Nat.le_refl _) ?_
      refine lv_astore_n (lv' := [(3, .ref q), (0, .ref q_bp), (1, .int a1), (2, .ref q_out)]) hx hb d_Q_kind_12 rfl hl (by decide) rfl (fun ls hl => ?_)
      refine lv_iconst (v := 1) hx hb d_Q_kind_13 (by decide) ?_
      obtain rfl := Option.some.inj hF
      exact ww_iret hx hb hr hlocks hQ (Nat.le_of_ble_eq_true rfl) (Nat.le_of_ble_eq_true rfl) (hP.sub [1, 0] rfl) (hD.sub [1, 0] (by decide) rfl) hS d_Q_kind_14
    have hF := kc_neg ht1 hF
    cases hF
  have hF := kc_pos htag hF
  refine W.widen (k := 1) (n := 6) (Nat.le_refl _) (Nat.le_refl _) ?_
  have hP : va_P (dC, dI) vwCl [(q_out, .inl (k_out, n_out, .inr (.inl outs))), (q_bp, .inr (0, [.ref q_bk, .ref q_sa, .ref q_te, .ref q_twk, .ref q_len, .ref q_dis, .int pt, .ref q_li, .ref q_rwk, .ref q_va, .ref q_lr]))] H := hP
  have hD : va_D A [(q_out, .inl (k_out, n_out, .inr (.inl outs))), (q_bp, .inr (0, [.ref q_bk, .ref q_sa, .ref q_te, .ref q_twk, .ref q_len, .ref q_dis, .int pt, .ref q_li, .ref q_rwk, .ref q_va, .ref q_lr]))] := hD
  refine lv_i2l (v := u1.2.toInt64) hx hb d_Q_kind_7 rfl ?_
  obtain ⟨h2, hF⟩ := kc_no hF
  refine va_last hx hb hK hP hD hS 0 0 rfl rfl h2 d_Q_kind_8 (fun H locs hP hD hS => ?_)
  have hP : va_P (dC, dI) vwCl [(q_out, .inl (k_out, n_out, .inr (.inl (vp_updL outs (0 : Int32).toNatClampNeg u1.2.toInt64)))), (q_bp, .inr (0, [.ref q_bk, .ref q_sa, .ref q_te, .ref q_twk, .ref q_len, .ref q_dis, .int pt, .ref q_li, .ref q_rwk, .ref q_va, .ref q_lr]))] H := hP
  have hD : va_D A [(q_out, .inl (k_out, n_out, .inr (.inl (vp_updL outs (0 : Int32).toNatClampNeg u1.2.toInt64)))), (q_bp, .inr (0, [.ref q_bk, .ref q_sa, .ref q_te, .ref q_twk, .ref q_len, .ref q_dis, .int pt, .ref q_li, .ref q_rwk, .ref q_va, .ref q_lr]))] := hD
  refine lv_goto (tgt := 15) hx hb d_Q_kind_9 (by decide) ?_
  refine lv_iconst (v := 0) hx hb d_Q_kind_15 (by decide) ?_
  obtain rfl := Option.some.inj hF
  exact ww_iret hx hb hr hlocks hQ (Nat.le_of_ble_eq_true rfl) (Nat.le_of_ble_eq_true rfl) (hP.sub [1, 0] rfl) (hD.sub [1, 0] (by decide) rfl) hS d_Q_kind_16
abbrev rm_Q_terminated : Room := { frames := 8, cells := 1, slots := 6, locals := 124 }
set_option maxHeartbeats 4000000 in
set_option maxRecDepth 100000 in
theorem m_Q_terminated (l : Launch) (dC : Nat → ClassId) (dI : Nat → Nat → Nat) (q_bp q_bk q_len q_dis q_va q_lr q_te q_sa q_twk q_li q_rwk q_out : Nat) (k_out : ClassId) (n_out : Nat) (pt : Int32) (w : Int32) (h : Int32) (sty : Int32) (bd : Int32) (str : Int32) (cel : Int32) (outs : (Nat → Int64)) (a1 : Int32) (hfl : l.flags = pinnedFlags ++ [noTraceFlag]) (u : Int32 × (Nat → Int64)) (hF : f_Q_terminated pt sty outs n_out a1 = some u) : ∀ sz : Nat, Met l y_Q_terminated (kwsH y_Q_terminated c_Q_terminated 4 (some .int) [(0, 16, 19, 13)]) rm_Q_terminated (wPre (dC, dI) [.ref q_bp, .int a1, .ref q_out] [(q_bp, .inr (0, [.ref q_bk, .ref q_sa, .ref q_te, .ref q_twk, .ref q_len, .ref q_dis, .int pt, .ref q_li, .ref q_rwk, .ref q_va, .ref q_lr])), (q_bk, .inr (1, [.int w, .int h, .int sty, .int bd, .int str, .int cel])), (q_out, .inl (k_out, n_out, .inr (.inl outs)))] [(k_out, .long)] sz) (kPost (dC, dI) (some (.int u.1)) [(q_bp, .inr (0, [.ref q_bk, .ref q_sa, .ref q_te, .ref q_twk, .ref q_len, .ref q_dis, .int pt, .ref q_li, .ref q_rwk, .ref q_va, .ref q_lr])), (q_bk, .inr (1, [.int w, .int h, .int sty, .int bd, .int str, .int cel])), (q_out, .inl (k_out, n_out, .inr (.inl u.2)))] (va_A [(q_bp, .inr (0, [.ref q_bk, .ref q_sa, .ref q_te, .ref q_twk, .ref q_len, .ref q_dis, .int pt, .ref q_li, .ref q_rwk, .ref q_va, .ref q_lr])), (q_bk, .inr (1, [.int w, .int h, .int sty, .int bd, .int str, .int cel])), (q_out, .inl (k_out, n_out, .inr (.inl outs)))] sz)) 1 6 (va_A [(q_bp, .inr (0, [.ref q_bk, .ref q_sa, .ref q_te, .ref q_twk, .ref q_len, .ref q_dis, .int pt, .ref q_li, .ref q_rwk, .ref q_va, .ref q_lr])), (q_bk, .inr (1, [.int w, .int h, .int sty, .int bd, .int str, .int cel])), (q_out, .inl (k_out, n_out, .inr (.inl outs)))] sz) := by
  unfold f_Q_terminated at hF
  refine wU_of (cc := c_Q_terminated) (maxL := 4) (ret := (some .int)) (by decide) (Nat.le_of_ble_eq_true rfl) ?_
  intro p e s m args below meth c Q A hQ hfx htab hK hN hXK hWN hA hP hD ls hl
  have hS : va_S A s.heap s.heap [] := va_S.rf
  obtain ⟨ex1, hsplit, hex1⟩ := w_tbl1 htab
  obtain ⟨hx, hb, hr, hml, hown, hts, hlocks⟩ := hfx
  have hown : s.vm.findClass R_Q = some m.cls := hown
  have hl : lv_has ls 4 [(0, .ref q_bp), (1, .int a1), (2, .ref q_out)] := hl
  refine lv_aload_n hx hb d_Q_terminated_0 rfl (lv_at hl 2 rfl) ?_
  refine lv_iconst (v := 0) hx hb d_Q_terminated_1 (by decide) ?_
  refine lv_aload_n hx hb d_Q_terminated_2 rfl (lv_at hl 0 rfl) ?_
  refine lv_iload_n hx hb d_Q_terminated_3 rfl (lv_at hl 1 rfl) ?_
  obtain ⟨u1, hc, hF⟩ := kc_bnd hF
  refine xu_call (tag := u1.1) (wr := [(q_out, .inl (k_out, n_out, .inr (.inl outs)))]) hA (xrunV (As := [.int a1]) (rest := [.int (0 : Int32), .ref q_out]) ⟨hx, hb, hml, hown, hts⟩ (m_B_terminated l dC dI q_bp q_bk q_len q_dis q_va q_lr q_te q_sa q_twk q_li q_rwk pt w h sty bd str cel a1 hfl _ hc s.heap.size) (cwV 1 hts (kgV kw_3_39 kw_3_40 kw_3_41 kw_1_1 kw_3_42) rfl rfl rfl (by decide +kernel) ⟨Nat.le_of_ble_eq_true rfl, Nat.le_of_ble_eq_true rfl⟩) ⟨xPre_blind, va_recv hK hP (ci := 0) (q0 := 0) rfl rfl, xPre_of (hP.sub [0, 1] rfl) (hK.sub [] rfl) (hD.sub [0, 1] (by decide) rfl) hN hXK⟩ rfl rfl hl.1 rfl (lv_room (Nat.le_of_ble_eq_true rfl)) d_Q_terminated_4 ⟨Nat.le_of_ble_eq_true rfl, Nat.le_of_ble_eq_true rfl⟩) hP hD hS [0, 1] [2] rfl rfl (by decide) (by decide) (fun htag H locs q ce hP hD hS hce hcv hcl => ?_) (fun htag H locs hP hD hS => ?_)
  · have hP : va_P (dC, dI) vwCl [(q_out, .inl (k_out, n_out, .inr (.inl outs))), (q_bp, .inr (0, [.ref q_bk, .ref q_sa, .ref q_te, .ref q_twk, .ref q_len, .ref q_dis, .int pt, .ref q_li, .ref q_rwk, .ref q_va, .ref q_lr])), (q_bk, .inr (1, [.int w, .int h, .int sty, .int bd, .int str, .int cel]))] H := hP
    have hD : va_D A [(q_out, .inl (k_out, n_out, .inr (.inl outs))), (q_bp, .inr (0, [.ref q_bk, .ref q_sa, .ref q_te, .ref q_twk, .ref q_len, .ref q_dis, .int pt, .ref q_li, .ref q_rwk, .ref q_va, .ref q_lr])), (q_bk, .inr (1, [.int w, .int h, .int sty, .int bd, .int str, .int cel]))] := hD
    have hF := kc_neg htag hF
    by_cases ht1 : u1.1 = 1
    · have hF := kc_pos ht1 hF
      rw [ht1] at hcl
      refine wcatch1 (E := xE 1) hown ex1 [] hsplit hex1 (by decide) (by decide) (hts _ kw_2_130) (va_Nw.use rfl (xn_1 hXK.2.2)) hce hcv hcl ?_
      refine W.widen (k := 1) (n := 6) (Nat.le_refl _) (Nat.le_refl _) ?_
      refine lv_astore_n (lv' := [(3, .ref q), (0, .ref q_bp), (1, .int a1), (2, .ref q_out)]) hx hb d_Q_terminated_19 rfl hl (by decide) rfl (fun ls hl => ?_)
      refine lv_iconst (v := 1) hx hb d_Q_terminated_20 (by decide) ?_
      obtain rfl := Option.some.inj hF
      exact ww_iret hx hb hr hlocks hQ (Nat.le_of_ble_eq_true rfl) (Nat.le_of_ble_eq_true rfl) (hP.sub [1, 2, 0] rfl) (hD.sub [1, 2, 0] (by decide) rfl) hS d_Q_terminated_21
    have hF := kc_neg ht1 hF
    cases hF
  have hF := kc_pos htag hF
  refine W.widen (k := 1) (n := 6) (Nat.le_refl _) (Nat.le_refl _) ?_
  have hP : va_P (dC, dI) vwCl [(q_out, .inl (k_out, n_out, .inr (.inl outs))), (q_bp, .inr (0, [.ref q_bk, .ref q_sa, .ref q_te, .ref q_twk, .ref q_len, .ref q_dis, .int pt, .ref q_li, .ref q_rwk, .ref q_va, .ref q_lr])), (q_bk, .inr (1, [.int w, .int h, .int sty, .int bd, .int str, .int cel]))] H := hP
  have hD : va_D A [(q_out, .inl (k_out, n_out, .inr (.inl outs))), (q_bp, .inr (0, [.ref q_bk, .ref q_sa, .ref q_te, .ref q_twk, .ref q_len, .ref q_dis, .int pt, .ref q_li, .ref q_rwk, .ref q_va, .ref q_lr])), (q_bk, .inr (1, [.int w, .int h, .int sty, .int bd, .int str, .int cel]))] := hD
  obtain ⟨u3, hcu3, hF⟩ := kc_bnd hF
  have hJu3 : ∀ (H : Heap) (locs : List Loc) (ls : Array Slot), va_P (dC, dI) vwCl [(q_out, .inl (k_out, n_out, .inr (.inl outs))), (q_bp, .inr (0, [.ref q_bk, .ref q_sa, .ref q_te, .ref q_twk, .ref q_len, .ref q_dis, .int pt, .ref q_li, .ref q_rwk, .ref q_va, .ref q_lr])), (q_bk, .inr (1, [.int w, .int h, .int sty, .int bd, .int str, .int cel]))] H → va_D A [(q_out, .inl (k_out, n_out, .inr (.inl outs))), (q_bp, .inr (0, [.ref q_bk, .ref q_sa, .ref q_te, .ref q_twk, .ref q_len, .ref q_dis, .int pt, .ref q_li, .ref q_rwk, .ref q_va, .ref q_lr])), (q_bk, .inr (1, [.int w, .int h, .int sty, .int bd, .int str, .int cel]))] → va_S A s.heap H locs → lv_has ls 4 [(0, .ref q_bp), (1, .int a1), (2, .ref q_out)] → W p l e rm_Q_terminated s m args below meth c H locs 1 6 Q (F0 m 15 ls [.long u3, .int (0 : Int32), .ref q_out]) := by
    intro H locs ls hP hD hS hl
    obtain ⟨h4, hF⟩ := kc_no hF
    refine va_last hx hb hK hP hD hS 0 0 rfl rfl h4 d_Q_terminated_15 (fun H locs hP hD hS => ?_)
    have hP : va_P (dC, dI) vwCl [(q_out, .inl (k_out, n_out, .inr (.inl (vp_updL outs (0 : Int32).toNatClampNeg u3)))), (q_bp, .inr (0, [.ref q_bk, .ref q_sa, .ref q_te, .ref q_twk, .ref q_len, .ref q_dis, .int pt, .ref q_li, .ref q_rwk, .ref q_va, .ref q_lr])), (q_bk, .inr (1, [.int w, .int h, .int sty, .int bd, .int str, .int cel]))] H := hP
    have hD : va_D A [(q_out, .inl (k_out, n_out, .inr (.inl (vp_updL outs (0 : Int32).toNatClampNeg u3)))), (q_bp, .inr (0, [.ref q_bk, .ref q_sa, .ref q_te, .ref q_twk, .ref q_len, .ref q_dis, .int pt, .ref q_li, .ref q_rwk, .ref q_va, .ref q_lr])), (q_bk, .inr (1, [.int w, .int h, .int sty, .int bd, .int str, .int cel]))] := hD
    refine lv_goto (tgt := 22) hx hb d_Q_terminated_16 (by decide) ?_
    refine lv_iconst (v := 0) hx hb d_Q_terminated_22 (by decide) ?_
    obtain rfl := Option.some.inj hF
    exact ww_iret hx hb hr hlocks hQ (Nat.le_of_ble_eq_true rfl) (Nat.le_of_ble_eq_true rfl) (hP.sub [1, 2, 0] rfl) (hD.sub [1, 2, 0] (by decide) rfl) hS d_Q_terminated_23
  clear hF; have hF := hcu3; clear hcu3
  refine lv_if_eq (tgt := 14) hx hb d_Q_terminated_7 (by decide) (fun c2 => ?_) (fun c2 => ?_)
  · have hF := kc_pos c2 hF
    refine lv_lconst (v := 0) hx hb d_Q_terminated_14 (by decide) ?_
    obtain rfl := Option.some.inj hF
    exact hJu3 _ _ _ hP hD hS (lv_sub hl [0, 1, 2] rfl)
  have hF := kc_neg c2 hF
  refine lv_lconst (v := 1) hx hb d_Q_terminated_10 (by decide) ?_
  refine lv_goto (tgt := 15) hx hb d_Q_terminated_11 (by decide) ?_
  obtain rfl := Option.some.inj hF
  exact hJu3 _ _ _ hP hD hS (lv_sub hl [0, 1, 2] rfl)
abbrev rm_Q_feed : Room := { frames := 8, cells := 1, slots := 6, locals := 124 }
set_option maxHeartbeats 4000000 in
set_option maxRecDepth 100000 in
theorem m_Q_feed (l : Launch) (dC : Nat → ClassId) (dI : Nat → Nat → Nat) (q_bp q_bk q_len q_dis q_va q_lr q_te q_sa q_twk q_li q_wo q_rwk q_out : Nat) (k_wo : ClassId) (n_wo : Nat) (k_out : ClassId) (n_out : Nat) (pt : Int32) (lcn : Int32) (lak : Int32) (nxt : Int32) (wor : (Nat → Int32)) (outs : (Nat → Int64)) (a1 : Int32) (hfl : l.flags = pinnedFlags ++ [noTraceFlag]) (u : Int32 × Int32 × (Nat → Int32) × (Nat → Int64)) (hF : f_Q_feed lcn wor outs n_wo n_out a1 = some u) : ∀ sz : Nat, Met l y_Q_feed (kwsH y_Q_feed c_Q_feed 4 (some .int) [(0, 9, 12, 15), (0, 9, 15, 39)]) rm_Q_feed (wPre (dC, dI) [.ref q_bp, .int a1, .ref q_out] [(q_bp, .inr (0, [.ref q_bk, .ref q_sa, .ref q_te, .ref q_twk, .ref q_len, .ref q_dis, .int pt, .ref q_li, .ref q_rwk, .ref q_va, .ref q_lr])), (q_li, .inr (3, [.ref q_wo, .int lcn, .int lak, .int nxt])), (q_wo, .inl (k_wo, n_wo, .inl wor)), (q_out, .inl (k_out, n_out, .inr (.inl outs)))] [(k_wo, .int), (k_out, .long)] sz) (kPost (dC, dI) (some (.int u.1)) [(q_bp, .inr (0, [.ref q_bk, .ref q_sa, .ref q_te, .ref q_twk, .ref q_len, .ref q_dis, .int pt, .ref q_li, .ref q_rwk, .ref q_va, .ref q_lr])), (q_li, .inr (3, [.ref q_wo, .int u.2.1, .int lak, .int nxt])), (q_wo, .inl (k_wo, n_wo, .inl u.2.2.1)), (q_out, .inl (k_out, n_out, .inr (.inl u.2.2.2)))] (va_A [(q_bp, .inr (0, [.ref q_bk, .ref q_sa, .ref q_te, .ref q_twk, .ref q_len, .ref q_dis, .int pt, .ref q_li, .ref q_rwk, .ref q_va, .ref q_lr])), (q_li, .inr (3, [.ref q_wo, .int lcn, .int lak, .int nxt])), (q_wo, .inl (k_wo, n_wo, .inl wor)), (q_out, .inl (k_out, n_out, .inr (.inl outs)))] sz)) 1 6 (va_A [(q_bp, .inr (0, [.ref q_bk, .ref q_sa, .ref q_te, .ref q_twk, .ref q_len, .ref q_dis, .int pt, .ref q_li, .ref q_rwk, .ref q_va, .ref q_lr])), (q_li, .inr (3, [.ref q_wo, .int lcn, .int lak, .int nxt])), (q_wo, .inl (k_wo, n_wo, .inl wor)), (q_out, .inl (k_out, n_out, .inr (.inl outs)))] sz) := by
  unfold f_Q_feed at hF
  refine wU_of (cc := c_Q_feed) (maxL := 4) (ret := (some .int)) (by decide) (Nat.le_of_ble_eq_true rfl) ?_
  intro p e s m args below meth c Q A hQ hfx htab hK hN hXK hWN hA hP hD ls hl
  have hS : va_S A s.heap s.heap [] := va_S.rf
  obtain ⟨ex1, ex2, hsplit, hex1, hex2⟩ := w_tbl2 htab
  obtain ⟨hx, hb, hr, hml, hown, hts, hlocks⟩ := hfx
  have hown : s.vm.findClass R_Q = some m.cls := hown
  have hl : lv_has ls 4 [(0, .ref q_bp), (1, .int a1), (2, .ref q_out)] := hl
  refine lv_aload_n hx hb d_Q_feed_0 rfl (lv_at hl 2 rfl) ?_
  refine lv_iconst (v := 0) hx hb d_Q_feed_1 (by decide) ?_
  refine lv_aload_n hx hb d_Q_feed_2 rfl (lv_at hl 0 rfl) ?_
  refine lv_iload_n hx hb d_Q_feed_3 rfl (lv_at hl 1 rfl) ?_
  obtain ⟨u1, hc, hF⟩ := kc_bnd hF
  refine xu_call (tag := u1.1) (wr := [(q_out, .inl (k_out, n_out, .inr (.inl outs)))]) hA (xrunV (As := [.int a1]) (rest := [.int (0 : Int32), .ref q_out]) ⟨hx, hb, hml, hown, hts⟩ (m_B_feed l dC dI q_bp q_bk q_len q_dis q_va q_lr q_te q_sa q_twk q_li q_wo q_rwk k_wo n_wo pt lcn lak nxt wor a1 hfl _ hc s.heap.size) (cwV 1 hts (kgV kw_3_48 kw_3_49 kw_3_50 kw_1_1 kw_3_51) rfl rfl rfl (by decide +kernel) ⟨Nat.le_of_ble_eq_true rfl, Nat.le_of_ble_eq_true rfl⟩) ⟨xPre_blind, va_recv hK hP (ci := 0) (q0 := 0) rfl rfl, xPre_of (hP.sub [0, 1, 2] rfl) (hK.sub [0] rfl) (hD.sub [0, 1, 2] (by decide) rfl) hN hXK⟩ rfl rfl hl.1 rfl (lv_room (Nat.le_of_ble_eq_true rfl)) d_Q_feed_4 ⟨Nat.le_of_ble_eq_true rfl, Nat.le_of_ble_eq_true rfl⟩) hP hD hS [0, 1, 2] [3] rfl rfl (by decide) (by decide) (fun htag H locs q ce hP hD hS hce hcv hcl => ?_) (fun htag H locs hP hD hS => ?_)
  · have hP : va_P (dC, dI) vwCl [(q_out, .inl (k_out, n_out, .inr (.inl outs))), (q_bp, .inr (0, [.ref q_bk, .ref q_sa, .ref q_te, .ref q_twk, .ref q_len, .ref q_dis, .int pt, .ref q_li, .ref q_rwk, .ref q_va, .ref q_lr])), (q_li, .inr (3, [.ref q_wo, .int u1.2.2.1, .int lak, .int nxt])), (q_wo, .inl (k_wo, n_wo, .inl u1.2.2.2))] H := hP
    have hD : va_D A [(q_out, .inl (k_out, n_out, .inr (.inl outs))), (q_bp, .inr (0, [.ref q_bk, .ref q_sa, .ref q_te, .ref q_twk, .ref q_len, .ref q_dis, .int pt, .ref q_li, .ref q_rwk, .ref q_va, .ref q_lr])), (q_li, .inr (3, [.ref q_wo, .int u1.2.2.1, .int lak, .int nxt])), (q_wo, .inl (k_wo, n_wo, .inl u1.2.2.2))] := hD
    have hF := kc_neg htag hF
    by_cases ht2 : u1.1 = 2
    · have hF := kc_pos ht2 hF
      rw [ht2] at hcl
      refine wcatch1 (E := xE 2) hown ex1 [ex2] hsplit hex1 (by decide) (by decide) (hts _ kw_2_131) (va_Nw.use rfl (xn_2 hXK.2.2)) hce hcv hcl ?_
      refine W.widen (k := 1) (n := 6) (Nat.le_refl _) (Nat.le_refl _) ?_
      refine lv_astore_n (lv' := [(3, .ref q), (0, .ref q_bp), (1, .int a1), (2, .ref q_out)]) hx hb d_Q_feed_12 rfl hl (by decide) rfl (fun ls hl => ?_)
      refine lv_iconst (v := 1) hx hb d_Q_feed_13 (by decide) ?_
      obtain rfl := Option.some.inj hF
      exact ww_iret hx hb hr hlocks hQ (Nat.le_of_ble_eq_true rfl) (Nat.le_of_ble_eq_true rfl) (hP.sub [1, 2, 3, 0] rfl) (hD.sub [1, 2, 3, 0] (by decide) rfl) hS d_Q_feed_14
    have hF := kc_neg ht2 hF
    by_cases ht3 : u1.1 = 3
    · have hF := kc_pos ht3 hF
      rw [ht3] at hcl
      refine wcatch2 (E := xE 3) hown ex1 ex2 [] hsplit hex1 hex2 (by decide) (by decide) (by decide) (hts _ kw_2_131) hWN.2 (hts _ kw_3_47) (va_Nw.use rfl (xn_3 hXK.2.2)) hce hcv hcl ?_
      refine W.widen (k := 1) (n := 6) (Nat.le_refl _) (Nat.le_refl _) ?_
      refine lv_astore_n (lv' := [(3, .ref q), (0, .ref q_bp), (1, .int a1), (2, .ref q_out)]) hx hb d_Q_feed_15 rfl hl (by decide) rfl (fun ls hl => ?_)
      refine lv_iconst (v := 2) hx hb d_Q_feed_16 (by decide) ?_
      obtain rfl := Option.some.inj hF
      exact ww_iret hx hb hr hlocks hQ (Nat.le_of_ble_eq_true rfl) (Nat.le_of_ble_eq_true rfl) (hP.sub [1, 2, 3, 0] rfl) (hD.sub [1, 2, 3, 0] (by decide) rfl) hS d_Q_feed_17
    have hF := kc_neg ht3 hF
    cases hF
  have hF := kc_pos htag hF
  refine W.widen (k := 1) (n := 6) (Nat.le_refl _) (Nat.le_refl _) ?_
  have hP : va_P (dC, dI) vwCl [(q_out, .inl (k_out, n_out, .inr (.inl outs))), (q_bp, .inr (0, [.ref q_bk, .ref q_sa, .ref q_te, .ref q_twk, .ref q_len, .ref q_dis, .int pt, .ref q_li, .ref q_rwk, .ref q_va, .ref q_lr])), (q_li, .inr (3, [.ref q_wo, .int u1.2.2.1, .int lak, .int nxt])), (q_wo, .inl (k_wo, n_wo, .inl u1.2.2.2))] H := hP
  have hD : va_D A [(q_out, .inl (k_out, n_out, .inr (.inl outs))), (q_bp, .inr (0, [.ref q_bk, .ref q_sa, .ref q_te, .ref q_twk, .ref q_len, .ref q_dis, .int pt, .ref q_li, .ref q_rwk, .ref q_va, .ref q_lr])), (q_li, .inr (3, [.ref q_wo, .int u1.2.2.1, .int lak, .int nxt])), (q_wo, .inl (k_wo, n_wo, .inl u1.2.2.2))] := hD
  refine lv_i2l (v := u1.2.1.toInt64) hx hb d_Q_feed_7 rfl ?_
  obtain ⟨h2, hF⟩ := kc_no hF
  refine va_last hx hb hK hP hD hS 0 1 rfl rfl h2 d_Q_feed_8 (fun H locs hP hD hS => ?_)
  have hP : va_P (dC, dI) vwCl [(q_out, .inl (k_out, n_out, .inr (.inl (vp_updL outs (0 : Int32).toNatClampNeg u1.2.1.toInt64)))), (q_bp, .inr (0, [.ref q_bk, .ref q_sa, .ref q_te, .ref q_twk, .ref q_len, .ref q_dis, .int pt, .ref q_li, .ref q_rwk, .ref q_va, .ref q_lr])), (q_li, .inr (3, [.ref q_wo, .int u1.2.2.1, .int lak, .int nxt])), (q_wo, .inl (k_wo, n_wo, .inl u1.2.2.2))] H := hP
  have hD : va_D A [(q_out, .inl (k_out, n_out, .inr (.inl (vp_updL outs (0 : Int32).toNatClampNeg u1.2.1.toInt64)))), (q_bp, .inr (0, [.ref q_bk, .ref q_sa, .ref q_te, .ref q_twk, .ref q_len, .ref q_dis, .int pt, .ref q_li, .ref q_rwk, .ref q_va, .ref q_lr])), (q_li, .inr (3, [.ref q_wo, .int u1.2.2.1, .int lak, .int nxt])), (q_wo, .inl (k_wo, n_wo, .inl u1.2.2.2))] := hD
  refine lv_goto (tgt := 18) hx hb d_Q_feed_9 (by decide) ?_
  refine lv_iconst (v := 0) hx hb d_Q_feed_18 (by decide) ?_
  obtain rfl := Option.some.inj hF
  exact ww_iret hx hb hr hlocks hQ (Nat.le_of_ble_eq_true rfl) (Nat.le_of_ble_eq_true rfl) (hP.sub [1, 2, 3, 0] rfl) (hD.sub [1, 2, 3, 0] (by decide) rfl) hS d_Q_feed_19
abbrev rm_Q_pass : Room := { frames := 8, cells := 1, slots := 6, locals := 126 }
set_option maxHeartbeats 4000000 in
set_option maxRecDepth 100000 in
theorem m_Q_pass (l : Launch) (dC : Nat → ClassId) (dI : Nat → Nat → Nat) (q_bp q_bk q_len q_dis q_va q_lr q_te q_sa q_ro q_twk q_li q_wo q_rwk q_out : Nat) (k_ro : ClassId) (n_ro : Nat) (k_wo : ClassId) (n_wo : Nat) (k_out : ClassId) (n_out : Nat) (pt : Int32) (cnt : Int32) (pn : Int32) (row : (Nat → Int32)) (lcn : Int32) (lak : Int32) (nxt : Int32) (wor : (Nat → Int32)) (outs : (Nat → Int64)) (a1 : Int32) (hfl : l.flags = pinnedFlags ++ [noTraceFlag]) (u : Int32 × Int32 × (Nat → Int32) × (Nat → Int64)) (hF : f_Q_pass cnt row lcn wor outs n_ro n_wo n_out a1 = some u) : ∀ sz : Nat, Met l y_Q_pass (kwsH y_Q_pass c_Q_pass 4 (some .int) [(0, 9, 12, 15), (0, 9, 15, 39)]) rm_Q_pass (wPre (dC, dI) [.ref q_bp, .int a1, .ref q_out] [(q_bp, .inr (0, [.ref q_bk, .ref q_sa, .ref q_te, .ref q_twk, .ref q_len, .ref q_dis, .int pt, .ref q_li, .ref q_rwk, .ref q_va, .ref q_lr])), (q_te, .inr (2, [.ref q_sa, .ref q_ro, .int cnt, .int pn])), (q_ro, .inl (k_ro, n_ro, .inl row)), (q_li, .inr (3, [.ref q_wo, .int lcn, .int lak, .int nxt])), (q_wo, .inl (k_wo, n_wo, .inl wor)), (q_out, .inl (k_out, n_out, .inr (.inl outs)))] [(k_ro, .int), (k_wo, .int), (k_out, .long)] sz) (kPost (dC, dI) (some (.int u.1)) [(q_bp, .inr (0, [.ref q_bk, .ref q_sa, .ref q_te, .ref q_twk, .ref q_len, .ref q_dis, .int pt, .ref q_li, .ref q_rwk, .ref q_va, .ref q_lr])), (q_te, .inr (2, [.ref q_sa, .ref q_ro, .int cnt, .int pn])), (q_ro, .inl (k_ro, n_ro, .inl row)), (q_li, .inr (3, [.ref q_wo, .int u.2.1, .int lak, .int nxt])), (q_wo, .inl (k_wo, n_wo, .inl u.2.2.1)), (q_out, .inl (k_out, n_out, .inr (.inl u.2.2.2)))] (va_A [(q_bp, .inr (0, [.ref q_bk, .ref q_sa, .ref q_te, .ref q_twk, .ref q_len, .ref q_dis, .int pt, .ref q_li, .ref q_rwk, .ref q_va, .ref q_lr])), (q_te, .inr (2, [.ref q_sa, .ref q_ro, .int cnt, .int pn])), (q_ro, .inl (k_ro, n_ro, .inl row)), (q_li, .inr (3, [.ref q_wo, .int lcn, .int lak, .int nxt])), (q_wo, .inl (k_wo, n_wo, .inl wor)), (q_out, .inl (k_out, n_out, .inr (.inl outs)))] sz)) 1 6 (va_A [(q_bp, .inr (0, [.ref q_bk, .ref q_sa, .ref q_te, .ref q_twk, .ref q_len, .ref q_dis, .int pt, .ref q_li, .ref q_rwk, .ref q_va, .ref q_lr])), (q_te, .inr (2, [.ref q_sa, .ref q_ro, .int cnt, .int pn])), (q_ro, .inl (k_ro, n_ro, .inl row)), (q_li, .inr (3, [.ref q_wo, .int lcn, .int lak, .int nxt])), (q_wo, .inl (k_wo, n_wo, .inl wor)), (q_out, .inl (k_out, n_out, .inr (.inl outs)))] sz) := by
  unfold f_Q_pass at hF
  refine wU_of (cc := c_Q_pass) (maxL := 4) (ret := (some .int)) (by decide) (Nat.le_of_ble_eq_true rfl) ?_
  intro p e s m args below meth c Q A hQ hfx htab hK hN hXK hWN hA hP hD ls hl
  have hS : va_S A s.heap s.heap [] := va_S.rf
  obtain ⟨ex1, ex2, hsplit, hex1, hex2⟩ := w_tbl2 htab
  obtain ⟨hx, hb, hr, hml, hown, hts, hlocks⟩ := hfx
  have hown : s.vm.findClass R_Q = some m.cls := hown
  have hl : lv_has ls 4 [(0, .ref q_bp), (1, .int a1), (2, .ref q_out)] := hl
  refine lv_aload_n hx hb d_Q_pass_0 rfl (lv_at hl 2 rfl) ?_
  refine lv_iconst (v := 0) hx hb d_Q_pass_1 (by decide) ?_
  refine lv_aload_n hx hb d_Q_pass_2 rfl (lv_at hl 0 rfl) ?_
  refine lv_iload_n hx hb d_Q_pass_3 rfl (lv_at hl 1 rfl) ?_
  obtain ⟨u1, hc, hF⟩ := kc_bnd hF
  refine xu_call (tag := u1.1) (wr := [(q_out, .inl (k_out, n_out, .inr (.inl outs)))]) hA (xrunV (As := [.int a1]) (rest := [.int (0 : Int32), .ref q_out]) ⟨hx, hb, hml, hown, hts⟩ (m_B_pass l dC dI q_bp q_bk q_len q_dis q_va q_lr q_te q_sa q_ro q_twk q_li q_wo q_rwk k_ro n_ro k_wo n_wo pt cnt pn row lcn lak nxt wor a1 hfl _ hc s.heap.size) (cwV 1 hts (kgV kw_3_80 kw_3_81 kw_3_82 kw_1_1 kw_3_83) rfl rfl rfl (by decide +kernel) ⟨Nat.le_of_ble_eq_true rfl, Nat.le_of_ble_eq_true rfl⟩) ⟨xPre_blind, va_recv hK hP (ci := 0) (q0 := 0) rfl rfl, xPre_of (hP.sub [0, 1, 2, 3, 4] rfl) (hK.sub [0, 1] rfl) (hD.sub [0, 1, 2, 3, 4] (by decide) rfl) hN hXK⟩ rfl rfl hl.1 rfl (lv_room (Nat.le_of_ble_eq_true rfl)) d_Q_pass_4 ⟨Nat.le_of_ble_eq_true rfl, Nat.le_of_ble_eq_true rfl⟩) hP hD hS [0, 1, 2, 3, 4] [5] rfl rfl (by decide) (by decide) (fun htag H locs q ce hP hD hS hce hcv hcl => ?_) (fun htag H locs hP hD hS => ?_)
  · have hP : va_P (dC, dI) vwCl [(q_out, .inl (k_out, n_out, .inr (.inl outs))), (q_bp, .inr (0, [.ref q_bk, .ref q_sa, .ref q_te, .ref q_twk, .ref q_len, .ref q_dis, .int pt, .ref q_li, .ref q_rwk, .ref q_va, .ref q_lr])), (q_te, .inr (2, [.ref q_sa, .ref q_ro, .int cnt, .int pn])), (q_ro, .inl (k_ro, n_ro, .inl row)), (q_li, .inr (3, [.ref q_wo, .int u1.2.2.1, .int lak, .int nxt])), (q_wo, .inl (k_wo, n_wo, .inl u1.2.2.2))] H := hP
    have hD : va_D A [(q_out, .inl (k_out, n_out, .inr (.inl outs))), (q_bp, .inr (0, [.ref q_bk, .ref q_sa, .ref q_te, .ref q_twk, .ref q_len, .ref q_dis, .int pt, .ref q_li, .ref q_rwk, .ref q_va, .ref q_lr])), (q_te, .inr (2, [.ref q_sa, .ref q_ro, .int cnt, .int pn])), (q_ro, .inl (k_ro, n_ro, .inl row)), (q_li, .inr (3, [.ref q_wo, .int u1.2.2.1, .int lak, .int nxt])), (q_wo, .inl (k_wo, n_wo, .inl u1.2.2.2))] := hD
    have hF := kc_neg htag hF
    by_cases ht2 : u1.1 = 2
    · have hF := kc_pos ht2 hF
      rw [ht2] at hcl
      refine wcatch1 (E := xE 2) hown ex1 [ex2] hsplit hex1 (by decide) (by decide) (hts _ kw_2_131) (va_Nw.use rfl (xn_2 hXK.2.2)) hce hcv hcl ?_
      refine W.widen (k := 1) (n := 6) (Nat.le_refl _) (Nat.le_refl _) ?_
      refine lv_astore_n (lv' := [(3, .ref q), (0, .ref q_bp), (1, .int a1), (2, .ref q_out)]) hx hb d_Q_pass_12 rfl hl (by decide) rfl (fun ls hl => ?_)
      refine lv_iconst (v := 1) hx hb d_Q_pass_13 (by decide) ?_
      obtain rfl := Option.some.inj hF
      exact ww_iret hx hb hr hlocks hQ (Nat.le_of_ble_eq_true rfl) (Nat.le_of_ble_eq_true rfl) (hP.sub [1, 2, 3, 4, 5, 0] rfl) (hD.sub [1, 2, 3, 4, 5, 0] (by decide) rfl) hS d_Q_pass_14
    have hF := kc_neg ht2 hF
    by_cases ht3 : u1.1 = 3
    · have hF := kc_pos ht3 hF
      rw [ht3] at hcl
      refine wcatch2 (E := xE 3) hown ex1 ex2 [] hsplit hex1 hex2 (by decide) (by decide) (by decide) (hts _ kw_2_131) hWN.2 (hts _ kw_3_47) (va_Nw.use rfl (xn_3 hXK.2.2)) hce hcv hcl ?_
      refine W.widen (k := 1) (n := 6) (Nat.le_refl _) (Nat.le_refl _) ?_
      refine lv_astore_n (lv' := [(3, .ref q), (0, .ref q_bp), (1, .int a1), (2, .ref q_out)]) hx hb d_Q_pass_15 rfl hl (by decide) rfl (fun ls hl => ?_)
      refine lv_iconst (v := 2) hx hb d_Q_pass_16 (by decide) ?_
      obtain rfl := Option.some.inj hF
      exact ww_iret hx hb hr hlocks hQ (Nat.le_of_ble_eq_true rfl) (Nat.le_of_ble_eq_true rfl) (hP.sub [1, 2, 3, 4, 5, 0] rfl) (hD.sub [1, 2, 3, 4, 5, 0] (by decide) rfl) hS d_Q_pass_17
    have hF := kc_neg ht3 hF
    cases hF
  have hF := kc_pos htag hF
  refine W.widen (k := 1) (n := 6) (Nat.le_refl _) (Nat.le_refl _) ?_
  have hP : va_P (dC, dI) vwCl [(q_out, .inl (k_out, n_out, .inr (.inl outs))), (q_bp, .inr (0, [.ref q_bk, .ref q_sa, .ref q_te, .ref q_twk, .ref q_len, .ref q_dis, .int pt, .ref q_li, .ref q_rwk, .ref q_va, .ref q_lr])), (q_te, .inr (2, [.ref q_sa, .ref q_ro, .int cnt, .int pn])), (q_ro, .inl (k_ro, n_ro, .inl row)), (q_li, .inr (3, [.ref q_wo, .int u1.2.2.1, .int lak, .int nxt])), (q_wo, .inl (k_wo, n_wo, .inl u1.2.2.2))] H := hP
  have hD : va_D A [(q_out, .inl (k_out, n_out, .inr (.inl outs))), (q_bp, .inr (0, [.ref q_bk, .ref q_sa, .ref q_te, .ref q_twk, .ref q_len, .ref q_dis, .int pt, .ref q_li, .ref q_rwk, .ref q_va, .ref q_lr])), (q_te, .inr (2, [.ref q_sa, .ref q_ro, .int cnt, .int pn])), (q_ro, .inl (k_ro, n_ro, .inl row)), (q_li, .inr (3, [.ref q_wo, .int u1.2.2.1, .int lak, .int nxt])), (q_wo, .inl (k_wo, n_wo, .inl u1.2.2.2))] := hD
  refine lv_i2l (v := u1.2.1.toInt64) hx hb d_Q_pass_7 rfl ?_
  obtain ⟨h2, hF⟩ := kc_no hF
  refine va_last hx hb hK hP hD hS 0 2 rfl rfl h2 d_Q_pass_8 (fun H locs hP hD hS => ?_)
  have hP : va_P (dC, dI) vwCl [(q_out, .inl (k_out, n_out, .inr (.inl (vp_updL outs (0 : Int32).toNatClampNeg u1.2.1.toInt64)))), (q_bp, .inr (0, [.ref q_bk, .ref q_sa, .ref q_te, .ref q_twk, .ref q_len, .ref q_dis, .int pt, .ref q_li, .ref q_rwk, .ref q_va, .ref q_lr])), (q_te, .inr (2, [.ref q_sa, .ref q_ro, .int cnt, .int pn])), (q_ro, .inl (k_ro, n_ro, .inl row)), (q_li, .inr (3, [.ref q_wo, .int u1.2.2.1, .int lak, .int nxt])), (q_wo, .inl (k_wo, n_wo, .inl u1.2.2.2))] H := hP
  have hD : va_D A [(q_out, .inl (k_out, n_out, .inr (.inl (vp_updL outs (0 : Int32).toNatClampNeg u1.2.1.toInt64)))), (q_bp, .inr (0, [.ref q_bk, .ref q_sa, .ref q_te, .ref q_twk, .ref q_len, .ref q_dis, .int pt, .ref q_li, .ref q_rwk, .ref q_va, .ref q_lr])), (q_te, .inr (2, [.ref q_sa, .ref q_ro, .int cnt, .int pn])), (q_ro, .inl (k_ro, n_ro, .inl row)), (q_li, .inr (3, [.ref q_wo, .int u1.2.2.1, .int lak, .int nxt])), (q_wo, .inl (k_wo, n_wo, .inl u1.2.2.2))] := hD
  refine lv_goto (tgt := 18) hx hb d_Q_pass_9 (by decide) ?_
  refine lv_iconst (v := 0) hx hb d_Q_pass_18 (by decide) ?_
  obtain rfl := Option.some.inj hF
  exact ww_iret hx hb hr hlocks hQ (Nat.le_of_ble_eq_true rfl) (Nat.le_of_ble_eq_true rfl) (hP.sub [1, 2, 3, 4, 5, 0] rfl) (hD.sub [1, 2, 3, 4, 5, 0] (by decide) rfl) hS d_Q_pass_19
abbrev rm_Q_turn : Room := { frames := 7, cells := 1, slots := 6, locals := 103 }
set_option maxHeartbeats 4000000 in
set_option maxRecDepth 100000 in
theorem m_Q_turn (l : Launch) (dC : Nat → ClassId) (dI : Nat → Nat → Nat) (q_bp q_bk q_len q_dis q_va q_lr q_te q_sa q_twk q_li q_wo q_rwk q_out : Nat) (k_wo : ClassId) (n_wo : Nat) (k_out : ClassId) (n_out : Nat) (pt : Int32) (lcn : Int32) (lak : Int32) (nxt : Int32) (wor : (Nat → Int32)) (outs : (Nat → Int64)) (a1 : Int32) (hfl : l.flags = pinnedFlags ++ [noTraceFlag]) (u : Int32 × (Nat → Int32) × (Nat → Int64)) (hF : f_Q_turn lcn wor outs n_wo n_out a1 = some u) : ∀ sz : Nat, Met l y_Q_turn (kwsH y_Q_turn c_Q_turn 4 (some .int) [(0, 9, 12, 13)]) rm_Q_turn (wPre (dC, dI) [.ref q_bp, .int a1, .ref q_out] [(q_bp, .inr (0, [.ref q_bk, .ref q_sa, .ref q_te, .ref q_twk, .ref q_len, .ref q_dis, .int pt, .ref q_li, .ref q_rwk, .ref q_va, .ref q_lr])), (q_li, .inr (3, [.ref q_wo, .int lcn, .int lak, .int nxt])), (q_wo, .inl (k_wo, n_wo, .inl wor)), (q_out, .inl (k_out, n_out, .inr (.inl outs)))] [(k_wo, .int), (k_out, .long)] sz) (kPost (dC, dI) (some (.int u.1)) [(q_bp, .inr (0, [.ref q_bk, .ref q_sa, .ref q_te, .ref q_twk, .ref q_len, .ref q_dis, .int pt, .ref q_li, .ref q_rwk, .ref q_va, .ref q_lr])), (q_li, .inr (3, [.ref q_wo, .int lcn, .int lak, .int nxt])), (q_wo, .inl (k_wo, n_wo, .inl u.2.1)), (q_out, .inl (k_out, n_out, .inr (.inl u.2.2)))] (va_A [(q_bp, .inr (0, [.ref q_bk, .ref q_sa, .ref q_te, .ref q_twk, .ref q_len, .ref q_dis, .int pt, .ref q_li, .ref q_rwk, .ref q_va, .ref q_lr])), (q_li, .inr (3, [.ref q_wo, .int lcn, .int lak, .int nxt])), (q_wo, .inl (k_wo, n_wo, .inl wor)), (q_out, .inl (k_out, n_out, .inr (.inl outs)))] sz)) 1 6 (va_A [(q_bp, .inr (0, [.ref q_bk, .ref q_sa, .ref q_te, .ref q_twk, .ref q_len, .ref q_dis, .int pt, .ref q_li, .ref q_rwk, .ref q_va, .ref q_lr])), (q_li, .inr (3, [.ref q_wo, .int lcn, .int lak, .int nxt])), (q_wo, .inl (k_wo, n_wo, .inl wor)), (q_out, .inl (k_out, n_out, .inr (.inl outs)))] sz) := by
  unfold f_Q_turn at hF
  refine wU_of (cc := c_Q_turn) (maxL := 4) (ret := (some .int)) (by decide) (Nat.le_of_ble_eq_true rfl) ?_
  intro p e s m args below meth c Q A hQ hfx htab hK hN hXK hWN hA hP hD ls hl
  have hS : va_S A s.heap s.heap [] := va_S.rf
  obtain ⟨ex1, hsplit, hex1⟩ := w_tbl1 htab
  obtain ⟨hx, hb, hr, hml, hown, hts, hlocks⟩ := hfx
  have hown : s.vm.findClass R_Q = some m.cls := hown
  have hl : lv_has ls 4 [(0, .ref q_bp), (1, .int a1), (2, .ref q_out)] := hl
  refine lv_aload_n hx hb d_Q_turn_0 rfl (lv_at hl 2 rfl) ?_
  refine lv_iconst (v := 0) hx hb d_Q_turn_1 (by decide) ?_
  refine lv_aload_n hx hb d_Q_turn_2 rfl (lv_at hl 0 rfl) ?_
  refine lv_iload_n hx hb d_Q_turn_3 rfl (lv_at hl 1 rfl) ?_
  obtain ⟨u1, hc, hF⟩ := kc_bnd hF
  refine xu_call (tag := u1.1) (wr := [(q_out, .inl (k_out, n_out, .inr (.inl outs)))]) hA (xrunV (As := [.int a1]) (rest := [.int (0 : Int32), .ref q_out]) ⟨hx, hb, hml, hown, hts⟩ (m_B_turn l dC dI q_bp q_bk q_len q_dis q_va q_lr q_te q_sa q_twk q_li q_wo q_rwk k_wo n_wo pt lcn lak nxt wor a1 hfl _ hc s.heap.size) (cwV 1 hts (kgV kw_3_88 kw_3_89 kw_3_90 kw_1_1 kw_3_91) rfl rfl rfl (by decide +kernel) ⟨Nat.le_of_ble_eq_true rfl, Nat.le_of_ble_eq_true rfl⟩) ⟨xPre_blind, va_recv hK hP (ci := 0) (q0 := 0) rfl rfl, xPre_of (hP.sub [0, 1, 2] rfl) (hK.sub [0] rfl) (hD.sub [0, 1, 2] (by decide) rfl) hN hXK⟩ rfl rfl hl.1 rfl (lv_room (Nat.le_of_ble_eq_true rfl)) d_Q_turn_4 ⟨Nat.le_of_ble_eq_true rfl, Nat.le_of_ble_eq_true rfl⟩) hP hD hS [0, 1, 2] [3] rfl rfl (by decide) (by decide) (fun htag H locs q ce hP hD hS hce hcv hcl => ?_) (fun htag H locs hP hD hS => ?_)
  · have hP : va_P (dC, dI) vwCl [(q_out, .inl (k_out, n_out, .inr (.inl outs))), (q_bp, .inr (0, [.ref q_bk, .ref q_sa, .ref q_te, .ref q_twk, .ref q_len, .ref q_dis, .int pt, .ref q_li, .ref q_rwk, .ref q_va, .ref q_lr])), (q_li, .inr (3, [.ref q_wo, .int lcn, .int lak, .int nxt])), (q_wo, .inl (k_wo, n_wo, .inl u1.2.2))] H := hP
    have hD : va_D A [(q_out, .inl (k_out, n_out, .inr (.inl outs))), (q_bp, .inr (0, [.ref q_bk, .ref q_sa, .ref q_te, .ref q_twk, .ref q_len, .ref q_dis, .int pt, .ref q_li, .ref q_rwk, .ref q_va, .ref q_lr])), (q_li, .inr (3, [.ref q_wo, .int lcn, .int lak, .int nxt])), (q_wo, .inl (k_wo, n_wo, .inl u1.2.2))] := hD
    have hF := kc_neg htag hF
    by_cases ht1 : u1.1 = 1
    · have hF := kc_pos ht1 hF
      rw [ht1] at hcl
      refine wcatch1 (E := xE 1) hown ex1 [] hsplit hex1 (by decide) (by decide) (hts _ kw_2_130) (va_Nw.use rfl (xn_1 hXK.2.2)) hce hcv hcl ?_
      refine W.widen (k := 1) (n := 6) (Nat.le_refl _) (Nat.le_refl _) ?_
      refine lv_astore_n (lv' := [(3, .ref q), (0, .ref q_bp), (1, .int a1), (2, .ref q_out)]) hx hb d_Q_turn_12 rfl hl (by decide) rfl (fun ls hl => ?_)
      refine lv_iconst (v := 1) hx hb d_Q_turn_13 (by decide) ?_
      obtain rfl := Option.some.inj hF
      exact ww_iret hx hb hr hlocks hQ (Nat.le_of_ble_eq_true rfl) (Nat.le_of_ble_eq_true rfl) (hP.sub [1, 2, 3, 0] rfl) (hD.sub [1, 2, 3, 0] (by decide) rfl) hS d_Q_turn_14
    have hF := kc_neg ht1 hF
    cases hF
  have hF := kc_pos htag hF
  refine W.widen (k := 1) (n := 6) (Nat.le_refl _) (Nat.le_refl _) ?_
  have hP : va_P (dC, dI) vwCl [(q_out, .inl (k_out, n_out, .inr (.inl outs))), (q_bp, .inr (0, [.ref q_bk, .ref q_sa, .ref q_te, .ref q_twk, .ref q_len, .ref q_dis, .int pt, .ref q_li, .ref q_rwk, .ref q_va, .ref q_lr])), (q_li, .inr (3, [.ref q_wo, .int lcn, .int lak, .int nxt])), (q_wo, .inl (k_wo, n_wo, .inl u1.2.2))] H := hP
  have hD : va_D A [(q_out, .inl (k_out, n_out, .inr (.inl outs))), (q_bp, .inr (0, [.ref q_bk, .ref q_sa, .ref q_te, .ref q_twk, .ref q_len, .ref q_dis, .int pt, .ref q_li, .ref q_rwk, .ref q_va, .ref q_lr])), (q_li, .inr (3, [.ref q_wo, .int lcn, .int lak, .int nxt])), (q_wo, .inl (k_wo, n_wo, .inl u1.2.2))] := hD
  refine lv_i2l (v := u1.2.1.toInt64) hx hb d_Q_turn_7 rfl ?_
  obtain ⟨h2, hF⟩ := kc_no hF
  refine va_last hx hb hK hP hD hS 0 1 rfl rfl h2 d_Q_turn_8 (fun H locs hP hD hS => ?_)
  have hP : va_P (dC, dI) vwCl [(q_out, .inl (k_out, n_out, .inr (.inl (vp_updL outs (0 : Int32).toNatClampNeg u1.2.1.toInt64)))), (q_bp, .inr (0, [.ref q_bk, .ref q_sa, .ref q_te, .ref q_twk, .ref q_len, .ref q_dis, .int pt, .ref q_li, .ref q_rwk, .ref q_va, .ref q_lr])), (q_li, .inr (3, [.ref q_wo, .int lcn, .int lak, .int nxt])), (q_wo, .inl (k_wo, n_wo, .inl u1.2.2))] H := hP
  have hD : va_D A [(q_out, .inl (k_out, n_out, .inr (.inl (vp_updL outs (0 : Int32).toNatClampNeg u1.2.1.toInt64)))), (q_bp, .inr (0, [.ref q_bk, .ref q_sa, .ref q_te, .ref q_twk, .ref q_len, .ref q_dis, .int pt, .ref q_li, .ref q_rwk, .ref q_va, .ref q_lr])), (q_li, .inr (3, [.ref q_wo, .int lcn, .int lak, .int nxt])), (q_wo, .inl (k_wo, n_wo, .inl u1.2.2))] := hD
  refine lv_goto (tgt := 15) hx hb d_Q_turn_9 (by decide) ?_
  refine lv_iconst (v := 0) hx hb d_Q_turn_15 (by decide) ?_
  obtain rfl := Option.some.inj hF
  exact ww_iret hx hb hr hlocks hQ (Nat.le_of_ble_eq_true rfl) (Nat.le_of_ble_eq_true rfl) (hP.sub [1, 2, 3, 0] rfl) (hD.sub [1, 2, 3, 0] (by decide) rfl) hS d_Q_turn_16
abbrev rm_Q_decode : Room := { frames := 7, cells := 1, slots := 6, locals := 175 }
set_option maxHeartbeats 4000000 in
set_option maxRecDepth 100000 in
theorem m_Q_decode (l : Launch) (dC : Nat → ClassId) (dI : Nat → Nat → Nat) (q_bp q_bk q_len q_dis q_va q_lr q_te q_sa q_twk q_li q_wo q_rwk q_rsg q_rsz q_rlo q_out : Nat) (k_va : ClassId) (n_va : Nat) (k_lr : ClassId) (n_lr : Nat) (k_wo : ClassId) (n_wo : Nat) (k_rsg : ClassId) (n_rsg : Nat) (k_rsz : ClassId) (n_rsz : Nat) (k_rlo : ClassId) (n_rlo : Nat) (k_out : ClassId) (n_out : Nat) (pt : Int32) (w : Int32) (h : Int32) (sty : Int32) (bd : Int32) (str : Int32) (cel : Int32) (vals : (Nat → Int32)) (lowr : (Nat → Int32)) (lcn : Int32) (lak : Int32) (nxt : Int32) (wor : (Nat → Int32)) (rpls : Int32) (rpl : Int32) (rraw : Int32) (rsgn : (Nat → Int32)) (rsiz : (Nat → Int32)) (rlow : (Nat → Int32)) (outs : (Nat → Int64)) (a1 : Int32) (a2 : Int32) (hfl : l.flags = pinnedFlags ++ [noTraceFlag]) (u : Int32 × (Nat → Int32) × (Nat → Int32) × Int32 × Int32 × Int32 × Int32 × Int32 × (Nat → Int32) × (Nat → Int32) × (Nat → Int32) × (Nat → Int64)) (hF : f_Q_decode w h sty bd str vals lowr lcn lak nxt wor rpls rpl rraw rsgn rsiz rlow outs n_va n_lr n_wo n_rsg n_rsz n_rlo n_out a1 a2 = some u) : ∀ sz : Nat, Met l y_Q_decode (kwsH y_Q_decode c_Q_decode 5 (some .int) [(0, 10, 13, 15)]) rm_Q_decode (wPre (dC, dI) [.ref q_bp, .int a1, .int a2, .ref q_out] [(q_bp, .inr (0, [.ref q_bk, .ref q_sa, .ref q_te, .ref q_twk, .ref q_len, .ref q_dis, .int pt, .ref q_li, .ref q_rwk, .ref q_va, .ref q_lr])), (q_bk, .inr (1, [.int w, .int h, .int sty, .int bd, .int str, .int cel])), (q_va, .inl (k_va, n_va, .inl vals)), (q_lr, .inl (k_lr, n_lr, .inl lowr)), (q_li, .inr (3, [.ref q_wo, .int lcn, .int lak, .int nxt])), (q_wo, .inl (k_wo, n_wo, .inl wor)), (q_rwk, .inr (4, [.ref q_bk, .ref q_li, .ref q_rsg, .ref q_rsz, .ref q_rlo, .int rpls, .int rpl, .int rraw])), (q_rsg, .inl (k_rsg, n_rsg, .inl rsgn)), (q_rsz, .inl (k_rsz, n_rsz, .inl rsiz)), (q_rlo, .inl (k_rlo, n_rlo, .inl rlow)), (q_out, .inl (k_out, n_out, .inr (.inl outs)))] [(k_va, .int), (k_lr, .int), (k_wo, .int), (k_rsg, .int), (k_rsz, .int), (k_rlo, .int), (k_out, .long)] sz) (kPost (dC, dI) (some (.int u.1)) [(q_bp, .inr (0, [.ref q_bk, .ref q_sa, .ref q_te, .ref q_twk, .ref q_len, .ref q_dis, .int pt, .ref q_li, .ref q_rwk, .ref q_va, .ref q_lr])), (q_bk, .inr (1, [.int w, .int h, .int sty, .int bd, .int str, .int cel])), (q_va, .inl (k_va, n_va, .inl u.2.1)), (q_lr, .inl (k_lr, n_lr, .inl u.2.2.1)), (q_li, .inr (3, [.ref q_wo, .int lcn, .int u.2.2.2.1, .int u.2.2.2.2.1])), (q_wo, .inl (k_wo, n_wo, .inl wor)), (q_rwk, .inr (4, [.ref q_bk, .ref q_li, .ref q_rsg, .ref q_rsz, .ref q_rlo, .int u.2.2.2.2.2.1, .int u.2.2.2.2.2.2.1, .int u.2.2.2.2.2.2.2.1])), (q_rsg, .inl (k_rsg, n_rsg, .inl u.2.2.2.2.2.2.2.2.1)), (q_rsz, .inl (k_rsz, n_rsz, .inl u.2.2.2.2.2.2.2.2.2.1)), (q_rlo, .inl (k_rlo, n_rlo, .inl u.2.2.2.2.2.2.2.2.2.2.1)), (q_out, .inl (k_out, n_out, .inr (.inl u.2.2.2.2.2.2.2.2.2.2.2)))] (va_A [(q_bp, .inr (0, [.ref q_bk, .ref q_sa, .ref q_te, .ref q_twk, .ref q_len, .ref q_dis, .int pt, .ref q_li, .ref q_rwk, .ref q_va, .ref q_lr])), (q_bk, .inr (1, [.int w, .int h, .int sty, .int bd, .int str, .int cel])), (q_va, .inl (k_va, n_va, .inl vals)), (q_lr, .inl (k_lr, n_lr, .inl lowr)), (q_li, .inr (3, [.ref q_wo, .int lcn, .int lak, .int nxt])), (q_wo, .inl (k_wo, n_wo, .inl wor)), (q_rwk, .inr (4, [.ref q_bk, .ref q_li, .ref q_rsg, .ref q_rsz, .ref q_rlo, .int rpls, .int rpl, .int rraw])), (q_rsg, .inl (k_rsg, n_rsg, .inl rsgn)), (q_rsz, .inl (k_rsz, n_rsz, .inl rsiz)), (q_rlo, .inl (k_rlo, n_rlo, .inl rlow)), (q_out, .inl (k_out, n_out, .inr (.inl outs)))] sz)) 1 6 (va_A [(q_bp, .inr (0, [.ref q_bk, .ref q_sa, .ref q_te, .ref q_twk, .ref q_len, .ref q_dis, .int pt, .ref q_li, .ref q_rwk, .ref q_va, .ref q_lr])), (q_bk, .inr (1, [.int w, .int h, .int sty, .int bd, .int str, .int cel])), (q_va, .inl (k_va, n_va, .inl vals)), (q_lr, .inl (k_lr, n_lr, .inl lowr)), (q_li, .inr (3, [.ref q_wo, .int lcn, .int lak, .int nxt])), (q_wo, .inl (k_wo, n_wo, .inl wor)), (q_rwk, .inr (4, [.ref q_bk, .ref q_li, .ref q_rsg, .ref q_rsz, .ref q_rlo, .int rpls, .int rpl, .int rraw])), (q_rsg, .inl (k_rsg, n_rsg, .inl rsgn)), (q_rsz, .inl (k_rsz, n_rsz, .inl rsiz)), (q_rlo, .inl (k_rlo, n_rlo, .inl rlow)), (q_out, .inl (k_out, n_out, .inr (.inl outs)))] sz) := by
  unfold f_Q_decode at hF
  refine wU_of (cc := c_Q_decode) (maxL := 5) (ret := (some .int)) (by decide) (Nat.le_of_ble_eq_true rfl) ?_
  intro p e s m args below meth c Q A hQ hfx htab hK hN hXK hWN hA hP hD ls hl
  have hS : va_S A s.heap s.heap [] := va_S.rf
  obtain ⟨ex1, hsplit, hex1⟩ := w_tbl1 htab
  obtain ⟨hx, hb, hr, hml, hown, hts, hlocks⟩ := hfx
  have hown : s.vm.findClass R_Q = some m.cls := hown
  have hl : lv_has ls 5 [(0, .ref q_bp), (1, .int a1), (2, .int a2), (3, .ref q_out)] := hl
  refine lv_aload_n hx hb d_Q_decode_0 rfl (lv_at hl 3 rfl) ?_
  refine lv_iconst (v := 0) hx hb d_Q_decode_1 (by decide) ?_
  refine lv_aload_n hx hb d_Q_decode_2 rfl (lv_at hl 0 rfl) ?_
  refine lv_iload_n hx hb d_Q_decode_3 rfl (lv_at hl 1 rfl) ?_
  refine lv_iload_n hx hb d_Q_decode_4 rfl (lv_at hl 2 rfl) ?_
  obtain ⟨u1, hc, hF⟩ := kc_bnd hF
  refine xu_call (tag := u1.1) (wr := [(q_out, .inl (k_out, n_out, .inr (.inl outs)))]) hA (xrunV (As := [.int a1, .int a2]) (rest := [.int (0 : Int32), .ref q_out]) ⟨hx, hb, hml, hown, hts⟩ (m_B_decode l dC dI q_bp q_bk q_len q_dis q_va q_lr q_te q_sa q_twk q_li q_wo q_rwk q_rsg q_rsz q_rlo k_va n_va k_lr n_lr k_wo n_wo k_rsg n_rsg k_rsz n_rsz k_rlo n_rlo pt w h sty bd str cel vals lowr lcn lak nxt wor rpls rpl rraw rsgn rsiz rlow a1 a2 hfl _ hc s.heap.size) (cwV 2 hts (kgV kw_3_100 kw_3_101 kw_3_102 kw_1_1 kw_3_103) rfl rfl rfl (by decide +kernel) ⟨Nat.le_of_ble_eq_true rfl, Nat.le_of_ble_eq_true rfl⟩) ⟨xPre_blind, va_recv hK hP (ci := 0) (q0 := 0) rfl rfl, xPre_of (hP.sub [0, 1, 2, 3, 4, 5, 6, 7, 8, 9] rfl) (hK.sub [0, 1, 2, 3, 4, 5] rfl) (hD.sub [0, 1, 2, 3, 4, 5, 6, 7, 8, 9] (by decide) rfl) hN hXK⟩ rfl rfl hl.1 rfl (lv_room (Nat.le_of_ble_eq_true rfl)) d_Q_decode_5 ⟨Nat.le_of_ble_eq_true rfl, Nat.le_of_ble_eq_true rfl⟩) hP hD hS [0, 1, 2, 3, 4, 5, 6, 7, 8, 9] [10] rfl rfl (by decide) (by decide) (fun htag H locs q ce hP hD hS hce hcv hcl => ?_) (fun htag H locs hP hD hS => ?_)
  · have hP : va_P (dC, dI) vwCl [(q_out, .inl (k_out, n_out, .inr (.inl outs))), (q_bp, .inr (0, [.ref q_bk, .ref q_sa, .ref q_te, .ref q_twk, .ref q_len, .ref q_dis, .int pt, .ref q_li, .ref q_rwk, .ref q_va, .ref q_lr])), (q_bk, .inr (1, [.int w, .int h, .int sty, .int bd, .int str, .int cel])), (q_va, .inl (k_va, n_va, .inl u1.2.2.1)), (q_lr, .inl (k_lr, n_lr, .inl u1.2.2.2.1)), (q_li, .inr (3, [.ref q_wo, .int lcn, .int u1.2.2.2.2.1, .int u1.2.2.2.2.2.1])), (q_wo, .inl (k_wo, n_wo, .inl wor)), (q_rwk, .inr (4, [.ref q_bk, .ref q_li, .ref q_rsg, .ref q_rsz, .ref q_rlo, .int u1.2.2.2.2.2.2.1, .int u1.2.2.2.2.2.2.2.1, .int u1.2.2.2.2.2.2.2.2.1])), (q_rsg, .inl (k_rsg, n_rsg, .inl u1.2.2.2.2.2.2.2.2.2.1)), (q_rsz, .inl (k_rsz, n_rsz, .inl u1.2.2.2.2.2.2.2.2.2.2.1)), (q_rlo, .inl (k_rlo, n_rlo, .inl u1.2.2.2.2.2.2.2.2.2.2.2))] H := hP
    have hD : va_D A [(q_out, .inl (k_out, n_out, .inr (.inl outs))), (q_bp, .inr (0, [.ref q_bk, .ref q_sa, .ref q_te, .ref q_twk, .ref q_len, .ref q_dis, .int pt, .ref q_li, .ref q_rwk, .ref q_va, .ref q_lr])), (q_bk, .inr (1, [.int w, .int h, .int sty, .int bd, .int str, .int cel])), (q_va, .inl (k_va, n_va, .inl u1.2.2.1)), (q_lr, .inl (k_lr, n_lr, .inl u1.2.2.2.1)), (q_li, .inr (3, [.ref q_wo, .int lcn, .int u1.2.2.2.2.1, .int u1.2.2.2.2.2.1])), (q_wo, .inl (k_wo, n_wo, .inl wor)), (q_rwk, .inr (4, [.ref q_bk, .ref q_li, .ref q_rsg, .ref q_rsz, .ref q_rlo, .int u1.2.2.2.2.2.2.1, .int u1.2.2.2.2.2.2.2.1, .int u1.2.2.2.2.2.2.2.2.1])), (q_rsg, .inl (k_rsg, n_rsg, .inl u1.2.2.2.2.2.2.2.2.2.1)), (q_rsz, .inl (k_rsz, n_rsz, .inl u1.2.2.2.2.2.2.2.2.2.2.1)), (q_rlo, .inl (k_rlo, n_rlo, .inl u1.2.2.2.2.2.2.2.2.2.2.2))] := hD
    have hF := kc_neg htag hF
    by_cases ht2 : u1.1 = 2
    · have hF := kc_pos ht2 hF
      rw [ht2] at hcl
      refine wcatch1 (E := xE 2) hown ex1 [] hsplit hex1 (by decide) (by decide) (hts _ kw_2_131) (va_Nw.use rfl (xn_2 hXK.2.2)) hce hcv hcl ?_
      refine W.widen (k := 1) (n := 6) (Nat.le_refl _) (Nat.le_refl _) ?_
      refine lv_astore (lv' := [(4, .ref q), (0, .ref q_bp), (1, .int a1), (2, .int a2), (3, .ref q_out)]) hx hb d_Q_decode_13 hl (by decide) rfl (fun ls hl => ?_)
      refine lv_iconst (v := 1) hx hb d_Q_decode_15 (by decide) ?_
      obtain rfl := Option.some.inj hF
      exact ww_iret hx hb hr hlocks hQ (Nat.le_of_ble_eq_true rfl) (Nat.le_of_ble_eq_true rfl) (hP.sub [1, 2, 3, 4, 5, 6, 7, 8, 9, 10, 0] rfl) (hD.sub [1, 2, 3, 4, 5, 6, 7, 8, 9, 10, 0] (by decide) rfl) hS d_Q_decode_16
    have hF := kc_neg ht2 hF
    cases hF
  have hF := kc_pos htag hF
  refine W.widen (k := 1) (n := 6) (Nat.le_refl _) (Nat.le_refl _) ?_
  have hP : va_P (dC, dI) vwCl [(q_out, .inl (k_out, n_out, .inr (.inl outs))), (q_bp, .inr (0, [.ref q_bk, .ref q_sa, .ref q_te, .ref q_twk, .ref q_len, .ref q_dis, .int pt, .ref q_li, .ref q_rwk, .ref q_va, .ref q_lr])), (q_bk, .inr (1, [.int w, .int h, .int sty, .int bd, .int str, .int cel])), (q_va, .inl (k_va, n_va, .inl u1.2.2.1)), (q_lr, .inl (k_lr, n_lr, .inl u1.2.2.2.1)), (q_li, .inr (3, [.ref q_wo, .int lcn, .int u1.2.2.2.2.1, .int u1.2.2.2.2.2.1])), (q_wo, .inl (k_wo, n_wo, .inl wor)), (q_rwk, .inr (4, [.ref q_bk, .ref q_li, .ref q_rsg, .ref q_rsz, .ref q_rlo, .int u1.2.2.2.2.2.2.1, .int u1.2.2.2.2.2.2.2.1, .int u1.2.2.2.2.2.2.2.2.1])), (q_rsg, .inl (k_rsg, n_rsg, .inl u1.2.2.2.2.2.2.2.2.2.1)), (q_rsz, .inl (k_rsz, n_rsz, .inl u1.2.2.2.2.2.2.2.2.2.2.1)), (q_rlo, .inl (k_rlo, n_rlo, .inl u1.2.2.2.2.2.2.2.2.2.2.2))] H := hP
  have hD : va_D A [(q_out, .inl (k_out, n_out, .inr (.inl outs))), (q_bp, .inr (0, [.ref q_bk, .ref q_sa, .ref q_te, .ref q_twk, .ref q_len, .ref q_dis, .int pt, .ref q_li, .ref q_rwk, .ref q_va, .ref q_lr])), (q_bk, .inr (1, [.int w, .int h, .int sty, .int bd, .int str, .int cel])), (q_va, .inl (k_va, n_va, .inl u1.2.2.1)), (q_lr, .inl (k_lr, n_lr, .inl u1.2.2.2.1)), (q_li, .inr (3, [.ref q_wo, .int lcn, .int u1.2.2.2.2.1, .int u1.2.2.2.2.2.1])), (q_wo, .inl (k_wo, n_wo, .inl wor)), (q_rwk, .inr (4, [.ref q_bk, .ref q_li, .ref q_rsg, .ref q_rsz, .ref q_rlo, .int u1.2.2.2.2.2.2.1, .int u1.2.2.2.2.2.2.2.1, .int u1.2.2.2.2.2.2.2.2.1])), (q_rsg, .inl (k_rsg, n_rsg, .inl u1.2.2.2.2.2.2.2.2.2.1)), (q_rsz, .inl (k_rsz, n_rsz, .inl u1.2.2.2.2.2.2.2.2.2.2.1)), (q_rlo, .inl (k_rlo, n_rlo, .inl u1.2.2.2.2.2.2.2.2.2.2.2))] := hD
  refine lv_i2l (v := u1.2.1.toInt64) hx hb d_Q_decode_8 rfl ?_
  obtain ⟨h2, hF⟩ := kc_no hF
  refine va_last hx hb hK hP hD hS 0 6 rfl rfl h2 d_Q_decode_9 (fun H locs hP hD hS => ?_)
  have hP : va_P (dC, dI) vwCl [(q_out, .inl (k_out, n_out, .inr (.inl (vp_updL outs (0 : Int32).toNatClampNeg u1.2.1.toInt64)))), (q_bp, .inr (0, [.ref q_bk, .ref q_sa, .ref q_te, .ref q_twk, .ref q_len, .ref q_dis, .int pt, .ref q_li, .ref q_rwk, .ref q_va, .ref q_lr])), (q_bk, .inr (1, [.int w, .int h, .int sty, .int bd, .int str, .int cel])), (q_va, .inl (k_va, n_va, .inl u1.2.2.1)), (q_lr, .inl (k_lr, n_lr, .inl u1.2.2.2.1)), (q_li, .inr (3, [.ref q_wo, .int lcn, .int u1.2.2.2.2.1, .int u1.2.2.2.2.2.1])), (q_wo, .inl (k_wo, n_wo, .inl wor)), (q_rwk, .inr (4, [.ref q_bk, .ref q_li, .ref q_rsg, .ref q_rsz, .ref q_rlo, .int u1.2.2.2.2.2.2.1, .int u1.2.2.2.2.2.2.2.1, .int u1.2.2.2.2.2.2.2.2.1])), (q_rsg, .inl (k_rsg, n_rsg, .inl u1.2.2.2.2.2.2.2.2.2.1)), (q_rsz, .inl (k_rsz, n_rsz, .inl u1.2.2.2.2.2.2.2.2.2.2.1)), (q_rlo, .inl (k_rlo, n_rlo, .inl u1.2.2.2.2.2.2.2.2.2.2.2))] H := hP
  have hD : va_D A [(q_out, .inl (k_out, n_out, .inr (.inl (vp_updL outs (0 : Int32).toNatClampNeg u1.2.1.toInt64)))), (q_bp, .inr (0, [.ref q_bk, .ref q_sa, .ref q_te, .ref q_twk, .ref q_len, .ref q_dis, .int pt, .ref q_li, .ref q_rwk, .ref q_va, .ref q_lr])), (q_bk, .inr (1, [.int w, .int h, .int sty, .int bd, .int str, .int cel])), (q_va, .inl (k_va, n_va, .inl u1.2.2.1)), (q_lr, .inl (k_lr, n_lr, .inl u1.2.2.2.1)), (q_li, .inr (3, [.ref q_wo, .int lcn, .int u1.2.2.2.2.1, .int u1.2.2.2.2.2.1])), (q_wo, .inl (k_wo, n_wo, .inl wor)), (q_rwk, .inr (4, [.ref q_bk, .ref q_li, .ref q_rsg, .ref q_rsz, .ref q_rlo, .int u1.2.2.2.2.2.2.1, .int u1.2.2.2.2.2.2.2.1, .int u1.2.2.2.2.2.2.2.2.1])), (q_rsg, .inl (k_rsg, n_rsg, .inl u1.2.2.2.2.2.2.2.2.2.1)), (q_rsz, .inl (k_rsz, n_rsz, .inl u1.2.2.2.2.2.2.2.2.2.2.1)), (q_rlo, .inl (k_rlo, n_rlo, .inl u1.2.2.2.2.2.2.2.2.2.2.2))] := hD
  refine lv_goto (tgt := 17) hx hb d_Q_decode_10 (by decide) ?_
  refine lv_iconst (v := 0) hx hb d_Q_decode_17 (by decide) ?_
  obtain rfl := Option.some.inj hF
  exact ww_iret hx hb hr hlocks hQ (Nat.le_of_ble_eq_true rfl) (Nat.le_of_ble_eq_true rfl) (hP.sub [1, 2, 3, 4, 5, 6, 7, 8, 9, 10, 0] rfl) (hD.sub [1, 2, 3, 4, 5, 6, 7, 8, 9, 10, 0] (by decide) rfl) hS d_Q_decode_18
abbrev rm_Q_at : Room := { frames := 8, cells := 1, slots := 6, locals := 126 }
set_option maxHeartbeats 4000000 in
set_option maxRecDepth 100000 in
theorem m_Q_at (l : Launch) (dC : Nat → ClassId) (dI : Nat → Nat → Nat) (q_bp q_bk q_len q_dis q_va q_lr q_te q_sa q_twk q_li q_rwk q_out : Nat) (k_va : ClassId) (n_va : Nat) (k_out : ClassId) (n_out : Nat) (pt : Int32) (w : Int32) (h : Int32) (sty : Int32) (bd : Int32) (str : Int32) (cel : Int32) (vals : (Nat → Int32)) (outs : (Nat → Int64)) (a1 : Int32) (a2 : Int32) (hfl : l.flags = pinnedFlags ++ [noTraceFlag]) (u : Int32 × (Nat → Int64)) (hF : f_Q_at w h str vals outs n_va n_out a1 a2 = some u) : ∀ sz : Nat, Met l y_Q_at (kwsH y_Q_at c_Q_at 5 (some .int) [(0, 10, 13, 13)]) rm_Q_at (wPre (dC, dI) [.ref q_bp, .int a1, .int a2, .ref q_out] [(q_bp, .inr (0, [.ref q_bk, .ref q_sa, .ref q_te, .ref q_twk, .ref q_len, .ref q_dis, .int pt, .ref q_li, .ref q_rwk, .ref q_va, .ref q_lr])), (q_bk, .inr (1, [.int w, .int h, .int sty, .int bd, .int str, .int cel])), (q_va, .inl (k_va, n_va, .inl vals)), (q_out, .inl (k_out, n_out, .inr (.inl outs)))] [(k_va, .int), (k_out, .long)] sz) (kPost (dC, dI) (some (.int u.1)) [(q_bp, .inr (0, [.ref q_bk, .ref q_sa, .ref q_te, .ref q_twk, .ref q_len, .ref q_dis, .int pt, .ref q_li, .ref q_rwk, .ref q_va, .ref q_lr])), (q_bk, .inr (1, [.int w, .int h, .int sty, .int bd, .int str, .int cel])), (q_va, .inl (k_va, n_va, .inl vals)), (q_out, .inl (k_out, n_out, .inr (.inl u.2)))] (va_A [(q_bp, .inr (0, [.ref q_bk, .ref q_sa, .ref q_te, .ref q_twk, .ref q_len, .ref q_dis, .int pt, .ref q_li, .ref q_rwk, .ref q_va, .ref q_lr])), (q_bk, .inr (1, [.int w, .int h, .int sty, .int bd, .int str, .int cel])), (q_va, .inl (k_va, n_va, .inl vals)), (q_out, .inl (k_out, n_out, .inr (.inl outs)))] sz)) 1 6 (va_A [(q_bp, .inr (0, [.ref q_bk, .ref q_sa, .ref q_te, .ref q_twk, .ref q_len, .ref q_dis, .int pt, .ref q_li, .ref q_rwk, .ref q_va, .ref q_lr])), (q_bk, .inr (1, [.int w, .int h, .int sty, .int bd, .int str, .int cel])), (q_va, .inl (k_va, n_va, .inl vals)), (q_out, .inl (k_out, n_out, .inr (.inl outs)))] sz) := by
  unfold f_Q_at at hF
  refine wU_of (cc := c_Q_at) (maxL := 5) (ret := (some .int)) (by decide) (Nat.le_of_ble_eq_true rfl) ?_
  intro p e s m args below meth c Q A hQ hfx htab hK hN hXK hWN hA hP hD ls hl
  have hS : va_S A s.heap s.heap [] := va_S.rf
  obtain ⟨ex1, hsplit, hex1⟩ := w_tbl1 htab
  obtain ⟨hx, hb, hr, hml, hown, hts, hlocks⟩ := hfx
  have hown : s.vm.findClass R_Q = some m.cls := hown
  have hl : lv_has ls 5 [(0, .ref q_bp), (1, .int a1), (2, .int a2), (3, .ref q_out)] := hl
  refine lv_aload_n hx hb d_Q_at_0 rfl (lv_at hl 3 rfl) ?_
  refine lv_iconst (v := 0) hx hb d_Q_at_1 (by decide) ?_
  refine lv_aload_n hx hb d_Q_at_2 rfl (lv_at hl 0 rfl) ?_
  refine lv_iload_n hx hb d_Q_at_3 rfl (lv_at hl 1 rfl) ?_
  refine lv_iload_n hx hb d_Q_at_4 rfl (lv_at hl 2 rfl) ?_
  obtain ⟨u1, hc, hF⟩ := kc_bnd hF
  refine xu_call (tag := u1.1) (wr := [(q_out, .inl (k_out, n_out, .inr (.inl outs)))]) hA (xrunV (As := [.int a1, .int a2]) (rest := [.int (0 : Int32), .ref q_out]) ⟨hx, hb, hml, hown, hts⟩ (m_B_at l dC dI q_bp q_bk q_len q_dis q_va q_lr q_te q_sa q_twk q_li q_rwk k_va n_va pt w h sty bd str cel vals a1 a2 hfl _ hc s.heap.size) (cwV 2 hts (kgV kw_3_116 kw_3_117 kw_3_118 kw_1_1 kw_3_119) rfl rfl rfl (by decide +kernel) ⟨Nat.le_of_ble_eq_true rfl, Nat.le_of_ble_eq_true rfl⟩) ⟨xPre_blind, va_recv hK hP (ci := 0) (q0 := 0) rfl rfl, xPre_of (hP.sub [0, 1, 2] rfl) (hK.sub [0] rfl) (hD.sub [0, 1, 2] (by decide) rfl) hN hXK⟩ rfl rfl hl.1 rfl (lv_room (Nat.le_of_ble_eq_true rfl)) d_Q_at_5 ⟨Nat.le_of_ble_eq_true rfl, Nat.le_of_ble_eq_true rfl⟩) hP hD hS [0, 1, 2] [3] rfl rfl (by decide) (by decide) (fun htag H locs q ce hP hD hS hce hcv hcl => ?_) (fun htag H locs hP hD hS => ?_)
  · have hP : va_P (dC, dI) vwCl [(q_out, .inl (k_out, n_out, .inr (.inl outs))), (q_bp, .inr (0, [.ref q_bk, .ref q_sa, .ref q_te, .ref q_twk, .ref q_len, .ref q_dis, .int pt, .ref q_li, .ref q_rwk, .ref q_va, .ref q_lr])), (q_bk, .inr (1, [.int w, .int h, .int sty, .int bd, .int str, .int cel])), (q_va, .inl (k_va, n_va, .inl vals))] H := hP
    have hD : va_D A [(q_out, .inl (k_out, n_out, .inr (.inl outs))), (q_bp, .inr (0, [.ref q_bk, .ref q_sa, .ref q_te, .ref q_twk, .ref q_len, .ref q_dis, .int pt, .ref q_li, .ref q_rwk, .ref q_va, .ref q_lr])), (q_bk, .inr (1, [.int w, .int h, .int sty, .int bd, .int str, .int cel])), (q_va, .inl (k_va, n_va, .inl vals))] := hD
    have hF := kc_neg htag hF
    by_cases ht1 : u1.1 = 1
    · have hF := kc_pos ht1 hF
      rw [ht1] at hcl
      refine wcatch1 (E := xE 1) hown ex1 [] hsplit hex1 (by decide) (by decide) (hts _ kw_2_130) (va_Nw.use rfl (xn_1 hXK.2.2)) hce hcv hcl ?_
      refine W.widen (k := 1) (n := 6) (Nat.le_refl _) (Nat.le_refl _) ?_
      refine lv_astore (lv' := [(4, .ref q), (0, .ref q_bp), (1, .int a1), (2, .int a2), (3, .ref q_out)]) hx hb d_Q_at_13 hl (by decide) rfl (fun ls hl => ?_)
      refine lv_iconst (v := 1) hx hb d_Q_at_15 (by decide) ?_
      obtain rfl := Option.some.inj hF
      exact ww_iret hx hb hr hlocks hQ (Nat.le_of_ble_eq_true rfl) (Nat.le_of_ble_eq_true rfl) (hP.sub [1, 2, 3, 0] rfl) (hD.sub [1, 2, 3, 0] (by decide) rfl) hS d_Q_at_16
    have hF := kc_neg ht1 hF
    cases hF
  have hF := kc_pos htag hF
  refine W.widen (k := 1) (n := 6) (Nat.le_refl _) (Nat.le_refl _) ?_
  have hP : va_P (dC, dI) vwCl [(q_out, .inl (k_out, n_out, .inr (.inl outs))), (q_bp, .inr (0, [.ref q_bk, .ref q_sa, .ref q_te, .ref q_twk, .ref q_len, .ref q_dis, .int pt, .ref q_li, .ref q_rwk, .ref q_va, .ref q_lr])), (q_bk, .inr (1, [.int w, .int h, .int sty, .int bd, .int str, .int cel])), (q_va, .inl (k_va, n_va, .inl vals))] H := hP
  have hD : va_D A [(q_out, .inl (k_out, n_out, .inr (.inl outs))), (q_bp, .inr (0, [.ref q_bk, .ref q_sa, .ref q_te, .ref q_twk, .ref q_len, .ref q_dis, .int pt, .ref q_li, .ref q_rwk, .ref q_va, .ref q_lr])), (q_bk, .inr (1, [.int w, .int h, .int sty, .int bd, .int str, .int cel])), (q_va, .inl (k_va, n_va, .inl vals))] := hD
  refine lv_i2l (v := u1.2.toInt64) hx hb d_Q_at_8 rfl ?_
  obtain ⟨h2, hF⟩ := kc_no hF
  refine va_last hx hb hK hP hD hS 0 1 rfl rfl h2 d_Q_at_9 (fun H locs hP hD hS => ?_)
  have hP : va_P (dC, dI) vwCl [(q_out, .inl (k_out, n_out, .inr (.inl (vp_updL outs (0 : Int32).toNatClampNeg u1.2.toInt64)))), (q_bp, .inr (0, [.ref q_bk, .ref q_sa, .ref q_te, .ref q_twk, .ref q_len, .ref q_dis, .int pt, .ref q_li, .ref q_rwk, .ref q_va, .ref q_lr])), (q_bk, .inr (1, [.int w, .int h, .int sty, .int bd, .int str, .int cel])), (q_va, .inl (k_va, n_va, .inl vals))] H := hP
  have hD : va_D A [(q_out, .inl (k_out, n_out, .inr (.inl (vp_updL outs (0 : Int32).toNatClampNeg u1.2.toInt64)))), (q_bp, .inr (0, [.ref q_bk, .ref q_sa, .ref q_te, .ref q_twk, .ref q_len, .ref q_dis, .int pt, .ref q_li, .ref q_rwk, .ref q_va, .ref q_lr])), (q_bk, .inr (1, [.int w, .int h, .int sty, .int bd, .int str, .int cel])), (q_va, .inl (k_va, n_va, .inl vals))] := hD
  refine lv_goto (tgt := 17) hx hb d_Q_at_10 (by decide) ?_
  refine lv_iconst (v := 0) hx hb d_Q_at_17 (by decide) ?_
  obtain rfl := Option.some.inj hF
  exact ww_iret hx hb hr hlocks hQ (Nat.le_of_ble_eq_true rfl) (Nat.le_of_ble_eq_true rfl) (hP.sub [1, 2, 3, 0] rfl) (hD.sub [1, 2, 3, 0] (by decide) rfl) hS d_Q_at_18
abbrev rm_Q_known : Room := { frames := 8, cells := 1, slots := 6, locals := 126 }
set_option maxHeartbeats 4000000 in
set_option maxRecDepth 100000 in
theorem m_Q_known (l : Launch) (dC : Nat → ClassId) (dI : Nat → Nat → Nat) (q_bp q_bk q_len q_dis q_va q_lr q_te q_sa q_twk q_li q_rwk q_out : Nat) (k_lr : ClassId) (n_lr : Nat) (k_out : ClassId) (n_out : Nat) (pt : Int32) (w : Int32) (h : Int32) (sty : Int32) (bd : Int32) (str : Int32) (cel : Int32) (lowr : (Nat → Int32)) (outs : (Nat → Int64)) (a1 : Int32) (a2 : Int32) (hfl : l.flags = pinnedFlags ++ [noTraceFlag]) (u : Int32 × (Nat → Int64)) (hF : f_Q_known w h str lowr outs n_lr n_out a1 a2 = some u) : ∀ sz : Nat, Met l y_Q_known (kwsH y_Q_known c_Q_known 5 (some .int) [(0, 10, 13, 13)]) rm_Q_known (wPre (dC, dI) [.ref q_bp, .int a1, .int a2, .ref q_out] [(q_bp, .inr (0, [.ref q_bk, .ref q_sa, .ref q_te, .ref q_twk, .ref q_len, .ref q_dis, .int pt, .ref q_li, .ref q_rwk, .ref q_va, .ref q_lr])), (q_bk, .inr (1, [.int w, .int h, .int sty, .int bd, .int str, .int cel])), (q_lr, .inl (k_lr, n_lr, .inl lowr)), (q_out, .inl (k_out, n_out, .inr (.inl outs)))] [(k_lr, .int), (k_out, .long)] sz) (kPost (dC, dI) (some (.int u.1)) [(q_bp, .inr (0, [.ref q_bk, .ref q_sa, .ref q_te, .ref q_twk, .ref q_len, .ref q_dis, .int pt, .ref q_li, .ref q_rwk, .ref q_va, .ref q_lr])), (q_bk, .inr (1, [.int w, .int h, .int sty, .int bd, .int str, .int cel])), (q_lr, .inl (k_lr, n_lr, .inl lowr)), (q_out, .inl (k_out, n_out, .inr (.inl u.2)))] (va_A [(q_bp, .inr (0, [.ref q_bk, .ref q_sa, .ref q_te, .ref q_twk, .ref q_len, .ref q_dis, .int pt, .ref q_li, .ref q_rwk, .ref q_va, .ref q_lr])), (q_bk, .inr (1, [.int w, .int h, .int sty, .int bd, .int str, .int cel])), (q_lr, .inl (k_lr, n_lr, .inl lowr)), (q_out, .inl (k_out, n_out, .inr (.inl outs)))] sz)) 1 6 (va_A [(q_bp, .inr (0, [.ref q_bk, .ref q_sa, .ref q_te, .ref q_twk, .ref q_len, .ref q_dis, .int pt, .ref q_li, .ref q_rwk, .ref q_va, .ref q_lr])), (q_bk, .inr (1, [.int w, .int h, .int sty, .int bd, .int str, .int cel])), (q_lr, .inl (k_lr, n_lr, .inl lowr)), (q_out, .inl (k_out, n_out, .inr (.inl outs)))] sz) := by
  unfold f_Q_known at hF
  refine wU_of (cc := c_Q_known) (maxL := 5) (ret := (some .int)) (by decide) (Nat.le_of_ble_eq_true rfl) ?_
  intro p e s m args below meth c Q A hQ hfx htab hK hN hXK hWN hA hP hD ls hl
  have hS : va_S A s.heap s.heap [] := va_S.rf
  obtain ⟨ex1, hsplit, hex1⟩ := w_tbl1 htab
  obtain ⟨hx, hb, hr, hml, hown, hts, hlocks⟩ := hfx
  have hown : s.vm.findClass R_Q = some m.cls := hown
  have hl : lv_has ls 5 [(0, .ref q_bp), (1, .int a1), (2, .int a2), (3, .ref q_out)] := hl
  refine lv_aload_n hx hb d_Q_known_0 rfl (lv_at hl 3 rfl) ?_
  refine lv_iconst (v := 0) hx hb d_Q_known_1 (by decide) ?_
  refine lv_aload_n hx hb d_Q_known_2 rfl (lv_at hl 0 rfl) ?_
  refine lv_iload_n hx hb d_Q_known_3 rfl (lv_at hl 1 rfl) ?_
  refine lv_iload_n hx hb d_Q_known_4 rfl (lv_at hl 2 rfl) ?_
  obtain ⟨u1, hc, hF⟩ := kc_bnd hF
  refine xu_call (tag := u1.1) (wr := [(q_out, .inl (k_out, n_out, .inr (.inl outs)))]) hA (xrunV (As := [.int a1, .int a2]) (rest := [.int (0 : Int32), .ref q_out]) ⟨hx, hb, hml, hown, hts⟩ (m_B_known l dC dI q_bp q_bk q_len q_dis q_va q_lr q_te q_sa q_twk q_li q_rwk k_lr n_lr pt w h sty bd str cel lowr a1 a2 hfl _ hc s.heap.size) (cwV 2 hts (kgV kw_3_123 kw_3_124 kw_3_125 kw_1_1 kw_3_126) rfl rfl rfl (by decide +kernel) ⟨Nat.le_of_ble_eq_true rfl, Nat.le_of_ble_eq_true rfl⟩) ⟨xPre_blind, va_recv hK hP (ci := 0) (q0 := 0) rfl rfl, xPre_of (hP.sub [0, 1, 2] rfl) (hK.sub [0] rfl) (hD.sub [0, 1, 2] (by decide) rfl) hN hXK⟩ rfl rfl hl.1 rfl (lv_room (Nat.le_of_ble_eq_true rfl)) d_Q_known_5 ⟨Nat.le_of_ble_eq_true rfl, Nat.le_of_ble_eq_true rfl⟩) hP hD hS [0, 1, 2] [3] rfl rfl (by decide) (by decide) (fun htag H locs q ce hP hD hS hce hcv hcl => ?_) (fun htag H locs hP hD hS => ?_)
  · have hP : va_P (dC, dI) vwCl [(q_out, .inl (k_out, n_out, .inr (.inl outs))), (q_bp, .inr (0, [.ref q_bk, .ref q_sa, .ref q_te, .ref q_twk, .ref q_len, .ref q_dis, .int pt, .ref q_li, .ref q_rwk, .ref q_va, .ref q_lr])), (q_bk, .inr (1, [.int w, .int h, .int sty, .int bd, .int str, .int cel])), (q_lr, .inl (k_lr, n_lr, .inl lowr))] H := hP
    have hD : va_D A [(q_out, .inl (k_out, n_out, .inr (.inl outs))), (q_bp, .inr (0, [.ref q_bk, .ref q_sa, .ref q_te, .ref q_twk, .ref q_len, .ref q_dis, .int pt, .ref q_li, .ref q_rwk, .ref q_va, .ref q_lr])), (q_bk, .inr (1, [.int w, .int h, .int sty, .int bd, .int str, .int cel])), (q_lr, .inl (k_lr, n_lr, .inl lowr))] := hD
    have hF := kc_neg htag hF
    by_cases ht1 : u1.1 = 1
    · have hF := kc_pos ht1 hF
      rw [ht1] at hcl
      refine wcatch1 (E := xE 1) hown ex1 [] hsplit hex1 (by decide) (by decide) (hts _ kw_2_130) (va_Nw.use rfl (xn_1 hXK.2.2)) hce hcv hcl ?_
      refine W.widen (k := 1) (n := 6) (Nat.le_refl _) (Nat.le_refl _) ?_
      refine lv_astore (lv' := [(4, .ref q), (0, .ref q_bp), (1, .int a1), (2, .int a2), (3, .ref q_out)]) hx hb d_Q_known_13 hl (by decide) rfl (fun ls hl => ?_)
      refine lv_iconst (v := 1) hx hb d_Q_known_15 (by decide) ?_
      obtain rfl := Option.some.inj hF
      exact ww_iret hx hb hr hlocks hQ (Nat.le_of_ble_eq_true rfl) (Nat.le_of_ble_eq_true rfl) (hP.sub [1, 2, 3, 0] rfl) (hD.sub [1, 2, 3, 0] (by decide) rfl) hS d_Q_known_16
    have hF := kc_neg ht1 hF
    cases hF
  have hF := kc_pos htag hF
  refine W.widen (k := 1) (n := 6) (Nat.le_refl _) (Nat.le_refl _) ?_
  have hP : va_P (dC, dI) vwCl [(q_out, .inl (k_out, n_out, .inr (.inl outs))), (q_bp, .inr (0, [.ref q_bk, .ref q_sa, .ref q_te, .ref q_twk, .ref q_len, .ref q_dis, .int pt, .ref q_li, .ref q_rwk, .ref q_va, .ref q_lr])), (q_bk, .inr (1, [.int w, .int h, .int sty, .int bd, .int str, .int cel])), (q_lr, .inl (k_lr, n_lr, .inl lowr))] H := hP
  have hD : va_D A [(q_out, .inl (k_out, n_out, .inr (.inl outs))), (q_bp, .inr (0, [.ref q_bk, .ref q_sa, .ref q_te, .ref q_twk, .ref q_len, .ref q_dis, .int pt, .ref q_li, .ref q_rwk, .ref q_va, .ref q_lr])), (q_bk, .inr (1, [.int w, .int h, .int sty, .int bd, .int str, .int cel])), (q_lr, .inl (k_lr, n_lr, .inl lowr))] := hD
  refine lv_i2l (v := u1.2.toInt64) hx hb d_Q_known_8 rfl ?_
  obtain ⟨h2, hF⟩ := kc_no hF
  refine va_last hx hb hK hP hD hS 0 1 rfl rfl h2 d_Q_known_9 (fun H locs hP hD hS => ?_)
  have hP : va_P (dC, dI) vwCl [(q_out, .inl (k_out, n_out, .inr (.inl (vp_updL outs (0 : Int32).toNatClampNeg u1.2.toInt64)))), (q_bp, .inr (0, [.ref q_bk, .ref q_sa, .ref q_te, .ref q_twk, .ref q_len, .ref q_dis, .int pt, .ref q_li, .ref q_rwk, .ref q_va, .ref q_lr])), (q_bk, .inr (1, [.int w, .int h, .int sty, .int bd, .int str, .int cel])), (q_lr, .inl (k_lr, n_lr, .inl lowr))] H := hP
  have hD : va_D A [(q_out, .inl (k_out, n_out, .inr (.inl (vp_updL outs (0 : Int32).toNatClampNeg u1.2.toInt64)))), (q_bp, .inr (0, [.ref q_bk, .ref q_sa, .ref q_te, .ref q_twk, .ref q_len, .ref q_dis, .int pt, .ref q_li, .ref q_rwk, .ref q_va, .ref q_lr])), (q_bk, .inr (1, [.int w, .int h, .int sty, .int bd, .int str, .int cel])), (q_lr, .inl (k_lr, n_lr, .inl lowr))] := hD
  refine lv_goto (tgt := 17) hx hb d_Q_known_10 (by decide) ?_
  refine lv_iconst (v := 0) hx hb d_Q_known_17 (by decide) ?_
  obtain rfl := Option.some.inj hF
  exact ww_iret hx hb hr hlocks hQ (Nat.le_of_ble_eq_true rfl) (Nat.le_of_ble_eq_true rfl) (hP.sub [1, 2, 3, 0] rfl) (hD.sub [1, 2, 3, 0] (by decide) rfl) hS d_Q_known_18

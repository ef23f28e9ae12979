def f_M_bits (mtb : Int32) : Int32 × Int32 :=
  (mtb, (0 : Int32))
def f_M_bit (mtb : Int32) (mbits : (Nat → Int32)) (mctxs : (Nat → Int32)) (mpaso : (Nat → Int32)) (n_mbi : Nat) (n_mcx : Nat) (n_mpa : Nat) (a0 : Int32) (a1 : Int32) : Option (Int32 × Int32) :=
  (((if a0 < 0 then some (1 : Int32) else (if a0 < mtb then (if a1 < 0 then some (2 : Int32) else (if a1 ≤ (2 : Int32) then some (0 : Int32) else some (2 : Int32))) else some (1 : Int32))) : Option (Int32)).bind fun u2 => (if u2 ≤ 0 then (if a1 = 0 then if (a0 < 0 ∨ n_mbi ≤ a0.toNatClampNeg) then none else some ((mbits a0.toNatClampNeg), u2) else (if a1 = (1 : Int32) then if (a0 < 0 ∨ n_mcx ≤ a0.toNatClampNeg) then none else some ((mctxs a0.toNatClampNeg), u2) else if (a0 < 0 ∨ n_mpa ≤ a0.toNatClampNeg) then none else some ((mpaso a0.toNatClampNeg), u2))) else some ((0 : Int32), u2)))
def f_M_isPass (mps : Int32) (a0 : Int32) : Int32 × Int32 :=
  (if a0 < 0 then ((0 : Int32), (1 : Int32)) else (if a0 < mps then ((1 : Int32), (0 : Int32)) else ((0 : Int32), (1 : Int32))))
def f_M_length (mps : Int32) (mlens : (Nat → Int32)) (n_mle : Nat) (a0 : Int32) : Option (Int32 × Int32) :=
  (if (f_M_isPass mps a0).1 = 0 then some ((0 : Int32), (f_M_isPass mps a0).2) else if (a0 < 0 ∨ n_mle ≤ a0.toNatClampNeg) then none else some ((mlens a0.toNatClampNeg), (f_M_isPass mps a0).2))
def f_M_distortion (mps : Int32) (mdiss : (Nat → Int64)) (n_mdi : Nat) (a0 : Int32) : Option (Int64 × Int32) :=
  (if (f_M_isPass mps a0).1 = 0 then some ((0 : Int64), (f_M_isPass mps a0).2) else if (a0 < 0 ∨ n_mdi ≤ a0.toNatClampNeg) then none else some ((mdiss a0.toNatClampNeg), (f_M_isPass mps a0).2))
def f_M_kind (mps : Int32) (a0 : Int32) : Int32 × Int32 :=
  (if (f_M_isPass mps a0).1 = 0 then ((0 : Int32), (f_M_isPass mps a0).2) else ((f_MS_kindOf a0), (f_M_isPass mps a0).2))
def f_M_terminated (mst : Int32) (mps : Int32) (a0 : Int32) : Int32 × Int32 :=
  (if (f_M_isPass mps a0).1 = 0 then ((0 : Int32), (f_M_isPass mps a0).2) else (if a0 = (mps - (1 : Int32)) then ((1 : Int32), (f_M_isPass mps a0).2) else (if (f_M_has mst (4 : Int32)) = 0 then (if (f_M_has mst (1 : Int32)) = 0 then ((0 : Int32), (f_M_isPass mps a0).2) else (if a0 < (9 : Int32) then ((0 : Int32), (f_M_isPass mps a0).2) else (if (f_MS_kindOf a0) ≤ 0 then ((0 : Int32), (f_M_isPass mps a0).2) else ((1 : Int32), (f_M_isPass mps a0).2)))) else ((1 : Int32), (f_M_isPass mps a0).2))))
def f_M_feed (mtr : Int32) (mreads : (Nat → Int32)) (n_mrd : Nat) (a0 : Int32) : Option (Int32 × Int32 × Int32 × (Nat → Int32)) :=
  (((if a0 < 0 then some (1 : Int32) else (if a0 ≤ (1 : Int32) then (if mtr = (12000 : Int32) then some (2 : Int32) else some (0 : Int32)) else some (1 : Int32))) : Option (Int32)).bind fun u2 => (if u2 ≤ 0 then if (mtr < 0 ∨ n_mrd ≤ mtr.toNatClampNeg) then none else some ((mtr + (1 : Int32)), u2, (mtr + (1 : Int32)), (upd mreads mtr.toNatClampNeg a0)) else some ((0 : Int32), u2, mtr, mreads)))
def f_M_pass_L57 (mtr : Int32) (mbits : (Nat → Int32)) (n_mbi : Nat) (n_mrd : Nat) (u2 : Int32) : Nat → Int32 → (Nat → Int32) → Option (Int32 × (Nat → Int32))
  | 0, _, _ => none
  | N + 1, v57_3, mreads_57 => (if u2 ≤ v57_3 then some (v57_3, mreads_57) else if (v57_3 < 0 ∨ n_mbi ≤ v57_3.toNatClampNeg) then none else if ((mtr + v57_3) < 0 ∨ n_mrd ≤ (mtr + v57_3).toNatClampNeg) then none else f_M_pass_L57 mtr mbits n_mbi n_mrd u2 N (v57_3 + 1) (upd mreads_57 (mtr + v57_3).toNatClampNeg (mbits v57_3.toNatClampNeg)))
def f_M_pass (mtb : Int32) (mtr : Int32) (mbits : (Nat → Int32)) (mreads : (Nat → Int32)) (n_mbi : Nat) (n_mrd : Nat) (a0 : Int32) : Option (Int32 × Int32 × Int32 × (Nat → Int32)) :=
  (((if mtb ≤ a0 then some (mtb) else some (a0)) : Option (Int32)).bind fun u2 => (((if 0 ≤ a0 then (if (mtr + u2) ≤ (12000 : Int32) then some (0 : Int32) else some (2 : Int32)) else some (1 : Int32)) : Option (Int32)).bind fun u4 => (if u4 ≤ 0 then ((f_M_pass_L57 mtr mbits n_mbi n_mrd u2 kBig (0 : Int32) mreads).bind fun u6 => some (u2, u4, (mtr + u2), u6.2)) else some ((0 : Int32), u4, mtr, mreads))))
def f_M_turn (mtr : Int32) (mreads : (Nat → Int32)) (n_mrd : Nat) (a0 : Int32) : Option (Int32 × Int32 × (Nat → Int32)) :=
  (((if a0 < 0 then some (1 : Int32) else (if a0 < mtr then some (0 : Int32) else some (1 : Int32))) : Option (Int32)).bind fun u2 => (if u2 ≤ 0 then if (a0 < 0 ∨ n_mrd ≤ a0.toNatClampNeg) then none else if (a0 < 0 ∨ n_mrd ≤ a0.toNatClampNeg) then none else if (a0 < 0 ∨ n_mrd ≤ a0.toNatClampNeg) then none else some (((upd mreads a0.toNatClampNeg ((1 : Int32) - (mreads a0.toNatClampNeg))) a0.toNatClampNeg), u2, (upd mreads a0.toNatClampNeg ((1 : Int32) - (mreads a0.toNatClampNeg)))) else some ((0 : Int32), u2, mreads)))
def f_M_save_L2 (msizs : (Nat → Int32)) (mbels : (Nat → Int32)) (mlows : (Nat → Int32)) (n_msz : Nat) (n_mbe : Nat) (n_mlo : Nat) (n_mos : Nat) (n_mwb : Nat) (n_mol : Nat) : Nat → Int32 → (Nat → Int32) → (Nat → Int32) → (Nat → Int32) → Option (Int32 × (Nat → Int32) × (Nat → Int32) × (Nat → Int32))
  | 0, _, _, _, _ => none
  | N + 1, v2_1, moszs_2, mwbls_2, molws_2 => (if (256 : Int32) ≤ v2_1 then some (v2_1, moszs_2, mwbls_2, molws_2) else if (v2_1 < 0 ∨ n_msz ≤ v2_1.toNatClampNeg) then none else if (v2_1 < 0 ∨ n_mos ≤ v2_1.toNatClampNeg) then none else if (v2_1 < 0 ∨ n_mbe ≤ v2_1.toNatClampNeg) then none else if (v2_1 < 0 ∨ n_mwb ≤ v2_1.toNatClampNeg) then none else if (v2_1 < 0 ∨ n_mlo ≤ v2_1.toNatClampNeg) then none else if (v2_1 < 0 ∨ n_mol ≤ v2_1.toNatClampNeg) then none else f_M_save_L2 msizs mbels mlows n_msz n_mbe n_mlo n_mos n_mwb n_mol N (v2_1 + 1) (upd moszs_2 v2_1.toNatClampNeg (msizs v2_1.toNatClampNeg)) (upd mwbls_2 v2_1.toNatClampNeg (vp_nar .boolean (mbels v2_1.toNatClampNeg))) (upd molws_2 v2_1.toNatClampNeg (mlows v2_1.toNatClampNeg)))
def f_M_save (msizs : (Nat → Int32)) (mbels : (Nat → Int32)) (mlows : (Nat → Int32)) (moszs : (Nat → Int32)) (mwbls : (Nat → Int32)) (molws : (Nat → Int32)) (n_msz : Nat) (n_mbe : Nat) (n_mlo : Nat) (n_mos : Nat) (n_mwb : Nat) (n_mol : Nat) : Option ((Nat → Int32) × (Nat → Int32) × (Nat → Int32)) :=
  ((f_M_save_L2 msizs mbels mlows n_msz n_mbe n_mlo n_mos n_mwb n_mol kBig (0 : Int32) moszs mwbls molws).bind fun u1 => some (u1.2.1, u1.2.2.1, u1.2.2.2))
def f_M_keep_L2 (mlak : Int32) (msizs : (Nat → Int32)) (mbels : (Nat → Int32)) (mlows : (Nat → Int32)) (moszs : (Nat → Int32)) (mwbls : (Nat → Int32)) (molws : (Nat → Int32)) (n_msz : Nat) (n_mbe : Nat) (n_mlo : Nat) (n_mos : Nat) (n_mwb : Nat) (n_mol : Nat) (n_mrv : Nat) (n_mrl : Nat) : Nat → Int32 → (Nat → Int32) → (Nat → Int32) → Option (Int32 × (Nat → Int32) × (Nat → Int32))
  | 0, _, _, _ => none
  | N + 1, v2_1, mrvas_2, mrlos_2 => (if (256 : Int32) ≤ v2_1 then some (v2_1, mrvas_2, mrlos_2) else (((if mlak = 0 then if (v2_1 < 0 ∨ n_msz ≤ v2_1.toNatClampNeg) then none else some (msizs v2_1.toNatClampNeg) else if (v2_1 < 0 ∨ n_mos ≤ v2_1.toNatClampNeg) then none else some (moszs v2_1.toNatClampNeg)) : Option (Int32)).bind fun u4 => (((if mlak = 0 then if (v2_1 < 0 ∨ n_mbe ≤ v2_1.toNatClampNeg) then none else some (mbels v2_1.toNatClampNeg) else if (v2_1 < 0 ∨ n_mwb ≤ v2_1.toNatClampNeg) then none else some (mwbls v2_1.toNatClampNeg)) : Option (Int32)).bind fun u6 => (((if u6 = 0 then some (u4) else some (-u4)) : Option (Int32)).bind fun u8 => if (v2_1 < 0 ∨ n_mrv ≤ v2_1.toNatClampNeg) then none else (((if mlak = 0 then if (v2_1 < 0 ∨ n_mlo ≤ v2_1.toNatClampNeg) then none else some (mlows v2_1.toNatClampNeg) else if (v2_1 < 0 ∨ n_mol ≤ v2_1.toNatClampNeg) then none else some (molws v2_1.toNatClampNeg)) : Option (Int32)).bind fun u11 => if (v2_1 < 0 ∨ n_mrl ≤ v2_1.toNatClampNeg) then none else f_M_keep_L2 mlak msizs mbels mlows moszs mwbls molws n_msz n_mbe n_mlo n_mos n_mwb n_mol n_mrv n_mrl N (v2_1 + 1) (upd mrvas_2 v2_1.toNatClampNeg u8) (upd mrlos_2 v2_1.toNatClampNeg u11))))))
def f_M_keep (mlak : Int32) (msizs : (Nat → Int32)) (mbels : (Nat → Int32)) (mlows : (Nat → Int32)) (moszs : (Nat → Int32)) (mwbls : (Nat → Int32)) (molws : (Nat → Int32)) (mrvas : (Nat → Int32)) (mrlos : (Nat → Int32)) (n_msz : Nat) (n_mbe : Nat) (n_mlo : Nat) (n_mos : Nat) (n_mwb : Nat) (n_mol : Nat) (n_mrv : Nat) (n_mrl : Nat) : Option ((Nat → Int32) × (Nat → Int32)) :=
  ((f_M_keep_L2 mlak msizs mbels mlows moszs mwbls molws n_msz n_mbe n_mlo n_mos n_mwb n_mol n_mrv n_mrl kBig (0 : Int32) mrvas mrlos).bind fun u1 => some (u1.2.1, u1.2.2))
def f_M_decode_L75 (mw : Int32) (mh : Int32) (mst : Int32) (mbd : Int32) (mtr : Int32) (msam : (Nat → Int32)) (mreads : (Nat → Int32)) (n_msa : Nat) (n_mbi : Nat) (n_mcx : Nat) (n_mpa : Nat) (n_mrd : Nat) (n_msz : Nat) (n_mbe : Nat) (n_mfa : Nat) (n_mse : Nat) (n_mrf : Nat) (n_mlo : Nat) (n_mos : Nat) (n_mwb : Nat) (n_mol : Nat) (a0 : Int32) (u5 : Int32) : Nat → Int32 → Int32 → Int32 → Int32 → Int32 → Int32 → Int32 → Int32 → (Nat → Int32) → (Nat → Int32) → (Nat → Int32) → (Nat → Int32) → (Nat → Int32) → (Nat → Int32) → (Nat → Int32) → (Nat → Int32) → (Nat → Int32) → (Nat → Int32) → (Nat → Int32) → (Nat → Int32) → Option (Int32 × Int32 × Int32 × Int32 × Int32 × Int32 × Int32 × Int32 × (Nat → Int32) × (Nat → Int32) × (Nat → Int32) × (Nat → Int32) × (Nat → Int32) × (Nat → Int32) × (Nat → Int32) × (Nat → Int32) × (Nat → Int32) × (Nat → Int32) × (Nat → Int32) × (Nat → Int32))
  | 0, _, _, _, _, _, _, _, _, _, _, _, _, _, _, _, _, _, _, _, _ => none
  | N + 1, v75_4, v75_5, mtb_75, mplc_75, mlak_75, mpl_75, mpass_75, mraw_75, mbits_75, mctxs_75, mpaso_75, msizs_75, mbels_75, mfnds_75, mseen_75, mrfnd_75, mlows_75, moszs_75, mwbls_75, molws_75 => (if u5 ≤ v75_4 then some (v75_4, v75_5, mtb_75, mplc_75, mlak_75, mpl_75, mpass_75, mraw_75, mbits_75, mctxs_75, mpaso_75, msizs_75, mbels_75, mfnds_75, mseen_75, mrfnd_75, mlows_75, moszs_75, mwbls_75, molws_75) else (if v75_5 = 0 then some (v75_4, v75_5, mtb_75, mplc_75, mlak_75, mpl_75, mpass_75, mraw_75, mbits_75, mctxs_75, mpaso_75, msizs_75, mbels_75, mfnds_75, mseen_75, mrfnd_75, mlows_75, moszs_75, mwbls_75, molws_75) else (if mlak_75 = 0 then ((f_M_save msizs_75 mbels_75 mlows_75 moszs_75 mwbls_75 molws_75 n_msz n_mbe n_mlo n_mos n_mwb n_mol).bind fun u14 => ((f_M_go mw mh mst mbd mtb_75 mtr (1 : Int32) mplc_75 mlak_75 msam mbits_75 mctxs_75 mpaso_75 mreads msizs_75 mbels_75 mfnds_75 mseen_75 mrfnd_75 mlows_75 n_msa n_mbi n_mcx n_mpa n_mrd n_msz n_mbe n_mfa n_mse n_mrf n_mlo v75_4 a0).bind fun u15 => (((if u15.2.2.2.1 = 0 then some (v75_4 + (1 : Int32)) else some (v75_4)) : Option (Int32)).bind fun u17 => f_M_decode_L75 mw mh mst mbd mtr msam mreads n_msa n_mbi n_mcx n_mpa n_mrd n_msz n_mbe n_mfa n_mse n_mrf n_mlo n_mos n_mwb n_mol a0 u5 N u17 u15.1 u15.2.1 u15.2.2.1 u15.2.2.2.1 u15.2.2.2.2.1 u15.2.2.2.2.2.1 u15.2.2.2.2.2.2.1 u15.2.2.2.2.2.2.2.1 u15.2.2.2.2.2.2.2.2.1 u15.2.2.2.2.2.2.2.2.2.1 u15.2.2.2.2.2.2.2.2.2.2.1 u15.2.2.2.2.2.2.2.2.2.2.2.1 u15.2.2.2.2.2.2.2.2.2.2.2.2.1 u15.2.2.2.2.2.2.2.2.2.2.2.2.2.1 u15.2.2.2.2.2.2.2.2.2.2.2.2.2.2.1 u15.2.2.2.2.2.2.2.2.2.2.2.2.2.2.2 u14.1 u14.2.1 u14.2.2))) else some (v75_4, v75_5, mtb_75, mplc_75, mlak_75, mpl_75, mpass_75, mraw_75, mbits_75, mctxs_75, mpaso_75, msizs_75, mbels_75, mfnds_75, mseen_75, mrfnd_75, mlows_75, moszs_75, mwbls_75, molws_75))))
def f_M_decode (mw : Int32) (mh : Int32) (mst : Int32) (mbd : Int32) (mtb : Int32) (mtr : Int32) (misr : Int32) (mplc : Int32) (mlak : Int32) (mpl : Int32) (mpass : Int32) (mraw : Int32) (msam : (Nat → Int32)) (mbits : (Nat → Int32)) (mctxs : (Nat → Int32)) (mpaso : (Nat → Int32)) (mreads : (Nat → Int32)) (msizs : (Nat → Int32)) (mbels : (Nat → Int32)) (mfnds : (Nat → Int32)) (mseen : (Nat → Int32)) (mrfnd : (Nat → Int32)) (mlows : (Nat → Int32)) (moszs : (Nat → Int32)) (mwbls : (Nat → Int32)) (molws : (Nat → Int32)) (mrvas : (Nat → Int32)) (mrlos : (Nat → Int32)) (n_msa : Nat) (n_mbi : Nat) (n_mcx : Nat) (n_mpa : Nat) (n_mrd : Nat) (n_msz : Nat) (n_mbe : Nat) (n_mfa : Nat) (n_mse : Nat) (n_mrf : Nat) (n_mlo : Nat) (n_mos : Nat) (n_mwb : Nat) (n_mol : Nat) (n_mrv : Nat) (n_mrl : Nat) (a0 : Int32) (a1 : Int32) : Option (Int32 × Int32 × Int32 × Int32 × Int32 × Int32 × Int32 × Int32 × Int32 × (Nat → Int32) × (Nat → Int32) × (Nat → Int32) × (Nat → Int32) × (Nat → Int32) × (Nat → Int32) × (Nat → Int32) × (Nat → Int32) × (Nat → Int32) × (Nat → Int32) × (Nat → Int32) × (Nat → Int32) × (Nat → Int32) × (Nat → Int32)) :=
  (((if a0 < 0 then some (1 : Int32) else (if (15 : Int32) < a0 then some (1 : Int32) else (if 0 ≤ a1 then some (0 : Int32) else some (1 : Int32)))) : Option (Int32)).bind fun u2 => (if u2 ≤ 0 then (((if a1 ≤ (f_MS_passesFor a0) then some (a1) else some (f_MS_passesFor a0)) : Option (Int32)).bind fun u5 => ((f_M_begin msizs mbels mfnds mseen mrfnd mlows n_msz n_mbe n_mfa n_mse n_mrf n_mlo a0).bind fun u6 => ((f_M_decode_L75 mw mh mst mbd mtr msam mreads n_msa n_mbi n_mcx n_mpa n_mrd n_msz n_mbe n_mfa n_mse n_mrf n_mlo n_mos n_mwb n_mol a0 u5 kBig (0 : Int32) (1 : Int32) mtb (0 : Int32) (0 : Int32) mpl mpass mraw mbits mctxs mpaso u6.1 u6.2.1 u6.2.2.1 u6.2.2.2.1 u6.2.2.2.2.1 u6.2.2.2.2.2 moszs mwbls molws).bind fun u7 => ((f_M_keep u7.2.2.2.2.1 u7.2.2.2.2.2.2.2.2.2.2.2.1 u7.2.2.2.2.2.2.2.2.2.2.2.2.1 u7.2.2.2.2.2.2.2.2.2.2.2.2.2.2.2.2.1 u7.2.2.2.2.2.2.2.2.2.2.2.2.2.2.2.2.2.1 u7.2.2.2.2.2.2.2.2.2.2.2.2.2.2.2.2.2.2.1 u7.2.2.2.2.2.2.2.2.2.2.2.2.2.2.2.2.2.2.2 mrvas mrlos n_msz n_mbe n_mlo n_mos n_mwb n_mol n_mrv n_mrl).bind fun u8 => (if u7.2.2.2.2.1 = 0 then (if u7.2.1 = 0 then some (((-1 : Int32) - (u7.1 - (1 : Int32))), u2, u7.2.2.1, (1 : Int32), u7.2.2.2.1, u7.2.2.2.2.1, u7.2.2.2.2.2.1, u7.2.2.2.2.2.2.1, u7.2.2.2.2.2.2.2.1, u7.2.2.2.2.2.2.2.2.1, u7.2.2.2.2.2.2.2.2.2.1, u7.2.2.2.2.2.2.2.2.2.2.1, u7.2.2.2.2.2.2.2.2.2.2.2.1, u7.2.2.2.2.2.2.2.2.2.2.2.2.1, u7.2.2.2.2.2.2.2.2.2.2.2.2.2.1, u7.2.2.2.2.2.2.2.2.2.2.2.2.2.2.1, u7.2.2.2.2.2.2.2.2.2.2.2.2.2.2.2.1, u7.2.2.2.2.2.2.2.2.2.2.2.2.2.2.2.2.1, u7.2.2.2.2.2.2.2.2.2.2.2.2.2.2.2.2.2.1, u7.2.2.2.2.2.2.2.2.2.2.2.2.2.2.2.2.2.2.1, u7.2.2.2.2.2.2.2.2.2.2.2.2.2.2.2.2.2.2.2, u8.1, u8.2) else some (u7.1, u2, u7.2.2.1, (1 : Int32), u7.2.2.2.1, u7.2.2.2.2.1, u7.2.2.2.2.2.1, u7.2.2.2.2.2.2.1, u7.2.2.2.2.2.2.2.1, u7.2.2.2.2.2.2.2.2.1, u7.2.2.2.2.2.2.2.2.2.1, u7.2.2.2.2.2.2.2.2.2.2.1, u7.2.2.2.2.2.2.2.2.2.2.2.1, u7.2.2.2.2.2.2.2.2.2.2.2.2.1, u7.2.2.2.2.2.2.2.2.2.2.2.2.2.1, u7.2.2.2.2.2.2.2.2.2.2.2.2.2.2.1, u7.2.2.2.2.2.2.2.2.2.2.2.2.2.2.2.1, u7.2.2.2.2.2.2.2.2.2.2.2.2.2.2.2.2.1, u7.2.2.2.2.2.2.2.2.2.2.2.2.2.2.2.2.2.1, u7.2.2.2.2.2.2.2.2.2.2.2.2.2.2.2.2.2.2.1, u7.2.2.2.2.2.2.2.2.2.2.2.2.2.2.2.2.2.2.2, u8.1, u8.2)) else some (u7.1, u2, u7.2.2.1, (1 : Int32), u7.2.2.2.1, u7.2.2.2.2.1, u7.2.2.2.2.2.1, u7.2.2.2.2.2.2.1, u7.2.2.2.2.2.2.2.1, u7.2.2.2.2.2.2.2.2.1, u7.2.2.2.2.2.2.2.2.2.1, u7.2.2.2.2.2.2.2.2.2.2.1, u7.2.2.2.2.2.2.2.2.2.2.2.1, u7.2.2.2.2.2.2.2.2.2.2.2.2.1, u7.2.2.2.2.2.2.2.2.2.2.2.2.2.1, u7.2.2.2.2.2.2.2.2.2.2.2.2.2.2.1, u7.2.2.2.2.2.2.2.2.2.2.2.2.2.2.2.1, u7.2.2.2.2.2.2.2.2.2.2.2.2.2.2.2.2.1, u7.2.2.2.2.2.2.2.2.2.2.2.2.2.2.2.2.2.1, u7.2.2.2.2.2.2.2.2.2.2.2.2.2.2.2.2.2.2.1, u7.2.2.2.2.2.2.2.2.2.2.2.2.2.2.2.2.2.2.2, u8.1, u8.2)))))) else some ((0 : Int32), u2, mtb, misr, mplc, mlak, mpl, mpass, mraw, mbits, mctxs, mpaso, msizs, mbels, mfnds, mseen, mrfnd, mlows, moszs, mwbls, molws, mrvas, mrlos)))
def f_M_at (mw : Int32) (mh : Int32) (mrvas : (Nat → Int32)) (n_mrv : Nat) (a0 : Int32) (a1 : Int32) : Option (Int32 × Int32) :=
  (((if (f_M_isIn mw mh a0 a1) = 0 then some (1 : Int32) else some (0 : Int32)) : Option (Int32)).bind fun u2 => (if u2 ≤ 0 then if ((((16 : Int32) * a1) + a0) < 0 ∨ n_mrv ≤ (((16 : Int32) * a1) + a0).toNatClampNeg) then none else some ((mrvas (((16 : Int32) * a1) + a0).toNatClampNeg), u2) else some ((0 : Int32), u2)))
def f_M_known (mw : Int32) (mh : Int32) (mrlos : (Nat → Int32)) (n_mrl : Nat) (a0 : Int32) (a1 : Int32) : Option (Int32 × Int32) :=
  (((if (f_M_isIn mw mh a0 a1) = 0 then some (1 : Int32) else some (0 : Int32)) : Option (Int32)).bind fun u2 => (if u2 ≤ 0 then if ((((16 : Int32) * a1) + a0) < 0 ∨ n_mrl ≤ (((16 : Int32) * a1) + a0).toNatClampNeg) then none else some ((mrlos (((16 : Int32) * a1) + a0).toNatClampNeg), u2) else some ((0 : Int32), u2)))
def f_M_told (mw : Int32) (mh : Int32) (mst : Int32) (mbd : Int32) (mps : Int32) (mtr : Int32) (msam : (Nat → Int32)) (n_msa : Nat) (a0 : Int32) : Option (Int32 × Int32) :=
  (if a0 = 0 then some (mw, (0 : Int32)) else (if a0 = 1 then some (mh, (0 : Int32)) else (if a0 = 2 then some (mst, (0 : Int32)) else (if a0 = 3 then some (mbd, (0 : Int32)) else (if a0 = 4 then ((f_M_planes msam n_msa).bind fun u6 => some (u6, (0 : Int32))) else (if a0 = 5 then some (mps, (0 : Int32)) else (if a0 = 6 then some (mtr, (0 : Int32)) else some ((-1 : Int32), (0 : Int32)))))))))
def f_M_clear_L22 (n_msa : Nat) (n_mrv : Nat) (n_mrl : Nat) : Nat → Int32 → (Nat → Int32) → (Nat → Int32) → (Nat → Int32) → Option (Int32 × (Nat → Int32) × (Nat → Int32) × (Nat → Int32))
  | 0, _, _, _, _ => none
  | N + 1, v22_1, msam_22, mrvas_22, mrlos_22 => (if (256 : Int32) ≤ v22_1 then some (v22_1, msam_22, mrvas_22, mrlos_22) else if (v22_1 < 0 ∨ n_msa ≤ v22_1.toNatClampNeg) then none else if (v22_1 < 0 ∨ n_mrv ≤ v22_1.toNatClampNeg) then none else if (v22_1 < 0 ∨ n_mrl ≤ v22_1.toNatClampNeg) then none else f_M_clear_L22 n_msa n_mrv n_mrl N (v22_1 + 1) (upd msam_22 v22_1.toNatClampNeg (0 : Int32)) (upd mrvas_22 v22_1.toNatClampNeg (0 : Int32)) (upd mrlos_22 v22_1.toNatClampNeg (0 : Int32)))
def f_M_clear (msam : (Nat → Int32)) (mrvas : (Nat → Int32)) (mrlos : (Nat → Int32)) (n_msa : Nat) (n_mrv : Nat) (n_mrl : Nat) : Option (Int32 × Int32 × Int32 × Int32 × (Nat → Int32) × (Nat → Int32) × (Nat → Int32)) :=
  ((f_M_clear_L22 n_msa n_mrv n_mrl kBig (0 : Int32) msam mrvas mrlos).bind fun u1 => some ((0 : Int32), (0 : Int32), (0 : Int32), (0 : Int32), u1.2.1, u1.2.2.1, u1.2.2.2))
theorem d_M_bits_0 : decode c_M_bits 0 = .ok (.aload_n 0, 1) := by decide +kernel
theorem d_M_bits_1 : decode c_M_bits 1 = .ok (.iconst 0, 1) := by decide +kernel
theorem d_M_bits_2 : decode c_M_bits 2 = .ok (.putfield 79, 3) := by decide +kernel
theorem d_M_bits_5 : decode c_M_bits 5 = .ok (.aload_n 0, 1) := by decide +kernel
theorem d_M_bits_6 : decode c_M_bits 6 = .ok (.getfield 111, 3) := by decide +kernel
theorem d_M_bits_9 : decode c_M_bits 9 = .ok (.ireturn, 1) := by decide +kernel
theorem d_M_bit_0 : decode c_M_bit 0 = .ok (.aload_n 0, 1) := by decide +kernel
theorem d_M_bit_1 : decode c_M_bit 1 = .ok (.iload_n 1, 1) := by decide +kernel
theorem d_M_bit_2 : decode c_M_bit 2 = .ok (.ifCond .lt 11, 3) := by decide +kernel
theorem d_M_bit_5 : decode c_M_bit 5 = .ok (.iload_n 1, 1) := by decide +kernel
theorem d_M_bit_6 : decode c_M_bit 6 = .ok (.aload_n 0, 1) := by decide +kernel
theorem d_M_bit_7 : decode c_M_bit 7 = .ok (.getfield 111, 3) := by decide +kernel
theorem d_M_bit_10 : decode c_M_bit 10 = .ok (.if_icmp .lt 7, 3) := by decide +kernel
theorem d_M_bit_13 : decode c_M_bit 13 = .ok (.iconst 1, 1) := by decide +kernel
theorem d_M_bit_14 : decode c_M_bit 14 = .ok (.goto 17, 3) := by decide +kernel
theorem d_M_bit_17 : decode c_M_bit 17 = .ok (.iload_n 2, 1) := by decide +kernel
theorem d_M_bit_18 : decode c_M_bit 18 = .ok (.ifCond .lt 8, 3) := by decide +kernel
theorem d_M_bit_21 : decode c_M_bit 21 = .ok (.iload_n 2, 1) := by decide +kernel
theorem d_M_bit_22 : decode c_M_bit 22 = .ok (.iconst 2, 1) := by decide +kernel
theorem d_M_bit_23 : decode c_M_bit 23 = .ok (.if_icmp .le 7, 3) := by decide +kernel
theorem d_M_bit_26 : decode c_M_bit 26 = .ok (.iconst 2, 1) := by decide +kernel
theorem d_M_bit_27 : decode c_M_bit 27 = .ok (.goto 4, 3) := by decide +kernel
theorem d_M_bit_30 : decode c_M_bit 30 = .ok (.iconst 0, 1) := by decide +kernel
theorem d_M_bit_31 : decode c_M_bit 31 = .ok (.putfield 79, 3) := by decide +kernel
theorem d_M_bit_34 : decode c_M_bit 34 = .ok (.aload_n 0, 1) := by decide +kernel
theorem d_M_bit_35 : decode c_M_bit 35 = .ok (.getfield 79, 3) := by decide +kernel
theorem d_M_bit_38 : decode c_M_bit 38 = .ok (.ifCond .le 7, 3) := by decide +kernel
theorem d_M_bit_41 : decode c_M_bit 41 = .ok (.iconst 0, 1) := by decide +kernel
theorem d_M_bit_42 : decode c_M_bit 42 = .ok (.goto 36, 3) := by decide +kernel
theorem d_M_bit_45 : decode c_M_bit 45 = .ok (.iload_n 2, 1) := by decide +kernel
theorem d_M_bit_46 : decode c_M_bit 46 = .ok (.ifCond .ne 12, 3) := by decide +kernel
theorem d_M_bit_49 : decode c_M_bit 49 = .ok (.aload_n 0, 1) := by decide +kernel
theorem d_M_bit_50 : decode c_M_bit 50 = .ok (.getfield 13, 3) := by decide +kernel
theorem d_M_bit_53 : decode c_M_bit 53 = .ok (.iload_n 1, 1) := by decide +kernel
theorem d_M_bit_54 : decode c_M_bit 54 = .ok (.iaload, 1) := by decide +kernel
theorem d_M_bit_55 : decode c_M_bit 55 = .ok (.goto 23, 3) := by decide +kernel
theorem d_M_bit_58 : decode c_M_bit 58 = .ok (.iload_n 2, 1) := by decide +kernel
theorem d_M_bit_59 : decode c_M_bit 59 = .ok (.iconst 1, 1) := by decide +kernel
theorem d_M_bit_60 : decode c_M_bit 60 = .ok (.if_icmp .ne 12, 3) := by decide +kernel
theorem d_M_bit_63 : decode c_M_bit 63 = .ok (.aload_n 0, 1) := by decide +kernel
theorem d_M_bit_64 : decode c_M_bit 64 = .ok (.getfield 16, 3) := by decide +kernel
theorem d_M_bit_67 : decode c_M_bit 67 = .ok (.iload_n 1, 1) := by decide +kernel
theorem d_M_bit_68 : decode c_M_bit 68 = .ok (.iaload, 1) := by decide +kernel
theorem d_M_bit_69 : decode c_M_bit 69 = .ok (.goto 9, 3) := by decide +kernel
theorem d_M_bit_72 : decode c_M_bit 72 = .ok (.aload_n 0, 1) := by decide +kernel
theorem d_M_bit_73 : decode c_M_bit 73 = .ok (.getfield 19, 3) := by decide +kernel
theorem d_M_bit_76 : decode c_M_bit 76 = .ok (.iload_n 1, 1) := by decide +kernel
theorem d_M_bit_77 : decode c_M_bit 77 = .ok (.iaload, 1) := by decide +kernel
theorem d_M_bit_78 : decode c_M_bit 78 = .ok (.ireturn, 1) := by decide +kernel
theorem d_M_isPass_0 : decode c_M_isPass 0 = .ok (.aload_n 0, 1) := by decide +kernel
theorem d_M_isPass_1 : decode c_M_isPass 1 = .ok (.iload_n 1, 1) := by decide +kernel
theorem d_M_isPass_2 : decode c_M_isPass 2 = .ok (.ifCond .lt 11, 3) := by decide +kernel
theorem d_M_isPass_5 : decode c_M_isPass 5 = .ok (.iload_n 1, 1) := by decide +kernel
theorem d_M_isPass_6 : decode c_M_isPass 6 = .ok (.aload_n 0, 1) := by decide +kernel
theorem d_M_isPass_7 : decode c_M_isPass 7 = .ok (.getfield 197, 3) := by decide +kernel
theorem d_M_isPass_10 : decode c_M_isPass 10 = .ok (.if_icmp .lt 7, 3) := by decide +kernel
theorem d_M_isPass_13 : decode c_M_isPass 13 = .ok (.iconst 1, 1) := by decide +kernel
theorem d_M_isPass_14 : decode c_M_isPass 14 = .ok (.goto 4, 3) := by decide +kernel
theorem d_M_isPass_17 : decode c_M_isPass 17 = .ok (.iconst 0, 1) := by decide +kernel
theorem d_M_isPass_18 : decode c_M_isPass 18 = .ok (.putfield 79, 3) := by decide +kernel
theorem d_M_isPass_21 : decode c_M_isPass 21 = .ok (.aload_n 0, 1) := by decide +kernel
theorem d_M_isPass_22 : decode c_M_isPass 22 = .ok (.getfield 79, 3) := by decide +kernel
theorem d_M_isPass_25 : decode c_M_isPass 25 = .ok (.ifCond .ne 7, 3) := by decide +kernel
theorem d_M_isPass_28 : decode c_M_isPass 28 = .ok (.iconst 1, 1) := by decide +kernel
theorem d_M_isPass_29 : decode c_M_isPass 29 = .ok (.goto 4, 3) := by decide +kernel
theorem d_M_isPass_32 : decode c_M_isPass 32 = .ok (.iconst 0, 1) := by decide +kernel
theorem d_M_isPass_33 : decode c_M_isPass 33 = .ok (.ireturn, 1) := by decide +kernel
theorem d_M_length_0 : decode c_M_length 0 = .ok (.aload_n 0, 1) := by decide +kernel
theorem d_M_length_1 : decode c_M_length 1 = .ok (.iload_n 1, 1) := by decide +kernel
theorem d_M_length_2 : decode c_M_length 2 = .ok (.invokevirtual 206, 3) := by decide +kernel
theorem d_M_length_5 : decode c_M_length 5 = .ok (.ifCond .eq 12, 3) := by decide +kernel
theorem d_M_length_8 : decode c_M_length 8 = .ok (.aload_n 0, 1) := by decide +kernel
theorem d_M_length_9 : decode c_M_length 9 = .ok (.getfield 22, 3) := by decide +kernel
theorem d_M_length_12 : decode c_M_length 12 = .ok (.iload_n 1, 1) := by decide +kernel
theorem d_M_length_13 : decode c_M_length 13 = .ok (.iaload, 1) := by decide +kernel
theorem d_M_length_14 : decode c_M_length 14 = .ok (.goto 4, 3) := by decide +kernel
theorem d_M_length_17 : decode c_M_length 17 = .ok (.iconst 0, 1) := by decide +kernel
theorem d_M_length_18 : decode c_M_length 18 = .ok (.ireturn, 1) := by decide +kernel
theorem d_M_distortion_0 : decode c_M_distortion 0 = .ok (.aload_n 0, 1) := by decide +kernel
theorem d_M_distortion_1 : decode c_M_distortion 1 = .ok (.iload_n 1, 1) := by decide +kernel
theorem d_M_distortion_2 : decode c_M_distortion 2 = .ok (.invokevirtual 206, 3) := by decide +kernel
theorem d_M_distortion_5 : decode c_M_distortion 5 = .ok (.ifCond .eq 12, 3) := by decide +kernel
theorem d_M_distortion_8 : decode c_M_distortion 8 = .ok (.aload_n 0, 1) := by decide +kernel
theorem d_M_distortion_9 : decode c_M_distortion 9 = .ok (.getfield 25, 3) := by decide +kernel
theorem d_M_distortion_12 : decode c_M_distortion 12 = .ok (.iload_n 1, 1) := by decide +kernel
theorem d_M_distortion_13 : decode c_M_distortion 13 = .ok (.laload, 1) := by decide +kernel
theorem d_M_distortion_14 : decode c_M_distortion 14 = .ok (.goto 4, 3) := by decide +kernel
theorem d_M_distortion_17 : decode c_M_distortion 17 = .ok (.lconst 0, 1) := by decide +kernel
theorem d_M_distortion_18 : decode c_M_distortion 18 = .ok (.lreturn, 1) := by decide +kernel
theorem d_M_kind_0 : decode c_M_kind 0 = .ok (.aload_n 0, 1) := by decide +kernel
theorem d_M_kind_1 : decode c_M_kind 1 = .ok (.iload_n 1, 1) := by decide +kernel
theorem d_M_kind_2 : decode c_M_kind 2 = .ok (.invokevirtual 206, 3) := by decide +kernel
theorem d_M_kind_5 : decode c_M_kind 5 = .ok (.ifCond .eq 10, 3) := by decide +kernel
theorem d_M_kind_8 : decode c_M_kind 8 = .ok (.iload_n 1, 1) := by decide +kernel
theorem d_M_kind_9 : decode c_M_kind 9 = .ok (.invokestatic 179, 3) := by decide +kernel
theorem d_M_kind_12 : decode c_M_kind 12 = .ok (.goto 4, 3) := by decide +kernel
theorem d_M_kind_15 : decode c_M_kind 15 = .ok (.iconst 0, 1) := by decide +kernel
theorem d_M_kind_16 : decode c_M_kind 16 = .ok (.ireturn, 1) := by decide +kernel
theorem d_M_terminated_0 : decode c_M_terminated 0 = .ok (.aload_n 0, 1) := by decide +kernel
theorem d_M_terminated_1 : decode c_M_terminated 1 = .ok (.iload_n 1, 1) := by decide +kernel
theorem d_M_terminated_2 : decode c_M_terminated 2 = .ok (.invokevirtual 206, 3) := by decide +kernel
theorem d_M_terminated_5 : decode c_M_terminated 5 = .ok (.ifCond .eq 46, 3) := by decide +kernel
theorem d_M_terminated_8 : decode c_M_terminated 8 = .ok (.iload_n 1, 1) := by decide +kernel
theorem d_M_terminated_9 : decode c_M_terminated 9 = .ok (.aload_n 0, 1) := by decide +kernel
theorem d_M_terminated_10 : decode c_M_terminated 10 = .ok (.getfield 197, 3) := by decide +kernel
theorem d_M_terminated_13 : decode c_M_terminated 13 = .ok (.iconst 1, 1) := by decide +kernel
theorem d_M_terminated_14 : decode c_M_terminated 14 = .ok (.isub, 1) := by decide +kernel
theorem d_M_terminated_15 : decode c_M_terminated 15 = .ok (.if_icmp .eq 32, 3) := by decide +kernel
theorem d_M_terminated_18 : decode c_M_terminated 18 = .ok (.aload_n 0, 1) := by decide +kernel
theorem d_M_terminated_19 : decode c_M_terminated 19 = .ok (.iconst 4, 1) := by decide +kernel
theorem d_M_terminated_20 : decode c_M_terminated 20 = .ok (.invokevirtual 117, 3) := by decide +kernel
theorem d_M_terminated_23 : decode c_M_terminated 23 = .ok (.ifCond .ne 24, 3) := by decide +kernel
theorem d_M_terminated_26 : decode c_M_terminated 26 = .ok (.aload_n 0, 1) := by decide +kernel
theorem d_M_terminated_27 : decode c_M_terminated 27 = .ok (.iconst 1, 1) := by decide +kernel
theorem d_M_terminated_28 : decode c_M_terminated 28 = .ok (.invokevirtual 117, 3) := by decide +kernel
theorem d_M_terminated_31 : decode c_M_terminated 31 = .ok (.ifCond .eq 20, 3) := by decide +kernel
theorem d_M_terminated_34 : decode c_M_terminated 34 = .ok (.iload_n 1, 1) := by decide +kernel
theorem d_M_terminated_35 : decode c_M_terminated 35 = .ok (.bipush 9, 2) := by decide +kernel
theorem d_M_terminated_37 : decode c_M_terminated 37 = .ok (.if_icmp .lt 14, 3) := by decide +kernel
theorem d_M_terminated_40 : decode c_M_terminated 40 = .ok (.iload_n 1, 1) := by decide +kernel
theorem d_M_terminated_41 : decode c_M_terminated 41 = .ok (.invokestatic 179, 3) := by decide +kernel
theorem d_M_terminated_44 : decode c_M_terminated 44 = .ok (.ifCond .le 7, 3) := by decide +kernel
theorem d_M_terminated_47 : decode c_M_terminated 47 = .ok (.iconst 1, 1) := by decide +kernel
theorem d_M_terminated_48 : decode c_M_terminated 48 = .ok (.goto 4, 3) := by decide +kernel
theorem d_M_terminated_51 : decode c_M_terminated 51 = .ok (.iconst 0, 1) := by decide +kernel
theorem d_M_terminated_52 : decode c_M_terminated 52 = .ok (.ireturn, 1) := by decide +kernel
theorem d_M_feed_0 : decode c_M_feed 0 = .ok (.aload_n 0, 1) := by decide +kernel
theorem d_M_feed_1 : decode c_M_feed 1 = .ok (.iload_n 1, 1) := by decide +kernel
theorem d_M_feed_2 : decode c_M_feed 2 = .ok (.ifCond .lt 8, 3) := by decide +kernel
theorem d_M_feed_5 : decode c_M_feed 5 = .ok (.iload_n 1, 1) := by decide +kernel
theorem d_M_feed_6 : decode c_M_feed 6 = .ok (.iconst 1, 1) := by decide +kernel
theorem d_M_feed_7 : decode c_M_feed 7 = .ok (.if_icmp .le 7, 3) := by decide +kernel
theorem d_M_feed_10 : decode c_M_feed 10 = .ok (.iconst 1, 1) := by decide +kernel
theorem d_M_feed_11 : decode c_M_feed 11 = .ok (.goto 18, 3) := by decide +kernel
theorem d_M_feed_14 : decode c_M_feed 14 = .ok (.aload_n 0, 1) := by decide +kernel
theorem d_M_feed_15 : decode c_M_feed 15 = .ok (.getfield 105, 3) := by decide +kernel
theorem d_M_feed_18 : decode c_M_feed 18 = .ok (.sipush 12000, 3) := by decide +kernel
theorem d_M_feed_21 : decode c_M_feed 21 = .ok (.if_icmp .ne 7, 3) := by decide +kernel
theorem d_M_feed_24 : decode c_M_feed 24 = .ok (.iconst 2, 1) := by decide +kernel
theorem d_M_feed_25 : decode c_M_feed 25 = .ok (.goto 4, 3) := by decide +kernel
theorem d_M_feed_28 : decode c_M_feed 28 = .ok (.iconst 0, 1) := by decide +kernel
theorem d_M_feed_29 : decode c_M_feed 29 = .ok (.putfield 79, 3) := by decide +kernel
theorem d_M_feed_32 : decode c_M_feed 32 = .ok (.aload_n 0, 1) := by decide +kernel
theorem d_M_feed_33 : decode c_M_feed 33 = .ok (.getfield 79, 3) := by decide +kernel
theorem d_M_feed_36 : decode c_M_feed 36 = .ok (.ifCond .le 5, 3) := by decide +kernel
theorem d_M_feed_39 : decode c_M_feed 39 = .ok (.iconst 0, 1) := by decide +kernel
theorem d_M_feed_40 : decode c_M_feed 40 = .ok (.ireturn, 1) := by decide +kernel
theorem d_M_feed_41 : decode c_M_feed 41 = .ok (.aload_n 0, 1) := by decide +kernel
theorem d_M_feed_42 : decode c_M_feed 42 = .ok (.getfield 29, 3) := by decide +kernel
theorem d_M_feed_45 : decode c_M_feed 45 = .ok (.aload_n 0, 1) := by decide +kernel
theorem d_M_feed_46 : decode c_M_feed 46 = .ok (.getfield 105, 3) := by decide +kernel
theorem d_M_feed_49 : decode c_M_feed 49 = .ok (.iload_n 1, 1) := by decide +kernel
theorem d_M_feed_50 : decode c_M_feed 50 = .ok (.iastore, 1) := by decide +kernel
theorem d_M_feed_51 : decode c_M_feed 51 = .ok (.aload_n 0, 1) := by decide +kernel
theorem d_M_feed_52 : decode c_M_feed 52 = .ok (.dup, 1) := by decide +kernel
theorem d_M_feed_53 : decode c_M_feed 53 = .ok (.getfield 105, 3) := by decide +kernel
theorem d_M_feed_56 : decode c_M_feed 56 = .ok (.iconst 1, 1) := by decide +kernel
theorem d_M_feed_57 : decode c_M_feed 57 = .ok (.iadd, 1) := by decide +kernel
theorem d_M_feed_58 : decode c_M_feed 58 = .ok (.putfield 105, 3) := by decide +kernel
theorem d_M_feed_61 : decode c_M_feed 61 = .ok (.aload_n 0, 1) := by decide +kernel
theorem d_M_feed_62 : decode c_M_feed 62 = .ok (.getfield 105, 3) := by decide +kernel
theorem d_M_feed_65 : decode c_M_feed 65 = .ok (.ireturn, 1) := by decide +kernel
theorem d_M_pass_0 : decode c_M_pass 0 = .ok (.iload_n 1, 1) := by decide +kernel
theorem d_M_pass_1 : decode c_M_pass 1 = .ok (.aload_n 0, 1) := by decide +kernel
theorem d_M_pass_2 : decode c_M_pass 2 = .ok (.getfield 111, 3) := by decide +kernel
theorem d_M_pass_5 : decode c_M_pass 5 = .ok (.if_icmp .ge 7, 3) := by decide +kernel
theorem d_M_pass_8 : decode c_M_pass 8 = .ok (.iload_n 1, 1) := by decide +kernel
theorem d_M_pass_9 : decode c_M_pass 9 = .ok (.goto 7, 3) := by decide +kernel
theorem d_M_pass_12 : decode c_M_pass 12 = .ok (.aload_n 0, 1) := by decide +kernel
theorem d_M_pass_13 : decode c_M_pass 13 = .ok (.getfield 111, 3) := by decide +kernel
theorem d_M_pass_16 : decode c_M_pass 16 = .ok (.istore_n 2, 1) := by decide +kernel
theorem d_M_pass_17 : decode c_M_pass 17 = .ok (.aload_n 0, 1) := by decide +kernel
theorem d_M_pass_18 : decode c_M_pass 18 = .ok (.iload_n 1, 1) := by decide +kernel
theorem d_M_pass_19 : decode c_M_pass 19 = .ok (.ifCond .ge 7, 3) := by decide +kernel
theorem d_M_pass_22 : decode c_M_pass 22 = .ok (.iconst 1, 1) := by decide +kernel
theorem d_M_pass_23 : decode c_M_pass 23 = .ok (.goto 20, 3) := by decide +kernel
theorem d_M_pass_26 : decode c_M_pass 26 = .ok (.aload_n 0, 1) := by decide +kernel
theorem d_M_pass_27 : decode c_M_pass 27 = .ok (.getfield 105, 3) := by decide +kernel
theorem d_M_pass_30 : decode c_M_pass 30 = .ok (.iload_n 2, 1) := by decide +kernel
theorem d_M_pass_31 : decode c_M_pass 31 = .ok (.iadd, 1) := by decide +kernel
theorem d_M_pass_32 : decode c_M_pass 32 = .ok (.sipush 12000, 3) := by decide +kernel
theorem d_M_pass_35 : decode c_M_pass 35 = .ok (.if_icmp .le 7, 3) := by decide +kernel
theorem d_M_pass_38 : decode c_M_pass 38 = .ok (.iconst 2, 1) := by decide +kernel
theorem d_M_pass_39 : decode c_M_pass 39 = .ok (.goto 4, 3) := by decide +kernel
theorem d_M_pass_42 : decode c_M_pass 42 = .ok (.iconst 0, 1) := by decide +kernel
theorem d_M_pass_43 : decode c_M_pass 43 = .ok (.putfield 79, 3) := by decide +kernel
theorem d_M_pass_46 : decode c_M_pass 46 = .ok (.aload_n 0, 1) := by decide +kernel
theorem d_M_pass_47 : decode c_M_pass 47 = .ok (.getfield 79, 3) := by decide +kernel
theorem d_M_pass_50 : decode c_M_pass 50 = .ok (.ifCond .le 5, 3) := by decide +kernel
theorem d_M_pass_53 : decode c_M_pass 53 = .ok (.iconst 0, 1) := by decide +kernel
theorem d_M_pass_54 : decode c_M_pass 54 = .ok (.ireturn, 1) := by decide +kernel
theorem d_M_pass_55 : decode c_M_pass 55 = .ok (.iconst 0, 1) := by decide +kernel
theorem d_M_pass_56 : decode c_M_pass 56 = .ok (.istore_n 3, 1) := by decide +kernel
theorem d_M_pass_57 : decode c_M_pass 57 = .ok (.iload_n 3, 1) := by decide +kernel
theorem d_M_pass_58 : decode c_M_pass 58 = .ok (.iload_n 2, 1) := by decide +kernel
theorem d_M_pass_59 : decode c_M_pass 59 = .ok (.if_icmp .ge 26, 3) := by decide +kernel
theorem d_M_pass_62 : decode c_M_pass 62 = .ok (.aload_n 0, 1) := by decide +kernel
theorem d_M_pass_63 : decode c_M_pass 63 = .ok (.getfield 29, 3) := by decide +kernel
theorem d_M_pass_66 : decode c_M_pass 66 = .ok (.aload_n 0, 1) := by decide +kernel
theorem d_M_pass_67 : decode c_M_pass 67 = .ok (.getfield 105, 3) := by decide +kernel
theorem d_M_pass_70 : decode c_M_pass 70 = .ok (.iload_n 3, 1) := by decide +kernel
theorem d_M_pass_71 : decode c_M_pass 71 = .ok (.iadd, 1) := by decide +kernel
theorem d_M_pass_72 : decode c_M_pass 72 = .ok (.aload_n 0, 1) := by decide +kernel
theorem d_M_pass_73 : decode c_M_pass 73 = .ok (.getfield 13, 3) := by decide +kernel
theorem d_M_pass_76 : decode c_M_pass 76 = .ok (.iload_n 3, 1) := by decide +kernel
theorem d_M_pass_77 : decode c_M_pass 77 = .ok (.iaload, 1) := by decide +kernel
theorem d_M_pass_78 : decode c_M_pass 78 = .ok (.iastore, 1) := by decide +kernel
theorem d_M_pass_79 : decode c_M_pass 79 = .ok (.iinc 3 1, 3) := by decide +kernel
theorem d_M_pass_82 : decode c_M_pass 82 = .ok (.goto (-25), 3) := by decide +kernel
theorem d_M_pass_85 : decode c_M_pass 85 = .ok (.aload_n 0, 1) := by decide +kernel
theorem d_M_pass_86 : decode c_M_pass 86 = .ok (.dup, 1) := by decide +kernel
theorem d_M_pass_87 : decode c_M_pass 87 = .ok (.getfield 105, 3) := by decide +kernel
theorem d_M_pass_90 : decode c_M_pass 90 = .ok (.iload_n 2, 1) := by decide +kernel
theorem d_M_pass_91 : decode c_M_pass 91 = .ok (.iadd, 1) := by decide +kernel
theorem d_M_pass_92 : decode c_M_pass 92 = .ok (.putfield 105, 3) := by decide +kernel
theorem d_M_pass_95 : decode c_M_pass 95 = .ok (.iload_n 2, 1) := by decide +kernel
theorem d_M_pass_96 : decode c_M_pass 96 = .ok (.ireturn, 1) := by decide +kernel
theorem d_M_turn_0 : decode c_M_turn 0 = .ok (.aload_n 0, 1) := by decide +kernel
theorem d_M_turn_1 : decode c_M_turn 1 = .ok (.iload_n 1, 1) := by decide +kernel
theorem d_M_turn_2 : decode c_M_turn 2 = .ok (.ifCond .lt 11, 3) := by decide +kernel
theorem d_M_turn_5 : decode c_M_turn 5 = .ok (.iload_n 1, 1) := by decide +kernel
theorem d_M_turn_6 : decode c_M_turn 6 = .ok (.aload_n 0, 1) := by decide +kernel
theorem d_M_turn_7 : decode c_M_turn 7 = .ok (.getfield 105, 3) := by decide +kernel
theorem d_M_turn_10 : decode c_M_turn 10 = .ok (.if_icmp .lt 7, 3) := by decide +kernel
theorem d_M_turn_13 : decode c_M_turn 13 = .ok (.iconst 1, 1) := by decide +kernel
theorem d_M_turn_14 : decode c_M_turn 14 = .ok (.goto 4, 3) := by decide +kernel
theorem d_M_turn_17 : decode c_M_turn 17 = .ok (.iconst 0, 1) := by decide +kernel
theorem d_M_turn_18 : decode c_M_turn 18 = .ok (.putfield 79, 3) := by decide +kernel
theorem d_M_turn_21 : decode c_M_turn 21 = .ok (.aload_n 0, 1) := by decide +kernel
theorem d_M_turn_22 : decode c_M_turn 22 = .ok (.getfield 79, 3) := by decide +kernel
theorem d_M_turn_25 : decode c_M_turn 25 = .ok (.ifCond .le 5, 3) := by decide +kernel
theorem d_M_turn_28 : decode c_M_turn 28 = .ok (.iconst 0, 1) := by decide +kernel
theorem d_M_turn_29 : decode c_M_turn 29 = .ok (.ireturn, 1) := by decide +kernel
theorem d_M_turn_30 : decode c_M_turn 30 = .ok (.aload_n 0, 1) := by decide +kernel
theorem d_M_turn_31 : decode c_M_turn 31 = .ok (.getfield 29, 3) := by decide +kernel
theorem d_M_turn_34 : decode c_M_turn 34 = .ok (.iload_n 1, 1) := by decide +kernel
theorem d_M_turn_35 : decode c_M_turn 35 = .ok (.iconst 1, 1) := by decide +kernel
theorem d_M_turn_36 : decode c_M_turn 36 = .ok (.aload_n 0, 1) := by decide +kernel
theorem d_M_turn_37 : decode c_M_turn 37 = .ok (.getfield 29, 3) := by decide +kernel
theorem d_M_turn_40 : decode c_M_turn 40 = .ok (.iload_n 1, 1) := by decide +kernel
theorem d_M_turn_41 : decode c_M_turn 41 = .ok (.iaload, 1) := by decide +kernel
theorem d_M_turn_42 : decode c_M_turn 42 = .ok (.isub, 1) := by decide +kernel
theorem d_M_turn_43 : decode c_M_turn 43 = .ok (.iastore, 1) := by decide +kernel
theorem d_M_turn_44 : decode c_M_turn 44 = .ok (.aload_n 0, 1) := by decide +kernel
theorem d_M_turn_45 : decode c_M_turn 45 = .ok (.getfield 29, 3) := by decide +kernel
theorem d_M_turn_48 : decode c_M_turn 48 = .ok (.iload_n 1, 1) := by decide +kernel
theorem d_M_turn_49 : decode c_M_turn 49 = .ok (.iaload, 1) := by decide +kernel
theorem d_M_turn_50 : decode c_M_turn 50 = .ok (.ireturn, 1) := by decide +kernel
theorem d_M_save_0 : decode c_M_save 0 = .ok (.iconst 0, 1) := by decide +kernel
theorem d_M_save_1 : decode c_M_save 1 = .ok (.istore_n 1, 1) := by decide +kernel
theorem d_M_save_2 : decode c_M_save 2 = .ok (.iload_n 1, 1) := by decide +kernel
theorem d_M_save_3 : decode c_M_save 3 = .ok (.sipush 256, 3) := by decide +kernel
theorem d_M_save_6 : decode c_M_save 6 = .ok (.if_icmp .ge 45, 3) := by decide +kernel
theorem d_M_save_9 : decode c_M_save 9 = .ok (.aload_n 0, 1) := by decide +kernel
theorem d_M_save_10 : decode c_M_save 10 = .ok (.getfield 51, 3) := by decide +kernel
theorem d_M_save_13 : decode c_M_save 13 = .ok (.iload_n 1, 1) := by decide +kernel
theorem d_M_save_14 : decode c_M_save 14 = .ok (.aload_n 0, 1) := by decide +kernel
theorem d_M_save_15 : decode c_M_save 15 = .ok (.getfield 32, 3) := by decide +kernel
theorem d_M_save_18 : decode c_M_save 18 = .ok (.iload_n 1, 1) := by decide +kernel
theorem d_M_save_19 : decode c_M_save 19 = .ok (.iaload, 1) := by decide +kernel
theorem d_M_save_20 : decode c_M_save 20 = .ok (.iastore, 1) := by decide +kernel
theorem d_M_save_21 : decode c_M_save 21 = .ok (.aload_n 0, 1) := by decide +kernel
theorem d_M_save_22 : decode c_M_save 22 = .ok (.getfield 54, 3) := by decide +kernel
theorem d_M_save_25 : decode c_M_save 25 = .ok (.iload_n 1, 1) := by decide +kernel
theorem d_M_save_26 : decode c_M_save 26 = .ok (.aload_n 0, 1) := by decide +kernel
theorem d_M_save_27 : decode c_M_save 27 = .ok (.getfield 35, 3) := by decide +kernel
theorem d_M_save_30 : decode c_M_save 30 = .ok (.iload_n 1, 1) := by decide +kernel
theorem d_M_save_31 : decode c_M_save 31 = .ok (.baload, 1) := by decide +kernel
theorem d_M_save_32 : decode c_M_save 32 = .ok (.bastore, 1) := by decide +kernel
theorem d_M_save_33 : decode c_M_save 33 = .ok (.aload_n 0, 1) := by decide +kernel
theorem d_M_save_34 : decode c_M_save 34 = .ok (.getfield 57, 3) := by decide +kernel
theorem d_M_save_37 : decode c_M_save 37 = .ok (.iload_n 1, 1) := by decide +kernel
theorem d_M_save_38 : decode c_M_save 38 = .ok (.aload_n 0, 1) := by decide +kernel
theorem d_M_save_39 : decode c_M_save 39 = .ok (.getfield 48, 3) := by decide +kernel
theorem d_M_save_42 : decode c_M_save 42 = .ok (.iload_n 1, 1) := by decide +kernel
theorem d_M_save_43 : decode c_M_save 43 = .ok (.iaload, 1) := by decide +kernel
theorem d_M_save_44 : decode c_M_save 44 = .ok (.iastore, 1) := by decide +kernel
theorem d_M_save_45 : decode c_M_save 45 = .ok (.iinc 1 1, 3) := by decide +kernel
theorem d_M_save_48 : decode c_M_save 48 = .ok (.goto (-46), 3) := by decide +kernel
theorem d_M_save_51 : decode c_M_save 51 = .ok (.return_, 1) := by decide +kernel
theorem d_M_keep_0 : decode c_M_keep 0 = .ok (.iconst 0, 1) := by decide +kernel
theorem d_M_keep_1 : decode c_M_keep 1 = .ok (.istore_n 1, 1) := by decide +kernel
theorem d_M_keep_2 : decode c_M_keep 2 = .ok (.iload_n 1, 1) := by decide +kernel
theorem d_M_keep_3 : decode c_M_keep 3 = .ok (.sipush 256, 3) := by decide +kernel
theorem d_M_keep_6 : decode c_M_keep 6 = .ok (.if_icmp .ge 99, 3) := by decide +kernel
theorem d_M_keep_9 : decode c_M_keep 9 = .ok (.aload_n 0, 1) := by decide +kernel
theorem d_M_keep_10 : decode c_M_keep 10 = .ok (.getfield 108, 3) := by decide +kernel
theorem d_M_keep_13 : decode c_M_keep 13 = .ok (.ifCond .eq 12, 3) := by decide +kernel
theorem d_M_keep_16 : decode c_M_keep 16 = .ok (.aload_n 0, 1) := by decide +kernel
theorem d_M_keep_17 : decode c_M_keep 17 = .ok (.getfield 51, 3) := by decide +kernel
theorem d_M_keep_20 : decode c_M_keep 20 = .ok (.iload_n 1, 1) := by decide +kernel
theorem d_M_keep_21 : decode c_M_keep 21 = .ok (.iaload, 1) := by decide +kernel
theorem d_M_keep_22 : decode c_M_keep 22 = .ok (.goto 9, 3) := by decide +kernel
theorem d_M_keep_25 : decode c_M_keep 25 = .ok (.aload_n 0, 1) := by decide +kernel
theorem d_M_keep_26 : decode c_M_keep 26 = .ok (.getfield 32, 3) := by decide +kernel
theorem d_M_keep_29 : decode c_M_keep 29 = .ok (.iload_n 1, 1) := by decide +kernel
theorem d_M_keep_30 : decode c_M_keep 30 = .ok (.iaload, 1) := by decide +kernel
theorem d_M_keep_31 : decode c_M_keep 31 = .ok (.istore_n 2, 1) := by decide +kernel
theorem d_M_keep_32 : decode c_M_keep 32 = .ok (.aload_n 0, 1) := by decide +kernel
theorem d_M_keep_33 : decode c_M_keep 33 = .ok (.getfield 108, 3) := by decide +kernel
theorem d_M_keep_36 : decode c_M_keep 36 = .ok (.ifCond .eq 12, 3) := by decide +kernel
theorem d_M_keep_39 : decode c_M_keep 39 = .ok (.aload_n 0, 1) := by decide +kernel
theorem d_M_keep_40 : decode c_M_keep 40 = .ok (.getfield 54, 3) := by decide +kernel
theorem d_M_keep_43 : decode c_M_keep 43 = .ok (.iload_n 1, 1) := by decide +kernel
theorem d_M_keep_44 : decode c_M_keep 44 = .ok (.baload, 1) := by decide +kernel
theorem d_M_keep_45 : decode c_M_keep 45 = .ok (.goto 9, 3) := by decide +kernel
theorem d_M_keep_48 : decode c_M_keep 48 = .ok (.aload_n 0, 1) := by decide +kernel
theorem d_M_keep_49 : decode c_M_keep 49 = .ok (.getfield 35, 3) := by decide +kernel
theorem d_M_keep_52 : decode c_M_keep 52 = .ok (.iload_n 1, 1) := by decide +kernel
theorem d_M_keep_53 : decode c_M_keep 53 = .ok (.baload, 1) := by decide +kernel
theorem d_M_keep_54 : decode c_M_keep 54 = .ok (.istore_n 3, 1) := by decide +kernel
theorem d_M_keep_55 : decode c_M_keep 55 = .ok (.aload_n 0, 1) := by decide +kernel
theorem d_M_keep_56 : decode c_M_keep 56 = .ok (.getfield 60, 3) := by decide +kernel
theorem d_M_keep_59 : decode c_M_keep 59 = .ok (.iload_n 1, 1) := by decide +kernel
theorem d_M_keep_60 : decode c_M_keep 60 = .ok (.iload_n 3, 1) := by decide +kernel
theorem d_M_keep_61 : decode c_M_keep 61 = .ok (.ifCond .eq 8, 3) := by decide +kernel
theorem d_M_keep_64 : decode c_M_keep 64 = .ok (.iload_n 2, 1) := by decide +kernel
theorem d_M_keep_65 : decode c_M_keep 65 = .ok (.ineg, 1) := by decide +kernel
theorem d_M_keep_66 : decode c_M_keep 66 = .ok (.goto 4, 3) := by decide +kernel
theorem d_M_keep_69 : decode c_M_keep 69 = .ok (.iload_n 2, 1) := by decide +kernel
theorem d_M_keep_70 : decode c_M_keep 70 = .ok (.iastore, 1) := by decide +kernel
theorem d_M_keep_71 : decode c_M_keep 71 = .ok (.aload_n 0, 1) := by decide +kernel
theorem d_M_keep_72 : decode c_M_keep 72 = .ok (.getfield 63, 3) := by decide +kernel
theorem d_M_keep_75 : decode c_M_keep 75 = .ok (.iload_n 1, 1) := by decide +kernel
theorem d_M_keep_76 : decode c_M_keep 76 = .ok (.aload_n 0, 1) := by decide +kernel
theorem d_M_keep_77 : decode c_M_keep 77 = .ok (.getfield 108, 3) := by decide +kernel
theorem d_M_keep_80 : decode c_M_keep 80 = .ok (.ifCond .eq 12, 3) := by decide +kernel
theorem d_M_keep_83 : decode c_M_keep 83 = .ok (.aload_n 0, 1) := by decide +kernel
theorem d_M_keep_84 : decode c_M_keep 84 = .ok (.getfield 57, 3) := by decide +kernel
theorem d_M_keep_87 : decode c_M_keep 87 = .ok (.iload_n 1, 1) := by decide +kernel
theorem d_M_keep_88 : decode c_M_keep 88 = .ok (.iaload, 1) := by decide +kernel
theorem d_M_keep_89 : decode c_M_keep 89 = .ok (.goto 9, 3) := by decide +kernel
theorem d_M_keep_92 : decode c_M_keep 92 = .ok (.aload_n 0, 1) := by decide +kernel
theorem d_M_keep_93 : decode c_M_keep 93 = .ok (.getfield 48, 3) := by decide +kernel
theorem d_M_keep_96 : decode c_M_keep 96 = .ok (.iload_n 1, 1) := by decide +kernel
theorem d_M_keep_97 : decode c_M_keep 97 = .ok (.iaload, 1) := by decide +kernel
theorem d_M_keep_98 : decode c_M_keep 98 = .ok (.iastore, 1) := by decide +kernel
theorem d_M_keep_99 : decode c_M_keep 99 = .ok (.iinc 1 1, 3) := by decide +kernel
theorem d_M_keep_102 : decode c_M_keep 102 = .ok (.goto (-100), 3) := by decide +kernel
theorem d_M_keep_105 : decode c_M_keep 105 = .ok (.return_, 1) := by decide +kernel
theorem d_M_decode_0 : decode c_M_decode 0 = .ok (.aload_n 0, 1) := by decide +kernel
theorem d_M_decode_1 : decode c_M_decode 1 = .ok (.iload_n 1, 1) := by decide +kernel
theorem d_M_decode_2 : decode c_M_decode 2 = .ok (.ifCond .lt 13, 3) := by decide +kernel
theorem d_M_decode_5 : decode c_M_decode 5 = .ok (.iload_n 1, 1) := by decide +kernel
theorem d_M_decode_6 : decode c_M_decode 6 = .ok (.bipush 15, 2) := by decide +kernel
theorem d_M_decode_8 : decode c_M_decode 8 = .ok (.if_icmp .gt 7, 3) := by decide +kernel
theorem d_M_decode_11 : decode c_M_decode 11 = .ok (.iload_n 2, 1) := by decide +kernel
theorem d_M_decode_12 : decode c_M_decode 12 = .ok (.ifCond .ge 7, 3) := by decide +kernel
theorem d_M_decode_15 : decode c_M_decode 15 = .ok (.iconst 1, 1) := by decide +kernel
theorem d_M_decode_16 : decode c_M_decode 16 = .ok (.goto 4, 3) := by decide +kernel
theorem d_M_decode_19 : decode c_M_decode 19 = .ok (.iconst 0, 1) := by decide +kernel
theorem d_M_decode_20 : decode c_M_decode 20 = .ok (.putfield 79, 3) := by decide +kernel
theorem d_M_decode_23 : decode c_M_decode 23 = .ok (.aload_n 0, 1) := by decide +kernel
theorem d_M_decode_24 : decode c_M_decode 24 = .ok (.getfield 79, 3) := by decide +kernel
theorem d_M_decode_27 : decode c_M_decode 27 = .ok (.ifCond .le 5, 3) := by decide +kernel
theorem d_M_decode_30 : decode c_M_decode 30 = .ok (.iconst 0, 1) := by decide +kernel
theorem d_M_decode_31 : decode c_M_decode 31 = .ok (.ireturn, 1) := by decide +kernel
theorem d_M_decode_32 : decode c_M_decode 32 = .ok (.iload_n 1, 1) := by decide +kernel
theorem d_M_decode_33 : decode c_M_decode 33 = .ok (.invokestatic 194, 3) := by decide +kernel
theorem d_M_decode_36 : decode c_M_decode 36 = .ok (.iload_n 2, 1) := by decide +kernel
theorem d_M_decode_37 : decode c_M_decode 37 = .ok (.if_icmp .ge 10, 3) := by decide +kernel
theorem d_M_decode_40 : decode c_M_decode 40 = .ok (.iload_n 1, 1) := by decide +kernel
theorem d_M_decode_41 : decode c_M_decode 41 = .ok (.invokestatic 194, 3) := by decide +kernel
theorem d_M_decode_44 : decode c_M_decode 44 = .ok (.goto 4, 3) := by decide +kernel
theorem d_M_decode_47 : decode c_M_decode 47 = .ok (.iload_n 2, 1) := by decide +kernel
theorem d_M_decode_48 : decode c_M_decode 48 = .ok (.istore_n 3, 1) := by decide +kernel
theorem d_M_decode_49 : decode c_M_decode 49 = .ok (.aload_n 0, 1) := by decide +kernel
theorem d_M_decode_50 : decode c_M_decode 50 = .ok (.iconst 1, 1) := by decide +kernel
theorem d_M_decode_51 : decode c_M_decode 51 = .ok (.putfield 98, 3) := by decide +kernel
theorem d_M_decode_54 : decode c_M_decode 54 = .ok (.aload_n 0, 1) := by decide +kernel
theorem d_M_decode_55 : decode c_M_decode 55 = .ok (.iconst 0, 1) := by decide +kernel
theorem d_M_decode_56 : decode c_M_decode 56 = .ok (.putfield 102, 3) := by decide +kernel
theorem d_M_decode_59 : decode c_M_decode 59 = .ok (.aload_n 0, 1) := by decide +kernel
theorem d_M_decode_60 : decode c_M_decode 60 = .ok (.iconst 0, 1) := by decide +kernel
theorem d_M_decode_61 : decode c_M_decode 61 = .ok (.putfield 108, 3) := by decide +kernel
theorem d_M_decode_64 : decode c_M_decode 64 = .ok (.aload_n 0, 1) := by decide +kernel
theorem d_M_decode_65 : decode c_M_decode 65 = .ok (.iload_n 1, 1) := by decide +kernel
theorem d_M_decode_66 : decode c_M_decode 66 = .ok (.invokevirtual 200, 3) := by decide +kernel
theorem d_M_decode_69 : decode c_M_decode 69 = .ok (.iconst 0, 1) := by decide +kernel
theorem d_M_decode_70 : decode c_M_decode 70 = .ok (.istore 4, 2) := by decide +kernel
theorem d_M_decode_72 : decode c_M_decode 72 = .ok (.iconst 1, 1) := by decide +kernel
theorem d_M_decode_73 : decode c_M_decode 73 = .ok (.istore 5, 2) := by decide +kernel
theorem d_M_decode_75 : decode c_M_decode 75 = .ok (.iload 4, 2) := by decide +kernel
theorem d_M_decode_77 : decode c_M_decode 77 = .ok (.iload_n 3, 1) := by decide +kernel
theorem d_M_decode_78 : decode c_M_decode 78 = .ok (.if_icmp .ge 49, 3) := by decide +kernel
theorem d_M_decode_81 : decode c_M_decode 81 = .ok (.iload 5, 2) := by decide +kernel
theorem d_M_decode_83 : decode c_M_decode 83 = .ok (.ifCond .eq 44, 3) := by decide +kernel
theorem d_M_decode_86 : decode c_M_decode 86 = .ok (.aload_n 0, 1) := by decide +kernel
theorem d_M_decode_87 : decode c_M_decode 87 = .ok (.getfield 108, 3) := by decide +kernel
theorem d_M_decode_90 : decode c_M_decode 90 = .ok (.ifCond .ne 37, 3) := by decide +kernel
theorem d_M_decode_93 : decode c_M_decode 93 = .ok (.aload_n 0, 1) := by decide +kernel
theorem d_M_decode_94 : decode c_M_decode 94 = .ok (.invokevirtual 209, 3) := by decide +kernel
theorem d_M_decode_97 : decode c_M_decode 97 = .ok (.aload_n 0, 1) := by decide +kernel
theorem d_M_decode_98 : decode c_M_decode 98 = .ok (.iload 4, 2) := by decide +kernel
theorem d_M_decode_100 : decode c_M_decode 100 = .ok (.iload_n 1, 1) := by decide +kernel
theorem d_M_decode_101 : decode c_M_decode 101 = .ok (.invokevirtual 203, 3) := by decide +kernel
theorem d_M_decode_104 : decode c_M_decode 104 = .ok (.istore 5, 2) := by decide +kernel
theorem d_M_decode_106 : decode c_M_decode 106 = .ok (.aload_n 0, 1) := by decide +kernel
theorem d_M_decode_107 : decode c_M_decode 107 = .ok (.getfield 108, 3) := by decide +kernel
theorem d_M_decode_110 : decode c_M_decode 110 = .ok (.ifCond .eq 8, 3) := by decide +kernel
theorem d_M_decode_113 : decode c_M_decode 113 = .ok (.iload 4, 2) := by decide +kernel
theorem d_M_decode_115 : decode c_M_decode 115 = .ok (.goto 7, 3) := by decide +kernel
theorem d_M_decode_118 : decode c_M_decode 118 = .ok (.iload 4, 2) := by decide +kernel
theorem d_M_decode_120 : decode c_M_decode 120 = .ok (.iconst 1, 1) := by decide +kernel
theorem d_M_decode_121 : decode c_M_decode 121 = .ok (.iadd, 1) := by decide +kernel
theorem d_M_decode_122 : decode c_M_decode 122 = .ok (.istore 4, 2) := by decide +kernel
theorem d_M_decode_124 : decode c_M_decode 124 = .ok (.goto (-49), 3) := by decide +kernel
theorem d_M_decode_127 : decode c_M_decode 127 = .ok (.aload_n 0, 1) := by decide +kernel
theorem d_M_decode_128 : decode c_M_decode 128 = .ok (.invokevirtual 212, 3) := by decide +kernel
theorem d_M_decode_131 : decode c_M_decode 131 = .ok (.aload_n 0, 1) := by decide +kernel
theorem d_M_decode_132 : decode c_M_decode 132 = .ok (.getfield 108, 3) := by decide +kernel
theorem d_M_decode_135 : decode c_M_decode 135 = .ok (.ifCond .ne 8, 3) := by decide +kernel
theorem d_M_decode_138 : decode c_M_decode 138 = .ok (.iload 5, 2) := by decide +kernel
theorem d_M_decode_140 : decode c_M_decode 140 = .ok (.ifCond .eq 8, 3) := by decide +kernel
theorem d_M_decode_143 : decode c_M_decode 143 = .ok (.iload 4, 2) := by decide +kernel
theorem d_M_decode_145 : decode c_M_decode 145 = .ok (.goto 9, 3) := by decide +kernel
theorem d_M_decode_148 : decode c_M_decode 148 = .ok (.iconst (-1), 1) := by decide +kernel
theorem d_M_decode_149 : decode c_M_decode 149 = .ok (.iload 4, 2) := by decide +kernel
theorem d_M_decode_151 : decode c_M_decode 151 = .ok (.iconst 1, 1) := by decide +kernel
theorem d_M_decode_152 : decode c_M_decode 152 = .ok (.isub, 1) := by decide +kernel
theorem d_M_decode_153 : decode c_M_decode 153 = .ok (.isub, 1) := by decide +kernel
theorem d_M_decode_154 : decode c_M_decode 154 = .ok (.ireturn, 1) := by decide +kernel
theorem d_M_at_0 : decode c_M_at 0 = .ok (.aload_n 0, 1) := by decide +kernel
theorem d_M_at_1 : decode c_M_at 1 = .ok (.aload_n 0, 1) := by decide +kernel
theorem d_M_at_2 : decode c_M_at 2 = .ok (.iload_n 1, 1) := by decide +kernel
theorem d_M_at_3 : decode c_M_at 3 = .ok (.iload_n 2, 1) := by decide +kernel
theorem d_M_at_4 : decode c_M_at 4 = .ok (.invokevirtual 86, 3) := by decide +kernel
theorem d_M_at_7 : decode c_M_at 7 = .ok (.ifCond .eq 7, 3) := by decide +kernel
theorem d_M_at_10 : decode c_M_at 10 = .ok (.iconst 0, 1) := by decide +kernel
theorem d_M_at_11 : decode c_M_at 11 = .ok (.goto 4, 3) := by decide +kernel
theorem d_M_at_14 : decode c_M_at 14 = .ok (.iconst 1, 1) := by decide +kernel
theorem d_M_at_15 : decode c_M_at 15 = .ok (.putfield 79, 3) := by decide +kernel
theorem d_M_at_18 : decode c_M_at 18 = .ok (.aload_n 0, 1) := by decide +kernel
theorem d_M_at_19 : decode c_M_at 19 = .ok (.getfield 79, 3) := by decide +kernel
theorem d_M_at_22 : decode c_M_at 22 = .ok (.ifCond .le 7, 3) := by decide +kernel
theorem d_M_at_25 : decode c_M_at 25 = .ok (.iconst 0, 1) := by decide +kernel
theorem d_M_at_26 : decode c_M_at 26 = .ok (.goto 14, 3) := by decide +kernel
theorem d_M_at_29 : decode c_M_at 29 = .ok (.aload_n 0, 1) := by decide +kernel
theorem d_M_at_30 : decode c_M_at 30 = .ok (.getfield 60, 3) := by decide +kernel
theorem d_M_at_33 : decode c_M_at 33 = .ok (.bipush 16, 2) := by decide +kernel
theorem d_M_at_35 : decode c_M_at 35 = .ok (.iload_n 2, 1) := by decide +kernel
theorem d_M_at_36 : decode c_M_at 36 = .ok (.imul, 1) := by decide +kernel
theorem d_M_at_37 : decode c_M_at 37 = .ok (.iload_n 1, 1) := by decide +kernel
theorem d_M_at_38 : decode c_M_at 38 = .ok (.iadd, 1) := by decide +kernel
theorem d_M_at_39 : decode c_M_at 39 = .ok (.iaload, 1) := by decide +kernel
theorem d_M_at_40 : decode c_M_at 40 = .ok (.ireturn, 1) := by decide +kernel
theorem d_M_known_0 : decode c_M_known 0 = .ok (.aload_n 0, 1) := by decide +kernel
theorem d_M_known_1 : decode c_M_known 1 = .ok (.aload_n 0, 1) := by decide +kernel
theorem d_M_known_2 : decode c_M_known 2 = .ok (.iload_n 1, 1) := by decide +kernel
theorem d_M_known_3 : decode c_M_known 3 = .ok (.iload_n 2, 1) := by decide +kernel
theorem d_M_known_4 : decode c_M_known 4 = .ok (.invokevirtual 86, 3) := by decide +kernel
theorem d_M_known_7 : decode c_M_known 7 = .ok (.ifCond .eq 7, 3) := by decide +kernel
theorem d_M_known_10 : decode c_M_known 10 = .ok (.iconst 0, 1) := by decide +kernel
theorem d_M_known_11 : decode c_M_known 11 = .ok (.goto 4, 3) := by decide +kernel
theorem d_M_known_14 : decode c_M_known 14 = .ok (.iconst 1, 1) := by decide +kernel
theorem d_M_known_15 : decode c_M_known 15 = .ok (.putfield 79, 3) := by decide +kernel
theorem d_M_known_18 : decode c_M_known 18 = .ok (.aload_n 0, 1) := by decide +kernel
theorem d_M_known_19 : decode c_M_known 19 = .ok (.getfield 79, 3) := by decide +kernel
theorem d_M_known_22 : decode c_M_known 22 = .ok (.ifCond .le 7, 3) := by decide +kernel
theorem d_M_known_25 : decode c_M_known 25 = .ok (.iconst 0, 1) := by decide +kernel
theorem d_M_known_26 : decode c_M_known 26 = .ok (.goto 14, 3) := by decide +kernel
theorem d_M_known_29 : decode c_M_known 29 = .ok (.aload_n 0, 1) := by decide +kernel
theorem d_M_known_30 : decode c_M_known 30 = .ok (.getfield 63, 3) := by decide +kernel
theorem d_M_known_33 : decode c_M_known 33 = .ok (.bipush 16, 2) := by decide +kernel
theorem d_M_known_35 : decode c_M_known 35 = .ok (.iload_n 2, 1) := by decide +kernel
theorem d_M_known_36 : decode c_M_known 36 = .ok (.imul, 1) := by decide +kernel
theorem d_M_known_37 : decode c_M_known 37 = .ok (.iload_n 1, 1) := by decide +kernel
theorem d_M_known_38 : decode c_M_known 38 = .ok (.iadd, 1) := by decide +kernel
theorem d_M_known_39 : decode c_M_known 39 = .ok (.iaload, 1) := by decide +kernel
theorem d_M_known_40 : decode c_M_known 40 = .ok (.ireturn, 1) := by decide +kernel
theorem d_M_told_0 : decode c_M_told 0 = .ok (.aload_n 0, 1) := by decide +kernel
theorem d_M_told_1 : decode c_M_told 1 = .ok (.iconst 0, 1) := by decide +kernel
theorem d_M_told_2 : decode c_M_told 2 = .ok (.putfield 79, 3) := by decide +kernel
theorem d_M_told_5 : decode c_M_told 5 = .ok (.iload_n 1, 1) := by decide +kernel
theorem d_M_told_6 : decode c_M_told 6 = .ok (.tableswitch 77 0 6 #[42, 47, 52, 57, 62, 67, 72], 42) := by decide +kernel
theorem d_M_told_48 : decode c_M_told 48 = .ok (.aload_n 0, 1) := by decide +kernel
theorem d_M_told_49 : decode c_M_told 49 = .ok (.getfield 66, 3) := by decide +kernel
theorem d_M_told_52 : decode c_M_told 52 = .ok (.ireturn, 1) := by decide +kernel
theorem d_M_told_53 : decode c_M_told 53 = .ok (.aload_n 0, 1) := by decide +kernel
theorem d_M_told_54 : decode c_M_told 54 = .ok (.getfield 70, 3) := by decide +kernel
theorem d_M_told_57 : decode c_M_told 57 = .ok (.ireturn, 1) := by decide +kernel
theorem d_M_told_58 : decode c_M_told 58 = .ok (.aload_n 0, 1) := by decide +kernel
theorem d_M_told_59 : decode c_M_told 59 = .ok (.getfield 73, 3) := by decide +kernel
theorem d_M_told_62 : decode c_M_told 62 = .ok (.ireturn, 1) := by decide +kernel
theorem d_M_told_63 : decode c_M_told 63 = .ok (.aload_n 0, 1) := by decide +kernel
theorem d_M_told_64 : decode c_M_told 64 = .ok (.getfield 76, 3) := by decide +kernel
theorem d_M_told_67 : decode c_M_told 67 = .ok (.ireturn, 1) := by decide +kernel
theorem d_M_told_68 : decode c_M_told 68 = .ok (.aload_n 0, 1) := by decide +kernel
theorem d_M_told_69 : decode c_M_told 69 = .ok (.invokevirtual 190, 3) := by decide +kernel
theorem d_M_told_72 : decode c_M_told 72 = .ok (.ireturn, 1) := by decide +kernel
theorem d_M_told_73 : decode c_M_told 73 = .ok (.aload_n 0, 1) := by decide +kernel
theorem d_M_told_74 : decode c_M_told 74 = .ok (.getfield 197, 3) := by decide +kernel
theorem d_M_told_77 : decode c_M_told 77 = .ok (.ireturn, 1) := by decide +kernel
theorem d_M_told_78 : decode c_M_told 78 = .ok (.aload_n 0, 1) := by decide +kernel
theorem d_M_told_79 : decode c_M_told 79 = .ok (.getfield 105, 3) := by decide +kernel
theorem d_M_told_82 : decode c_M_told 82 = .ok (.ireturn, 1) := by decide +kernel
theorem d_M_told_83 : decode c_M_told 83 = .ok (.iconst (-1), 1) := by decide +kernel
theorem d_M_told_84 : decode c_M_told 84 = .ok (.ireturn, 1) := by decide +kernel
theorem d_M_clear_0 : decode c_M_clear 0 = .ok (.aload_n 0, 1) := by decide +kernel
theorem d_M_clear_1 : decode c_M_clear 1 = .ok (.iconst 0, 1) := by decide +kernel
theorem d_M_clear_2 : decode c_M_clear 2 = .ok (.putfield 79, 3) := by decide +kernel
theorem d_M_clear_5 : decode c_M_clear 5 = .ok (.aload_n 0, 1) := by decide +kernel
theorem d_M_clear_6 : decode c_M_clear 6 = .ok (.iconst 0, 1) := by decide +kernel
theorem d_M_clear_7 : decode c_M_clear 7 = .ok (.putfield 111, 3) := by decide +kernel
theorem d_M_clear_10 : decode c_M_clear 10 = .ok (.aload_n 0, 1) := by decide +kernel
theorem d_M_clear_11 : decode c_M_clear 11 = .ok (.iconst 0, 1) := by decide +kernel
theorem d_M_clear_12 : decode c_M_clear 12 = .ok (.putfield 197, 3) := by decide +kernel
theorem d_M_clear_15 : decode c_M_clear 15 = .ok (.aload_n 0, 1) := by decide +kernel
theorem d_M_clear_16 : decode c_M_clear 16 = .ok (.iconst 0, 1) := by decide +kernel
theorem d_M_clear_17 : decode c_M_clear 17 = .ok (.putfield 105, 3) := by decide +kernel
theorem d_M_clear_20 : decode c_M_clear 20 = .ok (.iconst 0, 1) := by decide +kernel
theorem d_M_clear_21 : decode c_M_clear 21 = .ok (.istore_n 1, 1) := by decide +kernel
theorem d_M_clear_22 : decode c_M_clear 22 = .ok (.iload_n 1, 1) := by decide +kernel
theorem d_M_clear_23 : decode c_M_clear 23 = .ok (.sipush 256, 3) := by decide +kernel
theorem d_M_clear_26 : decode c_M_clear 26 = .ok (.if_icmp .ge 30, 3) := by decide +kernel
theorem d_M_clear_29 : decode c_M_clear 29 = .ok (.aload_n 0, 1) := by decide +kernel
theorem d_M_clear_30 : decode c_M_clear 30 = .ok (.getfield 7, 3) := by decide +kernel
theorem d_M_clear_33 : decode c_M_clear 33 = .ok (.iload_n 1, 1) := by decide +kernel
theorem d_M_clear_34 : decode c_M_clear 34 = .ok (.iconst 0, 1) := by decide +kernel
theorem d_M_clear_35 : decode c_M_clear 35 = .ok (.iastore, 1) := by decide +kernel
theorem d_M_clear_36 : decode c_M_clear 36 = .ok (.aload_n 0, 1) := by decide +kernel
theorem d_M_clear_37 : decode c_M_clear 37 = .ok (.getfield 60, 3) := by decide +kernel
theorem d_M_clear_40 : decode c_M_clear 40 = .ok (.iload_n 1, 1) := by decide +kernel
theorem d_M_clear_41 : decode c_M_clear 41 = .ok (.iconst 0, 1) := by decide +kernel
theorem d_M_clear_42 : decode c_M_clear 42 = .ok (.iastore, 1) := by decide +kernel
theorem d_M_clear_43 : decode c_M_clear 43 = .ok (.aload_n 0, 1) := by decide +kernel
theorem d_M_clear_44 : decode c_M_clear 44 = .ok (.getfield 63, 3) := by decide +kernel
theorem d_M_clear_47 : decode c_M_clear 47 = .ok (.iload_n 1, 1) := by decide +kernel
theorem d_M_clear_48 : decode c_M_clear 48 = .ok (.iconst 0, 1) := by decide +kernel
theorem d_M_clear_49 : decode c_M_clear 49 = .ok (.iastore, 1) := by decide +kernel
theorem d_M_clear_50 : decode c_M_clear 50 = .ok (.iinc 1 1, 3) := by decide +kernel
theorem d_M_clear_53 : decode c_M_clear 53 = .ok (.goto (-31), 3) := by decide +kernel
theorem d_M_clear_56 : decode c_M_clear 56 = .ok (.return_, 1) := by decide +kernel
abbrev rm_M_bits : Room := { frames := 0, cells := 0, slots := 0, locals := 0 }
set_option maxHeartbeats 4000000 in
set_option maxRecDepth 100000 in
theorem m_M_bits (l : Launch) (dC : Nat → ClassId) (dI : Nat → Nat → Nat) (q_mo q_msa q_mbi q_mcx q_mpa q_mle q_mdi q_mrd q_msz q_mbe q_mfa q_mse q_mrf q_mlo q_mos q_mwb q_mol q_mrv q_mrl : Nat) (mref : Int32) (mw : Int32) (mh : Int32) (mst : Int32) (mbd : Int32) (mtb : Int32) (mps : Int32) (mtr : Int32) (misr : Int32) (mplc : Int32) (mlak : Int32) (mpl : Int32) (mpass : Int32) (mraw : Int32) (u : Int32 × Int32) (hF : f_M_bits mtb = u) : ∀ sz : Nat, Met l y_M_bits (kws y_M_bits c_M_bits 1 (some .int)) rm_M_bits (kPre (dC, dI) [.ref q_mo] [(q_mo, .inr (5, [.int mref, .int mw, .int mh, .int mst, .int mbd, .ref q_msa, .int mtb, .ref q_mbi, .ref q_mcx, .ref q_mpa, .int mps, .ref q_mle, .ref q_mdi, .int mtr, .ref q_mrd, .int misr, .int mplc, .int mlak, .int mpl, .int mpass, .int mraw, .ref q_msz, .ref q_mbe, .ref q_mfa, .ref q_mse, .ref q_mrf, .ref q_mlo, .ref q_mos, .ref q_mwb, .ref q_mol, .ref q_mrv, .ref q_mrl]))] [] sz) (kPost (dC, dI) (some (.int u.1)) [(q_mo, .inr (5, [.int u.2, .int mw, .int mh, .int mst, .int mbd, .ref q_msa, .int mtb, .ref q_mbi, .ref q_mcx, .ref q_mpa, .int mps, .ref q_mle, .ref q_mdi, .int mtr, .ref q_mrd, .int misr, .int mplc, .int mlak, .int mpl, .int mpass, .int mraw, .ref q_msz, .ref q_mbe, .ref q_mfa, .ref q_mse, .ref q_mrf, .ref q_mlo, .ref q_mos, .ref q_mwb, .ref q_mol, .ref q_mrv, .ref q_mrl]))] (va_A [(q_mo, .inr (5, [.int mref, .int mw, .int mh, .int mst, .int mbd, .ref q_msa, .int mtb, .ref q_mbi, .ref q_mcx, .ref q_mpa, .int mps, .ref q_mle, .ref q_mdi, .int mtr, .ref q_mrd, .int misr, .int mplc, .int mlak, .int mpl, .int mpass, .int mraw, .ref q_msz, .ref q_mbe, .ref q_mfa, .ref q_mse, .ref q_mrf, .ref q_mlo, .ref q_mos, .ref q_mwb, .ref q_mol, .ref q_mrv, .ref q_mrl]))] sz)) 0 0 (va_A [(q_mo, .inr (5, [.int mref, .int mw, .int mh, .int mst, .int mbd, .ref q_msa, .int mtb, .ref q_mbi, .ref q_mcx, .ref q_mpa, .int mps, .ref q_mle, .ref q_mdi, .int mtr, .ref q_mrd, .int misr, .int mplc, .int mlak, .int mpl, .int mpass, .int mraw, .ref q_msz, .ref q_mbe, .ref q_mfa, .ref q_mse, .ref q_mrf, .ref q_mlo, .ref q_mos, .ref q_mwb, .ref q_mol, .ref q_mrv, .ref q_mrl]))] sz) := by
  unfold f_M_bits at hF
  refine kU_of (cc := c_M_bits) (maxL := 1) (ret := (some .int)) (by decide) (Nat.le_of_ble_eq_true rfl) ?_
  intro p e s m args below meth c Q A hQ hfx hK hN hA H locs ls hP hD hS hl
  obtain ⟨hx, hb, hr, hml, hown, hts, hlocks⟩ := hfx
  have hown : s.vm.findClass R_M = some m.cls := hown
  have hl : lv_has ls 1 [(0, .ref q_mo)] := hl
  refine lv_aload_n hx hb d_M_bits_0 rfl (lv_at hl 0 rfl) ?_
  refine lv_iconst (v := 0) hx hb d_M_bits_1 (by decide) ?_
  refine va_put (D := (dC, dI)) (ci := 5) (v := .int (0 : Int32)) (ty := .int) (C := R_M) (T := T_M) (N := 32) hx hb hts ki_M ty_M tyok_M nmok_M hown hK hP hD hS 0 rfl rfl 0 (by decide) (hts _ kw_3_133) (fun _ h9 => h9) rfl (by decide +kernel) rfl rfl (Nat.le_of_ble_eq_true rfl) d_M_bits_2 (fun H locs hP hD hS => ?_)
  have hP : va_P (dC, dI) vwCl [(q_mo, .inr (5, [.int (0 : Int32), .int mw, .int mh, .int mst, .int mbd, .ref q_msa, .int mtb, .ref q_mbi, .ref q_mcx, .ref q_mpa, .int mps, .ref q_mle, .ref q_mdi, .int mtr, .ref q_mrd, .int misr, .int mplc, .int mlak, .int mpl, .int mpass, .int mraw, .ref q_msz, .ref q_mbe, .ref q_mfa, .ref q_mse, .ref q_mrf, .ref q_mlo, .ref q_mos, .ref q_mwb, .ref q_mol, .ref q_mrv, .ref q_mrl]))] H := hP
  have hD : va_D A [(q_mo, .inr (5, [.int (0 : Int32), .int mw, .int mh, .int mst, .int mbd, .ref q_msa, .int mtb, .ref q_mbi, .ref q_mcx, .ref q_mpa, .int mps, .ref q_mle, .ref q_mdi, .int mtr, .ref q_mrd, .int misr, .int mplc, .int mlak, .int mpl, .int mpass, .int mraw, .ref q_msz, .ref q_mbe, .ref q_mfa, .ref q_mse, .ref q_mrf, .ref q_mlo, .ref q_mos, .ref q_mwb, .ref q_mol, .ref q_mrv, .ref q_mrl]))] := hD
  refine lv_aload_n hx hb d_M_bits_5 rfl (lv_at hl 0 rfl) ?_
  refine va_get (D := (dC, dI)) (ci := 5) (v := .int mtb) (C := R_M) (T := T_M) (N := 32) hx hb hts ki_M hown hK hP 0 rfl rfl 6 (by decide) (hts _ kw_3_139) (fun _ h9 => h9) rfl d_M_bits_6 ?_
  subst hF
  exact ku_iret hx hb hr hlocks hQ (hP.sub [0] rfl) (hD.sub [0] (by decide) rfl) hS d_M_bits_9
abbrev rm_M_bit : Room := { frames := 0, cells := 0, slots := 0, locals := 0 }
set_option maxHeartbeats 4000000 in
set_option maxRecDepth 100000 in
theorem m_M_bit (l : Launch) (dC : Nat → ClassId) (dI : Nat → Nat → Nat) (q_mo q_msa q_mbi q_mcx q_mpa q_mle q_mdi q_mrd q_msz q_mbe q_mfa q_mse q_mrf q_mlo q_mos q_mwb q_mol q_mrv q_mrl : Nat) (k_mbi : ClassId) (n_mbi : Nat) (k_mcx : ClassId) (n_mcx : Nat) (k_mpa : ClassId) (n_mpa : Nat) (mref : Int32) (mw : Int32) (mh : Int32) (mst : Int32) (mbd : Int32) (mtb : Int32) (mps : Int32) (mtr : Int32) (misr : Int32) (mplc : Int32) (mlak : Int32) (mpl : Int32) (mpass : Int32) (mraw : Int32) (mbits : (Nat → Int32)) (mctxs : (Nat → Int32)) (mpaso : (Nat → Int32)) (a0 : Int32) (a1 : Int32) (u : Int32 × Int32) (hF : f_M_bit mtb mbits mctxs mpaso n_mbi n_mcx n_mpa a0 a1 = some u) : ∀ sz : Nat, Met l y_M_bit (kws y_M_bit c_M_bit 3 (some .int)) rm_M_bit (kPre (dC, dI) [.ref q_mo, .int a0, .int a1] [(q_mo, .inr (5, [.int mref, .int mw, .int mh, .int mst, .int mbd, .ref q_msa, .int mtb, .ref q_mbi, .ref q_mcx, .ref q_mpa, .int mps, .ref q_mle, .ref q_mdi, .int mtr, .ref q_mrd, .int misr, .int mplc, .int mlak, .int mpl, .int mpass, .int mraw, .ref q_msz, .ref q_mbe, .ref q_mfa, .ref q_mse, .ref q_mrf, .ref q_mlo, .ref q_mos, .ref q_mwb, .ref q_mol, .ref q_mrv, .ref q_mrl])), (q_mbi, .inl (k_mbi, n_mbi, .inl mbits)), (q_mcx, .inl (k_mcx, n_mcx, .inl mctxs)), (q_mpa, .inl (k_mpa, n_mpa, .inl mpaso))] [(k_mbi, .int), (k_mcx, .int), (k_mpa, .int)] sz) (kPost (dC, dI) (some (.int u.1)) [(q_mo, .inr (5, [.int u.2, .int mw, .int mh, .int mst, .int mbd, .ref q_msa, .int mtb, .ref q_mbi, .ref q_mcx, .ref q_mpa, .int mps, .ref q_mle, .ref q_mdi, .int mtr, .ref q_mrd, .int misr, .int mplc, .int mlak, .int mpl, .int mpass, .int mraw, .ref q_msz, .ref q_mbe, .ref q_mfa, .ref q_mse, .ref q_mrf, .ref q_mlo, .ref q_mos, .ref q_mwb, .ref q_mol, .ref q_mrv, .ref q_mrl])), (q_mbi, .inl (k_mbi, n_mbi, .inl mbits)), (q_mcx, .inl (k_mcx, n_mcx, .inl mctxs)), (q_mpa, .inl (k_mpa, n_mpa, .inl mpaso))] (va_A [(q_mo, .inr (5, [.int mref, .int mw, .int mh, .int mst, .int mbd, .ref q_msa, .int mtb, .ref q_mbi, .ref q_mcx, .ref q_mpa, .int mps, .ref q_mle, .ref q_mdi, .int mtr, .ref q_mrd, .int misr, .int mplc, .int mlak, .int mpl, .int mpass, .int mraw, .ref q_msz, .ref q_mbe, .ref q_mfa, .ref q_mse, .ref q_mrf, .ref q_mlo, .ref q_mos, .ref q_mwb, .ref q_mol, .ref q_mrv, .ref q_mrl])), (q_mbi, .inl (k_mbi, n_mbi, .inl mbits)), (q_mcx, .inl (k_mcx, n_mcx, .inl mctxs)), (q_mpa, .inl (k_mpa, n_mpa, .inl mpaso))] sz)) 0 0 (va_A [(q_mo, .inr (5, [.int mref, .int mw, .int mh, .int mst, .int mbd, .ref q_msa, .int mtb, .ref q_mbi, .ref q_mcx, .ref q_mpa, .int mps, .ref q_mle, .ref q_mdi, .int mtr, .ref q_mrd, .int misr, .int mplc, .int mlak, .int mpl, .int mpass, .int mraw, .ref q_msz, .ref q_mbe, .ref q_mfa, .ref q_mse, .ref q_mrf, .ref q_mlo, .ref q_mos, .ref q_mwb, .ref q_mol, .ref q_mrv, .ref q_mrl])), (q_mbi, .inl (k_mbi, n_mbi, .inl mbits)), (q_mcx, .inl (k_mcx, n_mcx, .inl mctxs)), (q_mpa, .inl (k_mpa, n_mpa, .inl mpaso))] sz) := by
  unfold f_M_bit at hF
  refine kU_of (cc := c_M_bit) (maxL := 3) (ret := (some .int)) (by decide) (Nat.le_of_ble_eq_true rfl) ?_
  intro p e s m args below meth c Q A hQ hfx hK hN hA H locs ls hP hD hS hl
  obtain ⟨hx, hb, hr, hml, hown, hts, hlocks⟩ := hfx
  have hown : s.vm.findClass R_M = some m.cls := hown
  have hl : lv_has ls 3 [(0, .ref q_mo), (1, .int a0), (2, .int a1)] := hl
  refine lv_aload_n hx hb d_M_bit_0 rfl (lv_at hl 0 rfl) ?_
  refine lv_iload_n hx hb d_M_bit_1 rfl (lv_at hl 1 rfl) ?_
  obtain ⟨u2, hcu2, hF⟩ := kc_bnd hF
  have hJu2 : ∀ (H : Heap) (locs : List Loc) (ls : Array Slot), va_P (dC, dI) vwCl [(q_mo, .inr (5, [.int mref, .int mw, .int mh, .int mst, .int mbd, .ref q_msa, .int mtb, .ref q_mbi, .ref q_mcx, .ref q_mpa, .int mps, .ref q_mle, .ref q_mdi, .int mtr, .ref q_mrd, .int misr, .int mplc, .int mlak, .int mpl, .int mpass, .int mraw, .ref q_msz, .ref q_mbe, .ref q_mfa, .ref q_mse, .ref q_mrf, .ref q_mlo, .ref q_mos, .ref q_mwb, .ref q_mol, .ref q_mrv, .ref q_mrl])), (q_mbi, .inl (k_mbi, n_mbi, .inl mbits)), (q_mcx, .inl (k_mcx, n_mcx, .inl mctxs)), (q_mpa, .inl (k_mpa, n_mpa, .inl mpaso))] H → va_D A [(q_mo, .inr (5, [.int mref, .int mw, .int mh, .int mst, .int mbd, .ref q_msa, .int mtb, .ref q_mbi, .ref q_mcx, .ref q_mpa, .int mps, .ref q_mle, .ref q_mdi, .int mtr, .ref q_mrd, .int misr, .int mplc, .int mlak, .int mpl, .int mpass, .int mraw, .ref q_msz, .ref q_mbe, .ref q_mfa, .ref q_mse, .ref q_mrf, .ref q_mlo, .ref q_mos, .ref q_mwb, .ref q_mol, .ref q_mrv, .ref q_mrl])), (q_mbi, .inl (k_mbi, n_mbi, .inl mbits)), (q_mcx, .inl (k_mcx, n_mcx, .inl mctxs)), (q_mpa, .inl (k_mpa, n_mpa, .inl mpaso))] → va_S A s.heap H locs → lv_has ls 3 [(0, .ref q_mo), (1, .int a0), (2, .int a1)] → W p l e rm_M_bit s m args below meth c H locs 0 0 Q (F0 m 31 ls [.int u2, .ref q_mo]) := by
    intro H locs ls hP hD hS hl
    refine va_put (D := (dC, dI)) (ci := 5) (v := .int u2) (ty := .int) (C := R_M) (T := T_M) (N := 32) hx hb hts ki_M ty_M tyok_M nmok_M hown hK hP hD hS 0 rfl rfl 0 (by decide) (hts _ kw_3_133) (fun _ h9 => h9) rfl (by decide +kernel) rfl rfl (Nat.le_of_ble_eq_true rfl) d_M_bit_31 (fun H locs hP hD hS => ?_)
    have hP : va_P (dC, dI) vwCl [(q_mo, .inr (5, [.int u2, .int mw, .int mh, .int mst, .int mbd, .ref q_msa, .int mtb, .ref q_mbi, .ref q_mcx, .ref q_mpa, .int mps, .ref q_mle, .ref q_mdi, .int mtr, .ref q_mrd, .int misr, .int mplc, .int mlak, .int mpl, .int mpass, .int mraw, .ref q_msz, .ref q_mbe, .ref q_mfa, .ref q_mse, .ref q_mrf, .ref q_mlo, .ref q_mos, .ref q_mwb, .ref q_mol, .ref q_mrv, .ref q_mrl])), (q_mbi, .inl (k_mbi, n_mbi, .inl mbits)), (q_mcx, .inl (k_mcx, n_mcx, .inl mctxs)), (q_mpa, .inl (k_mpa, n_mpa, .inl mpaso))] H := hP
    have hD : va_D A [(q_mo, .inr (5, [.int u2, .int mw, .int mh, .int mst, .int mbd, .ref q_msa, .int mtb, .ref q_mbi, .ref q_mcx, .ref q_mpa, .int mps, .ref q_mle, .ref q_mdi, .int mtr, .ref q_mrd, .int misr, .int mplc, .int mlak, .int mpl, .int mpass, .int mraw, .ref q_msz, .ref q_mbe, .ref q_mfa, .ref q_mse, .ref q_mrf, .ref q_mlo, .ref q_mos, .ref q_mwb, .ref q_mol, .ref q_mrv, .ref q_mrl])), (q_mbi, .inl (k_mbi, n_mbi, .inl mbits)), (q_mcx, .inl (k_mcx, n_mcx, .inl mctxs)), (q_mpa, .inl (k_mpa, n_mpa, .inl mpaso))] := hD
    refine lv_aload_n hx hb d_M_bit_34 rfl (lv_at hl 0 rfl) ?_
    refine va_get (D := (dC, dI)) (ci := 5) (v := .int u2) (C := R_M) (T := T_M) (N := 32) hx hb hts ki_M hown hK hP 0 rfl rfl 0 (by decide) (hts _ kw_3_133) (fun _ h9 => h9) rfl d_M_bit_35 ?_
    refine lv_if_le (tgt := 45) hx hb d_M_bit_38 (by decide) (fun c3 => ?_) (fun c3 => ?_)
    · have hF := kc_pos c3 hF
      refine lv_iload_n hx hb d_M_bit_45 rfl (lv_at hl 2 rfl) ?_
      refine lv_if_ne (tgt := 58) hx hb d_M_bit_46 (by decide) (fun c4 => ?_) (fun c4 => ?_)
      · have hF := kc_neg c4 hF
        refine lv_iload_n hx hb d_M_bit_58 rfl (lv_at hl 2 rfl) ?_
        refine lv_iconst (v := 1) hx hb d_M_bit_59 (by decide) ?_
        refine lv_icmp_ne (tgt := 72) hx hb d_M_bit_60 (by decide) (fun c5 => ?_) (fun c5 => ?_)
        · have hF := kc_neg c5 hF
          refine lv_aload_n hx hb d_M_bit_72 rfl (lv_at hl 0 rfl) ?_
          refine va_get (D := (dC, dI)) (ci := 5) (v := .ref q_mpa) (C := R_M) (T := T_M) (N := 32) hx hb hts ki_M hown hK hP 0 rfl rfl 9 (by decide) (hts _ kw_3_142) (fun _ h9 => h9) rfl d_M_bit_73 ?_
          refine lv_iload_n hx hb d_M_bit_76 rfl (lv_at hl 1 rfl) ?_
          obtain ⟨h6, hF⟩ := kc_no hF
          refine va_iald hx hb hK hP 3 2 rfl rfl h6 d_M_bit_77 ?_
          obtain rfl := Option.some.inj hF
          exact ku_iret hx hb hr hlocks hQ (hP.sub [0, 1, 2, 3] rfl) (hD.sub [0, 1, 2, 3] (by decide) rfl) hS d_M_bit_78
        have hF := kc_pos c5 hF
        refine lv_aload_n hx hb d_M_bit_63 rfl (lv_at hl 0 rfl) ?_
        refine va_get (D := (dC, dI)) (ci := 5) (v := .ref q_mcx) (C := R_M) (T := T_M) (N := 32) hx hb hts ki_M hown hK hP 0 rfl rfl 8 (by decide) (hts _ kw_3_141) (fun _ h9 => h9) rfl d_M_bit_64 ?_
        refine lv_iload_n hx hb d_M_bit_67 rfl (lv_at hl 1 rfl) ?_
        obtain ⟨h7, hF⟩ := kc_no hF
        refine va_iald hx hb hK hP 2 1 rfl rfl h7 d_M_bit_68 ?_
        refine lv_goto (tgt := 78) hx hb d_M_bit_69 (by decide) ?_
        obtain rfl := Option.some.inj hF
        exact ku_iret hx hb hr hlocks hQ (hP.sub [0, 1, 2, 3] rfl) (hD.sub [0, 1, 2, 3] (by decide) rfl) hS d_M_bit_78
      have hF := kc_pos c4 hF
      refine lv_aload_n hx hb d_M_bit_49 rfl (lv_at hl 0 rfl) ?_
      refine va_get (D := (dC, dI)) (ci := 5) (v := .ref q_mbi) (C := R_M) (T := T_M) (N := 32) hx hb hts ki_M hown hK hP 0 rfl rfl 7 (by decide) (hts _ kw_3_140) (fun _ h9 => h9) rfl d_M_bit_50 ?_
      refine lv_iload_n hx hb d_M_bit_53 rfl (lv_at hl 1 rfl) ?_
      obtain ⟨h8, hF⟩ := kc_no hF
      refine va_iald hx hb hK hP 1 0 rfl rfl h8 d_M_bit_54 ?_
      refine lv_goto (tgt := 78) hx hb d_M_bit_55 (by decide) ?_
      obtain rfl := Option.some.inj hF
      exact ku_iret hx hb hr hlocks hQ (hP.sub [0, 1, 2, 3] rfl) (hD.sub [0, 1, 2, 3] (by decide) rfl) hS d_M_bit_78
    have hF := kc_neg c3 hF
    refine lv_iconst (v := 0) hx hb d_M_bit_41 (by decide) ?_
    refine lv_goto (tgt := 78) hx hb d_M_bit_42 (by decide) ?_
    obtain rfl := Option.some.inj hF
    exact ku_iret hx hb hr hlocks hQ (hP.sub [0, 1, 2, 3] rfl) (hD.sub [0, 1, 2, 3] (by decide) rfl) hS d_M_bit_78
  clear hF; have hF := hcu2; clear hcu2
  refine lv_if_lt (tgt := 13) hx hb d_M_bit_2 (by decide) (fun c1 => ?_) (fun c1 => ?_)
  · have hF := kc_pos c1 hF
    refine lv_iconst (v := 1) hx hb d_M_bit_13 (by decide) ?_
    refine lv_goto (tgt := 31) hx hb d_M_bit_14 (by decide) ?_
    obtain rfl := Option.some.inj hF
    exact hJu2 _ _ _ hP hD hS (lv_sub hl [0, 1, 2] rfl)
  have hF := kc_neg c1 hF
  refine lv_iload_n hx hb d_M_bit_5 rfl (lv_at hl 1 rfl) ?_
  refine lv_aload_n hx hb d_M_bit_6 rfl (lv_at hl 0 rfl) ?_
  refine va_get (D := (dC, dI)) (ci := 5) (v := .int mtb) (C := R_M) (T := T_M) (N := 32) hx hb hts ki_M hown hK hP 0 rfl rfl 6 (by decide) (hts _ kw_3_139) (fun _ h9 => h9) rfl d_M_bit_7 ?_
  refine lv_icmp_lt (tgt := 17) hx hb d_M_bit_10 (by decide) (fun c9 => ?_) (fun c9 => ?_)
  · have hF := kc_pos c9 hF
    refine lv_iload_n hx hb d_M_bit_17 rfl (lv_at hl 2 rfl) ?_
    refine lv_if_lt (tgt := 26) hx hb d_M_bit_18 (by decide) (fun c10 => ?_) (fun c10 => ?_)
    · have hF := kc_pos c10 hF
      refine lv_iconst (v := 2) hx hb d_M_bit_26 (by decide) ?_
      refine lv_goto (tgt := 31) hx hb d_M_bit_27 (by decide) ?_
      obtain rfl := Option.some.inj hF
      exact hJu2 _ _ _ hP hD hS (lv_sub hl [0, 1, 2] rfl)
    have hF := kc_neg c10 hF
    refine lv_iload_n hx hb d_M_bit_21 rfl (lv_at hl 2 rfl) ?_
    refine lv_iconst (v := 2) hx hb d_M_bit_22 (by decide) ?_
    refine lv_icmp_le (tgt := 30) hx hb d_M_bit_23 (by decide) (fun c11 => ?_) (fun c11 => ?_)
    · have hF := kc_pos c11 hF
      refine lv_iconst (v := 0) hx hb d_M_bit_30 (by decide) ?_
      obtain rfl := Option.some.inj hF
      exact hJu2 _ _ _ hP hD hS (lv_sub hl [0, 1, 2] rfl)
    have hF := kc_neg c11 hF
    refine lv_iconst (v := 2) hx hb d_M_bit_26 (by decide) ?_
    refine lv_goto (tgt := 31) hx hb d_M_bit_27 (by decide) ?_
    obtain rfl := Option.some.inj hF
    exact hJu2 _ _ _ hP hD hS (lv_sub hl [0, 1, 2] rfl)
  have hF := kc_neg c9 hF
  refine lv_iconst (v := 1) hx hb d_M_bit_13 (by decide) ?_
  refine lv_goto (tgt := 31) hx hb d_M_bit_14 (by decide) ?_
  obtain rfl := Option.some.inj hF
  exact hJu2 _ _ _ hP hD hS (lv_sub hl [0, 1, 2] rfl)
abbrev rm_M_isPass : Room := { frames := 0, cells := 0, slots := 0, locals := 0 }
set_option maxHeartbeats 4000000 in
set_option maxRecDepth 100000 in
theorem m_M_isPass (l : Launch) (dC : Nat → ClassId) (dI : Nat → Nat → Nat) (q_mo q_msa q_mbi q_mcx q_mpa q_mle q_mdi q_mrd q_msz q_mbe q_mfa q_mse q_mrf q_mlo q_mos q_mwb q_mol q_mrv q_mrl : Nat) (mref : Int32) (mw : Int32) (mh : Int32) (mst : Int32) (mbd : Int32) (mtb : Int32) (mps : Int32) (mtr : Int32) (misr : Int32) (mplc : Int32) (mlak : Int32) (mpl : Int32) (mpass : Int32) (mraw : Int32) (a0 : Int32) (u : Int32 × Int32) (hF : f_M_isPass mps a0 = u) : ∀ sz : Nat, Met l y_M_isPass (kws y_M_isPass c_M_isPass 2 (some .boolean)) rm_M_isPass (kPre (dC, dI) [.ref q_mo, .int a0] [(q_mo, .inr (5, [.int mref, .int mw, .int mh, .int mst, .int mbd, .ref q_msa, .int mtb, .ref q_mbi, .ref q_mcx, .ref q_mpa, .int mps, .ref q_mle, .ref q_mdi, .int mtr, .ref q_mrd, .int misr, .int mplc, .int mlak, .int mpl, .int mpass, .int mraw, .ref q_msz, .ref q_mbe, .ref q_mfa, .ref q_mse, .ref q_mrf, .ref q_mlo, .ref q_mos, .ref q_mwb, .ref q_mol, .ref q_mrv, .ref q_mrl]))] [] sz) (kPost (dC, dI) (some (.int u.1)) [(q_mo, .inr (5, [.int u.2, .int mw, .int mh, .int mst, .int mbd, .ref q_msa, .int mtb, .ref q_mbi, .ref q_mcx, .ref q_mpa, .int mps, .ref q_mle, .ref q_mdi, .int mtr, .ref q_mrd, .int misr, .int mplc, .int mlak, .int mpl, .int mpass, .int mraw, .ref q_msz, .ref q_mbe, .ref q_mfa, .ref q_mse, .ref q_mrf, .ref q_mlo, .ref q_mos, .ref q_mwb, .ref q_mol, .ref q_mrv, .ref q_mrl]))] (va_A [(q_mo, .inr (5, [.int mref, .int mw, .int mh, .int mst, .int mbd, .ref q_msa, .int mtb, .ref q_mbi, .ref q_mcx, .ref q_mpa, .int mps, .ref q_mle, .ref q_mdi, .int mtr, .ref q_mrd, .int misr, .int mplc, .int mlak, .int mpl, .int mpass, .int mraw, .ref q_msz, .ref q_mbe, .ref q_mfa, .ref q_mse, .ref q_mrf, .ref q_mlo, .ref q_mos, .ref q_mwb, .ref q_mol, .ref q_mrv, .ref q_mrl]))] sz)) 0 0 (va_A [(q_mo, .inr (5, [.int mref, .int mw, .int mh, .int mst, .int mbd, .ref q_msa, .int mtb, .ref q_mbi, .ref q_mcx, .ref q_mpa, .int mps, .ref q_mle, .ref q_mdi, .int mtr, .ref q_mrd, .int misr, .int mplc, .int mlak, .int mpl, .int mpass, .int mraw, .ref q_msz, .ref q_mbe, .ref q_mfa, .ref q_mse, .ref q_mrf, .ref q_mlo, .ref q_mos, .ref q_mwb, .ref q_mol, .ref q_mrv, .ref q_mrl]))] sz) := by
  unfold f_M_isPass at hF
  refine kU_of (cc := c_M_isPass) (maxL := 2) (ret := (some .boolean)) (by decide) (Nat.le_of_ble_eq_true rfl) ?_
  intro p e s m args below meth c Q A hQ hfx hK hN hA H locs ls hP hD hS hl
  obtain ⟨hx, hb, hr, hml, hown, hts, hlocks⟩ := hfx
  have hown : s.vm.findClass R_M = some m.cls := hown
  have hl : lv_has ls 2 [(0, .ref q_mo), (1, .int a0)] := hl
  refine lv_aload_n hx hb d_M_isPass_0 rfl (lv_at hl 0 rfl) ?_
  refine lv_iload_n hx hb d_M_isPass_1 rfl (lv_at hl 1 rfl) ?_
  refine lv_if_lt (tgt := 13) hx hb d_M_isPass_2 (by decide) (fun c1 => ?_) (fun c1 => ?_)
  · have hF := kc_pos c1 hF
    refine lv_iconst (v := 1) hx hb d_M_isPass_13 (by decide) ?_
    refine lv_goto (tgt := 18) hx hb d_M_isPass_14 (by decide) ?_
    refine va_put (D := (dC, dI)) (ci := 5) (v := .int (1 : Int32)) (ty := .int) (C := R_M) (T := T_M) (N := 32) hx hb hts ki_M ty_M tyok_M nmok_M hown hK hP hD hS 0 rfl rfl 0 (by decide) (hts _ kw_3_133) (fun _ h9 => h9) rfl (by decide +kernel) rfl rfl (Nat.le_of_ble_eq_true rfl) d_M_isPass_18 (fun H locs hP hD hS => ?_)
    have hP : va_P (dC, dI) vwCl [(q_mo, .inr (5, [.int (1 : Int32), .int mw, .int mh, .int mst, .int mbd, .ref q_msa, .int mtb, .ref q_mbi, .ref q_mcx, .ref q_mpa, .int mps, .ref q_mle, .ref q_mdi, .int mtr, .ref q_mrd, .int misr, .int mplc, .int mlak, .int mpl, .int mpass, .int mraw, .ref q_msz, .ref q_mbe, .ref q_mfa, .ref q_mse, .ref q_mrf, .ref q_mlo, .ref q_mos, .ref q_mwb, .ref q_mol, .ref q_mrv, .ref q_mrl]))] H := hP
    have hD : va_D A [(q_mo, .inr (5, [.int (1 : Int32), .int mw, .int mh, .int mst, .int mbd, .ref q_msa, .int mtb, .ref q_mbi, .ref q_mcx, .ref q_mpa, .int mps, .ref q_mle, .ref q_mdi, .int mtr, .ref q_mrd, .int misr, .int mplc, .int mlak, .int mpl, .int mpass, .int mraw, .ref q_msz, .ref q_mbe, .ref q_mfa, .ref q_mse, .ref q_mrf, .ref q_mlo, .ref q_mos, .ref q_mwb, .ref q_mol, .ref q_mrv, .ref q_mrl]))] := hD
    refine lv_aload_n hx hb d_M_isPass_21 rfl (lv_at hl 0 rfl) ?_
    refine va_get (D := (dC, dI)) (ci := 5) (v := .int (1 : Int32)) (C := R_M) (T := T_M) (N := 32) hx hb hts ki_M hown hK hP 0 rfl rfl 0 (by decide) (hts _ kw_3_133) (fun _ h9 => h9) rfl d_M_isPass_22 ?_
    refine lv_if_ne (tgt := 32) hx hb d_M_isPass_25 (by decide) (fun c2 => ?_) (fun c2 => ?_)
    rotate_left
    · exact absurd c2 (by decide)
    refine lv_iconst (v := 0) hx hb d_M_isPass_32 (by decide) ?_
    subst hF
    exact ku_zret hx hb hr hlocks hQ (by decide) (hP.sub [0] rfl) (hD.sub [0] (by decide) rfl) hS d_M_isPass_33
  have hF := kc_neg c1 hF
  refine lv_iload_n hx hb d_M_isPass_5 rfl (lv_at hl 1 rfl) ?_
  refine lv_aload_n hx hb d_M_isPass_6 rfl (lv_at hl 0 rfl) ?_
  refine va_get (D := (dC, dI)) (ci := 5) (v := .int mps) (C := R_M) (T := T_M) (N := 32) hx hb hts ki_M hown hK hP 0 rfl rfl 10 (by decide) (hts _ kw_3_143) (fun _ h9 => h9) rfl d_M_isPass_7 ?_
  refine lv_icmp_lt (tgt := 17) hx hb d_M_isPass_10 (by decide) (fun c3 => ?_) (fun c3 => ?_)
  · have hF := kc_pos c3 hF
    refine lv_iconst (v := 0) hx hb d_M_isPass_17 (by decide) ?_
    refine va_put (D := (dC, dI)) (ci := 5) (v := .int (0 : Int32)) (ty := .int) (C := R_M) (T := T_M) (N := 32) hx hb hts ki_M ty_M tyok_M nmok_M hown hK hP hD hS 0 rfl rfl 0 (by decide) (hts _ kw_3_133) (fun _ h9 => h9) rfl (by decide +kernel) rfl rfl (Nat.le_of_ble_eq_true rfl) d_M_isPass_18 (fun H locs hP hD hS => ?_)
    have hP : va_P (dC, dI) vwCl [(q_mo, .inr (5, [.int (0 : Int32), .int mw, .int mh, .int mst, .int mbd, .ref q_msa, .int mtb, .ref q_mbi, .ref q_mcx, .ref q_mpa, .int mps, .ref q_mle, .ref q_mdi, .int mtr, .ref q_mrd, .int misr, .int mplc, .int mlak, .int mpl, .int mpass, .int mraw, .ref q_msz, .ref q_mbe, .ref q_mfa, .ref q_mse, .ref q_mrf, .ref q_mlo, .ref q_mos, .ref q_mwb, .ref q_mol, .ref q_mrv, .ref q_mrl]))] H := hP
    have hD : va_D A [(q_mo, .inr (5, [.int (0 : Int32), .int mw, .int mh, .int mst, .int mbd, .ref q_msa, .int mtb, .ref q_mbi, .ref q_mcx, .ref q_mpa, .int mps, .ref q_mle, .ref q_mdi, .int mtr, .ref q_mrd, .int misr, .int mplc, .int mlak, .int mpl, .int mpass, .int mraw, .ref q_msz, .ref q_mbe, .ref q_mfa, .ref q_mse, .ref q_mrf, .ref q_mlo, .ref q_mos, .ref q_mwb, .ref q_mol, .ref q_mrv, .ref q_mrl]))] := hD
    refine lv_aload_n hx hb d_M_isPass_21 rfl (lv_at hl 0 rfl) ?_
    refine va_get (D := (dC, dI)) (ci := 5) (v := .int (0 : Int32)) (C := R_M) (T := T_M) (N := 32) hx hb hts ki_M hown hK hP 0 rfl rfl 0 (by decide) (hts _ kw_3_133) (fun _ h9 => h9) rfl d_M_isPass_22 ?_
    refine lv_if_ne (tgt := 32) hx hb d_M_isPass_25 (by decide) (fun c4 => ?_) (fun c4 => ?_)
    · exact absurd c4 (by decide)
    refine lv_iconst (v := 1) hx hb d_M_isPass_28 (by decide) ?_
    refine lv_goto (tgt := 33) hx hb d_M_isPass_29 (by decide) ?_
    subst hF
    exact ku_zret hx hb hr hlocks hQ (by decide) (hP.sub [0] rfl) (hD.sub [0] (by decide) rfl) hS d_M_isPass_33
  have hF := kc_neg c3 hF
  refine lv_iconst (v := 1) hx hb d_M_isPass_13 (by decide) ?_
  refine lv_goto (tgt := 18) hx hb d_M_isPass_14 (by decide) ?_
  refine va_put (D := (dC, dI)) (ci := 5) (v := .int (1 : Int32)) (ty := .int) (C := R_M) (T := T_M) (N := 32) hx hb hts ki_M ty_M tyok_M nmok_M hown hK hP hD hS 0 rfl rfl 0 (by decide) (hts _ kw_3_133) (fun _ h9 => h9) rfl (by decide +kernel) rfl rfl (Nat.le_of_ble_eq_true rfl) d_M_isPass_18 (fun H locs hP hD hS => ?_)
  have hP : va_P (dC, dI) vwCl [(q_mo, .inr (5, [.int (1 : Int32), .int mw, .int mh, .int mst, .int mbd, .ref q_msa, .int mtb, .ref q_mbi, .ref q_mcx, .ref q_mpa, .int mps, .ref q_mle, .ref q_mdi, .int mtr, .ref q_mrd, .int misr, .int mplc, .int mlak, .int mpl, .int mpass, .int mraw, .ref q_msz, .ref q_mbe, .ref q_mfa, .ref q_mse, .ref q_mrf, .ref q_mlo, .ref q_mos, .ref q_mwb, .ref q_mol, .ref q_mrv, .ref q_mrl]))] H := hP
  have hD : va_D A [(q_mo, .inr (5, [.int (1 : Int32), .int mw, .int mh, .int mst, .int mbd, .ref q_msa, .int mtb, .ref q_mbi, .ref q_mcx, .ref q_mpa, .int mps, .ref q_mle, .ref q_mdi, .int mtr, .ref q_mrd, .int misr, .int mplc, .int mlak, .int mpl, .int mpass, .int mraw, .ref q_msz, .ref q_mbe, .ref q_mfa, .ref q_mse, .ref q_mrf, .ref q_mlo, .ref q_mos, .ref q_mwb, .ref q_mol, .ref q_mrv, .ref q_mrl]))] := hD
  refine lv_aload_n hx hb d_M_isPass_21 rfl (lv_at hl 0 rfl) ?_
  refine va_get (D := (dC, dI)) (ci := 5) (v := .int (1 : Int32)) (C := R_M) (T := T_M) (N := 32) hx hb hts ki_M hown hK hP 0 rfl rfl 0 (by decide) (hts _ kw_3_133) (fun _ h9 => h9) rfl d_M_isPass_22 ?_
  refine lv_if_ne (tgt := 32) hx hb d_M_isPass_25 (by decide) (fun c5 => ?_) (fun c5 => ?_)
  rotate_left
  · exact absurd c5 (by decide)
  refine lv_iconst (v := 0) hx hb d_M_isPass_32 (by decide) ?_
  subst hF
  exact ku_zret hx hb hr hlocks hQ (by decide) (hP.sub [0] rfl) (hD.sub [0] (by decide) rfl) hS d_M_isPass_33
abbrev rm_M_length : Room := { frames := 1, cells := 0, slots := 0, locals := 21 }
set_option maxHeartbeats 4000000 in
set_option maxRecDepth 100000 in
theorem m_M_length (l : Launch) (dC : Nat → ClassId) (dI : Nat → Nat → Nat) (q_mo q_msa q_mbi q_mcx q_mpa q_mle q_mdi q_mrd q_msz q_mbe q_mfa q_mse q_mrf q_mlo q_mos q_mwb q_mol q_mrv q_mrl : Nat) (k_mle : ClassId) (n_mle : Nat) (mref : Int32) (mw : Int32) (mh : Int32) (mst : Int32) (mbd : Int32) (mtb : Int32) (mps : Int32) (mtr : Int32) (misr : Int32) (mplc : Int32) (mlak : Int32) (mpl : Int32) (mpass : Int32) (mraw : Int32) (mlens : (Nat → Int32)) (a0 : Int32) (u : Int32 × Int32) (hF : f_M_length mps mlens n_mle a0 = some u) : ∀ sz : Nat, Met l y_M_length (kws y_M_length c_M_length 2 (some .int)) rm_M_length (kPre (dC, dI) [.ref q_mo, .int a0] [(q_mo, .inr (5, [.int mref, .int mw, .int mh, .int mst, .int mbd, .ref q_msa, .int mtb, .ref q_mbi, .ref q_mcx, .ref q_mpa, .int mps, .ref q_mle, .ref q_mdi, .int mtr, .ref q_mrd, .int misr, .int mplc, .int mlak, .int mpl, .int mpass, .int mraw, .ref q_msz, .ref q_mbe, .ref q_mfa, .ref q_mse, .ref q_mrf, .ref q_mlo, .ref q_mos, .ref q_mwb, .ref q_mol, .ref q_mrv, .ref q_mrl])), (q_mle, .inl (k_mle, n_mle, .inl mlens))] [(k_mle, .int)] sz) (kPost (dC, dI) (some (.int u.1)) [(q_mo, .inr (5, [.int u.2, .int mw, .int mh, .int mst, .int mbd, .ref q_msa, .int mtb, .ref q_mbi, .ref q_mcx, .ref q_mpa, .int mps, .ref q_mle, .ref q_mdi, .int mtr, .ref q_mrd, .int misr, .int mplc, .int mlak, .int mpl, .int mpass, .int mraw, .ref q_msz, .ref q_mbe, .ref q_mfa, .ref q_mse, .ref q_mrf, .ref q_mlo, .ref q_mos, .ref q_mwb, .ref q_mol, .ref q_mrv, .ref q_mrl])), (q_mle, .inl (k_mle, n_mle, .inl mlens))] (va_A [(q_mo, .inr (5, [.int mref, .int mw, .int mh, .int mst, .int mbd, .ref q_msa, .int mtb, .ref q_mbi, .ref q_mcx, .ref q_mpa, .int mps, .ref q_mle, .ref q_mdi, .int mtr, .ref q_mrd, .int misr, .int mplc, .int mlak, .int mpl, .int mpass, .int mraw, .ref q_msz, .ref q_mbe, .ref q_mfa, .ref q_mse, .ref q_mrf, .ref q_mlo, .ref q_mos, .ref q_mwb, .ref q_mol, .ref q_mrv, .ref q_mrl])), (q_mle, .inl (k_mle, n_mle, .inl mlens))] sz)) 0 0 (va_A [(q_mo, .inr (5, [.int mref, .int mw, .int mh, .int mst, .int mbd, .ref q_msa, .int mtb, .ref q_mbi, .ref q_mcx, .ref q_mpa, .int mps, .ref q_mle, .ref q_mdi, .int mtr, .ref q_mrd, .int misr, .int mplc, .int mlak, .int mpl, .int mpass, .int mraw, .ref q_msz, .ref q_mbe, .ref q_mfa, .ref q_mse, .ref q_mrf, .ref q_mlo, .ref q_mos, .ref q_mwb, .ref q_mol, .ref q_mrv, .ref q_mrl])), (q_mle, .inl (k_mle, n_mle, .inl mlens))] sz) := by
  unfold f_M_length at hF
  refine kU_of (cc := c_M_length) (maxL := 2) (ret := (some .int)) (by decide) (Nat.le_of_ble_eq_true rfl) ?_
  intro p e s m args below meth c Q A hQ hfx hK hN hA H locs ls hP hD hS hl
  obtain ⟨hx, hb, hr, hml, hown, hts, hlocks⟩ := hfx
  have hown : s.vm.findClass R_M = some m.cls := hown
  have hl : lv_has ls 2 [(0, .ref q_mo), (1, .int a0)] := hl
  refine lv_aload_n hx hb d_M_length_0 rfl (lv_at hl 0 rfl) ?_
  refine lv_iload_n hx hb d_M_length_1 rfl (lv_at hl 1 rfl) ?_
  refine ku_call (wr := [(q_mle, .inl (k_mle, n_mle, .inl mlens))]) hA (va_runV (As := [.int a0]) (rest := []) ⟨hx, hb, hml, hown, hts⟩ (m_M_isPass l dC dI q_mo q_msa q_mbi q_mcx q_mpa q_mle q_mdi q_mrd q_msz q_mbe q_mfa q_mse q_mrf q_mlo q_mos q_mwb q_mol q_mrv q_mrl mref mw mh mst mbd mtb mps mtr misr mplc mlak mpl mpass mraw a0 (f_M_isPass mps a0) rfl H.size) (cwV 1 hts (kgV kw_4_125 kw_4_127 kp_45 kw_1_8 kw_4_128) rfl rfl rfl (by decide +kernel) ⟨Nat.le_of_ble_eq_true rfl, Nat.le_of_ble_eq_true rfl⟩) ⟨kPre_blind, va_recv hK hP (ci := 5) (q0 := 0) rfl rfl, kPre_of (hP.sub [0] rfl) (hK.sub [] rfl) (hD.sub [0] (by decide) rfl) hN⟩ rfl rfl hl.1 rfl (lv_room (Nat.le_of_ble_eq_true rfl)) d_M_length_2 ⟨Nat.le_of_ble_eq_true rfl, Nat.le_of_ble_eq_true rfl⟩) hP hD hS [0] [1] rfl rfl (by decide) (by decide) (fun H locs hP hD hS => ?_)
  have hP : va_P (dC, dI) vwCl [(q_mle, .inl (k_mle, n_mle, .inl mlens)), (q_mo, .inr (5, [.int (f_M_isPass mps a0).2, .int mw, .int mh, .int mst, .int mbd, .ref q_msa, .int mtb, .ref q_mbi, .ref q_mcx, .ref q_mpa, .int mps, .ref q_mle, .ref q_mdi, .int mtr, .ref q_mrd, .int misr, .int mplc, .int mlak, .int mpl, .int mpass, .int mraw, .ref q_msz, .ref q_mbe, .ref q_mfa, .ref q_mse, .ref q_mrf, .ref q_mlo, .ref q_mos, .ref q_mwb, .ref q_mol, .ref q_mrv, .ref q_mrl]))] H := hP
  have hD : va_D A [(q_mle, .inl (k_mle, n_mle, .inl mlens)), (q_mo, .inr (5, [.int (f_M_isPass mps a0).2, .int mw, .int mh, .int mst, .int mbd, .ref q_msa, .int mtb, .ref q_mbi, .ref q_mcx, .ref q_mpa, .int mps, .ref q_mle, .ref q_mdi, .int mtr, .ref q_mrd, .int misr, .int mplc, .int mlak, .int mpl, .int mpass, .int mraw, .ref q_msz, .ref q_mbe, .ref q_mfa, .ref q_mse, .ref q_mrf, .ref q_mlo, .ref q_mos, .ref q_mwb, .ref q_mol, .ref q_mrv, .ref q_mrl]))] := hD
  refine lv_if_eq (tgt := 17) hx hb d_M_length_5 (by decide) (fun c1 => ?_) (fun c1 => ?_)
  · have hF := kc_pos c1 hF
    refine lv_iconst (v := 0) hx hb d_M_length_17 (by decide) ?_
    obtain rfl := Option.some.inj hF
    exact ku_iret hx hb hr hlocks hQ (hP.sub [1, 0] rfl) (hD.sub [1, 0] (by decide) rfl) hS d_M_length_18
  have hF := kc_neg c1 hF
  refine lv_aload_n hx hb d_M_length_8 rfl (lv_at hl 0 rfl) ?_
  refine va_get (D := (dC, dI)) (ci := 5) (v := .ref q_mle) (C := R_M) (T := T_M) (N := 32) hx hb hts ki_M hown hK hP 1 rfl rfl 11 (by decide) (hts _ kw_3_144) (fun _ h9 => h9) rfl d_M_length_9 ?_
  refine lv_iload_n hx hb d_M_length_12 rfl (lv_at hl 1 rfl) ?_
  obtain ⟨h2, hF⟩ := kc_no hF
  refine va_iald hx hb hK hP 0 0 rfl rfl h2 d_M_length_13 ?_
  refine lv_goto (tgt := 18) hx hb d_M_length_14 (by decide) ?_
  obtain rfl := Option.some.inj hF
  exact ku_iret hx hb hr hlocks hQ (hP.sub [1, 0] rfl) (hD.sub [1, 0] (by decide) rfl) hS d_M_length_18
abbrev rm_M_distortion : Room := { frames := 1, cells := 0, slots := 0, locals := 21 }
set_option maxHeartbeats 4000000 in
set_option maxRecDepth 100000 in
theorem m_M_distortion (l : Launch) (dC : Nat → ClassId) (dI : Nat → Nat → Nat) (q_mo q_msa q_mbi q_mcx q_mpa q_mle q_mdi q_mrd q_msz q_mbe q_mfa q_mse q_mrf q_mlo q_mos q_mwb q_mol q_mrv q_mrl : Nat) (k_mdi : ClassId) (n_mdi : Nat) (mref : Int32) (mw : Int32) (mh : Int32) (mst : Int32) (mbd : Int32) (mtb : Int32) (mps : Int32) (mtr : Int32) (misr : Int32) (mplc : Int32) (mlak : Int32) (mpl : Int32) (mpass : Int32) (mraw : Int32) (mdiss : (Nat → Int64)) (a0 : Int32) (u : Int64 × Int32) (hF : f_M_distortion mps mdiss n_mdi a0 = some u) : ∀ sz : Nat, Met l y_M_distortion (kws y_M_distortion c_M_distortion 2 (some .long)) rm_M_distortion (kPre (dC, dI) [.ref q_mo, .int a0] [(q_mo, .inr (5, [.int mref, .int mw, .int mh, .int mst, .int mbd, .ref q_msa, .int mtb, .ref q_mbi, .ref q_mcx, .ref q_mpa, .int mps, .ref q_mle, .ref q_mdi, .int mtr, .ref q_mrd, .int misr, .int mplc, .int mlak, .int mpl, .int mpass, .int mraw, .ref q_msz, .ref q_mbe, .ref q_mfa, .ref q_mse, .ref q_mrf, .ref q_mlo, .ref q_mos, .ref q_mwb, .ref q_mol, .ref q_mrv, .ref q_mrl])), (q_mdi, .inl (k_mdi, n_mdi, .inr (.inl mdiss)))] [(k_mdi, .long)] sz) (kPost (dC, dI) (some (.long u.1)) [(q_mo, .inr (5, [.int u.2, .int mw, .int mh, .int mst, .int mbd, .ref q_msa, .int mtb, .ref q_mbi, .ref q_mcx, .ref q_mpa, .int mps, .ref q_mle, .ref q_mdi, .int mtr, .ref q_mrd, .int misr, .int mplc, .int mlak, .int mpl, .int mpass, .int mraw, .ref q_msz, .ref q_mbe, .ref q_mfa, .ref q_mse, .ref q_mrf, .ref q_mlo, .ref q_mos, .ref q_mwb, .ref q_mol, .ref q_mrv, .ref q_mrl])), (q_mdi, .inl (k_mdi, n_mdi, .inr (.inl mdiss)))] (va_A [(q_mo, .inr (5, [.int mref, .int mw, .int mh, .int mst, .int mbd, .ref q_msa, .int mtb, .ref q_mbi, .ref q_mcx, .ref q_mpa, .int mps, .ref q_mle, .ref q_mdi, .int mtr, .ref q_mrd, .int misr, .int mplc, .int mlak, .int mpl, .int mpass, .int mraw, .ref q_msz, .ref q_mbe, .ref q_mfa, .ref q_mse, .ref q_mrf, .ref q_mlo, .ref q_mos, .ref q_mwb, .ref q_mol, .ref q_mrv, .ref q_mrl])), (q_mdi, .inl (k_mdi, n_mdi, .inr (.inl mdiss)))] sz)) 0 0 (va_A [(q_mo, .inr (5, [.int mref, .int mw, .int mh, .int mst, .int mbd, .ref q_msa, .int mtb, .ref q_mbi, .ref q_mcx, .ref q_mpa, .int mps, .ref q_mle, .ref q_mdi, .int mtr, .ref q_mrd, .int misr, .int mplc, .int mlak, .int mpl, .int mpass, .int mraw, .ref q_msz, .ref q_mbe, .ref q_mfa, .ref q_mse, .ref q_mrf, .ref q_mlo, .ref q_mos, .ref q_mwb, .ref q_mol, .ref q_mrv, .ref q_mrl])), (q_mdi, .inl (k_mdi, n_mdi, .inr (.inl mdiss)))] sz) := by
  unfold f_M_distortion at hF
  refine kU_of (cc := c_M_distortion) (maxL := 2) (ret := (some .long)) (by decide) (Nat.le_of_ble_eq_true rfl) ?_
  intro p e s m args below meth c Q A hQ hfx hK hN hA H locs ls hP hD hS hl
  obtain ⟨hx, hb, hr, hml, hown, hts, hlocks⟩ := hfx
  have hown : s.vm.findClass R_M = some m.cls := hown
  have hl : lv_has ls 2 [(0, .ref q_mo), (1, .int a0)] := hl
  refine lv_aload_n hx hb d_M_distortion_0 rfl (lv_at hl 0 rfl) ?_
  refine lv_iload_n hx hb d_M_distortion_1 rfl (lv_at hl 1 rfl) ?_
  refine ku_call (wr := [(q_mdi, .inl (k_mdi, n_mdi, .inr (.inl mdiss)))]) hA (va_runV (As := [.int a0]) (rest := []) ⟨hx, hb, hml, hown, hts⟩ (m_M_isPass l dC dI q_mo q_msa q_mbi q_mcx q_mpa q_mle q_mdi q_mrd q_msz q_mbe q_mfa q_mse q_mrf q_mlo q_mos q_mwb q_mol q_mrv q_mrl mref mw mh mst mbd mtb mps mtr misr mplc mlak mpl mpass mraw a0 (f_M_isPass mps a0) rfl H.size) (cwV 1 hts (kgV kw_4_125 kw_4_127 kp_45 kw_1_8 kw_4_128) rfl rfl rfl (by decide +kernel) ⟨Nat.le_of_ble_eq_true rfl, Nat.le_of_ble_eq_true rfl⟩) ⟨kPre_blind, va_recv hK hP (ci := 5) (q0 := 0) rfl rfl, kPre_of (hP.sub [0] rfl) (hK.sub [] rfl) (hD.sub [0] (by decide) rfl) hN⟩ rfl rfl hl.1 rfl (lv_room (Nat.le_of_ble_eq_true rfl)) d_M_distortion_2 ⟨Nat.le_of_ble_eq_true rfl, Nat.le_of_ble_eq_true rfl⟩) hP hD hS [0] [1] rfl rfl (by decide) (by decide) (fun H locs hP hD hS => ?_)
  have hP : va_P (dC, dI) vwCl [(q_mdi, .inl (k_mdi, n_mdi, .inr (.inl mdiss))), (q_mo, .inr (5, [.int (f_M_isPass mps a0).2, .int mw, .int mh, .int mst, .int mbd, .ref q_msa, .int mtb, .ref q_mbi, .ref q_mcx, .ref q_mpa, .int mps, .ref q_mle, .ref q_mdi, .int mtr, .ref q_mrd, .int misr, .int mplc, .int mlak, .int mpl, .int mpass, .int mraw, .ref q_msz, .ref q_mbe, .ref q_mfa, .ref q_mse, .ref q_mrf, .ref q_mlo, .ref q_mos, .ref q_mwb, .ref q_mol, .ref q_mrv, .ref q_mrl]))] H := hP
  have hD : va_D A [(q_mdi, .inl (k_mdi, n_mdi, .inr (.inl mdiss))), (q_mo, .inr (5, [.int (f_M_isPass mps a0).2, .int mw, .int mh, .int mst, .int mbd, .ref q_msa, .int mtb, .ref q_mbi, .ref q_mcx, .ref q_mpa, .int mps, .ref q_mle, .ref q_mdi, .int mtr, .ref q_mrd, .int misr, .int mplc, .int mlak, .int mpl, .int mpass, .int mraw, .ref q_msz, .ref q_mbe, .ref q_mfa, .ref q_mse, .ref q_mrf, .ref q_mlo, .ref q_mos, .ref q_mwb, .ref q_mol, .ref q_mrv, .ref q_mrl]))] := hD
  refine lv_if_eq (tgt := 17) hx hb d_M_distortion_5 (by decide) (fun c1 => ?_) (fun c1 => ?_)
  · have hF := kc_pos c1 hF
    refine lv_lconst (v := 0) hx hb d_M_distortion_17 (by decide) ?_
    obtain rfl := Option.some.inj hF
    exact ku_lret hx hb hr hlocks hQ (hP.sub [1, 0] rfl) (hD.sub [1, 0] (by decide) rfl) hS d_M_distortion_18
  have hF := kc_neg c1 hF
  refine lv_aload_n hx hb d_M_distortion_8 rfl (lv_at hl 0 rfl) ?_
  refine va_get (D := (dC, dI)) (ci := 5) (v := .ref q_mdi) (C := R_M) (T := T_M) (N := 32) hx hb hts ki_M hown hK hP 1 rfl rfl 12 (by decide) (hts _ kw_3_145) (fun _ h9 => h9) rfl d_M_distortion_9 ?_
  refine lv_iload_n hx hb d_M_distortion_12 rfl (lv_at hl 1 rfl) ?_
  obtain ⟨h2, hF⟩ := kc_no hF
  refine va_lald hx hb hK hP 0 0 rfl rfl h2 d_M_distortion_13 ?_
  refine lv_goto (tgt := 18) hx hb d_M_distortion_14 (by decide) ?_
  obtain rfl := Option.some.inj hF
  exact ku_lret hx hb hr hlocks hQ (hP.sub [1, 0] rfl) (hD.sub [1, 0] (by decide) rfl) hS d_M_distortion_18
abbrev rm_M_kind : Room := { frames := 1, cells := 0, slots := 0, locals := 21 }
set_option maxHeartbeats 4000000 in
set_option maxRecDepth 100000 in
theorem m_M_kind (l : Launch) (dC : Nat → ClassId) (dI : Nat → Nat → Nat) (q_mo q_msa q_mbi q_mcx q_mpa q_mle q_mdi q_mrd q_msz q_mbe q_mfa q_mse q_mrf q_mlo q_mos q_mwb q_mol q_mrv q_mrl : Nat) (mref : Int32) (mw : Int32) (mh : Int32) (mst : Int32) (mbd : Int32) (mtb : Int32) (mps : Int32) (mtr : Int32) (misr : Int32) (mplc : Int32) (mlak : Int32) (mpl : Int32) (mpass : Int32) (mraw : Int32) (a0 : Int32) (u : Int32 × Int32) (hF : f_M_kind mps a0 = u) : ∀ sz : Nat, Met l y_M_kind (kws y_M_kind c_M_kind 2 (some .int)) rm_M_kind (kPre (dC, dI) [.ref q_mo, .int a0] [(q_mo, .inr (5, [.int mref, .int mw, .int mh, .int mst, .int mbd, .ref q_msa, .int mtb, .ref q_mbi, .ref q_mcx, .ref q_mpa, .int mps, .ref q_mle, .ref q_mdi, .int mtr, .ref q_mrd, .int misr, .int mplc, .int mlak, .int mpl, .int mpass, .int mraw, .ref q_msz, .ref q_mbe, .ref q_mfa, .ref q_mse, .ref q_mrf, .ref q_mlo, .ref q_mos, .ref q_mwb, .ref q_mol, .ref q_mrv, .ref q_mrl]))] [] sz) (kPost (dC, dI) (some (.int u.1)) [(q_mo, .inr (5, [.int u.2, .int mw, .int mh, .int mst, .int mbd, .ref q_msa, .int mtb, .ref q_mbi, .ref q_mcx, .ref q_mpa, .int mps, .ref q_mle, .ref q_mdi, .int mtr, .ref q_mrd, .int misr, .int mplc, .int mlak, .int mpl, .int mpass, .int mraw, .ref q_msz, .ref q_mbe, .ref q_mfa, .ref q_mse, .ref q_mrf, .ref q_mlo, .ref q_mos, .ref q_mwb, .ref q_mol, .ref q_mrv, .ref q_mrl]))] (va_A [(q_mo, .inr (5, [.int mref, .int mw, .int mh, .int mst, .int mbd, .ref q_msa, .int mtb, .ref q_mbi, .ref q_mcx, .ref q_mpa, .int mps, .ref q_mle, .ref q_mdi, .int mtr, .ref q_mrd, .int misr, .int mplc, .int mlak, .int mpl, .int mpass, .int mraw, .ref q_msz, .ref q_mbe, .ref q_mfa, .ref q_mse, .ref q_mrf, .ref q_mlo, .ref q_mos, .ref q_mwb, .ref q_mol, .ref q_mrv, .ref q_mrl]))] sz)) 0 0 (va_A [(q_mo, .inr (5, [.int mref, .int mw, .int mh, .int mst, .int mbd, .ref q_msa, .int mtb, .ref q_mbi, .ref q_mcx, .ref q_mpa, .int mps, .ref q_mle, .ref q_mdi, .int mtr, .ref q_mrd, .int misr, .int mplc, .int mlak, .int mpl, .int mpass, .int mraw, .ref q_msz, .ref q_mbe, .ref q_mfa, .ref q_mse, .ref q_mrf, .ref q_mlo, .ref q_mos, .ref q_mwb, .ref q_mol, .ref q_mrv, .ref q_mrl]))] sz) := by
  unfold f_M_kind at hF
  refine kU_of (cc := c_M_kind) (maxL := 2) (ret := (some .int)) (by decide) (Nat.le_of_ble_eq_true rfl) ?_
  intro p e s m args below meth c Q A hQ hfx hK hN hA H locs ls hP hD hS hl
  obtain ⟨hx, hb, hr, hml, hown, hts, hlocks⟩ := hfx
  have hown : s.vm.findClass R_M = some m.cls := hown
  have hl : lv_has ls 2 [(0, .ref q_mo), (1, .int a0)] := hl
  refine lv_aload_n hx hb d_M_kind_0 rfl (lv_at hl 0 rfl) ?_
  refine lv_iload_n hx hb d_M_kind_1 rfl (lv_at hl 1 rfl) ?_
  refine ku_call (wr := []) hA (va_runV (As := [.int a0]) (rest := []) ⟨hx, hb, hml, hown, hts⟩ (m_M_isPass l dC dI q_mo q_msa q_mbi q_mcx q_mpa q_mle q_mdi q_mrd q_msz q_mbe q_mfa q_mse q_mrf q_mlo q_mos q_mwb q_mol q_mrv q_mrl mref mw mh mst mbd mtb mps mtr misr mplc mlak mpl mpass mraw a0 (f_M_isPass mps a0) rfl H.size) (cwV 1 hts (kgV kw_4_125 kw_4_127 kp_45 kw_1_8 kw_4_128) rfl rfl rfl (by decide +kernel) ⟨Nat.le_of_ble_eq_true rfl, Nat.le_of_ble_eq_true rfl⟩) ⟨kPre_blind, va_recv hK hP (ci := 5) (q0 := 0) rfl rfl, kPre_of (hP.sub [0] rfl) (hK.sub [] rfl) (hD.sub [0] (by decide) rfl) hN⟩ rfl rfl hl.1 rfl (lv_room (Nat.le_of_ble_eq_true rfl)) d_M_kind_2 ⟨Nat.le_of_ble_eq_true rfl, Nat.le_of_ble_eq_true rfl⟩) hP hD hS [0] [] rfl rfl (by decide) (by decide) (fun H locs hP hD hS => ?_)
  have hP : va_P (dC, dI) vwCl [(q_mo, .inr (5, [.int (f_M_isPass mps a0).2, .int mw, .int mh, .int mst, .int mbd, .ref q_msa, .int mtb, .ref q_mbi, .ref q_mcx, .ref q_mpa, .int mps, .ref q_mle, .ref q_mdi, .int mtr, .ref q_mrd, .int misr, .int mplc, .int mlak, .int mpl, .int mpass, .int mraw, .ref q_msz, .ref q_mbe, .ref q_mfa, .ref q_mse, .ref q_mrf, .ref q_mlo, .ref q_mos, .ref q_mwb, .ref q_mol, .ref q_mrv, .ref q_mrl]))] H := hP
  have hD : va_D A [(q_mo, .inr (5, [.int (f_M_isPass mps a0).2, .int mw, .int mh, .int mst, .int mbd, .ref q_msa, .int mtb, .ref q_mbi, .ref q_mcx, .ref q_mpa, .int mps, .ref q_mle, .ref q_mdi, .int mtr, .ref q_mrd, .int misr, .int mplc, .int mlak, .int mpl, .int mpass, .int mraw, .ref q_msz, .ref q_mbe, .ref q_mfa, .ref q_mse, .ref q_mrf, .ref q_mlo, .ref q_mos, .ref q_mwb, .ref q_mol, .ref q_mrv, .ref q_mrl]))] := hD
  refine lv_if_eq (tgt := 15) hx hb d_M_kind_5 (by decide) (fun c1 => ?_) (fun c1 => ?_)
  · have hF := kc_pos c1 hF
    refine lv_iconst (v := 0) hx hb d_M_kind_15 (by decide) ?_
    subst hF
    exact ku_iret hx hb hr hlocks hQ (hP.sub [0] rfl) (hD.sub [0] (by decide) rfl) hS d_M_kind_16
  have hF := kc_neg c1 hF
  refine lv_iload_n hx hb d_M_kind_8 rfl (lv_at hl 1 rfl) ?_
  refine kr_call (va_runS (As := [.int a0]) (rest := []) ⟨hx, hb, hml, hown, hts⟩ (m_MS_kindOf l dC dI a0 (f_MS_kindOf a0) rfl) (va_cwS 1 hts (kgS kw_4_35 kw_4_36 kw_1_8 kw_4_37) rfl rfl rfl (by decide +kernel) ⟨Nat.le_of_ble_eq_true rfl, Nat.le_of_ble_eq_true rfl⟩) ⟨kRe_blind, kRe_of (hP.sub [] rfl) (hK.sub [] rfl) hN⟩ rfl rfl hl.1 rfl (lv_room (Nat.le_of_ble_eq_true rfl)) d_M_kind_9 ⟨Nat.le_of_ble_eq_true rfl, Nat.le_of_ble_eq_true rfl⟩) ?_
  refine lv_goto (tgt := 16) hx hb d_M_kind_12 (by decide) ?_
  subst hF
  exact ku_iret hx hb hr hlocks hQ (hP.sub [0] rfl) (hD.sub [0] (by decide) rfl) hS d_M_kind_16
abbrev rm_M_terminated : Room := { frames := 1, cells := 0, slots := 0, locals := 21 }
set_option maxHeartbeats 4000000 in
set_option maxRecDepth 100000 in
theorem m_M_terminated (l : Launch) (dC : Nat → ClassId) (dI : Nat → Nat → Nat) (q_mo q_msa q_mbi q_mcx q_mpa q_mle q_mdi q_mrd q_msz q_mbe q_mfa q_mse q_mrf q_mlo q_mos q_mwb q_mol q_mrv q_mrl : Nat) (mref : Int32) (mw : Int32) (mh : Int32) (mst : Int32) (mbd : Int32) (mtb : Int32) (mps : Int32) (mtr : Int32) (misr : Int32) (mplc : Int32) (mlak : Int32) (mpl : Int32) (mpass : Int32) (mraw : Int32) (a0 : Int32) (u : Int32 × Int32) (hF : f_M_terminated mst mps a0 = u) : ∀ sz : Nat, Met l y_M_terminated (kws y_M_terminated c_M_terminated 2 (some .boolean)) rm_M_terminated (kPre (dC, dI) [.ref q_mo, .int a0] [(q_mo, .inr (5, [.int mref, .int mw, .int mh, .int mst, .int mbd, .ref q_msa, .int mtb, .ref q_mbi, .ref q_mcx, .ref q_mpa, .int mps, .ref q_mle, .ref q_mdi, .int mtr, .ref q_mrd, .int misr, .int mplc, .int mlak, .int mpl, .int mpass, .int mraw, .ref q_msz, .ref q_mbe, .ref q_mfa, .ref q_mse, .ref q_mrf, .ref q_mlo, .ref q_mos, .ref q_mwb, .ref q_mol, .ref q_mrv, .ref q_mrl]))] [] sz) (kPost (dC, dI) (some (.int u.1)) [(q_mo, .inr (5, [.int u.2, .int mw, .int mh, .int mst, .int mbd, .ref q_msa, .int mtb, .ref q_mbi, .ref q_mcx, .ref q_mpa, .int mps, .ref q_mle, .ref q_mdi, .int mtr, .ref q_mrd, .int misr, .int mplc, .int mlak, .int mpl, .int mpass, .int mraw, .ref q_msz, .ref q_mbe, .ref q_mfa, .ref q_mse, .ref q_mrf, .ref q_mlo, .ref q_mos, .ref q_mwb, .ref q_mol, .ref q_mrv, .ref q_mrl]))] (va_A [(q_mo, .inr (5, [.int mref, .int mw, .int mh, .int mst, .int mbd, .ref q_msa, .int mtb, .ref q_mbi, .ref q_mcx, .ref q_mpa, .int mps, .ref q_mle, .ref q_mdi, .int mtr, .ref q_mrd, .int misr, .int mplc, .int mlak, .int mpl, .int mpass, .int mraw, .ref q_msz, .ref q_mbe, .ref q_mfa, .ref q_mse, .ref q_mrf, .ref q_mlo, .ref q_mos, .ref q_mwb, .ref q_mol, .ref q_mrv, .ref q_mrl]))] sz)) 0 0 (va_A [(q_mo, .inr (5, [.int mref, .int mw, .int mh, .int mst, .int mbd, .ref q_msa, .int mtb, .ref q_mbi, .ref q_mcx, .ref q_mpa, .int mps, .ref q_mle, .ref q_mdi, .int mtr, .ref q_mrd, .int misr, .int mplc, .int mlak, .int mpl, .int mpass, .int mraw, .ref q_msz, .ref q_mbe, .ref q_mfa, .ref q_mse, .ref q_mrf, .ref q_mlo, .ref q_mos, .ref q_mwb, .ref q_mol, .ref q_mrv, .ref q_mrl]))] sz) := by
  unfold f_M_terminated at hF
  refine kU_of (cc := c_M_terminated) (maxL := 2) (ret := (some .boolean)) (by decide) (Nat.le_of_ble_eq_true rfl) ?_
  intro p e s m args below meth c Q A hQ hfx hK hN hA H locs ls hP hD hS hl
  obtain ⟨hx, hb, hr, hml, hown, hts, hlocks⟩ := hfx
  have hown : s.vm.findClass R_M = some m.cls := hown
  have hl : lv_has ls 2 [(0, .ref q_mo), (1, .int a0)] := hl
  refine lv_aload_n hx hb d_M_terminated_0 rfl (lv_at hl 0 rfl) ?_
  refine lv_iload_n hx hb d_M_terminated_1 rfl (lv_at hl 1 rfl) ?_
  refine ku_call (wr := []) hA (va_runV (As := [.int a0]) (rest := []) ⟨hx, hb, hml, hown, hts⟩ (m_M_isPass l dC dI q_mo q_msa q_mbi q_mcx q_mpa q_mle q_mdi q_mrd q_msz q_mbe q_mfa q_mse q_mrf q_mlo q_mos q_mwb q_mol q_mrv q_mrl mref mw mh mst mbd mtb mps mtr misr mplc mlak mpl mpass mraw a0 (f_M_isPass mps a0) rfl H.size) (cwV 1 hts (kgV kw_4_125 kw_4_127 kp_45 kw_1_8 kw_4_128) rfl rfl rfl (by decide +kernel) ⟨Nat.le_of_ble_eq_true rfl, Nat.le_of_ble_eq_true rfl⟩) ⟨kPre_blind, va_recv hK hP (ci := 5) (q0 := 0) rfl rfl, kPre_of (hP.sub [0] rfl) (hK.sub [] rfl) (hD.sub [0] (by decide) rfl) hN⟩ rfl rfl hl.1 rfl (lv_room (Nat.le_of_ble_eq_true rfl)) d_M_terminated_2 ⟨Nat.le_of_ble_eq_true rfl, Nat.le_of_ble_eq_true rfl⟩) hP hD hS [0] [] rfl rfl (by decide) (by decide) (fun H locs hP hD hS => ?_)
  have hP : va_P (dC, dI) vwCl [(q_mo, .inr (5, [.int (f_M_isPass mps a0).2, .int mw, .int mh, .int mst, .int mbd, .ref q_msa, .int mtb, .ref q_mbi, .ref q_mcx, .ref q_mpa, .int mps, .ref q_mle, .ref q_mdi, .int mtr, .ref q_mrd, .int misr, .int mplc, .int mlak, .int mpl, .int mpass, .int mraw, .ref q_msz, .ref q_mbe, .ref q_mfa, .ref q_mse, .ref q_mrf, .ref q_mlo, .ref q_mos, .ref q_mwb, .ref q_mol, .ref q_mrv, .ref q_mrl]))] H := hP
  have hD : va_D A [(q_mo, .inr (5, [.int (f_M_isPass mps a0).2, .int mw, .int mh, .int mst, .int mbd, .ref q_msa, .int mtb, .ref q_mbi, .ref q_mcx, .ref q_mpa, .int mps, .ref q_mle, .ref q_mdi, .int mtr, .ref q_mrd, .int misr, .int mplc, .int mlak, .int mpl, .int mpass, .int mraw, .ref q_msz, .ref q_mbe, .ref q_mfa, .ref q_mse, .ref q_mrf, .ref q_mlo, .ref q_mos, .ref q_mwb, .ref q_mol, .ref q_mrv, .ref q_mrl]))] := hD
  refine lv_if_eq (tgt := 51) hx hb d_M_terminated_5 (by decide) (fun c1 => ?_) (fun c1 => ?_)
  · have hF := kc_pos c1 hF
    refine lv_iconst (v := 0) hx hb d_M_terminated_51 (by decide) ?_
    subst hF
    exact ku_zret hx hb hr hlocks hQ (by decide) (hP.sub [0] rfl) (hD.sub [0] (by decide) rfl) hS d_M_terminated_52
  have hF := kc_neg c1 hF
  refine lv_iload_n hx hb d_M_terminated_8 rfl (lv_at hl 1 rfl) ?_
  refine lv_aload_n hx hb d_M_terminated_9 rfl (lv_at hl 0 rfl) ?_
  refine va_get (D := (dC, dI)) (ci := 5) (v := .int mps) (C := R_M) (T := T_M) (N := 32) hx hb hts ki_M hown hK hP 0 rfl rfl 10 (by decide) (hts _ kw_3_143) (fun _ h9 => h9) rfl d_M_terminated_10 ?_
  refine lv_iconst (v := 1) hx hb d_M_terminated_13 (by decide) ?_
  refine lv_isub hx hb d_M_terminated_14 ?_
  refine lv_icmp_eq (tgt := 47) hx hb d_M_terminated_15 (by decide) (fun c2 => ?_) (fun c2 => ?_)
  · have hF := kc_pos c2 hF
    refine lv_iconst (v := 1) hx hb d_M_terminated_47 (by decide) ?_
    refine lv_goto (tgt := 52) hx hb d_M_terminated_48 (by decide) ?_
    subst hF
    exact ku_zret hx hb hr hlocks hQ (by decide) (hP.sub [0] rfl) (hD.sub [0] (by decide) rfl) hS d_M_terminated_52
  have hF := kc_neg c2 hF
  refine lv_aload_n hx hb d_M_terminated_18 rfl (lv_at hl 0 rfl) ?_
  refine lv_iconst (v := 4) hx hb d_M_terminated_19 (by decide) ?_
  refine kr_call (va_runV (As := [.int (4 : Int32)]) (rest := []) ⟨hx, hb, hml, hown, hts⟩ (m_M_has l dC dI q_mo q_msa q_mbi q_mcx q_mpa q_mle q_mdi q_mrd q_msz q_mbe q_mfa q_mse q_mrf q_mlo q_mos q_mwb q_mol q_mrv q_mrl (f_M_isPass mps a0).2 mw mh mst mbd mtb mps mtr misr mplc mlak mpl mpass mraw (4 : Int32) (f_M_has mst (4 : Int32)) rfl) (cwV 1 hts (kgV kw_4_38 kw_4_40 kp_27 kw_1_8 kw_4_41) rfl rfl rfl (by decide +kernel) ⟨Nat.le_of_ble_eq_true rfl, Nat.le_of_ble_eq_true rfl⟩) ⟨kRe_blind, va_recv hK hP (ci := 5) (q0 := 0) rfl rfl, kRe_of (hP.sub [0] rfl) (hK.sub [] rfl) hN⟩ rfl rfl hl.1 rfl (lv_room (Nat.le_of_ble_eq_true rfl)) d_M_terminated_20 ⟨Nat.le_of_ble_eq_true rfl, Nat.le_of_ble_eq_true rfl⟩) ?_
  refine lv_if_ne (tgt := 47) hx hb d_M_terminated_23 (by decide) (fun c3 => ?_) (fun c3 => ?_)
  · have hF := kc_neg c3 hF
    refine lv_iconst (v := 1) hx hb d_M_terminated_47 (by decide) ?_
    refine lv_goto (tgt := 52) hx hb d_M_terminated_48 (by decide) ?_
    subst hF
    exact ku_zret hx hb hr hlocks hQ (by decide) (hP.sub [0] rfl) (hD.sub [0] (by decide) rfl) hS d_M_terminated_52
  have hF := kc_pos c3 hF
  refine lv_aload_n hx hb d_M_terminated_26 rfl (lv_at hl 0 rfl) ?_
  refine lv_iconst (v := 1) hx hb d_M_terminated_27 (by decide) ?_
  refine kr_call (va_runV (As := [.int (1 : Int32)]) (rest := []) ⟨hx, hb, hml, hown, hts⟩ (m_M_has l dC dI q_mo q_msa q_mbi q_mcx q_mpa q_mle q_mdi q_mrd q_msz q_mbe q_mfa q_mse q_mrf q_mlo q_mos q_mwb q_mol q_mrv q_mrl (f_M_isPass mps a0).2 mw mh mst mbd mtb mps mtr misr mplc mlak mpl mpass mraw (1 : Int32) (f_M_has mst (1 : Int32)) rfl) (cwV 1 hts (kgV kw_4_38 kw_4_40 kp_27 kw_1_8 kw_4_41) rfl rfl rfl (by decide +kernel) ⟨Nat.le_of_ble_eq_true rfl, Nat.le_of_ble_eq_true rfl⟩) ⟨kRe_blind, va_recv hK hP (ci := 5) (q0 := 0) rfl rfl, kRe_of (hP.sub [0] rfl) (hK.sub [] rfl) hN⟩ rfl rfl hl.1 rfl (lv_room (Nat.le_of_ble_eq_true rfl)) d_M_terminated_28 ⟨Nat.le_of_ble_eq_true rfl, Nat.le_of_ble_eq_true rfl⟩) ?_
  refine lv_if_eq (tgt := 51) hx hb d_M_terminated_31 (by decide) (fun c4 => ?_) (fun c4 => ?_)
  · have hF := kc_pos c4 hF
    refine lv_iconst (v := 0) hx hb d_M_terminated_51 (by decide) ?_
    subst hF
    exact ku_zret hx hb hr hlocks hQ (by decide) (hP.sub [0] rfl) (hD.sub [0] (by decide) rfl) hS d_M_terminated_52
  have hF := kc_neg c4 hF
  refine lv_iload_n hx hb d_M_terminated_34 rfl (lv_at hl 1 rfl) ?_
  refine lv_bipush (v := 9) hx hb d_M_terminated_35 (by decide) ?_
  refine lv_icmp_lt (tgt := 51) hx hb d_M_terminated_37 (by decide) (fun c5 => ?_) (fun c5 => ?_)
  · have hF := kc_pos c5 hF
    refine lv_iconst (v := 0) hx hb d_M_terminated_51 (by decide) ?_
    subst hF
    exact ku_zret hx hb hr hlocks hQ (by decide) (hP.sub [0] rfl) (hD.sub [0] (by decide) rfl) hS d_M_terminated_52
  have hF := kc_neg c5 hF
  refine lv_iload_n hx hb d_M_terminated_40 rfl (lv_at hl 1 rfl) ?_
  refine kr_call (va_runS (As := [.int a0]) (rest := []) ⟨hx, hb, hml, hown, hts⟩ (m_MS_kindOf l dC dI a0 (f_MS_kindOf a0) rfl) (va_cwS 1 hts (kgS kw_4_35 kw_4_36 kw_1_8 kw_4_37) rfl rfl rfl (by decide +kernel) ⟨Nat.le_of_ble_eq_true rfl, Nat.le_of_ble_eq_true rfl⟩) ⟨kRe_blind, kRe_of (hP.sub [] rfl) (hK.sub [] rfl) hN⟩ rfl rfl hl.1 rfl (lv_room (Nat.le_of_ble_eq_true rfl)) d_M_terminated_41 ⟨Nat.le_of_ble_eq_true rfl, Nat.le_of_ble_eq_true rfl⟩) ?_
  refine lv_if_le (tgt := 51) hx hb d_M_terminated_44 (by decide) (fun c6 => ?_) (fun c6 => ?_)
  · have hF := kc_pos c6 hF
    refine lv_iconst (v := 0) hx hb d_M_terminated_51 (by decide) ?_
    subst hF
    exact ku_zret hx hb hr hlocks hQ (by decide) (hP.sub [0] rfl) (hD.sub [0] (by decide) rfl) hS d_M_terminated_52
  have hF := kc_neg c6 hF
  refine lv_iconst (v := 1) hx hb d_M_terminated_47 (by decide) ?_
  refine lv_goto (tgt := 52) hx hb d_M_terminated_48 (by decide) ?_
  subst hF
  exact ku_zret hx hb hr hlocks hQ (by decide) (hP.sub [0] rfl) (hD.sub [0] (by decide) rfl) hS d_M_terminated_52
abbrev rm_M_feed : Room := { frames := 0, cells := 0, slots := 0, locals := 0 }
set_option maxHeartbeats 4000000 in
set_option maxRecDepth 100000 in
theorem m_M_feed (l : Launch) (dC : Nat → ClassId) (dI : Nat → Nat → Nat) (q_mo q_msa q_mbi q_mcx q_mpa q_mle q_mdi q_mrd q_msz q_mbe q_mfa q_mse q_mrf q_mlo q_mos q_mwb q_mol q_mrv q_mrl : Nat) (k_mrd : ClassId) (n_mrd : Nat) (mref : Int32) (mw : Int32) (mh : Int32) (mst : Int32) (mbd : Int32) (mtb : Int32) (mps : Int32) (mtr : Int32) (misr : Int32) (mplc : Int32) (mlak : Int32) (mpl : Int32) (mpass : Int32) (mraw : Int32) (mreads : (Nat → Int32)) (a0 : Int32) (u : Int32 × Int32 × Int32 × (Nat → Int32)) (hF : f_M_feed mtr mreads n_mrd a0 = some u) : ∀ sz : Nat, Met l y_M_feed (kws y_M_feed c_M_feed 2 (some .int)) rm_M_feed (kPre (dC, dI) [.ref q_mo, .int a0] [(q_mo, .inr (5, [.int mref, .int mw, .int mh, .int mst, .int mbd, .ref q_msa, .int mtb, .ref q_mbi, .ref q_mcx, .ref q_mpa, .int mps, .ref q_mle, .ref q_mdi, .int mtr, .ref q_mrd, .int misr, .int mplc, .int mlak, .int mpl, .int mpass, .int mraw, .ref q_msz, .ref q_mbe, .ref q_mfa, .ref q_mse, .ref q_mrf, .ref q_mlo, .ref q_mos, .ref q_mwb, .ref q_mol, .ref q_mrv, .ref q_mrl])), (q_mrd, .inl (k_mrd, n_mrd, .inl mreads))] [(k_mrd, .int)] sz) (kPost (dC, dI) (some (.int u.1)) [(q_mo, .inr (5, [.int u.2.1, .int mw, .int mh, .int mst, .int mbd, .ref q_msa, .int mtb, .ref q_mbi, .ref q_mcx, .ref q_mpa, .int mps, .ref q_mle, .ref q_mdi, .int u.2.2.1, .ref q_mrd, .int misr, .int mplc, .int mlak, .int mpl, .int mpass, .int mraw, .ref q_msz, .ref q_mbe, .ref q_mfa, .ref q_mse, .ref q_mrf, .ref q_mlo, .ref q_mos, .ref q_mwb, .ref q_mol, .ref q_mrv, .ref q_mrl])), (q_mrd, .inl (k_mrd, n_mrd, .inl u.2.2.2))] (va_A [(q_mo, .inr (5, [.int mref, .int mw, .int mh, .int mst, .int mbd, .ref q_msa, .int mtb, .ref q_mbi, .ref q_mcx, .ref q_mpa, .int mps, .ref q_mle, .ref q_mdi, .int mtr, .ref q_mrd, .int misr, .int mplc, .int mlak, .int mpl, .int mpass, .int mraw, .ref q_msz, .ref q_mbe, .ref q_mfa, .ref q_mse, .ref q_mrf, .ref q_mlo, .ref q_mos, .ref q_mwb, .ref q_mol, .ref q_mrv, .ref q_mrl])), (q_mrd, .inl (k_mrd, n_mrd, .inl mreads))] sz)) 0 0 (va_A [(q_mo, .inr (5, [.int mref, .int mw, .int mh, .int mst, .int mbd, .ref q_msa, .int mtb, .ref q_mbi, .ref q_mcx, .ref q_mpa, .int mps, .ref q_mle, .ref q_mdi, .int mtr, .ref q_mrd, .int misr, .int mplc, .int mlak, .int mpl, .int mpass, .int mraw, .ref q_msz, .ref q_mbe, .ref q_mfa, .ref q_mse, .ref q_mrf, .ref q_mlo, .ref q_mos, .ref q_mwb, .ref q_mol, .ref q_mrv, .ref q_mrl])), (q_mrd, .inl (k_mrd, n_mrd, .inl mreads))] sz) := by
  unfold f_M_feed at hF
  refine kU_of (cc := c_M_feed) (maxL := 2) (ret := (some .int)) (by decide) (Nat.le_of_ble_eq_true rfl) ?_
  intro p e s m args below meth c Q A hQ hfx hK hN hA H locs ls hP hD hS hl
  obtain ⟨hx, hb, hr, hml, hown, hts, hlocks⟩ := hfx
  have hown : s.vm.findClass R_M = some m.cls := hown
  have hl : lv_has ls 2 [(0, .ref q_mo), (1, .int a0)] := hl
  refine lv_aload_n hx hb d_M_feed_0 rfl (lv_at hl 0 rfl) ?_
  refine lv_iload_n hx hb d_M_feed_1 rfl (lv_at hl 1 rfl) ?_
  obtain ⟨u2, hcu2, hF⟩ := kc_bnd hF
  have hJu2 : ∀ (H : Heap) (locs : List Loc) (ls : Array Slot), va_P (dC, dI) vwCl [(q_mo, .inr (5, [.int mref, .int mw, .int mh, .int mst, .int mbd, .ref q_msa, .int mtb, .ref q_mbi, .ref q_mcx, .ref q_mpa, .int mps, .ref q_mle, .ref q_mdi, .int mtr, .ref q_mrd, .int misr, .int mplc, .int mlak, .int mpl, .int mpass, .int mraw, .ref q_msz, .ref q_mbe, .ref q_mfa, .ref q_mse, .ref q_mrf, .ref q_mlo, .ref q_mos, .ref q_mwb, .ref q_mol, .ref q_mrv, .ref q_mrl])), (q_mrd, .inl (k_mrd, n_mrd, .inl mreads))] H → va_D A [(q_mo, .inr (5, [.int mref, .int mw, .int mh, .int mst, .int mbd, .ref q_msa, .int mtb, .ref q_mbi, .ref q_mcx, .ref q_mpa, .int mps, .ref q_mle, .ref q_mdi, .int mtr, .ref q_mrd, .int misr, .int mplc, .int mlak, .int mpl, .int mpass, .int mraw, .ref q_msz, .ref q_mbe, .ref q_mfa, .ref q_mse, .ref q_mrf, .ref q_mlo, .ref q_mos, .ref q_mwb, .ref q_mol, .ref q_mrv, .ref q_mrl])), (q_mrd, .inl (k_mrd, n_mrd, .inl mreads))] → va_S A s.heap H locs → lv_has ls 2 [(0, .ref q_mo), (1, .int a0)] → W p l e rm_M_feed s m args below meth c H locs 0 0 Q (F0 m 29 ls [.int u2, .ref q_mo]) := by
    intro H locs ls hP hD hS hl
    refine va_put (D := (dC, dI)) (ci := 5) (v := .int u2) (ty := .int) (C := R_M) (T := T_M) (N := 32) hx hb hts ki_M ty_M tyok_M nmok_M hown hK hP hD hS 0 rfl rfl 0 (by decide) (hts _ kw_3_133) (fun _ h9 => h9) rfl (by decide +kernel) rfl rfl (Nat.le_of_ble_eq_true rfl) d_M_feed_29 (fun H locs hP hD hS => ?_)
    have hP : va_P (dC, dI) vwCl [(q_mo, .inr (5, [.int u2, .int mw, .int mh, .int mst, .int mbd, .ref q_msa, .int mtb, .ref q_mbi, .ref q_mcx, .ref q_mpa, .int mps, .ref q_mle, .ref q_mdi, .int mtr, .ref q_mrd, .int misr, .int mplc, .int mlak, .int mpl, .int mpass, .int mraw, .ref q_msz, .ref q_mbe, .ref q_mfa, .ref q_mse, .ref q_mrf, .ref q_mlo, .ref q_mos, .ref q_mwb, .ref q_mol, .ref q_mrv, .ref q_mrl])), (q_mrd, .inl (k_mrd, n_mrd, .inl mreads))] H := hP
    have hD : va_D A [(q_mo, .inr (5, [.int u2, .int mw, .int mh, .int mst, .int mbd, .ref q_msa, .int mtb, .ref q_mbi, .ref q_mcx, .ref q_mpa, .int mps, .ref q_mle, .ref q_mdi, .int mtr, .ref q_mrd, .int misr, .int mplc, .int mlak, .int mpl, .int mpass, .int mraw, .ref q_msz, .ref q_mbe, .ref q_mfa, .ref q_mse, .ref q_mrf, .ref q_mlo, .ref q_mos, .ref q_mwb, .ref q_mol, .ref q_mrv, .ref q_mrl])), (q_mrd, .inl (k_mrd, n_mrd, .inl mreads))] := hD
    refine lv_aload_n hx hb d_M_feed_32 rfl (lv_at hl 0 rfl) ?_
    refine va_get (D := (dC, dI)) (ci := 5) (v := .int u2) (C := R_M) (T := T_M) (N := 32) hx hb hts ki_M hown hK hP 0 rfl rfl 0 (by decide) (hts _ kw_3_133) (fun _ h9 => h9) rfl d_M_feed_33 ?_
    refine lv_if_le (tgt := 41) hx hb d_M_feed_36 (by decide) (fun c3 => ?_) (fun c3 => ?_)
    · have hF := kc_pos c3 hF
      refine lv_aload_n hx hb d_M_feed_41 rfl (lv_at hl 0 rfl) ?_
      refine va_get (D := (dC, dI)) (ci := 5) (v := .ref q_mrd) (C := R_M) (T := T_M) (N := 32) hx hb hts ki_M hown hK hP 0 rfl rfl 14 (by decide) (hts _ kw_3_147) (fun _ h9 => h9) rfl d_M_feed_42 ?_
      refine lv_aload_n hx hb d_M_feed_45 rfl (lv_at hl 0 rfl) ?_
      refine va_get (D := (dC, dI)) (ci := 5) (v := .int mtr) (C := R_M) (T := T_M) (N := 32) hx hb hts ki_M hown hK hP 0 rfl rfl 13 (by decide) (hts _ kw_3_146) (fun _ h9 => h9) rfl d_M_feed_46 ?_
      refine lv_iload_n hx hb d_M_feed_49 rfl (lv_at hl 1 rfl) ?_
      obtain ⟨h4, hF⟩ := kc_no hF
      refine va_iast hx hb hK hP hD hS 1 0 rfl rfl h4 d_M_feed_50 (fun H locs hP hD hS => ?_)
      have hP : va_P (dC, dI) vwCl [(q_mo, .inr (5, [.int u2, .int mw, .int mh, .int mst, .int mbd, .ref q_msa, .int mtb, .ref q_mbi, .ref q_mcx, .ref q_mpa, .int mps, .ref q_mle, .ref q_mdi, .int mtr, .ref q_mrd, .int misr, .int mplc, .int mlak, .int mpl, .int mpass, .int mraw, .ref q_msz, .ref q_mbe, .ref q_mfa, .ref q_mse, .ref q_mrf, .ref q_mlo, .ref q_mos, .ref q_mwb, .ref q_mol, .ref q_mrv, .ref q_mrl])), (q_mrd, .inl (k_mrd, n_mrd, .inl (upd mreads mtr.toNatClampNeg a0)))] H := hP
      have hD : va_D A [(q_mo, .inr (5, [.int u2, .int mw, .int mh, .int mst, .int mbd, .ref q_msa, .int mtb, .ref q_mbi, .ref q_mcx, .ref q_mpa, .int mps, .ref q_mle, .ref q_mdi, .int mtr, .ref q_mrd, .int misr, .int mplc, .int mlak, .int mpl, .int mpass, .int mraw, .ref q_msz, .ref q_mbe, .ref q_mfa, .ref q_mse, .ref q_mrf, .ref q_mlo, .ref q_mos, .ref q_mwb, .ref q_mol, .ref q_mrv, .ref q_mrl])), (q_mrd, .inl (k_mrd, n_mrd, .inl (upd mreads mtr.toNatClampNeg a0)))] := hD
      refine lv_aload_n hx hb d_M_feed_51 rfl (lv_at hl 0 rfl) ?_
      refine lv_dup hx hb d_M_feed_52 rfl ?_
      refine va_get (D := (dC, dI)) (ci := 5) (v := .int mtr) (C := R_M) (T := T_M) (N := 32) hx hb hts ki_M hown hK hP 0 rfl rfl 13 (by decide) (hts _ kw_3_146) (fun _ h9 => h9) rfl d_M_feed_53 ?_
      refine lv_iconst (v := 1) hx hb d_M_feed_56 (by decide) ?_
      refine lv_iadd hx hb d_M_feed_57 ?_
      refine va_put (D := (dC, dI)) (ci := 5) (v := .int (mtr + (1 : Int32))) (ty := .int) (C := R_M) (T := T_M) (N := 32) hx hb hts ki_M ty_M tyok_M nmok_M hown hK hP hD hS 0 rfl rfl 13 (by decide) (hts _ kw_3_146) (fun _ h9 => h9) rfl (by decide +kernel) rfl rfl (Nat.le_of_ble_eq_true rfl) d_M_feed_58 (fun H locs hP hD hS => ?_)
      have hP : va_P (dC, dI) vwCl [(q_mo, .inr (5, [.int u2, .int mw, .int mh, .int mst, .int mbd, .ref q_msa, .int mtb, .ref q_mbi, .ref q_mcx, .ref q_mpa, .int mps, .ref q_mle, .ref q_mdi, .int (mtr + (1 : Int32)), .ref q_mrd, .int misr, .int mplc, .int mlak, .int mpl, .int mpass, .int mraw, .ref q_msz, .ref q_mbe, .ref q_mfa, .ref q_mse, .ref q_mrf, .ref q_mlo, .ref q_mos, .ref q_mwb, .ref q_mol, .ref q_mrv, .ref q_mrl])), (q_mrd, .inl (k_mrd, n_mrd, .inl (upd mreads mtr.toNatClampNeg a0)))] H := hP
      have hD : va_D A [(q_mo, .inr (5, [.int u2, .int mw, .int mh, .int mst, .int mbd, .ref q_msa, .int mtb, .ref q_mbi, .ref q_mcx, .ref q_mpa, .int mps, .ref q_mle, .ref q_mdi, .int (mtr + (1 : Int32)), .ref q_mrd, .int misr, .int mplc, .int mlak, .int mpl, .int mpass, .int mraw, .ref q_msz, .ref q_mbe, .ref q_mfa, .ref q_mse, .ref q_mrf, .ref q_mlo, .ref q_mos, .ref q_mwb, .ref q_mol, .ref q_mrv, .ref q_mrl])), (q_mrd, .inl (k_mrd, n_mrd, .inl (upd mreads mtr.toNatClampNeg a0)))] := hD
      refine lv_aload_n hx hb d_M_feed_61 rfl (lv_at hl 0 rfl) ?_
      refine va_get (D := (dC, dI)) (ci := 5) (v := .int (mtr + (1 : Int32))) (C := R_M) (T := T_M) (N := 32) hx hb hts ki_M hown hK hP 0 rfl rfl 13 (by decide) (hts _ kw_3_146) (fun _ h9 => h9) rfl d_M_feed_62 ?_
      obtain rfl := Option.some.inj hF
      exact ku_iret hx hb hr hlocks hQ (hP.sub [0, 1] rfl) (hD.sub [0, 1] (by decide) rfl) hS d_M_feed_65
    have hF := kc_neg c3 hF
    refine lv_iconst (v := 0) hx hb d_M_feed_39 (by decide) ?_
    obtain rfl := Option.some.inj hF
    exact ku_iret hx hb hr hlocks hQ (hP.sub [0, 1] rfl) (hD.sub [0, 1] (by decide) rfl) hS d_M_feed_40
  clear hF; have hF := hcu2; clear hcu2
  refine lv_if_lt (tgt := 10) hx hb d_M_feed_2 (by decide) (fun c1 => ?_) (fun c1 => ?_)
  · have hF := kc_pos c1 hF
    refine lv_iconst (v := 1) hx hb d_M_feed_10 (by decide) ?_
    refine lv_goto (tgt := 29) hx hb d_M_feed_11 (by decide) ?_
    obtain rfl := Option.some.inj hF
    exact hJu2 _ _ _ hP hD hS (lv_sub hl [0, 1] rfl)
  have hF := kc_neg c1 hF
  refine lv_iload_n hx hb d_M_feed_5 rfl (lv_at hl 1 rfl) ?_
  refine lv_iconst (v := 1) hx hb d_M_feed_6 (by decide) ?_
  refine lv_icmp_le (tgt := 14) hx hb d_M_feed_7 (by decide) (fun c5 => ?_) (fun c5 => ?_)
  · have hF := kc_pos c5 hF
    refine lv_aload_n hx hb d_M_feed_14 rfl (lv_at hl 0 rfl) ?_
    refine va_get (D := (dC, dI)) (ci := 5) (v := .int mtr) (C := R_M) (T := T_M) (N := 32) hx hb hts ki_M hown hK hP 0 rfl rfl 13 (by decide) (hts _ kw_3_146) (fun _ h9 => h9) rfl d_M_feed_15 ?_
    refine lv_sipush (v := 12000) hx hb d_M_feed_18 (by decide) ?_
    refine lv_icmp_ne (tgt := 28) hx hb d_M_feed_21 (by decide) (fun c6 => ?_) (fun c6 => ?_)
    · have hF := kc_neg c6 hF
      refine lv_iconst (v := 0) hx hb d_M_feed_28 (by decide) ?_
      obtain rfl := Option.some.inj hF
      exact hJu2 _ _ _ hP hD hS (lv_sub hl [0, 1] rfl)
    have hF := kc_pos c6 hF
    refine lv_iconst (v := 2) hx hb d_M_feed_24 (by decide) ?_
    refine lv_goto (tgt := 29) hx hb d_M_feed_25 (by decide) ?_
    obtain rfl := Option.some.inj hF
    exact hJu2 _ _ _ hP hD hS (lv_sub hl [0, 1] rfl)
  have hF := kc_neg c5 hF
  refine lv_iconst (v := 1) hx hb d_M_feed_10 (by decide) ?_
  refine lv_goto (tgt := 29) hx hb d_M_feed_11 (by decide) ?_
  obtain rfl := Option.some.inj hF
  exact hJu2 _ _ _ hP hD hS (lv_sub hl [0, 1] rfl)
abbrev rm_M_pass : Room := { frames := 0, cells := 0, slots := 0, locals := 0 }
set_option maxHeartbeats 4000000 in
set_option maxRecDepth 100000 in
theorem m_M_pass (l : Launch) (dC : Nat → ClassId) (dI : Nat → Nat → Nat) (q_mo q_msa q_mbi q_mcx q_mpa q_mle q_mdi q_mrd q_msz q_mbe q_mfa q_mse q_mrf q_mlo q_mos q_mwb q_mol q_mrv q_mrl : Nat) (k_mbi : ClassId) (n_mbi : Nat) (k_mrd : ClassId) (n_mrd : Nat) (mref : Int32) (mw : Int32) (mh : Int32) (mst : Int32) (mbd : Int32) (mtb : Int32) (mps : Int32) (mtr : Int32) (misr : Int32) (mplc : Int32) (mlak : Int32) (mpl : Int32) (mpass : Int32) (mraw : Int32) (mbits : (Nat → Int32)) (mreads : (Nat → Int32)) (a0 : Int32) (u : Int32 × Int32 × Int32 × (Nat → Int32)) (hF : f_M_pass mtb mtr mbits mreads n_mbi n_mrd a0 = some u) : ∀ sz : Nat, Met l y_M_pass (kws y_M_pass c_M_pass 4 (some .int)) rm_M_pass (kPre (dC, dI) [.ref q_mo, .int a0] [(q_mo, .inr (5, [.int mref, .int mw, .int mh, .int mst, .int mbd, .ref q_msa, .int mtb, .ref q_mbi, .ref q_mcx, .ref q_mpa, .int mps, .ref q_mle, .ref q_mdi, .int mtr, .ref q_mrd, .int misr, .int mplc, .int mlak, .int mpl, .int mpass, .int mraw, .ref q_msz, .ref q_mbe, .ref q_mfa, .ref q_mse, .ref q_mrf, .ref q_mlo, .ref q_mos, .ref q_mwb, .ref q_mol, .ref q_mrv, .ref q_mrl])), (q_mbi, .inl (k_mbi, n_mbi, .inl mbits)), (q_mrd, .inl (k_mrd, n_mrd, .inl mreads))] [(k_mbi, .int), (k_mrd, .int)] sz) (kPost (dC, dI) (some (.int u.1)) [(q_mo, .inr (5, [.int u.2.1, .int mw, .int mh, .int mst, .int mbd, .ref q_msa, .int mtb, .ref q_mbi, .ref q_mcx, .ref q_mpa, .int mps, .ref q_mle, .ref q_mdi, .int u.2.2.1, .ref q_mrd, .int misr, .int mplc, .int mlak, .int mpl, .int mpass, .int mraw, .ref q_msz, .ref q_mbe, .ref q_mfa, .ref q_mse, .ref q_mrf, .ref q_mlo, .ref q_mos, .ref q_mwb, .ref q_mol, .ref q_mrv, .ref q_mrl])), (q_mbi, .inl (k_mbi, n_mbi, .inl mbits)), (q_mrd, .inl (k_mrd, n_mrd, .inl u.2.2.2))] (va_A [(q_mo, .inr (5, [.int mref, .int mw, .int mh, .int mst, .int mbd, .ref q_msa, .int mtb, .ref q_mbi, .ref q_mcx, .ref q_mpa, .int mps, .ref q_mle, .ref q_mdi, .int mtr, .ref q_mrd, .int misr, .int mplc, .int mlak, .int mpl, .int mpass, .int mraw, .ref q_msz, .ref q_mbe, .ref q_mfa, .ref q_mse, .ref q_mrf, .ref q_mlo, .ref q_mos, .ref q_mwb, .ref q_mol, .ref q_mrv, .ref q_mrl])), (q_mbi, .inl (k_mbi, n_mbi, .inl mbits)), (q_mrd, .inl (k_mrd, n_mrd, .inl mreads))] sz)) 0 0 (va_A [(q_mo, .inr (5, [.int mref, .int mw, .int mh, .int mst, .int mbd, .ref q_msa, .int mtb, .ref q_mbi, .ref q_mcx, .ref q_mpa, .int mps, .ref q_mle, .ref q_mdi, .int mtr, .ref q_mrd, .int misr, .int mplc, .int mlak, .int mpl, .int mpass, .int mraw, .ref q_msz, .ref q_mbe, .ref q_mfa, .ref q_mse, .ref q_mrf, .ref q_mlo, .ref q_mos, .ref q_mwb, .ref q_mol, .ref q_mrv, .ref q_mrl])), (q_mbi, .inl (k_mbi, n_mbi, .inl mbits)), (q_mrd, .inl (k_mrd, n_mrd, .inl mreads))] sz) := by
  unfold f_M_pass at hF
  refine kU_of (cc := c_M_pass) (maxL := 4) (ret := (some .int)) (by decide) (Nat.le_of_ble_eq_true rfl) ?_
  intro p e s m args below meth c Q A hQ hfx hK hN hA H locs ls hP hD hS hl
  obtain ⟨hx, hb, hr, hml, hown, hts, hlocks⟩ := hfx
  have hown : s.vm.findClass R_M = some m.cls := hown
  have hl : lv_has ls 4 [(0, .ref q_mo), (1, .int a0)] := hl
  refine lv_iload_n hx hb d_M_pass_0 rfl (lv_at hl 1 rfl) ?_
  refine lv_aload_n hx hb d_M_pass_1 rfl (lv_at hl 0 rfl) ?_
  refine va_get (D := (dC, dI)) (ci := 5) (v := .int mtb) (C := R_M) (T := T_M) (N := 32) hx hb hts ki_M hown hK hP 0 rfl rfl 6 (by decide) (hts _ kw_3_139) (fun _ h9 => h9) rfl d_M_pass_2 ?_
  obtain ⟨u2, hcu2, hF⟩ := kc_bnd hF
  have hJu2 : ∀ (H : Heap) (locs : List Loc) (ls : Array Slot), va_P (dC, dI) vwCl [(q_mo, .inr (5, [.int mref, .int mw, .int mh, .int mst, .int mbd, .ref q_msa, .int mtb, .ref q_mbi, .ref q_mcx, .ref q_mpa, .int mps, .ref q_mle, .ref q_mdi, .int mtr, .ref q_mrd, .int misr, .int mplc, .int mlak, .int mpl, .int mpass, .int mraw, .ref q_msz, .ref q_mbe, .ref q_mfa, .ref q_mse, .ref q_mrf, .ref q_mlo, .ref q_mos, .ref q_mwb, .ref q_mol, .ref q_mrv, .ref q_mrl])), (q_mbi, .inl (k_mbi, n_mbi, .inl mbits)), (q_mrd, .inl (k_mrd, n_mrd, .inl mreads))] H → va_D A [(q_mo, .inr (5, [.int mref, .int mw, .int mh, .int mst, .int mbd, .ref q_msa, .int mtb, .ref q_mbi, .ref q_mcx, .ref q_mpa, .int mps, .ref q_mle, .ref q_mdi, .int mtr, .ref q_mrd, .int misr, .int mplc, .int mlak, .int mpl, .int mpass, .int mraw, .ref q_msz, .ref q_mbe, .ref q_mfa, .ref q_mse, .ref q_mrf, .ref q_mlo, .ref q_mos, .ref q_mwb, .ref q_mol, .ref q_mrv, .ref q_mrl])), (q_mbi, .inl (k_mbi, n_mbi, .inl mbits)), (q_mrd, .inl (k_mrd, n_mrd, .inl mreads))] → va_S A s.heap H locs → lv_has ls 4 [(0, .ref q_mo), (1, .int a0)] → W p l e rm_M_pass s m args below meth c H locs 0 0 Q (F0 m 16 ls [.int u2]) := by
    intro H locs ls hP hD hS hl
    refine lv_istore_n (lv' := [(2, .int u2), (0, .ref q_mo), (1, .int a0)]) hx hb d_M_pass_16 rfl hl (by decide) rfl (fun ls hl => ?_)
    refine lv_aload_n hx hb d_M_pass_17 rfl (lv_at hl 1 rfl) ?_
    refine lv_iload_n hx hb d_M_pass_18 rfl (lv_at hl 2 rfl) ?_
    obtain ⟨u4, hcu4, hF⟩ := kc_bnd hF
    have hJu4 : ∀ (H : Heap) (locs : List Loc) (ls : Array Slot), va_P (dC, dI) vwCl [(q_mo, .inr (5, [.int mref, .int mw, .int mh, .int mst, .int mbd, .ref q_msa, .int mtb, .ref q_mbi, .ref q_mcx, .ref q_mpa, .int mps, .ref q_mle, .ref q_mdi, .int mtr, .ref q_mrd, .int misr, .int mplc, .int mlak, .int mpl, .int mpass, .int mraw, .ref q_msz, .ref q_mbe, .ref q_mfa, .ref q_mse, .ref q_mrf, .ref q_mlo, .ref q_mos, .ref q_mwb, .ref q_mol, .ref q_mrv, .ref q_mrl])), (q_mbi, .inl (k_mbi, n_mbi, .inl mbits)), (q_mrd, .inl (k_mrd, n_mrd, .inl mreads))] H → va_D A [(q_mo, .inr (5, [.int mref, .int mw, .int mh, .int mst, .int mbd, .ref q_msa, .int mtb, .ref q_mbi, .ref q_mcx, .ref q_mpa, .int mps, .ref q_mle, .ref q_mdi, .int mtr, .ref q_mrd, .int misr, .int mplc, .int mlak, .int mpl, .int mpass, .int mraw, .ref q_msz, .ref q_mbe, .ref q_mfa, .ref q_mse, .ref q_mrf, .ref q_mlo, .ref q_mos, .ref q_mwb, .ref q_mol, .ref q_mrv, .ref q_mrl])), (q_mbi, .inl (k_mbi, n_mbi, .inl mbits)), (q_mrd, .inl (k_mrd, n_mrd, .inl mreads))] → va_S A s.heap H locs → lv_has ls 4 [(2, .int u2), (0, .ref q_mo), (1, .int a0)] → W p l e rm_M_pass s m args below meth c H locs 0 0 Q (F0 m 43 ls [.int u4, .ref q_mo]) := by
      intro H locs ls hP hD hS hl
      refine va_put (D := (dC, dI)) (ci := 5) (v := .int u4) (ty := .int) (C := R_M) (T := T_M) (N := 32) hx hb hts ki_M ty_M tyok_M nmok_M hown hK hP hD hS 0 rfl rfl 0 (by decide) (hts _ kw_3_133) (fun _ h9 => h9) rfl (by decide +kernel) rfl rfl (Nat.le_of_ble_eq_true rfl) d_M_pass_43 (fun H locs hP hD hS => ?_)
      have hP : va_P (dC, dI) vwCl [(q_mo, .inr (5, [.int u4, .int mw, .int mh, .int mst, .int mbd, .ref q_msa, .int mtb, .ref q_mbi, .ref q_mcx, .ref q_mpa, .int mps, .ref q_mle, .ref q_mdi, .int mtr, .ref q_mrd, .int misr, .int mplc, .int mlak, .int mpl, .int mpass, .int mraw, .ref q_msz, .ref q_mbe, .ref q_mfa, .ref q_mse, .ref q_mrf, .ref q_mlo, .ref q_mos, .ref q_mwb, .ref q_mol, .ref q_mrv, .ref q_mrl])), (q_mbi, .inl (k_mbi, n_mbi, .inl mbits)), (q_mrd, .inl (k_mrd, n_mrd, .inl mreads))] H := hP
      have hD : va_D A [(q_mo, .inr (5, [.int u4, .int mw, .int mh, .int mst, .int mbd, .ref q_msa, .int mtb, .ref q_mbi, .ref q_mcx, .ref q_mpa, .int mps, .ref q_mle, .ref q_mdi, .int mtr, .ref q_mrd, .int misr, .int mplc, .int mlak, .int mpl, .int mpass, .int mraw, .ref q_msz, .ref q_mbe, .ref q_mfa, .ref q_mse, .ref q_mrf, .ref q_mlo, .ref q_mos, .ref q_mwb, .ref q_mol, .ref q_mrv, .ref q_mrl])), (q_mbi, .inl (k_mbi, n_mbi, .inl mbits)), (q_mrd, .inl (k_mrd, n_mrd, .inl mreads))] := hD
      refine lv_aload_n hx hb d_M_pass_46 rfl (lv_at hl 1 rfl) ?_
      refine va_get (D := (dC, dI)) (ci := 5) (v := .int u4) (C := R_M) (T := T_M) (N := 32) hx hb hts ki_M hown hK hP 0 rfl rfl 0 (by decide) (hts _ kw_3_133) (fun _ h9 => h9) rfl d_M_pass_47 ?_
      refine lv_if_le (tgt := 55) hx hb d_M_pass_50 (by decide) (fun c5 => ?_) (fun c5 => ?_)
      · have hF := kc_pos c5 hF
        refine lv_iconst (v := 0) hx hb d_M_pass_55 (by decide) ?_
        refine lv_istore_n (lv' := [(3, .int (0 : Int32)), (2, .int u2), (0, .ref q_mo), (1, .int a0)]) hx hb d_M_pass_56 rfl hl (by decide) rfl (fun ls hl => ?_)
        obtain ⟨u6, hcu6, hF⟩ := kc_bnd hF
        have hJu6_85 : ∀ (H : Heap) (locs : List Loc) (ls : Array Slot), va_P (dC, dI) vwCl [(q_mo, .inr (5, [.int u4, .int mw, .int mh, .int mst, .int mbd, .ref q_msa, .int mtb, .ref q_mbi, .ref q_mcx, .ref q_mpa, .int mps, .ref q_mle, .ref q_mdi, .int mtr, .ref q_mrd, .int misr, .int mplc, .int mlak, .int mpl, .int mpass, .int mraw, .ref q_msz, .ref q_mbe, .ref q_mfa, .ref q_mse, .ref q_mrf, .ref q_mlo, .ref q_mos, .ref q_mwb, .ref q_mol, .ref q_mrv, .ref q_mrl])), (q_mbi, .inl (k_mbi, n_mbi, .inl mbits)), (q_mrd, .inl (k_mrd, n_mrd, .inl u6.2))] H → va_D A [(q_mo, .inr (5, [.int u4, .int mw, .int mh, .int mst, .int mbd, .ref q_msa, .int mtb, .ref q_mbi, .ref q_mcx, .ref q_mpa, .int mps, .ref q_mle, .ref q_mdi, .int mtr, .ref q_mrd, .int misr, .int mplc, .int mlak, .int mpl, .int mpass, .int mraw, .ref q_msz, .ref q_mbe, .ref q_mfa, .ref q_mse, .ref q_mrf, .ref q_mlo, .ref q_mos, .ref q_mwb, .ref q_mol, .ref q_mrv, .ref q_mrl])), (q_mbi, .inl (k_mbi, n_mbi, .inl mbits)), (q_mrd, .inl (k_mrd, n_mrd, .inl u6.2))] → va_S A s.heap H locs → lv_has ls 4 [(3, .int u6.1), (2, .int u2), (0, .ref q_mo), (1, .int a0)] → W p l e rm_M_pass s m args below meth c H locs 0 0 Q (F0 m 85 ls []) := by
          intro H locs ls hP hD hS hl
          refine lv_aload_n hx hb d_M_pass_85 rfl (lv_at hl 2 rfl) ?_
          refine lv_dup hx hb d_M_pass_86 rfl ?_
          refine va_get (D := (dC, dI)) (ci := 5) (v := .int mtr) (C := R_M) (T := T_M) (N := 32) hx hb hts ki_M hown hK hP 0 rfl rfl 13 (by decide) (hts _ kw_3_146) (fun _ h9 => h9) rfl d_M_pass_87 ?_
          refine lv_iload_n hx hb d_M_pass_90 rfl (lv_at hl 1 rfl) ?_
          refine lv_iadd hx hb d_M_pass_91 ?_
          refine va_put (D := (dC, dI)) (ci := 5) (v := .int (mtr + u2)) (ty := .int) (C := R_M) (T := T_M) (N := 32) hx hb hts ki_M ty_M tyok_M nmok_M hown hK hP hD hS 0 rfl rfl 13 (by decide) (hts _ kw_3_146) (fun _ h9 => h9) rfl (by decide +kernel) rfl rfl (Nat.le_of_ble_eq_true rfl) d_M_pass_92 (fun H locs hP hD hS => ?_)
          have hP : va_P (dC, dI) vwCl [(q_mo, .inr (5, [.int u4, .int mw, .int mh, .int mst, .int mbd, .ref q_msa, .int mtb, .ref q_mbi, .ref q_mcx, .ref q_mpa, .int mps, .ref q_mle, .ref q_mdi, .int (mtr + u2), .ref q_mrd, .int misr, .int mplc, .int mlak, .int mpl, .int mpass, .int mraw, .ref q_msz, .ref q_mbe, .ref q_mfa, .ref q_mse, .ref q_mrf, .ref q_mlo, .ref q_mos, .ref q_mwb, .ref q_mol, .ref q_mrv, .ref q_mrl])), (q_mbi, .inl (k_mbi, n_mbi, .inl mbits)), (q_mrd, .inl (k_mrd, n_mrd, .inl u6.2))] H := hP
          have hD : va_D A [(q_mo, .inr (5, [.int u4, .int mw, .int mh, .int mst, .int mbd, .ref q_msa, .int mtb, .ref q_mbi, .ref q_mcx, .ref q_mpa, .int mps, .ref q_mle, .ref q_mdi, .int (mtr + u2), .ref q_mrd, .int misr, .int mplc, .int mlak, .int mpl, .int mpass, .int mraw, .ref q_msz, .ref q_mbe, .ref q_mfa, .ref q_mse, .ref q_mrf, .ref q_mlo, .ref q_mos, .ref q_mwb, .ref q_mol, .ref q_mrv, .ref q_mrl])), (q_mbi, .inl (k_mbi, n_mbi, .inl mbits)), (q_mrd, .inl (k_mrd, n_mrd, .inl u6.2))] := hD
          refine lv_iload_n hx hb d_M_pass_95 rfl (lv_at hl 1 rfl) ?_
          obtain rfl := Option.some.inj hF
          exact ku_iret hx hb hr hlocks hQ (hP.sub [0, 1, 2] rfl) (hD.sub [0, 1, 2] (by decide) rfl) hS d_M_pass_96
        have hIu6 : ∀ (N : Nat) (v57_3 : Int32) (mreads_57 : (Nat → Int32)), f_M_pass_L57 mtr mbits n_mbi n_mrd u2 N v57_3 mreads_57 = some u6 → ∀ (H : Heap) (locs : List Loc) (ls : Array Slot), va_P (dC, dI) vwCl [(q_mo, .inr (5, [.int u4, .int mw, .int mh, .int mst, .int mbd, .ref q_msa, .int mtb, .ref q_mbi, .ref q_mcx, .ref q_mpa, .int mps, .ref q_mle, .ref q_mdi, .int mtr, .ref q_mrd, .int misr, .int mplc, .int mlak, .int mpl, .int mpass, .int mraw, .ref q_msz, .ref q_mbe, .ref q_mfa, .ref q_mse, .ref q_mrf, .ref q_mlo, .ref q_mos, .ref q_mwb, .ref q_mol, .ref q_mrv, .ref q_mrl])), (q_mbi, .inl (k_mbi, n_mbi, .inl mbits)), (q_mrd, .inl (k_mrd, n_mrd, .inl mreads_57))] H → va_D A [(q_mo, .inr (5, [.int u4, .int mw, .int mh, .int mst, .int mbd, .ref q_msa, .int mtb, .ref q_mbi, .ref q_mcx, .ref q_mpa, .int mps, .ref q_mle, .ref q_mdi, .int mtr, .ref q_mrd, .int misr, .int mplc, .int mlak, .int mpl, .int mpass, .int mraw, .ref q_msz, .ref q_mbe, .ref q_mfa, .ref q_mse, .ref q_mrf, .ref q_mlo, .ref q_mos, .ref q_mwb, .ref q_mol, .ref q_mrv, .ref q_mrl])), (q_mbi, .inl (k_mbi, n_mbi, .inl mbits)), (q_mrd, .inl (k_mrd, n_mrd, .inl mreads_57))] → va_S A s.heap H locs → lv_has ls 4 [(3, .int v57_3), (2, .int u2), (0, .ref q_mo), (1, .int a0)] → W p l e rm_M_pass s m args below meth c H locs 0 0 Q (F0 m 57 ls []) := by
          intro N
          induction N with
          | zero => intro v57_3 mreads_57 hF; rw [f_M_pass_L57] at hF; cases hF
          | succ N ih =>
            intro v57_3 mreads_57 hF
            intro H locs ls hP hD hS hl
            rw [f_M_pass_L57] at hF
            refine lv_iload_n hx hb d_M_pass_57 rfl (lv_at hl 0 rfl) ?_
            refine lv_iload_n hx hb d_M_pass_58 rfl (lv_at hl 1 rfl) ?_
            refine lv_icmp_ge (tgt := 85) hx hb d_M_pass_59 (by decide) (fun c7 => ?_) (fun c7 => ?_)
            · have hF := kc_pos c7 hF
              obtain rfl := Option.some.inj hF
              exact hJu6_85 _ _ _ hP hD hS (lv_sub hl [0, 1, 2, 3] rfl)
            have hF := kc_neg c7 hF
            refine lv_aload_n hx hb d_M_pass_62 rfl (lv_at hl 2 rfl) ?_
            refine va_get (D := (dC, dI)) (ci := 5) (v := .ref q_mrd) (C := R_M) (T := T_M) (N := 32) hx hb hts ki_M hown hK hP 0 rfl rfl 14 (by decide) (hts _ kw_3_147) (fun _ h9 => h9) rfl d_M_pass_63 ?_
            refine lv_aload_n hx hb d_M_pass_66 rfl (lv_at hl 2 rfl) ?_
            refine va_get (D := (dC, dI)) (ci := 5) (v := .int mtr) (C := R_M) (T := T_M) (N := 32) hx hb hts ki_M hown hK hP 0 rfl rfl 13 (by decide) (hts _ kw_3_146) (fun _ h9 => h9) rfl d_M_pass_67 ?_
            refine lv_iload_n hx hb d_M_pass_70 rfl (lv_at hl 0 rfl) ?_
            refine lv_iadd hx hb d_M_pass_71 ?_
            refine lv_aload_n hx hb d_M_pass_72 rfl (lv_at hl 2 rfl) ?_
            refine va_get (D := (dC, dI)) (ci := 5) (v := .ref q_mbi) (C := R_M) (T := T_M) (N := 32) hx hb hts ki_M hown hK hP 0 rfl rfl 7 (by decide) (hts _ kw_3_140) (fun _ h9 => h9) rfl d_M_pass_73 ?_
            refine lv_iload_n hx hb d_M_pass_76 rfl (lv_at hl 0 rfl) ?_
            obtain ⟨h8, hF⟩ := kc_no hF
            refine va_iald hx hb hK hP 1 0 rfl rfl h8 d_M_pass_77 ?_
            obtain ⟨h9, hF⟩ := kc_no hF
            refine va_iast hx hb hK hP hD hS 2 1 rfl rfl h9 d_M_pass_78 (fun H locs hP hD hS => ?_)
            have hP : va_P (dC, dI) vwCl [(q_mo, .inr (5, [.int u4, .int mw, .int mh, .int mst, .int mbd, .ref q_msa, .int mtb, .ref q_mbi, .ref q_mcx, .ref q_mpa, .int mps, .ref q_mle, .ref q_mdi, .int mtr, .ref q_mrd, .int misr, .int mplc, .int mlak, .int mpl, .int mpass, .int mraw, .ref q_msz, .ref q_mbe, .ref q_mfa, .ref q_mse, .ref q_mrf, .ref q_mlo, .ref q_mos, .ref q_mwb, .ref q_mol, .ref q_mrv, .ref q_mrl])), (q_mbi, .inl (k_mbi, n_mbi, .inl mbits)), (q_mrd, .inl (k_mrd, n_mrd, .inl (upd mreads_57 (mtr + v57_3).toNatClampNeg (mbits v57_3.toNatClampNeg))))] H := hP
            have hD : va_D A [(q_mo, .inr (5, [.int u4, .int mw, .int mh, .int mst, .int mbd, .ref q_msa, .int mtb, .ref q_mbi, .ref q_mcx, .ref q_mpa, .int mps, .ref q_mle, .ref q_mdi, .int mtr, .ref q_mrd, .int misr, .int mplc, .int mlak, .int mpl, .int mpass, .int mraw, .ref q_msz, .ref q_mbe, .ref q_mfa, .ref q_mse, .ref q_mrf, .ref q_mlo, .ref q_mos, .ref q_mwb, .ref q_mol, .ref q_mrv, .ref q_mrl])), (q_mbi, .inl (k_mbi, n_mbi, .inl mbits)), (q_mrd, .inl (k_mrd, n_mrd, .inl (upd mreads_57 (mtr + v57_3).toNatClampNeg (mbits v57_3.toNatClampNeg))))] := hD
            refine lv_iinc (v := (v57_3 + 1)) (lv' := [(3, .int (v57_3 + 1)), (2, .int u2), (0, .ref q_mo), (1, .int a0)]) hx hb d_M_pass_79 hl (k := 0) rfl rfl (by decide) rfl (fun ls hl => ?_)
            refine lv_goto (tgt := 57) hx hb d_M_pass_82 (by decide) ?_
            exact ih _ _ hF _ _ _ hP hD hS (lv_sub hl [0, 1, 2, 3] rfl)
        exact hIu6 _ _ _ hcu6 _ _ _ hP hD hS (lv_sub hl [0, 1, 2, 3] rfl)
      have hF := kc_neg c5 hF
      refine lv_iconst (v := 0) hx hb d_M_pass_53 (by decide) ?_
      obtain rfl := Option.some.inj hF
      exact ku_iret hx hb hr hlocks hQ (hP.sub [0, 1, 2] rfl) (hD.sub [0, 1, 2] (by decide) rfl) hS d_M_pass_54
    clear hF; have hF := hcu4; clear hcu4
    refine lv_if_ge (tgt := 26) hx hb d_M_pass_19 (by decide) (fun c3 => ?_) (fun c3 => ?_)
    · have hF := kc_pos c3 hF
      refine lv_aload_n hx hb d_M_pass_26 rfl (lv_at hl 1 rfl) ?_
      refine va_get (D := (dC, dI)) (ci := 5) (v := .int mtr) (C := R_M) (T := T_M) (N := 32) hx hb hts ki_M hown hK hP 0 rfl rfl 13 (by decide) (hts _ kw_3_146) (fun _ h9 => h9) rfl d_M_pass_27 ?_
      refine lv_iload_n hx hb d_M_pass_30 rfl (lv_at hl 0 rfl) ?_
      refine lv_iadd hx hb d_M_pass_31 ?_
      refine lv_sipush (v := 12000) hx hb d_M_pass_32 (by decide) ?_
      refine lv_icmp_le (tgt := 42) hx hb d_M_pass_35 (by decide) (fun c10 => ?_) (fun c10 => ?_)
      · have hF := kc_pos c10 hF
        refine lv_iconst (v := 0) hx hb d_M_pass_42 (by decide) ?_
        obtain rfl := Option.some.inj hF
        exact hJu4 _ _ _ hP hD hS (lv_sub hl [0, 1, 2] rfl)
      have hF := kc_neg c10 hF
      refine lv_iconst (v := 2) hx hb d_M_pass_38 (by decide) ?_
      refine lv_goto (tgt := 43) hx hb d_M_pass_39 (by decide) ?_
      obtain rfl := Option.some.inj hF
      exact hJu4 _ _ _ hP hD hS (lv_sub hl [0, 1, 2] rfl)
    have hF := kc_neg c3 hF
    refine lv_iconst (v := 1) hx hb d_M_pass_22 (by decide) ?_
    refine lv_goto (tgt := 43) hx hb d_M_pass_23 (by decide) ?_
    obtain rfl := Option.some.inj hF
    exact hJu4 _ _ _ hP hD hS (lv_sub hl [0, 1, 2] rfl)
  clear hF; have hF := hcu2; clear hcu2
  refine lv_icmp_ge (tgt := 12) hx hb d_M_pass_5 (by decide) (fun c1 => ?_) (fun c1 => ?_)
  · have hF := kc_pos c1 hF
    refine lv_aload_n hx hb d_M_pass_12 rfl (lv_at hl 0 rfl) ?_
    refine va_get (D := (dC, dI)) (ci := 5) (v := .int mtb) (C := R_M) (T := T_M) (N := 32) hx hb hts ki_M hown hK hP 0 rfl rfl 6 (by decide) (hts _ kw_3_139) (fun _ h9 => h9) rfl d_M_pass_13 ?_
    obtain rfl := Option.some.inj hF
    exact hJu2 _ _ _ hP hD hS (lv_sub hl [0, 1] rfl)
  have hF := kc_neg c1 hF
  refine lv_iload_n hx hb d_M_pass_8 rfl (lv_at hl 1 rfl) ?_
  refine lv_goto (tgt := 16) hx hb d_M_pass_9 (by decide) ?_
  obtain rfl := Option.some.inj hF
  exact hJu2 _ _ _ hP hD hS (lv_sub hl [0, 1] rfl)
abbrev rm_M_turn : Room := { frames := 0, cells := 0, slots := 0, locals := 0 }
set_option maxHeartbeats 4000000 in
set_option maxRecDepth 100000 in
theorem m_M_turn (l : Launch) (dC : Nat → ClassId) (dI : Nat → Nat → Nat) (q_mo q_msa q_mbi q_mcx q_mpa q_mle q_mdi q_mrd q_msz q_mbe q_mfa q_mse q_mrf q_mlo q_mos q_mwb q_mol q_mrv q_mrl : Nat) (k_mrd : ClassId) (n_mrd : Nat) (mref : Int32) (mw : Int32) (mh : Int32) (mst : Int32) (mbd : Int32) (mtb : Int32) (mps : Int32) (mtr : Int32) (misr : Int32) (mplc : Int32) (mlak : Int32) (mpl : Int32) (mpass : Int32) (mraw : Int32) (mreads : (Nat → Int32)) (a0 : Int32) (u : Int32 × Int32 × (Nat → Int32)) (hF : f_M_turn mtr mreads n_mrd a0 = some u) : ∀ sz : Nat, Met l y_M_turn (kws y_M_turn c_M_turn 2 (some .int)) rm_M_turn (kPre (dC, dI) [.ref q_mo, .int a0] [(q_mo, .inr (5, [.int mref, .int mw, .int mh, .int mst, .int mbd, .ref q_msa, .int mtb, .ref q_mbi, .ref q_mcx, .ref q_mpa, .int mps, .ref q_mle, .ref q_mdi, .int mtr, .ref q_mrd, .int misr, .int mplc, .int mlak, .int mpl, .int mpass, .int mraw, .ref q_msz, .ref q_mbe, .ref q_mfa, .ref q_mse, .ref q_mrf, .ref q_mlo, .ref q_mos, .ref q_mwb, .ref q_mol, .ref q_mrv, .ref q_mrl])), (q_mrd, .inl (k_mrd, n_mrd, .inl mreads))] [(k_mrd, .int)] sz) (kPost (dC, dI) (some (.int u.1)) [(q_mo, .inr (5, [.int u.2.1, .int mw, .int mh, .int mst, .int mbd, .ref q_msa, .int mtb, .ref q_mbi, .ref q_mcx, .ref q_mpa, .int mps, .ref q_mle, .ref q_mdi, .int mtr, .ref q_mrd, .int misr, .int mplc, .int mlak, .int mpl, .int mpass, .int mraw, .ref q_msz, .ref q_mbe, .ref q_mfa, .ref q_mse, .ref q_mrf, .ref q_mlo, .ref q_mos, .ref q_mwb, .ref q_mol, .ref q_mrv, .ref q_mrl])), (q_mrd, .inl (k_mrd, n_mrd, .inl u.2.2))] (va_A [(q_mo, .inr (5, [.int mref, .int mw, .int mh, .int mst, .int mbd, .ref q_msa, .int mtb, .ref q_mbi, .ref q_mcx, .ref q_mpa, .int mps, .ref q_mle, .ref q_mdi, .int mtr, .ref q_mrd, .int misr, .int mplc, .int mlak, .int mpl, .int mpass, .int mraw, .ref q_msz, .ref q_mbe, .ref q_mfa, .ref q_mse, .ref q_mrf, .ref q_mlo, .ref q_mos, .ref q_mwb, .ref q_mol, .ref q_mrv, .ref q_mrl])), (q_mrd, .inl (k_mrd, n_mrd, .inl mreads))] sz)) 0 0 (va_A [(q_mo, .inr (5, [.int mref, .int mw, .int mh, .int mst, .int mbd, .ref q_msa, .int mtb, .ref q_mbi, .ref q_mcx, .ref q_mpa, .int mps, .ref q_mle, .ref q_mdi, .int mtr, .ref q_mrd, .int misr, .int mplc, .int mlak, .int mpl, .int mpass, .int mraw, .ref q_msz, .ref q_mbe, .ref q_mfa, .ref q_mse, .ref q_mrf, .ref q_mlo, .ref q_mos, .ref q_mwb, .ref q_mol, .ref q_mrv, .ref q_mrl])), (q_mrd, .inl (k_mrd, n_mrd, .inl mreads))] sz) := by
  unfold f_M_turn at hF
  refine kU_of (cc := c_M_turn) (maxL := 2) (ret := (some .int)) (by decide) (Nat.le_of_ble_eq_true rfl) ?_
  intro p e s m args below meth c Q A hQ hfx hK hN hA H locs ls hP hD hS hl
  obtain ⟨hx, hb, hr, hml, hown, hts, hlocks⟩ := hfx
  have hown : s.vm.findClass R_M = some m.cls := hown
  have hl : lv_has ls 2 [(0, .ref q_mo), (1, .int a0)] := hl
  refine lv_aload_n hx hb d_M_turn_0 rfl (lv_at hl 0 rfl) ?_
  refine lv_iload_n hx hb d_M_turn_1 rfl (lv_at hl 1 rfl) ?_
  obtain ⟨u2, hcu2, hF⟩ := kc_bnd hF
  have hJu2 : ∀ (H : Heap) (locs : List Loc) (ls : Array Slot), va_P (dC, dI) vwCl [(q_mo, .inr (5, [.int mref, .int mw, .int mh, .int mst, .int mbd, .ref q_msa, .int mtb, .ref q_mbi, .ref q_mcx, .ref q_mpa, .int mps, .ref q_mle, .ref q_mdi, .int mtr, .ref q_mrd, .int misr, .int mplc, .int mlak, .int mpl, .int mpass, .int mraw, .ref q_msz, .ref q_mbe, .ref q_mfa, .ref q_mse, .ref q_mrf, .ref q_mlo, .ref q_mos, .ref q_mwb, .ref q_mol, .ref q_mrv, .ref q_mrl])), (q_mrd, .inl (k_mrd, n_mrd, .inl mreads))] H → va_D A [(q_mo, .inr (5, [.int mref, .int mw, .int mh, .int mst, .int mbd, .ref q_msa, .int mtb, .ref q_mbi, .ref q_mcx, .ref q_mpa, .int mps, .ref q_mle, .ref q_mdi, .int mtr, .ref q_mrd, .int misr, .int mplc, .int mlak, .int mpl, .int mpass, .int mraw, .ref q_msz, .ref q_mbe, .ref q_mfa, .ref q_mse, .ref q_mrf, .ref q_mlo, .ref q_mos, .ref q_mwb, .ref q_mol, .ref q_mrv, .ref q_mrl])), (q_mrd, .inl (k_mrd, n_mrd, .inl mreads))] → va_S A s.heap H locs → lv_has ls 2 [(0, .ref q_mo), (1, .int a0)] → W p l e rm_M_turn s m args below meth c H locs 0 0 Q (F0 m 18 ls [.int u2, .ref q_mo]) := by
    intro H locs ls hP hD hS hl
    refine va_put (D := (dC, dI)) (ci := 5) (v := .int u2) (ty := .int) (C := R_M) (T := T_M) (N := 32) hx hb hts ki_M ty_M tyok_M nmok_M hown hK hP hD hS 0 rfl rfl 0 (by decide) (hts _ kw_3_133) (fun _ h9 => h9) rfl (by decide +kernel) rfl rfl (Nat.le_of_ble_eq_true rfl) d_M_turn_18 (fun H locs hP hD hS => ?_)
    have hP : va_P (dC, dI) vwCl [(q_mo, .inr (5, [.int u2, .int mw, .int mh, .int mst, .int mbd, .ref q_msa, .int mtb, .ref q_mbi, .ref q_mcx, .ref q_mpa, .int mps, .ref q_mle, .ref q_mdi, .int mtr, .ref q_mrd, .int misr, .int mplc, .int mlak, .int mpl, .int mpass, .int mraw, .ref q_msz, .ref q_mbe, .ref q_mfa, .ref q_mse, .ref q_mrf, .ref q_mlo, .ref q_mos, .ref q_mwb, .ref q_mol, .ref q_mrv, .ref q_mrl])), (q_mrd, .inl (k_mrd, n_mrd, .inl mreads))] H := hP
    have hD : va_D A [(q_mo, .inr (5, [.int u2, .int mw, .int mh, .int mst, .int mbd, .ref q_msa, .int mtb, .ref q_mbi, .ref q_mcx, .ref q_mpa, .int mps, .ref q_mle, .ref q_mdi, .int mtr, .ref q_mrd, .int misr, .int mplc, .int mlak, .int mpl, .int mpass, .int mraw, .ref q_msz, .ref q_mbe, .ref q_mfa, .ref q_mse, .ref q_mrf, .ref q_mlo, .ref q_mos, .ref q_mwb, .ref q_mol, .ref q_mrv, .ref q_mrl])), (q_mrd, .inl (k_mrd, n_mrd, .inl mreads))] := hD
    refine lv_aload_n hx hb d_M_turn_21 rfl (lv_at hl 0 rfl) ?_
    refine va_get (D := (dC, dI)) (ci := 5) (v := .int u2) (C := R_M) (T := T_M) (N := 32) hx hb hts ki_M hown hK hP 0 rfl rfl 0 (by decide) (hts _ kw_3_133) (fun _ h9 => h9) rfl d_M_turn_22 ?_
    refine lv_if_le (tgt := 30) hx hb d_M_turn_25 (by decide) (fun c3 => ?_) (fun c3 => ?_)
    · have hF := kc_pos c3 hF
      refine lv_aload_n hx hb d_M_turn_30 rfl (lv_at hl 0 rfl) ?_
      refine va_get (D := (dC, dI)) (ci := 5) (v := .ref q_mrd) (C := R_M) (T := T_M) (N := 32) hx hb hts ki_M hown hK hP 0 rfl rfl 14 (by decide) (hts _ kw_3_147) (fun _ h9 => h9) rfl d_M_turn_31 ?_
      refine lv_iload_n hx hb d_M_turn_34 rfl (lv_at hl 1 rfl) ?_
      refine lv_iconst (v := 1) hx hb d_M_turn_35 (by decide) ?_
      refine lv_aload_n hx hb d_M_turn_36 rfl (lv_at hl 0 rfl) ?_
      refine va_get (D := (dC, dI)) (ci := 5) (v := .ref q_mrd) (C := R_M) (T := T_M) (N := 32) hx hb hts ki_M hown hK hP 0 rfl rfl 14 (by decide) (hts _ kw_3_147) (fun _ h9 => h9) rfl d_M_turn_37 ?_
      refine lv_iload_n hx hb d_M_turn_40 rfl (lv_at hl 1 rfl) ?_
      obtain ⟨h4, hF⟩ := kc_no hF
      refine va_iald hx hb hK hP 1 0 rfl rfl h4 d_M_turn_41 ?_
      refine lv_isub hx hb d_M_turn_42 ?_
      obtain ⟨h5, hF⟩ := kc_no hF
      refine va_iast hx hb hK hP hD hS 1 0 rfl rfl h5 d_M_turn_43 (fun H locs hP hD hS => ?_)
      have hP : va_P (dC, dI) vwCl [(q_mo, .inr (5, [.int u2, .int mw, .int mh, .int mst, .int mbd, .ref q_msa, .int mtb, .ref q_mbi, .ref q_mcx, .ref q_mpa, .int mps, .ref q_mle, .ref q_mdi, .int mtr, .ref q_mrd, .int misr, .int mplc, .int mlak, .int mpl, .int mpass, .int mraw, .ref q_msz, .ref q_mbe, .ref q_mfa, .ref q_mse, .ref q_mrf, .ref q_mlo, .ref q_mos, .ref q_mwb, .ref q_mol, .ref q_mrv, .ref q_mrl])), (q_mrd, .inl (k_mrd, n_mrd, .inl (upd mreads a0.toNatClampNeg ((1 : Int32) - (mreads a0.toNatClampNeg)))))] H := hP
      have hD : va_D A [(q_mo, .inr (5, [.int u2, .int mw, .int mh, .int mst, .int mbd, .ref q_msa, .int mtb, .ref q_mbi, .ref q_mcx, .ref q_mpa, .int mps, .ref q_mle, .ref q_mdi, .int mtr, .ref q_mrd, .int misr, .int mplc, .int mlak, .int mpl, .int mpass, .int mraw, .ref q_msz, .ref q_mbe, .ref q_mfa, .ref q_mse, .ref q_mrf, .ref q_mlo, .ref q_mos, .ref q_mwb, .ref q_mol, .ref q_mrv, .ref q_mrl])), (q_mrd, .inl (k_mrd, n_mrd, .inl (upd mreads a0.toNatClampNeg ((1 : Int32) - (mreads a0.toNatClampNeg)))))] := hD
      refine lv_aload_n hx hb d_M_turn_44 rfl (lv_at hl 0 rfl) ?_
      refine va_get (D := (dC, dI)) (ci := 5) (v := .ref q_mrd) (C := R_M) (T := T_M) (N := 32) hx hb hts ki_M hown hK hP 0 rfl rfl 14 (by decide) (hts _ kw_3_147) (fun _ h9 => h9) rfl d_M_turn_45 ?_
      refine lv_iload_n hx hb d_M_turn_48 rfl (lv_at hl 1 rfl) ?_
      obtain ⟨h6, hF⟩ := kc_no hF
      refine va_iald hx hb hK hP 1 0 rfl rfl h6 d_M_turn_49 ?_
      obtain rfl := Option.some.inj hF
      exact ku_iret hx hb hr hlocks hQ (hP.sub [0, 1] rfl) (hD.sub [0, 1] (by decide) rfl) hS d_M_turn_50
    have hF := kc_neg c3 hF
    refine lv_iconst (v := 0) hx hb d_M_turn_28 (by decide) ?_
    obtain rfl := Option.some.inj hF
    exact ku_iret hx hb hr hlocks hQ (hP.sub [0, 1] rfl) (hD.sub [0, 1] (by decide) rfl) hS d_M_turn_29
  clear hF; have hF := hcu2; clear hcu2
  refine lv_if_lt (tgt := 13) hx hb d_M_turn_2 (by decide) (fun c1 => ?_) (fun c1 => ?_)
  · have hF := kc_pos c1 hF
    refine lv_iconst (v := 1) hx hb d_M_turn_13 (by decide) ?_
    refine lv_goto (tgt := 18) hx hb d_M_turn_14 (by decide) ?_
    obtain rfl := Option.some.inj hF
    exact hJu2 _ _ _ hP hD hS (lv_sub hl [0, 1] rfl)
  have hF := kc_neg c1 hF
  refine lv_iload_n hx hb d_M_turn_5 rfl (lv_at hl 1 rfl) ?_
  refine lv_aload_n hx hb d_M_turn_6 rfl (lv_at hl 0 rfl) ?_
  refine va_get (D := (dC, dI)) (ci := 5) (v := .int mtr) (C := R_M) (T := T_M) (N := 32) hx hb hts ki_M hown hK hP 0 rfl rfl 13 (by decide) (hts _ kw_3_146) (fun _ h9 => h9) rfl d_M_turn_7 ?_
  refine lv_icmp_lt (tgt := 17) hx hb d_M_turn_10 (by decide) (fun c7 => ?_) (fun c7 => ?_)
  · have hF := kc_pos c7 hF
    refine lv_iconst (v := 0) hx hb d_M_turn_17 (by decide) ?_
    obtain rfl := Option.some.inj hF
    exact hJu2 _ _ _ hP hD hS (lv_sub hl [0, 1] rfl)
  have hF := kc_neg c7 hF
  refine lv_iconst (v := 1) hx hb d_M_turn_13 (by decide) ?_
  refine lv_goto (tgt := 18) hx hb d_M_turn_14 (by decide) ?_
  obtain rfl := Option.some.inj hF
  exact hJu2 _ _ _ hP hD hS (lv_sub hl [0, 1] rfl)
abbrev rm_M_save : Room := { frames := 0, cells := 0, slots := 0, locals := 0 }
set_option maxHeartbeats 4000000 in
set_option maxRecDepth 100000 in
theorem m_M_save (l : Launch) (dC : Nat → ClassId) (dI : Nat → Nat → Nat) (q_mo q_msa q_mbi q_mcx q_mpa q_mle q_mdi q_mrd q_msz q_mbe q_mfa q_mse q_mrf q_mlo q_mos q_mwb q_mol q_mrv q_mrl : Nat) (k_msz : ClassId) (n_msz : Nat) (k_mbe : ClassId) (n_mbe : Nat) (k_mlo : ClassId) (n_mlo : Nat) (k_mos : ClassId) (n_mos : Nat) (k_mwb : ClassId) (n_mwb : Nat) (k_mol : ClassId) (n_mol : Nat) (mref : Int32) (mw : Int32) (mh : Int32) (mst : Int32) (mbd : Int32) (mtb : Int32) (mps : Int32) (mtr : Int32) (misr : Int32) (mplc : Int32) (mlak : Int32) (mpl : Int32) (mpass : Int32) (mraw : Int32) (msizs : (Nat → Int32)) (mbels : (Nat → Int32)) (mlows : (Nat → Int32)) (moszs : (Nat → Int32)) (mwbls : (Nat → Int32)) (molws : (Nat → Int32)) (u : (Nat → Int32) × (Nat → Int32) × (Nat → Int32)) (hF : f_M_save msizs mbels mlows moszs mwbls molws n_msz n_mbe n_mlo n_mos n_mwb n_mol = some u) : ∀ sz : Nat, Met l y_M_save (kws y_M_save c_M_save 2 none) rm_M_save (kPre (dC, dI) [.ref q_mo] [(q_mo, .inr (5, [.int mref, .int mw, .int mh, .int mst, .int mbd, .ref q_msa, .int mtb, .ref q_mbi, .ref q_mcx, .ref q_mpa, .int mps, .ref q_mle, .ref q_mdi, .int mtr, .ref q_mrd, .int misr, .int mplc, .int mlak, .int mpl, .int mpass, .int mraw, .ref q_msz, .ref q_mbe, .ref q_mfa, .ref q_mse, .ref q_mrf, .ref q_mlo, .ref q_mos, .ref q_mwb, .ref q_mol, .ref q_mrv, .ref q_mrl])), (q_msz, .inl (k_msz, n_msz, .inl msizs)), (q_mbe, .inl (k_mbe, n_mbe, .inl mbels)), (q_mlo, .inl (k_mlo, n_mlo, .inl mlows)), (q_mos, .inl (k_mos, n_mos, .inl moszs)), (q_mwb, .inl (k_mwb, n_mwb, .inl mwbls)), (q_mol, .inl (k_mol, n_mol, .inl molws))] [(k_msz, .int), (k_mbe, .boolean), (k_mlo, .int), (k_mos, .int), (k_mwb, .boolean), (k_mol, .int)] sz) (kPost (dC, dI) none [(q_mo, .inr (5, [.int mref, .int mw, .int mh, .int mst, .int mbd, .ref q_msa, .int mtb, .ref q_mbi, .ref q_mcx, .ref q_mpa, .int mps, .ref q_mle, .ref q_mdi, .int mtr, .ref q_mrd, .int misr, .int mplc, .int mlak, .int mpl, .int mpass, .int mraw, .ref q_msz, .ref q_mbe, .ref q_mfa, .ref q_mse, .ref q_mrf, .ref q_mlo, .ref q_mos, .ref q_mwb, .ref q_mol, .ref q_mrv, .ref q_mrl])), (q_msz, .inl (k_msz, n_msz, .inl msizs)), (q_mbe, .inl (k_mbe, n_mbe, .inl mbels)), (q_mlo, .inl (k_mlo, n_mlo, .inl mlows)), (q_mos, .inl (k_mos, n_mos, .inl u.1)), (q_mwb, .inl (k_mwb, n_mwb, .inl u.2.1)), (q_mol, .inl (k_mol, n_mol, .inl u.2.2))] (va_A [(q_mo, .inr (5, [.int mref, .int mw, .int mh, .int mst, .int mbd, .ref q_msa, .int mtb, .ref q_mbi, .ref q_mcx, .ref q_mpa, .int mps, .ref q_mle, .ref q_mdi, .int mtr, .ref q_mrd, .int misr, .int mplc, .int mlak, .int mpl, .int mpass, .int mraw, .ref q_msz, .ref q_mbe, .ref q_mfa, .ref q_mse, .ref q_mrf, .ref q_mlo, .ref q_mos, .ref q_mwb, .ref q_mol, .ref q_mrv, .ref q_mrl])), (q_msz, .inl (k_msz, n_msz, .inl msizs)), (q_mbe, .inl (k_mbe, n_mbe, .inl mbels)), (q_mlo, .inl (k_mlo, n_mlo, .inl mlows)), (q_mos, .inl (k_mos, n_mos, .inl moszs)), (q_mwb, .inl (k_mwb, n_mwb, .inl mwbls)), (q_mol, .inl (k_mol, n_mol, .inl molws))] sz)) 0 0 (va_A [(q_mo, .inr (5, [.int mref, .int mw, .int mh, .int mst, .int mbd, .ref q_msa, .int mtb, .ref q_mbi, .ref q_mcx, .ref q_mpa, .int mps, .ref q_mle, .ref q_mdi, .int mtr, .ref q_mrd, .int misr, .int mplc, .int mlak, .int mpl, .int mpass, .int mraw, .ref q_msz, .ref q_mbe, .ref q_mfa, .ref q_mse, .ref q_mrf, .ref q_mlo, .ref q_mos, .ref q_mwb, .ref q_mol, .ref q_mrv, .ref q_mrl])), (q_msz, .inl (k_msz, n_msz, .inl msizs)), (q_mbe, .inl (k_mbe, n_mbe, .inl mbels)), (q_mlo, .inl (k_mlo, n_mlo, .inl mlows)), (q_mos, .inl (k_mos, n_mos, .inl moszs)), (q_mwb, .inl (k_mwb, n_mwb, .inl mwbls)), (q_mol, .inl (k_mol, n_mol, .inl molws))] sz) := by
  unfold f_M_save at hF
  refine kU_of (cc := c_M_save) (maxL := 2) (ret := none) (by decide) (Nat.le_of_ble_eq_true rfl) ?_
  intro p e s m args below meth c Q A hQ hfx hK hN hA H locs ls hP hD hS hl
  obtain ⟨hx, hb, hr, hml, hown, hts, hlocks⟩ := hfx
  have hown : s.vm.findClass R_M = some m.cls := hown
  have hl : lv_has ls 2 [(0, .ref q_mo)] := hl
  refine lv_iconst (v := 0) hx hb d_M_save_0 (by decide) ?_
  refine lv_istore_n (lv' := [(1, .int (0 : Int32)), (0, .ref q_mo)]) hx hb d_M_save_1 rfl hl (by decide) rfl (fun ls hl => ?_)
  obtain ⟨u1, hcu1, hF⟩ := kc_bnd hF
  have hJu1_51 : ∀ (H : Heap) (locs : List Loc) (ls : Array Slot), va_P (dC, dI) vwCl [(q_mo, .inr (5, [.int mref, .int mw, .int mh, .int mst, .int mbd, .ref q_msa, .int mtb, .ref q_mbi, .ref q_mcx, .ref q_mpa, .int mps, .ref q_mle, .ref q_mdi, .int mtr, .ref q_mrd, .int misr, .int mplc, .int mlak, .int mpl, .int mpass, .int mraw, .ref q_msz, .ref q_mbe, .ref q_mfa, .ref q_mse, .ref q_mrf, .ref q_mlo, .ref q_mos, .ref q_mwb, .ref q_mol, .ref q_mrv, .ref q_mrl])), (q_msz, .inl (k_msz, n_msz, .inl msizs)), (q_mbe, .inl (k_mbe, n_mbe, .inl mbels)), (q_mlo, .inl (k_mlo, n_mlo, .inl mlows)), (q_mos, .inl (k_mos, n_mos, .inl u1.2.1)), (q_mwb, .inl (k_mwb, n_mwb, .inl u1.2.2.1)), (q_mol, .inl (k_mol, n_mol, .inl u1.2.2.2))] H → va_D A [(q_mo, .inr (5, [.int mref, .int mw, .int mh, .int mst, .int mbd, .ref q_msa, .int mtb, .ref q_mbi, .ref q_mcx, .ref q_mpa, .int mps, .ref q_mle, .ref q_mdi, .int mtr, .ref q_mrd, .int misr, .int mplc, .int mlak, .int mpl, .int mpass, .int mraw, .ref q_msz, .ref q_mbe, .ref q_mfa, .ref q_mse, .ref q_mrf, .ref q_mlo, .ref q_mos, .ref q_mwb, .ref q_mol, .ref q_mrv, .ref q_mrl])), (q_msz, .inl (k_msz, n_msz, .inl msizs)), (q_mbe, .inl (k_mbe, n_mbe, .inl mbels)), (q_mlo, .inl (k_mlo, n_mlo, .inl mlows)), (q_mos, .inl (k_mos, n_mos, .inl u1.2.1)), (q_mwb, .inl (k_mwb, n_mwb, .inl u1.2.2.1)), (q_mol, .inl (k_mol, n_mol, .inl u1.2.2.2))] → va_S A s.heap H locs → lv_has ls 2 [(1, .int u1.1), (0, .ref q_mo)] → W p l e rm_M_save s m args below meth c H locs 0 0 Q (F0 m 51 ls []) := by
    intro H locs ls hP hD hS hl
    obtain rfl := Option.some.inj hF
    exact ku_vret hx hb hr hlocks hQ (hP.sub [0, 1, 2, 3, 4, 5, 6] rfl) (hD.sub [0, 1, 2, 3, 4, 5, 6] (by decide) rfl) hS d_M_save_51
  have hIu1 : ∀ (N : Nat) (v2_1 : Int32) (moszs_2 : (Nat → Int32)) (mwbls_2 : (Nat → Int32)) (molws_2 : (Nat → Int32)), f_M_save_L2 msizs mbels mlows n_msz n_mbe n_mlo n_mos n_mwb n_mol N v2_1 moszs_2 mwbls_2 molws_2 = some u1 → ∀ (H : Heap) (locs : List Loc) (ls : Array Slot), va_P (dC, dI) vwCl [(q_mo, .inr (5, [.int mref, .int mw, .int mh, .int mst, .int mbd, .ref q_msa, .int mtb, .ref q_mbi, .ref q_mcx, .ref q_mpa, .int mps, .ref q_mle, .ref q_mdi, .int mtr, .ref q_mrd, .int misr, .int mplc, .int mlak, .int mpl, .int mpass, .int mraw, .ref q_msz, .ref q_mbe, .ref q_mfa, .ref q_mse, .ref q_mrf, .ref q_mlo, .ref q_mos, .ref q_mwb, .ref q_mol, .ref q_mrv, .ref q_mrl])), (q_msz, .inl (k_msz, n_msz, .inl msizs)), (q_mbe, .inl (k_mbe, n_mbe, .inl mbels)), (q_mlo, .inl (k_mlo, n_mlo, .inl mlows)), (q_mos, .inl (k_mos, n_mos, .inl moszs_2)), (q_mwb, .inl (k_mwb, n_mwb, .inl mwbls_2)), (q_mol, .inl (k_mol, n_mol, .inl molws_2))] H → va_D A [(q_mo, .inr (5, [.int mref, .int mw, .int mh, .int mst, .int mbd, .ref q_msa, .int mtb, .ref q_mbi, .ref q_mcx, .ref q_mpa, .int mps, .ref q_mle, .ref q_mdi, .int mtr, .ref q_mrd, .int misr, .int mplc, .int mlak, .int mpl, .int mpass, .int mraw, .ref q_msz, .ref q_mbe, .ref q_mfa, .ref q_mse, .ref q_mrf, .ref q_mlo, .ref q_mos, .ref q_mwb, .ref q_mol, .ref q_mrv, .ref q_mrl])), (q_msz, .inl (k_msz, n_msz, .inl msizs)), (q_mbe, .inl (k_mbe, n_mbe, .inl mbels)), (q_mlo, .inl (k_mlo, n_mlo, .inl mlows)), (q_mos, .inl (k_mos, n_mos, .inl moszs_2)), (q_mwb, .inl (k_mwb, n_mwb, .inl mwbls_2)), (q_mol, .inl (k_mol, n_mol, .inl molws_2))] → va_S A s.heap H locs → lv_has ls 2 [(1, .int v2_1), (0, .ref q_mo)] → W p l e rm_M_save s m args below meth c H locs 0 0 Q (F0 m 2 ls []) := by
    intro N
    induction N with
    | zero => intro v2_1 moszs_2 mwbls_2 molws_2 hF; rw [f_M_save_L2] at hF; cases hF
    | succ N ih =>
      intro v2_1 moszs_2 mwbls_2 molws_2 hF
      intro H locs ls hP hD hS hl
      rw [f_M_save_L2] at hF
      refine lv_iload_n hx hb d_M_save_2 rfl (lv_at hl 0 rfl) ?_
      refine lv_sipush (v := 256) hx hb d_M_save_3 (by decide) ?_
      refine lv_icmp_ge (tgt := 51) hx hb d_M_save_6 (by decide) (fun c2 => ?_) (fun c2 => ?_)
      · have hF := kc_pos c2 hF
        obtain rfl := Option.some.inj hF
        exact hJu1_51 _ _ _ hP hD hS (lv_sub hl [0, 1] rfl)
      have hF := kc_neg c2 hF
      refine lv_aload_n hx hb d_M_save_9 rfl (lv_at hl 1 rfl) ?_
      refine va_get (D := (dC, dI)) (ci := 5) (v := .ref q_mos) (C := R_M) (T := T_M) (N := 32) hx hb hts ki_M hown hK hP 0 rfl rfl 27 (by decide) (hts _ kw_3_160) (fun _ h9 => h9) rfl d_M_save_10 ?_
      refine lv_iload_n hx hb d_M_save_13 rfl (lv_at hl 0 rfl) ?_
      refine lv_aload_n hx hb d_M_save_14 rfl (lv_at hl 1 rfl) ?_
      refine va_get (D := (dC, dI)) (ci := 5) (v := .ref q_msz) (C := R_M) (T := T_M) (N := 32) hx hb hts ki_M hown hK hP 0 rfl rfl 21 (by decide) (hts _ kw_3_154) (fun _ h9 => h9) rfl d_M_save_15 ?_
      refine lv_iload_n hx hb d_M_save_18 rfl (lv_at hl 0 rfl) ?_
      obtain ⟨h3, hF⟩ := kc_no hF
      refine va_iald hx hb hK hP 1 0 rfl rfl h3 d_M_save_19 ?_
      obtain ⟨h4, hF⟩ := kc_no hF
      refine va_iast hx hb hK hP hD hS 4 3 rfl rfl h4 d_M_save_20 (fun H locs hP hD hS => ?_)
      have hP : va_P (dC, dI) vwCl [(q_mo, .inr (5, [.int mref, .int mw, .int mh, .int mst, .int mbd, .ref q_msa, .int mtb, .ref q_mbi, .ref q_mcx, .ref q_mpa, .int mps, .ref q_mle, .ref q_mdi, .int mtr, .ref q_mrd, .int misr, .int mplc, .int mlak, .int mpl, .int mpass, .int mraw, .ref q_msz, .ref q_mbe, .ref q_mfa, .ref q_mse, .ref q_mrf, .ref q_mlo, .ref q_mos, .ref q_mwb, .ref q_mol, .ref q_mrv, .ref q_mrl])), (q_msz, .inl (k_msz, n_msz, .inl msizs)), (q_mbe, .inl (k_mbe, n_mbe, .inl mbels)), (q_mlo, .inl (k_mlo, n_mlo, .inl mlows)), (q_mos, .inl (k_mos, n_mos, .inl (upd moszs_2 v2_1.toNatClampNeg (msizs v2_1.toNatClampNeg)))), (q_mwb, .inl (k_mwb, n_mwb, .inl mwbls_2)), (q_mol, .inl (k_mol, n_mol, .inl molws_2))] H := hP
      have hD : va_D A [(q_mo, .inr (5, [.int mref, .int mw, .int mh, .int mst, .int mbd, .ref q_msa, .int mtb, .ref q_mbi, .ref q_mcx, .ref q_mpa, .int mps, .ref q_mle, .ref q_mdi, .int mtr, .ref q_mrd, .int misr, .int mplc, .int mlak, .int mpl, .int mpass, .int mraw, .ref q_msz, .ref q_mbe, .ref q_mfa, .ref q_mse, .ref q_mrf, .ref q_mlo, .ref q_mos, .ref q_mwb, .ref q_mol, .ref q_mrv, .ref q_mrl])), (q_msz, .inl (k_msz, n_msz, .inl msizs)), (q_mbe, .inl (k_mbe, n_mbe, .inl mbels)), (q_mlo, .inl (k_mlo, n_mlo, .inl mlows)), (q_mos, .inl (k_mos, n_mos, .inl (upd moszs_2 v2_1.toNatClampNeg (msizs v2_1.toNatClampNeg)))), (q_mwb, .inl (k_mwb, n_mwb, .inl mwbls_2)), (q_mol, .inl (k_mol, n_mol, .inl molws_2))] := hD
      refine lv_aload_n hx hb d_M_save_21 rfl (lv_at hl 1 rfl) ?_
      refine va_get (D := (dC, dI)) (ci := 5) (v := .ref q_mwb) (C := R_M) (T := T_M) (N := 32) hx hb hts ki_M hown hK hP 0 rfl rfl 28 (by decide) (hts _ kw_3_161) (fun _ h9 => h9) rfl d_M_save_22 ?_
      refine lv_iload_n hx hb d_M_save_25 rfl (lv_at hl 0 rfl) ?_
      refine lv_aload_n hx hb d_M_save_26 rfl (lv_at hl 1 rfl) ?_
      refine va_get (D := (dC, dI)) (ci := 5) (v := .ref q_mbe) (C := R_M) (T := T_M) (N := 32) hx hb hts ki_M hown hK hP 0 rfl rfl 22 (by decide) (hts _ kw_3_155) (fun _ h9 => h9) rfl d_M_save_27 ?_
      refine lv_iload_n hx hb d_M_save_30 rfl (lv_at hl 0 rfl) ?_
      obtain ⟨h5, hF⟩ := kc_no hF
      refine va_zald hx hb hK hP 2 1 rfl rfl h5 d_M_save_31 ?_
      obtain ⟨h6, hF⟩ := kc_no hF
      refine va_zast hx hb hK hP hD hS 5 4 rfl rfl h6 d_M_save_32 (fun H locs hP hD hS => ?_)
      have hP : va_P (dC, dI) vwCl [(q_mo, .inr (5, [.int mref, .int mw, .int mh, .int mst, .int mbd, .ref q_msa, .int mtb, .ref q_mbi, .ref q_mcx, .ref q_mpa, .int mps, .ref q_mle, .ref q_mdi, .int mtr, .ref q_mrd, .int misr, .int mplc, .int mlak, .int mpl, .int mpass, .int mraw, .ref q_msz, .ref q_mbe, .ref q_mfa, .ref q_mse, .ref q_mrf, .ref q_mlo, .ref q_mos, .ref q_mwb, .ref q_mol, .ref q_mrv, .ref q_mrl])), (q_msz, .inl (k_msz, n_msz, .inl msizs)), (q_mbe, .inl (k_mbe, n_mbe, .inl mbels)), (q_mlo, .inl (k_mlo, n_mlo, .inl mlows)), (q_mos, .inl (k_mos, n_mos, .inl (upd moszs_2 v2_1.toNatClampNeg (msizs v2_1.toNatClampNeg)))), (q_mwb, .inl (k_mwb, n_mwb, .inl (upd mwbls_2 v2_1.toNatClampNeg (vp_nar .boolean (mbels v2_1.toNatClampNeg))))), (q_mol, .inl (k_mol, n_mol, .inl molws_2))] H := hP
      have hD : va_D A [(q_mo, .inr (5, [.int mref, .int mw, .int mh, .int mst, .int mbd, .ref q_msa, .int mtb, .ref q_mbi, .ref q_mcx, .ref q_mpa, .int mps, .ref q_mle, .ref q_mdi, .int mtr, .ref q_mrd, .int misr, .int mplc, .int mlak, .int mpl, .int mpass, .int mraw, .ref q_msz, .ref q_mbe, .ref q_mfa, .ref q_mse, .ref q_mrf, .ref q_mlo, .ref q_mos, .ref q_mwb, .ref q_mol, .ref q_mrv, .ref q_mrl])), (q_msz, .inl (k_msz, n_msz, .inl msizs)), (q_mbe, .inl (k_mbe, n_mbe, .inl mbels)), (q_mlo, .inl (k_mlo, n_mlo, .inl mlows)), (q_mos, .inl (k_mos, n_mos, .inl (upd moszs_2 v2_1.toNatClampNeg (msizs v2_1.toNatClampNeg)))), (q_mwb, .inl (k_mwb, n_mwb, .inl (upd mwbls_2 v2_1.toNatClampNeg (vp_nar .boolean (mbels v2_1.toNatClampNeg))))), (q_mol, .inl (k_mol, n_mol, .inl molws_2))] := hD
      refine lv_aload_n hx hb d_M_save_33 rfl (lv_at hl 1 rfl) ?_
      refine va_get (D := (dC, dI)) (ci := 5) (v := .ref q_mol) (C := R_M) (T := T_M) (N := 32) hx hb hts ki_M hown hK hP 0 rfl rfl 29 (by decide) (hts _ kw_3_162) (fun _ h9 => h9) rfl d_M_save_34 ?_
      refine lv_iload_n hx hb d_M_save_37 rfl (lv_at hl 0 rfl) ?_
      refine lv_aload_n hx hb d_M_save_38 rfl (lv_at hl 1 rfl) ?_
      refine va_get (D := (dC, dI)) (ci := 5) (v := .ref q_mlo) (C := R_M) (T := T_M) (N := 32) hx hb hts ki_M hown hK hP 0 rfl rfl 26 (by decide) (hts _ kw_3_159) (fun _ h9 => h9) rfl d_M_save_39 ?_
      refine lv_iload_n hx hb d_M_save_42 rfl (lv_at hl 0 rfl) ?_
      obtain ⟨h7, hF⟩ := kc_no hF
      refine va_iald hx hb hK hP 3 2 rfl rfl h7 d_M_save_43 ?_
      obtain ⟨h8, hF⟩ := kc_no hF
      refine va_iast hx hb hK hP hD hS 6 5 rfl rfl h8 d_M_save_44 (fun H locs hP hD hS => ?_)
      have hP : va_P (dC, dI) vwCl [(q_mo, .inr (5, [.int mref, .int mw, .int mh, .int mst, .int mbd, .ref q_msa, .int mtb, .ref q_mbi, .ref q_mcx, .ref q_mpa, .int mps, .ref q_mle, .ref q_mdi, .int mtr, .ref q_mrd, .int misr, .int mplc, .int mlak, .int mpl, .int mpass, .int mraw, .ref q_msz, .ref q_mbe, .ref q_mfa, .ref q_mse, .ref q_mrf, .ref q_mlo, .ref q_mos, .ref q_mwb, .ref q_mol, .ref q_mrv, .ref q_mrl])), (q_msz, .inl (k_msz, n_msz, .inl msizs)), (q_mbe, .inl (k_mbe, n_mbe, .inl mbels)), (q_mlo, .inl (k_mlo, n_mlo, .inl mlows)), (q_mos, .inl (k_mos, n_mos, .inl (upd moszs_2 v2_1.toNatClampNeg (msizs v2_1.toNatClampNeg)))), (q_mwb, .inl (k_mwb, n_mwb, .inl (upd mwbls_2 v2_1.toNatClampNeg (vp_nar .boolean (mbels v2_1.toNatClampNeg))))), (q_mol, .inl (k_mol, n_mol, .inl (upd molws_2 v2_1.toNatClampNeg (mlows v2_1.toNatClampNeg))))] H := hP
      have hD : va_D A [(q_mo, .inr (5, [.int mref, .int mw, .int mh, .int mst, .int mbd, .ref q_msa, .int mtb, .ref q_mbi, .ref q_mcx, .ref q_mpa, .int mps, .ref q_mle, .ref q_mdi, .int mtr, .ref q_mrd, .int misr, .int mplc, .int mlak, .int mpl, .int mpass, .int mraw, .ref q_msz, .ref q_mbe, .ref q_mfa, .ref q_mse, .ref q_mrf, .ref q_mlo, .ref q_mos, .ref q_mwb, .ref q_mol, .ref q_mrv, .ref q_mrl])), (q_msz, .inl (k_msz, n_msz, .inl msizs)), (q_mbe, .inl (k_mbe, n_mbe, .inl mbels)), (q_mlo, .inl (k_mlo, n_mlo, .inl mlows)), (q_mos, .inl (k_mos, n_mos, .inl (upd moszs_2 v2_1.toNatClampNeg (msizs v2_1.toNatClampNeg)))), (q_mwb, .inl (k_mwb, n_mwb, .inl (upd mwbls_2 v2_1.toNatClampNeg (vp_nar .boolean (mbels v2_1.toNatClampNeg))))), (q_mol, .inl (k_mol, n_mol, .inl (upd molws_2 v2_1.toNatClampNeg (mlows v2_1.toNatClampNeg))))] := hD
      refine lv_iinc (v := (v2_1 + 1)) (lv' := [(1, .int (v2_1 + 1)), (0, .ref q_mo)]) hx hb d_M_save_45 hl (k := 0) rfl rfl (by decide) rfl (fun ls hl => ?_)
      refine lv_goto (tgt := 2) hx hb d_M_save_48 (by decide) ?_
      exact ih _ _ _ _ hF _ _ _ hP hD hS (lv_sub hl [0, 1] rfl)
  exact hIu1 _ _ _ _ _ hcu1 _ _ _ hP hD hS (lv_sub hl [0, 1] rfl)
abbrev rm_M_keep : Room := { frames := 0, cells := 0, slots := 0, locals := 0 }
set_option maxHeartbeats 4000000 in
set_option maxRecDepth 100000 in
theorem m_M_keep (l : Launch) (dC : Nat → ClassId) (dI : Nat → Nat → Nat) (q_mo q_msa q_mbi q_mcx q_mpa q_mle q_mdi q_mrd q_msz q_mbe q_mfa q_mse q_mrf q_mlo q_mos q_mwb q_mol q_mrv q_mrl : Nat) (k_msz : ClassId) (n_msz : Nat) (k_mbe : ClassId) (n_mbe : Nat) (k_mlo : ClassId) (n_mlo : Nat) (k_mos : ClassId) (n_mos : Nat) (k_mwb : ClassId) (n_mwb : Nat) (k_mol : ClassId) (n_mol : Nat) (k_mrv : ClassId) (n_mrv : Nat) (k_mrl : ClassId) (n_mrl : Nat) (mref : Int32) (mw : Int32) (mh : Int32) (mst : Int32) (mbd : Int32) (mtb : Int32) (mps : Int32) (mtr : Int32) (misr : Int32) (mplc : Int32) (mlak : Int32) (mpl : Int32) (mpass : Int32) (mraw : Int32) (msizs : (Nat → Int32)) (mbels : (Nat → Int32)) (mlows : (Nat → Int32)) (moszs : (Nat → Int32)) (mwbls : (Nat → Int32)) (molws : (Nat → Int32)) (mrvas : (Nat → Int32)) (mrlos : (Nat → Int32)) (u : (Nat → Int32) × (Nat → Int32)) (hF : f_M_keep mlak msizs mbels mlows moszs mwbls molws mrvas mrlos n_msz n_mbe n_mlo n_mos n_mwb n_mol n_mrv n_mrl = some u) : ∀ sz : Nat, Met l y_M_keep (kws y_M_keep c_M_keep 4 none) rm_M_keep (kPre (dC, dI) [.ref q_mo] [(q_mo, .inr (5, [.int mref, .int mw, .int mh, .int mst, .int mbd, .ref q_msa, .int mtb, .ref q_mbi, .ref q_mcx, .ref q_mpa, .int mps, .ref q_mle, .ref q_mdi, .int mtr, .ref q_mrd, .int misr, .int mplc, .int mlak, .int mpl, .int mpass, .int mraw, .ref q_msz, .ref q_mbe, .ref q_mfa, .ref q_mse, .ref q_mrf, .ref q_mlo, .ref q_mos, .ref q_mwb, .ref q_mol, .ref q_mrv, .ref q_mrl])), (q_msz, .inl (k_msz, n_msz, .inl msizs)), (q_mbe, .inl (k_mbe, n_mbe, .inl mbels)), (q_mlo, .inl (k_mlo, n_mlo, .inl mlows)), (q_mos, .inl (k_mos, n_mos, .inl moszs)), (q_mwb, .inl (k_mwb, n_mwb, .inl mwbls)), (q_mol, .inl (k_mol, n_mol, .inl molws)), (q_mrv, .inl (k_mrv, n_mrv, .inl mrvas)), (q_mrl, .inl (k_mrl, n_mrl, .inl mrlos))] [(k_msz, .int), (k_mbe, .boolean), (k_mlo, .int), (k_mos, .int), (k_mwb, .boolean), (k_mol, .int), (k_mrv, .int), (k_mrl, .int)] sz) (kPost (dC, dI) none [(q_mo, .inr (5, [.int mref, .int mw, .int mh, .int mst, .int mbd, .ref q_msa, .int mtb, .ref q_mbi, .ref q_mcx, .ref q_mpa, .int mps, .ref q_mle, .ref q_mdi, .int mtr, .ref q_mrd, .int misr, .int mplc, .int mlak, .int mpl, .int mpass, .int mraw, .ref q_msz, .ref q_mbe, .ref q_mfa, .ref q_mse, .ref q_mrf, .ref q_mlo, .ref q_mos, .ref q_mwb, .ref q_mol, .ref q_mrv, .ref q_mrl])), (q_msz, .inl (k_msz, n_msz, .inl msizs)), (q_mbe, .inl (k_mbe, n_mbe, .inl mbels)), (q_mlo, .inl (k_mlo, n_mlo, .inl mlows)), (q_mos, .inl (k_mos, n_mos, .inl moszs)), (q_mwb, .inl (k_mwb, n_mwb, .inl mwbls)), (q_mol, .inl (k_mol, n_mol, .inl molws)), (q_mrv, .inl (k_mrv, n_mrv, .inl u.1)), (q_mrl, .inl (k_mrl, n_mrl, .inl u.2))] (va_A [(q_mo, .inr (5, [.int mref, .int mw, .int mh, .int mst, .int mbd, .ref q_msa, .int mtb, .ref q_mbi, .ref q_mcx, .ref q_mpa, .int mps, .ref q_mle, .ref q_mdi, .int mtr, .ref q_mrd, .int misr, .int mplc, .int mlak, .int mpl, .int mpass, .int mraw, .ref q_msz, .ref q_mbe, .ref q_mfa, .ref q_mse, .ref q_mrf, .ref q_mlo, .ref q_mos, .ref q_mwb, .ref q_mol, .ref q_mrv, .ref q_mrl])), (q_msz, .inl (k_msz, n_msz, .inl msizs)), (q_mbe, .inl (k_mbe, n_mbe, .inl mbels)), (q_mlo, .inl (k_mlo, n_mlo, .inl mlows)), (q_mos, .inl (k_mos, n_mos, .inl moszs)), (q_mwb, .inl (k_mwb, n_mwb, .inl mwbls)), (q_mol, .inl (k_mol, n_mol, .inl molws)), (q_mrv, .inl (k_mrv, n_mrv, .inl mrvas)), (q_mrl, .inl (k_mrl, n_mrl, .inl mrlos))] sz)) 0 0 (va_A [(q_mo, .inr (5, [.int mref, .int mw, .int mh, .int mst, .int mbd, .ref q_msa, .int mtb, .ref q_mbi, .ref q_mcx, .ref q_mpa, .int mps, .ref q_mle, .ref q_mdi, .int mtr, .ref q_mrd, .int misr, .int mplc, .int mlak, .int mpl, .int mpass, .int mraw, .ref q_msz, .ref q_mbe, .ref q_mfa, .ref q_mse, .ref q_mrf, .ref q_mlo, .ref q_mos, .ref q_mwb, .ref q_mol, .ref q_mrv, .ref q_mrl])), (q_msz, .inl (k_msz, n_msz, .inl msizs)), (q_mbe, .inl (k_mbe, n_mbe, .inl mbels)), (q_mlo, .inl (k_mlo, n_mlo, .inl mlows)), (q_mos, .inl (k_mos, n_mos, .inl moszs)), (q_mwb, .inl (k_mwb, n_mwb, .inl mwbls)), (q_mol, .inl (k_mol, n_mol, .inl molws)), (q_mrv, .inl (k_mrv, n_mrv, .inl mrvas)), (q_mrl, .inl (k_mrl, n_mrl, .inl mrlos))] sz) := by
  unfold f_M_keep at hF
  refine kU_of (cc := c_M_keep) (maxL := 4) (ret := none) (by decide) (Nat.le_of_ble_eq_true rfl) ?_
  intro p e s m args below meth c Q A hQ hfx hK hN hA H locs ls hP hD hS hl
  obtain ⟨hx, hb, hr, hml, hown, hts, hlocks⟩ := hfx
  have hown : s.vm.findClass R_M = some m.cls := hown
  have hl : lv_has ls 4 [(0, .ref q_mo)] := hl
  refine lv_iconst (v := 0) hx hb d_M_keep_0 (by decide) ?_
  refine lv_istore_n (lv' := [(1, .int (0 : Int32)), (0, .ref q_mo)]) hx hb d_M_keep_1 rfl hl (by decide) rfl (fun ls hl => ?_)
  obtain ⟨u1, hcu1, hF⟩ := kc_bnd hF
  have hJu1_105 : ∀ (H : Heap) (locs : List Loc) (ls : Array Slot), va_P (dC, dI) vwCl [(q_mo, .inr (5, [.int mref, .int mw, .int mh, .int mst, .int mbd, .ref q_msa, .int mtb, .ref q_mbi, .ref q_mcx, .ref q_mpa, .int mps, .ref q_mle, .ref q_mdi, .int mtr, .ref q_mrd, .int misr, .int mplc, .int mlak, .int mpl, .int mpass, .int mraw, .ref q_msz, .ref q_mbe, .ref q_mfa, .ref q_mse, .ref q_mrf, .ref q_mlo, .ref q_mos, .ref q_mwb, .ref q_mol, .ref q_mrv, .ref q_mrl])), (q_msz, .inl (k_msz, n_msz, .inl msizs)), (q_mbe, .inl (k_mbe, n_mbe, .inl mbels)), (q_mlo, .inl (k_mlo, n_mlo, .inl mlows)), (q_mos, .inl (k_mos, n_mos, .inl moszs)), (q_mwb, .inl (k_mwb, n_mwb, .inl mwbls)), (q_mol, .inl (k_mol, n_mol, .inl molws)), (q_mrv, .inl (k_mrv, n_mrv, .inl u1.2.1)), (q_mrl, .inl (k_mrl, n_mrl, .inl u1.2.2))] H → va_D A [(q_mo, .inr (5, [.int mref, .int mw, .int mh, .int mst, .int mbd, .ref q_msa, .int mtb, .ref q_mbi, .ref q_mcx, .ref q_mpa, .int mps, .ref q_mle, .ref q_mdi, .int mtr, .ref q_mrd, .int misr, .int mplc, .int mlak, .int mpl, .int mpass, .int mraw, .ref q_msz, .ref q_mbe, .ref q_mfa, .ref q_mse, .ref q_mrf, .ref q_mlo, .ref q_mos, .ref q_mwb, .ref q_mol, .ref q_mrv, .ref q_mrl])), (q_msz, .inl (k_msz, n_msz, .inl msizs)), (q_mbe, .inl (k_mbe, n_mbe, .inl mbels)), (q_mlo, .inl (k_mlo, n_mlo, .inl mlows)), (q_mos, .inl (k_mos, n_mos, .inl moszs)), (q_mwb, .inl (k_mwb, n_mwb, .inl mwbls)), (q_mol, .inl (k_mol, n_mol, .inl molws)), (q_mrv, .inl (k_mrv, n_mrv, .inl u1.2.1)), (q_mrl, .inl (k_mrl, n_mrl, .inl u1.2.2))] → va_S A s.heap H locs → lv_has ls 4 [(1, .int u1.1), (0, .ref q_mo)] → W p l e rm_M_keep s m args below meth c H locs 0 0 Q (F0 m 105 ls []) := by
    intro H locs ls hP hD hS hl
    obtain rfl := Option.some.inj hF
    exact ku_vret hx hb hr hlocks hQ (hP.sub [0, 1, 2, 3, 4, 5, 6, 7, 8] rfl) (hD.sub [0, 1, 2, 3, 4, 5, 6, 7, 8] (by decide) rfl) hS d_M_keep_105
  have hIu1 : ∀ (N : Nat) (v2_1 : Int32) (mrvas_2 : (Nat → Int32)) (mrlos_2 : (Nat → Int32)), f_M_keep_L2 mlak msizs mbels mlows moszs mwbls molws n_msz n_mbe n_mlo n_mos n_mwb n_mol n_mrv n_mrl N v2_1 mrvas_2 mrlos_2 = some u1 → ∀ (H : Heap) (locs : List Loc) (ls : Array Slot), va_P (dC, dI) vwCl [(q_mo, .inr (5, [.int mref, .int mw, .int mh, .int mst, .int mbd, .ref q_msa, .int mtb, .ref q_mbi, .ref q_mcx, .ref q_mpa, .int mps, .ref q_mle, .ref q_mdi, .int mtr, .ref q_mrd, .int misr, .int mplc, .int mlak, .int mpl, .int mpass, .int mraw, .ref q_msz, .ref q_mbe, .ref q_mfa, .ref q_mse, .ref q_mrf, .ref q_mlo, .ref q_mos, .ref q_mwb, .ref q_mol, .ref q_mrv, .ref q_mrl])), (q_msz, .inl (k_msz, n_msz, .inl msizs)), (q_mbe, .inl (k_mbe, n_mbe, .inl mbels)), (q_mlo, .inl (k_mlo, n_mlo, .inl mlows)), (q_mos, .inl (k_mos, n_mos, .inl moszs)), (q_mwb, .inl (k_mwb, n_mwb, .inl mwbls)), (q_mol, .inl (k_mol, n_mol, .inl molws)), (q_mrv, .inl (k_mrv, n_mrv, .inl mrvas_2)), (q_mrl, .inl (k_mrl, n_mrl, .inl mrlos_2))] H → va_D A [(q_mo, .inr (5, [.int mref, .int mw, .int mh, .int mst, .int mbd, .ref q_msa, .int mtb, .ref q_mbi, .ref q_mcx, .ref q_mpa, .int mps, .ref q_mle, .ref q_mdi, .int mtr, .ref q_mrd, .int misr, .int mplc, .int mlak, .int mpl, .int mpass, .int mraw, .ref q_msz, .ref q_mbe, .ref q_mfa, .ref q_mse, .ref q_mrf, .ref q_mlo, .ref q_mos, .ref q_mwb, .ref q_mol, .ref q_mrv, .ref q_mrl])), (q_msz, .inl (k_msz, n_msz, .inl msizs)), (q_mbe, .inl (k_mbe, n_mbe, .inl mbels)), (q_mlo, .inl (k_mlo, n_mlo, .inl mlows)), (q_mos, .inl (k_mos, n_mos, .inl moszs)), (q_mwb, .inl (k_mwb, n_mwb, .inl mwbls)), (q_mol, .inl (k_mol, n_mol, .inl molws)), (q_mrv, .inl (k_mrv, n_mrv, .inl mrvas_2)), (q_mrl, .inl (k_mrl, n_mrl, .inl mrlos_2))] → va_S A s.heap H locs → lv_has ls 4 [(1, .int v2_1), (0, .ref q_mo)] → W p l e rm_M_keep s m args below meth c H locs 0 0 Q (F0 m 2 ls []) := by
    intro N
    induction N with
    | zero => intro v2_1 mrvas_2 mrlos_2 hF; rw [f_M_keep_L2] at hF; cases hF
    | succ N ih =>
      intro v2_1 mrvas_2 mrlos_2 hF
      intro H locs ls hP hD hS hl
      rw [f_M_keep_L2] at hF
      refine lv_iload_n hx hb d_M_keep_2 rfl (lv_at hl 0 rfl) ?_
      refine lv_sipush (v := 256) hx hb d_M_keep_3 (by decide) ?_
      refine lv_icmp_ge (tgt := 105) hx hb d_M_keep_6 (by decide) (fun c2 => ?_) (fun c2 => ?_)
      · have hF := kc_pos c2 hF
        obtain rfl := Option.some.inj hF
        exact hJu1_105 _ _ _ hP hD hS (lv_sub hl [0, 1] rfl)
      have hF := kc_neg c2 hF
      refine lv_aload_n hx hb d_M_keep_9 rfl (lv_at hl 1 rfl) ?_
      refine va_get (D := (dC, dI)) (ci := 5) (v := .int mlak) (C := R_M) (T := T_M) (N := 32) hx hb hts ki_M hown hK hP 0 rfl rfl 17 (by decide) (hts _ kw_3_150) (fun _ h9 => h9) rfl d_M_keep_10 ?_
      obtain ⟨u4, hcu4, hF⟩ := kc_bnd hF
      have hJu4 : ∀ (H : Heap) (locs : List Loc) (ls : Array Slot), va_P (dC, dI) vwCl [(q_mo, .inr (5, [.int mref, .int mw, .int mh, .int mst, .int mbd, .ref q_msa, .int mtb, .ref q_mbi, .ref q_mcx, .ref q_mpa, .int mps, .ref q_mle, .ref q_mdi, .int mtr, .ref q_mrd, .int misr, .int mplc, .int mlak, .int mpl, .int mpass, .int mraw, .ref q_msz, .ref q_mbe, .ref q_mfa, .ref q_mse, .ref q_mrf, .ref q_mlo, .ref q_mos, .ref q_mwb, .ref q_mol, .ref q_mrv, .ref q_mrl])), (q_msz, .inl (k_msz, n_msz, .inl msizs)), (q_mbe, .inl (k_mbe, n_mbe, .inl mbels)), (q_mlo, .inl (k_mlo, n_mlo, .inl mlows)), (q_mos, .inl (k_mos, n_mos, .inl moszs)), (q_mwb, .inl (k_mwb, n_mwb, .inl mwbls)), (q_mol, .inl (k_mol, n_mol, .inl molws)), (q_mrv, .inl (k_mrv, n_mrv, .inl mrvas_2)), (q_mrl, .inl (k_mrl, n_mrl, .inl mrlos_2))] H → va_D A [(q_mo, .inr (5, [.int mref, .int mw, .int mh, .int mst, .int mbd, .ref q_msa, .int mtb, .ref q_mbi, .ref q_mcx, .ref q_mpa, .int mps, .ref q_mle, .ref q_mdi, .int mtr, .ref q_mrd, .int misr, .int mplc, .int mlak, .int mpl, .int mpass, .int mraw, .ref q_msz, .ref q_mbe, .ref q_mfa, .ref q_mse, .ref q_mrf, .ref q_mlo, .ref q_mos, .ref q_mwb, .ref q_mol, .ref q_mrv, .ref q_mrl])), (q_msz, .inl (k_msz, n_msz, .inl msizs)), (q_mbe, .inl (k_mbe, n_mbe, .inl mbels)), (q_mlo, .inl (k_mlo, n_mlo, .inl mlows)), (q_mos, .inl (k_mos, n_mos, .inl moszs)), (q_mwb, .inl (k_mwb, n_mwb, .inl mwbls)), (q_mol, .inl (k_mol, n_mol, .inl molws)), (q_mrv, .inl (k_mrv, n_mrv, .inl mrvas_2)), (q_mrl, .inl (k_mrl, n_mrl, .inl mrlos_2))] → va_S A s.heap H locs → lv_has ls 4 [(1, .int v2_1), (0, .ref q_mo)] → W p l e rm_M_keep s m args below meth c H locs 0 0 Q (F0 m 31 ls [.int u4]) := by
        intro H locs ls hP hD hS hl
        refine lv_istore_n (lv' := [(2, .int u4), (1, .int v2_1), (0, .ref q_mo)]) hx hb d_M_keep_31 rfl hl (by decide) rfl (fun ls hl => ?_)
        refine lv_aload_n hx hb d_M_keep_32 rfl (lv_at hl 2 rfl) ?_
        refine va_get (D := (dC, dI)) (ci := 5) (v := .int mlak) (C := R_M) (T := T_M) (N := 32) hx hb hts ki_M hown hK hP 0 rfl rfl 17 (by decide) (hts _ kw_3_150) (fun _ h9 => h9) rfl d_M_keep_33 ?_
        obtain ⟨u6, hcu6, hF⟩ := kc_bnd hF
        have hJu6 : ∀ (H : Heap) (locs : List Loc) (ls : Array Slot), va_P (dC, dI) vwCl [(q_mo, .inr (5, [.int mref, .int mw, .int mh, .int mst, .int mbd, .ref q_msa, .int mtb, .ref q_mbi, .ref q_mcx, .ref q_mpa, .int mps, .ref q_mle, .ref q_mdi, .int mtr, .ref q_mrd, .int misr, .int mplc, .int mlak, .int mpl, .int mpass, .int mraw, .ref q_msz, .ref q_mbe, .ref q_mfa, .ref q_mse, .ref q_mrf, .ref q_mlo, .ref q_mos, .ref q_mwb, .ref q_mol, .ref q_mrv, .ref q_mrl])), (q_msz, .inl (k_msz, n_msz, .inl msizs)), (q_mbe, .inl (k_mbe, n_mbe, .inl mbels)), (q_mlo, .inl (k_mlo, n_mlo, .inl mlows)), (q_mos, .inl (k_mos, n_mos, .inl moszs)), (q_mwb, .inl (k_mwb, n_mwb, .inl mwbls)), (q_mol, .inl (k_mol, n_mol, .inl molws)), (q_mrv, .inl (k_mrv, n_mrv, .inl mrvas_2)), (q_mrl, .inl (k_mrl, n_mrl, .inl mrlos_2))] H → va_D A [(q_mo, .inr (5, [.int mref, .int mw, .int mh, .int mst, .int mbd, .ref q_msa, .int mtb, .ref q_mbi, .ref q_mcx, .ref q_mpa, .int mps, .ref q_mle, .ref q_mdi, .int mtr, .ref q_mrd, .int misr, .int mplc, .int mlak, .int mpl, .int mpass, .int mraw, .ref q_msz, .ref q_mbe, .ref q_mfa, .ref q_mse, .ref q_mrf, .ref q_mlo, .ref q_mos, .ref q_mwb, .ref q_mol, .ref q_mrv, .ref q_mrl])), (q_msz, .inl (k_msz, n_msz, .inl msizs)), (q_mbe, .inl (k_mbe, n_mbe, .inl mbels)), (q_mlo, .inl (k_mlo, n_mlo, .inl mlows)), (q_mos, .inl (k_mos, n_mos, .inl moszs)), (q_mwb, .inl (k_mwb, n_mwb, .inl mwbls)), (q_mol, .inl (k_mol, n_mol, .inl molws)), (q_mrv, .inl (k_mrv, n_mrv, .inl mrvas_2)), (q_mrl, .inl (k_mrl, n_mrl, .inl mrlos_2))] → va_S A s.heap H locs → lv_has ls 4 [(2, .int u4), (1, .int v2_1), (0, .ref q_mo)] → W p l e rm_M_keep s m args below meth c H locs 0 0 Q (F0 m 54 ls [.int u6]) := by
          intro H locs ls hP hD hS hl
          refine lv_istore_n (lv' := [(3, .int u6), (2, .int u4), (1, .int v2_1), (0, .ref q_mo)]) hx hb d_M_keep_54 rfl hl (by decide) rfl (fun ls hl => ?_)
          refine lv_aload_n hx hb d_M_keep_55 rfl (lv_at hl 3 rfl) ?_
          refine va_get (D := (dC, dI)) (ci := 5) (v := .ref q_mrv) (C := R_M) (T := T_M) (N := 32) hx hb hts ki_M hown hK hP 0 rfl rfl 30 (by decide) (hts _ kw_3_163) (fun _ h9 => h9) rfl d_M_keep_56 ?_
          refine lv_iload_n hx hb d_M_keep_59 rfl (lv_at hl 2 rfl) ?_
          refine lv_iload_n hx hb d_M_keep_60 rfl (lv_at hl 0 rfl) ?_
          obtain ⟨u8, hcu8, hF⟩ := kc_bnd hF
          have hJu8 : ∀ (H : Heap) (locs : List Loc) (ls : Array Slot), va_P (dC, dI) vwCl [(q_mo, .inr (5, [.int mref, .int mw, .int mh, .int mst, .int mbd, .ref q_msa, .int mtb, .ref q_mbi, .ref q_mcx, .ref q_mpa, .int mps, .ref q_mle, .ref q_mdi, .int mtr, .ref q_mrd, .int misr, .int mplc, .int mlak, .int mpl, .int mpass, .int mraw, .ref q_msz, .ref q_mbe, .ref q_mfa, .ref q_mse, .ref q_mrf, .ref q_mlo, .ref q_mos, .ref q_mwb, .ref q_mol, .ref q_mrv, .ref q_mrl])), (q_msz, .inl (k_msz, n_msz, .inl msizs)), (q_mbe, .inl (k_mbe, n_mbe, .inl mbels)), (q_mlo, .inl (k_mlo, n_mlo, .inl mlows)), (q_mos, .inl (k_mos, n_mos, .inl moszs)), (q_mwb, .inl (k_mwb, n_mwb, .inl mwbls)), (q_mol, .inl (k_mol, n_mol, .inl molws)), (q_mrv, .inl (k_mrv, n_mrv, .inl mrvas_2)), (q_mrl, .inl (k_mrl, n_mrl, .inl mrlos_2))] H → va_D A [(q_mo, .inr (5, [.int mref, .int mw, .int mh, .int mst, .int mbd, .ref q_msa, .int mtb, .ref q_mbi, .ref q_mcx, .ref q_mpa, .int mps, .ref q_mle, .ref q_mdi, .int mtr, .ref q_mrd, .int misr, .int mplc, .int mlak, .int mpl, .int mpass, .int mraw, .ref q_msz, .ref q_mbe, .ref q_mfa, .ref q_mse, .ref q_mrf, .ref q_mlo, .ref q_mos, .ref q_mwb, .ref q_mol, .ref q_mrv, .ref q_mrl])), (q_msz, .inl (k_msz, n_msz, .inl msizs)), (q_mbe, .inl (k_mbe, n_mbe, .inl mbels)), (q_mlo, .inl (k_mlo, n_mlo, .inl mlows)), (q_mos, .inl (k_mos, n_mos, .inl moszs)), (q_mwb, .inl (k_mwb, n_mwb, .inl mwbls)), (q_mol, .inl (k_mol, n_mol, .inl molws)), (q_mrv, .inl (k_mrv, n_mrv, .inl mrvas_2)), (q_mrl, .inl (k_mrl, n_mrl, .inl mrlos_2))] → va_S A s.heap H locs → lv_has ls 4 [(3, .int u6), (2, .int u4), (1, .int v2_1), (0, .ref q_mo)] → W p l e rm_M_keep s m args below meth c H locs 0 0 Q (F0 m 70 ls [.int u8, .int v2_1, .ref q_mrv]) := by
            intro H locs ls hP hD hS hl
            obtain ⟨h9, hF⟩ := kc_no hF
            refine va_iast hx hb hK hP hD hS 7 6 rfl rfl h9 d_M_keep_70 (fun H locs hP hD hS => ?_)
            have hP : va_P (dC, dI) vwCl [(q_mo, .inr (5, [.int mref, .int mw, .int mh, .int mst, .int mbd, .ref q_msa, .int mtb, .ref q_mbi, .ref q_mcx, .ref q_mpa, .int mps, .ref q_mle, .ref q_mdi, .int mtr, .ref q_mrd, .int misr, .int mplc, .int mlak, .int mpl, .int mpass, .int mraw, .ref q_msz, .ref q_mbe, .ref q_mfa, .ref q_mse, .ref q_mrf, .ref q_mlo, .ref q_mos, .ref q_mwb, .ref q_mol, .ref q_mrv, .ref q_mrl])), (q_msz, .inl (k_msz, n_msz, .inl msizs)), (q_mbe, .inl (k_mbe, n_mbe, .inl mbels)), (q_mlo, .inl (k_mlo, n_mlo, .inl mlows)), (q_mos, .inl (k_mos, n_mos, .inl moszs)), (q_mwb, .inl (k_mwb, n_mwb, .inl mwbls)), (q_mol, .inl (k_mol, n_mol, .inl molws)), (q_mrv, .inl (k_mrv, n_mrv, .inl (upd mrvas_2 v2_1.toNatClampNeg u8))), (q_mrl, .inl (k_mrl, n_mrl, .inl mrlos_2))] H := hP
            have hD : va_D A [(q_mo, .inr (5, [.int mref, .int mw, .int mh, .int mst, .int mbd, .ref q_msa, .int mtb, .ref q_mbi, .ref q_mcx, .ref q_mpa, .int mps, .ref q_mle, .ref q_mdi, .int mtr, .ref q_mrd, .int misr, .int mplc, .int mlak, .int mpl, .int mpass, .int mraw, .ref q_msz, .ref q_mbe, .ref q_mfa, .ref q_mse, .ref q_mrf, .ref q_mlo, .ref q_mos, .ref q_mwb, .ref q_mol, .ref q_mrv, .ref q_mrl])), (q_msz, .inl (k_msz, n_msz, .inl msizs)), (q_mbe, .inl (k_mbe, n_mbe, .inl mbels)), (q_mlo, .inl (k_mlo, n_mlo, .inl mlows)), (q_mos, .inl (k_mos, n_mos, .inl moszs)), (q_mwb, .inl (k_mwb, n_mwb, .inl mwbls)), (q_mol, .inl (k_mol, n_mol, .inl molws)), (q_mrv, .inl (k_mrv, n_mrv, .inl (upd mrvas_2 v2_1.toNatClampNeg u8))), (q_mrl, .inl (k_mrl, n_mrl, .inl mrlos_2))] := hD
            refine lv_aload_n hx hb d_M_keep_71 rfl (lv_at hl 3 rfl) ?_
            refine va_get (D := (dC, dI)) (ci := 5) (v := .ref q_mrl) (C := R_M) (T := T_M) (N := 32) hx hb hts ki_M hown hK hP 0 rfl rfl 31 (by decide) (hts _ kw_3_164) (fun _ h9 => h9) rfl d_M_keep_72 ?_
            refine lv_iload_n hx hb d_M_keep_75 rfl (lv_at hl 2 rfl) ?_
            refine lv_aload_n hx hb d_M_keep_76 rfl (lv_at hl 3 rfl) ?_
            refine va_get (D := (dC, dI)) (ci := 5) (v := .int mlak) (C := R_M) (T := T_M) (N := 32) hx hb hts ki_M hown hK hP 0 rfl rfl 17 (by decide) (hts _ kw_3_150) (fun _ h9 => h9) rfl d_M_keep_77 ?_
            obtain ⟨u11, hcu11, hF⟩ := kc_bnd hF
            have hJu11 : ∀ (H : Heap) (locs : List Loc) (ls : Array Slot), va_P (dC, dI) vwCl [(q_mo, .inr (5, [.int mref, .int mw, .int mh, .int mst, .int mbd, .ref q_msa, .int mtb, .ref q_mbi, .ref q_mcx, .ref q_mpa, .int mps, .ref q_mle, .ref q_mdi, .int mtr, .ref q_mrd, .int misr, .int mplc, .int mlak, .int mpl, .int mpass, .int mraw, .ref q_msz, .ref q_mbe, .ref q_mfa, .ref q_mse, .ref q_mrf, .ref q_mlo, .ref q_mos, .ref q_mwb, .ref q_mol, .ref q_mrv, .ref q_mrl])), (q_msz, .inl (k_msz, n_msz, .inl msizs)), (q_mbe, .inl (k_mbe, n_mbe, .inl mbels)), (q_mlo, .inl (k_mlo, n_mlo, .inl mlows)), (q_mos, .inl (k_mos, n_mos, .inl moszs)), (q_mwb, .inl (k_mwb, n_mwb, .inl mwbls)), (q_mol, .inl (k_mol, n_mol, .inl molws)), (q_mrv, .inl (k_mrv, n_mrv, .inl (upd mrvas_2 v2_1.toNatClampNeg u8))), (q_mrl, .inl (k_mrl, n_mrl, .inl mrlos_2))] H → va_D A [(q_mo, .inr (5, [.int mref, .int mw, .int mh, .int mst, .int mbd, .ref q_msa, .int mtb, .ref q_mbi, .ref q_mcx, .ref q_mpa, .int mps, .ref q_mle, .ref q_mdi, .int mtr, .ref q_mrd, .int misr, .int mplc, .int mlak, .int mpl, .int mpass, .int mraw, .ref q_msz, .ref q_mbe, .ref q_mfa, .ref q_mse, .ref q_mrf, .ref q_mlo, .ref q_mos, .ref q_mwb, .ref q_mol, .ref q_mrv, .ref q_mrl])), (q_msz, .inl (k_msz, n_msz, .inl msizs)), (q_mbe, .inl (k_mbe, n_mbe, .inl mbels)), (q_mlo, .inl (k_mlo, n_mlo, .inl mlows)), (q_mos, .inl (k_mos, n_mos, .inl moszs)), (q_mwb, .inl (k_mwb, n_mwb, .inl mwbls)), (q_mol, .inl (k_mol, n_mol, .inl molws)), (q_mrv, .inl (k_mrv, n_mrv, .inl (upd mrvas_2 v2_1.toNatClampNeg u8))), (q_mrl, .inl (k_mrl, n_mrl, .inl mrlos_2))] → va_S A s.heap H locs → lv_has ls 4 [(3, .int u6), (2, .int u4), (1, .int v2_1), (0, .ref q_mo)] → W p l e rm_M_keep s m args below meth c H locs 0 0 Q (F0 m 98 ls [.int u11, .int v2_1, .ref q_mrl]) := by
              intro H locs ls hP hD hS hl
              obtain ⟨h12, hF⟩ := kc_no hF
              refine va_iast hx hb hK hP hD hS 8 7 rfl rfl h12 d_M_keep_98 (fun H locs hP hD hS => ?_)
              have hP : va_P (dC, dI) vwCl [(q_mo, .inr (5, [.int mref, .int mw, .int mh, .int mst, .int mbd, .ref q_msa, .int mtb, .ref q_mbi, .ref q_mcx, .ref q_mpa, .int mps, .ref q_mle, .ref q_mdi, .int mtr, .ref q_mrd, .int misr, .int mplc, .int mlak, .int mpl, .int mpass, .int mraw, .ref q_msz, .ref q_mbe, .ref q_mfa, .ref q_mse, .ref q_mrf, .ref q_mlo, .ref q_mos, .ref q_mwb, .ref q_mol, .ref q_mrv, .ref q_mrl])), (q_msz, .inl (k_msz, n_msz, .inl msizs)), (q_mbe, .inl (k_mbe, n_mbe, .inl mbels)), (q_mlo, .inl (k_mlo, n_mlo, .inl mlows)), (q_mos, .inl (k_mos, n_mos, .inl moszs)), (q_mwb, .inl (k_mwb, n_mwb, .inl mwbls)), (q_mol, .inl (k_mol, n_mol, .inl molws)), (q_mrv, .inl (k_mrv, n_mrv, .inl (upd mrvas_2 v2_1.toNatClampNeg u8))), (q_mrl, .inl (k_mrl, n_mrl, .inl (upd mrlos_2 v2_1.toNatClampNeg u11)))] H := hP
              have hD : va_D A [(q_mo, .inr (5, [.int mref, .int mw, .int mh, .int mst, .int mbd, .ref q_msa, .int mtb, .ref q_mbi, .ref q_mcx, .ref q_mpa, .int mps, .ref q_mle, .ref q_mdi, .int mtr, .ref q_mrd, .int misr, .int mplc, .int mlak, .int mpl, .int mpass, .int mraw, .ref q_msz, .ref q_mbe, .ref q_mfa, .ref q_mse, .ref q_mrf, .ref q_mlo, .ref q_mos, .ref q_mwb, .ref q_mol, .ref q_mrv, .ref q_mrl])), (q_msz, .inl (k_msz, n_msz, .inl msizs)), (q_mbe, .inl (k_mbe, n_mbe, .inl mbels)), (q_mlo, .inl (k_mlo, n_mlo, .inl mlows)), (q_mos, .inl (k_mos, n_mos, .inl moszs)), (q_mwb, .inl (k_mwb, n_mwb, .inl mwbls)), (q_mol, .inl (k_mol, n_mol, .inl molws)), (q_mrv, .inl (k_mrv, n_mrv, .inl (upd mrvas_2 v2_1.toNatClampNeg u8))), (q_mrl, .inl (k_mrl, n_mrl, .inl (upd mrlos_2 v2_1.toNatClampNeg u11)))] := hD
              refine lv_iinc (v := (v2_1 + 1)) (lv' := [(1, .int (v2_1 + 1)), (3, .int u6), (2, .int u4), (0, .ref q_mo)]) hx hb d_M_keep_99 hl (k := 2) rfl rfl (by decide) rfl (fun ls hl => ?_)
              refine lv_goto (tgt := 2) hx hb d_M_keep_102 (by decide) ?_
              exact ih _ _ _ hF _ _ _ hP hD hS (lv_sub hl [0, 3] rfl)
            clear hF; have hF := hcu11; clear hcu11
            refine lv_if_eq (tgt := 92) hx hb d_M_keep_80 (by decide) (fun c10 => ?_) (fun c10 => ?_)
            · have hF := kc_pos c10 hF
              refine lv_aload_n hx hb d_M_keep_92 rfl (lv_at hl 3 rfl) ?_
              refine va_get (D := (dC, dI)) (ci := 5) (v := .ref q_mlo) (C := R_M) (T := T_M) (N := 32) hx hb hts ki_M hown hK hP 0 rfl rfl 26 (by decide) (hts _ kw_3_159) (fun _ h9 => h9) rfl d_M_keep_93 ?_
              refine lv_iload_n hx hb d_M_keep_96 rfl (lv_at hl 2 rfl) ?_
              obtain ⟨h13, hF⟩ := kc_no hF
              refine va_iald hx hb hK hP 3 2 rfl rfl h13 d_M_keep_97 ?_
              obtain rfl := Option.some.inj hF
              exact hJu11 _ _ _ hP hD hS (lv_sub hl [0, 1, 2, 3] rfl)
            have hF := kc_neg c10 hF
            refine lv_aload_n hx hb d_M_keep_83 rfl (lv_at hl 3 rfl) ?_
            refine va_get (D := (dC, dI)) (ci := 5) (v := .ref q_mol) (C := R_M) (T := T_M) (N := 32) hx hb hts ki_M hown hK hP 0 rfl rfl 29 (by decide) (hts _ kw_3_162) (fun _ h9 => h9) rfl d_M_keep_84 ?_
            refine lv_iload_n hx hb d_M_keep_87 rfl (lv_at hl 2 rfl) ?_
            obtain ⟨h14, hF⟩ := kc_no hF
            refine va_iald hx hb hK hP 6 5 rfl rfl h14 d_M_keep_88 ?_
            refine lv_goto (tgt := 98) hx hb d_M_keep_89 (by decide) ?_
            obtain rfl := Option.some.inj hF
            exact hJu11 _ _ _ hP hD hS (lv_sub hl [0, 1, 2, 3] rfl)
          clear hF; have hF := hcu8; clear hcu8
          refine lv_if_eq (tgt := 69) hx hb d_M_keep_61 (by decide) (fun c7 => ?_) (fun c7 => ?_)
          · have hF := kc_pos c7 hF
            refine lv_iload_n hx hb d_M_keep_69 rfl (lv_at hl 1 rfl) ?_
            obtain rfl := Option.some.inj hF
            exact hJu8 _ _ _ hP hD hS (lv_sub hl [0, 1, 2, 3] rfl)
          have hF := kc_neg c7 hF
          refine lv_iload_n hx hb d_M_keep_64 rfl (lv_at hl 1 rfl) ?_
          refine lv_ineg hx hb d_M_keep_65 ?_
          refine lv_goto (tgt := 70) hx hb d_M_keep_66 (by decide) ?_
          obtain rfl := Option.some.inj hF
          exact hJu8 _ _ _ hP hD hS (lv_sub hl [0, 1, 2, 3] rfl)
        clear hF; have hF := hcu6; clear hcu6
        refine lv_if_eq (tgt := 48) hx hb d_M_keep_36 (by decide) (fun c5 => ?_) (fun c5 => ?_)
        · have hF := kc_pos c5 hF
          refine lv_aload_n hx hb d_M_keep_48 rfl (lv_at hl 2 rfl) ?_
          refine va_get (D := (dC, dI)) (ci := 5) (v := .ref q_mbe) (C := R_M) (T := T_M) (N := 32) hx hb hts ki_M hown hK hP 0 rfl rfl 22 (by decide) (hts _ kw_3_155) (fun _ h9 => h9) rfl d_M_keep_49 ?_
          refine lv_iload_n hx hb d_M_keep_52 rfl (lv_at hl 1 rfl) ?_
          obtain ⟨h15, hF⟩ := kc_no hF
          refine va_zald hx hb hK hP 2 1 rfl rfl h15 d_M_keep_53 ?_
          obtain rfl := Option.some.inj hF
          exact hJu6 _ _ _ hP hD hS (lv_sub hl [0, 1, 2] rfl)
        have hF := kc_neg c5 hF
        refine lv_aload_n hx hb d_M_keep_39 rfl (lv_at hl 2 rfl) ?_
        refine va_get (D := (dC, dI)) (ci := 5) (v := .ref q_mwb) (C := R_M) (T := T_M) (N := 32) hx hb hts ki_M hown hK hP 0 rfl rfl 28 (by decide) (hts _ kw_3_161) (fun _ h9 => h9) rfl d_M_keep_40 ?_
        refine lv_iload_n hx hb d_M_keep_43 rfl (lv_at hl 1 rfl) ?_
        obtain ⟨h16, hF⟩ := kc_no hF
        refine va_zald hx hb hK hP 5 4 rfl rfl h16 d_M_keep_44 ?_
        refine lv_goto (tgt := 54) hx hb d_M_keep_45 (by decide) ?_
        obtain rfl := Option.some.inj hF
        exact hJu6 _ _ _ hP hD hS (lv_sub hl [0, 1, 2] rfl)
      clear hF; have hF := hcu4; clear hcu4
      refine lv_if_eq (tgt := 25) hx hb d_M_keep_13 (by decide) (fun c3 => ?_) (fun c3 => ?_)
      · have hF := kc_pos c3 hF
        refine lv_aload_n hx hb d_M_keep_25 rfl (lv_at hl 1 rfl) ?_
        refine va_get (D := (dC, dI)) (ci := 5) (v := .ref q_msz) (C := R_M) (T := T_M) (N := 32) hx hb hts ki_M hown hK hP 0 rfl rfl 21 (by decide) (hts _ kw_3_154) (fun _ h9 => h9) rfl d_M_keep_26 ?_
        refine lv_iload_n hx hb d_M_keep_29 rfl (lv_at hl 0 rfl) ?_
        obtain ⟨h17, hF⟩ := kc_no hF
        refine va_iald hx hb hK hP 1 0 rfl rfl h17 d_M_keep_30 ?_
        obtain rfl := Option.some.inj hF
        exact hJu4 _ _ _ hP hD hS (lv_sub hl [0, 1] rfl)
      have hF := kc_neg c3 hF
      refine lv_aload_n hx hb d_M_keep_16 rfl (lv_at hl 1 rfl) ?_
      refine va_get (D := (dC, dI)) (ci := 5) (v := .ref q_mos) (C := R_M) (T := T_M) (N := 32) hx hb hts ki_M hown hK hP 0 rfl rfl 27 (by decide) (hts _ kw_3_160) (fun _ h9 => h9) rfl d_M_keep_17 ?_
      refine lv_iload_n hx hb d_M_keep_20 rfl (lv_at hl 0 rfl) ?_
      obtain ⟨h18, hF⟩ := kc_no hF
      refine va_iald hx hb hK hP 4 3 rfl rfl h18 d_M_keep_21 ?_
      refine lv_goto (tgt := 31) hx hb d_M_keep_22 (by decide) ?_
      obtain rfl := Option.some.inj hF
      exact hJu4 _ _ _ hP hD hS (lv_sub hl [0, 1] rfl)
  exact hIu1 _ _ _ _ hcu1 _ _ _ hP hD hS (lv_sub hl [0, 1] rfl)
abbrev rm_M_decode : Room := { frames := 9, cells := 0, slots := 0, locals := 214 }
set_option maxHeartbeats 4000000 in
set_option maxRecDepth 100000 in
theorem m_M_decode (l : Launch) (dC : Nat → ClassId) (dI : Nat → Nat → Nat) (q_mo q_msa q_mbi q_mcx q_mpa q_mle q_mdi q_mrd q_msz q_mbe q_mfa q_mse q_mrf q_mlo q_mos q_mwb q_mol q_mrv q_mrl : Nat) (k_msa : ClassId) (n_msa : Nat) (k_mbi : ClassId) (n_mbi : Nat) (k_mcx : ClassId) (n_mcx : Nat) (k_mpa : ClassId) (n_mpa : Nat) (k_mrd : ClassId) (n_mrd : Nat) (k_msz : ClassId) (n_msz : Nat) (k_mbe : ClassId) (n_mbe : Nat) (k_mfa : ClassId) (n_mfa : Nat) (k_mse : ClassId) (n_mse : Nat) (k_mrf : ClassId) (n_mrf : Nat) (k_mlo : ClassId) (n_mlo : Nat) (k_mos : ClassId) (n_mos : Nat) (k_mwb : ClassId) (n_mwb : Nat) (k_mol : ClassId) (n_mol : Nat) (k_mrv : ClassId) (n_mrv : Nat) (k_mrl : ClassId) (n_mrl : Nat) (mref : Int32) (mw : Int32) (mh : Int32) (mst : Int32) (mbd : Int32) (mtb : Int32) (mps : Int32) (mtr : Int32) (misr : Int32) (mplc : Int32) (mlak : Int32) (mpl : Int32) (mpass : Int32) (mraw : Int32) (msam : (Nat → Int32)) (mbits : (Nat → Int32)) (mctxs : (Nat → Int32)) (mpaso : (Nat → Int32)) (mreads : (Nat → Int32)) (msizs : (Nat → Int32)) (mbels : (Nat → Int32)) (mfnds : (Nat → Int32)) (mseen : (Nat → Int32)) (mrfnd : (Nat → Int32)) (mlows : (Nat → Int32)) (moszs : (Nat → Int32)) (mwbls : (Nat → Int32)) (molws : (Nat → Int32)) (mrvas : (Nat → Int32)) (mrlos : (Nat → Int32)) (a0 : Int32) (a1 : Int32) (u : Int32 × Int32 × Int32 × Int32 × Int32 × Int32 × Int32 × Int32 × Int32 × (Nat → Int32) × (Nat → Int32) × (Nat → Int32) × (Nat → Int32) × (Nat → Int32) × (Nat → Int32) × (Nat → Int32) × (Nat → Int32) × (Nat → Int32) × (Nat → Int32) × (Nat → Int32) × (Nat → Int32) × (Nat → Int32) × (Nat → Int32)) (hF : f_M_decode mw mh mst mbd mtb mtr misr mplc mlak mpl mpass mraw msam mbits mctxs mpaso mreads msizs mbels mfnds mseen mrfnd mlows moszs mwbls molws mrvas mrlos n_msa n_mbi n_mcx n_mpa n_mrd n_msz n_mbe n_mfa n_mse n_mrf n_mlo n_mos n_mwb n_mol n_mrv n_mrl a0 a1 = some u) : ∀ sz : Nat, Met l y_M_decode (kws y_M_decode c_M_decode 6 (some .int)) rm_M_decode (kPre (dC, dI) [.ref q_mo, .int a0, .int a1] [(q_mo, .inr (5, [.int mref, .int mw, .int mh, .int mst, .int mbd, .ref q_msa, .int mtb, .ref q_mbi, .ref q_mcx, .ref q_mpa, .int mps, .ref q_mle, .ref q_mdi, .int mtr, .ref q_mrd, .int misr, .int mplc, .int mlak, .int mpl, .int mpass, .int mraw, .ref q_msz, .ref q_mbe, .ref q_mfa, .ref q_mse, .ref q_mrf, .ref q_mlo, .ref q_mos, .ref q_mwb, .ref q_mol, .ref q_mrv, .ref q_mrl])), (q_msa, .inl (k_msa, n_msa, .inl msam)), (q_mbi, .inl (k_mbi, n_mbi, .inl mbits)), (q_mcx, .inl (k_mcx, n_mcx, .inl mctxs)), (q_mpa, .inl (k_mpa, n_mpa, .inl mpaso)), (q_mrd, .inl (k_mrd, n_mrd, .inl mreads)), (q_msz, .inl (k_msz, n_msz, .inl msizs)), (q_mbe, .inl (k_mbe, n_mbe, .inl mbels)), (q_mfa, .inl (k_mfa, n_mfa, .inl mfnds)), (q_mse, .inl (k_mse, n_mse, .inl mseen)), (q_mrf, .inl (k_mrf, n_mrf, .inl mrfnd)), (q_mlo, .inl (k_mlo, n_mlo, .inl mlows)), (q_mos, .inl (k_mos, n_mos, .inl moszs)), (q_mwb, .inl (k_mwb, n_mwb, .inl mwbls)), (q_mol, .inl (k_mol, n_mol, .inl molws)), (q_mrv, .inl (k_mrv, n_mrv, .inl mrvas)), (q_mrl, .inl (k_mrl, n_mrl, .inl mrlos))] [(k_msa, .int), (k_mbi, .int), (k_mcx, .int), (k_mpa, .int), (k_mrd, .int), (k_msz, .int), (k_mbe, .boolean), (k_mfa, .int), (k_mse, .boolean), (k_mrf, .boolean), (k_mlo, .int), (k_mos, .int), (k_mwb, .boolean), (k_mol, .int), (k_mrv, .int), (k_mrl, .int)] sz) (kPost (dC, dI) (some (.int u.1)) [(q_mo, .inr (5, [.int u.2.1, .int mw, .int mh, .int mst, .int mbd, .ref q_msa, .int u.2.2.1, .ref q_mbi, .ref q_mcx, .ref q_mpa, .int mps, .ref q_mle, .ref q_mdi, .int mtr, .ref q_mrd, .int u.2.2.2.1, .int u.2.2.2.2.1, .int u.2.2.2.2.2.1, .int u.2.2.2.2.2.2.1, .int u.2.2.2.2.2.2.2.1, .int u.2.2.2.2.2.2.2.2.1, .ref q_msz, .ref q_mbe, .ref q_mfa, .ref q_mse, .ref q_mrf, .ref q_mlo, .ref q_mos, .ref q_mwb, .ref q_mol, .ref q_mrv, .ref q_mrl])), (q_msa, .inl (k_msa, n_msa, .inl msam)), (q_mbi, .inl (k_mbi, n_mbi, .inl u.2.2.2.2.2.2.2.2.2.1)), (q_mcx, .inl (k_mcx, n_mcx, .inl u.2.2.2.2.2.2.2.2.2.2.1)), (q_mpa, .inl (k_mpa, n_mpa, .inl u.2.2.2.2.2.2.2.2.2.2.2.1)), (q_mrd, .inl (k_mrd, n_mrd, .inl mreads)), (q_msz, .inl (k_msz, n_msz, .inl u.2.2.2.2.2.2.2.2.2.2.2.2.1)), (q_mbe, .inl (k_mbe, n_mbe, .inl u.2.2.2.2.2.2.2.2.2.2.2.2.2.1)), (q_mfa, .inl (k_mfa, n_mfa, .inl u.2.2.2.2.2.2.2.2.2.2.2.2.2.2.1)), (q_mse, .inl (k_mse, n_mse, .inl u.2.2.2.2.2.2.2.2.2.2.2.2.2.2.2.1)), (q_mrf, .inl (k_mrf, n_mrf, .inl u.2.2.2.2.2.2.2.2.2.2.2.2.2.2.2.2.1)), (q_mlo, .inl (k_mlo, n_mlo, .inl u.2.2.2.2.2.2.2.2.2.2.2.2.2.2.2.2.2.1)), (q_mos, .inl (k_mos, n_mos, .inl u.2.2.2.2.2.2.2.2.2.2.2.2.2.2.2.2.2.2.1)), (q_mwb, .inl (k_mwb, n_mwb, .inl u.2.2.2.2.2.2.2.2.2.2.2.2.2.2.2.2.2.2.2.1)), (q_mol, .inl (k_mol, n_mol, .inl u.2.2.2.2.2.2.2.2.2.2.2.2.2.2.2.2.2.2.2.2.1)), (q_mrv, .inl (k_mrv, n_mrv, .inl u.2.2.2.2.2.2.2.2.2.2.2.2.2.2.2.2.2.2.2.2.2.1)), (q_mrl, .inl (k_mrl, n_mrl, .inl u.2.2.2.2.2.2.2.2.2.2.2.2.2.2.2.2.2.2.2.2.2.2))] (va_A [(q_mo, .inr (5, [.int mref, .int mw, .int mh, .int mst, .int mbd, .ref q_msa, .int mtb, .ref q_mbi, .ref q_mcx, .ref q_mpa, .int mps, .ref q_mle, .ref q_mdi, .int mtr, .ref q_mrd, .int misr, .int mplc, .int mlak, .int mpl, .int mpass, .int mraw, .ref q_msz, .ref q_mbe, .ref q_mfa, .ref q_mse, .ref q_mrf, .ref q_mlo, .ref q_mos, .ref q_mwb, .ref q_mol, .ref q_mrv, .ref q_mrl])), (q_msa, .inl (k_msa, n_msa, .inl msam)), (q_mbi, .inl (k_mbi, n_mbi, .inl mbits)), (q_mcx, .inl (k_mcx, n_mcx, .inl mctxs)), (q_mpa, .inl (k_mpa, n_mpa, .inl mpaso)), (q_mrd, .inl (k_mrd, n_mrd, .inl mreads)), (q_msz, .inl (k_msz, n_msz, .inl msizs)), (q_mbe, .inl (k_mbe, n_mbe, .inl mbels)), (q_mfa, .inl (k_mfa, n_mfa, .inl mfnds)), (q_mse, .inl (k_mse, n_mse, .inl mseen)), (q_mrf, .inl (k_mrf, n_mrf, .inl mrfnd)), (q_mlo, .inl (k_mlo, n_mlo, .inl mlows)), (q_mos, .inl (k_mos, n_mos, .inl moszs)), (q_mwb, .inl (k_mwb, n_mwb, .inl mwbls)), (q_mol, .inl (k_mol, n_mol, .inl molws)), (q_mrv, .inl (k_mrv, n_mrv, .inl mrvas)), (q_mrl, .inl (k_mrl, n_mrl, .inl mrlos))] sz)) 0 0 (va_A [(q_mo, .inr (5, [.int mref, .int mw, .int mh, .int mst, .int mbd, .ref q_msa, .int mtb, .ref q_mbi, .ref q_mcx, .ref q_mpa, .int mps, .ref q_mle, .ref q_mdi, .int mtr, .ref q_mrd, .int misr, .int mplc, .int mlak, .int mpl, .int mpass, .int mraw, .ref q_msz, .ref q_mbe, .ref q_mfa, .ref q_mse, .ref q_mrf, .ref q_mlo, .ref q_mos, .ref q_mwb, .ref q_mol, .ref q_mrv, .ref q_mrl])), (q_msa, .inl (k_msa, n_msa, .inl msam)), (q_mbi, .inl (k_mbi, n_mbi, .inl mbits)), (q_mcx, .inl (k_mcx, n_mcx, .inl mctxs)), (q_mpa, .inl (k_mpa, n_mpa, .inl mpaso)), (q_mrd, .inl (k_mrd, n_mrd, .inl mreads)), (q_msz, .inl (k_msz, n_msz, .inl msizs)), (q_mbe, .inl (k_mbe, n_mbe, .inl mbels)), (q_mfa, .inl (k_mfa, n_mfa, .inl mfnds)), (q_mse, .inl (k_mse, n_mse, .inl mseen)), (q_mrf, .inl (k_mrf, n_mrf, .inl mrfnd)), (q_mlo, .inl (k_mlo, n_mlo, .inl mlows)), (q_mos, .inl (k_mos, n_mos, .inl moszs)), (q_mwb, .inl (k_mwb, n_mwb, .inl mwbls)), (q_mol, .inl (k_mol, n_mol, .inl molws)), (q_mrv, .inl (k_mrv, n_mrv, .inl mrvas)), (q_mrl, .inl (k_mrl, n_mrl, .inl mrlos))] sz) := by
  unfold f_M_decode at hF
  refine kU_of (cc := c_M_decode) (maxL := 6) (ret := (some .int)) (by decide) (Nat.le_of_ble_eq_true rfl) ?_
  intro p e s m args below meth c Q A hQ hfx hK hN hA H locs ls hP hD hS hl
  obtain ⟨hx, hb, hr, hml, hown, hts, hlocks⟩ := hfx
  have hown : s.vm.findClass R_M = some m.cls := hown
  have hl : lv_has ls 6 [(0, .ref q_mo), (1, .int a0), (2, .int a1)] := hl
  refine lv_aload_n hx hb d_M_decode_0 rfl (lv_at hl 0 rfl) ?_
  refine lv_iload_n hx hb d_M_decode_1 rfl (lv_at hl 1 rfl) ?_
  obtain ⟨u2, hcu2, hF⟩ := kc_bnd hF
  have hJu2 : ∀ (H : Heap) (locs : List Loc) (ls : Array Slot), va_P (dC, dI) vwCl [(q_mo, .inr (5, [.int mref, .int mw, .int mh, .int mst, .int mbd, .ref q_msa, .int mtb, .ref q_mbi, .ref q_mcx, .ref q_mpa, .int mps, .ref q_mle, .ref q_mdi, .int mtr, .ref q_mrd, .int misr, .int mplc, .int mlak, .int mpl, .int mpass, .int mraw, .ref q_msz, .ref q_mbe, .ref q_mfa, .ref q_mse, .ref q_mrf, .ref q_mlo, .ref q_mos, .ref q_mwb, .ref q_mol, .ref q_mrv, .ref q_mrl])), (q_msa, .inl (k_msa, n_msa, .inl msam)), (q_mbi, .inl (k_mbi, n_mbi, .inl mbits)), (q_mcx, .inl (k_mcx, n_mcx, .inl mctxs)), (q_mpa, .inl (k_mpa, n_mpa, .inl mpaso)), (q_mrd, .inl (k_mrd, n_mrd, .inl mreads)), (q_msz, .inl (k_msz, n_msz, .inl msizs)), (q_mbe, .inl (k_mbe, n_mbe, .inl mbels)), (q_mfa, .inl (k_mfa, n_mfa, .inl mfnds)), (q_mse, .inl (k_mse, n_mse, .inl mseen)), (q_mrf, .inl (k_mrf, n_mrf, .inl mrfnd)), (q_mlo, .inl (k_mlo, n_mlo, .inl mlows)), (q_mos, .inl (k_mos, n_mos, .inl moszs)), (q_mwb, .inl (k_mwb, n_mwb, .inl mwbls)), (q_mol, .inl (k_mol, n_mol, .inl molws)), (q_mrv, .inl (k_mrv, n_mrv, .inl mrvas)), (q_mrl, .inl (k_mrl, n_mrl, .inl mrlos))] H → va_D A [(q_mo, .inr (5, [.int mref, .int mw, .int mh, .int mst, .int mbd, .ref q_msa, .int mtb, .ref q_mbi, .ref q_mcx, .ref q_mpa, .int mps, .ref q_mle, .ref q_mdi, .int mtr, .ref q_mrd, .int misr, .int mplc, .int mlak, .int mpl, .int mpass, .int mraw, .ref q_msz, .ref q_mbe, .ref q_mfa, .ref q_mse, .ref q_mrf, .ref q_mlo, .ref q_mos, .ref q_mwb, .ref q_mol, .ref q_mrv, .ref q_mrl])), (q_msa, .inl (k_msa, n_msa, .inl msam)), (q_mbi, .inl (k_mbi, n_mbi, .inl mbits)), (q_mcx, .inl (k_mcx, n_mcx, .inl mctxs)), (q_mpa, .inl (k_mpa, n_mpa, .inl mpaso)), (q_mrd, .inl (k_mrd, n_mrd, .inl mreads)), (q_msz, .inl (k_msz, n_msz, .inl msizs)), (q_mbe, .inl (k_mbe, n_mbe, .inl mbels)), (q_mfa, .inl (k_mfa, n_mfa, .inl mfnds)), (q_mse, .inl (k_mse, n_mse, .inl mseen)), (q_mrf, .inl (k_mrf, n_mrf, .inl mrfnd)), (q_mlo, .inl (k_mlo, n_mlo, .inl mlows)), (q_mos, .inl (k_mos, n_mos, .inl moszs)), (q_mwb, .inl (k_mwb, n_mwb, .inl mwbls)), (q_mol, .inl (k_mol, n_mol, .inl molws)), (q_mrv, .inl (k_mrv, n_mrv, .inl mrvas)), (q_mrl, .inl (k_mrl, n_mrl, .inl mrlos))] → va_S A s.heap H locs → lv_has ls 6 [(0, .ref q_mo), (1, .int a0), (2, .int a1)] → W p l e rm_M_decode s m args below meth c H locs 0 0 Q (F0 m 20 ls [.int u2, .ref q_mo]) := by
    intro H locs ls hP hD hS hl
    refine va_put (D := (dC, dI)) (ci := 5) (v := .int u2) (ty := .int) (C := R_M) (T := T_M) (N := 32) hx hb hts ki_M ty_M tyok_M nmok_M hown hK hP hD hS 0 rfl rfl 0 (by decide) (hts _ kw_3_133) (fun _ h9 => h9) rfl (by decide +kernel) rfl rfl (Nat.le_of_ble_eq_true rfl) d_M_decode_20 (fun H locs hP hD hS => ?_)
    have hP : va_P (dC, dI) vwCl [(q_mo, .inr (5, [.int u2, .int mw, .int mh, .int mst, .int mbd, .ref q_msa, .int mtb, .ref q_mbi, .ref q_mcx, .ref q_mpa, .int mps, .ref q_mle, .ref q_mdi, .int mtr, .ref q_mrd, .int misr, .int mplc, .int mlak, .int mpl, .int mpass, .int mraw, .ref q_msz, .ref q_mbe, .ref q_mfa, .ref q_mse, .ref q_mrf, .ref q_mlo, .ref q_mos, .ref q_mwb, .ref q_mol, .ref q_mrv, .ref q_mrl])), (q_msa, .inl (k_msa, n_msa, .inl msam)), (q_mbi, .inl (k_mbi, n_mbi, .inl mbits)), (q_mcx, .inl (k_mcx, n_mcx, .inl mctxs)), (q_mpa, .inl (k_mpa, n_mpa, .inl mpaso)), (q_mrd, .inl (k_mrd, n_mrd, .inl mreads)), (q_msz, .inl (k_msz, n_msz, .inl msizs)), (q_mbe, .inl (k_mbe, n_mbe, .inl mbels)), (q_mfa, .inl (k_mfa, n_mfa, .inl mfnds)), (q_mse, .inl (k_mse, n_mse, .inl mseen)), (q_mrf, .inl (k_mrf, n_mrf, .inl mrfnd)), (q_mlo, .inl (k_mlo, n_mlo, .inl mlows)), (q_mos, .inl (k_mos, n_mos, .inl moszs)), (q_mwb, .inl (k_mwb, n_mwb, .inl mwbls)), (q_mol, .inl (k_mol, n_mol, .inl molws)), (q_mrv, .inl (k_mrv, n_mrv, .inl mrvas)), (q_mrl, .inl (k_mrl, n_mrl, .inl mrlos))] H := hP
    have hD : va_D A [(q_mo, .inr (5, [.int u2, .int mw, .int mh, .int mst, .int mbd, .ref q_msa, .int mtb, .ref q_mbi, .ref q_mcx, .ref q_mpa, .int mps, .ref q_mle, .ref q_mdi, .int mtr, .ref q_mrd, .int misr, .int mplc, .int mlak, .int mpl, .int mpass, .int mraw, .ref q_msz, .ref q_mbe, .ref q_mfa, .ref q_mse, .ref q_mrf, .ref q_mlo, .ref q_mos, .ref q_mwb, .ref q_mol, .ref q_mrv, .ref q_mrl])), (q_msa, .inl (k_msa, n_msa, .inl msam)), (q_mbi, .inl (k_mbi, n_mbi, .inl mbits)), (q_mcx, .inl (k_mcx, n_mcx, .inl mctxs)), (q_mpa, .inl (k_mpa, n_mpa, .inl mpaso)), (q_mrd, .inl (k_mrd, n_mrd, .inl mreads)), (q_msz, .inl (k_msz, n_msz, .inl msizs)), (q_mbe, .inl (k_mbe, n_mbe, .inl mbels)), (q_mfa, .inl (k_mfa, n_mfa, .inl mfnds)), (q_mse, .inl (k_mse, n_mse, .inl mseen)), (q_mrf, .inl (k_mrf, n_mrf, .inl mrfnd)), (q_mlo, .inl (k_mlo, n_mlo, .inl mlows)), (q_mos, .inl (k_mos, n_mos, .inl moszs)), (q_mwb, .inl (k_mwb, n_mwb, .inl mwbls)), (q_mol, .inl (k_mol, n_mol, .inl molws)), (q_mrv, .inl (k_mrv, n_mrv, .inl mrvas)), (q_mrl, .inl (k_mrl, n_mrl, .inl mrlos))] := hD
    refine lv_aload_n hx hb d_M_decode_23 rfl (lv_at hl 0 rfl) ?_
    refine va_get (D := (dC, dI)) (ci := 5) (v := .int u2) (C := R_M) (T := T_M) (N := 32) hx hb hts ki_M hown hK hP 0 rfl rfl 0 (by decide) (hts _ kw_3_133) (fun _ h9 => h9) rfl d_M_decode_24 ?_
    refine lv_if_le (tgt := 32) hx hb d_M_decode_27 (by decide) (fun c3 => ?_) (fun c3 => ?_)
    · have hF := kc_pos c3 hF
      refine lv_iload_n hx hb d_M_decode_32 rfl (lv_at hl 1 rfl) ?_
      refine kr_call (va_runS (As := [.int a0]) (rest := []) ⟨hx, hb, hml, hown, hts⟩ (m_MS_passesFor l dC dI a0 (f_MS_passesFor a0) rfl) (va_cwS 1 hts (kgS kw_4_24 kw_4_25 kw_1_8 kw_4_26) rfl rfl rfl (by decide +kernel) ⟨Nat.le_of_ble_eq_true rfl, Nat.le_of_ble_eq_true rfl⟩) ⟨kRe_blind, kRe_of (hP.sub [] rfl) (hK.sub [] rfl) hN⟩ rfl rfl hl.1 rfl (lv_room (Nat.le_of_ble_eq_true rfl)) d_M_decode_33 ⟨Nat.le_of_ble_eq_true rfl, Nat.le_of_ble_eq_true rfl⟩) ?_
      refine lv_iload_n hx hb d_M_decode_36 rfl (lv_at hl 2 rfl) ?_
      obtain ⟨u5, hcu5, hF⟩ := kc_bnd hF
      have hJu5 : ∀ (H : Heap) (locs : List Loc) (ls : Array Slot), va_P (dC, dI) vwCl [(q_mo, .inr (5, [.int u2, .int mw, .int mh, .int mst, .int mbd, .ref q_msa, .int mtb, .ref q_mbi, .ref q_mcx, .ref q_mpa, .int mps, .ref q_mle, .ref q_mdi, .int mtr, .ref q_mrd, .int misr, .int mplc, .int mlak, .int mpl, .int mpass, .int mraw, .ref q_msz, .ref q_mbe, .ref q_mfa, .ref q_mse, .ref q_mrf, .ref q_mlo, .ref q_mos, .ref q_mwb, .ref q_mol, .ref q_mrv, .ref q_mrl])), (q_msa, .inl (k_msa, n_msa, .inl msam)), (q_mbi, .inl (k_mbi, n_mbi, .inl mbits)), (q_mcx, .inl (k_mcx, n_mcx, .inl mctxs)), (q_mpa, .inl (k_mpa, n_mpa, .inl mpaso)), (q_mrd, .inl (k_mrd, n_mrd, .inl mreads)), (q_msz, .inl (k_msz, n_msz, .inl msizs)), (q_mbe, .inl (k_mbe, n_mbe, .inl mbels)), (q_mfa, .inl (k_mfa, n_mfa, .inl mfnds)), (q_mse, .inl (k_mse, n_mse, .inl mseen)), (q_mrf, .inl (k_mrf, n_mrf, .inl mrfnd)), (q_mlo, .inl (k_mlo, n_mlo, .inl mlows)), (q_mos, .inl (k_mos, n_mos, .inl moszs)), (q_mwb, .inl (k_mwb, n_mwb, .inl mwbls)), (q_mol, .inl (k_mol, n_mol, .inl molws)), (q_mrv, .inl (k_mrv, n_mrv, .inl mrvas)), (q_mrl, .inl (k_mrl, n_mrl, .inl mrlos))] H → va_D A [(q_mo, .inr (5, [.int u2, .int mw, .int mh, .int mst, .int mbd, .ref q_msa, .int mtb, .ref q_mbi, .ref q_mcx, .ref q_mpa, .int mps, .ref q_mle, .ref q_mdi, .int mtr, .ref q_mrd, .int misr, .int mplc, .int mlak, .int mpl, .int mpass, .int mraw, .ref q_msz, .ref q_mbe, .ref q_mfa, .ref q_mse, .ref q_mrf, .ref q_mlo, .ref q_mos, .ref q_mwb, .ref q_mol, .ref q_mrv, .ref q_mrl])), (q_msa, .inl (k_msa, n_msa, .inl msam)), (q_mbi, .inl (k_mbi, n_mbi, .inl mbits)), (q_mcx, .inl (k_mcx, n_mcx, .inl mctxs)), (q_mpa, .inl (k_mpa, n_mpa, .inl mpaso)), (q_mrd, .inl (k_mrd, n_mrd, .inl mreads)), (q_msz, .inl (k_msz, n_msz, .inl msizs)), (q_mbe, .inl (k_mbe, n_mbe, .inl mbels)), (q_mfa, .inl (k_mfa, n_mfa, .inl mfnds)), (q_mse, .inl (k_mse, n_mse, .inl mseen)), (q_mrf, .inl (k_mrf, n_mrf, .inl mrfnd)), (q_mlo, .inl (k_mlo, n_mlo, .inl mlows)), (q_mos, .inl (k_mos, n_mos, .inl moszs)), (q_mwb, .inl (k_mwb, n_mwb, .inl mwbls)), (q_mol, .inl (k_mol, n_mol, .inl molws)), (q_mrv, .inl (k_mrv, n_mrv, .inl mrvas)), (q_mrl, .inl (k_mrl, n_mrl, .inl mrlos))] → va_S A s.heap H locs → lv_has ls 6 [(0, .ref q_mo), (1, .int a0), (2, .int a1)] → W p l e rm_M_decode s m args below meth c H locs 0 0 Q (F0 m 48 ls [.int u5]) := by
        intro H locs ls hP hD hS hl
        refine lv_istore_n (lv' := [(3, .int u5), (0, .ref q_mo), (1, .int a0), (2, .int a1)]) hx hb d_M_decode_48 rfl hl (by decide) rfl (fun ls hl => ?_)
        refine lv_aload_n hx hb d_M_decode_49 rfl (lv_at hl 1 rfl) ?_
        refine lv_iconst (v := 1) hx hb d_M_decode_50 (by decide) ?_
        refine va_put (D := (dC, dI)) (ci := 5) (v := .int (1 : Int32)) (ty := .boolean) (C := R_M) (T := T_M) (N := 32) hx hb hts ki_M ty_M tyok_M nmok_M hown hK hP hD hS 0 rfl rfl 15 (by decide) (hts _ kw_3_148) (fun _ h9 => h9) rfl (by decide +kernel) rfl rfl (Nat.le_of_ble_eq_true rfl) d_M_decode_51 (fun H locs hP hD hS => ?_)
        have hP : va_P (dC, dI) vwCl [(q_mo, .inr (5, [.int u2, .int mw, .int mh, .int mst, .int mbd, .ref q_msa, .int mtb, .ref q_mbi, .ref q_mcx, .ref q_mpa, .int mps, .ref q_mle, .ref q_mdi, .int mtr, .ref q_mrd, .int (1 : Int32), .int mplc, .int mlak, .int mpl, .int mpass, .int mraw, .ref q_msz, .ref q_mbe, .ref q_mfa, .ref q_mse, .ref q_mrf, .ref q_mlo, .ref q_mos, .ref q_mwb, .ref q_mol, .ref q_mrv, .ref q_mrl])), (q_msa, .inl (k_msa, n_msa, .inl msam)), (q_mbi, .inl (k_mbi, n_mbi, .inl mbits)), (q_mcx, .inl (k_mcx, n_mcx, .inl mctxs)), (q_mpa, .inl (k_mpa, n_mpa, .inl mpaso)), (q_mrd, .inl (k_mrd, n_mrd, .inl mreads)), (q_msz, .inl (k_msz, n_msz, .inl msizs)), (q_mbe, .inl (k_mbe, n_mbe, .inl mbels)), (q_mfa, .inl (k_mfa, n_mfa, .inl mfnds)), (q_mse, .inl (k_mse, n_mse, .inl mseen)), (q_mrf, .inl (k_mrf, n_mrf, .inl mrfnd)), (q_mlo, .inl (k_mlo, n_mlo, .inl mlows)), (q_mos, .inl (k_mos, n_mos, .inl moszs)), (q_mwb, .inl (k_mwb, n_mwb, .inl mwbls)), (q_mol, .inl (k_mol, n_mol, .inl molws)), (q_mrv, .inl (k_mrv, n_mrv, .inl mrvas)), (q_mrl, .inl (k_mrl, n_mrl, .inl mrlos))] H := hP
        have hD : va_D A [(q_mo, .inr (5, [.int u2, .int mw, .int mh, .int mst, .int mbd, .ref q_msa, .int mtb, .ref q_mbi, .ref q_mcx, .ref q_mpa, .int mps, .ref q_mle, .ref q_mdi, .int mtr, .ref q_mrd, .int (1 : Int32), .int mplc, .int mlak, .int mpl, .int mpass, .int mraw, .ref q_msz, .ref q_mbe, .ref q_mfa, .ref q_mse, .ref q_mrf, .ref q_mlo, .ref q_mos, .ref q_mwb, .ref q_mol, .ref q_mrv, .ref q_mrl])), (q_msa, .inl (k_msa, n_msa, .inl msam)), (q_mbi, .inl (k_mbi, n_mbi, .inl mbits)), (q_mcx, .inl (k_mcx, n_mcx, .inl mctxs)), (q_mpa, .inl (k_mpa, n_mpa, .inl mpaso)), (q_mrd, .inl (k_mrd, n_mrd, .inl mreads)), (q_msz, .inl (k_msz, n_msz, .inl msizs)), (q_mbe, .inl (k_mbe, n_mbe, .inl mbels)), (q_mfa, .inl (k_mfa, n_mfa, .inl mfnds)), (q_mse, .inl (k_mse, n_mse, .inl mseen)), (q_mrf, .inl (k_mrf, n_mrf, .inl mrfnd)), (q_mlo, .inl (k_mlo, n_mlo, .inl mlows)), (q_mos, .inl (k_mos, n_mos, .inl moszs)), (q_mwb, .inl (k_mwb, n_mwb, .inl mwbls)), (q_mol, .inl (k_mol, n_mol, .inl molws)), (q_mrv, .inl (k_mrv, n_mrv, .inl mrvas)), (q_mrl, .inl (k_mrl, n_mrl, .inl mrlos))] := hD
        refine lv_aload_n hx hb d_M_decode_54 rfl (lv_at hl 1 rfl) ?_
        refine lv_iconst (v := 0) hx hb d_M_decode_55 (by decide) ?_
        refine va_put (D := (dC, dI)) (ci := 5) (v := .int (0 : Int32)) (ty := .int) (C := R_M) (T := T_M) (N := 32) hx hb hts ki_M ty_M tyok_M nmok_M hown hK hP hD hS 0 rfl rfl 16 (by decide) (hts _ kw_3_149) (fun _ h9 => h9) rfl (by decide +kernel) rfl rfl (Nat.le_of_ble_eq_true rfl) d_M_decode_56 (fun H locs hP hD hS => ?_)
        have hP : va_P (dC, dI) vwCl [(q_mo, .inr (5, [.int u2, .int mw, .int mh, .int mst, .int mbd, .ref q_msa, .int mtb, .ref q_mbi, .ref q_mcx, .ref q_mpa, .int mps, .ref q_mle, .ref q_mdi, .int mtr, .ref q_mrd, .int (1 : Int32), .int (0 : Int32), .int mlak, .int mpl, .int mpass, .int mraw, .ref q_msz, .ref q_mbe, .ref q_mfa, .ref q_mse, .ref q_mrf, .ref q_mlo, .ref q_mos, .ref q_mwb, .ref q_mol, .ref q_mrv, .ref q_mrl])), (q_msa, .inl (k_msa, n_msa, .inl msam)), (q_mbi, .inl (k_mbi, n_mbi, .inl mbits)), (q_mcx, .inl (k_mcx, n_mcx, .inl mctxs)), (q_mpa, .inl (k_mpa, n_mpa, .inl mpaso)), (q_mrd, .inl (k_mrd, n_mrd, .inl mreads)), (q_msz, .inl (k_msz, n_msz, .inl msizs)), (q_mbe, .inl (k_mbe, n_mbe, .inl mbels)), (q_mfa, .inl (k_mfa, n_mfa, .inl mfnds)), (q_mse, .inl (k_mse, n_mse, .inl mseen)), (q_mrf, .inl (k_mrf, n_mrf, .inl mrfnd)), (q_mlo, .inl (k_mlo, n_mlo, .inl mlows)), (q_mos, .inl (k_mos, n_mos, .inl moszs)), (q_mwb, .inl (k_mwb, n_mwb, .inl mwbls)), (q_mol, .inl (k_mol, n_mol, .inl molws)), (q_mrv, .inl (k_mrv, n_mrv, .inl mrvas)), (q_mrl, .inl (k_mrl, n_mrl, .inl mrlos))] H := hP
        have hD : va_D A [(q_mo, .inr (5, [.int u2, .int mw, .int mh, .int mst, .int mbd, .ref q_msa, .int mtb, .ref q_mbi, .ref q_mcx, .ref q_mpa, .int mps, .ref q_mle, .ref q_mdi, .int mtr, .ref q_mrd, .int (1 : Int32), .int (0 : Int32), .int mlak, .int mpl, .int mpass, .int mraw, .ref q_msz, .ref q_mbe, .ref q_mfa, .ref q_mse, .ref q_mrf, .ref q_mlo, .ref q_mos, .ref q_mwb, .ref q_mol, .ref q_mrv, .ref q_mrl])), (q_msa, .inl (k_msa, n_msa, .inl msam)), (q_mbi, .inl (k_mbi, n_mbi, .inl mbits)), (q_mcx, .inl (k_mcx, n_mcx, .inl mctxs)), (q_mpa, .inl (k_mpa, n_mpa, .inl mpaso)), (q_mrd, .inl (k_mrd, n_mrd, .inl mreads)), (q_msz, .inl (k_msz, n_msz, .inl msizs)), (q_mbe, .inl (k_mbe, n_mbe, .inl mbels)), (q_mfa, .inl (k_mfa, n_mfa, .inl mfnds)), (q_mse, .inl (k_mse, n_mse, .inl mseen)), (q_mrf, .inl (k_mrf, n_mrf, .inl mrfnd)), (q_mlo, .inl (k_mlo, n_mlo, .inl mlows)), (q_mos, .inl (k_mos, n_mos, .inl moszs)), (q_mwb, .inl (k_mwb, n_mwb, .inl mwbls)), (q_mol, .inl (k_mol, n_mol, .inl molws)), (q_mrv, .inl (k_mrv, n_mrv, .inl mrvas)), (q_mrl, .inl (k_mrl, n_mrl, .inl mrlos))] := hD
        refine lv_aload_n hx hb d_M_decode_59 rfl (lv_at hl 1 rfl) ?_
        refine lv_iconst (v := 0) hx hb d_M_decode_60 (by decide) ?_
        refine va_put (D := (dC, dI)) (ci := 5) (v := .int (0 : Int32)) (ty := .boolean) (C := R_M) (T := T_M) (N := 32) hx hb hts ki_M ty_M tyok_M nmok_M hown hK hP hD hS 0 rfl rfl 17 (by decide) (hts _ kw_3_150) (fun _ h9 => h9) rfl (by decide +kernel) rfl rfl (Nat.le_of_ble_eq_true rfl) d_M_decode_61 (fun H locs hP hD hS => ?_)
        have hP : va_P (dC, dI) vwCl [(q_mo, .inr (5, [.int u2, .int mw, .int mh, .int mst, .int mbd, .ref q_msa, .int mtb, .ref q_mbi, .ref q_mcx, .ref q_mpa, .int mps, .ref q_mle, .ref q_mdi, .int mtr, .ref q_mrd, .int (1 : Int32), .int (0 : Int32), .int (0 : Int32), .int mpl, .int mpass, .int mraw, .ref q_msz, .ref q_mbe, .ref q_mfa, .ref q_mse, .ref q_mrf, .ref q_mlo, .ref q_mos, .ref q_mwb, .ref q_mol, .ref q_mrv, .ref q_mrl])), (q_msa, .inl (k_msa, n_msa, .inl msam)), (q_mbi, .inl (k_mbi, n_mbi, .inl mbits)), (q_mcx, .inl (k_mcx, n_mcx, .inl mctxs)), (q_mpa, .inl (k_mpa, n_mpa, .inl mpaso)), (q_mrd, .inl (k_mrd, n_mrd, .inl mreads)), (q_msz, .inl (k_msz, n_msz, .inl msizs)), (q_mbe, .inl (k_mbe, n_mbe, .inl mbels)), (q_mfa, .inl (k_mfa, n_mfa, .inl mfnds)), (q_mse, .inl (k_mse, n_mse, .inl mseen)), (q_mrf, .inl (k_mrf, n_mrf, .inl mrfnd)), (q_mlo, .inl (k_mlo, n_mlo, .inl mlows)), (q_mos, .inl (k_mos, n_mos, .inl moszs)), (q_mwb, .inl (k_mwb, n_mwb, .inl mwbls)), (q_mol, .inl (k_mol, n_mol, .inl molws)), (q_mrv, .inl (k_mrv, n_mrv, .inl mrvas)), (q_mrl, .inl (k_mrl, n_mrl, .inl mrlos))] H := hP
        have hD : va_D A [(q_mo, .inr (5, [.int u2, .int mw, .int mh, .int mst, .int mbd, .ref q_msa, .int mtb, .ref q_mbi, .ref q_mcx, .ref q_mpa, .int mps, .ref q_mle, .ref q_mdi, .int mtr, .ref q_mrd, .int (1 : Int32), .int (0 : Int32), .int (0 : Int32), .int mpl, .int mpass, .int mraw, .ref q_msz, .ref q_mbe, .ref q_mfa, .ref q_mse, .ref q_mrf, .ref q_mlo, .ref q_mos, .ref q_mwb, .ref q_mol, .ref q_mrv, .ref q_mrl])), (q_msa, .inl (k_msa, n_msa, .inl msam)), (q_mbi, .inl (k_mbi, n_mbi, .inl mbits)), (q_mcx, .inl (k_mcx, n_mcx, .inl mctxs)), (q_mpa, .inl (k_mpa, n_mpa, .inl mpaso)), (q_mrd, .inl (k_mrd, n_mrd, .inl mreads)), (q_msz, .inl (k_msz, n_msz, .inl msizs)), (q_mbe, .inl (k_mbe, n_mbe, .inl mbels)), (q_mfa, .inl (k_mfa, n_mfa, .inl mfnds)), (q_mse, .inl (k_mse, n_mse, .inl mseen)), (q_mrf, .inl (k_mrf, n_mrf, .inl mrfnd)), (q_mlo, .inl (k_mlo, n_mlo, .inl mlows)), (q_mos, .inl (k_mos, n_mos, .inl moszs)), (q_mwb, .inl (k_mwb, n_mwb, .inl mwbls)), (q_mol, .inl (k_mol, n_mol, .inl molws)), (q_mrv, .inl (k_mrv, n_mrv, .inl mrvas)), (q_mrl, .inl (k_mrl, n_mrl, .inl mrlos))] := hD
        refine lv_aload_n hx hb d_M_decode_64 rfl (lv_at hl 1 rfl) ?_
        refine lv_iload_n hx hb d_M_decode_65 rfl (lv_at hl 2 rfl) ?_
        obtain ⟨u6, hc, hF⟩ := kc_bnd hF
        refine ku_call (wr := [(q_msa, .inl (k_msa, n_msa, .inl msam)), (q_mbi, .inl (k_mbi, n_mbi, .inl mbits)), (q_mcx, .inl (k_mcx, n_mcx, .inl mctxs)), (q_mpa, .inl (k_mpa, n_mpa, .inl mpaso)), (q_mrd, .inl (k_mrd, n_mrd, .inl mreads)), (q_mos, .inl (k_mos, n_mos, .inl moszs)), (q_mwb, .inl (k_mwb, n_mwb, .inl mwbls)), (q_mol, .inl (k_mol, n_mol, .inl molws)), (q_mrv, .inl (k_mrv, n_mrv, .inl mrvas)), (q_mrl, .inl (k_mrl, n_mrl, .inl mrlos))]) hA (va_runV (As := [.int a0]) (rest := []) ⟨hx, hb, hml, hown, hts⟩ (m_M_begin l dC dI q_mo q_msa q_mbi q_mcx q_mpa q_mle q_mdi q_mrd q_msz q_mbe q_mfa q_mse q_mrf q_mlo q_mos q_mwb q_mol q_mrv q_mrl k_msz n_msz k_mbe n_mbe k_mfa n_mfa k_mse n_mse k_mrf n_mrf k_mlo n_mlo u2 mw mh mst mbd mtb mps mtr (1 : Int32) (0 : Int32) (0 : Int32) mpl mpass mraw msizs mbels mfnds mseen mrfnd mlows a0 _ hc H.size) (cwV 1 hts (kgV kw_4_27 kw_4_29 kp_25 kw_1_8 kw_4_30) rfl rfl rfl (by decide +kernel) ⟨Nat.le_of_ble_eq_true rfl, Nat.le_of_ble_eq_true rfl⟩) ⟨kPre_blind, va_recv hK hP (ci := 5) (q0 := 0) rfl rfl, kPre_of (hP.sub [0, 6, 7, 8, 9, 10, 11] rfl) (hK.sub [5, 6, 7, 8, 9, 10] rfl) (hD.sub [0, 6, 7, 8, 9, 10, 11] (by decide) rfl) hN⟩ rfl rfl hl.1 rfl (lv_room (Nat.le_of_ble_eq_true rfl)) d_M_decode_66 ⟨Nat.le_of_ble_eq_true rfl, Nat.le_of_ble_eq_true rfl⟩) hP hD hS [0, 6, 7, 8, 9, 10, 11] [1, 2, 3, 4, 5, 12, 13, 14, 15, 16] rfl rfl (by decide) (by decide) (fun H locs hP hD hS => ?_)
        have hP : va_P (dC, dI) vwCl [(q_msa, .inl (k_msa, n_msa, .inl msam)), (q_mbi, .inl (k_mbi, n_mbi, .inl mbits)), (q_mcx, .inl (k_mcx, n_mcx, .inl mctxs)), (q_mpa, .inl (k_mpa, n_mpa, .inl mpaso)), (q_mrd, .inl (k_mrd, n_mrd, .inl mreads)), (q_mos, .inl (k_mos, n_mos, .inl moszs)), (q_mwb, .inl (k_mwb, n_mwb, .inl mwbls)), (q_mol, .inl (k_mol, n_mol, .inl molws)), (q_mrv, .inl (k_mrv, n_mrv, .inl mrvas)), (q_mrl, .inl (k_mrl, n_mrl, .inl mrlos)), (q_mo, .inr (5, [.int u2, .int mw, .int mh, .int mst, .int mbd, .ref q_msa, .int mtb, .ref q_mbi, .ref q_mcx, .ref q_mpa, .int mps, .ref q_mle, .ref q_mdi, .int mtr, .ref q_mrd, .int (1 : Int32), .int (0 : Int32), .int (0 : Int32), .int mpl, .int mpass, .int mraw, .ref q_msz, .ref q_mbe, .ref q_mfa, .ref q_mse, .ref q_mrf, .ref q_mlo, .ref q_mos, .ref q_mwb, .ref q_mol, .ref q_mrv, .ref q_mrl])), (q_msz, .inl (k_msz, n_msz, .inl u6.1)), (q_mbe, .inl (k_mbe, n_mbe, .inl u6.2.1)), (q_mfa, .inl (k_mfa, n_mfa, .inl u6.2.2.1)), (q_mse, .inl (k_mse, n_mse, .inl u6.2.2.2.1)), (q_mrf, .inl (k_mrf, n_mrf, .inl u6.2.2.2.2.1)), (q_mlo, .inl (k_mlo, n_mlo, .inl u6.2.2.2.2.2))] H := hP
        have hD : va_D A [(q_msa, .inl (k_msa, n_msa, .inl msam)), (q_mbi, .inl (k_mbi, n_mbi, .inl mbits)), (q_mcx, .inl (k_mcx, n_mcx, .inl mctxs)), (q_mpa, .inl (k_mpa, n_mpa, .inl mpaso)), (q_mrd, .inl (k_mrd, n_mrd, .inl mreads)), (q_mos, .inl (k_mos, n_mos, .inl moszs)), (q_mwb, .inl (k_mwb, n_mwb, .inl mwbls)), (q_mol, .inl (k_mol, n_mol, .inl molws)), (q_mrv, .inl (k_mrv, n_mrv, .inl mrvas)), (q_mrl, .inl (k_mrl, n_mrl, .inl mrlos)), (q_mo, .inr (5, [.int u2, .int mw, .int mh, .int mst, .int mbd, .ref q_msa, .int mtb, .ref q_mbi, .ref q_mcx, .ref q_mpa, .int mps, .ref q_mle, .ref q_mdi, .int mtr, .ref q_mrd, .int (1 : Int32), .int (0 : Int32), .int (0 : Int32), .int mpl, .int mpass, .int mraw, .ref q_msz, .ref q_mbe, .ref q_mfa, .ref q_mse, .ref q_mrf, .ref q_mlo, .ref q_mos, .ref q_mwb, .ref q_mol, .ref q_mrv, .ref q_mrl])), (q_msz, .inl (k_msz, n_msz, .inl u6.1)), (q_mbe, .inl (k_mbe, n_mbe, .inl u6.2.1)), (q_mfa, .inl (k_mfa, n_mfa, .inl u6.2.2.1)), (q_mse, .inl (k_mse, n_mse, .inl u6.2.2.2.1)), (q_mrf, .inl (k_mrf, n_mrf, .inl u6.2.2.2.2.1)), (q_mlo, .inl (k_mlo, n_mlo, .inl u6.2.2.2.2.2))] := hD
        refine lv_iconst (v := 0) hx hb d_M_decode_69 (by decide) ?_
        refine lv_istore (lv' := [(4, .int (0 : Int32)), (3, .int u5), (0, .ref q_mo), (1, .int a0), (2, .int a1)]) hx hb d_M_decode_70 hl (by decide) rfl (fun ls hl => ?_)
        refine lv_iconst (v := 1) hx hb d_M_decode_72 (by decide) ?_
        refine lv_istore (lv' := [(5, .int (1 : Int32)), (4, .int (0 : Int32)), (3, .int u5), (0, .ref q_mo), (1, .int a0), (2, .int a1)]) hx hb d_M_decode_73 hl (by decide) rfl (fun ls hl => ?_)
        obtain ⟨u7, hcu7, hF⟩ := kc_bnd hF
        have hJu7_127 : ∀ (H : Heap) (locs : List Loc) (ls : Array Slot), va_P (dC, dI) vwCl [(q_msa, .inl (k_msa, n_msa, .inl msam)), (q_mbi, .inl (k_mbi, n_mbi, .inl u7.2.2.2.2.2.2.2.2.1)), (q_mcx, .inl (k_mcx, n_mcx, .inl u7.2.2.2.2.2.2.2.2.2.1)), (q_mpa, .inl (k_mpa, n_mpa, .inl u7.2.2.2.2.2.2.2.2.2.2.1)), (q_mrd, .inl (k_mrd, n_mrd, .inl mreads)), (q_mos, .inl (k_mos, n_mos, .inl u7.2.2.2.2.2.2.2.2.2.2.2.2.2.2.2.2.2.1)), (q_mwb, .inl (k_mwb, n_mwb, .inl u7.2.2.2.2.2.2.2.2.2.2.2.2.2.2.2.2.2.2.1)), (q_mol, .inl (k_mol, n_mol, .inl u7.2.2.2.2.2.2.2.2.2.2.2.2.2.2.2.2.2.2.2)), (q_mrv, .inl (k_mrv, n_mrv, .inl mrvas)), (q_mrl, .inl (k_mrl, n_mrl, .inl mrlos)), (q_mo, .inr (5, [.int u2, .int mw, .int mh, .int mst, .int mbd, .ref q_msa, .int u7.2.2.1, .ref q_mbi, .ref q_mcx, .ref q_mpa, .int mps, .ref q_mle, .ref q_mdi, .int mtr, .ref q_mrd, .int (1 : Int32), .int u7.2.2.2.1, .int u7.2.2.2.2.1, .int u7.2.2.2.2.2.1, .int u7.2.2.2.2.2.2.1, .int u7.2.2.2.2.2.2.2.1, .ref q_msz, .ref q_mbe, .ref q_mfa, .ref q_mse, .ref q_mrf, .ref q_mlo, .ref q_mos, .ref q_mwb, .ref q_mol, .ref q_mrv, .ref q_mrl])), (q_msz, .inl (k_msz, n_msz, .inl u7.2.2.2.2.2.2.2.2.2.2.2.1)), (q_mbe, .inl (k_mbe, n_mbe, .inl u7.2.2.2.2.2.2.2.2.2.2.2.2.1)), (q_mfa, .inl (k_mfa, n_mfa, .inl u7.2.2.2.2.2.2.2.2.2.2.2.2.2.1)), (q_mse, .inl (k_mse, n_mse, .inl u7.2.2.2.2.2.2.2.2.2.2.2.2.2.2.1)), (q_mrf, .inl (k_mrf, n_mrf, .inl u7.2.2.2.2.2.2.2.2.2.2.2.2.2.2.2.1)), (q_mlo, .inl (k_mlo, n_mlo, .inl u7.2.2.2.2.2.2.2.2.2.2.2.2.2.2.2.2.1))] H → va_D A [(q_msa, .inl (k_msa, n_msa, .inl msam)), (q_mbi, .inl (k_mbi, n_mbi, .inl u7.2.2.2.2.2.2.2.2.1)), (q_mcx, .inl (k_mcx, n_mcx, .inl u7.2.2.2.2.2.2.2.2.2.1)), (q_mpa, .inl (k_mpa, n_mpa, .inl u7.2.2.2.2.2.2.2.2.2.2.1)), (q_mrd, .inl (k_mrd, n_mrd, .inl mreads)), (q_mos, .inl (k_mos, n_mos, .inl u7.2.2.2.2.2.2.2.2.2.2.2.2.2.2.2.2.2.1)), (q_mwb, .inl (k_mwb, n_mwb, .inl u7.2.2.2.2.2.2.2.2.2.2.2.2.2.2.2.2.2.2.1)), (q_mol, .inl (k_mol, n_mol, .inl u7.2.2.2.2.2.2.2.2.2.2.2.2.2.2.2.2.2.2.2)), (q_mrv, .inl (k_mrv, n_mrv, .inl mrvas)), (q_mrl, .inl (k_mrl, n_mrl, .inl mrlos)), (q_mo, .inr (5, [.int u2, .int mw, .int mh, .int mst, .int mbd, .ref q_msa, .int u7.2.2.1, .ref q_mbi, .ref q_mcx, .ref q_mpa, .int mps, .ref q_mle, .ref q_mdi, .int mtr, .ref q_mrd, .int (1 : Int32), .int u7.2.2.2.1, .int u7.2.2.2.2.1, .int u7.2.2.2.2.2.1, .int u7.2.2.2.2.2.2.1, .int u7.2.2.2.2.2.2.2.1, .ref q_msz, .ref q_mbe, .ref q_mfa, .ref q_mse, .ref q_mrf, .ref q_mlo, .ref q_mos, .ref q_mwb, .ref q_mol, .ref q_mrv, .ref q_mrl])), (q_msz, .inl (k_msz, n_msz, .inl u7.2.2.2.2.2.2.2.2.2.2.2.1)), (q_mbe, .inl (k_mbe, n_mbe, .inl u7.2.2.2.2.2.2.2.2.2.2.2.2.1)), (q_mfa, .inl (k_mfa, n_mfa, .inl u7.2.2.2.2.2.2.2.2.2.2.2.2.2.1)), (q_mse, .inl (k_mse, n_mse, .inl u7.2.2.2.2.2.2.2.2.2.2.2.2.2.2.1)), (q_mrf, .inl (k_mrf, n_mrf, .inl u7.2.2.2.2.2.2.2.2.2.2.2.2.2.2.2.1)), (q_mlo, .inl (k_mlo, n_mlo, .inl u7.2.2.2.2.2.2.2.2.2.2.2.2.2.2.2.2.1))] → va_S A s.heap H locs → lv_has ls 6 [(5, .int u7.2.1), (4, .int u7.1), (3, .int u5), (0, .ref q_mo), (1, .int a0), (2, .int a1)] → W p l e rm_M_decode s m args below meth c H locs 0 0 Q (F0 m 127 ls []) := by
          intro H locs ls hP hD hS hl
          refine lv_aload_n hx hb d_M_decode_127 rfl (lv_at hl 3 rfl) ?_
          obtain ⟨u8, hc, hF⟩ := kc_bnd hF
          refine ku_call (wr := [(q_msa, .inl (k_msa, n_msa, .inl msam)), (q_mbi, .inl (k_mbi, n_mbi, .inl u7.2.2.2.2.2.2.2.2.1)), (q_mcx, .inl (k_mcx, n_mcx, .inl u7.2.2.2.2.2.2.2.2.2.1)), (q_mpa, .inl (k_mpa, n_mpa, .inl u7.2.2.2.2.2.2.2.2.2.2.1)), (q_mrd, .inl (k_mrd, n_mrd, .inl mreads)), (q_mfa, .inl (k_mfa, n_mfa, .inl u7.2.2.2.2.2.2.2.2.2.2.2.2.2.1)), (q_mse, .inl (k_mse, n_mse, .inl u7.2.2.2.2.2.2.2.2.2.2.2.2.2.2.1)), (q_mrf, .inl (k_mrf, n_mrf, .inl u7.2.2.2.2.2.2.2.2.2.2.2.2.2.2.2.1))]) hA (va_runV (As := []) (rest := []) ⟨hx, hb, hml, hown, hts⟩ (m_M_keep l dC dI q_mo q_msa q_mbi q_mcx q_mpa q_mle q_mdi q_mrd q_msz q_mbe q_mfa q_mse q_mrf q_mlo q_mos q_mwb q_mol q_mrv q_mrl k_msz n_msz k_mbe n_mbe k_mlo n_mlo k_mos n_mos k_mwb n_mwb k_mol n_mol k_mrv n_mrv k_mrl n_mrl u2 mw mh mst mbd u7.2.2.1 mps mtr (1 : Int32) u7.2.2.2.1 u7.2.2.2.2.1 u7.2.2.2.2.2.1 u7.2.2.2.2.2.2.1 u7.2.2.2.2.2.2.2.1 u7.2.2.2.2.2.2.2.2.2.2.2.1 u7.2.2.2.2.2.2.2.2.2.2.2.2.1 u7.2.2.2.2.2.2.2.2.2.2.2.2.2.2.2.2.1 u7.2.2.2.2.2.2.2.2.2.2.2.2.2.2.2.2.2.1 u7.2.2.2.2.2.2.2.2.2.2.2.2.2.2.2.2.2.2.1 u7.2.2.2.2.2.2.2.2.2.2.2.2.2.2.2.2.2.2.2 mrvas mrlos _ hc H.size) (cwV 0 hts (kgV kw_4_161 kw_4_163 kp_47 kw_1_8 kw_4_164) rfl rfl rfl (by decide +kernel) ⟨Nat.le_of_ble_eq_true rfl, Nat.le_of_ble_eq_true rfl⟩) ⟨kPre_blind, va_recv hK hP (ci := 5) (q0 := 10) rfl rfl, kPre_of (hP.sub [10, 11, 12, 16, 5, 6, 7, 8, 9] rfl) (hK.sub [5, 6, 10, 11, 12, 13, 14, 15] rfl) (hD.sub [10, 11, 12, 16, 5, 6, 7, 8, 9] (by decide) rfl) hN⟩ rfl rfl hl.1 rfl (lv_room (Nat.le_of_ble_eq_true rfl)) d_M_decode_128 ⟨Nat.le_of_ble_eq_true rfl, Nat.le_of_ble_eq_true rfl⟩) hP hD hS [10, 11, 12, 16, 5, 6, 7, 8, 9] [0, 1, 2, 3, 4, 13, 14, 15] rfl rfl (by decide) (by decide) (fun H locs hP hD hS => ?_)
          have hP : va_P (dC, dI) vwCl [(q_msa, .inl (k_msa, n_msa, .inl msam)), (q_mbi, .inl (k_mbi, n_mbi, .inl u7.2.2.2.2.2.2.2.2.1)), (q_mcx, .inl (k_mcx, n_mcx, .inl u7.2.2.2.2.2.2.2.2.2.1)), (q_mpa, .inl (k_mpa, n_mpa, .inl u7.2.2.2.2.2.2.2.2.2.2.1)), (q_mrd, .inl (k_mrd, n_mrd, .inl mreads)), (q_mfa, .inl (k_mfa, n_mfa, .inl u7.2.2.2.2.2.2.2.2.2.2.2.2.2.1)), (q_mse, .inl (k_mse, n_mse, .inl u7.2.2.2.2.2.2.2.2.2.2.2.2.2.2.1)), (q_mrf, .inl (k_mrf, n_mrf, .inl u7.2.2.2.2.2.2.2.2.2.2.2.2.2.2.2.1)), (q_mo, .inr (5, [.int u2, .int mw, .int mh, .int mst, .int mbd, .ref q_msa, .int u7.2.2.1, .ref q_mbi, .ref q_mcx, .ref q_mpa, .int mps, .ref q_mle, .ref q_mdi, .int mtr, .ref q_mrd, .int (1 : Int32), .int u7.2.2.2.1, .int u7.2.2.2.2.1, .int u7.2.2.2.2.2.1, .int u7.2.2.2.2.2.2.1, .int u7.2.2.2.2.2.2.2.1, .ref q_msz, .ref q_mbe, .ref q_mfa, .ref q_mse, .ref q_mrf, .ref q_mlo, .ref q_mos, .ref q_mwb, .ref q_mol, .ref q_mrv, .ref q_mrl])), (q_msz, .inl (k_msz, n_msz, .inl u7.2.2.2.2.2.2.2.2.2.2.2.1)), (q_mbe, .inl (k_mbe, n_mbe, .inl u7.2.2.2.2.2.2.2.2.2.2.2.2.1)), (q_mlo, .inl (k_mlo, n_mlo, .inl u7.2.2.2.2.2.2.2.2.2.2.2.2.2.2.2.2.1)), (q_mos, .inl (k_mos, n_mos, .inl u7.2.2.2.2.2.2.2.2.2.2.2.2.2.2.2.2.2.1)), (q_mwb, .inl (k_mwb, n_mwb, .inl u7.2.2.2.2.2.2.2.2.2.2.2.2.2.2.2.2.2.2.1)), (q_mol, .inl (k_mol, n_mol, .inl u7.2.2.2.2.2.2.2.2.2.2.2.2.2.2.2.2.2.2.2)), (q_mrv, .inl (k_mrv, n_mrv, .inl u8.1)), (q_mrl, .inl (k_mrl, n_mrl, .inl u8.2))] H := hP
          have hD : va_D A [(q_msa, .inl (k_msa, n_msa, .inl msam)), (q_mbi, .inl (k_mbi, n_mbi, .inl u7.2.2.2.2.2.2.2.2.1)), (q_mcx, .inl (k_mcx, n_mcx, .inl u7.2.2.2.2.2.2.2.2.2.1)), (q_mpa, .inl (k_mpa, n_mpa, .inl u7.2.2.2.2.2.2.2.2.2.2.1)), (q_mrd, .inl (k_mrd, n_mrd, .inl mreads)), (q_mfa, .inl (k_mfa, n_mfa, .inl u7.2.2.2.2.2.2.2.2.2.2.2.2.2.1)), (q_mse, .inl (k_mse, n_mse, .inl u7.2.2.2.2.2.2.2.2.2.2.2.2.2.2.1)), (q_mrf, .inl (k_mrf, n_mrf, .inl u7.2.2.2.2.2.2.2.2.2.2.2.2.2.2.2.1)), (q_mo, .inr (5, [.int u2, .int mw, .int mh, .int mst, .int mbd, .ref q_msa, .int u7.2.2.1, .ref q_mbi, .ref q_mcx, .ref q_mpa, .int mps, .ref q_mle, .ref q_mdi, .int mtr, .ref q_mrd, .int (1 : Int32), .int u7.2.2.2.1, .int u7.2.2.2.2.1, .int u7.2.2.2.2.2.1, .int u7.2.2.2.2.2.2.1, .int u7.2.2.2.2.2.2.2.1, .ref q_msz, .ref q_mbe, .ref q_mfa, .ref q_mse, .ref q_mrf, .ref q_mlo, .ref q_mos, .ref q_mwb, .ref q_mol, .ref q_mrv, .ref q_mrl])), (q_msz, .inl (k_msz, n_msz, .inl u7.2.2.2.2.2.2.2.2.2.2.2.1)), (q_mbe, .inl (k_mbe, n_mbe, .inl u7.2.2.2.2.2.2.2.2.2.2.2.2.1)), (q_mlo, .inl (k_mlo, n_mlo, .inl u7.2.2.2.2.2.2.2.2.2.2.2.2.2.2.2.2.1)), (q_mos, .inl (k_mos, n_mos, .inl u7.2.2.2.2.2.2.2.2.2.2.2.2.2.2.2.2.2.1)), (q_mwb, .inl (k_mwb, n_mwb, .inl u7.2.2.2.2.2.2.2.2.2.2.2.2.2.2.2.2.2.2.1)), (q_mol, .inl (k_mol, n_mol, .inl u7.2.2.2.2.2.2.2.2.2.2.2.2.2.2.2.2.2.2.2)), (q_mrv, .inl (k_mrv, n_mrv, .inl u8.1)), (q_mrl, .inl (k_mrl, n_mrl, .inl u8.2))] := hD
          refine lv_aload_n hx hb d_M_decode_131 rfl (lv_at hl 3 rfl) ?_
          refine va_get (D := (dC, dI)) (ci := 5) (v := .int u7.2.2.2.2.1) (C := R_M) (T := T_M) (N := 32) hx hb hts ki_M hown hK hP 8 rfl rfl 17 (by decide) (hts _ kw_3_150) (fun _ h9 => h9) rfl d_M_decode_132 ?_
          refine lv_if_ne (tgt := 143) hx hb d_M_decode_135 (by decide) (fun c9 => ?_) (fun c9 => ?_)
          · have hF := kc_neg c9 hF
            refine lv_iload hx hb d_M_decode_143 (lv_at hl 1 rfl) ?_
            refine lv_goto (tgt := 154) hx hb d_M_decode_145 (by decide) ?_
            obtain rfl := Option.some.inj hF
            exact ku_iret hx hb hr hlocks hQ (hP.sub [8, 0, 1, 2, 3, 4, 9, 10, 5, 6, 7, 11, 12, 13, 14, 15, 16] rfl) (hD.sub [8, 0, 1, 2, 3, 4, 9, 10, 5, 6, 7, 11, 12, 13, 14, 15, 16] (by decide) rfl) hS d_M_decode_154
          have hF := kc_pos c9 hF
          refine lv_iload hx hb d_M_decode_138 (lv_at hl 0 rfl) ?_
          refine lv_if_eq (tgt := 148) hx hb d_M_decode_140 (by decide) (fun c10 => ?_) (fun c10 => ?_)
          · have hF := kc_pos c10 hF
            refine lv_iconst (v := -1) hx hb d_M_decode_148 (by decide) ?_
            refine lv_iload hx hb d_M_decode_149 (lv_at hl 1 rfl) ?_
            refine lv_iconst (v := 1) hx hb d_M_decode_151 (by decide) ?_
            refine lv_isub hx hb d_M_decode_152 ?_
            refine lv_isub hx hb d_M_decode_153 ?_
            obtain rfl := Option.some.inj hF
            exact ku_iret hx hb hr hlocks hQ (hP.sub [8, 0, 1, 2, 3, 4, 9, 10, 5, 6, 7, 11, 12, 13, 14, 15, 16] rfl) (hD.sub [8, 0, 1, 2, 3, 4, 9, 10, 5, 6, 7, 11, 12, 13, 14, 15, 16] (by decide) rfl) hS d_M_decode_154
          have hF := kc_neg c10 hF
          refine lv_iload hx hb d_M_decode_143 (lv_at hl 1 rfl) ?_
          refine lv_goto (tgt := 154) hx hb d_M_decode_145 (by decide) ?_
          obtain rfl := Option.some.inj hF
          exact ku_iret hx hb hr hlocks hQ (hP.sub [8, 0, 1, 2, 3, 4, 9, 10, 5, 6, 7, 11, 12, 13, 14, 15, 16] rfl) (hD.sub [8, 0, 1, 2, 3, 4, 9, 10, 5, 6, 7, 11, 12, 13, 14, 15, 16] (by decide) rfl) hS d_M_decode_154
        have hIu7 : ∀ (N : Nat) (v75_4 : Int32) (v75_5 : Int32) (mtb_75 : Int32) (mplc_75 : Int32) (mlak_75 : Int32) (mpl_75 : Int32) (mpass_75 : Int32) (mraw_75 : Int32) (mbits_75 : (Nat → Int32)) (mctxs_75 : (Nat → Int32)) (mpaso_75 : (Nat → Int32)) (msizs_75 : (Nat → Int32)) (mbels_75 : (Nat → Int32)) (mfnds_75 : (Nat → Int32)) (mseen_75 : (Nat → Int32)) (mrfnd_75 : (Nat → Int32)) (mlows_75 : (Nat → Int32)) (moszs_75 : (Nat → Int32)) (mwbls_75 : (Nat → Int32)) (molws_75 : (Nat → Int32)), f_M_decode_L75 mw mh mst mbd mtr msam mreads n_msa n_mbi n_mcx n_mpa n_mrd n_msz n_mbe n_mfa n_mse n_mrf n_mlo n_mos n_mwb n_mol a0 u5 N v75_4 v75_5 mtb_75 mplc_75 mlak_75 mpl_75 mpass_75 mraw_75 mbits_75 mctxs_75 mpaso_75 msizs_75 mbels_75 mfnds_75 mseen_75 mrfnd_75 mlows_75 moszs_75 mwbls_75 molws_75 = some u7 → ∀ (H : Heap) (locs : List Loc) (ls : Array Slot), va_P (dC, dI) vwCl [(q_msa, .inl (k_msa, n_msa, .inl msam)), (q_mbi, .inl (k_mbi, n_mbi, .inl mbits_75)), (q_mcx, .inl (k_mcx, n_mcx, .inl mctxs_75)), (q_mpa, .inl (k_mpa, n_mpa, .inl mpaso_75)), (q_mrd, .inl (k_mrd, n_mrd, .inl mreads)), (q_mos, .inl (k_mos, n_mos, .inl moszs_75)), (q_mwb, .inl (k_mwb, n_mwb, .inl mwbls_75)), (q_mol, .inl (k_mol, n_mol, .inl molws_75)), (q_mrv, .inl (k_mrv, n_mrv, .inl mrvas)), (q_mrl, .inl (k_mrl, n_mrl, .inl mrlos)), (q_mo, .inr (5, [.int u2, .int mw, .int mh, .int mst, .int mbd, .ref q_msa, .int mtb_75, .ref q_mbi, .ref q_mcx, .ref q_mpa, .int mps, .ref q_mle, .ref q_mdi, .int mtr, .ref q_mrd, .int (1 : Int32), .int mplc_75, .int mlak_75, .int mpl_75, .int mpass_75, .int mraw_75, .ref q_msz, .ref q_mbe, .ref q_mfa, .ref q_mse, .ref q_mrf, .ref q_mlo, .ref q_mos, .ref q_mwb, .ref q_mol, .ref q_mrv, .ref q_mrl])), (q_msz, .inl (k_msz, n_msz, .inl msizs_75)), (q_mbe, .inl (k_mbe, n_mbe, .inl mbels_75)), (q_mfa, .inl (k_mfa, n_mfa, .inl mfnds_75)), (q_mse, .inl (k_mse, n_mse, .inl mseen_75)), (q_mrf, .inl (k_mrf, n_mrf, .inl mrfnd_75)), (q_mlo, .inl (k_mlo, n_mlo, .inl mlows_75))] H → va_D A [(q_msa, .inl (k_msa, n_msa, .inl msam)), (q_mbi, .inl (k_mbi, n_mbi, .inl mbits_75)), (q_mcx, .inl (k_mcx, n_mcx, .inl mctxs_75)), (q_mpa, .inl (k_mpa, n_mpa, .inl mpaso_75)), (q_mrd, .inl (k_mrd, n_mrd, .inl mreads)), (q_mos, .inl (k_mos, n_mos, .inl moszs_75)), (q_mwb, .inl (k_mwb, n_mwb, .inl mwbls_75)), (q_mol, .inl (k_mol, n_mol, .inl molws_75)), (q_mrv, .inl (k_mrv, n_mrv, .inl mrvas)), (q_mrl, .inl (k_mrl, n_mrl, .inl mrlos)), (q_mo, .inr (5, [.int u2, .int mw, .int mh, .int mst, .int mbd, .ref q_msa, .int mtb_75, .ref q_mbi, .ref q_mcx, .ref q_mpa, .int mps, .ref q_mle, .ref q_mdi, .int mtr, .ref q_mrd, .int (1 : Int32), .int mplc_75, .int mlak_75, .int mpl_75, .int mpass_75, .int mraw_75, .ref q_msz, .ref q_mbe, .ref q_mfa, .ref q_mse, .ref q_mrf, .ref q_mlo, .ref q_mos, .ref q_mwb, .ref q_mol, .ref q_mrv, .ref q_mrl])), (q_msz, .inl (k_msz, n_msz, .inl msizs_75)), (q_mbe, .inl (k_mbe, n_mbe, .inl mbels_75)), (q_mfa, .inl (k_mfa, n_mfa, .inl mfnds_75)), (q_mse, .inl (k_mse, n_mse, .inl mseen_75)), (q_mrf, .inl (k_mrf, n_mrf, .inl mrfnd_75)), (q_mlo, .inl (k_mlo, n_mlo, .inl mlows_75))] → va_S A s.heap H locs → lv_has ls 6 [(5, .int v75_5), (4, .int v75_4), (3, .int u5), (0, .ref q_mo), (1, .int a0), (2, .int a1)] → W p l e rm_M_decode s m args below meth c H locs 0 0 Q (F0 m 75 ls []) := by
          intro N
          induction N with
          | zero => intro v75_4 v75_5 mtb_75 mplc_75 mlak_75 mpl_75 mpass_75 mraw_75 mbits_75 mctxs_75 mpaso_75 msizs_75 mbels_75 mfnds_75 mseen_75 mrfnd_75 mlows_75 moszs_75 mwbls_75 molws_75 hF; rw [f_M_decode_L75] at hF; cases hF
          | succ N ih =>
            intro v75_4 v75_5 mtb_75 mplc_75 mlak_75 mpl_75 mpass_75 mraw_75 mbits_75 mctxs_75 mpaso_75 msizs_75 mbels_75 mfnds_75 mseen_75 mrfnd_75 mlows_75 moszs_75 mwbls_75 molws_75 hF
            intro H locs ls hP hD hS hl
            rw [f_M_decode_L75] at hF
            refine lv_iload hx hb d_M_decode_75 (lv_at hl 1 rfl) ?_
            refine lv_iload_n hx hb d_M_decode_77 rfl (lv_at hl 2 rfl) ?_
            refine lv_icmp_ge (tgt := 127) hx hb d_M_decode_78 (by decide) (fun c11 => ?_) (fun c11 => ?_)
            · have hF := kc_pos c11 hF
              obtain rfl := Option.some.inj hF
              exact hJu7_127 _ _ _ hP hD hS (lv_sub hl [0, 1, 2, 3, 4, 5] rfl)
            have hF := kc_neg c11 hF
            refine lv_iload hx hb d_M_decode_81 (lv_at hl 0 rfl) ?_
            refine lv_if_eq (tgt := 127) hx hb d_M_decode_83 (by decide) (fun c12 => ?_) (fun c12 => ?_)
            · have hF := kc_pos c12 hF
              obtain rfl := Option.some.inj hF
              exact hJu7_127 _ _ _ hP hD hS (lv_sub hl [0, 1, 2, 3, 4, 5] rfl)
            have hF := kc_neg c12 hF
            refine lv_aload_n hx hb d_M_decode_86 rfl (lv_at hl 3 rfl) ?_
            refine va_get (D := (dC, dI)) (ci := 5) (v := .int mlak_75) (C := R_M) (T := T_M) (N := 32) hx hb hts ki_M hown hK hP 10 rfl rfl 17 (by decide) (hts _ kw_3_150) (fun _ h9 => h9) rfl d_M_decode_87 ?_
            refine lv_if_ne (tgt := 127) hx hb d_M_decode_90 (by decide) (fun c13 => ?_) (fun c13 => ?_)
            · have hF := kc_neg c13 hF
              obtain rfl := Option.some.inj hF
              exact hJu7_127 _ _ _ hP hD hS (lv_sub hl [0, 1, 2, 3, 4, 5] rfl)
            have hF := kc_pos c13 hF
            refine lv_aload_n hx hb d_M_decode_93 rfl (lv_at hl 3 rfl) ?_
            obtain ⟨u14, hc, hF⟩ := kc_bnd hF
            refine ku_call (wr := [(q_msa, .inl (k_msa, n_msa, .inl msam)), (q_mbi, .inl (k_mbi, n_mbi, .inl mbits_75)), (q_mcx, .inl (k_mcx, n_mcx, .inl mctxs_75)), (q_mpa, .inl (k_mpa, n_mpa, .inl mpaso_75)), (q_mrd, .inl (k_mrd, n_mrd, .inl mreads)), (q_mrv, .inl (k_mrv, n_mrv, .inl mrvas)), (q_mrl, .inl (k_mrl, n_mrl, .inl mrlos)), (q_mfa, .inl (k_mfa, n_mfa, .inl mfnds_75)), (q_mse, .inl (k_mse, n_mse, .inl mseen_75)), (q_mrf, .inl (k_mrf, n_mrf, .inl mrfnd_75))]) hA (va_runV (As := []) (rest := []) ⟨hx, hb, hml, hown, hts⟩ (m_M_save l dC dI q_mo q_msa q_mbi q_mcx q_mpa q_mle q_mdi q_mrd q_msz q_mbe q_mfa q_mse q_mrf q_mlo q_mos q_mwb q_mol q_mrv q_mrl k_msz n_msz k_mbe n_mbe k_mlo n_mlo k_mos n_mos k_mwb n_mwb k_mol n_mol u2 mw mh mst mbd mtb_75 mps mtr (1 : Int32) mplc_75 mlak_75 mpl_75 mpass_75 mraw_75 msizs_75 mbels_75 mlows_75 moszs_75 mwbls_75 molws_75 _ hc H.size) (cwV 0 hts (kgV kw_4_157 kw_4_159 kp_46 kw_1_8 kw_4_160) rfl rfl rfl (by decide +kernel) ⟨Nat.le_of_ble_eq_true rfl, Nat.le_of_ble_eq_true rfl⟩) ⟨kPre_blind, va_recv hK hP (ci := 5) (q0 := 10) rfl rfl, kPre_of (hP.sub [10, 11, 12, 16, 5, 6, 7] rfl) (hK.sub [5, 6, 10, 11, 12, 13] rfl) (hD.sub [10, 11, 12, 16, 5, 6, 7] (by decide) rfl) hN⟩ rfl rfl hl.1 rfl (lv_room (Nat.le_of_ble_eq_true rfl)) d_M_decode_94 ⟨Nat.le_of_ble_eq_true rfl, Nat.le_of_ble_eq_true rfl⟩) hP hD hS [10, 11, 12, 16, 5, 6, 7] [0, 1, 2, 3, 4, 8, 9, 13, 14, 15] rfl rfl (by decide) (by decide) (fun H locs hP hD hS => ?_)
            have hP : va_P (dC, dI) vwCl [(q_msa, .inl (k_msa, n_msa, .inl msam)), (q_mbi, .inl (k_mbi, n_mbi, .inl mbits_75)), (q_mcx, .inl (k_mcx, n_mcx, .inl mctxs_75)), (q_mpa, .inl (k_mpa, n_mpa, .inl mpaso_75)), (q_mrd, .inl (k_mrd, n_mrd, .inl mreads)), (q_mrv, .inl (k_mrv, n_mrv, .inl mrvas)), (q_mrl, .inl (k_mrl, n_mrl, .inl mrlos)), (q_mfa, .inl (k_mfa, n_mfa, .inl mfnds_75)), (q_mse, .inl (k_mse, n_mse, .inl mseen_75)), (q_mrf, .inl (k_mrf, n_mrf, .inl mrfnd_75)), (q_mo, .inr (5, [.int u2, .int mw, .int mh, .int mst, .int mbd, .ref q_msa, .int mtb_75, .ref q_mbi, .ref q_mcx, .ref q_mpa, .int mps, .ref q_mle, .ref q_mdi, .int mtr, .ref q_mrd, .int (1 : Int32), .int mplc_75, .int mlak_75, .int mpl_75, .int mpass_75, .int mraw_75, .ref q_msz, .ref q_mbe, .ref q_mfa, .ref q_mse, .ref q_mrf, .ref q_mlo, .ref q_mos, .ref q_mwb, .ref q_mol, .ref q_mrv, .ref q_mrl])), (q_msz, .inl (k_msz, n_msz, .inl msizs_75)), (q_mbe, .inl (k_mbe, n_mbe, .inl mbels_75)), (q_mlo, .inl (k_mlo, n_mlo, .inl mlows_75)), (q_mos, .inl (k_mos, n_mos, .inl u14.1)), (q_mwb, .inl (k_mwb, n_mwb, .inl u14.2.1)), (q_mol, .inl (k_mol, n_mol, .inl u14.2.2))] H := hP
            have hD : va_D A [(q_msa, .inl (k_msa, n_msa, .inl msam)), (q_mbi, .inl (k_mbi, n_mbi, .inl mbits_75)), (q_mcx, .inl (k_mcx, n_mcx, .inl mctxs_75)), (q_mpa, .inl (k_mpa, n_mpa, .inl mpaso_75)), (q_mrd, .inl (k_mrd, n_mrd, .inl mreads)), (q_mrv, .inl (k_mrv, n_mrv, .inl mrvas)), (q_mrl, .inl (k_mrl, n_mrl, .inl mrlos)), (q_mfa, .inl (k_mfa, n_mfa, .inl mfnds_75)), (q_mse, .inl (k_mse, n_mse, .inl mseen_75)), (q_mrf, .inl (k_mrf, n_mrf, .inl mrfnd_75)), (q_mo, .inr (5, [.int u2, .int mw, .int mh, .int mst, .int mbd, .ref q_msa, .int mtb_75, .ref q_mbi, .ref q_mcx, .ref q_mpa, .int mps, .ref q_mle, .ref q_mdi, .int mtr, .ref q_mrd, .int (1 : Int32), .int mplc_75, .int mlak_75, .int mpl_75, .int mpass_75, .int mraw_75, .ref q_msz, .ref q_mbe, .ref q_mfa, .ref q_mse, .ref q_mrf, .ref q_mlo, .ref q_mos, .ref q_mwb, .ref q_mol, .ref q_mrv, .ref q_mrl])), (q_msz, .inl (k_msz, n_msz, .inl msizs_75)), (q_mbe, .inl (k_mbe, n_mbe, .inl mbels_75)), (q_mlo, .inl (k_mlo, n_mlo, .inl mlows_75)), (q_mos, .inl (k_mos, n_mos, .inl u14.1)), (q_mwb, .inl (k_mwb, n_mwb, .inl u14.2.1)), (q_mol, .inl (k_mol, n_mol, .inl u14.2.2))] := hD
            refine lv_aload_n hx hb d_M_decode_97 rfl (lv_at hl 3 rfl) ?_
            refine lv_iload hx hb d_M_decode_98 (lv_at hl 1 rfl) ?_
            refine lv_iload_n hx hb d_M_decode_100 rfl (lv_at hl 4 rfl) ?_
            obtain ⟨u15, hc, hF⟩ := kc_bnd hF
            refine ku_call (wr := [(q_mrv, .inl (k_mrv, n_mrv, .inl mrvas)), (q_mrl, .inl (k_mrl, n_mrl, .inl mrlos)), (q_mos, .inl (k_mos, n_mos, .inl u14.1)), (q_mwb, .inl (k_mwb, n_mwb, .inl u14.2.1)), (q_mol, .inl (k_mol, n_mol, .inl u14.2.2))]) hA (va_runV (As := [.int v75_4, .int a0]) (rest := []) ⟨hx, hb, hml, hown, hts⟩ (m_M_go l dC dI q_mo q_msa q_mbi q_mcx q_mpa q_mle q_mdi q_mrd q_msz q_mbe q_mfa q_mse q_mrf q_mlo q_mos q_mwb q_mol q_mrv q_mrl k_msa n_msa k_mbi n_mbi k_mcx n_mcx k_mpa n_mpa k_mrd n_mrd k_msz n_msz k_mbe n_mbe k_mfa n_mfa k_mse n_mse k_mrf n_mrf k_mlo n_mlo u2 mw mh mst mbd mtb_75 mps mtr (1 : Int32) mplc_75 mlak_75 mpl_75 mpass_75 mraw_75 msam mbits_75 mctxs_75 mpaso_75 mreads msizs_75 mbels_75 mfnds_75 mseen_75 mrfnd_75 mlows_75 v75_4 a0 _ hc H.size) (cwV 2 hts (kgV kw_4_31 kw_4_33 kp_26 kw_1_8 kw_4_34) rfl rfl rfl (by decide +kernel) ⟨Nat.le_of_ble_eq_true rfl, Nat.le_of_ble_eq_true rfl⟩) ⟨kPre_blind, va_recv hK hP (ci := 5) (q0 := 10) rfl rfl, kPre_of (hP.sub [10, 0, 1, 2, 3, 4, 11, 12, 7, 8, 9, 13] rfl) (hK.sub [0, 1, 2, 3, 4, 5, 6, 7, 8, 9, 10] rfl) (hD.sub [10, 0, 1, 2, 3, 4, 11, 12, 7, 8, 9, 13] (by decide) rfl) hN⟩ rfl rfl hl.1 rfl (lv_room (Nat.le_of_ble_eq_true rfl)) d_M_decode_101 ⟨Nat.le_of_ble_eq_true rfl, Nat.le_of_ble_eq_true rfl⟩) hP hD hS [10, 0, 1, 2, 3, 4, 11, 12, 7, 8, 9, 13] [5, 6, 14, 15, 16] rfl rfl (by decide) (by decide) (fun H locs hP hD hS => ?_)
            have hP : va_P (dC, dI) vwCl [(q_mrv, .inl (k_mrv, n_mrv, .inl mrvas)), (q_mrl, .inl (k_mrl, n_mrl, .inl mrlos)), (q_mos, .inl (k_mos, n_mos, .inl u14.1)), (q_mwb, .inl (k_mwb, n_mwb, .inl u14.2.1)), (q_mol, .inl (k_mol, n_mol, .inl u14.2.2)), (q_mo, .inr (5, [.int u2, .int mw, .int mh, .int mst, .int mbd, .ref q_msa, .int u15.2.1, .ref q_mbi, .ref q_mcx, .ref q_mpa, .int mps, .ref q_mle, .ref q_mdi, .int mtr, .ref q_mrd, .int (1 : Int32), .int u15.2.2.1, .int u15.2.2.2.1, .int u15.2.2.2.2.1, .int u15.2.2.2.2.2.1, .int u15.2.2.2.2.2.2.1, .ref q_msz, .ref q_mbe, .ref q_mfa, .ref q_mse, .ref q_mrf, .ref q_mlo, .ref q_mos, .ref q_mwb, .ref q_mol, .ref q_mrv, .ref q_mrl])), (q_msa, .inl (k_msa, n_msa, .inl msam)), (q_mbi, .inl (k_mbi, n_mbi, .inl u15.2.2.2.2.2.2.2.1)), (q_mcx, .inl (k_mcx, n_mcx, .inl u15.2.2.2.2.2.2.2.2.1)), (q_mpa, .inl (k_mpa, n_mpa, .inl u15.2.2.2.2.2.2.2.2.2.1)), (q_mrd, .inl (k_mrd, n_mrd, .inl mreads)), (q_msz, .inl (k_msz, n_msz, .inl u15.2.2.2.2.2.2.2.2.2.2.1)), (q_mbe, .inl (k_mbe, n_mbe, .inl u15.2.2.2.2.2.2.2.2.2.2.2.1)), (q_mfa, .inl (k_mfa, n_mfa, .inl u15.2.2.2.2.2.2.2.2.2.2.2.2.1)), (q_mse, .inl (k_mse, n_mse, .inl u15.2.2.2.2.2.2.2.2.2.2.2.2.2.1)), (q_mrf, .inl (k_mrf, n_mrf, .inl u15.2.2.2.2.2.2.2.2.2.2.2.2.2.2.1)), (q_mlo, .inl (k_mlo, n_mlo, .inl u15.2.2.2.2.2.2.2.2.2.2.2.2.2.2.2))] H := hP
            have hD : va_D A [(q_mrv, .inl (k_mrv, n_mrv, .inl mrvas)), (q_mrl, .inl (k_mrl, n_mrl, .inl mrlos)), (q_mos, .inl (k_mos, n_mos, .inl u14.1)), (q_mwb, .inl (k_mwb, n_mwb, .inl u14.2.1)), (q_mol, .inl (k_mol, n_mol, .inl u14.2.2)), (q_mo, .inr (5, [.int u2, .int mw, .int mh, .int mst, .int mbd, .ref q_msa, .int u15.2.1, .ref q_mbi, .ref q_mcx, .ref q_mpa, .int mps, .ref q_mle, .ref q_mdi, .int mtr, .ref q_mrd, .int (1 : Int32), .int u15.2.2.1, .int u15.2.2.2.1, .int u15.2.2.2.2.1, .int u15.2.2.2.2.2.1, .int u15.2.2.2.2.2.2.1, .ref q_msz, .ref q_mbe, .ref q_mfa, .ref q_mse, .ref q_mrf, .ref q_mlo, .ref q_mos, .ref q_mwb, .ref q_mol, .ref q_mrv, .ref q_mrl])), (q_msa, .inl (k_msa, n_msa, .inl msam)), (q_mbi, .inl (k_mbi, n_mbi, .inl u15.2.2.2.2.2.2.2.1)), (q_mcx, .inl (k_mcx, n_mcx, .inl u15.2.2.2.2.2.2.2.2.1)), (q_mpa, .inl (k_mpa, n_mpa, .inl u15.2.2.2.2.2.2.2.2.2.1)), (q_mrd, .inl (k_mrd, n_mrd, .inl mreads)), (q_msz, .inl (k_msz, n_msz, .inl u15.2.2.2.2.2.2.2.2.2.2.1)), (q_mbe, .inl (k_mbe, n_mbe, .inl u15.2.2.2.2.2.2.2.2.2.2.2.1)), (q_mfa, .inl (k_mfa, n_mfa, .inl u15.2.2.2.2.2.2.2.2.2.2.2.2.1)), (q_mse, .inl (k_mse, n_mse, .inl u15.2.2.2.2.2.2.2.2.2.2.2.2.2.1)), (q_mrf, .inl (k_mrf, n_mrf, .inl u15.2.2.2.2.2.2.2.2.2.2.2.2.2.2.1)), (q_mlo, .inl (k_mlo, n_mlo, .inl u15.2.2.2.2.2.2.2.2.2.2.2.2.2.2.2))] := hD
            refine lv_istore (lv' := [(5, .int u15.1), (4, .int v75_4), (3, .int u5), (0, .ref q_mo), (1, .int a0), (2, .int a1)]) hx hb d_M_decode_104 hl (by decide) rfl (fun ls hl => ?_)
            refine lv_aload_n hx hb d_M_decode_106 rfl (lv_at hl 3 rfl) ?_
            refine va_get (D := (dC, dI)) (ci := 5) (v := .int u15.2.2.2.1) (C := R_M) (T := T_M) (N := 32) hx hb hts ki_M hown hK hP 5 rfl rfl 17 (by decide) (hts _ kw_3_150) (fun _ h9 => h9) rfl d_M_decode_107 ?_
            obtain ⟨u17, hcu17, hF⟩ := kc_bnd hF
            have hJu17 : ∀ (H : Heap) (locs : List Loc) (ls : Array Slot), va_P (dC, dI) vwCl [(q_mrv, .inl (k_mrv, n_mrv, .inl mrvas)), (q_mrl, .inl (k_mrl, n_mrl, .inl mrlos)), (q_mos, .inl (k_mos, n_mos, .inl u14.1)), (q_mwb, .inl (k_mwb, n_mwb, .inl u14.2.1)), (q_mol, .inl (k_mol, n_mol, .inl u14.2.2)), (q_mo, .inr (5, [.int u2, .int mw, .int mh, .int mst, .int mbd, .ref q_msa, .int u15.2.1, .ref q_mbi, .ref q_mcx, .ref q_mpa, .int mps, .ref q_mle, .ref q_mdi, .int mtr, .ref q_mrd, .int (1 : Int32), .int u15.2.2.1, .int u15.2.2.2.1, .int u15.2.2.2.2.1, .int u15.2.2.2.2.2.1, .int u15.2.2.2.2.2.2.1, .ref q_msz, .ref q_mbe, .ref q_mfa, .ref q_mse, .ref q_mrf, .ref q_mlo, .ref q_mos, .ref q_mwb, .ref q_mol, .ref q_mrv, .ref q_mrl])), (q_msa, .inl (k_msa, n_msa, .inl msam)), (q_mbi, .inl (k_mbi, n_mbi, .inl u15.2.2.2.2.2.2.2.1)), (q_mcx, .inl (k_mcx, n_mcx, .inl u15.2.2.2.2.2.2.2.2.1)), (q_mpa, .inl (k_mpa, n_mpa, .inl u15.2.2.2.2.2.2.2.2.2.1)), (q_mrd, .inl (k_mrd, n_mrd, .inl mreads)), (q_msz, .inl (k_msz, n_msz, .inl u15.2.2.2.2.2.2.2.2.2.2.1)), (q_mbe, .inl (k_mbe, n_mbe, .inl u15.2.2.2.2.2.2.2.2.2.2.2.1)), (q_mfa, .inl (k_mfa, n_mfa, .inl u15.2.2.2.2.2.2.2.2.2.2.2.2.1)), (q_mse, .inl (k_mse, n_mse, .inl u15.2.2.2.2.2.2.2.2.2.2.2.2.2.1)), (q_mrf, .inl (k_mrf, n_mrf, .inl u15.2.2.2.2.2.2.2.2.2.2.2.2.2.2.1)), (q_mlo, .inl (k_mlo, n_mlo, .inl u15.2.2.2.2.2.2.2.2.2.2.2.2.2.2.2))] H → va_D A [(q_mrv, .inl (k_mrv, n_mrv, .inl mrvas)), (q_mrl, .inl (k_mrl, n_mrl, .inl mrlos)), (q_mos, .inl (k_mos, n_mos, .inl u14.1)), (q_mwb, .inl (k_mwb, n_mwb, .inl u14.2.1)), (q_mol, .inl (k_mol, n_mol, .inl u14.2.2)), (q_mo, .inr (5, [.int u2, .int mw, .int mh, .int mst, .int mbd, .ref q_msa, .int u15.2.1, .ref q_mbi, .ref q_mcx, .ref q_mpa, .int mps, .ref q_mle, .ref q_mdi, .int mtr, .ref q_mrd, .int (1 : Int32), .int u15.2.2.1, .int u15.2.2.2.1, .int u15.2.2.2.2.1, .int u15.2.2.2.2.2.1, .int u15.2.2.2.2.2.2.1, .ref q_msz, .ref q_mbe, .ref q_mfa, .ref q_mse, .ref q_mrf, .ref q_mlo, .ref q_mos, .ref q_mwb, .ref q_mol, .ref q_mrv, .ref q_mrl])), (q_msa, .inl (k_msa, n_msa, .inl msam)), (q_mbi, .inl (k_mbi, n_mbi, .inl u15.2.2.2.2.2.2.2.1)), (q_mcx, .inl (k_mcx, n_mcx, .inl u15.2.2.2.2.2.2.2.2.1)), (q_mpa, .inl (k_mpa, n_mpa, .inl u15.2.2.2.2.2.2.2.2.2.1)), (q_mrd, .inl (k_mrd, n_mrd, .inl mreads)), (q_msz, .inl (k_msz, n_msz, .inl u15.2.2.2.2.2.2.2.2.2.2.1)), (q_mbe, .inl (k_mbe, n_mbe, .inl u15.2.2.2.2.2.2.2.2.2.2.2.1)), (q_mfa, .inl (k_mfa, n_mfa, .inl u15.2.2.2.2.2.2.2.2.2.2.2.2.1)), (q_mse, .inl (k_mse, n_mse, .inl u15.2.2.2.2.2.2.2.2.2.2.2.2.2.1)), (q_mrf, .inl (k_mrf, n_mrf, .inl u15.2.2.2.2.2.2.2.2.2.2.2.2.2.2.1)), (q_mlo, .inl (k_mlo, n_mlo, .inl u15.2.2.2.2.2.2.2.2.2.2.2.2.2.2.2))] → va_S A s.heap H locs → lv_has ls 6 [(5, .int u15.1), (4, .int v75_4), (3, .int u5), (0, .ref q_mo), (1, .int a0), (2, .int a1)] → W p l e rm_M_decode s m args below meth c H locs 0 0 Q (F0 m 122 ls [.int u17]) := by
              intro H locs ls hP hD hS hl
              refine lv_istore (lv' := [(4, .int u17), (5, .int u15.1), (3, .int u5), (0, .ref q_mo), (1, .int a0), (2, .int a1)]) hx hb d_M_decode_122 hl (by decide) rfl (fun ls hl => ?_)
              refine lv_goto (tgt := 75) hx hb d_M_decode_124 (by decide) ?_
              exact ih _ _ _ _ _ _ _ _ _ _ _ _ _ _ _ _ _ _ _ _ hF _ _ _ (hP.sub [6, 7, 8, 9, 10, 2, 3, 4, 0, 1, 5, 11, 12, 13, 14, 15, 16] rfl) (hD.sub [6, 7, 8, 9, 10, 2, 3, 4, 0, 1, 5, 11, 12, 13, 14, 15, 16] (by decide) rfl) hS (lv_sub hl [1, 0, 2, 3, 4, 5] rfl)
            clear hF; have hF := hcu17; clear hcu17
            refine lv_if_eq (tgt := 118) hx hb d_M_decode_110 (by decide) (fun c16 => ?_) (fun c16 => ?_)
            · have hF := kc_pos c16 hF
              refine lv_iload hx hb d_M_decode_118 (lv_at hl 1 rfl) ?_
              refine lv_iconst (v := 1) hx hb d_M_decode_120 (by decide) ?_
              refine lv_iadd hx hb d_M_decode_121 ?_
              obtain rfl := Option.some.inj hF
              exact hJu17 _ _ _ hP hD hS (lv_sub hl [0, 1, 2, 3, 4, 5] rfl)
            have hF := kc_neg c16 hF
            refine lv_iload hx hb d_M_decode_113 (lv_at hl 1 rfl) ?_
            refine lv_goto (tgt := 122) hx hb d_M_decode_115 (by decide) ?_
            obtain rfl := Option.some.inj hF
            exact hJu17 _ _ _ hP hD hS (lv_sub hl [0, 1, 2, 3, 4, 5] rfl)
        exact hIu7 _ _ _ _ _ _ _ _ _ _ _ _ _ _ _ _ _ _ _ _ _ hcu7 _ _ _ hP hD hS (lv_sub hl [0, 1, 2, 3, 4, 5] rfl)
      clear hF; have hF := hcu5; clear hcu5
      refine lv_icmp_ge (tgt := 47) hx hb d_M_decode_37 (by decide) (fun c4 => ?_) (fun c4 => ?_)
      · have hF := kc_pos c4 hF
        refine lv_iload_n hx hb d_M_decode_47 rfl (lv_at hl 2 rfl) ?_
        obtain rfl := Option.some.inj hF
        exact hJu5 _ _ _ hP hD hS (lv_sub hl [0, 1, 2] rfl)
      have hF := kc_neg c4 hF
      refine lv_iload_n hx hb d_M_decode_40 rfl (lv_at hl 1 rfl) ?_
      refine kr_call (va_runS (As := [.int a0]) (rest := []) ⟨hx, hb, hml, hown, hts⟩ (m_MS_passesFor l dC dI a0 (f_MS_passesFor a0) rfl) (va_cwS 1 hts (kgS kw_4_24 kw_4_25 kw_1_8 kw_4_26) rfl rfl rfl (by decide +kernel) ⟨Nat.le_of_ble_eq_true rfl, Nat.le_of_ble_eq_true rfl⟩) ⟨kRe_blind, kRe_of (hP.sub [] rfl) (hK.sub [] rfl) hN⟩ rfl rfl hl.1 rfl (lv_room (Nat.le_of_ble_eq_true rfl)) d_M_decode_41 ⟨Nat.le_of_ble_eq_true rfl, Nat.le_of_ble_eq_true rfl⟩) ?_
      refine lv_goto (tgt := 48) hx hb d_M_decode_44 (by decide) ?_
      obtain rfl := Option.some.inj hF
      exact hJu5 _ _ _ hP hD hS (lv_sub hl [0, 1, 2] rfl)
    have hF := kc_neg c3 hF
    refine lv_iconst (v := 0) hx hb d_M_decode_30 (by decide) ?_
    obtain rfl := Option.some.inj hF
    exact ku_iret hx hb hr hlocks hQ (hP.sub [0, 1, 2, 3, 4, 5, 6, 7, 8, 9, 10, 11, 12, 13, 14, 15, 16] rfl) (hD.sub [0, 1, 2, 3, 4, 5, 6, 7, 8, 9, 10, 11, 12, 13, 14, 15, 16] (by decide) rfl) hS d_M_decode_31
  clear hF; have hF := hcu2; clear hcu2
  refine lv_if_lt (tgt := 15) hx hb d_M_decode_2 (by decide) (fun c1 => ?_) (fun c1 => ?_)
  · have hF := kc_pos c1 hF
    refine lv_iconst (v := 1) hx hb d_M_decode_15 (by decide) ?_
    refine lv_goto (tgt := 20) hx hb d_M_decode_16 (by decide) ?_
    obtain rfl := Option.some.inj hF
    exact hJu2 _ _ _ hP hD hS (lv_sub hl [0, 1, 2] rfl)
  have hF := kc_neg c1 hF
  refine lv_iload_n hx hb d_M_decode_5 rfl (lv_at hl 1 rfl) ?_
  refine lv_bipush (v := 15) hx hb d_M_decode_6 (by decide) ?_
  refine lv_icmp_gt (tgt := 15) hx hb d_M_decode_8 (by decide) (fun c18 => ?_) (fun c18 => ?_)
  · have hF := kc_pos c18 hF
    refine lv_iconst (v := 1) hx hb d_M_decode_15 (by decide) ?_
    refine lv_goto (tgt := 20) hx hb d_M_decode_16 (by decide) ?_
    obtain rfl := Option.some.inj hF
    exact hJu2 _ _ _ hP hD hS (lv_sub hl [0, 1, 2] rfl)
  have hF := kc_neg c18 hF
  refine lv_iload_n hx hb d_M_decode_11 rfl (lv_at hl 2 rfl) ?_
  refine lv_if_ge (tgt := 19) hx hb d_M_decode_12 (by decide) (fun c19 => ?_) (fun c19 => ?_)
  · have hF := kc_pos c19 hF
    refine lv_iconst (v := 0) hx hb d_M_decode_19 (by decide) ?_
    obtain rfl := Option.some.inj hF
    exact hJu2 _ _ _ hP hD hS (lv_sub hl [0, 1, 2] rfl)
  have hF := kc_neg c19 hF
  refine lv_iconst (v := 1) hx hb d_M_decode_15 (by decide) ?_
  refine lv_goto (tgt := 20) hx hb d_M_decode_16 (by decide) ?_
  obtain rfl := Option.some.inj hF
  exact hJu2 _ _ _ hP hD hS (lv_sub hl [0, 1, 2] rfl)
abbrev rm_M_at : Room := { frames := 1, cells := 0, slots := 0, locals := 22 }
set_option maxHeartbeats 4000000 in
set_option maxRecDepth 100000 in
theorem m_M_at (l : Launch) (dC : Nat → ClassId) (dI : Nat → Nat → Nat) (q_mo q_msa q_mbi q_mcx q_mpa q_mle q_mdi q_mrd q_msz q_mbe q_mfa q_mse q_mrf q_mlo q_mos q_mwb q_mol q_mrv q_mrl : Nat) (k_mrv : ClassId) (n_mrv : Nat) (mref : Int32) (mw : Int32) (mh : Int32) (mst : Int32) (mbd : Int32) (mtb : Int32) (mps : Int32) (mtr : Int32) (misr : Int32) (mplc : Int32) (mlak : Int32) (mpl : Int32) (mpass : Int32) (mraw : Int32) (mrvas : (Nat → Int32)) (a0 : Int32) (a1 : Int32) (u : Int32 × Int32) (hF : f_M_at mw mh mrvas n_mrv a0 a1 = some u) : ∀ sz : Nat, Met l y_M_at (kws y_M_at c_M_at 3 (some .int)) rm_M_at (kPre (dC, dI) [.ref q_mo, .int a0, .int a1] [(q_mo, .inr (5, [.int mref, .int mw, .int mh, .int mst, .int mbd, .ref q_msa, .int mtb, .ref q_mbi, .ref q_mcx, .ref q_mpa, .int mps, .ref q_mle, .ref q_mdi, .int mtr, .ref q_mrd, .int misr, .int mplc, .int mlak, .int mpl, .int mpass, .int mraw, .ref q_msz, .ref q_mbe, .ref q_mfa, .ref q_mse, .ref q_mrf, .ref q_mlo, .ref q_mos, .ref q_mwb, .ref q_mol, .ref q_mrv, .ref q_mrl])), (q_mrv, .inl (k_mrv, n_mrv, .inl mrvas))] [(k_mrv, .int)] sz) (kPost (dC, dI) (some (.int u.1)) [(q_mo, .inr (5, [.int u.2, .int mw, .int mh, .int mst, .int mbd, .ref q_msa, .int mtb, .ref q_mbi, .ref q_mcx, .ref q_mpa, .int mps, .ref q_mle, .ref q_mdi, .int mtr, .ref q_mrd, .int misr, .int mplc, .int mlak, .int mpl, .int mpass, .int mraw, .ref q_msz, .ref q_mbe, .ref q_mfa, .ref q_mse, .ref q_mrf, .ref q_mlo, .ref q_mos, .ref q_mwb, .ref q_mol, .ref q_mrv, .ref q_mrl])), (q_mrv, .inl (k_mrv, n_mrv, .inl mrvas))] (va_A [(q_mo, .inr (5, [.int mref, .int mw, .int mh, .int mst, .int mbd, .ref q_msa, .int mtb, .ref q_mbi, .ref q_mcx, .ref q_mpa, .int mps, .ref q_mle, .ref q_mdi, .int mtr, .ref q_mrd, .int misr, .int mplc, .int mlak, .int mpl, .int mpass, .int mraw, .ref q_msz, .ref q_mbe, .ref q_mfa, .ref q_mse, .ref q_mrf, .ref q_mlo, .ref q_mos, .ref q_mwb, .ref q_mol, .ref q_mrv, .ref q_mrl])), (q_mrv, .inl (k_mrv, n_mrv, .inl mrvas))] sz)) 0 0 (va_A [(q_mo, .inr (5, [.int mref, .int mw, .int mh, .int mst, .int mbd, .ref q_msa, .int mtb, .ref q_mbi, .ref q_mcx, .ref q_mpa, .int mps, .ref q_mle, .ref q_mdi, .int mtr, .ref q_mrd, .int misr, .int mplc, .int mlak, .int mpl, .int mpass, .int mraw, .ref q_msz, .ref q_mbe, .ref q_mfa, .ref q_mse, .ref q_mrf, .ref q_mlo, .ref q_mos, .ref q_mwb, .ref q_mol, .ref q_mrv, .ref q_mrl])), (q_mrv, .inl (k_mrv, n_mrv, .inl mrvas))] sz) := by
  unfold f_M_at at hF
  refine kU_of (cc := c_M_at) (maxL := 3) (ret := (some .int)) (by decide) (Nat.le_of_ble_eq_true rfl) ?_
  intro p e s m args below meth c Q A hQ hfx hK hN hA H locs ls hP hD hS hl
  obtain ⟨hx, hb, hr, hml, hown, hts, hlocks⟩ := hfx
  have hown : s.vm.findClass R_M = some m.cls := hown
  have hl : lv_has ls 3 [(0, .ref q_mo), (1, .int a0), (2, .int a1)] := hl
  refine lv_aload_n hx hb d_M_at_0 rfl (lv_at hl 0 rfl) ?_
  refine lv_aload_n hx hb d_M_at_1 rfl (lv_at hl 0 rfl) ?_
  refine lv_iload_n hx hb d_M_at_2 rfl (lv_at hl 1 rfl) ?_
  refine lv_iload_n hx hb d_M_at_3 rfl (lv_at hl 2 rfl) ?_
  refine kr_call (va_runV (As := [.int a0, .int a1]) (rest := [.ref q_mo]) ⟨hx, hb, hml, hown, hts⟩ (m_M_isIn l dC dI q_mo q_msa q_mbi q_mcx q_mpa q_mle q_mdi q_mrd q_msz q_mbe q_mfa q_mse q_mrf q_mlo q_mos q_mwb q_mol q_mrv q_mrl mref mw mh mst mbd mtb mps mtr misr mplc mlak mpl mpass mraw a0 a1 (f_M_isIn mw mh a0 a1) rfl) (cwV 2 hts (kgV kw_3_239 kw_4_1 kp_22 kw_1_8 kw_4_2) rfl rfl rfl (by decide +kernel) ⟨Nat.le_of_ble_eq_true rfl, Nat.le_of_ble_eq_true rfl⟩) ⟨kRe_blind, va_recv hK hP (ci := 5) (q0 := 0) rfl rfl, kRe_of (hP.sub [0] rfl) (hK.sub [] rfl) hN⟩ rfl rfl hl.1 rfl (lv_room (Nat.le_of_ble_eq_true rfl)) d_M_at_4 ⟨Nat.le_of_ble_eq_true rfl, Nat.le_of_ble_eq_true rfl⟩) ?_
  obtain ⟨u2, hcu2, hF⟩ := kc_bnd hF
  have hJu2 : ∀ (H : Heap) (locs : List Loc) (ls : Array Slot), va_P (dC, dI) vwCl [(q_mo, .inr (5, [.int mref, .int mw, .int mh, .int mst, .int mbd, .ref q_msa, .int mtb, .ref q_mbi, .ref q_mcx, .ref q_mpa, .int mps, .ref q_mle, .ref q_mdi, .int mtr, .ref q_mrd, .int misr, .int mplc, .int mlak, .int mpl, .int mpass, .int mraw, .ref q_msz, .ref q_mbe, .ref q_mfa, .ref q_mse, .ref q_mrf, .ref q_mlo, .ref q_mos, .ref q_mwb, .ref q_mol, .ref q_mrv, .ref q_mrl])), (q_mrv, .inl (k_mrv, n_mrv, .inl mrvas))] H → va_D A [(q_mo, .inr (5, [.int mref, .int mw, .int mh, .int mst, .int mbd, .ref q_msa, .int mtb, .ref q_mbi, .ref q_mcx, .ref q_mpa, .int mps, .ref q_mle, .ref q_mdi, .int mtr, .ref q_mrd, .int misr, .int mplc, .int mlak, .int mpl, .int mpass, .int mraw, .ref q_msz, .ref q_mbe, .ref q_mfa, .ref q_mse, .ref q_mrf, .ref q_mlo, .ref q_mos, .ref q_mwb, .ref q_mol, .ref q_mrv, .ref q_mrl])), (q_mrv, .inl (k_mrv, n_mrv, .inl mrvas))] → va_S A s.heap H locs → lv_has ls 3 [(0, .ref q_mo), (1, .int a0), (2, .int a1)] → W p l e rm_M_at s m args below meth c H locs 0 0 Q (F0 m 15 ls [.int u2, .ref q_mo]) := by
    intro H locs ls hP hD hS hl
    refine va_put (D := (dC, dI)) (ci := 5) (v := .int u2) (ty := .int) (C := R_M) (T := T_M) (N := 32) hx hb hts ki_M ty_M tyok_M nmok_M hown hK hP hD hS 0 rfl rfl 0 (by decide) (hts _ kw_3_133) (fun _ h9 => h9) rfl (by decide +kernel) rfl rfl (Nat.le_of_ble_eq_true rfl) d_M_at_15 (fun H locs hP hD hS => ?_)
    have hP : va_P (dC, dI) vwCl [(q_mo, .inr (5, [.int u2, .int mw, .int mh, .int mst, .int mbd, .ref q_msa, .int mtb, .ref q_mbi, .ref q_mcx, .ref q_mpa, .int mps, .ref q_mle, .ref q_mdi, .int mtr, .ref q_mrd, .int misr, .int mplc, .int mlak, .int mpl, .int mpass, .int mraw, .ref q_msz, .ref q_mbe, .ref q_mfa, .ref q_mse, .ref q_mrf, .ref q_mlo, .ref q_mos, .ref q_mwb, .ref q_mol, .ref q_mrv, .ref q_mrl])), (q_mrv, .inl (k_mrv, n_mrv, .inl mrvas))] H := hP
    have hD : va_D A [(q_mo, .inr (5, [.int u2, .int mw, .int mh, .int mst, .int mbd, .ref q_msa, .int mtb, .ref q_mbi, .ref q_mcx, .ref q_mpa, .int mps, .ref q_mle, .ref q_mdi, .int mtr, .ref q_mrd, .int misr, .int mplc, .int mlak, .int mpl, .int mpass, .int mraw, .ref q_msz, .ref q_mbe, .ref q_mfa, .ref q_mse, .ref q_mrf, .ref q_mlo, .ref q_mos, .ref q_mwb, .ref q_mol, .ref q_mrv, .ref q_mrl])), (q_mrv, .inl (k_mrv, n_mrv, .inl mrvas))] := hD
    refine lv_aload_n hx hb d_M_at_18 rfl (lv_at hl 0 rfl) ?_
    refine va_get (D := (dC, dI)) (ci := 5) (v := .int u2) (C := R_M) (T := T_M) (N := 32) hx hb hts ki_M hown hK hP 0 rfl rfl 0 (by decide) (hts _ kw_3_133) (fun _ h9 => h9) rfl d_M_at_19 ?_
    refine lv_if_le (tgt := 29) hx hb d_M_at_22 (by decide) (fun c3 => ?_) (fun c3 => ?_)
    · have hF := kc_pos c3 hF
      refine lv_aload_n hx hb d_M_at_29 rfl (lv_at hl 0 rfl) ?_
      refine va_get (D := (dC, dI)) (ci := 5) (v := .ref q_mrv) (C := R_M) (T := T_M) (N := 32) hx hb hts ki_M hown hK hP 0 rfl rfl 30 (by decide) (hts _ kw_3_163) (fun _ h9 => h9) rfl d_M_at_30 ?_
      refine lv_bipush (v := 16) hx hb d_M_at_33 (by decide) ?_
      refine lv_iload_n hx hb d_M_at_35 rfl (lv_at hl 2 rfl) ?_
      refine lv_imul hx hb d_M_at_36 ?_
      refine lv_iload_n hx hb d_M_at_37 rfl (lv_at hl 1 rfl) ?_
      refine lv_iadd hx hb d_M_at_38 ?_
      obtain ⟨h4, hF⟩ := kc_no hF
      refine va_iald hx hb hK hP 1 0 rfl rfl h4 d_M_at_39 ?_
      obtain rfl := Option.some.inj hF
      exact ku_iret hx hb hr hlocks hQ (hP.sub [0, 1] rfl) (hD.sub [0, 1] (by decide) rfl) hS d_M_at_40
    have hF := kc_neg c3 hF
    refine lv_iconst (v := 0) hx hb d_M_at_25 (by decide) ?_
    refine lv_goto (tgt := 40) hx hb d_M_at_26 (by decide) ?_
    obtain rfl := Option.some.inj hF
    exact ku_iret hx hb hr hlocks hQ (hP.sub [0, 1] rfl) (hD.sub [0, 1] (by decide) rfl) hS d_M_at_40
  clear hF; have hF := hcu2; clear hcu2
  refine lv_if_eq (tgt := 14) hx hb d_M_at_7 (by decide) (fun c1 => ?_) (fun c1 => ?_)
  · have hF := kc_pos c1 hF
    refine lv_iconst (v := 1) hx hb d_M_at_14 (by decide) ?_
    obtain rfl := Option.some.inj hF
    exact hJu2 _ _ _ hP hD hS (lv_sub hl [0, 1, 2] rfl)
  have hF := kc_neg c1 hF
  refine lv_iconst (v := 0) hx hb d_M_at_10 (by decide) ?_
  refine lv_goto (tgt := 15) hx hb d_M_at_11 (by decide) ?_
  obtain rfl := Option.some.inj hF
  exact hJu2 _ _ _ hP hD hS (lv_sub hl [0, 1, 2] rfl)
abbrev rm_M_known : Room := { frames := 1, cells := 0, slots := 0, locals := 22 }
set_option maxHeartbeats 4000000 in
set_option maxRecDepth 100000 in
theorem m_M_known (l : Launch) (dC : Nat → ClassId) (dI : Nat → Nat → Nat) (q_mo q_msa q_mbi q_mcx q_mpa q_mle q_mdi q_mrd q_msz q_mbe q_mfa q_mse q_mrf q_mlo q_mos q_mwb q_mol q_mrv q_mrl : Nat) (k_mrl : ClassId) (n_mrl : Nat) (mref : Int32) (mw : Int32) (mh : Int32) (mst : Int32) (mbd : Int32) (mtb : Int32) (mps : Int32) (mtr : Int32) (misr : Int32) (mplc : Int32) (mlak : Int32) (mpl : Int32) (mpass : Int32) (mraw : Int32) (mrlos : (Nat → Int32)) (a0 : Int32) (a1 : Int32) (u : Int32 × Int32) (hF : f_M_known mw mh mrlos n_mrl a0 a1 = some u) : ∀ sz : Nat, Met l y_M_known (kws y_M_known c_M_known 3 (some .int)) rm_M_known (kPre (dC, dI) [.ref q_mo, .int a0, .int a1] [(q_mo, .inr (5, [.int mref, .int mw, .int mh, .int mst, .int mbd, .ref q_msa, .int mtb, .ref q_mbi, .ref q_mcx, .ref q_mpa, .int mps, .ref q_mle, .ref q_mdi, .int mtr, .ref q_mrd, .int misr, .int mplc, .int mlak, .int mpl, .int mpass, .int mraw, .ref q_msz, .ref q_mbe, .ref q_mfa, .ref q_mse, .ref q_mrf, .ref q_mlo, .ref q_mos, .ref q_mwb, .ref q_mol, .ref q_mrv, .ref q_mrl])), (q_mrl, .inl (k_mrl, n_mrl, .inl mrlos))] [(k_mrl, .int)] sz) (kPost (dC, dI) (some (.int u.1)) [(q_mo, .inr (5, [.int u.2, .int mw, .int mh, .int mst, .int mbd, .ref q_msa, .int mtb, .ref q_mbi, .ref q_mcx, .ref q_mpa, .int mps, .ref q_mle, .ref q_mdi, .int mtr, .ref q_mrd, .int misr, .int mplc, .int mlak, .int mpl, .int mpass, .int mraw, .ref q_msz, .ref q_mbe, .ref q_mfa, .ref q_mse, .ref q_mrf, .ref q_mlo, .ref q_mos, .ref q_mwb, .ref q_mol, .ref q_mrv, .ref q_mrl])), (q_mrl, .inl (k_mrl, n_mrl, .inl mrlos))] (va_A [(q_mo, .inr (5, [.int mref, .int mw, .int mh, .int mst, .int mbd, .ref q_msa, .int mtb, .ref q_mbi, .ref q_mcx, .ref q_mpa, .int mps, .ref q_mle, .ref q_mdi, .int mtr, .ref q_mrd, .int misr, .int mplc, .int mlak, .int mpl, .int mpass, .int mraw, .ref q_msz, .ref q_mbe, .ref q_mfa, .ref q_mse, .ref q_mrf, .ref q_mlo, .ref q_mos, .ref q_mwb, .ref q_mol, .ref q_mrv, .ref q_mrl])), (q_mrl, .inl (k_mrl, n_mrl, .inl mrlos))] sz)) 0 0 (va_A [(q_mo, .inr (5, [.int mref, .int mw, .int mh, .int mst, .int mbd, .ref q_msa, .int mtb, .ref q_mbi, .ref q_mcx, .ref q_mpa, .int mps, .ref q_mle, .ref q_mdi, .int mtr, .ref q_mrd, .int misr, .int mplc, .int mlak, .int mpl, .int mpass, .int mraw, .ref q_msz, .ref q_mbe, .ref q_mfa, .ref q_mse, .ref q_mrf, .ref q_mlo, .ref q_mos, .ref q_mwb, .ref q_mol, .ref q_mrv, .ref q_mrl])), (q_mrl, .inl (k_mrl, n_mrl, .inl mrlos))] sz) := by
  unfold f_M_known at hF
  refine kU_of (cc := c_M_known) (maxL := 3) (ret := (some .int)) (by decide) (Nat.le_of_ble_eq_true rfl) ?_
  intro p e s m args below meth c Q A hQ hfx hK hN hA H locs ls hP hD hS hl
  obtain ⟨hx, hb, hr, hml, hown, hts, hlocks⟩ := hfx
  have hown : s.vm.findClass R_M = some m.cls := hown
  have hl : lv_has ls 3 [(0, .ref q_mo), (1, .int a0), (2, .int a1)] := hl
  refine lv_aload_n hx hb d_M_known_0 rfl (lv_at hl 0 rfl) ?_
  refine lv_aload_n hx hb d_M_known_1 rfl (lv_at hl 0 rfl) ?_
  refine lv_iload_n hx hb d_M_known_2 rfl (lv_at hl 1 rfl) ?_
  refine lv_iload_n hx hb d_M_known_3 rfl (lv_at hl 2 rfl) ?_
  refine kr_call (va_runV (As := [.int a0, .int a1]) (rest := [.ref q_mo]) ⟨hx, hb, hml, hown, hts⟩ (m_M_isIn l dC dI q_mo q_msa q_mbi q_mcx q_mpa q_mle q_mdi q_mrd q_msz q_mbe q_mfa q_mse q_mrf q_mlo q_mos q_mwb q_mol q_mrv q_mrl mref mw mh mst mbd mtb mps mtr misr mplc mlak mpl mpass mraw a0 a1 (f_M_isIn mw mh a0 a1) rfl) (cwV 2 hts (kgV kw_3_239 kw_4_1 kp_22 kw_1_8 kw_4_2) rfl rfl rfl (by decide +kernel) ⟨Nat.le_of_ble_eq_true rfl, Nat.le_of_ble_eq_true rfl⟩) ⟨kRe_blind, va_recv hK hP (ci := 5) (q0 := 0) rfl rfl, kRe_of (hP.sub [0] rfl) (hK.sub [] rfl) hN⟩ rfl rfl hl.1 rfl (lv_room (Nat.le_of_ble_eq_true rfl)) d_M_known_4 ⟨Nat.le_of_ble_eq_true rfl, Nat.le_of_ble_eq_true rfl⟩) ?_
  obtain ⟨u2, hcu2, hF⟩ := kc_bnd hF
  have hJu2 : ∀ (H : Heap) (locs : List Loc) (ls : Array Slot), va_P (dC, dI) vwCl [(q_mo, .inr (5, [.int mref, .int mw, .int mh, .int mst, .int mbd, .ref q_msa, .int mtb, .ref q_mbi, .ref q_mcx, .ref q_mpa, .int mps, .ref q_mle, .ref q_mdi, .int mtr, .ref q_mrd, .int misr, .int mplc, .int mlak, .int mpl, .int mpass, .int mraw, .ref q_msz, .ref q_mbe, .ref q_mfa, .ref q_mse, .ref q_mrf, .ref q_mlo, .ref q_mos, .ref q_mwb, .ref q_mol, .ref q_mrv, .ref q_mrl])), (q_mrl, .inl (k_mrl, n_mrl, .inl mrlos))] H → va_D A [(q_mo, .inr (5, [.int mref, .int mw, .int mh, .int mst, .int mbd, .ref q_msa, .int mtb, .ref q_mbi, .ref q_mcx, .ref q_mpa, .int mps, .ref q_mle, .ref q_mdi, .int mtr, .ref q_mrd, .int misr, .int mplc, .int mlak, .int mpl, .int mpass, .int mraw, .ref q_msz, .ref q_mbe, .ref q_mfa, .ref q_mse, .ref q_mrf, .ref q_mlo, .ref q_mos, .ref q_mwb, .ref q_mol, .ref q_mrv, .ref q_mrl])), (q_mrl, .inl (k_mrl, n_mrl, .inl mrlos))] → va_S A s.heap H locs → lv_has ls 3 [(0, .ref q_mo), (1, .int a0), (2, .int a1)] → W p l e rm_M_known s m args below meth c H locs 0 0 Q (F0 m 15 ls [.int u2, .ref q_mo]) := by
    intro H locs ls hP hD hS hl
    refine va_put (D := (dC, dI)) (ci := 5) (v := .int u2) (ty := .int) (C := R_M) (T := T_M) (N := 32) hx hb hts ki_M ty_M tyok_M nmok_M hown hK hP hD hS 0 rfl rfl 0 (by decide) (hts _ kw_3_133) (fun _ h9 => h9) rfl (by decide +kernel) rfl rfl (Nat.le_of_ble_eq_true rfl) d_M_known_15 (fun H locs hP hD hS => ?_)
    have hP : va_P (dC, dI) vwCl [(q_mo, .inr (5, [.int u2, .int mw, .int mh, .int mst, .int mbd, .ref q_msa, .int mtb, .ref q_mbi, .ref q_mcx, .ref q_mpa, .int mps, .ref q_mle, .ref q_mdi, .int mtr, .ref q_mrd, .int misr, .int mplc, .int mlak, .int mpl, .int mpass, .int mraw, .ref q_msz, .ref q_mbe, .ref q_mfa, .ref q_mse, .ref q_mrf, .ref q_mlo, .ref q_mos, .ref q_mwb, .ref q_mol, .ref q_mrv, .ref q_mrl])), (q_mrl, .inl (k_mrl, n_mrl, .inl mrlos))] H := hP
    have hD : va_D A [(q_mo, .inr (5, [.int u2, .int mw, .int mh, .int mst, .int mbd, .ref q_msa, .int mtb, .ref q_mbi, .ref q_mcx, .ref q_mpa, .int mps, .ref q_mle, .ref q_mdi, .int mtr, .ref q_mrd, .int misr, .int mplc, .int mlak, .int mpl, .int mpass, .int mraw, .ref q_msz, .ref q_mbe, .ref q_mfa, .ref q_mse, .ref q_mrf, .ref q_mlo, .ref q_mos, .ref q_mwb, .ref q_mol, .ref q_mrv, .ref q_mrl])), (q_mrl, .inl (k_mrl, n_mrl, .inl mrlos))] := hD
    refine lv_aload_n hx hb d_M_known_18 rfl (lv_at hl 0 rfl) ?_
    refine va_get (D := (dC, dI)) (ci := 5) (v := .int u2) (C := R_M) (T := T_M) (N := 32) hx hb hts ki_M hown hK hP 0 rfl rfl 0 (by decide) (hts _ kw_3_133) (fun _ h9 => h9) rfl d_M_known_19 ?_
    refine lv_if_le (tgt := 29) hx hb d_M_known_22 (by decide) (fun c3 => ?_) (fun c3 => ?_)
    · have hF := kc_pos c3 hF
      refine lv_aload_n hx hb d_M_known_29 rfl (lv_at hl 0 rfl) ?_
      refine va_get (D := (dC, dI)) (ci := 5) (v := .ref q_mrl) (C := R_M) (T := T_M) (N := 32) hx hb hts ki_M hown hK hP 0 rfl rfl 31 (by decide) (hts _ kw_3_164) (fun _ h9 => h9) rfl d_M_known_30 ?_
      refine lv_bipush (v := 16) hx hb d_M_known_33 (by decide) ?_
      refine lv_iload_n hx hb d_M_known_35 rfl (lv_at hl 2 rfl) ?_
      refine lv_imul hx hb d_M_known_36 ?_
      refine lv_iload_n hx hb d_M_known_37 rfl (lv_at hl 1 rfl) ?_
      refine lv_iadd hx hb d_M_known_38 ?_
      obtain ⟨h4, hF⟩ := kc_no hF
      refine va_iald hx hb hK hP 1 0 rfl rfl h4 d_M_known_39 ?_
      obtain rfl := Option.some.inj hF
      exact ku_iret hx hb hr hlocks hQ (hP.sub [0, 1] rfl) (hD.sub [0, 1] (by decide) rfl) hS d_M_known_40
    have hF := kc_neg c3 hF
    refine lv_iconst (v := 0) hx hb d_M_known_25 (by decide) ?_
    refine lv_goto (tgt := 40) hx hb d_M_known_26 (by decide) ?_
    obtain rfl := Option.some.inj hF
    exact ku_iret hx hb hr hlocks hQ (hP.sub [0, 1] rfl) (hD.sub [0, 1] (by decide) rfl) hS d_M_known_40
  clear hF; have hF := hcu2; clear hcu2
  refine lv_if_eq (tgt := 14) hx hb d_M_known_7 (by decide) (fun c1 => ?_) (fun c1 => ?_)
  · have hF := kc_pos c1 hF
    refine lv_iconst (v := 1) hx hb d_M_known_14 (by decide) ?_
    obtain rfl := Option.some.inj hF
    exact hJu2 _ _ _ hP hD hS (lv_sub hl [0, 1, 2] rfl)
  have hF := kc_neg c1 hF
  refine lv_iconst (v := 0) hx hb d_M_known_10 (by decide) ?_
  refine lv_goto (tgt := 15) hx hb d_M_known_11 (by decide) ?_
  obtain rfl := Option.some.inj hF
  exact hJu2 _ _ _ hP hD hS (lv_sub hl [0, 1, 2] rfl)
abbrev rm_M_told : Room := { frames := 2, cells := 0, slots := 0, locals := 43 }
set_option maxHeartbeats 4000000 in
set_option maxRecDepth 100000 in
theorem m_M_told (l : Launch) (dC : Nat → ClassId) (dI : Nat → Nat → Nat) (q_mo q_msa q_mbi q_mcx q_mpa q_mle q_mdi q_mrd q_msz q_mbe q_mfa q_mse q_mrf q_mlo q_mos q_mwb q_mol q_mrv q_mrl : Nat) (k_msa : ClassId) (n_msa : Nat) (mref : Int32) (mw : Int32) (mh : Int32) (mst : Int32) (mbd : Int32) (mtb : Int32) (mps : Int32) (mtr : Int32) (misr : Int32) (mplc : Int32) (mlak : Int32) (mpl : Int32) (mpass : Int32) (mraw : Int32) (msam : (Nat → Int32)) (a0 : Int32) (u : Int32 × Int32) (hF : f_M_told mw mh mst mbd mps mtr msam n_msa a0 = some u) : ∀ sz : Nat, Met l y_M_told (kws y_M_told c_M_told 2 (some .int)) rm_M_told (kPre (dC, dI) [.ref q_mo, .int a0] [(q_mo, .inr (5, [.int mref, .int mw, .int mh, .int mst, .int mbd, .ref q_msa, .int mtb, .ref q_mbi, .ref q_mcx, .ref q_mpa, .int mps, .ref q_mle, .ref q_mdi, .int mtr, .ref q_mrd, .int misr, .int mplc, .int mlak, .int mpl, .int mpass, .int mraw, .ref q_msz, .ref q_mbe, .ref q_mfa, .ref q_mse, .ref q_mrf, .ref q_mlo, .ref q_mos, .ref q_mwb, .ref q_mol, .ref q_mrv, .ref q_mrl])), (q_msa, .inl (k_msa, n_msa, .inl msam))] [(k_msa, .int)] sz) (kPost (dC, dI) (some (.int u.1)) [(q_mo, .inr (5, [.int u.2, .int mw, .int mh, .int mst, .int mbd, .ref q_msa, .int mtb, .ref q_mbi, .ref q_mcx, .ref q_mpa, .int mps, .ref q_mle, .ref q_mdi, .int mtr, .ref q_mrd, .int misr, .int mplc, .int mlak, .int mpl, .int mpass, .int mraw, .ref q_msz, .ref q_mbe, .ref q_mfa, .ref q_mse, .ref q_mrf, .ref q_mlo, .ref q_mos, .ref q_mwb, .ref q_mol, .ref q_mrv, .ref q_mrl])), (q_msa, .inl (k_msa, n_msa, .inl msam))] (va_A [(q_mo, .inr (5, [.int mref, .int mw, .int mh, .int mst, .int mbd, .ref q_msa, .int mtb, .ref q_mbi, .ref q_mcx, .ref q_mpa, .int mps, .ref q_mle, .ref q_mdi, .int mtr, .ref q_mrd, .int misr, .int mplc, .int mlak, .int mpl, .int mpass, .int mraw, .ref q_msz, .ref q_mbe, .ref q_mfa, .ref q_mse, .ref q_mrf, .ref q_mlo, .ref q_mos, .ref q_mwb, .ref q_mol, .ref q_mrv, .ref q_mrl])), (q_msa, .inl (k_msa, n_msa, .inl msam))] sz)) 0 0 (va_A [(q_mo, .inr (5, [.int mref, .int mw, .int mh, .int mst, .int mbd, .ref q_msa, .int mtb, .ref q_mbi, .ref q_mcx, .ref q_mpa, .int mps, .ref q_mle, .ref q_mdi, .int mtr, .ref q_mrd, .int misr, .int mplc, .int mlak, .int mpl, .int mpass, .int mraw, .ref q_msz, .ref q_mbe, .ref q_mfa, .ref q_mse, .ref q_mrf, .ref q_mlo, .ref q_mos, .ref q_mwb, .ref q_mol, .ref q_mrv, .ref q_mrl])), (q_msa, .inl (k_msa, n_msa, .inl msam))] sz) := by
  unfold f_M_told at hF
  refine kU_of (cc := c_M_told) (maxL := 2) (ret := (some .int)) (by decide) (Nat.le_of_ble_eq_true rfl) ?_
  intro p e s m args below meth c Q A hQ hfx hK hN hA H locs ls hP hD hS hl
  obtain ⟨hx, hb, hr, hml, hown, hts, hlocks⟩ := hfx
  have hown : s.vm.findClass R_M = some m.cls := hown
  have hl : lv_has ls 2 [(0, .ref q_mo), (1, .int a0)] := hl
  refine lv_aload_n hx hb d_M_told_0 rfl (lv_at hl 0 rfl) ?_
  refine lv_iconst (v := 0) hx hb d_M_told_1 (by decide) ?_
  refine va_put (D := (dC, dI)) (ci := 5) (v := .int (0 : Int32)) (ty := .int) (C := R_M) (T := T_M) (N := 32) hx hb hts ki_M ty_M tyok_M nmok_M hown hK hP hD hS 0 rfl rfl 0 (by decide) (hts _ kw_3_133) (fun _ h9 => h9) rfl (by decide +kernel) rfl rfl (Nat.le_of_ble_eq_true rfl) d_M_told_2 (fun H locs hP hD hS => ?_)
  have hP : va_P (dC, dI) vwCl [(q_mo, .inr (5, [.int (0 : Int32), .int mw, .int mh, .int mst, .int mbd, .ref q_msa, .int mtb, .ref q_mbi, .ref q_mcx, .ref q_mpa, .int mps, .ref q_mle, .ref q_mdi, .int mtr, .ref q_mrd, .int misr, .int mplc, .int mlak, .int mpl, .int mpass, .int mraw, .ref q_msz, .ref q_mbe, .ref q_mfa, .ref q_mse, .ref q_mrf, .ref q_mlo, .ref q_mos, .ref q_mwb, .ref q_mol, .ref q_mrv, .ref q_mrl])), (q_msa, .inl (k_msa, n_msa, .inl msam))] H := hP
  have hD : va_D A [(q_mo, .inr (5, [.int (0 : Int32), .int mw, .int mh, .int mst, .int mbd, .ref q_msa, .int mtb, .ref q_mbi, .ref q_mcx, .ref q_mpa, .int mps, .ref q_mle, .ref q_mdi, .int mtr, .ref q_mrd, .int misr, .int mplc, .int mlak, .int mpl, .int mpass, .int mraw, .ref q_msz, .ref q_mbe, .ref q_mfa, .ref q_mse, .ref q_mrf, .ref q_mlo, .ref q_mos, .ref q_mwb, .ref q_mol, .ref q_mrv, .ref q_mrl])), (q_msa, .inl (k_msa, n_msa, .inl msam))] := hD
  refine lv_iload_n hx hb d_M_told_5 rfl (lv_at hl 1 rfl) ?_
  by_cases c1 : a0 = 0
  · have hF := kc_pos c1 hF
    have hti : (a0).toInt = 0 := by rw [c1]; decide
    refine lv_tableIn (off := 42) (tgt := 48) hx hb d_M_told_6 (by rw [hti]; decide) (by rw [hti]; decide) (by rw [hti]; rfl) (by decide) ?_
    refine lv_aload_n hx hb d_M_told_48 rfl (lv_at hl 0 rfl) ?_
    refine va_get (D := (dC, dI)) (ci := 5) (v := .int mw) (C := R_M) (T := T_M) (N := 32) hx hb hts ki_M hown hK hP 0 rfl rfl 1 (by decide) (hts _ kw_3_134) (fun _ h9 => h9) rfl d_M_told_49 ?_
    obtain rfl := Option.some.inj hF
    exact ku_iret hx hb hr hlocks hQ (hP.sub [0, 1] rfl) (hD.sub [0, 1] (by decide) rfl) hS d_M_told_52
  have hF := kc_neg c1 hF
  by_cases c2 : a0 = 1
  · have hF := kc_pos c2 hF
    have hti : (a0).toInt = 1 := by rw [c2]; decide
    refine lv_tableIn (off := 47) (tgt := 53) hx hb d_M_told_6 (by rw [hti]; decide) (by rw [hti]; decide) (by rw [hti]; rfl) (by decide) ?_
    refine lv_aload_n hx hb d_M_told_53 rfl (lv_at hl 0 rfl) ?_
    refine va_get (D := (dC, dI)) (ci := 5) (v := .int mh) (C := R_M) (T := T_M) (N := 32) hx hb hts ki_M hown hK hP 0 rfl rfl 2 (by decide) (hts _ kw_3_135) (fun _ h9 => h9) rfl d_M_told_54 ?_
    obtain rfl := Option.some.inj hF
    exact ku_iret hx hb hr hlocks hQ (hP.sub [0, 1] rfl) (hD.sub [0, 1] (by decide) rfl) hS d_M_told_57
  have hF := kc_neg c2 hF
  by_cases c3 : a0 = 2
  · have hF := kc_pos c3 hF
    have hti : (a0).toInt = 2 := by rw [c3]; decide
    refine lv_tableIn (off := 52) (tgt := 58) hx hb d_M_told_6 (by rw [hti]; decide) (by rw [hti]; decide) (by rw [hti]; rfl) (by decide) ?_
    refine lv_aload_n hx hb d_M_told_58 rfl (lv_at hl 0 rfl) ?_
    refine va_get (D := (dC, dI)) (ci := 5) (v := .int mst) (C := R_M) (T := T_M) (N := 32) hx hb hts ki_M hown hK hP 0 rfl rfl 3 (by decide) (hts _ kw_3_136) (fun _ h9 => h9) rfl d_M_told_59 ?_
    obtain rfl := Option.some.inj hF
    exact ku_iret hx hb hr hlocks hQ (hP.sub [0, 1] rfl) (hD.sub [0, 1] (by decide) rfl) hS d_M_told_62
  have hF := kc_neg c3 hF
  by_cases c4 : a0 = 3
  · have hF := kc_pos c4 hF
    have hti : (a0).toInt = 3 := by rw [c4]; decide
    refine lv_tableIn (off := 57) (tgt := 63) hx hb d_M_told_6 (by rw [hti]; decide) (by rw [hti]; decide) (by rw [hti]; rfl) (by decide) ?_
    refine lv_aload_n hx hb d_M_told_63 rfl (lv_at hl 0 rfl) ?_
    refine va_get (D := (dC, dI)) (ci := 5) (v := .int mbd) (C := R_M) (T := T_M) (N := 32) hx hb hts ki_M hown hK hP 0 rfl rfl 4 (by decide) (hts _ kw_3_137) (fun _ h9 => h9) rfl d_M_told_64 ?_
    obtain rfl := Option.some.inj hF
    exact ku_iret hx hb hr hlocks hQ (hP.sub [0, 1] rfl) (hD.sub [0, 1] (by decide) rfl) hS d_M_told_67
  have hF := kc_neg c4 hF
  by_cases c5 : a0 = 4
  · have hF := kc_pos c5 hF
    have hti : (a0).toInt = 4 := by rw [c5]; decide
    refine lv_tableIn (off := 62) (tgt := 68) hx hb d_M_told_6 (by rw [hti]; decide) (by rw [hti]; decide) (by rw [hti]; rfl) (by decide) ?_
    refine lv_aload_n hx hb d_M_told_68 rfl (lv_at hl 0 rfl) ?_
    obtain ⟨u6, hc, hF⟩ := kc_bnd hF
    refine kr_call (va_runV (As := []) (rest := []) ⟨hx, hb, hml, hown, hts⟩ (m_M_planes l dC dI q_mo q_msa q_mbi q_mcx q_mpa q_mle q_mdi q_mrd q_msz q_mbe q_mfa q_mse q_mrf q_mlo q_mos q_mwb q_mol q_mrv q_mrl k_msa n_msa (0 : Int32) mw mh mst mbd mtb mps mtr misr mplc mlak mpl mpass mraw msam _ hc) (cwV 0 hts (kgV kw_4_16 kw_4_18 kp_23 kw_1_8 kw_4_19) rfl rfl rfl (by decide +kernel) ⟨Nat.le_of_ble_eq_true rfl, Nat.le_of_ble_eq_true rfl⟩) ⟨kRe_blind, va_recv hK hP (ci := 5) (q0 := 0) rfl rfl, kRe_of (hP.sub [0, 1] rfl) (hK.sub [0] rfl) hN⟩ rfl rfl hl.1 rfl (lv_room (Nat.le_of_ble_eq_true rfl)) d_M_told_69 ⟨Nat.le_of_ble_eq_true rfl, Nat.le_of_ble_eq_true rfl⟩) ?_
    obtain rfl := Option.some.inj hF
    exact ku_iret hx hb hr hlocks hQ (hP.sub [0, 1] rfl) (hD.sub [0, 1] (by decide) rfl) hS d_M_told_72
  have hF := kc_neg c5 hF
  by_cases c7 : a0 = 5
  · have hF := kc_pos c7 hF
    have hti : (a0).toInt = 5 := by rw [c7]; decide
    refine lv_tableIn (off := 67) (tgt := 73) hx hb d_M_told_6 (by rw [hti]; decide) (by rw [hti]; decide) (by rw [hti]; rfl) (by decide) ?_
    refine lv_aload_n hx hb d_M_told_73 rfl (lv_at hl 0 rfl) ?_
    refine va_get (D := (dC, dI)) (ci := 5) (v := .int mps) (C := R_M) (T := T_M) (N := 32) hx hb hts ki_M hown hK hP 0 rfl rfl 10 (by decide) (hts _ kw_3_143) (fun _ h9 => h9) rfl d_M_told_74 ?_
    obtain rfl := Option.some.inj hF
    exact ku_iret hx hb hr hlocks hQ (hP.sub [0, 1] rfl) (hD.sub [0, 1] (by decide) rfl) hS d_M_told_77
  have hF := kc_neg c7 hF
  by_cases c8 : a0 = 6
  · have hF := kc_pos c8 hF
    have hti : (a0).toInt = 6 := by rw [c8]; decide
    refine lv_tableIn (off := 72) (tgt := 78) hx hb d_M_told_6 (by rw [hti]; decide) (by rw [hti]; decide) (by rw [hti]; rfl) (by decide) ?_
    refine lv_aload_n hx hb d_M_told_78 rfl (lv_at hl 0 rfl) ?_
    refine va_get (D := (dC, dI)) (ci := 5) (v := .int mtr) (C := R_M) (T := T_M) (N := 32) hx hb hts ki_M hown hK hP 0 rfl rfl 13 (by decide) (hts _ kw_3_146) (fun _ h9 => h9) rfl d_M_told_79 ?_
    obtain rfl := Option.some.inj hF
    exact ku_iret hx hb hr hlocks hQ (hP.sub [0, 1] rfl) (hD.sub [0, 1] (by decide) rfl) hS d_M_told_82
  have hF := kc_neg c8 hF
  have tc1 : (a0).toInt ≠ 0 := kt_ne c1 (by decide)
  have tc2 : (a0).toInt ≠ 1 := kt_ne c2 (by decide)
  have tc3 : (a0).toInt ≠ 2 := kt_ne c3 (by decide)
  have tc4 : (a0).toInt ≠ 3 := kt_ne c4 (by decide)
  have tc5 : (a0).toInt ≠ 4 := kt_ne c5 (by decide)
  have tc7 : (a0).toInt ≠ 5 := kt_ne c7 (by decide)
  have tc8 : (a0).toInt ≠ 6 := kt_ne c8 (by decide)
  refine lv_tableOut (tgt := 83) hx hb d_M_told_6 (by omega) (by decide) ?_
  refine lv_iconst (v := -1) hx hb d_M_told_83 (by decide) ?_
  obtain rfl := Option.some.inj hF
  exact ku_iret hx hb hr hlocks hQ (hP.sub [0, 1] rfl) (hD.sub [0, 1] (by decide) rfl) hS d_M_told_84
abbrev rm_M_clear : Room := { frames := 0, cells := 0, slots := 0, locals := 0 }
set_option maxHeartbeats 4000000 in
set_option maxRecDepth 100000 in
theorem m_M_clear (l : Launch) (dC : Nat → ClassId) (dI : Nat → Nat → Nat) (q_mo q_msa q_mbi q_mcx q_mpa q_mle q_mdi q_mrd q_msz q_mbe q_mfa q_mse q_mrf q_mlo q_mos q_mwb q_mol q_mrv q_mrl : Nat) (k_msa : ClassId) (n_msa : Nat) (k_mrv : ClassId) (n_mrv : Nat) (k_mrl : ClassId) (n_mrl : Nat) (mref : Int32) (mw : Int32) (mh : Int32) (mst : Int32) (mbd : Int32) (mtb : Int32) (mps : Int32) (mtr : Int32) (misr : Int32) (mplc : Int32) (mlak : Int32) (mpl : Int32) (mpass : Int32) (mraw : Int32) (msam : (Nat → Int32)) (mrvas : (Nat → Int32)) (mrlos : (Nat → Int32)) (u : Int32 × Int32 × Int32 × Int32 × (Nat → Int32) × (Nat → Int32) × (Nat → Int32)) (hF : f_M_clear msam mrvas mrlos n_msa n_mrv n_mrl = some u) : ∀ sz : Nat, Met l y_M_clear (kws y_M_clear c_M_clear 2 none) rm_M_clear (kPre (dC, dI) [.ref q_mo] [(q_mo, .inr (5, [.int mref, .int mw, .int mh, .int mst, .int mbd, .ref q_msa, .int mtb, .ref q_mbi, .ref q_mcx, .ref q_mpa, .int mps, .ref q_mle, .ref q_mdi, .int mtr, .ref q_mrd, .int misr, .int mplc, .int mlak, .int mpl, .int mpass, .int mraw, .ref q_msz, .ref q_mbe, .ref q_mfa, .ref q_mse, .ref q_mrf, .ref q_mlo, .ref q_mos, .ref q_mwb, .ref q_mol, .ref q_mrv, .ref q_mrl])), (q_msa, .inl (k_msa, n_msa, .inl msam)), (q_mrv, .inl (k_mrv, n_mrv, .inl mrvas)), (q_mrl, .inl (k_mrl, n_mrl, .inl mrlos))] [(k_msa, .int), (k_mrv, .int), (k_mrl, .int)] sz) (kPost (dC, dI) none [(q_mo, .inr (5, [.int u.1, .int mw, .int mh, .int mst, .int mbd, .ref q_msa, .int u.2.1, .ref q_mbi, .ref q_mcx, .ref q_mpa, .int u.2.2.1, .ref q_mle, .ref q_mdi, .int u.2.2.2.1, .ref q_mrd, .int misr, .int mplc, .int mlak, .int mpl, .int mpass, .int mraw, .ref q_msz, .ref q_mbe, .ref q_mfa, .ref q_mse, .ref q_mrf, .ref q_mlo, .ref q_mos, .ref q_mwb, .ref q_mol, .ref q_mrv, .ref q_mrl])), (q_msa, .inl (k_msa, n_msa, .inl u.2.2.2.2.1)), (q_mrv, .inl (k_mrv, n_mrv, .inl u.2.2.2.2.2.1)), (q_mrl, .inl (k_mrl, n_mrl, .inl u.2.2.2.2.2.2))] (va_A [(q_mo, .inr (5, [.int mref, .int mw, .int mh, .int mst, .int mbd, .ref q_msa, .int mtb, .ref q_mbi, .ref q_mcx, .ref q_mpa, .int mps, .ref q_mle, .ref q_mdi, .int mtr, .ref q_mrd, .int misr, .int mplc, .int mlak, .int mpl, .int mpass, .int mraw, .ref q_msz, .ref q_mbe, .ref q_mfa, .ref q_mse, .ref q_mrf, .ref q_mlo, .ref q_mos, .ref q_mwb, .ref q_mol, .ref q_mrv, .ref q_mrl])), (q_msa, .inl (k_msa, n_msa, .inl msam)), (q_mrv, .inl (k_mrv, n_mrv, .inl mrvas)), (q_mrl, .inl (k_mrl, n_mrl, .inl mrlos))] sz)) 0 0 (va_A [(q_mo, .inr (5, [.int mref, .int mw, .int mh, .int mst, .int mbd, .ref q_msa, .int mtb, .ref q_mbi, .ref q_mcx, .ref q_mpa, .int mps, .ref q_mle, .ref q_mdi, .int mtr, .ref q_mrd, .int misr, .int mplc, .int mlak, .int mpl, .int mpass, .int mraw, .ref q_msz, .ref q_mbe, .ref q_mfa, .ref q_mse, .ref q_mrf, .ref q_mlo, .ref q_mos, .ref q_mwb, .ref q_mol, .ref q_mrv, .ref q_mrl])), (q_msa, .inl (k_msa, n_msa, .inl msam)), (q_mrv, .inl (k_mrv, n_mrv, .inl mrvas)), (q_mrl, .inl (k_mrl, n_mrl, .inl mrlos))] sz) := by
  unfold f_M_clear at hF
  refine kU_of (cc := c_M_clear) (maxL := 2) (ret := none) (by decide) (Nat.le_of_ble_eq_true rfl) ?_
  intro p e s m args below meth c Q A hQ hfx hK hN hA H locs ls hP hD hS hl
  obtain ⟨hx, hb, hr, hml, hown, hts, hlocks⟩ := hfx
  have hown : s.vm.findClass R_M = some m.cls := hown
  have hl : lv_has ls 2 [(0, .ref q_mo)] := hl
  refine lv_aload_n hx hb d_M_clear_0 rfl (lv_at hl 0 rfl) ?_
  refine lv_iconst (v := 0) hx hb d_M_clear_1 (by decide) ?_
  refine va_put (D := (dC, dI)) (ci := 5) (v := .int (0 : Int32)) (ty := .int) (C := R_M) (T := T_M) (N := 32) hx hb hts ki_M ty_M tyok_M nmok_M hown hK hP hD hS 0 rfl rfl 0 (by decide) (hts _ kw_3_133) (fun _ h9 => h9) rfl (by decide +kernel) rfl rfl (Nat.le_of_ble_eq_true rfl) d_M_clear_2 (fun H locs hP hD hS => ?_)
  have hP : va_P (dC, dI) vwCl [(q_mo, .inr (5, [.int (0 : Int32), .int mw, .int mh, .int mst, .int mbd, .ref q_msa, .int mtb, .ref q_mbi, .ref q_mcx, .ref q_mpa, .int mps, .ref q_mle, .ref q_mdi, .int mtr, .ref q_mrd, .int misr, .int mplc, .int mlak, .int mpl, .int mpass, .int mraw, .ref q_msz, .ref q_mbe, .ref q_mfa, .ref q_mse, .ref q_mrf, .ref q_mlo, .ref q_mos, .ref q_mwb, .ref q_mol, .ref q_mrv, .ref q_mrl])), (q_msa, .inl (k_msa, n_msa, .inl msam)), (q_mrv, .inl (k_mrv, n_mrv, .inl mrvas)), (q_mrl, .inl (k_mrl, n_mrl, .inl mrlos))] H := hP
  have hD : va_D A [(q_mo, .inr (5, [.int (0 : Int32), .int mw, .int mh, .int mst, .int mbd, .ref q_msa, .int mtb, .ref q_mbi, .ref q_mcx, .ref q_mpa, .int mps, .ref q_mle, .ref q_mdi, .int mtr, .ref q_mrd, .int misr, .int mplc, .int mlak, .int mpl, .int mpass, .int mraw, .ref q_msz, .ref q_mbe, .ref q_mfa, .ref q_mse, .ref q_mrf, .ref q_mlo, .ref q_mos, .ref q_mwb, .ref q_mol, .ref q_mrv, .ref q_mrl])), (q_msa, .inl (k_msa, n_msa, .inl msam)), (q_mrv, .inl (k_mrv, n_mrv, .inl mrvas)), (q_mrl, .inl (k_mrl, n_mrl, .inl mrlos))] := hD
  refine lv_aload_n hx hb d_M_clear_5 rfl (lv_at hl 0 rfl) ?_
  refine lv_iconst (v := 0) hx hb d_M_clear_6 (by decide) ?_
  refine va_put (D := (dC, dI)) (ci := 5) (v := .int (0 : Int32)) (ty := .int) (C := R_M) (T := T_M) (N := 32) hx hb hts ki_M ty_M tyok_M nmok_M hown hK hP hD hS 0 rfl rfl 6 (by decide) (hts _ kw_3_139) (fun _ h9 => h9) rfl (by decide +kernel) rfl rfl (Nat.le_of_ble_eq_true rfl) d_M_clear_7 (fun H locs hP hD hS => ?_)
  have hP : va_P (dC, dI) vwCl [(q_mo, .inr (5, [.int (0 : Int32), .int mw, .int mh, .int mst, .int mbd, .ref q_msa, .int (0 : Int32), .ref q_mbi, .ref q_mcx, .ref q_mpa, .int mps, .ref q_mle, .ref q_mdi, .int mtr, .ref q_mrd, .int misr, .int mplc, .int mlak, .int mpl, .int mpass, .int mraw, .ref q_msz, .ref q_mbe, .ref q_mfa, .ref q_mse, .ref q_mrf, .ref q_mlo, .ref q_mos, .ref q_mwb, .ref q_mol, .ref q_mrv, .ref q_mrl])), (q_msa, .inl (k_msa, n_msa, .inl msam)), (q_mrv, .inl (k_mrv, n_mrv, .inl mrvas)), (q_mrl, .inl (k_mrl, n_mrl, .inl mrlos))] H := hP
  have hD : va_D A [(q_mo, .inr (5, [.int (0 : Int32), .int mw, .int mh, .int mst, .int mbd, .ref q_msa, .int (0 : Int32), .ref q_mbi, .ref q_mcx, .ref q_mpa, .int mps, .ref q_mle, .ref q_mdi, .int mtr, .ref q_mrd, .int misr, .int mplc, .int mlak, .int mpl, .int mpass, .int mraw, .ref q_msz, .ref q_mbe, .ref q_mfa, .ref q_mse, .ref q_mrf, .ref q_mlo, .ref q_mos, .ref q_mwb, .ref q_mol, .ref q_mrv, .ref q_mrl])), (q_msa, .inl (k_msa, n_msa, .inl msam)), (q_mrv, .inl (k_mrv, n_mrv, .inl mrvas)), (q_mrl, .inl (k_mrl, n_mrl, .inl mrlos))] := hD
  refine lv_aload_n hx hb d_M_clear_10 rfl (lv_at hl 0 rfl) ?_
  refine lv_iconst (v := 0) hx hb d_M_clear_11 (by decide) ?_
  refine va_put (D := (dC, dI)) (ci := 5) (v := .int (0 : Int32)) (ty := .int) (C := R_M) (T := T_M) (N := 32) hx hb hts ki_M ty_M tyok_M nmok_M hown hK hP hD hS 0 rfl rfl 10 (by decide) (hts _ kw_3_143) (fun _ h9 => h9) rfl (by decide +kernel) rfl rfl (Nat.le_of_ble_eq_true rfl) d_M_clear_12 (fun H locs hP hD hS => ?_)
  have hP : va_P (dC, dI) vwCl [(q_mo, .inr (5, [.int (0 : Int32), .int mw, .int mh, .int mst, .int mbd, .ref q_msa, .int (0 : Int32), .ref q_mbi, .ref q_mcx, .ref q_mpa, .int (0 : Int32), .ref q_mle, .ref q_mdi, .int mtr, .ref q_mrd, .int misr, .int mplc, .int mlak, .int mpl, .int mpass, .int mraw, .ref q_msz, .ref q_mbe, .ref q_mfa, .ref q_mse, .ref q_mrf, .ref q_mlo, .ref q_mos, .ref q_mwb, .ref q_mol, .ref q_mrv, .ref q_mrl])), (q_msa, .inl (k_msa, n_msa, .inl msam)), (q_mrv, .inl (k_mrv, n_mrv, .inl mrvas)), (q_mrl, .inl (k_mrl, n_mrl, .inl mrlos))] H := hP
  have hD : va_D A [(q_mo, .inr (5, [.int (0 : Int32), .int mw, .int mh, .int mst, .int mbd, .ref q_msa, .int (0 : Int32), .ref q_mbi, .ref q_mcx, .ref q_mpa, .int (0 : Int32), .ref q_mle, .ref q_mdi, .int mtr, .ref q_mrd, .int misr, .int mplc, .int mlak, .int mpl, .int mpass, .int mraw, .ref q_msz, .ref q_mbe, .ref q_mfa, .ref q_mse, .ref q_mrf, .ref q_mlo, .ref q_mos, .ref q_mwb, .ref q_mol, .ref q_mrv, .ref q_mrl])), (q_msa, .inl (k_msa, n_msa, .inl msam)), (q_mrv, .inl (k_mrv, n_mrv, .inl mrvas)), (q_mrl, .inl (k_mrl, n_mrl, .inl mrlos))] := hD
  refine lv_aload_n hx hb d_M_clear_15 rfl (lv_at hl 0 rfl) ?_
  refine lv_iconst (v := 0) hx hb d_M_clear_16 (by decide) ?_
  refine va_put (D := (dC, dI)) (ci := 5) (v := .int (0 : Int32)) (ty := .int) (C := R_M) (T := T_M) (N := 32) hx hb hts ki_M ty_M tyok_M nmok_M hown hK hP hD hS 0 rfl rfl 13 (by decide) (hts _ kw_3_146) (fun _ h9 => h9) rfl (by decide +kernel) rfl rfl (Nat.le_of_ble_eq_true rfl) d_M_clear_17 (fun H locs hP hD hS => ?_)
  have hP : va_P (dC, dI) vwCl [(q_mo, .inr (5, [.int (0 : Int32), .int mw, .int mh, .int mst, .int mbd, .ref q_msa, .int (0 : Int32), .ref q_mbi, .ref q_mcx, .ref q_mpa, .int (0 : Int32), .ref q_mle, .ref q_mdi, .int (0 : Int32), .ref q_mrd, .int misr, .int mplc, .int mlak, .int mpl, .int mpass, .int mraw, .ref q_msz, .ref q_mbe, .ref q_mfa, .ref q_mse, .ref q_mrf, .ref q_mlo, .ref q_mos, .ref q_mwb, .ref q_mol, .ref q_mrv, .ref q_mrl])), (q_msa, .inl (k_msa, n_msa, .inl msam)), (q_mrv, .inl (k_mrv, n_mrv, .inl mrvas)), (q_mrl, .inl (k_mrl, n_mrl, .inl mrlos))] H := hP
  have hD : va_D A [(q_mo, .inr (5, [.int (0 : Int32), .int mw, .int mh, .int mst, .int mbd, .ref q_msa, .int (0 : Int32), .ref q_mbi, .ref q_mcx, .ref q_mpa, .int (0 : Int32), .ref q_mle, .ref q_mdi, .int (0 : Int32), .ref q_mrd, .int misr, .int mplc, .int mlak, .int mpl, .int mpass, .int mraw, .ref q_msz, .ref q_mbe, .ref q_mfa, .ref q_mse, .ref q_mrf, .ref q_mlo, .ref q_mos, .ref q_mwb, .ref q_mol, .ref q_mrv, .ref q_mrl])), (q_msa, .inl (k_msa, n_msa, .inl msam)), (q_mrv, .inl (k_mrv, n_mrv, .inl mrvas)), (q_mrl, .inl (k_mrl, n_mrl, .inl mrlos))] := hD
  refine lv_iconst (v := 0) hx hb d_M_clear_20 (by decide) ?_
  refine lv_istore_n (lv' := [(1, .int (0 : Int32)), (0, .ref q_mo)]) hx hb d_M_clear_21 rfl hl (by decide) rfl (fun ls hl => ?_)
  obtain ⟨u1, hcu1, hF⟩ := kc_bnd hF
  have hJu1_56 : ∀ (H : Heap) (locs : List Loc) (ls : Array Slot), va_P (dC, dI) vwCl [(q_mo, .inr (5, [.int (0 : Int32), .int mw, .int mh, .int mst, .int mbd, .ref q_msa, .int (0 : Int32), .ref q_mbi, .ref q_mcx, .ref q_mpa, .int (0 : Int32), .ref q_mle, .ref q_mdi, .int (0 : Int32), .ref q_mrd, .int misr, .int mplc, .int mlak, .int mpl, .int mpass, .int mraw, .ref q_msz, .ref q_mbe, .ref q_mfa, .ref q_mse, .ref q_mrf, .ref q_mlo, .ref q_mos, .ref q_mwb, .ref q_mol, .ref q_mrv, .ref q_mrl])), (q_msa, .inl (k_msa, n_msa, .inl u1.2.1)), (q_mrv, .inl (k_mrv, n_mrv, .inl u1.2.2.1)), (q_mrl, .inl (k_mrl, n_mrl, .inl u1.2.2.2))] H → va_D A [(q_mo, .inr (5, [.int (0 : Int32), .int mw, .int mh, .int mst, .int mbd, .ref q_msa, .int (0 : Int32), .ref q_mbi, .ref q_mcx, .ref q_mpa, .int (0 : Int32), .ref q_mle, .ref q_mdi, .int (0 : Int32), .ref q_mrd, .int misr, .int mplc, .int mlak, .int mpl, .int mpass, .int mraw, .ref q_msz, .ref q_mbe, .ref q_mfa, .ref q_mse, .ref q_mrf, .ref q_mlo, .ref q_mos, .ref q_mwb, .ref q_mol, .ref q_mrv, .ref q_mrl])), (q_msa, .inl (k_msa, n_msa, .inl u1.2.1)), (q_mrv, .inl (k_mrv, n_mrv, .inl u1.2.2.1)), (q_mrl, .inl (k_mrl, n_mrl, .inl u1.2.2.2))] → va_S A s.heap H locs → lv_has ls 2 [(1, .int u1.1), (0, .ref q_mo)] → W p l e rm_M_clear s m args below meth c H locs 0 0 Q (F0 m 56 ls []) := by
    intro H locs ls hP hD hS hl
    obtain rfl := Option.some.inj hF
    exact ku_vret hx hb hr hlocks hQ (hP.sub [0, 1, 2, 3] rfl) (hD.sub [0, 1, 2, 3] (by decide) rfl) hS d_M_clear_56
  have hIu1 : ∀ (N : Nat) (v22_1 : Int32) (msam_22 : (Nat → Int32)) (mrvas_22 : (Nat → Int32)) (mrlos_22 : (Nat → Int32)), f_M_clear_L22 n_msa n_mrv n_mrl N v22_1 msam_22 mrvas_22 mrlos_22 = some u1 → ∀ (H : Heap) (locs : List Loc) (ls : Array Slot), va_P (dC, dI) vwCl [(q_mo, .inr (5, [.int (0 : Int32), .int mw, .int mh, .int mst, .int mbd, .ref q_msa, .int (0 : Int32), .ref q_mbi, .ref q_mcx, .ref q_mpa, .int (0 : Int32), .ref q_mle, .ref q_mdi, .int (0 : Int32), .ref q_mrd, .int misr, .int mplc, .int mlak, .int mpl, .int mpass, .int mraw, .ref q_msz, .ref q_mbe, .ref q_mfa, .ref q_mse, .ref q_mrf, .ref q_mlo, .ref q_mos, .ref q_mwb, .ref q_mol, .ref q_mrv, .ref q_mrl])), (q_msa, .inl (k_msa, n_msa, .inl msam_22)), (q_mrv, .inl (k_mrv, n_mrv, .inl mrvas_22)), (q_mrl, .inl (k_mrl, n_mrl, .inl mrlos_22))] H → va_D A [(q_mo, .inr (5, [.int (0 : Int32), .int mw, .int mh, .int mst, .int mbd, .ref q_msa, .int (0 : Int32), .ref q_mbi, .ref q_mcx, .ref q_mpa, .int (0 : Int32), .ref q_mle, .ref q_mdi, .int (0 : Int32), .ref q_mrd, .int misr, .int mplc, .int mlak, .int mpl, .int mpass, .int mraw, .ref q_msz, .ref q_mbe, .ref q_mfa, .ref q_mse, .ref q_mrf, .ref q_mlo, .ref q_mos, .ref q_mwb, .ref q_mol, .ref q_mrv, .ref q_mrl])), (q_msa, .inl (k_msa, n_msa, .inl msam_22)), (q_mrv, .inl (k_mrv, n_mrv, .inl mrvas_22)), (q_mrl, .inl (k_mrl, n_mrl, .inl mrlos_22))] → va_S A s.heap H locs → lv_has ls 2 [(1, .int v22_1), (0, .ref q_mo)] → W p l e rm_M_clear s m args below meth c H locs 0 0 Q (F0 m 22 ls []) := by
    intro N
    induction N with
    | zero => intro v22_1 msam_22 mrvas_22 mrlos_22 hF; rw [f_M_clear_L22] at hF; cases hF
    | succ N ih =>
      intro v22_1 msam_22 mrvas_22 mrlos_22 hF
      intro H locs ls hP hD hS hl
      rw [f_M_clear_L22] at hF
      refine lv_iload_n hx hb d_M_clear_22 rfl (lv_at hl 0 rfl) ?_
      refine lv_sipush (v := 256) hx hb d_M_clear_23 (by decide) ?_
      refine lv_icmp_ge (tgt := 56) hx hb d_M_clear_26 (by decide) (fun c2 => ?_) (fun c2 => ?_)
      · have hF := kc_pos c2 hF
        obtain rfl := Option.some.inj hF
        exact hJu1_56 _ _ _ hP hD hS (lv_sub hl [0, 1] rfl)
      have hF := kc_neg c2 hF
      refine lv_aload_n hx hb d_M_clear_29 rfl (lv_at hl 1 rfl) ?_
      refine va_get (D := (dC, dI)) (ci := 5) (v := .ref q_msa) (C := R_M) (T := T_M) (N := 32) hx hb hts ki_M hown hK hP 0 rfl rfl 5 (by decide) (hts _ kw_3_138) (fun _ h9 => h9) rfl d_M_clear_30 ?_
      refine lv_iload_n hx hb d_M_clear_33 rfl (lv_at hl 0 rfl) ?_
      refine lv_iconst (v := 0) hx hb d_M_clear_34 (by decide) ?_
      obtain ⟨h3, hF⟩ := kc_no hF
      refine va_iast hx hb hK hP hD hS 1 0 rfl rfl h3 d_M_clear_35 (fun H locs hP hD hS => ?_)
      have hP : va_P (dC, dI) vwCl [(q_mo, .inr (5, [.int (0 : Int32), .int mw, .int mh, .int mst, .int mbd, .ref q_msa, .int (0 : Int32), .ref q_mbi, .ref q_mcx, .ref q_mpa, .int (0 : Int32), .ref q_mle, .ref q_mdi, .int (0 : Int32), .ref q_mrd, .int misr, .int mplc, .int mlak, .int mpl, .int mpass, .int mraw, .ref q_msz, .ref q_mbe, .ref q_mfa, .ref q_mse, .ref q_mrf, .ref q_mlo, .ref q_mos, .ref q_mwb, .ref q_mol, .ref q_mrv, .ref q_mrl])), (q_msa, .inl (k_msa, n_msa, .inl (upd msam_22 v22_1.toNatClampNeg (0 : Int32)))), (q_mrv, .inl (k_mrv, n_mrv, .inl mrvas_22)), (q_mrl, .inl (k_mrl, n_mrl, .inl mrlos_22))] H := hP
      have hD : va_D A [(q_mo, .inr (5, [.int (0 : Int32), .int mw, .int mh, .int mst, .int mbd, .ref q_msa, .int (0 : Int32), .ref q_mbi, .ref q_mcx, .ref q_mpa, .int (0 : Int32), .ref q_mle, .ref q_mdi, .int (0 : Int32), .ref q_mrd, .int misr, .int mplc, .int mlak, .int mpl, .int mpass, .int mraw, .ref q_msz, .ref q_mbe, .ref q_mfa, .ref q_mse, .ref q_mrf, .ref q_mlo, .ref q_mos, .ref q_mwb, .ref q_mol, .ref q_mrv, .ref q_mrl])), (q_msa, .inl (k_msa, n_msa, .inl (upd msam_22 v22_1.toNatClampNeg (0 : Int32)))), (q_mrv, .inl (k_mrv, n_mrv, .inl mrvas_22)), (q_mrl, .inl (k_mrl, n_mrl, .inl mrlos_22))] := hD
      refine lv_aload_n hx hb d_M_clear_36 rfl (lv_at hl 1 rfl) ?_
      refine va_get (D := (dC, dI)) (ci := 5) (v := .ref q_mrv) (C := R_M) (T := T_M) (N := 32) hx hb hts ki_M hown hK hP 0 rfl rfl 30 (by decide) (hts _ kw_3_163) (fun _ h9 => h9) rfl d_M_clear_37 ?_
      refine lv_iload_n hx hb d_M_clear_40 rfl (lv_at hl 0 rfl) ?_
      refine lv_iconst (v := 0) hx hb d_M_clear_41 (by decide) ?_
      obtain ⟨h4, hF⟩ := kc_no hF
      refine va_iast hx hb hK hP hD hS 2 1 rfl rfl h4 d_M_clear_42 (fun H locs hP hD hS => ?_)
      have hP : va_P (dC, dI) vwCl [(q_mo, .inr (5, [.int (0 : Int32), .int mw, .int mh, .int mst, .int mbd, .ref q_msa, .int (0 : Int32), .ref q_mbi, .ref q_mcx, .ref q_mpa, .int (0 : Int32), .ref q_mle, .ref q_mdi, .int (0 : Int32), .ref q_mrd, .int misr, .int mplc, .int mlak, .int mpl, .int mpass, .int mraw, .ref q_msz, .ref q_mbe, .ref q_mfa, .ref q_mse, .ref q_mrf, .ref q_mlo, .ref q_mos, .ref q_mwb, .ref q_mol, .ref q_mrv, .ref q_mrl])), (q_msa, .inl (k_msa, n_msa, .inl (upd msam_22 v22_1.toNatClampNeg (0 : Int32)))), (q_mrv, .inl (k_mrv, n_mrv, .inl (upd mrvas_22 v22_1.toNatClampNeg (0 : Int32)))), (q_mrl, .inl (k_mrl, n_mrl, .inl mrlos_22))] H := hP
      have hD : va_D A [(q_mo, .inr (5, [.int (0 : Int32), .int mw, .int mh, .int mst, .int mbd, .ref q_msa, .int (0 : Int32), .ref q_mbi, .ref q_mcx, .ref q_mpa, .int (0 : Int32), .ref q_mle, .ref q_mdi, .int (0 : Int32), .ref q_mrd, .int misr, .int mplc, .int mlak, .int mpl, .int mpass, .int mraw, .ref q_msz, .ref q_mbe, .ref q_mfa, .ref q_mse, .ref q_mrf, .ref q_mlo, .ref q_mos, .ref q_mwb, .ref q_mol, .ref q_mrv, .ref q_mrl])), (q_msa, .inl (k_msa, n_msa, .inl (upd msam_22 v22_1.toNatClampNeg (0 : Int32)))), (q_mrv, .inl (k_mrv, n_mrv, .inl (upd mrvas_22 v22_1.toNatClampNeg (0 : Int32)))), (q_mrl, .inl (k_mrl, n_mrl, .inl mrlos_22))] := hD
      refine lv_aload_n hx hb d_M_clear_43 rfl (lv_at hl 1 rfl) ?_
      refine va_get (D := (dC, dI)) (ci := 5) (v := .ref q_mrl) (C := R_M) (T := T_M) (N := 32) hx hb hts ki_M hown hK hP 0 rfl rfl 31 (by decide) (hts _ kw_3_164) (fun _ h9 => h9) rfl d_M_clear_44 ?_
      refine lv_iload_n hx hb d_M_clear_47 rfl (lv_at hl 0 rfl) ?_
      refine lv_iconst (v := 0) hx hb d_M_clear_48 (by decide) ?_
      obtain ⟨h5, hF⟩ := kc_no hF
      refine va_iast hx hb hK hP hD hS 3 2 rfl rfl h5 d_M_clear_49 (fun H locs hP hD hS => ?_)
      have hP : va_P (dC, dI) vwCl [(q_mo, .inr (5, [.int (0 : Int32), .int mw, .int mh, .int mst, .int mbd, .ref q_msa, .int (0 : Int32), .ref q_mbi, .ref q_mcx, .ref q_mpa, .int (0 : Int32), .ref q_mle, .ref q_mdi, .int (0 : Int32), .ref q_mrd, .int misr, .int mplc, .int mlak, .int mpl, .int mpass, .int mraw, .ref q_msz, .ref q_mbe, .ref q_mfa, .ref q_mse, .ref q_mrf, .ref q_mlo, .ref q_mos, .ref q_mwb, .ref q_mol, .ref q_mrv, .ref q_mrl])), (q_msa, .inl (k_msa, n_msa, .inl (upd msam_22 v22_1.toNatClampNeg (0 : Int32)))), (q_mrv, .inl (k_mrv, n_mrv, .inl (upd mrvas_22 v22_1.toNatClampNeg (0 : Int32)))), (q_mrl, .inl (k_mrl, n_mrl, .inl (upd mrlos_22 v22_1.toNatClampNeg (0 : Int32))))] H := hP
      have hD : va_D A [(q_mo, .inr (5, [.int (0 : Int32), .int mw, .int mh, .int mst, .int mbd, .ref q_msa, .int (0 : Int32), .ref q_mbi, .ref q_mcx, .ref q_mpa, .int (0 : Int32), .ref q_mle, .ref q_mdi, .int (0 : Int32), .ref q_mrd, .int misr, .int mplc, .int mlak, .int mpl, .int mpass, .int mraw, .ref q_msz, .ref q_mbe, .ref q_mfa, .ref q_mse, .ref q_mrf, .ref q_mlo, .ref q_mos, .ref q_mwb, .ref q_mol, .ref q_mrv, .ref q_mrl])), (q_msa, .inl (k_msa, n_msa, .inl (upd msam_22 v22_1.toNatClampNeg (0 : Int32)))), (q_mrv, .inl (k_mrv, n_mrv, .inl (upd mrvas_22 v22_1.toNatClampNeg (0 : Int32)))), (q_mrl, .inl (k_mrl, n_mrl, .inl (upd mrlos_22 v22_1.toNatClampNeg (0 : Int32))))] := hD
      refine lv_iinc (v := (v22_1 + 1)) (lv' := [(1, .int (v22_1 + 1)), (0, .ref q_mo)]) hx hb d_M_clear_50 hl (k := 0) rfl rfl (by decide) rfl (fun ls hl => ?_)
      refine lv_goto (tgt := 22) hx hb d_M_clear_53 (by decide) ?_
      exact ih _ _ _ _ hF _ _ _ hP hD hS (lv_sub hl [0, 1] rfl)
  exact hIu1 _ _ _ _ _ hcu1 _ _ _ hP hD hS (lv_sub hl [0, 1] rfl)

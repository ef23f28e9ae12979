def f_M_find (mw : Int32) (mh : Int32) (mst : Int32) (mtb : Int32) (mtr : Int32) (misr : Int32) (mplc : Int32) (mlak : Int32) (mpl : Int32) (mpass : Int32) (mraw : Int32) (msam : (Nat → Int32)) (mbits : (Nat → Int32)) (mctxs : (Nat → Int32)) (mpaso : (Nat → Int32)) (mreads : (Nat → Int32)) (mbels : (Nat → Int32)) (mfnds : (Nat → Int32)) (n_msa : Nat) (n_mbi : Nat) (n_mcx : Nat) (n_mpa : Nat) (n_mrd : Nat) (n_mbe : Nat) (n_mfa : Nat) (a0 : Int32) (a1 : Int32) : Option (Int32 × Int32 × Int32 × (Nat → Int32) × (Nat → Int32) × (Nat → Int32) × (Nat → Int32) × (Nat → Int32)) :=
  ((f_M_signAt mw mh mst mbels mfnds n_mbe n_mfa (a0 - (1 : Int32)) a1 a1).bind fun u1 => ((f_M_signAt mw mh mst mbels mfnds n_mbe n_mfa (a0 + (1 : Int32)) a1 a1).bind fun u2 => ((f_M_signAt mw mh mst mbels mfnds n_mbe n_mfa a0 (a1 - (1 : Int32)) a1).bind fun u3 => ((f_M_signAt mw mh mst mbels mfnds n_mbe n_mfa a0 (a1 + (1 : Int32)) a1).bind fun u4 => (((if (f_MS_brought (u1 + u2)) < 0 then some (1 : Int32) else (if (f_MS_brought (u1 + u2)) = 0 then (if 0 ≤ (f_MS_brought (u3 + u4)) then some (0 : Int32) else some (1 : Int32)) else some (0 : Int32))) : Option (Int32)).bind fun u6 => (((if u6 = 0 then some (f_MS_brought (u1 + u2)) else some (-(f_MS_brought (u1 + u2)))) : Option (Int32)).bind fun u8 => (((if u6 = 0 then some (f_MS_brought (u3 + u4)) else some (-(f_MS_brought (u3 + u4)))) : Option (Int32)).bind fun u10 => (((if mraw = 0 then (if u8 = (1 : Int32) then some ((12 : Int32) + u10) else some ((9 : Int32) + u10)) else some (19 : Int32)) : Option (Int32)).bind fun u12 => (((if u6 = 0 then some (0 : Int32) else (if mraw = 0 then some (1 : Int32) else some (0 : Int32))) : Option (Int32)).bind fun u14 => if ((((16 : Int32) * a1) + a0) < 0 ∨ n_msa ≤ (((16 : Int32) * a1) + a0).toNatClampNeg) then none else (((if 0 ≤ (msam (((16 : Int32) * a1) + a0).toNatClampNeg) then some (0 : Int32) else some (1 : Int32)) : Option (Int32)).bind fun u17 => (((if u17 = u14 then some (0 : Int32) else some (1 : Int32)) : Option (Int32)).bind fun u19 => ((f_M_code mtb mtr misr mplc mlak mpass mbits mctxs mpaso mreads n_mbi n_mcx n_mpa n_mrd u19 u12).bind fun u20 => (((if u20.1 = (1 : Int32) then some (1 : Int32) else some (0 : Int32)) : Option (Int32)).bind fun u22 => (((if u22 = u14 then some (0 : Int32) else some (1 : Int32)) : Option (Int32)).bind fun u24 => if ((((16 : Int32) * a1) + a0) < 0 ∨ n_mbe ≤ (((16 : Int32) * a1) + a0).toNatClampNeg) then none else if ((((16 : Int32) * a1) + a0) < 0 ∨ n_mfa ≤ (((16 : Int32) * a1) + a0).toNatClampNeg) then none else some (u20.2.1, u20.2.2.1, u20.2.2.2.1, u20.2.2.2.2.1, u20.2.2.2.2.2.1, u20.2.2.2.2.2.2, (upd mbels (((16 : Int32) * a1) + a0).toNatClampNeg (vp_nar .boolean u24)), (upd mfnds (((16 : Int32) * a1) + a0).toNatClampNeg mpl))))))))))))))))
def f_M_bitOf (mpl : Int32) (msam : (Nat → Int32)) (n_msa : Nat) (a0 : Int32) : Option (Int32) :=
  ((f_M_sizeOf msam n_msa a0).bind fun u1 => some ((u1 >>> (mpl &&& 31)) &&& (1 : Int32)))
def f_M_know (mpl : Int32) (msizs : (Nat → Int32)) (mlows : (Nat → Int32)) (n_msz : Nat) (n_mlo : Nat) (a0 : Int32) (a1 : Int32) : Option ((Nat → Int32) × (Nat → Int32)) :=
  if (a0 < 0 ∨ n_msz ≤ a0.toNatClampNeg) then none else if (a0 < 0 ∨ n_msz ≤ a0.toNatClampNeg) then none else if (a0 < 0 ∨ n_mlo ≤ a0.toNatClampNeg) then none else some ((upd msizs a0.toNatClampNeg ((msizs a0.toNatClampNeg) ||| (a1 <<< (mpl &&& 31)))), (upd mlows a0.toNatClampNeg mpl))
def f_M_tell (mw : Int32) (mh : Int32) (mst : Int32) (mtb : Int32) (mtr : Int32) (misr : Int32) (mplc : Int32) (mlak : Int32) (mpl : Int32) (mpass : Int32) (mraw : Int32) (msam : (Nat → Int32)) (mbits : (Nat → Int32)) (mctxs : (Nat → Int32)) (mpaso : (Nat → Int32)) (mreads : (Nat → Int32)) (msizs : (Nat → Int32)) (mbels : (Nat → Int32)) (mfnds : (Nat → Int32)) (mlows : (Nat → Int32)) (n_msa : Nat) (n_mbi : Nat) (n_mcx : Nat) (n_mpa : Nat) (n_mrd : Nat) (n_msz : Nat) (n_mbe : Nat) (n_mfa : Nat) (n_mlo : Nat) (a0 : Int32) (a1 : Int32) (a2 : Int32) : Option (Int32 × Int32 × Int32 × (Nat → Int32) × (Nat → Int32) × (Nat → Int32) × (Nat → Int32) × (Nat → Int32) × (Nat → Int32) × (Nat → Int32)) :=
  ((f_M_bitOf mpl msam n_msa (((16 : Int32) * a1) + a0)).bind fun u1 => ((f_M_code mtb mtr misr mplc mlak mpass mbits mctxs mpaso mreads n_mbi n_mcx n_mpa n_mrd u1 a2).bind fun u2 => ((f_M_know mpl msizs mlows n_msz n_mlo (((16 : Int32) * a1) + a0) u2.1).bind fun u3 => (if u2.1 = (1 : Int32) then ((f_M_find mw mh mst u2.2.1 mtr misr u2.2.2.1 u2.2.2.2.1 mpl mpass mraw msam u2.2.2.2.2.1 u2.2.2.2.2.2.1 u2.2.2.2.2.2.2 mreads mbels mfnds n_msa n_mbi n_mcx n_mpa n_mrd n_mbe n_mfa a0 a1).bind fun u5 => some (u5.1, u5.2.1, u5.2.2.1, u5.2.2.2.1, u5.2.2.2.2.1, u5.2.2.2.2.2.1, u3.1, u5.2.2.2.2.2.2.1, u5.2.2.2.2.2.2.2, u3.2)) else some (u2.2.1, u2.2.2.1, u2.2.2.2.1, u2.2.2.2.2.1, u2.2.2.2.2.2.1, u2.2.2.2.2.2.2, u3.1, mbels, mfnds, u3.2)))))
def f_M_finding (mw : Int32) (mh : Int32) (mst : Int32) (mbd : Int32) (mtb : Int32) (mtr : Int32) (misr : Int32) (mplc : Int32) (mlak : Int32) (mpl : Int32) (mpass : Int32) (mraw : Int32) (msam : (Nat → Int32)) (mbits : (Nat → Int32)) (mctxs : (Nat → Int32)) (mpaso : (Nat → Int32)) (mreads : (Nat → Int32)) (msizs : (Nat → Int32)) (mbels : (Nat → Int32)) (mfnds : (Nat → Int32)) (mseen : (Nat → Int32)) (mlows : (Nat → Int32)) (n_msa : Nat) (n_mbi : Nat) (n_mcx : Nat) (n_mpa : Nat) (n_mrd : Nat) (n_msz : Nat) (n_mbe : Nat) (n_mfa : Nat) (n_mse : Nat) (n_mlo : Nat) (a0 : Int32) (a1 : Int32) : Option (Int32 × Int32 × Int32 × (Nat → Int32) × (Nat → Int32) × (Nat → Int32) × (Nat → Int32) × (Nat → Int32) × (Nat → Int32) × (Nat → Int32) × (Nat → Int32)) :=
  ((f_M_contextOf mw mh mst mbd mbels mfnds n_mbe n_mfa a0 a1).bind fun u1 => if ((((16 : Int32) * a1) + a0) < 0 ∨ n_mfa ≤ (((16 : Int32) * a1) + a0).toNatClampNeg) then none else (if (mfnds (((16 : Int32) * a1) + a0).toNatClampNeg) = (-1 : Int32) then (if u1 = 0 then some (mtb, mplc, mlak, mbits, mctxs, mpaso, msizs, mbels, mfnds, mseen, mlows) else (((if mraw = 0 then some (u1) else some (19 : Int32)) : Option (Int32)).bind fun u6 => ((f_M_tell mw mh mst mtb mtr misr mplc mlak mpl mpass mraw msam mbits mctxs mpaso mreads msizs mbels mfnds mlows n_msa n_mbi n_mcx n_mpa n_mrd n_msz n_mbe n_mfa n_mlo a0 a1 u6).bind fun u7 => if ((((16 : Int32) * a1) + a0) < 0 ∨ n_mse ≤ (((16 : Int32) * a1) + a0).toNatClampNeg) then none else some (u7.1, u7.2.1, u7.2.2.1, u7.2.2.2.1, u7.2.2.2.2.1, u7.2.2.2.2.2.1, u7.2.2.2.2.2.2.1, u7.2.2.2.2.2.2.2.1, u7.2.2.2.2.2.2.2.2.1, (upd mseen (((16 : Int32) * a1) + a0).toNatClampNeg (1 : Int32)), u7.2.2.2.2.2.2.2.2.2)))) else some (mtb, mplc, mlak, mbits, mctxs, mpaso, msizs, mbels, mfnds, mseen, mlows)))
def f_M_refining (mw : Int32) (mh : Int32) (mst : Int32) (mtb : Int32) (mtr : Int32) (misr : Int32) (mplc : Int32) (mlak : Int32) (mpl : Int32) (mpass : Int32) (mraw : Int32) (msam : (Nat → Int32)) (mbits : (Nat → Int32)) (mctxs : (Nat → Int32)) (mpaso : (Nat → Int32)) (mreads : (Nat → Int32)) (msizs : (Nat → Int32)) (mbels : (Nat → Int32)) (mfnds : (Nat → Int32)) (mrfnd : (Nat → Int32)) (mlows : (Nat → Int32)) (n_msa : Nat) (n_mbi : Nat) (n_mcx : Nat) (n_mpa : Nat) (n_mrd : Nat) (n_msz : Nat) (n_mbe : Nat) (n_mfa : Nat) (n_mrf : Nat) (n_mlo : Nat) (a0 : Int32) (a1 : Int32) : Option (Int32 × Int32 × Int32 × (Nat → Int32) × (Nat → Int32) × (Nat → Int32) × (Nat → Int32) × (Nat → Int32) × (Nat → Int32)) :=
  if ((((16 : Int32) * a1) + a0) < 0 ∨ n_mfa ≤ (((16 : Int32) * a1) + a0).toNatClampNeg) then none else (if mpl < (mfnds (((16 : Int32) * a1) + a0).toNatClampNeg) then ((f_M_corners mw mh mst mbels mfnds n_mbe n_mfa a0 a1).bind fun u3 => ((f_M_isFound mw mh mst mbels mfnds n_mbe n_mfa (a0 - (1 : Int32)) a1 a1).bind fun u4 => ((f_M_isFound mw mh mst mbels mfnds n_mbe n_mfa (a0 + (1 : Int32)) a1 a1).bind fun u5 => ((f_M_isFound mw mh mst mbels mfnds n_mbe n_mfa a0 (a1 - (1 : Int32)) a1).bind fun u6 => ((f_M_isFound mw mh mst mbels mfnds n_mbe n_mfa a0 (a1 + (1 : Int32)) a1).bind fun u7 => if ((((16 : Int32) * a1) + a0) < 0 ∨ n_mrf ≤ (((16 : Int32) * a1) + a0).toNatClampNeg) then none else (((if (mrfnd (((16 : Int32) * a1) + a0).toNatClampNeg) = 0 then (if ((((u3 + u4) + u5) + u6) + u7) ≤ 0 then some (14 : Int32) else some (15 : Int32)) else some (16 : Int32)) : Option (Int32)).bind fun u10 => ((f_M_bitOf mpl msam n_msa (((16 : Int32) * a1) + a0)).bind fun u11 => (((if mraw = 0 then some (u10) else some (19 : Int32)) : Option (Int32)).bind fun u13 => ((f_M_code mtb mtr misr mplc mlak mpass mbits mctxs mpaso mreads n_mbi n_mcx n_mpa n_mrd u11 u13).bind fun u14 => ((f_M_know mpl msizs mlows n_msz n_mlo (((16 : Int32) * a1) + a0) u14.1).bind fun u15 => if ((((16 : Int32) * a1) + a0) < 0 ∨ n_mrf ≤ (((16 : Int32) * a1) + a0).toNatClampNeg) then none else some (u14.2.1, u14.2.2.1, u14.2.2.2.1, u14.2.2.2.2.1, u14.2.2.2.2.2.1, u14.2.2.2.2.2.2, u15.1, (upd mrfnd (((16 : Int32) * a1) + a0).toNatClampNeg (1 : Int32)), u15.2))))))))))) else some (mtb, mplc, mlak, mbits, mctxs, mpaso, msizs, mrfnd, mlows))
def f_M_isOpen (mfnds : (Nat → Int32)) (mseen : (Nat → Int32)) (n_mfa : Nat) (n_mse : Nat) (a0 : Int32) (a1 : Int32) : Option (Int32) :=
  if ((((16 : Int32) * a1) + a0) < 0 ∨ n_mfa ≤ (((16 : Int32) * a1) + a0).toNatClampNeg) then none else (if (mfnds (((16 : Int32) * a1) + a0).toNatClampNeg) = (-1 : Int32) then if ((((16 : Int32) * a1) + a0) < 0 ∨ n_mse ≤ (((16 : Int32) * a1) + a0).toNatClampNeg) then none else (if (mseen (((16 : Int32) * a1) + a0).toNatClampNeg) = 0 then some (1 : Int32) else some (0 : Int32)) else some (0 : Int32))
def f_M_isEmpty_L19 (mw : Int32) (mh : Int32) (mst : Int32) (mbd : Int32) (mbels : (Nat → Int32)) (mfnds : (Nat → Int32)) (mseen : (Nat → Int32)) (n_mbe : Nat) (n_mfa : Nat) (n_mse : Nat) (a0 : Int32) (a1 : Int32) : Nat → Int32 → Int32 → Option (Int32 × Int32)
  | 0, _, _ => none
  | N + 1, v19_3, v19_4 => (if (4 : Int32) ≤ v19_4 then some (v19_3, v19_4) else (if v19_3 = 0 then some (v19_3, v19_4) else ((f_M_isOpen mfnds mseen n_mfa n_mse a0 (a1 + v19_4)).bind fun u7 => (((if u7 = 0 then some (0 : Int32) else ((f_M_contextOf mw mh mst mbd mbels mfnds n_mbe n_mfa a0 (a1 + v19_4)).bind fun u10 => (if u10 = 0 then some (1 : Int32) else some (0 : Int32)))) : Option (Int32)).bind fun u9 => f_M_isEmpty_L19 mw mh mst mbd mbels mfnds mseen n_mbe n_mfa n_mse a0 a1 N u9 (v19_4 + 1)))))
def f_M_isEmpty (mw : Int32) (mh : Int32) (mst : Int32) (mbd : Int32) (mbels : (Nat → Int32)) (mfnds : (Nat → Int32)) (mseen : (Nat → Int32)) (n_mbe : Nat) (n_mfa : Nat) (n_mse : Nat) (a0 : Int32) (a1 : Int32) : Option (Int32) :=
  (((if mh < (a1 + (4 : Int32)) then some (0 : Int32) else some (1 : Int32)) : Option (Int32)).bind fun u2 => ((f_M_isEmpty_L19 mw mh mst mbd mbels mfnds mseen n_mbe n_mfa n_mse a0 a1 kBig u2 (0 : Int32)).bind fun u3 => if ¬ (u3.1 = 0 ∨ u3.1 = 1) then none else some (u3.1)))
def f_M_run_L110 (mpl : Int32) (n_msz : Nat) (n_mlo : Nat) (a0 : Int32) (a1 : Int32) (u6 : Int32 × Int32 × Int32 × Int32 × (Nat → Int32) × (Nat → Int32) × (Nat → Int32)) (u7 : Int32 × Int32 × Int32 × Int32 × (Nat → Int32) × (Nat → Int32) × (Nat → Int32)) : Nat → Int32 → (Nat → Int32) → (Nat → Int32) → Option (Int32 × (Nat → Int32) × (Nat → Int32))
  | 0, _, _, _ => none
  | N + 1, v110_6, msizs_110, mlows_110 => (if (((2 : Int32) * u6.1) + u7.1) < v110_6 then some (v110_6, msizs_110, mlows_110) else (((if v110_6 = (((2 : Int32) * u6.1) + u7.1) then some (1 : Int32) else some (0 : Int32)) : Option (Int32)).bind fun u12 => ((f_M_know mpl msizs_110 mlows_110 n_msz n_mlo (((16 : Int32) * (a1 + v110_6)) + a0) u12).bind fun u13 => f_M_run_L110 mpl n_msz n_mlo a0 a1 u6 u7 N (v110_6 + 1) u13.1 u13.2)))
def f_M_run_L50 (mpl : Int32) (n_msz : Nat) (n_mlo : Nat) (a0 : Int32) (a1 : Int32) : Nat → Int32 → (Nat → Int32) → (Nat → Int32) → Option (Int32 × (Nat → Int32) × (Nat → Int32))
  | 0, _, _, _ => none
  | N + 1, v50_4, msizs_50, mlows_50 => (if (4 : Int32) ≤ v50_4 then some (v50_4, msizs_50, mlows_50) else ((f_M_know mpl msizs_50 mlows_50 n_msz n_mlo (((16 : Int32) * (a1 + v50_4)) + a0) (0 : Int32)).bind fun u16 => f_M_run_L50 mpl n_msz n_mlo a0 a1 N (v50_4 + 1) u16.1 u16.2))
def f_M_run_L2 (mpl : Int32) (msam : (Nat → Int32)) (n_msa : Nat) (a0 : Int32) (a1 : Int32) : Nat → Int32 → Option (Int32)
  | 0, _ => none
  | N + 1, v2_3 => (if (4 : Int32) ≤ v2_3 then some (v2_3) else ((f_M_bitOf mpl msam n_msa (((16 : Int32) * (a1 + v2_3)) + a0)).bind fun u18 => (if u18 = 0 then f_M_run_L2 mpl msam n_msa a0 a1 N (v2_3 + 1) else some (v2_3))))
def f_M_run (mw : Int32) (mh : Int32) (mst : Int32) (mtb : Int32) (mtr : Int32) (misr : Int32) (mplc : Int32) (mlak : Int32) (mpl : Int32) (mpass : Int32) (mraw : Int32) (msam : (Nat → Int32)) (mbits : (Nat → Int32)) (mctxs : (Nat → Int32)) (mpaso : (Nat → Int32)) (mreads : (Nat → Int32)) (msizs : (Nat → Int32)) (mbels : (Nat → Int32)) (mfnds : (Nat → Int32)) (mlows : (Nat → Int32)) (n_msa : Nat) (n_mbi : Nat) (n_mcx : Nat) (n_mpa : Nat) (n_mrd : Nat) (n_msz : Nat) (n_mbe : Nat) (n_mfa : Nat) (n_mlo : Nat) (a0 : Int32) (a1 : Int32) : Option (Int32 × Int32 × Int32 × Int32 × (Nat → Int32) × (Nat → Int32) × (Nat → Int32) × (Nat → Int32) × (Nat → Int32) × (Nat → Int32) × (Nat → Int32)) :=
  ((f_M_run_L2 mpl msam n_msa a0 a1 kBig (0 : Int32)).bind fun u1 => (((if (4 : Int32) ≤ u1 then some (0 : Int32) else some (1 : Int32)) : Option (Int32)).bind fun u3 => ((f_M_code mtb mtr misr mplc mlak mpass mbits mctxs mpaso mreads n_mbi n_mcx n_mpa n_mrd u3 (17 : Int32)).bind fun u4 => (if u4.1 = 0 then ((f_M_run_L50 mpl n_msz n_mlo a0 a1 kBig (0 : Int32) msizs mlows).bind fun u14 => some ((4 : Int32), u4.2.1, u4.2.2.1, u4.2.2.2.1, u4.2.2.2.2.1, u4.2.2.2.2.2.1, u4.2.2.2.2.2.2, u14.2.1, mbels, mfnds, u14.2.2)) else ((f_M_code u4.2.1 mtr misr u4.2.2.1 u4.2.2.2.1 mpass u4.2.2.2.2.1 u4.2.2.2.2.2.1 u4.2.2.2.2.2.2 mreads n_mbi n_mcx n_mpa n_mrd ((u1 >>> ((1 : Int32) &&& 31)) &&& (1 : Int32)) (18 : Int32)).bind fun u6 => ((f_M_code u6.2.1 mtr misr u6.2.2.1 u6.2.2.2.1 mpass u6.2.2.2.2.1 u6.2.2.2.2.2.1 u6.2.2.2.2.2.2 mreads n_mbi n_mcx n_mpa n_mrd (u1 &&& (1 : Int32)) (18 : Int32)).bind fun u7 => ((f_M_run_L110 mpl n_msz n_mlo a0 a1 u6 u7 kBig (0 : Int32) msizs mlows).bind fun u8 => ((f_M_find mw mh mst u7.2.1 mtr misr u7.2.2.1 u7.2.2.2.1 mpl mpass mraw msam u7.2.2.2.2.1 u7.2.2.2.2.2.1 u7.2.2.2.2.2.2 mreads mbels mfnds n_msa n_mbi n_mcx n_mpa n_mrd n_mbe n_mfa a0 (a1 + (((2 : Int32) * u6.1) + u7.1))).bind fun u9 => some (((((2 : Int32) * u6.1) + u7.1) + (1 : Int32)), u9.1, u9.2.1, u9.2.2.1, u9.2.2.2.1, u9.2.2.2.2.1, u9.2.2.2.2.2.1, u8.2.1, u9.2.2.2.2.2.2.1, u9.2.2.2.2.2.2.2, u8.2.2)))))))))
def f_M_cleanup_L20 (mw : Int32) (mh : Int32) (mst : Int32) (mbd : Int32) (mtr : Int32) (misr : Int32) (mpl : Int32) (mpass : Int32) (mraw : Int32) (msam : (Nat → Int32)) (mreads : (Nat → Int32)) (mseen : (Nat → Int32)) (n_msa : Nat) (n_mbi : Nat) (n_mcx : Nat) (n_mpa : Nat) (n_mrd : Nat) (n_msz : Nat) (n_mbe : Nat) (n_mfa : Nat) (n_mse : Nat) (n_mlo : Nat) (a0 : Int32) (a1 : Int32) : Nat → Int32 → Int32 → Int32 → Int32 → (Nat → Int32) → (Nat → Int32) → (Nat → Int32) → (Nat → Int32) → (Nat → Int32) → (Nat → Int32) → (Nat → Int32) → Option (Int32 × Int32 × Int32 × Int32 × (Nat → Int32) × (Nat → Int32) × (Nat → Int32) × (Nat → Int32) × (Nat → Int32) × (Nat → Int32) × (Nat → Int32))
  | 0, _, _, _, _, _, _, _, _, _, _, _ => none
  | N + 1, v20_3, mtb_20, mplc_20, mlak_20, mbits_20, mctxs_20, mpaso_20, msizs_20, mbels_20, mfnds_20, mlows_20 => (if (4 : Int32) ≤ v20_3 then some (v20_3, mtb_20, mplc_20, mlak_20, mbits_20, mctxs_20, mpaso_20, msizs_20, mbels_20, mfnds_20, mlows_20) else (if mh ≤ (a1 + v20_3) then some (v20_3, mtb_20, mplc_20, mlak_20, mbits_20, mctxs_20, mpaso_20, msizs_20, mbels_20, mfnds_20, mlows_20) else ((f_M_isOpen mfnds_20 mseen n_mfa n_mse a0 (a1 + v20_3)).bind fun u7 => (((if u7 = 0 then some (mtb_20, mplc_20, mlak_20, mbits_20, mctxs_20, mpaso_20, msizs_20, mbels_20, mfnds_20, mlows_20) else ((f_M_contextOf mw mh mst mbd mbels_20 mfnds_20 n_mbe n_mfa a0 (a1 + v20_3)).bind fun u10 => ((f_M_tell mw mh mst mtb_20 mtr misr mplc_20 mlak_20 mpl mpass mraw msam mbits_20 mctxs_20 mpaso_20 mreads msizs_20 mbels_20 mfnds_20 mlows_20 n_msa n_mbi n_mcx n_mpa n_mrd n_msz n_mbe n_mfa n_mlo a0 (a1 + v20_3) u10).bind fun u11 => some (u11.1, u11.2.1, u11.2.2.1, u11.2.2.2.1, u11.2.2.2.2.1, u11.2.2.2.2.2.1, u11.2.2.2.2.2.2.1, u11.2.2.2.2.2.2.2.1, u11.2.2.2.2.2.2.2.2.1, u11.2.2.2.2.2.2.2.2.2)))) : Option (Int32 × Int32 × Int32 × (Nat → Int32) × (Nat → Int32) × (Nat → Int32) × (Nat → Int32) × (Nat → Int32) × (Nat → Int32) × (Nat → Int32))).bind fun u9 => f_M_cleanup_L20 mw mh mst mbd mtr misr mpl mpass mraw msam mreads mseen n_msa n_mbi n_mcx n_mpa n_mrd n_msz n_mbe n_mfa n_mse n_mlo a0 a1 N (v20_3 + 1) u9.1 u9.2.1 u9.2.2.1 u9.2.2.2.1 u9.2.2.2.2.1 u9.2.2.2.2.2.1 u9.2.2.2.2.2.2.1 u9.2.2.2.2.2.2.2.1 u9.2.2.2.2.2.2.2.2.1 u9.2.2.2.2.2.2.2.2.2))))
def f_M_cleanup (mw : Int32) (mh : Int32) (mst : Int32) (mbd : Int32) (mtb : Int32) (mtr : Int32) (misr : Int32) (mplc : Int32) (mlak : Int32) (mpl : Int32) (mpass : Int32) (mraw : Int32) (msam : (Nat → Int32)) (mbits : (Nat → Int32)) (mctxs : (Nat → Int32)) (mpaso : (Nat → Int32)) (mreads : (Nat → Int32)) (msizs : (Nat → Int32)) (mbels : (Nat → Int32)) (mfnds : (Nat → Int32)) (mseen : (Nat → Int32)) (mlows : (Nat → Int32)) (n_msa : Nat) (n_mbi : Nat) (n_mcx : Nat) (n_mpa : Nat) (n_mrd : Nat) (n_msz : Nat) (n_mbe : Nat) (n_mfa : Nat) (n_mse : Nat) (n_mlo : Nat) (a0 : Int32) (a1 : Int32) : Option (Int32 × Int32 × Int32 × (Nat → Int32) × (Nat → Int32) × (Nat → Int32) × (Nat → Int32) × (Nat → Int32) × (Nat → Int32) × (Nat → Int32)) :=
  ((f_M_isEmpty mw mh mst mbd mbels mfnds mseen n_mbe n_mfa n_mse a0 a1).bind fun u1 => (((if u1 = 0 then some ((0 : Int32), mtb, mplc, mlak, mbits, mctxs, mpaso, msizs, mbels, mfnds, mlows) else ((f_M_run mw mh mst mtb mtr misr mplc mlak mpl mpass mraw msam mbits mctxs mpaso mreads msizs mbels mfnds mlows n_msa n_mbi n_mcx n_mpa n_mrd n_msz n_mbe n_mfa n_mlo a0 a1).bind fun u12 => some (u12.1, u12.2.1, u12.2.2.1, u12.2.2.2.1, u12.2.2.2.2.1, u12.2.2.2.2.2.1, u12.2.2.2.2.2.2.1, u12.2.2.2.2.2.2.2.1, u12.2.2.2.2.2.2.2.2.1, u12.2.2.2.2.2.2.2.2.2.1, u12.2.2.2.2.2.2.2.2.2.2))) : Option (Int32 × Int32 × Int32 × Int32 × (Nat → Int32) × (Nat → Int32) × (Nat → Int32) × (Nat → Int32) × (Nat → Int32) × (Nat → Int32) × (Nat → Int32))).bind fun u3 => ((f_M_cleanup_L20 mw mh mst mbd mtr misr mpl mpass mraw msam mreads mseen n_msa n_mbi n_mcx n_mpa n_mrd n_msz n_mbe n_mfa n_mse n_mlo a0 a1 kBig u3.1 u3.2.1 u3.2.2.1 u3.2.2.2.1 u3.2.2.2.2.1 u3.2.2.2.2.2.1 u3.2.2.2.2.2.2.1 u3.2.2.2.2.2.2.2.1 u3.2.2.2.2.2.2.2.2.1 u3.2.2.2.2.2.2.2.2.2.1 u3.2.2.2.2.2.2.2.2.2.2).bind fun u4 => some (u4.2.1, u4.2.2.1, u4.2.2.2.1, u4.2.2.2.2.1, u4.2.2.2.2.2.1, u4.2.2.2.2.2.2.1, u4.2.2.2.2.2.2.2.1, u4.2.2.2.2.2.2.2.2.1, u4.2.2.2.2.2.2.2.2.2.1, u4.2.2.2.2.2.2.2.2.2.2))))
theorem d_M_find_0 : decode c_M_find 0 = .ok (.bipush 16, 2) := by decide +kernel
theorem d_M_find_2 : decode c_M_find 2 = .ok (.iload_n 2, 1) := by decide +kernel
theorem d_M_find_3 : decode c_M_find 3 = .ok (.imul, 1) := by decide +kernel
theorem d_M_find_4 : decode c_M_find 4 = .ok (.iload_n 1, 1) := by decide +kernel
theorem d_M_find_5 : decode c_M_find 5 = .ok (.iadd, 1) := by decide +kernel
theorem d_M_find_6 : decode c_M_find 6 = .ok (.istore_n 3, 1) := by decide +kernel
theorem d_M_find_7 : decode c_M_find 7 = .ok (.aload_n 0, 1) := by decide +kernel
theorem d_M_find_8 : decode c_M_find 8 = .ok (.iload_n 1, 1) := by decide +kernel
theorem d_M_find_9 : decode c_M_find 9 = .ok (.iconst 1, 1) := by decide +kernel
theorem d_M_find_10 : decode c_M_find 10 = .ok (.isub, 1) := by decide +kernel
theorem d_M_find_11 : decode c_M_find 11 = .ok (.iload_n 2, 1) := by decide +kernel
theorem d_M_find_12 : decode c_M_find 12 = .ok (.iload_n 2, 1) := by decide +kernel
theorem d_M_find_13 : decode c_M_find 13 = .ok (.invokevirtual 121, 3) := by decide +kernel
theorem d_M_find_16 : decode c_M_find 16 = .ok (.aload_n 0, 1) := by decide +kernel
theorem d_M_find_17 : decode c_M_find 17 = .ok (.iload_n 1, 1) := by decide +kernel
theorem d_M_find_18 : decode c_M_find 18 = .ok (.iconst 1, 1) := by decide +kernel
theorem d_M_find_19 : decode c_M_find 19 = .ok (.iadd, 1) := by decide +kernel
theorem d_M_find_20 : decode c_M_find 20 = .ok (.iload_n 2, 1) := by decide +kernel
theorem d_M_find_21 : decode c_M_find 21 = .ok (.iload_n 2, 1) := by decide +kernel
theorem d_M_find_22 : decode c_M_find 22 = .ok (.invokevirtual 121, 3) := by decide +kernel
theorem d_M_find_25 : decode c_M_find 25 = .ok (.iadd, 1) := by decide +kernel
theorem d_M_find_26 : decode c_M_find 26 = .ok (.invokestatic 132, 3) := by decide +kernel
theorem d_M_find_29 : decode c_M_find 29 = .ok (.istore 4, 2) := by decide +kernel
theorem d_M_find_31 : decode c_M_find 31 = .ok (.aload_n 0, 1) := by decide +kernel
theorem d_M_find_32 : decode c_M_find 32 = .ok (.iload_n 1, 1) := by decide +kernel
theorem d_M_find_33 : decode c_M_find 33 = .ok (.iload_n 2, 1) := by decide +kernel
theorem d_M_find_34 : decode c_M_find 34 = .ok (.iconst 1, 1) := by decide +kernel
theorem d_M_find_35 : decode c_M_find 35 = .ok (.isub, 1) := by decide +kernel
theorem d_M_find_36 : decode c_M_find 36 = .ok (.iload_n 2, 1) := by decide +kernel
theorem d_M_find_37 : decode c_M_find 37 = .ok (.invokevirtual 121, 3) := by decide +kernel
theorem d_M_find_40 : decode c_M_find 40 = .ok (.aload_n 0, 1) := by decide +kernel
theorem d_M_find_41 : decode c_M_find 41 = .ok (.iload_n 1, 1) := by decide +kernel
theorem d_M_find_42 : decode c_M_find 42 = .ok (.iload_n 2, 1) := by decide +kernel
theorem d_M_find_43 : decode c_M_find 43 = .ok (.iconst 1, 1) := by decide +kernel
theorem d_M_find_44 : decode c_M_find 44 = .ok (.iadd, 1) := by decide +kernel
theorem d_M_find_45 : decode c_M_find 45 = .ok (.iload_n 2, 1) := by decide +kernel
theorem d_M_find_46 : decode c_M_find 46 = .ok (.invokevirtual 121, 3) := by decide +kernel
theorem d_M_find_49 : decode c_M_find 49 = .ok (.iadd, 1) := by decide +kernel
theorem d_M_find_50 : decode c_M_find 50 = .ok (.invokestatic 132, 3) := by decide +kernel
theorem d_M_find_53 : decode c_M_find 53 = .ok (.istore 5, 2) := by decide +kernel
theorem d_M_find_55 : decode c_M_find 55 = .ok (.iload 4, 2) := by decide +kernel
theorem d_M_find_57 : decode c_M_find 57 = .ok (.ifCond .lt 13, 3) := by decide +kernel
theorem d_M_find_60 : decode c_M_find 60 = .ok (.iload 4, 2) := by decide +kernel
theorem d_M_find_62 : decode c_M_find 62 = .ok (.ifCond .ne 12, 3) := by decide +kernel
theorem d_M_find_65 : decode c_M_find 65 = .ok (.iload 5, 2) := by decide +kernel
theorem d_M_find_67 : decode c_M_find 67 = .ok (.ifCond .ge 7, 3) := by decide +kernel
theorem d_M_find_70 : decode c_M_find 70 = .ok (.iconst 1, 1) := by decide +kernel
theorem d_M_find_71 : decode c_M_find 71 = .ok (.goto 4, 3) := by decide +kernel
theorem d_M_find_74 : decode c_M_find 74 = .ok (.iconst 0, 1) := by decide +kernel
theorem d_M_find_75 : decode c_M_find 75 = .ok (.istore 6, 2) := by decide +kernel
theorem d_M_find_77 : decode c_M_find 77 = .ok (.iload 6, 2) := by decide +kernel
theorem d_M_find_79 : decode c_M_find 79 = .ok (.ifCond .eq 9, 3) := by decide +kernel
theorem d_M_find_82 : decode c_M_find 82 = .ok (.iload 4, 2) := by decide +kernel
theorem d_M_find_84 : decode c_M_find 84 = .ok (.ineg, 1) := by decide +kernel
theorem d_M_find_85 : decode c_M_find 85 = .ok (.goto 5, 3) := by decide +kernel
theorem d_M_find_88 : decode c_M_find 88 = .ok (.iload 4, 2) := by decide +kernel
theorem d_M_find_90 : decode c_M_find 90 = .ok (.istore 4, 2) := by decide +kernel
theorem d_M_find_92 : decode c_M_find 92 = .ok (.iload 6, 2) := by decide +kernel
theorem d_M_find_94 : decode c_M_find 94 = .ok (.ifCond .eq 9, 3) := by decide +kernel
theorem d_M_find_97 : decode c_M_find 97 = .ok (.iload 5, 2) := by decide +kernel
theorem d_M_find_99 : decode c_M_find 99 = .ok (.ineg, 1) := by decide +kernel
theorem d_M_find_100 : decode c_M_find 100 = .ok (.goto 5, 3) := by decide +kernel
theorem d_M_find_103 : decode c_M_find 103 = .ok (.iload 5, 2) := by decide +kernel
theorem d_M_find_105 : decode c_M_find 105 = .ok (.istore 5, 2) := by decide +kernel
theorem d_M_find_107 : decode c_M_find 107 = .ok (.aload_n 0, 1) := by decide +kernel
theorem d_M_find_108 : decode c_M_find 108 = .ok (.getfield 135, 3) := by decide +kernel
theorem d_M_find_111 : decode c_M_find 111 = .ok (.ifCond .eq 8, 3) := by decide +kernel
theorem d_M_find_114 : decode c_M_find 114 = .ok (.bipush 19, 2) := by decide +kernel
theorem d_M_find_116 : decode c_M_find 116 = .ok (.goto 22, 3) := by decide +kernel
theorem d_M_find_119 : decode c_M_find 119 = .ok (.iload 4, 2) := by decide +kernel
theorem d_M_find_121 : decode c_M_find 121 = .ok (.iconst 1, 1) := by decide +kernel
theorem d_M_find_122 : decode c_M_find 122 = .ok (.if_icmp .ne 11, 3) := by decide +kernel
theorem d_M_find_125 : decode c_M_find 125 = .ok (.bipush 12, 2) := by decide +kernel
theorem d_M_find_127 : decode c_M_find 127 = .ok (.iload 5, 2) := by decide +kernel
theorem d_M_find_129 : decode c_M_find 129 = .ok (.iadd, 1) := by decide +kernel
theorem d_M_find_130 : decode c_M_find 130 = .ok (.goto 8, 3) := by decide +kernel
theorem d_M_find_133 : decode c_M_find 133 = .ok (.bipush 9, 2) := by decide +kernel
theorem d_M_find_135 : decode c_M_find 135 = .ok (.iload 5, 2) := by decide +kernel
theorem d_M_find_137 : decode c_M_find 137 = .ok (.iadd, 1) := by decide +kernel
theorem d_M_find_138 : decode c_M_find 138 = .ok (.istore 7, 2) := by decide +kernel
theorem d_M_find_140 : decode c_M_find 140 = .ok (.iload 6, 2) := by decide +kernel
theorem d_M_find_142 : decode c_M_find 142 = .ok (.ifCond .eq 14, 3) := by decide +kernel
theorem d_M_find_145 : decode c_M_find 145 = .ok (.aload_n 0, 1) := by decide +kernel
theorem d_M_find_146 : decode c_M_find 146 = .ok (.getfield 135, 3) := by decide +kernel
theorem d_M_find_149 : decode c_M_find 149 = .ok (.ifCond .ne 7, 3) := by decide +kernel
theorem d_M_find_152 : decode c_M_find 152 = .ok (.iconst 1, 1) := by decide +kernel
theorem d_M_find_153 : decode c_M_find 153 = .ok (.goto 4, 3) := by decide +kernel
theorem d_M_find_156 : decode c_M_find 156 = .ok (.iconst 0, 1) := by decide +kernel
theorem d_M_find_157 : decode c_M_find 157 = .ok (.istore 8, 2) := by decide +kernel
theorem d_M_find_159 : decode c_M_find 159 = .ok (.aload_n 0, 1) := by decide +kernel
theorem d_M_find_160 : decode c_M_find 160 = .ok (.aload_n 0, 1) := by decide +kernel
theorem d_M_find_161 : decode c_M_find 161 = .ok (.getfield 7, 3) := by decide +kernel
theorem d_M_find_164 : decode c_M_find 164 = .ok (.iload_n 3, 1) := by decide +kernel
theorem d_M_find_165 : decode c_M_find 165 = .ok (.iaload, 1) := by decide +kernel
theorem d_M_find_166 : decode c_M_find 166 = .ok (.ifCond .ge 7, 3) := by decide +kernel
theorem d_M_find_169 : decode c_M_find 169 = .ok (.iconst 1, 1) := by decide +kernel
theorem d_M_find_170 : decode c_M_find 170 = .ok (.goto 4, 3) := by decide +kernel
theorem d_M_find_173 : decode c_M_find 173 = .ok (.iconst 0, 1) := by decide +kernel
theorem d_M_find_174 : decode c_M_find 174 = .ok (.iload 8, 2) := by decide +kernel
theorem d_M_find_176 : decode c_M_find 176 = .ok (.if_icmp .eq 7, 3) := by decide +kernel
theorem d_M_find_179 : decode c_M_find 179 = .ok (.iconst 1, 1) := by decide +kernel
theorem d_M_find_180 : decode c_M_find 180 = .ok (.goto 4, 3) := by decide +kernel
theorem d_M_find_183 : decode c_M_find 183 = .ok (.iconst 0, 1) := by decide +kernel
theorem d_M_find_184 : decode c_M_find 184 = .ok (.iload 7, 2) := by decide +kernel
theorem d_M_find_186 : decode c_M_find 186 = .ok (.invokevirtual 138, 3) := by decide +kernel
theorem d_M_find_189 : decode c_M_find 189 = .ok (.istore 9, 2) := by decide +kernel
theorem d_M_find_191 : decode c_M_find 191 = .ok (.aload_n 0, 1) := by decide +kernel
theorem d_M_find_192 : decode c_M_find 192 = .ok (.getfield 35, 3) := by decide +kernel
theorem d_M_find_195 : decode c_M_find 195 = .ok (.iload_n 3, 1) := by decide +kernel
theorem d_M_find_196 : decode c_M_find 196 = .ok (.iload 9, 2) := by decide +kernel
theorem d_M_find_198 : decode c_M_find 198 = .ok (.iconst 1, 1) := by decide +kernel
theorem d_M_find_199 : decode c_M_find 199 = .ok (.if_icmp .ne 7, 3) := by decide +kernel
theorem d_M_find_202 : decode c_M_find 202 = .ok (.iconst 1, 1) := by decide +kernel
theorem d_M_find_203 : decode c_M_find 203 = .ok (.goto 4, 3) := by decide +kernel
theorem d_M_find_206 : decode c_M_find 206 = .ok (.iconst 0, 1) := by decide +kernel
theorem d_M_find_207 : decode c_M_find 207 = .ok (.iload 8, 2) := by decide +kernel
theorem d_M_find_209 : decode c_M_find 209 = .ok (.if_icmp .eq 7, 3) := by decide +kernel
theorem d_M_find_212 : decode c_M_find 212 = .ok (.iconst 1, 1) := by decide +kernel
theorem d_M_find_213 : decode c_M_find 213 = .ok (.goto 4, 3) := by decide +kernel
theorem d_M_find_216 : decode c_M_find 216 = .ok (.iconst 0, 1) := by decide +kernel
theorem d_M_find_217 : decode c_M_find 217 = .ok (.bastore, 1) := by decide +kernel
theorem d_M_find_218 : decode c_M_find 218 = .ok (.aload_n 0, 1) := by decide +kernel
theorem d_M_find_219 : decode c_M_find 219 = .ok (.getfield 39, 3) := by decide +kernel
theorem d_M_find_222 : decode c_M_find 222 = .ok (.iload_n 3, 1) := by decide +kernel
theorem d_M_find_223 : decode c_M_find 223 = .ok (.aload_n 0, 1) := by decide +kernel
theorem d_M_find_224 : decode c_M_find 224 = .ok (.getfield 141, 3) := by decide +kernel
theorem d_M_find_227 : decode c_M_find 227 = .ok (.iastore, 1) := by decide +kernel
theorem d_M_find_228 : decode c_M_find 228 = .ok (.return_, 1) := by decide +kernel
theorem d_M_bitOf_0 : decode c_M_bitOf 0 = .ok (.aload_n 0, 1) := by decide +kernel
theorem d_M_bitOf_1 : decode c_M_bitOf 1 = .ok (.iload_n 1, 1) := by decide +kernel
theorem d_M_bitOf_2 : decode c_M_bitOf 2 = .ok (.invokevirtual 94, 3) := by decide +kernel
theorem d_M_bitOf_5 : decode c_M_bitOf 5 = .ok (.aload_n 0, 1) := by decide +kernel
theorem d_M_bitOf_6 : decode c_M_bitOf 6 = .ok (.getfield 141, 3) := by decide +kernel
theorem d_M_bitOf_9 : decode c_M_bitOf 9 = .ok (.ishr, 1) := by decide +kernel
theorem d_M_bitOf_10 : decode c_M_bitOf 10 = .ok (.iconst 1, 1) := by decide +kernel
theorem d_M_bitOf_11 : decode c_M_bitOf 11 = .ok (.iand, 1) := by decide +kernel
theorem d_M_bitOf_12 : decode c_M_bitOf 12 = .ok (.ireturn, 1) := by decide +kernel
theorem d_M_know_0 : decode c_M_know 0 = .ok (.aload_n 0, 1) := by decide +kernel
theorem d_M_know_1 : decode c_M_know 1 = .ok (.getfield 32, 3) := by decide +kernel
theorem d_M_know_4 : decode c_M_know 4 = .ok (.iload_n 1, 1) := by decide +kernel
theorem d_M_know_5 : decode c_M_know 5 = .ok (.aload_n 0, 1) := by decide +kernel
theorem d_M_know_6 : decode c_M_know 6 = .ok (.getfield 32, 3) := by decide +kernel
theorem d_M_know_9 : decode c_M_know 9 = .ok (.iload_n 1, 1) := by decide +kernel
theorem d_M_know_10 : decode c_M_know 10 = .ok (.iaload, 1) := by decide +kernel
theorem d_M_know_11 : decode c_M_know 11 = .ok (.iload_n 2, 1) := by decide +kernel
theorem d_M_know_12 : decode c_M_know 12 = .ok (.aload_n 0, 1) := by decide +kernel
theorem d_M_know_13 : decode c_M_know 13 = .ok (.getfield 141, 3) := by decide +kernel
theorem d_M_know_16 : decode c_M_know 16 = .ok (.ishl, 1) := by decide +kernel
theorem d_M_know_17 : decode c_M_know 17 = .ok (.ior, 1) := by decide +kernel
theorem d_M_know_18 : decode c_M_know 18 = .ok (.iastore, 1) := by decide +kernel
theorem d_M_know_19 : decode c_M_know 19 = .ok (.aload_n 0, 1) := by decide +kernel
theorem d_M_know_20 : decode c_M_know 20 = .ok (.getfield 48, 3) := by decide +kernel
theorem d_M_know_23 : decode c_M_know 23 = .ok (.iload_n 1, 1) := by decide +kernel
theorem d_M_know_24 : decode c_M_know 24 = .ok (.aload_n 0, 1) := by decide +kernel
theorem d_M_know_25 : decode c_M_know 25 = .ok (.getfield 141, 3) := by decide +kernel
theorem d_M_know_28 : decode c_M_know 28 = .ok (.iastore, 1) := by decide +kernel
theorem d_M_know_29 : decode c_M_know 29 = .ok (.return_, 1) := by decide +kernel
theorem d_M_tell_0 : decode c_M_tell 0 = .ok (.bipush 16, 2) := by decide +kernel
theorem d_M_tell_2 : decode c_M_tell 2 = .ok (.iload_n 2, 1) := by decide +kernel
theorem d_M_tell_3 : decode c_M_tell 3 = .ok (.imul, 1) := by decide +kernel
theorem d_M_tell_4 : decode c_M_tell 4 = .ok (.iload_n 1, 1) := by decide +kernel
theorem d_M_tell_5 : decode c_M_tell 5 = .ok (.iadd, 1) := by decide +kernel
theorem d_M_tell_6 : decode c_M_tell 6 = .ok (.istore 4, 2) := by decide +kernel
theorem d_M_tell_8 : decode c_M_tell 8 = .ok (.aload_n 0, 1) := by decide +kernel
theorem d_M_tell_9 : decode c_M_tell 9 = .ok (.aload_n 0, 1) := by decide +kernel
theorem d_M_tell_10 : decode c_M_tell 10 = .ok (.iload 4, 2) := by decide +kernel
theorem d_M_tell_12 : decode c_M_tell 12 = .ok (.invokevirtual 144, 3) := by decide +kernel
theorem d_M_tell_15 : decode c_M_tell 15 = .ok (.iload_n 3, 1) := by decide +kernel
theorem d_M_tell_16 : decode c_M_tell 16 = .ok (.invokevirtual 138, 3) := by decide +kernel
theorem d_M_tell_19 : decode c_M_tell 19 = .ok (.istore 5, 2) := by decide +kernel
theorem d_M_tell_21 : decode c_M_tell 21 = .ok (.aload_n 0, 1) := by decide +kernel
theorem d_M_tell_22 : decode c_M_tell 22 = .ok (.iload 4, 2) := by decide +kernel
theorem d_M_tell_24 : decode c_M_tell 24 = .ok (.iload 5, 2) := by decide +kernel
theorem d_M_tell_26 : decode c_M_tell 26 = .ok (.invokevirtual 147, 3) := by decide +kernel
theorem d_M_tell_29 : decode c_M_tell 29 = .ok (.iload 5, 2) := by decide +kernel
theorem d_M_tell_31 : decode c_M_tell 31 = .ok (.iconst 1, 1) := by decide +kernel
theorem d_M_tell_32 : decode c_M_tell 32 = .ok (.if_icmp .ne 9, 3) := by decide +kernel
theorem d_M_tell_35 : decode c_M_tell 35 = .ok (.aload_n 0, 1) := by decide +kernel
theorem d_M_tell_36 : decode c_M_tell 36 = .ok (.iload_n 1, 1) := by decide +kernel
theorem d_M_tell_37 : decode c_M_tell 37 = .ok (.iload_n 2, 1) := by decide +kernel
theorem d_M_tell_38 : decode c_M_tell 38 = .ok (.invokevirtual 151, 3) := by decide +kernel
theorem d_M_tell_41 : decode c_M_tell 41 = .ok (.return_, 1) := by decide +kernel
theorem d_M_finding_0 : decode c_M_finding 0 = .ok (.bipush 16, 2) := by decide +kernel
theorem d_M_finding_2 : decode c_M_finding 2 = .ok (.iload_n 2, 1) := by decide +kernel
theorem d_M_finding_3 : decode c_M_finding 3 = .ok (.imul, 1) := by decide +kernel
theorem d_M_finding_4 : decode c_M_finding 4 = .ok (.iload_n 1, 1) := by decide +kernel
theorem d_M_finding_5 : decode c_M_finding 5 = .ok (.iadd, 1) := by decide +kernel
theorem d_M_finding_6 : decode c_M_finding 6 = .ok (.istore_n 3, 1) := by decide +kernel
theorem d_M_finding_7 : decode c_M_finding 7 = .ok (.aload_n 0, 1) := by decide +kernel
theorem d_M_finding_8 : decode c_M_finding 8 = .ok (.iload_n 1, 1) := by decide +kernel
theorem d_M_finding_9 : decode c_M_finding 9 = .ok (.iload_n 2, 1) := by decide +kernel
theorem d_M_finding_10 : decode c_M_finding 10 = .ok (.invokevirtual 154, 3) := by decide +kernel
theorem d_M_finding_13 : decode c_M_finding 13 = .ok (.istore 4, 2) := by decide +kernel
theorem d_M_finding_15 : decode c_M_finding 15 = .ok (.aload_n 0, 1) := by decide +kernel
theorem d_M_finding_16 : decode c_M_finding 16 = .ok (.getfield 39, 3) := by decide +kernel
theorem d_M_finding_19 : decode c_M_finding 19 = .ok (.iload_n 3, 1) := by decide +kernel
theorem d_M_finding_20 : decode c_M_finding 20 = .ok (.iaload, 1) := by decide +kernel
theorem d_M_finding_21 : decode c_M_finding 21 = .ok (.iconst (-1), 1) := by decide +kernel
theorem d_M_finding_22 : decode c_M_finding 22 = .ok (.if_icmp .ne 35, 3) := by decide +kernel
theorem d_M_finding_25 : decode c_M_finding 25 = .ok (.iload 4, 2) := by decide +kernel
theorem d_M_finding_27 : decode c_M_finding 27 = .ok (.ifCond .eq 30, 3) := by decide +kernel
theorem d_M_finding_30 : decode c_M_finding 30 = .ok (.aload_n 0, 1) := by decide +kernel
theorem d_M_finding_31 : decode c_M_finding 31 = .ok (.iload_n 1, 1) := by decide +kernel
theorem d_M_finding_32 : decode c_M_finding 32 = .ok (.iload_n 2, 1) := by decide +kernel
theorem d_M_finding_33 : decode c_M_finding 33 = .ok (.aload_n 0, 1) := by decide +kernel
theorem d_M_finding_34 : decode c_M_finding 34 = .ok (.getfield 135, 3) := by decide +kernel
theorem d_M_finding_37 : decode c_M_finding 37 = .ok (.ifCond .eq 8, 3) := by decide +kernel
theorem d_M_finding_40 : decode c_M_finding 40 = .ok (.bipush 19, 2) := by decide +kernel
theorem d_M_finding_42 : decode c_M_finding 42 = .ok (.goto 5, 3) := by decide +kernel
theorem d_M_finding_45 : decode c_M_finding 45 = .ok (.iload 4, 2) := by decide +kernel
theorem d_M_finding_47 : decode c_M_finding 47 = .ok (.invokevirtual 157, 3) := by decide +kernel
theorem d_M_finding_50 : decode c_M_finding 50 = .ok (.aload_n 0, 1) := by decide +kernel
theorem d_M_finding_51 : decode c_M_finding 51 = .ok (.getfield 42, 3) := by decide +kernel
theorem d_M_finding_54 : decode c_M_finding 54 = .ok (.iload_n 3, 1) := by decide +kernel
theorem d_M_finding_55 : decode c_M_finding 55 = .ok (.iconst 1, 1) := by decide +kernel
theorem d_M_finding_56 : decode c_M_finding 56 = .ok (.bastore, 1) := by decide +kernel
theorem d_M_finding_57 : decode c_M_finding 57 = .ok (.return_, 1) := by decide +kernel
theorem d_M_refining_0 : decode c_M_refining 0 = .ok (.bipush 16, 2) := by decide +kernel
theorem d_M_refining_2 : decode c_M_refining 2 = .ok (.iload_n 2, 1) := by decide +kernel
theorem d_M_refining_3 : decode c_M_refining 3 = .ok (.imul, 1) := by decide +kernel
theorem d_M_refining_4 : decode c_M_refining 4 = .ok (.iload_n 1, 1) := by decide +kernel
theorem d_M_refining_5 : decode c_M_refining 5 = .ok (.iadd, 1) := by decide +kernel
theorem d_M_refining_6 : decode c_M_refining 6 = .ok (.istore_n 3, 1) := by decide +kernel
theorem d_M_refining_7 : decode c_M_refining 7 = .ok (.aload_n 0, 1) := by decide +kernel
theorem d_M_refining_8 : decode c_M_refining 8 = .ok (.getfield 39, 3) := by decide +kernel
theorem d_M_refining_11 : decode c_M_refining 11 = .ok (.iload_n 3, 1) := by decide +kernel
theorem d_M_refining_12 : decode c_M_refining 12 = .ok (.iaload, 1) := by decide +kernel
theorem d_M_refining_13 : decode c_M_refining 13 = .ok (.aload_n 0, 1) := by decide +kernel
theorem d_M_refining_14 : decode c_M_refining 14 = .ok (.getfield 141, 3) := by decide +kernel
theorem d_M_refining_17 : decode c_M_refining 17 = .ok (.if_icmp .gt 4, 3) := by decide +kernel
theorem d_M_refining_20 : decode c_M_refining 20 = .ok (.return_, 1) := by decide +kernel
theorem d_M_refining_21 : decode c_M_refining 21 = .ok (.aload_n 0, 1) := by decide +kernel
theorem d_M_refining_22 : decode c_M_refining 22 = .ok (.iload_n 1, 1) := by decide +kernel
theorem d_M_refining_23 : decode c_M_refining 23 = .ok (.iload_n 2, 1) := by decide +kernel
theorem d_M_refining_24 : decode c_M_refining 24 = .ok (.invokevirtual 128, 3) := by decide +kernel
theorem d_M_refining_27 : decode c_M_refining 27 = .ok (.aload_n 0, 1) := by decide +kernel
theorem d_M_refining_28 : decode c_M_refining 28 = .ok (.iload_n 1, 1) := by decide +kernel
theorem d_M_refining_29 : decode c_M_refining 29 = .ok (.iconst 1, 1) := by decide +kernel
theorem d_M_refining_30 : decode c_M_refining 30 = .ok (.isub, 1) := by decide +kernel
theorem d_M_refining_31 : decode c_M_refining 31 = .ok (.iload_n 2, 1) := by decide +kernel
theorem d_M_refining_32 : decode c_M_refining 32 = .ok (.iload_n 2, 1) := by decide +kernel
theorem d_M_refining_33 : decode c_M_refining 33 = .ok (.invokevirtual 125, 3) := by decide +kernel
theorem d_M_refining_36 : decode c_M_refining 36 = .ok (.iadd, 1) := by decide +kernel
theorem d_M_refining_37 : decode c_M_refining 37 = .ok (.aload_n 0, 1) := by decide +kernel
theorem d_M_refining_38 : decode c_M_refining 38 = .ok (.iload_n 1, 1) := by decide +kernel
theorem d_M_refining_39 : decode c_M_refining 39 = .ok (.iconst 1, 1) := by decide +kernel
theorem d_M_refining_40 : decode c_M_refining 40 = .ok (.iadd, 1) := by decide +kernel
theorem d_M_refining_41 : decode c_M_refining 41 = .ok (.iload_n 2, 1) := by decide +kernel
theorem d_M_refining_42 : decode c_M_refining 42 = .ok (.iload_n 2, 1) := by decide +kernel
theorem d_M_refining_43 : decode c_M_refining 43 = .ok (.invokevirtual 125, 3) := by decide +kernel
theorem d_M_refining_46 : decode c_M_refining 46 = .ok (.iadd, 1) := by decide +kernel
theorem d_M_refining_47 : decode c_M_refining 47 = .ok (.aload_n 0, 1) := by decide +kernel
theorem d_M_refining_48 : decode c_M_refining 48 = .ok (.iload_n 1, 1) := by decide +kernel
theorem d_M_refining_49 : decode c_M_refining 49 = .ok (.iload_n 2, 1) := by decide +kernel
theorem d_M_refining_50 : decode c_M_refining 50 = .ok (.iconst 1, 1) := by decide +kernel
theorem d_M_refining_51 : decode c_M_refining 51 = .ok (.isub, 1) := by decide +kernel
theorem d_M_refining_52 : decode c_M_refining 52 = .ok (.iload_n 2, 1) := by decide +kernel
theorem d_M_refining_53 : decode c_M_refining 53 = .ok (.invokevirtual 125, 3) := by decide +kernel
theorem d_M_refining_56 : decode c_M_refining 56 = .ok (.iadd, 1) := by decide +kernel
theorem d_M_refining_57 : decode c_M_refining 57 = .ok (.aload_n 0, 1) := by decide +kernel
theorem d_M_refining_58 : decode c_M_refining 58 = .ok (.iload_n 1, 1) := by decide +kernel
theorem d_M_refining_59 : decode c_M_refining 59 = .ok (.iload_n 2, 1) := by decide +kernel
theorem d_M_refining_60 : decode c_M_refining 60 = .ok (.iconst 1, 1) := by decide +kernel
theorem d_M_refining_61 : decode c_M_refining 61 = .ok (.iadd, 1) := by decide +kernel
theorem d_M_refining_62 : decode c_M_refining 62 = .ok (.iload_n 2, 1) := by decide +kernel
theorem d_M_refining_63 : decode c_M_refining 63 = .ok (.invokevirtual 125, 3) := by decide +kernel
theorem d_M_refining_66 : decode c_M_refining 66 = .ok (.iadd, 1) := by decide +kernel
theorem d_M_refining_67 : decode c_M_refining 67 = .ok (.istore 4, 2) := by decide +kernel
theorem d_M_refining_69 : decode c_M_refining 69 = .ok (.aload_n 0, 1) := by decide +kernel
theorem d_M_refining_70 : decode c_M_refining 70 = .ok (.getfield 45, 3) := by decide +kernel
theorem d_M_refining_73 : decode c_M_refining 73 = .ok (.iload_n 3, 1) := by decide +kernel
theorem d_M_refining_74 : decode c_M_refining 74 = .ok (.baload, 1) := by decide +kernel
theorem d_M_refining_75 : decode c_M_refining 75 = .ok (.ifCond .eq 8, 3) := by decide +kernel
theorem d_M_refining_78 : decode c_M_refining 78 = .ok (.bipush 16, 2) := by decide +kernel
theorem d_M_refining_80 : decode c_M_refining 80 = .ok (.goto 15, 3) := by decide +kernel
theorem d_M_refining_83 : decode c_M_refining 83 = .ok (.iload 4, 2) := by decide +kernel
theorem d_M_refining_85 : decode c_M_refining 85 = .ok (.ifCond .le 8, 3) := by decide +kernel
theorem d_M_refining_88 : decode c_M_refining 88 = .ok (.bipush 15, 2) := by decide +kernel
theorem d_M_refining_90 : decode c_M_refining 90 = .ok (.goto 5, 3) := by decide +kernel
theorem d_M_refining_93 : decode c_M_refining 93 = .ok (.bipush 14, 2) := by decide +kernel
theorem d_M_refining_95 : decode c_M_refining 95 = .ok (.istore 5, 2) := by decide +kernel
theorem d_M_refining_97 : decode c_M_refining 97 = .ok (.aload_n 0, 1) := by decide +kernel
theorem d_M_refining_98 : decode c_M_refining 98 = .ok (.iload_n 3, 1) := by decide +kernel
theorem d_M_refining_99 : decode c_M_refining 99 = .ok (.aload_n 0, 1) := by decide +kernel
theorem d_M_refining_100 : decode c_M_refining 100 = .ok (.aload_n 0, 1) := by decide +kernel
theorem d_M_refining_101 : decode c_M_refining 101 = .ok (.iload_n 3, 1) := by decide +kernel
theorem d_M_refining_102 : decode c_M_refining 102 = .ok (.invokevirtual 144, 3) := by decide +kernel
theorem d_M_refining_105 : decode c_M_refining 105 = .ok (.aload_n 0, 1) := by decide +kernel
theorem d_M_refining_106 : decode c_M_refining 106 = .ok (.getfield 135, 3) := by decide +kernel
theorem d_M_refining_109 : decode c_M_refining 109 = .ok (.ifCond .eq 8, 3) := by decide +kernel
theorem d_M_refining_112 : decode c_M_refining 112 = .ok (.bipush 19, 2) := by decide +kernel
theorem d_M_refining_114 : decode c_M_refining 114 = .ok (.goto 5, 3) := by decide +kernel
theorem d_M_refining_117 : decode c_M_refining 117 = .ok (.iload 5, 2) := by decide +kernel
theorem d_M_refining_119 : decode c_M_refining 119 = .ok (.invokevirtual 138, 3) := by decide +kernel
theorem d_M_refining_122 : decode c_M_refining 122 = .ok (.invokevirtual 147, 3) := by decide +kernel
theorem d_M_refining_125 : decode c_M_refining 125 = .ok (.aload_n 0, 1) := by decide +kernel
theorem d_M_refining_126 : decode c_M_refining 126 = .ok (.getfield 45, 3) := by decide +kernel
theorem d_M_refining_129 : decode c_M_refining 129 = .ok (.iload_n 3, 1) := by decide +kernel
theorem d_M_refining_130 : decode c_M_refining 130 = .ok (.iconst 1, 1) := by decide +kernel
theorem d_M_refining_131 : decode c_M_refining 131 = .ok (.bastore, 1) := by decide +kernel
theorem d_M_refining_132 : decode c_M_refining 132 = .ok (.return_, 1) := by decide +kernel
theorem d_M_isOpen_0 : decode c_M_isOpen 0 = .ok (.aload_n 0, 1) := by decide +kernel
theorem d_M_isOpen_1 : decode c_M_isOpen 1 = .ok (.getfield 39, 3) := by decide +kernel
theorem d_M_isOpen_4 : decode c_M_isOpen 4 = .ok (.bipush 16, 2) := by decide +kernel
theorem d_M_isOpen_6 : decode c_M_isOpen 6 = .ok (.iload_n 2, 1) := by decide +kernel
theorem d_M_isOpen_7 : decode c_M_isOpen 7 = .ok (.imul, 1) := by decide +kernel
theorem d_M_isOpen_8 : decode c_M_isOpen 8 = .ok (.iload_n 1, 1) := by decide +kernel
theorem d_M_isOpen_9 : decode c_M_isOpen 9 = .ok (.iadd, 1) := by decide +kernel
theorem d_M_isOpen_10 : decode c_M_isOpen 10 = .ok (.iaload, 1) := by decide +kernel
theorem d_M_isOpen_11 : decode c_M_isOpen 11 = .ok (.iconst (-1), 1) := by decide +kernel
theorem d_M_isOpen_12 : decode c_M_isOpen 12 = .ok (.if_icmp .ne 21, 3) := by decide +kernel
theorem d_M_isOpen_15 : decode c_M_isOpen 15 = .ok (.aload_n 0, 1) := by decide +kernel
theorem d_M_isOpen_16 : decode c_M_isOpen 16 = .ok (.getfield 42, 3) := by decide +kernel
theorem d_M_isOpen_19 : decode c_M_isOpen 19 = .ok (.bipush 16, 2) := by decide +kernel
theorem d_M_isOpen_21 : decode c_M_isOpen 21 = .ok (.iload_n 2, 1) := by decide +kernel
theorem d_M_isOpen_22 : decode c_M_isOpen 22 = .ok (.imul, 1) := by decide +kernel
theorem d_M_isOpen_23 : decode c_M_isOpen 23 = .ok (.iload_n 1, 1) := by decide +kernel
theorem d_M_isOpen_24 : decode c_M_isOpen 24 = .ok (.iadd, 1) := by decide +kernel
theorem d_M_isOpen_25 : decode c_M_isOpen 25 = .ok (.baload, 1) := by decide +kernel
theorem d_M_isOpen_26 : decode c_M_isOpen 26 = .ok (.ifCond .ne 7, 3) := by decide +kernel
theorem d_M_isOpen_29 : decode c_M_isOpen 29 = .ok (.iconst 1, 1) := by decide +kernel
theorem d_M_isOpen_30 : decode c_M_isOpen 30 = .ok (.goto 4, 3) := by decide +kernel
theorem d_M_isOpen_33 : decode c_M_isOpen 33 = .ok (.iconst 0, 1) := by decide +kernel
theorem d_M_isOpen_34 : decode c_M_isOpen 34 = .ok (.ireturn, 1) := by decide +kernel
theorem d_M_isEmpty_0 : decode c_M_isEmpty 0 = .ok (.iload_n 2, 1) := by decide +kernel
theorem d_M_isEmpty_1 : decode c_M_isEmpty 1 = .ok (.iconst 4, 1) := by decide +kernel
theorem d_M_isEmpty_2 : decode c_M_isEmpty 2 = .ok (.iadd, 1) := by decide +kernel
theorem d_M_isEmpty_3 : decode c_M_isEmpty 3 = .ok (.aload_n 0, 1) := by decide +kernel
theorem d_M_isEmpty_4 : decode c_M_isEmpty 4 = .ok (.getfield 70, 3) := by decide +kernel
theorem d_M_isEmpty_7 : decode c_M_isEmpty 7 = .ok (.if_icmp .gt 7, 3) := by decide +kernel
theorem d_M_isEmpty_10 : decode c_M_isEmpty 10 = .ok (.iconst 1, 1) := by decide +kernel
theorem d_M_isEmpty_11 : decode c_M_isEmpty 11 = .ok (.goto 4, 3) := by decide +kernel
theorem d_M_isEmpty_14 : decode c_M_isEmpty 14 = .ok (.iconst 0, 1) := by decide +kernel
theorem d_M_isEmpty_15 : decode c_M_isEmpty 15 = .ok (.istore_n 3, 1) := by decide +kernel
theorem d_M_isEmpty_16 : decode c_M_isEmpty 16 = .ok (.iconst 0, 1) := by decide +kernel
theorem d_M_isEmpty_17 : decode c_M_isEmpty 17 = .ok (.istore 4, 2) := by decide +kernel
theorem d_M_isEmpty_19 : decode c_M_isEmpty 19 = .ok (.iload 4, 2) := by decide +kernel
theorem d_M_isEmpty_21 : decode c_M_isEmpty 21 = .ok (.iconst 4, 1) := by decide +kernel
theorem d_M_isEmpty_22 : decode c_M_isEmpty 22 = .ok (.if_icmp .ge 43, 3) := by decide +kernel
theorem d_M_isEmpty_25 : decode c_M_isEmpty 25 = .ok (.iload_n 3, 1) := by decide +kernel
theorem d_M_isEmpty_26 : decode c_M_isEmpty 26 = .ok (.ifCond .eq 39, 3) := by decide +kernel
theorem d_M_isEmpty_29 : decode c_M_isEmpty 29 = .ok (.aload_n 0, 1) := by decide +kernel
theorem d_M_isEmpty_30 : decode c_M_isEmpty 30 = .ok (.iload_n 1, 1) := by decide +kernel
theorem d_M_isEmpty_31 : decode c_M_isEmpty 31 = .ok (.iload_n 2, 1) := by decide +kernel
theorem d_M_isEmpty_32 : decode c_M_isEmpty 32 = .ok (.iload 4, 2) := by decide +kernel
theorem d_M_isEmpty_34 : decode c_M_isEmpty 34 = .ok (.iadd, 1) := by decide +kernel
theorem d_M_isEmpty_35 : decode c_M_isEmpty 35 = .ok (.invokevirtual 161, 3) := by decide +kernel
theorem d_M_isEmpty_38 : decode c_M_isEmpty 38 = .ok (.ifCond .eq 19, 3) := by decide +kernel
theorem d_M_isEmpty_41 : decode c_M_isEmpty 41 = .ok (.aload_n 0, 1) := by decide +kernel
theorem d_M_isEmpty_42 : decode c_M_isEmpty 42 = .ok (.iload_n 1, 1) := by decide +kernel
theorem d_M_isEmpty_43 : decode c_M_isEmpty 43 = .ok (.iload_n 2, 1) := by decide +kernel
theorem d_M_isEmpty_44 : decode c_M_isEmpty 44 = .ok (.iload 4, 2) := by decide +kernel
theorem d_M_isEmpty_46 : decode c_M_isEmpty 46 = .ok (.iadd, 1) := by decide +kernel
theorem d_M_isEmpty_47 : decode c_M_isEmpty 47 = .ok (.invokevirtual 154, 3) := by decide +kernel
theorem d_M_isEmpty_50 : decode c_M_isEmpty 50 = .ok (.ifCond .ne 7, 3) := by decide +kernel
theorem d_M_isEmpty_53 : decode c_M_isEmpty 53 = .ok (.iconst 1, 1) := by decide +kernel
theorem d_M_isEmpty_54 : decode c_M_isEmpty 54 = .ok (.goto 4, 3) := by decide +kernel
theorem d_M_isEmpty_57 : decode c_M_isEmpty 57 = .ok (.iconst 0, 1) := by decide +kernel
theorem d_M_isEmpty_58 : decode c_M_isEmpty 58 = .ok (.istore_n 3, 1) := by decide +kernel
theorem d_M_isEmpty_59 : decode c_M_isEmpty 59 = .ok (.iinc 4 1, 3) := by decide +kernel
theorem d_M_isEmpty_62 : decode c_M_isEmpty 62 = .ok (.goto (-43), 3) := by decide +kernel
theorem d_M_isEmpty_65 : decode c_M_isEmpty 65 = .ok (.iload_n 3, 1) := by decide +kernel
theorem d_M_isEmpty_66 : decode c_M_isEmpty 66 = .ok (.ireturn, 1) := by decide +kernel
theorem d_M_run_0 : decode c_M_run 0 = .ok (.iconst 0, 1) := by decide +kernel
theorem d_M_run_1 : decode c_M_run 1 = .ok (.istore_n 3, 1) := by decide +kernel
theorem d_M_run_2 : decode c_M_run 2 = .ok (.iload_n 3, 1) := by decide +kernel
theorem d_M_run_3 : decode c_M_run 3 = .ok (.iconst 4, 1) := by decide +kernel
theorem d_M_run_4 : decode c_M_run 4 = .ok (.if_icmp .ge 24, 3) := by decide +kernel
theorem d_M_run_7 : decode c_M_run 7 = .ok (.aload_n 0, 1) := by decide +kernel
theorem d_M_run_8 : decode c_M_run 8 = .ok (.bipush 16, 2) := by decide +kernel
theorem d_M_run_10 : decode c_M_run 10 = .ok (.iload_n 2, 1) := by decide +kernel
theorem d_M_run_11 : decode c_M_run 11 = .ok (.iload_n 3, 1) := by decide +kernel
theorem d_M_run_12 : decode c_M_run 12 = .ok (.iadd, 1) := by decide +kernel
theorem d_M_run_13 : decode c_M_run 13 = .ok (.imul, 1) := by decide +kernel
theorem d_M_run_14 : decode c_M_run 14 = .ok (.iload_n 1, 1) := by decide +kernel
theorem d_M_run_15 : decode c_M_run 15 = .ok (.iadd, 1) := by decide +kernel
theorem d_M_run_16 : decode c_M_run 16 = .ok (.invokevirtual 144, 3) := by decide +kernel
theorem d_M_run_19 : decode c_M_run 19 = .ok (.ifCond .ne 9, 3) := by decide +kernel
theorem d_M_run_22 : decode c_M_run 22 = .ok (.iinc 3 1, 3) := by decide +kernel
theorem d_M_run_25 : decode c_M_run 25 = .ok (.goto (-23), 3) := by decide +kernel
theorem d_M_run_28 : decode c_M_run 28 = .ok (.aload_n 0, 1) := by decide +kernel
theorem d_M_run_29 : decode c_M_run 29 = .ok (.iload_n 3, 1) := by decide +kernel
theorem d_M_run_30 : decode c_M_run 30 = .ok (.iconst 4, 1) := by decide +kernel
theorem d_M_run_31 : decode c_M_run 31 = .ok (.if_icmp .ge 7, 3) := by decide +kernel
theorem d_M_run_34 : decode c_M_run 34 = .ok (.iconst 1, 1) := by decide +kernel
theorem d_M_run_35 : decode c_M_run 35 = .ok (.goto 4, 3) := by decide +kernel
theorem d_M_run_38 : decode c_M_run 38 = .ok (.iconst 0, 1) := by decide +kernel
theorem d_M_run_39 : decode c_M_run 39 = .ok (.bipush 17, 2) := by decide +kernel
theorem d_M_run_41 : decode c_M_run 41 = .ok (.invokevirtual 138, 3) := by decide +kernel
theorem d_M_run_44 : decode c_M_run 44 = .ok (.ifCond .ne 34, 3) := by decide +kernel
theorem d_M_run_47 : decode c_M_run 47 = .ok (.iconst 0, 1) := by decide +kernel
theorem d_M_run_48 : decode c_M_run 48 = .ok (.istore 4, 2) := by decide +kernel
theorem d_M_run_50 : decode c_M_run 50 = .ok (.iload 4, 2) := by decide +kernel
theorem d_M_run_52 : decode c_M_run 52 = .ok (.iconst 4, 1) := by decide +kernel
theorem d_M_run_53 : decode c_M_run 53 = .ok (.if_icmp .ge 23, 3) := by decide +kernel
theorem d_M_run_56 : decode c_M_run 56 = .ok (.aload_n 0, 1) := by decide +kernel
theorem d_M_run_57 : decode c_M_run 57 = .ok (.bipush 16, 2) := by decide +kernel
theorem d_M_run_59 : decode c_M_run 59 = .ok (.iload_n 2, 1) := by decide +kernel
theorem d_M_run_60 : decode c_M_run 60 = .ok (.iload 4, 2) := by decide +kernel
theorem d_M_run_62 : decode c_M_run 62 = .ok (.iadd, 1) := by decide +kernel
theorem d_M_run_63 : decode c_M_run 63 = .ok (.imul, 1) := by decide +kernel
theorem d_M_run_64 : decode c_M_run 64 = .ok (.iload_n 1, 1) := by decide +kernel
theorem d_M_run_65 : decode c_M_run 65 = .ok (.iadd, 1) := by decide +kernel
theorem d_M_run_66 : decode c_M_run 66 = .ok (.iconst 0, 1) := by decide +kernel
theorem d_M_run_67 : decode c_M_run 67 = .ok (.invokevirtual 147, 3) := by decide +kernel
theorem d_M_run_70 : decode c_M_run 70 = .ok (.iinc 4 1, 3) := by decide +kernel
theorem d_M_run_73 : decode c_M_run 73 = .ok (.goto (-23), 3) := by decide +kernel
theorem d_M_run_76 : decode c_M_run 76 = .ok (.iconst 4, 1) := by decide +kernel
theorem d_M_run_77 : decode c_M_run 77 = .ok (.ireturn, 1) := by decide +kernel
theorem d_M_run_78 : decode c_M_run 78 = .ok (.aload_n 0, 1) := by decide +kernel
theorem d_M_run_79 : decode c_M_run 79 = .ok (.iload_n 3, 1) := by decide +kernel
theorem d_M_run_80 : decode c_M_run 80 = .ok (.iconst 1, 1) := by decide +kernel
theorem d_M_run_81 : decode c_M_run 81 = .ok (.ishr, 1) := by decide +kernel
theorem d_M_run_82 : decode c_M_run 82 = .ok (.iconst 1, 1) := by decide +kernel
theorem d_M_run_83 : decode c_M_run 83 = .ok (.iand, 1) := by decide +kernel
theorem d_M_run_84 : decode c_M_run 84 = .ok (.bipush 18, 2) := by decide +kernel
theorem d_M_run_86 : decode c_M_run 86 = .ok (.invokevirtual 138, 3) := by decide +kernel
theorem d_M_run_89 : decode c_M_run 89 = .ok (.istore 4, 2) := by decide +kernel
theorem d_M_run_91 : decode c_M_run 91 = .ok (.iconst 2, 1) := by decide +kernel
theorem d_M_run_92 : decode c_M_run 92 = .ok (.iload 4, 2) := by decide +kernel
theorem d_M_run_94 : decode c_M_run 94 = .ok (.imul, 1) := by decide +kernel
theorem d_M_run_95 : decode c_M_run 95 = .ok (.aload_n 0, 1) := by decide +kernel
theorem d_M_run_96 : decode c_M_run 96 = .ok (.iload_n 3, 1) := by decide +kernel
theorem d_M_run_97 : decode c_M_run 97 = .ok (.iconst 1, 1) := by decide +kernel
theorem d_M_run_98 : decode c_M_run 98 = .ok (.iand, 1) := by decide +kernel
theorem d_M_run_99 : decode c_M_run 99 = .ok (.bipush 18, 2) := by decide +kernel
theorem d_M_run_101 : decode c_M_run 101 = .ok (.invokevirtual 138, 3) := by decide +kernel
theorem d_M_run_104 : decode c_M_run 104 = .ok (.iadd, 1) := by decide +kernel
theorem d_M_run_105 : decode c_M_run 105 = .ok (.istore 5, 2) := by decide +kernel
theorem d_M_run_107 : decode c_M_run 107 = .ok (.iconst 0, 1) := by decide +kernel
theorem d_M_run_108 : decode c_M_run 108 = .ok (.istore 6, 2) := by decide +kernel
theorem d_M_run_110 : decode c_M_run 110 = .ok (.iload 6, 2) := by decide +kernel
theorem d_M_run_112 : decode c_M_run 112 = .ok (.iload 5, 2) := by decide +kernel
theorem d_M_run_114 : decode c_M_run 114 = .ok (.if_icmp .gt 34, 3) := by decide +kernel
theorem d_M_run_117 : decode c_M_run 117 = .ok (.aload_n 0, 1) := by decide +kernel
theorem d_M_run_118 : decode c_M_run 118 = .ok (.bipush 16, 2) := by decide +kernel
theorem d_M_run_120 : decode c_M_run 120 = .ok (.iload_n 2, 1) := by decide +kernel
theorem d_M_run_121 : decode c_M_run 121 = .ok (.iload 6, 2) := by decide +kernel
theorem d_M_run_123 : decode c_M_run 123 = .ok (.iadd, 1) := by decide +kernel
theorem d_M_run_124 : decode c_M_run 124 = .ok (.imul, 1) := by decide +kernel
theorem d_M_run_125 : decode c_M_run 125 = .ok (.iload_n 1, 1) := by decide +kernel
theorem d_M_run_126 : decode c_M_run 126 = .ok (.iadd, 1) := by decide +kernel
theorem d_M_run_127 : decode c_M_run 127 = .ok (.iload 6, 2) := by decide +kernel
theorem d_M_run_129 : decode c_M_run 129 = .ok (.iload 5, 2) := by decide +kernel
theorem d_M_run_131 : decode c_M_run 131 = .ok (.if_icmp .ne 7, 3) := by decide +kernel
theorem d_M_run_134 : decode c_M_run 134 = .ok (.iconst 1, 1) := by decide +kernel
theorem d_M_run_135 : decode c_M_run 135 = .ok (.goto 4, 3) := by decide +kernel
theorem d_M_run_138 : decode c_M_run 138 = .ok (.iconst 0, 1) := by decide +kernel
theorem d_M_run_139 : decode c_M_run 139 = .ok (.invokevirtual 147, 3) := by decide +kernel
theorem d_M_run_142 : decode c_M_run 142 = .ok (.iinc 6 1, 3) := by decide +kernel
theorem d_M_run_145 : decode c_M_run 145 = .ok (.goto (-35), 3) := by decide +kernel
theorem d_M_run_148 : decode c_M_run 148 = .ok (.aload_n 0, 1) := by decide +kernel
theorem d_M_run_149 : decode c_M_run 149 = .ok (.iload_n 1, 1) := by decide +kernel
theorem d_M_run_150 : decode c_M_run 150 = .ok (.iload_n 2, 1) := by decide +kernel
theorem d_M_run_151 : decode c_M_run 151 = .ok (.iload 5, 2) := by decide +kernel
theorem d_M_run_153 : decode c_M_run 153 = .ok (.iadd, 1) := by decide +kernel
theorem d_M_run_154 : decode c_M_run 154 = .ok (.invokevirtual 151, 3) := by decide +kernel
theorem d_M_run_157 : decode c_M_run 157 = .ok (.iload 5, 2) := by decide +kernel
theorem d_M_run_159 : decode c_M_run 159 = .ok (.iconst 1, 1) := by decide +kernel
theorem d_M_run_160 : decode c_M_run 160 = .ok (.iadd, 1) := by decide +kernel
theorem d_M_run_161 : decode c_M_run 161 = .ok (.ireturn, 1) := by decide +kernel
theorem d_M_cleanup_0 : decode c_M_cleanup 0 = .ok (.aload_n 0, 1) := by decide +kernel
theorem d_M_cleanup_1 : decode c_M_cleanup 1 = .ok (.iload_n 1, 1) := by decide +kernel
theorem d_M_cleanup_2 : decode c_M_cleanup 2 = .ok (.iload_n 2, 1) := by decide +kernel
theorem d_M_cleanup_3 : decode c_M_cleanup 3 = .ok (.invokevirtual 164, 3) := by decide +kernel
theorem d_M_cleanup_6 : decode c_M_cleanup 6 = .ok (.ifCond .eq 12, 3) := by decide +kernel
theorem d_M_cleanup_9 : decode c_M_cleanup 9 = .ok (.aload_n 0, 1) := by decide +kernel
theorem d_M_cleanup_10 : decode c_M_cleanup 10 = .ok (.iload_n 1, 1) := by decide +kernel
theorem d_M_cleanup_11 : decode c_M_cleanup 11 = .ok (.iload_n 2, 1) := by decide +kernel
theorem d_M_cleanup_12 : decode c_M_cleanup 12 = .ok (.invokevirtual 167, 3) := by decide +kernel
theorem d_M_cleanup_15 : decode c_M_cleanup 15 = .ok (.goto 4, 3) := by decide +kernel
theorem d_M_cleanup_18 : decode c_M_cleanup 18 = .ok (.iconst 0, 1) := by decide +kernel
theorem d_M_cleanup_19 : decode c_M_cleanup 19 = .ok (.istore_n 3, 1) := by decide +kernel
theorem d_M_cleanup_20 : decode c_M_cleanup 20 = .ok (.iload_n 3, 1) := by decide +kernel
theorem d_M_cleanup_21 : decode c_M_cleanup 21 = .ok (.iconst 4, 1) := by decide +kernel
theorem d_M_cleanup_22 : decode c_M_cleanup 22 = .ok (.if_icmp .ge 46, 3) := by decide +kernel
theorem d_M_cleanup_25 : decode c_M_cleanup 25 = .ok (.iload_n 2, 1) := by decide +kernel
theorem d_M_cleanup_26 : decode c_M_cleanup 26 = .ok (.iload_n 3, 1) := by decide +kernel
theorem d_M_cleanup_27 : decode c_M_cleanup 27 = .ok (.iadd, 1) := by decide +kernel
theorem d_M_cleanup_28 : decode c_M_cleanup 28 = .ok (.aload_n 0, 1) := by decide +kernel
theorem d_M_cleanup_29 : decode c_M_cleanup 29 = .ok (.getfield 70, 3) := by decide +kernel
theorem d_M_cleanup_32 : decode c_M_cleanup 32 = .ok (.if_icmp .ge 36, 3) := by decide +kernel
theorem d_M_cleanup_35 : decode c_M_cleanup 35 = .ok (.aload_n 0, 1) := by decide +kernel
theorem d_M_cleanup_36 : decode c_M_cleanup 36 = .ok (.iload_n 1, 1) := by decide +kernel
theorem d_M_cleanup_37 : decode c_M_cleanup 37 = .ok (.iload_n 2, 1) := by decide +kernel
theorem d_M_cleanup_38 : decode c_M_cleanup 38 = .ok (.iload_n 3, 1) := by decide +kernel
theorem d_M_cleanup_39 : decode c_M_cleanup 39 = .ok (.iadd, 1) := by decide +kernel
theorem d_M_cleanup_40 : decode c_M_cleanup 40 = .ok (.invokevirtual 161, 3) := by decide +kernel
theorem d_M_cleanup_43 : decode c_M_cleanup 43 = .ok (.ifCond .eq 19, 3) := by decide +kernel
theorem d_M_cleanup_46 : decode c_M_cleanup 46 = .ok (.aload_n 0, 1) := by decide +kernel
theorem d_M_cleanup_47 : decode c_M_cleanup 47 = .ok (.iload_n 1, 1) := by decide +kernel
theorem d_M_cleanup_48 : decode c_M_cleanup 48 = .ok (.iload_n 2, 1) := by decide +kernel
theorem d_M_cleanup_49 : decode c_M_cleanup 49 = .ok (.iload_n 3, 1) := by decide +kernel
theorem d_M_cleanup_50 : decode c_M_cleanup 50 = .ok (.iadd, 1) := by decide +kernel
theorem d_M_cleanup_51 : decode c_M_cleanup 51 = .ok (.aload_n 0, 1) := by decide +kernel
theorem d_M_cleanup_52 : decode c_M_cleanup 52 = .ok (.iload_n 1, 1) := by decide +kernel
theorem d_M_cleanup_53 : decode c_M_cleanup 53 = .ok (.iload_n 2, 1) := by decide +kernel
theorem d_M_cleanup_54 : decode c_M_cleanup 54 = .ok (.iload_n 3, 1) := by decide +kernel
theorem d_M_cleanup_55 : decode c_M_cleanup 55 = .ok (.iadd, 1) := by decide +kernel
theorem d_M_cleanup_56 : decode c_M_cleanup 56 = .ok (.invokevirtual 154, 3) := by decide +kernel
theorem d_M_cleanup_59 : decode c_M_cleanup 59 = .ok (.invokevirtual 157, 3) := by decide +kernel
theorem d_M_cleanup_62 : decode c_M_cleanup 62 = .ok (.iinc 3 1, 3) := by decide +kernel
theorem d_M_cleanup_65 : decode c_M_cleanup 65 = .ok (.goto (-45), 3) := by decide +kernel
theorem d_M_cleanup_68 : decode c_M_cleanup 68 = .ok (.return_, 1) := by decide +kernel
abbrev rm_M_find : Room := { frames := 2, cells := 0, slots := 0, locals := 47 }
set_option maxHeartbeats 4000000 in
set_option maxRecDepth 100000 in
theorem m_M_find (l : Launch) (dC : Nat → ClassId) (dI : Nat → Nat → Nat) (q_mo q_msa q_mbi q_mcx q_mpa q_mle q_mdi q_mrd q_msz q_mbe q_mfa q_mse q_mrf q_mlo q_mos q_mwb q_mol q_mrv q_mrl : Nat) (k_msa : ClassId) (n_msa : Nat) (k_mbi : ClassId) (n_mbi : Nat) (k_mcx : ClassId) (n_mcx : Nat) (k_mpa : ClassId) (n_mpa : Nat) (k_mrd : ClassId) (n_mrd : Nat) (k_mbe : ClassId) (n_mbe : Nat) (k_mfa : ClassId) (n_mfa : Nat) (mref : Int32) (mw : Int32) (mh : Int32) (mst : Int32) (mbd : Int32) (mtb : Int32) (mps : Int32) (mtr : Int32) (misr : Int32) (mplc : Int32) (mlak : Int32) (mpl : Int32) (mpass : Int32) (mraw : Int32) (msam : (Nat → Int32)) (mbits : (Nat → Int32)) (mctxs : (Nat → Int32)) (mpaso : (Nat → Int32)) (mreads : (Nat → Int32)) (mbels : (Nat → Int32)) (mfnds : (Nat → Int32)) (a0 : Int32) (a1 : Int32) (u : Int32 × Int32 × Int32 × (Nat → Int32) × (Nat → Int32) × (Nat → Int32) × (Nat → Int32) × (Nat → Int32)) (hF : f_M_find mw mh mst mtb mtr misr mplc mlak mpl mpass mraw msam mbits mctxs mpaso mreads mbels mfnds n_msa n_mbi n_mcx n_mpa n_mrd n_mbe n_mfa a0 a1 = some u) : ∀ sz : Nat, Met l y_M_find (kws y_M_find c_M_find 10 none) rm_M_find (kPre (dC, dI) [.ref q_mo, .int a0, .int a1] [(q_mo, .inr (5, [.int mref, .int mw, .int mh, .int mst, .int mbd, .ref q_msa, .int mtb, .ref q_mbi, .ref q_mcx, .ref q_mpa, .int mps, .ref q_mle, .ref q_mdi, .int mtr, .ref q_mrd, .int misr, .int mplc, .int mlak, .int mpl, .int mpass, .int mraw, .ref q_msz, .ref q_mbe, .ref q_mfa, .ref q_mse, .ref q_mrf, .ref q_mlo, .ref q_mos, .ref q_mwb, .ref q_mol, .ref q_mrv, .ref q_mrl])), (q_msa, .inl (k_msa, n_msa, .inl msam)), (q_mbi, .inl (k_mbi, n_mbi, .inl mbits)), (q_mcx, .inl (k_mcx, n_mcx, .inl mctxs)), (q_mpa, .inl (k_mpa, n_mpa, .inl mpaso)), (q_mrd, .inl (k_mrd, n_mrd, .inl mreads)), (q_mbe, .inl (k_mbe, n_mbe, .inl mbels)), (q_mfa, .inl (k_mfa, n_mfa, .inl mfnds))] [(k_msa, .int), (k_mbi, .int), (k_mcx, .int), (k_mpa, .int), (k_mrd, .int), (k_mbe, .boolean), (k_mfa, .int)] sz) (kPost (dC, dI) none [(q_mo, .inr (5, [.int mref, .int mw, .int mh, .int mst, .int mbd, .ref q_msa, .int u.1, .ref q_mbi, .ref q_mcx, .ref q_mpa, .int mps, .ref q_mle, .ref q_mdi, .int mtr, .ref q_mrd, .int misr, .int u.2.1, .int u.2.2.1, .int mpl, .int mpass, .int mraw, .ref q_msz, .ref q_mbe, .ref q_mfa, .ref q_mse, .ref q_mrf, .ref q_mlo, .ref q_mos, .ref q_mwb, .ref q_mol, .ref q_mrv, .ref q_mrl])), (q_msa, .inl (k_msa, n_msa, .inl msam)), (q_mbi, .inl (k_mbi, n_mbi, .inl u.2.2.2.1)), (q_mcx, .inl (k_mcx, n_mcx, .inl u.2.2.2.2.1)), (q_mpa, .inl (k_mpa, n_mpa, .inl u.2.2.2.2.2.1)), (q_mrd, .inl (k_mrd, n_mrd, .inl mreads)), (q_mbe, .inl (k_mbe, n_mbe, .inl u.2.2.2.2.2.2.1)), (q_mfa, .inl (k_mfa, n_mfa, .inl u.2.2.2.2.2.2.2))] (va_A [(q_mo, .inr (5, [.int mref, .int mw, .int mh, .int mst, .int mbd, .ref q_msa, .int mtb, .ref q_mbi, .ref q_mcx, .ref q_mpa, .int mps, .ref q_mle, .ref q_mdi, .int mtr, .ref q_mrd, .int misr, .int mplc, .int mlak, .int mpl, .int mpass, .int mraw, .ref q_msz, .ref q_mbe, .ref q_mfa, .ref q_mse, .ref q_mrf, .ref q_mlo, .ref q_mos, .ref q_mwb, .ref q_mol, .ref q_mrv, .ref q_mrl])), (q_msa, .inl (k_msa, n_msa, .inl msam)), (q_mbi, .inl (k_mbi, n_mbi, .inl mbits)), (q_mcx, .inl (k_mcx, n_mcx, .inl mctxs)), (q_mpa, .inl (k_mpa, n_mpa, .inl mpaso)), (q_mrd, .inl (k_mrd, n_mrd, .inl mreads)), (q_mbe, .inl (k_mbe, n_mbe, .inl mbels)), (q_mfa, .inl (k_mfa, n_mfa, .inl mfnds))] sz)) 0 0 (va_A [(q_mo, .inr (5, [.int mref, .int mw, .int mh, .int mst, .int mbd, .ref q_msa, .int mtb, .ref q_mbi, .ref q_mcx, .ref q_mpa, .int mps, .ref q_mle, .ref q_mdi, .int mtr, .ref q_mrd, .int misr, .int mplc, .int mlak, .int mpl, .int mpass, .int mraw, .ref q_msz, .ref q_mbe, .ref q_mfa, .ref q_mse, .ref q_mrf, .ref q_mlo, .ref q_mos, .ref q_mwb, .ref q_mol, .ref q_mrv, .ref q_mrl])), (q_msa, .inl (k_msa, n_msa, .inl msam)), (q_mbi, .inl (k_mbi, n_mbi, .inl mbits)), (q_mcx, .inl (k_mcx, n_mcx, .inl mctxs)), (q_mpa, .inl (k_mpa, n_mpa, .inl mpaso)), (q_mrd, .inl (k_mrd, n_mrd, .inl mreads)), (q_mbe, .inl (k_mbe, n_mbe, .inl mbels)), (q_mfa, .inl (k_mfa, n_mfa, .inl mfnds))] sz) := by
  unfold f_M_find at hF
  refine kU_of (cc := c_M_find) (maxL := 10) (ret := none) (by decide) (Nat.le_of_ble_eq_true rfl) ?_
  intro p e s m args below meth c Q A hQ hfx hK hN hA H locs ls hP hD hS hl
  obtain ⟨hx, hb, hr, hml, hown, hts, hlocks⟩ := hfx
  have hown : s.vm.findClass R_M = some m.cls := hown
  have hl : lv_has ls 10 [(0, .ref q_mo), (1, .int a0), (2, .int a1)] := hl
  refine lv_bipush (v := 16) hx hb d_M_find_0 (by decide) ?_
  refine lv_iload_n hx hb d_M_find_2 rfl (lv_at hl 2 rfl) ?_
  refine lv_imul hx hb d_M_find_3 ?_
  refine lv_iload_n hx hb d_M_find_4 rfl (lv_at hl 1 rfl) ?_
  refine lv_iadd hx hb d_M_find_5 ?_
  refine lv_istore_n (lv' := [(3, .int (((16 : Int32) * a1) + a0)), (0, .ref q_mo), (1, .int a0), (2, .int a1)]) hx hb d_M_find_6 rfl hl (by decide) rfl (fun ls hl => ?_)
  refine lv_aload_n hx hb d_M_find_7 rfl (lv_at hl 1 rfl) ?_
  refine lv_iload_n hx hb d_M_find_8 rfl (lv_at hl 2 rfl) ?_
  refine lv_iconst (v := 1) hx hb d_M_find_9 (by decide) ?_
  refine lv_isub hx hb d_M_find_10 ?_
  refine lv_iload_n hx hb d_M_find_11 rfl (lv_at hl 3 rfl) ?_
  refine lv_iload_n hx hb d_M_find_12 rfl (lv_at hl 3 rfl) ?_
  obtain ⟨u1, hc, hF⟩ := kc_bnd hF
  refine kr_call (va_runV (As := [.int (a0 - (1 : Int32)), .int a1, .int a1]) (rest := []) ⟨hx, hb, hml, hown, hts⟩ (m_M_signAt l dC dI q_mo q_msa q_mbi q_mcx q_mpa q_mle q_mdi q_mrd q_msz q_mbe q_mfa q_mse q_mrf q_mlo q_mos q_mwb q_mol q_mrv q_mrl k_mbe n_mbe k_mfa n_mfa mref mw mh mst mbd mtb mps mtr misr mplc mlak mpl mpass mraw mbels mfnds (a0 - (1 : Int32)) a1 a1 _ hc) (cwV 3 hts (kgV kw_4_66 kw_4_68 kp_34 kw_1_8 kw_4_69) rfl rfl rfl (by decide +kernel) ⟨Nat.le_of_ble_eq_true rfl, Nat.le_of_ble_eq_true rfl⟩) ⟨kRe_blind, va_recv hK hP (ci := 5) (q0 := 0) rfl rfl, kRe_of (hP.sub [0, 6, 7] rfl) (hK.sub [5, 6] rfl) hN⟩ rfl rfl hl.1 rfl (lv_room (Nat.le_of_ble_eq_true rfl)) d_M_find_13 ⟨Nat.le_of_ble_eq_true rfl, Nat.le_of_ble_eq_true rfl⟩) ?_
  refine lv_aload_n hx hb d_M_find_16 rfl (lv_at hl 1 rfl) ?_
  refine lv_iload_n hx hb d_M_find_17 rfl (lv_at hl 2 rfl) ?_
  refine lv_iconst (v := 1) hx hb d_M_find_18 (by decide) ?_
  refine lv_iadd hx hb d_M_find_19 ?_
  refine lv_iload_n hx hb d_M_find_20 rfl (lv_at hl 3 rfl) ?_
  refine lv_iload_n hx hb d_M_find_21 rfl (lv_at hl 3 rfl) ?_
  obtain ⟨u2, hc, hF⟩ := kc_bnd hF
  refine kr_call (va_runV (As := [.int (a0 + (1 : Int32)), .int a1, .int a1]) (rest := [.int u1]) ⟨hx, hb, hml, hown, hts⟩ (m_M_signAt l dC dI q_mo q_msa q_mbi q_mcx q_mpa q_mle q_mdi q_mrd q_msz q_mbe q_mfa q_mse q_mrf q_mlo q_mos q_mwb q_mol q_mrv q_mrl k_mbe n_mbe k_mfa n_mfa mref mw mh mst mbd mtb mps mtr misr mplc mlak mpl mpass mraw mbels mfnds (a0 + (1 : Int32)) a1 a1 _ hc) (cwV 3 hts (kgV kw_4_66 kw_4_68 kp_34 kw_1_8 kw_4_69) rfl rfl rfl (by decide +kernel) ⟨Nat.le_of_ble_eq_true rfl, Nat.le_of_ble_eq_true rfl⟩) ⟨kRe_blind, va_recv hK hP (ci := 5) (q0 := 0) rfl rfl, kRe_of (hP.sub [0, 6, 7] rfl) (hK.sub [5, 6] rfl) hN⟩ rfl rfl hl.1 rfl (lv_room (Nat.le_of_ble_eq_true rfl)) d_M_find_22 ⟨Nat.le_of_ble_eq_true rfl, Nat.le_of_ble_eq_true rfl⟩) ?_
  refine lv_iadd hx hb d_M_find_25 ?_
  refine kr_call (va_runS (As := [.int (u1 + u2)]) (rest := []) ⟨hx, hb, hml, hown, hts⟩ (m_MS_brought l dC dI (u1 + u2) (f_MS_brought (u1 + u2)) rfl) (va_cwS 1 hts (kgS kw_4_94 kw_4_95 kw_1_8 kw_4_96) rfl rfl rfl (by decide +kernel) ⟨Nat.le_of_ble_eq_true rfl, Nat.le_of_ble_eq_true rfl⟩) ⟨kRe_blind, kRe_of (hP.sub [] rfl) (hK.sub [] rfl) hN⟩ rfl rfl hl.1 rfl (lv_room (Nat.le_of_ble_eq_true rfl)) d_M_find_26 ⟨Nat.le_of_ble_eq_true rfl, Nat.le_of_ble_eq_true rfl⟩) ?_
  refine lv_istore (lv' := [(4, .int (f_MS_brought (u1 + u2))), (3, .int (((16 : Int32) * a1) + a0)), (0, .ref q_mo), (1, .int a0), (2, .int a1)]) hx hb d_M_find_29 hl (by decide) rfl (fun ls hl => ?_)
  refine lv_aload_n hx hb d_M_find_31 rfl (lv_at hl 2 rfl) ?_
  refine lv_iload_n hx hb d_M_find_32 rfl (lv_at hl 3 rfl) ?_
  refine lv_iload_n hx hb d_M_find_33 rfl (lv_at hl 4 rfl) ?_
  refine lv_iconst (v := 1) hx hb d_M_find_34 (by decide) ?_
  refine lv_isub hx hb d_M_find_35 ?_
  refine lv_iload_n hx hb d_M_find_36 rfl (lv_at hl 4 rfl) ?_
  obtain ⟨u3, hc, hF⟩ := kc_bnd hF
  refine kr_call (va_runV (As := [.int a0, .int (a1 - (1 : Int32)), .int a1]) (rest := []) ⟨hx, hb, hml, hown, hts⟩ (m_M_signAt l dC dI q_mo q_msa q_mbi q_mcx q_mpa q_mle q_mdi q_mrd q_msz q_mbe q_mfa q_mse q_mrf q_mlo q_mos q_mwb q_mol q_mrv q_mrl k_mbe n_mbe k_mfa n_mfa mref mw mh mst mbd mtb mps mtr misr mplc mlak mpl mpass mraw mbels mfnds a0 (a1 - (1 : Int32)) a1 _ hc) (cwV 3 hts (kgV kw_4_66 kw_4_68 kp_34 kw_1_8 kw_4_69) rfl rfl rfl (by decide +kernel) ⟨Nat.le_of_ble_eq_true rfl, Nat.le_of_ble_eq_true rfl⟩) ⟨kRe_blind, va_recv hK hP (ci := 5) (q0 := 0) rfl rfl, kRe_of (hP.sub [0, 6, 7] rfl) (hK.sub [5, 6] rfl) hN⟩ rfl rfl hl.1 rfl (lv_room (Nat.le_of_ble_eq_true rfl)) d_M_find_37 ⟨Nat.le_of_ble_eq_true rfl, Nat.le_of_ble_eq_true rfl⟩) ?_
  refine lv_aload_n hx hb d_M_find_40 rfl (lv_at hl 2 rfl) ?_
  refine lv_iload_n hx hb d_M_find_41 rfl (lv_at hl 3 rfl) ?_
  refine lv_iload_n hx hb d_M_find_42 rfl (lv_at hl 4 rfl) ?_
  refine lv_iconst (v := 1) hx hb d_M_find_43 (by decide) ?_
  refine lv_iadd hx hb d_M_find_44 ?_
  refine lv_iload_n hx hb d_M_find_45 rfl (lv_at hl 4 rfl) ?_
  obtain ⟨u4, hc, hF⟩ := kc_bnd hF
  refine kr_call (va_runV (As := [.int a0, .int (a1 + (1 : Int32)), .int a1]) (rest := [.int u3]) ⟨hx, hb, hml, hown, hts⟩ (m_M_signAt l dC dI q_mo q_msa q_mbi q_mcx q_mpa q_mle q_mdi q_mrd q_msz q_mbe q_mfa q_mse q_mrf q_mlo q_mos q_mwb q_mol q_mrv q_mrl k_mbe n_mbe k_mfa n_mfa mref mw mh mst mbd mtb mps mtr misr mplc mlak mpl mpass mraw mbels mfnds a0 (a1 + (1 : Int32)) a1 _ hc) (cwV 3 hts (kgV kw_4_66 kw_4_68 kp_34 kw_1_8 kw_4_69) rfl rfl rfl (by decide +kernel) ⟨Nat.le_of_ble_eq_true rfl, Nat.le_of_ble_eq_true rfl⟩) ⟨kRe_blind, va_recv hK hP (ci := 5) (q0 := 0) rfl rfl, kRe_of (hP.sub [0, 6, 7] rfl) (hK.sub [5, 6] rfl) hN⟩ rfl rfl hl.1 rfl (lv_room (Nat.le_of_ble_eq_true rfl)) d_M_find_46 ⟨Nat.le_of_ble_eq_true rfl, Nat.le_of_ble_eq_true rfl⟩) ?_
  refine lv_iadd hx hb d_M_find_49 ?_
  refine kr_call (va_runS (As := [.int (u3 + u4)]) (rest := []) ⟨hx, hb, hml, hown, hts⟩ (m_MS_brought l dC dI (u3 + u4) (f_MS_brought (u3 + u4)) rfl) (va_cwS 1 hts (kgS kw_4_94 kw_4_95 kw_1_8 kw_4_96) rfl rfl rfl (by decide +kernel) ⟨Nat.le_of_ble_eq_true rfl, Nat.le_of_ble_eq_true rfl⟩) ⟨kRe_blind, kRe_of (hP.sub [] rfl) (hK.sub [] rfl) hN⟩ rfl rfl hl.1 rfl (lv_room (Nat.le_of_ble_eq_true rfl)) d_M_find_50 ⟨Nat.le_of_ble_eq_true rfl, Nat.le_of_ble_eq_true rfl⟩) ?_
  refine lv_istore (lv' := [(5, .int (f_MS_brought (u3 + u4))), (4, .int (f_MS_brought (u1 + u2))), (3, .int (((16 : Int32) * a1) + a0)), (0, .ref q_mo), (1, .int a0), (2, .int a1)]) hx hb d_M_find_53 hl (by decide) rfl (fun ls hl => ?_)
  refine lv_iload hx hb d_M_find_55 (lv_at hl 1 rfl) ?_
  obtain ⟨u6, hcu6, hF⟩ := kc_bnd hF
  have hJu6 : ∀ (H : Heap) (locs : List Loc) (ls : Array Slot), va_P (dC, dI) vwCl [(q_mo, .inr (5, [.int mref, .int mw, .int mh, .int mst, .int mbd, .ref q_msa, .int mtb, .ref q_mbi, .ref q_mcx, .ref q_mpa, .int mps, .ref q_mle, .ref q_mdi, .int mtr, .ref q_mrd, .int misr, .int mplc, .int mlak, .int mpl, .int mpass, .int mraw, .ref q_msz, .ref q_mbe, .ref q_mfa, .ref q_mse, .ref q_mrf, .ref q_mlo, .ref q_mos, .ref q_mwb, .ref q_mol, .ref q_mrv, .ref q_mrl])), (q_msa, .inl (k_msa, n_msa, .inl msam)), (q_mbi, .inl (k_mbi, n_mbi, .inl mbits)), (q_mcx, .inl (k_mcx, n_mcx, .inl mctxs)), (q_mpa, .inl (k_mpa, n_mpa, .inl mpaso)), (q_mrd, .inl (k_mrd, n_mrd, .inl mreads)), (q_mbe, .inl (k_mbe, n_mbe, .inl mbels)), (q_mfa, .inl (k_mfa, n_mfa, .inl mfnds))] H → va_D A [(q_mo, .inr (5, [.int mref, .int mw, .int mh, .int mst, .int mbd, .ref q_msa, .int mtb, .ref q_mbi, .ref q_mcx, .ref q_mpa, .int mps, .ref q_mle, .ref q_mdi, .int mtr, .ref q_mrd, .int misr, .int mplc, .int mlak, .int mpl, .int mpass, .int mraw, .ref q_msz, .ref q_mbe, .ref q_mfa, .ref q_mse, .ref q_mrf, .ref q_mlo, .ref q_mos, .ref q_mwb, .ref q_mol, .ref q_mrv, .ref q_mrl])), (q_msa, .inl (k_msa, n_msa, .inl msam)), (q_mbi, .inl (k_mbi, n_mbi, .inl mbits)), (q_mcx, .inl (k_mcx, n_mcx, .inl mctxs)), (q_mpa, .inl (k_mpa, n_mpa, .inl mpaso)), (q_mrd, .inl (k_mrd, n_mrd, .inl mreads)), (q_mbe, .inl (k_mbe, n_mbe, .inl mbels)), (q_mfa, .inl (k_mfa, n_mfa, .inl mfnds))] → va_S A s.heap H locs → lv_has ls 10 [(5, .int (f_MS_brought (u3 + u4))), (4, .int (f_MS_brought (u1 + u2))), (3, .int (((16 : Int32) * a1) + a0)), (0, .ref q_mo), (1, .int a0), (2, .int a1)] → W p l e rm_M_find s m args below meth c H locs 0 0 Q (F0 m 75 ls [.int u6]) := by
    intro H locs ls hP hD hS hl
    refine lv_istore (lv' := [(6, .int u6), (5, .int (f_MS_brought (u3 + u4))), (4, .int (f_MS_brought (u1 + u2))), (3, .int (((16 : Int32) * a1) + a0)), (0, .ref q_mo), (1, .int a0), (2, .int a1)]) hx hb d_M_find_75 hl (by decide) rfl (fun ls hl => ?_)
    refine lv_iload hx hb d_M_find_77 (lv_at hl 0 rfl) ?_
    obtain ⟨u8, hcu8, hF⟩ := kc_bnd hF
    have hJu8 : ∀ (H : Heap) (locs : List Loc) (ls : Array Slot), va_P (dC, dI) vwCl [(q_mo, .inr (5, [.int mref, .int mw, .int mh, .int mst, .int mbd, .ref q_msa, .int mtb, .ref q_mbi, .ref q_mcx, .ref q_mpa, .int mps, .ref q_mle, .ref q_mdi, .int mtr, .ref q_mrd, .int misr, .int mplc, .int mlak, .int mpl, .int mpass, .int mraw, .ref q_msz, .ref q_mbe, .ref q_mfa, .ref q_mse, .ref q_mrf, .ref q_mlo, .ref q_mos, .ref q_mwb, .ref q_mol, .ref q_mrv, .ref q_mrl])), (q_msa, .inl (k_msa, n_msa, .inl msam)), (q_mbi, .inl (k_mbi, n_mbi, .inl mbits)), (q_mcx, .inl (k_mcx, n_mcx, .inl mctxs)), (q_mpa, .inl (k_mpa, n_mpa, .inl mpaso)), (q_mrd, .inl (k_mrd, n_mrd, .inl mreads)), (q_mbe, .inl (k_mbe, n_mbe, .inl mbels)), (q_mfa, .inl (k_mfa, n_mfa, .inl mfnds))] H → va_D A [(q_mo, .inr (5, [.int mref, .int mw, .int mh, .int mst, .int mbd, .ref q_msa, .int mtb, .ref q_mbi, .ref q_mcx, .ref q_mpa, .int mps, .ref q_mle, .ref q_mdi, .int mtr, .ref q_mrd, .int misr, .int mplc, .int mlak, .int mpl, .int mpass, .int mraw, .ref q_msz, .ref q_mbe, .ref q_mfa, .ref q_mse, .ref q_mrf, .ref q_mlo, .ref q_mos, .ref q_mwb, .ref q_mol, .ref q_mrv, .ref q_mrl])), (q_msa, .inl (k_msa, n_msa, .inl msam)), (q_mbi, .inl (k_mbi, n_mbi, .inl mbits)), (q_mcx, .inl (k_mcx, n_mcx, .inl mctxs)), (q_mpa, .inl (k_mpa, n_mpa, .inl mpaso)), (q_mrd, .inl (k_mrd, n_mrd, .inl mreads)), (q_mbe, .inl (k_mbe, n_mbe, .inl mbels)), (q_mfa, .inl (k_mfa, n_mfa, .inl mfnds))] → va_S A s.heap H locs → lv_has ls 10 [(6, .int u6), (5, .int (f_MS_brought (u3 + u4))), (4, .int (f_MS_brought (u1 + u2))), (3, .int (((16 : Int32) * a1) + a0)), (0, .ref q_mo), (1, .int a0), (2, .int a1)] → W p l e rm_M_find s m args below meth c H locs 0 0 Q (F0 m 90 ls [.int u8]) := by
      intro H locs ls hP hD hS hl
      refine lv_istore (lv' := [(4, .int u8), (6, .int u6), (5, .int (f_MS_brought (u3 + u4))), (3, .int (((16 : Int32) * a1) + a0)), (0, .ref q_mo), (1, .int a0), (2, .int a1)]) hx hb d_M_find_90 hl (by decide) rfl (fun ls hl => ?_)
      refine lv_iload hx hb d_M_find_92 (lv_at hl 1 rfl) ?_
      obtain ⟨u10, hcu10, hF⟩ := kc_bnd hF
      have hJu10 : ∀ (H : Heap) (locs : List Loc) (ls : Array Slot), va_P (dC, dI) vwCl [(q_mo, .inr (5, [.int mref, .int mw, .int mh, .int mst, .int mbd, .ref q_msa, .int mtb, .ref q_mbi, .ref q_mcx, .ref q_mpa, .int mps, .ref q_mle, .ref q_mdi, .int mtr, .ref q_mrd, .int misr, .int mplc, .int mlak, .int mpl, .int mpass, .int mraw, .ref q_msz, .ref q_mbe, .ref q_mfa, .ref q_mse, .ref q_mrf, .ref q_mlo, .ref q_mos, .ref q_mwb, .ref q_mol, .ref q_mrv, .ref q_mrl])), (q_msa, .inl (k_msa, n_msa, .inl msam)), (q_mbi, .inl (k_mbi, n_mbi, .inl mbits)), (q_mcx, .inl (k_mcx, n_mcx, .inl mctxs)), (q_mpa, .inl (k_mpa, n_mpa, .inl mpaso)), (q_mrd, .inl (k_mrd, n_mrd, .inl mreads)), (q_mbe, .inl (k_mbe, n_mbe, .inl mbels)), (q_mfa, .inl (k_mfa, n_mfa, .inl mfnds))] H → va_D A [(q_mo, .inr (5, [.int mref, .int mw, .int mh, .int mst, .int mbd, .ref q_msa, .int mtb, .ref q_mbi, .ref q_mcx, .ref q_mpa, .int mps, .ref q_mle, .ref q_mdi, .int mtr, .ref q_mrd, .int misr, .int mplc, .int mlak, .int mpl, .int mpass, .int mraw, .ref q_msz, .ref q_mbe, .ref q_mfa, .ref q_mse, .ref q_mrf, .ref q_mlo, .ref q_mos, .ref q_mwb, .ref q_mol, .ref q_mrv, .ref q_mrl])), (q_msa, .inl (k_msa, n_msa, .inl msam)), (q_mbi, .inl (k_mbi, n_mbi, .inl mbits)), (q_mcx, .inl (k_mcx, n_mcx, .inl mctxs)), (q_mpa, .inl (k_mpa, n_mpa, .inl mpaso)), (q_mrd, .inl (k_mrd, n_mrd, .inl mreads)), (q_mbe, .inl (k_mbe, n_mbe, .inl mbels)), (q_mfa, .inl (k_mfa, n_mfa, .inl mfnds))] → va_S A s.heap H locs → lv_has ls 10 [(4, .int u8), (6, .int u6), (5, .int (f_MS_brought (u3 + u4))), (3, .int (((16 : Int32) * a1) + a0)), (0, .ref q_mo), (1, .int a0), (2, .int a1)] → W p l e rm_M_find s m args below meth c H locs 0 0 Q (F0 m 105 ls [.int u10]) := by
        intro H locs ls hP hD hS hl
        refine lv_istore (lv' := [(5, .int u10), (4, .int u8), (6, .int u6), (3, .int (((16 : Int32) * a1) + a0)), (0, .ref q_mo), (1, .int a0), (2, .int a1)]) hx hb d_M_find_105 hl (by decide) rfl (fun ls hl => ?_)
        refine lv_aload_n hx hb d_M_find_107 rfl (lv_at hl 4 rfl) ?_
        refine va_get (D := (dC, dI)) (ci := 5) (v := .int mraw) (C := R_M) (T := T_M) (N := 32) hx hb hts ki_M hown hK hP 0 rfl rfl 20 (by decide) (hts _ kw_3_153) (fun _ h9 => h9) rfl d_M_find_108 ?_
        obtain ⟨u12, hcu12, hF⟩ := kc_bnd hF
        have hJu12 : ∀ (H : Heap) (locs : List Loc) (ls : Array Slot), va_P (dC, dI) vwCl [(q_mo, .inr (5, [.int mref, .int mw, .int mh, .int mst, .int mbd, .ref q_msa, .int mtb, .ref q_mbi, .ref q_mcx, .ref q_mpa, .int mps, .ref q_mle, .ref q_mdi, .int mtr, .ref q_mrd, .int misr, .int mplc, .int mlak, .int mpl, .int mpass, .int mraw, .ref q_msz, .ref q_mbe, .ref q_mfa, .ref q_mse, .ref q_mrf, .ref q_mlo, .ref q_mos, .ref q_mwb, .ref q_mol, .ref q_mrv, .ref q_mrl])), (q_msa, .inl (k_msa, n_msa, .inl msam)), (q_mbi, .inl (k_mbi, n_mbi, .inl mbits)), (q_mcx, .inl (k_mcx, n_mcx, .inl mctxs)), (q_mpa, .inl (k_mpa, n_mpa, .inl mpaso)), (q_mrd, .inl (k_mrd, n_mrd, .inl mreads)), (q_mbe, .inl (k_mbe, n_mbe, .inl mbels)), (q_mfa, .inl (k_mfa, n_mfa, .inl mfnds))] H → va_D A [(q_mo, .inr (5, [.int mref, .int mw, .int mh, .int mst, .int mbd, .ref q_msa, .int mtb, .ref q_mbi, .ref q_mcx, .ref q_mpa, .int mps, .ref q_mle, .ref q_mdi, .int mtr, .ref q_mrd, .int misr, .int mplc, .int mlak, .int mpl, .int mpass, .int mraw, .ref q_msz, .ref q_mbe, .ref q_mfa, .ref q_mse, .ref q_mrf, .ref q_mlo, .ref q_mos, .ref q_mwb, .ref q_mol, .ref q_mrv, .ref q_mrl])), (q_msa, .inl (k_msa, n_msa, .inl msam)), (q_mbi, .inl (k_mbi, n_mbi, .inl mbits)), (q_mcx, .inl (k_mcx, n_mcx, .inl mctxs)), (q_mpa, .inl (k_mpa, n_mpa, .inl mpaso)), (q_mrd, .inl (k_mrd, n_mrd, .inl mreads)), (q_mbe, .inl (k_mbe, n_mbe, .inl mbels)), (q_mfa, .inl (k_mfa, n_mfa, .inl mfnds))] → va_S A s.heap H locs → lv_has ls 10 [(5, .int u10), (4, .int u8), (6, .int u6), (3, .int (((16 : Int32) * a1) + a0)), (0, .ref q_mo), (1, .int a0), (2, .int a1)] → W p l e rm_M_find s m args below meth c H locs 0 0 Q (F0 m 138 ls [.int u12]) := by
          intro H locs ls hP hD hS hl
          refine lv_istore (lv' := [(7, .int u12), (5, .int u10), (4, .int u8), (6, .int u6), (3, .int (((16 : Int32) * a1) + a0)), (0, .ref q_mo), (1, .int a0), (2, .int a1)]) hx hb d_M_find_138 hl (by decide) rfl (fun ls hl => ?_)
          refine lv_iload hx hb d_M_find_140 (lv_at hl 3 rfl) ?_
          obtain ⟨u14, hcu14, hF⟩ := kc_bnd hF
          have hJu14 : ∀ (H : Heap) (locs : List Loc) (ls : Array Slot), va_P (dC, dI) vwCl [(q_mo, .inr (5, [.int mref, .int mw, .int mh, .int mst, .int mbd, .ref q_msa, .int mtb, .ref q_mbi, .ref q_mcx, .ref q_mpa, .int mps, .ref q_mle, .ref q_mdi, .int mtr, .ref q_mrd, .int misr, .int mplc, .int mlak, .int mpl, .int mpass, .int mraw, .ref q_msz, .ref q_mbe, .ref q_mfa, .ref q_mse, .ref q_mrf, .ref q_mlo, .ref q_mos, .ref q_mwb, .ref q_mol, .ref q_mrv, .ref q_mrl])), (q_msa, .inl (k_msa, n_msa, .inl msam)), (q_mbi, .inl (k_mbi, n_mbi, .inl mbits)), (q_mcx, .inl (k_mcx, n_mcx, .inl mctxs)), (q_mpa, .inl (k_mpa, n_mpa, .inl mpaso)), (q_mrd, .inl (k_mrd, n_mrd, .inl mreads)), (q_mbe, .inl (k_mbe, n_mbe, .inl mbels)), (q_mfa, .inl (k_mfa, n_mfa, .inl mfnds))] H → va_D A [(q_mo, .inr (5, [.int mref, .int mw, .int mh, .int mst, .int mbd, .ref q_msa, .int mtb, .ref q_mbi, .ref q_mcx, .ref q_mpa, .int mps, .ref q_mle, .ref q_mdi, .int mtr, .ref q_mrd, .int misr, .int mplc, .int mlak, .int mpl, .int mpass, .int mraw, .ref q_msz, .ref q_mbe, .ref q_mfa, .ref q_mse, .ref q_mrf, .ref q_mlo, .ref q_mos, .ref q_mwb, .ref q_mol, .ref q_mrv, .ref q_mrl])), (q_msa, .inl (k_msa, n_msa, .inl msam)), (q_mbi, .inl (k_mbi, n_mbi, .inl mbits)), (q_mcx, .inl (k_mcx, n_mcx, .inl mctxs)), (q_mpa, .inl (k_mpa, n_mpa, .inl mpaso)), (q_mrd, .inl (k_mrd, n_mrd, .inl mreads)), (q_mbe, .inl (k_mbe, n_mbe, .inl mbels)), (q_mfa, .inl (k_mfa, n_mfa, .inl mfnds))] → va_S A s.heap H locs → lv_has ls 10 [(7, .int u12), (5, .int u10), (4, .int u8), (6, .int u6), (3, .int (((16 : Int32) * a1) + a0)), (0, .ref q_mo), (1, .int a0), (2, .int a1)] → W p l e rm_M_find s m args below meth c H locs 0 0 Q (F0 m 157 ls [.int u14]) := by
            intro H locs ls hP hD hS hl
            refine lv_istore (lv' := [(8, .int u14), (7, .int u12), (5, .int u10), (4, .int u8), (6, .int u6), (3, .int (((16 : Int32) * a1) + a0)), (0, .ref q_mo), (1, .int a0), (2, .int a1)]) hx hb d_M_find_157 hl (by decide) rfl (fun ls hl => ?_)
            refine lv_aload_n hx hb d_M_find_159 rfl (lv_at hl 6 rfl) ?_
            refine lv_aload_n hx hb d_M_find_160 rfl (lv_at hl 6 rfl) ?_
            refine va_get (D := (dC, dI)) (ci := 5) (v := .ref q_msa) (C := R_M) (T := T_M) (N := 32) hx hb hts ki_M hown hK hP 0 rfl rfl 5 (by decide) (hts _ kw_3_138) (fun _ h9 => h9) rfl d_M_find_161 ?_
            refine lv_iload_n hx hb d_M_find_164 rfl (lv_at hl 5 rfl) ?_
            obtain ⟨h15, hF⟩ := kc_no hF
            refine va_iald hx hb hK hP 1 0 rfl rfl h15 d_M_find_165 ?_
            obtain ⟨u17, hcu17, hF⟩ := kc_bnd hF
            have hJu17 : ∀ (H : Heap) (locs : List Loc) (ls : Array Slot), va_P (dC, dI) vwCl [(q_mo, .inr (5, [.int mref, .int mw, .int mh, .int mst, .int mbd, .ref q_msa, .int mtb, .ref q_mbi, .ref q_mcx, .ref q_mpa, .int mps, .ref q_mle, .ref q_mdi, .int mtr, .ref q_mrd, .int misr, .int mplc, .int mlak, .int mpl, .int mpass, .int mraw, .ref q_msz, .ref q_mbe, .ref q_mfa, .ref q_mse, .ref q_mrf, .ref q_mlo, .ref q_mos, .ref q_mwb, .ref q_mol, .ref q_mrv, .ref q_mrl])), (q_msa, .inl (k_msa, n_msa, .inl msam)), (q_mbi, .inl (k_mbi, n_mbi, .inl mbits)), (q_mcx, .inl (k_mcx, n_mcx, .inl mctxs)), (q_mpa, .inl (k_mpa, n_mpa, .inl mpaso)), (q_mrd, .inl (k_mrd, n_mrd, .inl mreads)), (q_mbe, .inl (k_mbe, n_mbe, .inl mbels)), (q_mfa, .inl (k_mfa, n_mfa, .inl mfnds))] H → va_D A [(q_mo, .inr (5, [.int mref, .int mw, .int mh, .int mst, .int mbd, .ref q_msa, .int mtb, .ref q_mbi, .ref q_mcx, .ref q_mpa, .int mps, .ref q_mle, .ref q_mdi, .int mtr, .ref q_mrd, .int misr, .int mplc, .int mlak, .int mpl, .int mpass, .int mraw, .ref q_msz, .ref q_mbe, .ref q_mfa, .ref q_mse, .ref q_mrf, .ref q_mlo, .ref q_mos, .ref q_mwb, .ref q_mol, .ref q_mrv, .ref q_mrl])), (q_msa, .inl (k_msa, n_msa, .inl msam)), (q_mbi, .inl (k_mbi, n_mbi, .inl mbits)), (q_mcx, .inl (k_mcx, n_mcx, .inl mctxs)), (q_mpa, .inl (k_mpa, n_mpa, .inl mpaso)), (q_mrd, .inl (k_mrd, n_mrd, .inl mreads)), (q_mbe, .inl (k_mbe, n_mbe, .inl mbels)), (q_mfa, .inl (k_mfa, n_mfa, .inl mfnds))] → va_S A s.heap H locs → lv_has ls 10 [(8, .int u14), (7, .int u12), (5, .int u10), (4, .int u8), (6, .int u6), (3, .int (((16 : Int32) * a1) + a0)), (0, .ref q_mo), (1, .int a0), (2, .int a1)] → W p l e rm_M_find s m args below meth c H locs 0 0 Q (F0 m 174 ls [.int u17, .ref q_mo]) := by
              intro H locs ls hP hD hS hl
              refine lv_iload hx hb d_M_find_174 (lv_at hl 0 rfl) ?_
              obtain ⟨u19, hcu19, hF⟩ := kc_bnd hF
              have hJu19 : ∀ (H : Heap) (locs : List Loc) (ls : Array Slot), va_P (dC, dI) vwCl [(q_mo, .inr (5, [.int mref, .int mw, .int mh, .int mst, .int mbd, .ref q_msa, .int mtb, .ref q_mbi, .ref q_mcx, .ref q_mpa, .int mps, .ref q_mle, .ref q_mdi, .int mtr, .ref q_mrd, .int misr, .int mplc, .int mlak, .int mpl, .int mpass, .int mraw, .ref q_msz, .ref q_mbe, .ref q_mfa, .ref q_mse, .ref q_mrf, .ref q_mlo, .ref q_mos, .ref q_mwb, .ref q_mol, .ref q_mrv, .ref q_mrl])), (q_msa, .inl (k_msa, n_msa, .inl msam)), (q_mbi, .inl (k_mbi, n_mbi, .inl mbits)), (q_mcx, .inl (k_mcx, n_mcx, .inl mctxs)), (q_mpa, .inl (k_mpa, n_mpa, .inl mpaso)), (q_mrd, .inl (k_mrd, n_mrd, .inl mreads)), (q_mbe, .inl (k_mbe, n_mbe, .inl mbels)), (q_mfa, .inl (k_mfa, n_mfa, .inl mfnds))] H → va_D A [(q_mo, .inr (5, [.int mref, .int mw, .int mh, .int mst, .int mbd, .ref q_msa, .int mtb, .ref q_mbi, .ref q_mcx, .ref q_mpa, .int mps, .ref q_mle, .ref q_mdi, .int mtr, .ref q_mrd, .int misr, .int mplc, .int mlak, .int mpl, .int mpass, .int mraw, .ref q_msz, .ref q_mbe, .ref q_mfa, .ref q_mse, .ref q_mrf, .ref q_mlo, .ref q_mos, .ref q_mwb, .ref q_mol, .ref q_mrv, .ref q_mrl])), (q_msa, .inl (k_msa, n_msa, .inl msam)), (q_mbi, .inl (k_mbi, n_mbi, .inl mbits)), (q_mcx, .inl (k_mcx, n_mcx, .inl mctxs)), (q_mpa, .inl (k_mpa, n_mpa, .inl mpaso)), (q_mrd, .inl (k_mrd, n_mrd, .inl mreads)), (q_mbe, .inl (k_mbe, n_mbe, .inl mbels)), (q_mfa, .inl (k_mfa, n_mfa, .inl mfnds))] → va_S A s.heap H locs → lv_has ls 10 [(8, .int u14), (7, .int u12), (5, .int u10), (4, .int u8), (6, .int u6), (3, .int (((16 : Int32) * a1) + a0)), (0, .ref q_mo), (1, .int a0), (2, .int a1)] → W p l e rm_M_find s m args below meth c H locs 0 0 Q (F0 m 184 ls [.int u19, .ref q_mo]) := by
                intro H locs ls hP hD hS hl
                refine lv_iload hx hb d_M_find_184 (lv_at hl 1 rfl) ?_
                obtain ⟨u20, hc, hF⟩ := kc_bnd hF
                refine ku_call (wr := [(q_msa, .inl (k_msa, n_msa, .inl msam)), (q_mbe, .inl (k_mbe, n_mbe, .inl mbels)), (q_mfa, .inl (k_mfa, n_mfa, .inl mfnds))]) hA (va_runV (As := [.int u19, .int u12]) (rest := []) ⟨hx, hb, hml, hown, hts⟩ (m_M_code l dC dI q_mo q_msa q_mbi q_mcx q_mpa q_mle q_mdi q_mrd q_msz q_mbe q_mfa q_mse q_mrf q_mlo q_mos q_mwb q_mol q_mrv q_mrl k_mbi n_mbi k_mcx n_mcx k_mpa n_mpa k_mrd n_mrd mref mw mh mst mbd mtb mps mtr misr mplc mlak mpl mpass mraw mbits mctxs mpaso mreads u19 u12 _ hc H.size) (cwV 2 hts (kgV kw_4_82 kw_4_84 kp_38 kw_1_8 kw_4_85) rfl rfl rfl (by decide +kernel) ⟨Nat.le_of_ble_eq_true rfl, Nat.le_of_ble_eq_true rfl⟩) ⟨kPre_blind, va_recv hK hP (ci := 5) (q0 := 0) rfl rfl, kPre_of (hP.sub [0, 2, 3, 4, 5] rfl) (hK.sub [1, 2, 3, 4] rfl) (hD.sub [0, 2, 3, 4, 5] (by decide) rfl) hN⟩ rfl rfl hl.1 rfl (lv_room (Nat.le_of_ble_eq_true rfl)) d_M_find_186 ⟨Nat.le_of_ble_eq_true rfl, Nat.le_of_ble_eq_true rfl⟩) hP hD hS [0, 2, 3, 4, 5] [1, 6, 7] rfl rfl (by decide) (by decide) (fun H locs hP hD hS => ?_)
                have hP : va_P (dC, dI) vwCl [(q_msa, .inl (k_msa, n_msa, .inl msam)), (q_mbe, .inl (k_mbe, n_mbe, .inl mbels)), (q_mfa, .inl (k_mfa, n_mfa, .inl mfnds)), (q_mo, .inr (5, [.int mref, .int mw, .int mh, .int mst, .int mbd, .ref q_msa, .int u20.2.1, .ref q_mbi, .ref q_mcx, .ref q_mpa, .int mps, .ref q_mle, .ref q_mdi, .int mtr, .ref q_mrd, .int misr, .int u20.2.2.1, .int u20.2.2.2.1, .int mpl, .int mpass, .int mraw, .ref q_msz, .ref q_mbe, .ref q_mfa, .ref q_mse, .ref q_mrf, .ref q_mlo, .ref q_mos, .ref q_mwb, .ref q_mol, .ref q_mrv, .ref q_mrl])), (q_mbi, .inl (k_mbi, n_mbi, .inl u20.2.2.2.2.1)), (q_mcx, .inl (k_mcx, n_mcx, .inl u20.2.2.2.2.2.1)), (q_mpa, .inl (k_mpa, n_mpa, .inl u20.2.2.2.2.2.2)), (q_mrd, .inl (k_mrd, n_mrd, .inl mreads))] H := hP
                have hD : va_D A [(q_msa, .inl (k_msa, n_msa, .inl msam)), (q_mbe, .inl (k_mbe, n_mbe, .inl mbels)), (q_mfa, .inl (k_mfa, n_mfa, .inl mfnds)), (q_mo, .inr (5, [.int mref, .int mw, .int mh, .int mst, .int mbd, .ref q_msa, .int u20.2.1, .ref q_mbi, .ref q_mcx, .ref q_mpa, .int mps, .ref q_mle, .ref q_mdi, .int mtr, .ref q_mrd, .int misr, .int u20.2.2.1, .int u20.2.2.2.1, .int mpl, .int mpass, .int mraw, .ref q_msz, .ref q_mbe, .ref q_mfa, .ref q_mse, .ref q_mrf, .ref q_mlo, .ref q_mos, .ref q_mwb, .ref q_mol, .ref q_mrv, .ref q_mrl])), (q_mbi, .inl (k_mbi, n_mbi, .inl u20.2.2.2.2.1)), (q_mcx, .inl (k_mcx, n_mcx, .inl u20.2.2.2.2.2.1)), (q_mpa, .inl (k_mpa, n_mpa, .inl u20.2.2.2.2.2.2)), (q_mrd, .inl (k_mrd, n_mrd, .inl mreads))] := hD
                refine lv_istore (lv' := [(9, .int u20.1), (8, .int u14), (7, .int u12), (5, .int u10), (4, .int u8), (6, .int u6), (3, .int (((16 : Int32) * a1) + a0)), (0, .ref q_mo), (1, .int a0), (2, .int a1)]) hx hb d_M_find_189 hl (by decide) rfl (fun ls hl => ?_)
                refine lv_aload_n hx hb d_M_find_191 rfl (lv_at hl 7 rfl) ?_
                refine va_get (D := (dC, dI)) (ci := 5) (v := .ref q_mbe) (C := R_M) (T := T_M) (N := 32) hx hb hts ki_M hown hK hP 3 rfl rfl 22 (by decide) (hts _ kw_3_155) (fun _ h9 => h9) rfl d_M_find_192 ?_
                refine lv_iload_n hx hb d_M_find_195 rfl (lv_at hl 6 rfl) ?_
                refine lv_iload hx hb d_M_find_196 (lv_at hl 0 rfl) ?_
                refine lv_iconst (v := 1) hx hb d_M_find_198 (by decide) ?_
                obtain ⟨u22, hcu22, hF⟩ := kc_bnd hF
                have hJu22 : ∀ (H : Heap) (locs : List Loc) (ls : Array Slot), va_P (dC, dI) vwCl [(q_msa, .inl (k_msa, n_msa, .inl msam)), (q_mbe, .inl (k_mbe, n_mbe, .inl mbels)), (q_mfa, .inl (k_mfa, n_mfa, .inl mfnds)), (q_mo, .inr (5, [.int mref, .int mw, .int mh, .int mst, .int mbd, .ref q_msa, .int u20.2.1, .ref q_mbi, .ref q_mcx, .ref q_mpa, .int mps, .ref q_mle, .ref q_mdi, .int mtr, .ref q_mrd, .int misr, .int u20.2.2.1, .int u20.2.2.2.1, .int mpl, .int mpass, .int mraw, .ref q_msz, .ref q_mbe, .ref q_mfa, .ref q_mse, .ref q_mrf, .ref q_mlo, .ref q_mos, .ref q_mwb, .ref q_mol, .ref q_mrv, .ref q_mrl])), (q_mbi, .inl (k_mbi, n_mbi, .inl u20.2.2.2.2.1)), (q_mcx, .inl (k_mcx, n_mcx, .inl u20.2.2.2.2.2.1)), (q_mpa, .inl (k_mpa, n_mpa, .inl u20.2.2.2.2.2.2)), (q_mrd, .inl (k_mrd, n_mrd, .inl mreads))] H → va_D A [(q_msa, .inl (k_msa, n_msa, .inl msam)), (q_mbe, .inl (k_mbe, n_mbe, .inl mbels)), (q_mfa, .inl (k_mfa, n_mfa, .inl mfnds)), (q_mo, .inr (5, [.int mref, .int mw, .int mh, .int mst, .int mbd, .ref q_msa, .int u20.2.1, .ref q_mbi, .ref q_mcx, .ref q_mpa, .int mps, .ref q_mle, .ref q_mdi, .int mtr, .ref q_mrd, .int misr, .int u20.2.2.1, .int u20.2.2.2.1, .int mpl, .int mpass, .int mraw, .ref q_msz, .ref q_mbe, .ref q_mfa, .ref q_mse, .ref q_mrf, .ref q_mlo, .ref q_mos, .ref q_mwb, .ref q_mol, .ref q_mrv, .ref q_mrl])), (q_mbi, .inl (k_mbi, n_mbi, .inl u20.2.2.2.2.1)), (q_mcx, .inl (k_mcx, n_mcx, .inl u20.2.2.2.2.2.1)), (q_mpa, .inl (k_mpa, n_mpa, .inl u20.2.2.2.2.2.2)), (q_mrd, .inl (k_mrd, n_mrd, .inl mreads))] → va_S A s.heap H locs → lv_has ls 10 [(9, .int u20.1), (8, .int u14), (7, .int u12), (5, .int u10), (4, .int u8), (6, .int u6), (3, .int (((16 : Int32) * a1) + a0)), (0, .ref q_mo), (1, .int a0), (2, .int a1)] → W p l e rm_M_find s m args below meth c H locs 0 0 Q (F0 m 207 ls [.int u22, .int (((16 : Int32) * a1) + a0), .ref q_mbe]) := by
                  intro H locs ls hP hD hS hl
                  refine lv_iload hx hb d_M_find_207 (lv_at hl 1 rfl) ?_
                  obtain ⟨u24, hcu24, hF⟩ := kc_bnd hF
                  have hJu24 : ∀ (H : Heap) (locs : List Loc) (ls : Array Slot), va_P (dC, dI) vwCl [(q_msa, .inl (k_msa, n_msa, .inl msam)), (q_mbe, .inl (k_mbe, n_mbe, .inl mbels)), (q_mfa, .inl (k_mfa, n_mfa, .inl mfnds)), (q_mo, .inr (5, [.int mref, .int mw, .int mh, .int mst, .int mbd, .ref q_msa, .int u20.2.1, .ref q_mbi, .ref q_mcx, .ref q_mpa, .int mps, .ref q_mle, .ref q_mdi, .int mtr, .ref q_mrd, .int misr, .int u20.2.2.1, .int u20.2.2.2.1, .int mpl, .int mpass, .int mraw, .ref q_msz, .ref q_mbe, .ref q_mfa, .ref q_mse, .ref q_mrf, .ref q_mlo, .ref q_mos, .ref q_mwb, .ref q_mol, .ref q_mrv, .ref q_mrl])), (q_mbi, .inl (k_mbi, n_mbi, .inl u20.2.2.2.2.1)), (q_mcx, .inl (k_mcx, n_mcx, .inl u20.2.2.2.2.2.1)), (q_mpa, .inl (k_mpa, n_mpa, .inl u20.2.2.2.2.2.2)), (q_mrd, .inl (k_mrd, n_mrd, .inl mreads))] H → va_D A [(q_msa, .inl (k_msa, n_msa, .inl msam)), (q_mbe, .inl (k_mbe, n_mbe, .inl mbels)), (q_mfa, .inl (k_mfa, n_mfa, .inl mfnds)), (q_mo, .inr (5, [.int mref, .int mw, .int mh, .int mst, .int mbd, .ref q_msa, .int u20.2.1, .ref q_mbi, .ref q_mcx, .ref q_mpa, .int mps, .ref q_mle, .ref q_mdi, .int mtr, .ref q_mrd, .int misr, .int u20.2.2.1, .int u20.2.2.2.1, .int mpl, .int mpass, .int mraw, .ref q_msz, .ref q_mbe, .ref q_mfa, .ref q_mse, .ref q_mrf, .ref q_mlo, .ref q_mos, .ref q_mwb, .ref q_mol, .ref q_mrv, .ref q_mrl])), (q_mbi, .inl (k_mbi, n_mbi, .inl u20.2.2.2.2.1)), (q_mcx, .inl (k_mcx, n_mcx, .inl u20.2.2.2.2.2.1)), (q_mpa, .inl (k_mpa, n_mpa, .inl u20.2.2.2.2.2.2)), (q_mrd, .inl (k_mrd, n_mrd, .inl mreads))] → va_S A s.heap H locs → lv_has ls 10 [(9, .int u20.1), (8, .int u14), (7, .int u12), (5, .int u10), (4, .int u8), (6, .int u6), (3, .int (((16 : Int32) * a1) + a0)), (0, .ref q_mo), (1, .int a0), (2, .int a1)] → W p l e rm_M_find s m args below meth c H locs 0 0 Q (F0 m 217 ls [.int u24, .int (((16 : Int32) * a1) + a0), .ref q_mbe]) := by
                    intro H locs ls hP hD hS hl
                    obtain ⟨h25, hF⟩ := kc_no hF
                    refine va_zast hx hb hK hP hD hS 1 5 rfl rfl h25 d_M_find_217 (fun H locs hP hD hS => ?_)
                    have hP : va_P (dC, dI) vwCl [(q_msa, .inl (k_msa, n_msa, .inl msam)), (q_mbe, .inl (k_mbe, n_mbe, .inl (upd mbels (((16 : Int32) * a1) + a0).toNatClampNeg (vp_nar .boolean u24)))), (q_mfa, .inl (k_mfa, n_mfa, .inl mfnds)), (q_mo, .inr (5, [.int mref, .int mw, .int mh, .int mst, .int mbd, .ref q_msa, .int u20.2.1, .ref q_mbi, .ref q_mcx, .ref q_mpa, .int mps, .ref q_mle, .ref q_mdi, .int mtr, .ref q_mrd, .int misr, .int u20.2.2.1, .int u20.2.2.2.1, .int mpl, .int mpass, .int mraw, .ref q_msz, .ref q_mbe, .ref q_mfa, .ref q_mse, .ref q_mrf, .ref q_mlo, .ref q_mos, .ref q_mwb, .ref q_mol, .ref q_mrv, .ref q_mrl])), (q_mbi, .inl (k_mbi, n_mbi, .inl u20.2.2.2.2.1)), (q_mcx, .inl (k_mcx, n_mcx, .inl u20.2.2.2.2.2.1)), (q_mpa, .inl (k_mpa, n_mpa, .inl u20.2.2.2.2.2.2)), (q_mrd, .inl (k_mrd, n_mrd, .inl mreads))] H := hP
                    have hD : va_D A [(q_msa, .inl (k_msa, n_msa, .inl msam)), (q_mbe, .inl (k_mbe, n_mbe, .inl (upd mbels (((16 : Int32) * a1) + a0).toNatClampNeg (vp_nar .boolean u24)))), (q_mfa, .inl (k_mfa, n_mfa, .inl mfnds)), (q_mo, .inr (5, [.int mref, .int mw, .int mh, .int mst, .int mbd, .ref q_msa, .int u20.2.1, .ref q_mbi, .ref q_mcx, .ref q_mpa, .int mps, .ref q_mle, .ref q_mdi, .int mtr, .ref q_mrd, .int misr, .int u20.2.2.1, .int u20.2.2.2.1, .int mpl, .int mpass, .int mraw, .ref q_msz, .ref q_mbe, .ref q_mfa, .ref q_mse, .ref q_mrf, .ref q_mlo, .ref q_mos, .ref q_mwb, .ref q_mol, .ref q_mrv, .ref q_mrl])), (q_mbi, .inl (k_mbi, n_mbi, .inl u20.2.2.2.2.1)), (q_mcx, .inl (k_mcx, n_mcx, .inl u20.2.2.2.2.2.1)), (q_mpa, .inl (k_mpa, n_mpa, .inl u20.2.2.2.2.2.2)), (q_mrd, .inl (k_mrd, n_mrd, .inl mreads))] := hD
                    refine lv_aload_n hx hb d_M_find_218 rfl (lv_at hl 7 rfl) ?_
                    refine va_get (D := (dC, dI)) (ci := 5) (v := .ref q_mfa) (C := R_M) (T := T_M) (N := 32) hx hb hts ki_M hown hK hP 3 rfl rfl 23 (by decide) (hts _ kw_3_156) (fun _ h9 => h9) rfl d_M_find_219 ?_
                    refine lv_iload_n hx hb d_M_find_222 rfl (lv_at hl 6 rfl) ?_
                    refine lv_aload_n hx hb d_M_find_223 rfl (lv_at hl 7 rfl) ?_
                    refine va_get (D := (dC, dI)) (ci := 5) (v := .int mpl) (C := R_M) (T := T_M) (N := 32) hx hb hts ki_M hown hK hP 3 rfl rfl 18 (by decide) (hts _ kw_3_151) (fun _ h9 => h9) rfl d_M_find_224 ?_
                    obtain ⟨h26, hF⟩ := kc_no hF
                    refine va_iast hx hb hK hP hD hS 2 6 rfl rfl h26 d_M_find_227 (fun H locs hP hD hS => ?_)
                    have hP : va_P (dC, dI) vwCl [(q_msa, .inl (k_msa, n_msa, .inl msam)), (q_mbe, .inl (k_mbe, n_mbe, .inl (upd mbels (((16 : Int32) * a1) + a0).toNatClampNeg (vp_nar .boolean u24)))), (q_mfa, .inl (k_mfa, n_mfa, .inl (upd mfnds (((16 : Int32) * a1) + a0).toNatClampNeg mpl))), (q_mo, .inr (5, [.int mref, .int mw, .int mh, .int mst, .int mbd, .ref q_msa, .int u20.2.1, .ref q_mbi, .ref q_mcx, .ref q_mpa, .int mps, .ref q_mle, .ref q_mdi, .int mtr, .ref q_mrd, .int misr, .int u20.2.2.1, .int u20.2.2.2.1, .int mpl, .int mpass, .int mraw, .ref q_msz, .ref q_mbe, .ref q_mfa, .ref q_mse, .ref q_mrf, .ref q_mlo, .ref q_mos, .ref q_mwb, .ref q_mol, .ref q_mrv, .ref q_mrl])), (q_mbi, .inl (k_mbi, n_mbi, .inl u20.2.2.2.2.1)), (q_mcx, .inl (k_mcx, n_mcx, .inl u20.2.2.2.2.2.1)), (q_mpa, .inl (k_mpa, n_mpa, .inl u20.2.2.2.2.2.2)), (q_mrd, .inl (k_mrd, n_mrd, .inl mreads))] H := hP
                    have hD : va_D A [(q_msa, .inl (k_msa, n_msa, .inl msam)), (q_mbe, .inl (k_mbe, n_mbe, .inl (upd mbels (((16 : Int32) * a1) + a0).toNatClampNeg (vp_nar .boolean u24)))), (q_mfa, .inl (k_mfa, n_mfa, .inl (upd mfnds (((16 : Int32) * a1) + a0).toNatClampNeg mpl))), (q_mo, .inr (5, [.int mref, .int mw, .int mh, .int mst, .int mbd, .ref q_msa, .int u20.2.1, .ref q_mbi, .ref q_mcx, .ref q_mpa, .int mps, .ref q_mle, .ref q_mdi, .int mtr, .ref q_mrd, .int misr, .int u20.2.2.1, .int u20.2.2.2.1, .int mpl, .int mpass, .int mraw, .ref q_msz, .ref q_mbe, .ref q_mfa, .ref q_mse, .ref q_mrf, .ref q_mlo, .ref q_mos, .ref q_mwb, .ref q_mol, .ref q_mrv, .ref q_mrl])), (q_mbi, .inl (k_mbi, n_mbi, .inl u20.2.2.2.2.1)), (q_mcx, .inl (k_mcx, n_mcx, .inl u20.2.2.2.2.2.1)), (q_mpa, .inl (k_mpa, n_mpa, .inl u20.2.2.2.2.2.2)), (q_mrd, .inl (k_mrd, n_mrd, .inl mreads))] := hD
                    obtain rfl := Option.some.inj hF
                    exact ku_vret hx hb hr hlocks hQ (hP.sub [3, 0, 4, 5, 6, 7, 1, 2] rfl) (hD.sub [3, 0, 4, 5, 6, 7, 1, 2] (by decide) rfl) hS d_M_find_228
                  clear hF; have hF := hcu24; clear hcu24
                  refine lv_icmp_eq (tgt := 216) hx hb d_M_find_209 (by decide) (fun c23 => ?_) (fun c23 => ?_)
                  · have hF := kc_pos c23 hF
                    refine lv_iconst (v := 0) hx hb d_M_find_216 (by decide) ?_
                    obtain rfl := Option.some.inj hF
                    exact hJu24 _ _ _ hP hD hS (lv_sub hl [0, 1, 2, 3, 4, 5, 6, 7, 8, 9] rfl)
                  have hF := kc_neg c23 hF
                  refine lv_iconst (v := 1) hx hb d_M_find_212 (by decide) ?_
                  refine lv_goto (tgt := 217) hx hb d_M_find_213 (by decide) ?_
                  obtain rfl := Option.some.inj hF
                  exact hJu24 _ _ _ hP hD hS (lv_sub hl [0, 1, 2, 3, 4, 5, 6, 7, 8, 9] rfl)
                clear hF; have hF := hcu22; clear hcu22
                refine lv_icmp_ne (tgt := 206) hx hb d_M_find_199 (by decide) (fun c21 => ?_) (fun c21 => ?_)
                · have hF := kc_neg c21 hF
                  refine lv_iconst (v := 0) hx hb d_M_find_206 (by decide) ?_
                  obtain rfl := Option.some.inj hF
                  exact hJu22 _ _ _ hP hD hS (lv_sub hl [0, 1, 2, 3, 4, 5, 6, 7, 8, 9] rfl)
                have hF := kc_pos c21 hF
                refine lv_iconst (v := 1) hx hb d_M_find_202 (by decide) ?_
                refine lv_goto (tgt := 207) hx hb d_M_find_203 (by decide) ?_
                obtain rfl := Option.some.inj hF
                exact hJu22 _ _ _ hP hD hS (lv_sub hl [0, 1, 2, 3, 4, 5, 6, 7, 8, 9] rfl)
              clear hF; have hF := hcu19; clear hcu19
              refine lv_icmp_eq (tgt := 183) hx hb d_M_find_176 (by decide) (fun c18 => ?_) (fun c18 => ?_)
              · have hF := kc_pos c18 hF
                refine lv_iconst (v := 0) hx hb d_M_find_183 (by decide) ?_
                obtain rfl := Option.some.inj hF
                exact hJu19 _ _ _ hP hD hS (lv_sub hl [0, 1, 2, 3, 4, 5, 6, 7, 8] rfl)
              have hF := kc_neg c18 hF
              refine lv_iconst (v := 1) hx hb d_M_find_179 (by decide) ?_
              refine lv_goto (tgt := 184) hx hb d_M_find_180 (by decide) ?_
              obtain rfl := Option.some.inj hF
              exact hJu19 _ _ _ hP hD hS (lv_sub hl [0, 1, 2, 3, 4, 5, 6, 7, 8] rfl)
            clear hF; have hF := hcu17; clear hcu17
            refine lv_if_ge (tgt := 173) hx hb d_M_find_166 (by decide) (fun c16 => ?_) (fun c16 => ?_)
            · have hF := kc_pos c16 hF
              refine lv_iconst (v := 0) hx hb d_M_find_173 (by decide) ?_
              obtain rfl := Option.some.inj hF
              exact hJu17 _ _ _ hP hD hS (lv_sub hl [0, 1, 2, 3, 4, 5, 6, 7, 8] rfl)
            have hF := kc_neg c16 hF
            refine lv_iconst (v := 1) hx hb d_M_find_169 (by decide) ?_
            refine lv_goto (tgt := 174) hx hb d_M_find_170 (by decide) ?_
            obtain rfl := Option.some.inj hF
            exact hJu17 _ _ _ hP hD hS (lv_sub hl [0, 1, 2, 3, 4, 5, 6, 7, 8] rfl)
          clear hF; have hF := hcu14; clear hcu14
          refine lv_if_eq (tgt := 156) hx hb d_M_find_142 (by decide) (fun c13 => ?_) (fun c13 => ?_)
          · have hF := kc_pos c13 hF
            refine lv_iconst (v := 0) hx hb d_M_find_156 (by decide) ?_
            obtain rfl := Option.some.inj hF
            exact hJu14 _ _ _ hP hD hS (lv_sub hl [0, 1, 2, 3, 4, 5, 6, 7] rfl)
          have hF := kc_neg c13 hF
          refine lv_aload_n hx hb d_M_find_145 rfl (lv_at hl 5 rfl) ?_
          refine va_get (D := (dC, dI)) (ci := 5) (v := .int mraw) (C := R_M) (T := T_M) (N := 32) hx hb hts ki_M hown hK hP 0 rfl rfl 20 (by decide) (hts _ kw_3_153) (fun _ h9 => h9) rfl d_M_find_146 ?_
          refine lv_if_ne (tgt := 156) hx hb d_M_find_149 (by decide) (fun c27 => ?_) (fun c27 => ?_)
          · have hF := kc_neg c27 hF
            refine lv_iconst (v := 0) hx hb d_M_find_156 (by decide) ?_
            obtain rfl := Option.some.inj hF
            exact hJu14 _ _ _ hP hD hS (lv_sub hl [0, 1, 2, 3, 4, 5, 6, 7] rfl)
          have hF := kc_pos c27 hF
          refine lv_iconst (v := 1) hx hb d_M_find_152 (by decide) ?_
          refine lv_goto (tgt := 157) hx hb d_M_find_153 (by decide) ?_
          obtain rfl := Option.some.inj hF
          exact hJu14 _ _ _ hP hD hS (lv_sub hl [0, 1, 2, 3, 4, 5, 6, 7] rfl)
        clear hF; have hF := hcu12; clear hcu12
        refine lv_if_eq (tgt := 119) hx hb d_M_find_111 (by decide) (fun c11 => ?_) (fun c11 => ?_)
        · have hF := kc_pos c11 hF
          refine lv_iload hx hb d_M_find_119 (lv_at hl 1 rfl) ?_
          refine lv_iconst (v := 1) hx hb d_M_find_121 (by decide) ?_
          refine lv_icmp_ne (tgt := 133) hx hb d_M_find_122 (by decide) (fun c28 => ?_) (fun c28 => ?_)
          · have hF := kc_neg c28 hF
            refine lv_bipush (v := 9) hx hb d_M_find_133 (by decide) ?_
            refine lv_iload hx hb d_M_find_135 (lv_at hl 0 rfl) ?_
            refine lv_iadd hx hb d_M_find_137 ?_
            obtain rfl := Option.some.inj hF
            exact hJu12 _ _ _ hP hD hS (lv_sub hl [0, 1, 2, 3, 4, 5, 6] rfl)
          have hF := kc_pos c28 hF
          refine lv_bipush (v := 12) hx hb d_M_find_125 (by decide) ?_
          refine lv_iload hx hb d_M_find_127 (lv_at hl 0 rfl) ?_
          refine lv_iadd hx hb d_M_find_129 ?_
          refine lv_goto (tgt := 138) hx hb d_M_find_130 (by decide) ?_
          obtain rfl := Option.some.inj hF
          exact hJu12 _ _ _ hP hD hS (lv_sub hl [0, 1, 2, 3, 4, 5, 6] rfl)
        have hF := kc_neg c11 hF
        refine lv_bipush (v := 19) hx hb d_M_find_114 (by decide) ?_
        refine lv_goto (tgt := 138) hx hb d_M_find_116 (by decide) ?_
        obtain rfl := Option.some.inj hF
        exact hJu12 _ _ _ hP hD hS (lv_sub hl [0, 1, 2, 3, 4, 5, 6] rfl)
      clear hF; have hF := hcu10; clear hcu10
      refine lv_if_eq (tgt := 103) hx hb d_M_find_94 (by decide) (fun c9 => ?_) (fun c9 => ?_)
      · have hF := kc_pos c9 hF
        refine lv_iload hx hb d_M_find_103 (lv_at hl 2 rfl) ?_
        obtain rfl := Option.some.inj hF
        exact hJu10 _ _ _ hP hD hS (lv_sub hl [0, 1, 2, 3, 4, 5, 6] rfl)
      have hF := kc_neg c9 hF
      refine lv_iload hx hb d_M_find_97 (lv_at hl 2 rfl) ?_
      refine lv_ineg hx hb d_M_find_99 ?_
      refine lv_goto (tgt := 105) hx hb d_M_find_100 (by decide) ?_
      obtain rfl := Option.some.inj hF
      exact hJu10 _ _ _ hP hD hS (lv_sub hl [0, 1, 2, 3, 4, 5, 6] rfl)
    clear hF; have hF := hcu8; clear hcu8
    refine lv_if_eq (tgt := 88) hx hb d_M_find_79 (by decide) (fun c7 => ?_) (fun c7 => ?_)
    · have hF := kc_pos c7 hF
      refine lv_iload hx hb d_M_find_88 (lv_at hl 2 rfl) ?_
      obtain rfl := Option.some.inj hF
      exact hJu8 _ _ _ hP hD hS (lv_sub hl [0, 1, 2, 3, 4, 5, 6] rfl)
    have hF := kc_neg c7 hF
    refine lv_iload hx hb d_M_find_82 (lv_at hl 2 rfl) ?_
    refine lv_ineg hx hb d_M_find_84 ?_
    refine lv_goto (tgt := 90) hx hb d_M_find_85 (by decide) ?_
    obtain rfl := Option.some.inj hF
    exact hJu8 _ _ _ hP hD hS (lv_sub hl [0, 1, 2, 3, 4, 5, 6] rfl)
  clear hF; have hF := hcu6; clear hcu6
  refine lv_if_lt (tgt := 70) hx hb d_M_find_57 (by decide) (fun c5 => ?_) (fun c5 => ?_)
  · have hF := kc_pos c5 hF
    refine lv_iconst (v := 1) hx hb d_M_find_70 (by decide) ?_
    refine lv_goto (tgt := 75) hx hb d_M_find_71 (by decide) ?_
    obtain rfl := Option.some.inj hF
    exact hJu6 _ _ _ hP hD hS (lv_sub hl [0, 1, 2, 3, 4, 5] rfl)
  have hF := kc_neg c5 hF
  refine lv_iload hx hb d_M_find_60 (lv_at hl 1 rfl) ?_
  refine lv_if_ne (tgt := 74) hx hb d_M_find_62 (by decide) (fun c29 => ?_) (fun c29 => ?_)
  · have hF := kc_neg c29 hF
    refine lv_iconst (v := 0) hx hb d_M_find_74 (by decide) ?_
    obtain rfl := Option.some.inj hF
    exact hJu6 _ _ _ hP hD hS (lv_sub hl [0, 1, 2, 3, 4, 5] rfl)
  have hF := kc_pos c29 hF
  refine lv_iload hx hb d_M_find_65 (lv_at hl 0 rfl) ?_
  refine lv_if_ge (tgt := 74) hx hb d_M_find_67 (by decide) (fun c30 => ?_) (fun c30 => ?_)
  · have hF := kc_pos c30 hF
    refine lv_iconst (v := 0) hx hb d_M_find_74 (by decide) ?_
    obtain rfl := Option.some.inj hF
    exact hJu6 _ _ _ hP hD hS (lv_sub hl [0, 1, 2, 3, 4, 5] rfl)
  have hF := kc_neg c30 hF
  refine lv_iconst (v := 1) hx hb d_M_find_70 (by decide) ?_
  refine lv_goto (tgt := 75) hx hb d_M_find_71 (by decide) ?_
  obtain rfl := Option.some.inj hF
  exact hJu6 _ _ _ hP hD hS (lv_sub hl [0, 1, 2, 3, 4, 5] rfl)
abbrev rm_M_bitOf : Room := { frames := 1, cells := 0, slots := 0, locals := 21 }
set_option maxHeartbeats 4000000 in
set_option maxRecDepth 100000 in
theorem m_M_bitOf (l : Launch) (dC : Nat → ClassId) (dI : Nat → Nat → Nat) (q_mo q_msa q_mbi q_mcx q_mpa q_mle q_mdi q_mrd q_msz q_mbe q_mfa q_mse q_mrf q_mlo q_mos q_mwb q_mol q_mrv q_mrl : Nat) (k_msa : ClassId) (n_msa : Nat) (mref : Int32) (mw : Int32) (mh : Int32) (mst : Int32) (mbd : Int32) (mtb : Int32) (mps : Int32) (mtr : Int32) (misr : Int32) (mplc : Int32) (mlak : Int32) (mpl : Int32) (mpass : Int32) (mraw : Int32) (msam : (Nat → Int32)) (a0 : Int32) (u : Int32) (hF : f_M_bitOf mpl msam n_msa a0 = some u) : Met l y_M_bitOf (kws y_M_bitOf c_M_bitOf 2 (some .int)) rm_M_bitOf (kRe (dC, dI) [.ref q_mo, .int a0] [(q_mo, .inr (5, [.int mref, .int mw, .int mh, .int mst, .int mbd, .ref q_msa, .int mtb, .ref q_mbi, .ref q_mcx, .ref q_mpa, .int mps, .ref q_mle, .ref q_mdi, .int mtr, .ref q_mrd, .int misr, .int mplc, .int mlak, .int mpl, .int mpass, .int mraw, .ref q_msz, .ref q_mbe, .ref q_mfa, .ref q_mse, .ref q_mrf, .ref q_mlo, .ref q_mos, .ref q_mwb, .ref q_mol, .ref q_mrv, .ref q_mrl])), (q_msa, .inl (k_msa, n_msa, .inl msam))] [(k_msa, .int)]) (k2_QcV (.int u)) 0 0 (fun _ => False) := by
  unfold f_M_bitOf at hF
  refine kR_of (cc := c_M_bitOf) (maxL := 2) (ret := (some .int)) (by decide) (Nat.le_of_ble_eq_true rfl) ?_
  intro p e s m args below meth c Q hQ hfx hP hK hN ls hl
  obtain ⟨hx, hb, hr, hml, hown, hts, hlocks⟩ := hfx
  have hown : s.vm.findClass R_M = some m.cls := hown
  have hl : lv_has ls 2 [(0, .ref q_mo), (1, .int a0)] := hl
  refine lv_aload_n hx hb d_M_bitOf_0 rfl (lv_at hl 0 rfl) ?_
  refine lv_iload_n hx hb d_M_bitOf_1 rfl (lv_at hl 1 rfl) ?_
  obtain ⟨u1, hc, hF⟩ := kc_bnd hF
  refine kr_call (va_runV (As := [.int a0]) (rest := []) ⟨hx, hb, hml, hown, hts⟩ (m_M_sizeOf l dC dI q_mo q_msa q_mbi q_mcx q_mpa q_mle q_mdi q_mrd q_msz q_mbe q_mfa q_mse q_mrf q_mlo q_mos q_mwb q_mol q_mrv q_mrl k_msa n_msa mref mw mh mst mbd mtb mps mtr misr mplc mlak mpl mpass mraw msam a0 _ hc) (cwV 1 hts (kgV kw_4_20 kw_4_22 kp_24 kw_1_8 kw_4_23) rfl rfl rfl (by decide +kernel) ⟨Nat.le_of_ble_eq_true rfl, Nat.le_of_ble_eq_true rfl⟩) ⟨kRe_blind, va_recv hK hP (ci := 5) (q0 := 0) rfl rfl, kRe_of (hP.sub [0, 1] rfl) (hK.sub [0] rfl) hN⟩ rfl rfl hl.1 rfl (lv_room (Nat.le_of_ble_eq_true rfl)) d_M_bitOf_2 ⟨Nat.le_of_ble_eq_true rfl, Nat.le_of_ble_eq_true rfl⟩) ?_
  refine lv_aload_n hx hb d_M_bitOf_5 rfl (lv_at hl 0 rfl) ?_
  refine va_get (D := (dC, dI)) (ci := 5) (v := .int mpl) (C := R_M) (T := T_M) (N := 32) hx hb hts ki_M hown hK hP 0 rfl rfl 18 (by decide) (hts _ kw_3_151) (fun _ h9 => h9) rfl d_M_bitOf_6 ?_
  refine lv_ishr hx hb d_M_bitOf_9 ?_
  refine lv_iconst (v := 1) hx hb d_M_bitOf_10 (by decide) ?_
  refine lv_iand hx hb d_M_bitOf_11 ?_
  obtain rfl := Option.some.inj hF
  exact kr_iret hx hb hr hlocks hQ d_M_bitOf_12
abbrev rm_M_know : Room := { frames := 0, cells := 0, slots := 0, locals := 0 }
set_option maxHeartbeats 4000000 in
set_option maxRecDepth 100000 in
theorem m_M_know (l : Launch) (dC : Nat → ClassId) (dI : Nat → Nat → Nat) (q_mo q_msa q_mbi q_mcx q_mpa q_mle q_mdi q_mrd q_msz q_mbe q_mfa q_mse q_mrf q_mlo q_mos q_mwb q_mol q_mrv q_mrl : Nat) (k_msz : ClassId) (n_msz : Nat) (k_mlo : ClassId) (n_mlo : Nat) (mref : Int32) (mw : Int32) (mh : Int32) (mst : Int32) (mbd : Int32) (mtb : Int32) (mps : Int32) (mtr : Int32) (misr : Int32) (mplc : Int32) (mlak : Int32) (mpl : Int32) (mpass : Int32) (mraw : Int32) (msizs : (Nat → Int32)) (mlows : (Nat → Int32)) (a0 : Int32) (a1 : Int32) (u : (Nat → Int32) × (Nat → Int32)) (hF : f_M_know mpl msizs mlows n_msz n_mlo a0 a1 = some u) : ∀ sz : Nat, Met l y_M_know (kws y_M_know c_M_know 3 none) rm_M_know (kPre (dC, dI) [.ref q_mo, .int a0, .int a1] [(q_mo, .inr (5, [.int mref, .int mw, .int mh, .int mst, .int mbd, .ref q_msa, .int mtb, .ref q_mbi, .ref q_mcx, .ref q_mpa, .int mps, .ref q_mle, .ref q_mdi, .int mtr, .ref q_mrd, .int misr, .int mplc, .int mlak, .int mpl, .int mpass, .int mraw, .ref q_msz, .ref q_mbe, .ref q_mfa, .ref q_mse, .ref q_mrf, .ref q_mlo, .ref q_mos, .ref q_mwb, .ref q_mol, .ref q_mrv, .ref q_mrl])), (q_msz, .inl (k_msz, n_msz, .inl msizs)), (q_mlo, .inl (k_mlo, n_mlo, .inl mlows))] [(k_msz, .int), (k_mlo, .int)] sz) (kPost (dC, dI) none [(q_mo, .inr (5, [.int mref, .int mw, .int mh, .int mst, .int mbd, .ref q_msa, .int mtb, .ref q_mbi, .ref q_mcx, .ref q_mpa, .int mps, .ref q_mle, .ref q_mdi, .int mtr, .ref q_mrd, .int misr, .int mplc, .int mlak, .int mpl, .int mpass, .int mraw, .ref q_msz, .ref q_mbe, .ref q_mfa, .ref q_mse, .ref q_mrf, .ref q_mlo, .ref q_mos, .ref q_mwb, .ref q_mol, .ref q_mrv, .ref q_mrl])), (q_msz, .inl (k_msz, n_msz, .inl u.1)), (q_mlo, .inl (k_mlo, n_mlo, .inl u.2))] (va_A [(q_mo, .inr (5, [.int mref, .int mw, .int mh, .int mst, .int mbd, .ref q_msa, .int mtb, .ref q_mbi, .ref q_mcx, .ref q_mpa, .int mps, .ref q_mle, .ref q_mdi, .int mtr, .ref q_mrd, .int misr, .int mplc, .int mlak, .int mpl, .int mpass, .int mraw, .ref q_msz, .ref q_mbe, .ref q_mfa, .ref q_mse, .ref q_mrf, .ref q_mlo, .ref q_mos, .ref q_mwb, .ref q_mol, .ref q_mrv, .ref q_mrl])), (q_msz, .inl (k_msz, n_msz, .inl msizs)), (q_mlo, .inl (k_mlo, n_mlo, .inl mlows))] sz)) 0 0 (va_A [(q_mo, .inr (5, [.int mref, .int mw, .int mh, .int mst, .int mbd, .ref q_msa, .int mtb, .ref q_mbi, .ref q_mcx, .ref q_mpa, .int mps, .ref q_mle, .ref q_mdi, .int mtr, .ref q_mrd, .int misr, .int mplc, .int mlak, .int mpl, .int mpass, .int mraw, .ref q_msz, .ref q_mbe, .ref q_mfa, .ref q_mse, .ref q_mrf, .ref q_mlo, .ref q_mos, .ref q_mwb, .ref q_mol, .ref q_mrv, .ref q_mrl])), (q_msz, .inl (k_msz, n_msz, .inl msizs)), (q_mlo, .inl (k_mlo, n_mlo, .inl mlows))] sz) := by
  unfold f_M_know at hF
  refine kU_of (cc := c_M_know) (maxL := 3) (ret := none) (by decide) (Nat.le_of_ble_eq_true rfl) ?_
  intro p e s m args below meth c Q A hQ hfx hK hN hA H locs ls hP hD hS hl
  obtain ⟨hx, hb, hr, hml, hown, hts, hlocks⟩ := hfx
  have hown : s.vm.findClass R_M = some m.cls := hown
  have hl : lv_has ls 3 [(0, .ref q_mo), (1, .int a0), (2, .int a1)] := hl
  refine lv_aload_n hx hb d_M_know_0 rfl (lv_at hl 0 rfl) ?_
  refine va_get (D := (dC, dI)) (ci := 5) (v := .ref q_msz) (C := R_M) (T := T_M) (N := 32) hx hb hts ki_M hown hK hP 0 rfl rfl 21 (by decide) (hts _ kw_3_154) (fun _ h9 => h9) rfl d_M_know_1 ?_
  refine lv_iload_n hx hb d_M_know_4 rfl (lv_at hl 1 rfl) ?_
  refine lv_aload_n hx hb d_M_know_5 rfl (lv_at hl 0 rfl) ?_
  refine va_get (D := (dC, dI)) (ci := 5) (v := .ref q_msz) (C := R_M) (T := T_M) (N := 32) hx hb hts ki_M hown hK hP 0 rfl rfl 21 (by decide) (hts _ kw_3_154) (fun _ h9 => h9) rfl d_M_know_6 ?_
  refine lv_iload_n hx hb d_M_know_9 rfl (lv_at hl 1 rfl) ?_
  obtain ⟨h1, hF⟩ := kc_no hF
  refine va_iald hx hb hK hP 1 0 rfl rfl h1 d_M_know_10 ?_
  refine lv_iload_n hx hb d_M_know_11 rfl (lv_at hl 2 rfl) ?_
  refine lv_aload_n hx hb d_M_know_12 rfl (lv_at hl 0 rfl) ?_
  refine va_get (D := (dC, dI)) (ci := 5) (v := .int mpl) (C := R_M) (T := T_M) (N := 32) hx hb hts ki_M hown hK hP 0 rfl rfl 18 (by decide) (hts _ kw_3_151) (fun _ h9 => h9) rfl d_M_know_13 ?_
  refine lv_ishl hx hb d_M_know_16 ?_
  refine lv_ior hx hb d_M_know_17 ?_
  obtain ⟨h2, hF⟩ := kc_no hF
  refine va_iast hx hb hK hP hD hS 1 0 rfl rfl h2 d_M_know_18 (fun H locs hP hD hS => ?_)
  have hP : va_P (dC, dI) vwCl [(q_mo, .inr (5, [.int mref, .int mw, .int mh, .int mst, .int mbd, .ref q_msa, .int mtb, .ref q_mbi, .ref q_mcx, .ref q_mpa, .int mps, .ref q_mle, .ref q_mdi, .int mtr, .ref q_mrd, .int misr, .int mplc, .int mlak, .int mpl, .int mpass, .int mraw, .ref q_msz, .ref q_mbe, .ref q_mfa, .ref q_mse, .ref q_mrf, .ref q_mlo, .ref q_mos, .ref q_mwb, .ref q_mol, .ref q_mrv, .ref q_mrl])), (q_msz, .inl (k_msz, n_msz, .inl (upd msizs a0.toNatClampNeg ((msizs a0.toNatClampNeg) ||| (a1 <<< (mpl &&& 31)))))), (q_mlo, .inl (k_mlo, n_mlo, .inl mlows))] H := hP
  have hD : va_D A [(q_mo, .inr (5, [.int mref, .int mw, .int mh, .int mst, .int mbd, .ref q_msa, .int mtb, .ref q_mbi, .ref q_mcx, .ref q_mpa, .int mps, .ref q_mle, .ref q_mdi, .int mtr, .ref q_mrd, .int misr, .int mplc, .int mlak, .int mpl, .int mpass, .int mraw, .ref q_msz, .ref q_mbe, .ref q_mfa, .ref q_mse, .ref q_mrf, .ref q_mlo, .ref q_mos, .ref q_mwb, .ref q_mol, .ref q_mrv, .ref q_mrl])), (q_msz, .inl (k_msz, n_msz, .inl (upd msizs a0.toNatClampNeg ((msizs a0.toNatClampNeg) ||| (a1 <<< (mpl &&& 31)))))), (q_mlo, .inl (k_mlo, n_mlo, .inl mlows))] := hD
  refine lv_aload_n hx hb d_M_know_19 rfl (lv_at hl 0 rfl) ?_
  refine va_get (D := (dC, dI)) (ci := 5) (v := .ref q_mlo) (C := R_M) (T := T_M) (N := 32) hx hb hts ki_M hown hK hP 0 rfl rfl 26 (by decide) (hts _ kw_3_159) (fun _ h9 => h9) rfl d_M_know_20 ?_
  refine lv_iload_n hx hb d_M_know_23 rfl (lv_at hl 1 rfl) ?_
  refine lv_aload_n hx hb d_M_know_24 rfl (lv_at hl 0 rfl) ?_
  refine va_get (D := (dC, dI)) (ci := 5) (v := .int mpl) (C := R_M) (T := T_M) (N := 32) hx hb hts ki_M hown hK hP 0 rfl rfl 18 (by decide) (hts _ kw_3_151) (fun _ h9 => h9) rfl d_M_know_25 ?_
  obtain ⟨h3, hF⟩ := kc_no hF
  refine va_iast hx hb hK hP hD hS 2 1 rfl rfl h3 d_M_know_28 (fun H locs hP hD hS => ?_)
  have hP : va_P (dC, dI) vwCl [(q_mo, .inr (5, [.int mref, .int mw, .int mh, .int mst, .int mbd, .ref q_msa, .int mtb, .ref q_mbi, .ref q_mcx, .ref q_mpa, .int mps, .ref q_mle, .ref q_mdi, .int mtr, .ref q_mrd, .int misr, .int mplc, .int mlak, .int mpl, .int mpass, .int mraw, .ref q_msz, .ref q_mbe, .ref q_mfa, .ref q_mse, .ref q_mrf, .ref q_mlo, .ref q_mos, .ref q_mwb, .ref q_mol, .ref q_mrv, .ref q_mrl])), (q_msz, .inl (k_msz, n_msz, .inl (upd msizs a0.toNatClampNeg ((msizs a0.toNatClampNeg) ||| (a1 <<< (mpl &&& 31)))))), (q_mlo, .inl (k_mlo, n_mlo, .inl (upd mlows a0.toNatClampNeg mpl)))] H := hP
  have hD : va_D A [(q_mo, .inr (5, [.int mref, .int mw, .int mh, .int mst, .int mbd, .ref q_msa, .int mtb, .ref q_mbi, .ref q_mcx, .ref q_mpa, .int mps, .ref q_mle, .ref q_mdi, .int mtr, .ref q_mrd, .int misr, .int mplc, .int mlak, .int mpl, .int mpass, .int mraw, .ref q_msz, .ref q_mbe, .ref q_mfa, .ref q_mse, .ref q_mrf, .ref q_mlo, .ref q_mos, .ref q_mwb, .ref q_mol, .ref q_mrv, .ref q_mrl])), (q_msz, .inl (k_msz, n_msz, .inl (upd msizs a0.toNatClampNeg ((msizs a0.toNatClampNeg) ||| (a1 <<< (mpl &&& 31)))))), (q_mlo, .inl (k_mlo, n_mlo, .inl (upd mlows a0.toNatClampNeg mpl)))] := hD
  obtain rfl := Option.some.inj hF
  exact ku_vret hx hb hr hlocks hQ (hP.sub [0, 1, 2] rfl) (hD.sub [0, 1, 2] (by decide) rfl) hS d_M_know_29
abbrev rm_M_tell : Room := { frames := 3, cells := 0, slots := 0, locals := 76 }
set_option maxHeartbeats 4000000 in
set_option maxRecDepth 100000 in
theorem m_M_tell (l : Launch) (dC : Nat → ClassId) (dI : Nat → Nat → Nat) (q_mo q_msa q_mbi q_mcx q_mpa q_mle q_mdi q_mrd q_msz q_mbe q_mfa q_mse q_mrf q_mlo q_mos q_mwb q_mol q_mrv q_mrl : Nat) (k_msa : ClassId) (n_msa : Nat) (k_mbi : ClassId) (n_mbi : Nat) (k_mcx : ClassId) (n_mcx : Nat) (k_mpa : ClassId) (n_mpa : Nat) (k_mrd : ClassId) (n_mrd : Nat) (k_msz : ClassId) (n_msz : Nat) (k_mbe : ClassId) (n_mbe : Nat) (k_mfa : ClassId) (n_mfa : Nat) (k_mlo : ClassId) (n_mlo : Nat) (mref : Int32) (mw : Int32) (mh : Int32) (mst : Int32) (mbd : Int32) (mtb : Int32) (mps : Int32) (mtr : Int32) (misr : Int32) (mplc : Int32) (mlak : Int32) (mpl : Int32) (mpass : Int32) (mraw : Int32) (msam : (Nat → Int32)) (mbits : (Nat → Int32)) (mctxs : (Nat → Int32)) (mpaso : (Nat → Int32)) (mreads : (Nat → Int32)) (msizs : (Nat → Int32)) (mbels : (Nat → Int32)) (mfnds : (Nat → Int32)) (mlows : (Nat → Int32)) (a0 : Int32) (a1 : Int32) (a2 : Int32) (u : Int32 × Int32 × Int32 × (Nat → Int32) × (Nat → Int32) × (Nat → Int32) × (Nat → Int32) × (Nat → Int32) × (Nat → Int32) × (Nat → Int32)) (hF : f_M_tell mw mh mst mtb mtr misr mplc mlak mpl mpass mraw msam mbits mctxs mpaso mreads msizs mbels mfnds mlows n_msa n_mbi n_mcx n_mpa n_mrd n_msz n_mbe n_mfa n_mlo a0 a1 a2 = some u) : ∀ sz : Nat, Met l y_M_tell (kws y_M_tell c_M_tell 6 none) rm_M_tell (kPre (dC, dI) [.ref q_mo, .int a0, .int a1, .int a2] [(q_mo, .inr (5, [.int mref, .int mw, .int mh, .int mst, .int mbd, .ref q_msa, .int mtb, .ref q_mbi, .ref q_mcx, .ref q_mpa, .int mps, .ref q_mle, .ref q_mdi, .int mtr, .ref q_mrd, .int misr, .int mplc, .int mlak, .int mpl, .int mpass, .int mraw, .ref q_msz, .ref q_mbe, .ref q_mfa, .ref q_mse, .ref q_mrf, .ref q_mlo, .ref q_mos, .ref q_mwb, .ref q_mol, .ref q_mrv, .ref q_mrl])), (q_msa, .inl (k_msa, n_msa, .inl msam)), (q_mbi, .inl (k_mbi, n_mbi, .inl mbits)), (q_mcx, .inl (k_mcx, n_mcx, .inl mctxs)), (q_mpa, .inl (k_mpa, n_mpa, .inl mpaso)), (q_mrd, .inl (k_mrd, n_mrd, .inl mreads)), (q_msz, .inl (k_msz, n_msz, .inl msizs)), (q_mbe, .inl (k_mbe, n_mbe, .inl mbels)), (q_mfa, .inl (k_mfa, n_mfa, .inl mfnds)), (q_mlo, .inl (k_mlo, n_mlo, .inl mlows))] [(k_msa, .int), (k_mbi, .int), (k_mcx, .int), (k_mpa, .int), (k_mrd, .int), (k_msz, .int), (k_mbe, .boolean), (k_mfa, .int), (k_mlo, .int)] sz) (kPost (dC, dI) none [(q_mo, .inr (5, [.int mref, .int mw, .int mh, .int mst, .int mbd, .ref q_msa, .int u.1, .ref q_mbi, .ref q_mcx, .ref q_mpa, .int mps, .ref q_mle, .ref q_mdi, .int mtr, .ref q_mrd, .int misr, .int u.2.1, .int u.2.2.1, .int mpl, .int mpass, .int mraw, .ref q_msz, .ref q_mbe, .ref q_mfa, .ref q_mse, .ref q_mrf, .ref q_mlo, .ref q_mos, .ref q_mwb, .ref q_mol, .ref q_mrv, .ref q_mrl])), (q_msa, .inl (k_msa, n_msa, .inl msam)), (q_mbi, .inl (k_mbi, n_mbi, .inl u.2.2.2.1)), (q_mcx, .inl (k_mcx, n_mcx, .inl u.2.2.2.2.1)), (q_mpa, .inl (k_mpa, n_mpa, .inl u.2.2.2.2.2.1)), (q_mrd, .inl (k_mrd, n_mrd, .inl mreads)), (q_msz, .inl (k_msz, n_msz, .inl u.2.2.2.2.2.2.1)), (q_mbe, .inl (k_mbe, n_mbe, .inl u.2.2.2.2.2.2.2.1)), (q_mfa, .inl (k_mfa, n_mfa, .inl u.2.2.2.2.2.2.2.2.1)), (q_mlo, .inl (k_mlo, n_mlo, .inl u.2.2.2.2.2.2.2.2.2))] (va_A [(q_mo, .inr (5, [.int mref, .int mw, .int mh, .int mst, .int mbd, .ref q_msa, .int mtb, .ref q_mbi, .ref q_mcx, .ref q_mpa, .int mps, .ref q_mle, .ref q_mdi, .int mtr, .ref q_mrd, .int misr, .int mplc, .int mlak, .int mpl, .int mpass, .int mraw, .ref q_msz, .ref q_mbe, .ref q_mfa, .ref q_mse, .ref q_mrf, .ref q_mlo, .ref q_mos, .ref q_mwb, .ref q_mol, .ref q_mrv, .ref q_mrl])), (q_msa, .inl (k_msa, n_msa, .inl msam)), (q_mbi, .inl (k_mbi, n_mbi, .inl mbits)), (q_mcx, .inl (k_mcx, n_mcx, .inl mctxs)), (q_mpa, .inl (k_mpa, n_mpa, .inl mpaso)), (q_mrd, .inl (k_mrd, n_mrd, .inl mreads)), (q_msz, .inl (k_msz, n_msz, .inl msizs)), (q_mbe, .inl (k_mbe, n_mbe, .inl mbels)), (q_mfa, .inl (k_mfa, n_mfa, .inl mfnds)), (q_mlo, .inl (k_mlo, n_mlo, .inl mlows))] sz)) 0 0 (va_A [(q_mo, .inr (5, [.int mref, .int mw, .int mh, .int mst, .int mbd, .ref q_msa, .int mtb, .ref q_mbi, .ref q_mcx, .ref q_mpa, .int mps, .ref q_mle, .ref q_mdi, .int mtr, .ref q_mrd, .int misr, .int mplc, .int mlak, .int mpl, .int mpass, .int mraw, .ref q_msz, .ref q_mbe, .ref q_mfa, .ref q_mse, .ref q_mrf, .ref q_mlo, .ref q_mos, .ref q_mwb, .ref q_mol, .ref q_mrv, .ref q_mrl])), (q_msa, .inl (k_msa, n_msa, .inl msam)), (q_mbi, .inl (k_mbi, n_mbi, .inl mbits)), (q_mcx, .inl (k_mcx, n_mcx, .inl mctxs)), (q_mpa, .inl (k_mpa, n_mpa, .inl mpaso)), (q_mrd, .inl (k_mrd, n_mrd, .inl mreads)), (q_msz, .inl (k_msz, n_msz, .inl msizs)), (q_mbe, .inl (k_mbe, n_mbe, .inl mbels)), (q_mfa, .inl (k_mfa, n_mfa, .inl mfnds)), (q_mlo, .inl (k_mlo, n_mlo, .inl mlows))] sz) := by
  unfold f_M_tell at hF
  refine kU_of (cc := c_M_tell) (maxL := 6) (ret := none) (by decide) (Nat.le_of_ble_eq_true rfl) ?_
  intro p e s m args below meth c Q A hQ hfx hK hN hA H locs ls hP hD hS hl
  obtain ⟨hx, hb, hr, hml, hown, hts, hlocks⟩ := hfx
  have hown : s.vm.findClass R_M = some m.cls := hown
  have hl : lv_has ls 6 [(0, .ref q_mo), (1, .int a0), (2, .int a1), (3, .int a2)] := hl
  refine lv_bipush (v := 16) hx hb d_M_tell_0 (by decide) ?_
  refine lv_iload_n hx hb d_M_tell_2 rfl (lv_at hl 2 rfl) ?_
  refine lv_imul hx hb d_M_tell_3 ?_
  refine lv_iload_n hx hb d_M_tell_4 rfl (lv_at hl 1 rfl) ?_
  refine lv_iadd hx hb d_M_tell_5 ?_
  refine lv_istore (lv' := [(4, .int (((16 : Int32) * a1) + a0)), (0, .ref q_mo), (1, .int a0), (2, .int a1), (3, .int a2)]) hx hb d_M_tell_6 hl (by decide) rfl (fun ls hl => ?_)
  refine lv_aload_n hx hb d_M_tell_8 rfl (lv_at hl 1 rfl) ?_
  refine lv_aload_n hx hb d_M_tell_9 rfl (lv_at hl 1 rfl) ?_
  refine lv_iload hx hb d_M_tell_10 (lv_at hl 0 rfl) ?_
  obtain ⟨u1, hc, hF⟩ := kc_bnd hF
  refine kr_call (va_runV (As := [.int (((16 : Int32) * a1) + a0)]) (rest := [.ref q_mo]) ⟨hx, hb, hml, hown, hts⟩ (m_M_bitOf l dC dI q_mo q_msa q_mbi q_mcx q_mpa q_mle q_mdi q_mrd q_msz q_mbe q_mfa q_mse q_mrf q_mlo q_mos q_mwb q_mol q_mrv q_mrl k_msa n_msa mref mw mh mst mbd mtb mps mtr misr mplc mlak mpl mpass mraw msam (((16 : Int32) * a1) + a0) _ hc) (cwV 1 hts (kgV kw_4_78 kw_4_80 kp_37 kw_1_8 kw_4_81) rfl rfl rfl (by decide +kernel) ⟨Nat.le_of_ble_eq_true rfl, Nat.le_of_ble_eq_true rfl⟩) ⟨kRe_blind, va_recv hK hP (ci := 5) (q0 := 0) rfl rfl, kRe_of (hP.sub [0, 1] rfl) (hK.sub [0] rfl) hN⟩ rfl rfl hl.1 rfl (lv_room (Nat.le_of_ble_eq_true rfl)) d_M_tell_12 ⟨Nat.le_of_ble_eq_true rfl, Nat.le_of_ble_eq_true rfl⟩) ?_
  refine lv_iload_n hx hb d_M_tell_15 rfl (lv_at hl 4 rfl) ?_
  obtain ⟨u2, hc, hF⟩ := kc_bnd hF
  refine ku_call (wr := [(q_msa, .inl (k_msa, n_msa, .inl msam)), (q_msz, .inl (k_msz, n_msz, .inl msizs)), (q_mbe, .inl (k_mbe, n_mbe, .inl mbels)), (q_mfa, .inl (k_mfa, n_mfa, .inl mfnds)), (q_mlo, .inl (k_mlo, n_mlo, .inl mlows))]) hA (va_runV (As := [.int u1, .int a2]) (rest := []) ⟨hx, hb, hml, hown, hts⟩ (m_M_code l dC dI q_mo q_msa q_mbi q_mcx q_mpa q_mle q_mdi q_mrd q_msz q_mbe q_mfa q_mse q_mrf q_mlo q_mos q_mwb q_mol q_mrv q_mrl k_mbi n_mbi k_mcx n_mcx k_mpa n_mpa k_mrd n_mrd mref mw mh mst mbd mtb mps mtr misr mplc mlak mpl mpass mraw mbits mctxs mpaso mreads u1 a2 _ hc H.size) (cwV 2 hts (kgV kw_4_82 kw_4_84 kp_38 kw_1_8 kw_4_85) rfl rfl rfl (by decide +kernel) ⟨Nat.le_of_ble_eq_true rfl, Nat.le_of_ble_eq_true rfl⟩) ⟨kPre_blind, va_recv hK hP (ci := 5) (q0 := 0) rfl rfl, kPre_of (hP.sub [0, 2, 3, 4, 5] rfl) (hK.sub [1, 2, 3, 4] rfl) (hD.sub [0, 2, 3, 4, 5] (by decide) rfl) hN⟩ rfl rfl hl.1 rfl (lv_room (Nat.le_of_ble_eq_true rfl)) d_M_tell_16 ⟨Nat.le_of_ble_eq_true rfl, Nat.le_of_ble_eq_true rfl⟩) hP hD hS [0, 2, 3, 4, 5] [1, 6, 7, 8, 9] rfl rfl (by decide) (by decide) (fun H locs hP hD hS => ?_)
  have hP : va_P (dC, dI) vwCl [(q_msa, .inl (k_msa, n_msa, .inl msam)), (q_msz, .inl (k_msz, n_msz, .inl msizs)), (q_mbe, .inl (k_mbe, n_mbe, .inl mbels)), (q_mfa, .inl (k_mfa, n_mfa, .inl mfnds)), (q_mlo, .inl (k_mlo, n_mlo, .inl mlows)), (q_mo, .inr (5, [.int mref, .int mw, .int mh, .int mst, .int mbd, .ref q_msa, .int u2.2.1, .ref q_mbi, .ref q_mcx, .ref q_mpa, .int mps, .ref q_mle, .ref q_mdi, .int mtr, .ref q_mrd, .int misr, .int u2.2.2.1, .int u2.2.2.2.1, .int mpl, .int mpass, .int mraw, .ref q_msz, .ref q_mbe, .ref q_mfa, .ref q_mse, .ref q_mrf, .ref q_mlo, .ref q_mos, .ref q_mwb, .ref q_mol, .ref q_mrv, .ref q_mrl])), (q_mbi, .inl (k_mbi, n_mbi, .inl u2.2.2.2.2.1)), (q_mcx, .inl (k_mcx, n_mcx, .inl u2.2.2.2.2.2.1)), (q_mpa, .inl (k_mpa, n_mpa, .inl u2.2.2.2.2.2.2)), (q_mrd, .inl (k_mrd, n_mrd, .inl mreads))] H := hP
  have hD : va_D A [(q_msa, .inl (k_msa, n_msa, .inl msam)), (q_msz, .inl (k_msz, n_msz, .inl msizs)), (q_mbe, .inl (k_mbe, n_mbe, .inl mbels)), (q_mfa, .inl (k_mfa, n_mfa, .inl mfnds)), (q_mlo, .inl (k_mlo, n_mlo, .inl mlows)), (q_mo, .inr (5, [.int mref, .int mw, .int mh, .int mst, .int mbd, .ref q_msa, .int u2.2.1, .ref q_mbi, .ref q_mcx, .ref q_mpa, .int mps, .ref q_mle, .ref q_mdi, .int mtr, .ref q_mrd, .int misr, .int u2.2.2.1, .int u2.2.2.2.1, .int mpl, .int mpass, .int mraw, .ref q_msz, .ref q_mbe, .ref q_mfa, .ref q_mse, .ref q_mrf, .ref q_mlo, .ref q_mos, .ref q_mwb, .ref q_mol, .ref q_mrv, .ref q_mrl])), (q_mbi, .inl (k_mbi, n_mbi, .inl u2.2.2.2.2.1)), (q_mcx, .inl (k_mcx, n_mcx, .inl u2.2.2.2.2.2.1)), (q_mpa, .inl (k_mpa, n_mpa, .inl u2.2.2.2.2.2.2)), (q_mrd, .inl (k_mrd, n_mrd, .inl mreads))] := hD
  refine lv_istore (lv' := [(5, .int u2.1), (4, .int (((16 : Int32) * a1) + a0)), (0, .ref q_mo), (1, .int a0), (2, .int a1), (3, .int a2)]) hx hb d_M_tell_19 hl (by decide) rfl (fun ls hl => ?_)
  refine lv_aload_n hx hb d_M_tell_21 rfl (lv_at hl 2 rfl) ?_
  refine lv_iload hx hb d_M_tell_22 (lv_at hl 1 rfl) ?_
  refine lv_iload hx hb d_M_tell_24 (lv_at hl 0 rfl) ?_
  obtain ⟨u3, hc, hF⟩ := kc_bnd hF
  refine ku_call (wr := [(q_msa, .inl (k_msa, n_msa, .inl msam)), (q_mbe, .inl (k_mbe, n_mbe, .inl mbels)), (q_mfa, .inl (k_mfa, n_mfa, .inl mfnds)), (q_mbi, .inl (k_mbi, n_mbi, .inl u2.2.2.2.2.1)), (q_mcx, .inl (k_mcx, n_mcx, .inl u2.2.2.2.2.2.1)), (q_mpa, .inl (k_mpa, n_mpa, .inl u2.2.2.2.2.2.2)), (q_mrd, .inl (k_mrd, n_mrd, .inl mreads))]) hA (va_runV (As := [.int (((16 : Int32) * a1) + a0), .int u2.1]) (rest := []) ⟨hx, hb, hml, hown, hts⟩ (m_M_know l dC dI q_mo q_msa q_mbi q_mcx q_mpa q_mle q_mdi q_mrd q_msz q_mbe q_mfa q_mse q_mrf q_mlo q_mos q_mwb q_mol q_mrv q_mrl k_msz n_msz k_mlo n_mlo mref mw mh mst mbd u2.2.1 mps mtr misr u2.2.2.1 u2.2.2.2.1 mpl mpass mraw msizs mlows (((16 : Int32) * a1) + a0) u2.1 _ hc H.size) (cwV 2 hts (kgV kw_4_86 kw_4_88 kp_39 kw_1_8 kw_4_89) rfl rfl rfl (by decide +kernel) ⟨Nat.le_of_ble_eq_true rfl, Nat.le_of_ble_eq_true rfl⟩) ⟨kPre_blind, va_recv hK hP (ci := 5) (q0 := 5) rfl rfl, kPre_of (hP.sub [5, 1, 4] rfl) (hK.sub [5, 8] rfl) (hD.sub [5, 1, 4] (by decide) rfl) hN⟩ rfl rfl hl.1 rfl (lv_room (Nat.le_of_ble_eq_true rfl)) d_M_tell_26 ⟨Nat.le_of_ble_eq_true rfl, Nat.le_of_ble_eq_true rfl⟩) hP hD hS [5, 1, 4] [0, 2, 3, 6, 7, 8, 9] rfl rfl (by decide) (by decide) (fun H locs hP hD hS => ?_)
  have hP : va_P (dC, dI) vwCl [(q_msa, .inl (k_msa, n_msa, .inl msam)), (q_mbe, .inl (k_mbe, n_mbe, .inl mbels)), (q_mfa, .inl (k_mfa, n_mfa, .inl mfnds)), (q_mbi, .inl (k_mbi, n_mbi, .inl u2.2.2.2.2.1)), (q_mcx, .inl (k_mcx, n_mcx, .inl u2.2.2.2.2.2.1)), (q_mpa, .inl (k_mpa, n_mpa, .inl u2.2.2.2.2.2.2)), (q_mrd, .inl (k_mrd, n_mrd, .inl mreads)), (q_mo, .inr (5, [.int mref, .int mw, .int mh, .int mst, .int mbd, .ref q_msa, .int u2.2.1, .ref q_mbi, .ref q_mcx, .ref q_mpa, .int mps, .ref q_mle, .ref q_mdi, .int mtr, .ref q_mrd, .int misr, .int u2.2.2.1, .int u2.2.2.2.1, .int mpl, .int mpass, .int mraw, .ref q_msz, .ref q_mbe, .ref q_mfa, .ref q_mse, .ref q_mrf, .ref q_mlo, .ref q_mos, .ref q_mwb, .ref q_mol, .ref q_mrv, .ref q_mrl])), (q_msz, .inl (k_msz, n_msz, .inl u3.1)), (q_mlo, .inl (k_mlo, n_mlo, .inl u3.2))] H := hP
  have hD : va_D A [(q_msa, .inl (k_msa, n_msa, .inl msam)), (q_mbe, .inl (k_mbe, n_mbe, .inl mbels)), (q_mfa, .inl (k_mfa, n_mfa, .inl mfnds)), (q_mbi, .inl (k_mbi, n_mbi, .inl u2.2.2.2.2.1)), (q_mcx, .inl (k_mcx, n_mcx, .inl u2.2.2.2.2.2.1)), (q_mpa, .inl (k_mpa, n_mpa, .inl u2.2.2.2.2.2.2)), (q_mrd, .inl (k_mrd, n_mrd, .inl mreads)), (q_mo, .inr (5, [.int mref, .int mw, .int mh, .int mst, .int mbd, .ref q_msa, .int u2.2.1, .ref q_mbi, .ref q_mcx, .ref q_mpa, .int mps, .ref q_mle, .ref q_mdi, .int mtr, .ref q_mrd, .int misr, .int u2.2.2.1, .int u2.2.2.2.1, .int mpl, .int mpass, .int mraw, .ref q_msz, .ref q_mbe, .ref q_mfa, .ref q_mse, .ref q_mrf, .ref q_mlo, .ref q_mos, .ref q_mwb, .ref q_mol, .ref q_mrv, .ref q_mrl])), (q_msz, .inl (k_msz, n_msz, .inl u3.1)), (q_mlo, .inl (k_mlo, n_mlo, .inl u3.2))] := hD
  refine lv_iload hx hb d_M_tell_29 (lv_at hl 0 rfl) ?_
  refine lv_iconst (v := 1) hx hb d_M_tell_31 (by decide) ?_
  refine lv_icmp_ne (tgt := 41) hx hb d_M_tell_32 (by decide) (fun c4 => ?_) (fun c4 => ?_)
  · have hF := kc_neg c4 hF
    obtain rfl := Option.some.inj hF
    exact ku_vret hx hb hr hlocks hQ (hP.sub [7, 0, 3, 4, 5, 6, 8, 1, 2, 9] rfl) (hD.sub [7, 0, 3, 4, 5, 6, 8, 1, 2, 9] (by decide) rfl) hS d_M_tell_41
  have hF := kc_pos c4 hF
  refine lv_aload_n hx hb d_M_tell_35 rfl (lv_at hl 2 rfl) ?_
  refine lv_iload_n hx hb d_M_tell_36 rfl (lv_at hl 3 rfl) ?_
  refine lv_iload_n hx hb d_M_tell_37 rfl (lv_at hl 4 rfl) ?_
  obtain ⟨u5, hc, hF⟩ := kc_bnd hF
  refine ku_call (wr := [(q_msz, .inl (k_msz, n_msz, .inl u3.1)), (q_mlo, .inl (k_mlo, n_mlo, .inl u3.2))]) hA (va_runV (As := [.int a0, .int a1]) (rest := []) ⟨hx, hb, hml, hown, hts⟩ (m_M_find l dC dI q_mo q_msa q_mbi q_mcx q_mpa q_mle q_mdi q_mrd q_msz q_mbe q_mfa q_mse q_mrf q_mlo q_mos q_mwb q_mol q_mrv q_mrl k_msa n_msa k_mbi n_mbi k_mcx n_mcx k_mpa n_mpa k_mrd n_mrd k_mbe n_mbe k_mfa n_mfa mref mw mh mst mbd u2.2.1 mps mtr misr u2.2.2.1 u2.2.2.2.1 mpl mpass mraw msam u2.2.2.2.2.1 u2.2.2.2.2.2.1 u2.2.2.2.2.2.2 mreads mbels mfnds a0 a1 _ hc H.size) (cwV 2 hts (kgV kw_4_90 kw_4_92 kp_40 kw_1_8 kw_4_93) rfl rfl rfl (by decide +kernel) ⟨Nat.le_of_ble_eq_true rfl, Nat.le_of_ble_eq_true rfl⟩) ⟨kPre_blind, va_recv hK hP (ci := 5) (q0 := 7) rfl rfl, kPre_of (hP.sub [7, 0, 3, 4, 5, 6, 1, 2] rfl) (hK.sub [0, 1, 2, 3, 4, 6, 7] rfl) (hD.sub [7, 0, 3, 4, 5, 6, 1, 2] (by decide) rfl) hN⟩ rfl rfl hl.1 rfl (lv_room (Nat.le_of_ble_eq_true rfl)) d_M_tell_38 ⟨Nat.le_of_ble_eq_true rfl, Nat.le_of_ble_eq_true rfl⟩) hP hD hS [7, 0, 3, 4, 5, 6, 1, 2] [8, 9] rfl rfl (by decide) (by decide) (fun H locs hP hD hS => ?_)
  have hP : va_P (dC, dI) vwCl [(q_msz, .inl (k_msz, n_msz, .inl u3.1)), (q_mlo, .inl (k_mlo, n_mlo, .inl u3.2)), (q_mo, .inr (5, [.int mref, .int mw, .int mh, .int mst, .int mbd, .ref q_msa, .int u5.1, .ref q_mbi, .ref q_mcx, .ref q_mpa, .int mps, .ref q_mle, .ref q_mdi, .int mtr, .ref q_mrd, .int misr, .int u5.2.1, .int u5.2.2.1, .int mpl, .int mpass, .int mraw, .ref q_msz, .ref q_mbe, .ref q_mfa, .ref q_mse, .ref q_mrf, .ref q_mlo, .ref q_mos, .ref q_mwb, .ref q_mol, .ref q_mrv, .ref q_mrl])), (q_msa, .inl (k_msa, n_msa, .inl msam)), (q_mbi, .inl (k_mbi, n_mbi, .inl u5.2.2.2.1)), (q_mcx, .inl (k_mcx, n_mcx, .inl u5.2.2.2.2.1)), (q_mpa, .inl (k_mpa, n_mpa, .inl u5.2.2.2.2.2.1)), (q_mrd, .inl (k_mrd, n_mrd, .inl mreads)), (q_mbe, .inl (k_mbe, n_mbe, .inl u5.2.2.2.2.2.2.1)), (q_mfa, .inl (k_mfa, n_mfa, .inl u5.2.2.2.2.2.2.2))] H := hP
  have hD : va_D A [(q_msz, .inl (k_msz, n_msz, .inl u3.1)), (q_mlo, .inl (k_mlo, n_mlo, .inl u3.2)), (q_mo, .inr (5, [.int mref, .int mw, .int mh, .int mst, .int mbd, .ref q_msa, .int u5.1, .ref q_mbi, .ref q_mcx, .ref q_mpa, .int mps, .ref q_mle, .ref q_mdi, .int mtr, .ref q_mrd, .int misr, .int u5.2.1, .int u5.2.2.1, .int mpl, .int mpass, .int mraw, .ref q_msz, .ref q_mbe, .ref q_mfa, .ref q_mse, .ref q_mrf, .ref q_mlo, .ref q_mos, .ref q_mwb, .ref q_mol, .ref q_mrv, .ref q_mrl])), (q_msa, .inl (k_msa, n_msa, .inl msam)), (q_mbi, .inl (k_mbi, n_mbi, .inl u5.2.2.2.1)), (q_mcx, .inl (k_mcx, n_mcx, .inl u5.2.2.2.2.1)), (q_mpa, .inl (k_mpa, n_mpa, .inl u5.2.2.2.2.2.1)), (q_mrd, .inl (k_mrd, n_mrd, .inl mreads)), (q_mbe, .inl (k_mbe, n_mbe, .inl u5.2.2.2.2.2.2.1)), (q_mfa, .inl (k_mfa, n_mfa, .inl u5.2.2.2.2.2.2.2))] := hD
  obtain rfl := Option.some.inj hF
  exact ku_vret hx hb hr hlocks hQ (hP.sub [2, 3, 4, 5, 6, 7, 0, 8, 9, 1] rfl) (hD.sub [2, 3, 4, 5, 6, 7, 0, 8, 9, 1] (by decide) rfl) hS d_M_tell_41
abbrev rm_M_finding : Room := { frames := 5, cells := 0, slots := 0, locals := 119 }
set_option maxHeartbeats 4000000 in
set_option maxRecDepth 100000 in
theorem m_M_finding (l : Launch) (dC : Nat → ClassId) (dI : Nat → Nat → Nat) (q_mo q_msa q_mbi q_mcx q_mpa q_mle q_mdi q_mrd q_msz q_mbe q_mfa q_mse q_mrf q_mlo q_mos q_mwb q_mol q_mrv q_mrl : Nat) (k_msa : ClassId) (n_msa : Nat) (k_mbi : ClassId) (n_mbi : Nat) (k_mcx : ClassId) (n_mcx : Nat) (k_mpa : ClassId) (n_mpa : Nat) (k_mrd : ClassId) (n_mrd : Nat) (k_msz : ClassId) (n_msz : Nat) (k_mbe : ClassId) (n_mbe : Nat) (k_mfa : ClassId) (n_mfa : Nat) (k_mse : ClassId) (n_mse : Nat) (k_mlo : ClassId) (n_mlo : Nat) (mref : Int32) (mw : Int32) (mh : Int32) (mst : Int32) (mbd : Int32) (mtb : Int32) (mps : Int32) (mtr : Int32) (misr : Int32) (mplc : Int32) (mlak : Int32) (mpl : Int32) (mpass : Int32) (mraw : Int32) (msam : (Nat → Int32)) (mbits : (Nat → Int32)) (mctxs : (Nat → Int32)) (mpaso : (Nat → Int32)) (mreads : (Nat → Int32)) (msizs : (Nat → Int32)) (mbels : (Nat → Int32)) (mfnds : (Nat → Int32)) (mseen : (Nat → Int32)) (mlows : (Nat → Int32)) (a0 : Int32) (a1 : Int32) (u : Int32 × Int32 × Int32 × (Nat → Int32) × (Nat → Int32) × (Nat → Int32) × (Nat → Int32) × (Nat → Int32) × (Nat → Int32) × (Nat → Int32) × (Nat → Int32)) (hF : f_M_finding mw mh mst mbd mtb mtr misr mplc mlak mpl mpass mraw msam mbits mctxs mpaso mreads msizs mbels mfnds mseen mlows n_msa n_mbi n_mcx n_mpa n_mrd n_msz n_mbe n_mfa n_mse n_mlo a0 a1 = some u) : ∀ sz : Nat, Met l y_M_finding (kws y_M_finding c_M_finding 5 none) rm_M_finding (kPre (dC, dI) [.ref q_mo, .int a0, .int a1] [(q_mo, .inr (5, [.int mref, .int mw, .int mh, .int mst, .int mbd, .ref q_msa, .int mtb, .ref q_mbi, .ref q_mcx, .ref q_mpa, .int mps, .ref q_mle, .ref q_mdi, .int mtr, .ref q_mrd, .int misr, .int mplc, .int mlak, .int mpl, .int mpass, .int mraw, .ref q_msz, .ref q_mbe, .ref q_mfa, .ref q_mse, .ref q_mrf, .ref q_mlo, .ref q_mos, .ref q_mwb, .ref q_mol, .ref q_mrv, .ref q_mrl])), (q_msa, .inl (k_msa, n_msa, .inl msam)), (q_mbi, .inl (k_mbi, n_mbi, .inl mbits)), (q_mcx, .inl (k_mcx, n_mcx, .inl mctxs)), (q_mpa, .inl (k_mpa, n_mpa, .inl mpaso)), (q_mrd, .inl (k_mrd, n_mrd, .inl mreads)), (q_msz, .inl (k_msz, n_msz, .inl msizs)), (q_mbe, .inl (k_mbe, n_mbe, .inl mbels)), (q_mfa, .inl (k_mfa, n_mfa, .inl mfnds)), (q_mse, .inl (k_mse, n_mse, .inl mseen)), (q_mlo, .inl (k_mlo, n_mlo, .inl mlows))] [(k_msa, .int), (k_mbi, .int), (k_mcx, .int), (k_mpa, .int), (k_mrd, .int), (k_msz, .int), (k_mbe, .boolean), (k_mfa, .int), (k_mse, .boolean), (k_mlo, .int)] sz) (kPost (dC, dI) none [(q_mo, .inr (5, [.int mref, .int mw, .int mh, .int mst, .int mbd, .ref q_msa, .int u.1, .ref q_mbi, .ref q_mcx, .ref q_mpa, .int mps, .ref q_mle, .ref q_mdi, .int mtr, .ref q_mrd, .int misr, .int u.2.1, .int u.2.2.1, .int mpl, .int mpass, .int mraw, .ref q_msz, .ref q_mbe, .ref q_mfa, .ref q_mse, .ref q_mrf, .ref q_mlo, .ref q_mos, .ref q_mwb, .ref q_mol, .ref q_mrv, .ref q_mrl])), (q_msa, .inl (k_msa, n_msa, .inl msam)), (q_mbi, .inl (k_mbi, n_mbi, .inl u.2.2.2.1)), (q_mcx, .inl (k_mcx, n_mcx, .inl u.2.2.2.2.1)), (q_mpa, .inl (k_mpa, n_mpa, .inl u.2.2.2.2.2.1)), (q_mrd, .inl (k_mrd, n_mrd, .inl mreads)), (q_msz, .inl (k_msz, n_msz, .inl u.2.2.2.2.2.2.1)), (q_mbe, .inl (k_mbe, n_mbe, .inl u.2.2.2.2.2.2.2.1)), (q_mfa, .inl (k_mfa, n_mfa, .inl u.2.2.2.2.2.2.2.2.1)), (q_mse, .inl (k_mse, n_mse, .inl u.2.2.2.2.2.2.2.2.2.1)), (q_mlo, .inl (k_mlo, n_mlo, .inl u.2.2.2.2.2.2.2.2.2.2))] (va_A [(q_mo, .inr (5, [.int mref, .int mw, .int mh, .int mst, .int mbd, .ref q_msa, .int mtb, .ref q_mbi, .ref q_mcx, .ref q_mpa, .int mps, .ref q_mle, .ref q_mdi, .int mtr, .ref q_mrd, .int misr, .int mplc, .int mlak, .int mpl, .int mpass, .int mraw, .ref q_msz, .ref q_mbe, .ref q_mfa, .ref q_mse, .ref q_mrf, .ref q_mlo, .ref q_mos, .ref q_mwb, .ref q_mol, .ref q_mrv, .ref q_mrl])), (q_msa, .inl (k_msa, n_msa, .inl msam)), (q_mbi, .inl (k_mbi, n_mbi, .inl mbits)), (q_mcx, .inl (k_mcx, n_mcx, .inl mctxs)), (q_mpa, .inl (k_mpa, n_mpa, .inl mpaso)), (q_mrd, .inl (k_mrd, n_mrd, .inl mreads)), (q_msz, .inl (k_msz, n_msz, .inl msizs)), (q_mbe, .inl (k_mbe, n_mbe, .inl mbels)), (q_mfa, .inl (k_mfa, n_mfa, .inl mfnds)), (q_mse, .inl (k_mse, n_mse, .inl mseen)), (q_mlo, .inl (k_mlo, n_mlo, .inl mlows))] sz)) 0 0 (va_A [(q_mo, .inr (5, [.int mref, .int mw, .int mh, .int mst, .int mbd, .ref q_msa, .int mtb, .ref q_mbi, .ref q_mcx, .ref q_mpa, .int mps, .ref q_mle, .ref q_mdi, .int mtr, .ref q_mrd, .int misr, .int mplc, .int mlak, .int mpl, .int mpass, .int mraw, .ref q_msz, .ref q_mbe, .ref q_mfa, .ref q_mse, .ref q_mrf, .ref q_mlo, .ref q_mos, .ref q_mwb, .ref q_mol, .ref q_mrv, .ref q_mrl])), (q_msa, .inl (k_msa, n_msa, .inl msam)), (q_mbi, .inl (k_mbi, n_mbi, .inl mbits)), (q_mcx, .inl (k_mcx, n_mcx, .inl mctxs)), (q_mpa, .inl (k_mpa, n_mpa, .inl mpaso)), (q_mrd, .inl (k_mrd, n_mrd, .inl mreads)), (q_msz, .inl (k_msz, n_msz, .inl msizs)), (q_mbe, .inl (k_mbe, n_mbe, .inl mbels)), (q_mfa, .inl (k_mfa, n_mfa, .inl mfnds)), (q_mse, .inl (k_mse, n_mse, .inl mseen)), (q_mlo, .inl (k_mlo, n_mlo, .inl mlows))] sz) := by
  unfold f_M_finding at hF
  refine kU_of (cc := c_M_finding) (maxL := 5) (ret := none) (by decide) (Nat.le_of_ble_eq_true rfl) ?_
  intro p e s m args below meth c Q A hQ hfx hK hN hA H locs ls hP hD hS hl
  obtain ⟨hx, hb, hr, hml, hown, hts, hlocks⟩ := hfx
  have hown : s.vm.findClass R_M = some m.cls := hown
  have hl : lv_has ls 5 [(0, .ref q_mo), (1, .int a0), (2, .int a1)] := hl
  refine lv_bipush (v := 16) hx hb d_M_finding_0 (by decide) ?_
  refine lv_iload_n hx hb d_M_finding_2 rfl (lv_at hl 2 rfl) ?_
  refine lv_imul hx hb d_M_finding_3 ?_
  refine lv_iload_n hx hb d_M_finding_4 rfl (lv_at hl 1 rfl) ?_
  refine lv_iadd hx hb d_M_finding_5 ?_
  refine lv_istore_n (lv' := [(3, .int (((16 : Int32) * a1) + a0)), (0, .ref q_mo), (1, .int a0), (2, .int a1)]) hx hb d_M_finding_6 rfl hl (by decide) rfl (fun ls hl => ?_)
  refine lv_aload_n hx hb d_M_finding_7 rfl (lv_at hl 1 rfl) ?_
  refine lv_iload_n hx hb d_M_finding_8 rfl (lv_at hl 2 rfl) ?_
  refine lv_iload_n hx hb d_M_finding_9 rfl (lv_at hl 3 rfl) ?_
  obtain ⟨u1, hc, hF⟩ := kc_bnd hF
  refine kr_call (va_runV (As := [.int a0, .int a1]) (rest := []) ⟨hx, hb, hml, hown, hts⟩ (m_M_contextOf l dC dI q_mo q_msa q_mbi q_mcx q_mpa q_mle q_mdi q_mrd q_msz q_mbe q_mfa q_mse q_mrf q_mlo q_mos q_mwb q_mol q_mrv q_mrl k_mbe n_mbe k_mfa n_mfa mref mw mh mst mbd mtb mps mtr misr mplc mlak mpl mpass mraw mbels mfnds a0 a1 _ hc) (cwV 2 hts (kgV kw_4_58 kw_4_60 kp_32 kw_1_8 kw_4_61) rfl rfl rfl (by decide +kernel) ⟨Nat.le_of_ble_eq_true rfl, Nat.le_of_ble_eq_true rfl⟩) ⟨kRe_blind, va_recv hK hP (ci := 5) (q0 := 0) rfl rfl, kRe_of (hP.sub [0, 7, 8] rfl) (hK.sub [6, 7] rfl) hN⟩ rfl rfl hl.1 rfl (lv_room (Nat.le_of_ble_eq_true rfl)) d_M_finding_10 ⟨Nat.le_of_ble_eq_true rfl, Nat.le_of_ble_eq_true rfl⟩) ?_
  refine lv_istore (lv' := [(4, .int u1), (3, .int (((16 : Int32) * a1) + a0)), (0, .ref q_mo), (1, .int a0), (2, .int a1)]) hx hb d_M_finding_13 hl (by decide) rfl (fun ls hl => ?_)
  refine lv_aload_n hx hb d_M_finding_15 rfl (lv_at hl 2 rfl) ?_
  refine va_get (D := (dC, dI)) (ci := 5) (v := .ref q_mfa) (C := R_M) (T := T_M) (N := 32) hx hb hts ki_M hown hK hP 0 rfl rfl 23 (by decide) (hts _ kw_3_156) (fun _ h9 => h9) rfl d_M_finding_16 ?_
  refine lv_iload_n hx hb d_M_finding_19 rfl (lv_at hl 1 rfl) ?_
  obtain ⟨h2, hF⟩ := kc_no hF
  refine va_iald hx hb hK hP 8 7 rfl rfl h2 d_M_finding_20 ?_
  refine lv_iconst (v := -1) hx hb d_M_finding_21 (by decide) ?_
  refine lv_icmp_ne (tgt := 57) hx hb d_M_finding_22 (by decide) (fun c3 => ?_) (fun c3 => ?_)
  · have hF := kc_neg c3 hF
    obtain rfl := Option.some.inj hF
    exact ku_vret hx hb hr hlocks hQ (hP.sub [0, 1, 2, 3, 4, 5, 6, 7, 8, 9, 10] rfl) (hD.sub [0, 1, 2, 3, 4, 5, 6, 7, 8, 9, 10] (by decide) rfl) hS d_M_finding_57
  have hF := kc_pos c3 hF
  refine lv_iload hx hb d_M_finding_25 (lv_at hl 0 rfl) ?_
  refine lv_if_eq (tgt := 57) hx hb d_M_finding_27 (by decide) (fun c4 => ?_) (fun c4 => ?_)
  · have hF := kc_pos c4 hF
    obtain rfl := Option.some.inj hF
    exact ku_vret hx hb hr hlocks hQ (hP.sub [0, 1, 2, 3, 4, 5, 6, 7, 8, 9, 10] rfl) (hD.sub [0, 1, 2, 3, 4, 5, 6, 7, 8, 9, 10] (by decide) rfl) hS d_M_finding_57
  have hF := kc_neg c4 hF
  refine lv_aload_n hx hb d_M_finding_30 rfl (lv_at hl 2 rfl) ?_
  refine lv_iload_n hx hb d_M_finding_31 rfl (lv_at hl 3 rfl) ?_
  refine lv_iload_n hx hb d_M_finding_32 rfl (lv_at hl 4 rfl) ?_
  refine lv_aload_n hx hb d_M_finding_33 rfl (lv_at hl 2 rfl) ?_
  refine va_get (D := (dC, dI)) (ci := 5) (v := .int mraw) (C := R_M) (T := T_M) (N := 32) hx hb hts ki_M hown hK hP 0 rfl rfl 20 (by decide) (hts _ kw_3_153) (fun _ h9 => h9) rfl d_M_finding_34 ?_
  obtain ⟨u6, hcu6, hF⟩ := kc_bnd hF
  have hJu6 : ∀ (H : Heap) (locs : List Loc) (ls : Array Slot), va_P (dC, dI) vwCl [(q_mo, .inr (5, [.int mref, .int mw, .int mh, .int mst, .int mbd, .ref q_msa, .int mtb, .ref q_mbi, .ref q_mcx, .ref q_mpa, .int mps, .ref q_mle, .ref q_mdi, .int mtr, .ref q_mrd, .int misr, .int mplc, .int mlak, .int mpl, .int mpass, .int mraw, .ref q_msz, .ref q_mbe, .ref q_mfa, .ref q_mse, .ref q_mrf, .ref q_mlo, .ref q_mos, .ref q_mwb, .ref q_mol, .ref q_mrv, .ref q_mrl])), (q_msa, .inl (k_msa, n_msa, .inl msam)), (q_mbi, .inl (k_mbi, n_mbi, .inl mbits)), (q_mcx, .inl (k_mcx, n_mcx, .inl mctxs)), (q_mpa, .inl (k_mpa, n_mpa, .inl mpaso)), (q_mrd, .inl (k_mrd, n_mrd, .inl mreads)), (q_msz, .inl (k_msz, n_msz, .inl msizs)), (q_mbe, .inl (k_mbe, n_mbe, .inl mbels)), (q_mfa, .inl (k_mfa, n_mfa, .inl mfnds)), (q_mse, .inl (k_mse, n_mse, .inl mseen)), (q_mlo, .inl (k_mlo, n_mlo, .inl mlows))] H → va_D A [(q_mo, .inr (5, [.int mref, .int mw, .int mh, .int mst, .int mbd, .ref q_msa, .int mtb, .ref q_mbi, .ref q_mcx, .ref q_mpa, .int mps, .ref q_mle, .ref q_mdi, .int mtr, .ref q_mrd, .int misr, .int mplc, .int mlak, .int mpl, .int mpass, .int mraw, .ref q_msz, .ref q_mbe, .ref q_mfa, .ref q_mse, .ref q_mrf, .ref q_mlo, .ref q_mos, .ref q_mwb, .ref q_mol, .ref q_mrv, .ref q_mrl])), (q_msa, .inl (k_msa, n_msa, .inl msam)), (q_mbi, .inl (k_mbi, n_mbi, .inl mbits)), (q_mcx, .inl (k_mcx, n_mcx, .inl mctxs)), (q_mpa, .inl (k_mpa, n_mpa, .inl mpaso)), (q_mrd, .inl (k_mrd, n_mrd, .inl mreads)), (q_msz, .inl (k_msz, n_msz, .inl msizs)), (q_mbe, .inl (k_mbe, n_mbe, .inl mbels)), (q_mfa, .inl (k_mfa, n_mfa, .inl mfnds)), (q_mse, .inl (k_mse, n_mse, .inl mseen)), (q_mlo, .inl (k_mlo, n_mlo, .inl mlows))] → va_S A s.heap H locs → lv_has ls 5 [(4, .int u1), (3, .int (((16 : Int32) * a1) + a0)), (0, .ref q_mo), (1, .int a0), (2, .int a1)] → W p l e rm_M_finding s m args below meth c H locs 0 0 Q (F0 m 47 ls [.int u6, .int a1, .int a0, .ref q_mo]) := by
    intro H locs ls hP hD hS hl
    obtain ⟨u7, hc, hF⟩ := kc_bnd hF
    refine ku_call (wr := [(q_mse, .inl (k_mse, n_mse, .inl mseen))]) hA (va_runV (As := [.int a0, .int a1, .int u6]) (rest := []) ⟨hx, hb, hml, hown, hts⟩ (m_M_tell l dC dI q_mo q_msa q_mbi q_mcx q_mpa q_mle q_mdi q_mrd q_msz q_mbe q_mfa q_mse q_mrf q_mlo q_mos q_mwb q_mol q_mrv q_mrl k_msa n_msa k_mbi n_mbi k_mcx n_mcx k_mpa n_mpa k_mrd n_mrd k_msz n_msz k_mbe n_mbe k_mfa n_mfa k_mlo n_mlo mref mw mh mst mbd mtb mps mtr misr mplc mlak mpl mpass mraw msam mbits mctxs mpaso mreads msizs mbels mfnds mlows a0 a1 u6 _ hc H.size) (cwV 3 hts (kgV kw_4_97 kw_4_99 kp_41 kw_1_8 kw_4_100) rfl rfl rfl (by decide +kernel) ⟨Nat.le_of_ble_eq_true rfl, Nat.le_of_ble_eq_true rfl⟩) ⟨kPre_blind, va_recv hK hP (ci := 5) (q0 := 0) rfl rfl, kPre_of (hP.sub [0, 1, 2, 3, 4, 5, 6, 7, 8, 10] rfl) (hK.sub [0, 1, 2, 3, 4, 5, 6, 7, 9] rfl) (hD.sub [0, 1, 2, 3, 4, 5, 6, 7, 8, 10] (by decide) rfl) hN⟩ rfl rfl hl.1 rfl (lv_room (Nat.le_of_ble_eq_true rfl)) d_M_finding_47 ⟨Nat.le_of_ble_eq_true rfl, Nat.le_of_ble_eq_true rfl⟩) hP hD hS [0, 1, 2, 3, 4, 5, 6, 7, 8, 10] [9] rfl rfl (by decide) (by decide) (fun H locs hP hD hS => ?_)
    have hP : va_P (dC, dI) vwCl [(q_mse, .inl (k_mse, n_mse, .inl mseen)), (q_mo, .inr (5, [.int mref, .int mw, .int mh, .int mst, .int mbd, .ref q_msa, .int u7.1, .ref q_mbi, .ref q_mcx, .ref q_mpa, .int mps, .ref q_mle, .ref q_mdi, .int mtr, .ref q_mrd, .int misr, .int u7.2.1, .int u7.2.2.1, .int mpl, .int mpass, .int mraw, .ref q_msz, .ref q_mbe, .ref q_mfa, .ref q_mse, .ref q_mrf, .ref q_mlo, .ref q_mos, .ref q_mwb, .ref q_mol, .ref q_mrv, .ref q_mrl])), (q_msa, .inl (k_msa, n_msa, .inl msam)), (q_mbi, .inl (k_mbi, n_mbi, .inl u7.2.2.2.1)), (q_mcx, .inl (k_mcx, n_mcx, .inl u7.2.2.2.2.1)), (q_mpa, .inl (k_mpa, n_mpa, .inl u7.2.2.2.2.2.1)), (q_mrd, .inl (k_mrd, n_mrd, .inl mreads)), (q_msz, .inl (k_msz, n_msz, .inl u7.2.2.2.2.2.2.1)), (q_mbe, .inl (k_mbe, n_mbe, .inl u7.2.2.2.2.2.2.2.1)), (q_mfa, .inl (k_mfa, n_mfa, .inl u7.2.2.2.2.2.2.2.2.1)), (q_mlo, .inl (k_mlo, n_mlo, .inl u7.2.2.2.2.2.2.2.2.2))] H := hP
    have hD : va_D A [(q_mse, .inl (k_mse, n_mse, .inl mseen)), (q_mo, .inr (5, [.int mref, .int mw, .int mh, .int mst, .int mbd, .ref q_msa, .int u7.1, .ref q_mbi, .ref q_mcx, .ref q_mpa, .int mps, .ref q_mle, .ref q_mdi, .int mtr, .ref q_mrd, .int misr, .int u7.2.1, .int u7.2.2.1, .int mpl, .int mpass, .int mraw, .ref q_msz, .ref q_mbe, .ref q_mfa, .ref q_mse, .ref q_mrf, .ref q_mlo, .ref q_mos, .ref q_mwb, .ref q_mol, .ref q_mrv, .ref q_mrl])), (q_msa, .inl (k_msa, n_msa, .inl msam)), (q_mbi, .inl (k_mbi, n_mbi, .inl u7.2.2.2.1)), (q_mcx, .inl (k_mcx, n_mcx, .inl u7.2.2.2.2.1)), (q_mpa, .inl (k_mpa, n_mpa, .inl u7.2.2.2.2.2.1)), (q_mrd, .inl (k_mrd, n_mrd, .inl mreads)), (q_msz, .inl (k_msz, n_msz, .inl u7.2.2.2.2.2.2.1)), (q_mbe, .inl (k_mbe, n_mbe, .inl u7.2.2.2.2.2.2.2.1)), (q_mfa, .inl (k_mfa, n_mfa, .inl u7.2.2.2.2.2.2.2.2.1)), (q_mlo, .inl (k_mlo, n_mlo, .inl u7.2.2.2.2.2.2.2.2.2))] := hD
    refine lv_aload_n hx hb d_M_finding_50 rfl (lv_at hl 2 rfl) ?_
    refine va_get (D := (dC, dI)) (ci := 5) (v := .ref q_mse) (C := R_M) (T := T_M) (N := 32) hx hb hts ki_M hown hK hP 1 rfl rfl 24 (by decide) (hts _ kw_3_157) (fun _ h9 => h9) rfl d_M_finding_51 ?_
    refine lv_iload_n hx hb d_M_finding_54 rfl (lv_at hl 1 rfl) ?_
    refine lv_iconst (v := 1) hx hb d_M_finding_55 (by decide) ?_
    obtain ⟨h8, hF⟩ := kc_no hF
    refine va_zast hx hb hK hP hD hS 0 8 rfl rfl h8 d_M_finding_56 (fun H locs hP hD hS => ?_)
    have hP : va_P (dC, dI) vwCl [(q_mse, .inl (k_mse, n_mse, .inl (upd mseen (((16 : Int32) * a1) + a0).toNatClampNeg (1 : Int32)))), (q_mo, .inr (5, [.int mref, .int mw, .int mh, .int mst, .int mbd, .ref q_msa, .int u7.1, .ref q_mbi, .ref q_mcx, .ref q_mpa, .int mps, .ref q_mle, .ref q_mdi, .int mtr, .ref q_mrd, .int misr, .int u7.2.1, .int u7.2.2.1, .int mpl, .int mpass, .int mraw, .ref q_msz, .ref q_mbe, .ref q_mfa, .ref q_mse, .ref q_mrf, .ref q_mlo, .ref q_mos, .ref q_mwb, .ref q_mol, .ref q_mrv, .ref q_mrl])), (q_msa, .inl (k_msa, n_msa, .inl msam)), (q_mbi, .inl (k_mbi, n_mbi, .inl u7.2.2.2.1)), (q_mcx, .inl (k_mcx, n_mcx, .inl u7.2.2.2.2.1)), (q_mpa, .inl (k_mpa, n_mpa, .inl u7.2.2.2.2.2.1)), (q_mrd, .inl (k_mrd, n_mrd, .inl mreads)), (q_msz, .inl (k_msz, n_msz, .inl u7.2.2.2.2.2.2.1)), (q_mbe, .inl (k_mbe, n_mbe, .inl u7.2.2.2.2.2.2.2.1)), (q_mfa, .inl (k_mfa, n_mfa, .inl u7.2.2.2.2.2.2.2.2.1)), (q_mlo, .inl (k_mlo, n_mlo, .inl u7.2.2.2.2.2.2.2.2.2))] H := hP
    have hD : va_D A [(q_mse, .inl (k_mse, n_mse, .inl (upd mseen (((16 : Int32) * a1) + a0).toNatClampNeg (1 : Int32)))), (q_mo, .inr (5, [.int mref, .int mw, .int mh, .int mst, .int mbd, .ref q_msa, .int u7.1, .ref q_mbi, .ref q_mcx, .ref q_mpa, .int mps, .ref q_mle, .ref q_mdi, .int mtr, .ref q_mrd, .int misr, .int u7.2.1, .int u7.2.2.1, .int mpl, .int mpass, .int mraw, .ref q_msz, .ref q_mbe, .ref q_mfa, .ref q_mse, .ref q_mrf, .ref q_mlo, .ref q_mos, .ref q_mwb, .ref q_mol, .ref q_mrv, .ref q_mrl])), (q_msa, .inl (k_msa, n_msa, .inl msam)), (q_mbi, .inl (k_mbi, n_mbi, .inl u7.2.2.2.1)), (q_mcx, .inl (k_mcx, n_mcx, .inl u7.2.2.2.2.1)), (q_mpa, .inl (k_mpa, n_mpa, .inl u7.2.2.2.2.2.1)), (q_mrd, .inl (k_mrd, n_mrd, .inl mreads)), (q_msz, .inl (k_msz, n_msz, .inl u7.2.2.2.2.2.2.1)), (q_mbe, .inl (k_mbe, n_mbe, .inl u7.2.2.2.2.2.2.2.1)), (q_mfa, .inl (k_mfa, n_mfa, .inl u7.2.2.2.2.2.2.2.2.1)), (q_mlo, .inl (k_mlo, n_mlo, .inl u7.2.2.2.2.2.2.2.2.2))] := hD
    obtain rfl := Option.some.inj hF
    exact ku_vret hx hb hr hlocks hQ (hP.sub [1, 2, 3, 4, 5, 6, 7, 8, 9, 0, 10] rfl) (hD.sub [1, 2, 3, 4, 5, 6, 7, 8, 9, 0, 10] (by decide) rfl) hS d_M_finding_57
  clear hF; have hF := hcu6; clear hcu6
  refine lv_if_eq (tgt := 45) hx hb d_M_finding_37 (by decide) (fun c5 => ?_) (fun c5 => ?_)
  · have hF := kc_pos c5 hF
    refine lv_iload hx hb d_M_finding_45 (lv_at hl 0 rfl) ?_
    obtain rfl := Option.some.inj hF
    exact hJu6 _ _ _ hP hD hS (lv_sub hl [0, 1, 2, 3, 4] rfl)
  have hF := kc_neg c5 hF
  refine lv_bipush (v := 19) hx hb d_M_finding_40 (by decide) ?_
  refine lv_goto (tgt := 47) hx hb d_M_finding_42 (by decide) ?_
  obtain rfl := Option.some.inj hF
  exact hJu6 _ _ _ hP hD hS (lv_sub hl [0, 1, 2, 3, 4] rfl)
abbrev rm_M_refining : Room := { frames := 4, cells := 0, slots := 0, locals := 92 }
set_option maxHeartbeats 4000000 in
set_option maxRecDepth 100000 in
theorem m_M_refining (l : Launch) (dC : Nat → ClassId) (dI : Nat → Nat → Nat) (q_mo q_msa q_mbi q_mcx q_mpa q_mle q_mdi q_mrd q_msz q_mbe q_mfa q_mse q_mrf q_mlo q_mos q_mwb q_mol q_mrv q_mrl : Nat) (k_msa : ClassId) (n_msa : Nat) (k_mbi : ClassId) (n_mbi : Nat) (k_mcx : ClassId) (n_mcx : Nat) (k_mpa : ClassId) (n_mpa : Nat) (k_mrd : ClassId) (n_mrd : Nat) (k_msz : ClassId) (n_msz : Nat) (k_mbe : ClassId) (n_mbe : Nat) (k_mfa : ClassId) (n_mfa : Nat) (k_mrf : ClassId) (n_mrf : Nat) (k_mlo : ClassId) (n_mlo : Nat) (mref : Int32) (mw : Int32) (mh : Int32) (mst : Int32) (mbd : Int32) (mtb : Int32) (mps : Int32) (mtr : Int32) (misr : Int32) (mplc : Int32) (mlak : Int32) (mpl : Int32) (mpass : Int32) (mraw : Int32) (msam : (Nat → Int32)) (mbits : (Nat → Int32)) (mctxs : (Nat → Int32)) (mpaso : (Nat → Int32)) (mreads : (Nat → Int32)) (msizs : (Nat → Int32)) (mbels : (Nat → Int32)) (mfnds : (Nat → Int32)) (mrfnd : (Nat → Int32)) (mlows : (Nat → Int32)) (a0 : Int32) (a1 : Int32) (u : Int32 × Int32 × Int32 × (Nat → Int32) × (Nat → Int32) × (Nat → Int32) × (Nat → Int32) × (Nat → Int32) × (Nat → Int32)) (hF : f_M_refining mw mh mst mtb mtr misr mplc mlak mpl mpass mraw msam mbits mctxs mpaso mreads msizs mbels mfnds mrfnd mlows n_msa n_mbi n_mcx n_mpa n_mrd n_msz n_mbe n_mfa n_mrf n_mlo a0 a1 = some u) : ∀ sz : Nat, Met l y_M_refining (kws y_M_refining c_M_refining 6 none) rm_M_refining (kPre (dC, dI) [.ref q_mo, .int a0, .int a1] [(q_mo, .inr (5, [.int mref, .int mw, .int mh, .int mst, .int mbd, .ref q_msa, .int mtb, .ref q_mbi, .ref q_mcx, .ref q_mpa, .int mps, .ref q_mle, .ref q_mdi, .int mtr, .ref q_mrd, .int misr, .int mplc, .int mlak, .int mpl, .int mpass, .int mraw, .ref q_msz, .ref q_mbe, .ref q_mfa, .ref q_mse, .ref q_mrf, .ref q_mlo, .ref q_mos, .ref q_mwb, .ref q_mol, .ref q_mrv, .ref q_mrl])), (q_msa, .inl (k_msa, n_msa, .inl msam)), (q_mbi, .inl (k_mbi, n_mbi, .inl mbits)), (q_mcx, .inl (k_mcx, n_mcx, .inl mctxs)), (q_mpa, .inl (k_mpa, n_mpa, .inl mpaso)), (q_mrd, .inl (k_mrd, n_mrd, .inl mreads)), (q_msz, .inl (k_msz, n_msz, .inl msizs)), (q_mbe, .inl (k_mbe, n_mbe, .inl mbels)), (q_mfa, .inl (k_mfa, n_mfa, .inl mfnds)), (q_mrf, .inl (k_mrf, n_mrf, .inl mrfnd)), (q_mlo, .inl (k_mlo, n_mlo, .inl mlows))] [(k_msa, .int), (k_mbi, .int), (k_mcx, .int), (k_mpa, .int), (k_mrd, .int), (k_msz, .int), (k_mbe, .boolean), (k_mfa, .int), (k_mrf, .boolean), (k_mlo, .int)] sz) (kPost (dC, dI) none [(q_mo, .inr (5, [.int mref, .int mw, .int mh, .int mst, .int mbd, .ref q_msa, .int u.1, .ref q_mbi, .ref q_mcx, .ref q_mpa, .int mps, .ref q_mle, .ref q_mdi, .int mtr, .ref q_mrd, .int misr, .int u.2.1, .int u.2.2.1, .int mpl, .int mpass, .int mraw, .ref q_msz, .ref q_mbe, .ref q_mfa, .ref q_mse, .ref q_mrf, .ref q_mlo, .ref q_mos, .ref q_mwb, .ref q_mol, .ref q_mrv, .ref q_mrl])), (q_msa, .inl (k_msa, n_msa, .inl msam)), (q_mbi, .inl (k_mbi, n_mbi, .inl u.2.2.2.1)), (q_mcx, .inl (k_mcx, n_mcx, .inl u.2.2.2.2.1)), (q_mpa, .inl (k_mpa, n_mpa, .inl u.2.2.2.2.2.1)), (q_mrd, .inl (k_mrd, n_mrd, .inl mreads)), (q_msz, .inl (k_msz, n_msz, .inl u.2.2.2.2.2.2.1)), (q_mbe, .inl (k_mbe, n_mbe, .inl mbels)), (q_mfa, .inl (k_mfa, n_mfa, .inl mfnds)), (q_mrf, .inl (k_mrf, n_mrf, .inl u.2.2.2.2.2.2.2.1)), (q_mlo, .inl (k_mlo, n_mlo, .inl u.2.2.2.2.2.2.2.2))] (va_A [(q_mo, .inr (5, [.int mref, .int mw, .int mh, .int mst, .int mbd, .ref q_msa, .int mtb, .ref q_mbi, .ref q_mcx, .ref q_mpa, .int mps, .ref q_mle, .ref q_mdi, .int mtr, .ref q_mrd, .int misr, .int mplc, .int mlak, .int mpl, .int mpass, .int mraw, .ref q_msz, .ref q_mbe, .ref q_mfa, .ref q_mse, .ref q_mrf, .ref q_mlo, .ref q_mos, .ref q_mwb, .ref q_mol, .ref q_mrv, .ref q_mrl])), (q_msa, .inl (k_msa, n_msa, .inl msam)), (q_mbi, .inl (k_mbi, n_mbi, .inl mbits)), (q_mcx, .inl (k_mcx, n_mcx, .inl mctxs)), (q_mpa, .inl (k_mpa, n_mpa, .inl mpaso)), (q_mrd, .inl (k_mrd, n_mrd, .inl mreads)), (q_msz, .inl (k_msz, n_msz, .inl msizs)), (q_mbe, .inl (k_mbe, n_mbe, .inl mbels)), (q_mfa, .inl (k_mfa, n_mfa, .inl mfnds)), (q_mrf, .inl (k_mrf, n_mrf, .inl mrfnd)), (q_mlo, .inl (k_mlo, n_mlo, .inl mlows))] sz)) 0 0 (va_A [(q_mo, .inr (5, [.int mref, .int mw, .int mh, .int mst, .int mbd, .ref q_msa, .int mtb, .ref q_mbi, .ref q_mcx, .ref q_mpa, .int mps, .ref q_mle, .ref q_mdi, .int mtr, .ref q_mrd, .int misr, .int mplc, .int mlak, .int mpl, .int mpass, .int mraw, .ref q_msz, .ref q_mbe, .ref q_mfa, .ref q_mse, .ref q_mrf, .ref q_mlo, .ref q_mos, .ref q_mwb, .ref q_mol, .ref q_mrv, .ref q_mrl])), (q_msa, .inl (k_msa, n_msa, .inl msam)), (q_mbi, .inl (k_mbi, n_mbi, .inl mbits)), (q_mcx, .inl (k_mcx, n_mcx, .inl mctxs)), (q_mpa, .inl (k_mpa, n_mpa, .inl mpaso)), (q_mrd, .inl (k_mrd, n_mrd, .inl mreads)), (q_msz, .inl (k_msz, n_msz, .inl msizs)), (q_mbe, .inl (k_mbe, n_mbe, .inl mbels)), (q_mfa, .inl (k_mfa, n_mfa, .inl mfnds)), (q_mrf, .inl (k_mrf, n_mrf, .inl mrfnd)), (q_mlo, .inl (k_mlo, n_mlo, .inl mlows))] sz) := by
  unfold f_M_refining at hF
  refine kU_of (cc := c_M_refining) (maxL := 6) (ret := none) (by decide) (Nat.le_of_ble_eq_true rfl) ?_
  intro p e s m args below meth c Q A hQ hfx hK hN hA H locs ls hP hD hS hl
  obtain ⟨hx, hb, hr, hml, hown, hts, hlocks⟩ := hfx
  have hown : s.vm.findClass R_M = some m.cls := hown
  have hl : lv_has ls 6 [(0, .ref q_mo), (1, .int a0), (2, .int a1)] := hl
  refine lv_bipush (v := 16) hx hb d_M_refining_0 (by decide) ?_
  refine lv_iload_n hx hb d_M_refining_2 rfl (lv_at hl 2 rfl) ?_
  refine lv_imul hx hb d_M_refining_3 ?_
  refine lv_iload_n hx hb d_M_refining_4 rfl (lv_at hl 1 rfl) ?_
  refine lv_iadd hx hb d_M_refining_5 ?_
  refine lv_istore_n (lv' := [(3, .int (((16 : Int32) * a1) + a0)), (0, .ref q_mo), (1, .int a0), (2, .int a1)]) hx hb d_M_refining_6 rfl hl (by decide) rfl (fun ls hl => ?_)
  refine lv_aload_n hx hb d_M_refining_7 rfl (lv_at hl 1 rfl) ?_
  refine va_get (D := (dC, dI)) (ci := 5) (v := .ref q_mfa) (C := R_M) (T := T_M) (N := 32) hx hb hts ki_M hown hK hP 0 rfl rfl 23 (by decide) (hts _ kw_3_156) (fun _ h9 => h9) rfl d_M_refining_8 ?_
  refine lv_iload_n hx hb d_M_refining_11 rfl (lv_at hl 0 rfl) ?_
  obtain ⟨h1, hF⟩ := kc_no hF
  refine va_iald hx hb hK hP 8 7 rfl rfl h1 d_M_refining_12 ?_
  refine lv_aload_n hx hb d_M_refining_13 rfl (lv_at hl 1 rfl) ?_
  refine va_get (D := (dC, dI)) (ci := 5) (v := .int mpl) (C := R_M) (T := T_M) (N := 32) hx hb hts ki_M hown hK hP 0 rfl rfl 18 (by decide) (hts _ kw_3_151) (fun _ h9 => h9) rfl d_M_refining_14 ?_
  refine lv_icmp_gt (tgt := 21) hx hb d_M_refining_17 (by decide) (fun c2 => ?_) (fun c2 => ?_)
  · have hF := kc_pos c2 hF
    refine lv_aload_n hx hb d_M_refining_21 rfl (lv_at hl 1 rfl) ?_
    refine lv_iload_n hx hb d_M_refining_22 rfl (lv_at hl 2 rfl) ?_
    refine lv_iload_n hx hb d_M_refining_23 rfl (lv_at hl 3 rfl) ?_
    obtain ⟨u3, hc, hF⟩ := kc_bnd hF
    refine kr_call (va_runV (As := [.int a0, .int a1]) (rest := []) ⟨hx, hb, hml, hown, hts⟩ (m_M_corners l dC dI q_mo q_msa q_mbi q_mcx q_mpa q_mle q_mdi q_mrd q_msz q_mbe q_mfa q_mse q_mrf q_mlo q_mos q_mwb q_mol q_mrv q_mrl k_mbe n_mbe k_mfa n_mfa mref mw mh mst mbd mtb mps mtr misr mplc mlak mpl mpass mraw mbels mfnds a0 a1 _ hc) (cwV 2 hts (kgV kw_4_70 kw_4_72 kp_35 kw_1_8 kw_4_73) rfl rfl rfl (by decide +kernel) ⟨Nat.le_of_ble_eq_true rfl, Nat.le_of_ble_eq_true rfl⟩) ⟨kRe_blind, va_recv hK hP (ci := 5) (q0 := 0) rfl rfl, kRe_of (hP.sub [0, 7, 8] rfl) (hK.sub [6, 7] rfl) hN⟩ rfl rfl hl.1 rfl (lv_room (Nat.le_of_ble_eq_true rfl)) d_M_refining_24 ⟨Nat.le_of_ble_eq_true rfl, Nat.le_of_ble_eq_true rfl⟩) ?_
    refine lv_aload_n hx hb d_M_refining_27 rfl (lv_at hl 1 rfl) ?_
    refine lv_iload_n hx hb d_M_refining_28 rfl (lv_at hl 2 rfl) ?_
    refine lv_iconst (v := 1) hx hb d_M_refining_29 (by decide) ?_
    refine lv_isub hx hb d_M_refining_30 ?_
    refine lv_iload_n hx hb d_M_refining_31 rfl (lv_at hl 3 rfl) ?_
    refine lv_iload_n hx hb d_M_refining_32 rfl (lv_at hl 3 rfl) ?_
    obtain ⟨u4, hc, hF⟩ := kc_bnd hF
    refine kr_call (va_runV (As := [.int (a0 - (1 : Int32)), .int a1, .int a1]) (rest := [.int u3]) ⟨hx, hb, hml, hown, hts⟩ (m_M_isFound l dC dI q_mo q_msa q_mbi q_mcx q_mpa q_mle q_mdi q_mrd q_msz q_mbe q_mfa q_mse q_mrf q_mlo q_mos q_mwb q_mol q_mrv q_mrl k_mbe n_mbe k_mfa n_mfa mref mw mh mst mbd mtb mps mtr misr mplc mlak mpl mpass mraw mbels mfnds (a0 - (1 : Int32)) a1 a1 _ hc) (cwV 3 hts (kgV kw_4_62 kw_4_64 kp_33 kw_1_8 kw_4_65) rfl rfl rfl (by decide +kernel) ⟨Nat.le_of_ble_eq_true rfl, Nat.le_of_ble_eq_true rfl⟩) ⟨kRe_blind, va_recv hK hP (ci := 5) (q0 := 0) rfl rfl, kRe_of (hP.sub [0, 7, 8] rfl) (hK.sub [6, 7] rfl) hN⟩ rfl rfl hl.1 rfl (lv_room (Nat.le_of_ble_eq_true rfl)) d_M_refining_33 ⟨Nat.le_of_ble_eq_true rfl, Nat.le_of_ble_eq_true rfl⟩) ?_
    refine lv_iadd hx hb d_M_refining_36 ?_
    refine lv_aload_n hx hb d_M_refining_37 rfl (lv_at hl 1 rfl) ?_
    refine lv_iload_n hx hb d_M_refining_38 rfl (lv_at hl 2 rfl) ?_
    refine lv_iconst (v := 1) hx hb d_M_refining_39 (by decide) ?_
    refine lv_iadd hx hb d_M_refining_40 ?_
    refine lv_iload_n hx hb d_M_refining_41 rfl (lv_at hl 3 rfl) ?_
    refine lv_iload_n hx hb d_M_refining_42 rfl (lv_at hl 3 rfl) ?_
    obtain ⟨u5, hc, hF⟩ := kc_bnd hF
    refine kr_call (va_runV (As := [.int (a0 + (1 : Int32)), .int a1, .int a1]) (rest := [.int (u3 + u4)]) ⟨hx, hb, hml, hown, hts⟩ (m_M_isFound l dC dI q_mo q_msa q_mbi q_mcx q_mpa q_mle q_mdi q_mrd q_msz q_mbe q_mfa q_mse q_mrf q_mlo q_mos q_mwb q_mol q_mrv q_mrl k_mbe n_mbe k_mfa n_mfa mref mw mh mst mbd mtb mps mtr misr mplc mlak mpl mpass mraw mbels mfnds (a0 + (1 : Int32)) a1 a1 _ hc) (cwV 3 hts (kgV kw_4_62 kw_4_64 kp_33 kw_1_8 kw_4_65) rfl rfl rfl (by decide +kernel) ⟨Nat.le_of_ble_eq_true rfl, Nat.le_of_ble_eq_true rfl⟩) ⟨kRe_blind, va_recv hK hP (ci := 5) (q0 := 0) rfl rfl, kRe_of (hP.sub [0, 7, 8] rfl) (hK.sub [6, 7] rfl) hN⟩ rfl rfl hl.1 rfl (lv_room (Nat.le_of_ble_eq_true rfl)) d_M_refining_43 ⟨Nat.le_of_ble_eq_true rfl, Nat.le_of_ble_eq_true rfl⟩) ?_
    refine lv_iadd hx hb d_M_refining_46 ?_
    refine lv_aload_n hx hb d_M_refining_47 rfl (lv_at hl 1 rfl) ?_
    refine lv_iload_n hx hb d_M_refining_48 rfl (lv_at hl 2 rfl) ?_
    refine lv_iload_n hx hb d_M_refining_49 rfl (lv_at hl 3 rfl) ?_
    refine lv_iconst (v := 1) hx hb d_M_refining_50 (by decide) ?_
    refine lv_isub hx hb d_M_refining_51 ?_
    refine lv_iload_n hx hb d_M_refining_52 rfl (lv_at hl 3 rfl) ?_
    obtain ⟨u6, hc, hF⟩ := kc_bnd hF
    refine kr_call (va_runV (As := [.int a0, .int (a1 - (1 : Int32)), .int a1]) (rest := [.int ((u3 + u4) + u5)]) ⟨hx, hb, hml, hown, hts⟩ (m_M_isFound l dC dI q_mo q_msa q_mbi q_mcx q_mpa q_mle q_mdi q_mrd q_msz q_mbe q_mfa q_mse q_mrf q_mlo q_mos q_mwb q_mol q_mrv q_mrl k_mbe n_mbe k_mfa n_mfa mref mw mh mst mbd mtb mps mtr misr mplc mlak mpl mpass mraw mbels mfnds a0 (a1 - (1 : Int32)) a1 _ hc) (cwV 3 hts (kgV kw_4_62 kw_4_64 kp_33 kw_1_8 kw_4_65) rfl rfl rfl (by decide +kernel) ⟨Nat.le_of_ble_eq_true rfl, Nat.le_of_ble_eq_true rfl⟩) ⟨kRe_blind, va_recv hK hP (ci := 5) (q0 := 0) rfl rfl, kRe_of (hP.sub [0, 7, 8] rfl) (hK.sub [6, 7] rfl) hN⟩ rfl rfl hl.1 rfl (lv_room (Nat.le_of_ble_eq_true rfl)) d_M_refining_53 ⟨Nat.le_of_ble_eq_true rfl, Nat.le_of_ble_eq_true rfl⟩) ?_
    refine lv_iadd hx hb d_M_refining_56 ?_
    refine lv_aload_n hx hb d_M_refining_57 rfl (lv_at hl 1 rfl) ?_
    refine lv_iload_n hx hb d_M_refining_58 rfl (lv_at hl 2 rfl) ?_
    refine lv_iload_n hx hb d_M_refining_59 rfl (lv_at hl 3 rfl) ?_
    refine lv_iconst (v := 1) hx hb d_M_refining_60 (by decide) ?_
    refine lv_iadd hx hb d_M_refining_61 ?_
    refine lv_iload_n hx hb d_M_refining_62 rfl (lv_at hl 3 rfl) ?_
    obtain ⟨u7, hc, hF⟩ := kc_bnd hF
    refine kr_call (va_runV (As := [.int a0, .int (a1 + (1 : Int32)), .int a1]) (rest := [.int (((u3 + u4) + u5) + u6)]) ⟨hx, hb, hml, hown, hts⟩ (m_M_isFound l dC dI q_mo q_msa q_mbi q_mcx q_mpa q_mle q_mdi q_mrd q_msz q_mbe q_mfa q_mse q_mrf q_mlo q_mos q_mwb q_mol q_mrv q_mrl k_mbe n_mbe k_mfa n_mfa mref mw mh mst mbd mtb mps mtr misr mplc mlak mpl mpass mraw mbels mfnds a0 (a1 + (1 : Int32)) a1 _ hc) (cwV 3 hts (kgV kw_4_62 kw_4_64 kp_33 kw_1_8 kw_4_65) rfl rfl rfl (by decide +kernel) ⟨Nat.le_of_ble_eq_true rfl, Nat.le_of_ble_eq_true rfl⟩) ⟨kRe_blind, va_recv hK hP (ci := 5) (q0 := 0) rfl rfl, kRe_of (hP.sub [0, 7, 8] rfl) (hK.sub [6, 7] rfl) hN⟩ rfl rfl hl.1 rfl (lv_room (Nat.le_of_ble_eq_true rfl)) d_M_refining_63 ⟨Nat.le_of_ble_eq_true rfl, Nat.le_of_ble_eq_true rfl⟩) ?_
    refine lv_iadd hx hb d_M_refining_66 ?_
    refine lv_istore (lv' := [(4, .int ((((u3 + u4) + u5) + u6) + u7)), (3, .int (((16 : Int32) * a1) + a0)), (0, .ref q_mo), (1, .int a0), (2, .int a1)]) hx hb d_M_refining_67 hl (by decide) rfl (fun ls hl => ?_)
    refine lv_aload_n hx hb d_M_refining_69 rfl (lv_at hl 2 rfl) ?_
    refine va_get (D := (dC, dI)) (ci := 5) (v := .ref q_mrf) (C := R_M) (T := T_M) (N := 32) hx hb hts ki_M hown hK hP 0 rfl rfl 25 (by decide) (hts _ kw_3_158) (fun _ h9 => h9) rfl d_M_refining_70 ?_
    refine lv_iload_n hx hb d_M_refining_73 rfl (lv_at hl 1 rfl) ?_
    obtain ⟨h8, hF⟩ := kc_no hF
    refine va_zald hx hb hK hP 9 8 rfl rfl h8 d_M_refining_74 ?_
    obtain ⟨u10, hcu10, hF⟩ := kc_bnd hF
    have hJu10 : ∀ (H : Heap) (locs : List Loc) (ls : Array Slot), va_P (dC, dI) vwCl [(q_mo, .inr (5, [.int mref, .int mw, .int mh, .int mst, .int mbd, .ref q_msa, .int mtb, .ref q_mbi, .ref q_mcx, .ref q_mpa, .int mps, .ref q_mle, .ref q_mdi, .int mtr, .ref q_mrd, .int misr, .int mplc, .int mlak, .int mpl, .int mpass, .int mraw, .ref q_msz, .ref q_mbe, .ref q_mfa, .ref q_mse, .ref q_mrf, .ref q_mlo, .ref q_mos, .ref q_mwb, .ref q_mol, .ref q_mrv, .ref q_mrl])), (q_msa, .inl (k_msa, n_msa, .inl msam)), (q_mbi, .inl (k_mbi, n_mbi, .inl mbits)), (q_mcx, .inl (k_mcx, n_mcx, .inl mctxs)), (q_mpa, .inl (k_mpa, n_mpa, .inl mpaso)), (q_mrd, .inl (k_mrd, n_mrd, .inl mreads)), (q_msz, .inl (k_msz, n_msz, .inl msizs)), (q_mbe, .inl (k_mbe, n_mbe, .inl mbels)), (q_mfa, .inl (k_mfa, n_mfa, .inl mfnds)), (q_mrf, .inl (k_mrf, n_mrf, .inl mrfnd)), (q_mlo, .inl (k_mlo, n_mlo, .inl mlows))] H → va_D A [(q_mo, .inr (5, [.int mref, .int mw, .int mh, .int mst, .int mbd, .ref q_msa, .int mtb, .ref q_mbi, .ref q_mcx, .ref q_mpa, .int mps, .ref q_mle, .ref q_mdi, .int mtr, .ref q_mrd, .int misr, .int mplc, .int mlak, .int mpl, .int mpass, .int mraw, .ref q_msz, .ref q_mbe, .ref q_mfa, .ref q_mse, .ref q_mrf, .ref q_mlo, .ref q_mos, .ref q_mwb, .ref q_mol, .ref q_mrv, .ref q_mrl])), (q_msa, .inl (k_msa, n_msa, .inl msam)), (q_mbi, .inl (k_mbi, n_mbi, .inl mbits)), (q_mcx, .inl (k_mcx, n_mcx, .inl mctxs)), (q_mpa, .inl (k_mpa, n_mpa, .inl mpaso)), (q_mrd, .inl (k_mrd, n_mrd, .inl mreads)), (q_msz, .inl (k_msz, n_msz, .inl msizs)), (q_mbe, .inl (k_mbe, n_mbe, .inl mbels)), (q_mfa, .inl (k_mfa, n_mfa, .inl mfnds)), (q_mrf, .inl (k_mrf, n_mrf, .inl mrfnd)), (q_mlo, .inl (k_mlo, n_mlo, .inl mlows))] → va_S A s.heap H locs → lv_has ls 6 [(4, .int ((((u3 + u4) + u5) + u6) + u7)), (3, .int (((16 : Int32) * a1) + a0)), (0, .ref q_mo), (1, .int a0), (2, .int a1)] → W p l e rm_M_refining s m args below meth c H locs 0 0 Q (F0 m 95 ls [.int u10]) := by
      intro H locs ls hP hD hS hl
      refine lv_istore (lv' := [(5, .int u10), (4, .int ((((u3 + u4) + u5) + u6) + u7)), (3, .int (((16 : Int32) * a1) + a0)), (0, .ref q_mo), (1, .int a0), (2, .int a1)]) hx hb d_M_refining_95 hl (by decide) rfl (fun ls hl => ?_)
      refine lv_aload_n hx hb d_M_refining_97 rfl (lv_at hl 3 rfl) ?_
      refine lv_iload_n hx hb d_M_refining_98 rfl (lv_at hl 2 rfl) ?_
      refine lv_aload_n hx hb d_M_refining_99 rfl (lv_at hl 3 rfl) ?_
      refine lv_aload_n hx hb d_M_refining_100 rfl (lv_at hl 3 rfl) ?_
      refine lv_iload_n hx hb d_M_refining_101 rfl (lv_at hl 2 rfl) ?_
      obtain ⟨u11, hc, hF⟩ := kc_bnd hF
      refine kr_call (va_runV (As := [.int (((16 : Int32) * a1) + a0)]) (rest := [.ref q_mo, .int (((16 : Int32) * a1) + a0), .ref q_mo]) ⟨hx, hb, hml, hown, hts⟩ (m_M_bitOf l dC dI q_mo q_msa q_mbi q_mcx q_mpa q_mle q_mdi q_mrd q_msz q_mbe q_mfa q_mse q_mrf q_mlo q_mos q_mwb q_mol q_mrv q_mrl k_msa n_msa mref mw mh mst mbd mtb mps mtr misr mplc mlak mpl mpass mraw msam (((16 : Int32) * a1) + a0) _ hc) (cwV 1 hts (kgV kw_4_78 kw_4_80 kp_37 kw_1_8 kw_4_81) rfl rfl rfl (by decide +kernel) ⟨Nat.le_of_ble_eq_true rfl, Nat.le_of_ble_eq_true rfl⟩) ⟨kRe_blind, va_recv hK hP (ci := 5) (q0 := 0) rfl rfl, kRe_of (hP.sub [0, 1] rfl) (hK.sub [0] rfl) hN⟩ rfl rfl hl.1 rfl (lv_room (Nat.le_of_ble_eq_true rfl)) d_M_refining_102 ⟨Nat.le_of_ble_eq_true rfl, Nat.le_of_ble_eq_true rfl⟩) ?_
      refine lv_aload_n hx hb d_M_refining_105 rfl (lv_at hl 3 rfl) ?_
      refine va_get (D := (dC, dI)) (ci := 5) (v := .int mraw) (C := R_M) (T := T_M) (N := 32) hx hb hts ki_M hown hK hP 0 rfl rfl 20 (by decide) (hts _ kw_3_153) (fun _ h9 => h9) rfl d_M_refining_106 ?_
      obtain ⟨u13, hcu13, hF⟩ := kc_bnd hF
      have hJu13 : ∀ (H : Heap) (locs : List Loc) (ls : Array Slot), va_P (dC, dI) vwCl [(q_mo, .inr (5, [.int mref, .int mw, .int mh, .int mst, .int mbd, .ref q_msa, .int mtb, .ref q_mbi, .ref q_mcx, .ref q_mpa, .int mps, .ref q_mle, .ref q_mdi, .int mtr, .ref q_mrd, .int misr, .int mplc, .int mlak, .int mpl, .int mpass, .int mraw, .ref q_msz, .ref q_mbe, .ref q_mfa, .ref q_mse, .ref q_mrf, .ref q_mlo, .ref q_mos, .ref q_mwb, .ref q_mol, .ref q_mrv, .ref q_mrl])), (q_msa, .inl (k_msa, n_msa, .inl msam)), (q_mbi, .inl (k_mbi, n_mbi, .inl mbits)), (q_mcx, .inl (k_mcx, n_mcx, .inl mctxs)), (q_mpa, .inl (k_mpa, n_mpa, .inl mpaso)), (q_mrd, .inl (k_mrd, n_mrd, .inl mreads)), (q_msz, .inl (k_msz, n_msz, .inl msizs)), (q_mbe, .inl (k_mbe, n_mbe, .inl mbels)), (q_mfa, .inl (k_mfa, n_mfa, .inl mfnds)), (q_mrf, .inl (k_mrf, n_mrf, .inl mrfnd)), (q_mlo, .inl (k_mlo, n_mlo, .inl mlows))] H → va_D A [(q_mo, .inr (5, [.int mref, .int mw, .int mh, .int mst, .int mbd, .ref q_msa, .int mtb, .ref q_mbi, .ref q_mcx, .ref q_mpa, .int mps, .ref q_mle, .ref q_mdi, .int mtr, .ref q_mrd, .int misr, .int mplc, .int mlak, .int mpl, .int mpass, .int mraw, .ref q_msz, .ref q_mbe, .ref q_mfa, .ref q_mse, .ref q_mrf, .ref q_mlo, .ref q_mos, .ref q_mwb, .ref q_mol, .ref q_mrv, .ref q_mrl])), (q_msa, .inl (k_msa, n_msa, .inl msam)), (q_mbi, .inl (k_mbi, n_mbi, .inl mbits)), (q_mcx, .inl (k_mcx, n_mcx, .inl mctxs)), (q_mpa, .inl (k_mpa, n_mpa, .inl mpaso)), (q_mrd, .inl (k_mrd, n_mrd, .inl mreads)), (q_msz, .inl (k_msz, n_msz, .inl msizs)), (q_mbe, .inl (k_mbe, n_mbe, .inl mbels)), (q_mfa, .inl (k_mfa, n_mfa, .inl mfnds)), (q_mrf, .inl (k_mrf, n_mrf, .inl mrfnd)), (q_mlo, .inl (k_mlo, n_mlo, .inl mlows))] → va_S A s.heap H locs → lv_has ls 6 [(5, .int u10), (4, .int ((((u3 + u4) + u5) + u6) + u7)), (3, .int (((16 : Int32) * a1) + a0)), (0, .ref q_mo), (1, .int a0), (2, .int a1)] → W p l e rm_M_refining s m args below meth c H locs 0 0 Q (F0 m 119 ls [.int u13, .int u11, .ref q_mo, .int (((16 : Int32) * a1) + a0), .ref q_mo]) := by
        intro H locs ls hP hD hS hl
        obtain ⟨u14, hc, hF⟩ := kc_bnd hF
        refine ku_call (wr := [(q_msa, .inl (k_msa, n_msa, .inl msam)), (q_msz, .inl (k_msz, n_msz, .inl msizs)), (q_mbe, .inl (k_mbe, n_mbe, .inl mbels)), (q_mfa, .inl (k_mfa, n_mfa, .inl mfnds)), (q_mrf, .inl (k_mrf, n_mrf, .inl mrfnd)), (q_mlo, .inl (k_mlo, n_mlo, .inl mlows))]) hA (va_runV (As := [.int u11, .int u13]) (rest := [.int (((16 : Int32) * a1) + a0), .ref q_mo]) ⟨hx, hb, hml, hown, hts⟩ (m_M_code l dC dI q_mo q_msa q_mbi q_mcx q_mpa q_mle q_mdi q_mrd q_msz q_mbe q_mfa q_mse q_mrf q_mlo q_mos q_mwb q_mol q_mrv q_mrl k_mbi n_mbi k_mcx n_mcx k_mpa n_mpa k_mrd n_mrd mref mw mh mst mbd mtb mps mtr misr mplc mlak mpl mpass mraw mbits mctxs mpaso mreads u11 u13 _ hc H.size) (cwV 2 hts (kgV kw_4_82 kw_4_84 kp_38 kw_1_8 kw_4_85) rfl rfl rfl (by decide +kernel) ⟨Nat.le_of_ble_eq_true rfl, Nat.le_of_ble_eq_true rfl⟩) ⟨kPre_blind, va_recv hK hP (ci := 5) (q0 := 0) rfl rfl, kPre_of (hP.sub [0, 2, 3, 4, 5] rfl) (hK.sub [1, 2, 3, 4] rfl) (hD.sub [0, 2, 3, 4, 5] (by decide) rfl) hN⟩ rfl rfl hl.1 rfl (lv_room (Nat.le_of_ble_eq_true rfl)) d_M_refining_119 ⟨Nat.le_of_ble_eq_true rfl, Nat.le_of_ble_eq_true rfl⟩) hP hD hS [0, 2, 3, 4, 5] [1, 6, 7, 8, 9, 10] rfl rfl (by decide) (by decide) (fun H locs hP hD hS => ?_)
        have hP : va_P (dC, dI) vwCl [(q_msa, .inl (k_msa, n_msa, .inl msam)), (q_msz, .inl (k_msz, n_msz, .inl msizs)), (q_mbe, .inl (k_mbe, n_mbe, .inl mbels)), (q_mfa, .inl (k_mfa, n_mfa, .inl mfnds)), (q_mrf, .inl (k_mrf, n_mrf, .inl mrfnd)), (q_mlo, .inl (k_mlo, n_mlo, .inl mlows)), (q_mo, .inr (5, [.int mref, .int mw, .int mh, .int mst, .int mbd, .ref q_msa, .int u14.2.1, .ref q_mbi, .ref q_mcx, .ref q_mpa, .int mps, .ref q_mle, .ref q_mdi, .int mtr, .ref q_mrd, .int misr, .int u14.2.2.1, .int u14.2.2.2.1, .int mpl, .int mpass, .int mraw, .ref q_msz, .ref q_mbe, .ref q_mfa, .ref q_mse, .ref q_mrf, .ref q_mlo, .ref q_mos, .ref q_mwb, .ref q_mol, .ref q_mrv, .ref q_mrl])), (q_mbi, .inl (k_mbi, n_mbi, .inl u14.2.2.2.2.1)), (q_mcx, .inl (k_mcx, n_mcx, .inl u14.2.2.2.2.2.1)), (q_mpa, .inl (k_mpa, n_mpa, .inl u14.2.2.2.2.2.2)), (q_mrd, .inl (k_mrd, n_mrd, .inl mreads))] H := hP
        have hD : va_D A [(q_msa, .inl (k_msa, n_msa, .inl msam)), (q_msz, .inl (k_msz, n_msz, .inl msizs)), (q_mbe, .inl (k_mbe, n_mbe, .inl mbels)), (q_mfa, .inl (k_mfa, n_mfa, .inl mfnds)), (q_mrf, .inl (k_mrf, n_mrf, .inl mrfnd)), (q_mlo, .inl (k_mlo, n_mlo, .inl mlows)), (q_mo, .inr (5, [.int mref, .int mw, .int mh, .int mst, .int mbd, .ref q_msa, .int u14.2.1, .ref q_mbi, .ref q_mcx, .ref q_mpa, .int mps, .ref q_mle, .ref q_mdi, .int mtr, .ref q_mrd, .int misr, .int u14.2.2.1, .int u14.2.2.2.1, .int mpl, .int mpass, .int mraw, .ref q_msz, .ref q_mbe, .ref q_mfa, .ref q_mse, .ref q_mrf, .ref q_mlo, .ref q_mos, .ref q_mwb, .ref q_mol, .ref q_mrv, .ref q_mrl])), (q_mbi, .inl (k_mbi, n_mbi, .inl u14.2.2.2.2.1)), (q_mcx, .inl (k_mcx, n_mcx, .inl u14.2.2.2.2.2.1)), (q_mpa, .inl (k_mpa, n_mpa, .inl u14.2.2.2.2.2.2)), (q_mrd, .inl (k_mrd, n_mrd, .inl mreads))] := hD
        obtain ⟨u15, hc, hF⟩ := kc_bnd hF
        refine ku_call (wr := [(q_msa, .inl (k_msa, n_msa, .inl msam)), (q_mbe, .inl (k_mbe, n_mbe, .inl mbels)), (q_mfa, .inl (k_mfa, n_mfa, .inl mfnds)), (q_mrf, .inl (k_mrf, n_mrf, .inl mrfnd)), (q_mbi, .inl (k_mbi, n_mbi, .inl u14.2.2.2.2.1)), (q_mcx, .inl (k_mcx, n_mcx, .inl u14.2.2.2.2.2.1)), (q_mpa, .inl (k_mpa, n_mpa, .inl u14.2.2.2.2.2.2)), (q_mrd, .inl (k_mrd, n_mrd, .inl mreads))]) hA (va_runV (As := [.int (((16 : Int32) * a1) + a0), .int u14.1]) (rest := []) ⟨hx, hb, hml, hown, hts⟩ (m_M_know l dC dI q_mo q_msa q_mbi q_mcx q_mpa q_mle q_mdi q_mrd q_msz q_mbe q_mfa q_mse q_mrf q_mlo q_mos q_mwb q_mol q_mrv q_mrl k_msz n_msz k_mlo n_mlo mref mw mh mst mbd u14.2.1 mps mtr misr u14.2.2.1 u14.2.2.2.1 mpl mpass mraw msizs mlows (((16 : Int32) * a1) + a0) u14.1 _ hc H.size) (cwV 2 hts (kgV kw_4_86 kw_4_88 kp_39 kw_1_8 kw_4_89) rfl rfl rfl (by decide +kernel) ⟨Nat.le_of_ble_eq_true rfl, Nat.le_of_ble_eq_true rfl⟩) ⟨kPre_blind, va_recv hK hP (ci := 5) (q0 := 6) rfl rfl, kPre_of (hP.sub [6, 1, 5] rfl) (hK.sub [5, 9] rfl) (hD.sub [6, 1, 5] (by decide) rfl) hN⟩ rfl rfl hl.1 rfl (lv_room (Nat.le_of_ble_eq_true rfl)) d_M_refining_122 ⟨Nat.le_of_ble_eq_true rfl, Nat.le_of_ble_eq_true rfl⟩) hP hD hS [6, 1, 5] [0, 2, 3, 4, 7, 8, 9, 10] rfl rfl (by decide) (by decide) (fun H locs hP hD hS => ?_)
        have hP : va_P (dC, dI) vwCl [(q_msa, .inl (k_msa, n_msa, .inl msam)), (q_mbe, .inl (k_mbe, n_mbe, .inl mbels)), (q_mfa, .inl (k_mfa, n_mfa, .inl mfnds)), (q_mrf, .inl (k_mrf, n_mrf, .inl mrfnd)), (q_mbi, .inl (k_mbi, n_mbi, .inl u14.2.2.2.2.1)), (q_mcx, .inl (k_mcx, n_mcx, .inl u14.2.2.2.2.2.1)), (q_mpa, .inl (k_mpa, n_mpa, .inl u14.2.2.2.2.2.2)), (q_mrd, .inl (k_mrd, n_mrd, .inl mreads)), (q_mo, .inr (5, [.int mref, .int mw, .int mh, .int mst, .int mbd, .ref q_msa, .int u14.2.1, .ref q_mbi, .ref q_mcx, .ref q_mpa, .int mps, .ref q_mle, .ref q_mdi, .int mtr, .ref q_mrd, .int misr, .int u14.2.2.1, .int u14.2.2.2.1, .int mpl, .int mpass, .int mraw, .ref q_msz, .ref q_mbe, .ref q_mfa, .ref q_mse, .ref q_mrf, .ref q_mlo, .ref q_mos, .ref q_mwb, .ref q_mol, .ref q_mrv, .ref q_mrl])), (q_msz, .inl (k_msz, n_msz, .inl u15.1)), (q_mlo, .inl (k_mlo, n_mlo, .inl u15.2))] H := hP
        have hD : va_D A [(q_msa, .inl (k_msa, n_msa, .inl msam)), (q_mbe, .inl (k_mbe, n_mbe, .inl mbels)), (q_mfa, .inl (k_mfa, n_mfa, .inl mfnds)), (q_mrf, .inl (k_mrf, n_mrf, .inl mrfnd)), (q_mbi, .inl (k_mbi, n_mbi, .inl u14.2.2.2.2.1)), (q_mcx, .inl (k_mcx, n_mcx, .inl u14.2.2.2.2.2.1)), (q_mpa, .inl (k_mpa, n_mpa, .inl u14.2.2.2.2.2.2)), (q_mrd, .inl (k_mrd, n_mrd, .inl mreads)), (q_mo, .inr (5, [.int mref, .int mw, .int mh, .int mst, .int mbd, .ref q_msa, .int u14.2.1, .ref q_mbi, .ref q_mcx, .ref q_mpa, .int mps, .ref q_mle, .ref q_mdi, .int mtr, .ref q_mrd, .int misr, .int u14.2.2.1, .int u14.2.2.2.1, .int mpl, .int mpass, .int mraw, .ref q_msz, .ref q_mbe, .ref q_mfa, .ref q_mse, .ref q_mrf, .ref q_mlo, .ref q_mos, .ref q_mwb, .ref q_mol, .ref q_mrv, .ref q_mrl])), (q_msz, .inl (k_msz, n_msz, .inl u15.1)), (q_mlo, .inl (k_mlo, n_mlo, .inl u15.2))] := hD
        refine lv_aload_n hx hb d_M_refining_125 rfl (lv_at hl 3 rfl) ?_
        refine va_get (D := (dC, dI)) (ci := 5) (v := .ref q_mrf) (C := R_M) (T := T_M) (N := 32) hx hb hts ki_M hown hK hP 8 rfl rfl 25 (by decide) (hts _ kw_3_158) (fun _ h9 => h9) rfl d_M_refining_126 ?_
        refine lv_iload_n hx hb d_M_refining_129 rfl (lv_at hl 2 rfl) ?_
        refine lv_iconst (v := 1) hx hb d_M_refining_130 (by decide) ?_
        obtain ⟨h16, hF⟩ := kc_no hF
        refine va_zast hx hb hK hP hD hS 3 8 rfl rfl h16 d_M_refining_131 (fun H locs hP hD hS => ?_)
        have hP : va_P (dC, dI) vwCl [(q_msa, .inl (k_msa, n_msa, .inl msam)), (q_mbe, .inl (k_mbe, n_mbe, .inl mbels)), (q_mfa, .inl (k_mfa, n_mfa, .inl mfnds)), (q_mrf, .inl (k_mrf, n_mrf, .inl (upd mrfnd (((16 : Int32) * a1) + a0).toNatClampNeg (1 : Int32)))), (q_mbi, .inl (k_mbi, n_mbi, .inl u14.2.2.2.2.1)), (q_mcx, .inl (k_mcx, n_mcx, .inl u14.2.2.2.2.2.1)), (q_mpa, .inl (k_mpa, n_mpa, .inl u14.2.2.2.2.2.2)), (q_mrd, .inl (k_mrd, n_mrd, .inl mreads)), (q_mo, .inr (5, [.int mref, .int mw, .int mh, .int mst, .int mbd, .ref q_msa, .int u14.2.1, .ref q_mbi, .ref q_mcx, .ref q_mpa, .int mps, .ref q_mle, .ref q_mdi, .int mtr, .ref q_mrd, .int misr, .int u14.2.2.1, .int u14.2.2.2.1, .int mpl, .int mpass, .int mraw, .ref q_msz, .ref q_mbe, .ref q_mfa, .ref q_mse, .ref q_mrf, .ref q_mlo, .ref q_mos, .ref q_mwb, .ref q_mol, .ref q_mrv, .ref q_mrl])), (q_msz, .inl (k_msz, n_msz, .inl u15.1)), (q_mlo, .inl (k_mlo, n_mlo, .inl u15.2))] H := hP
        have hD : va_D A [(q_msa, .inl (k_msa, n_msa, .inl msam)), (q_mbe, .inl (k_mbe, n_mbe, .inl mbels)), (q_mfa, .inl (k_mfa, n_mfa, .inl mfnds)), (q_mrf, .inl (k_mrf, n_mrf, .inl (upd mrfnd (((16 : Int32) * a1) + a0).toNatClampNeg (1 : Int32)))), (q_mbi, .inl (k_mbi, n_mbi, .inl u14.2.2.2.2.1)), (q_mcx, .inl (k_mcx, n_mcx, .inl u14.2.2.2.2.2.1)), (q_mpa, .inl (k_mpa, n_mpa, .inl u14.2.2.2.2.2.2)), (q_mrd, .inl (k_mrd, n_mrd, .inl mreads)), (q_mo, .inr (5, [.int mref, .int mw, .int mh, .int mst, .int mbd, .ref q_msa, .int u14.2.1, .ref q_mbi, .ref q_mcx, .ref q_mpa, .int mps, .ref q_mle, .ref q_mdi, .int mtr, .ref q_mrd, .int misr, .int u14.2.2.1, .int u14.2.2.2.1, .int mpl, .int mpass, .int mraw, .ref q_msz, .ref q_mbe, .ref q_mfa, .ref q_mse, .ref q_mrf, .ref q_mlo, .ref q_mos, .ref q_mwb, .ref q_mol, .ref q_mrv, .ref q_mrl])), (q_msz, .inl (k_msz, n_msz, .inl u15.1)), (q_mlo, .inl (k_mlo, n_mlo, .inl u15.2))] := hD
        obtain rfl := Option.some.inj hF
        exact ku_vret hx hb hr hlocks hQ (hP.sub [8, 0, 4, 5, 6, 7, 9, 1, 2, 3, 10] rfl) (hD.sub [8, 0, 4, 5, 6, 7, 9, 1, 2, 3, 10] (by decide) rfl) hS d_M_refining_132
      clear hF; have hF := hcu13; clear hcu13
      refine lv_if_eq (tgt := 117) hx hb d_M_refining_109 (by decide) (fun c12 => ?_) (fun c12 => ?_)
      · have hF := kc_pos c12 hF
        refine lv_iload hx hb d_M_refining_117 (lv_at hl 0 rfl) ?_
        obtain rfl := Option.some.inj hF
        exact hJu13 _ _ _ hP hD hS (lv_sub hl [0, 1, 2, 3, 4, 5] rfl)
      have hF := kc_neg c12 hF
      refine lv_bipush (v := 19) hx hb d_M_refining_112 (by decide) ?_
      refine lv_goto (tgt := 119) hx hb d_M_refining_114 (by decide) ?_
      obtain rfl := Option.some.inj hF
      exact hJu13 _ _ _ hP hD hS (lv_sub hl [0, 1, 2, 3, 4, 5] rfl)
    clear hF; have hF := hcu10; clear hcu10
    refine lv_if_eq (tgt := 83) hx hb d_M_refining_75 (by decide) (fun c9 => ?_) (fun c9 => ?_)
    · have hF := kc_pos c9 hF
      refine lv_iload hx hb d_M_refining_83 (lv_at hl 0 rfl) ?_
      refine lv_if_le (tgt := 93) hx hb d_M_refining_85 (by decide) (fun c17 => ?_) (fun c17 => ?_)
      · have hF := kc_pos c17 hF
        refine lv_bipush (v := 14) hx hb d_M_refining_93 (by decide) ?_
        obtain rfl := Option.some.inj hF
        exact hJu10 _ _ _ hP hD hS (lv_sub hl [0, 1, 2, 3, 4] rfl)
      have hF := kc_neg c17 hF
      refine lv_bipush (v := 15) hx hb d_M_refining_88 (by decide) ?_
      refine lv_goto (tgt := 95) hx hb d_M_refining_90 (by decide) ?_
      obtain rfl := Option.some.inj hF
      exact hJu10 _ _ _ hP hD hS (lv_sub hl [0, 1, 2, 3, 4] rfl)
    have hF := kc_neg c9 hF
    refine lv_bipush (v := 16) hx hb d_M_refining_78 (by decide) ?_
    refine lv_goto (tgt := 95) hx hb d_M_refining_80 (by decide) ?_
    obtain rfl := Option.some.inj hF
    exact hJu10 _ _ _ hP hD hS (lv_sub hl [0, 1, 2, 3, 4] rfl)
  have hF := kc_neg c2 hF
  obtain rfl := Option.some.inj hF
  exact ku_vret hx hb hr hlocks hQ (hP.sub [0, 1, 2, 3, 4, 5, 6, 7, 8, 9, 10] rfl) (hD.sub [0, 1, 2, 3, 4, 5, 6, 7, 8, 9, 10] (by decide) rfl) hS d_M_refining_20
abbrev rm_M_isOpen : Room := { frames := 0, cells := 0, slots := 0, locals := 0 }
set_option maxHeartbeats 4000000 in
set_option maxRecDepth 100000 in
theorem m_M_isOpen (l : Launch) (dC : Nat → ClassId) (dI : Nat → Nat → Nat) (q_mo q_msa q_mbi q_mcx q_mpa q_mle q_mdi q_mrd q_msz q_mbe q_mfa q_mse q_mrf q_mlo q_mos q_mwb q_mol q_mrv q_mrl : Nat) (k_mfa : ClassId) (n_mfa : Nat) (k_mse : ClassId) (n_mse : Nat) (mref : Int32) (mw : Int32) (mh : Int32) (mst : Int32) (mbd : Int32) (mtb : Int32) (mps : Int32) (mtr : Int32) (misr : Int32) (mplc : Int32) (mlak : Int32) (mpl : Int32) (mpass : Int32) (mraw : Int32) (mfnds : (Nat → Int32)) (mseen : (Nat → Int32)) (a0 : Int32) (a1 : Int32) (u : Int32) (hF : f_M_isOpen mfnds mseen n_mfa n_mse a0 a1 = some u) : Met l y_M_isOpen (kws y_M_isOpen c_M_isOpen 3 (some .boolean)) rm_M_isOpen (kRe (dC, dI) [.ref q_mo, .int a0, .int a1] [(q_mo, .inr (5, [.int mref, .int mw, .int mh, .int mst, .int mbd, .ref q_msa, .int mtb, .ref q_mbi, .ref q_mcx, .ref q_mpa, .int mps, .ref q_mle, .ref q_mdi, .int mtr, .ref q_mrd, .int misr, .int mplc, .int mlak, .int mpl, .int mpass, .int mraw, .ref q_msz, .ref q_mbe, .ref q_mfa, .ref q_mse, .ref q_mrf, .ref q_mlo, .ref q_mos, .ref q_mwb, .ref q_mol, .ref q_mrv, .ref q_mrl])), (q_mfa, .inl (k_mfa, n_mfa, .inl mfnds)), (q_mse, .inl (k_mse, n_mse, .inl mseen))] [(k_mfa, .int), (k_mse, .boolean)]) (k2_QcV (.int u)) 0 0 (fun _ => False) := by
  unfold f_M_isOpen at hF
  refine kR_of (cc := c_M_isOpen) (maxL := 3) (ret := (some .boolean)) (by decide) (Nat.le_of_ble_eq_true rfl) ?_
  intro p e s m args below meth c Q hQ hfx hP hK hN ls hl
  obtain ⟨hx, hb, hr, hml, hown, hts, hlocks⟩ := hfx
  have hown : s.vm.findClass R_M = some m.cls := hown
  have hl : lv_has ls 3 [(0, .ref q_mo), (1, .int a0), (2, .int a1)] := hl
  refine lv_aload_n hx hb d_M_isOpen_0 rfl (lv_at hl 0 rfl) ?_
  refine va_get (D := (dC, dI)) (ci := 5) (v := .ref q_mfa) (C := R_M) (T := T_M) (N := 32) hx hb hts ki_M hown hK hP 0 rfl rfl 23 (by decide) (hts _ kw_3_156) (fun _ h9 => h9) rfl d_M_isOpen_1 ?_
  refine lv_bipush (v := 16) hx hb d_M_isOpen_4 (by decide) ?_
  refine lv_iload_n hx hb d_M_isOpen_6 rfl (lv_at hl 2 rfl) ?_
  refine lv_imul hx hb d_M_isOpen_7 ?_
  refine lv_iload_n hx hb d_M_isOpen_8 rfl (lv_at hl 1 rfl) ?_
  refine lv_iadd hx hb d_M_isOpen_9 ?_
  obtain ⟨h1, hF⟩ := kc_no hF
  refine va_iald hx hb hK hP 1 0 rfl rfl h1 d_M_isOpen_10 ?_
  refine lv_iconst (v := -1) hx hb d_M_isOpen_11 (by decide) ?_
  refine lv_icmp_ne (tgt := 33) hx hb d_M_isOpen_12 (by decide) (fun c2 => ?_) (fun c2 => ?_)
  · have hF := kc_neg c2 hF
    refine lv_iconst (v := 0) hx hb d_M_isOpen_33 (by decide) ?_
    obtain rfl := Option.some.inj hF
    exact kr_zret hx hb hr hlocks hQ (by decide) d_M_isOpen_34
  have hF := kc_pos c2 hF
  refine lv_aload_n hx hb d_M_isOpen_15 rfl (lv_at hl 0 rfl) ?_
  refine va_get (D := (dC, dI)) (ci := 5) (v := .ref q_mse) (C := R_M) (T := T_M) (N := 32) hx hb hts ki_M hown hK hP 0 rfl rfl 24 (by decide) (hts _ kw_3_157) (fun _ h9 => h9) rfl d_M_isOpen_16 ?_
  refine lv_bipush (v := 16) hx hb d_M_isOpen_19 (by decide) ?_
  refine lv_iload_n hx hb d_M_isOpen_21 rfl (lv_at hl 2 rfl) ?_
  refine lv_imul hx hb d_M_isOpen_22 ?_
  refine lv_iload_n hx hb d_M_isOpen_23 rfl (lv_at hl 1 rfl) ?_
  refine lv_iadd hx hb d_M_isOpen_24 ?_
  obtain ⟨h3, hF⟩ := kc_no hF
  refine va_zald hx hb hK hP 2 1 rfl rfl h3 d_M_isOpen_25 ?_
  refine lv_if_ne (tgt := 33) hx hb d_M_isOpen_26 (by decide) (fun c4 => ?_) (fun c4 => ?_)
  · have hF := kc_neg c4 hF
    refine lv_iconst (v := 0) hx hb d_M_isOpen_33 (by decide) ?_
    obtain rfl := Option.some.inj hF
    exact kr_zret hx hb hr hlocks hQ (by decide) d_M_isOpen_34
  have hF := kc_pos c4 hF
  refine lv_iconst (v := 1) hx hb d_M_isOpen_29 (by decide) ?_
  refine lv_goto (tgt := 34) hx hb d_M_isOpen_30 (by decide) ?_
  obtain rfl := Option.some.inj hF
  exact kr_zret hx hb hr hlocks hQ (by decide) d_M_isOpen_34
abbrev rm_M_isEmpty : Room := { frames := 5, cells := 0, slots := 0, locals := 119 }
set_option maxHeartbeats 4000000 in
set_option maxRecDepth 100000 in
theorem m_M_isEmpty (l : Launch) (dC : Nat → ClassId) (dI : Nat → Nat → Nat) (q_mo q_msa q_mbi q_mcx q_mpa q_mle q_mdi q_mrd q_msz q_mbe q_mfa q_mse q_mrf q_mlo q_mos q_mwb q_mol q_mrv q_mrl : Nat) (k_mbe : ClassId) (n_mbe : Nat) (k_mfa : ClassId) (n_mfa : Nat) (k_mse : ClassId) (n_mse : Nat) (mref : Int32) (mw : Int32) (mh : Int32) (mst : Int32) (mbd : Int32) (mtb : Int32) (mps : Int32) (mtr : Int32) (misr : Int32) (mplc : Int32) (mlak : Int32) (mpl : Int32) (mpass : Int32) (mraw : Int32) (mbels : (Nat → Int32)) (mfnds : (Nat → Int32)) (mseen : (Nat → Int32)) (a0 : Int32) (a1 : Int32) (u : Int32) (hF : f_M_isEmpty mw mh mst mbd mbels mfnds mseen n_mbe n_mfa n_mse a0 a1 = some u) : Met l y_M_isEmpty (kws y_M_isEmpty c_M_isEmpty 5 (some .boolean)) rm_M_isEmpty (kRe (dC, dI) [.ref q_mo, .int a0, .int a1] [(q_mo, .inr (5, [.int mref, .int mw, .int mh, .int mst, .int mbd, .ref q_msa, .int mtb, .ref q_mbi, .ref q_mcx, .ref q_mpa, .int mps, .ref q_mle, .ref q_mdi, .int mtr, .ref q_mrd, .int misr, .int mplc, .int mlak, .int mpl, .int mpass, .int mraw, .ref q_msz, .ref q_mbe, .ref q_mfa, .ref q_mse, .ref q_mrf, .ref q_mlo, .ref q_mos, .ref q_mwb, .ref q_mol, .ref q_mrv, .ref q_mrl])), (q_mbe, .inl (k_mbe, n_mbe, .inl mbels)), (q_mfa, .inl (k_mfa, n_mfa, .inl mfnds)), (q_mse, .inl (k_mse, n_mse, .inl mseen))] [(k_mbe, .boolean), (k_mfa, .int), (k_mse, .boolean)]) (k2_QcV (.int u)) 0 0 (fun _ => False) := by
  unfold f_M_isEmpty at hF
  refine kR_of (cc := c_M_isEmpty) (maxL := 5) (ret := (some .boolean)) (by decide) (Nat.le_of_ble_eq_true rfl) ?_
  intro p e s m args below meth c Q hQ hfx hP hK hN ls hl
  obtain ⟨hx, hb, hr, hml, hown, hts, hlocks⟩ := hfx
  have hown : s.vm.findClass R_M = some m.cls := hown
  have hl : lv_has ls 5 [(0, .ref q_mo), (1, .int a0), (2, .int a1)] := hl
  refine lv_iload_n hx hb d_M_isEmpty_0 rfl (lv_at hl 2 rfl) ?_
  refine lv_iconst (v := 4) hx hb d_M_isEmpty_1 (by decide) ?_
  refine lv_iadd hx hb d_M_isEmpty_2 ?_
  refine lv_aload_n hx hb d_M_isEmpty_3 rfl (lv_at hl 0 rfl) ?_
  refine va_get (D := (dC, dI)) (ci := 5) (v := .int mh) (C := R_M) (T := T_M) (N := 32) hx hb hts ki_M hown hK hP 0 rfl rfl 2 (by decide) (hts _ kw_3_135) (fun _ h9 => h9) rfl d_M_isEmpty_4 ?_
  obtain ⟨u2, hcu2, hF⟩ := kc_bnd hF
  have hJu2 : ∀ (ls : Array Slot), lv_has ls 5 [(0, .ref q_mo), (1, .int a0), (2, .int a1)] → W p l e rm_M_isEmpty s m args below meth c s.heap [] 0 0 Q (F0 m 15 ls [.int u2]) := by
    intro ls hl
    refine lv_istore_n (lv' := [(3, .int u2), (0, .ref q_mo), (1, .int a0), (2, .int a1)]) hx hb d_M_isEmpty_15 rfl hl (by decide) rfl (fun ls hl => ?_)
    refine lv_iconst (v := 0) hx hb d_M_isEmpty_16 (by decide) ?_
    refine lv_istore (lv' := [(4, .int (0 : Int32)), (3, .int u2), (0, .ref q_mo), (1, .int a0), (2, .int a1)]) hx hb d_M_isEmpty_17 hl (by decide) rfl (fun ls hl => ?_)
    obtain ⟨u3, hcu3, hF⟩ := kc_bnd hF
    have hJu3_65 : ∀ (ls : Array Slot), lv_has ls 5 [(4, .int u3.2), (3, .int u3.1), (0, .ref q_mo), (1, .int a0), (2, .int a1)] → W p l e rm_M_isEmpty s m args below meth c s.heap [] 0 0 Q (F0 m 65 ls []) := by
      intro ls hl
      refine lv_iload_n hx hb d_M_isEmpty_65 rfl (lv_at hl 1 rfl) ?_
      obtain ⟨h4, hF⟩ := kc_no hF
      obtain rfl := Option.some.inj hF
      exact kr_zret hx hb hr hlocks hQ (kz_nar h4) d_M_isEmpty_66
    have hIu3 : ∀ (N : Nat) (v19_3 : Int32) (v19_4 : Int32), f_M_isEmpty_L19 mw mh mst mbd mbels mfnds mseen n_mbe n_mfa n_mse a0 a1 N v19_3 v19_4 = some u3 → ∀ (ls : Array Slot), lv_has ls 5 [(4, .int v19_4), (3, .int v19_3), (0, .ref q_mo), (1, .int a0), (2, .int a1)] → W p l e rm_M_isEmpty s m args below meth c s.heap [] 0 0 Q (F0 m 19 ls []) := by
      intro N
      induction N with
      | zero => intro v19_3 v19_4 hF; rw [f_M_isEmpty_L19] at hF; cases hF
      | succ N ih =>
        intro v19_3 v19_4 hF
        intro ls hl
        rw [f_M_isEmpty_L19] at hF
        refine lv_iload hx hb d_M_isEmpty_19 (lv_at hl 0 rfl) ?_
        refine lv_iconst (v := 4) hx hb d_M_isEmpty_21 (by decide) ?_
        refine lv_icmp_ge (tgt := 65) hx hb d_M_isEmpty_22 (by decide) (fun c5 => ?_) (fun c5 => ?_)
        · have hF := kc_pos c5 hF
          obtain rfl := Option.some.inj hF
          exact hJu3_65 _ (lv_sub hl [0, 1, 2, 3, 4] rfl)
        have hF := kc_neg c5 hF
        refine lv_iload_n hx hb d_M_isEmpty_25 rfl (lv_at hl 1 rfl) ?_
        refine lv_if_eq (tgt := 65) hx hb d_M_isEmpty_26 (by decide) (fun c6 => ?_) (fun c6 => ?_)
        · have hF := kc_pos c6 hF
          obtain rfl := Option.some.inj hF
          exact hJu3_65 _ (lv_sub hl [0, 1, 2, 3, 4] rfl)
        have hF := kc_neg c6 hF
        refine lv_aload_n hx hb d_M_isEmpty_29 rfl (lv_at hl 2 rfl) ?_
        refine lv_iload_n hx hb d_M_isEmpty_30 rfl (lv_at hl 3 rfl) ?_
        refine lv_iload_n hx hb d_M_isEmpty_31 rfl (lv_at hl 4 rfl) ?_
        refine lv_iload hx hb d_M_isEmpty_32 (lv_at hl 0 rfl) ?_
        refine lv_iadd hx hb d_M_isEmpty_34 ?_
        obtain ⟨u7, hc, hF⟩ := kc_bnd hF
        refine kr_call (va_runV (As := [.int a0, .int (a1 + v19_4)]) (rest := []) ⟨hx, hb, hml, hown, hts⟩ (m_M_isOpen l dC dI q_mo q_msa q_mbi q_mcx q_mpa q_mle q_mdi q_mrd q_msz q_mbe q_mfa q_mse q_mrf q_mlo q_mos q_mwb q_mol q_mrv q_mrl k_mfa n_mfa k_mse n_mse mref mw mh mst mbd mtb mps mtr misr mplc mlak mpl mpass mraw mfnds mseen a0 (a1 + v19_4) _ hc) (cwV 2 hts (kgV kw_4_54 kw_4_56 kp_31 kw_1_8 kw_4_57) rfl rfl rfl (by decide +kernel) ⟨Nat.le_of_ble_eq_true rfl, Nat.le_of_ble_eq_true rfl⟩) ⟨kRe_blind, va_recv hK hP (ci := 5) (q0 := 0) rfl rfl, kRe_of (hP.sub [0, 2, 3] rfl) (hK.sub [1, 2] rfl) hN⟩ rfl rfl hl.1 rfl (lv_room (Nat.le_of_ble_eq_true rfl)) d_M_isEmpty_35 ⟨Nat.le_of_ble_eq_true rfl, Nat.le_of_ble_eq_true rfl⟩) ?_
        obtain ⟨u9, hcu9, hF⟩ := kc_bnd hF
        have hJu9 : ∀ (ls : Array Slot), lv_has ls 5 [(4, .int v19_4), (3, .int v19_3), (0, .ref q_mo), (1, .int a0), (2, .int a1)] → W p l e rm_M_isEmpty s m args below meth c s.heap [] 0 0 Q (F0 m 58 ls [.int u9]) := by
          intro ls hl
          refine lv_istore_n (lv' := [(3, .int u9), (4, .int v19_4), (0, .ref q_mo), (1, .int a0), (2, .int a1)]) hx hb d_M_isEmpty_58 rfl hl (by decide) rfl (fun ls hl => ?_)
          refine lv_iinc (v := (v19_4 + 1)) (lv' := [(4, .int (v19_4 + 1)), (3, .int u9), (0, .ref q_mo), (1, .int a0), (2, .int a1)]) hx hb d_M_isEmpty_59 hl (k := 1) rfl rfl (by decide) rfl (fun ls hl => ?_)
          refine lv_goto (tgt := 19) hx hb d_M_isEmpty_62 (by decide) ?_
          exact ih _ _ hF _ (lv_sub hl [0, 1, 2, 3, 4] rfl)
        clear hF; have hF := hcu9; clear hcu9
        refine lv_if_eq (tgt := 57) hx hb d_M_isEmpty_38 (by decide) (fun c8 => ?_) (fun c8 => ?_)
        · have hF := kc_pos c8 hF
          refine lv_iconst (v := 0) hx hb d_M_isEmpty_57 (by decide) ?_
          obtain rfl := Option.some.inj hF
          exact hJu9 _ (lv_sub hl [0, 1, 2, 3, 4] rfl)
        have hF := kc_neg c8 hF
        refine lv_aload_n hx hb d_M_isEmpty_41 rfl (lv_at hl 2 rfl) ?_
        refine lv_iload_n hx hb d_M_isEmpty_42 rfl (lv_at hl 3 rfl) ?_
        refine lv_iload_n hx hb d_M_isEmpty_43 rfl (lv_at hl 4 rfl) ?_
        refine lv_iload hx hb d_M_isEmpty_44 (lv_at hl 0 rfl) ?_
        refine lv_iadd hx hb d_M_isEmpty_46 ?_
        obtain ⟨u10, hc, hF⟩ := kc_bnd hF
        refine kr_call (va_runV (As := [.int a0, .int (a1 + v19_4)]) (rest := []) ⟨hx, hb, hml, hown, hts⟩ (m_M_contextOf l dC dI q_mo q_msa q_mbi q_mcx q_mpa q_mle q_mdi q_mrd q_msz q_mbe q_mfa q_mse q_mrf q_mlo q_mos q_mwb q_mol q_mrv q_mrl k_mbe n_mbe k_mfa n_mfa mref mw mh mst mbd mtb mps mtr misr mplc mlak mpl mpass mraw mbels mfnds a0 (a1 + v19_4) _ hc) (cwV 2 hts (kgV kw_4_58 kw_4_60 kp_32 kw_1_8 kw_4_61) rfl rfl rfl (by decide +kernel) ⟨Nat.le_of_ble_eq_true rfl, Nat.le_of_ble_eq_true rfl⟩) ⟨kRe_blind, va_recv hK hP (ci := 5) (q0 := 0) rfl rfl, kRe_of (hP.sub [0, 1, 2] rfl) (hK.sub [0, 1] rfl) hN⟩ rfl rfl hl.1 rfl (lv_room (Nat.le_of_ble_eq_true rfl)) d_M_isEmpty_47 ⟨Nat.le_of_ble_eq_true rfl, Nat.le_of_ble_eq_true rfl⟩) ?_
        refine lv_if_ne (tgt := 57) hx hb d_M_isEmpty_50 (by decide) (fun c11 => ?_) (fun c11 => ?_)
        · have hF := kc_neg c11 hF
          refine lv_iconst (v := 0) hx hb d_M_isEmpty_57 (by decide) ?_
          obtain rfl := Option.some.inj hF
          exact hJu9 _ (lv_sub hl [0, 1, 2, 3, 4] rfl)
        have hF := kc_pos c11 hF
        refine lv_iconst (v := 1) hx hb d_M_isEmpty_53 (by decide) ?_
        refine lv_goto (tgt := 58) hx hb d_M_isEmpty_54 (by decide) ?_
        obtain rfl := Option.some.inj hF
        exact hJu9 _ (lv_sub hl [0, 1, 2, 3, 4] rfl)
    exact hIu3 _ _ _ hcu3 _ (lv_sub hl [0, 1, 2, 3, 4] rfl)
  clear hF; have hF := hcu2; clear hcu2
  refine lv_icmp_gt (tgt := 14) hx hb d_M_isEmpty_7 (by decide) (fun c1 => ?_) (fun c1 => ?_)
  · have hF := kc_pos c1 hF
    refine lv_iconst (v := 0) hx hb d_M_isEmpty_14 (by decide) ?_
    obtain rfl := Option.some.inj hF
    exact hJu2 _ (lv_sub hl [0, 1, 2] rfl)
  have hF := kc_neg c1 hF
  refine lv_iconst (v := 1) hx hb d_M_isEmpty_10 (by decide) ?_
  refine lv_goto (tgt := 15) hx hb d_M_isEmpty_11 (by decide) ?_
  obtain rfl := Option.some.inj hF
  exact hJu2 _ (lv_sub hl [0, 1, 2] rfl)
abbrev rm_M_run : Room := { frames := 3, cells := 0, slots := 0, locals := 76 }
set_option maxHeartbeats 4000000 in
set_option maxRecDepth 100000 in
theorem m_M_run (l : Launch) (dC : Nat → ClassId) (dI : Nat → Nat → Nat) (q_mo q_msa q_mbi q_mcx q_mpa q_mle q_mdi q_mrd q_msz q_mbe q_mfa q_mse q_mrf q_mlo q_mos q_mwb q_mol q_mrv q_mrl : Nat) (k_msa : ClassId) (n_msa : Nat) (k_mbi : ClassId) (n_mbi : Nat) (k_mcx : ClassId) (n_mcx : Nat) (k_mpa : ClassId) (n_mpa : Nat) (k_mrd : ClassId) (n_mrd : Nat) (k_msz : ClassId) (n_msz : Nat) (k_mbe : ClassId) (n_mbe : Nat) (k_mfa : ClassId) (n_mfa : Nat) (k_mlo : ClassId) (n_mlo : Nat) (mref : Int32) (mw : Int32) (mh : Int32) (mst : Int32) (mbd : Int32) (mtb : Int32) (mps : Int32) (mtr : Int32) (misr : Int32) (mplc : Int32) (mlak : Int32) (mpl : Int32) (mpass : Int32) (mraw : Int32) (msam : (Nat → Int32)) (mbits : (Nat → Int32)) (mctxs : (Nat → Int32)) (mpaso : (Nat → Int32)) (mreads : (Nat → Int32)) (msizs : (Nat → Int32)) (mbels : (Nat → Int32)) (mfnds : (Nat → Int32)) (mlows : (Nat → Int32)) (a0 : Int32) (a1 : Int32) (u : Int32 × Int32 × Int32 × Int32 × (Nat → Int32) × (Nat → Int32) × (Nat → Int32) × (Nat → Int32) × (Nat → Int32) × (Nat → Int32) × (Nat → Int32)) (hF : f_M_run mw mh mst mtb mtr misr mplc mlak mpl mpass mraw msam mbits mctxs mpaso mreads msizs mbels mfnds mlows n_msa n_mbi n_mcx n_mpa n_mrd n_msz n_mbe n_mfa n_mlo a0 a1 = some u) : ∀ sz : Nat, Met l y_M_run (kws y_M_run c_M_run 7 (some .int)) rm_M_run (kPre (dC, dI) [.ref q_mo, .int a0, .int a1] [(q_mo, .inr (5, [.int mref, .int mw, .int mh, .int mst, .int mbd, .ref q_msa, .int mtb, .ref q_mbi, .ref q_mcx, .ref q_mpa, .int mps, .ref q_mle, .ref q_mdi, .int mtr, .ref q_mrd, .int misr, .int mplc, .int mlak, .int mpl, .int mpass, .int mraw, .ref q_msz, .ref q_mbe, .ref q_mfa, .ref q_mse, .ref q_mrf, .ref q_mlo, .ref q_mos, .ref q_mwb, .ref q_mol, .ref q_mrv, .ref q_mrl])), (q_msa, .inl (k_msa, n_msa, .inl msam)), (q_mbi, .inl (k_mbi, n_mbi, .inl mbits)), (q_mcx, .inl (k_mcx, n_mcx, .inl mctxs)), (q_mpa, .inl (k_mpa, n_mpa, .inl mpaso)), (q_mrd, .inl (k_mrd, n_mrd, .inl mreads)), (q_msz, .inl (k_msz, n_msz, .inl msizs)), (q_mbe, .inl (k_mbe, n_mbe, .inl mbels)), (q_mfa, .inl (k_mfa, n_mfa, .inl mfnds)), (q_mlo, .inl (k_mlo, n_mlo, .inl mlows))] [(k_msa, .int), (k_mbi, .int), (k_mcx, .int), (k_mpa, .int), (k_mrd, .int), (k_msz, .int), (k_mbe, .boolean), (k_mfa, .int), (k_mlo, .int)] sz) (kPost (dC, dI) (some (.int u.1)) [(q_mo, .inr (5, [.int mref, .int mw, .int mh, .int mst, .int mbd, .ref q_msa, .int u.2.1, .ref q_mbi, .ref q_mcx, .ref q_mpa, .int mps, .ref q_mle, .ref q_mdi, .int mtr, .ref q_mrd, .int misr, .int u.2.2.1, .int u.2.2.2.1, .int mpl, .int mpass, .int mraw, .ref q_msz, .ref q_mbe, .ref q_mfa, .ref q_mse, .ref q_mrf, .ref q_mlo, .ref q_mos, .ref q_mwb, .ref q_mol, .ref q_mrv, .ref q_mrl])), (q_msa, .inl (k_msa, n_msa, .inl msam)), (q_mbi, .inl (k_mbi, n_mbi, .inl u.2.2.2.2.1)), (q_mcx, .inl (k_mcx, n_mcx, .inl u.2.2.2.2.2.1)), (q_mpa, .inl (k_mpa, n_mpa, .inl u.2.2.2.2.2.2.1)), (q_mrd, .inl (k_mrd, n_mrd, .inl mreads)), (q_msz, .inl (k_msz, n_msz, .inl u.2.2.2.2.2.2.2.1)), (q_mbe, .inl (k_mbe, n_mbe, .inl u.2.2.2.2.2.2.2.2.1)), (q_mfa, .inl (k_mfa, n_mfa, .inl u.2.2.2.2.2.2.2.2.2.1)), (q_mlo, .inl (k_mlo, n_mlo, .inl u.2.2.2.2.2.2.2.2.2.2))] (va_A [(q_mo, .inr (5, [.int mref, .int mw, .int mh, .int mst, .int mbd, .ref q_msa, .int mtb, .ref q_mbi, .ref q_mcx, .ref q_mpa, .int mps, .ref q_mle, .ref q_mdi, .int mtr, .ref q_mrd, .int misr, .int mplc, .int mlak, .int mpl, .int mpass, .int mraw, .ref q_msz, .ref q_mbe, .ref q_mfa, .ref q_mse, .ref q_mrf, .ref q_mlo, .ref q_mos, .ref q_mwb, .ref q_mol, .ref q_mrv, .ref q_mrl])), (q_msa, .inl (k_msa, n_msa, .inl msam)), (q_mbi, .inl (k_mbi, n_mbi, .inl mbits)), (q_mcx, .inl (k_mcx, n_mcx, .inl mctxs)), (q_mpa, .inl (k_mpa, n_mpa, .inl mpaso)), (q_mrd, .inl (k_mrd, n_mrd, .inl mreads)), (q_msz, .inl (k_msz, n_msz, .inl msizs)), (q_mbe, .inl (k_mbe, n_mbe, .inl mbels)), (q_mfa, .inl (k_mfa, n_mfa, .inl mfnds)), (q_mlo, .inl (k_mlo, n_mlo, .inl mlows))] sz)) 0 0 (va_A [(q_mo, .inr (5, [.int mref, .int mw, .int mh, .int mst, .int mbd, .ref q_msa, .int mtb, .ref q_mbi, .ref q_mcx, .ref q_mpa, .int mps, .ref q_mle, .ref q_mdi, .int mtr, .ref q_mrd, .int misr, .int mplc, .int mlak, .int mpl, .int mpass, .int mraw, .ref q_msz, .ref q_mbe, .ref q_mfa, .ref q_mse, .ref q_mrf, .ref q_mlo, .ref q_mos, .ref q_mwb, .ref q_mol, .ref q_mrv, .ref q_mrl])), (q_msa, .inl (k_msa, n_msa, .inl msam)), (q_mbi, .inl (k_mbi, n_mbi, .inl mbits)), (q_mcx, .inl (k_mcx, n_mcx, .inl mctxs)), (q_mpa, .inl (k_mpa, n_mpa, .inl mpaso)), (q_mrd, .inl (k_mrd, n_mrd, .inl mreads)), (q_msz, .inl (k_msz, n_msz, .inl msizs)), (q_mbe, .inl (k_mbe, n_mbe, .inl mbels)), (q_mfa, .inl (k_mfa, n_mfa, .inl mfnds)), (q_mlo, .inl (k_mlo, n_mlo, .inl mlows))] sz) := by
  unfold f_M_run at hF
  refine kU_of (cc := c_M_run) (maxL := 7) (ret := (some .int)) (by decide) (Nat.le_of_ble_eq_true rfl) ?_
  intro p e s m args below meth c Q A hQ hfx hK hN hA H locs ls hP hD hS hl
  obtain ⟨hx, hb, hr, hml, hown, hts, hlocks⟩ := hfx
  have hown : s.vm.findClass R_M = some m.cls := hown
  have hl : lv_has ls 7 [(0, .ref q_mo), (1, .int a0), (2, .int a1)] := hl
  refine lv_iconst (v := 0) hx hb d_M_run_0 (by decide) ?_
  refine lv_istore_n (lv' := [(3, .int (0 : Int32)), (0, .ref q_mo), (1, .int a0), (2, .int a1)]) hx hb d_M_run_1 rfl hl (by decide) rfl (fun ls hl => ?_)
  obtain ⟨u1, hcu1, hF⟩ := kc_bnd hF
  have hJu1_28 : ∀ (H : Heap) (locs : List Loc) (ls : Array Slot), va_P (dC, dI) vwCl [(q_mo, .inr (5, [.int mref, .int mw, .int mh, .int mst, .int mbd, .ref q_msa, .int mtb, .ref q_mbi, .ref q_mcx, .ref q_mpa, .int mps, .ref q_mle, .ref q_mdi, .int mtr, .ref q_mrd, .int misr, .int mplc, .int mlak, .int mpl, .int mpass, .int mraw, .ref q_msz, .ref q_mbe, .ref q_mfa, .ref q_mse, .ref q_mrf, .ref q_mlo, .ref q_mos, .ref q_mwb, .ref q_mol, .ref q_mrv, .ref q_mrl])), (q_msa, .inl (k_msa, n_msa, .inl msam)), (q_mbi, .inl (k_mbi, n_mbi, .inl mbits)), (q_mcx, .inl (k_mcx, n_mcx, .inl mctxs)), (q_mpa, .inl (k_mpa, n_mpa, .inl mpaso)), (q_mrd, .inl (k_mrd, n_mrd, .inl mreads)), (q_msz, .inl (k_msz, n_msz, .inl msizs)), (q_mbe, .inl (k_mbe, n_mbe, .inl mbels)), (q_mfa, .inl (k_mfa, n_mfa, .inl mfnds)), (q_mlo, .inl (k_mlo, n_mlo, .inl mlows))] H → va_D A [(q_mo, .inr (5, [.int mref, .int mw, .int mh, .int mst, .int mbd, .ref q_msa, .int mtb, .ref q_mbi, .ref q_mcx, .ref q_mpa, .int mps, .ref q_mle, .ref q_mdi, .int mtr, .ref q_mrd, .int misr, .int mplc, .int mlak, .int mpl, .int mpass, .int mraw, .ref q_msz, .ref q_mbe, .ref q_mfa, .ref q_mse, .ref q_mrf, .ref q_mlo, .ref q_mos, .ref q_mwb, .ref q_mol, .ref q_mrv, .ref q_mrl])), (q_msa, .inl (k_msa, n_msa, .inl msam)), (q_mbi, .inl (k_mbi, n_mbi, .inl mbits)), (q_mcx, .inl (k_mcx, n_mcx, .inl mctxs)), (q_mpa, .inl (k_mpa, n_mpa, .inl mpaso)), (q_mrd, .inl (k_mrd, n_mrd, .inl mreads)), (q_msz, .inl (k_msz, n_msz, .inl msizs)), (q_mbe, .inl (k_mbe, n_mbe, .inl mbels)), (q_mfa, .inl (k_mfa, n_mfa, .inl mfnds)), (q_mlo, .inl (k_mlo, n_mlo, .inl mlows))] → va_S A s.heap H locs → lv_has ls 7 [(3, .int u1), (0, .ref q_mo), (1, .int a0), (2, .int a1)] → W p l e rm_M_run s m args below meth c H locs 0 0 Q (F0 m 28 ls []) := by
    intro H locs ls hP hD hS hl
    refine lv_aload_n hx hb d_M_run_28 rfl (lv_at hl 1 rfl) ?_
    refine lv_iload_n hx hb d_M_run_29 rfl (lv_at hl 0 rfl) ?_
    refine lv_iconst (v := 4) hx hb d_M_run_30 (by decide) ?_
    obtain ⟨u3, hcu3, hF⟩ := kc_bnd hF
    have hJu3 : ∀ (H : Heap) (locs : List Loc) (ls : Array Slot), va_P (dC, dI) vwCl [(q_mo, .inr (5, [.int mref, .int mw, .int mh, .int mst, .int mbd, .ref q_msa, .int mtb, .ref q_mbi, .ref q_mcx, .ref q_mpa, .int mps, .ref q_mle, .ref q_mdi, .int mtr, .ref q_mrd, .int misr, .int mplc, .int mlak, .int mpl, .int mpass, .int mraw, .ref q_msz, .ref q_mbe, .ref q_mfa, .ref q_mse, .ref q_mrf, .ref q_mlo, .ref q_mos, .ref q_mwb, .ref q_mol, .ref q_mrv, .ref q_mrl])), (q_msa, .inl (k_msa, n_msa, .inl msam)), (q_mbi, .inl (k_mbi, n_mbi, .inl mbits)), (q_mcx, .inl (k_mcx, n_mcx, .inl mctxs)), (q_mpa, .inl (k_mpa, n_mpa, .inl mpaso)), (q_mrd, .inl (k_mrd, n_mrd, .inl mreads)), (q_msz, .inl (k_msz, n_msz, .inl msizs)), (q_mbe, .inl (k_mbe, n_mbe, .inl mbels)), (q_mfa, .inl (k_mfa, n_mfa, .inl mfnds)), (q_mlo, .inl (k_mlo, n_mlo, .inl mlows))] H → va_D A [(q_mo, .inr (5, [.int mref, .int mw, .int mh, .int mst, .int mbd, .ref q_msa, .int mtb, .ref q_mbi, .ref q_mcx, .ref q_mpa, .int mps, .ref q_mle, .ref q_mdi, .int mtr, .ref q_mrd, .int misr, .int mplc, .int mlak, .int mpl, .int mpass, .int mraw, .ref q_msz, .ref q_mbe, .ref q_mfa, .ref q_mse, .ref q_mrf, .ref q_mlo, .ref q_mos, .ref q_mwb, .ref q_mol, .ref q_mrv, .ref q_mrl])), (q_msa, .inl (k_msa, n_msa, .inl msam)), (q_mbi, .inl (k_mbi, n_mbi, .inl mbits)), (q_mcx, .inl (k_mcx, n_mcx, .inl mctxs)), (q_mpa, .inl (k_mpa, n_mpa, .inl mpaso)), (q_mrd, .inl (k_mrd, n_mrd, .inl mreads)), (q_msz, .inl (k_msz, n_msz, .inl msizs)), (q_mbe, .inl (k_mbe, n_mbe, .inl mbels)), (q_mfa, .inl (k_mfa, n_mfa, .inl mfnds)), (q_mlo, .inl (k_mlo, n_mlo, .inl mlows))] → va_S A s.heap H locs → lv_has ls 7 [(3, .int u1), (0, .ref q_mo), (1, .int a0), (2, .int a1)] → W p l e rm_M_run s m args below meth c H locs 0 0 Q (F0 m 39 ls [.int u3, .ref q_mo]) := by
      intro H locs ls hP hD hS hl
      refine lv_bipush (v := 17) hx hb d_M_run_39 (by decide) ?_
      obtain ⟨u4, hc, hF⟩ := kc_bnd hF
      refine ku_call (wr := [(q_msa, .inl (k_msa, n_msa, .inl msam)), (q_msz, .inl (k_msz, n_msz, .inl msizs)), (q_mbe, .inl (k_mbe, n_mbe, .inl mbels)), (q_mfa, .inl (k_mfa, n_mfa, .inl mfnds)), (q_mlo, .inl (k_mlo, n_mlo, .inl mlows))]) hA (va_runV (As := [.int u3, .int (17 : Int32)]) (rest := []) ⟨hx, hb, hml, hown, hts⟩ (m_M_code l dC dI q_mo q_msa q_mbi q_mcx q_mpa q_mle q_mdi q_mrd q_msz q_mbe q_mfa q_mse q_mrf q_mlo q_mos q_mwb q_mol q_mrv q_mrl k_mbi n_mbi k_mcx n_mcx k_mpa n_mpa k_mrd n_mrd mref mw mh mst mbd mtb mps mtr misr mplc mlak mpl mpass mraw mbits mctxs mpaso mreads u3 (17 : Int32) _ hc H.size) (cwV 2 hts (kgV kw_4_82 kw_4_84 kp_38 kw_1_8 kw_4_85) rfl rfl rfl (by decide +kernel) ⟨Nat.le_of_ble_eq_true rfl, Nat.le_of_ble_eq_true rfl⟩) ⟨kPre_blind, va_recv hK hP (ci := 5) (q0 := 0) rfl rfl, kPre_of (hP.sub [0, 2, 3, 4, 5] rfl) (hK.sub [1, 2, 3, 4] rfl) (hD.sub [0, 2, 3, 4, 5] (by decide) rfl) hN⟩ rfl rfl hl.1 rfl (lv_room (Nat.le_of_ble_eq_true rfl)) d_M_run_41 ⟨Nat.le_of_ble_eq_true rfl, Nat.le_of_ble_eq_true rfl⟩) hP hD hS [0, 2, 3, 4, 5] [1, 6, 7, 8, 9] rfl rfl (by decide) (by decide) (fun H locs hP hD hS => ?_)
      have hP : va_P (dC, dI) vwCl [(q_msa, .inl (k_msa, n_msa, .inl msam)), (q_msz, .inl (k_msz, n_msz, .inl msizs)), (q_mbe, .inl (k_mbe, n_mbe, .inl mbels)), (q_mfa, .inl (k_mfa, n_mfa, .inl mfnds)), (q_mlo, .inl (k_mlo, n_mlo, .inl mlows)), (q_mo, .inr (5, [.int mref, .int mw, .int mh, .int mst, .int mbd, .ref q_msa, .int u4.2.1, .ref q_mbi, .ref q_mcx, .ref q_mpa, .int mps, .ref q_mle, .ref q_mdi, .int mtr, .ref q_mrd, .int misr, .int u4.2.2.1, .int u4.2.2.2.1, .int mpl, .int mpass, .int mraw, .ref q_msz, .ref q_mbe, .ref q_mfa, .ref q_mse, .ref q_mrf, .ref q_mlo, .ref q_mos, .ref q_mwb, .ref q_mol, .ref q_mrv, .ref q_mrl])), (q_mbi, .inl (k_mbi, n_mbi, .inl u4.2.2.2.2.1)), (q_mcx, .inl (k_mcx, n_mcx, .inl u4.2.2.2.2.2.1)), (q_mpa, .inl (k_mpa, n_mpa, .inl u4.2.2.2.2.2.2)), (q_mrd, .inl (k_mrd, n_mrd, .inl mreads))] H := hP
      have hD : va_D A [(q_msa, .inl (k_msa, n_msa, .inl msam)), (q_msz, .inl (k_msz, n_msz, .inl msizs)), (q_mbe, .inl (k_mbe, n_mbe, .inl mbels)), (q_mfa, .inl (k_mfa, n_mfa, .inl mfnds)), (q_mlo, .inl (k_mlo, n_mlo, .inl mlows)), (q_mo, .inr (5, [.int mref, .int mw, .int mh, .int mst, .int mbd, .ref q_msa, .int u4.2.1, .ref q_mbi, .ref q_mcx, .ref q_mpa, .int mps, .ref q_mle, .ref q_mdi, .int mtr, .ref q_mrd, .int misr, .int u4.2.2.1, .int u4.2.2.2.1, .int mpl, .int mpass, .int mraw, .ref q_msz, .ref q_mbe, .ref q_mfa, .ref q_mse, .ref q_mrf, .ref q_mlo, .ref q_mos, .ref q_mwb, .ref q_mol, .ref q_mrv, .ref q_mrl])), (q_mbi, .inl (k_mbi, n_mbi, .inl u4.2.2.2.2.1)), (q_mcx, .inl (k_mcx, n_mcx, .inl u4.2.2.2.2.2.1)), (q_mpa, .inl (k_mpa, n_mpa, .inl u4.2.2.2.2.2.2)), (q_mrd, .inl (k_mrd, n_mrd, .inl mreads))] := hD
      refine lv_if_ne (tgt := 78) hx hb d_M_run_44 (by decide) (fun c5 => ?_) (fun c5 => ?_)
      · have hF := kc_neg c5 hF
        refine lv_aload_n hx hb d_M_run_78 rfl (lv_at hl 1 rfl) ?_
        refine lv_iload_n hx hb d_M_run_79 rfl (lv_at hl 0 rfl) ?_
        refine lv_iconst (v := 1) hx hb d_M_run_80 (by decide) ?_
        refine lv_ishr hx hb d_M_run_81 ?_
        refine lv_iconst (v := 1) hx hb d_M_run_82 (by decide) ?_
        refine lv_iand hx hb d_M_run_83 ?_
        refine lv_bipush (v := 18) hx hb d_M_run_84 (by decide) ?_
        obtain ⟨u6, hc, hF⟩ := kc_bnd hF
        refine ku_call (wr := [(q_msa, .inl (k_msa, n_msa, .inl msam)), (q_msz, .inl (k_msz, n_msz, .inl msizs)), (q_mbe, .inl (k_mbe, n_mbe, .inl mbels)), (q_mfa, .inl (k_mfa, n_mfa, .inl mfnds)), (q_mlo, .inl (k_mlo, n_mlo, .inl mlows))]) hA (va_runV (As := [.int ((u1 >>> ((1 : Int32) &&& 31)) &&& (1 : Int32)), .int (18 : Int32)]) (rest := []) ⟨hx, hb, hml, hown, hts⟩ (m_M_code l dC dI q_mo q_msa q_mbi q_mcx q_mpa q_mle q_mdi q_mrd q_msz q_mbe q_mfa q_mse q_mrf q_mlo q_mos q_mwb q_mol q_mrv q_mrl k_mbi n_mbi k_mcx n_mcx k_mpa n_mpa k_mrd n_mrd mref mw mh mst mbd u4.2.1 mps mtr misr u4.2.2.1 u4.2.2.2.1 mpl mpass mraw u4.2.2.2.2.1 u4.2.2.2.2.2.1 u4.2.2.2.2.2.2 mreads ((u1 >>> ((1 : Int32) &&& 31)) &&& (1 : Int32)) (18 : Int32) _ hc H.size) (cwV 2 hts (kgV kw_4_82 kw_4_84 kp_38 kw_1_8 kw_4_85) rfl rfl rfl (by decide +kernel) ⟨Nat.le_of_ble_eq_true rfl, Nat.le_of_ble_eq_true rfl⟩) ⟨kPre_blind, va_recv hK hP (ci := 5) (q0 := 5) rfl rfl, kPre_of (hP.sub [5, 6, 7, 8, 9] rfl) (hK.sub [1, 2, 3, 4] rfl) (hD.sub [5, 6, 7, 8, 9] (by decide) rfl) hN⟩ rfl rfl hl.1 rfl (lv_room (Nat.le_of_ble_eq_true rfl)) d_M_run_86 ⟨Nat.le_of_ble_eq_true rfl, Nat.le_of_ble_eq_true rfl⟩) hP hD hS [5, 6, 7, 8, 9] [0, 1, 2, 3, 4] rfl rfl (by decide) (by decide) (fun H locs hP hD hS => ?_)
        have hP : va_P (dC, dI) vwCl [(q_msa, .inl (k_msa, n_msa, .inl msam)), (q_msz, .inl (k_msz, n_msz, .inl msizs)), (q_mbe, .inl (k_mbe, n_mbe, .inl mbels)), (q_mfa, .inl (k_mfa, n_mfa, .inl mfnds)), (q_mlo, .inl (k_mlo, n_mlo, .inl mlows)), (q_mo, .inr (5, [.int mref, .int mw, .int mh, .int mst, .int mbd, .ref q_msa, .int u6.2.1, .ref q_mbi, .ref q_mcx, .ref q_mpa, .int mps, .ref q_mle, .ref q_mdi, .int mtr, .ref q_mrd, .int misr, .int u6.2.2.1, .int u6.2.2.2.1, .int mpl, .int mpass, .int mraw, .ref q_msz, .ref q_mbe, .ref q_mfa, .ref q_mse, .ref q_mrf, .ref q_mlo, .ref q_mos, .ref q_mwb, .ref q_mol, .ref q_mrv, .ref q_mrl])), (q_mbi, .inl (k_mbi, n_mbi, .inl u6.2.2.2.2.1)), (q_mcx, .inl (k_mcx, n_mcx, .inl u6.2.2.2.2.2.1)), (q_mpa, .inl (k_mpa, n_mpa, .inl u6.2.2.2.2.2.2)), (q_mrd, .inl (k_mrd, n_mrd, .inl mreads))] H := hP
        have hD : va_D A [(q_msa, .inl (k_msa, n_msa, .inl msam)), (q_msz, .inl (k_msz, n_msz, .inl msizs)), (q_mbe, .inl (k_mbe, n_mbe, .inl mbels)), (q_mfa, .inl (k_mfa, n_mfa, .inl mfnds)), (q_mlo, .inl (k_mlo, n_mlo, .inl mlows)), (q_mo, .inr (5, [.int mref, .int mw, .int mh, .int mst, .int mbd, .ref q_msa, .int u6.2.1, .ref q_mbi, .ref q_mcx, .ref q_mpa, .int mps, .ref q_mle, .ref q_mdi, .int mtr, .ref q_mrd, .int misr, .int u6.2.2.1, .int u6.2.2.2.1, .int mpl, .int mpass, .int mraw, .ref q_msz, .ref q_mbe, .ref q_mfa, .ref q_mse, .ref q_mrf, .ref q_mlo, .ref q_mos, .ref q_mwb, .ref q_mol, .ref q_mrv, .ref q_mrl])), (q_mbi, .inl (k_mbi, n_mbi, .inl u6.2.2.2.2.1)), (q_mcx, .inl (k_mcx, n_mcx, .inl u6.2.2.2.2.2.1)), (q_mpa, .inl (k_mpa, n_mpa, .inl u6.2.2.2.2.2.2)), (q_mrd, .inl (k_mrd, n_mrd, .inl mreads))] := hD
        refine lv_istore (lv' := [(4, .int u6.1), (3, .int u1), (0, .ref q_mo), (1, .int a0), (2, .int a1)]) hx hb d_M_run_89 hl (by decide) rfl (fun ls hl => ?_)
        refine lv_iconst (v := 2) hx hb d_M_run_91 (by decide) ?_
        refine lv_iload hx hb d_M_run_92 (lv_at hl 0 rfl) ?_
        refine lv_imul hx hb d_M_run_94 ?_
        refine lv_aload_n hx hb d_M_run_95 rfl (lv_at hl 2 rfl) ?_
        refine lv_iload_n hx hb d_M_run_96 rfl (lv_at hl 1 rfl) ?_
        refine lv_iconst (v := 1) hx hb d_M_run_97 (by decide) ?_
        refine lv_iand hx hb d_M_run_98 ?_
        refine lv_bipush (v := 18) hx hb d_M_run_99 (by decide) ?_
        obtain ⟨u7, hc, hF⟩ := kc_bnd hF
        refine ku_call (wr := [(q_msa, .inl (k_msa, n_msa, .inl msam)), (q_msz, .inl (k_msz, n_msz, .inl msizs)), (q_mbe, .inl (k_mbe, n_mbe, .inl mbels)), (q_mfa, .inl (k_mfa, n_mfa, .inl mfnds)), (q_mlo, .inl (k_mlo, n_mlo, .inl mlows))]) hA (va_runV (As := [.int (u1 &&& (1 : Int32)), .int (18 : Int32)]) (rest := [.int ((2 : Int32) * u6.1)]) ⟨hx, hb, hml, hown, hts⟩ (m_M_code l dC dI q_mo q_msa q_mbi q_mcx q_mpa q_mle q_mdi q_mrd q_msz q_mbe q_mfa q_mse q_mrf q_mlo q_mos q_mwb q_mol q_mrv q_mrl k_mbi n_mbi k_mcx n_mcx k_mpa n_mpa k_mrd n_mrd mref mw mh mst mbd u6.2.1 mps mtr misr u6.2.2.1 u6.2.2.2.1 mpl mpass mraw u6.2.2.2.2.1 u6.2.2.2.2.2.1 u6.2.2.2.2.2.2 mreads (u1 &&& (1 : Int32)) (18 : Int32) _ hc H.size) (cwV 2 hts (kgV kw_4_82 kw_4_84 kp_38 kw_1_8 kw_4_85) rfl rfl rfl (by decide +kernel) ⟨Nat.le_of_ble_eq_true rfl, Nat.le_of_ble_eq_true rfl⟩) ⟨kPre_blind, va_recv hK hP (ci := 5) (q0 := 5) rfl rfl, kPre_of (hP.sub [5, 6, 7, 8, 9] rfl) (hK.sub [1, 2, 3, 4] rfl) (hD.sub [5, 6, 7, 8, 9] (by decide) rfl) hN⟩ rfl rfl hl.1 rfl (lv_room (Nat.le_of_ble_eq_true rfl)) d_M_run_101 ⟨Nat.le_of_ble_eq_true rfl, Nat.le_of_ble_eq_true rfl⟩) hP hD hS [5, 6, 7, 8, 9] [0, 1, 2, 3, 4] rfl rfl (by decide) (by decide) (fun H locs hP hD hS => ?_)
        have hP : va_P (dC, dI) vwCl [(q_msa, .inl (k_msa, n_msa, .inl msam)), (q_msz, .inl (k_msz, n_msz, .inl msizs)), (q_mbe, .inl (k_mbe, n_mbe, .inl mbels)), (q_mfa, .inl (k_mfa, n_mfa, .inl mfnds)), (q_mlo, .inl (k_mlo, n_mlo, .inl mlows)), (q_mo, .inr (5, [.int mref, .int mw, .int mh, .int mst, .int mbd, .ref q_msa, .int u7.2.1, .ref q_mbi, .ref q_mcx, .ref q_mpa, .int mps, .ref q_mle, .ref q_mdi, .int mtr, .ref q_mrd, .int misr, .int u7.2.2.1, .int u7.2.2.2.1, .int mpl, .int mpass, .int mraw, .ref q_msz, .ref q_mbe, .ref q_mfa, .ref q_mse, .ref q_mrf, .ref q_mlo, .ref q_mos, .ref q_mwb, .ref q_mol, .ref q_mrv, .ref q_mrl])), (q_mbi, .inl (k_mbi, n_mbi, .inl u7.2.2.2.2.1)), (q_mcx, .inl (k_mcx, n_mcx, .inl u7.2.2.2.2.2.1)), (q_mpa, .inl (k_mpa, n_mpa, .inl u7.2.2.2.2.2.2)), (q_mrd, .inl (k_mrd, n_mrd, .inl mreads))] H := hP
        have hD : va_D A [(q_msa, .inl (k_msa, n_msa, .inl msam)), (q_msz, .inl (k_msz, n_msz, .inl msizs)), (q_mbe, .inl (k_mbe, n_mbe, .inl mbels)), (q_mfa, .inl (k_mfa, n_mfa, .inl mfnds)), (q_mlo, .inl (k_mlo, n_mlo, .inl mlows)), (q_mo, .inr (5, [.int mref, .int mw, .int mh, .int mst, .int mbd, .ref q_msa, .int u7.2.1, .ref q_mbi, .ref q_mcx, .ref q_mpa, .int mps, .ref q_mle, .ref q_mdi, .int mtr, .ref q_mrd, .int misr, .int u7.2.2.1, .int u7.2.2.2.1, .int mpl, .int mpass, .int mraw, .ref q_msz, .ref q_mbe, .ref q_mfa, .ref q_mse, .ref q_mrf, .ref q_mlo, .ref q_mos, .ref q_mwb, .ref q_mol, .ref q_mrv, .ref q_mrl])), (q_mbi, .inl (k_mbi, n_mbi, .inl u7.2.2.2.2.1)), (q_mcx, .inl (k_mcx, n_mcx, .inl u7.2.2.2.2.2.1)), (q_mpa, .inl (k_mpa, n_mpa, .inl u7.2.2.2.2.2.2)), (q_mrd, .inl (k_mrd, n_mrd, .inl mreads))] := hD
        refine lv_iadd hx hb d_M_run_104 ?_
        refine lv_istore (lv' := [(5, .int (((2 : Int32) * u6.1) + u7.1)), (4, .int u6.1), (3, .int u1), (0, .ref q_mo), (1, .int a0), (2, .int a1)]) hx hb d_M_run_105 hl (by decide) rfl (fun ls hl => ?_)
        refine lv_iconst (v := 0) hx hb d_M_run_107 (by decide) ?_
        refine lv_istore (lv' := [(6, .int (0 : Int32)), (5, .int (((2 : Int32) * u6.1) + u7.1)), (4, .int u6.1), (3, .int u1), (0, .ref q_mo), (1, .int a0), (2, .int a1)]) hx hb d_M_run_108 hl (by decide) rfl (fun ls hl => ?_)
        obtain ⟨u8, hcu8, hF⟩ := kc_bnd hF
        have hJu8_148 : ∀ (H : Heap) (locs : List Loc) (ls : Array Slot), va_P (dC, dI) vwCl [(q_msa, .inl (k_msa, n_msa, .inl msam)), (q_msz, .inl (k_msz, n_msz, .inl u8.2.1)), (q_mbe, .inl (k_mbe, n_mbe, .inl mbels)), (q_mfa, .inl (k_mfa, n_mfa, .inl mfnds)), (q_mlo, .inl (k_mlo, n_mlo, .inl u8.2.2)), (q_mo, .inr (5, [.int mref, .int mw, .int mh, .int mst, .int mbd, .ref q_msa, .int u7.2.1, .ref q_mbi, .ref q_mcx, .ref q_mpa, .int mps, .ref q_mle, .ref q_mdi, .int mtr, .ref q_mrd, .int misr, .int u7.2.2.1, .int u7.2.2.2.1, .int mpl, .int mpass, .int mraw, .ref q_msz, .ref q_mbe, .ref q_mfa, .ref q_mse, .ref q_mrf, .ref q_mlo, .ref q_mos, .ref q_mwb, .ref q_mol, .ref q_mrv, .ref q_mrl])), (q_mbi, .inl (k_mbi, n_mbi, .inl u7.2.2.2.2.1)), (q_mcx, .inl (k_mcx, n_mcx, .inl u7.2.2.2.2.2.1)), (q_mpa, .inl (k_mpa, n_mpa, .inl u7.2.2.2.2.2.2)), (q_mrd, .inl (k_mrd, n_mrd, .inl mreads))] H → va_D A [(q_msa, .inl (k_msa, n_msa, .inl msam)), (q_msz, .inl (k_msz, n_msz, .inl u8.2.1)), (q_mbe, .inl (k_mbe, n_mbe, .inl mbels)), (q_mfa, .inl (k_mfa, n_mfa, .inl mfnds)), (q_mlo, .inl (k_mlo, n_mlo, .inl u8.2.2)), (q_mo, .inr (5, [.int mref, .int mw, .int mh, .int mst, .int mbd, .ref q_msa, .int u7.2.1, .ref q_mbi, .ref q_mcx, .ref q_mpa, .int mps, .ref q_mle, .ref q_mdi, .int mtr, .ref q_mrd, .int misr, .int u7.2.2.1, .int u7.2.2.2.1, .int mpl, .int mpass, .int mraw, .ref q_msz, .ref q_mbe, .ref q_mfa, .ref q_mse, .ref q_mrf, .ref q_mlo, .ref q_mos, .ref q_mwb, .ref q_mol, .ref q_mrv, .ref q_mrl])), (q_mbi, .inl (k_mbi, n_mbi, .inl u7.2.2.2.2.1)), (q_mcx, .inl (k_mcx, n_mcx, .inl u7.2.2.2.2.2.1)), (q_mpa, .inl (k_mpa, n_mpa, .inl u7.2.2.2.2.2.2)), (q_mrd, .inl (k_mrd, n_mrd, .inl mreads))] → va_S A s.heap H locs → lv_has ls 7 [(6, .int u8.1), (5, .int (((2 : Int32) * u6.1) + u7.1)), (4, .int u6.1), (3, .int u1), (0, .ref q_mo), (1, .int a0), (2, .int a1)] → W p l e rm_M_run s m args below meth c H locs 0 0 Q (F0 m 148 ls []) := by
          intro H locs ls hP hD hS hl
          refine lv_aload_n hx hb d_M_run_148 rfl (lv_at hl 4 rfl) ?_
          refine lv_iload_n hx hb d_M_run_149 rfl (lv_at hl 5 rfl) ?_
          refine lv_iload_n hx hb d_M_run_150 rfl (lv_at hl 6 rfl) ?_
          refine lv_iload hx hb d_M_run_151 (lv_at hl 1 rfl) ?_
          refine lv_iadd hx hb d_M_run_153 ?_
          obtain ⟨u9, hc, hF⟩ := kc_bnd hF
          refine ku_call (wr := [(q_msz, .inl (k_msz, n_msz, .inl u8.2.1)), (q_mlo, .inl (k_mlo, n_mlo, .inl u8.2.2))]) hA (va_runV (As := [.int a0, .int (a1 + (((2 : Int32) * u6.1) + u7.1))]) (rest := []) ⟨hx, hb, hml, hown, hts⟩ (m_M_find l dC dI q_mo q_msa q_mbi q_mcx q_mpa q_mle q_mdi q_mrd q_msz q_mbe q_mfa q_mse q_mrf q_mlo q_mos q_mwb q_mol q_mrv q_mrl k_msa n_msa k_mbi n_mbi k_mcx n_mcx k_mpa n_mpa k_mrd n_mrd k_mbe n_mbe k_mfa n_mfa mref mw mh mst mbd u7.2.1 mps mtr misr u7.2.2.1 u7.2.2.2.1 mpl mpass mraw msam u7.2.2.2.2.1 u7.2.2.2.2.2.1 u7.2.2.2.2.2.2 mreads mbels mfnds a0 (a1 + (((2 : Int32) * u6.1) + u7.1)) _ hc H.size) (cwV 2 hts (kgV kw_4_90 kw_4_92 kp_40 kw_1_8 kw_4_93) rfl rfl rfl (by decide +kernel) ⟨Nat.le_of_ble_eq_true rfl, Nat.le_of_ble_eq_true rfl⟩) ⟨kPre_blind, va_recv hK hP (ci := 5) (q0 := 5) rfl rfl, kPre_of (hP.sub [5, 0, 6, 7, 8, 9, 2, 3] rfl) (hK.sub [0, 1, 2, 3, 4, 6, 7] rfl) (hD.sub [5, 0, 6, 7, 8, 9, 2, 3] (by decide) rfl) hN⟩ rfl rfl hl.1 rfl (lv_room (Nat.le_of_ble_eq_true rfl)) d_M_run_154 ⟨Nat.le_of_ble_eq_true rfl, Nat.le_of_ble_eq_true rfl⟩) hP hD hS [5, 0, 6, 7, 8, 9, 2, 3] [1, 4] rfl rfl (by decide) (by decide) (fun H locs hP hD hS => ?_)
          have hP : va_P (dC, dI) vwCl [(q_msz, .inl (k_msz, n_msz, .inl u8.2.1)), (q_mlo, .inl (k_mlo, n_mlo, .inl u8.2.2)), (q_mo, .inr (5, [.int mref, .int mw, .int mh, .int mst, .int mbd, .ref q_msa, .int u9.1, .ref q_mbi, .ref q_mcx, .ref q_mpa, .int mps, .ref q_mle, .ref q_mdi, .int mtr, .ref q_mrd, .int misr, .int u9.2.1, .int u9.2.2.1, .int mpl, .int mpass, .int mraw, .ref q_msz, .ref q_mbe, .ref q_mfa, .ref q_mse, .ref q_mrf, .ref q_mlo, .ref q_mos, .ref q_mwb, .ref q_mol, .ref q_mrv, .ref q_mrl])), (q_msa, .inl (k_msa, n_msa, .inl msam)), (q_mbi, .inl (k_mbi, n_mbi, .inl u9.2.2.2.1)), (q_mcx, .inl (k_mcx, n_mcx, .inl u9.2.2.2.2.1)), (q_mpa, .inl (k_mpa, n_mpa, .inl u9.2.2.2.2.2.1)), (q_mrd, .inl (k_mrd, n_mrd, .inl mreads)), (q_mbe, .inl (k_mbe, n_mbe, .inl u9.2.2.2.2.2.2.1)), (q_mfa, .inl (k_mfa, n_mfa, .inl u9.2.2.2.2.2.2.2))] H := hP
          have hD : va_D A [(q_msz, .inl (k_msz, n_msz, .inl u8.2.1)), (q_mlo, .inl (k_mlo, n_mlo, .inl u8.2.2)), (q_mo, .inr (5, [.int mref, .int mw, .int mh, .int mst, .int mbd, .ref q_msa, .int u9.1, .ref q_mbi, .ref q_mcx, .ref q_mpa, .int mps, .ref q_mle, .ref q_mdi, .int mtr, .ref q_mrd, .int misr, .int u9.2.1, .int u9.2.2.1, .int mpl, .int mpass, .int mraw, .ref q_msz, .ref q_mbe, .ref q_mfa, .ref q_mse, .ref q_mrf, .ref q_mlo, .ref q_mos, .ref q_mwb, .ref q_mol, .ref q_mrv, .ref q_mrl])), (q_msa, .inl (k_msa, n_msa, .inl msam)), (q_mbi, .inl (k_mbi, n_mbi, .inl u9.2.2.2.1)), (q_mcx, .inl (k_mcx, n_mcx, .inl u9.2.2.2.2.1)), (q_mpa, .inl (k_mpa, n_mpa, .inl u9.2.2.2.2.2.1)), (q_mrd, .inl (k_mrd, n_mrd, .inl mreads)), (q_mbe, .inl (k_mbe, n_mbe, .inl u9.2.2.2.2.2.2.1)), (q_mfa, .inl (k_mfa, n_mfa, .inl u9.2.2.2.2.2.2.2))] := hD
          refine lv_iload hx hb d_M_run_157 (lv_at hl 1 rfl) ?_
          refine lv_iconst (v := 1) hx hb d_M_run_159 (by decide) ?_
          refine lv_iadd hx hb d_M_run_160 ?_
          obtain rfl := Option.some.inj hF
          exact ku_iret hx hb hr hlocks hQ (hP.sub [2, 3, 4, 5, 6, 7, 0, 8, 9, 1] rfl) (hD.sub [2, 3, 4, 5, 6, 7, 0, 8, 9, 1] (by decide) rfl) hS d_M_run_161
        have hIu8 : ∀ (N : Nat) (v110_6 : Int32) (msizs_110 : (Nat → Int32)) (mlows_110 : (Nat → Int32)), f_M_run_L110 mpl n_msz n_mlo a0 a1 u6 u7 N v110_6 msizs_110 mlows_110 = some u8 → ∀ (H : Heap) (locs : List Loc) (ls : Array Slot), va_P (dC, dI) vwCl [(q_msa, .inl (k_msa, n_msa, .inl msam)), (q_msz, .inl (k_msz, n_msz, .inl msizs_110)), (q_mbe, .inl (k_mbe, n_mbe, .inl mbels)), (q_mfa, .inl (k_mfa, n_mfa, .inl mfnds)), (q_mlo, .inl (k_mlo, n_mlo, .inl mlows_110)), (q_mo, .inr (5, [.int mref, .int mw, .int mh, .int mst, .int mbd, .ref q_msa, .int u7.2.1, .ref q_mbi, .ref q_mcx, .ref q_mpa, .int mps, .ref q_mle, .ref q_mdi, .int mtr, .ref q_mrd, .int misr, .int u7.2.2.1, .int u7.2.2.2.1, .int mpl, .int mpass, .int mraw, .ref q_msz, .ref q_mbe, .ref q_mfa, .ref q_mse, .ref q_mrf, .ref q_mlo, .ref q_mos, .ref q_mwb, .ref q_mol, .ref q_mrv, .ref q_mrl])), (q_mbi, .inl (k_mbi, n_mbi, .inl u7.2.2.2.2.1)), (q_mcx, .inl (k_mcx, n_mcx, .inl u7.2.2.2.2.2.1)), (q_mpa, .inl (k_mpa, n_mpa, .inl u7.2.2.2.2.2.2)), (q_mrd, .inl (k_mrd, n_mrd, .inl mreads))] H → va_D A [(q_msa, .inl (k_msa, n_msa, .inl msam)), (q_msz, .inl (k_msz, n_msz, .inl msizs_110)), (q_mbe, .inl (k_mbe, n_mbe, .inl mbels)), (q_mfa, .inl (k_mfa, n_mfa, .inl mfnds)), (q_mlo, .inl (k_mlo, n_mlo, .inl mlows_110)), (q_mo, .inr (5, [.int mref, .int mw, .int mh, .int mst, .int mbd, .ref q_msa, .int u7.2.1, .ref q_mbi, .ref q_mcx, .ref q_mpa, .int mps, .ref q_mle, .ref q_mdi, .int mtr, .ref q_mrd, .int misr, .int u7.2.2.1, .int u7.2.2.2.1, .int mpl, .int mpass, .int mraw, .ref q_msz, .ref q_mbe, .ref q_mfa, .ref q_mse, .ref q_mrf, .ref q_mlo, .ref q_mos, .ref q_mwb, .ref q_mol, .ref q_mrv, .ref q_mrl])), (q_mbi, .inl (k_mbi, n_mbi, .inl u7.2.2.2.2.1)), (q_mcx, .inl (k_mcx, n_mcx, .inl u7.2.2.2.2.2.1)), (q_mpa, .inl (k_mpa, n_mpa, .inl u7.2.2.2.2.2.2)), (q_mrd, .inl (k_mrd, n_mrd, .inl mreads))] → va_S A s.heap H locs → lv_has ls 7 [(6, .int v110_6), (5, .int (((2 : Int32) * u6.1) + u7.1)), (4, .int u6.1), (3, .int u1), (0, .ref q_mo), (1, .int a0), (2, .int a1)] → W p l e rm_M_run s m args below meth c H locs 0 0 Q (F0 m 110 ls []) := by
          intro N
          induction N with
          | zero => intro v110_6 msizs_110 mlows_110 hF; rw [f_M_run_L110] at hF; cases hF
          | succ N ih =>
            intro v110_6 msizs_110 mlows_110 hF
            intro H locs ls hP hD hS hl
            rw [f_M_run_L110] at hF
            refine lv_iload hx hb d_M_run_110 (lv_at hl 0 rfl) ?_
            refine lv_iload hx hb d_M_run_112 (lv_at hl 1 rfl) ?_
            refine lv_icmp_gt (tgt := 148) hx hb d_M_run_114 (by decide) (fun c10 => ?_) (fun c10 => ?_)
            · have hF := kc_pos c10 hF
              obtain rfl := Option.some.inj hF
              exact hJu8_148 _ _ _ hP hD hS (lv_sub hl [0, 1, 2, 3, 4, 5, 6] rfl)
            have hF := kc_neg c10 hF
            refine lv_aload_n hx hb d_M_run_117 rfl (lv_at hl 4 rfl) ?_
            refine lv_bipush (v := 16) hx hb d_M_run_118 (by decide) ?_
            refine lv_iload_n hx hb d_M_run_120 rfl (lv_at hl 6 rfl) ?_
            refine lv_iload hx hb d_M_run_121 (lv_at hl 0 rfl) ?_
            refine lv_iadd hx hb d_M_run_123 ?_
            refine lv_imul hx hb d_M_run_124 ?_
            refine lv_iload_n hx hb d_M_run_125 rfl (lv_at hl 5 rfl) ?_
            refine lv_iadd hx hb d_M_run_126 ?_
            refine lv_iload hx hb d_M_run_127 (lv_at hl 0 rfl) ?_
            refine lv_iload hx hb d_M_run_129 (lv_at hl 1 rfl) ?_
            obtain ⟨u12, hcu12, hF⟩ := kc_bnd hF
            have hJu12 : ∀ (H : Heap) (locs : List Loc) (ls : Array Slot), va_P (dC, dI) vwCl [(q_msa, .inl (k_msa, n_msa, .inl msam)), (q_msz, .inl (k_msz, n_msz, .inl msizs_110)), (q_mbe, .inl (k_mbe, n_mbe, .inl mbels)), (q_mfa, .inl (k_mfa, n_mfa, .inl mfnds)), (q_mlo, .inl (k_mlo, n_mlo, .inl mlows_110)), (q_mo, .inr (5, [.int mref, .int mw, .int mh, .int mst, .int mbd, .ref q_msa, .int u7.2.1, .ref q_mbi, .ref q_mcx, .ref q_mpa, .int mps, .ref q_mle, .ref q_mdi, .int mtr, .ref q_mrd, .int misr, .int u7.2.2.1, .int u7.2.2.2.1, .int mpl, .int mpass, .int mraw, .ref q_msz, .ref q_mbe, .ref q_mfa, .ref q_mse, .ref q_mrf, .ref q_mlo, .ref q_mos, .ref q_mwb, .ref q_mol, .ref q_mrv, .ref q_mrl])), (q_mbi, .inl (k_mbi, n_mbi, .inl u7.2.2.2.2.1)), (q_mcx, .inl (k_mcx, n_mcx, .inl u7.2.2.2.2.2.1)), (q_mpa, .inl (k_mpa, n_mpa, .inl u7.2.2.2.2.2.2)), (q_mrd, .inl (k_mrd, n_mrd, .inl mreads))] H → va_D A [(q_msa, .inl (k_msa, n_msa, .inl msam)), (q_msz, .inl (k_msz, n_msz, .inl msizs_110)), (q_mbe, .inl (k_mbe, n_mbe, .inl mbels)), (q_mfa, .inl (k_mfa, n_mfa, .inl mfnds)), (q_mlo, .inl (k_mlo, n_mlo, .inl mlows_110)), (q_mo, .inr (5, [.int mref, .int mw, .int mh, .int mst, .int mbd, .ref q_msa, .int u7.2.1, .ref q_mbi, .ref q_mcx, .ref q_mpa, .int mps, .ref q_mle, .ref q_mdi, .int mtr, .ref q_mrd, .int misr, .int u7.2.2.1, .int u7.2.2.2.1, .int mpl, .int mpass, .int mraw, .ref q_msz, .ref q_mbe, .ref q_mfa, .ref q_mse, .ref q_mrf, .ref q_mlo, .ref q_mos, .ref q_mwb, .ref q_mol, .ref q_mrv, .ref q_mrl])), (q_mbi, .inl (k_mbi, n_mbi, .inl u7.2.2.2.2.1)), (q_mcx, .inl (k_mcx, n_mcx, .inl u7.2.2.2.2.2.1)), (q_mpa, .inl (k_mpa, n_mpa, .inl u7.2.2.2.2.2.2)), (q_mrd, .inl (k_mrd, n_mrd, .inl mreads))] → va_S A s.heap H locs → lv_has ls 7 [(6, .int v110_6), (5, .int (((2 : Int32) * u6.1) + u7.1)), (4, .int u6.1), (3, .int u1), (0, .ref q_mo), (1, .int a0), (2, .int a1)] → W p l e rm_M_run s m args below meth c H locs 0 0 Q (F0 m 139 ls [.int u12, .int (((16 : Int32) * (a1 + v110_6)) + a0), .ref q_mo]) := by
              intro H locs ls hP hD hS hl
              obtain ⟨u13, hc, hF⟩ := kc_bnd hF
              refine ku_call (wr := [(q_msa, .inl (k_msa, n_msa, .inl msam)), (q_mbe, .inl (k_mbe, n_mbe, .inl mbels)), (q_mfa, .inl (k_mfa, n_mfa, .inl mfnds)), (q_mbi, .inl (k_mbi, n_mbi, .inl u7.2.2.2.2.1)), (q_mcx, .inl (k_mcx, n_mcx, .inl u7.2.2.2.2.2.1)), (q_mpa, .inl (k_mpa, n_mpa, .inl u7.2.2.2.2.2.2)), (q_mrd, .inl (k_mrd, n_mrd, .inl mreads))]) hA (va_runV (As := [.int (((16 : Int32) * (a1 + v110_6)) + a0), .int u12]) (rest := []) ⟨hx, hb, hml, hown, hts⟩ (m_M_know l dC dI q_mo q_msa q_mbi q_mcx q_mpa q_mle q_mdi q_mrd q_msz q_mbe q_mfa q_mse q_mrf q_mlo q_mos q_mwb q_mol q_mrv q_mrl k_msz n_msz k_mlo n_mlo mref mw mh mst mbd u7.2.1 mps mtr misr u7.2.2.1 u7.2.2.2.1 mpl mpass mraw msizs_110 mlows_110 (((16 : Int32) * (a1 + v110_6)) + a0) u12 _ hc H.size) (cwV 2 hts (kgV kw_4_86 kw_4_88 kp_39 kw_1_8 kw_4_89) rfl rfl rfl (by decide +kernel) ⟨Nat.le_of_ble_eq_true rfl, Nat.le_of_ble_eq_true rfl⟩) ⟨kPre_blind, va_recv hK hP (ci := 5) (q0 := 5) rfl rfl, kPre_of (hP.sub [5, 1, 4] rfl) (hK.sub [5, 8] rfl) (hD.sub [5, 1, 4] (by decide) rfl) hN⟩ rfl rfl hl.1 rfl (lv_room (Nat.le_of_ble_eq_true rfl)) d_M_run_139 ⟨Nat.le_of_ble_eq_true rfl, Nat.le_of_ble_eq_true rfl⟩) hP hD hS [5, 1, 4] [0, 2, 3, 6, 7, 8, 9] rfl rfl (by decide) (by decide) (fun H locs hP hD hS => ?_)
              have hP : va_P (dC, dI) vwCl [(q_msa, .inl (k_msa, n_msa, .inl msam)), (q_mbe, .inl (k_mbe, n_mbe, .inl mbels)), (q_mfa, .inl (k_mfa, n_mfa, .inl mfnds)), (q_mbi, .inl (k_mbi, n_mbi, .inl u7.2.2.2.2.1)), (q_mcx, .inl (k_mcx, n_mcx, .inl u7.2.2.2.2.2.1)), (q_mpa, .inl (k_mpa, n_mpa, .inl u7.2.2.2.2.2.2)), (q_mrd, .inl (k_mrd, n_mrd, .inl mreads)), (q_mo, .inr (5, [.int mref, .int mw, .int mh, .int mst, .int mbd, .ref q_msa, .int u7.2.1, .ref q_mbi, .ref q_mcx, .ref q_mpa, .int mps, .ref q_mle, .ref q_mdi, .int mtr, .ref q_mrd, .int misr, .int u7.2.2.1, .int u7.2.2.2.1, .int mpl, .int mpass, .int mraw, .ref q_msz, .ref q_mbe, .ref q_mfa, .ref q_mse, .ref q_mrf, .ref q_mlo, .ref q_mos, .ref q_mwb, .ref q_mol, .ref q_mrv, .ref q_mrl])), (q_msz, .inl (k_msz, n_msz, .inl u13.1)), (q_mlo, .inl (k_mlo, n_mlo, .inl u13.2))] H := hP
              have hD : va_D A [(q_msa, .inl (k_msa, n_msa, .inl msam)), (q_mbe, .inl (k_mbe, n_mbe, .inl mbels)), (q_mfa, .inl (k_mfa, n_mfa, .inl mfnds)), (q_mbi, .inl (k_mbi, n_mbi, .inl u7.2.2.2.2.1)), (q_mcx, .inl (k_mcx, n_mcx, .inl u7.2.2.2.2.2.1)), (q_mpa, .inl (k_mpa, n_mpa, .inl u7.2.2.2.2.2.2)), (q_mrd, .inl (k_mrd, n_mrd, .inl mreads)), (q_mo, .inr (5, [.int mref, .int mw, .int mh, .int mst, .int mbd, .ref q_msa, .int u7.2.1, .ref q_mbi, .ref q_mcx, .ref q_mpa, .int mps, .ref q_mle, .ref q_mdi, .int mtr, .ref q_mrd, .int misr, .int u7.2.2.1, .int u7.2.2.2.1, .int mpl, .int mpass, .int mraw, .ref q_msz, .ref q_mbe, .ref q_mfa, .ref q_mse, .ref q_mrf, .ref q_mlo, .ref q_mos, .ref q_mwb, .ref q_mol, .ref q_mrv, .ref q_mrl])), (q_msz, .inl (k_msz, n_msz, .inl u13.1)), (q_mlo, .inl (k_mlo, n_mlo, .inl u13.2))] := hD
              refine lv_iinc (v := (v110_6 + 1)) (lv' := [(6, .int (v110_6 + 1)), (5, .int (((2 : Int32) * u6.1) + u7.1)), (4, .int u6.1), (3, .int u1), (0, .ref q_mo), (1, .int a0), (2, .int a1)]) hx hb d_M_run_142 hl (k := 0) rfl rfl (by decide) rfl (fun ls hl => ?_)
              refine lv_goto (tgt := 110) hx hb d_M_run_145 (by decide) ?_
              exact ih _ _ _ hF _ _ _ (hP.sub [0, 8, 1, 2, 9, 7, 3, 4, 5, 6] rfl) (hD.sub [0, 8, 1, 2, 9, 7, 3, 4, 5, 6] (by decide) rfl) hS (lv_sub hl [0, 1, 2, 3, 4, 5, 6] rfl)
            clear hF; have hF := hcu12; clear hcu12
            refine lv_icmp_ne (tgt := 138) hx hb d_M_run_131 (by decide) (fun c11 => ?_) (fun c11 => ?_)
            · have hF := kc_neg c11 hF
              refine lv_iconst (v := 0) hx hb d_M_run_138 (by decide) ?_
              obtain rfl := Option.some.inj hF
              exact hJu12 _ _ _ hP hD hS (lv_sub hl [0, 1, 2, 3, 4, 5, 6] rfl)
            have hF := kc_pos c11 hF
            refine lv_iconst (v := 1) hx hb d_M_run_134 (by decide) ?_
            refine lv_goto (tgt := 139) hx hb d_M_run_135 (by decide) ?_
            obtain rfl := Option.some.inj hF
            exact hJu12 _ _ _ hP hD hS (lv_sub hl [0, 1, 2, 3, 4, 5, 6] rfl)
        exact hIu8 _ _ _ _ hcu8 _ _ _ hP hD hS (lv_sub hl [0, 1, 2, 3, 4, 5, 6] rfl)
      have hF := kc_pos c5 hF
      refine lv_iconst (v := 0) hx hb d_M_run_47 (by decide) ?_
      refine lv_istore (lv' := [(4, .int (0 : Int32)), (3, .int u1), (0, .ref q_mo), (1, .int a0), (2, .int a1)]) hx hb d_M_run_48 hl (by decide) rfl (fun ls hl => ?_)
      obtain ⟨u14, hcu14, hF⟩ := kc_bnd hF
      have hJu14_76 : ∀ (H : Heap) (locs : List Loc) (ls : Array Slot), va_P (dC, dI) vwCl [(q_msa, .inl (k_msa, n_msa, .inl msam)), (q_msz, .inl (k_msz, n_msz, .inl u14.2.1)), (q_mbe, .inl (k_mbe, n_mbe, .inl mbels)), (q_mfa, .inl (k_mfa, n_mfa, .inl mfnds)), (q_mlo, .inl (k_mlo, n_mlo, .inl u14.2.2)), (q_mo, .inr (5, [.int mref, .int mw, .int mh, .int mst, .int mbd, .ref q_msa, .int u4.2.1, .ref q_mbi, .ref q_mcx, .ref q_mpa, .int mps, .ref q_mle, .ref q_mdi, .int mtr, .ref q_mrd, .int misr, .int u4.2.2.1, .int u4.2.2.2.1, .int mpl, .int mpass, .int mraw, .ref q_msz, .ref q_mbe, .ref q_mfa, .ref q_mse, .ref q_mrf, .ref q_mlo, .ref q_mos, .ref q_mwb, .ref q_mol, .ref q_mrv, .ref q_mrl])), (q_mbi, .inl (k_mbi, n_mbi, .inl u4.2.2.2.2.1)), (q_mcx, .inl (k_mcx, n_mcx, .inl u4.2.2.2.2.2.1)), (q_mpa, .inl (k_mpa, n_mpa, .inl u4.2.2.2.2.2.2)), (q_mrd, .inl (k_mrd, n_mrd, .inl mreads))] H → va_D A [(q_msa, .inl (k_msa, n_msa, .inl msam)), (q_msz, .inl (k_msz, n_msz, .inl u14.2.1)), (q_mbe, .inl (k_mbe, n_mbe, .inl mbels)), (q_mfa, .inl (k_mfa, n_mfa, .inl mfnds)), (q_mlo, .inl (k_mlo, n_mlo, .inl u14.2.2)), (q_mo, .inr (5, [.int mref, .int mw, .int mh, .int mst, .int mbd, .ref q_msa, .int u4.2.1, .ref q_mbi, .ref q_mcx, .ref q_mpa, .int mps, .ref q_mle, .ref q_mdi, .int mtr, .ref q_mrd, .int misr, .int u4.2.2.1, .int u4.2.2.2.1, .int mpl, .int mpass, .int mraw, .ref q_msz, .ref q_mbe, .ref q_mfa, .ref q_mse, .ref q_mrf, .ref q_mlo, .ref q_mos, .ref q_mwb, .ref q_mol, .ref q_mrv, .ref q_mrl])), (q_mbi, .inl (k_mbi, n_mbi, .inl u4.2.2.2.2.1)), (q_mcx, .inl (k_mcx, n_mcx, .inl u4.2.2.2.2.2.1)), (q_mpa, .inl (k_mpa, n_mpa, .inl u4.2.2.2.2.2.2)), (q_mrd, .inl (k_mrd, n_mrd, .inl mreads))] → va_S A s.heap H locs → lv_has ls 7 [(4, .int u14.1), (3, .int u1), (0, .ref q_mo), (1, .int a0), (2, .int a1)] → W p l e rm_M_run s m args below meth c H locs 0 0 Q (F0 m 76 ls []) := by
        intro H locs ls hP hD hS hl
        refine lv_iconst (v := 4) hx hb d_M_run_76 (by decide) ?_
        obtain rfl := Option.some.inj hF
        exact ku_iret hx hb hr hlocks hQ (hP.sub [5, 0, 6, 7, 8, 9, 1, 2, 3, 4] rfl) (hD.sub [5, 0, 6, 7, 8, 9, 1, 2, 3, 4] (by decide) rfl) hS d_M_run_77
      have hIu14 : ∀ (N : Nat) (v50_4 : Int32) (msizs_50 : (Nat → Int32)) (mlows_50 : (Nat → Int32)), f_M_run_L50 mpl n_msz n_mlo a0 a1 N v50_4 msizs_50 mlows_50 = some u14 → ∀ (H : Heap) (locs : List Loc) (ls : Array Slot), va_P (dC, dI) vwCl [(q_msa, .inl (k_msa, n_msa, .inl msam)), (q_msz, .inl (k_msz, n_msz, .inl msizs_50)), (q_mbe, .inl (k_mbe, n_mbe, .inl mbels)), (q_mfa, .inl (k_mfa, n_mfa, .inl mfnds)), (q_mlo, .inl (k_mlo, n_mlo, .inl mlows_50)), (q_mo, .inr (5, [.int mref, .int mw, .int mh, .int mst, .int mbd, .ref q_msa, .int u4.2.1, .ref q_mbi, .ref q_mcx, .ref q_mpa, .int mps, .ref q_mle, .ref q_mdi, .int mtr, .ref q_mrd, .int misr, .int u4.2.2.1, .int u4.2.2.2.1, .int mpl, .int mpass, .int mraw, .ref q_msz, .ref q_mbe, .ref q_mfa, .ref q_mse, .ref q_mrf, .ref q_mlo, .ref q_mos, .ref q_mwb, .ref q_mol, .ref q_mrv, .ref q_mrl])), (q_mbi, .inl (k_mbi, n_mbi, .inl u4.2.2.2.2.1)), (q_mcx, .inl (k_mcx, n_mcx, .inl u4.2.2.2.2.2.1)), (q_mpa, .inl (k_mpa, n_mpa, .inl u4.2.2.2.2.2.2)), (q_mrd, .inl (k_mrd, n_mrd, .inl mreads))] H → va_D A [(q_msa, .inl (k_msa, n_msa, .inl msam)), (q_msz, .inl (k_msz, n_msz, .inl msizs_50)), (q_mbe, .inl (k_mbe, n_mbe, .inl mbels)), (q_mfa, .inl (k_mfa, n_mfa, .inl mfnds)), (q_mlo, .inl (k_mlo, n_mlo, .inl mlows_50)), (q_mo, .inr (5, [.int mref, .int mw, .int mh, .int mst, .int mbd, .ref q_msa, .int u4.2.1, .ref q_mbi, .ref q_mcx, .ref q_mpa, .int mps, .ref q_mle, .ref q_mdi, .int mtr, .ref q_mrd, .int misr, .int u4.2.2.1, .int u4.2.2.2.1, .int mpl, .int mpass, .int mraw, .ref q_msz, .ref q_mbe, .ref q_mfa, .ref q_mse, .ref q_mrf, .ref q_mlo, .ref q_mos, .ref q_mwb, .ref q_mol, .ref q_mrv, .ref q_mrl])), (q_mbi, .inl (k_mbi, n_mbi, .inl u4.2.2.2.2.1)), (q_mcx, .inl (k_mcx, n_mcx, .inl u4.2.2.2.2.2.1)), (q_mpa, .inl (k_mpa, n_mpa, .inl u4.2.2.2.2.2.2)), (q_mrd, .inl (k_mrd, n_mrd, .inl mreads))] → va_S A s.heap H locs → lv_has ls 7 [(4, .int v50_4), (3, .int u1), (0, .ref q_mo), (1, .int a0), (2, .int a1)] → W p l e rm_M_run s m args below meth c H locs 0 0 Q (F0 m 50 ls []) := by
        intro N
        induction N with
        | zero => intro v50_4 msizs_50 mlows_50 hF; rw [f_M_run_L50] at hF; cases hF
        | succ N ih =>
          intro v50_4 msizs_50 mlows_50 hF
          intro H locs ls hP hD hS hl
          rw [f_M_run_L50] at hF
          refine lv_iload hx hb d_M_run_50 (lv_at hl 0 rfl) ?_
          refine lv_iconst (v := 4) hx hb d_M_run_52 (by decide) ?_
          refine lv_icmp_ge (tgt := 76) hx hb d_M_run_53 (by decide) (fun c15 => ?_) (fun c15 => ?_)
          · have hF := kc_pos c15 hF
            obtain rfl := Option.some.inj hF
            exact hJu14_76 _ _ _ hP hD hS (lv_sub hl [0, 1, 2, 3, 4] rfl)
          have hF := kc_neg c15 hF
          refine lv_aload_n hx hb d_M_run_56 rfl (lv_at hl 2 rfl) ?_
          refine lv_bipush (v := 16) hx hb d_M_run_57 (by decide) ?_
          refine lv_iload_n hx hb d_M_run_59 rfl (lv_at hl 4 rfl) ?_
          refine lv_iload hx hb d_M_run_60 (lv_at hl 0 rfl) ?_
          refine lv_iadd hx hb d_M_run_62 ?_
          refine lv_imul hx hb d_M_run_63 ?_
          refine lv_iload_n hx hb d_M_run_64 rfl (lv_at hl 3 rfl) ?_
          refine lv_iadd hx hb d_M_run_65 ?_
          refine lv_iconst (v := 0) hx hb d_M_run_66 (by decide) ?_
          obtain ⟨u16, hc, hF⟩ := kc_bnd hF
          refine ku_call (wr := [(q_msa, .inl (k_msa, n_msa, .inl msam)), (q_mbe, .inl (k_mbe, n_mbe, .inl mbels)), (q_mfa, .inl (k_mfa, n_mfa, .inl mfnds)), (q_mbi, .inl (k_mbi, n_mbi, .inl u4.2.2.2.2.1)), (q_mcx, .inl (k_mcx, n_mcx, .inl u4.2.2.2.2.2.1)), (q_mpa, .inl (k_mpa, n_mpa, .inl u4.2.2.2.2.2.2)), (q_mrd, .inl (k_mrd, n_mrd, .inl mreads))]) hA (va_runV (As := [.int (((16 : Int32) * (a1 + v50_4)) + a0), .int (0 : Int32)]) (rest := []) ⟨hx, hb, hml, hown, hts⟩ (m_M_know l dC dI q_mo q_msa q_mbi q_mcx q_mpa q_mle q_mdi q_mrd q_msz q_mbe q_mfa q_mse q_mrf q_mlo q_mos q_mwb q_mol q_mrv q_mrl k_msz n_msz k_mlo n_mlo mref mw mh mst mbd u4.2.1 mps mtr misr u4.2.2.1 u4.2.2.2.1 mpl mpass mraw msizs_50 mlows_50 (((16 : Int32) * (a1 + v50_4)) + a0) (0 : Int32) _ hc H.size) (cwV 2 hts (kgV kw_4_86 kw_4_88 kp_39 kw_1_8 kw_4_89) rfl rfl rfl (by decide +kernel) ⟨Nat.le_of_ble_eq_true rfl, Nat.le_of_ble_eq_true rfl⟩) ⟨kPre_blind, va_recv hK hP (ci := 5) (q0 := 5) rfl rfl, kPre_of (hP.sub [5, 1, 4] rfl) (hK.sub [5, 8] rfl) (hD.sub [5, 1, 4] (by decide) rfl) hN⟩ rfl rfl hl.1 rfl (lv_room (Nat.le_of_ble_eq_true rfl)) d_M_run_67 ⟨Nat.le_of_ble_eq_true rfl, Nat.le_of_ble_eq_true rfl⟩) hP hD hS [5, 1, 4] [0, 2, 3, 6, 7, 8, 9] rfl rfl (by decide) (by decide) (fun H locs hP hD hS => ?_)
          have hP : va_P (dC, dI) vwCl [(q_msa, .inl (k_msa, n_msa, .inl msam)), (q_mbe, .inl (k_mbe, n_mbe, .inl mbels)), (q_mfa, .inl (k_mfa, n_mfa, .inl mfnds)), (q_mbi, .inl (k_mbi, n_mbi, .inl u4.2.2.2.2.1)), (q_mcx, .inl (k_mcx, n_mcx, .inl u4.2.2.2.2.2.1)), (q_mpa, .inl (k_mpa, n_mpa, .inl u4.2.2.2.2.2.2)), (q_mrd, .inl (k_mrd, n_mrd, .inl mreads)), (q_mo, .inr (5, [.int mref, .int mw, .int mh, .int mst, .int mbd, .ref q_msa, .int u4.2.1, .ref q_mbi, .ref q_mcx, .ref q_mpa, .int mps, .ref q_mle, .ref q_mdi, .int mtr, .ref q_mrd, .int misr, .int u4.2.2.1, .int u4.2.2.2.1, .int mpl, .int mpass, .int mraw, .ref q_msz, .ref q_mbe, .ref q_mfa, .ref q_mse, .ref q_mrf, .ref q_mlo, .ref q_mos, .ref q_mwb, .ref q_mol, .ref q_mrv, .ref q_mrl])), (q_msz, .inl (k_msz, n_msz, .inl u16.1)), (q_mlo, .inl (k_mlo, n_mlo, .inl u16.2))] H := hP
          have hD : va_D A [(q_msa, .inl (k_msa, n_msa, .inl msam)), (q_mbe, .inl (k_mbe, n_mbe, .inl mbels)), (q_mfa, .inl (k_mfa, n_mfa, .inl mfnds)), (q_mbi, .inl (k_mbi, n_mbi, .inl u4.2.2.2.2.1)), (q_mcx, .inl (k_mcx, n_mcx, .inl u4.2.2.2.2.2.1)), (q_mpa, .inl (k_mpa, n_mpa, .inl u4.2.2.2.2.2.2)), (q_mrd, .inl (k_mrd, n_mrd, .inl mreads)), (q_mo, .inr (5, [.int mref, .int mw, .int mh, .int mst, .int mbd, .ref q_msa, .int u4.2.1, .ref q_mbi, .ref q_mcx, .ref q_mpa, .int mps, .ref q_mle, .ref q_mdi, .int mtr, .ref q_mrd, .int misr, .int u4.2.2.1, .int u4.2.2.2.1, .int mpl, .int mpass, .int mraw, .ref q_msz, .ref q_mbe, .ref q_mfa, .ref q_mse, .ref q_mrf, .ref q_mlo, .ref q_mos, .ref q_mwb, .ref q_mol, .ref q_mrv, .ref q_mrl])), (q_msz, .inl (k_msz, n_msz, .inl u16.1)), (q_mlo, .inl (k_mlo, n_mlo, .inl u16.2))] := hD
          refine lv_iinc (v := (v50_4 + 1)) (lv' := [(4, .int (v50_4 + 1)), (3, .int u1), (0, .ref q_mo), (1, .int a0), (2, .int a1)]) hx hb d_M_run_70 hl (k := 0) rfl rfl (by decide) rfl (fun ls hl => ?_)
          refine lv_goto (tgt := 50) hx hb d_M_run_73 (by decide) ?_
          exact ih _ _ _ hF _ _ _ (hP.sub [0, 8, 1, 2, 9, 7, 3, 4, 5, 6] rfl) (hD.sub [0, 8, 1, 2, 9, 7, 3, 4, 5, 6] (by decide) rfl) hS (lv_sub hl [0, 1, 2, 3, 4] rfl)
      exact hIu14 _ _ _ _ hcu14 _ _ _ hP hD hS (lv_sub hl [0, 1, 2, 3, 4] rfl)
    clear hF; have hF := hcu3; clear hcu3
    refine lv_icmp_ge (tgt := 38) hx hb d_M_run_31 (by decide) (fun c2 => ?_) (fun c2 => ?_)
    · have hF := kc_pos c2 hF
      refine lv_iconst (v := 0) hx hb d_M_run_38 (by decide) ?_
      obtain rfl := Option.some.inj hF
      exact hJu3 _ _ _ hP hD hS (lv_sub hl [0, 1, 2, 3] rfl)
    have hF := kc_neg c2 hF
    refine lv_iconst (v := 1) hx hb d_M_run_34 (by decide) ?_
    refine lv_goto (tgt := 39) hx hb d_M_run_35 (by decide) ?_
    obtain rfl := Option.some.inj hF
    exact hJu3 _ _ _ hP hD hS (lv_sub hl [0, 1, 2, 3] rfl)
  have hIu1 : ∀ (N : Nat) (v2_3 : Int32), f_M_run_L2 mpl msam n_msa a0 a1 N v2_3 = some u1 → ∀ (H : Heap) (locs : List Loc) (ls : Array Slot), va_P (dC, dI) vwCl [(q_mo, .inr (5, [.int mref, .int mw, .int mh, .int mst, .int mbd, .ref q_msa, .int mtb, .ref q_mbi, .ref q_mcx, .ref q_mpa, .int mps, .ref q_mle, .ref q_mdi, .int mtr, .ref q_mrd, .int misr, .int mplc, .int mlak, .int mpl, .int mpass, .int mraw, .ref q_msz, .ref q_mbe, .ref q_mfa, .ref q_mse, .ref q_mrf, .ref q_mlo, .ref q_mos, .ref q_mwb, .ref q_mol, .ref q_mrv, .ref q_mrl])), (q_msa, .inl (k_msa, n_msa, .inl msam)), (q_mbi, .inl (k_mbi, n_mbi, .inl mbits)), (q_mcx, .inl (k_mcx, n_mcx, .inl mctxs)), (q_mpa, .inl (k_mpa, n_mpa, .inl mpaso)), (q_mrd, .inl (k_mrd, n_mrd, .inl mreads)), (q_msz, .inl (k_msz, n_msz, .inl msizs)), (q_mbe, .inl (k_mbe, n_mbe, .inl mbels)), (q_mfa, .inl (k_mfa, n_mfa, .inl mfnds)), (q_mlo, .inl (k_mlo, n_mlo, .inl mlows))] H → va_D A [(q_mo, .inr (5, [.int mref, .int mw, .int mh, .int mst, .int mbd, .ref q_msa, .int mtb, .ref q_mbi, .ref q_mcx, .ref q_mpa, .int mps, .ref q_mle, .ref q_mdi, .int mtr, .ref q_mrd, .int misr, .int mplc, .int mlak, .int mpl, .int mpass, .int mraw, .ref q_msz, .ref q_mbe, .ref q_mfa, .ref q_mse, .ref q_mrf, .ref q_mlo, .ref q_mos, .ref q_mwb, .ref q_mol, .ref q_mrv, .ref q_mrl])), (q_msa, .inl (k_msa, n_msa, .inl msam)), (q_mbi, .inl (k_mbi, n_mbi, .inl mbits)), (q_mcx, .inl (k_mcx, n_mcx, .inl mctxs)), (q_mpa, .inl (k_mpa, n_mpa, .inl mpaso)), (q_mrd, .inl (k_mrd, n_mrd, .inl mreads)), (q_msz, .inl (k_msz, n_msz, .inl msizs)), (q_mbe, .inl (k_mbe, n_mbe, .inl mbels)), (q_mfa, .inl (k_mfa, n_mfa, .inl mfnds)), (q_mlo, .inl (k_mlo, n_mlo, .inl mlows))] → va_S A s.heap H locs → lv_has ls 7 [(3, .int v2_3), (0, .ref q_mo), (1, .int a0), (2, .int a1)] → W p l e rm_M_run s m args below meth c H locs 0 0 Q (F0 m 2 ls []) := by
    intro N
    induction N with
    | zero => intro v2_3 hF; rw [f_M_run_L2] at hF; cases hF
    | succ N ih =>
      intro v2_3 hF
      intro H locs ls hP hD hS hl
      rw [f_M_run_L2] at hF
      refine lv_iload_n hx hb d_M_run_2 rfl (lv_at hl 0 rfl) ?_
      refine lv_iconst (v := 4) hx hb d_M_run_3 (by decide) ?_
      refine lv_icmp_ge (tgt := 28) hx hb d_M_run_4 (by decide) (fun c17 => ?_) (fun c17 => ?_)
      · have hF := kc_pos c17 hF
        obtain rfl := Option.some.inj hF
        exact hJu1_28 _ _ _ hP hD hS (lv_sub hl [0, 1, 2, 3] rfl)
      have hF := kc_neg c17 hF
      refine lv_aload_n hx hb d_M_run_7 rfl (lv_at hl 1 rfl) ?_
      refine lv_bipush (v := 16) hx hb d_M_run_8 (by decide) ?_
      refine lv_iload_n hx hb d_M_run_10 rfl (lv_at hl 3 rfl) ?_
      refine lv_iload_n hx hb d_M_run_11 rfl (lv_at hl 0 rfl) ?_
      refine lv_iadd hx hb d_M_run_12 ?_
      refine lv_imul hx hb d_M_run_13 ?_
      refine lv_iload_n hx hb d_M_run_14 rfl (lv_at hl 2 rfl) ?_
      refine lv_iadd hx hb d_M_run_15 ?_
      obtain ⟨u18, hc, hF⟩ := kc_bnd hF
      refine kr_call (va_runV (As := [.int (((16 : Int32) * (a1 + v2_3)) + a0)]) (rest := []) ⟨hx, hb, hml, hown, hts⟩ (m_M_bitOf l dC dI q_mo q_msa q_mbi q_mcx q_mpa q_mle q_mdi q_mrd q_msz q_mbe q_mfa q_mse q_mrf q_mlo q_mos q_mwb q_mol q_mrv q_mrl k_msa n_msa mref mw mh mst mbd mtb mps mtr misr mplc mlak mpl mpass mraw msam (((16 : Int32) * (a1 + v2_3)) + a0) _ hc) (cwV 1 hts (kgV kw_4_78 kw_4_80 kp_37 kw_1_8 kw_4_81) rfl rfl rfl (by decide +kernel) ⟨Nat.le_of_ble_eq_true rfl, Nat.le_of_ble_eq_true rfl⟩) ⟨kRe_blind, va_recv hK hP (ci := 5) (q0 := 0) rfl rfl, kRe_of (hP.sub [0, 1] rfl) (hK.sub [0] rfl) hN⟩ rfl rfl hl.1 rfl (lv_room (Nat.le_of_ble_eq_true rfl)) d_M_run_16 ⟨Nat.le_of_ble_eq_true rfl, Nat.le_of_ble_eq_true rfl⟩) ?_
      refine lv_if_ne (tgt := 28) hx hb d_M_run_19 (by decide) (fun c19 => ?_) (fun c19 => ?_)
      · have hF := kc_neg c19 hF
        obtain rfl := Option.some.inj hF
        exact hJu1_28 _ _ _ hP hD hS (lv_sub hl [0, 1, 2, 3] rfl)
      have hF := kc_pos c19 hF
      refine lv_iinc (v := (v2_3 + 1)) (lv' := [(3, .int (v2_3 + 1)), (0, .ref q_mo), (1, .int a0), (2, .int a1)]) hx hb d_M_run_22 hl (k := 0) rfl rfl (by decide) rfl (fun ls hl => ?_)
      refine lv_goto (tgt := 2) hx hb d_M_run_25 (by decide) ?_
      exact ih _ hF _ _ _ hP hD hS (lv_sub hl [0, 1, 2, 3] rfl)
  exact hIu1 _ _ hcu1 _ _ _ hP hD hS (lv_sub hl [0, 1, 2, 3] rfl)
abbrev rm_M_cleanup : Room := { frames := 6, cells := 0, slots := 0, locals := 143 }
set_option maxHeartbeats 4000000 in
set_option maxRecDepth 100000 in
theorem m_M_cleanup (l : Launch) (dC : Nat → ClassId) (dI : Nat → Nat → Nat) (q_mo q_msa q_mbi q_mcx q_mpa q_mle q_mdi q_mrd q_msz q_mbe q_mfa q_mse q_mrf q_mlo q_mos q_mwb q_mol q_mrv q_mrl : Nat) (k_msa : ClassId) (n_msa : Nat) (k_mbi : ClassId) (n_mbi : Nat) (k_mcx : ClassId) (n_mcx : Nat) (k_mpa : ClassId) (n_mpa : Nat) (k_mrd : ClassId) (n_mrd : Nat) (k_msz : ClassId) (n_msz : Nat) (k_mbe : ClassId) (n_mbe : Nat) (k_mfa : ClassId) (n_mfa : Nat) (k_mse : ClassId) (n_mse : Nat) (k_mlo : ClassId) (n_mlo : Nat) (mref : Int32) (mw : Int32) (mh : Int32) (mst : Int32) (mbd : Int32) (mtb : Int32) (mps : Int32) (mtr : Int32) (misr : Int32) (mplc : Int32) (mlak : Int32) (mpl : Int32) (mpass : Int32) (mraw : Int32) (msam : (Nat → Int32)) (mbits : (Nat → Int32)) (mctxs : (Nat → Int32)) (mpaso : (Nat → Int32)) (mreads : (Nat → Int32)) (msizs : (Nat → Int32)) (mbels : (Nat → Int32)) (mfnds : (Nat → Int32)) (mseen : (Nat → Int32)) (mlows : (Nat → Int32)) (a0 : Int32) (a1 : Int32) (u : Int32 × Int32 × Int32 × (Nat → Int32) × (Nat → Int32) × (Nat → Int32) × (Nat → Int32) × (Nat → Int32) × (Nat → Int32) × (Nat → Int32)) (hF : f_M_cleanup mw mh mst mbd mtb mtr misr mplc mlak mpl mpass mraw msam mbits mctxs mpaso mreads msizs mbels mfnds mseen mlows n_msa n_mbi n_mcx n_mpa n_mrd n_msz n_mbe n_mfa n_mse n_mlo a0 a1 = some u) : ∀ sz : Nat, Met l y_M_cleanup (kws y_M_cleanup c_M_cleanup 4 none) rm_M_cleanup (kPre (dC, dI) [.ref q_mo, .int a0, .int a1] [(q_mo, .inr (5, [.int mref, .int mw, .int mh, .int mst, .int mbd, .ref q_msa, .int mtb, .ref q_mbi, .ref q_mcx, .ref q_mpa, .int mps, .ref q_mle, .ref q_mdi, .int mtr, .ref q_mrd, .int misr, .int mplc, .int mlak, .int mpl, .int mpass, .int mraw, .ref q_msz, .ref q_mbe, .ref q_mfa, .ref q_mse, .ref q_mrf, .ref q_mlo, .ref q_mos, .ref q_mwb, .ref q_mol, .ref q_mrv, .ref q_mrl])), (q_msa, .inl (k_msa, n_msa, .inl msam)), (q_mbi, .inl (k_mbi, n_mbi, .inl mbits)), (q_mcx, .inl (k_mcx, n_mcx, .inl mctxs)), (q_mpa, .inl (k_mpa, n_mpa, .inl mpaso)), (q_mrd, .inl (k_mrd, n_mrd, .inl mreads)), (q_msz, .inl (k_msz, n_msz, .inl msizs)), (q_mbe, .inl (k_mbe, n_mbe, .inl mbels)), (q_mfa, .inl (k_mfa, n_mfa, .inl mfnds)), (q_mse, .inl (k_mse, n_mse, .inl mseen)), (q_mlo, .inl (k_mlo, n_mlo, .inl mlows))] [(k_msa, .int), (k_mbi, .int), (k_mcx, .int), (k_mpa, .int), (k_mrd, .int), (k_msz, .int), (k_mbe, .boolean), (k_mfa, .int), (k_mse, .boolean), (k_mlo, .int)] sz) (kPost (dC, dI) none [(q_mo, .inr (5, [.int mref, .int mw, .int mh, .int mst, .int mbd, .ref q_msa, .int u.1, .ref q_mbi, .ref q_mcx, .ref q_mpa, .int mps, .ref q_mle, .ref q_mdi, .int mtr, .ref q_mrd, .int misr, .int u.2.1, .int u.2.2.1, .int mpl, .int mpass, .int mraw, .ref q_msz, .ref q_mbe, .ref q_mfa, .ref q_mse, .ref q_mrf, .ref q_mlo, .ref q_mos, .ref q_mwb, .ref q_mol, .ref q_mrv, .ref q_mrl])), (q_msa, .inl (k_msa, n_msa, .inl msam)), (q_mbi, .inl (k_mbi, n_mbi, .inl u.2.2.2.1)), (q_mcx, .inl (k_mcx, n_mcx, .inl u.2.2.2.2.1)), (q_mpa, .inl (k_mpa, n_mpa, .inl u.2.2.2.2.2.1)), (q_mrd, .inl (k_mrd, n_mrd, .inl mreads)), (q_msz, .inl (k_msz, n_msz, .inl u.2.2.2.2.2.2.1)), (q_mbe, .inl (k_mbe, n_mbe, .inl u.2.2.2.2.2.2.2.1)), (q_mfa, .inl (k_mfa, n_mfa, .inl u.2.2.2.2.2.2.2.2.1)), (q_mse, .inl (k_mse, n_mse, .inl mseen)), (q_mlo, .inl (k_mlo, n_mlo, .inl u.2.2.2.2.2.2.2.2.2))] (va_A [(q_mo, .inr (5, [.int mref, .int mw, .int mh, .int mst, .int mbd, .ref q_msa, .int mtb, .ref q_mbi, .ref q_mcx, .ref q_mpa, .int mps, .ref q_mle, .ref q_mdi, .int mtr, .ref q_mrd, .int misr, .int mplc, .int mlak, .int mpl, .int mpass, .int mraw, .ref q_msz, .ref q_mbe, .ref q_mfa, .ref q_mse, .ref q_mrf, .ref q_mlo, .ref q_mos, .ref q_mwb, .ref q_mol, .ref q_mrv, .ref q_mrl])), (q_msa, .inl (k_msa, n_msa, .inl msam)), (q_mbi, .inl (k_mbi, n_mbi, .inl mbits)), (q_mcx, .inl (k_mcx, n_mcx, .inl mctxs)), (q_mpa, .inl (k_mpa, n_mpa, .inl mpaso)), (q_mrd, .inl (k_mrd, n_mrd, .inl mreads)), (q_msz, .inl (k_msz, n_msz, .inl msizs)), (q_mbe, .inl (k_mbe, n_mbe, .inl mbels)), (q_mfa, .inl (k_mfa, n_mfa, .inl mfnds)), (q_mse, .inl (k_mse, n_mse, .inl mseen)), (q_mlo, .inl (k_mlo, n_mlo, .inl mlows))] sz)) 0 0 (va_A [(q_mo, .inr (5, [.int mref, .int mw, .int mh, .int mst, .int mbd, .ref q_msa, .int mtb, .ref q_mbi, .ref q_mcx, .ref q_mpa, .int mps, .ref q_mle, .ref q_mdi, .int mtr, .ref q_mrd, .int misr, .int mplc, .int mlak, .int mpl, .int mpass, .int mraw, .ref q_msz, .ref q_mbe, .ref q_mfa, .ref q_mse, .ref q_mrf, .ref q_mlo, .ref q_mos, .ref q_mwb, .ref q_mol, .ref q_mrv, .ref q_mrl])), (q_msa, .inl (k_msa, n_msa, .inl msam)), (q_mbi, .inl (k_mbi, n_mbi, .inl mbits)), (q_mcx, .inl (k_mcx, n_mcx, .inl mctxs)), (q_mpa, .inl (k_mpa, n_mpa, .inl mpaso)), (q_mrd, .inl (k_mrd, n_mrd, .inl mreads)), (q_msz, .inl (k_msz, n_msz, .inl msizs)), (q_mbe, .inl (k_mbe, n_mbe, .inl mbels)), (q_mfa, .inl (k_mfa, n_mfa, .inl mfnds)), (q_mse, .inl (k_mse, n_mse, .inl mseen)), (q_mlo, .inl (k_mlo, n_mlo, .inl mlows))] sz) := by
  unfold f_M_cleanup at hF
  refine kU_of (cc := c_M_cleanup) (maxL := 4) (ret := none) (by decide) (Nat.le_of_ble_eq_true rfl) ?_
  intro p e s m args below meth c Q A hQ hfx hK hN hA H locs ls hP hD hS hl
  obtain ⟨hx, hb, hr, hml, hown, hts, hlocks⟩ := hfx
  have hown : s.vm.findClass R_M = some m.cls := hown
  have hl : lv_has ls 4 [(0, .ref q_mo), (1, .int a0), (2, .int a1)] := hl
  refine lv_aload_n hx hb d_M_cleanup_0 rfl (lv_at hl 0 rfl) ?_
  refine lv_iload_n hx hb d_M_cleanup_1 rfl (lv_at hl 1 rfl) ?_
  refine lv_iload_n hx hb d_M_cleanup_2 rfl (lv_at hl 2 rfl) ?_
  obtain ⟨u1, hc, hF⟩ := kc_bnd hF
  refine kr_call (va_runV (As := [.int a0, .int a1]) (rest := []) ⟨hx, hb, hml, hown, hts⟩ (m_M_isEmpty l dC dI q_mo q_msa q_mbi q_mcx q_mpa q_mle q_mdi q_mrd q_msz q_mbe q_mfa q_mse q_mrf q_mlo q_mos q_mwb q_mol q_mrv q_mrl k_mbe n_mbe k_mfa n_mfa k_mse n_mse mref mw mh mst mbd mtb mps mtr misr mplc mlak mpl mpass mraw mbels mfnds mseen a0 a1 _ hc) (cwV 2 hts (kgV kw_4_50 kw_4_52 kp_30 kw_1_8 kw_4_53) rfl rfl rfl (by decide +kernel) ⟨Nat.le_of_ble_eq_true rfl, Nat.le_of_ble_eq_true rfl⟩) ⟨kRe_blind, va_recv hK hP (ci := 5) (q0 := 0) rfl rfl, kRe_of (hP.sub [0, 7, 8, 9] rfl) (hK.sub [6, 7, 8] rfl) hN⟩ rfl rfl hl.1 rfl (lv_room (Nat.le_of_ble_eq_true rfl)) d_M_cleanup_3 ⟨Nat.le_of_ble_eq_true rfl, Nat.le_of_ble_eq_true rfl⟩) ?_
  obtain ⟨u3, hcu3, hF⟩ := kc_bnd hF
  have hJu3 : ∀ (H : Heap) (locs : List Loc) (ls : Array Slot), va_P (dC, dI) vwCl [(q_mo, .inr (5, [.int mref, .int mw, .int mh, .int mst, .int mbd, .ref q_msa, .int u3.2.1, .ref q_mbi, .ref q_mcx, .ref q_mpa, .int mps, .ref q_mle, .ref q_mdi, .int mtr, .ref q_mrd, .int misr, .int u3.2.2.1, .int u3.2.2.2.1, .int mpl, .int mpass, .int mraw, .ref q_msz, .ref q_mbe, .ref q_mfa, .ref q_mse, .ref q_mrf, .ref q_mlo, .ref q_mos, .ref q_mwb, .ref q_mol, .ref q_mrv, .ref q_mrl])), (q_msa, .inl (k_msa, n_msa, .inl msam)), (q_mbi, .inl (k_mbi, n_mbi, .inl u3.2.2.2.2.1)), (q_mcx, .inl (k_mcx, n_mcx, .inl u3.2.2.2.2.2.1)), (q_mpa, .inl (k_mpa, n_mpa, .inl u3.2.2.2.2.2.2.1)), (q_mrd, .inl (k_mrd, n_mrd, .inl mreads)), (q_msz, .inl (k_msz, n_msz, .inl u3.2.2.2.2.2.2.2.1)), (q_mbe, .inl (k_mbe, n_mbe, .inl u3.2.2.2.2.2.2.2.2.1)), (q_mfa, .inl (k_mfa, n_mfa, .inl u3.2.2.2.2.2.2.2.2.2.1)), (q_mse, .inl (k_mse, n_mse, .inl mseen)), (q_mlo, .inl (k_mlo, n_mlo, .inl u3.2.2.2.2.2.2.2.2.2.2))] H → va_D A [(q_mo, .inr (5, [.int mref, .int mw, .int mh, .int mst, .int mbd, .ref q_msa, .int u3.2.1, .ref q_mbi, .ref q_mcx, .ref q_mpa, .int mps, .ref q_mle, .ref q_mdi, .int mtr, .ref q_mrd, .int misr, .int u3.2.2.1, .int u3.2.2.2.1, .int mpl, .int mpass, .int mraw, .ref q_msz, .ref q_mbe, .ref q_mfa, .ref q_mse, .ref q_mrf, .ref q_mlo, .ref q_mos, .ref q_mwb, .ref q_mol, .ref q_mrv, .ref q_mrl])), (q_msa, .inl (k_msa, n_msa, .inl msam)), (q_mbi, .inl (k_mbi, n_mbi, .inl u3.2.2.2.2.1)), (q_mcx, .inl (k_mcx, n_mcx, .inl u3.2.2.2.2.2.1)), (q_mpa, .inl (k_mpa, n_mpa, .inl u3.2.2.2.2.2.2.1)), (q_mrd, .inl (k_mrd, n_mrd, .inl mreads)), (q_msz, .inl (k_msz, n_msz, .inl u3.2.2.2.2.2.2.2.1)), (q_mbe, .inl (k_mbe, n_mbe, .inl u3.2.2.2.2.2.2.2.2.1)), (q_mfa, .inl (k_mfa, n_mfa, .inl u3.2.2.2.2.2.2.2.2.2.1)), (q_mse, .inl (k_mse, n_mse, .inl mseen)), (q_mlo, .inl (k_mlo, n_mlo, .inl u3.2.2.2.2.2.2.2.2.2.2))] → va_S A s.heap H locs → lv_has ls 4 [(0, .ref q_mo), (1, .int a0), (2, .int a1)] → W p l e rm_M_cleanup s m args below meth c H locs 0 0 Q (F0 m 19 ls [.int u3.1]) := by
    intro H locs ls hP hD hS hl
    refine lv_istore_n (lv' := [(3, .int u3.1), (0, .ref q_mo), (1, .int a0), (2, .int a1)]) hx hb d_M_cleanup_19 rfl hl (by decide) rfl (fun ls hl => ?_)
    obtain ⟨u4, hcu4, hF⟩ := kc_bnd hF
    have hJu4_68 : ∀ (H : Heap) (locs : List Loc) (ls : Array Slot), va_P (dC, dI) vwCl [(q_mo, .inr (5, [.int mref, .int mw, .int mh, .int mst, .int mbd, .ref q_msa, .int u4.2.1, .ref q_mbi, .ref q_mcx, .ref q_mpa, .int mps, .ref q_mle, .ref q_mdi, .int mtr, .ref q_mrd, .int misr, .int u4.2.2.1, .int u4.2.2.2.1, .int mpl, .int mpass, .int mraw, .ref q_msz, .ref q_mbe, .ref q_mfa, .ref q_mse, .ref q_mrf, .ref q_mlo, .ref q_mos, .ref q_mwb, .ref q_mol, .ref q_mrv, .ref q_mrl])), (q_msa, .inl (k_msa, n_msa, .inl msam)), (q_mbi, .inl (k_mbi, n_mbi, .inl u4.2.2.2.2.1)), (q_mcx, .inl (k_mcx, n_mcx, .inl u4.2.2.2.2.2.1)), (q_mpa, .inl (k_mpa, n_mpa, .inl u4.2.2.2.2.2.2.1)), (q_mrd, .inl (k_mrd, n_mrd, .inl mreads)), (q_msz, .inl (k_msz, n_msz, .inl u4.2.2.2.2.2.2.2.1)), (q_mbe, .inl (k_mbe, n_mbe, .inl u4.2.2.2.2.2.2.2.2.1)), (q_mfa, .inl (k_mfa, n_mfa, .inl u4.2.2.2.2.2.2.2.2.2.1)), (q_mse, .inl (k_mse, n_mse, .inl mseen)), (q_mlo, .inl (k_mlo, n_mlo, .inl u4.2.2.2.2.2.2.2.2.2.2))] H → va_D A [(q_mo, .inr (5, [.int mref, .int mw, .int mh, .int mst, .int mbd, .ref q_msa, .int u4.2.1, .ref q_mbi, .ref q_mcx, .ref q_mpa, .int mps, .ref q_mle, .ref q_mdi, .int mtr, .ref q_mrd, .int misr, .int u4.2.2.1, .int u4.2.2.2.1, .int mpl, .int mpass, .int mraw, .ref q_msz, .ref q_mbe, .ref q_mfa, .ref q_mse, .ref q_mrf, .ref q_mlo, .ref q_mos, .ref q_mwb, .ref q_mol, .ref q_mrv, .ref q_mrl])), (q_msa, .inl (k_msa, n_msa, .inl msam)), (q_mbi, .inl (k_mbi, n_mbi, .inl u4.2.2.2.2.1)), (q_mcx, .inl (k_mcx, n_mcx, .inl u4.2.2.2.2.2.1)), (q_mpa, .inl (k_mpa, n_mpa, .inl u4.2.2.2.2.2.2.1)), (q_mrd, .inl (k_mrd, n_mrd, .inl mreads)), (q_msz, .inl (k_msz, n_msz, .inl u4.2.2.2.2.2.2.2.1)), (q_mbe, .inl (k_mbe, n_mbe, .inl u4.2.2.2.2.2.2.2.2.1)), (q_mfa, .inl (k_mfa, n_mfa, .inl u4.2.2.2.2.2.2.2.2.2.1)), (q_mse, .inl (k_mse, n_mse, .inl mseen)), (q_mlo, .inl (k_mlo, n_mlo, .inl u4.2.2.2.2.2.2.2.2.2.2))] → va_S A s.heap H locs → lv_has ls 4 [(3, .int u4.1), (0, .ref q_mo), (1, .int a0), (2, .int a1)] → W p l e rm_M_cleanup s m args below meth c H locs 0 0 Q (F0 m 68 ls []) := by
      intro H locs ls hP hD hS hl
      obtain rfl := Option.some.inj hF
      exact ku_vret hx hb hr hlocks hQ (hP.sub [0, 1, 2, 3, 4, 5, 6, 7, 8, 9, 10] rfl) (hD.sub [0, 1, 2, 3, 4, 5, 6, 7, 8, 9, 10] (by decide) rfl) hS d_M_cleanup_68
    have hIu4 : ∀ (N : Nat) (v20_3 : Int32) (mtb_20 : Int32) (mplc_20 : Int32) (mlak_20 : Int32) (mbits_20 : (Nat → Int32)) (mctxs_20 : (Nat → Int32)) (mpaso_20 : (Nat → Int32)) (msizs_20 : (Nat → Int32)) (mbels_20 : (Nat → Int32)) (mfnds_20 : (Nat → Int32)) (mlows_20 : (Nat → Int32)), f_M_cleanup_L20 mw mh mst mbd mtr misr mpl mpass mraw msam mreads mseen n_msa n_mbi n_mcx n_mpa n_mrd n_msz n_mbe n_mfa n_mse n_mlo a0 a1 N v20_3 mtb_20 mplc_20 mlak_20 mbits_20 mctxs_20 mpaso_20 msizs_20 mbels_20 mfnds_20 mlows_20 = some u4 → ∀ (H : Heap) (locs : List Loc) (ls : Array Slot), va_P (dC, dI) vwCl [(q_mo, .inr (5, [.int mref, .int mw, .int mh, .int mst, .int mbd, .ref q_msa, .int mtb_20, .ref q_mbi, .ref q_mcx, .ref q_mpa, .int mps, .ref q_mle, .ref q_mdi, .int mtr, .ref q_mrd, .int misr, .int mplc_20, .int mlak_20, .int mpl, .int mpass, .int mraw, .ref q_msz, .ref q_mbe, .ref q_mfa, .ref q_mse, .ref q_mrf, .ref q_mlo, .ref q_mos, .ref q_mwb, .ref q_mol, .ref q_mrv, .ref q_mrl])), (q_msa, .inl (k_msa, n_msa, .inl msam)), (q_mbi, .inl (k_mbi, n_mbi, .inl mbits_20)), (q_mcx, .inl (k_mcx, n_mcx, .inl mctxs_20)), (q_mpa, .inl (k_mpa, n_mpa, .inl mpaso_20)), (q_mrd, .inl (k_mrd, n_mrd, .inl mreads)), (q_msz, .inl (k_msz, n_msz, .inl msizs_20)), (q_mbe, .inl (k_mbe, n_mbe, .inl mbels_20)), (q_mfa, .inl (k_mfa, n_mfa, .inl mfnds_20)), (q_mse, .inl (k_mse, n_mse, .inl mseen)), (q_mlo, .inl (k_mlo, n_mlo, .inl mlows_20))] H → va_D A [(q_mo, .inr (5, [.int mref, .int mw, .int mh, .int mst, .int mbd, .ref q_msa, .int mtb_20, .ref q_mbi, .ref q_mcx, .ref q_mpa, .int mps, .ref q_mle, .ref q_mdi, .int mtr, .ref q_mrd, .int misr, .int mplc_20, .int mlak_20, .int mpl, .int mpass, .int mraw, .ref q_msz, .ref q_mbe, .ref q_mfa, .ref q_mse, .ref q_mrf, .ref q_mlo, .ref q_mos, .ref q_mwb, .ref q_mol, .ref q_mrv, .ref q_mrl])), (q_msa, .inl (k_msa, n_msa, .inl msam)), (q_mbi, .inl (k_mbi, n_mbi, .inl mbits_20)), (q_mcx, .inl (k_mcx, n_mcx, .inl mctxs_20)), (q_mpa, .inl (k_mpa, n_mpa, .inl mpaso_20)), (q_mrd, .inl (k_mrd, n_mrd, .inl mreads)), (q_msz, .inl (k_msz, n_msz, .inl msizs_20)), (q_mbe, .inl (k_mbe, n_mbe, .inl mbels_20)), (q_mfa, .inl (k_mfa, n_mfa, .inl mfnds_20)), (q_mse, .inl (k_mse, n_mse, .inl mseen)), (q_mlo, .inl (k_mlo, n_mlo, .inl mlows_20))] → va_S A s.heap H locs → lv_has ls 4 [(3, .int v20_3), (0, .ref q_mo), (1, .int a0), (2, .int a1)] → W p l e rm_M_cleanup s m args below meth c H locs 0 0 Q (F0 m 20 ls []) := by
      intro N
      induction N with
      | zero => intro v20_3 mtb_20 mplc_20 mlak_20 mbits_20 mctxs_20 mpaso_20 msizs_20 mbels_20 mfnds_20 mlows_20 hF; rw [f_M_cleanup_L20] at hF; cases hF
      | succ N ih =>
        intro v20_3 mtb_20 mplc_20 mlak_20 mbits_20 mctxs_20 mpaso_20 msizs_20 mbels_20 mfnds_20 mlows_20 hF
        intro H locs ls hP hD hS hl
        rw [f_M_cleanup_L20] at hF
        refine lv_iload_n hx hb d_M_cleanup_20 rfl (lv_at hl 0 rfl) ?_
        refine lv_iconst (v := 4) hx hb d_M_cleanup_21 (by decide) ?_
        refine lv_icmp_ge (tgt := 68) hx hb d_M_cleanup_22 (by decide) (fun c5 => ?_) (fun c5 => ?_)
        · have hF := kc_pos c5 hF
          obtain rfl := Option.some.inj hF
          exact hJu4_68 _ _ _ hP hD hS (lv_sub hl [0, 1, 2, 3] rfl)
        have hF := kc_neg c5 hF
        refine lv_iload_n hx hb d_M_cleanup_25 rfl (lv_at hl 3 rfl) ?_
        refine lv_iload_n hx hb d_M_cleanup_26 rfl (lv_at hl 0 rfl) ?_
        refine lv_iadd hx hb d_M_cleanup_27 ?_
        refine lv_aload_n hx hb d_M_cleanup_28 rfl (lv_at hl 1 rfl) ?_
        refine va_get (D := (dC, dI)) (ci := 5) (v := .int mh) (C := R_M) (T := T_M) (N := 32) hx hb hts ki_M hown hK hP 0 rfl rfl 2 (by decide) (hts _ kw_3_135) (fun _ h9 => h9) rfl d_M_cleanup_29 ?_
        refine lv_icmp_ge (tgt := 68) hx hb d_M_cleanup_32 (by decide) (fun c6 => ?_) (fun c6 => ?_)
        · have hF := kc_pos c6 hF
          obtain rfl := Option.some.inj hF
          exact hJu4_68 _ _ _ hP hD hS (lv_sub hl [0, 1, 2, 3] rfl)
        have hF := kc_neg c6 hF
        refine lv_aload_n hx hb d_M_cleanup_35 rfl (lv_at hl 1 rfl) ?_
        refine lv_iload_n hx hb d_M_cleanup_36 rfl (lv_at hl 2 rfl) ?_
        refine lv_iload_n hx hb d_M_cleanup_37 rfl (lv_at hl 3 rfl) ?_
        refine lv_iload_n hx hb d_M_cleanup_38 rfl (lv_at hl 0 rfl) ?_
        refine lv_iadd hx hb d_M_cleanup_39 ?_
        obtain ⟨u7, hc, hF⟩ := kc_bnd hF
        refine kr_call (va_runV (As := [.int a0, .int (a1 + v20_3)]) (rest := []) ⟨hx, hb, hml, hown, hts⟩ (m_M_isOpen l dC dI q_mo q_msa q_mbi q_mcx q_mpa q_mle q_mdi q_mrd q_msz q_mbe q_mfa q_mse q_mrf q_mlo q_mos q_mwb q_mol q_mrv q_mrl k_mfa n_mfa k_mse n_mse mref mw mh mst mbd mtb_20 mps mtr misr mplc_20 mlak_20 mpl mpass mraw mfnds_20 mseen a0 (a1 + v20_3) _ hc) (cwV 2 hts (kgV kw_4_54 kw_4_56 kp_31 kw_1_8 kw_4_57) rfl rfl rfl (by decide +kernel) ⟨Nat.le_of_ble_eq_true rfl, Nat.le_of_ble_eq_true rfl⟩) ⟨kRe_blind, va_recv hK hP (ci := 5) (q0 := 0) rfl rfl, kRe_of (hP.sub [0, 8, 9] rfl) (hK.sub [7, 8] rfl) hN⟩ rfl rfl hl.1 rfl (lv_room (Nat.le_of_ble_eq_true rfl)) d_M_cleanup_40 ⟨Nat.le_of_ble_eq_true rfl, Nat.le_of_ble_eq_true rfl⟩) ?_
        obtain ⟨u9, hcu9, hF⟩ := kc_bnd hF
        have hJu9 : ∀ (H : Heap) (locs : List Loc) (ls : Array Slot), va_P (dC, dI) vwCl [(q_mo, .inr (5, [.int mref, .int mw, .int mh, .int mst, .int mbd, .ref q_msa, .int u9.1, .ref q_mbi, .ref q_mcx, .ref q_mpa, .int mps, .ref q_mle, .ref q_mdi, .int mtr, .ref q_mrd, .int misr, .int u9.2.1, .int u9.2.2.1, .int mpl, .int mpass, .int mraw, .ref q_msz, .ref q_mbe, .ref q_mfa, .ref q_mse, .ref q_mrf, .ref q_mlo, .ref q_mos, .ref q_mwb, .ref q_mol, .ref q_mrv, .ref q_mrl])), (q_msa, .inl (k_msa, n_msa, .inl msam)), (q_mbi, .inl (k_mbi, n_mbi, .inl u9.2.2.2.1)), (q_mcx, .inl (k_mcx, n_mcx, .inl u9.2.2.2.2.1)), (q_mpa, .inl (k_mpa, n_mpa, .inl u9.2.2.2.2.2.1)), (q_mrd, .inl (k_mrd, n_mrd, .inl mreads)), (q_msz, .inl (k_msz, n_msz, .inl u9.2.2.2.2.2.2.1)), (q_mbe, .inl (k_mbe, n_mbe, .inl u9.2.2.2.2.2.2.2.1)), (q_mfa, .inl (k_mfa, n_mfa, .inl u9.2.2.2.2.2.2.2.2.1)), (q_mse, .inl (k_mse, n_mse, .inl mseen)), (q_mlo, .inl (k_mlo, n_mlo, .inl u9.2.2.2.2.2.2.2.2.2))] H → va_D A [(q_mo, .inr (5, [.int mref, .int mw, .int mh, .int mst, .int mbd, .ref q_msa, .int u9.1, .ref q_mbi, .ref q_mcx, .ref q_mpa, .int mps, .ref q_mle, .ref q_mdi, .int mtr, .ref q_mrd, .int misr, .int u9.2.1, .int u9.2.2.1, .int mpl, .int mpass, .int mraw, .ref q_msz, .ref q_mbe, .ref q_mfa, .ref q_mse, .ref q_mrf, .ref q_mlo, .ref q_mos, .ref q_mwb, .ref q_mol, .ref q_mrv, .ref q_mrl])), (q_msa, .inl (k_msa, n_msa, .inl msam)), (q_mbi, .inl (k_mbi, n_mbi, .inl u9.2.2.2.1)), (q_mcx, .inl (k_mcx, n_mcx, .inl u9.2.2.2.2.1)), (q_mpa, .inl (k_mpa, n_mpa, .inl u9.2.2.2.2.2.1)), (q_mrd, .inl (k_mrd, n_mrd, .inl mreads)), (q_msz, .inl (k_msz, n_msz, .inl u9.2.2.2.2.2.2.1)), (q_mbe, .inl (k_mbe, n_mbe, .inl u9.2.2.2.2.2.2.2.1)), (q_mfa, .inl (k_mfa, n_mfa, .inl u9.2.2.2.2.2.2.2.2.1)), (q_mse, .inl (k_mse, n_mse, .inl mseen)), (q_mlo, .inl (k_mlo, n_mlo, .inl u9.2.2.2.2.2.2.2.2.2))] → va_S A s.heap H locs → lv_has ls 4 [(3, .int v20_3), (0, .ref q_mo), (1, .int a0), (2, .int a1)] → W p l e rm_M_cleanup s m args below meth c H locs 0 0 Q (F0 m 62 ls []) := by
          intro H locs ls hP hD hS hl
          refine lv_iinc (v := (v20_3 + 1)) (lv' := [(3, .int (v20_3 + 1)), (0, .ref q_mo), (1, .int a0), (2, .int a1)]) hx hb d_M_cleanup_62 hl (k := 0) rfl rfl (by decide) rfl (fun ls hl => ?_)
          refine lv_goto (tgt := 20) hx hb d_M_cleanup_65 (by decide) ?_
          exact ih _ _ _ _ _ _ _ _ _ _ _ hF _ _ _ hP hD hS (lv_sub hl [0, 1, 2, 3] rfl)
        clear hF; have hF := hcu9; clear hcu9
        refine lv_if_eq (tgt := 62) hx hb d_M_cleanup_43 (by decide) (fun c8 => ?_) (fun c8 => ?_)
        · have hF := kc_pos c8 hF
          obtain rfl := Option.some.inj hF
          exact hJu9 _ _ _ hP hD hS (lv_sub hl [0, 1, 2, 3] rfl)
        have hF := kc_neg c8 hF
        refine lv_aload_n hx hb d_M_cleanup_46 rfl (lv_at hl 1 rfl) ?_
        refine lv_iload_n hx hb d_M_cleanup_47 rfl (lv_at hl 2 rfl) ?_
        refine lv_iload_n hx hb d_M_cleanup_48 rfl (lv_at hl 3 rfl) ?_
        refine lv_iload_n hx hb d_M_cleanup_49 rfl (lv_at hl 0 rfl) ?_
        refine lv_iadd hx hb d_M_cleanup_50 ?_
        refine lv_aload_n hx hb d_M_cleanup_51 rfl (lv_at hl 1 rfl) ?_
        refine lv_iload_n hx hb d_M_cleanup_52 rfl (lv_at hl 2 rfl) ?_
        refine lv_iload_n hx hb d_M_cleanup_53 rfl (lv_at hl 3 rfl) ?_
        refine lv_iload_n hx hb d_M_cleanup_54 rfl (lv_at hl 0 rfl) ?_
        refine lv_iadd hx hb d_M_cleanup_55 ?_
        obtain ⟨u10, hc, hF⟩ := kc_bnd hF
        refine kr_call (va_runV (As := [.int a0, .int (a1 + v20_3)]) (rest := [.int (a1 + v20_3), .int a0, .ref q_mo]) ⟨hx, hb, hml, hown, hts⟩ (m_M_contextOf l dC dI q_mo q_msa q_mbi q_mcx q_mpa q_mle q_mdi q_mrd q_msz q_mbe q_mfa q_mse q_mrf q_mlo q_mos q_mwb q_mol q_mrv q_mrl k_mbe n_mbe k_mfa n_mfa mref mw mh mst mbd mtb_20 mps mtr misr mplc_20 mlak_20 mpl mpass mraw mbels_20 mfnds_20 a0 (a1 + v20_3) _ hc) (cwV 2 hts (kgV kw_4_58 kw_4_60 kp_32 kw_1_8 kw_4_61) rfl rfl rfl (by decide +kernel) ⟨Nat.le_of_ble_eq_true rfl, Nat.le_of_ble_eq_true rfl⟩) ⟨kRe_blind, va_recv hK hP (ci := 5) (q0 := 0) rfl rfl, kRe_of (hP.sub [0, 7, 8] rfl) (hK.sub [6, 7] rfl) hN⟩ rfl rfl hl.1 rfl (lv_room (Nat.le_of_ble_eq_true rfl)) d_M_cleanup_56 ⟨Nat.le_of_ble_eq_true rfl, Nat.le_of_ble_eq_true rfl⟩) ?_
        obtain ⟨u11, hc, hF⟩ := kc_bnd hF
        refine ku_call (wr := [(q_mse, .inl (k_mse, n_mse, .inl mseen))]) hA (va_runV (As := [.int a0, .int (a1 + v20_3), .int u10]) (rest := []) ⟨hx, hb, hml, hown, hts⟩ (m_M_tell l dC dI q_mo q_msa q_mbi q_mcx q_mpa q_mle q_mdi q_mrd q_msz q_mbe q_mfa q_mse q_mrf q_mlo q_mos q_mwb q_mol q_mrv q_mrl k_msa n_msa k_mbi n_mbi k_mcx n_mcx k_mpa n_mpa k_mrd n_mrd k_msz n_msz k_mbe n_mbe k_mfa n_mfa k_mlo n_mlo mref mw mh mst mbd mtb_20 mps mtr misr mplc_20 mlak_20 mpl mpass mraw msam mbits_20 mctxs_20 mpaso_20 mreads msizs_20 mbels_20 mfnds_20 mlows_20 a0 (a1 + v20_3) u10 _ hc H.size) (cwV 3 hts (kgV kw_4_97 kw_4_99 kp_41 kw_1_8 kw_4_100) rfl rfl rfl (by decide +kernel) ⟨Nat.le_of_ble_eq_true rfl, Nat.le_of_ble_eq_true rfl⟩) ⟨kPre_blind, va_recv hK hP (ci := 5) (q0 := 0) rfl rfl, kPre_of (hP.sub [0, 1, 2, 3, 4, 5, 6, 7, 8, 10] rfl) (hK.sub [0, 1, 2, 3, 4, 5, 6, 7, 9] rfl) (hD.sub [0, 1, 2, 3, 4, 5, 6, 7, 8, 10] (by decide) rfl) hN⟩ rfl rfl hl.1 rfl (lv_room (Nat.le_of_ble_eq_true rfl)) d_M_cleanup_59 ⟨Nat.le_of_ble_eq_true rfl, Nat.le_of_ble_eq_true rfl⟩) hP hD hS [0, 1, 2, 3, 4, 5, 6, 7, 8, 10] [9] rfl rfl (by decide) (by decide) (fun H locs hP hD hS => ?_)
        have hP : va_P (dC, dI) vwCl [(q_mse, .inl (k_mse, n_mse, .inl mseen)), (q_mo, .inr (5, [.int mref, .int mw, .int mh, .int mst, .int mbd, .ref q_msa, .int u11.1, .ref q_mbi, .ref q_mcx, .ref q_mpa, .int mps, .ref q_mle, .ref q_mdi, .int mtr, .ref q_mrd, .int misr, .int u11.2.1, .int u11.2.2.1, .int mpl, .int mpass, .int mraw, .ref q_msz, .ref q_mbe, .ref q_mfa, .ref q_mse, .ref q_mrf, .ref q_mlo, .ref q_mos, .ref q_mwb, .ref q_mol, .ref q_mrv, .ref q_mrl])), (q_msa, .inl (k_msa, n_msa, .inl msam)), (q_mbi, .inl (k_mbi, n_mbi, .inl u11.2.2.2.1)), (q_mcx, .inl (k_mcx, n_mcx, .inl u11.2.2.2.2.1)), (q_mpa, .inl (k_mpa, n_mpa, .inl u11.2.2.2.2.2.1)), (q_mrd, .inl (k_mrd, n_mrd, .inl mreads)), (q_msz, .inl (k_msz, n_msz, .inl u11.2.2.2.2.2.2.1)), (q_mbe, .inl (k_mbe, n_mbe, .inl u11.2.2.2.2.2.2.2.1)), (q_mfa, .inl (k_mfa, n_mfa, .inl u11.2.2.2.2.2.2.2.2.1)), (q_mlo, .inl (k_mlo, n_mlo, .inl u11.2.2.2.2.2.2.2.2.2))] H := hP
        have hD : va_D A [(q_mse, .inl (k_mse, n_mse, .inl mseen)), (q_mo, .inr (5, [.int mref, .int mw, .int mh, .int mst, .int mbd, .ref q_msa, .int u11.1, .ref q_mbi, .ref q_mcx, .ref q_mpa, .int mps, .ref q_mle, .ref q_mdi, .int mtr, .ref q_mrd, .int misr, .int u11.2.1, .int u11.2.2.1, .int mpl, .int mpass, .int mraw, .ref q_msz, .ref q_mbe, .ref q_mfa, .ref q_mse, .ref q_mrf, .ref q_mlo, .ref q_mos, .ref q_mwb, .ref q_mol, .ref q_mrv, .ref q_mrl])), (q_msa, .inl (k_msa, n_msa, .inl msam)), (q_mbi, .inl (k_mbi, n_mbi, .inl u11.2.2.2.1)), (q_mcx, .inl (k_mcx, n_mcx, .inl u11.2.2.2.2.1)), (q_mpa, .inl (k_mpa, n_mpa, .inl u11.2.2.2.2.2.1)), (q_mrd, .inl (k_mrd, n_mrd, .inl mreads)), (q_msz, .inl (k_msz, n_msz, .inl u11.2.2.2.2.2.2.1)), (q_mbe, .inl (k_mbe, n_mbe, .inl u11.2.2.2.2.2.2.2.1)), (q_mfa, .inl (k_mfa, n_mfa, .inl u11.2.2.2.2.2.2.2.2.1)), (q_mlo, .inl (k_mlo, n_mlo, .inl u11.2.2.2.2.2.2.2.2.2))] := hD
        obtain rfl := Option.some.inj hF
        exact hJu9 _ _ _ (hP.sub [1, 2, 3, 4, 5, 6, 7, 8, 9, 0, 10] rfl) (hD.sub [1, 2, 3, 4, 5, 6, 7, 8, 9, 0, 10] (by decide) rfl) hS (lv_sub hl [0, 1, 2, 3] rfl)
    exact hIu4 _ _ _ _ _ _ _ _ _ _ _ _ hcu4 _ _ _ hP hD hS (lv_sub hl [0, 1, 2, 3] rfl)
  clear hF; have hF := hcu3; clear hcu3
  refine lv_if_eq (tgt := 18) hx hb d_M_cleanup_6 (by decide) (fun c2 => ?_) (fun c2 => ?_)
  · have hF := kc_pos c2 hF
    refine lv_iconst (v := 0) hx hb d_M_cleanup_18 (by decide) ?_
    obtain rfl := Option.some.inj hF
    exact hJu3 _ _ _ hP hD hS (lv_sub hl [0, 1, 2] rfl)
  have hF := kc_neg c2 hF
  refine lv_aload_n hx hb d_M_cleanup_9 rfl (lv_at hl 0 rfl) ?_
  refine lv_iload_n hx hb d_M_cleanup_10 rfl (lv_at hl 1 rfl) ?_
  refine lv_iload_n hx hb d_M_cleanup_11 rfl (lv_at hl 2 rfl) ?_
  obtain ⟨u12, hc, hF⟩ := kc_bnd hF
  refine ku_call (wr := [(q_mse, .inl (k_mse, n_mse, .inl mseen))]) hA (va_runV (As := [.int a0, .int a1]) (rest := []) ⟨hx, hb, hml, hown, hts⟩ (m_M_run l dC dI q_mo q_msa q_mbi q_mcx q_mpa q_mle q_mdi q_mrd q_msz q_mbe q_mfa q_mse q_mrf q_mlo q_mos q_mwb q_mol q_mrv q_mrl k_msa n_msa k_mbi n_mbi k_mcx n_mcx k_mpa n_mpa k_mrd n_mrd k_msz n_msz k_mbe n_mbe k_mfa n_mfa k_mlo n_mlo mref mw mh mst mbd mtb mps mtr misr mplc mlak mpl mpass mraw msam mbits mctxs mpaso mreads msizs mbels mfnds mlows a0 a1 _ hc H.size) (cwV 2 hts (kgV kw_4_74 kw_4_76 kp_36 kw_1_8 kw_4_77) rfl rfl rfl (by decide +kernel) ⟨Nat.le_of_ble_eq_true rfl, Nat.le_of_ble_eq_true rfl⟩) ⟨kPre_blind, va_recv hK hP (ci := 5) (q0 := 0) rfl rfl, kPre_of (hP.sub [0, 1, 2, 3, 4, 5, 6, 7, 8, 10] rfl) (hK.sub [0, 1, 2, 3, 4, 5, 6, 7, 9] rfl) (hD.sub [0, 1, 2, 3, 4, 5, 6, 7, 8, 10] (by decide) rfl) hN⟩ rfl rfl hl.1 rfl (lv_room (Nat.le_of_ble_eq_true rfl)) d_M_cleanup_12 ⟨Nat.le_of_ble_eq_true rfl, Nat.le_of_ble_eq_true rfl⟩) hP hD hS [0, 1, 2, 3, 4, 5, 6, 7, 8, 10] [9] rfl rfl (by decide) (by decide) (fun H locs hP hD hS => ?_)
  have hP : va_P (dC, dI) vwCl [(q_mse, .inl (k_mse, n_mse, .inl mseen)), (q_mo, .inr (5, [.int mref, .int mw, .int mh, .int mst, .int mbd, .ref q_msa, .int u12.2.1, .ref q_mbi, .ref q_mcx, .ref q_mpa, .int mps, .ref q_mle, .ref q_mdi, .int mtr, .ref q_mrd, .int misr, .int u12.2.2.1, .int u12.2.2.2.1, .int mpl, .int mpass, .int mraw, .ref q_msz, .ref q_mbe, .ref q_mfa, .ref q_mse, .ref q_mrf, .ref q_mlo, .ref q_mos, .ref q_mwb, .ref q_mol, .ref q_mrv, .ref q_mrl])), (q_msa, .inl (k_msa, n_msa, .inl msam)), (q_mbi, .inl (k_mbi, n_mbi, .inl u12.2.2.2.2.1)), (q_mcx, .inl (k_mcx, n_mcx, .inl u12.2.2.2.2.2.1)), (q_mpa, .inl (k_mpa, n_mpa, .inl u12.2.2.2.2.2.2.1)), (q_mrd, .inl (k_mrd, n_mrd, .inl mreads)), (q_msz, .inl (k_msz, n_msz, .inl u12.2.2.2.2.2.2.2.1)), (q_mbe, .inl (k_mbe, n_mbe, .inl u12.2.2.2.2.2.2.2.2.1)), (q_mfa, .inl (k_mfa, n_mfa, .inl u12.2.2.2.2.2.2.2.2.2.1)), (q_mlo, .inl (k_mlo, n_mlo, .inl u12.2.2.2.2.2.2.2.2.2.2))] H := hP
  have hD : va_D A [(q_mse, .inl (k_mse, n_mse, .inl mseen)), (q_mo, .inr (5, [.int mref, .int mw, .int mh, .int mst, .int mbd, .ref q_msa, .int u12.2.1, .ref q_mbi, .ref q_mcx, .ref q_mpa, .int mps, .ref q_mle, .ref q_mdi, .int mtr, .ref q_mrd, .int misr, .int u12.2.2.1, .int u12.2.2.2.1, .int mpl, .int mpass, .int mraw, .ref q_msz, .ref q_mbe, .ref q_mfa, .ref q_mse, .ref q_mrf, .ref q_mlo, .ref q_mos, .ref q_mwb, .ref q_mol, .ref q_mrv, .ref q_mrl])), (q_msa, .inl (k_msa, n_msa, .inl msam)), (q_mbi, .inl (k_mbi, n_mbi, .inl u12.2.2.2.2.1)), (q_mcx, .inl (k_mcx, n_mcx, .inl u12.2.2.2.2.2.1)), (q_mpa, .inl (k_mpa, n_mpa, .inl u12.2.2.2.2.2.2.1)), (q_mrd, .inl (k_mrd, n_mrd, .inl mreads)), (q_msz, .inl (k_msz, n_msz, .inl u12.2.2.2.2.2.2.2.1)), (q_mbe, .inl (k_mbe, n_mbe, .inl u12.2.2.2.2.2.2.2.2.1)), (q_mfa, .inl (k_mfa, n_mfa, .inl u12.2.2.2.2.2.2.2.2.2.1)), (q_mlo, .inl (k_mlo, n_mlo, .inl u12.2.2.2.2.2.2.2.2.2.2))] := hD
  refine lv_goto (tgt := 19) hx hb d_M_cleanup_15 (by decide) ?_
  obtain rfl := Option.some.inj hF
  exact hJu3 _ _ _ (hP.sub [1, 2, 3, 4, 5, 6, 7, 8, 9, 0, 10] rfl) (hD.sub [1, 2, 3, 4, 5, 6, 7, 8, 9, 0, 10] (by decide) rfl) hS (lv_sub hl [0, 1, 2] rfl)

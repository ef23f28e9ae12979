def f_K_mostBitsTold (w : Int32) (h : Int32) : Int32 :=
  (((w * h) * (17 : Int32)) + (60 : Int32))
theorem d_K_mostBitsTold_0 : decode c_K_mostBitsTold 0 = .ok (.aload_n 0, 1) := by decide +kernel
theorem d_K_mostBitsTold_1 : decode c_K_mostBitsTold 1 = .ok (.getfield 9, 3) := by decide +kernel
theorem d_K_mostBitsTold_4 : decode c_K_mostBitsTold 4 = .ok (.aload_n 0, 1) := by decide +kernel
theorem d_K_mostBitsTold_5 : decode c_K_mostBitsTold 5 = .ok (.getfield 15, 3) := by decide +kernel
theorem d_K_mostBitsTold_8 : decode c_K_mostBitsTold 8 = .ok (.imul, 1) := by decide +kernel
theorem d_K_mostBitsTold_9 : decode c_K_mostBitsTold 9 = .ok (.bipush 17, 2) := by decide +kernel
theorem d_K_mostBitsTold_11 : decode c_K_mostBitsTold 11 = .ok (.imul, 1) := by decide +kernel
theorem d_K_mostBitsTold_12 : decode c_K_mostBitsTold 12 = .ok (.bipush 60, 2) := by decide +kernel
theorem d_K_mostBitsTold_14 : decode c_K_mostBitsTold 14 = .ok (.iadd, 1) := by decide +kernel
theorem d_K_mostBitsTold_15 : decode c_K_mostBitsTold 15 = .ok (.ireturn, 1) := by decide +kernel
abbrev rm_K_mostBitsTold : Room := { frames := 0, cells := 0, slots := 0, locals := 0 }
set_option maxHeartbeats 4000000 in
set_option maxRecDepth 100000 in
theorem m_K_mostBitsTold (l : Launch) (dC : Nat → ClassId) (dI : Nat → Nat → Nat) (q_bk : Nat) (w : Int32) (h : Int32) (sty : Int32) (bd : Int32) (str : Int32) (cel : Int32) (u : Int32) (hF : f_K_mostBitsTold w h = u) : Met l y_K_mostBitsTold (kws y_K_mostBitsTold c_K_mostBitsTold 1 (some .int)) rm_K_mostBitsTold (kRe (dC, dI) [.ref q_bk] [(q_bk, .inr (1, [.int w, .int h, .int sty, .int bd, .int str, .int cel]))] []) (k2_QcV (.int u)) 0 0 (fun _ => False) := by
  unfold f_K_mostBitsTold at hF
  refine kR_of (cc := c_K_mostBitsTold) (maxL := 1) (ret := (some .int)) (by decide) (Nat.le_of_ble_eq_true rfl) ?_
  intro p e s m args below meth c Q hQ hfx hP hK hN ls hl
  obtain ⟨hx, hb, hr, hml, hown, hts, hlocks⟩ := hfx
  have hown : s.vm.findClass R_K = some m.cls := hown
  have hl : lv_has ls 1 [(0, .ref q_bk)] := hl
  refine lv_aload_n hx hb d_K_mostBitsTold_0 rfl (lv_at hl 0 rfl) ?_
  refine va_get (D := (dC, dI)) (ci := 1) (v := .int w) (C := R_K) (T := T_K) (N := 6) hx hb hts ki_K hown hK hP 0 rfl rfl 0 (by decide) (hts _ kw_1_39) (fun _ h9 => h9) rfl d_K_mostBitsTold_1 ?_
  refine lv_aload_n hx hb d_K_mostBitsTold_4 rfl (lv_at hl 0 rfl) ?_
  refine va_get (D := (dC, dI)) (ci := 1) (v := .int h) (C := R_K) (T := T_K) (N := 6) hx hb hts ki_K hown hK hP 0 rfl rfl 1 (by decide) (hts _ kw_1_42) (fun _ h9 => h9) rfl d_K_mostBitsTold_5 ?_
  refine lv_imul hx hb d_K_mostBitsTold_8 ?_
  refine lv_bipush (v := 17) hx hb d_K_mostBitsTold_9 (by decide) ?_
  refine lv_imul hx hb d_K_mostBitsTold_11 ?_
  refine lv_bipush (v := 60) hx hb d_K_mostBitsTold_12 (by decide) ?_
  refine lv_iadd hx hb d_K_mostBitsTold_14 ?_
  subst hF
  exact kr_iret hx hb hr hlocks hQ d_K_mostBitsTold_15

/-! PURE: a column of the cleanup pass -/
def OP (p : Nat) (A : RA) (s : Nat) : Prop := A.2.2.1 s = -1 ∧ A.1 s = 0 ∧ A.2.2.2.2.1 s = 0 ∧ A.2.2.2.2.2 s = nI (p + 1) ∧ A.2.2.2.1 s = 0 ∧ (A.2.1 s = 0 ∨ A.2.1 s = 1)
theorem WI_at2 {W Hh κ p top x y0 y : Nat} {c : CA} {A : RA} (h : WI W Hh κ p top x y0 c A) (hx : x < W) (hy : y < Hh) (ht : top ≤ y) (hy0 : y0 ≤ y) :
    c.1 (ic W x y) = rS A.2.2.1 A.2.1 (ir x y) ∧ c.2.1 (ic W x y) = A.1 (ir x y) ∧ c.2.2 (ic W x y) = A.2.2.2.2.2 (ir x y) ∧ CK κ p (A.2.2.1 (ir x y)) (A.2.1 (ir x y)) (A.1 (ir x y)) (A.2.2.2.2.2 (ir x y)) (A.2.2.2.1 (ir x y)) (A.2.2.2.2.1 (ir x y)) := by
  have h2 := h.2.1 x y hx hy
  rw [show vis top x y0 x y = 0 from if_neg (by omega)] at h2
  exact ⟨h.1.1 x y hx hy, h2⟩
theorem open_T {W Hh p top x y0 y : Nat} {c : CA} {A : RA} (hW : W ≤ 16) (hH : Hh ≤ 16) (hp : p < 15) (h : WI W Hh 2 p top x y0 c A) (hx : x < W) (hy : y < Hh) (ht : top ≤ y) (hy0 : y0 ≤ y) :
    ∃ o : Bool, f_WT_isOpen (nI p) c.1 c.2.2 ((W + 2) * (Hh + 2)) ((W + 2) * (Hh + 2)) (nI (ic W x y)) = some (bI o) ∧ f_M_isOpen A.2.2.1 A.2.2.2.1 256 256 (nI x) (nI y) = some (bI o) ∧ (o = true → OP p A (ir x y))
      ∧ (o = false → CK 3 p (A.2.2.1 (ir x y)) (A.2.1 (ir x y)) (A.1 (ir x y)) (A.2.2.2.2.2 (ir x y)) (A.2.2.2.1 (ir x y)) (A.2.2.2.2.1 (ir x y))) := by
  have hn := nC_le hW hH
  have hn2 : ((W + 2) * (Hh + 2)) < 2 ^ 31 := by omega
  have hi := ic_lt hx hy
  have hs : ir x y < 256 := ir_lt (by omega) (by omega)
  obtain ⟨a1, a2, a3, a4⟩ := WI_at2 h hx hy ht hy0
  unfold f_WT_isOpen f_M_isOpen
  rw [pc_ok hi hn2, pc_ok hi hn2, cl_ok hi hn2, ir_e, pc_ok hs (by decide), pc_ok hs (by decide), cl_ok hs (by decide)]
  obtain ⟨hbe, ⟨c1, c2, c3, c4, c5, c6⟩ | ⟨c1, c2, c3, c4, c5⟩ | ⟨c1, c2, c3, c4, c5⟩ | ⟨f, q1, q2, q3, q4, q5, q6, q7, q8⟩ | ⟨f, q1, q2, q3, q4, q5, q6, q7⟩⟩ := a4
  · refine ⟨true, ?_, ?_, fun _ => ⟨c1, c2, c3, c4, c5, hbe⟩, fun q => by cases q⟩
    · rw [if_pos (by rw [a1]; exact rS_0.mpr c1), if_neg (by rw [a3, c4]; exact nI_ge (by omega) (by omega))]; rfl
    · rw [if_pos c1, if_pos c5]; rfl
  · refine ⟨false, ?_, ?_, (fun q => by cases q), fun _ => ⟨hbe, .inr (.inl ⟨c1, c2, c3, c4, .inl rfl⟩)⟩⟩
    · rw [if_pos (by rw [a1]; exact rS_0.mpr c1), if_pos (by rw [a3, c4]; exact nI_le (Nat.le_refl _) (by omega))]; rfl
    · rw [if_pos c1, if_neg (c5.resolve_left (by omega)).2]; rfl
  · refine ⟨false, ?_, ?_, (fun q => by cases q), fun _ => ⟨hbe, .inr (.inr (.inl ⟨c1, c2, c3, c4, by omega⟩))⟩⟩
    · rw [if_neg (by rw [a1]; exact fun q => nI_nm1 (by omega) (c1.symm.trans (rS_0.mp q)))]; rfl
    · rw [if_neg (by rw [c1]; exact nI_nm1 (by omega))]; rfl
  · omega
  · refine ⟨false, ?_, ?_, (fun q => by cases q), fun _ => ⟨hbe, .inr (.inr (.inr (.inr ⟨f, q1, q2, q3, q4, q5, q6, by omega⟩)))⟩⟩
    · rw [if_neg (by rw [a1]; exact fun q => nI_nm1 (by omega) (q3.symm.trans (rS_0.mp q)))]; rfl
    · rw [if_neg (by rw [q3]; exact nI_nm1 (by omega))]; rfl
theorem unt_T {W Hh x top p k : Nat} {st : Int32} {c : CA} {A : RA} (hW : W ≤ 16) (hH : Hh ≤ 16) (hk : k < 3) (hp : p < 15) (hx : x < W) (h4 : top + 4 ≤ Hh) (h : WI W Hh 2 p top x top c A) :
    ∀ (d j N N' : Nat), j + d = 4 → d < N → d < N' → ∃ e : Bool,
      ((f_WT_isUntouched_L12 (nI p) c.1 c.2.2 st (nI k) (nI (W + 2)) ((W + 2) * (Hh + 2)) ((W + 2) * (Hh + 2)) (nI x) (nI (top + 4)) N (nI (top + j))).bind fun u2 => if u2.1 = 0 then some (1 : Int32) else some (0 : Int32)) = some (bI e)
      ∧ (∃ v, f_M_isEmpty_L19 (nI W) (nI Hh) st (nI k) A.2.1 A.2.2.1 A.2.2.2.1 256 256 256 (nI x) (nI top) N' 1 (nI j) = some (bI e, v))
      ∧ (e = true → ∀ i, j ≤ i → i < 4 → OP p A (ir x (top + i))) := by
  intro d
  induction d with
  | zero =>
    intro j N N' hj hN hN'
    obtain rfl : j = 4 := by omega
    obtain ⟨N, rfl⟩ : ∃ q, N = q + 1 := ⟨N - 1, by omega⟩
    obtain ⟨N', rfl⟩ : ∃ q, N' = q + 1 := ⟨N' - 1, by omega⟩
    refine ⟨true, ?_, ⟨nI 4, ?_⟩, fun _ i _ _ => by omega⟩
    · rw [f_WT_isUntouched_L12, if_pos (nI_le (Nat.le_refl _) (by omega)), Option.bind_some, if_pos rfl]; rfl
    · rw [f_M_isEmpty_L19, if_pos (by decide)]; rfl
  | succ d ih =>
    intro j N N' hj hN hN'
    obtain ⟨N, rfl⟩ : ∃ q, N = q + 1 := ⟨N - 1, by omega⟩
    obtain ⟨N', rfl⟩ : ∃ q, N' = q + 1 := ⟨N' - 1, by omega⟩
    have hy : top + j < Hh := by omega
    obtain ⟨o, o1, o2, o3, o4⟩ := open_T hW hH hp h hx hy (by omega) (by omega)
    have b1 : ¬ nI (top + 4) ≤ nI (top + j) := nI_ge (by omega) (by omega)
    have b2 : ¬ (4 : Int32) ≤ nI j := nI_ge (a := j) (b := 4) (by omega) (by omega)
    rw [f_WT_isUntouched_L12, if_neg b1, cellOf_ok, isBlind_ok (by omega), o1, Option.bind_some, f_M_isEmpty_L19, if_neg b2, if_neg (show ¬ (1 : Int32) = 0 by decide), nI_add, o2, Option.bind_some]
    have stop : ∀ q, ∃ v, f_M_isEmpty_L19 (nI W) (nI Hh) st (nI k) A.2.1 A.2.2.1 A.2.2.2.1 256 256 256 (nI x) (nI top) N' 0 q = some (bI false, v) := by
      intro q
      obtain ⟨N', rfl⟩ : ∃ q, N' = q + 1 := ⟨N' - 1, by omega⟩
      rw [f_M_isEmpty_L19]
      by_cases hq : (4 : Int32) ≤ q
      · rw [if_pos hq]; exact ⟨_, rfl⟩
      · rw [if_neg hq, if_pos rfl]; exact ⟨_, rfl⟩
    cases o with
    | false =>
      rw [if_pos bI_ff, if_pos bI_ff, Option.bind_some]
      exact ⟨false, rfl, stop _, fun q => by cases q⟩
    | true =>
      rw [if_neg (show ¬ bI true = 0 by decide), if_neg (show ¬ bI true = 0 by decide), WT_ctx_ok hW hH hx hy, Option.bind_some, Mctx_ok hW hH hk h.1 hx hy, Option.bind_some]
      by_cases hz : ctxV W st (nI k) c.1 x (top + j) = 0
      · rw [if_pos hz, if_pos hz, Option.bind_some, nI_1, nI_1]
        obtain ⟨e, e1, e2, e3⟩ := ih (j + 1) N N' (by omega) (by omega) (by omega)
        refine ⟨e, e1, e2, fun he i hi1 hi2 => ?_⟩
        by_cases hi : i = j
        · subst hi; exact o3 rfl
        · exact e3 he i (by omega) hi2
      · rw [if_neg hz, if_neg hz, Option.bind_some]
        exact ⟨false, rfl, stop _, fun q => by cases q⟩
theorem untouched_T {W Hh x top bot p k : Nat} {st : Int32} {c : CA} {A : RA} (hW : W ≤ 16) (hH : Hh ≤ 16) (hk : k < 3) (hp : p < 15) (hx : x < W) (htH : top < Hh) (hbH : bot ≤ Hh) (hb4 : bot ≤ top + 4) (hbe : bot = top + 4 ∨ bot = Hh) (htb : top ≤ bot) (h : WI W Hh 2 p top x top c A) :
    ∃ e : Bool, f_WT_isUntouched (nI p) c.1 c.2.2 st (nI k) (nI (W + 2)) ((W + 2) * (Hh + 2)) ((W + 2) * (Hh + 2)) (nI x) (nI top) (nI bot) = some (bI e)
      ∧ f_M_isEmpty (nI W) (nI Hh) st (nI k) A.2.1 A.2.2.1 A.2.2.2.1 256 256 256 (nI x) (nI top) = some (bI e)
      ∧ (e = true → top + 4 ≤ Hh ∧ bot = top + 4 ∧ ∀ i, i < 4 → OP p A (ir x (top + i))) := by
  unfold f_WT_isUntouched f_M_isEmpty
  rw [pk_sub htb, show nI top + (4 : Int32) = nI (top + 4) from nI_add top 4]
  by_cases h4 : top + 4 ≤ Hh
  · obtain rfl : bot = top + 4 := by omega
    obtain ⟨e, e1, ⟨v, e2⟩, e3⟩ := unt_T (st := st) hW hH hk hp hx h4 h 4 0 kBig kBig (by omega) (by decide) (by decide)
    rw [if_pos (by rw [Nat.add_sub_cancel_left]; decide), if_neg (nI_nlt h4 (by omega)), Option.bind_some]
    rw [show top + 0 = top from rfl] at e1
    rw [nI_0] at e2
    rw [e1, e2, Option.bind_some, if_neg (show ¬ ¬ (bI e = 0 ∨ bI e = 1) from fun q => q (bI_01 e))]
    exact ⟨e, rfl, rfl, fun he => ⟨h4, rfl, fun i hi => e3 he i (by omega) hi⟩⟩
  · rw [if_neg (show ¬ (4 : Int32) ≤ nI (bot - top) from nI_ge (a := bot - top) (b := 4) (by omega) (by omega)), if_pos (nI_lt (by omega) (by omega)), Option.bind_some, show kBig = 99999 + 1 from rfl, f_M_isEmpty_L19, if_neg (by decide), if_pos rfl, Option.bind_some, if_neg (by decide)]
    exact ⟨false, rfl, rfl, fun q => by cases q⟩
theorem open_L {W Hh p top x y0 y : Nat} {c : CA} {A : RA} (hW : W ≤ 16) (hH : Hh ≤ 16) (hp : p < 15) (h : WI W Hh 2 p top x y0 c A) (hx : x < W) (hy : y < Hh) (ht : top ≤ y) (hy0 : y0 ≤ y) :
    ∃ o : Bool, f_WL_isOpen (nI p) c.1 c.2.2 ((W + 2) * (Hh + 2)) ((W + 2) * (Hh + 2)) (nI (ic W x y)) = some (bI o) ∧ f_M_isOpen A.2.2.1 A.2.2.2.1 256 256 (nI x) (nI y) = some (bI o) ∧ (o = true → OP p A (ir x y))
      ∧ (o = false → CK 3 p (A.2.2.1 (ir x y)) (A.2.1 (ir x y)) (A.1 (ir x y)) (A.2.2.2.2.2 (ir x y)) (A.2.2.2.1 (ir x y)) (A.2.2.2.2.1 (ir x y))) := by
  have hn := nC_le hW hH
  have hn2 : ((W + 2) * (Hh + 2)) < 2 ^ 31 := by omega
  have hi := ic_lt hx hy
  have hs : ir x y < 256 := ir_lt (by omega) (by omega)
  obtain ⟨a1, a2, a3, a4⟩ := WI_at2 h hx hy ht hy0
  unfold f_WL_isOpen f_M_isOpen
  rw [pc_ok hi hn2, pc_ok hi hn2, cl_ok hi hn2, ir_e, pc_ok hs (by decide), pc_ok hs (by decide), cl_ok hs (by decide)]
  obtain ⟨hbe, ⟨c1, c2, c3, c4, c5, c6⟩ | ⟨c1, c2, c3, c4, c5⟩ | ⟨c1, c2, c3, c4, c5⟩ | ⟨f, q1, q2, q3, q4, q5, q6, q7, q8⟩ | ⟨f, q1, q2, q3, q4, q5, q6, q7⟩⟩ := a4
  · refine ⟨true, ?_, ?_, fun _ => ⟨c1, c2, c3, c4, c5, hbe⟩, fun q => by cases q⟩
    · rw [if_pos (by rw [a1]; exact rS_0.mpr c1), if_neg (by rw [a3, c4]; exact nI_ge (by omega) (by omega))]; rfl
    · rw [if_pos c1, if_pos c5]; rfl
  · refine ⟨false, ?_, ?_, (fun q => by cases q), fun _ => ⟨hbe, .inr (.inl ⟨c1, c2, c3, c4, .inl rfl⟩)⟩⟩
    · rw [if_pos (by rw [a1]; exact rS_0.mpr c1), if_pos (by rw [a3, c4]; exact nI_le (Nat.le_refl _) (by omega))]; rfl
    · rw [if_pos c1, if_neg (c5.resolve_left (by omega)).2]; rfl
  · refine ⟨false, ?_, ?_, (fun q => by cases q), fun _ => ⟨hbe, .inr (.inr (.inl ⟨c1, c2, c3, c4, by omega⟩))⟩⟩
    · rw [if_neg (by rw [a1]; exact fun q => nI_nm1 (by omega) (c1.symm.trans (rS_0.mp q)))]; rfl
    · rw [if_neg (by rw [c1]; exact nI_nm1 (by omega))]; rfl
  · omega
  · refine ⟨false, ?_, ?_, (fun q => by cases q), fun _ => ⟨hbe, .inr (.inr (.inr (.inr ⟨f, q1, q2, q3, q4, q5, q6, by omega⟩)))⟩⟩
    · rw [if_neg (by rw [a1]; exact fun q => nI_nm1 (by omega) (q3.symm.trans (rS_0.mp q)))]; rfl
    · rw [if_neg (by rw [q3]; exact nI_nm1 (by omega))]; rfl
theorem unt_L {W Hh x top p k : Nat} {st : Int32} {c : CA} {A : RA} (hW : W ≤ 16) (hH : Hh ≤ 16) (hk : k < 3) (hp : p < 15) (hx : x < W) (h4 : top + 4 ≤ Hh) (h : WI W Hh 2 p top x top c A) :
    ∀ (d j N N' : Nat), j + d = 4 → d < N → d < N' → ∃ e : Bool,
      ((f_WL_isUntouched_L12 (nI p) c.1 c.2.2 st (nI k) (nI (W + 2)) ((W + 2) * (Hh + 2)) ((W + 2) * (Hh + 2)) (nI x) (nI (top + 4)) N (nI (top + j))).bind fun u2 => if u2.1 = 0 then some (1 : Int32) else some (0 : Int32)) = some (bI e)
      ∧ (∃ v, f_M_isEmpty_L19 (nI W) (nI Hh) st (nI k) A.2.1 A.2.2.1 A.2.2.2.1 256 256 256 (nI x) (nI top) N' 1 (nI j) = some (bI e, v))
      ∧ (e = true → ∀ i, j ≤ i → i < 4 → OP p A (ir x (top + i))) := by
  intro d
  induction d with
  | zero =>
    intro j N N' hj hN hN'
    obtain rfl : j = 4 := by omega
    obtain ⟨N, rfl⟩ : ∃ q, N = q + 1 := ⟨N - 1, by omega⟩
    obtain ⟨N', rfl⟩ : ∃ q, N' = q + 1 := ⟨N' - 1, by omega⟩
    refine ⟨true, ?_, ⟨nI 4, ?_⟩, fun _ i _ _ => by omega⟩
    · rw [f_WL_isUntouched_L12, if_pos (nI_le (Nat.le_refl _) (by omega)), Option.bind_some, if_pos rfl]; rfl
    · rw [f_M_isEmpty_L19, if_pos (by decide)]; rfl
  | succ d ih =>
    intro j N N' hj hN hN'
    obtain ⟨N, rfl⟩ : ∃ q, N = q + 1 := ⟨N - 1, by omega⟩
    obtain ⟨N', rfl⟩ : ∃ q, N' = q + 1 := ⟨N' - 1, by omega⟩
    have hy : top + j < Hh := by omega
    obtain ⟨o, o1, o2, o3, o4⟩ := open_L hW hH hp h hx hy (by omega) (by omega)
    have b1 : ¬ nI (top + 4) ≤ nI (top + j) := nI_ge (by omega) (by omega)
    have b2 : ¬ (4 : Int32) ≤ nI j := nI_ge (a := j) (b := 4) (by omega) (by omega)
    rw [f_WL_isUntouched_L12, if_neg b1, cellOf_ok, isBlind_ok (by omega), o1, Option.bind_some, f_M_isEmpty_L19, if_neg b2, if_neg (show ¬ (1 : Int32) = 0 by decide), nI_add, o2, Option.bind_some]
    have stop : ∀ q, ∃ v, f_M_isEmpty_L19 (nI W) (nI Hh) st (nI k) A.2.1 A.2.2.1 A.2.2.2.1 256 256 256 (nI x) (nI top) N' 0 q = some (bI false, v) := by
      intro q
      obtain ⟨N', rfl⟩ : ∃ q, N' = q + 1 := ⟨N' - 1, by omega⟩
      rw [f_M_isEmpty_L19]
      by_cases hq : (4 : Int32) ≤ q
      · rw [if_pos hq]; exact ⟨_, rfl⟩
      · rw [if_neg hq, if_pos rfl]; exact ⟨_, rfl⟩
    cases o with
    | false =>
      rw [if_pos bI_ff, if_pos bI_ff, Option.bind_some]
      exact ⟨false, rfl, stop _, fun q => by cases q⟩
    | true =>
      rw [if_neg (show ¬ bI true = 0 by decide), if_neg (show ¬ bI true = 0 by decide), WL_ctx_ok hW hH hx hy, Option.bind_some, Mctx_ok hW hH hk h.1 hx hy, Option.bind_some]
      by_cases hz : ctxV W st (nI k) c.1 x (top + j) = 0
      · rw [if_pos hz, if_pos hz, Option.bind_some, nI_1, nI_1]
        obtain ⟨e, e1, e2, e3⟩ := ih (j + 1) N N' (by omega) (by omega) (by omega)
        refine ⟨e, e1, e2, fun he i hi1 hi2 => ?_⟩
        by_cases hi : i = j
        · subst hi; exact o3 rfl
        · exact e3 he i (by omega) hi2
      · rw [if_neg hz, if_neg hz, Option.bind_some]
        exact ⟨false, rfl, stop _, fun q => by cases q⟩
theorem untouched_L {W Hh x top bot p k : Nat} {st : Int32} {c : CA} {A : RA} (hW : W ≤ 16) (hH : Hh ≤ 16) (hk : k < 3) (hp : p < 15) (hx : x < W) (htH : top < Hh) (hbH : bot ≤ Hh) (hb4 : bot ≤ top + 4) (hbe : bot = top + 4 ∨ bot = Hh) (htb : top ≤ bot) (h : WI W Hh 2 p top x top c A) :
    ∃ e : Bool, f_WL_isUntouched (nI p) c.1 c.2.2 st (nI k) (nI (W + 2)) ((W + 2) * (Hh + 2)) ((W + 2) * (Hh + 2)) (nI x) (nI top) (nI bot) = some (bI e)
      ∧ f_M_isEmpty (nI W) (nI Hh) st (nI k) A.2.1 A.2.2.1 A.2.2.2.1 256 256 256 (nI x) (nI top) = some (bI e)
      ∧ (e = true → top + 4 ≤ Hh ∧ bot = top + 4 ∧ ∀ i, i < 4 → OP p A (ir x (top + i))) := by
  unfold f_WL_isUntouched f_M_isEmpty
  rw [pk_sub htb, show nI top + (4 : Int32) = nI (top + 4) from nI_add top 4]
  by_cases h4 : top + 4 ≤ Hh
  · obtain rfl : bot = top + 4 := by omega
    obtain ⟨e, e1, ⟨v, e2⟩, e3⟩ := unt_L (st := st) hW hH hk hp hx h4 h 4 0 kBig kBig (by omega) (by decide) (by decide)
    rw [if_pos (by rw [Nat.add_sub_cancel_left]; decide), if_neg (nI_nlt h4 (by omega)), Option.bind_some]
    rw [show top + 0 = top from rfl] at e1
    rw [nI_0] at e2
    rw [e1, e2, Option.bind_some, if_neg (show ¬ ¬ (bI e = 0 ∨ bI e = 1) from fun q => q (bI_01 e))]
    exact ⟨e, rfl, rfl, fun he => ⟨h4, rfl, fun i hi => e3 he i (by omega) hi⟩⟩
  · rw [if_neg (show ¬ (4 : Int32) ≤ nI (bot - top) from nI_ge (a := bot - top) (b := 4) (by omega) (by omega)), if_pos (nI_lt (by omega) (by omega)), Option.bind_some, show kBig = 99999 + 1 from rfl, f_M_isEmpty_L19, if_neg (by decide), if_pos rfl, Option.bind_some, if_neg (by decide)]
    exact ⟨false, rfl, rfl, fun q => by cases q⟩
/-! marks of a run -/
def mkL (W x top p : Nat) (low : Nat → Int32) : Nat → (Nat → Int32)
  | 0 => low
  | n + 1 => upd (mkL W x top p low n) (ic W x (top + n)) (nI p)
def mkS (x top p : Nat) (sz : Nat → Int32) : Nat → (Nat → Int32)
  | 0 => sz
  | n + 1 => upd (mkS x top p sz n) (ir x (top + n)) (mkS x top p sz n (ir x (top + n)) ||| ((0 : Int32) <<< (nI p &&& 31)))
def mkR (x top p : Nat) (lo : Nat → Int32) : Nat → (Nat → Int32)
  | 0 => lo
  | n + 1 => upd (mkR x top p lo n) (ir x (top + n)) (nI p)
theorem mkL_ge {W x top p : Nat} {low : Nat → Int32} (hx : x < W) : ∀ n j, n ≤ j → mkL W x top p low n (ic W x (top + j)) = low (ic W x (top + j)) := by
  intro n
  induction n with
  | zero => intro j _; rfl
  | succ n ih =>
    intro j hj
    unfold mkL
    rw [pk_un (fun q => by have := ic_inj hx hx q; omega), ih j (by omega)]
theorem mkS_ge {x top p : Nat} {sz : Nat → Int32} (hx : x < 16) : ∀ n j, n ≤ j → mkS x top p sz n (ir x (top + j)) = sz (ir x (top + j)) := by
  intro n
  induction n with
  | zero => intro j _; rfl
  | succ n ih =>
    intro j hj
    unfold mkS
    rw [pk_un (fun q => by have := ir_inj hx hx q; omega), ih j (by omega)]
theorem mkR_ge {x top p : Nat} {lo : Nat → Int32} (hx : x < 16) : ∀ n j, n ≤ j → mkR x top p lo n (ir x (top + j)) = lo (ir x (top + j)) := by
  intro n
  induction n with
  | zero => intro j _; rfl
  | succ n ih =>
    intro j hj
    unfold mkR
    rw [pk_un (fun q => by have := ir_inj hx hx q; omega), ih j (by omega)]
theorem mk_WI {W Hh x top p : Nat} {c : CA} {A : RA} (hW : W ≤ 16) (hp : p < 15) (hx : x < W) (h4 : top + 4 ≤ Hh) (h : WI W Hh 2 p top x top c A) (ho : ∀ i, i < 4 → OP p A (ir x (top + i))) :
    ∀ n, n ≤ 4 → WI W Hh 2 p top x (top + n) (c.1, c.2.1, mkL W x top p c.2.2 n) (mkS x top p A.1 n, A.2.1, A.2.2.1, A.2.2.2.1, A.2.2.2.2.1, mkR x top p A.2.2.2.2.2 n) := by
  intro n
  induction n with
  | zero => intro _; exact h
  | succ n ih =>
    intro hn
    obtain ⟨o1, o2, o3, o4, o5, o6⟩ := ho n (by omega)
    obtain ⟨a1, a2, a3, a4⟩ := WI_at2 h hx (show top + n < Hh by omega) (by omega) (by omega)
    refine WI_step (y := top + n) (ih (by omega)) hW hx (by omega) (by omega) (by omega) (fun i hi => ⟨rfl, rfl, pk_un hi⟩) (fun t ht => ⟨pk_un ht, rfl, rfl, rfl, rfl, pk_un ht⟩) a1 ?_ (pk_us.trans pk_us.symm) ?_
    · refine Eq.trans ?_ pk_us.symm
      show c.2.1 (ic W x (top + n)) = _
      rw [mkS_ge (by omega) n n (Nat.le_refl _), a2, o2, shl0 p hp]; rfl
    · show CK 3 p _ _ (upd _ _ _ _) (upd _ _ _ _) _ _
      rw [pk_us, pk_us, mkS_ge (by omega) n n (Nat.le_refl _), o2, shl0 p hp]
      exact ⟨o6, .inr (.inl ⟨o1, rfl, o3, rfl, .inl rfl⟩)⟩
theorem mk_Phi {W Hh x top p : Nat} {c : CA} {A : RA} (hp : p < 15) (hx : x < W) (h4 : top + 4 ≤ Hh) (h : WI W Hh 2 p top x top c A) (ho : ∀ i, i < 4 → OP p A (ir x (top + i))) :
    ∀ n, n < 4 → Phi W Hh (c.1, c.2.1, mkL W x top p c.2.2 (n + 1)) + 1 ≤ Phi W Hh (c.1, c.2.1, mkL W x top p c.2.2 n) := by
  intro n hn
  obtain ⟨o1, o2, o3, o4, o5, o6⟩ := ho n (by omega)
  obtain ⟨a1, a2, a3, a4⟩ := WI_at2 h hx (show top + n < Hh by omega) (by omega) (by omega)
  refine Phi_step (y := top + n) hx (by omega) (fun i hi => ⟨rfl, rfl, pk_un hi⟩) ?_ (fun q => q)
  unfold g1
  rw [mkL]
  simp only [pk_us]
  rw [mkL_ge hx n n (Nat.le_refl _), a3, o4, nI_clamp (by omega), nI_clamp (by omega)]; omega
theorem mk_Phi0 {W Hh x top p : Nat} {c : CA} {A : RA} (hp : p < 15) (hx : x < W) (h4 : top + 4 ≤ Hh) (h : WI W Hh 2 p top x top c A) (ho : ∀ i, i < 4 → OP p A (ir x (top + i))) :
    ∀ n, n ≤ 4 → Phi W Hh (c.1, c.2.1, mkL W x top p c.2.2 n) + n ≤ Phi W Hh c := by
  intro n
  induction n with
  | zero => intro _; exact Nat.le_refl _
  | succ n ih =>
    intro hn
    have h1 := mk_Phi hp hx h4 h ho n (by omega)
    have h2 := ih (by omega)
    omega
/-- the room that a run with a found sample frees -/
theorem run_Phi {W Hh x t at_ p : Nat} {c : CA} {A : RA} (hp : p < 15) (hx : x < W) (h4 : 4 * t + 4 ≤ Hh) (h : WI W Hh 2 p (4 * t) x (4 * t) c A) (ho : ∀ i, i < 4 → OP p A (ir x (4 * t + i))) (ha : at_ < 4) (v w : Int32) (hv : ¬ v = 0) :
    Phi W Hh (upd c.1 (ic W x (4 * t + at_)) v, upd c.2.1 (ic W x (4 * t + at_)) w, mkL W x (4 * t) p c.2.2 (at_ + 1)) + 4 ≤ Phi W Hh c := by
  have hz : ∀ i, i < 4 → c.1 (ic W x (4 * t + i)) = 0 := by
    intro i hi
    rw [(WI_at2 h hx (show 4 * t + i < Hh by omega) (by omega) (by omega)).1]; exact rS_0.mpr (ho i hi).1
  have h0 := mk_Phi0 hp hx h4 h ho at_ (by omega)
  have hlo : mkL W x (4 * t) p c.2.2 at_ (ic W x (4 * t + at_)) = nI (p + 1) := by
    rw [mkL_ge hx at_ at_ (Nat.le_refl _), (WI_at2 h hx (show 4 * t + at_ < Hh by omega) (by omega) (by omega)).2.2.1]; exact (ho at_ ha).2.2.2.1
  have e : ∀ x' y', x' < W → ¬ (x' = x ∧ y' = 4 * t + at_) → ic W x' y' ≠ ic W x (4 * t + at_) := fun x' y' hx' hq q => hq (ic_inj hx' hx q)
  have k1 : S2 W Hh (g1 W (upd c.1 (ic W x (4 * t + at_)) v, upd c.2.1 (ic W x (4 * t + at_)) w, mkL W x (4 * t) p c.2.2 (at_ + 1))) + 2 ≤ S2 W Hh (g1 W (c.1, c.2.1, mkL W x (4 * t) p c.2.2 at_)) := by
    refine S2_d (x0 := x) (y0 := 4 * t + at_) ?_ hx (by omega) ?_
    · intro x' y' hx' hy'
      by_cases hq : x' = x ∧ y' = 4 * t + at_
      · obtain ⟨rfl, rfl⟩ := hq
        unfold g1
        rw [mkL]
        simp only [pk_us, hv, ↓reduceIte, hlo]
        rw [nI_clamp (by omega), nI_clamp (by omega)]; omega
      · unfold g1; rw [mkL]
        simp only [pk_un (e x' y' hx' hq)]
        exact Nat.le_refl _
    · unfold g1; rw [mkL]
      simp only [pk_us, hv, ↓reduceIte, hlo, hz at_ ha]
      rw [nI_clamp (by omega), nI_clamp (by omega)]; omega
  have k2 : S2 W (Hh / 4) (g2 W (upd c.1 (ic W x (4 * t + at_)) v, upd c.2.1 (ic W x (4 * t + at_)) w, mkL W x (4 * t) p c.2.2 (at_ + 1))) + 2 ≤ S2 W (Hh / 4) (g2 W (c.1, c.2.1, mkL W x (4 * t) p c.2.2 at_)) := by
    refine S2_d (x0 := x) (y0 := t) ?_ hx (by omega) ?_
    · intro x' t' hx' _
      refine g2_le (fun y' q => ?_)
      by_cases hq : x' = x ∧ y' = 4 * t + at_
      · obtain ⟨rfl, rfl⟩ := hq
        rw [show (upd c.1 _ v, _, _).1 _ = upd c.1 _ v _ from rfl, pk_us] at q
        exact absurd q hv
      · rw [show (upd c.1 _ v, _, _).1 _ = upd c.1 _ v _ from rfl, pk_un (e x' y' hx' hq)] at q
        exact q
    · have z0 := hz 0 (by omega)
      rw [Nat.add_zero] at z0
      unfold g2
      rw [if_pos (show ((c.1, c.2.1, mkL W x (4 * t) p c.2.2 at_) : CA).1 _ = 0 ∧ _ from ⟨z0, hz 1 (by omega), hz 2 (by omega), hz 3 (by omega)⟩), if_neg]
      · omega
      · rintro ⟨w0, w1, w2, w3⟩
        have : upd c.1 (ic W x (4 * t + at_)) v (ic W x (4 * t + at_)) = 0 := by
          rcases (show at_ = 0 ∨ at_ = 1 ∨ at_ = 2 ∨ at_ = 3 by omega) with rfl | rfl | rfl | rfl
          · exact w0
          · exact w1
          · exact w2
          · exact w3
        rw [pk_us] at this
        exact hv this
  unfold Phi at *
  omega

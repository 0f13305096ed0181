/-! THE PURE SIDE, 31: what follows what; ties, fills, rules, farms -/
theorem i32_put (a x v : Int32) : a + x + (v - x) = a + v := by
  rw [Int32.add_assoc, Int32.sub_eq_add_neg, Int32.add_comm v, ← Int32.add_assoc x, Int32.add_right_neg, Int32.zero_add]
theorem hzJ_put {f f' : Nat → Int32} {j : Nat} {v : Int32} (hj : f' j = v) (ho : ∀ k, k ≠ j → f' k = f k) : ∀ n, hzJ f' n = if j < n then hzJ f n + (v - f j) else hzJ f n
  | 0 => rfl
  | n + 1 => by
    rw [hzJ, hzJ, hzJ_put hj ho n]
    by_cases e : j = n
    · subst e
      rw [if_neg (Nat.lt_irrefl j), if_pos (Nat.lt_succ_self j), hj, i32_put]
    · rw [ho n (fun q => e q.symm)]
      by_cases h : j < n
      · rw [if_pos h, if_pos (by omega), Int32.add_assoc, Int32.add_assoc, Int32.add_comm (f n)]
      · rw [if_neg h, if_neg (by omega)]
theorem HX0.u_fo {A : Nat → Nat → Int32} {B : Nat → Nat → Int64} {C : Nat → Nat → Nat → Int32} {D : (Nat → Nat → Nat → Int64) × (Nat × (Nat → Int32))} {g : Nat → Nat → Int32} (h : HX0 (A, B, C, D) g) (i j : Nat) (hi : i < 5) (hj : j < 5) (v : Int32) : HX0 (A, B, hwU3 (hwU3 C 26 i j v) 27 0 i (C 27 0 i + (v - C 26 i j)), D) (hwU2 g 75 (5 * i + j) v) := by
  unfold HX0
  simp (disch := omega) only [hwU3_t, u2_t, u2_k, sSt_o, sCs_o]
  refine ⟨h.ly, h.set, h.bs, h.sa, h.si, up2 i j hj v h.fo, fun x hx => ?_, h.pl, h.fi, h.sg, h.dy, h.wa, h.ti, h.ru, h.ki, h.mo, h.sp, h.fa, h.fp, h.fn, h.td, h.tp, h.tx, h.rl, h.im, h.is, h.ir, h.il, h.ih, h.if_, h.id_, h.iw, h.ig, h.it, h.so, h.sz, h.ce, h.cs⟩
  by_cases e : x = i
  · subst e
    rw [hwU3_eq, hzJ_put (f := fun j => g 75 (5 * x + j)) (f' := fun y => hwU2 g 75 (5 * x + j) v 75 (5 * x + y)) (j := j) (v := v) hwU2_eq (fun k hk => u2_k (by omega)), if_pos hj]
    exact congr (congrArg HAdd.hAdd (h.al x hx)) (congrArg (fun q => v - q) (h.fo x j hx hj))
  · rw [hwU3_k e]
    have t : hwU3 C 26 i j v 27 = C 27 := hwU3_t (by decide)
    rw [t]
    refine (h.al x hx).trans (hzJ_congr 5 (fun k hk => (u2_k ?_).symm))
    omega
theorem w_follow (N : Nat) {g : Nat → Nat → Int32} (hw : Wf g) (a b c : Int32) : Tw (F_X11_follow N a b c) (F_X12_follow N a b c) g (fun _ => True) := by
  have hL := sL_le hw
  rcases rg_c a (c := sL g) (by omega) with ⟨i, hi, rfl⟩ | hq
  rotate_left
  · refine Tw.st hw trivial (Int32.ofInt (-1)) (fun σ h => ?_) (fun σ h => ?_)
    · unfold F_X11_follow; rw [x_lyN hw h hq, Option.bind_some, k00]
    · unfold F_X12_follow; rw [m_lyN hw h hq, Option.bind_some, k00]
  rcases rg_c b (c := sL g) (by omega) with ⟨j, hj, rfl⟩ | hq
  rotate_left
  · refine Tw.st hw trivial (Int32.ofInt (-1)) (fun σ h => ?_) (fun σ h => ?_)
    · unfold F_X11_follow; rw [x_lyY hw h hi, Option.bind_some, k10, x_lyN hw h hq, Option.bind_some, k00]
    · unfold F_X12_follow; rw [m_lyY hw h hi, Option.bind_some, k10, m_lyN hw h hq, Option.bind_some, k00]
  rcases rg_m c 0 9 (by decide) (by decide) with ⟨v, v0, hv, rfl⟩ | hq
  rotate_left
  · refine Tw.st hw trivial (Int32.ofInt (-2)) (fun σ h => ?_) (fun σ h => ?_)
    · unfold F_X11_follow; rw [x_lyY hw h hi, Option.bind_some, k10, x_lyY hw h hj, Option.bind_some, k10, show F_X11_within N c 0 9 _ = _ from x_in_n hq, Option.bind_some, k00]
    · unfold F_X12_follow; rw [m_lyY hw h hi, Option.bind_some, k10, m_lyY hw h hj, Option.bind_some, k10, show F_X12_in N c 0 9 _ = _ from m_in_n hq, Option.bind_some, k00]
  have wf : Wf (hwU2 g 75 (5 * i + j) (nI v)) := by
    refine hw.u_fo _ (isN_nI hv (by decide)) (fun x y hx hy q => ?_)
    change sL g ≤ x ∨ sL g ≤ y at q
    omega
  refine ⟨g 75 (5 * i + j), _, ⟨wf, trivial⟩, fun σ h => ?_, fun σ h => ⟨(σ.1, σ.2.1, hwU3 σ.2.2.1 75 0 (5 * i + j) (nI v), σ.2.2.2.1, σ.2.2.2.2), ?_, KR.w (by decide), ?_⟩⟩
  · refine ⟨(σ.1, σ.2.1, hwU3 (hwU3 σ.2.2.1 26 i j (nI v)) 27 0 i (σ.2.2.1 27 0 i + (nI v - σ.2.2.1 26 i j)), σ.2.2.2.1, σ.2.2.2.2), ?_, KC.trans (KC.w (show 26 < 72 by decide)) (KC.w (show 27 < 72 by decide)), HX0.u_fo (show HX0 (σ.1, σ.2.1, σ.2.2.1, σ.2.2.2.1, σ.2.2.2.2) g from h.1) i j (by omega) (by omega) (nI v), ?_⟩
    · unfold F_X11_follow F_X2_reweigh
      rw [x_lyY hw h hi, Option.bind_some, k10, x_lyY hw h hj, Option.bind_some, k10, show F_X11_within N (nI v) 0 9 _ = _ from x_rgY v0 hv (by decide), Option.bind_some, k10, if_neg (out_nI (by omega) (by decide)), if_neg (out_nI (by omega) (by decide)), if_neg (out_nI (by omega) (by decide)), if_neg (out_nI (by omega) (by decide)), if_neg (out_nI (by omega) (by decide)), if_neg (out_nI (by omega) (by decide)), Option.bind_some, nI_clamp (by omega), nI_clamp (by omega), ← h.1.fo i j (by omega) (by omega)]
    · refine h.2.cg ?_ ?_ ?_ ?_ ?_ ?_ ?_ ?_ ?_ ?_ <;> simp (disch := omega) only [hwU3_t, u2_t, u2_k]
  · unfold F_X12_follow
    rw [m_lyY hw h hi, Option.bind_some, k10, m_lyY hw h hj, Option.bind_some, k10, show F_X12_in N (nI v) 0 9 _ = _ from m_rgY v0 hv (by decide), Option.bind_some, k10, ix5, if_neg (out_nI (by omega) (by decide)), if_neg (out_nI (by omega) (by decide)), nI_clamp (by omega), rA h (by decide) (by decide)]
  · rw [gM_u3 (by decide) (by decide)]; exact congrArg (fun q => hwU2 q 75 (5 * i + j) (nI v)) h
theorem w_fill (N : Nat) {g : Nat → Nat → Int32} (hw : Wf g) (a : Int32) : Tw (F_X11_fill N a) (F_X12_fill N a) g (fun _ => True) := by
  have hP := (sPl_eq hw).2
  rcases rg_c a (c := sPl g) (by omega) with ⟨p, hp, rfl⟩ | hq
  rotate_left
  · refine Tw.st hw trivial (Int32.ofInt (-1)) (fun σ h => ?_) (fun σ h => ?_)
    · unfold F_X11_fill; rw [x_plN hw h hq, Option.bind_some, k00]
    · unfold F_X12_fill; rw [m_plN hw h hq, Option.bind_some, k00]
  have wf : Wf (hwU2 (hwU2 g 77 p 0) 78 p 0) := (hw.u_dy p (isN_nI (k := 0) (by decide) (by decide))).u_wa p (isN_nI (k := 0) (by decide) (by decide))
  refine ⟨g 77 p, _, ⟨wf, trivial⟩, fun σ h => ⟨(σ.1, σ.2.1, hwU3 (hwU3 σ.2.2.1 58 0 p 0) 59 0 p 0, σ.2.2.2.1, σ.2.2.2.2), ?_, KC.trans (KC.w (show 58 < 72 by decide)) (KC.w (show 59 < 72 by decide)), HX0.u_wa (HX0.u_dy (show HX0 (σ.1, σ.2.1, σ.2.2.1, σ.2.2.2.1, σ.2.2.2.2) g from h.1) p 0) p 0, ?_⟩, fun σ h => ⟨(σ.1, σ.2.1, hwU3 (hwU3 σ.2.2.1 77 0 p 0) 78 0 p 0, σ.2.2.2.1, σ.2.2.2.2), ?_, KR.trans (KR.w (show 72 ≤ 77 by decide)) (KR.w (show 72 ≤ 78 by decide)), ?_⟩⟩
  · unfold F_X11_fill
    rw [x_plY hw h hp, Option.bind_some, k10, if_neg (out_nI (by omega) (by decide)), if_neg (out_nI (by omega) (by decide)), if_neg (out_nI (by omega) (by decide)), nI_clamp (by omega), h.1.dy p (by omega)]
  · refine h.2.cg ?_ ?_ ?_ ?_ ?_ ?_ ?_ ?_ ?_ ?_ <;> simp (disch := omega) only [hwU3_t, u2_t, u2_k]
  · unfold F_X12_fill
    rw [m_plY hw h hp, Option.bind_some, k10, if_neg (out_nI (by omega) (by decide)), if_neg (out_nI (by omega) (by decide)), if_neg (out_nI (by omega) (by decide)), nI_clamp (by omega), rA h (by decide) (by decide)]
  · rw [gM_u3 (by decide) (by decide), gM_u3 (by decide) (by decide)]; exact congrArg (fun q => hwU2 (hwU2 q 77 p 0) 78 p 0) h
theorem w_ties (N : Nat) {g : Nat → Nat → Int32} (hw : Wf g) (a b c : Int32) : Tw (F_X11_ties N a b c) (F_X12_ties N a b c) g (fun _ => True) := by
  have hP := (sPl_eq hw).2
  rcases rg_c a (c := sPl g) (by omega) with ⟨i, hi, rfl⟩ | hq
  rotate_left
  · refine Tw.st hw trivial (Int32.ofInt (-1)) (fun σ h => ?_) (fun σ h => ?_)
    · unfold F_X11_ties; rw [x_plN hw h hq, Option.bind_some, k00]
    · unfold F_X12_ties; rw [m_plN hw h hq, Option.bind_some, k00]
  rcases rg_c b (c := sPl g) (by omega) with ⟨j, hj, rfl⟩ | hq
  rotate_left
  · refine Tw.st hw trivial (Int32.ofInt (-1)) (fun σ h => ?_) (fun σ h => ?_)
    · unfold F_X11_ties; rw [x_plY hw h hi, Option.bind_some, k10, x_plN hw h hq, Option.bind_some, k00]
    · unfold F_X12_ties; rw [m_plY hw h hi, Option.bind_some, k10, m_plN hw h hq, Option.bind_some, k00]
  by_cases e : nI i = nI j
  · refine Tw.st hw trivial (Int32.ofInt (-1)) (fun σ h => ?_) (fun σ h => ?_)
    · unfold F_X11_ties; rw [x_plY hw h hi, Option.bind_some, k10, x_plY hw h hj, Option.bind_some, k10, if_pos e]
    · unfold F_X12_ties; rw [m_plY hw h hi, Option.bind_some, k10, m_plY hw h hj, Option.bind_some, k10, if_pos e]
  rcases rg_m c 0 100 (by decide) (by decide) with ⟨v, v0, hv, rfl⟩ | hq
  rotate_left
  · refine Tw.st hw trivial (Int32.ofInt (-2)) (fun σ h => ?_) (fun σ h => ?_)
    · unfold F_X11_ties; rw [x_plY hw h hi, Option.bind_some, k10, x_plY hw h hj, Option.bind_some, k10, if_neg e, show F_X11_within N c 0 100 _ = _ from x_in_n hq, Option.bind_some, k00]
    · unfold F_X12_ties; rw [m_plY hw h hi, Option.bind_some, k10, m_plY hw h hj, Option.bind_some, k10, if_neg e, show F_X12_in N c 0 100 _ = _ from m_in_n hq, Option.bind_some, k00]
  have wf : Wf (hwU2 (hwU2 g 80 (4 * i + j) (nI v)) 80 (4 * j + i) (nI v)) := (hw.u_ti _ (isN_nI hv (by decide))).u_ti _ (isN_nI hv (by decide))
  refine ⟨g 80 (4 * i + j), _, ⟨wf, trivial⟩, fun σ h => ⟨(σ.1, σ.2.1, hwU3 (hwU3 σ.2.2.1 61 i j (nI v)) 61 j i (nI v), σ.2.2.2.1, σ.2.2.2.2), ?_, KC.trans (KC.w (show 61 < 72 by decide)) (KC.w (show 61 < 72 by decide)), HX0.u_ti (HX0.u_ti (show HX0 (σ.1, σ.2.1, σ.2.2.1, σ.2.2.2.1, σ.2.2.2.2) g from h.1) i j (by omega) (nI v)) j i (by omega) (nI v), ?_⟩, fun σ h => ⟨(σ.1, σ.2.1, hwU3 (hwU3 σ.2.2.1 80 0 (4 * i + j) (nI v)) 80 0 (4 * j + i) (nI v), σ.2.2.2.1, σ.2.2.2.2), ?_, KR.trans (KR.w (show 72 ≤ 80 by decide)) (KR.w (show 72 ≤ 80 by decide)), ?_⟩⟩
  · unfold F_X11_ties
    rw [x_plY hw h hi, Option.bind_some, k10, x_plY hw h hj, Option.bind_some, k10, if_neg e, show F_X11_within N (nI v) 0 100 _ = _ from x_rgY v0 hv (by decide), Option.bind_some, k10, if_neg (out_nI (by omega) (by decide)), if_neg (out_nI (by omega) (by decide)), if_neg (out_nI (by omega) (by decide)), if_neg (out_nI (by omega) (by decide)), if_neg (out_nI (by omega) (by decide)), if_neg (out_nI (by omega) (by decide)), nI_clamp (by omega), nI_clamp (by omega), h.1.ti i j (by omega) (by omega)]
  · refine h.2.cg ?_ ?_ ?_ ?_ ?_ ?_ ?_ ?_ ?_ ?_ <;> simp (disch := omega) only [hwU3_t, u2_t, u2_k]
  · unfold F_X12_ties
    rw [m_plY hw h hi, Option.bind_some, k10, m_plY hw h hj, Option.bind_some, k10, if_neg e, show F_X12_in N (nI v) 0 100 _ = _ from m_rgY v0 hv (by decide), Option.bind_some, k10, ix4, ix4, if_neg (out_nI (by omega) (by decide)), if_neg (out_nI (by omega) (by decide)), if_neg (out_nI (by omega) (by decide)), nI_clamp (by omega), nI_clamp (by omega), rA h (by decide) (by decide)]
  · rw [gM_u3 (by decide) (by decide), gM_u3 (by decide) (by decide)]; exact congrArg (fun q => hwU2 (hwU2 q 80 (4 * i + j) (nI v)) 80 (4 * j + i) (nI v)) h
theorem Wf.u_fn {g : Nat → Nat → Int32} (h : Wf g) (n : Nat) {v : Int32} (hv : isN v 99) (h1 : 1 ≤ v.toNatClampNeg) : Wf (hwU2 g 85 n v) := by
  unfold Wf
  simp (disch := omega) only [u2_t, u2_k, hwU2_eq, sSt_o, sCs_o]
  exact ⟨h.dp, h.wo, h.se, h.pu, h.li, h.ly, h.pl, h.ru, h.fa, h.td, h.tx, h.rl, h.im, h.is, h.ir, h.il, h.bs, h.sa, h.si, h.fo, h.fz, h.fi, h.iz, h.lp, h.dy, h.wa, h.sg, h.ti, h.ki, h.mo, h.sp, h.fp, (fun k hk => by
    by_cases e : k = n
    · subst e; rw [hwU2_eq]; exact ⟨hv, fun _ => h1⟩
    · rw [u2_k e]; exact h.fn k hk), h.tp, h.ih, h.if_, h.id_, h.iw, h.ig, h.it, h.so, h.sz, h.cs⟩
theorem Wf.u_fa {g : Nat → Nat → Int32} (h : Wf g) {v : Int32} (hv : isN v 6) (h1 : ∀ k, k < v.toNatClampNeg → 1 ≤ (g 85 k).toNatClampNeg) : Wf (hwU2 g 12 20 v) := by
  unfold Wf
  simp (disch := omega) only [u2_t, u2_k, hwU2_eq, sSt_o, sCs_o]
  exact ⟨h.dp, h.wo, h.se, h.pu, h.li, h.ly, h.pl, h.ru, hv, h.td, h.tx, h.rl, h.im, h.is, h.ir, h.il, h.bs, h.sa, h.si, h.fo, h.fz, h.fi, h.iz, h.lp, h.dy, h.wa, h.sg, h.ti, h.ki, h.mo, h.sp, h.fp, fun k hk => ⟨(h.fn k hk).1, fun q => h1 k q⟩, h.tp, h.ih, h.if_, h.id_, h.iw, h.ig, h.it, h.so, h.sz, h.cs⟩
theorem w_farm (N : Nat) {g : Nat → Nat → Int32} (hw : Wf g) (a b : Int32) : Tw (F_X11_farm N a b) (F_X12_farm N a b) g (fun _ => True) := by
  have hF := sF_eq hw
  rcases rg_m a 0 99 (by decide) (by decide) with ⟨x, x0, hx, rfl⟩ | hq
  rotate_left
  · refine Tw.st hw trivial (Int32.ofInt (-2)) (fun σ h => ?_) (fun σ h => ?_)
    · unfold F_X11_farm; rw [show F_X11_within N a 0 99 _ = _ from x_in_n hq, Option.bind_some, k00]
    · unfold F_X12_farm; rw [show F_X12_in N a 0 99 _ = _ from m_in_n hq, Option.bind_some, k00]
  rcases rg_m b 1 99 (by decide) (by decide) with ⟨y, y0, hy, rfl⟩ | hq
  rotate_left
  · refine Tw.st hw trivial (Int32.ofInt (-2)) (fun σ h => ?_) (fun σ h => ?_)
    · unfold F_X11_farm; rw [show F_X11_within N (nI x) 0 99 _ = _ from x_rgY x0 hx (by decide), Option.bind_some, k10, show F_X11_within N b 1 99 _ = _ from x_in_n hq, Option.bind_some, k00]
    · unfold F_X12_farm; rw [show F_X12_in N (nI x) 0 99 _ = _ from m_rgY x0 hx (by decide), Option.bind_some, k10, show F_X12_in N b 1 99 _ = _ from m_in_n hq, Option.bind_some, k00]
  by_cases c6 : sF g = 6
  · refine Tw.st hw trivial (Int32.ofInt (-4)) (fun σ h => ?_) (fun σ h => ?_)
    · unfold F_X11_farm F_X1_settle; rw [show F_X11_within N (nI x) 0 99 _ = _ from x_rgY x0 hx (by decide), Option.bind_some, k10, show F_X11_within N (nI y) 1 99 _ = _ from x_rgY y0 hy (by decide), Option.bind_some, k10, h.1.fa, hF.1, c6, if_neg (show ¬ nI 6 < (6 : Int32) by decide), Option.bind_some]
    · unfold F_X12_farm; rw [show F_X12_in N (nI x) 0 99 _ = _ from m_rgY x0 hx (by decide), Option.bind_some, k10, show F_X12_in N (nI y) 1 99 _ = _ from m_rgY y0 hy (by decide), Option.bind_some, k10, rF h (by decide), hF.1, c6, if_pos (by decide)]
  have wf : Wf (hwU2 (hwU2 (hwU2 g 84 (sF g) (nI x)) 85 (sF g) (nI y)) 12 20 (nI (sF g + 1))) := by
    refine Wf.u_fa ((hw.u_fp _ (isN_nI hx (by decide))).u_fn _ (isN_nI hy (by decide)) (by rw [nI_clamp (by omega)]; exact y0)) (isN_nI (by omega) (by decide)) (fun k hk => ?_)
    rw [nI_clamp (by omega)] at hk
    by_cases e : k = sF g
    · subst e; rw [hwU2_eq, nI_clamp (by omega)]; exact y0
    · rw [u2_k e, u2_t (by decide)]; exact (hw.fn k (by omega)).2 (show k < sF g by omega)
  refine ⟨nI (sF g), _, ⟨wf, trivial⟩, fun σ h => ⟨(hwU2 σ.1 7 2 (nI (sF g + 1)), σ.2.1, hwU3 (hwU3 σ.2.2.1 20 0 (sF g) (nI x)) 21 0 (sF g) (nI y), σ.2.2.2.1, σ.2.2.2.2), ?_, KC.trans (KC.trans (KC.w (show 20 < 72 by decide)) (KC.w (show 21 < 72 by decide))) (KC.i (show 7 ≠ 12 by decide)), HX0.u_fa (HX0.u_fn (HX0.u_fp (show HX0 (σ.1, σ.2.1, σ.2.2.1, σ.2.2.2.1, σ.2.2.2.2) g from h.1) (sF g) (nI x)) (sF g) (nI y)) (nI (sF g + 1)), ?_⟩, fun σ h => ⟨(hwU2 σ.1 12 20 (nI (sF g + 1)), σ.2.1, hwU3 (hwU3 σ.2.2.1 84 0 (sF g) (nI x)) 85 0 (sF g) (nI y), σ.2.2.2.1, σ.2.2.2.2), ?_, KR.trans (KR.trans (KR.w (show 72 ≤ 84 by decide)) (KR.w (show 72 ≤ 85 by decide))) KR.i, ?_⟩⟩
  · unfold F_X11_farm F_X1_settle
    rw [show F_X11_within N (nI x) 0 99 _ = _ from x_rgY x0 hx (by decide), Option.bind_some, k10, show F_X11_within N (nI y) 1 99 _ = _ from x_rgY y0 hy (by decide), Option.bind_some, k10, h.1.fa, hF.1, if_pos (ltL_b 6 6 rfl (by omega) (by decide)), if_neg (out_nI (by omega) (by decide)), if_neg (out_nI (by omega) (by decide)), Option.bind_some, nI_1, nI_clamp (by omega)]
  · refine h.2.cg ?_ ?_ ?_ ?_ ?_ ?_ ?_ ?_ ?_ ?_ <;> simp (disch := omega) only [hwU3_t, u2_t, u2_k]
  · unfold F_X12_farm
    rw [show F_X12_in N (nI x) 0 99 _ = _ from m_rgY x0 hx (by decide), Option.bind_some, k10, show F_X12_in N (nI y) 1 99 _ = _ from m_rgY y0 hy (by decide), Option.bind_some, k10, rF h (by decide), hF.1, if_neg (neL 6 6 rfl ⟨c6, by omega, by decide⟩), if_neg (out_nI (by omega) (by decide)), if_neg (out_nI (by omega) (by decide)), nI_add_sub, nI_1, nI_clamp (by omega)]
  · rw [gM_u2 (by decide), gM_u3 (by decide) (by decide), gM_u3 (by decide) (by decide)]; exact congrArg (fun q => hwU2 (hwU2 (hwU2 q 84 (sF g) (nI x)) 85 (sF g) (nI y)) 12 20 (nI (sF g + 1))) h
theorem w_rule (N : Nat) {g : Nat → Nat → Int32} (hw : Wf g) (a b c : Int32) : Tw (F_X11_rule N a b c) (F_X12_rule N a b c) g (fun _ => True) := by
  have hR := sRu_eq hw
  rcases rg_m a 0 5 (by decide) (by decide) with ⟨x, x0, hx, rfl⟩ | hq
  rotate_left
  · refine Tw.st hw trivial (Int32.ofInt (-2)) (fun σ h => ?_) (fun σ h => ?_)
    · unfold F_X11_rule; rw [show F_X11_within N a 0 5 _ = _ from x_in_n hq, Option.bind_some, k00]
    · unfold F_X12_rule; rw [show F_X12_in N a 0 5 _ = _ from m_in_n hq, Option.bind_some, k00]
  rcases rg_m b 0 5 (by decide) (by decide) with ⟨y, y0, hy, rfl⟩ | hq
  rotate_left
  · refine Tw.st hw trivial (Int32.ofInt (-2)) (fun σ h => ?_) (fun σ h => ?_)
    · unfold F_X11_rule; rw [show F_X11_within N (nI x) 0 5 _ = _ from x_rgY x0 hx (by decide), Option.bind_some, k10, show F_X11_within N b 0 5 _ = _ from x_in_n hq, Option.bind_some, k00]
    · unfold F_X12_rule; rw [show F_X12_in N (nI x) 0 5 _ = _ from m_rgY x0 hx (by decide), Option.bind_some, k10, show F_X12_in N b 0 5 _ = _ from m_in_n hq, Option.bind_some, k00]
  rcases rg_m c 0 7 (by decide) (by decide) with ⟨z, z0, hz, rfl⟩ | hq
  rotate_left
  · refine Tw.st hw trivial (Int32.ofInt (-2)) (fun σ h => ?_) (fun σ h => ?_)
    · unfold F_X11_rule; rw [show F_X11_within N (nI x) 0 5 _ = _ from x_rgY x0 hx (by decide), Option.bind_some, k10, show F_X11_within N (nI y) 0 5 _ = _ from x_rgY y0 hy (by decide), Option.bind_some, k10, show F_X11_within N c 0 7 _ = _ from x_in_n hq, Option.bind_some, k00]
    · unfold F_X12_rule; rw [show F_X12_in N (nI x) 0 5 _ = _ from m_rgY x0 hx (by decide), Option.bind_some, k10, show F_X12_in N (nI y) 0 5 _ = _ from m_rgY y0 hy (by decide), Option.bind_some, k10, show F_X12_in N c 0 7 _ = _ from m_in_n hq, Option.bind_some, k00]
  by_cases c6 : sRu g = 8
  · refine Tw.st hw trivial (Int32.ofInt (-4)) (fun σ h => ?_) (fun σ h => ?_)
    · unfold F_X11_rule F_X9_make; rw [show F_X11_within N (nI x) 0 5 _ = _ from x_rgY x0 hx (by decide), Option.bind_some, k10, show F_X11_within N (nI y) 0 5 _ = _ from x_rgY y0 hy (by decide), Option.bind_some, k10, show F_X11_within N (nI z) 0 7 _ = _ from x_rgY z0 hz (by decide), Option.bind_some, k10, h.1.ru, hR.1, c6, if_neg (show ¬ nI 8 < (8 : Int32) by decide), Option.bind_some]
    · unfold F_X12_rule; rw [show F_X12_in N (nI x) 0 5 _ = _ from m_rgY x0 hx (by decide), Option.bind_some, k10, show F_X12_in N (nI y) 0 5 _ = _ from m_rgY y0 hy (by decide), Option.bind_some, k10, show F_X12_in N (nI z) 0 7 _ = _ from m_rgY z0 hz (by decide), Option.bind_some, k10, rF h (by decide), hR.1, c6, if_pos (by decide)]
  have wf : Wf (hwU2 (hwU2 (hwU2 (hwU2 g 81 (sRu g) (nI x)) 82 (sRu g) (nI y)) 83 (sRu g) (nI z)) 12 16 (nI (sRu g + 1))) :=
    Wf.u_ru (((hw.u_ki _ (isN_nI hx (by decide))).u_mo _ (isN_nI hy (by decide))).u_sp _ (isN_nI hz (by decide))) (isN_nI (by omega) (by decide))
  refine ⟨nI (sRu g), _, ⟨wf, trivial⟩, fun σ h => ⟨(hwU2 σ.1 6 4 (nI (sRu g + 1)), σ.2.1, hwU3 (hwU3 (hwU3 σ.2.2.1 65 0 (sRu g) (nI x)) 66 0 (sRu g) (nI y)) 67 0 (sRu g) (nI z), σ.2.2.2.1, σ.2.2.2.2), ?_, KC.trans (KC.trans (KC.trans (KC.w (show 65 < 72 by decide)) (KC.w (show 66 < 72 by decide))) (KC.w (show 67 < 72 by decide))) (KC.i (show 6 ≠ 12 by decide)), HX0.u_ru (HX0.u_sp (HX0.u_mo (HX0.u_ki (show HX0 (σ.1, σ.2.1, σ.2.2.1, σ.2.2.2.1, σ.2.2.2.2) g from h.1) (sRu g) (nI x)) (sRu g) (nI y)) (sRu g) (nI z)) (nI (sRu g + 1)), ?_⟩, fun σ h => ⟨(hwU2 σ.1 12 16 (nI (sRu g + 1)), σ.2.1, hwU3 (hwU3 (hwU3 σ.2.2.1 81 0 (sRu g) (nI x)) 82 0 (sRu g) (nI y)) 83 0 (sRu g) (nI z), σ.2.2.2.1, σ.2.2.2.2), ?_, KR.trans (KR.trans (KR.trans (KR.w (show 72 ≤ 81 by decide)) (KR.w (show 72 ≤ 82 by decide))) (KR.w (show 72 ≤ 83 by decide))) KR.i, ?_⟩⟩
  · unfold F_X11_rule F_X9_make
    rw [show F_X11_within N (nI x) 0 5 _ = _ from x_rgY x0 hx (by decide), Option.bind_some, k10, show F_X11_within N (nI y) 0 5 _ = _ from x_rgY y0 hy (by decide), Option.bind_some, k10, show F_X11_within N (nI z) 0 7 _ = _ from x_rgY z0 hz (by decide), Option.bind_some, k10, h.1.ru, hR.1, if_pos (ltL_b 8 8 rfl (by omega) (by decide)), if_neg (out_nI (by omega) (by decide)), if_neg (out_nI (by omega) (by decide)), if_neg (out_nI (by omega) (by decide)), Option.bind_some, nI_1, nI_clamp (by omega)]
  · refine h.2.cg ?_ ?_ ?_ ?_ ?_ ?_ ?_ ?_ ?_ ?_ <;> simp (disch := omega) only [hwU3_t, u2_t, u2_k]
  · unfold F_X12_rule
    rw [show F_X12_in N (nI x) 0 5 _ = _ from m_rgY x0 hx (by decide), Option.bind_some, k10, show F_X12_in N (nI y) 0 5 _ = _ from m_rgY y0 hy (by decide), Option.bind_some, k10, show F_X12_in N (nI z) 0 7 _ = _ from m_rgY z0 hz (by decide), Option.bind_some, k10, rF h (by decide), hR.1, if_neg (neL 8 8 rfl ⟨c6, by omega, by decide⟩), if_neg (out_nI (by omega) (by decide)), if_neg (out_nI (by omega) (by decide)), if_neg (out_nI (by omega) (by decide)), nI_add_sub, nI_1, nI_clamp (by omega)]
  · rw [gM_u2 (by decide), gM_u3 (by decide) (by decide), gM_u3 (by decide) (by decide), gM_u3 (by decide) (by decide)]; exact congrArg (fun q => hwU2 (hwU2 (hwU2 (hwU2 q 81 (sRu g) (nI x)) 82 (sRu g) (nI y)) 83 (sRu g) (nI z)) 12 16 (nI (sRu g + 1))) h

/-! THE PURE SIDE, 32: digging, one number of a sheet, the tape, a sheet laid anew -/
theorem Tw.step {α : Type} {F1 F2 G1 G2 : Mem → Option (α × Mem)} {g g2 : Nat → Nat → Int32} {P P2 : (Nat → Nat → Int32) → Prop} (x : ∀ σ, HX σ g → ∃ σ', F1 σ = G1 σ' ∧ KC σ σ' ∧ HX σ' g2) (m : ∀ σ, gM σ = g → ∃ σ', F2 σ = G2 σ' ∧ KR σ σ' ∧ gM σ' = g2) (t : Tw G1 G2 g2 P2) (hp : ∀ g', P2 g' → P g') : Tw F1 F2 g P := by
  obtain ⟨r, g', ⟨wf, p2⟩, tx, tm⟩ := t
  refine ⟨r, g', ⟨wf, hp g' p2⟩, fun σ h => ?_, fun σ h => ?_⟩
  · obtain ⟨σ', e, k, h2⟩ := x σ h
    obtain ⟨τ, e2, k2, h3⟩ := tx σ' h2
    exact ⟨τ, e.trans e2, k.trans k2, h3⟩
  · obtain ⟨σ', e, k, h2⟩ := m σ h
    obtain ⟨τ, e2, k2, h3⟩ := tm σ' h2
    exact ⟨τ, e.trans e2, k.trans k2, h3⟩
theorem Tw.eq {α : Type} {F1 F2 G1 G2 : Mem → Option (α × Mem)} {g : Nat → Nat → Int32} {P : (Nat → Nat → Int32) → Prop} (t : Tw G1 G2 g P) (x : ∀ σ, HX σ g → F1 σ = G1 σ) (m : ∀ σ, gM σ = g → F2 σ = G2 σ) : Tw F1 F2 g P :=
  Tw.step (fun σ h => ⟨σ, x σ h, KC.rfl_ σ, h⟩) (fun σ h => ⟨σ, m σ h, KR.rfl_ σ, h⟩) t (fun _ p => p)
theorem w_dig (N : Nat) {g : Nat → Nat → Int32} (hw : Wf g) (a b : Int32) : Tw (F_X11_dig N a b) (F_X12_dig N a b) g (fun _ => True) := by
  have hP := (sPl_eq hw).2
  have hD := sD_eq hw
  rcases rg_c a (c := sPl g) (by omega) with ⟨p, hp, rfl⟩ | hq
  rotate_left
  · refine Tw.st hw trivial (Int32.ofInt (-1)) (fun σ h => ?_) (fun σ h => ?_)
    · unfold F_X11_dig; rw [x_plN hw h hq, Option.bind_some, k00]
    · unfold F_X12_dig; rw [m_plN hw h hq, Option.bind_some, k00]
  rcases rg_m b 0 3 (by decide) (by decide) with ⟨s, s0, hs, rfl⟩ | hq
  rotate_left
  · refine Tw.st hw trivial (Int32.ofInt (-2)) (fun σ h => ?_) (fun σ h => ?_)
    · unfold F_X11_dig; rw [x_plY hw h hp, Option.bind_some, k10, show F_X11_within N b 0 3 _ = _ from x_in_n hq, Option.bind_some, k00]
    · unfold F_X12_dig; rw [m_plY hw h hp, Option.bind_some, k10, show F_X12_in N b 0 3 _ = _ from m_in_n hq, Option.bind_some, k00]
  obtain ⟨ed, hd⟩ := sDug_eq hw (show p < 4 by omega)
  obtain ⟨ew, hw1⟩ := hw.wa p (by omega)
  have xs : ∀ σ, HX σ g → F_X11_dig N (nI p) (nI s) σ = if g 78 p = 0 then (if nI (sDug g p) < nI (sD g) then (F_X7_deepen N (nI p) (nI s) σ).bind (fun q4 => some (q4.1, q4.2)) else some ((Int32.ofInt (-3)), σ)) else some ((Int32.ofInt (-3)), σ) := by
    intro σ h
    unfold F_X11_dig
    rw [x_plY hw h hp, Option.bind_some, k10, show F_X11_within N (nI s) 0 3 _ = _ from x_rgY s0 hs (by decide), Option.bind_some, k10, if_neg (out_nI (by omega) (by decide))]
    simp only [nI_clamp (show p < 2 ^ 31 by omega)]
    rw [h.1.wa p (by omega), if_neg (out_nI (by omega) (by decide)), x_deepest N hw σ h, Option.bind_some, h.1.dy p (by omega), ed]
  have ms : ∀ σ, gM σ = g → F_X12_dig N (nI p) (nI s) σ = if g 78 p = 1 then some ((Int32.ofInt (-3)), σ) else if nI (sDug g p) < nI (sD g) then (if nI s = (3 : Int32) then (if hwOut (nI p) 4 then none else F_X12_dig_b89 N (nI p) (σ.1, σ.2.1, hwU3 σ.2.2.1 78 0 p 1, σ.2.2.2.1, σ.2.2.2.2)) else (if hwOut (nI p) 4 then none else if hwOut (5 * nI p + nI (sDug g p)) 20 then none else if hwOut (nI p) 4 then none else if hwOut (nI p) 4 then none else F_X12_dig_b89 N (nI p) (σ.1, σ.2.1, hwU3 (hwU3 σ.2.2.1 79 0 (5 * nI p + nI (sDug g p)).toNatClampNeg (nI s)) 77 0 p (nI (sDug g p) + 1), σ.2.2.2.1, σ.2.2.2.2))) else some ((Int32.ofInt (-3)), σ) := by
    intro σ h
    unfold F_X12_dig
    rw [m_plY hw h hp, Option.bind_some, k10, show F_X12_in N (nI s) 0 3 _ = _ from m_rgY s0 hs (by decide), Option.bind_some, k10, if_neg (out_nI (by omega) (by decide))]
    simp only [nI_clamp (show p < 2 ^ 31 by omega)]
    rw [rA h (by decide) (by decide), if_neg (out_nI (by omega) (by decide)), rA h (by decide) (by decide), rF h (by decide), hD.1, ed]
  by_cases c : g 78 p = 0
  rotate_left
  · have c1 : g 78 p = 1 := by
      rw [ew] at c ⊢
      have : (g 78 p).toNatClampNeg ≠ 0 := fun z => c (by rw [z]; rfl)
      rw [show (g 78 p).toNatClampNeg = 1 by omega]; rfl
    exact Tw.st hw trivial (Int32.ofInt (-3)) (fun σ h => by rw [xs σ h, if_neg c]) (fun σ h => by rw [ms σ h, if_pos c1])
  have c1 : ¬ g 78 p = 1 := by rw [c]; decide
  by_cases cd : sDug g p < sD g
  rotate_left
  · exact Tw.st hw trivial (Int32.ofInt (-3)) (fun σ h => by rw [xs σ h, if_pos c, if_neg (nI_nlt (by omega) (by omega))]) (fun σ h => by rw [ms σ h, if_neg c1, if_neg (nI_nlt (by omega) (by omega))])
  by_cases c3 : s = 3
  · subst c3
    have wf : Wf (hwU2 g 78 p 1) := hw.u_wa p (isN_nI (k := 1) (by decide) (by decide))
    refine ⟨g 77 p, _, ⟨wf, trivial⟩, fun σ h => ⟨(σ.1, σ.2.1, hwU3 σ.2.2.1 59 0 p 1, σ.2.2.2.1, σ.2.2.2.2), ?_, KC.w (show 59 < 72 by decide), HX0.u_wa (show HX0 (σ.1, σ.2.1, σ.2.2.1, σ.2.2.2.1, σ.2.2.2.2) g from h.1) p 1, ?_⟩, fun σ h => ⟨(σ.1, σ.2.1, hwU3 σ.2.2.1 78 0 p 1, σ.2.2.2.1, σ.2.2.2.2), ?_, KR.w (show 72 ≤ 78 by decide), ?_⟩⟩
    · rw [xs σ h, if_pos c, if_pos (nI_lt cd (by omega))]
      unfold F_X7_deepen F_X7_deepen_b49
      rw [if_pos (show nI 3 = (3 : Int32) from rfl), if_neg (out_nI (by omega) (by decide)), if_neg (out_nI (by omega) (by decide)), Option.bind_some]
      simp only [nI_clamp (show p < 2 ^ 31 by omega)]
      rw [hwU3_t (by decide), h.1.dy p (by omega)]
    · refine h.2.cg ?_ ?_ ?_ ?_ ?_ ?_ ?_ ?_ ?_ ?_ <;> simp (disch := omega) only [hwU3_t, u2_t, u2_k]
    · rw [ms σ h, if_neg c1, if_pos (nI_lt cd (by omega)), if_pos (show nI 3 = (3 : Int32) from rfl), if_neg (out_nI (by omega) (by decide))]
      unfold F_X12_dig_b89
      rw [if_neg (out_nI (by omega) (by decide)), nI_clamp (by omega)]
      show some (hwU3 σ.2.2.1 78 0 p 1 77 0 p, _) = _
      rw [hwU3_t (by decide), rA h (by decide) (by decide)]
    · rw [gM_u3 (by decide) (by decide)]; exact congrArg (fun q => hwU2 q 78 p 1) h
  · have n3 : ¬ nI s = (3 : Int32) := neL 3 3 rfl ⟨c3, by omega, by decide⟩
    have wf : Wf (hwU2 (hwU2 g 79 (5 * p + sDug g p) (nI s)) 77 p (nI (sDug g p + 1))) := (hw.u_sg _ (isN_nI (by omega) (by decide))).u_dy p (isN_nI (by omega) (by decide))
    refine ⟨nI (sDug g p + 1), _, ⟨wf, trivial⟩, fun σ h => ⟨(σ.1, σ.2.1, hwU3 (hwU3 σ.2.2.1 57 p (sDug g p) (nI s)) 58 0 p (nI (sDug g p + 1)), σ.2.2.2.1, σ.2.2.2.2), ?_, KC.trans (KC.w (show 57 < 72 by decide)) (KC.w (show 58 < 72 by decide)), HX0.u_dy (HX0.u_sg (show HX0 (σ.1, σ.2.1, σ.2.2.1, σ.2.2.2.1, σ.2.2.2.2) g from h.1) p (sDug g p) (by omega) (nI s)) p (nI (sDug g p + 1)), ?_⟩, fun σ h => ⟨(σ.1, σ.2.1, hwU3 (hwU3 σ.2.2.1 79 0 (5 * p + sDug g p) (nI s)) 77 0 p (nI (sDug g p + 1)), σ.2.2.2.1, σ.2.2.2.2), ?_, KR.trans (KR.w (show 72 ≤ 79 by decide)) (KR.w (show 72 ≤ 77 by decide)), ?_⟩⟩
    · rw [xs σ h, if_pos c, if_pos (nI_lt cd (by omega))]
      unfold F_X7_deepen F_X7_deepen_b49
      rw [if_neg n3, if_neg (out_nI (by omega) (by decide))]
      simp only [nI_clamp (show p < 2 ^ 31 by omega)]
      rw [h.1.dy p (by omega), ed, if_neg (geL_n 5 5 rfl (by omega) (by decide)), if_neg (out_nI (by omega) (by decide)), if_neg (out_nI (by omega) (by decide)), if_neg (out_nI (by omega) (by decide)), if_neg (out_nI (by omega) (by decide)), if_neg (out_nI (by omega) (by decide)), if_neg (out_nI (by omega) (by decide)), Option.bind_some, nI_1, nI_clamp (by omega), hwU3_eq]
    · refine h.2.cg ?_ ?_ ?_ ?_ ?_ ?_ ?_ ?_ ?_ ?_ <;> simp (disch := omega) only [hwU3_t, u2_t, u2_k]
    · rw [ms σ h, if_neg c1, if_pos (nI_lt cd (by omega)), if_neg n3, if_neg (out_nI (by omega) (by decide)), ix5, if_neg (out_nI (by omega) (by decide)), if_neg (out_nI (by omega) (by decide)), if_neg (out_nI (by omega) (by decide))]
      unfold F_X12_dig_b89
      rw [if_neg (out_nI (by omega) (by decide)), nI_1]
      simp only [nI_clamp (show p < 2 ^ 31 by omega), nI_clamp (show 5 * p + sDug g p < 2 ^ 31 by omega)]
      rw [hwU3_eq]
    · rw [gM_u3 (by decide) (by decide), gM_u3 (by decide) (by decide)]; exact congrArg (fun q => hwU2 (hwU2 q 79 (5 * p + sDug g p) (nI s)) 77 p (nI (sDug g p + 1))) h
theorem x_wr (N : Nat) {g : Nat → Nat → Int32} (s k : Nat) (hs : s < 4) (hk : k < 40) (v : Int32) (σ : Mem) (h : HX σ g) : F_X10_write N (nI s) (nI k) v σ = some ((), (σ.1, σ.2.1, hwU3 σ.2.2.1 69 s k (if g 95 s = 0 then v.toInt8.toInt32 else if g 95 s = 1 then v.toInt16.toInt32 else v), σ.2.2.2.1, σ.2.2.2.2)) := by
  unfold F_X10_write
  simp only [nI_clamp (show s < 2 ^ 31 by omega), nI_clamp (show k < 2 ^ 31 by omega)]
  rw [if_neg (out_nI hs (by decide)), h.1.so s hs, if_neg (out_nI hs (by decide)), if_neg (out_nI hk (by decide))]
  by_cases c0 : g 95 s = 0
  · rw [if_pos c0, if_pos c0]
  · rw [if_neg c0, if_neg c0]
    by_cases c1 : g 95 s = 1
    · rw [if_pos c1, if_pos c1, if_neg (out_nI hs (by decide)), if_neg (out_nI hk (by decide))]
    · rw [if_neg c1, if_neg c1, if_neg (out_nI hs (by decide)), if_neg (out_nI hk (by decide))]
theorem w_cell (N : Nat) {g : Nat → Nat → Int32} (hw : Wf g) (a b c : Int32) : Tw (F_X11_cell N a b c) (F_X12_cell N a b c) g (fun _ => True) := by
  rcases rg_c a (c := 4) (by decide) with ⟨s, hs, rfl⟩ | hq
  rotate_left
  · refine Tw.st hw trivial (Int32.ofInt (-2)) (fun σ h => ?_) (fun σ h => ?_)
    · unfold F_X11_cell; rw [x_shN hq, Option.bind_some, k00]
    · unfold F_X12_cell; rw [m_shN hq, Option.bind_some, k00]
  obtain ⟨ez, hz⟩ := hw.sz s hs
  by_cases cm : g 95 s = -1
  · refine Tw.st hw trivial (Int32.ofInt (-11)) (fun σ h => ?_) (fun σ h => ?_)
    · unfold F_X11_cell; rw [x_shY hs, Option.bind_some, k10, x_misY h hs cm, Option.bind_some, k10]
    · unfold F_X12_cell; rw [m_shY hs, Option.bind_some, k10, if_neg (out_nI hs (by decide))]; simp only [nI_clamp (show s < 2 ^ 31 by omega)]; rw [rA h (by decide) (by decide), if_pos (show g 95 s = Int32.ofInt (-1) from cm)]
  generalize e9 : (g 96 s).toNatClampNeg = z at ez hz
  have ms : ∀ σ, gM σ = g → F_X12_cell N (nI s) b c σ = (F_X12_in N b 0 (nI z - 1) σ).bind (fun q2 => if q2.1 = 0 then some ((Int32.ofInt (-12)), q2.2) else
        if hwOut (nI s) 4 then none else
        if (q2.2.2.2.1 95 0 s) = 0 then
          (F_X12_cell_b84 N) c.toInt8.toInt32 (((40 : Int32) * nI s) + b) q2.2
        else
          if hwOut (nI s) 4 then none else
          if (q2.2.2.2.1 95 0 s) = (1 : Int32) then
            (F_X12_cell_b84 N) c.toInt16.toInt32 (((40 : Int32) * nI s) + b) q2.2
          else
            (F_X12_cell_b84 N) c (((40 : Int32) * nI s) + b) q2.2) := by
    intro σ h
    unfold F_X12_cell
    rw [m_shY hs, Option.bind_some, k10, if_neg (out_nI hs (by decide))]
    simp only [nI_clamp (show s < 2 ^ 31 by omega)]
    rw [rA h (by decide) (by decide), if_neg (show ¬ g 95 s = Int32.ofInt (-1) from cm), if_neg (out_nI hs (by decide)), rA h (by decide) (by decide), ez]
  rcases rg_c b (c := z) (by omega) with ⟨k, hk, rfl⟩ | hq
  rotate_left
  · refine Tw.st hw trivial (Int32.ofInt (-12)) (fun σ h => ?_) (fun σ h => ?_)
    · unfold F_X11_cell F_X10_has
      rw [x_shY hs, Option.bind_some, k10, x_misN hw h hs cm, Option.bind_some, k00]
      by_cases b0 : b < 0
      · rw [if_pos b0, Option.bind_some, k00]
      · have b1 : nI z ≤ b := by
          obtain ⟨k, hk, rfl⟩ := nI_of b0
          refine nI_le ?_ hk
          apply Classical.byContradiction
          intro q
          obtain ⟨y1, y2⟩ := rg_y (show k < z by omega) (by omega)
          exact hq.elim y1 y2
        rw [if_neg b0, if_neg (out_nI hs (by decide)), nI_clamp (by omega), h.1.sz s hs, ez, if_pos b1, Option.bind_some, k00]
    · rw [ms σ h, m_in_n hq, Option.bind_some, k00]
  obtain ⟨y1, y2⟩ := rg_y hk (by omega)
  have wf : ∀ w, Wf (hwU2 g 97 (40 * s + k) w) := fun w => hw.u_ce _ w
  have m84 : ∀ (w : Int32) (σ : Mem), F_X12_cell_b84 N w ((40 : Int32) * nI s + nI k) σ = some (1, (σ.1, σ.2.1, hwU3 σ.2.2.1 97 0 (40 * s + k) w, σ.2.2.2.1, σ.2.2.2.2)) := by
    intro w σ
    unfold F_X12_cell_b84
    rw [ix40, if_neg (out_nI (by omega) (by decide)), nI_clamp (by omega)]
  refine ⟨1, hwU2 g 97 (40 * s + k) (if g 95 s = 0 then c.toInt8.toInt32 else if g 95 s = 1 then c.toInt16.toInt32 else c), ⟨wf _, trivial⟩, fun σ h => ⟨(σ.1, σ.2.1, hwU3 σ.2.2.1 69 s k (if g 95 s = 0 then c.toInt8.toInt32 else if g 95 s = 1 then c.toInt16.toInt32 else c), σ.2.2.2.1, σ.2.2.2.2), ?_, KC.w (show 69 < 72 by decide), HX0.u_ce (show HX0 (σ.1, σ.2.1, σ.2.2.1, σ.2.2.2.1, σ.2.2.2.2) g from h.1) s k (by omega) _, ?_⟩, fun σ h => ⟨(σ.1, σ.2.1, hwU3 σ.2.2.1 97 0 (40 * s + k) (if g 95 s = 0 then c.toInt8.toInt32 else if g 95 s = 1 then c.toInt16.toInt32 else c), σ.2.2.2.1, σ.2.2.2.2), ?_, KR.w (show 72 ≤ 97 by decide), ?_⟩⟩
  · unfold F_X11_cell F_X10_has
    rw [x_shY hs, Option.bind_some, k10, x_misN hw h hs cm, Option.bind_some, k00, if_neg y1, if_neg (out_nI hs (by decide)), nI_clamp (by omega), h.1.sz s hs, ez, if_neg (nI_ge hk (by omega)), Option.bind_some, k10, x_wr N s k hs (by omega) c σ h, Option.bind_some]
  · refine h.2.cg ?_ ?_ ?_ ?_ ?_ ?_ ?_ ?_ ?_ ?_ <;> simp (disch := omega) only [hwU3_t, u2_t, u2_k]
  · rw [ms σ h, m_in_y y1 y2, Option.bind_some, k10, if_neg (out_nI hs (by decide)), rA h (by decide) (by decide)]
    by_cases c0 : g 95 s = 0
    · rw [if_pos c0, if_pos c0]; exact m84 _ σ
    · rw [if_neg c0, if_neg c0, if_neg (out_nI hs (by decide))]
      by_cases c1 : g 95 s = 1
      · rw [if_pos c1, if_pos c1]; exact m84 _ σ
      · rw [if_neg c1, if_neg c1]; exact m84 _ σ
  · rw [gM_u3 (by decide) (by decide)]; exact congrArg (fun q => hwU2 q 97 (40 * s + k) _) h
/-! the tape -/
theorem b255 (x : Int64) : (x.toInt32 &&& (255 : Int32)) = (x &&& (255 : Int64)).toInt32 := by
  rw [Int64.toInt32_and]; rfl
theorem b255_isN (x : Int64) : isN (x &&& (255 : Int64)).toInt32 255 := by
  rw [← b255]
  have h : (x.toInt32 &&& (255 : Int32)).toBitVec.toNat ≤ 255 := by
    rw [Int32.toBitVec_and, BitVec.toNat_and]
    exact Nat.and_le_right
  have e : (x.toInt32 &&& (255 : Int32)) = nI (x.toInt32 &&& (255 : Int32)).toBitVec.toNat := by
    apply Int32.toBitVec_inj.mp
    apply BitVec.eq_of_toNat_eq
    show _ = (BitVec.ofNat 32 _).toNat
    rw [BitVec.toNat_ofNat, Nat.mod_eq_of_lt (by omega)]
  rw [e]
  exact isN_nI h (by decide)
theorem HX.u {A : Nat → Nat → Int32} {B : Nat → Nat → Int64} {C : Nat → Nat → Nat → Int32} {D : (Nat → Nat → Nat → Int64) × (Nat × (Nat → Int32))} {g : Nat → Nat → Int32} (h : HX (A, B, C, D) g) : HX0 (A, B, C, D) g := h.1
theorem w_feed20 (N : Nat) (v : Int64) : ∀ (q n : Nat) (g : Nat → Nat → Int32), Wf g → (g 12 24).toNatClampNeg + q ≤ 160 → q < n → Tw (F_X8_record_b20 N n v (nI q - 1)) (F_X12_feed_b33 N n v (nI q - 1)) g (fun _ => True) := by
  intro q
  induction q with
  | zero =>
    intro n g hw hq hn
    cases n with
    | zero => cases hn
    | succ n =>
      refine Tw.st hw trivial (g 12 24) (fun σ h => ?_) (fun σ h => ?_)
      · rw [F_X8_record_b20.eq_2, if_pos (show nI 0 - 1 < 0 by decide), h.1.td]
      · rw [F_X12_feed_b33.eq_2, if_pos (show nI 0 - 1 < 0 by decide), rF h (by decide)]
  | succ q ih =>
    intro n g hw hq hn
    cases n with
    | zero => cases hn
    | succ n =>
      have em : nI q + Int32.ofInt (-1) = nI q - 1 := by rw [Int32.sub_eq_add_neg]; rfl
      obtain ⟨et, ht⟩ := hw.td
      generalize eg : (g 12 24).toNatClampNeg = t at et ht hq
      have hb := b255_isN (v >>> (((8 : Int32) * nI q).toInt64 &&& 63))
      have wf : Wf (hwU2 (hwU2 g 86 t ((v >>> (((8 : Int32) * nI q).toInt64 &&& 63)) &&& (255 : Int64)).toInt32) 12 24 (nI (t + 1))) := Wf.u_td (hw.u_tp t hb) (isN_nI (by omega) (by decide))
      refine Tw.step (g2 := hwU2 (hwU2 g 86 t ((v >>> (((8 : Int32) * nI q).toInt64 &&& 63)) &&& (255 : Int64)).toInt32) 12 24 (nI (t + 1))) (fun σ h => ?_) (fun σ h => ?_) (ih n _ wf (by rw [hwU2_eq, nI_clamp (by omega)]; omega) (by omega)) (fun _ _ => trivial)
      · refine ⟨(hwU2 σ.1 3 3 (nI (t + 1)), σ.2.1, hwU3 σ.2.2.1 62 0 t ((v >>> (((8 : Int32) * nI q).toInt64 &&& 63)) &&& (255 : Int64)).toInt32, σ.2.2.2.1, σ.2.2.2.2), ?_, KC.trans (KC.w (show 62 < 72 by decide)) (KC.i (show 3 ≠ 12 by decide)), HX0.u_td (HX0.u_tp (show HX0 (σ.1, σ.2.1, σ.2.2.1, σ.2.2.2.1, σ.2.2.2.2) g from h.1) t _) (nI (t + 1)) (fun k hk => ?_), ?_⟩
        · rw [F_X8_record_b20.eq_2, nI_pred, if_neg (nI_nz (by omega)), h.1.td, et, if_neg (out_nI (by omega) (by decide)), nI_1, nI_clamp (by omega), b255, em]
        · rw [nI_clamp (by omega)] at hk
          by_cases e : k = t
          · subst e
            rw [hwU3_eq, hwU2_eq]
          · rw [hwU3_k e, u2_k e]
            exact h.1.tp k (by rw [eg]; omega)
        · refine h.2.cg ?_ ?_ ?_ ?_ ?_ ?_ ?_ ?_ ?_ ?_ <;> simp (disch := omega) only [hwU3_t, u2_t, u2_k]
      · refine ⟨(hwU2 σ.1 12 24 (nI (t + 1)), σ.2.1, hwU3 σ.2.2.1 86 0 t ((v >>> (((8 : Int32) * nI q).toInt64 &&& 63)) &&& (255 : Int64)).toInt32, σ.2.2.2.1, σ.2.2.2.2), ?_, KR.trans (KR.w (show 72 ≤ 86 by decide)) KR.i, ?_⟩
        · rw [F_X12_feed_b33.eq_2, nI_pred, if_neg (nI_nz (by omega)), rF h (by decide), et, if_neg (out_nI (by omega) (by decide)), nI_1, nI_clamp (by omega), em]
        · rw [gM_u2 (by decide), gM_u3 (by decide) (by decide)]; exact congrArg (fun q => hwU2 (hwU2 q 86 t _) 12 24 (nI (t + 1))) h
theorem w_feed (N : Nat) (hN : 160 ≤ N) {g : Nat → Nat → Int32} (hw : Wf g) (v : Int64) (b : Int32) : Tw (F_X11_feed N v b) (F_X12_feed N v b) g (fun _ => True) := by
  rcases rg_m b 1 8 (by decide) (by decide) with ⟨q, q1, q8, rfl⟩ | hq
  rotate_left
  · refine Tw.st hw trivial (Int32.ofInt (-2)) (fun σ h => ?_) (fun σ h => ?_)
    · unfold F_X11_feed; rw [show F_X11_within N b 1 8 _ = _ from x_in_n hq, Option.bind_some, k00]
    · unfold F_X12_feed; rw [show F_X12_in N b 1 8 _ = _ from m_in_n hq, Option.bind_some, k00]
  obtain ⟨et, ht⟩ := hw.td
  by_cases c : (g 12 24).toNatClampNeg + q ≤ 160
  rotate_left
  · refine Tw.st hw trivial (Int32.ofInt (-4)) (fun σ h => ?_) (fun σ h => ?_)
    · unfold F_X11_feed F_X8_record; rw [show F_X11_within N (nI q) 1 8 _ = _ from x_rgY q1 q8 (by decide), Option.bind_some, k10, h.1.td, et, nI_add, if_neg (geL_a 160 160 rfl (by omega) (by omega)), Option.bind_some]
    · unfold F_X12_feed; rw [show F_X12_in N (nI q) 1 8 _ = _ from m_rgY q1 q8 (by decide), Option.bind_some, k10, rF h (by decide), et, nI_add, if_neg (geL_a 160 160 rfl (by omega) (by omega))]
  have h := w_feed20 N v q N g hw c (by omega)
  refine h.eq (fun σ h => ?_) (fun σ h => ?_)
  · unfold F_X11_feed F_X8_record
    rw [show F_X11_within N (nI q) 1 8 _ = _ from x_rgY q1 q8 (by decide), Option.bind_some, k10, h.1.td, et, nI_add, if_pos (leL_b 160 160 rfl c (by decide))]
    cases F_X8_record_b20 N N v (nI q - 1) σ with
    | none => rfl
    | some p => rfl
  · unfold F_X12_feed
    rw [show F_X12_in N (nI q) 1 8 _ = _ from m_rgY q1 q8 (by decide), Option.bind_some, k10, rF h (by decide), et, nI_add, if_pos (leL_b 160 160 rfl c (by decide))]
/-! a sheet laid anew -/
theorem w_lay17 (N : Nat) (s : Nat) (hs : s < 4) : ∀ (q n k : Nat) (g : Nat → Nat → Int32), k + q = 40 → q < n → Wf g → Tw (fun σ => (F_X10_lay_b17 N n (nI s) (nI k) σ).bind (fun q3 => some ((1 : Int32), q3.2))) (F_X12_sheet_b70 N n (nI s) (nI k)) g (fun _ => True) := by
  intro q
  induction q with
  | zero =>
    intro n k g hk hn hw
    cases n with
    | zero => cases hn
    | succ n =>
      refine Tw.st hw trivial 1 (fun σ h => ?_) (fun σ h => ?_)
      · show (F_X10_lay_b17 N (n + 1) (nI s) (nI k) σ).bind _ = _
        rw [F_X10_lay_b17.eq_2, if_pos (leL_a 40 40 rfl (by omega) (by omega)), Option.bind_some]
      · rw [F_X12_sheet_b70.eq_2, if_pos (leL_a 40 40 rfl (by omega) (by omega))]
  | succ q ih =>
    intro n k g hk hn hw
    cases n with
    | zero => cases hn
    | succ n =>
      refine Tw.step (g2 := hwU2 g 97 (40 * s + k) 0) (fun σ h => ?_) (fun σ h => ?_) (ih n (k + 1) _ (by omega) (by omega) (hw.u_ce _ 0)) (fun _ _ => trivial)
      · refine ⟨(σ.1, σ.2.1, hwU3 σ.2.2.1 69 s k 0, σ.2.2.2.1, σ.2.2.2.2), ?_, KC.w (show 69 < 72 by decide), HX0.u_ce (show HX0 (σ.1, σ.2.1, σ.2.2.1, σ.2.2.2.1, σ.2.2.2.2) g from h.1) s k (by omega) 0, ?_⟩
        · show (F_X10_lay_b17 N (n + 1) (nI s) (nI k) σ).bind _ = _
          rw [F_X10_lay_b17.eq_2, if_neg (geL_n 40 40 rfl (by omega) (by decide)), if_neg (out_nI hs (by decide)), if_neg (out_nI (by omega) (by decide)), nI_1]
          simp only [nI_clamp (show s < 2 ^ 31 by omega), nI_clamp (show k < 2 ^ 31 by omega)]
        · refine h.2.cg ?_ ?_ ?_ ?_ ?_ ?_ ?_ ?_ ?_ ?_ <;> simp (disch := omega) only [hwU3_t, u2_t, u2_k]
      · refine ⟨(σ.1, σ.2.1, hwU3 σ.2.2.1 97 0 (40 * s + k) 0, σ.2.2.2.1, σ.2.2.2.2), ?_, KR.w (show 72 ≤ 97 by decide), ?_⟩
        · rw [F_X12_sheet_b70.eq_2, if_neg (geL_n 40 40 rfl (by omega) (by decide)), ix40, if_neg (out_nI (by omega) (by decide)), nI_1, nI_clamp (by omega)]
        · rw [gM_u3 (by decide) (by decide)]; exact congrArg (fun q => hwU2 q 97 (40 * s + k) 0) h
theorem w_lay (N : Nat) (hN : 160 ≤ N) (s : Nat) (hs : s < 4) (k : Int32) (hk : k = -1 ∨ isN k 2) (z : Nat) (hz : z ≤ 40) {g : Nat → Nat → Int32} (hw : Wf g) : Tw (fun σ => (F_X10_lay N (nI s) k (nI z) σ).bind (fun q3 => some ((1 : Int32), q3.2))) (fun σ => F_X12_sheet_b66 N (nI s) (nI z) (nI s) (σ.1, σ.2.1, (hwU3 σ.2.2.1 95 0 s k), σ.2.2.2.1, σ.2.2.2.2)) g (fun _ => True) := by
  refine Tw.step (g2 := hwU2 (hwU2 g 95 s k) 96 s (nI z)) (fun σ h => ?_) (fun σ h => ?_) (w_lay17 N s hs 40 N 0 _ (by omega) (by omega) ((hw.u_so s hk).u_sz s (isN_nI hz (by decide)))) (fun _ _ => trivial)
  · refine ⟨(σ.1, σ.2.1, hwU3 (hwU3 σ.2.2.1 70 0 s k) 71 0 s (nI z), σ.2.2.2.1, σ.2.2.2.2), ?_, KC.trans (KC.w (show 70 < 72 by decide)) (KC.w (show 71 < 72 by decide)), HX0.u_sz (HX0.u_so (show HX0 (σ.1, σ.2.1, σ.2.2.1, σ.2.2.2.1, σ.2.2.2.2) g from h.1) s k) s (nI z), ?_⟩
    · show (F_X10_lay N (nI s) k (nI z) σ).bind _ = _
      unfold F_X10_lay
      rw [if_neg (out_nI hs (by decide)), if_neg (out_nI hs (by decide))]
      simp only [nI_clamp (show s < 2 ^ 31 by omega)]
      rfl
    · refine h.2.cg ?_ ?_ ?_ ?_ ?_ ?_ ?_ ?_ ?_ ?_ <;> simp (disch := omega) only [hwU3_t, u2_t, u2_k]
  · refine ⟨(σ.1, σ.2.1, hwU3 (hwU3 σ.2.2.1 95 0 s k) 96 0 s (nI z), σ.2.2.2.1, σ.2.2.2.2), ?_, KR.trans (KR.w (show 72 ≤ 95 by decide)) (KR.w (show 72 ≤ 96 by decide)), ?_⟩
    · show F_X12_sheet_b66 N (nI s) (nI z) (nI s) _ = _
      unfold F_X12_sheet_b66
      rw [if_neg (out_nI hs (by decide))]
      simp only [nI_clamp (show s < 2 ^ 31 by omega)]
      rfl
    · rw [gM_u3 (by decide) (by decide), gM_u3 (by decide) (by decide)]; exact congrArg (fun q => hwU2 (hwU2 q 95 s k) 96 s (nI z)) h
theorem w_sheet (N : Nat) (hN : 160 ≤ N) {g : Nat → Nat → Int32} (hw : Wf g) (a b c : Int32) : Tw (F_X11_sheet N a b c) (F_X12_sheet N a b c) g (fun _ => True) := by
  rcases rg_c a (c := 4) (by decide) with ⟨s, hs, rfl⟩ | hq
  rotate_left
  · refine Tw.st hw trivial (Int32.ofInt (-2)) (fun σ h => ?_) (fun σ h => ?_)
    · unfold F_X11_sheet; rw [x_shN hq, Option.bind_some, k00]
    · unfold F_X12_sheet; rw [m_shN hq, Option.bind_some, k00]
  by_cases cb : b = -1
  · subst cb
    refine (w_lay N hN s hs (-1) (Or.inl rfl) 0 (by decide) hw).eq (fun σ h => ?_) (fun σ h => ?_)
    · unfold F_X11_sheet F_X11_sheet_b32 F_X11_sheet_b43 F_X11_sheet_b58
      rw [x_shY hs, Option.bind_some, k10, x_in_y (by decide) (by decide), Option.bind_some, k10, if_pos (show (-1 : Int32) < 0 by decide), if_pos (show (-1 : Int32) < 0 by decide), if_neg (show ¬ (0 : Int32) ≤ -1 by decide)]
      rfl
    · unfold F_X12_sheet F_X12_sheet_b32 F_X12_sheet_b44
      rw [m_shY hs, Option.bind_some, k10, m_in_y (by decide) (by decide), Option.bind_some, k10, if_pos (show (-1 : Int32) = Int32.ofInt (-1) by decide), if_pos (show (-1 : Int32) = Int32.ofInt (-1) by decide), if_neg (out_nI hs (by decide)), if_pos (show (-1 : Int32) = Int32.ofInt (-1) by decide)]
      simp only [nI_clamp (show s < 2 ^ 31 by omega)]
      rfl
  rcases rg_m b 0 2 (by decide) (by decide) with ⟨k, k0, hk, rfl⟩ | hq
  rotate_left
  · have hq2 : b < Int32.ofInt (-1) ∨ 2 < b := by
      refine hq.imp (fun q => ?_) (fun q => q)
      have q1 := Int32.lt_iff_toInt_lt.mp q
      rw [show (nI 0).toInt = 0 from by decide] at q1
      refine Int32.lt_iff_toInt_lt.mpr ?_
      rw [show (Int32.ofInt (-1)).toInt = -1 from by decide]
      have : b.toInt ≠ -1 := fun z => cb (Int32.toInt_inj.mp (by rw [z]; decide))
      omega
    refine Tw.st hw trivial (Int32.ofInt (-2)) (fun σ h => ?_) (fun σ h => ?_)
    · unfold F_X11_sheet; rw [x_shY hs, Option.bind_some, k10, x_in_n hq2, Option.bind_some, k00]
    · unfold F_X12_sheet; rw [m_shY hs, Option.bind_some, k10, m_in_n hq2, Option.bind_some, k00]
  have in1 : ¬ nI k < Int32.ofInt (-1) := by
    intro q
    have q1 := Int32.lt_iff_toInt_lt.mp q
    rw [show (Int32.ofInt (-1)).toInt = -1 from by decide, nI_toInt (by omega)] at q1
    omega
  have in2 : ¬ (2 : Int32) < nI k := nltL_a 2 2 rfl hk (by decide)
  have n1 := nI_n1 k (by omega)
  have nz := nI_nz (k := k) (by omega)
  by_cases c40 : c ≤ 40
  rotate_left
  · refine Tw.st hw trivial (Int32.ofInt (-2)) (fun σ h => ?_) (fun σ h => ?_)
    · unfold F_X11_sheet; rw [x_shY hs, Option.bind_some, k10, x_in_y in1 in2, Option.bind_some, k10, if_neg nz, if_neg c40]
    · unfold F_X12_sheet; rw [m_shY hs, Option.bind_some, k10, m_in_y in1 in2, Option.bind_some, k10, if_neg n1, if_neg c40]
  by_cases c0 : 0 ≤ c
  rotate_left
  · refine Tw.st hw trivial (Int32.ofInt (-14)) (fun σ h => ?_) (fun σ h => ?_)
    · unfold F_X11_sheet F_X11_sheet_b32; rw [x_shY hs, Option.bind_some, k10, x_in_y in1 in2, Option.bind_some, k10, if_neg nz, if_pos c40, if_neg nz, if_neg c0]
    · unfold F_X12_sheet F_X12_sheet_b32; rw [m_shY hs, Option.bind_some, k10, m_in_y in1 in2, Option.bind_some, k10, if_neg n1, if_pos c40, if_neg n1, if_neg c0]
  obtain ⟨z, hz, rfl⟩ := nI_of (x := c) (fun q => by
    have q1 := Int32.lt_iff_toInt_lt.mp q
    have q2 := Int32.le_iff_toInt_le.mp c0
    omega)
  have hz40 : z ≤ 40 := by
    have := Int32.le_iff_toInt_le.mp c40
    rw [nI_toInt hz, show (40 : Int32).toInt = 40 from by decide] at this
    omega
  refine (w_lay N hN s hs (nI k) (Or.inr (isN_nI hk (by decide))) z hz40 hw).eq (fun σ h => ?_) (fun σ h => ?_)
  · unfold F_X11_sheet F_X11_sheet_b32 F_X11_sheet_b43 F_X11_sheet_b58
    rw [x_shY hs, Option.bind_some, k10, x_in_y in1 in2, Option.bind_some, k10, if_neg nz, if_pos c40, if_neg nz, if_pos c0, if_pos (nI_pos' (by omega))]
  · unfold F_X12_sheet F_X12_sheet_b32 F_X12_sheet_b44
    rw [m_shY hs, Option.bind_some, k10, m_in_y in1 in2, Option.bind_some, k10, if_neg n1, if_pos c40, if_neg n1, if_pos c0, if_neg (out_nI hs (by decide)), if_neg n1]
    simp only [nI_clamp (show s < 2 ^ 31 by omega)]

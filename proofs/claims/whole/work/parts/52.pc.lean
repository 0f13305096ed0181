/-! THE PURE SIDE, 33: a place founded, numbers copied, layers by a sheet -/
theorem sL_o {g : Nat → Nat → Int32} {t k : Nat} {v : Int32} (h : 12 ≠ t) : sL (hwU2 g t k v) = sL g := by unfold sL; rw [u2_t h]
theorem sPl_o {g : Nat → Nat → Int32} {t k : Nat} {v : Int32} (h : 12 ≠ t) : sPl (hwU2 g t k v) = sPl g := by unfold sPl; rw [u2_t h]
theorem w_found16 (N : Nat) (s : Nat) (hs : s < 4) : ∀ (q n k : Nat) (g : Nat → Nat → Int32), k + q = sL g → q < n → Wf g → sPl g < 4 → 0 < sL g → (∀ j, j < sL g → isN (g 97 (40 * s + j)) 99) →
    Tw (F_X7_found_t69_b16 N n s (nI (sL g)) (nI (sPl g)) (nI k)) (F_X12_place_b109 N n (nI s) (nI k)) g (fun _ => True) := by
  intro q
  induction q with
  | zero =>
    intro n k g hk hn hw hp hl hc
    have hL := sL_le hw
    have hP := sPl_eq hw
    cases n with
    | zero => cases hn
    | succ n =>
      have wf : Wf (hwU2 g 12 10 (nI (sPl g + 1))) := hw.u_pl ⟨⟨isN_nI (by omega) (by decide), by rw [nI_clamp (by omega)]; show sPl g ≤ _; omega⟩, hl⟩
      refine ⟨nI (sPl g), _, ⟨wf, trivial⟩, fun σ h => ⟨(hwU2 σ.1 4 5 (nI (sPl g + 1)), σ.2.1, σ.2.2.1, σ.2.2.2.1, σ.2.2.2.2), ?_, KC.i (show 4 ≠ 12 by decide), HX0.u_pl (show HX0 (σ.1, σ.2.1, σ.2.2.1, σ.2.2.2.1, σ.2.2.2.2) g from h.1) _, ?_⟩, fun σ h => ⟨(hwU2 σ.1 12 10 (nI (sPl g + 1)), σ.2.1, σ.2.2.1, σ.2.2.2.1, σ.2.2.2.2), ?_, KR.i, ?_⟩⟩
      · rw [F_X7_found_t69_b16.eq_2, if_pos (nI_le (by omega) (by omega)), nI_1]
      · refine h.2.cg ?_ ?_ ?_ ?_ ?_ ?_ ?_ ?_ ?_ ?_ <;> simp (disch := omega) only [hwU3_t, u2_t, u2_k]
      · rw [F_X12_place_b109.eq_2, rL hw h, if_pos (nI_le (by omega) (by omega)), rF h (by decide), hP.1, nI_add_sub, nI_1]
      · rw [gM_u2 (by decide)]; exact congrArg (fun q => hwU2 q 12 10 (nI (sPl g + 1))) h
  | succ q ih =>
    intro n k g hk hn hw hp hl hc
    have hL := sL_le hw
    have hP := sPl_eq hw
    cases n with
    | zero => cases hn
    | succ n =>
      have e1 : sL (hwU2 g 76 (5 * sPl g + k) (g 97 (40 * s + k))) = sL g := sL_o (by decide)
      have e2 : sPl (hwU2 g 76 (5 * sPl g + k) (g 97 (40 * s + k))) = sPl g := sPl_o (by decide)
      have t := ih n (k + 1) (hwU2 g 76 (5 * sPl g + k) (g 97 (40 * s + k))) (by rw [e1]; omega) (by omega) (hw.u_fi _ (hc k (by omega)) (fun p j a b c => by
        have : sL g ≤ j := c
        omega)) (by rw [e2]; exact hp) (by rw [e1]; exact hl) (fun j hj => by rw [u2_t (by decide)]; rw [e1] at hj; exact hc j hj)
      rw [e1, e2] at t
      refine Tw.step (fun σ h => ?_) (fun σ h => ?_) t (fun _ _ => trivial)
      · refine ⟨(σ.1, σ.2.1, hwU3 σ.2.2.1 55 (sPl g) k (g 97 (40 * s + k)), σ.2.2.2.1, σ.2.2.2.2), ?_, KC.w (show 55 < 72 by decide), HX0.u_fi (show HX0 (σ.1, σ.2.1, σ.2.2.1, σ.2.2.2.1, σ.2.2.2.2) g from h.1) (sPl g) k (by omega) _, ?_⟩
        · rw [F_X7_found_t69_b16.eq_2, if_neg (nI_ge (by omega) (by omega)), if_neg (geL_n 40 40 rfl (by omega) (by decide)), if_neg (out_nI (by omega) (by decide)), if_neg (out_nI (by omega) (by decide)), if_neg (out_nI (by omega) (by decide)), nI_1]
          simp only [nI_clamp (show sPl g < 2 ^ 31 by omega), nI_clamp (show k < 2 ^ 31 by omega)]
          rw [h.1.ce s k hs (by omega)]
        · refine h.2.cg ?_ ?_ ?_ ?_ ?_ ?_ ?_ ?_ ?_ ?_ <;> simp (disch := omega) only [hwU3_t, u2_t, u2_k]
      · refine ⟨(σ.1, σ.2.1, hwU3 σ.2.2.1 76 0 (5 * sPl g + k) (g 97 (40 * s + k)), σ.2.2.2.1, σ.2.2.2.2), ?_, KR.w (show 72 ≤ 76 by decide), ?_⟩
        · rw [F_X12_place_b109.eq_2, rL hw h, if_neg (nI_ge (by omega) (by omega)), rF h (by decide), hP.1, ix40, ix5, if_neg (out_nI (by omega) (by decide)), if_neg (out_nI (by omega) (by decide)), nI_1, nI_clamp (by omega), nI_clamp (by omega), rA h (by decide) (by decide)]
        · rw [gM_u3 (by decide) (by decide)]; exact congrArg (fun q => hwU2 q 76 (5 * sPl g + k) (g 97 (40 * s + k))) h
theorem m_place53 (N : Nat) {g : Nat → Nat → Int32} (hw : Wf g) (s : Nat) (hs : s < 4) (σ : Mem) (hg : gM σ = g) : ∀ (q n k : Nat), k + q = sL g → q < n →
    F_X12_place_b53 N n (nI s) 1 (nI k) σ = F_X12_place_b89 N (nI s) (if sAw g s 99 q k = true then 1 else 0) σ := by
  have hL := sL_le hw
  intro q
  induction q with
  | zero =>
    intro n k hk hn
    cases n with
    | zero => cases hn
    | succ n => rw [F_X12_place_b53.eq_2, rL hw hg, if_pos (nI_le (by omega) (by omega))]; rfl
  | succ q ih =>
    intro n k hk hn
    cases n with
    | zero => cases hn
    | succ n =>
      rw [F_X12_place_b53.eq_2, rL hw hg, if_neg (nI_ge (by omega) (by omega)), k10, ix40, if_neg (out_nI (by omega) (by decide)), nI_clamp (by omega), rA hg (by decide) (by decide), nI_1, sAw]
      by_cases c : sCl g s k < 0 ∨ 99 < sCl g s k
      · rw [if_pos c, show F_X12_in N (g 97 (40 * s + k)) 0 99 σ = _ from m_in_n c, Option.bind_some]
        cases n with
        | zero => omega
        | succ n =>
          rw [F_X12_place_b53.eq_2, rL hw hg]
          by_cases cc : nI (sL g) ≤ nI (k + 1)
          · rw [if_pos cc, if_neg (by decide)]
          · rw [if_neg cc, k00, if_neg (by decide)]
      · rw [if_neg c, show F_X12_in N (g 97 (40 * s + k)) 0 99 σ = _ from m_in_y (fun z => c (Or.inl z)) (fun z => c (Or.inr z)), Option.bind_some]
        exact ih n (k + 1) (by omega) (by omega)
theorem m_place53z (N : Nat) (s : Int32) (n : Nat) (σ : Mem) (k : Int32) : F_X12_place_b53 N (n + 1) s 0 k σ = some (Int32.ofInt (-2), σ) := by
  have e : F_X12_place_b89 N s 0 σ = some (Int32.ofInt (-2), σ) := by unfold F_X12_place_b89; rw [k00]
  rw [F_X12_place_b53.eq_2, k00, e, ite_self]
theorem w_place (N : Nat) (hN : 160 ≤ N) {g : Nat → Nat → Int32} (hw : Wf g) (a : Int32) : Tw (F_X11_place N a) (F_X12_place N a) g (fun _ => True) := by
  have hL := sL_le hw
  have hP := sPl_eq hw
  obtain ⟨N', eN⟩ : ∃ n, N = n + 1 := ⟨N - 1, by omega⟩
  rcases rg_c a (c := 4) (by decide) with ⟨s, hs, rfl⟩ | hq
  rotate_left
  · refine Tw.st hw trivial (Int32.ofInt (-2)) (fun σ h => ?_) (fun σ h => ?_)
    · unfold F_X11_place; rw [x_shN hq, Option.bind_some, k00]
    · unfold F_X12_place; rw [m_shN hq, Option.bind_some, k00]
  obtain ⟨ez, hz⟩ := hw.sz s hs
  by_cases cm : g 95 s = -1
  · refine Tw.st hw trivial (Int32.ofInt (-11)) (fun σ h => ?_) (fun σ h => ?_)
    · unfold F_X11_place; rw [x_shY hs, Option.bind_some, k10, x_misY h hs cm, Option.bind_some, k10]
    · unfold F_X12_place; rw [m_shY hs, Option.bind_some, k10, if_neg (out_nI hs (by decide))]; simp only [nI_clamp (show s < 2 ^ 31 by omega)]; rw [rA h (by decide) (by decide), if_pos (show g 95 s = Int32.ofInt (-1) from cm)]
  have ms : ∀ σ, gM σ = g → F_X12_place N (nI s) σ = if g 96 s = nI (sL g) then (if nI (sL g) ≤ 0 then F_X12_place_b53 N N (nI s) 0 0 σ else F_X12_place_b53 N N (nI s) 1 0 σ) else F_X12_place_b53 N N (nI s) 0 0 σ := by
    intro σ h
    unfold F_X12_place
    rw [m_shY hs, Option.bind_some, k10, if_neg (out_nI hs (by decide))]
    simp only [nI_clamp (show s < 2 ^ 31 by omega)]
    rw [rA h (by decide) (by decide), if_neg (show ¬ g 95 s = Int32.ofInt (-1) from cm), if_neg (out_nI hs (by decide)), rA h (by decide) (by decide), rL hw h]
  have xs : ∀ σ, HX σ g → F_X11_place N (nI s) σ = if nI (sL g) = 0 then some (Int32.ofInt (-2), σ) else if g 96 s = nI (sL g) then (F_X10_allWithin N (nI s) 0 99 σ).bind (fun q3 =>
          if q3.1 = 0 then
            some ((Int32.ofInt (-2)), q3.2)
          else
            if hwOut (nI s) 4 then none else
            (F_X7_found_t69 N s (q3.2.1 1 6) q3.2).bind (fun q4 =>
            some (q4.1, q4.2))) else some (Int32.ofInt (-2), σ) := by
    intro σ h
    unfold F_X11_place
    rw [x_shY hs, Option.bind_some, k10, x_misN hw h hs cm, Option.bind_some, k00, h.1.ly, sL_eq hw, if_neg (out_nI hs (by decide))]
    simp only [nI_clamp (show s < 2 ^ 31 by omega)]
    rw [h.1.sz s hs]
  by_cases c0 : sL g = 0
  · refine Tw.st hw trivial (Int32.ofInt (-2)) (fun σ h => ?_) (fun σ h => ?_)
    · rw [xs σ h, c0, if_pos rfl]
    · rw [ms σ h, c0, if_pos (show nI 0 ≤ 0 by decide), eN, m_place53z, ite_self]
  have n0 : ¬ nI (sL g) = 0 := neL 0 0 rfl ⟨c0, by omega, by decide⟩
  have p0 : ¬ nI (sL g) ≤ 0 := geL_a 0 0 rfl (by omega) (by omega)
  by_cases cz : g 96 s = nI (sL g)
  rotate_left
  · refine Tw.st hw trivial (Int32.ofInt (-2)) (fun σ h => ?_) (fun σ h => ?_)
    · rw [xs σ h, if_neg n0, if_neg cz]
    · rw [ms σ h, if_neg cz, eN, m_place53z]
  have ezL : (g 96 s).toNatClampNeg = sL g := by rw [cz, nI_clamp (by omega)]
  have xa : ∀ σ, HX σ g → F_X10_allWithin N (nI s) 0 99 σ = some (bI (sAw g s 99 (sL g) 0), σ) := by
    intro σ h
    exact x_all3 N hw s hs 99 σ h (sL g) N 0 (by omega) (by omega)
  have ma : ∀ σ, gM σ = g → F_X12_place_b53 N N (nI s) 1 0 σ = F_X12_place_b89 N (nI s) (if sAw g s 99 (sL g) 0 = true then 1 else 0) σ := fun σ h => m_place53 N hw s hs σ h (sL g) N 0 (by omega) (by omega)
  by_cases cw : sAw g s 99 (sL g) 0 = true
  rotate_left
  · refine Tw.st hw trivial (Int32.ofInt (-2)) (fun σ h => ?_) (fun σ h => ?_)
    · rw [xs σ h, if_neg n0, if_pos cz, xa σ h, Option.bind_some]
      rw [Bool.not_eq_true] at cw
      rw [cw]
      rfl
    · rw [ms σ h, if_pos cz, if_neg p0, ma σ h, if_neg cw]; unfold F_X12_place_b89; rw [k00]
  have hp : ∀ j, j < sL g → isN (g 97 (40 * s + j)) 99 := fun j hj => sAw_is (m := 99) (by decide) (sL g) 0 cw j (Nat.zero_le _) (by omega)
  have x1 : ∀ σ, HX σ g → F_X11_place N (nI s) σ = (F_X7_found_t69 N s (nI (sL g)) σ).bind (fun q4 => some (q4.1, q4.2)) := by
    intro σ h
    rw [xs σ h, if_neg n0, if_pos cz, xa σ h, Option.bind_some, cw]
    show (if (1 : Int32) = 0 then _ else _) = _
    rw [k10, if_neg (out_nI hs (by decide))]
    show (F_X7_found_t69 N s (σ.1 1 6) σ).bind _ = _
    rw [h.1.ly, sL_eq hw]
  have m1 : ∀ σ, gM σ = g → F_X12_place N (nI s) σ = if nI (sPl g) = 4 then some (Int32.ofInt (-4), σ) else F_X12_place_b109 N N (nI s) 0 σ := by
    intro σ h
    rw [ms σ h, if_pos cz, if_neg p0, ma σ h, if_pos cw]
    unfold F_X12_place_b89
    rw [k10, rF h (by decide), hP.1]
  by_cases c4 : sPl g = 4
  · refine Tw.st hw trivial (Int32.ofInt (-4)) (fun σ h => ?_) (fun σ h => ?_)
    · rw [x1 σ h]
      unfold F_X7_found_t69
      rw [h.1.pl, hP.1, c4, if_neg (show ¬ nI 4 < (4 : Int32) by decide), Option.bind_some]
    · rw [m1 σ h, c4, if_pos rfl]
  refine (w_found16 N s hs (sL g) N 0 g (by omega) (by omega) hw (by omega) (by omega) hp).eq (fun σ h => ?_) (fun σ h => ?_)
  · rw [x1 σ h]
    unfold F_X7_found_t69
    rw [h.1.pl, hP.1, if_pos (ltL_b 4 4 rfl (by omega) (by decide))]
    show (F_X7_found_t69_b16 N N s (nI (sL g)) (nI (sPl g)) (nI 0) σ).bind _ = _
    cases F_X7_found_t69_b16 N N s (nI (sL g)) (nI (sPl g)) (nI 0) σ with
    | none => rfl
    | some p => rfl
  · rw [m1 σ h, if_neg (neL 4 4 rfl ⟨c4, by omega, by decide⟩)]
    rfl

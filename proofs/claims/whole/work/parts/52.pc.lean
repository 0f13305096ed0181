/-! THE PURE SIDE, 33: a place founded, numbers copied, layers by a sheet -/
theorem sL_o {g : Nat → Nat → Int32} {t k : Nat} {v : Int32} (h : 12 ≠ t) : sL (hwU2 g t k v) = sL g := by unfold sL; rw [u2_t h]
theorem sPl_o {g : Nat → Nat → Int32} {t k : Nat} {v : Int32} (h : 12 ≠ t) : sPl (hwU2 g t k v) = sPl g := by unfold sPl; rw [u2_t h]
theorem w_found16 (N : Nat) (s : Nat) (hs : s < 4) : ∀ (q n k : Nat) (g : Nat → Nat → Int32), k + q = sL g → q < n → Wf g → sPl g < 4 → 0 < sL g → (∀ j, j < sL g → isN (g 97 (40 * s + j)) 99) →
    Tw (F_X7_found_t69_b16 N n s (nI (sL g)) (nI (sPl g)) (nI k)) (F_X12_place_b109 N n (nI s) (nI k)) g (fun _ => True) := by
  intro q
  induction q with
  | zero =>
    intro n k g hk hn hw hp hl hc
    have hL := sL_le hw
    have hP := sPl_eq hw
    cases n with
    | zero => cases hn
    | succ n =>
      have wf : Wf (hwU2 g 12 10 (nI (sPl g + 1))) := hw.u_pl ⟨⟨isN_nI (by omega) (by decide), by rw [nI_clamp (by omega)]; show sPl g ≤ _; omega⟩, hl⟩
      refine ⟨nI (sPl g), _, ⟨wf, trivial⟩, fun σ h => ⟨(hwU2 σ.1 4 5 (nI (sPl g + 1)), σ.2.1, σ.2.2.1, σ.2.2.2.1, σ.2.2.2.2), ?_, KC.i (show 4 ≠ 12 by decide), HX0.u_pl (show HX0 (σ.1, σ.2.1, σ.2.2.1, σ.2.2.2.1, σ.2.2.2.2) g from h.1) _, ?_⟩, fun σ h => ⟨(hwU2 σ.1 12 10 (nI (sPl g + 1)), σ.2.1, σ.2.2.1, σ.2.2.2.1, σ.2.2.2.2), ?_, KR.i, ?_⟩⟩
      · rw [F_X7_found_t69_b16.eq_2, if_pos (nI_le (by omega) (by omega)), nI_1]
      · refine h.2.cg ?_ ?_ ?_ ?_ ?_ ?_ ?_ ?_ ?_ ?_ <;> simp (disch := omega) only [hwU3_t, u2_t, u2_k]
      · rw [F_X12_place_b109.eq_2, rL hw h, if_pos (nI_le (by omega) (by omega)), rF h (by decide), hP.1, nI_add_sub, nI_1]
      · rw [gM_u2 (by decide)]; exact congrArg (fun q => hwU2 q 12 10 (nI (sPl g + 1))) h
  | succ q ih =>
    intro n k g hk hn hw hp hl hc
    have hL := sL_le hw
    have hP := sPl_eq hw
    cases n with
    | zero => cases hn
    | succ n =>
      have e1 : sL (hwU2 g 76 (5 * sPl g + k) (g 97 (40 * s + k))) = sL g := sL_o (by decide)
      have e2 : sPl (hwU2 g 76 (5 * sPl g + k) (g 97 (40 * s + k))) = sPl g := sPl_o (by decide)
      have t := ih n (k + 1) (hwU2 g 76 (5 * sPl g + k) (g 97 (40 * s + k))) (by rw [e1]; omega) (by omega) (hw.u_fi _ (hc k (by omega)) (fun p j a b c => by
        have : sL g ≤ j := c
        omega)) (by rw [e2]; exact hp) (by rw [e1]; exact hl) (fun j hj => by rw [u2_t (by decide)]; rw [e1] at hj; exact hc j hj)
      rw [e1, e2] at t
      refine Tw.step (fun σ h => ?_) (fun σ h => ?_) t (fun _ _ => trivial)
      · refine ⟨(σ.1, σ.2.1, hwU3 σ.2.2.1 55 (sPl g) k (g 97 (40 * s + k)), σ.2.2.2.1, σ.2.2.2.2), ?_, KC.w (show 55 < 72 by decide), HX0.u_fi (show HX0 (σ.1, σ.2.1, σ.2.2.1, σ.2.2.2.1, σ.2.2.2.2) g from h.1) (sPl g) k (by omega) _, ?_⟩
        · rw [F_X7_found_t69_b16.eq_2, if_neg (nI_ge (by omega) (by omega)), if_neg (geL_n 40 40 rfl (by omega) (by decide)), if_neg (out_nI (by omega) (by decide)), if_neg (out_nI (by omega) (by decide)), if_neg (out_nI (by omega) (by decide)), nI_1]
          simp only [nI_clamp (show sPl g < 2 ^ 31 by omega), nI_clamp (show k < 2 ^ 31 by omega)]
          rw [h.1.ce s k hs (by omega)]
        · refine h.2.cg ?_ ?_ ?_ ?_ ?_ ?_ ?_ ?_ ?_ ?_ <;> simp (disch := omega) only [hwU3_t, u2_t, u2_k]
      · refine ⟨(σ.1, σ.2.1, hwU3 σ.2.2.1 76 0 (5 * sPl g + k) (g 97 (40 * s + k)), σ.2.2.2.1, σ.2.2.2.2), ?_, KR.w (show 72 ≤ 76 by decide), ?_⟩
        · rw [F_X12_place_b109.eq_2, rL hw h, if_neg (nI_ge (by omega) (by omega)), rF h (by decide), hP.1, ix40, ix5, if_neg (out_nI (by omega) (by decide)), if_neg (out_nI (by omega) (by decide)), nI_1, nI_clamp (by omega), nI_clamp (by omega), rA h (by decide) (by decide)]
        · rw [gM_u3 (by decide) (by decide)]; exact congrArg (fun q => hwU2 q 76 (5 * sPl g + k) (g 97 (40 * s + k))) h
theorem m_place53 (N : Nat) {g : Nat → Nat → Int32} (hw : Wf g) (s : Nat) (hs : s < 4) (σ : Mem) (hg : gM σ = g) : ∀ (q n k : Nat), k + q = sL g → q < n →
    F_X12_place_b53 N n (nI s) 1 (nI k) σ = F_X12_place_b89 N (nI s) (if sAw g s 99 q k = true then 1 else 0) σ := by
  have hL := sL_le hw
  intro q
  induction q with
  | zero =>
    intro n k hk hn
    cases n with
    | zero => cases hn
    | succ n => rw [F_X12_place_b53.eq_2, rL hw hg, if_pos (nI_le (by omega) (by omega))]; rfl
  | succ q ih =>
    intro n k hk hn
    cases n with
    | zero => cases hn
    | succ n =>
      rw [F_X12_place_b53.eq_2, rL hw hg, if_neg (nI_ge (by omega) (by omega)), k10, ix40, if_neg (out_nI (by omega) (by decide)), nI_clamp (by omega), rA hg (by decide) (by decide), nI_1, sAw]
      by_cases c : sCl g s k < 0 ∨ 99 < sCl g s k
      · rw [if_pos c, show F_X12_in N (g 97 (40 * s + k)) 0 99 σ = _ from m_in_n c, Option.bind_some]
        cases n with
        | zero => omega
        | succ n =>
          rw [F_X12_place_b53.eq_2, rL hw hg]
          by_cases cc : nI (sL g) ≤ nI (k + 1)
          · rw [if_pos cc, if_neg (by decide)]
          · rw [if_neg cc, k00, if_neg (by decide)]
      · rw [if_neg c, show F_X12_in N (g 97 (40 * s + k)) 0 99 σ = _ from m_in_y (fun z => c (Or.inl z)) (fun z => c (Or.inr z)), Option.bind_some]
        exact ih n (k + 1) (by omega) (by omega)
theorem m_place53z (N : Nat) (s : Int32) (n : Nat) (σ : Mem) (k : Int32) : F_X12_place_b53 N (n + 1) s 0 k σ = some (Int32.ofInt (-2), σ) := by
  have e : F_X12_place_b89 N s 0 σ = some (Int32.ofInt (-2), σ) := by unfold F_X12_place_b89; rw [k00]
  rw [F_X12_place_b53.eq_2, k00, e, ite_self]
theorem w_place (N : Nat) (hN : 160 ≤ N) {g : Nat → Nat → Int32} (hw : Wf g) (a : Int32) : Tw (F_X11_place N a) (F_X12_place N a) g (fun _ => True) := by
  have hL := sL_le hw
  have hP := sPl_eq hw
  obtain ⟨N', eN⟩ : ∃ n, N = n + 1 := ⟨N - 1, by omega⟩
  rcases rg_c a (c := 4) (by decide) with ⟨s, hs, rfl⟩ | hq
  rotate_left
  · refine Tw.st hw trivial (Int32.ofInt (-2)) (fun σ h => ?_) (fun σ h => ?_)
    · unfold F_X11_place; rw [x_shN hq, Option.bind_some, k00]
    · unfold F_X12_place; rw [m_shN hq, Option.bind_some, k00]
  obtain ⟨ez, hz⟩ := hw.sz s hs
  by_cases cm : g 95 s = -1
  · refine Tw.st hw trivial (Int32.ofInt (-11)) (fun σ h => ?_) (fun σ h => ?_)
    · unfold F_X11_place; rw [x_shY hs, Option.bind_some, k10, x_misY h hs cm, Option.bind_some, k10]
    · unfold F_X12_place; rw [m_shY hs, Option.bind_some, k10, if_neg (out_nI hs (by decide))]; simp only [nI_clamp (show s < 2 ^ 31 by omega)]; rw [rA h (by decide) (by decide), if_pos (show g 95 s = Int32.ofInt (-1) from cm)]
  have ms : ∀ σ, gM σ = g → F_X12_place N (nI s) σ = if g 96 s = nI (sL g) then (if nI (sL g) ≤ 0 then F_X12_place_b53 N N (nI s) 0 0 σ else F_X12_place_b53 N N (nI s) 1 0 σ) else F_X12_place_b53 N N (nI s) 0 0 σ := by
    intro σ h
    unfold F_X12_place
    rw [m_shY hs, Option.bind_some, k10, if_neg (out_nI hs (by decide))]
    simp only [nI_clamp (show s < 2 ^ 31 by omega)]
    rw [rA h (by decide) (by decide), if_neg (show ¬ g 95 s = Int32.ofInt (-1) from cm), if_neg (out_nI hs (by decide)), rA h (by decide) (by decide), rL hw h]
  have xs : ∀ σ, HX σ g → F_X11_place N (nI s) σ = if nI (sL g) = 0 then some (Int32.ofInt (-2), σ) else if g 96 s = nI (sL g) then (F_X10_allWithin N (nI s) 0 99 σ).bind (fun q3 =>
          if q3.1 = 0 then
            some ((Int32.ofInt (-2)), q3.2)
          else
            if hwOut (nI s) 4 then none else
            (F_X7_found_t69 N s (q3.2.1 1 6) q3.2).bind (fun q4 =>
            some (q4.1, q4.2))) else some (Int32.ofInt (-2), σ) := by
    intro σ h
    unfold F_X11_place
    rw [x_shY hs, Option.bind_some, k10, x_misN hw h hs cm, Option.bind_some, k00, h.1.ly, sL_eq hw, if_neg (out_nI hs (by decide))]
    simp only [nI_clamp (show s < 2 ^ 31 by omega)]
    rw [h.1.sz s hs]
  by_cases c0 : sL g = 0
  · refine Tw.st hw trivial (Int32.ofInt (-2)) (fun σ h => ?_) (fun σ h => ?_)
    · rw [xs σ h, c0, if_pos (show nI 0 = 0 from rfl)]
    · rw [ms σ h, c0, if_pos (show nI 0 ≤ 0 by decide), eN, m_place53z, ite_self]
  have n0 : ¬ nI (sL g) = 0 := neL 0 0 rfl ⟨c0, by omega, by decide⟩
  have p0 : ¬ nI (sL g) ≤ 0 := geL_a 0 0 rfl (by omega) (by omega)
  by_cases cz : g 96 s = nI (sL g)
  rotate_left
  · refine Tw.st hw trivial (Int32.ofInt (-2)) (fun σ h => ?_) (fun σ h => ?_)
    · rw [xs σ h, if_neg n0, if_neg cz]
    · rw [ms σ h, if_neg cz, eN, m_place53z]
  have ezL : (g 96 s).toNatClampNeg = sL g := by rw [cz, nI_clamp (by omega)]
  have xa : ∀ σ, HX σ g → F_X10_allWithin N (nI s) 0 99 σ = some (bI (sAw g s 99 (sL g) 0), σ) := by
    intro σ h
    exact x_all3 N hw s hs 99 σ h (sL g) N 0 (by omega) (by omega)
  have ma : ∀ σ, gM σ = g → F_X12_place_b53 N N (nI s) 1 0 σ = F_X12_place_b89 N (nI s) (if sAw g s 99 (sL g) 0 = true then 1 else 0) σ := fun σ h => m_place53 N hw s hs σ h (sL g) N 0 (by omega) (by omega)
  by_cases cw : sAw g s 99 (sL g) 0 = true
  rotate_left
  · refine Tw.st hw trivial (Int32.ofInt (-2)) (fun σ h => ?_) (fun σ h => ?_)
    · rw [xs σ h, if_neg n0, if_pos cz, xa σ h, Option.bind_some]
      rw [Bool.not_eq_true] at cw
      rw [cw]
      rfl
    · rw [ms σ h, if_pos cz, if_neg p0, ma σ h, if_neg cw]; unfold F_X12_place_b89; rw [k00]
  have hp : ∀ j, j < sL g → isN (g 97 (40 * s + j)) 99 := fun j hj => sAw_is (m := 99) (by decide) (sL g) 0 cw j (Nat.zero_le _) (by omega)
  have x1 : ∀ σ, HX σ g → F_X11_place N (nI s) σ = (F_X7_found_t69 N s (nI (sL g)) σ).bind (fun q4 => some (q4.1, q4.2)) := by
    intro σ h
    rw [xs σ h, if_neg n0, if_pos cz, xa σ h, Option.bind_some, cw]
    show (if (1 : Int32) = 0 then _ else _) = _
    rw [k10, if_neg (out_nI hs (by decide))]
    show (F_X7_found_t69 N s (σ.1 1 6) σ).bind _ = _
    rw [h.1.ly, sL_eq hw]
  have m1 : ∀ σ, gM σ = g → F_X12_place N (nI s) σ = if nI (sPl g) = 4 then some (Int32.ofInt (-4), σ) else F_X12_place_b109 N N (nI s) 0 σ := by
    intro σ h
    rw [ms σ h, if_pos cz, if_neg p0, ma σ h, if_pos cw]
    unfold F_X12_place_b89
    rw [k10, rF h (by decide), hP.1]
  by_cases c4 : sPl g = 4
  · refine Tw.st hw trivial (Int32.ofInt (-4)) (fun σ h => ?_) (fun σ h => ?_)
    · rw [x1 σ h]
      unfold F_X7_found_t69
      rw [h.1.pl, hP.1, c4, if_neg (show ¬ nI 4 < (4 : Int32) by decide), Option.bind_some]
    · rw [m1 σ h, c4, if_pos (show nI 4 = 4 from rfl)]
  refine (w_found16 N s hs (sL g) N 0 g (by omega) (by omega) hw (by omega) (by omega) hp).eq (fun σ h => ?_) (fun σ h => ?_)
  · rw [x1 σ h]
    unfold F_X7_found_t69
    rw [h.1.pl, hP.1, if_pos (ltL_b 4 4 rfl (by omega) (by decide))]
    show (F_X7_found_t69_b16 N N s (nI (sL g)) (nI (sPl g)) (nI 0) σ).bind _ = _
    cases F_X7_found_t69_b16 N N s (nI (sL g)) (nI (sPl g)) (nI 0) σ with
    | none => rfl
    | some p => rfl
  · rw [m1 σ h, if_neg (neL 4 4 rfl ⟨c4, by omega, by decide⟩)]
    rfl
/-! numbers copied -/
def sCpy (g : Nat → Nat → Int32) (x y lo hi : Nat) : Nat → Nat → Int32 := fun t k => if t = 97 ∧ y + lo ≤ k ∧ k < y + hi then g 97 (x + (k - y)) else g t k
theorem sCpy_t {g : Nat → Nat → Int32} {x y lo hi t : Nat} (h : t ≠ 97) : sCpy g x y lo hi t = g t := by
  funext k; unfold sCpy; rw [if_neg (fun q => h q.1)]
theorem sCpy_0 {g : Nat → Nat → Int32} {x y lo : Nat} : sCpy g x y lo lo = g := by
  funext t k; unfold sCpy; rw [if_neg (fun q => by omega)]
theorem sCpy_up {g : Nat → Nat → Int32} {x y i : Nat} (h : y ≤ x) : hwU2 (sCpy g x y 0 i) 97 (y + i) (sCpy g x y 0 i 97 (x + i)) = sCpy g x y 0 (i + 1) := by
  funext t k
  rw [hwU2_get]
  unfold sCpy
  by_cases e : t = 97 ∧ k = y + i
  · obtain ⟨rfl, rfl⟩ := e
    rw [if_pos ⟨rfl, rfl⟩, if_neg (fun q => by omega), if_pos ⟨rfl, by omega, by omega⟩, show x + (y + i - y) = x + i by omega]
  · rw [if_neg e]
    by_cases c : t = 97 ∧ y + 0 ≤ k ∧ k < y + i
    · rw [if_pos c, if_pos ⟨c.1, c.2.1, by omega⟩]
    · rw [if_neg c, if_neg (fun q => c ⟨q.1, q.2.1, by
        have : k ≠ y + i := fun z => e ⟨q.1, z⟩
        omega⟩)]
theorem sCpy_dn {g : Nat → Nat → Int32} {x y i n : Nat} (h : x < y) (hi : i < n) : hwU2 (sCpy g x y (i + 1) n) 97 (y + i) (sCpy g x y (i + 1) n 97 (x + i)) = sCpy g x y i n := by
  funext t k
  rw [hwU2_get]
  unfold sCpy
  by_cases e : t = 97 ∧ k = y + i
  · obtain ⟨rfl, rfl⟩ := e
    rw [if_pos ⟨rfl, rfl⟩, if_neg (fun q => by omega), if_pos ⟨rfl, by omega, by omega⟩, show x + (y + i - y) = x + i by omega]
  · rw [if_neg e]
    by_cases c : t = 97 ∧ y + (i + 1) ≤ k ∧ k < y + n
    · rw [if_pos c, if_pos ⟨c.1, by omega, c.2.2⟩]
    · rw [if_neg c, if_neg (fun q => c ⟨q.1, by
        have : k ≠ y + i := fun z => e ⟨q.1, z⟩
        omega, q.2.2⟩)]
theorem m_copy_up (N : Nat) {g : Nat → Nat → Int32} (x y z : Nat) (hyx : y ≤ x) (hx : x + z ≤ 160) : ∀ (q n i : Nat) (σ : Mem), i + q = z → q < n → gM σ = sCpy g x y 0 i →
    ∃ τ, F_X12_copy_b147 N n (nI z) (nI x) (nI y) (nI i) σ = some (nI z, τ) ∧ KR σ τ ∧ gM τ = sCpy g x y 0 z := by
  intro q
  induction q with
  | zero =>
    intro n i σ hi hn hg
    cases n with
    | zero => cases hn
    | succ n =>
      have e : i = z := by omega
      subst e
      exact ⟨σ, by rw [F_X12_copy_b147.eq_2, if_pos (nI_le (Nat.le_refl _) (by omega))], KR.rfl_ σ, hg⟩
  | succ q ih =>
    intro n i σ hi hn hg
    cases n with
    | zero => cases hn
    | succ n =>
      obtain ⟨τ, e, k, eg⟩ := ih n (i + 1) (σ.1, σ.2.1, hwU3 σ.2.2.1 97 0 (y + i) (sCpy g x y 0 i 97 (x + i)), σ.2.2.2.1, σ.2.2.2.2) (by omega) (by omega) (by
        rw [gM_u3 (by decide) (by decide), ← sCpy_up hyx]
        exact congrArg (fun q => hwU2 q 97 (y + i) (sCpy g x y 0 i 97 (x + i))) hg)
      refine ⟨τ, ?_, (KR.w (show 72 ≤ 97 by decide)).trans k, eg⟩
      rw [F_X12_copy_b147.eq_2, if_neg (nI_ge (by omega) (by omega)), if_pos (nI_le hyx (by omega))]
      unfold F_X12_copy_b173
      rw [nI_add, nI_add, if_neg (out_nI (by omega) (by decide)), if_neg (out_nI (by omega) (by decide)), nI_1, nI_clamp (by omega), nI_clamp (by omega), rA hg (by decide) (by decide)]
      exact e
theorem m_copy_dn (N : Nat) {g : Nat → Nat → Int32} (x y z : Nat) (hxy : x < y) (hy : y + z ≤ 160) : ∀ (q n i : Nat) (σ : Mem), i + q = z → q < n → gM σ = sCpy g x y q z →
    ∃ τ, F_X12_copy_b147 N n (nI z) (nI x) (nI y) (nI i) σ = some (nI z, τ) ∧ KR σ τ ∧ gM τ = sCpy g x y 0 z := by
  intro q
  induction q with
  | zero =>
    intro n i σ hi hn hg
    cases n with
    | zero => cases hn
    | succ n =>
      have e : i = z := by omega
      subst e
      exact ⟨σ, by rw [F_X12_copy_b147.eq_2, if_pos (nI_le (Nat.le_refl _) (by omega))], KR.rfl_ σ, hg⟩
  | succ q ih =>
    intro n i σ hi hn hg
    cases n with
    | zero => cases hn
    | succ n =>
      obtain ⟨τ, e, k, eg⟩ := ih n (i + 1) (σ.1, σ.2.1, hwU3 σ.2.2.1 97 0 (y + q) (sCpy g x y (q + 1) z 97 (x + q)), σ.2.2.2.1, σ.2.2.2.2) (by omega) (by omega) (by
        rw [gM_u3 (by decide) (by decide)]
        exact (congrArg (fun q' => hwU2 q' 97 (y + q) (sCpy g x y (q + 1) z 97 (x + q))) hg).trans (sCpy_dn hxy (by omega)))
      refine ⟨τ, ?_, (KR.w (show 72 ≤ 97 by decide)).trans k, eg⟩
      have e0 : nI z - 1 - nI i = nI q := by
        obtain ⟨z', rfl⟩ : ∃ z', z = z' + 1 := ⟨z - 1, by omega⟩
        rw [nI_pred, k_sub (by omega), show z' - i = q by omega]
      rw [F_X12_copy_b147.eq_2, if_neg (nI_ge (by omega) (by omega)), if_neg (nI_ge hxy (by omega)), e0]
      unfold F_X12_copy_b173
      rw [nI_add, nI_add, if_neg (out_nI (by omega) (by decide)), if_neg (out_nI (by omega) (by decide)), nI_1, nI_clamp (by omega), nI_clamp (by omega), rA hg (by decide) (by decide)]
      exact e
theorem HX0.u_cpy {A : Nat → Nat → Int32} {B : Nat → Nat → Int64} {C : Nat → Nat → Nat → Int32} {D : (Nat → Nat → Nat → Int64) × (Nat × (Nat → Int32))} {g : Nat → Nat → Int32} (h : HX0 (A, B, C, D) g) (s a d b z : Nat) (hs : s < 4) (hd : d < 4) (ha : a + z ≤ 40) (hb : b + z ≤ 40) : HX0 (A, B, hwR3 C 69 d (va_cpy (C 69 s) (C 69 d) a b z), D) (sCpy g (40 * s + a) (40 * d + b) 0 z) := by
  have eS : sSt (sCpy g (40 * s + a) (40 * d + b) 0 z) = sSt g := by funext t q; unfold sSt; rw [sCpy_t (by decide)]
  unfold HX0
  simp (disch := omega) only [hwR3_t, sCpy_t, eS]
  refine ⟨h.ly, h.set, h.bs, h.sa, h.si, h.fo, h.al, h.pl, h.fi, h.sg, h.dy, h.wa, h.ti, h.ru, h.ki, h.mo, h.sp, h.fa, h.fp, h.fn, h.td, h.tp, h.tx, h.rl, h.im, h.is, h.ir, h.il, h.ih, h.if_, h.id_, h.iw, h.ig, h.it, h.so, h.sz, fun i j hi hj => ?_, h.cs⟩
  rw [hwR3_get]
  unfold sCpy
  by_cases e : i = d
  · subst e
    rw [if_pos ⟨rfl, rfl⟩]
    unfold va_cpy
    by_cases c : b ≤ j ∧ j < b + z
    · rw [if_pos c, if_pos ⟨rfl, by omega, by omega⟩, show 40 * s + a + (40 * i + j - (40 * i + b)) = 40 * s + (a + (j - b)) by omega]
      exact h.ce s _ hs (by omega)
    · rw [if_neg c, if_neg (fun q => c ⟨by omega, by omega⟩)]
      exact h.ce i j hi hj
  · rw [if_neg (fun q => e q.2), if_neg (fun q => by omega)]
    exact h.ce i j hi hj
theorem Wf.u_cpy {g : Nat → Nat → Int32} (h : Wf g) (x y lo hi : Nat) : Wf (sCpy g x y lo hi) := by
  have eS : sSt (sCpy g x y lo hi) = sSt g := by funext t q; unfold sSt; rw [sCpy_t (by decide)]
  have eC : sCs (sCpy g x y lo hi) = sCs g := by funext t q; unfold sCs; rw [eS, sCpy_t (by decide)]
  unfold Wf
  simp (disch := omega) only [sCpy_t, eS, eC]
  exact h
theorem i32_holds {a c z : Nat} (ha : a ≤ z) (hz : z < 2 ^ 31) (hc : c < 2 ^ 31) : (nI z - nI a < nI c ↔ z < a + c) := by
  rw [k_sub ha]
  constructor
  · intro q
    have := Int32.lt_iff_toInt_lt.mp q
    rw [nI_toInt (by omega), nI_toInt hc] at this
    omega
  · intro q
    exact nI_lt (by omega) hc
/-- within a sheet's numbers: from a, c of them -/
def sHd (z : Nat) (a c : Int32) : Prop := ¬ a < 0 ∧ ¬ c < 0 ∧ ¬ nI z < a ∧ ¬ nI z - a < c
theorem sHd.ex {z : Nat} {a c : Int32} (h : sHd z a c) (hz : z < 2 ^ 31) : ∃ i n, a = nI i ∧ c = nI n ∧ i + n ≤ z := by
  obtain ⟨i, hi, rfl⟩ := nI_of h.1
  obtain ⟨n, hn, rfl⟩ := nI_of h.2.1
  have h1 : i ≤ z := by
    apply Classical.byContradiction
    intro q
    exact h.2.2.1 (nI_lt (by omega) hi)
  have h2 := h.2.2.2
  rw [i32_holds h1 hz hn] at h2
  exact ⟨i, n, rfl, rfl, by omega⟩
theorem x_hd (N : Nat) {g : Nat → Nat → Int32} (s z : Nat) (hs : s < 4) (ez : g 96 s = nI z) (a c : Int32) (σ : Mem) (h : HX σ g) : (sHd z a c → F_X10_holds N (nI s) a c σ = some (1, σ)) ∧ (¬ sHd z a c → F_X10_holds N (nI s) a c σ = some (0, σ)) := by
  unfold F_X10_holds
  rw [if_neg (out_nI hs (by decide))]
  simp only [nI_clamp (show s < 2 ^ 31 by omega)]
  rw [h.1.sz s hs, ez, if_neg (out_nI hs (by decide))]
  constructor
  · intro q
    rw [if_neg q.1, if_neg q.2.1, if_neg q.2.2.1, if_neg q.2.2.2]
  · intro q
    by_cases c1 : a < 0
    · rw [if_pos c1]
    · rw [if_neg c1]
      by_cases c2 : c < 0
      · rw [if_pos c2]
      · rw [if_neg c2]
        by_cases c3 : nI z < a
        · rw [if_pos c3]
        · rw [if_neg c3]
          by_cases c4 : nI z - a < c
          · rw [if_pos c4]
          · exact absurd ⟨c1, c2, c3, c4⟩ q
theorem w_copy (N : Nat) (hN : 160 ≤ N) {g : Nat → Nat → Int32} (hw : Wf g) (a b c d e : Int32) : Tw (F_X11_copy N a b c d e) (F_X12_copy N a b c d e) g (fun _ => True) := by
  rcases rg_c a (c := 4) (by decide) with ⟨s, hs, rfl⟩ | hq
  rotate_left
  · refine Tw.st hw trivial (Int32.ofInt (-2)) (fun σ h => ?_) (fun σ h => ?_)
    · unfold F_X11_copy; rw [x_shN hq, Option.bind_some, k00]
    · unfold F_X12_copy; rw [m_shN hq, Option.bind_some, k00]
  rcases rg_c c (c := 4) (by decide) with ⟨t, ht, rfl⟩ | hq
  rotate_left
  · refine Tw.st hw trivial (Int32.ofInt (-2)) (fun σ h => ?_) (fun σ h => ?_)
    · unfold F_X11_copy; rw [x_shY hs, Option.bind_some, k10, x_shN hq, Option.bind_some, k00]
    · unfold F_X12_copy; rw [m_shY hs, Option.bind_some, k10, m_shN hq, Option.bind_some, k00]
  obtain ⟨ez, hz⟩ := hw.sz s hs
  obtain ⟨ey, hy⟩ := hw.sz t ht
  by_cases cm : g 95 s = -1
  · refine Tw.st hw trivial (Int32.ofInt (-11)) (fun σ h => ?_) (fun σ h => ?_)
    · unfold F_X11_copy; rw [x_shY hs, Option.bind_some, k10, x_shY ht, Option.bind_some, k10, x_misY h hs cm, Option.bind_some, k10]
    · unfold F_X12_copy; rw [m_shY hs, Option.bind_some, k10, m_shY ht, Option.bind_some, k10, if_neg (out_nI hs (by decide))]; simp only [nI_clamp (show s < 2 ^ 31 by omega)]; rw [rA h (by decide) (by decide), if_pos (show g 95 s = Int32.ofInt (-1) from cm)]
  by_cases cn : g 95 t = -1
  · refine Tw.st hw trivial (Int32.ofInt (-11)) (fun σ h => ?_) (fun σ h => ?_)
    · unfold F_X11_copy; rw [x_shY hs, Option.bind_some, k10, x_shY ht, Option.bind_some, k10, x_misN hw h hs cm, Option.bind_some, k00, x_misY h ht cn, Option.bind_some, k10]
    · unfold F_X12_copy; rw [m_shY hs, Option.bind_some, k10, m_shY ht, Option.bind_some, k10, if_neg (out_nI hs (by decide))]; simp only [nI_clamp (show s < 2 ^ 31 by omega), nI_clamp (show t < 2 ^ 31 by omega)]; rw [rA h (by decide) (by decide), if_neg (show ¬ g 95 s = Int32.ofInt (-1) from cm), if_neg (out_nI ht (by decide)), rA h (by decide) (by decide), if_pos (show g 95 t = Int32.ofInt (-1) from cn)]
  generalize eez : (g 96 s).toNatClampNeg = z at ez hz
  generalize eey : (g 96 t).toNatClampNeg = y at ey hy
  have xs : ∀ σ, HX σ g → F_X11_copy N (nI s) b (nI t) d e σ = if g 95 s = g 95 t then ((F_X10_holds N (nI s) b e σ).bind (fun q5 =>
            if q5.1 = 0 then
              some ((Int32.ofInt (-12)), q5.2)
            else
              (F_X10_holds N (nI t) d e q5.2).bind (fun q6 =>
              if q6.1 = 0 then
                some ((Int32.ofInt (-12)), q6.2)
              else
                if hwOut (nI s) 4 then none else
                if hwOut (nI t) 4 then none else
                if b < 0 ∨ d < 0 ∨ e < 0 ∨ 40 < (b).toNatClampNeg + (e).toNatClampNeg ∨ 40 < (d).toNatClampNeg + (e).toNatClampNeg then none else
                some (e, (q6.2.1, q6.2.2.1, (hwR3 q6.2.2.2.1 69 t (va_cpy (q6.2.2.2.1 69 s) (q6.2.2.2.1 69 t) (b).toNatClampNeg (d).toNatClampNeg (e).toNatClampNeg)), q6.2.2.2.2.1, q6.2.2.2.2.2))))) else some (Int32.ofInt (-13), σ) := by
    intro σ h
    unfold F_X11_copy
    rw [x_shY hs, Option.bind_some, k10, x_shY ht, Option.bind_some, k10, x_misN hw h hs cm, Option.bind_some, k00, x_misN hw h ht cn, Option.bind_some, k00, if_neg (out_nI hs (by decide)), if_neg (out_nI ht (by decide))]
    simp only [nI_clamp (show s < 2 ^ 31 by omega), nI_clamp (show t < 2 ^ 31 by omega)]
    rw [h.1.so s hs, h.1.so t ht]
  have ms : ∀ σ, gM σ = g → F_X12_copy N (nI s) b (nI t) d e σ = if g 95 s = g 95 t then (if e < 0 then some (Int32.ofInt (-12), σ) else if b < 0 then some (Int32.ofInt (-12), σ) else if d < 0 then some (Int32.ofInt (-12), σ) else if nI z < b then some (Int32.ofInt (-12), σ) else if nI y < d then some (Int32.ofInt (-12), σ) else if nI z - b < e then some (Int32.ofInt (-12), σ) else if e ≤ nI y - d then F_X12_copy_b147 N N e (40 * nI s + b) (40 * nI t + d) 0 σ else some (Int32.ofInt (-12), σ)) else some (Int32.ofInt (-13), σ) := by
    intro σ h
    unfold F_X12_copy
    rw [m_shY hs, Option.bind_some, k10, m_shY ht, Option.bind_some, k10, if_neg (out_nI hs (by decide))]
    simp only [nI_clamp (show s < 2 ^ 31 by omega), nI_clamp (show t < 2 ^ 31 by omega)]
    rw [rA h (by decide) (by decide), if_neg (show ¬ g 95 s = Int32.ofInt (-1) from cm), if_neg (out_nI ht (by decide)), rA h (by decide) (by decide), if_neg (show ¬ g 95 t = Int32.ofInt (-1) from cn), if_neg (out_nI hs (by decide)), if_neg (out_nI ht (by decide)), if_neg (out_nI hs (by decide)), rA h (by decide) (by decide), if_neg (out_nI ht (by decide)), rA h (by decide) (by decide), if_neg (out_nI hs (by decide)), if_neg (out_nI ht (by decide)), ez, ey]
  by_cases ck : g 95 s = g 95 t
  rotate_left
  · exact Tw.st hw trivial (Int32.ofInt (-13)) (fun σ h => by rw [xs σ h, if_neg ck]) (fun σ h => by rw [ms σ h, if_neg ck])
  by_cases h1 : sHd z b e
  rotate_left
  · refine Tw.st hw trivial (Int32.ofInt (-12)) (fun σ h => by rw [xs σ h, if_pos ck, (x_hd N s z hs ez b e σ h).2 h1, Option.bind_some, k00]) (fun σ h => ?_)
    rw [ms σ h, if_pos ck]
    by_cases c1 : e < 0
    · rw [if_pos c1]
    by_cases c2 : b < 0
    · rw [if_neg c1, if_pos c2]
    by_cases c3 : d < 0
    · rw [if_neg c1, if_neg c2, if_pos c3]
    by_cases c4 : nI z < b
    · rw [if_neg c1, if_neg c2, if_neg c3, if_pos c4]
    by_cases c5 : nI y < d
    · rw [if_neg c1, if_neg c2, if_neg c3, if_neg c4, if_pos c5]
    by_cases c6 : nI z - b < e
    · rw [if_neg c1, if_neg c2, if_neg c3, if_neg c4, if_neg c5, if_pos c6]
    · exact absurd ⟨c2, c1, c4, c6⟩ h1
  by_cases h2 : sHd y d e
  rotate_left
  · refine Tw.st hw trivial (Int32.ofInt (-12)) (fun σ h => by rw [xs σ h, if_pos ck, (x_hd N s z hs ez b e σ h).1 h1, Option.bind_some, k10, (x_hd N t y ht ey d e σ h).2 h2, Option.bind_some, k00]) (fun σ h => ?_)
    rw [ms σ h, if_pos ck]
    rw [if_neg h1.2.1, if_neg h1.1]
    by_cases c3 : d < 0
    · rw [if_pos c3]
    rw [if_neg c3, if_neg h1.2.2.1]
    by_cases c5 : nI y < d
    · rw [if_pos c5]
    rw [if_neg c5, if_neg h1.2.2.2]
    by_cases c7 : e ≤ nI y - d
    · refine absurd ⟨c3, h1.2.1, c5, fun q => ?_⟩ h2
      have q1 := Int32.lt_iff_toInt_lt.mp q
      have q2 := Int32.le_iff_toInt_le.mp c7
      omega
    · rw [if_neg c7]
  obtain ⟨i, n, rfl, rfl, hin⟩ := h1.ex (by omega)
  obtain ⟨j, n', rfl, en, hjn⟩ := h2.ex (by omega)
  have en' : n' = n := by
    have := congrArg Int32.toNatClampNeg en
    obtain ⟨n2, hn2, e2⟩ := nI_of h2.2.1
    have l1 : n < 2 ^ 31 := by omega
    apply Classical.byContradiction
    intro q
    by_cases l2 : n' < 2 ^ 31
    · exact q ((nI_eq l2 l1).mp en.symm)
    · omega
  subst en'
  have b1 : nI n' ≤ nI y - nI j := by rw [k_sub (by omega)]; exact nI_le (by omega) (by omega)
  refine ⟨nI n', _, ⟨hw.u_cpy (40 * s + i) (40 * t + j) 0 n', trivial⟩, fun σ h => ⟨(σ.1, σ.2.1, hwR3 σ.2.2.1 69 t (va_cpy (σ.2.2.1 69 s) (σ.2.2.1 69 t) i j n'), σ.2.2.2.1, σ.2.2.2.2), ?_, ⟨rfl, fun a _ _ => hwR3_t (by omega), rfl⟩, HX0.u_cpy (show HX0 (σ.1, σ.2.1, σ.2.2.1, σ.2.2.2.1, σ.2.2.2.2) g from h.1) s i t j n' hs ht (by omega) (by omega), ?_⟩, fun σ h => ?_⟩
  · rw [xs σ h, if_pos ck, (x_hd N s z hs ez _ _ σ h).1 h1, Option.bind_some, k10, (x_hd N t y ht ey _ _ σ h).1 h2, Option.bind_some, k10, if_neg (out_nI hs (by decide)), if_neg (out_nI ht (by decide)), nI_clamp (by omega), nI_clamp (by omega), nI_clamp (by omega), if_neg (fun q => by
      rcases q with q | q | q | q | q
      · exact h1.1 q
      · exact h2.1 q
      · exact h1.2.1 q
      · omega
      · omega)]
  · refine h.2.cg ?_ ?_ ?_ ?_ ?_ ?_ ?_ ?_ ?_ ?_ <;> simp (disch := omega) only [hwR3_t, sCpy_t]
  · rw [ms σ h, if_pos ck, if_neg h1.2.1, if_neg h1.1, if_neg h2.1, if_neg h1.2.2.1, if_neg h2.2.2.1, if_neg h1.2.2.2, if_pos b1, ix40, ix40]
    by_cases c : 40 * t + j ≤ 40 * s + i
    · exact m_copy_up N (g := g) (40 * s + i) (40 * t + j) n' c (by omega) n' N 0 σ (by omega) (by omega) (by rw [sCpy_0]; exact h)
    · exact m_copy_dn N (g := g) (40 * s + i) (40 * t + j) n' (by omega) (by omega) n' N 0 σ (by omega) (by omega) (by rw [sCpy_0]; exact h)
/-! layers by a sheet -/
theorem Tw.bind {α β : Type} {F1 F2 : Mem → Option (α × Mem)} {K1 K2 : α → Mem → Option (β × Mem)} {g : Nat → Nat → Int32} {P P2 : (Nat → Nat → Int32) → Prop} (t : Tw F1 F2 g P) (k : ∀ r g', Wf g' → P g' → Tw (K1 r) (K2 r) g' P2) : Tw (fun σ => (F1 σ).bind (fun q => K1 q.1 q.2)) (fun σ => (F2 σ).bind (fun q => K2 q.1 q.2)) g P2 := by
  obtain ⟨r, g', ⟨wf, p⟩, x, m⟩ := t
  obtain ⟨r2, g2, wp, x2, m2⟩ := k r g' wf p
  refine ⟨r2, g2, wp, fun σ h => ?_, fun σ h => ?_⟩
  · obtain ⟨τ, e, k1, h1⟩ := x σ h
    obtain ⟨τ2, e2, k2, h2⟩ := x2 τ h1
    exact ⟨τ2, by show (F1 σ).bind _ = _; rw [e]; exact e2, k1.trans k2, h2⟩
  · obtain ⟨τ, e, k1, h1⟩ := m σ h
    obtain ⟨τ2, e2, k2, h2⟩ := m2 τ h1
    exact ⟨τ2, by show (F2 σ).bind _ = _; rw [e]; exact e2, k1.trans k2, h2⟩
theorem sHd_3 {z m : Nat} (hz : z ≤ 40) (hm : m < 2 ^ 31) : sHd z (nI m) 3 ↔ m + 3 ≤ z := by
  constructor
  · intro h
    obtain ⟨i, n, e1, e2, hh⟩ := h.ex (by omega)
    have a1 := (nI_eq hm (by omega)).mp e1
    have a2 := (nI_eq (a := 3) (by decide) (by omega)).mp (show nI 3 = nI n from e2)
    omega
  · intro h
    refine ⟨nI_nz hm, by decide, nI_nlt (by omega) (by omega), ?_⟩
    rw [show (3 : Int32) = nI 3 from rfl, i32_holds (by omega) (by omega) (by decide)]
    omega
theorem le_3 {z m : Nat} (hz : z ≤ 40) (hm : m < 2 ^ 31) : nI m ≤ nI z - 3 ↔ m + 3 ≤ z := by
  have e : (nI z - 3).toInt = (z : Int) - 3 := by
    rw [i32_sub (by rw [nI_toInt (by omega), show (3 : Int32).toInt = 3 from by decide]; omega) (by rw [nI_toInt (by omega), show (3 : Int32).toInt = 3 from by decide]; omega), nI_toInt (by omega)]
    rfl
  rw [Int32.le_iff_toInt_le, e, nI_toInt hm]
  omega
theorem w_layers68 (N : Nat) (hN : 160 < N) (s : Nat) (hs : s < 4) (x3 : Int32) (z : Nat) (hz : z ≤ 40) (c : Nat) (hc : c ≤ 5) : ∀ (q n k : Nat) (x5 x7 : Int32) (g : Nat → Nat → Int32), k + q = c → q < n → Wf g → g 96 s = nI z → x7 = x3 + 3 * nI k → (k = 0 ∨ ∃ i, x3 = nI i ∧ i + 3 * k ≤ 40) →
    Tw (F_X11_layersBy_b68 N n (nI s) (nI c) x5 (nI k) x7) (F_X12_layersBy_b63 N n (nI s) x3 (nI c) x5 (nI k)) g (fun _ => True) := by
  intro q
  induction q with
  | zero =>
    intro n k x5 x7 g hk hn hw e9 e7 hi
    cases n with
    | zero => cases hn
    | succ n =>
      refine Tw.st hw trivial x5 (fun σ h => ?_) (fun σ h => ?_)
      · rw [F_X11_layersBy_b68.eq_2, if_pos (nI_le (by omega) (by omega))]
      · rw [F_X12_layersBy_b63.eq_2, if_pos (nI_le (by omega) (by omega))]
  | succ q ih =>
    intro n k x5 x7 g hk hn hw e9 e7 hi
    cases n with
    | zero => cases hn
    | succ n =>
      by_cases neg : x3 < 0
      · have k0 : k = 0 := by
          rcases hi with hi | ⟨i, e, hi⟩
          · exact hi
          · exact absurd neg (by rw [e]; exact nI_nz (by omega))
        subst k0
        have e73 : x7 = x3 := by rw [e7, show (3 : Int32) * nI 0 = 0 from by decide, Int32.add_zero]
        refine Tw.st hw trivial (Int32.ofInt (-12)) (fun σ h => ?_) (fun σ h => ?_)
        · rw [F_X11_layersBy_b68.eq_2, if_neg (nI_ge (by omega) (by omega)), (x_hd N s z hs e9 x7 3 σ h).2 (fun z => z.1 (by rw [e73]; exact neg)), Option.bind_some, k00]
        · rw [F_X12_layersBy_b63.eq_2, if_neg (nI_ge (by omega) (by omega)), if_pos neg]
      · obtain ⟨i, hi31, rfl⟩ := nI_of neg
        have him : i + 3 * k < 2 ^ 31 ∧ (k = 0 ∨ i + 3 * k ≤ 40) := by
          rcases hi with hi | ⟨i', e, hi⟩
          · subst hi; exact ⟨by omega, Or.inl rfl⟩
          · have := (nI_eq hi31 (by omega)).mp e
            exact ⟨by omega, Or.inr (by omega)⟩
        have e3 : nI i + 3 * nI k = nI (i + 3 * k) := by rw [show (3 : Int32) = nI 3 from rfl, nI_mul, nI_add]
        rw [e3] at e7
        subst e7
        by_cases c3 : i + 3 * k + 3 ≤ z
        rotate_left
        · refine Tw.st hw trivial (Int32.ofInt (-12)) (fun σ h => ?_) (fun σ h => ?_)
          · rw [F_X11_layersBy_b68.eq_2, if_neg (nI_ge (by omega) (by omega)), (x_hd N s z hs e9 _ 3 σ h).2 (fun q => c3 ((sHd_3 hz him.1).mp q)), Option.bind_some, k00]
          · rw [F_X12_layersBy_b63.eq_2, if_neg (nI_ge (by omega) (by omega)), if_neg neg, e3, if_neg (nI_nlt (by omega) him.1), if_neg (out_nI hs (by decide)), nI_clamp (by omega), rA h (by decide) (by decide), e9, if_neg (fun q => c3 ((le_3 hz him.1).mp q))]
        · generalize em : i + 3 * k = m at c3 e3 him
          have t := Tw.bind (K1 := fun r τ => if r < 0 then F_X11_layersBy_b68 N n (nI s) (nI c) x5 (nI (k + 1)) (nI m + 3) τ else F_X11_layersBy_b68 N n (nI s) (nI c) (x5 + 1) (nI (k + 1)) (nI m + 3) τ) (K2 := fun r τ => if r < 0 then F_X12_layersBy_b63 N n (nI s) (nI i) (nI c) (x5 + 0) (nI (k + 1)) τ else F_X12_layersBy_b63 N n (nI s) (nI i) (nI c) (x5 + 1) (nI (k + 1)) τ) (P2 := fun _ => True) (w_layer N hN hw (g 97 (40 * s + m)) (g 97 (40 * s + (m + 1))) (g 97 (40 * s + (m + 2)))) (fun r g' wf p => by
            have e7' : nI m + 3 = nI i + 3 * nI (k + 1) := by rw [show (3 : Int32) = nI 3 from rfl, nI_mul, nI_add, nI_add, ← em, show i + 3 * k + 3 = i + 3 * (k + 1) by omega]
            have i1 := ih n (k + 1) x5 (nI m + 3) g' (by omega) (by omega) wf (by rw [p.2.1]; exact e9) e7' (Or.inr ⟨i, rfl, by omega⟩)
            have i2 := ih n (k + 1) (x5 + 1) (nI m + 3) g' (by omega) (by omega) wf (by rw [p.2.1]; exact e9) e7' (Or.inr ⟨i, rfl, by omega⟩)
            by_cases cr : r < 0
            · simp only [if_pos cr, Int32.add_zero]
              exact i1
            · simp only [if_neg cr]
              exact i2)
          refine t.eq (fun σ h => ?_) (fun σ h => ?_)
          · rw [F_X11_layersBy_b68.eq_2, if_neg (nI_ge (by omega) (by omega)), (x_hd N s z hs e9 _ 3 σ h).1 ((sHd_3 hz him.1).mpr c3), Option.bind_some, k10, show nI m + 2 = nI (m + 2) by rw [show (2 : Int32) = nI 2 from rfl, nI_add], nI_1, nI_1, if_neg (out_nI hs (by decide)), if_neg (out_nI (by omega) (by decide)), if_neg (out_nI (by omega) (by decide)), if_neg (out_nI (by omega) (by decide))]
            simp only [nI_clamp (show s < 2 ^ 31 by omega), nI_clamp (show m < 2 ^ 31 by omega), nI_clamp (show m + 1 < 2 ^ 31 by omega), nI_clamp (show m + 2 < 2 ^ 31 by omega)]
            rw [h.1.ce s m hs (by omega), h.1.ce s (m + 1) hs (by omega), h.1.ce s (m + 2) hs (by omega)]
          · rw [F_X12_layersBy_b63.eq_2, if_neg (nI_ge (by omega) (by omega)), if_neg neg, e3, if_neg (nI_nlt (by omega) him.1), if_neg (out_nI hs (by decide)), nI_clamp (by omega), rA h (by decide) (by decide), e9, if_pos ((le_3 hz him.1).mpr c3), ix40, nI_1, nI_1, show nI (40 * s + m) + 2 = nI (40 * s + m + 2) by rw [show (2 : Int32) = nI 2 from rfl, nI_add], if_neg (out_nI (by omega) (by decide)), if_neg (out_nI (by omega) (by decide)), if_neg (out_nI (by omega) (by decide)), nI_clamp (by omega), nI_clamp (by omega), nI_clamp (by omega), rA h (by decide) (by decide), rA h (by decide) (by decide), rA h (by decide) (by decide)]
            rfl
theorem w_layersBy (N : Nat) (hN : 160 < N) {g : Nat → Nat → Int32} (hw : Wf g) (a b c d : Int32) : Tw (F_X11_layersBy N a b c d) (F_X12_layersBy N a b c d) g (fun _ => True) := by
  rcases rg_c a (c := 4) (by decide) with ⟨s, hs, rfl⟩ | hq
  rotate_left
  · refine Tw.st hw trivial (Int32.ofInt (-2)) (fun σ h => ?_) (fun σ h => ?_)
    · unfold F_X11_layersBy; rw [x_shN hq, Option.bind_some, k00]
    · unfold F_X12_layersBy; rw [m_shN hq, Option.bind_some, k00]
  rcases rg_m b 0 2 (by decide) (by decide) with ⟨k, k0, hk, rfl⟩ | hq
  rotate_left
  · refine Tw.st hw trivial (Int32.ofInt (-2)) (fun σ h => ?_) (fun σ h => ?_)
    · unfold F_X11_layersBy; rw [x_shY hs, Option.bind_some, k10, show F_X11_within N b 0 2 _ = _ from x_in_n hq, Option.bind_some, k00]
    · unfold F_X12_layersBy; rw [m_shY hs, Option.bind_some, k10, show F_X12_in N b 0 2 _ = _ from m_in_n hq, Option.bind_some, k00]
  rcases rg_m d 0 5 (by decide) (by decide) with ⟨n, n0, hn, rfl⟩ | hq
  rotate_left
  · refine Tw.st hw trivial (Int32.ofInt (-2)) (fun σ h => ?_) (fun σ h => ?_)
    · unfold F_X11_layersBy; rw [x_shY hs, Option.bind_some, k10, show F_X11_within N (nI k) 0 2 _ = _ from x_rgY k0 hk (by decide), Option.bind_some, k10, show F_X11_within N d 0 5 _ = _ from x_in_n hq, Option.bind_some, k00]
    · unfold F_X12_layersBy; rw [m_shY hs, Option.bind_some, k10, show F_X12_in N (nI k) 0 2 _ = _ from m_rgY k0 hk (by decide), Option.bind_some, k10, show F_X12_in N d 0 5 _ = _ from m_in_n hq, Option.bind_some, k00]
  obtain ⟨ez, hz⟩ := hw.sz s hs
  by_cases cm : g 95 s = -1
  · refine Tw.st hw trivial (Int32.ofInt (-11)) (fun σ h => ?_) (fun σ h => ?_)
    · unfold F_X11_layersBy; rw [x_shY hs, Option.bind_some, k10, show F_X11_within N (nI k) 0 2 _ = _ from x_rgY k0 hk (by decide), Option.bind_some, k10, show F_X11_within N (nI n) 0 5 _ = _ from x_rgY n0 hn (by decide), Option.bind_some, k10, x_misY h hs cm, Option.bind_some, k10]
    · unfold F_X12_layersBy; rw [m_shY hs, Option.bind_some, k10, show F_X12_in N (nI k) 0 2 _ = _ from m_rgY k0 hk (by decide), Option.bind_some, k10, show F_X12_in N (nI n) 0 5 _ = _ from m_rgY n0 hn (by decide), Option.bind_some, k10, if_neg (out_nI hs (by decide))]; simp only [nI_clamp (show s < 2 ^ 31 by omega)]; rw [rA h (by decide) (by decide), if_pos (show g 95 s = Int32.ofInt (-1) from cm)]
  have xs : ∀ σ, HX σ g → F_X11_layersBy N (nI s) (nI k) c (nI n) σ = if g 95 s = nI k then F_X11_layersBy_b68 N N (nI s) (nI n) 0 0 c σ else some (Int32.ofInt (-13), σ) := by
    intro σ h
    unfold F_X11_layersBy
    rw [x_shY hs, Option.bind_some, k10, show F_X11_within N (nI k) 0 2 _ = _ from x_rgY k0 hk (by decide), Option.bind_some, k10, show F_X11_within N (nI n) 0 5 _ = _ from x_rgY n0 hn (by decide), Option.bind_some, k10, x_misN hw h hs cm, Option.bind_some, k00, if_neg (out_nI hs (by decide))]
    simp only [nI_clamp (show s < 2 ^ 31 by omega)]
    rw [h.1.so s hs]
  have ms : ∀ σ, gM σ = g → F_X12_layersBy N (nI s) (nI k) c (nI n) σ = if g 95 s = nI k then F_X12_layersBy_b63 N N (nI s) c (nI n) 0 0 σ else some (Int32.ofInt (-13), σ) := by
    intro σ h
    unfold F_X12_layersBy
    rw [m_shY hs, Option.bind_some, k10, show F_X12_in N (nI k) 0 2 _ = _ from m_rgY k0 hk (by decide), Option.bind_some, k10, show F_X12_in N (nI n) 0 5 _ = _ from m_rgY n0 hn (by decide), Option.bind_some, k10, if_neg (out_nI hs (by decide))]
    simp only [nI_clamp (show s < 2 ^ 31 by omega)]
    rw [rA h (by decide) (by decide), if_neg (show ¬ g 95 s = Int32.ofInt (-1) from cm), if_neg (out_nI hs (by decide))]
  by_cases ck : g 95 s = nI k
  · refine (w_layers68 N hN s hs c (g 96 s).toNatClampNeg hz n hn n N 0 0 c g (by omega) (by omega) hw ez (by rw [show (3 : Int32) * nI 0 = 0 from by decide, Int32.add_zero]) (Or.inl rfl)).eq (fun σ h => ?_) (fun σ h => ?_)
    · rw [xs σ h, if_pos ck]; rfl
    · rw [ms σ h, if_pos ck]; rfl
  · exact Tw.st hw trivial (Int32.ofInt (-13)) (fun σ h => by rw [xs σ h, if_neg ck]) (fun σ h => by rw [ms σ h, if_neg ck])

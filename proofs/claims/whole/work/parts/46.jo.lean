/-! THE PURE SIDE, 27: share, join -/
theorem Ac.kf {α : Type} {F1 F2 : Mem → Option (α × Mem)} {σ τ2 : Mem} {r : α} (h : Ag σ) (e1 : F1 σ = some (r, σ)) (e2 : F2 σ = some (r, τ2)) (k2 : KM σ τ2) : Ac F1 F2 σ := Ac.mk h e1 (KY.rfl_ σ) e2 k2
theorem c_share (N : Nat) (hN : 160 ≤ N) (a b : Int32) (σ : Mem) (h : Ag σ) : Ac (F_X11_share N a b) (F_X12_share N a b) σ := by
  obtain ⟨hx, hw⟩ := h
  have hF := sF_eq hw
  have hp := pow_6 (sF (gM σ)) (by omega)
  have hp1 : 1 ≤ 2 ^ sF (gM σ) := Nat.one_le_two_pow
  have ex : F_X1_all N σ = some (nI (2 ^ sF (gM σ) - 1), σ) := by
    unfold F_X1_all
    rw [hx.1.fa, hF.1, all_6 _ (by omega)]
  have em : ((1 : Int32) <<< ((σ.1 12 20) &&& 31)) - (1 : Int32) = nI (2 ^ sF (gM σ) - 1) := by
    rw [rF rfl (by decide), hF.1, all_6 _ (by omega)]
  rcases rg_m a 1 (2 ^ sF (gM σ) - 1) (by decide) (by omega) with ⟨m, m1, m2, rfl⟩ | hq
  rotate_left
  · refine Ac.st (r := Int32.ofInt (-2)) ⟨hx, hw⟩ ?_ ?_
    · unfold F_X11_share
      rw [ex, Option.bind_some, show F_X11_within N a 1 (nI (2 ^ sF (gM σ) - 1)) σ = _ from x_in_n hq, Option.bind_some, k00]
    · unfold F_X12_share
      rw [em, show F_X12_in N a 1 (nI (2 ^ sF (gM σ) - 1)) σ = _ from m_in_n hq, Option.bind_some, k00]
  rcases rg_m b 0 1 (by decide) (by decide) with ⟨w, w0, w1, rfl⟩ | hq
  rotate_left
  · refine Ac.st (r := Int32.ofInt (-2)) ⟨hx, hw⟩ ?_ ?_
    · unfold F_X11_share
      rw [ex, Option.bind_some, show F_X11_within N (nI m) 1 (nI (2 ^ sF (gM σ) - 1)) σ = _ from x_rgY m1 m2 (by omega), Option.bind_some, k10, show F_X11_within N b 0 1 _ = _ from x_in_n hq, Option.bind_some, k00]
    · unfold F_X12_share
      rw [em, show F_X12_in N (nI m) 1 (nI (2 ^ sF (gM σ) - 1)) σ = _ from m_rgY m1 m2 (by omega), Option.bind_some, k10, show F_X12_in N b 0 1 _ = _ from m_in_n hq, Option.bind_some, k00]
  obtain ⟨c, hc, wx, wm⟩ := wells N hN hw m (by omega) (by omega)
  obtain ⟨τ, e2, k2, v1, v2⟩ := wm σ rfl
  refine Ac.kf (r := if nI w = 0 then nI c else nI (sWk (gM σ) m c (sF (gM σ)))) ⟨hx, hw⟩ ?_ ?_ k2.m
  · unfold F_X11_share
    rw [ex, Option.bind_some, show F_X11_within N (nI m) 1 (nI (2 ^ sF (gM σ) - 1)) σ = _ from x_rgY m1 m2 (by omega), Option.bind_some, k10, show F_X11_within N (nI w) 0 1 _ = _ from x_rgY w0 w1 (by decide), Option.bind_some, k10, wx σ hx, Option.bind_some]
    by_cases c0 : nI w = 0
    · rw [if_pos c0, if_pos c0]
    · rw [if_neg c0, if_neg c0, x_walk N hN hw m c (by omega) hc σ hx, Option.bind_some]
  · unfold F_X12_share
    rw [em, show F_X12_in N (nI m) 1 (nI (2 ^ sF (gM σ) - 1)) σ = _ from m_rgY m1 m2 (by omega), Option.bind_some, k10, show F_X12_in N (nI w) 0 1 _ = _ from m_rgY w0 w1 (by decide), Option.bind_some, k10, e2, Option.bind_some]
    show (if nI w = 0 then some (τ.1 12 59, τ) else some (τ.1 12 60, τ)) = _
    rw [v1, v2]
    by_cases c0 : nI w = 0
    · rw [if_pos c0, if_pos c0]
    · rw [if_neg c0, if_neg c0]
/-- whether q numbers of a sheet, from k on, lie between -/
def sAw (g : Nat → Nat → Int32) (s : Nat) (hi : Int32) : Nat → Nat → Bool
  | 0, _ => true
  | q + 1, k => if sCl g s k < 0 ∨ hi < sCl g s k then false else sAw g s hi q (k + 1)
theorem sAw_is {g : Nat → Nat → Int32} {s m : Nat} (hm : m < 2 ^ 31) : ∀ (q k : Nat), sAw g s (nI m) q k = true → ∀ j, k ≤ j → j < k + q → isN (sCl g s j) m
  | 0, k, _, j, h1, h2 => by omega
  | q + 1, k, h, j, h1, h2 => by
    rw [sAw] at h
    by_cases c : sCl g s k < 0 ∨ nI m < sCl g s k
    · rw [if_pos c] at h; cases h
    · rw [if_neg c] at h
      by_cases e : j = k
      · subst e
        rcases rg_m (sCl g s j) 0 m (by decide) hm with ⟨v, -, hv, e⟩ | hq
        · rw [e]; exact isN_nI hv hm
        · exact absurd hq c
      · exact sAw_is hm q (k + 1) h j (by omega) (by omega)
theorem x_all3 (N : Nat) {g : Nat → Nat → Int32} (hw : Wf g) (s : Nat) (hs : s < 4) (hi : Int32) (σ : Mem) (h : HX σ g) : ∀ (q n k : Nat), k + q = (g 96 s).toNatClampNeg → q < n →
    F_X10_allWithin_b3 N n (nI s) 0 hi (nI k) σ = some (bI (sAw g s hi q k), σ) := by
  obtain ⟨ez, hz⟩ := hw.sz s hs
  intro q
  induction q with
  | zero =>
    intro n k hk hn
    cases n with
    | zero => cases hn
    | succ n =>
      rw [F_X10_allWithin_b3.eq_2, if_neg (out_nI hs (by decide))]
      simp only [nI_clamp (show s < 2 ^ 31 by omega)]
      rw [h.1.sz s hs, ez, if_pos (nI_le (by omega) (by omega))]
      rfl
  | succ q ih =>
    intro n k hk hn
    cases n with
    | zero => cases hn
    | succ n =>
      rw [F_X10_allWithin_b3.eq_2, if_neg (out_nI hs (by decide))]
      simp only [nI_clamp (show s < 2 ^ 31 by omega)]
      rw [h.1.sz s hs, ez, if_neg (nI_ge (by omega) (by omega)), if_neg (out_nI hs (by decide)), if_neg (out_nI (by omega) (by decide)), nI_clamp (by omega), h.1.ce s k hs (by omega), nI_1, sAw]
      by_cases c : sCl g s k < 0 ∨ hi < sCl g s k
      · rw [if_pos c, show F_X11_within N (g 97 (40 * s + k)) 0 hi σ = _ from x_in_n c]
        rfl
      · rw [if_neg c, show F_X11_within N (g 97 (40 * s + k)) 0 hi σ = _ from x_in_y (fun z => c (Or.inl z)) (fun z => c (Or.inr z)), Option.bind_some, k10]
        exact ih n (k + 1) (by omega) (by omega)
def sGv (g : Nat → Nat → Int32) (s m : Nat) : Nat → Nat
  | 0 => 0
  | k + 1 => sGv g s m k + (if m.testBit k = true then (sCl g s k).toNatClampNeg else 0)
theorem sGv_le {g : Nat → Nat → Int32} {s m : Nat} : ∀ k, (∀ j, j < k → isN (sCl g s j) 999999) → sGv g s m k ≤ 1000000 * k
  | 0, _ => Nat.le_refl _
  | k + 1, h => by
    have ih := sGv_le (m := m) k (fun j hj => h j (by omega))
    have := (h k (by omega)).2
    rw [sGv]
    split <;> omega
theorem x_given5 (N : Nat) {g : Nat → Nat → Int32} (hw : Wf g) (s m : Nat) (hs : s < 4) (hm : m < 64) (hp : ∀ j, j < sF g → isN (sCl g s j) 999999) (σ : Mem) (h : HX σ g) : ∀ (q n k : Nat), k + q = sF g → q < n →
    F_X1_given_t69_b5 N n s (nI m) (nI (sGv g s m k)) (nI k) σ = some (nI (sGv g s m (sF g)), σ) := by
  have hF := sF_eq hw
  intro q
  induction q with
  | zero =>
    intro n k hk hn
    cases n with
    | zero => cases hn
    | succ n => rw [F_X1_given_t69_b5.eq_2, h.1.fa, hF.1, if_pos (nI_le (by omega) (by omega)), show k = sF g by omega]
  | succ q ih =>
    intro n k hk hn
    cases n with
    | zero => cases hn
    | succ n =>
      have e2 := ih n (k + 1) (by omega) (by omega)
      rw [sGv] at e2
      rw [F_X1_given_t69_b5.eq_2, h.1.fa, hF.1, if_neg (nI_ge (by omega) (by omega)), if_neg (geL_n 40 40 rfl (by omega) (by decide)), x_has N m k hm (by omega) σ, Option.bind_some, nI_1]
      by_cases t : m.testBit k = true
      · rw [if_pos t] at e2 ⊢
        show (if (1 : Int32) = 0 then _ else if hwOut (nI k) 40 then none else F_X1_given_t69_b5 N n s (nI m) (nI (sGv g s m k) + σ.2.2.1 69 s (nI k).toNatClampNeg) (nI (k + 1)) σ) = _
        have e3 : g 97 (40 * s + k) = nI (sCl g s k).toNatClampNeg := (hp k (by omega)).1
        rw [k10, if_neg (out_nI (by omega) (by decide)), nI_clamp (by omega), h.1.ce s k hs (by omega), e3, nI_add]
        exact e2
      · rw [if_neg t, Nat.add_zero] at e2
        rw [if_neg t]
        exact e2
theorem m_parts5 (N : Nat) {g : Nat → Nat → Int32} (hw : Wf g) (s m : Nat) (hs : s < 4) (hm : m < 64) (hp : ∀ j, j < sF g → isN (sCl g s j) 999999) (σ : Mem) (hg : gM σ = g) : ∀ (q n k : Nat), k + q = sF g → q < n →
    F_X12_partsOf_b5 N n (nI s) (nI m) (nI (sGv g s m k)) (nI k) σ = some (nI (sGv g s m (sF g)), σ) := by
  have hF := sF_eq hw
  intro q
  induction q with
  | zero =>
    intro n k hk hn
    cases n with
    | zero => cases hn
    | succ n => rw [F_X12_partsOf_b5.eq_2, rF hg (by decide), hF.1, if_pos (nI_le (by omega) (by omega)), show k = sF g by omega]
  | succ q ih =>
    intro n k hk hn
    cases n with
    | zero => cases hn
    | succ n =>
      have e2 := ih n (k + 1) (by omega) (by omega)
      rw [sGv] at e2
      rw [F_X12_partsOf_b5.eq_2, rF hg (by decide), hF.1, if_neg (nI_ge (by omega) (by omega)), bit_6 m hm k (by omega), nI_1]
      by_cases t : m.testBit k = true
      · rw [if_pos t] at e2
        have e3 : g 97 (40 * s + k) = nI (sCl g s k).toNatClampNeg := (hp k (by omega)).1
        rw [if_pos t, k10, ix40, if_neg (out_nI (by omega) (by decide)), nI_clamp (by omega), rA hg (by decide) (by decide), e3, nI_add]
        exact e2
      · rw [if_neg t, Nat.add_zero] at e2
        rw [if_neg t, k00, Int32.add_zero]
        exact e2
def sCoN (g : Nat → Nat → Int32) : Nat → Nat
  | 0 => 0
  | n + 1 => sCoN g n + sCn g (n + 1)
theorem sCoN_eq (g : Nat → Nat → Int32) : ∀ n, n ≤ 5 → sCo g n = nI (sCoN g n) ∧ sCoN g n ≤ 999 * n
  | 0, _ => ⟨rfl, Nat.le_refl _⟩
  | n + 1, h => by
    obtain ⟨a, b⟩ := sCoN_eq g n (by omega)
    obtain ⟨c, d⟩ := sCn_eq g (n + 1)
    rw [sCo, sCoN, a, c, nI_add]
    exact ⟨rfl, by omega⟩

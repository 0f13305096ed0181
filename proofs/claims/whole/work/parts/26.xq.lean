/-! THE PURE SIDE, 7: the class: what is thought of a place's yards -/
def sAllF (g : Nat → Nat → Int32) (p : Nat) : Int32 := hzJ (fun j => g 76 (5 * p + j)) (sL g)
def sFirst (g : Nat → Nat → Int32) (p j : Nat) : Int64 := if sAllF g p = 0 then 1000000 / (nI (sL g)).toInt64 else (g 76 (5 * p + j)).toInt64 * 1000000 / (sAllF g p).toInt64
def sSig (g : Nat → Nat → Int32) (p k : Nat) : Int32 := g 79 (5 * p + k)
def sTh (g : Nat → Nat → Int32) (p : Nat) : Nat → Nat → Int64
  | 0 => sFirst g p
  | k + 1 => sNext g (k + 1) (sSig g p k) (sTh g p k)
def sCan (g : Nat → Nat → Int32) (p : Nat) : Nat → Bool
  | 0 => true
  | k + 1 => sCan g p k && decide (0 < sMuch g (k + 1) (sSig g p k) (sTh g p k))
theorem sCan_le {g : Nat → Nat → Int32} {p : Nat} : ∀ {k n : Nat}, k ≤ n → sCan g p n = true → sCan g p k = true
  | k, 0, h, hc => by rw [Nat.le_zero.mp h]; exact hc
  | k, n + 1, h, hc => by
    by_cases e : k = n + 1
    · rw [e]; exact hc
    · exact sCan_le (Nat.le_of_lt_succ (Nat.lt_of_le_of_ne h e)) (and_t hc).1
def sDug (g : Nat → Nat → Int32) (p : Nat) : Nat := (g 77 p).toNatClampNeg
theorem sDug_eq {g : Nat → Nat → Int32} (hw : Wf g) {p : Nat} (hp : p < 4) : g 77 p = nI (sDug g p) ∧ sDug g p ≤ 5 := hw.dy p hp
theorem sAllF_nI {g : Nat → Nat → Int32} (hw : Wf g) {p : Nat} (hp : p < 4) : ∃ s : Nat, s ≤ 495 ∧ sAllF g p = nI s ∧ ∀ j, j < sL g → (g 76 (5 * p + j)).toNatClampNeg ≤ s := by
  have hL := sL_le hw
  obtain ⟨s, h1, h2, h3⟩ := hzJ_nI (f := fun j => g 76 (5 * p + j)) (m := 99) (sL g) (fun j hj => hw.fi _ (by omega)) (by omega)
  exact ⟨s, by omega, h2, h3⟩
theorem x_allF4 (N : Nat) {g : Nat → Nat → Int32} (p : Nat) (hp : p < 4) (σ : Mem) (h : HX σ g) : ∀ (r n k : Nat), k + r = 5 → r < n → F_X7_allFirst_b4 N n (nI p) (hzJ (fun j => g 76 (5 * p + j)) k) (nI k) σ = some (hzJ (fun j => g 76 (5 * p + j)) 5, σ) := by
  intro r
  induction r with
  | zero =>
    intro n k hk hn
    cases n with
    | zero => cases hn
    | succ n =>
      unfold F_X7_allFirst_b4
      rw [if_pos (leL_a 5 5 rfl (by omega) (by omega)), show k = 5 by omega]
  | succ r ih =>
    intro n k hk hn
    cases n with
    | zero => cases hn
    | succ n =>
      unfold F_X7_allFirst_b4
      rw [if_neg (geL_n 5 5 rfl (by omega) (by decide)), if_neg (out_nI hp (by decide)), if_neg (out_nI (by omega) (by decide)), nI_clamp (by omega), nI_clamp (by omega), h.1.fi p k hp (by omega), nI_1]
      exact ih n (k + 1) (by omega) (by omega)
theorem x_allFirst (N : Nat) (hN : 6 < N) {g : Nat → Nat → Int32} (hw : Wf g) (p : Nat) (hp : p < 4) (σ : Mem) (h : HX σ g) : F_X7_allFirst N (nI p) σ = some (sAllF g p, σ) := by
  unfold F_X7_allFirst sAllF
  rw [← hzJ_zero 5 (sL_le hw) (fun j h1 h2 => hw.iz p j hp h2 h1)]
  exact x_allF4 N p hp σ h 5 N 0 (by omega) (by omega)
theorem nI_l0 {s : Nat} (h0 : 0 < s) (h : s < 2 ^ 31) : ¬ (nI s).toInt64 = 0 := by
  rw [nI_l h]
  intro e
  have := congrArg Int64.toInt e
  rw [lN_toInt (by omega)] at this
  have e0 : (0 : Int64).toInt = 0 := by decide
  omega
theorem x_begin11 (N : Nat) {g : Nat → Nat → Int32} (hw : Wf g) (p : Nat) (hp : p < 4) : ∀ (r n k : Nat) (σ : Mem), k + r = sL g → r < n → HX σ g → (∀ j, j < k → σ.2.2.2.1 50 1 j = sFirst g p j) →
    ∃ τ, F_X6_begin_b11 N n (nI p) (sAllF g p) (nI k) σ = some ((), τ) ∧ KT 1 σ τ ∧ ∀ j, j < sL g → τ.2.2.2.1 50 1 j = sFirst g p j := by
  intro r
  have hL := sL_le hw
  obtain ⟨s, hs, es, -⟩ := sAllF_nI hw hp
  induction r with
  | zero =>
    intro n k σ hk hn h h1
    cases n with
    | zero => cases hn
    | succ n =>
      refine ⟨σ, ?_, KT.rfl_ 1 σ, fun j hj => h1 j (by omega)⟩
      unfold F_X6_begin_b11
      rw [h.L hw, if_pos (nI_le (by omega) (by omega))]
  | succ r ih =>
    intro n k σ hk hn h h1
    cases n with
    | zero => cases hn
    | succ n =>
      have kd : KT 1 σ (σ.1, σ.2.1, σ.2.2.1, hwU3 σ.2.2.2.1 50 1 k (sFirst g p k), σ.2.2.2.2) := KT.w
      obtain ⟨τ, e1, e2, e3⟩ := ih n (k + 1) _ (by omega) (by omega) (h.kx kd.x) (fun j hj => by
        show hwU3 σ.2.2.2.1 50 1 k _ 50 1 j = _
        by_cases e : j = k
        · subst e; exact hwU3_eq
        · rw [hwU3_k e]; exact h1 j (by omega))
      refine ⟨τ, ?_, kd.trans e2, e3⟩
      unfold F_X6_begin_b11
      rw [h.L hw, if_neg (nI_ge (by omega) (by omega))]
      by_cases hs0 : s = 0
      · have ez : sAllF g p = 0 := by rw [es, hs0]; rfl
        have ev : (1000000 : Int64) / (nI (sL g)).toInt64 = sFirst g p k := by unfold sFirst; rw [if_pos ez]
        rw [ez, if_pos (by decide), if_neg (nI_l0 (by omega) (by omega)), ev, ← ez]
        unfold F_X6_begin_b67
        rw [if_neg (out_nI (by omega) (by decide)), nI_clamp (by omega), nI_1]
        exact e1
      · have en : ¬ sAllF g p = 0 := by rw [es]; exact nI_ne0 (by omega) (by omega)
        have ep : ¬ sAllF g p ≤ 0 := by rw [es]; exact nI_nle (by omega) (by omega)
        have el : ¬ (sAllF g p).toInt64 = 0 := by rw [es]; exact nI_l0 (by omega) (by omega)
        have ev : (g 76 (5 * p + k)).toInt64 * (1000000 : Int64) / (sAllF g p).toInt64 = sFirst g p k := by unfold sFirst; rw [if_neg en]
        rw [if_neg ep, if_neg (out_nI hp (by decide)), if_neg (out_nI (by omega) (by decide)), if_neg el, nI_clamp (by omega), nI_clamp (by omega), h.1.fi p k hp (by omega), ev]
        unfold F_X6_begin_b67
        rw [if_neg (out_nI (by omega) (by decide)), nI_clamp (by omega), nI_1]
        exact e1
theorem x_begin (N : Nat) (hN : 6 < N) {g : Nat → Nat → Int32} (hw : Wf g) (p : Nat) (hp : p < 4) (σ : Mem) (h : HX σ g) : ∃ τ, F_X6_begin N (nI p) σ = some ((), τ) ∧ KT 1 σ τ ∧ ∀ j, j < sL g → τ.2.2.2.1 50 1 j = sFirst g p j := by
  have hL := sL_le hw
  obtain ⟨τ, e1, k1, r1⟩ := x_begin11 N hw p hp (sL g) N 0 σ (by omega) (by omega) h (fun j hj => by omega)
  refine ⟨τ, ?_, k1, r1⟩
  unfold F_X6_begin
  rw [x_allFirst N hN hw p hp σ h]
  exact e1
theorem x_signOf (N : Nat) {g : Nat → Nat → Int32} (hw : Wf g) (p : Nat) (hp : p < 4) (k : Nat) (hk : k < sDug g p) (σ : Mem) (h : HX σ g) : F_X7_signOf N (nI p) (nI (k + 1)) σ = some (sSig g p k, σ) := by
  obtain ⟨e, h5⟩ := sDug_eq hw hp
  unfold F_X7_signOf
  rw [if_neg (nltL_b 1 1 rfl (by omega) (by omega)), if_neg (out_nI hp (by decide))]
  simp only [nI_clamp (show p < 2 ^ 31 by omega)]
  rw [h.1.dy p hp, e, if_neg (nI_nlt (by omega) (by omega)), if_neg (out_nI hp (by decide)), nI_pred, if_neg (out_nI (by omega) (by decide)), nI_clamp (by omega), h.1.sg p k hp (by omega)]
  rfl
/-- the rows, what is thought of yard k + 1 -/
theorem x_next7 (N : Nat) (hN : 6 < N) {g : Nat → Nat → Int32} (hw : Wf g) (p : Nat) (hp : p < 4) : ∀ (r n k : Nat) (σ : Mem), k + r = sDug g p → r < n → HX σ g → sCan g p k = true → (∀ j, j < sL g → σ.2.2.2.1 50 (k + 1) j = sTh g p k j) →
    ∃ τ, F_X6_nextYard_b7 N n (nI p) (nI (k + 1)) σ = some (if sCan g p (sDug g p) then nI (sDug g p + 1) else 0, τ) ∧ KX σ τ ∧ (sCan g p (sDug g p) = true → ∀ j, j < sL g → τ.2.2.2.1 50 (sDug g p + 1) j = sTh g p (sDug g p) j) := by
  obtain ⟨e, h5⟩ := sDug_eq hw hp
  intro r
  induction r with
  | zero =>
    intro n k σ hk hn h hc h1
    cases n with
    | zero => cases hn
    | succ n =>
      have ek : k = sDug g p := by omega
      subst ek
      refine ⟨σ, ?_, KX.rfl_ σ, fun _ => h1⟩
      unfold F_X6_nextYard_b7
      rw [if_neg (out_nI hp (by decide))]
      simp only [nI_clamp (show p < 2 ^ 31 by omega)]
      rw [h.1.dy p hp, e, if_pos (nI_lt (by omega) (by omega)), if_neg (out_nI hp (by decide)), nI_1, if_pos hc]
  | succ r ih =>
    intro n k σ hk hn h hc h1
    cases n with
    | zero => cases hn
    | succ n =>
      obtain ⟨τ1, f1, k1, r1⟩ := x_pass N hN hw (k + 1) (by omega) (by omega) (sSig g p k) (sTh g p k) σ h h1
      have e1 : F_X6_nextYard_b7 N (n + 1) (nI p) (nI (k + 1)) σ = (if (lg_cmp (if 0 < sMuch g (k + 1) (sSig g p k) (sTh g p k) then sMuch g (k + 1) (sSig g p k) (sTh g p k) else 0) (0 : Int64)) = 0 then some ((0 : Int32), τ1) else F_X6_nextYard_b7 N n (nI p) (nI (k + 2)) τ1) := by
        rw [F_X6_nextYard_b7.eq_2, if_neg (out_nI hp (by decide))]
        simp only [nI_clamp (show p < 2 ^ 31 by omega)]
        rw [h.1.dy p hp, e, if_neg (nI_nlt (by omega) (by omega)), x_signOf N hw p hp k (by omega) σ h]
        show (F_X6_pass N (nI (k + 1)) (sSig g p k) σ).bind _ = _
        rw [f1, nI_1]
        rfl
      rw [e1]
      by_cases hm : 0 < sMuch g (k + 1) (sSig g p k) (sTh g p k)
      · obtain ⟨τ, f2, k2, r2⟩ := ih n (k + 1) τ1 (by omega) (by omega) (h.kx k1.x) (by rw [sCan, hc]; simp [hm]) (r1 hm)
        refine ⟨τ, ?_, k1.x.trans k2, r2⟩
        rw [if_pos hm, if_neg (fun q => by rw [lg_zero] at q; rw [q] at hm; exact absurd hm (by decide))]
        exact f2
      · have hn : sCan g p (sDug g p) = false := by
          cases hz : sCan g p (sDug g p) with
          | false => rfl
          | true =>
            have := (and_t (sCan_le (show k + 1 ≤ sDug g p by omega) hz)).2
            exact absurd (of_decide_eq_true this) hm
        refine ⟨τ1, ?_, k1.x, fun q => by rw [hn] at q; cases q⟩
        rw [if_neg hm, if_pos (by rfl), hn]
        rfl
theorem x_nextYard (N : Nat) (hN : 6 < N) {g : Nat → Nat → Int32} (hw : Wf g) (p : Nat) (hp : p < 4) (σ : Mem) (h : HX σ g) :
    ∃ τ, F_X6_nextYard N (nI p) σ = some (if sCan g p (sDug g p) then nI (sDug g p + 1) else 0, τ) ∧ KX σ τ ∧ (sCan g p (sDug g p) = true → ∀ j, j < sL g → τ.2.2.2.1 50 (sDug g p + 1) j = sTh g p (sDug g p) j) := by
  obtain ⟨e, h5⟩ := sDug_eq hw hp
  obtain ⟨τ1, e1, k1, r1⟩ := x_begin N hN hw p hp σ h
  obtain ⟨τ, e2, k2, r2⟩ := x_next7 N hN hw p hp (sDug g p) N 0 τ1 (by omega) (by omega) (h.kx k1.x) rfl r1
  refine ⟨τ, ?_, k1.x.trans k2, r2⟩
  unfold F_X6_nextYard
  rw [e1]
  exact e2
/-- no water, and it can be -/
def sOpen (g : Nat → Nat → Int32) (p : Nat) : Bool := decide (g 78 p = 0) && sCan g p (sDug g p)
theorem x_openYard (N : Nat) (hN : 6 < N) {g : Nat → Nat → Int32} (hw : Wf g) (p : Nat) (hp : p < 4) (σ : Mem) (h : HX σ g) :
    ∃ τ, F_X6_openYard N (nI p) σ = some (if sOpen g p then nI (sDug g p + 1) else 0, τ) ∧ KX σ τ ∧ (sOpen g p = true → ∀ j, j < sL g → τ.2.2.2.1 50 (sDug g p + 1) j = sTh g p (sDug g p) j) := by
  unfold F_X6_openYard sOpen
  rw [if_neg (out_nI hp (by decide)), nI_clamp (by omega), h.1.wa p hp]
  by_cases hz : g 78 p = 0
  · obtain ⟨τ, e1, k1, r1⟩ := x_nextYard N hN hw p hp σ h
    refine ⟨τ, ?_, k1, fun q => r1 (and_t q).2⟩
    rw [if_pos hz, e1, decide_eq_true hz, Bool.true_and]
    rfl
  · refine ⟨σ, ?_, KX.rfl_ σ, fun q => ?_⟩
    · rw [if_neg hz, decide_eq_false hz]
      rfl
    · rw [decide_eq_false hz] at q; cases q
theorem x_goingOn (N : Nat) (hN : 6 < N) {g : Nat → Nat → Int32} (hw : Wf g) (w : Int32) (y : Nat) (h1y : 1 ≤ y) (h6 : y ≤ 6) (th : Nat → Int64) (σ : Mem) (h : HX σ g) (h1 : ∀ j, j < sL g → σ.2.2.2.1 50 y j = th j) :
    ∃ τ, F_X6_goingOn N (nI y) w σ = some (sGoes g w (sD g + 1 - y) y th, τ) ∧ KP y σ τ := by
  have := (sD_eq hw).2
  exact x_goes N hN hw w (sD g + 1 - y) 10 y th σ (by omega) rfl h1y h6 h h1
theorem x_worthOf (N : Nat) (hN : 6 < N) {g : Nat → Nat → Int32} (hw : Wf g) (y : Nat) (h1y : 1 ≤ y) (h6 : y ≤ 6) (th : Nat → Int64) (σ : Mem) (h : HX σ g) (h1 : ∀ j, j < sL g → σ.2.2.2.1 50 y j = th j) :
    ∃ τ, F_X6_worthOf N (nI y) σ = some (sMx (sGoes g (g 12 1) (sD g + 1 - y) y th), τ) ∧ KP y σ τ := by
  obtain ⟨τ, e1, k1⟩ := x_goingOn N hN hw (g 12 1) y h1y h6 th σ h h1
  refine ⟨τ, ?_, k1⟩
  unfold F_X6_worthOf
  rw [x_worth N σ h]
  show (F_X6_goingOn N (nI y) (g 12 1) σ).bind _ = _
  rw [e1]
  rfl

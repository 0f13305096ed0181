/-! THE PURE SIDE, 21: how wells fall in, lining -/
def sFs (g : Nat → Nat → Int32) (f : Nat) : Nat → Int64
  | 0 => 1000000
  | n + 1 => (sFs g f n * ((100 : Int32) - sFall g (if n + 1 ≤ f then 0 else 1) (n + 1)).toInt64) / 100
def sCo (g : Nat → Nat → Int32) : Nat → Int32
  | 0 => 0
  | n + 1 => sCo g n + sCost g (n + 1)
theorem x_fallen7 (N : Nat) {g : Nat → Nat → Int32} (d f : Nat) (hd : d ≤ 5) (hf : f ≤ 5) (σ : Mem) (h : HX σ g) : ∀ (q n k : Nat), k + q = d → q < n →
    F_X4_fallen_b7 N n (nI d) (nI f) (sFs g f k) (nI (k + 1)) σ = some (1000000 - sFs g f d, σ) := by
  intro q
  induction q with
  | zero =>
    intro n k hk hn
    cases n with
    | zero => cases hn
    | succ n => rw [F_X4_fallen_b7.eq_2, if_pos (nI_lt (by omega) (by omega)), show k = d by omega]
  | succ q ih =>
    intro n k hk hn
    cases n with
    | zero => cases hn
    | succ n =>
      have b34 : ∀ b : Nat, b = (if k + 1 ≤ f then 0 else 1) → F_X4_fallen_b34 N (F_X4_fallen_b7 N n) (nI d) (nI f) (sFs g f k) (nI (k + 1)) (nI b) σ = some (1000000 - sFs g f d, σ) := by
        intro b hb
        have hb2 : b < 2 := by rw [hb]; split <;> decide
        unfold F_X4_fallen_b34
        rw [if_neg (out_nI hb2 (by decide)), if_neg (out_nI (by omega) (by decide)), nI_clamp (by omega), nI_clamp (by omega), h.2.fl b (k + 1) hb2 (by omega) (by omega), nI_1, hb]
        exact ih n (k + 1) (by omega) (by omega)
      rw [F_X4_fallen_b7.eq_2, if_neg (nI_nlt (by omega) (by omega)), if_neg (nltL_a 5 5 rfl (by omega) (by decide))]
      by_cases c : k + 1 ≤ f
      · rw [if_pos (nI_le c (by omega))]
        exact b34 0 (by rw [if_pos c])
      · rw [if_neg (nI_ge (by omega) (by omega))]
        exact b34 1 (by rw [if_neg c])
theorem x_fallen (N : Nat) (hN : 160 ≤ N) {g : Nat → Nat → Int32} (d f : Nat) (hd : d ≤ 5) (hf : f ≤ 5) (σ : Mem) (h : HX σ g) : F_X4_fallen N (nI d) (nI f) σ = some (1000000 - sFs g f d, σ) :=
  x_fallen7 N d f hd hf σ h d N 0 (by omega) (by omega)
theorem m_fallen7 (N : Nat) (hN : 160 ≤ N) {g : Nat → Nat → Int32} (hw : Wf g) (d f : Nat) (hd : d ≤ 5) (hf : f ≤ 5) : ∀ (q n k : Nat) (σ : Mem), k + q = d → q < n → gM σ = g →
    ∃ τ, F_X12_fallen_b7 N n (nI d) (nI f) (sFs g f k) (nI (k + 1)) σ = some (1000000 - sFs g f d, τ) ∧ KE σ τ := by
  intro q
  induction q with
  | zero =>
    intro n k σ hk hn hg
    cases n with
    | zero => cases hn
    | succ n => exact ⟨σ, by rw [F_X12_fallen_b7.eq_2, if_pos (nI_lt (by omega) (by omega)), show k = d by omega], KE.rfl_ σ⟩
  | succ q ih =>
    intro n k σ hk hn hg
    cases n with
    | zero => cases hn
    | succ n =>
      have b30 : ∀ b : Nat, b = (if k + 1 ≤ f then 0 else 1) → ∃ τ, F_X12_fallen_b30 N (F_X12_fallen_b7 N n) (nI d) (nI f) (nI (k + 1)) (nI b) (nI (k + 1)) (100 : Int32) (sFs g f k) σ = some (1000000 - sFs g f d, τ) ∧ KE σ τ := by
        intro b hb
        obtain ⟨τ1, e1, k1⟩ := m_fallOf N hN hw (k + 1) b σ hg
        obtain ⟨τ2, e2, k2⟩ := ih n (k + 1) τ1 (by omega) (by omega) (k1.g.trans hg)
        refine ⟨τ2, ?_, k1.trans k2⟩
        unfold F_X12_fallen_b30
        rw [e1, Option.bind_some, nI_1, hb]
        exact e2
      rw [F_X12_fallen_b7.eq_2, if_neg (nI_nlt (by omega) (by omega))]
      by_cases c : k + 1 ≤ f
      · rw [if_pos (nI_le c (by omega))]
        exact b30 0 (by rw [if_pos c])
      · rw [if_neg (nI_ge (by omega) (by omega))]
        exact b30 1 (by rw [if_neg c])
theorem m_fallen (N : Nat) (hN : 160 ≤ N) {g : Nat → Nat → Int32} (hw : Wf g) (d f : Nat) (hd : d ≤ 5) (hf : f ≤ 5) (σ : Mem) (hg : gM σ = g) : ∃ τ, F_X12_fallen N (nI d) (nI f) σ = some (1000000 - sFs g f d, τ) ∧ KE σ τ :=
  m_fallen7 N hN hw d f hd hf d N 0 σ (by omega) (by omega) hg
theorem c_fall (N : Nat) (hN : 160 ≤ N) (a b : Int32) (σ : Mem) (h : Ag σ) : Ac (F_X11_fall N a b) (F_X12_fall N a b) σ := by
  obtain ⟨hx, hw⟩ := h
  rcases rg_m a 0 5 (by decide) (by decide) with ⟨d, d0, hd, rfl⟩ | hq
  rotate_left
  · refine Ac.st (r := Int64.ofInt (-4611686018427387904)) ⟨hx, hw⟩ ?_ ?_
    · unfold F_X11_fall; rw [show F_X11_within N a 0 5 _ = _ from x_in_n hq, Option.bind_some, k00]
    · unfold F_X12_fall; rw [show F_X12_in N a 0 5 _ = _ from m_in_n hq, Option.bind_some, k00]
  rcases rg_m b 0 5 (by decide) (by decide) with ⟨f, f0, hf, rfl⟩ | hq
  rotate_left
  · refine Ac.st (r := Int64.ofInt (-4611686018427387904)) ⟨hx, hw⟩ ?_ ?_
    · unfold F_X11_fall; rw [show F_X11_within N (nI d) 0 5 _ = _ from x_rgY d0 hd (by decide), Option.bind_some, k10, show F_X11_within N b 0 5 _ = _ from x_in_n hq, Option.bind_some, k00]
    · unfold F_X12_fall; rw [show F_X12_in N (nI d) 0 5 _ = _ from m_rgY d0 hd (by decide), Option.bind_some, k10, show F_X12_in N b 0 5 _ = _ from m_in_n hq, Option.bind_some, k00]
  obtain ⟨τ, e, k⟩ := m_fallen N hN hw d f hd hf σ rfl
  refine Ac.mk (r := 1000000 - sFs (gM σ) f d) (τ1 := σ) (τ2 := τ) ⟨hx, hw⟩ ?_ (KY.rfl_ σ) ?_ k.q.m
  · unfold F_X11_fall; rw [show F_X11_within N (nI d) 0 5 _ = _ from x_rgY d0 hd (by decide), Option.bind_some, k10, show F_X11_within N (nI f) 0 5 _ = _ from x_rgY f0 hf (by decide), Option.bind_some, k10, x_fallen N hN d f hd hf σ hx, Option.bind_some]
  · unfold F_X12_fall; rw [show F_X12_in N (nI d) 0 5 _ = _ from m_rgY d0 hd (by decide), Option.bind_some, k10, show F_X12_in N (nI f) 0 5 _ = _ from m_rgY f0 hf (by decide), Option.bind_some, k10, e, Option.bind_some]
theorem x_costs4 (N : Nat) {g : Nat → Nat → Int32} (d : Nat) (hd : d ≤ 5) (σ : Mem) (h : HX σ g) : ∀ (q n k : Nat), k + q = d → q < n →
    F_X4_costsOf_b4 N n (nI d) (sCo g k) (nI (k + 1)) σ = some (sCo g d, σ) := by
  intro q
  induction q with
  | zero =>
    intro n k hk hn
    cases n with
    | zero => cases hn
    | succ n => rw [F_X4_costsOf_b4.eq_2, if_pos (nI_lt (by omega) (by omega)), show k = d by omega]
  | succ q ih =>
    intro n k hk hn
    cases n with
    | zero => cases hn
    | succ n =>
      rw [F_X4_costsOf_b4.eq_2, if_neg (nI_nlt (by omega) (by omega)), if_neg (nltL_a 5 5 rfl (by omega) (by decide)), if_neg (out_nI (by omega) (by decide)), nI_clamp (by omega), h.2.co (k + 1) (by omega) (by omega), nI_1]
      exact ih n (k + 1) (by omega) (by omega)
theorem x_costs (N : Nat) (hN : 160 ≤ N) {g : Nat → Nat → Int32} (d : Nat) (hd : d ≤ 5) (σ : Mem) (h : HX σ g) : F_X4_costsOf N (nI d) σ = some (sCo g d, σ) :=
  x_costs4 N d hd σ h d N 0 (by omega) (by omega)
theorem m_costs4 (N : Nat) (hN : 160 ≤ N) {g : Nat → Nat → Int32} (hw : Wf g) (d : Nat) (hd : d ≤ 5) : ∀ (q n k : Nat) (σ : Mem), k + q = d → q < n → gM σ = g →
    ∃ τ, F_X12_costsTo_b4 N n (nI d) (sCo g k) (nI (k + 1)) σ = some (sCo g d, τ) ∧ KE σ τ := by
  intro q
  induction q with
  | zero =>
    intro n k σ hk hn hg
    cases n with
    | zero => cases hn
    | succ n => exact ⟨σ, by rw [F_X12_costsTo_b4.eq_2, if_pos (nI_lt (by omega) (by omega)), show k = d by omega], KE.rfl_ σ⟩
  | succ q ih =>
    intro n k σ hk hn hg
    cases n with
    | zero => cases hn
    | succ n =>
      obtain ⟨τ1, e1, k1⟩ := m_costOf N hN hw (k + 1) σ hg
      obtain ⟨τ2, e2, k2⟩ := ih n (k + 1) τ1 (by omega) (by omega) (k1.g.trans hg)
      refine ⟨τ2, ?_, k1.trans k2⟩
      rw [F_X12_costsTo_b4.eq_2, if_neg (nI_nlt (by omega) (by omega)), e1, Option.bind_some, nI_1]
      exact e2
theorem m_costs (N : Nat) (hN : 160 ≤ N) {g : Nat → Nat → Int32} (hw : Wf g) (d : Nat) (hd : d ≤ 5) (σ : Mem) (hg : gM σ = g) : ∃ τ, F_X12_costsTo N (nI d) σ = some (sCo g d, τ) ∧ KE σ τ :=
  m_costs4 N hN hw d hd d N 0 σ (by omega) (by omega) hg
def sLv (g : Nat → Nat → Int32) (d f : Nat) : Int64 := ((1000000 - sFs g f d) * (sCo g d).toInt64) + ((1000000 * (g 12 4).toInt64) * (nI d - nI f).toInt64)
def sLn (g : Nat → Nat → Int32) (d : Nat) : Nat → Nat × Int64
  | 0 => (0, 0)
  | n + 1 => if n = 0 then (0, sLv g d 0) else if 0 ≤ lg_cmp (sLv g d n) (sLn g d n).2 then sLn g d n else (n, sLv g d n)
theorem x_line7 (N : Nat) (hN : 160 ≤ N) {g : Nat → Nat → Int32} (d : Nat) (hd : d ≤ 5) (σ : Mem) (h : HX σ g) : ∀ (q n k : Nat), k + q = d + 1 → q < n →
    F_X4_bestLining_b7 N n (nI d) (nI (sLn g d k).1) (sLn g d k).2 (nI k) σ = some (nI (sLn g d (d + 1)).1, σ) := by
  intro q
  induction q with
  | zero =>
    intro n k hk hn
    cases n with
    | zero => cases hn
    | succ n => rw [F_X4_bestLining_b7.eq_2, if_pos (nI_lt (by omega) (by omega)), show k = d + 1 by omega]
  | succ q ih =>
    intro n k hk hn
    cases n with
    | zero => cases hn
    | succ n =>
      have e2 := ih n (k + 1) (by omega) (by omega)
      rw [F_X4_bestLining_b7.eq_2, if_neg (nI_nlt (by omega) (by omega)), x_fallen N hN d k hd (by omega) σ h, Option.bind_some, x_costs N hN d hd σ h, Option.bind_some, nI_1, h.1.set 4 (by decide)]
      rw [sLn] at e2
      by_cases hk0 : k = 0
      · subst hk0
        rw [if_pos (show nI 0 = 0 from rfl)]
        exact e2
      · rw [if_neg (nI_ne0 (by omega) (by omega))]
        rw [if_neg hk0] at e2
        show (if 0 ≤ lg_cmp (sLv g d k) (sLn g d k).2 then F_X4_bestLining_b7 N n (nI d) (nI (sLn g d k).1) (sLn g d k).2 (nI (k + 1)) σ else F_X4_bestLining_b7 N n (nI d) (nI k) (sLv g d k) (nI (k + 1)) σ) = _
        by_cases c : 0 ≤ lg_cmp (sLv g d k) (sLn g d k).2
        · rw [if_pos c]; rw [if_pos c] at e2; exact e2
        · rw [if_neg c]; rw [if_neg c] at e2; exact e2
theorem m_line19 (N : Nat) (hN : 160 ≤ N) {g : Nat → Nat → Int32} (hw : Wf g) (d : Nat) (hd : d ≤ 5) : ∀ (q n k : Nat) (σ : Mem), k + q = d + 1 → q < n → gM σ = g →
    ∃ τ, F_X12_line_b19 N n (nI d) (nI (sLn g d k).1) (sLn g d k).2 (nI k) σ = some (nI (sLn g d (d + 1)).1, τ) ∧ KE σ τ := by
  intro q
  induction q with
  | zero =>
    intro n k σ hk hn hg
    cases n with
    | zero => cases hn
    | succ n => exact ⟨σ, by rw [F_X12_line_b19.eq_2, if_pos (nI_lt (by omega) (by omega)), show k = d + 1 by omega], KE.rfl_ σ⟩
  | succ q ih =>
    intro n k σ hk hn hg
    cases n with
    | zero => cases hn
    | succ n =>
      obtain ⟨τ1, f1, k1⟩ := m_fallen N hN hw d k hd (by omega) σ hg
      have g1 := k1.g.trans hg
      obtain ⟨τ2, f2, k2⟩ := m_costs N hN hw d hd τ1 g1
      have g2 := k2.g.trans g1
      obtain ⟨τ3, e2, k3⟩ := ih n (k + 1) τ2 (by omega) (by omega) g2
      refine ⟨τ3, ?_, (k1.trans k2).trans k3⟩
      rw [F_X12_line_b19.eq_2, if_neg (nI_nlt (by omega) (by omega)), f1, Option.bind_some, f2, Option.bind_some, nI_1]
      show (if nI k = 0 then F_X12_line_b19 N n (nI d) (nI k) (((1000000 - sFs g k d) * (sCo g d).toInt64) + ((1000000 * (τ2.1 12 4).toInt64) * (nI d - nI k).toInt64)) (nI (k + 1)) τ2 else if 0 ≤ lg_cmp (((1000000 - sFs g k d) * (sCo g d).toInt64) + ((1000000 * (τ2.1 12 4).toInt64) * (nI d - nI k).toInt64)) (sLn g d k).2 then F_X12_line_b19 N n (nI d) (nI (sLn g d k).1) (sLn g d k).2 (nI (k + 1)) τ2 else F_X12_line_b19 N n (nI d) (nI k) (((1000000 - sFs g k d) * (sCo g d).toInt64) + ((1000000 * (τ2.1 12 4).toInt64) * (nI d - nI k).toInt64)) (nI (k + 1)) τ2) = _
      rw [rF g2 (by decide)]
      rw [sLn] at e2
      by_cases hk0 : k = 0
      · subst hk0
        rw [if_pos (show nI 0 = 0 from rfl)]
        exact e2
      · rw [if_neg (nI_ne0 (by omega) (by omega))]
        rw [if_neg hk0] at e2
        show (if 0 ≤ lg_cmp (sLv g d k) (sLn g d k).2 then F_X12_line_b19 N n (nI d) (nI (sLn g d k).1) (sLn g d k).2 (nI (k + 1)) τ2 else F_X12_line_b19 N n (nI d) (nI k) (sLv g d k) (nI (k + 1)) τ2) = _
        by_cases c : 0 ≤ lg_cmp (sLv g d k) (sLn g d k).2
        · rw [if_pos c]; rw [if_pos c] at e2; exact e2
        · rw [if_neg c]; rw [if_neg c] at e2; exact e2
theorem c_line (N : Nat) (hN : 160 ≤ N) (a : Int32) (σ : Mem) (h : Ag σ) : Ac (F_X11_line N a) (F_X12_line N a) σ := by
  obtain ⟨hx, hw⟩ := h
  rcases rg_m a 0 5 (by decide) (by decide) with ⟨d, d0, hd, rfl⟩ | hq
  rotate_left
  · refine Ac.st (r := Int32.ofInt (-2)) ⟨hx, hw⟩ ?_ ?_
    · unfold F_X11_line; rw [show F_X11_within N a 0 5 _ = _ from x_in_n hq, Option.bind_some, k00]
    · unfold F_X12_line; rw [show F_X12_in N a 0 5 _ = _ from m_in_n hq, Option.bind_some, k00]
  obtain ⟨τ, e, k⟩ := m_line19 N hN hw d hd (d + 1) N 0 σ (by omega) (by omega) rfl
  refine Ac.mk (r := nI (sLn (gM σ) d (d + 1)).1) (τ1 := σ) (τ2 := τ) ⟨hx, hw⟩ ?_ (KY.rfl_ σ) ?_ k.q.m
  · unfold F_X11_line F_X4_bestLining
    rw [show F_X11_within N (nI d) 0 5 _ = _ from x_rgY d0 hd (by decide), Option.bind_some, k10, show F_X4_bestLining_b7 N N (nI d) (0 : Int32) (0 : Int64) (0 : Int32) σ = _ from x_line7 N hN d hd σ hx (d + 1) N 0 (by omega) (by omega), Option.bind_some]
  · unfold F_X12_line
    rw [show F_X12_in N (nI d) 0 5 _ = _ from m_rgY d0 hd (by decide), Option.bind_some, k10]
    exact e

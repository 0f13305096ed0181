/-! THE PURE SIDE, 12: both agree; questions about a place's next yard -/
def Ag (σ : Mem) : Prop := HX σ (gM σ) ∧ Wf (gM σ)
/-- a call of both, one behind the other: one answer, and they agree again -/
def Ac {α : Type} (F1 F2 : Mem → Option (α × Mem)) (σ : Mem) : Prop := ∃ r τ1 τ2, F1 σ = some (r, τ1) ∧ F2 τ1 = some (r, τ2) ∧ τ1.2.2.2.2 = σ.2.2.2.2 ∧ τ2.2.2.2.2 = σ.2.2.2.2 ∧ τ2.2.2.2.1 98 = σ.2.2.2.1 98 ∧ Ag τ2
theorem HX.ky {σ τ : Mem} {g : Nat → Nat → Int32} (h : HX σ g) (k : KY σ τ) : HX τ g := by
  unfold HX HX0 HC at *
  rw [k.2.2.1, k.1 1 (by decide) (by decide), k.1 4 (by decide) (by decide), k.1 6 (by decide) (by decide), k.1 7 (by decide) (by decide), k.1 3 (by decide) (by decide), k.1 2 (by decide) (by decide), k.1 11 (by decide) (by decide)]
  exact h
theorem HX.km {σ τ : Mem} {g : Nat → Nat → Int32} (h : HX σ g) (k : KM σ τ) : HX τ g := by
  have i : ∀ t, t < 98 → τ.2.2.1 t = σ.2.2.1 t := k.2.2.2.1
  unfold HX HX0 HC at *
  rw [k.1 1 (by decide), k.1 4 (by decide), k.1 6 (by decide), k.1 7 (by decide), k.1 3 (by decide), k.1 2 (by decide), k.1 11 (by decide), i 28 (by decide), i 22 (by decide), i 23 (by decide), i 24 (by decide), i 26 (by decide), i 27 (by decide), i 55 (by decide), i 57 (by decide), i 58 (by decide), i 59 (by decide), i 61 (by decide), i 65 (by decide), i 66 (by decide), i 67 (by decide), i 20 (by decide), i 21 (by decide), i 62 (by decide), i 29 (by decide), i 31 (by decide), i 34 (by decide), i 35 (by decide), i 33 (by decide), i 37 (by decide), i 70 (by decide), i 71 (by decide), i 69 (by decide), i 41 (by decide), i 39 (by decide), i 42 (by decide), i 44 (by decide), i 46 (by decide)]
  exact h
theorem Ac.mk {α : Type} {F1 F2 : Mem → Option (α × Mem)} {σ τ1 τ2 : Mem} {r : α} (h : Ag σ) (e1 : F1 σ = some (r, τ1)) (k1 : KY σ τ1) (e2 : F2 τ1 = some (r, τ2)) (k2 : KM τ1 τ2) : Ac F1 F2 σ := by
  refine ⟨r, τ1, τ2, e1, e2, k1.2.2.2.2, k2.2.2.2.2.2.2.trans k1.2.2.2.2, (k2.2.2.2.2.2.1 98 (by decide)).trans (k1.2.2.2.1 98 (by decide)), ?_⟩
  have e : gM τ2 = gM σ := k2.g.trans k1.g
  unfold Ag
  rw [e]
  exact ⟨(h.1.ky k1).km k2, h.2⟩
theorem Ac.st {α : Type} {F1 F2 : Mem → Option (α × Mem)} {σ : Mem} {r : α} (h : Ag σ) (e1 : F1 σ = some (r, σ)) (e2 : F2 σ = some (r, σ)) : Ac F1 F2 σ := Ac.mk h e1 (KY.rfl_ σ) e2 (KM.rfl_ σ)
theorem k10 {α : Type} {a b : α} : (if (1 : Int32) = 0 then a else b) = b := if_neg (by decide)
theorem k00 {α : Type} {a b : α} : (if (0 : Int32) = 0 then a else b) = a := if_pos rfl
theorem k01 {α : Type} {x : Int32} {σ : Mem} (h : x = 0 ∨ x = 1) : (if x = 0 ∨ x = 1 then some (x, σ) else none) = some (x, σ) := if_pos h
def sPl (g : Nat → Nat → Int32) : Nat := (g 12 10).toNatClampNeg
def sRu (g : Nat → Nat → Int32) : Nat := (g 12 16).toNatClampNeg
theorem sPl_eq {g : Nat → Nat → Int32} (hw : Wf g) : g 12 10 = nI (sPl g) ∧ sPl g ≤ 4 := hw.pl
theorem sRu_eq {g : Nat → Nat → Int32} (hw : Wf g) : g 12 16 = nI (sRu g) ∧ sRu g ≤ 8 := hw.ru
theorem sL_pos {g : Nat → Nat → Int32} (hw : Wf g) {p : Nat} (hp : p < sPl g) : 0 < sL g := hw.lp (by show 0 < sPl g; omega)
theorem rg_c (a : Int32) {c : Nat} (hc : c < 2 ^ 31) : (∃ k, k < c ∧ a = nI k) ∨ (a < 0 ∨ nI c - 1 < a) := by
  by_cases h : a < 0
  · exact Or.inr (Or.inl h)
  · obtain ⟨k, hk, rfl⟩ := nI_of h
    by_cases h2 : k < c
    · exact Or.inl ⟨k, h2, rfl⟩
    · right; right
      cases c with
      | zero => rw [show nI 0 - 1 = -1 from by decide]; exact Int32.lt_iff_toInt_lt.mpr (by rw [nI_toInt hk, show (-1 : Int32).toInt = -1 from by decide]; omega)
      | succ c => rw [nI_pred]; exact nI_lt (by omega) hk
theorem rg_y {k c : Nat} (h : k < c) (hc : c < 2 ^ 31) : ¬ nI k < 0 ∧ ¬ nI c - 1 < nI k := by
  cases c with
  | zero => cases h
  | succ c => rw [nI_pred]; exact ⟨nI_pos (by omega), nI_nlt (by omega) (by omega)⟩
/-- from lo up to m -/
theorem rg_m (a : Int32) (lo m : Nat) (hl : lo < 2 ^ 31) (hm : m < 2 ^ 31) : (∃ k, lo ≤ k ∧ k ≤ m ∧ a = nI k) ∨ (a < nI lo ∨ nI m < a) := by
  by_cases h : a < nI lo
  · exact Or.inr (Or.inl h)
  · by_cases h2 : nI m < a
    · exact Or.inr (Or.inr h2)
    · left
      have a1 : ¬ a.toInt < (nI lo).toInt := fun q => h (Int32.lt_iff_toInt_lt.mpr q)
      have a2 : ¬ (nI m).toInt < a.toInt := fun q => h2 (Int32.lt_iff_toInt_lt.mpr q)
      rw [nI_toInt hl] at a1
      rw [nI_toInt hm] at a2
      obtain ⟨k, hk, rfl⟩ := nI_of (x := a) (fun q => by
        have := Int32.lt_iff_toInt_lt.mp q
        rw [show (0 : Int32).toInt = 0 from by decide] at this
        omega)
      rw [nI_toInt hk] at a1 a2
      exact ⟨k, by omega, by omega, rfl⟩
theorem x_in_y {N : Nat} {a lo hi : Int32} {σ : Mem} (h1 : ¬ a < lo) (h2 : ¬ hi < a) : F_X11_within N a lo hi σ = some (1, σ) := by
  unfold F_X11_within; rw [if_neg h1, if_neg h2]
theorem x_in_n {N : Nat} {a lo hi : Int32} {σ : Mem} (h : a < lo ∨ hi < a) : F_X11_within N a lo hi σ = some (0, σ) := by
  unfold F_X11_within
  by_cases h1 : a < lo
  · rw [if_pos h1]
  · rw [if_neg h1, if_pos (h.resolve_left h1)]
theorem m_in_y {N : Nat} {a lo hi : Int32} {σ : Mem} (h1 : ¬ a < lo) (h2 : ¬ hi < a) : F_X12_in N a lo hi σ = some (1, σ) := by
  unfold F_X12_in; rw [if_neg h1, if_neg h2]
theorem m_in_n {N : Nat} {a lo hi : Int32} {σ : Mem} (h : a < lo ∨ hi < a) : F_X12_in N a lo hi σ = some (0, σ) := by
  unfold F_X12_in
  by_cases h1 : a < lo
  · rw [if_pos h1]
  · rw [if_neg h1, if_pos (h.resolve_left h1)]
theorem x_plY {N : Nat} {g : Nat → Nat → Int32} (hw : Wf g) {σ : Mem} (h : HX σ g) {p : Nat} (hp : p < sPl g) : F_X11_isPlace N (nI p) σ = some (1, σ) := by
  obtain ⟨e, h4⟩ := sPl_eq hw
  obtain ⟨a, b⟩ := rg_y hp (by omega)
  unfold F_X11_isPlace
  rw [h.1.pl, e, x_in_y a b]
  rfl
theorem x_plN {N : Nat} {g : Nat → Nat → Int32} (hw : Wf g) {σ : Mem} (h : HX σ g) {a : Int32} (q : a < 0 ∨ nI (sPl g) - 1 < a) : F_X11_isPlace N a σ = some (0, σ) := by
  unfold F_X11_isPlace
  rw [h.1.pl, (sPl_eq hw).1, x_in_n q]
  rfl
theorem m_plY {N : Nat} {g : Nat → Nat → Int32} (hw : Wf g) {σ : Mem} (hg : gM σ = g) {p : Nat} (hp : p < sPl g) : F_X12_isPlace N (nI p) σ = some (1, σ) := by
  obtain ⟨e, h4⟩ := sPl_eq hw
  obtain ⟨a, b⟩ := rg_y hp (by omega)
  unfold F_X12_isPlace
  rw [rF hg (by decide), e, m_in_y a b]
  rfl
theorem m_plN {N : Nat} {g : Nat → Nat → Int32} (hw : Wf g) {σ : Mem} (hg : gM σ = g) {a : Int32} (q : a < 0 ∨ nI (sPl g) - 1 < a) : F_X12_isPlace N a σ = some (0, σ) := by
  unfold F_X12_isPlace
  rw [rF hg (by decide), (sPl_eq hw).1, m_in_n q]
  rfl
theorem x_lyY {N : Nat} {g : Nat → Nat → Int32} (hw : Wf g) {σ : Mem} (h : HX σ g) {p : Nat} (hp : p < sL g) : F_X11_isLayer N (nI p) σ = some (1, σ) := by
  have hL := sL_le hw
  obtain ⟨a, b⟩ := rg_y hp (by omega)
  unfold F_X11_isLayer
  rw [h.L hw, x_in_y a b]
  rfl
theorem x_lyN {N : Nat} {g : Nat → Nat → Int32} (hw : Wf g) {σ : Mem} (h : HX σ g) {a : Int32} (q : a < 0 ∨ nI (sL g) - 1 < a) : F_X11_isLayer N a σ = some (0, σ) := by
  unfold F_X11_isLayer
  rw [h.L hw, x_in_n q]
  rfl
theorem m_lyY {N : Nat} {g : Nat → Nat → Int32} (hw : Wf g) {σ : Mem} (hg : gM σ = g) {p : Nat} (hp : p < sL g) : F_X12_isLayer N (nI p) σ = some (1, σ) := by
  have hL := sL_le hw
  obtain ⟨a, b⟩ := rg_y hp (by omega)
  unfold F_X12_isLayer
  rw [rL hw hg, m_in_y a b]
  rfl
theorem m_lyN {N : Nat} {g : Nat → Nat → Int32} (hw : Wf g) {σ : Mem} (hg : gM σ = g) {a : Int32} (q : a < 0 ∨ nI (sL g) - 1 < a) : F_X12_isLayer N a σ = some (0, σ) := by
  unfold F_X12_isLayer
  rw [rL hw hg, m_in_n q]
  rfl
theorem x_ruY {N : Nat} {g : Nat → Nat → Int32} (hw : Wf g) {σ : Mem} (h : HX σ g) {p : Nat} (hp : p < sRu g) : F_X11_isRule N (nI p) σ = some (1, σ) := by
  obtain ⟨e, h4⟩ := sRu_eq hw
  obtain ⟨a, b⟩ := rg_y hp (by omega)
  unfold F_X11_isRule
  rw [h.1.ru, e, x_in_y a b]
  rfl
theorem x_ruN {N : Nat} {g : Nat → Nat → Int32} (hw : Wf g) {σ : Mem} (h : HX σ g) {a : Int32} (q : a < 0 ∨ nI (sRu g) - 1 < a) : F_X11_isRule N a σ = some (0, σ) := by
  unfold F_X11_isRule
  rw [h.1.ru, (sRu_eq hw).1, x_in_n q]
  rfl
theorem m_ruY {N : Nat} {g : Nat → Nat → Int32} (hw : Wf g) {σ : Mem} (hg : gM σ = g) {p : Nat} (hp : p < sRu g) : F_X12_isRule N (nI p) σ = some (1, σ) := by
  obtain ⟨e, h4⟩ := sRu_eq hw
  obtain ⟨a, b⟩ := rg_y hp (by omega)
  unfold F_X12_isRule
  rw [rF hg (by decide), e, m_in_y a b]
  rfl
theorem m_ruN {N : Nat} {g : Nat → Nat → Int32} (hw : Wf g) {σ : Mem} (hg : gM σ = g) {a : Int32} (q : a < 0 ∨ nI (sRu g) - 1 < a) : F_X12_isRule N a σ = some (0, σ) := by
  unfold F_X12_isRule
  rw [rF hg (by decide), (sRu_eq hw).1, m_in_n q]
  rfl
theorem x_shY {N : Nat} {σ : Mem} {s : Nat} (hs : s < 4) : F_X11_isSheet N (nI s) σ = some (1, σ) := by
  obtain ⟨a, b⟩ := rg_y hs (by decide)
  unfold F_X11_isSheet
  rw [x_in_y a (show ¬ (3 : Int32) < nI s from b)]
  rfl
theorem x_shN {N : Nat} {σ : Mem} {a : Int32} (q : a < 0 ∨ nI 4 - 1 < a) : F_X11_isSheet N a σ = some (0, σ) := by
  unfold F_X11_isSheet
  rw [x_in_n (show a < 0 ∨ (3 : Int32) < a from q)]
  rfl
theorem m_shY {N : Nat} {σ : Mem} {s : Nat} (hs : s < 4) : F_X12_in N (nI s) 0 3 σ = some (1, σ) := by
  obtain ⟨a, b⟩ := rg_y hs (by decide)
  exact m_in_y a (show ¬ (3 : Int32) < nI s from b)
theorem m_shN {N : Nat} {σ : Mem} {a : Int32} (q : a < 0 ∨ nI 4 - 1 < a) : F_X12_in N a 0 3 σ = some (0, σ) := m_in_n (show a < 0 ∨ (3 : Int32) < a from q)
theorem c_think (N : Nat) (hN : 160 ≤ N) (a b : Int32) (σ : Mem) (h : Ag σ) : Ac (F_X11_think N a b) (F_X12_think N a b) σ := by
  obtain ⟨hx, hw⟩ := h
  have hL := sL_le hw
  have hP := (sPl_eq hw).2
  rcases rg_c a (c := sPl (gM σ)) (by omega) with ⟨p, hp, rfl⟩ | hq
  · rcases rg_c b (c := sL (gM σ)) (by omega) with ⟨j, hj, rfl⟩ | hq
    · obtain ⟨τ1, e1, k1, r1⟩ := x_nextYard N (by omega) hw p (by omega) σ hx
      have g1 : gM τ1 = gM σ := k1.g
      obtain ⟨τ2, e2, k2, r2⟩ := m_thinks N hN hw p (by omega) (by omega) τ1 g1
      have hd := (sDug_eq hw (show p < 4 by omega)).2
      cases hc : sCan (gM σ) p (sDug (gM σ) p) with
      | true =>
        refine Ac.mk (r := sTh (gM σ) p (sDug (gM σ) p) j) (τ1 := τ1) (τ2 := τ2) ⟨hx, hw⟩ ?_ k1.y ?_ k2.m
        · unfold F_X11_think
          simp only [x_plY hw hx hp, x_lyY hw hx hj, e1, Option.bind_some, k10, hc, if_true]
          rw [if_neg (nI_ne0 (by omega) (by omega)), if_neg (out_nI (by omega) (by decide)), if_neg (out_nI (by omega) (by decide)), nI_clamp (by omega), nI_clamp (by omega), r1 hc j hj]
        · unfold F_X12_think
          simp only [m_plY hw g1 hp, m_lyY hw g1 hj, e2, Option.bind_some, k10, hc, if_true]
          rw [if_neg (out_nI (by omega) (by decide)), nI_clamp (by omega)]
          have := r2 hc j hj
          rw [Nat.mul_zero, Nat.zero_add] at this
          rw [this]
      | false =>
        refine Ac.mk (r := Int64.ofInt (-3)) (τ1 := τ1) (τ2 := τ2) ⟨hx, hw⟩ ?_ k1.y ?_ k2.m
        · unfold F_X11_think
          simp only [x_plY hw hx hp, x_lyY hw hx hj, e1, Option.bind_some, k10, k00, hc, Bool.false_eq_true, if_false, if_true]
        · unfold F_X12_think
          simp only [m_plY hw g1 hp, m_lyY hw g1 hj, e2, Option.bind_some, k10, k00, hc, Bool.false_eq_true, if_false, if_true]
    · refine Ac.st (r := Int64.ofInt (-4611686018427387904)) ⟨hx, hw⟩ ?_ ?_
      · unfold F_X11_think
        simp only [x_plY hw hx hp, x_lyN hw hx hq, Option.bind_some, k10, k00, if_true]
      · unfold F_X12_think
        simp only [m_plY hw rfl hp, m_lyN hw rfl hq, Option.bind_some, k10, k00, if_true]
  · refine Ac.st (r := Int64.ofInt (-4611686018427387904)) ⟨hx, hw⟩ ?_ ?_
    · unfold F_X11_think
      simp only [x_plN hw hx hq, Option.bind_some, k00, if_true]
    · unfold F_X12_think
      simp only [m_plN hw rfl hq, Option.bind_some, k00, if_true]
theorem c_likely (N : Nat) (hN : 160 ≤ N) (a : Int32) (σ : Mem) (h : Ag σ) : Ac (F_X11_likely N a) (F_X12_likely N a) σ := by
  obtain ⟨hx, hw⟩ := h
  have hL := sL_le hw
  have hP := (sPl_eq hw).2
  have hD := sD_eq hw
  rcases rg_c a (c := sPl (gM σ)) (by omega) with ⟨p, hp, rfl⟩ | hq
  · obtain ⟨τ1, e1, k1, r1⟩ := x_nextYard N (by omega) hw p (by omega) σ hx
    have g1 : gM τ1 = gM σ := k1.g
    obtain ⟨τ2, e2, k2, r2⟩ := m_thinks N hN hw p (by omega) (sL_pos hw hp) τ1 g1
    obtain ⟨ed, hd⟩ := sDug_eq hw (show p < 4 by omega)
    have g2 : gM τ2 = gM σ := k2.g.trans g1
    cases hc : sCan (gM σ) p (sDug (gM σ) p) with
    | true =>
      by_cases hy : sDug (gM σ) p + 1 ≤ sD (gM σ)
      · obtain ⟨τ3, e3, k3⟩ := m_wetOf N hN hw 0 (sDug (gM σ) p + 1) (by omega) _ τ2 g2 (r2 hc)
        refine Ac.mk (r := hzS (sWet (gM σ) (sDug (gM σ) p + 1) (sTh (gM σ) p (sDug (gM σ) p))) (sL (gM σ))) (τ1 := τ1) (τ2 := τ3) ⟨hx, hw⟩ ?_ k1.y ?_ (k2.m.trans k3.q.m)
        · unfold F_X11_likely
          simp only [x_plY hw hx hp, e1, Option.bind_some, k10, hc, if_true]
          rw [if_neg (nI_ne0 (by omega) (by omega)), x_deepest N hw τ1 (hx.kx k1)]
          simp only [Option.bind_some]
          rw [if_pos (nI_le hy (by omega)), x_wet N (by omega) hw _ (by omega) (by omega) _ τ1 (hx.kx k1) (r1 hc)]
          rfl
        · unfold F_X12_likely
          simp only [m_plY hw g1 hp, e2, Option.bind_some, k10, hc, if_true]
          rw [if_neg (out_nI (show p < 4 by omega) (by decide)), if_neg (out_nI (show p < 4 by omega) (by decide)), nI_clamp (by omega), rA g2 (by decide) (by decide), rF g2 (by decide), ed, hD.1, if_pos (nI_lt (by omega) (by omega)), nI_1, show (0 : Int32) = nI 0 from rfl, e3]
          rfl
      · refine Ac.mk (r := 0) (τ1 := τ1) (τ2 := τ2) ⟨hx, hw⟩ ?_ k1.y ?_ k2.m
        · unfold F_X11_likely
          simp only [x_plY hw hx hp, e1, Option.bind_some, k10, hc, if_true]
          rw [if_neg (nI_ne0 (by omega) (by omega)), x_deepest N hw τ1 (hx.kx k1)]
          simp only [Option.bind_some]
          rw [if_neg (nI_ge (by omega) (by omega))]
        · unfold F_X12_likely
          simp only [m_plY hw g1 hp, e2, Option.bind_some, k10, hc, if_true]
          rw [if_neg (out_nI (show p < 4 by omega) (by decide))]
          simp only [nI_clamp (show p < 2 ^ 31 by omega)]
          rw [rA g2 (by decide) (by decide), rF g2 (by decide), ed, hD.1, if_neg (nI_nlt (by omega) (by omega))]
    | false =>
      refine Ac.mk (r := Int64.ofInt (-3)) (τ1 := τ1) (τ2 := τ2) ⟨hx, hw⟩ ?_ k1.y ?_ k2.m
      · unfold F_X11_likely
        simp only [x_plY hw hx hp, e1, Option.bind_some, k10, k00, hc, Bool.false_eq_true, if_false, if_true]
      · unfold F_X12_likely
        simp only [m_plY hw g1 hp, e2, Option.bind_some, k10, k00, hc, Bool.false_eq_true, if_false, if_true]
  · refine Ac.st (r := Int64.ofInt (-4611686018427387904)) ⟨hx, hw⟩ ?_ ?_
    · unfold F_X11_likely
      simp only [x_plN hw hx hq, Option.bind_some, k00, if_true]
    · unfold F_X12_likely
      simp only [m_plN hw rfl hq, Option.bind_some, k00, if_true]
theorem c_best (N : Nat) (hN : 160 ≤ N) (a : Int32) (σ : Mem) (h : Ag σ) : Ac (F_X11_best N a) (F_X12_best N a) σ := by
  obtain ⟨hx, hw⟩ := h
  have hL := sL_le hw
  have hP := (sPl_eq hw).2
  rcases rg_c a (c := sPl (gM σ)) (by omega) with ⟨p, hp, rfl⟩ | hq
  · obtain ⟨τ1, e1, k1, r1⟩ := x_openYard N (by omega) hw p (by omega) σ hx
    obtain ⟨ed, hd⟩ := sDug_eq hw (show p < 4 by omega)
    cases hc : sOpen (gM σ) p with
    | true =>
      obtain ⟨τ2, e2, k2⟩ := x_worthOf N (by omega) hw (sDug (gM σ) p + 1) (by omega) (by omega) _ τ1 (hx.kx k1) (r1 hc)
      have g2 : gM τ2 = gM σ := k2.x.g.trans k1.g
      obtain ⟨τ3, e3, k3, r3⟩ := m_goesHere N hN hw p (by omega) (sL_pos hw hp) τ2 g2
      have g3 : gM τ3 = gM σ := k3.g.trans g2
      obtain ⟨τ4, e4, k4⟩ := m_valueOf N hN hw (sDug (gM σ) p + 1) 0 (by omega) (by omega) (by omega) _ τ3 g3 (r3 hc)
      refine Ac.mk (r := sMx (sGoes (gM σ) ((gM σ) 12 1) (sD (gM σ) + 1 - (sDug (gM σ) p + 1)) (sDug (gM σ) p + 1) (sTh (gM σ) p (sDug (gM σ) p)))) (τ1 := τ2) (τ2 := τ4) ⟨hx, hw⟩ ?_ (k1.trans k2.x).y ?_ (k3.trans k4.q).m
      · unfold F_X11_best
        simp only [x_plY hw hx hp, e1, Option.bind_some, k10, hc, if_true]
        rw [if_neg (nI_ne0 (by omega) (by omega)), e2]
        rfl
      · unfold F_X12_best
        simp only [m_plY hw g2 hp, e3, Option.bind_some, k10, hc, if_true]
        rw [if_neg (out_nI (show p < 4 by omega) (by decide)), nI_clamp (by omega), rA g3 (by decide) (by decide), ed, nI_1, show (0 : Int32) = nI 0 from rfl, e4]
        rfl
    | false =>
      have g1 : gM τ1 = gM σ := k1.g
      obtain ⟨τ2, e2, k2, r2⟩ := m_goesHere N hN hw p (by omega) (sL_pos hw hp) τ1 g1
      refine Ac.mk (r := Int64.ofInt (-3)) (τ1 := τ1) (τ2 := τ2) ⟨hx, hw⟩ ?_ k1.y ?_ k2.m
      · unfold F_X11_best
        simp only [x_plY hw hx hp, e1, Option.bind_some, k10, k00, hc, Bool.false_eq_true, if_false, if_true]
      · unfold F_X12_best
        simp only [m_plY hw g1 hp, e2, Option.bind_some, k10, k00, hc, Bool.false_eq_true, if_false, if_true]
  · refine Ac.st (r := Int64.ofInt (-4611686018427387904)) ⟨hx, hw⟩ ?_ ?_
    · unfold F_X11_best
      simp only [x_plN hw hx hq, Option.bind_some, k00, if_true]
    · unfold F_X12_best
      simp only [m_plN hw rfl hq, Option.bind_some, k00, if_true]
theorem c_back (N : Nat) (hN : 160 ≤ N) (a : Int32) (σ : Mem) (h : Ag σ) : Ac (F_X11_back N a) (F_X12_back N a) σ := by
  obtain ⟨hx, hw⟩ := h
  have hL := sL_le hw
  have hP := (sPl_eq hw).2
  rcases rg_c a (c := sPl (gM σ)) (by omega) with ⟨p, hp, rfl⟩ | hq
  · obtain ⟨τ1, e1, k1, r1⟩ := x_openYard N (by omega) hw p (by omega) σ hx
    obtain ⟨ed, hd⟩ := sDug_eq hw (show p < 4 by omega)
    cases hc : sOpen (gM σ) p with
    | true =>
      obtain ⟨τ2, e2, k2⟩ := x_goingOn N (by omega) hw ((gM σ) 12 1) (sDug (gM σ) p + 1) (by omega) (by omega) _ τ1 (hx.kx k1) (r1 hc)
      have g2 : gM τ2 = gM σ := k2.x.g.trans k1.g
      obtain ⟨τ3, e3, k3, r3⟩ := m_goesHere N hN hw p (by omega) (sL_pos hw hp) τ2 g2
      have g3 : gM τ3 = gM σ := k3.g.trans g2
      obtain ⟨τ4, e4, k4⟩ := m_goesOn N hN hw (sDug (gM σ) p + 1) 0 (by omega) (by omega) (by omega) _ τ3 g3 (r3 hc)
      refine Ac.mk (r := if lg_cmp (sGoes (gM σ) ((gM σ) 12 1) (sD (gM σ) + 1 - (sDug (gM σ) p + 1)) (sDug (gM σ) p + 1) (sTh (gM σ) p (sDug (gM σ) p))) 0 ≤ 0 then 0 else 1) (τ1 := τ2) (τ2 := τ4) ⟨hx, hw⟩ ?_ (k1.trans k2.x).y ?_ (k3.trans k4.q).m
      · unfold F_X11_back
        simp only [x_plY hw hx hp, e1, Option.bind_some, k10, hc, if_true]
        rw [if_neg (nI_ne0 (by omega) (by omega)), x_worth N τ1 (hx.kx k1)]
        simp only [Option.bind_some]
        rw [e2]
        simp only [Option.bind_some]
        split <;> rfl
      · unfold F_X12_back
        simp only [m_plY hw g2 hp, e3, Option.bind_some, k10, hc, if_true]
        rw [if_neg (out_nI (show p < 4 by omega) (by decide)), nI_clamp (by omega), rA g3 (by decide) (by decide), ed, nI_1, show F_X12_goesOn N (nI (sDug (gM σ) p + 1)) (0 : Int32) τ3 = _ from e4]
        simp only [Option.bind_some]
        split <;> rfl
    | false =>
      have g1 : gM τ1 = gM σ := k1.g
      obtain ⟨τ2, e2, k2, r2⟩ := m_goesHere N hN hw p (by omega) (sL_pos hw hp) τ1 g1
      refine Ac.mk (r := Int32.ofInt (-3)) (τ1 := τ1) (τ2 := τ2) ⟨hx, hw⟩ ?_ k1.y ?_ k2.m
      · unfold F_X11_back
        simp only [x_plY hw hx hp, e1, Option.bind_some, k10, k00, hc, Bool.false_eq_true, if_false, if_true]
      · unfold F_X12_back
        simp only [m_plY hw g1 hp, e2, Option.bind_some, k10, k00, hc, Bool.false_eq_true, if_false, if_true]
  · refine Ac.st (r := Int32.ofInt (-1)) ⟨hx, hw⟩ ?_ ?_
    · unfold F_X11_back
      simp only [x_plN hw hx hq, Option.bind_some, k00, if_true]
    · unfold F_X12_back
      simp only [m_plN hw rfl hq, Option.bind_some, k00, if_true]

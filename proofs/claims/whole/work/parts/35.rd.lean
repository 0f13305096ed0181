/-! THE PURE SIDE, 16: whether one digs on by a rule -/
/-- a sign in a rule's stops: the bit is 0 or 1 -/
theorem bit_fin : ∀ v, v < 8 → ∀ s, s < 3 → ((nI v >>> (nI s &&& 31)) &&& (1 : Int32) = 0 ∨ (nI v >>> (nI s &&& 31)) &&& (1 : Int32) = 1) := by
  intro v hv s hs
  match v, hv, s, hs with
  | 0, _, 0, _ => exact Or.inl (by decide)
  | 0, _, 1, _ => exact Or.inl (by decide)
  | 0, _, 2, _ => exact Or.inl (by decide)
  | 1, _, 0, _ => exact Or.inr (by decide)
  | 1, _, 1, _ => exact Or.inl (by decide)
  | 1, _, 2, _ => exact Or.inl (by decide)
  | 2, _, 0, _ => exact Or.inl (by decide)
  | 2, _, 1, _ => exact Or.inr (by decide)
  | 2, _, 2, _ => exact Or.inl (by decide)
  | 3, _, 0, _ => exact Or.inr (by decide)
  | 3, _, 1, _ => exact Or.inr (by decide)
  | 3, _, 2, _ => exact Or.inl (by decide)
  | 4, _, 0, _ => exact Or.inl (by decide)
  | 4, _, 1, _ => exact Or.inl (by decide)
  | 4, _, 2, _ => exact Or.inr (by decide)
  | 5, _, 0, _ => exact Or.inr (by decide)
  | 5, _, 1, _ => exact Or.inl (by decide)
  | 5, _, 2, _ => exact Or.inr (by decide)
  | 6, _, 0, _ => exact Or.inl (by decide)
  | 6, _, 1, _ => exact Or.inr (by decide)
  | 6, _, 2, _ => exact Or.inr (by decide)
  | 7, _, 0, _ => exact Or.inr (by decide)
  | 7, _, 1, _ => exact Or.inr (by decide)
  | 7, _, 2, _ => exact Or.inr (by decide)
/-- the last sign: none, or one of three -/
def Sg (s : Int32) : Prop := s = -1 ∨ ∃ k, k < 3 ∧ s = nI k
def sStop (g : Nat → Nat → Int32) (r : Nat) (s : Int32) : Bool := !decide (s = -1) && decide ((g 83 r >>> (s &&& 31)) &&& (1 : Int32) = 1)
def sDoes (g : Nat → Nat → Int32) (r k : Nat) (s : Int32) (th : Nat → Int64) : Bool :=
  decide (k < sD g) && (if g 81 r = 1 then decide (k < (g 82 r).toNatClampNeg)
    else if g 81 r = 2 then decide (k < (g 82 r).toNatClampNeg) && !sStop g r s
    else if g 81 r = 3 then decide (0 < sGoes g (g 12 1) (sD g + 1 - (k + 1)) (k + 1) th)
    else if g 81 r = 4 then decide (k < (g 82 r).toNatClampNeg) && !decide (lg_cmp (hzS (sWet g (k + 1) th) (sL g)) (nI (100000 * (g 83 r).toNatClampNeg)).toInt64 < 0)
    else if g 81 r = 5 then decide (k = 1) || (decide (k < (g 82 r).toNatClampNeg) && !sStop g r s) else false)
def bI (b : Bool) : Int32 := if b = true then 1 else 0
theorem x_rule56 (N : Nat) (hN : 6 < N) {g : Nat → Nat → Int32} (hw : Wf g) (r : Nat) (hr : r < 8) (k : Nat) (hk : k < sD g) (s : Int32) (th : Nat → Int64) (σ : Mem) (h : HX σ g) (h1 : ∀ j, j < sL g → σ.2.2.2.1 50 (k + 1) j = th j) :
    ∃ τ, F_X9_goesOn_b56 N (nI r) (nI k) (bI (decide (k < (g 82 r).toNatClampNeg))) (bI (sStop g r s)) σ = some (bI (sDoes g r k s th), τ) ∧ KP (k + 1) σ τ := by
  have hD := (sD_eq hw).2
  have hL := sL_le hw
  obtain ⟨es, hs7⟩ := hw.sp r hr
  have e0 : decide (k < sD g) = true := decide_eq_true hk
  unfold F_X9_goesOn_b56 sDoes
  rw [if_neg (out_nI hr (by decide))]
  simp only [nI_clamp (show r < 2 ^ 31 by omega)]
  rw [h.1.ki r hr, e0, Bool.true_and]
  generalize hgo : decide (k < (g 82 r).toNatClampNeg) = go
  generalize hst : sStop g r s = st
  by_cases c1 : g 81 r = 1
  · rw [if_pos c1, if_pos c1]
    refine ⟨σ, ?_, KP.rfl_ _ σ⟩
    cases go <;> rfl
  rw [if_neg c1, if_neg c1]
  by_cases c2 : g 81 r = 2
  · rw [if_pos c2, if_pos c2]
    refine ⟨σ, ?_, KP.rfl_ _ σ⟩
    cases go <;> cases st <;> rfl
  rw [if_neg c2, if_neg c2]
  by_cases c3 : g 81 r = 3
  · rw [if_pos c3, if_pos c3, x_worth N σ h]
    obtain ⟨τ, e2, k2⟩ := x_goingOn N hN hw (g 12 1) (k + 1) (by omega) (by omega) th σ h h1
    refine ⟨τ, ?_, k2⟩
    rw [Option.bind_some, nI_1, e2, Option.bind_some]
    by_cases hp : 0 < sGoes g (g 12 1) (sD g + 1 - (k + 1)) (k + 1) th
    · rw [if_neg (fun q => lg_npos.mp q hp), decide_eq_true hp]; rfl
    · rw [if_pos (lg_npos.mpr hp), decide_eq_false hp]; rfl
  rw [if_neg c3, if_neg c3]
  by_cases c4 : g 81 r = 4
  · rw [if_pos c4, if_pos c4]
    refine ⟨σ, ?_, KP.rfl_ _ σ⟩
    cases go with
    | false => rfl
    | true =>
      rw [show bI true = 1 from rfl, k10, nI_1, x_wet N hN hw (k + 1) (by omega) (by omega) th σ h h1, Option.bind_some, if_neg (out_nI hr (by decide))]
      show (if lg_cmp (hzS (sWet g (k + 1) th) (sL g)) (100000 * σ.2.2.1 67 0 r).toInt64 < 0 then some ((0 : Int32), σ) else some (1, σ)) = _
      rw [h.1.sp r hr, Bool.true_and]
      have e3 : (100000 : Int32) * g 83 r = nI (100000 * (g 83 r).toNatClampNeg) := by
        generalize (g 83 r).toNatClampNeg = v at es
        rw [es, show (100000 : Int32) = nI 100000 from rfl, nI_mul]
      rw [e3]
      by_cases hp : lg_cmp (hzS (sWet g (k + 1) th) (sL g)) (nI (100000 * (g 83 r).toNatClampNeg)).toInt64 < 0
      · rw [if_pos hp, decide_eq_true hp]; rfl
      · rw [if_neg hp, decide_eq_false hp]; rfl
  rw [if_neg c4, if_neg c4]
  by_cases c5 : g 81 r = 5
  · rw [if_pos c5, if_pos c5]
    refine ⟨σ, ?_, KP.rfl_ _ σ⟩
    by_cases hk1 : k = 1
    · subst hk1
      rfl
    · rw [if_neg (neL 1 1 rfl ⟨hk1, by omega, by decide⟩), decide_eq_false hk1, Bool.false_or]
      cases go <;> cases st <;> rfl
  rw [if_neg c5, if_neg c5]
  exact ⟨σ, rfl, KP.rfl_ _ σ⟩
theorem x_does (N : Nat) (hN : 6 < N) {g : Nat → Nat → Int32} (hw : Wf g) (r : Nat) (hr : r < 8) (k : Nat) (hk5 : k ≤ 5) (s : Int32) (hs : Sg s) (th : Nat → Int64) (σ : Mem) (h : HX σ g) (h1 : ∀ j, j < sL g → σ.2.2.2.1 50 (k + 1) j = th j) :
    ∃ τ, F_X9_goesOn N (nI r) (nI k) s σ = some (bI (sDoes g r k s th), τ) ∧ KP (k + 1) σ τ := by
  have hD := (sD_eq hw).2
  obtain ⟨em, hm⟩ := hw.mo r hr
  obtain ⟨es, hs7⟩ := hw.sp r hr
  unfold F_X9_goesOn
  rw [x_deepest N hw σ h, Option.bind_some]
  by_cases hk : k < sD g
  · obtain ⟨τ, e2, k2⟩ := x_rule56 N hN hw r hr k hk s th σ h h1
    refine ⟨τ, ?_, k2⟩
    rw [if_pos (nI_lt hk (by omega)), if_neg (out_nI hr (by decide)), nI_clamp (by omega), h.1.mo r hr]
    have b31 : ∀ x : Int32, F_X9_goesOn_b31 N (nI r) (nI k) s x σ = F_X9_goesOn_b56 N (nI r) (nI k) x (bI (sStop g r s)) σ := by
      intro x
      unfold F_X9_goesOn_b31 sStop
      rcases hs with rfl | ⟨q, hq, rfl⟩
      · rw [if_pos (by decide)]
        rfl
      · rw [if_neg (nI_pos (by omega)), if_neg (out_nI hr (by decide)), nI_clamp (by omega), h.1.sp r hr, show decide (nI q = -1) = false from decide_eq_false (fun e => by
          have := congrArg Int32.toInt e
          rw [nI_toInt (by omega), show (-1 : Int32).toInt = -1 from by decide] at this
          omega)]
        by_cases z : (g 83 r >>> (nI q &&& 31)) &&& (1 : Int32) = 1
        · rw [if_pos z, decide_eq_true z]; rfl
        · rw [if_neg z, decide_eq_false z]; rfl
    by_cases hgo : k < (g 82 r).toNatClampNeg
    · rw [if_neg (by rw [em]; exact nI_ge hgo (by omega)), b31]
      rw [decide_eq_true hgo] at e2
      exact e2
    · rw [if_pos (by rw [em]; exact nI_le (by omega) (by omega)), b31]
      rw [decide_eq_false hgo] at e2
      exact e2
  · refine ⟨σ, ?_, KP.rfl_ _ σ⟩
    rw [if_neg (nI_nlt (by omega) (by omega))]
    unfold sDoes
    rw [decide_eq_false hk, Bool.false_and]
    rfl
theorem m_rule55 (N : Nat) (hN : 160 ≤ N) {g : Nat → Nat → Int32} (hw : Wf g) (r : Nat) (hr : r < 8) (k d : Nat) (hk : k < sD g) (hd : d ≤ k) (s : Int32) (th : Nat → Int64) (σ : Mem) (hg : gM σ = g) (h1 : ∀ j, j < sL g → σ.2.2.2.1 102 0 (5 * d + j) = th j) :
    ∃ τ, F_X12_doesDig_b55 N (nI r) (nI k) (nI d) (bI (decide (k < (g 82 r).toNatClampNeg))) (bI (decide (k < (g 82 r).toNatClampNeg) && !sStop g r s)) σ = some (bI (sDoes g r k s th), τ) ∧ KG d σ τ := by
  have hD := (sD_eq hw).2
  have hL := sL_le hw
  obtain ⟨es, hs7⟩ := hw.sp r hr
  have e0 : decide (k < sD g) = true := decide_eq_true hk
  unfold F_X12_doesDig_b55 sDoes
  rw [if_neg (out_nI hr (by decide))]
  simp only [nI_clamp (show r < 2 ^ 31 by omega)]
  rw [rA hg (by decide) (by decide), e0, Bool.true_and]
  generalize hgo : decide (k < (g 82 r).toNatClampNeg) = go
  generalize hst : sStop g r s = st
  by_cases c1 : g 81 r = 1
  · rw [if_pos c1, if_pos c1]
    refine ⟨σ, ?_, KG.rfl_ _ σ⟩
    cases go <;> rfl
  rw [if_neg c1, if_neg c1]
  by_cases c2 : g 81 r = 2
  · rw [if_pos c2, if_pos c2]
    refine ⟨σ, ?_, KG.rfl_ _ σ⟩
    cases go <;> cases st <;> rfl
  rw [if_neg c2, if_neg c2]
  by_cases c3 : g 81 r = 3
  · rw [if_pos c3, if_pos c3]
    obtain ⟨τ, e2, k2⟩ := m_goesOn N hN hw (k + 1) d (by omega) (by omega) (by omega) th σ hg h1
    refine ⟨τ, ?_, k2⟩
    rw [nI_1, e2, Option.bind_some]
    by_cases hp : 0 < sGoes g (g 12 1) (sD g + 1 - (k + 1)) (k + 1) th
    · rw [if_neg (fun q => lg_npos.mp q hp), decide_eq_true hp]; rfl
    · rw [if_pos (lg_npos.mpr hp), decide_eq_false hp]; rfl
  rw [if_neg c3, if_neg c3]
  by_cases c4 : g 81 r = 4
  · rw [if_pos c4, if_pos c4]
    cases go with
    | false => exact ⟨σ, rfl, KG.rfl_ _ σ⟩
    | true =>
      obtain ⟨τ, e2, k2⟩ := m_wetOf N hN hw d (k + 1) (by omega) th σ hg h1
      refine ⟨τ, ?_, k2.kg d⟩
      rw [show bI true = 1 from rfl, k10, nI_1, e2, Option.bind_some, if_neg (out_nI hr (by decide))]
      show (if lg_cmp (hzS (sWet g (k + 1) th) (sL g)) (100000 * (τ.2.2.1 83 0 r).toInt64) < 0 then some ((0 : Int32), τ) else some (1, τ)) = _
      rw [rA (k2.g.trans hg) (by decide) (by decide), Bool.true_and]
      have e3 : (100000 : Int64) * (g 83 r).toInt64 = (nI (100000 * (g 83 r).toNatClampNeg)).toInt64 := by
        generalize (g 83 r).toNatClampNeg = v at es hs7
        rw [es, nI_l (by omega), nI_l (by omega), show (100000 : Int64) = lN 100000 from rfl, lN_mul]
      rw [e3]
      by_cases hp : lg_cmp (hzS (sWet g (k + 1) th) (sL g)) (nI (100000 * (g 83 r).toNatClampNeg)).toInt64 < 0
      · rw [if_pos hp, decide_eq_true hp]; rfl
      · rw [if_neg hp, decide_eq_false hp]; rfl
  rw [if_neg c4, if_neg c4]
  by_cases c5 : g 81 r = 5
  · rw [if_pos c5, if_pos c5]
    refine ⟨σ, ?_, KG.rfl_ _ σ⟩
    by_cases hk1 : k = 1
    · subst hk1
      cases go <;> cases st <;> rfl
    · rw [if_neg (neL 1 1 rfl ⟨hk1, by omega, by decide⟩), decide_eq_false hk1, Bool.false_or]
      cases go <;> cases st <;> rfl
  rw [if_neg c5, if_neg c5]
  exact ⟨σ, rfl, KG.rfl_ _ σ⟩
theorem m_does (N : Nat) (hN : 160 ≤ N) {g : Nat → Nat → Int32} (hw : Wf g) (r : Nat) (hr : r < 8) (k d : Nat) (hk5 : k ≤ 5) (hd : d ≤ k) (s : Int32) (hs : Sg s) (th : Nat → Int64) (σ : Mem) (hg : gM σ = g) (h1 : ∀ j, j < sL g → σ.2.2.2.1 102 0 (5 * d + j) = th j) :
    ∃ τ, F_X12_doesDig N (nI r) (nI k) s (nI d) σ = some (bI (sDoes g r k s th), τ) ∧ KG d σ τ := by
  have hD := sD_eq hw
  obtain ⟨em, hm⟩ := hw.mo r hr
  obtain ⟨es, hs7⟩ := hw.sp r hr
  unfold F_X12_doesDig
  rw [rF hg (by decide), hD.1]
  by_cases hk : k < sD g
  · obtain ⟨τ, e2, k2⟩ := m_rule55 N hN hw r hr k d hk hd s th σ hg h1
    refine ⟨τ, ?_, k2⟩
    rw [if_pos (nI_lt hk (by omega)), if_neg (out_nI hr (by decide)), nI_clamp (by omega), rA hg (by decide) (by decide)]
    have b25 : ∀ x : Bool, F_X12_doesDig_b25 N (nI r) (nI k) s (nI d) (bI x) σ = F_X12_doesDig_b55 N (nI r) (nI k) (nI d) (bI x) (bI (x && !sStop g r s)) σ := by
      intro x
      cases x with
      | false => rfl
      | true =>
        unfold F_X12_doesDig_b25 sStop
        rw [show bI true = 1 from rfl, k10]
        rcases hs with rfl | ⟨q, hq, rfl⟩
        · rw [if_pos (by decide)]
          rfl
        · have hn : ¬ nI q = -1 := fun e => by
            have := congrArg Int32.toInt e
            rw [nI_toInt (by omega), show (-1 : Int32).toInt = -1 from by decide] at this
            omega
          rw [if_neg (show ¬ nI q = Int32.ofInt (-1) from hn), if_neg (out_nI hr (by decide)), nI_clamp (by omega), rA hg (by decide) (by decide), decide_eq_false hn]
          have hb := bit_fin (g 83 r).toNatClampNeg (by omega) q hq
          rw [← es] at hb
          rcases hb with z | z
          · rw [if_pos z, z]; rfl
          · rw [if_neg (by rw [z]; decide), z]; rfl
    by_cases hgo : k < (g 82 r).toNatClampNeg
    · rw [if_neg (by rw [em]; exact nI_ge hgo (by omega)), show (1 : Int32) = bI true from rfl, b25]
      rw [decide_eq_true hgo] at e2
      exact e2
    · rw [if_pos (by rw [em]; exact nI_le (by omega) (by omega)), show (0 : Int32) = bI false from rfl, b25]
      rw [decide_eq_false hgo] at e2
      exact e2
  · refine ⟨σ, ?_, KG.rfl_ _ σ⟩
    rw [if_neg (nI_nlt (by omega) (by omega))]
    unfold sDoes
    rw [decide_eq_false hk, Bool.false_and]
    rfl
theorem c_goesBy (N : Nat) (hN : 160 ≤ N) (a b : Int32) (σ : Mem) (h : Ag σ) : Ac (F_X11_goesBy N a b) (F_X12_goesBy N a b) σ := by
  obtain ⟨hx, hw⟩ := h
  have hL := sL_le hw
  have hP := (sPl_eq hw).2
  have hR := (sRu_eq hw).2
  rcases rg_c a (c := sRu (gM σ)) (by omega) with ⟨r, hr, rfl⟩ | hq
  rotate_left
  · refine Ac.st (r := Int32.ofInt (-5)) ⟨hx, hw⟩ ?_ ?_
    · unfold F_X11_goesBy; rw [x_ruN hw hx hq, Option.bind_some, k00]
    · unfold F_X12_goesBy; rw [m_ruN hw rfl hq, Option.bind_some, k00]
  rcases rg_c b (c := sPl (gM σ)) (by omega) with ⟨p, hp, rfl⟩ | hq
  rotate_left
  · refine Ac.st (r := Int32.ofInt (-5)) ⟨hx, hw⟩ ?_ ?_
    · unfold F_X11_goesBy; rw [x_ruY hw hx hr, Option.bind_some, k10, x_plN hw hx hq, Option.bind_some, k00]
    · unfold F_X12_goesBy; rw [m_ruY hw rfl hr, Option.bind_some, k10, m_plN hw rfl hq, Option.bind_some, k00]
  have hp4 : p < 4 := by omega
  obtain ⟨τ1, e1, k1, r1⟩ := x_openYard N (by omega) hw p hp4 σ hx
  obtain ⟨ed, hd⟩ := sDug_eq hw hp4
  cases hc : sOpen (gM σ) p with
  | false =>
    have g1 : gM τ1 = gM σ := k1.g
    obtain ⟨τ2, e2, k2, r2⟩ := m_goesHere N hN hw p hp4 (sL_pos hw hp) τ1 g1
    rw [hc] at e1 e2
    refine Ac.mk (r := Int32.ofInt (-3)) (τ1 := τ1) (τ2 := τ2) ⟨hx, hw⟩ ?_ k1.y ?_ k2.m
    · unfold F_X11_goesBy
      rw [x_ruY hw hx hr, Option.bind_some, k10, x_plY hw hx hp, Option.bind_some, k10, e1]
      rfl
    · unfold F_X12_goesBy
      rw [m_ruY hw g1 hr, Option.bind_some, k10, m_plY hw g1 hp, Option.bind_some, k10, e2]
      rfl
  | true =>
    have hx1 := hx.kx k1
    have lst : ∃ s, Sg s ∧ F_X7_signOf N (nI p) (nI (sDug (gM σ) p)) τ1 = some (s, τ1) ∧ (sDug (gM σ) p = 0 → s = -1) ∧ (0 < sDug (gM σ) p → s = sSig (gM σ) p (sDug (gM σ) p - 1)) := by
      by_cases hz : sDug (gM σ) p = 0
      · refine ⟨-1, Or.inl rfl, ?_, fun _ => rfl, fun q => by omega⟩
        rw [hz]; rfl
      · refine ⟨sSig (gM σ) p (sDug (gM σ) p - 1), ?_, ?_, fun q => absurd q hz, fun _ => rfl⟩
        · obtain ⟨v, hv, ev⟩ := (hw.sg (5 * p + (sDug (gM σ) p - 1)) (by omega)).ex
          exact Or.inr ⟨v, by omega, ev⟩
        · have := x_signOf N hw p hp4 (sDug (gM σ) p - 1) (by omega) τ1 hx1
          rw [show sDug (gM σ) p - 1 + 1 = sDug (gM σ) p by omega] at this
          exact this
    obtain ⟨s, hs, es, es0, es1⟩ := lst
    obtain ⟨τ2, e2, k2⟩ := x_does N (by omega) hw r (by omega) (sDug (gM σ) p) hd s hs _ τ1 hx1 (r1 hc)
    have g2 : gM τ2 = gM σ := k2.x.g.trans k1.g
    obtain ⟨τ3, e3, k3, r3⟩ := m_goesHere N hN hw p hp4 (sL_pos hw hp) τ2 g2
    have g3 : gM τ3 = gM σ := k3.g.trans g2
    obtain ⟨τ4, e4, k4⟩ := m_does N hN hw r (by omega) (sDug (gM σ) p) 0 hd (Nat.zero_le _) s hs _ τ3 g3 (r3 hc)
    rw [hc] at e1 e3
    refine Ac.mk (r := bI (sDoes (gM σ) r (sDug (gM σ) p) s (sTh (gM σ) p (sDug (gM σ) p)))) (τ1 := τ2) (τ2 := τ4) ⟨hx, hw⟩ ?_ (k1.trans k2.x).y ?_ (k3.trans k4.q).m
    · unfold F_X11_goesBy
      rw [x_ruY hw hx hr, Option.bind_some, k10, x_plY hw hx hp, Option.bind_some, k10, e1, Option.bind_some, if_pos rfl, if_neg (nI_ne0 (by omega) (by omega)), if_neg (out_nI hp4 (by decide)), nI_clamp (by omega), hx1.1.dy p hp4, ed, es, Option.bind_some, e2, Option.bind_some]
      cases sDoes (gM σ) r (sDug (gM σ) p) s (sTh (gM σ) p (sDug (gM σ) p)) <;> rfl
    · have b68 : F_X12_goesBy_b68 N s (nI (sDug (gM σ) p)) (nI r) τ3 = some (bI (sDoes (gM σ) r (sDug (gM σ) p) s (sTh (gM σ) p (sDug (gM σ) p))), τ4) := by
        unfold F_X12_goesBy_b68
        rw [show (0 : Int32) = nI 0 from rfl, e4]
        cases sDoes (gM σ) r (sDug (gM σ) p) s (sTh (gM σ) p (sDug (gM σ) p)) <;> rfl
      unfold F_X12_goesBy
      rw [m_ruY hw g2 hr, Option.bind_some, k10, m_plY hw g2 hp, Option.bind_some, k10, e3, Option.bind_some, if_pos rfl, k10, if_neg (out_nI hp4 (by decide)), if_neg (out_nI hp4 (by decide)), if_neg (out_nI hp4 (by decide)), nI_clamp (by omega), rA g3 (by decide) (by decide), ed]
      by_cases hz : sDug (gM σ) p = 0
      · rw [hz] at b68 ⊢
        rw [if_pos (show nI 0 = 0 from rfl)]
        have q := es0 hz
        subst q
        exact b68
      · have e5 : (5 : Int32) * nI p + nI (sDug (gM σ) p) - 1 = nI (5 * p + (sDug (gM σ) p - 1)) := by
          rw [ix5]
          exact (k_sub (b := 1) (by omega)).trans (by congr 1; omega)
        rw [if_neg (nI_ne0 (by omega) (by omega)), e5, if_neg (out_nI (by omega) (by decide)), nI_clamp (by omega), rA g3 (by decide) (by decide)]
        have q := es1 (by omega)
        subst q
        exact b68

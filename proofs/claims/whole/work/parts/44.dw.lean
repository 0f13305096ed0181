/-! THE PURE SIDE, 25: a drawn digging, yard by yard -/
def sWn (g : Nat → Nat → Int32) (y j : Nat) : Nat := (sWat g y j).toNatClampNeg
theorem sWn_eq (g : Nat → Nat → Int32) (y j : Nat) : sWat g y j = nI (sWn g y j) ∧ sWn g y j ≤ 100 := by
  obtain ⟨a, b⟩ := sWat_int g y j
  rw [i64_of_i32] at a b
  obtain ⟨k, hk, e⟩ := nI_of (x := sWat g y j) (fun q => by
    have := Int32.lt_iff_toInt_lt.mp q
    rw [show (0 : Int32).toInt = 0 from by decide] at this
    omega)
  unfold sWn
  rw [e] at a b ⊢
  rw [nI_toInt hk] at b
  rw [nI_clamp hk]
  exact ⟨rfl, by omega⟩
abbrev sSm (g : Nat → Nat → Int32) (a : Nat) : Nat := sN (fun j => g 75 (5 * a + j)) (sL g)
def sDw (g : Nat → Nat → Int32) (r : Nat) : Nat → Nat → Nat → Int32 → Nat → (Nat → Int64) → Int32 → Int32 × Int32 × Int32
  | 0, k, _, _, _, _, c => (c, -1, nI k)
  | n + 1, k, a, s, l, th, c =>
    if sDoes g r k s th = true then
      if sLot l % 100 < sWn g (k + 1) a then (c + sCost g (k + 1), nI (k + 1), nI (k + 1))
      else if 0 < sMuch g (k + 1) (g 74 a) th then
        (if sSm g a = 0 then sDw g r n (k + 1) a (g 74 a) (sLot l) (sNext g (k + 1) (g 74 a) th) (c + sCost g (k + 1))
          else sDw g r n (k + 1) (sAt g a (sLot l)) (g 74 a) (sLot (sLot l)) (sNext g (k + 1) (g 74 a) th) (c + sCost g (k + 1)))
      else (c + sCost g (k + 1), -1, nI (k + 1))
    else (c, -1, nI k)
theorem e_m {σ : Mem} {v : Int64} : ((σ.1, hwU2 σ.2.1 12 61 v, σ.2.2) : Mem).2.1 12 61 = v := by
  show hwU2 σ.2.1 12 61 v 12 61 = v
  exact hwU2_eq
theorem e_x {σ : Mem} {v : Int64} : ((σ.1, hwU2 σ.2.1 10 2 v, σ.2.2) : Mem).2.1 10 2 = v := by
  show hwU2 σ.2.1 10 2 v 10 2 = v
  exact hwU2_eq
theorem Sg.si {g : Nat → Nat → Int32} (hw : Wf g) {a : Nat} (ha : a < 5) : Sg (g 74 a) := by
  obtain ⟨v, hv, e⟩ := (hw.si a ha).ex
  exact Or.inr ⟨v, by omega, e⟩
theorem x_draw76 (N : Nat) (hN : 160 ≤ N) {g : Nat → Nat → Int32} (hw : Wf g) (r : Nat) (hr : r < 8) : ∀ (n m k a : Nat) (s : Int32) (l : Nat) (th : Nat → Int64) (c : Int32) (σ : Mem), n < m → k + n = 5 → Sg s → a < sL g → l < 2147483647 → HX σ g → (∀ j, j < sL g → σ.2.2.2.1 50 (k + 1) j = th j) → σ.2.1 10 2 = lN l → σ.1 10 3 = c → σ.1 10 4 = -1 → σ.1 10 5 = nI k →
    ∃ τ, F_X0_work_b76 N m (nI r) (nI a) s (nI (k + 1)) σ = some ((), τ) ∧ KY σ τ ∧ (τ.1 10 3, τ.1 10 4, τ.1 10 5) = sDw g r n k a s l th c := by
  have hL := sL_le hw
  intro n
  induction n with
  | zero =>
    intro m k a s l th c σ hm hk hs ha hl h h1 h2 h3 h4 h5
    cases m with
    | zero => cases hm
    | succ m =>
      refine ⟨σ, ?_, KY.rfl_ σ, by rw [h3, h4, h5]; rfl⟩
      rw [F_X0_work_b76.eq_2, if_pos (ltL_a 5 5 rfl (by omega) (by omega))]
  | succ n ih =>
    intro m k a s l th c σ hm hk hs ha hl h h1 h2 h3 h4 h5
    cases m with
    | zero => cases hm
    | succ m =>
      obtain ⟨τ0, f0, k0⟩ := x_does N (by omega) hw r hr k (by omega) s hs th σ h h1
      have hx0 := h.kx k0.x
      rw [F_X0_work_b76.eq_2, if_neg (nltL_a 5 5 rfl (by omega) (by decide)), h5, f0, Option.bind_some, sDw]
      cases hdo : sDoes g r k s th with
      | false =>
        refine ⟨τ0, by rw [if_pos (show bI false = 0 from rfl)], k0.x.y, ?_⟩
        rw [if_neg (by decide), k0.1, h3, h4, h5]
      | true =>
        obtain ⟨ew, hw1⟩ := sWn_eq g (k + 1) a
        have hl1 := sLot_lt l
        have hmod : sLot l % 100 < 100 := Nat.mod_lt _ (by decide)
        have k1 : KY τ0 (hwU2 (hwU2 τ0.1 10 3 (c + sCost g (k + 1))) 10 5 (nI (k + 1)), hwU2 τ0.2.1 10 2 (lN (sLot l)), τ0.2.2) := ⟨fun t _ b => by show hwU2 (hwU2 _ _ _ _) _ _ _ t = _; rw [u2_t b, u2_t b], fun t _ b => u2_t b, rfl, fun _ _ => rfl, rfl⟩
        have hx1 := hx0.ky k1
        have e0 : F_X0_lots N (hwU2 (hwU2 τ0.1 10 3 (c + sCost g (k + 1))) 10 5 (nI (k + 1)), τ0.2.1, τ0.2.2.1, τ0.2.2.2.1, τ0.2.2.2.2) = some (lN (sLot l), (hwU2 (hwU2 τ0.1 10 3 (c + sCost g (k + 1))) 10 5 (nI (k + 1)), hwU2 τ0.2.1 10 2 (lN (sLot l)), τ0.2.2)) := x_lots N l hl _ (by show τ0.2.1 10 2 = _; rw [k0.2.1]; exact h2)
        have ec : τ0.1 10 3 + τ0.2.2.1 42 0 (k + 1) = c + sCost g (k + 1) := by rw [k0.1, h3, hx0.2.co (k + 1) (by omega) (by omega)]
        rw [if_neg (show ¬ bI true = 0 by decide), if_neg (out_nI (by omega) (by decide))]
        simp only [nI_clamp (show k + 1 < 2 ^ 31 by omega)]
        rw [ec, e0, Option.bind_some, if_neg (out_nI (by omega) (by decide)), if_neg (out_nI (show a < 5 by omega) (by decide))]
        simp only [nI_clamp (show a < 2 ^ 31 by omega)]
        rw [hx1.2.wt (k + 1) a (by omega) (by omega) ha, show (100 : Int64) = lN 100 from rfl, lN_mod (by omega) (by decide) (by decide), ew, nI_l (by omega), if_pos trivial]
        by_cases cw : sLot l % 100 < sWn g (k + 1) a
        · rw [if_neg (fun z => absurd ((lN_le (by omega) (by omega)).mp (lg_ge.mp z)) (by omega)), if_pos cw]
          refine ⟨_, rfl, (k0.x.y.trans k1).trans ⟨fun t _ b => u2_t b, fun _ _ _ => rfl, rfl, fun _ _ => rfl, rfl⟩, ?_⟩
          simp [hwU2_get]
        · rw [if_pos (lg_ge.mpr ((lN_le (by omega) (by omega)).mpr (by omega))), if_neg cw, if_neg (out_nI (show a < 5 by omega) (by decide)), hx1.1.si a (by omega)]
          obtain ⟨τ3, f3, k3, r3⟩ := x_pass N (by omega) hw (k + 1) (by omega) (by omega) (g 74 a) th _ hx1 (k0.row h1)
          have hx3 := hx1.kx k3.x
          rw [f3, Option.bind_some]
          have v3 : τ3.1 10 3 = c + sCost g (k + 1) := by rw [k3.1]; show (hwU2 (hwU2 τ0.1 10 3 (c + sCost g (k + 1))) 10 5 (nI (k + 1))) 10 3 = _; rw [u2_k (by decide), hwU2_eq]
          have v4 : τ3.1 10 4 = -1 := by rw [k3.1]; show (hwU2 (hwU2 τ0.1 10 3 (c + sCost g (k + 1))) 10 5 (nI (k + 1))) 10 4 = _; rw [u2_k (by decide), u2_k (by decide), k0.1]; exact h4
          have v5 : τ3.1 10 5 = nI (k + 1) := by rw [k3.1]; show (hwU2 (hwU2 τ0.1 10 3 (c + sCost g (k + 1))) 10 5 (nI (k + 1))) 10 5 = _; exact hwU2_eq
          have vl : τ3.2.1 10 2 = lN (sLot l) := by rw [k3.2.1]; show hwU2 τ0.2.1 10 2 (lN (sLot l)) 10 2 = _; exact hwU2_eq
          have kk := (k0.x.y.trans k1).trans k3.x.y
          by_cases hm2 : 0 < sMuch g (k + 1) (g 74 a) th
          · rw [if_pos hm2]
            show ∃ τ, (if lg_cmp (sMuch g (k + 1) (g 74 a) th) 0 = 0 then some ((), τ3) else if hwOut (nI a) 5 then none else if hwOut (nI a) 5 then none else (F_X0_pick_t26 N a (τ3.2.2.1 27 0 a) (nI a) τ3).bind (fun q7 => F_X0_work_b76 N m (nI r) q7.1 (g 74 a) (nI (k + 1) + 1) q7.2)) = some ((), τ) ∧ KY σ τ ∧ _
            rw [if_neg (lg_nz hm2), if_neg (out_nI (show a < 5 by omega) (by decide)), if_neg (out_nI (show a < 5 by omega) (by decide)), hx3.al hw (show a < 5 by omega), nI_1, if_pos hm2]
            by_cases h0 : sSm g a = 0
            · have ea : sAllB g a = 0 := by rw [(sN_fo hw (show a < 5 by omega)).2.1]; show nI (sSm g a) = 0; rw [h0]; rfl
              obtain ⟨τ, e4, k4, w4⟩ := ih m (k + 1) a (g 74 a) (sLot l) (sNext g (k + 1) (g 74 a) th) (c + sCost g (k + 1)) τ3 (by omega) (by omega) (Sg.si hw (by omega)) ha hl1 hx3 (r3 hm2) vl v3 v4 v5
              refine ⟨τ, ?_, kk.trans k4, by rw [if_pos h0]; exact w4⟩
              unfold F_X0_pick_t26
              rw [ea, if_neg (by decide), Option.bind_some]
              exact e4
            · have h0' : 0 < sN (fun j => g 75 (5 * a + j)) (sL g) := Nat.pos_of_ne_zero h0
              have k5 : KY τ3 (τ3.1, hwU2 τ3.2.1 10 2 (lN (sLot (sLot l))), τ3.2.2) := ⟨fun _ _ _ => rfl, fun t _ b => u2_t b, rfl, fun _ _ => rfl, rfl⟩
              obtain ⟨τ, e4, k4, w4⟩ := ih m (k + 1) (sAt g a (sLot l)) (g 74 a) (sLot (sLot l)) (sNext g (k + 1) (g 74 a) th) (c + sCost g (k + 1)) _ (by omega) (by omega) (Sg.si hw (by omega)) (sAt_lt (sLot l) h0') (sLot_lt _) (hx3.ky k5) (r3 hm2) e_x v3 v4 v5
              refine ⟨τ, ?_, (kk.trans k5).trans k4, by rw [if_neg h0]; exact w4⟩
              rw [x_pick_below N hN hw a (sLot l) (by omega) hl1 τ3 hx3 vl h0', Option.bind_some]
              exact e4
          · rw [if_neg hm2]
            refine ⟨τ3, rfl, kk, ?_⟩
            rw [if_neg hm2, v3, v4, v5]
def sSel (w : Int32) (v : Int32 × Int32 × Int32) : Int32 := if w = 0 then v.1 else if w = 1 then v.2.1 else v.2.2
theorem m_draw302 (N : Nat) (w c d e : Int32) (σ : Mem) : F_X12_drawn_b302 N w d c e σ = some (sSel w (c, e, d), σ) := by
  unfold F_X12_drawn_b302 sSel
  split
  · rfl
  · split <;> rfl
theorem m_draw239 (N : Nat) {g : Nat → Nat → Int32} (hw : Wf g) (kk : Int32 → Int32 → Int32 → Int32 → Int32 → Int32 → Int32 → Int32 → Int32 → Mem → Option (Int32 × Mem)) (x1 x2 x4 x6 x7 x8 x9 x10 x11 : Int32) (th : Nat → Int64) : ∀ (r n k : Nat) (σ : Mem), k + r = sL g → r < n → gM σ = g → (∀ j, j < sL g → σ.2.2.2.1 102 0 (5 * (0 + 1) + j) = th j) → (∀ j, j < k → σ.2.2.2.1 102 0 (5 * 0 + j) = th j) →
    ∃ τ, F_X12_drawn_b239 N kk n x1 x2 x4 x6 x7 x8 x9 x10 x11 (nI k) σ = (F_X12_allBelow N x6 τ).bind (fun q13 => if q13.1 = 0 then kk x1 x2 x4 x6 x7 x8 x9 x10 x11 q13.2 else (F_X12_drawsLayer N x2 x6 q13.1 q13.2).bind (fun q14 => kk x1 x2 x4 q14.1 x7 x8 x9 x10 x11 q14.2)) ∧ KRm 0 σ τ ∧ ∀ j, j < sL g → τ.2.2.2.1 102 0 (5 * 0 + j) = th j := by
  intro r
  have hL := sL_le hw
  induction r with
  | zero =>
    intro n k σ hk hn hg h0 h1
    cases n with
    | zero => cases hn
    | succ n =>
      refine ⟨σ, ?_, KRm.rfl_ 0 σ, fun j hj => h1 j (by omega)⟩
      rw [F_X12_drawn_b239.eq_2, rL hw hg, if_pos (nI_le (by omega) (by omega))]
  | succ r ih =>
    intro n k σ hk hn hg h0 h1
    cases n with
    | zero => cases hn
    | succ n =>
      have kd : KRm 0 σ (σ.1, σ.2.1, σ.2.2.1, hwU3 σ.2.2.2.1 102 0 (5 * 0 + k) (th k), σ.2.2.2.2) := KRm.w (by omega)
      obtain ⟨τ, e1, e2, e3⟩ := ih n (k + 1) _ (by omega) (by omega) (kd.q.g.trans hg) (fun j hj => by
        show hwU3 σ.2.2.2.1 102 0 (5 * 0 + k) (th k) 102 0 (5 * (0 + 1) + j) = _
        rw [hwU3_k (by omega)]; exact h0 j hj) (fun j hj => by
        show hwU3 σ.2.2.2.1 102 0 (5 * 0 + k) (th k) 102 0 (5 * 0 + j) = _
        by_cases e : j = k
        · subst e; exact hwU3_eq
        · rw [hwU3_k (by omega)]; exact h1 j (by omega))
      refine ⟨τ, ?_, kd.trans e2, e3⟩
      have e5 : (5 : Int32) + nI k = nI (5 * (0 + 1) + k) := by rw [show (5 : Int32) = nI 5 from rfl, nI_add]
      have ek : (nI k).toNatClampNeg = 5 * 0 + k := by rw [nI_clamp (by omega)]; omega
      rw [F_X12_drawn_b239.eq_2, rL hw hg, if_neg (nI_ge (by omega) (by omega)), e5, if_neg (out_nI (by omega) (by decide)), if_neg (out_nI (by omega) (by decide)), ek, nI_clamp (by omega), h0 k (by omega), nI_1]
      exact e1
theorem KM.l {σ : Mem} {L : Nat → Nat → Int64} (h : ∀ t, t ≠ 12 → L t = σ.2.1 t) : KM σ (σ.1, L, σ.2.2) := ⟨fun _ _ => rfl, fun _ _ => rfl, h, fun _ _ => rfl, rfl, fun _ _ => rfl, rfl⟩
theorem m_draw128 (N : Nat) (hN : 160 ≤ N) {g : Nat → Nat → Int32} (hw : Wf g) (r : Nat) (hr : r < 8) (p : Int32) (w : Int32) : ∀ (n m k a : Nat) (s : Int32) (l : Nat) (th : Nat → Int64) (c : Int32) (σ : Mem), n + 1 < m → k + n = 5 → Sg s → a < sL g → l < 2147483647 → gM σ = g → (∀ j, j < sL g → σ.2.2.2.1 102 0 (5 * 0 + j) = th j) → σ.2.1 12 61 = lN l →
    ∃ τ, F_X12_drawn_b128 N m (nI r) p w (nI a) (nI k) c s (Int32.ofInt (-1)) 1 σ = some (sSel w (sDw g r n k a s l th c), τ) ∧ KM σ τ := by
  have hL := sL_le hw
  have hD := (sD_eq hw).2
  intro n
  induction n with
  | zero =>
    intro m k a s l th c σ hm hk hs ha hl hg h1 h2
    obtain ⟨m, rfl⟩ : ∃ m', m = m' + 2 := ⟨m - 2, by omega⟩
    have e : k = 5 := by omega
    subst e
    obtain ⟨τ0, f0, k0⟩ := m_does N hN hw r hr 5 0 (by omega) (by omega) s hs th σ hg h1
    have hf : sDoes g r 5 s th = false := by unfold sDoes; rw [decide_eq_false (by omega), Bool.false_and]
    refine ⟨τ0, ?_, k0.q.m⟩
    rw [F_X12_drawn_b128.eq_2, k10, if_pos rfl, show F_X12_doesDig N (nI r) (nI 5) s (0 : Int32) σ = _ from f0, hf, Option.bind_some, if_pos (show bI false = 0 from rfl), m_draw302]
    rfl
  | succ n ih =>
    intro m k a s l th c σ hm hk hs ha hl hg h1 h2
    obtain ⟨m, rfl⟩ : ∃ m', m = m' + 2 := ⟨m - 2, by omega⟩
    obtain ⟨τ0, f0, k0⟩ := m_does N hN hw r hr k 0 (by omega) (by omega) s hs th σ hg h1
    have g0 := k0.q.g.trans hg
    rw [F_X12_drawn_b128.eq_2, k10, if_pos rfl, show F_X12_doesDig N (nI r) (nI k) s (0 : Int32) σ = _ from f0, Option.bind_some, sDw]
    cases hdo : sDoes g r k s th with
    | false =>
      refine ⟨τ0, ?_, k0.q.m⟩
      rw [if_pos (show bI false = 0 from rfl), m_draw302, if_neg (by decide)]
      rfl
    | true =>
      obtain ⟨ew, hw1⟩ := sWn_eq g (k + 1) a
      have hl1 := sLot_lt l
      have hmod : sLot l % 100 < 100 := Nat.mod_lt _ (by decide)
      obtain ⟨τ1, f1, k1⟩ := m_costOf N hN hw (k + 1) τ0 g0
      have g1 := k1.g.trans g0
      have l1 : τ1.2.1 12 61 = lN l := by rw [k1.2.1, k0.2.1]; exact h2
      have row1 := (k1.kg 0).row hL (k0.row hL h1)
      have kd : KM τ1 (τ1.1, hwU2 τ1.2.1 12 61 (lN (sLot l)), τ1.2.2) := KM.l (fun t ht => u2_t ht)
      have g2 := kd.g.trans g1
      obtain ⟨τ3, f3, k3⟩ := m_waterOf N hN hw (k + 1) a (by omega) _ g2
      have g3 := k3.g.trans g2
      have row3 : ∀ j, j < sL g → τ3.2.2.2.1 102 0 (5 * 0 + j) = th j := (k3.kg 0).row hL row1
      have l3 : τ3.2.1 12 61 = lN (sLot l) := by rw [k3.2.1]; exact e_m
      have kk : KM σ τ3 := ((k0.q.m.trans k1.q.m).trans kd).trans k3.q.m
      rw [if_neg (show ¬ bI true = 0 by decide), nI_1, f1, Option.bind_some, show F_X12_draws N (100 : Int32) τ1 = _ from m_draws N 100 l (by decide) (by decide) hl τ1 l1, Option.bind_some, f3, Option.bind_some]
      show ∃ τ, (if sWat g (k + 1) a ≤ nI (sLot l % 100) then (if hwOut (nI a) 5 then none else (F_X12_dries N (0 : Int32) (nI (k + 1)) (τ3.2.2.1 74 0 (nI a).toNatClampNeg) τ3).bind (fun q11 =>
            if (lg_cmp q11.1 (0 : Int64)) ≤ 0 then
              (F_X12_drawn_b222 N (F_X12_drawn_b128 N (m + 1))) (nI r) p w (nI a) (nI (k + 1)) (c + sCost g (k + 1)) (τ3.2.2.1 74 0 (nI a).toNatClampNeg) (Int32.ofInt (-1)) q11.1 (0 : Int32) q11.2
            else
              (F_X12_drawn_b222 N (F_X12_drawn_b128 N (m + 1))) (nI r) p w (nI a) (nI (k + 1)) (c + sCost g (k + 1)) (τ3.2.2.1 74 0 (nI a).toNatClampNeg) (Int32.ofInt (-1)) q11.1 (1 : Int32) q11.2)) else F_X12_drawn_b128 N (m + 1) (nI r) p w (nI a) (nI (k + 1)) (c + sCost g (k + 1)) s (nI (k + 1)) 1 τ3) = _ ∧ _
      rw [ew, if_pos rfl]
      by_cases cw : sLot l % 100 < sWn g (k + 1) a
      · refine ⟨τ3, ?_, kk⟩
        rw [if_neg (nI_ge cw (by omega)), if_pos cw, F_X12_drawn_b128.eq_2, k10, if_neg (nI_n1 _ (by omega)), m_draw302]
      · obtain ⟨τ4, f4, k4, r4⟩ := m_dries N hN hw 0 (k + 1) (by omega) (g 74 a) th τ3 g3 row3
        have g4 := k4.q.g.trans g3
        rw [if_pos (nI_le (by omega) (by omega)), if_neg cw, if_neg (out_nI (show a < 5 by omega) (by decide))]
        simp only [nI_clamp (show a < 2 ^ 31 by omega)]
        rw [rA g3 (by decide) (by decide), show F_X12_dries N (0 : Int32) (nI (k + 1)) (g 74 a) τ3 = _ from f4, Option.bind_some]
        unfold F_X12_drawn_b222
        by_cases hm2 : 0 < sMuch g (k + 1) (g 74 a) th
        · obtain ⟨τ5, f5, k5, r5⟩ := m_below N (by omega) hw 0 (by omega) (sMuch g (k + 1) (g 74 a) th) hm2 (sDry g (k + 1) (g 74 a) th) τ4 g4 r4
          have g5 := k5.q.g.trans g4
          obtain ⟨τ6, f6, k6, r6⟩ := m_draw239 N hw (F_X12_drawn_b128 N (m + 1)) (nI r) p w (nI a) (nI (k + 1)) (c + sCost g (k + 1)) (g 74 a) (Int32.ofInt (-1)) 1 (sNext g (k + 1) (g 74 a) th) (sL g) N 0 τ5 (by omega) (by omega) g5 r5 (fun j hj => by omega)
          have g6 := k6.q.g.trans g5
          have kk6 := ((kk.trans k4.q.m).trans k5.q.m).trans k6.q.m
          have l6 : τ6.2.1 12 61 = lN (sLot l) := by rw [k6.2.1, k5.2.1, k4.2.1]; exact l3
          rw [if_neg (fun z => lg_npos.mp z hm2), k10, show F_X12_below N (0 : Int32) (sMuch g (k + 1) (g 74 a) th) τ4 = _ from f5, Option.bind_some, show F_X12_drawn_b239 N (F_X12_drawn_b128 N (m + 1)) N (nI r) p w (nI a) (nI (k + 1)) (c + sCost g (k + 1)) (g 74 a) (Int32.ofInt (-1)) 1 (0 : Int32) τ5 = _ from f6, m_allBelow N (by omega) hw a (by omega) τ6 g6, Option.bind_some, if_pos hm2]
          by_cases h0 : sSm g a = 0
          · have ea : sAllB g a = 0 := by rw [(sN_fo hw (show a < 5 by omega)).2.1]; show nI (sSm g a) = 0; rw [h0]; rfl
            obtain ⟨τ, e7, k7⟩ := ih (m + 1) (k + 1) a (g 74 a) (sLot l) (sNext g (k + 1) (g 74 a) th) (c + sCost g (k + 1)) τ6 (by omega) (by omega) (Sg.si hw (by omega)) ha hl1 g6 r6 l6
            refine ⟨τ, ?_, kk6.trans k7⟩
            rw [ea, k00, if_pos h0]
            exact e7
          · have h0' : 0 < sN (fun j => g 75 (5 * a + j)) (sL g) := Nat.pos_of_ne_zero h0
            have hb := (sN_fo hw (show a < 5 by omega)).2.2
            have ea : ¬ sAllB g a = 0 := by rw [(sN_fo hw (show a < 5 by omega)).2.1]; exact nI_ne0 h0' (by omega)
            have k8 : KM τ6 (τ6.1, hwU2 τ6.2.1 12 61 (lN (sLot (sLot l))), τ6.2.2) := KM.l (fun t ht => u2_t ht)
            obtain ⟨τ, e7, k7⟩ := ih (m + 1) (k + 1) (sAt g a (sLot l)) (g 74 a) (sLot (sLot l)) (sNext g (k + 1) (g 74 a) th) (c + sCost g (k + 1)) _ (by omega) (by omega) (Sg.si hw (by omega)) (sAt_lt (sLot l) h0') (sLot_lt _) (k8.g.trans g6) r6 e_m
            refine ⟨τ, ?_, (kk6.trans k8).trans k7⟩
            rw [if_neg ea, if_neg h0, m_draw_below N hN hw p a (sLot l) (by omega) hl1 τ6 g6 l6 h0', Option.bind_some]
            exact e7
        · refine ⟨τ4, ?_, kk.trans k4.q.m⟩
          rw [if_pos (lg_npos.mpr hm2), k00, if_neg hm2, F_X12_drawn_b128.eq_2, k00, m_draw302]
          rfl
abbrev sSf (g : Nat → Nat → Int32) (p : Nat) : Nat := sN (fun j => g 76 (5 * p + j)) (sL g)
def sDg (g : Nat → Nat → Int32) (r p seed : Nat) : Int32 × Int32 × Int32 :=
  if sSf g p = 0 then sDw g r 5 0 0 (-1) (seed + 1) (sFirst g p) 0 else sDw g r 5 0 (sA0 g p (seed + 1)) (-1) (sLot (seed + 1)) (sFirst g p) 0
theorem x_work (N : Nat) (hN : 160 ≤ N) {g : Nat → Nat → Int32} (hw : Wf g) (r : Nat) (hr : r < 8) (p : Nat) (hp : p < 4) (hL0 : 0 < sL g) (seed : Nat) (hs : seed ≤ 99999) (σ : Mem) (h : HX σ g) :
    ∃ τ, F_X0_work N (nI r) (nI p) (nI seed) σ = some ((), τ) ∧ KY σ τ ∧ (τ.1 10 3, τ.1 10 4, τ.1 10 5) = sDg g r p seed := by
  have hL := sL_le hw
  have ky : KY σ (hwU2 (hwU2 (hwU2 σ.1 10 3 (0 : Int32)) 10 4 (Int32.ofInt (-1))) 10 5 (0 : Int32), hwU2 σ.2.1 10 2 (lN (seed + 1)), σ.2.2) := ⟨fun t _ b => by show hwU2 (hwU2 (hwU2 _ _ _ _) _ _ _) _ _ _ t = _; rw [u2_t b, u2_t b, u2_t b], fun t _ b => u2_t b, rfl, fun _ _ => rfl, rfl⟩
  obtain ⟨τ1, e1, k1, r1⟩ := x_begin N (by omega) hw p hp _ (h.ky ky)
  have hx1 := (h.ky ky).kx k1.x
  have kk := ky.trans k1.x.y
  have v3 : τ1.1 10 3 = 0 := by rw [k1.1]; show (hwU2 (hwU2 (hwU2 σ.1 10 3 (0 : Int32)) 10 4 (Int32.ofInt (-1))) 10 5 (0 : Int32)) 10 3 = 0; rw [u2_k (by decide), u2_k (by decide), hwU2_eq]
  have v4 : τ1.1 10 4 = -1 := by rw [k1.1]; show (hwU2 (hwU2 (hwU2 σ.1 10 3 (0 : Int32)) 10 4 (Int32.ofInt (-1))) 10 5 (0 : Int32)) 10 4 = -1; rw [u2_k (by decide), hwU2_eq]; rfl
  have v5 : τ1.1 10 5 = nI 0 := by rw [k1.1]; show (hwU2 (hwU2 (hwU2 σ.1 10 3 (0 : Int32)) 10 4 (Int32.ofInt (-1))) 10 5 (0 : Int32)) 10 5 = nI 0; rw [hwU2_eq]; rfl
  have vl : τ1.2.1 10 2 = lN (seed + 1) := by rw [k1.2.1]; show hwU2 σ.2.1 10 2 (lN (seed + 1)) 10 2 = _; exact hwU2_eq
  unfold F_X0_work
  rw [nI_1, nI_l (show seed + 1 < 2 ^ 31 by omega), show F_X6_begin N (nI p) ((hwU2 (hwU2 (hwU2 σ.1 10 3 (0 : Int32)) 10 4 (Int32.ofInt (-1))) 10 5 (0 : Int32)), (hwU2 σ.2.1 10 2 (lN (seed + 1))), σ.2.2.1, σ.2.2.2.1, σ.2.2.2.2) = _ from e1, Option.bind_some, if_neg (out_nI hp (by decide)), x_allFirst N (by omega) hw p hp τ1 hx1, Option.bind_some, nI_clamp (by omega)]
  unfold sDg
  by_cases h0 : sSf g p = 0
  · have ea : sAllF g p = 0 := by rw [(sN_fi hw hp).2.1]; show nI (sSf g p) = 0; rw [h0]; rfl
    obtain ⟨τ2, e2, k2, w2⟩ := x_draw76 N hN hw r hr 5 N 0 0 (-1) (seed + 1) (sFirst g p) 0 τ1 (by omega) rfl (Or.inl rfl) hL0 (by omega) hx1 r1 vl v3 v4 v5
    refine ⟨τ2, ?_, kk.trans k2, by rw [if_pos h0]; exact w2⟩
    unfold F_X0_pick_t55
    rw [ea, if_neg (show ¬ (0 : Int32) < 0 by decide), Option.bind_some]
    exact e2
  · have h0' : 0 < sN (fun j => g 76 (5 * p + j)) (sL g) := Nat.pos_of_ne_zero h0
    have k5 : KY τ1 (τ1.1, hwU2 τ1.2.1 10 2 (lN (sLot (seed + 1))), τ1.2.2) := ⟨fun _ _ _ => rfl, fun t _ b => u2_t b, rfl, fun _ _ => rfl, rfl⟩
    obtain ⟨τ2, e2, k2, w2⟩ := x_draw76 N hN hw r hr 5 N 0 (sA0 g p (seed + 1)) (-1) (sLot (seed + 1)) (sFirst g p) 0 _ (by omega) rfl (Or.inl rfl) (sA0_lt (seed + 1) h0') (sLot_lt _) (hx1.ky k5) r1 e_x v3 v4 v5
    refine ⟨τ2, ?_, (kk.trans k5).trans k2, by rw [if_neg h0]; exact w2⟩
    rw [x_pick_first N hN hw p (seed + 1) hp (by omega) τ1 hx1 vl h0', Option.bind_some]
    exact e2
theorem m_draw57 (N : Nat) {g : Nat → Nat → Int32} (hw : Wf g) (r p : Nat) (hp : p < 4) (w : Int32) (σ : Mem) (hg : gM σ = g) : ∀ (q n k : Nat), k + q = sL g → q < n →
    F_X12_drawn_b57 N n (nI r) (nI p) w (hzJ (fun j => g 76 (5 * p + j)) k) (nI k) σ = (if sAllF g p = 0 then F_X12_drawn_b105 N (nI r) (nI p) w 0 σ else (F_X12_drawsLayer N (nI p) (Int32.ofInt (-1)) (sAllF g p) σ).bind (fun q5 => F_X12_drawn_b105 N (nI r) (nI p) w q5.1 q5.2)) := by
  have hL := sL_le hw
  intro q
  induction q with
  | zero =>
    intro n k hk hn
    cases n with
    | zero => cases hn
    | succ n =>
      rw [F_X12_drawn_b57.eq_2, rL hw hg, if_pos (nI_le (by omega) (by omega)), show k = sL g by omega]
      rfl
  | succ q ih =>
    intro n k hk hn
    cases n with
    | zero => cases hn
    | succ n =>
      rw [F_X12_drawn_b57.eq_2, rL hw hg, if_neg (nI_ge (by omega) (by omega)), ix5, if_neg (out_nI (by omega) (by decide)), nI_clamp (by omega), rA hg (by decide) (by decide), nI_1]
      exact ih n (k + 1) (by omega) (by omega)
theorem m_draw105 (N : Nat) (hN : 160 ≤ N) {g : Nat → Nat → Int32} (hw : Wf g) (r : Nat) (hr : r < 8) (p : Nat) (hp : p < 4) (w : Int32) (a l : Nat) (ha : a < sL g) (hl : l < 2147483647) (σ : Mem) (hg : gM σ = g) (h2 : σ.2.1 12 61 = lN l) :
    ∃ τ, F_X12_drawn_b105 N (nI r) (nI p) w (nI a) σ = some (sSel w (sDw g r 5 0 a (-1) l (sFirst g p) 0), τ) ∧ KM σ τ := by
  obtain ⟨τ1, e1, k1, r1⟩ := m_begins N (by omega) hw p hp 0 (by decide) σ hg
  obtain ⟨τ2, e2, k2⟩ := m_draw128 N hN hw r hr (nI p) w 5 N 0 a (-1) l (sFirst g p) 0 τ1 (by omega) rfl (Or.inl rfl) ha hl (k1.q.g.trans hg) r1 (by rw [k1.2.1]; exact h2)
  refine ⟨τ2, ?_, k1.q.m.trans k2⟩
  unfold F_X12_drawn_b105
  rw [show F_X12_begins N (nI p) (0 : Int32) σ = _ from e1, Option.bind_some]
  exact e2
theorem c_drawn (N : Nat) (hN : 160 ≤ N) (a b c d : Int32) (σ : Mem) (h : Ag σ) : Ac (F_X11_drawn N a b c d) (F_X12_drawn N a b c d) σ := by
  obtain ⟨hx, hw⟩ := h
  have hL := sL_le hw
  have hP := (sPl_eq hw).2
  have hR := (sRu_eq hw).2
  rcases rg_c a (c := sRu (gM σ)) (by omega) with ⟨r, hr, rfl⟩ | hq
  rotate_left
  · refine Ac.st (r := Int32.ofInt (-5)) ⟨hx, hw⟩ ?_ ?_
    · unfold F_X11_drawn; rw [x_ruN hw hx hq, Option.bind_some, k00]
    · unfold F_X12_drawn; rw [m_ruN hw rfl hq, Option.bind_some, k00]
  rcases rg_c b (c := sPl (gM σ)) (by omega) with ⟨p, hp, rfl⟩ | hq
  rotate_left
  · refine Ac.st (r := Int32.ofInt (-5)) ⟨hx, hw⟩ ?_ ?_
    · unfold F_X11_drawn; rw [x_ruY hw hx hr, Option.bind_some, k10, x_plN hw hx hq, Option.bind_some, k00]
    · unfold F_X12_drawn; rw [m_ruY hw rfl hr, Option.bind_some, k10, m_plN hw rfl hq, Option.bind_some, k00]
  rcases rg_m c 0 99999 (by decide) (by decide) with ⟨e, e0, he, rfl⟩ | hq
  rotate_left
  · refine Ac.st (r := Int32.ofInt (-7)) ⟨hx, hw⟩ ?_ ?_
    · unfold F_X11_drawn; rw [x_ruY hw hx hr, Option.bind_some, k10, x_plY hw hx hp, Option.bind_some, k10, show F_X11_within N c 0 99999 _ = _ from x_in_n hq, Option.bind_some, k00]
    · unfold F_X12_drawn; rw [m_ruY hw rfl hr, Option.bind_some, k10, m_plY hw rfl hp, Option.bind_some, k10, show F_X12_in N c 0 99999 _ = _ from m_in_n hq, Option.bind_some, k00]
  rcases rg_m d 0 2 (by decide) (by decide) with ⟨w, w0, hw2, rfl⟩ | hq
  rotate_left
  · refine Ac.st (r := Int32.ofInt (-7)) ⟨hx, hw⟩ ?_ ?_
    · unfold F_X11_drawn; rw [x_ruY hw hx hr, Option.bind_some, k10, x_plY hw hx hp, Option.bind_some, k10, show F_X11_within N (nI e) 0 99999 _ = _ from x_rgY e0 he (by decide), Option.bind_some, k10, show F_X11_within N d 0 2 _ = _ from x_in_n hq, Option.bind_some, k00]
    · unfold F_X12_drawn; rw [m_ruY hw rfl hr, Option.bind_some, k10, m_plY hw rfl hp, Option.bind_some, k10, show F_X12_in N (nI e) 0 99999 _ = _ from m_rgY e0 he (by decide), Option.bind_some, k10, show F_X12_in N d 0 2 _ = _ from m_in_n hq, Option.bind_some, k00]
  obtain ⟨τ1, e1, k1, v1⟩ := x_work N hN hw r (by omega) p (by omega) (sL_pos hw hp) e he σ hx
  have g1 : gM τ1 = gM σ := k1.g
  have kd : KM τ1 (τ1.1, hwU2 τ1.2.1 12 61 (lN (e + 1)), τ1.2.2) := KM.l (fun t ht => u2_t ht)
  have g2 := kd.g.trans g1
  have ms : ∃ τ2, F_X12_drawn_b57 N N (nI r) (nI p) (nI w) 0 0 (τ1.1, hwU2 τ1.2.1 12 61 (lN (e + 1)), τ1.2.2) = some (sSel (nI w) (sDg (gM σ) r p e), τ2) ∧ KM τ1 τ2 := by
    rw [show F_X12_drawn_b57 N N (nI r) (nI p) (nI w) 0 0 (τ1.1, hwU2 τ1.2.1 12 61 (lN (e + 1)), τ1.2.2) = _ from m_draw57 N hw r p (by omega) (nI w) _ g2 (sL (gM σ)) N 0 (by omega) (by omega)]
    unfold sDg
    by_cases h0 : sSf (gM σ) p = 0
    · have ea : sAllF (gM σ) p = 0 := by rw [(sN_fi hw (show p < 4 by omega)).2.1]; show nI (sSf (gM σ) p) = 0; rw [h0]; rfl
      obtain ⟨τ2, e2, k2⟩ := m_draw105 N hN hw r (by omega) p (by omega) (nI w) 0 (e + 1) (sL_pos hw hp) (by omega) _ g2 e_m
      exact ⟨τ2, by rw [if_pos ea, if_pos h0]; exact e2, kd.trans k2⟩
    · have h0' : 0 < sN (fun j => gM σ 76 (5 * p + j)) (sL (gM σ)) := Nat.pos_of_ne_zero h0
      have hb := (sN_fi hw (show p < 4 by omega)).2.2
      have ea : ¬ sAllF (gM σ) p = 0 := by rw [(sN_fi hw (show p < 4 by omega)).2.1]; exact nI_ne0 h0' (by omega)
      have kd2 : KM (τ1.1, hwU2 τ1.2.1 12 61 (lN (e + 1)), τ1.2.2) (τ1.1, hwU2 (hwU2 τ1.2.1 12 61 (lN (e + 1))) 12 61 (lN (sLot (e + 1))), τ1.2.2) := KM.l (fun t ht => u2_t ht)
      obtain ⟨τ2, e2, k2⟩ := m_draw105 N hN hw r (by omega) p (by omega) (nI w) (sA0 (gM σ) p (e + 1)) (sLot (e + 1)) (sA0_lt (e + 1) h0') (sLot_lt _) _ (kd2.g.trans g2) (by show hwU2 (hwU2 τ1.2.1 12 61 (lN (e + 1))) 12 61 (lN (sLot (e + 1))) 12 61 = _; exact hwU2_eq)
      refine ⟨τ2, ?_, (kd.trans kd2).trans k2⟩
      rw [if_neg ea, if_neg h0, m_draw_first N hN hw p (e + 1) (by omega) (by omega) _ g2 e_m h0', Option.bind_some]
      exact e2
  obtain ⟨τ2, e2, k2⟩ := ms
  refine Ac.mk (r := sSel (nI w) (sDg (gM σ) r p e)) (τ1 := τ1) (τ2 := τ2) ⟨hx, hw⟩ ?_ k1 ?_ k2
  · unfold F_X11_drawn
    rw [x_ruY hw hx hr, Option.bind_some, k10, x_plY hw hx hp, Option.bind_some, k10, show F_X11_within N (nI e) 0 99999 _ = _ from x_rgY e0 he (by decide), Option.bind_some, k10, show F_X11_within N (nI w) 0 2 _ = _ from x_rgY w0 hw2 (by decide), Option.bind_some, k10, e1, Option.bind_some, ← v1]
    unfold sSel
    by_cases c0 : nI w = 0
    · rw [if_pos c0, if_pos c0]
    rw [if_neg c0, if_neg c0]
    by_cases c1 : nI w = 1
    · rw [if_pos c1, if_pos c1]
    rw [if_neg c1, if_neg c1]
  · unfold F_X12_drawn
    rw [m_ruY hw g1 hr, Option.bind_some, k10, m_plY hw g1 hp, Option.bind_some, k10, show F_X12_in N (nI e) 0 99999 _ = _ from m_rgY e0 he (by decide), Option.bind_some, k10, show F_X12_in N (nI w) 0 2 _ = _ from m_rgY w0 hw2 (by decide), Option.bind_some, k10, nI_l (show e < 2 ^ 31 by omega), lN_1]
    exact e2

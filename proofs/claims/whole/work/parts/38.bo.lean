/-! THE PURE SIDE, 19: bores, a diviner -/
def sCn (g : Nat → Nat → Int32) (y : Nat) : Nat := (sCost g y).toNatClampNeg
theorem sCn_eq (g : Nat → Nat → Int32) (y : Nat) : sCost g y = nI (sCn g y) ∧ sCn g y ≤ 999 := by
  obtain ⟨a, b⟩ := sCost_int g y
  obtain ⟨k, hk, e⟩ := nI_of (x := sCost g y) (fun q => by
    have := Int32.lt_iff_toInt_lt.mp q
    rw [show (0 : Int32).toInt = 0 from by decide] at this
    omega)
  unfold sCn
  rw [e] at a b ⊢
  rw [nI_toInt hk] at b
  rw [nI_clamp hk]
  exact ⟨rfl, by omega⟩
/-- what is told, so many yards of a bore being left, c coins being spent -/
def sTold (g : Nat → Nat → Int32) : Nat → Nat → Nat → Nat → (Nat → Int64) → Int64
  | 0, _, y, c, th => sMx (sMx (sGoes g (g 12 1) 0 y th) - 1000000 * (nI c).toInt64)
  | n + 1, 0, y, c, th => sMx (sMx (sGoes g (g 12 1) (n + 1) y th) - 1000000 * (nI c).toInt64)
  | n + 1, l + 1, y, c, th => ((sGain g y (g 12 1) (nI (c + sCn g y)) th) + sArm g (fun z t => sTold g n l z (c + sCn g y) t) y th 0 + sArm g (fun z t => sTold g n l z (c + sCn g y) t) y th 1) + sArm g (fun z t => sTold g n l z (c + sCn g y) t) y th 2
theorem x_told20 (N : Nat) (hN : 6 < N) (g0 : Int32 → Int32 → Int32 → Mem → Option (Int64 × Mem)) {g : Nat → Nat → Int32} (hw : Wf g) (y : Nat) (h1y : 1 ≤ y) (h6 : y ≤ 6) (c : Nat) (th : Nat → Int64) (σ : Mem) (h : HX σ g) (h1 : ∀ j, j < sL g → σ.2.2.2.1 50 y j = th j) :
    ∃ τ, F_X6_toldBy_b20 N g0 (nI y) (nI c) σ = some (sMx (sMx (sGoes g (g 12 1) (sD g + 1 - y) y th) - 1000000 * (nI c).toInt64), τ) ∧ KP y σ τ := by
  obtain ⟨τ, e, k⟩ := x_worthOf N hN hw y h1y h6 th σ h h1
  refine ⟨τ, ?_, k⟩
  unfold F_X6_toldBy_b20
  rw [e]
  rfl
theorem x_told (N : Nat) (hN : 160 ≤ N) {g : Nat → Nat → Int32} (hw : Wf g) : ∀ (n d l y c : Nat) (th : Nat → Int64) (σ : Mem), n < d → n = sD g + 1 - y → 1 ≤ y → y ≤ 6 → l ≤ 5 → HX σ g → (∀ j, j < sL g → σ.2.2.2.1 50 y j = th j) →
    ∃ τ, G_X6_toldBy N d (nI l) (nI y) (nI c) σ = some (sTold g n l y c th, τ) ∧ KP y σ τ := by
  have hD := (sD_eq hw).2
  intro n
  induction n with
  | zero =>
    intro d l y c th σ hd hn h1y h6 hl h h1
    cases d with
    | zero => cases hd
    | succ d =>
      obtain ⟨τ, e, k⟩ := x_told20 N (by omega) (G_X6_toldBy N d) hw y h1y h6 c th σ h h1
      refine ⟨τ, ?_, k⟩
      rw [← hn] at e
      show B_X6_toldBy N (G_X6_toldBy N d) (nI l) (nI y) (nI c) σ = some (sMx (sMx (sGoes g (g 12 1) 0 y th) - 1000000 * (nI c).toInt64), τ)
      unfold B_X6_toldBy
      by_cases hl0 : l = 0
      · subst hl0
        rw [if_pos (show nI 0 ≤ 0 by decide)]
        exact e
      · rw [if_neg (nI_nle (by omega) (by omega)), if_neg (nltL_b 1 1 rfl h1y (by omega)), x_deepest N hw σ h, Option.bind_some, if_neg (nI_ge (by omega) (by omega))]
        exact e
  | succ n ih =>
    intro d l y c th σ hd hn h1y h6 hl h h1
    cases d with
    | zero => cases hd
    | succ d =>
      show ∃ τ, B_X6_toldBy N (G_X6_toldBy N d) (nI l) (nI y) (nI c) σ = _ ∧ _
      cases l with
      | zero =>
        obtain ⟨τ, e, k⟩ := x_told20 N (by omega) (G_X6_toldBy N d) hw y h1y h6 c th σ h h1
        refine ⟨τ, ?_, k⟩
        rw [← hn] at e
        unfold B_X6_toldBy
        rw [if_pos (show nI 0 ≤ 0 by decide), sTold]
        exact e
      | succ l =>
        obtain ⟨N', rfl⟩ : ∃ N', N = N' + 4 := ⟨N - 4, by omega⟩
        obtain ⟨ec, hc9⟩ := sCn_eq g y
        have step : ∀ (q m : Nat) (acc : Int64) (σ : Mem), q < 3 → HX σ g → (∀ j, j < sL g → σ.2.2.2.1 50 y j = th j) → ∃ τ, F_X6_toldBy_b69 (N' + 4) (G_X6_toldBy (N' + 4) d) (m + 1) (nI (l + 1)) (nI y) (nI (c + sCn g y)) acc (nI q) σ = F_X6_toldBy_b69 (N' + 4) (G_X6_toldBy (N' + 4) d) m (nI (l + 1)) (nI y) (nI (c + sCn g y)) (acc + sArm g (fun z t => sTold g n l z (c + sCn g y) t) y th (nI q)) (nI (q + 1)) τ ∧ KP y σ τ := by
          intro q m acc σ hq h h1
          obtain ⟨τ1, f1, k1, r1⟩ := x_pass (N' + 4) (by omega) hw y h1y (by omega) (nI q) th σ h h1
          rw [F_X6_toldBy_b69.eq_2, if_neg (geL_n 3 3 rfl (by omega) (by decide)), f1, Option.bind_some, nI_1, nI_1, nI_pred]
          unfold sArm
          by_cases hm : 0 < sMuch g y (nI q) th
          · obtain ⟨τ2, f2, k2⟩ := ih d l (y + 1) (c + sCn g y) (sNext g y (nI q) th) τ1 (by omega) (by omega) (by omega) (by omega) (by omega) (h.kx k1.x) (r1 hm)
            refine ⟨τ2, ?_, k1.trans (k2.mono (Nat.le_succ y))⟩
            show (if lg_cmp (if 0 < sMuch g y (nI q) th then sMuch g y (nI q) th else 0) 0 ≤ 0 then _ else (G_X6_toldBy (N' + 4) d (nI l) (nI (y + 1)) (nI (c + sCn g y)) τ1).bind (fun q5 => F_X6_toldBy_b69 (N' + 4) (G_X6_toldBy (N' + 4) d) m (nI (l + 1)) (nI y) (nI (c + sCn g y)) (acc + (if 0 < sMuch g y (nI q) th then sMuch g y (nI q) th else 0) * q5.1 / 1000000) (nI (q + 1)) q5.2)) = _
            rw [if_pos hm, if_neg (fun z => lg_npos.mp z hm), f2, Option.bind_some, if_pos hm]
          · refine ⟨τ1, ?_, k1⟩
            show (if lg_cmp (if 0 < sMuch g y (nI q) th then sMuch g y (nI q) th else 0) 0 ≤ 0 then F_X6_toldBy_b69 (N' + 4) (G_X6_toldBy (N' + 4) d) m (nI (l + 1)) (nI y) (nI (c + sCn g y)) acc (nI (q + 1)) τ1 else _) = _
            rw [if_neg hm, if_pos (lg_npos.mpr (by decide)), if_neg hm, Int64.add_zero]
        obtain ⟨τ1, f1, k1⟩ := step 0 (N' + 3) (sGain g y (g 12 1) (nI (c + sCn g y)) th) σ (by decide) h h1
        obtain ⟨τ2, f2, k2⟩ := step 1 (N' + 2) _ τ1 (by decide) (h.kx k1.x) (k1.row h1)
        obtain ⟨τ3, f3, k3⟩ := step 2 (N' + 1) _ τ2 (by decide) ((h.kx k1.x).kx k2.x) (k2.row (k1.row h1))
        refine ⟨τ3, ?_, (k1.trans k2).trans k3⟩
        unfold B_X6_toldBy
        rw [if_neg (nI_nle (by omega) (by omega)), if_neg (nltL_b 1 1 rfl h1y (by omega)), x_deepest (N' + 4) hw σ h, Option.bind_some, if_pos (nI_le (by omega) (by omega)), if_neg (out_nI (by omega) (by decide)), x_worth (N' + 4) σ h, Option.bind_some]
        show (F_X6_gain (N' + 4) (nI y) (g 12 1) (nI c + σ.2.2.1 42 0 (nI y).toNatClampNeg) σ).bind (fun q3 => F_X6_toldBy_b69 (N' + 4) (G_X6_toldBy (N' + 4) d) (N' + 4) (nI (l + 1)) (nI y) (nI c + σ.2.2.1 42 0 (nI y).toNatClampNeg) q3.1 (0 : Int32) q3.2) = _
        rw [nI_clamp (by omega), h.2.co y h1y (by omega), ec, nI_add, x_gain (N' + 4) (by omega) hw y h1y (by omega) (g 12 1) (nI (c + sCn g y)) th σ h h1, Option.bind_some]
        show F_X6_toldBy_b69 (N' + 4) (G_X6_toldBy (N' + 4) d) (N' + 3 + 1) (nI (l + 1)) (nI y) (nI (c + sCn g y)) (sGain g y (g 12 1) (nI (c + sCn g y)) th) (nI 0) σ = _
        rw [f1, f2, f3, F_X6_toldBy_b69.eq_2, if_pos (show (3 : Int32) ≤ nI (2 + 1) by decide)]
        rfl
theorem sGood_l {g : Nat → Nat → Int32} (hw : Wf g) {j c : Nat} (hj : j < 5) (hc : c ≤ 100000) : (if 0 ≤ lg_cmp (sGood (g 12 1) (g 73 j) 0 - (nI c).toInt64) 0 then sGood (g 12 1) (g 73 j) 0 - (nI c).toInt64 else 0) = sGood (g 12 1) (g 73 j) (nI c) := by
  obtain ⟨ew, hwo⟩ := hw.wo
  obtain ⟨es, hsa⟩ := hw.sa j hj
  generalize (g 12 1).toNatClampNeg = w at ew hwo
  generalize (g 73 j).toNatClampNeg = s at es hsa
  rw [ew, es]
  have a0 : (sGood (nI w) (nI s) 0).toInt = ((w - s - 0 : Nat) : Int) := sGood_int (l := 0) hwo hsa (by decide)
  have a1 := sGood_int (w := w) (s := s) (l := c) hwo hsa hc
  have ec : (nI c).toInt64.toInt = c := by rw [i64_of_i32, nI_toInt (by omega)]
  have e : (sGood (nI w) (nI s) 0 - (nI c).toInt64).toInt = ((w - s : Nat) : Int) - c := by
    rw [i64_sub (by rw [a0, ec]; omega) (by rw [a0, ec]; omega), a0, ec]
    omega
  apply Int64.toInt_inj.mp
  rw [a1]
  by_cases h : sGood (nI w) (nI s) 0 - (nI c).toInt64 < 0
  · rw [if_neg (fun q => lg_nneg.mp q h), c_0]
    have := Int64.lt_iff_toInt_lt.mp h
    rw [e, c_0] at this
    omega
  · rw [if_pos (lg_nneg.mpr h), e]
    have : ¬ (sGood (nI w) (nI s) 0 - (nI c).toInt64).toInt < (0 : Int64).toInt := fun q => h (Int64.lt_iff_toInt_lt.mpr q)
    rw [e, c_0] at this
    omega
theorem m_told58 (N : Nat) (hN : 160 ≤ N) {g : Nat → Nat → Int32} (hw : Wf g) (g0 : Int32 → Int32 → Int32 → Int32 → Mem → Option (Int64 × Mem)) (y d : Nat) (hd : d ≤ 5) (l : Int32) (c : Nat) (hc : c ≤ 100000) (th : Nat → Int64) : ∀ (r n k : Nat) (σ : Mem), k + r = sL g → r < n → gM σ = g → (∀ j, j < sL g → σ.2.2.2.1 102 0 (5 * d + j) = th j) →
    ∃ τ, F_X12_tells_b58 N g0 n (nI y) (nI d) l (nI c) (hzS (fun j => sWet g y th j * sGood (g 12 1) (g 73 j) (nI c)) k) (nI k) σ = F_X12_tells_b131 N g0 N (nI y) (nI d) l (nI c) (sGain g y (g 12 1) (nI c) th) (nI 0) τ ∧ KE σ τ := by
  intro r
  have hL := sL_le hw
  induction r with
  | zero =>
    intro n k σ hk hn hg h1
    cases n with
    | zero => cases hn
    | succ n =>
      refine ⟨σ, ?_, KE.rfl_ σ⟩
      rw [F_X12_tells_b58.eq_2, rL hw hg, if_pos (nI_le (by omega) (by omega)), show k = sL g by omega]
      rfl
  | succ r ih =>
    intro n k σ hk hn hg h1
    cases n with
    | zero => cases hn
    | succ n =>
      obtain ⟨υ, f1, k1⟩ := m_waterOf N hN hw y k (by omega) σ hg
      obtain ⟨τ, f2, k2⟩ := ih n (k + 1) υ (by omega) (by omega) (k1.g.trans hg) (fun j hj => by rw [k1.2.2.2]; exact h1 j hj)
      refine ⟨τ, ?_, k1.trans k2⟩
      rw [F_X12_tells_b58.eq_2, rL hw hg, if_neg (nI_ge (by omega) (by omega)), m_worthOf N hw k (by omega) σ hg, Option.bind_some, ix5, if_neg (out_nI (by omega) (by decide)), nI_1]
      show (F_X12_waterOf N (nI y) (nI k) σ).bind (fun q3 => if 0 ≤ lg_cmp (sGood (g 12 1) (g 73 k) 0 - (nI c).toInt64) 0 then F_X12_tells_b58 N g0 n (nI y) (nI d) l (nI c) (hzS (fun j => sWet g y th j * sGood (g 12 1) (g 73 j) (nI c)) k + ((σ.2.2.2.1 102 0 (nI (5 * d + k)).toNatClampNeg) * q3.1.toInt64 / 100) * (sGood (g 12 1) (g 73 k) 0 - (nI c).toInt64)) (nI (k + 1)) q3.2 else F_X12_tells_b58 N g0 n (nI y) (nI d) l (nI c) (hzS (fun j => sWet g y th j * sGood (g 12 1) (g 73 j) (nI c)) k + ((σ.2.2.2.1 102 0 (nI (5 * d + k)).toNatClampNeg) * q3.1.toInt64 / 100) * 0) (nI (k + 1)) q3.2) = _
      rw [f1, Option.bind_some, nI_clamp (by omega), h1 k (by omega)]
      have eg := sGood_l hw (show k < 5 by omega) hc
      rw [hzS] at f2
      by_cases hz : 0 ≤ lg_cmp (sGood (g 12 1) (g 73 k) 0 - (nI c).toInt64) 0
      · rw [if_pos hz] at eg ⊢
        rw [eg]
        exact f2
      · rw [if_neg hz] at eg ⊢
        rw [← eg] at f2
        exact f2
theorem m_told12 (N : Nat) (hN : 160 ≤ N) (g0 : Int32 → Int32 → Int32 → Int32 → Mem → Option (Int64 × Mem)) {g : Nat → Nat → Int32} (hw : Wf g) (y d : Nat) (h1y : 1 ≤ y) (hd : d < y) (h6 : y ≤ 6) (c : Nat) (th : Nat → Int64) (σ : Mem) (hg : gM σ = g) (h1 : ∀ j, j < sL g → σ.2.2.2.1 102 0 (5 * d + j) = th j) :
    ∃ τ, F_X12_tells_b12 N g0 (nI y) (nI d) (nI c) σ = some (sMx (sMx (sGoes g (g 12 1) (sD g + 1 - y) y th) - 1000000 * (nI c).toInt64), τ) ∧ KG d σ τ := by
  obtain ⟨τ, e, k⟩ := m_valueOf N hN hw y d h1y hd h6 th σ hg h1
  refine ⟨τ, ?_, k⟩
  unfold F_X12_tells_b12
  rw [e, Option.bind_some]
  show (if 0 ≤ lg_cmp (sMx (sGoes g (g 12 1) (sD g + 1 - y) y th) - 1000000 * (nI c).toInt64) 0 then some (sMx (sGoes g (g 12 1) (sD g + 1 - y) y th) - 1000000 * (nI c).toInt64, τ) else some (0, τ)) = _
  generalize sMx (sGoes g (g 12 1) (sD g + 1 - y) y th) - 1000000 * (nI c).toInt64 = v
  unfold sMx
  by_cases hz : v < 0
  · rw [if_neg (fun q => lg_nneg.mp q hz), if_pos hz]
  · rw [if_pos (lg_nneg.mpr hz), if_neg hz]
theorem m_told (N : Nat) (hN : 160 ≤ N) {g : Nat → Nat → Int32} (hw : Wf g) : ∀ (n k l y d c : Nat) (th : Nat → Int64) (σ : Mem), n < k → n = sD g + 1 - y → 1 ≤ y → d < y → y ≤ 6 → l ≤ 5 → c ≤ 1000 * y → gM σ = g → (∀ j, j < sL g → σ.2.2.2.1 102 0 (5 * d + j) = th j) →
    ∃ τ, G_X12_tells N k (nI y) (nI d) (nI l) (nI c) σ = some (sTold g n l y c th, τ) ∧ KG d σ τ := by
  have hD := sD_eq hw
  have hL := sL_le hw
  intro n
  induction n with
  | zero =>
    intro k l y d c th σ hk hn h1y hdy h6 hl hc hg h1
    cases k with
    | zero => cases hk
    | succ k =>
      obtain ⟨τ, e, k1⟩ := m_told12 N hN (G_X12_tells N k) hw y d h1y hdy h6 c th σ hg h1
      refine ⟨τ, ?_, k1⟩
      rw [← hn] at e
      show B_X12_tells N (G_X12_tells N k) (nI y) (nI d) (nI l) (nI c) σ = some (sMx (sMx (sGoes g (g 12 1) 0 y th) - 1000000 * (nI c).toInt64), τ)
      unfold B_X12_tells
      by_cases hl0 : l = 0
      · subst hl0
        rw [if_pos (show nI 0 = 0 from rfl)]
        exact e
      · rw [if_neg (nI_ne0 (by omega) (by omega)), rF hg (by decide), hD.1, if_neg (nI_ge (by omega) (by omega))]
        exact e
  | succ n ih =>
    intro k l y d c th σ hk hn h1y hdy h6 hl hc hg h1
    cases k with
    | zero => cases hk
    | succ k =>
      show ∃ τ, B_X12_tells N (G_X12_tells N k) (nI y) (nI d) (nI l) (nI c) σ = _ ∧ _
      cases l with
      | zero =>
        obtain ⟨τ, e, k1⟩ := m_told12 N hN (G_X12_tells N k) hw y d h1y hdy h6 c th σ hg h1
        refine ⟨τ, ?_, k1⟩
        rw [← hn] at e
        unfold B_X12_tells
        rw [if_pos (show nI 0 = 0 from rfl), sTold]
        exact e
      | succ l =>
        obtain ⟨N', rfl⟩ : ∃ N', N = N' + 4 := ⟨N - 4, by omega⟩
        obtain ⟨ec, hc9⟩ := sCn_eq g y
        obtain ⟨τ0, f0, k0⟩ := m_costOf (N' + 4) hN hw y σ hg
        have g0 : gM τ0 = g := k0.g.trans hg
        obtain ⟨τ1, f1, k1⟩ := m_told58 (N' + 4) hN hw (G_X12_tells (N' + 4) k) y d (by omega) (nI (l + 1)) (c + sCn g y) (by omega) th (sL g) (N' + 4) 0 τ0 (by omega) (by omega) g0 (fun j hj => by rw [k0.2.2.2]; exact h1 j hj)
        have k01 : KG d σ τ1 := (k0.trans k1).kg d
        have g1 : gM τ1 = g := k1.g.trans g0
        have r1 := k01.row hL h1
        have step : ∀ (q m : Nat) (acc : Int64) (σ : Mem), q < 3 → gM σ = g → (∀ j, j < sL g → σ.2.2.2.1 102 0 (5 * d + j) = th j) → ∃ τ, F_X12_tells_b131 (N' + 4) (G_X12_tells (N' + 4) k) (m + 1) (nI y) (nI d) (nI (l + 1)) (nI (c + sCn g y)) acc (nI q) σ = F_X12_tells_b131 (N' + 4) (G_X12_tells (N' + 4) k) m (nI y) (nI d) (nI (l + 1)) (nI (c + sCn g y)) (acc + sArm g (fun z t => sTold g n l z (c + sCn g y) t) y th (nI q)) (nI (q + 1)) τ ∧ KG d σ τ := by
          intro q m acc σ hq hg h1
          rw [F_X12_tells_b131.eq_2, if_neg (geL_n 3 3 rfl (by omega) (by decide))]
          by_cases hy5 : d ≤ 5
          · obtain ⟨τ1, f1, k1, r1⟩ := m_dries (N' + 4) hN hw d y (by omega) (nI q) th σ hg h1
            have kg1 := k1.kg hy5 d
            have g1 := k1.q.g.trans hg
            rw [f1, Option.bind_some, nI_1, nI_1, nI_1, nI_pred]
            unfold sArm
            by_cases hm : 0 < sMuch g y (nI q) th
            · obtain ⟨τ2, f2, k2, r2⟩ := m_below (N' + 4) (by omega) hw d (by omega) (sMuch g y (nI q) th) hm (sDry g y (nI q) th) τ1 g1 r1
              have g2 := k2.q.g.trans g1
              obtain ⟨τ3, f3, k3⟩ := ih k l (y + 1) (d + 1) (c + sCn g y) (sNext g y (nI q) th) τ2 (by omega) (by omega) (by omega) (by omega) (by omega) (by omega) (by omega) g2 r2
              refine ⟨τ3, ?_, (kg1.trans k2.kg).trans (k3.mono (Nat.le_succ d))⟩
              show (if lg_cmp (sMuch g y (nI q) th) 0 ≤ 0 then _ else (F_X12_below (N' + 4) (nI d) (sMuch g y (nI q) th) τ1).bind (fun q5 => (G_X12_tells (N' + 4) k (nI (y + 1)) (nI (d + 1)) (nI l) (nI (c + sCn g y)) q5.2).bind (fun q6 => F_X12_tells_b131 (N' + 4) (G_X12_tells (N' + 4) k) m (nI y) (nI d) (nI (l + 1)) (nI (c + sCn g y)) (acc + (sMuch g y (nI q) th * q6.1) / 1000000) (nI (q + 1)) q6.2))) = _
              rw [if_neg (fun z => lg_npos.mp z hm), f2, Option.bind_some, f3, Option.bind_some, if_pos hm]
            · refine ⟨τ1, ?_, kg1⟩
              rw [if_pos (lg_npos.mpr hm), if_neg hm, Int64.add_zero]
          · omega
        obtain ⟨τ2, f2, k2⟩ := step 0 (N' + 3) (sGain g y (g 12 1) (nI (c + sCn g y)) th) τ1 (by decide) g1 r1
        have g2 := k2.q.g.trans g1
        have r2 := k2.row hL r1
        obtain ⟨τ3, f3, k3⟩ := step 1 (N' + 2) _ τ2 (by decide) g2 r2
        obtain ⟨τ4, f4, k4⟩ := step 2 (N' + 1) _ τ3 (by decide) (k3.q.g.trans g2) (k3.row hL r2)
        refine ⟨τ4, ?_, ((k01.trans k2).trans k3).trans k4⟩
        unfold B_X12_tells
        rw [if_neg (nI_ne0 (by omega) (by omega)), rF hg (by decide), hD.1, if_pos (nI_le (by omega) (by omega)), f0, Option.bind_some]
        show F_X12_tells_b58 (N' + 4) (G_X12_tells (N' + 4) k) (N' + 4) (nI y) (nI d) (nI (l + 1)) (nI c + sCost g y) 0 (nI 0) τ0 = _
        rw [ec, nI_add, show F_X12_tells_b58 (N' + 4) (G_X12_tells (N' + 4) k) (N' + 4) (nI y) (nI d) (nI (l + 1)) (nI (c + sCn g y)) 0 (nI 0) τ0 = _ from f1]
        show F_X12_tells_b131 (N' + 4) (G_X12_tells (N' + 4) k) (N' + 3 + 1) (nI y) (nI d) (nI (l + 1)) (nI (c + sCn g y)) (sGain g y (g 12 1) (nI (c + sCn g y)) th) (nI 0) τ1 = _
        rw [f2, f3, f4, F_X12_tells_b131.eq_2, if_pos (show (3 : Int32) ≤ nI (2 + 1) by decide)]
        rfl
def sBore (g : Nat → Nat → Int32) (y : Nat) (th : Nat → Int64) (n : Nat) : Int64 := sTold g (sD g + 1 - y) n y 0 th - sMx (sGoes g (g 12 1) (sD g + 1 - y) y th)
theorem x_bore (N : Nat) (hN : 160 ≤ N) {g : Nat → Nat → Int32} (hw : Wf g) (y : Nat) (h1y : 1 ≤ y) (h6 : y ≤ 6) (n : Nat) (hn : n ≤ 5) (th : Nat → Int64) (σ : Mem) (h : HX σ g) (h1 : ∀ j, j < sL g → σ.2.2.2.1 50 y j = th j) :
    ∃ τ, F_X6_boreWorth N (nI y) (nI n) σ = some (sBore g y th n, τ) ∧ KP y σ τ := by
  have hD := (sD_eq hw).2
  obtain ⟨τ1, e1, k1⟩ := x_told N hN hw (sD g + 1 - y) 10 n y 0 th σ (by omega) rfl h1y h6 hn h h1
  obtain ⟨τ2, e2, k2⟩ := x_worthOf N (by omega) hw y h1y h6 th τ1 (h.kx k1.x) (k1.row h1)
  refine ⟨τ2, ?_, k1.trans k2⟩
  unfold F_X6_boreWorth
  rw [show F_X6_toldBy N (nI n) (nI y) (0 : Int32) σ = _ from e1, Option.bind_some, e2]
  rfl
theorem m_bore (N : Nat) (hN : 160 ≤ N) {g : Nat → Nat → Int32} (hw : Wf g) (p : Nat) (hp : p < 4) (n : Nat) (hn : n ≤ 5) (th : Nat → Int64) (σ : Mem) (hg : gM σ = g) (h1 : ∀ j, j < sL g → σ.2.2.2.1 102 0 (5 * 0 + j) = th j) :
    ∃ τ, F_X12_boreOf N (nI p) (nI n) σ = some (sBore g (sDug g p + 1) th n, τ) ∧ KG 0 σ τ := by
  have hD := (sD_eq hw).2
  obtain ⟨ed, hd⟩ := sDug_eq hw hp
  obtain ⟨τ1, e1, k1⟩ := m_told N hN hw (sD g + 1 - (sDug g p + 1)) 10 n (sDug g p + 1) 0 0 th σ (by omega) rfl (by omega) (by omega) (by omega) hn (by omega) hg h1
  have g1 := k1.q.g.trans hg
  obtain ⟨τ2, e2, k2⟩ := m_valueOf N hN hw (sDug g p + 1) 0 (by omega) (by omega) (by omega) th τ1 g1 (k1.row (sL_le hw) h1)
  refine ⟨τ2, ?_, k1.trans k2⟩
  unfold F_X12_boreOf
  rw [if_neg (out_nI hp (by decide))]
  simp only [nI_clamp (show p < 2 ^ 31 by omega)]
  rw [rA hg (by decide) (by decide), ed, nI_1, show F_X12_tells N (nI (sDug g p + 1)) (0 : Int32) (nI n) (0 : Int32) σ = _ from e1, Option.bind_some, if_neg (out_nI hp (by decide))]
  show (F_X12_valueOf N (τ1.2.2.1 77 0 p + 1) (nI 0) τ1).bind _ = _
  rw [rA g1 (by decide) (by decide), ed, nI_1, e2]
  rfl
theorem c_bore (N : Nat) (hN : 160 ≤ N) (a b : Int32) (σ : Mem) (h : Ag σ) : Ac (F_X11_bore N a b) (F_X12_bore N a b) σ := by
  obtain ⟨hx, hw⟩ := h
  have hL := sL_le hw
  have hP := (sPl_eq hw).2
  rcases rg_c a (c := sPl (gM σ)) (by omega) with ⟨p, hp, rfl⟩ | hq
  rotate_left
  · refine Ac.st (r := Int64.ofInt (-4611686018427387904)) ⟨hx, hw⟩ ?_ ?_
    · unfold F_X11_bore; rw [x_plN hw hx hq, Option.bind_some, k00]
    · unfold F_X12_bore; rw [m_plN hw rfl hq, Option.bind_some, k00]
  rcases rg_m b 0 5 (by decide) (by decide) with ⟨n, n0, hn, rfl⟩ | hq
  rotate_left
  · refine Ac.st (r := Int64.ofInt (-4611686018427387904)) ⟨hx, hw⟩ ?_ ?_
    · unfold F_X11_bore; rw [x_plY hw hx hp, Option.bind_some, k10, show F_X11_within N b 0 5 _ = _ from x_in_n hq, Option.bind_some, k00]
    · unfold F_X12_bore; rw [m_plY hw rfl hp, Option.bind_some, k10, show F_X12_in N b 0 5 _ = _ from m_in_n hq, Option.bind_some, k00]
  have hp4 : p < 4 := by omega
  obtain ⟨τ1, e1, k1, r1⟩ := x_openYard N (by omega) hw p hp4 σ hx
  obtain ⟨ed, hd⟩ := sDug_eq hw hp4
  cases hc : sOpen (gM σ) p with
  | false =>
    have g1 : gM τ1 = gM σ := k1.g
    obtain ⟨τ2, e2, k2, r2⟩ := m_goesHere N hN hw p hp4 (sL_pos hw hp) τ1 g1
    rw [hc] at e1 e2
    refine Ac.mk (r := Int64.ofInt (-3)) (τ1 := τ1) (τ2 := τ2) ⟨hx, hw⟩ ?_ k1.y ?_ k2.m
    · unfold F_X11_bore
      rw [x_plY hw hx hp, Option.bind_some, k10, show F_X11_within N (nI n) 0 5 _ = _ from x_rgY n0 hn (by decide), Option.bind_some, k10, e1]
      rfl
    · unfold F_X12_bore
      rw [m_plY hw g1 hp, Option.bind_some, k10, show F_X12_in N (nI n) 0 5 _ = _ from m_rgY n0 hn (by decide), Option.bind_some, k10, e2]
      rfl
  | true =>
    obtain ⟨τ2, e2, k2⟩ := x_bore N hN hw (sDug (gM σ) p + 1) (by omega) (by omega) n hn _ τ1 (hx.kx k1) (r1 hc)
    have g2 : gM τ2 = gM σ := k2.x.g.trans k1.g
    obtain ⟨τ3, e3, k3, r3⟩ := m_goesHere N hN hw p hp4 (sL_pos hw hp) τ2 g2
    have g3 : gM τ3 = gM σ := k3.g.trans g2
    obtain ⟨τ4, e4, k4⟩ := m_bore N hN hw p hp4 n hn _ τ3 g3 (r3 hc)
    rw [hc] at e1 e3
    refine Ac.mk (r := sBore (gM σ) (sDug (gM σ) p + 1) (sTh (gM σ) p (sDug (gM σ) p)) n) (τ1 := τ2) (τ2 := τ4) ⟨hx, hw⟩ ?_ (k1.trans k2.x).y ?_ (k3.trans k4.q).m
    · unfold F_X11_bore
      rw [x_plY hw hx hp, Option.bind_some, k10, show F_X11_within N (nI n) 0 5 _ = _ from x_rgY n0 hn (by decide), Option.bind_some, k10, e1, Option.bind_some, if_pos rfl, if_neg (nI_ne0 (by omega) (by omega)), e2, Option.bind_some]
    · unfold F_X12_bore
      rw [m_plY hw g2 hp, Option.bind_some, k10, show F_X12_in N (nI n) 0 5 _ = _ from m_rgY n0 hn (by decide), Option.bind_some, k10, e3, Option.bind_some, if_pos rfl, k10, e4, Option.bind_some]
/-- what so many yards ahead bring, less their price; the best of the first n -/
def sLess (g : Nat → Nat → Int32) (y : Nat) (th : Nat → Int64) (c : Int32) (n : Nat) : Int64 := sBore g y th n - ((nI n).toInt64 * 1000000) * c.toInt64
def sFar (g : Nat → Nat → Int32) (y : Nat) (th : Nat → Int64) (c : Int32) : Nat → Nat × Int64
  | 0 => (0, 0)
  | n + 1 => if n = 0 then (0, sLess g y th c 0) else if lg_cmp (sLess g y th c n) (sFar g y th c n).2 ≤ 0 then sFar g y th c n else (n, sLess g y th c n)
theorem x_far8 (N : Nat) (hN : 160 ≤ N) {g : Nat → Nat → Int32} (hw : Wf g) (y : Nat) (h1y : 1 ≤ y) (h6 : y ≤ 6) (c : Int32) (th : Nat → Int64) : ∀ (q n j : Nat) (σ : Mem), j + q = 6 → q < n → HX σ g → (∀ j, j < sL g → σ.2.2.2.1 50 y j = th j) →
    ∃ τ, F_X6_bestBore_b8 N n (nI y) c (nI (sFar g y th c j).1) (sFar g y th c j).2 (nI j) σ = some (nI (sFar g y th c 6).1, τ) ∧ KP y σ τ := by
  intro q
  induction q with
  | zero =>
    intro n j σ hk hn h h1
    cases n with
    | zero => cases hn
    | succ n =>
      refine ⟨σ, ?_, KP.rfl_ y σ⟩
      rw [F_X6_bestBore_b8.eq_2, if_pos (ltL_a 5 5 rfl (by omega) (by omega)), show j = 6 by omega]
  | succ q ih =>
    intro n j σ hk hn h h1
    cases n with
    | zero => cases hn
    | succ n =>
      obtain ⟨τ1, e1, k1⟩ := x_bore N hN hw y h1y h6 j (by omega) th σ h h1
      obtain ⟨τ2, e2, k2⟩ := ih n (j + 1) τ1 (by omega) (by omega) (h.kx k1.x) (k1.row h1)
      refine ⟨τ2, ?_, k1.trans k2⟩
      rw [F_X6_bestBore_b8.eq_2, if_neg (nltL_a 5 5 rfl (by omega) (by decide)), e1, Option.bind_some, nI_1]
      rw [sFar] at e2
      by_cases hj : j = 0
      · subst hj
        rw [if_pos (show nI 0 = 0 from rfl)]
        exact e2
      · rw [if_neg (nI_ne0 (by omega) (by omega))]
        rw [if_neg hj] at e2
        show (if lg_cmp (sLess g y th c j) (sFar g y th c j).2 ≤ 0 then F_X6_bestBore_b8 N n (nI y) c (nI (sFar g y th c j).1) (sFar g y th c j).2 (nI (j + 1)) τ1 else F_X6_bestBore_b8 N n (nI y) c (nI j) (sLess g y th c j) (nI (j + 1)) τ1) = _
        by_cases hc : lg_cmp (sLess g y th c j) (sFar g y th c j).2 ≤ 0
        · rw [if_pos hc]; rw [if_pos hc] at e2; exact e2
        · rw [if_neg hc]; rw [if_neg hc] at e2; exact e2
theorem m_far44 (N : Nat) (hN : 160 ≤ N) {g : Nat → Nat → Int32} (hw : Wf g) (p : Nat) (hp : p < 4) (c : Int32) (th : Nat → Int64) : ∀ (q n j : Nat) (σ : Mem), j + q = 6 → q < n → gM σ = g → (∀ j, j < sL g → σ.2.2.2.1 102 0 (5 * 0 + j) = th j) →
    ∃ τ, F_X12_far_b44 N n (nI p) c (nI (sFar g (sDug g p + 1) th c j).1) (sFar g (sDug g p + 1) th c j).2 (nI j) σ = some (nI (sFar g (sDug g p + 1) th c 6).1, τ) ∧ KG 0 σ τ := by
  intro q
  induction q with
  | zero =>
    intro n j σ hk hn hg h1
    cases n with
    | zero => cases hn
    | succ n =>
      refine ⟨σ, ?_, KG.rfl_ 0 σ⟩
      rw [F_X12_far_b44.eq_2, if_pos (ltL_a 5 5 rfl (by omega) (by omega)), show j = 6 by omega]
  | succ q ih =>
    intro n j σ hk hn hg h1
    cases n with
    | zero => cases hn
    | succ n =>
      obtain ⟨τ1, e1, k1⟩ := m_bore N hN hw p hp j (by omega) th σ hg h1
      obtain ⟨τ2, e2, k2⟩ := ih n (j + 1) τ1 (by omega) (by omega) (k1.q.g.trans hg) (k1.row (sL_le hw) h1)
      refine ⟨τ2, ?_, k1.trans k2⟩
      rw [F_X12_far_b44.eq_2, if_neg (nltL_a 5 5 rfl (by omega) (by decide)), e1, Option.bind_some, nI_1]
      rw [sFar] at e2
      by_cases hj : j = 0
      · subst hj
        rw [if_pos (show nI 0 = 0 from rfl)]
        exact e2
      · rw [if_neg (nI_ne0 (by omega) (by omega))]
        rw [if_neg hj] at e2
        show (if lg_cmp (sLess g (sDug g p + 1) th c j) (sFar g (sDug g p + 1) th c j).2 ≤ 0 then F_X12_far_b44 N n (nI p) c (nI (sFar g (sDug g p + 1) th c j).1) (sFar g (sDug g p + 1) th c j).2 (nI (j + 1)) τ1 else F_X12_far_b44 N n (nI p) c (nI j) (sLess g (sDug g p + 1) th c j) (nI (j + 1)) τ1) = _
        by_cases hc : lg_cmp (sLess g (sDug g p + 1) th c j) (sFar g (sDug g p + 1) th c j).2 ≤ 0
        · rw [if_pos hc]; rw [if_pos hc] at e2; exact e2
        · rw [if_neg hc]; rw [if_neg hc] at e2; exact e2
theorem c_far (N : Nat) (hN : 160 ≤ N) (a b : Int32) (σ : Mem) (h : Ag σ) : Ac (F_X11_far N a b) (F_X12_far N a b) σ := by
  obtain ⟨hx, hw⟩ := h
  have hL := sL_le hw
  have hP := (sPl_eq hw).2
  rcases rg_c a (c := sPl (gM σ)) (by omega) with ⟨p, hp, rfl⟩ | hq
  rotate_left
  · refine Ac.st (r := Int32.ofInt (-5)) ⟨hx, hw⟩ ?_ ?_
    · unfold F_X11_far; rw [x_plN hw hx hq, Option.bind_some, k00]
    · unfold F_X12_far; rw [m_plN hw rfl hq, Option.bind_some, k00]
  rcases rg_m b 0 999 (by decide) (by decide) with ⟨n, n0, hn, rfl⟩ | hq
  rotate_left
  · refine Ac.st (r := Int32.ofInt (-7)) ⟨hx, hw⟩ ?_ ?_
    · unfold F_X11_far; rw [x_plY hw hx hp, Option.bind_some, k10, show F_X11_within N b 0 999 _ = _ from x_in_n hq, Option.bind_some, k00]
    · unfold F_X12_far; rw [m_plY hw rfl hp, Option.bind_some, k10, show F_X12_in N b 0 999 _ = _ from m_in_n hq, Option.bind_some, k00]
  have hp4 : p < 4 := by omega
  obtain ⟨τ1, e1, k1, r1⟩ := x_openYard N (by omega) hw p hp4 σ hx
  obtain ⟨ed, hd⟩ := sDug_eq hw hp4
  cases hc : sOpen (gM σ) p with
  | false =>
    have g1 : gM τ1 = gM σ := k1.g
    obtain ⟨τ2, e2, k2, r2⟩ := m_goesHere N hN hw p hp4 (sL_pos hw hp) τ1 g1
    rw [hc] at e1 e2
    refine Ac.mk (r := Int32.ofInt (-3)) (τ1 := τ1) (τ2 := τ2) ⟨hx, hw⟩ ?_ k1.y ?_ k2.m
    · unfold F_X11_far
      rw [x_plY hw hx hp, Option.bind_some, k10, show F_X11_within N (nI n) 0 999 _ = _ from x_rgY n0 hn (by decide), Option.bind_some, k10, e1]
      rfl
    · unfold F_X12_far
      rw [m_plY hw g1 hp, Option.bind_some, k10, show F_X12_in N (nI n) 0 999 _ = _ from m_rgY n0 hn (by decide), Option.bind_some, k10, e2]
      rfl
  | true =>
    obtain ⟨τ2, e2, k2⟩ := x_far8 N hN hw (sDug (gM σ) p + 1) (by omega) (by omega) (nI n) _ 6 N 0 τ1 (by omega) (by omega) (hx.kx k1) (r1 hc)
    have g2 : gM τ2 = gM σ := k2.x.g.trans k1.g
    obtain ⟨τ3, e3, k3, r3⟩ := m_goesHere N hN hw p hp4 (sL_pos hw hp) τ2 g2
    have g3 : gM τ3 = gM σ := k3.g.trans g2
    obtain ⟨τ4, e4, k4⟩ := m_far44 N hN hw p hp4 (nI n) _ 6 N 0 τ3 (by omega) (by omega) g3 (r3 hc)
    rw [hc] at e1 e3
    refine Ac.mk (r := nI (sFar (gM σ) (sDug (gM σ) p + 1) (sTh (gM σ) p (sDug (gM σ) p)) (nI n) 6).1) (τ1 := τ2) (τ2 := τ4) ⟨hx, hw⟩ ?_ (k1.trans k2.x).y ?_ (k3.trans k4.q).m
    · unfold F_X11_far
      rw [x_plY hw hx hp, Option.bind_some, k10, show F_X11_within N (nI n) 0 999 _ = _ from x_rgY n0 hn (by decide), Option.bind_some, k10, e1, Option.bind_some, if_pos rfl, if_neg (nI_ne0 (by omega) (by omega))]
      unfold F_X6_bestBore
      rw [show F_X6_bestBore_b8 N N (nI (sDug (gM σ) p + 1)) (nI n) (0 : Int32) (0 : Int64) (0 : Int32) τ1 = _ from e2, Option.bind_some]
    · unfold F_X12_far
      rw [m_plY hw g2 hp, Option.bind_some, k10, show F_X12_in N (nI n) 0 999 _ = _ from m_rgY n0 hn (by decide), Option.bind_some, k10, e3, Option.bind_some, if_pos rfl, k10]
      exact e4

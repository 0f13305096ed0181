/-! THE PURE SIDE, 4: what the class reckons ahead -/
def KW (σ τ : Mem) : Prop := τ.1 = σ.1 ∧ τ.2.1 = σ.2.1 ∧ (∀ t, t ≠ 42 → t ≠ 44 → t ≠ 46 → t ≠ 47 → t ≠ 48 → τ.2.2.1 t = σ.2.2.1 t) ∧ τ.2.2.2 = σ.2.2.2
theorem KW.rfl_ (σ : Mem) : KW σ σ := ⟨rfl, rfl, fun _ _ _ _ _ _ => rfl, rfl⟩
theorem KW.trans {σ τ υ : Mem} (h : KW σ τ) (k : KW τ υ) : KW σ υ := ⟨k.1.trans h.1, k.2.1.trans h.2.1, fun t a b c d e => (k.2.2.1 t a b c d e).trans (h.2.2.1 t a b c d e), k.2.2.2.trans h.2.2.2⟩
theorem KV.kw {σ τ : Mem} (h : KV σ τ) : KW σ τ := ⟨h.1, h.2.1, fun t _ _ _ _ e => h.2.2.1 t e, h.2.2.2⟩
theorem KW.w {σ : Mem} {t r k : Nat} {v : Int32} (h : t = 42 ∨ t = 44 ∨ t = 46 ∨ t = 47 ∨ t = 48) : KW σ (σ.1, σ.2.1, hwU3 σ.2.2.1 t r k v, σ.2.2.2.1, σ.2.2.2.2) := ⟨rfl, rfl, fun a _ _ _ _ _ => hwU3_t (by omega), rfl⟩
theorem KW.g {σ τ : Mem} (h : KW σ τ) : gM τ = gM σ := by
  funext t k
  unfold gM
  cases Nat.beq t 12 with
  | true =>
    show (bif Nat.ble k 40 then τ.1 12 k else 0) = (bif Nat.ble k 40 then σ.1 12 k else 0)
    rw [h.1]
  | false =>
    cases h1 : (Nat.ble 72 t && Nat.ble t 97) with
    | false => rfl
    | true =>
      have h2 := Nat.le_of_ble_eq_true (and_t h1).1
      show τ.2.2.1 t 0 k = σ.2.2.1 t 0 k
      rw [h.2.2.1 t (by omega) (by omega) (by omega) (by omega) (by omega)]
theorem HX0.kw {σ τ : Mem} {g : Nat → Nat → Int32} (h : HX0 σ g) (k : KW σ τ) : HX0 τ g := by
  obtain ⟨k1, -, k3, -⟩ := k
  have e : ∀ t, t < 42 ∨ 48 < t → τ.2.2.1 t = σ.2.2.1 t := fun t ht => k3 t (by omega) (by omega) (by omega) (by omega) (by omega)
  unfold HX0
  rw [k1]
  simp only [e 28 (by decide), e 22 (by decide), e 23 (by decide), e 24 (by decide), e 26 (by decide), e 27 (by decide), e 55 (by decide), e 57 (by decide), e 58 (by decide), e 59 (by decide), e 61 (by decide), e 65 (by decide), e 66 (by decide), e 67 (by decide), e 20 (by decide), e 21 (by decide), e 62 (by decide), e 29 (by decide), e 31 (by decide), e 34 (by decide), e 35 (by decide), e 33 (by decide), e 37 (by decide), e 70 (by decide), e 71 (by decide), e 69 (by decide), e 41 (by decide), e 39 (by decide)]
  exact h
theorem clamp_eq (v most : Int32) (h : 0 < most) : (if (0 : Int32) < (if v < most then v else most) then (if v < most then v else most) else (0 : Int32)) = sClamp most v := by
  unfold sClamp
  have e0 : (0 : Int32).toInt = 0 := by decide
  have h := Int32.lt_iff_toInt_lt.mp h
  by_cases a : v < most
  · have a' := Int32.lt_iff_toInt_lt.mp a
    rw [if_pos a]
    by_cases b : (0 : Int32) < v
    · have b' := Int32.lt_iff_toInt_lt.mp b
      rw [if_pos b, if_pos (Int32.le_iff_toInt_le.mpr (by omega)), if_pos (Int32.le_iff_toInt_le.mpr (by omega))]
    · rw [if_neg b]
      by_cases c : (0 : Int32) ≤ v
      · have c' := Int32.le_iff_toInt_le.mp c
        have b' : ¬ (0 : Int32).toInt < v.toInt := fun z => b (Int32.lt_iff_toInt_lt.mpr z)
        rw [if_pos c, if_pos (Int32.le_iff_toInt_le.mpr (by omega))]
        exact Int32.toInt_inj.mp (by omega)
      · rw [if_neg c]
  · have a' : ¬ v.toInt < most.toInt := fun z => a (Int32.lt_iff_toInt_lt.mpr z)
    rw [if_neg a, if_pos (Int32.lt_iff_toInt_lt.mpr (by omega)), if_pos (Int32.le_iff_toInt_le.mpr (by omega))]
    by_cases c : v ≤ most
    · have c' := Int32.le_iff_toInt_le.mp c
      rw [if_pos c]
      exact Int32.toInt_inj.mp (by omega)
    · rw [if_neg c]
theorem x_part (N : Nat) (hN : 160 < N) {g : Nat → Nat → Int32} (hw : Wf g) (q : Nat) (hq : q < 3) (most : Int32) (hm : 0 < most) (nm : Nat → Int32) (σ : Mem) (h : HX0 σ g) (hnm : ∀ i, i < 6 → σ.2.2.1 47 0 i = nm i) :
    ∃ τ, F_X4_part N (nI q) most σ = some (sVal g q most nm, τ) ∧ KV σ τ := by
  have hrl : sRl g < (g 12 27).toNatClampNeg := hw.rl.2
  have htx : (g 12 27).toNatClampNeg ≤ 6 := hw.tx.2
  obtain ⟨s1, s2, s3, s4⟩ := hw.cs _ hrl
  obtain ⟨c1, c2, c3⟩ := h.cs _ q hrl hq
  have hr : σ.1 2 10 = nI (sRl g) := h.rl.trans hw.rl.1.1
  have a0 := s2 0 (by omega); have a1 := s2 1 (by omega); have a2 := s2 2 (by omega)
  have hl : (sCs g (sRl g) q).length = sSt g (sRl g) (q + 1) - sSt g (sRl g) q := by simp [sCs]
  have hle := s2 q hq
  have hs : sSt g (sRl g) (q + 1) ≤ 157 := by
    match q, hq with
    | 0, _ => exact Nat.le_trans a1 (Nat.le_trans a2 s3)
    | 1, _ => exact Nat.le_trans a2 s3
    | 2, _ => exact s3
  obtain ⟨τ, e1, e2⟩ := xw_loop N (sRl g) nm (sCs g (sRl g) q) N (sSt g (sRl g) q + q) [] σ (by omega) (fun i c hc => by
      have := sCs_get hc
      obtain ⟨hi, -⟩ := List.getElem?_eq_some_iff.mp hc
      rw [c2 i (by omega), this]) (by rw [hl, show sSt g (sRl g) q + q + (sSt g (sRl g) (q + 1) - sSt g (sRl g) q) = sSt g (sRl g) (q + 1) + q by omega]; exact c3) (by omega) (Nat.zero_le _) (s4 q hq) trivial hnm
  refine ⟨τ, ?_, e2⟩
  unfold F_X4_part F_X4_worked_t39
  rw [hr, if_neg (out_nI (by omega) (by decide)), if_neg (out_nI (by omega) (by decide)), if_neg (out_nI hq (by decide)), nI_clamp (by omega), nI_clamp (by omega), c1]
  rw [show (if (0 : Int32) < nI (sSt g (sRl g) q + q) then nI (sSt g (sRl g) q + q) else 0) = nI (sSt g (sRl g) q + q) by
    by_cases z : sSt g (sRl g) q + q = 0
    · rw [z]; rfl
    · rw [if_pos (ltL_a 0 0 rfl (by omega) (by omega))]]
  rw [show (0 : Int32) = nI ([] : List Int32).length from rfl, e1]
  show some ((if (0 : Int32) < (if _ < most then _ else most) then (if _ < most then _ else most) else (0 : Int32)), τ) = _
  rw [clamp_eq _ _ hm]
  rfl
theorem x_weighLayers (N : Nat) (hN : 160 < N) {g : Nat → Nat → Int32} (hw : Wf g) (y : Nat) : ∀ (r n k : Nat) (σ : Mem), k + r = (g 12 5).toNatClampNeg → r < n → HX0 σ g → σ.2.2.1 47 0 0 = nI y → σ.2.2.1 47 0 4 = g 12 2 → σ.2.2.1 47 0 5 = 0 →
    ∃ τ, F_X4_weighLayers_t44_b2 N n y (nI k) σ = some ((), τ) ∧ KW σ τ ∧ (∀ j, k ≤ j → j < (g 12 5).toNatClampNeg → τ.2.2.1 44 y j = sWat g y j) ∧ (∀ a b, a ≠ y ∨ b < k → τ.2.2.1 44 a b = σ.2.2.1 44 a b) ∧ τ.2.2.1 42 = σ.2.2.1 42 ∧ τ.2.2.1 46 = σ.2.2.1 46 ∧ (∀ i, τ.2.2.1 47 0 i = if i = 1 ∨ i = 2 ∨ i = 3 then 0 else σ.2.2.1 47 0 i) := by
  intro r
  have hL := hw.ly
  have hL5 := hL.2
  induction r with
  | zero =>
    intro n k σ hk hn h n0 n4 n5
    cases n with
    | zero => cases hn
    | succ n =>
      refine ⟨(σ.1, σ.2.1, (hwU3 (hwU3 (hwU3 σ.2.2.1 47 0 1 (0 : Int32)) 47 0 2 (0 : Int32)) 47 0 3 (0 : Int32)), σ.2.2.2.1, σ.2.2.2.2), ?_, ⟨rfl, rfl, fun t _ _ _ e _ => by simp only [hwU3_t e], rfl⟩, fun j h1 h2 => by omega, fun a b _ => by simp only [hwU3_t (show (44 : Nat) ≠ 47 by decide)], by simp only [hwU3_t (show (42 : Nat) ≠ 47 by decide)], by simp only [hwU3_t (show (46 : Nat) ≠ 47 by decide)], fun i => ?_⟩
      · unfold F_X4_weighLayers_t44_b2
        rw [h.ly, hL.1, if_pos (nI_le (by omega) (by omega))]
      · show hwU3 (hwU3 (hwU3 σ.2.2.1 47 0 1 0) 47 0 2 0) 47 0 3 0 47 0 i = _
        simp only [hwU3_get]
        by_cases i3 : i = 3
        · simp [i3]
        · by_cases i2 : i = 2
          · simp [i2]
          · by_cases i1 : i = 1
            · simp [i1]
            · simp [i1, i2, i3]
  | succ r ih =>
    intro n k σ hk hn h n0 n4 n5
    cases n with
    | zero => cases hn
    | succ n =>
      have hk5 : k < 5 := by have := hL.2; omega
      have kw1 : KW σ (σ.1, σ.2.1, (hwU3 (hwU3 (hwU3 σ.2.2.1 47 0 1 (nI k)) 47 0 2 (g 72 k)) 47 0 3 (g 73 k)), σ.2.2.2.1, σ.2.2.2.2) := ⟨rfl, rfl, fun t _ _ _ e _ => by simp only [hwU3_t e], rfl⟩
      obtain ⟨τ1, e1, k1⟩ := x_part N hN hw 1 (by decide) 100 (by decide) (sNm (nI y) (nI k) (g 72 k) (g 73 k) (g 12 2) 0) _ (h.kw kw1) (fun i hi => by
        show hwU3 (hwU3 (hwU3 σ.2.2.1 47 0 1 (nI k)) 47 0 2 (g 72 k)) 47 0 3 (g 73 k) 47 0 i = _
        match i, hi with
        | 0, _ => simp [hwU3_get, sNm, n0]
        | 1, _ => simp [hwU3_get, sNm]
        | 2, _ => simp [hwU3_get, sNm]
        | 3, _ => simp [hwU3_get, sNm]
        | 4, _ => simp [hwU3_get, sNm, n4]
        | 5, _ => simp [hwU3_get, sNm, n5])
      have kw2 : KW τ1 (τ1.1, τ1.2.1, hwU3 τ1.2.2.1 44 y k (sWat g y k), τ1.2.2.2.1, τ1.2.2.2.2) := KW.w (by decide)
      have kw := (kw1.trans k1.kw).trans kw2
      have t47 : τ1.2.2.1 47 = hwU3 (hwU3 (hwU3 σ.2.2.1 47 0 1 (nI k)) 47 0 2 (g 72 k)) 47 0 3 (g 73 k) 47 := k1.2.2.1 47 (by decide)
      have n47 : ∀ i, i ≠ 1 → i ≠ 2 → i ≠ 3 → hwU3 τ1.2.2.1 44 y k (sWat g y k) 47 0 i = σ.2.2.1 47 0 i := fun i a b c => by
        rw [hwU3_t (by decide), t47, hwU3_k c, hwU3_k b, hwU3_k a]
      obtain ⟨τ, f1, f2, f3, f4, f5, f6, f7⟩ := ih n (k + 1) (τ1.1, τ1.2.1, hwU3 τ1.2.2.1 44 y k (sWat g y k), τ1.2.2.2.1, τ1.2.2.2.2) (by omega) (by omega) (h.kw kw) (by rw [← n0]; exact n47 0 (by decide) (by decide) (by decide)) (by rw [← n4]; exact n47 4 (by decide) (by decide) (by decide)) (by rw [← n5]; exact n47 5 (by decide) (by decide) (by decide))
      have t44 : τ1.2.2.1 44 = σ.2.2.1 44 := by rw [k1.2.2.1 44 (by decide)]; simp only [hwU3_t (show (44 : Nat) ≠ 47 by decide)]
      refine ⟨τ, ?_, kw.trans f2, fun j h1 h2 => ?_, fun a b hab => ?_, ?_, ?_, fun i => ?_⟩
      · unfold F_X4_weighLayers_t44_b2
        rw [h.ly, hL.1, if_neg (nI_ge (by omega) (by omega)), if_neg (out_nI hk5 (by decide)), if_neg (out_nI hk5 (by decide))]
        rw [show F_X4_part N (1 : Int32) (100 : Int32) (σ.1, σ.2.1, hwU3 (hwU3 (hwU3 σ.2.2.1 47 0 1 (nI k)) 47 0 2 (σ.2.2.1 22 0 (nI k).toNatClampNeg)) 47 0 3 (σ.2.2.1 23 0 (nI k).toNatClampNeg), σ.2.2.2.1, σ.2.2.2.2) = some (sWat g y k, τ1) by rw [nI_clamp (by omega), h.bs k hk5, h.sa k hk5]; exact e1]
        show (if hwOut (nI k) 5 then none else F_X4_weighLayers_t44_b2 N n y (nI k + 1) (τ1.1, τ1.2.1, hwU3 τ1.2.2.1 44 y (nI k).toNatClampNeg (sWat g y k), τ1.2.2.2.1, τ1.2.2.2.2)) = _
        rw [if_neg (out_nI hk5 (by decide)), nI_1, nI_clamp (by omega)]
        exact f1
      · by_cases e : j = k
        · subst e
          rw [f4 y j (Or.inr (by omega))]
          exact hwU3_eq
        · exact f3 j (by omega) h2
      · rw [f4 a b (hab.imp id (fun h => by omega))]
        show hwU3 τ1.2.2.1 44 y k (sWat g y k) 44 a b = _
        rw [← t44]
        rcases hab with h | h
        · rw [hwU3_r h]
        · rw [hwU3_k (by omega)]
      · rw [f5]
        show hwU3 τ1.2.2.1 44 y k (sWat g y k) 42 = _
        rw [hwU3_t (by decide), k1.2.2.1 42 (by decide)]; simp only [hwU3_t (show (42 : Nat) ≠ 47 by decide)]
      · rw [f6]
        show hwU3 τ1.2.2.1 44 y k (sWat g y k) 46 = _
        rw [hwU3_t (by decide), k1.2.2.1 46 (by decide)]; simp only [hwU3_t (show (46 : Nat) ≠ 47 by decide)]
      · rw [f7 i]
        by_cases hi : i = 1 ∨ i = 2 ∨ i = 3
        · rw [if_pos hi, if_pos hi]
        · rw [if_neg hi, if_neg hi]
          exact n47 i (fun z => hi (Or.inl z)) (fun z => hi (Or.inr (Or.inl z))) (fun z => hi (Or.inr (Or.inr z)))
theorem x_weigh38 (N : Nat) (hN : 160 < N) {g : Nat → Nat → Int32} (hw : Wf g) : ∀ (r n y : Nat) (σ : Mem), y + r = 6 → 1 ≤ y → r < n → HX0 σ g → (∀ i, i < 6 → i ≠ 0 → σ.2.2.1 47 0 i = if i = 4 then g 12 2 else 0) →
    ∃ τ, F_X4_weigh_b38 N n (nI y) σ = some ((), τ) ∧ KW σ τ ∧ (∀ a, y ≤ a → a ≤ 5 → τ.2.2.1 42 0 a = sCost g a ∧ (∀ j, j < (g 12 5).toNatClampNeg → τ.2.2.1 44 a j = sWat g a j) ∧ ∀ b, b < 2 → τ.2.2.1 46 b a = sFall g b a) ∧ (∀ a, a < y → τ.2.2.1 42 0 a = σ.2.2.1 42 0 a ∧ (∀ j, τ.2.2.1 44 a j = σ.2.2.1 44 a j) ∧ ∀ b, τ.2.2.1 46 b a = σ.2.2.1 46 b a) := by
  intro r
  have hL := hw.ly
  induction r with
  | zero =>
    intro n y σ hy h1 hn h hnm
    cases n with
    | zero => cases hn
    | succ n =>
      refine ⟨σ, ?_, KW.rfl_ σ, fun a h1 h2 => by omega, fun a _ => ⟨rfl, fun _ => rfl, fun _ => rfl⟩⟩
      unfold F_X4_weigh_b38
      rw [if_pos (ltL_a 5 5 rfl (by omega) (by omega))]
  | succ r ih =>
    intro n y σ hy h1 hn h hnm
    cases n with
    | zero => cases hn
    | succ n =>
      -- costs
      have kw1 : KW σ (σ.1, σ.2.1, hwU3 σ.2.2.1 47 0 0 (nI y), σ.2.2.2.1, σ.2.2.2.2) := KW.w (by decide)
      have m1 : ∀ i, i < 6 → hwU3 σ.2.2.1 47 0 0 (nI y) 47 0 i = sNm (nI y) 0 0 0 (g 12 2) 0 i := fun i hi => by
        match i, hi with
        | 0, _ => simp [hwU3_get, sNm]
        | 1, _ => simp [hwU3_get, sNm, hnm]
        | 2, _ => simp [hwU3_get, sNm, hnm]
        | 3, _ => simp [hwU3_get, sNm, hnm]
        | 4, _ => simp [hwU3_get, sNm, hnm]
        | 5, _ => simp [hwU3_get, sNm, hnm]
      obtain ⟨τ1, e1, k1⟩ := x_part N hN hw 0 (by decide) 999 (by decide) (sNm (nI y) 0 0 0 (g 12 2) 0) _ (h.kw kw1) m1
      -- falls, not lined
      have kw2 : KW τ1 (τ1.1, τ1.2.1, hwU3 τ1.2.2.1 42 0 y (sCost g y), τ1.2.2.2.1, τ1.2.2.2.2) := KW.w (by decide)
      have K2 := (kw1.trans k1.kw).trans kw2
      have t1 : ∀ t, t ≠ 48 → τ1.2.2.1 t = hwU3 σ.2.2.1 47 0 0 (nI y) t := fun t ht => k1.2.2.1 t ht
      have m2 : ∀ i, i < 6 → hwU3 τ1.2.2.1 42 0 y (sCost g y) 47 0 i = sNm (nI y) 0 0 0 (g 12 2) (nI 0) i := fun i hi => by
        rw [hwU3_t (by decide), t1 47 (by decide)]; exact m1 i hi
      obtain ⟨τ2, e2, k2⟩ := x_part N hN hw 2 (by decide) 100 (by decide) (sNm (nI y) 0 0 0 (g 12 2) (nI 0)) _ (h.kw K2) m2
      -- falls, lined
      have kw3 : KW τ2 (τ2.1, τ2.2.1, hwU3 (hwU3 τ2.2.2.1 46 0 y (sFall g 0 y)) 47 0 5 1, τ2.2.2.2.1, τ2.2.2.2.2) := ⟨rfl, rfl, fun t a b c d e => by show hwU3 (hwU3 _ _ _ _ _) _ _ _ _ t = _; rw [hwU3_t d, hwU3_t c], rfl⟩
      have K3 := (K2.trans k2.kw).trans kw3
      have t2 : ∀ t, t ≠ 48 → τ2.2.2.1 t = hwU3 τ1.2.2.1 42 0 y (sCost g y) t := fun t ht => k2.2.2.1 t ht
      have m3 : ∀ i, i < 6 → hwU3 (hwU3 τ2.2.2.1 46 0 y (sFall g 0 y)) 47 0 5 1 47 0 i = sNm (nI y) 0 0 0 (g 12 2) (nI 1) i := fun i hi => by
        by_cases e : i = 5
        · subst e; rw [hwU3_eq]; rfl
        · rw [hwU3_k e, hwU3_t (by decide), t2 47 (by decide), m2 i hi]
          match i, hi with
          | 0, _ => rfl
          | 1, _ => rfl
          | 2, _ => rfl
          | 3, _ => rfl
          | 4, _ => rfl
          | 5, _ => exact absurd rfl e
      obtain ⟨τ3, e3, k3⟩ := x_part N hN hw 2 (by decide) 100 (by decide) (sNm (nI y) 0 0 0 (g 12 2) (nI 1)) _ (h.kw K3) m3
      -- waters
      have kw4 : KW τ3 (τ3.1, τ3.2.1, hwU3 (hwU3 τ3.2.2.1 46 1 y (sFall g 1 y)) 47 0 5 0, τ3.2.2.2.1, τ3.2.2.2.2) := ⟨rfl, rfl, fun t a b c d e => by show hwU3 (hwU3 _ _ _ _ _) _ _ _ _ t = _; rw [hwU3_t d, hwU3_t c], rfl⟩
      have K4 := (K3.trans k3.kw).trans kw4
      have t3 : ∀ t, t ≠ 48 → τ3.2.2.1 t = hwU3 (hwU3 τ2.2.2.1 46 0 y (sFall g 0 y)) 47 0 5 1 t := fun t ht => k3.2.2.1 t ht
      have m4 : ∀ i, i < 6 → hwU3 (hwU3 τ3.2.2.1 46 1 y (sFall g 1 y)) 47 0 5 0 47 0 i = sNm (nI y) 0 0 0 (g 12 2) 0 i := fun i hi => by
        by_cases e : i = 5
        · subst e; rw [hwU3_eq]; rfl
        · rw [hwU3_k e, hwU3_t (by decide), t3 47 (by decide), m3 i hi]
          match i, hi with
          | 0, _ => rfl
          | 1, _ => rfl
          | 2, _ => rfl
          | 3, _ => rfl
          | 4, _ => rfl
          | 5, _ => exact absurd rfl e
      have hL5 := hL.2
      obtain ⟨τ4, f1, f2, f3, f4, f5, f6, f7⟩ := x_weighLayers N hN hw y (g 12 5).toNatClampNeg N 0 _ (by omega) (by omega) (h.kw K4) (m4 0 (by decide)) (m4 4 (by decide)) (m4 5 (by decide))
      have K5 := K4.trans f2
      obtain ⟨τ, j1, j2, j3, j4⟩ := ih n (y + 1) τ4 (by omega) (by omega) (by omega) (h.kw K5) (fun i hi h0 => by
        rw [f7 i]
        by_cases hi3 : i = 1 ∨ i = 2 ∨ i = 3
        · rw [if_pos hi3, if_neg (by omega)]
        · rw [if_neg hi3]
          show hwU3 (hwU3 τ3.2.2.1 46 1 y (sFall g 1 y)) 47 0 5 0 47 0 i = _
          rw [m4 i hi]
          match i, hi with
          | 0, _ => exact absurd rfl h0
          | 1, _ => rfl
          | 2, _ => rfl
          | 3, _ => rfl
          | 4, _ => rfl
          | 5, _ => rfl)
      have u42 : τ4.2.2.1 42 = hwU3 (σ.2.2.1) 42 0 y (sCost g y) 42 := by
        rw [f5]
        show hwU3 (hwU3 τ3.2.2.1 46 1 y (sFall g 1 y)) 47 0 5 0 42 = _
        rw [hwU3_t (by decide), hwU3_t (by decide), t3 42 (by decide), hwU3_t (by decide), hwU3_t (by decide), t2 42 (by decide)]
        funext a b
        rw [hwU3_get, hwU3_get, t1 42 (by decide), hwU3_t (by decide)]
      have u46 : τ4.2.2.1 46 = hwU3 (hwU3 (σ.2.2.1) 46 0 y (sFall g 0 y)) 46 1 y (sFall g 1 y) 46 := by
        rw [f6]
        show hwU3 (hwU3 τ3.2.2.1 46 1 y (sFall g 1 y)) 47 0 5 0 46 = _
        rw [hwU3_t (by decide)]
        funext a b
        rw [hwU3_get, hwU3_get, t3 46 (by decide), hwU3_t (by decide), hwU3_get, hwU3_get, t2 46 (by decide), hwU3_t (by decide), t1 46 (by decide), hwU3_t (by decide)]
      have u44 : ∀ a b, a ≠ y → τ4.2.2.1 44 a b = σ.2.2.1 44 a b := fun a b hab => by
        rw [f4 a b (Or.inl hab)]
        show hwU3 (hwU3 τ3.2.2.1 46 1 y (sFall g 1 y)) 47 0 5 0 44 a b = _
        rw [hwU3_t (by decide), hwU3_t (by decide), t3 44 (by decide), hwU3_t (by decide), hwU3_t (by decide), t2 44 (by decide), hwU3_t (by decide), t1 44 (by decide), hwU3_t (by decide)]
      refine ⟨τ, ?_, K5.trans j2, fun a ha1 ha2 => ?_, fun a ha => ?_⟩
      · unfold F_X4_weigh_b38
        rw [if_neg (nltL_a 5 5 rfl (by omega) (by decide))]
        rw [show F_X4_part N (0 : Int32) (999 : Int32) _ = _ from e1]
        show (if hwOut (nI y) 6 then none else (F_X4_part N (2 : Int32) (100 : Int32) (τ1.1, τ1.2.1, (hwU3 τ1.2.2.1 42 0 (nI y).toNatClampNeg (sCost g y)), τ1.2.2.2.1, τ1.2.2.2.2)).bind _) = _
        rw [if_neg (out_nI (by omega) (by decide))]
        simp only [nI_clamp (show y < 2 ^ 31 by omega)]
        rw [show F_X4_part N (2 : Int32) (100 : Int32) _ = _ from e2]
        show (if hwOut (nI y) 6 then none else (F_X4_part N (2 : Int32) (100 : Int32) (τ2.1, τ2.2.1, (hwU3 (hwU3 τ2.2.2.1 46 0 y (sFall g 0 y)) 47 0 5 (1 : Int32)), τ2.2.2.2.1, τ2.2.2.2.2)).bind _) = _
        rw [if_neg (out_nI (by omega) (by decide))]
        rw [show F_X4_part N (2 : Int32) (100 : Int32) _ = _ from e3]
        show (if hwOut (nI y) 6 then none else if hwOut (nI y) 6 then none else (F_X4_weighLayers_t44 N y (τ3.1, τ3.2.1, (hwU3 (hwU3 τ3.2.2.1 46 1 y (sFall g 1 y)) 47 0 5 (0 : Int32)), τ3.2.2.2.1, τ3.2.2.2.2)).bind _) = _
        rw [if_neg (out_nI (by omega) (by decide)), if_neg (out_nI (by omega) (by decide))]
        unfold F_X4_weighLayers_t44
        rw [show F_X4_weighLayers_t44_b2 N N y (0 : Int32) _ = _ from f1]
        show F_X4_weigh_b38 N n (nI y + 1) τ4 = _
        rw [nI_1]
        exact j1
      · by_cases e : a = y
        · subst e
          obtain ⟨z1, z2, z3⟩ := j4 a (Nat.lt_succ_self a)
          refine ⟨?_, fun j hj => ?_, fun b hb => ?_⟩
          · rw [z1, u42]; exact hwU3_eq
          · rw [z2 j]; exact f3 j (Nat.zero_le _) hj
          · rw [z3 b, u46]
            match b, hb with
            | 0, _ => rw [hwU3_r (by decide)]; exact hwU3_eq
            | 1, _ => exact hwU3_eq
        · exact j3 a (by omega) ha2
      · obtain ⟨z1, z2, z3⟩ := j4 a (Nat.lt_succ_of_lt ha)
        refine ⟨?_, fun j => ?_, fun b => ?_⟩
        · rw [z1, u42, hwU3_k (by omega)]
        · rw [z2 j, u44 a j (by omega)]
        · rw [z3 b, u46, hwU3_k (by omega), hwU3_k (by omega)]
theorem x_weigh2 (N : Nat) {g : Nat → Nat → Int32} : ∀ (r n k : Nat) (σ : Mem), k + r = 6 → r < n → HX0 σ g → (∀ i, i < k → σ.2.2.1 47 0 i = 0) →
    ∃ τ, F_X4_weigh_b2 N n (nI k) σ = F_X4_weigh_b38 N N 1 τ ∧ KW σ τ ∧ (∀ i, i < 6 → τ.2.2.1 47 0 i = if i = 4 then g 12 2 else 0) := by
  intro r
  induction r with
  | zero =>
    intro n k σ hk hn h hz
    cases n with
    | zero => cases hn
    | succ n =>
      refine ⟨(σ.1, σ.2.1, hwU3 σ.2.2.1 47 0 4 (σ.2.2.1 28 0 2), σ.2.2.2.1, σ.2.2.2.2), ?_, KW.w (by decide), fun i hi => ?_⟩
      · unfold F_X4_weigh_b2
        rw [if_pos (leL_a 6 6 rfl (by omega) (by omega))]
      · show hwU3 σ.2.2.1 47 0 4 (σ.2.2.1 28 0 2) 47 0 i = _
        rw [hwU3_get, h.set 2 (by decide)]
        by_cases e : i = 4
        · rw [if_pos ⟨rfl, rfl, e⟩, if_pos e]
        · rw [if_neg (fun z => e z.2.2), if_neg e, hz i (by omega)]
  | succ r ih =>
    intro n k σ hk hn h hz
    cases n with
    | zero => cases hn
    | succ n =>
      have kw : KW σ (σ.1, σ.2.1, hwU3 σ.2.2.1 47 0 k 0, σ.2.2.2.1, σ.2.2.2.2) := KW.w (by decide)
      obtain ⟨τ, e1, e2, e3⟩ := ih n (k + 1) _ (by omega) (by omega) (h.kw kw) (fun i hi => by
        show hwU3 σ.2.2.1 47 0 k 0 47 0 i = 0
        rw [hwU3_get]
        by_cases e : i = k
        · rw [if_pos ⟨rfl, rfl, e⟩]
        · rw [if_neg (fun z => e z.2.2), hz i (by omega)])
      refine ⟨τ, ?_, kw.trans e2, e3⟩
      rw [← e1]
      show (if (6 : Int32) ≤ nI k then _ else if hwOut (nI k) 6 then none else (F_X4_weigh_b2 N n) (nI k + 1) (σ.1, σ.2.1, (hwU3 σ.2.2.1 47 0 (nI k).toNatClampNeg (0 : Int32)), σ.2.2.2.1, σ.2.2.2.2)) = _
      rw [if_neg (geL_n 6 6 rfl (by omega) (by decide)), if_neg (out_nI (by omega) (by decide)), nI_clamp (by omega), nI_1]
/-- weigh(): all is as it has to be -/
theorem x_weigh (N : Nat) (hN : 160 < N) {g : Nat → Nat → Int32} (hw : Wf g) (σ : Mem) (h : HX0 σ g) : ∃ τ, F_X4_weigh N σ = some ((), τ) ∧ KW σ τ ∧ HX τ g := by
  obtain ⟨τ1, e1, k1, n1⟩ := x_weigh2 N 6 N 0 σ (by omega) (by omega) h (fun i hi => by omega)
  obtain ⟨τ, f1, f2, f3, f4⟩ := x_weigh38 N hN hw 5 N 1 τ1 (by omega) (by omega) (by omega) (h.kw k1) (fun i hi _ => n1 i hi)
  refine ⟨τ, ?_, k1.trans f2, h.kw (k1.trans f2), fun y h1 h2 => (f3 y h1 h2).1, fun y j h1 h2 hj => (f3 y h1 h2).2.1 j hj, fun b y hb h1 h2 => (f3 y h1 h2).2.2 b hb⟩
  unfold F_X4_weigh
  rw [show (0 : Int32) = nI 0 from rfl, e1]
  exact f1

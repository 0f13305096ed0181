/-! THE PURE SIDE, 9: the reference: going on -/
theorem k_out {α : Type} {k n : Nat} {a b : α} (h : k < n ∧ n < 2147483648) : (if hwOut (nI k) n then a else b) = b := if_neg (out_nI h.1 h.2)
theorem k_le_t {α : Type} {a b : Nat} {x y : α} (h : a ≤ b ∧ b < 2147483648) : (if nI a ≤ nI b then x else y) = x := if_pos (nI_le h.1 h.2)
theorem k_le_f {α : Type} {a b : Nat} {x y : α} (h : b < a ∧ a < 2147483648) : (if nI a ≤ nI b then x else y) = y := if_neg (nI_ge h.1 h.2)
theorem k_lt_t {α : Type} {a b : Nat} {x y : α} (h : a < b ∧ b < 2147483648) : (if nI a < nI b then x else y) = x := if_pos (nI_lt h.1 h.2)
theorem k_lt_f {α : Type} {a b : Nat} {x y : α} (h : b ≤ a ∧ a < 2147483648) : (if nI a < nI b then x else y) = y := if_neg (nI_nlt h.1 h.2)
theorem k_eq_t {α : Type} {a b : Nat} {x y : α} (h : a = b) : (if nI a = nI b then x else y) = x := if_pos (by rw [h])
theorem k_eq_f {α : Type} {a b : Nat} {x y : α} (h : a ≠ b ∧ a < 2147483648 ∧ b < 2147483648) : (if nI a = nI b then x else y) = y := if_neg (fun q => h.1 ((nI_eq h.2.1 h.2.2).mp q))
theorem k_cl {k : Nat} (h : k < 2147483648) : (nI k).toNatClampNeg = k := nI_clamp h
theorem l_0 : (0 : Int32) = nI 0 := rfl
theorem l_1 : (1 : Int32) = nI 1 := rfl
theorem l_2 : (2 : Int32) = nI 2 := rfl
theorem l_3 : (3 : Int32) = nI 3 := rfl
theorem l_4 : (4 : Int32) = nI 4 := rfl
theorem l_5 : (5 : Int32) = nI 5 := rfl
theorem k_sub {a b : Nat} (h : b ≤ a) : nI a - nI b = nI (a - b) := by
  obtain ⟨c, rfl⟩ : ∃ c, a = b + c := ⟨a - b, by omega⟩
  rw [← nI_add, Int32.add_comm, Int32.add_sub_cancel, Nat.add_sub_cancel_left]
/-- below row d nothing is written; of the dry rows none from the sixth on -/
def KG (d : Nat) (σ τ : Mem) : Prop := τ.1 = σ.1 ∧ τ.2.1 = σ.2.1 ∧ (∀ t, t ≠ 100 → t ≠ 101 → τ.2.2.1 t = σ.2.2.1 t) ∧ (∀ t, t ≠ 102 → t ≠ 103 → τ.2.2.2.1 t = σ.2.2.2.1 t) ∧ (∀ k, k < 5 * d + 5 → τ.2.2.2.1 102 0 k = σ.2.2.2.1 102 0 k) ∧ (∀ k, 30 ≤ k → τ.2.2.2.1 103 0 k = σ.2.2.2.1 103 0 k) ∧ τ.2.2.2.2 = σ.2.2.2.2
theorem KG.rfl_ (d : Nat) (σ : Mem) : KG d σ σ := ⟨rfl, rfl, fun _ _ _ => rfl, fun _ _ _ => rfl, fun _ _ => rfl, fun _ _ => rfl, rfl⟩
theorem KG.trans {d : Nat} {σ τ υ : Mem} (h : KG d σ τ) (k : KG d τ υ) : KG d σ υ := ⟨k.1.trans h.1, k.2.1.trans h.2.1, fun t a b => (k.2.2.1 t a b).trans (h.2.2.1 t a b), fun t a b => (k.2.2.2.1 t a b).trans (h.2.2.2.1 t a b), fun t a => (k.2.2.2.2.1 t a).trans (h.2.2.2.2.1 t a), fun t a => (k.2.2.2.2.2.1 t a).trans (h.2.2.2.2.2.1 t a), k.2.2.2.2.2.2.trans h.2.2.2.2.2.2⟩
theorem KG.q {d : Nat} {σ τ : Mem} (h : KG d σ τ) : KQ σ τ := ⟨h.1, h.2.1, h.2.2.1, h.2.2.2.1, h.2.2.2.2.2.2⟩
theorem KG.mono {d e : Nat} {σ τ : Mem} (h : KG d σ τ) (he : e ≤ d) : KG e σ τ := ⟨h.1, h.2.1, h.2.2.1, h.2.2.2.1, fun k hk => h.2.2.2.2.1 k (by omega), h.2.2.2.2.2.1, h.2.2.2.2.2.2⟩
theorem KE.kg {σ τ : Mem} (h : KE σ τ) (d : Nat) : KG d σ τ := ⟨h.1, h.2.1, h.2.2.1, fun t _ _ => by rw [h.2.2.2], fun k _ => by rw [h.2.2.2], fun k _ => by rw [h.2.2.2], by rw [h.2.2.2]⟩
theorem KDm.kg {e : Nat} {σ τ : Mem} (h : KDm e σ τ) (he : e ≤ 5) (d : Nat) : KG d σ τ := ⟨h.1, h.2.1, h.2.2.1, fun t _ b => h.2.2.2.1 t b, fun k _ => by rw [h.2.2.2.1 102 (by decide)], fun k hk => h.2.2.2.2.1 k (by omega), h.2.2.2.2.2⟩
theorem KBm.kg {d : Nat} {σ τ : Mem} (h : KBm d σ τ) : KG d σ τ := ⟨h.1, h.2.1, fun t _ _ => by rw [h.2.2.1], fun t a _ => h.2.2.2.1 t a, fun k hk => h.2.2.2.2.1 k (by omega), fun k hk => by rw [h.2.2.2.1 103 (by decide)], h.2.2.2.2.2⟩
theorem KG.row {d : Nat} {σ τ : Mem} (h : KG d σ τ) {th : Nat → Int64} {n : Nat} (hn : n ≤ 5) (hr : ∀ j, j < n → σ.2.2.2.1 102 0 (5 * d + j) = th j) : ∀ j, j < n → τ.2.2.2.1 102 0 (5 * d + j) = th j := fun j hj => by rw [h.2.2.2.2.1 _ (by omega)]; exact hr j hj
theorem m_worthOf (N : Nat) {g : Nat → Nat → Int32} (hw : Wf g) (j : Nat) (hj : j < sL g) (σ : Mem) (hg : gM σ = g) : F_X12_worthOf N (nI j) σ = some (sGood (g 12 1) (g 73 j) 0, σ) := by
  have hL := sL_le hw
  obtain ⟨ew, hwo⟩ := hw.wo
  obtain ⟨es, hsa⟩ := hw.sa j (by omega)
  unfold F_X12_worthOf sGood
  rw [if_neg (out_nI (show j < 5 by omega) (by decide)), if_neg (out_nI (show j < 5 by omega) (by decide)), nI_clamp (by omega), rF hg (by decide), rA hg (by decide) (by decide), Int32.sub_zero]
  generalize (g 12 1).toNatClampNeg = w at ew hwo
  generalize (g 73 j).toNatClampNeg = s at es hsa
  rw [ew, es]
  by_cases h : w ≤ s
  · rw [if_pos (nI_le h (by omega))]
    have e : ¬ (0 : Int32) < nI w - nI s := by
      intro q
      have a := Int32.lt_iff_toInt_lt.mp q
      have e0 : (0 : Int32).toInt = 0 := by decide
      rw [Int32.toInt_sub, nI_toInt (by omega), nI_toInt (by omega), e0, Int.bmod_eq_of_le (by omega) (by omega)] at a
      omega
    rw [if_neg e]
    rfl
  · rw [if_neg (nI_ge (by omega) (by omega)), k_sub (by omega), if_pos (ltL_a 0 0 rfl (by omega) (by omega))]
theorem m_goes24 (N : Nat) (hN : 160 ≤ N) {g : Nat → Nat → Int32} (hw : Wf g) (g0 g1 : Int32 → Int32 → Mem → Option (Int64 × Mem)) (y d : Nat) (hd : d ≤ 5) (C : Int64) (th : Nat → Int64) : ∀ (r n k : Nat) (σ : Mem), k + r = sL g → r < n → gM σ = g → (∀ j, j < sL g → σ.2.2.2.1 102 0 (5 * d + j) = th j) →
    ∃ τ, F_X12_goesOn_b24 N g0 g1 n (nI y) (nI d) (C + hzS (fun j => sWet g y th j * sGood (g 12 1) (g 73 j) 0) k) (nI k) σ = F_X12_goesOn_b76 N g0 g1 N (nI y) (nI d) (C + sGain g y (g 12 1) 0 th) (nI 0) τ ∧ KE σ τ := by
  intro r
  have hL := sL_le hw
  induction r with
  | zero =>
    intro n k σ hk hn hg h1
    cases n with
    | zero => cases hn
    | succ n =>
      refine ⟨σ, ?_, KE.rfl_ σ⟩
      rw [F_X12_goesOn_b24.eq_2, rL hw hg, if_pos (nI_le (by omega) (by omega)), show k = sL g by omega]
      rfl
  | succ r ih =>
    intro n k σ hk hn hg h1
    cases n with
    | zero => cases hn
    | succ n =>
      obtain ⟨υ, f1, k1⟩ := m_waterOf N hN hw y k (by omega) σ hg
      obtain ⟨τ, f2, k2⟩ := ih n (k + 1) υ (by omega) (by omega) (k1.g.trans hg) (fun j hj => by rw [k1.2.2.2]; exact h1 j hj)
      refine ⟨τ, ?_, k1.trans k2⟩
      rw [F_X12_goesOn_b24.eq_2, rL hw hg, if_neg (nI_ge (by omega) (by omega)), ix5, if_neg (out_nI (by omega) (by decide)), f1]
      show (F_X12_worthOf N (nI k) υ).bind (fun q3 => F_X12_goesOn_b24 N g0 g1 n (nI y) (nI d) (C + hzS (fun j => sWet g y th j * sGood (g 12 1) (g 73 j) 0) k + (((σ.2.2.2.1 102 0 (nI (5 * d + k)).toNatClampNeg) * (sWat g y k).toInt64) / 100) * q3.1) (nI k + 1) q3.2) = _
      rw [m_worthOf N hw k (by omega) υ (k1.g.trans hg), nI_clamp (by omega), h1 k (by omega), nI_1]
      show F_X12_goesOn_b24 N g0 g1 n (nI y) (nI d) (C + hzS (fun j => sWet g y th j * sGood (g 12 1) (g 73 j) 0) k + sWet g y th k * sGood (g 12 1) (g 73 k) 0) (nI (k + 1)) υ = _
      rw [Int64.add_assoc]
      exact f2
theorem lg_nneg {x : Int64} : 0 ≤ lg_cmp x (0 : Int64) ↔ ¬ x < 0 := by
  unfold lg_cmp
  by_cases h : x > 0
  · rw [if_pos h]
    refine ⟨fun _ q => ?_, fun _ => by decide⟩
    have a := Int64.lt_iff_toInt_lt.mp h
    have b := Int64.lt_iff_toInt_lt.mp q
    omega
  · rw [if_neg h]
    by_cases e : x = 0
    · rw [if_pos e]
      refine ⟨fun _ q => ?_, fun _ => by decide⟩
      rw [e] at q
      exact absurd q (by decide)
    · rw [if_neg e]
      refine ⟨fun q => absurd q (by decide), fun q => absurd ?_ q⟩
      have a : ¬ (0 : Int64).toInt < x.toInt := fun z => h (Int64.lt_iff_toInt_lt.mpr z)
      have b : x.toInt ≠ (0 : Int64).toInt := fun z => e (Int64.toInt_inj.mp z)
      exact Int64.lt_iff_toInt_lt.mpr (by omega)
theorem m_goes (N : Nat) (hN : 160 ≤ N) {g : Nat → Nat → Int32} (hw : Wf g) : ∀ (n k y d : Nat) (th : Nat → Int64) (σ : Mem), 2 * n < k → n = sD g + 1 - y → 1 ≤ y → d < y → y ≤ 6 → gM σ = g → (∀ j, j < sL g → σ.2.2.2.1 102 0 (5 * d + j) = th j) →
    ∃ τ, (G_X12_goesOn N k).1 (nI y) (nI d) σ = some (sGoes g (g 12 1) n y th, τ) ∧ KG d σ τ := by
  have hD := sD_eq hw
  have hL := sL_le hw
  intro n
  induction n with
  | zero =>
    intro k y d th σ hk hy h1y hdy h6 hg h1
    cases k with
    | zero => cases hk
    | succ k =>
      refine ⟨σ, ?_, KG.rfl_ d σ⟩
      show B_X12_goesOn N _ _ (nI y) (nI d) σ = _
      unfold B_X12_goesOn
      rw [rF hg (by decide), hD.1, if_neg (nI_ge (by omega) (by omega))]
      rfl
  | succ n ih =>
    intro k y d th σ hk hy h1y hdy h6 hg h1
    obtain ⟨k, rfl⟩ : ∃ k', k = k' + 2 := ⟨k - 2, by omega⟩
    obtain ⟨N', rfl⟩ : ∃ N', N = N' + 4 := ⟨N - 4, by omega⟩
    obtain ⟨τ0, f0, k0⟩ := m_costOf (N' + 4) hN hw y σ hg
    have r0 : ∀ j, j < sL g → τ0.2.2.2.1 102 0 (5 * d + j) = th j := fun j hj => by rw [k0.2.2.2]; exact h1 j hj
    obtain ⟨τ1, f1, k1⟩ := m_goes24 (N' + 4) hN hw (G_X12_goesOn (N' + 4) (k + 1)).1 (G_X12_goesOn (N' + 4) (k + 1)).2 y d (by omega) ((Int64.ofInt (-1000000)) * (sCost g y).toInt64) th (sL g) (N' + 4) 0 τ0 (by omega) (by omega) (k0.g.trans hg) r0
    have g1 : gM τ1 = g := k1.g.trans (k0.g.trans hg)
    have r1 : ∀ j, j < sL g → τ1.2.2.2.1 102 0 (5 * d + j) = th j := fun j hj => by rw [k1.2.2.2]; exact r0 j hj
    have ea : (Int64.ofInt (-1000000)) * (sCost g y).toInt64 + sGain g y (g 12 1) 0 th = sGain g y (g 12 1) 0 th - 1000000 * (sCost g y).toInt64 := by
      rw [show Int64.ofInt (-1000000) = -(1000000 : Int64) from by decide, Int64.neg_mul, Int64.add_comm, Int64.sub_eq_add_neg]
    have e0 : (G_X12_goesOn (N' + 4) (k + 2)).1 (nI y) (nI d) σ = F_X12_goesOn_b76 (N' + 4) (G_X12_goesOn (N' + 4) (k + 1)).1 (G_X12_goesOn (N' + 4) (k + 1)).2 (N' + 4) (nI y) (nI d) (sGain g y (g 12 1) 0 th - 1000000 * (sCost g y).toInt64) (nI 0) τ1 := by
      show B_X12_goesOn (N' + 4) _ _ (nI y) (nI d) σ = _
      unfold B_X12_goesOn
      rw [rF hg (by decide), hD.1, if_pos (nI_le (by omega) (by omega)), f0, ← ea]
      show F_X12_goesOn_b24 (N' + 4) _ _ (N' + 4) (nI y) (nI d) ((Int64.ofInt (-1000000)) * (sCost g y).toInt64) 0 τ0 = _
      rw [← f1]
      show _ = F_X12_goesOn_b24 (N' + 4) _ _ (N' + 4) (nI y) (nI d) (_ + 0) (nI 0) τ0
      rw [Int64.add_zero]
      rfl
    have k01 : KG d σ τ1 := (k0.trans k1).kg d
    cases n with
    | zero =>
      refine ⟨τ1, ?_, k01⟩
      rw [e0, sGoes, sArm_0, sArm_0, sArm_0, Int64.add_zero, Int64.add_zero, Int64.add_zero, F_X12_goesOn_b76.eq_2, if_neg (show ¬ (3 : Int32) ≤ nI 0 by decide), rF g1 (by decide), hD.1, if_pos (nI_le (by omega) (by omega))]
    | succ n =>
      have step : ∀ (s m : Nat) (acc : Int64) (σ : Mem), s < 3 → gM σ = g → (∀ j, j < sL g → σ.2.2.2.1 102 0 (5 * d + j) = th j) → ∃ τ, F_X12_goesOn_b76 (N' + 4) (G_X12_goesOn (N' + 4) (k + 1)).1 (G_X12_goesOn (N' + 4) (k + 1)).2 (m + 1) (nI y) (nI d) acc (nI s) σ = F_X12_goesOn_b76 (N' + 4) (G_X12_goesOn (N' + 4) (k + 1)).1 (G_X12_goesOn (N' + 4) (k + 1)).2 m (nI y) (nI d) (acc + sArm g (fun z t => sMx (sGoes g (g 12 1) (n + 1) z t)) y th (nI s)) (nI (s + 1)) τ ∧ KG d σ τ := by
        intro s m acc σ hs hg h1
        obtain ⟨τ1, f1, k1, r1⟩ := m_dries (N' + 4) hN hw d y (by omega) (nI s) th σ hg h1
        have g1 := k1.q.g.trans hg
        have e1 : F_X12_goesOn_b76 (N' + 4) (G_X12_goesOn (N' + 4) (k + 1)).1 (G_X12_goesOn (N' + 4) (k + 1)).2 (m + 1) (nI y) (nI d) acc (nI s) σ = (if (lg_cmp (sMuch g y (nI s) th) (0 : Int64)) ≤ 0 then
              (F_X12_goesOn_b76 (N' + 4) (G_X12_goesOn (N' + 4) (k + 1)).1 (G_X12_goesOn (N' + 4) (k + 1)).2 m) (nI y) (nI d) acc (nI (s + 1)) τ1
            else
              (F_X12_below (N' + 4) (nI d) (sMuch g y (nI s) th) τ1).bind (fun q5 =>
              ((G_X12_goesOn (N' + 4) (k + 1)).2 (nI (y + 1)) (nI (d + 1)) q5.2).bind (fun q6 =>
              (F_X12_goesOn_b76 (N' + 4) (G_X12_goesOn (N' + 4) (k + 1)).1 (G_X12_goesOn (N' + 4) (k + 1)).2 m) (nI y) (nI d) (acc + ((sMuch g y (nI s) th * q6.1) / (1000000 : Int64))) (nI (s + 1)) q6.2))) := by
          rw [F_X12_goesOn_b76.eq_2, if_neg (geL_n 3 3 rfl (by omega) (by decide)), rF hg (by decide), hD.1, if_neg (nI_ge (by omega) (by omega)), f1]
          show (if lg_cmp (sMuch g y (nI s) th) 0 ≤ 0 then F_X12_goesOn_b76 _ _ _ m (nI y) (nI d) acc (nI s + 1) τ1 else (F_X12_below (N' + 4) (nI d) (sMuch g y (nI s) th) τ1).bind (fun q5 => ((G_X12_goesOn (N' + 4) (k + 1)).2 (nI y + 1) (nI d + 1) q5.2).bind (fun q6 => F_X12_goesOn_b76 _ _ _ m (nI y) (nI d) (acc + ((sMuch g y (nI s) th * q6.1) / (1000000 : Int64))) (nI s + 1) q6.2))) = _
          rw [nI_1, nI_1, nI_1]
        by_cases hm : 0 < sMuch g y (nI s) th
        · obtain ⟨τ2, f2, k2, r2⟩ := m_below (N' + 4) (by omega) hw d (by omega) (sMuch g y (nI s) th) hm (sDry g y (nI s) th) τ1 g1 r1
          have g2 := k2.q.g.trans g1
          obtain ⟨τ3, f3, k3⟩ := ih k (y + 1) (d + 1) (sNext g y (nI s) th) τ2 (by omega) (by omega) (by omega) (by omega) (by omega) g2 r2
          have f4 : (G_X12_goesOn (N' + 4) (k + 1)).2 (nI (y + 1)) (nI (d + 1)) τ2 = some (sMx (sGoes g (g 12 1) (n + 1) (y + 1) (sNext g y (nI s) th)), τ3) := by
            show B_X12_valueOf (N' + 4) (G_X12_goesOn (N' + 4) k).1 (G_X12_goesOn (N' + 4) k).2 (nI (y + 1)) (nI (d + 1)) τ2 = _
            unfold B_X12_valueOf sMx
            rw [f3]
            show (if 0 ≤ lg_cmp (sGoes g (g 12 1) (n + 1) (y + 1) (sNext g y (nI s) th)) 0 then _ else _) = _
            by_cases hz : sGoes g (g 12 1) (n + 1) (y + 1) (sNext g y (nI s) th) < 0
            · rw [if_neg (fun q => lg_nneg.mp q hz), if_pos hz]
            · rw [if_pos (lg_nneg.mpr hz), if_neg hz]
          refine ⟨τ3, ?_, ((k1.kg (by omega) d).trans k2.kg).trans (k3.mono (Nat.le_succ d))⟩
          rw [e1, if_neg (fun q => lg_npos.mp q hm), f2]
          show ((G_X12_goesOn (N' + 4) (k + 1)).2 (nI (y + 1)) (nI (d + 1)) τ2).bind _ = _
          rw [f4]
          unfold sArm
          rw [if_pos hm]
          rfl
        · refine ⟨τ1, ?_, k1.kg (by omega) d⟩
          rw [e1, if_pos (lg_npos.mpr hm)]
          unfold sArm
          rw [if_neg hm, Int64.add_zero]
      obtain ⟨τ2, f2, k2⟩ := step 0 (N' + 3) (sGain g y (g 12 1) 0 th - 1000000 * (sCost g y).toInt64) τ1 (by decide) g1 r1
      have g2 := k2.q.g.trans g1
      have r2 := k2.row hL r1
      obtain ⟨τ3, f3, k3⟩ := step 1 (N' + 2) _ τ2 (by decide) g2 r2
      have g3 := k3.q.g.trans g2
      obtain ⟨τ4, f4, k4⟩ := step 2 (N' + 1) _ τ3 (by decide) g3 (k3.row hL r2)
      refine ⟨τ4, ?_, ((k01.trans k2).trans k3).trans k4⟩
      rw [e0, f2, f3, f4]
      show F_X12_goesOn_b76 _ _ _ (N' + 1) _ _ _ (nI 3) τ4 = _
      rw [F_X12_goesOn_b76.eq_2, if_pos (show (3 : Int32) ≤ nI 3 by decide)]
      rfl
theorem m_goesOn (N : Nat) (hN : 160 ≤ N) {g : Nat → Nat → Int32} (hw : Wf g) (y d : Nat) (h1y : 1 ≤ y) (hd : d < y) (h6 : y ≤ 6) (th : Nat → Int64) (σ : Mem) (hg : gM σ = g) (h1 : ∀ j, j < sL g → σ.2.2.2.1 102 0 (5 * d + j) = th j) :
    ∃ τ, F_X12_goesOn N (nI y) (nI d) σ = some (sGoes g (g 12 1) (sD g + 1 - y) y th, τ) ∧ KG d σ τ := by
  have := (sD_eq hw).2
  exact m_goes N hN hw (sD g + 1 - y) 20 y d th σ (by omega) rfl h1y hd h6 hg h1
theorem m_valueOf (N : Nat) (hN : 160 ≤ N) {g : Nat → Nat → Int32} (hw : Wf g) (y d : Nat) (h1y : 1 ≤ y) (hd : d < y) (h6 : y ≤ 6) (th : Nat → Int64) (σ : Mem) (hg : gM σ = g) (h1 : ∀ j, j < sL g → σ.2.2.2.1 102 0 (5 * d + j) = th j) :
    ∃ τ, F_X12_valueOf N (nI y) (nI d) σ = some (sMx (sGoes g (g 12 1) (sD g + 1 - y) y th), τ) ∧ KG d σ τ := by
  have := (sD_eq hw).2
  obtain ⟨τ, f, k⟩ := m_goes N hN hw (sD g + 1 - y) 19 y d th σ (by omega) rfl h1y hd h6 hg h1
  refine ⟨τ, ?_, k⟩
  show B_X12_valueOf N (G_X12_goesOn N 19).1 (G_X12_goesOn N 19).2 (nI y) (nI d) σ = _
  unfold B_X12_valueOf sMx
  rw [f]
  show (if 0 ≤ lg_cmp (sGoes g (g 12 1) (sD g + 1 - y) y th) 0 then _ else _) = _
  by_cases hz : sGoes g (g 12 1) (sD g + 1 - y) y th < 0
  · rw [if_neg (fun q => lg_nneg.mp q hz), if_pos hz]
  · rw [if_pos (lg_nneg.mpr hz), if_neg hz]

/-! THE PURE SIDE, 38: numbers and names, read alike -/
def off (c : Nat → Nat) (s : Nat) : Nat → Nat := fun i => c (s + i)
theorem runs_dg (N : Nat) (c : Nat → Nat) (hc : ∀ k, c k ≤ 255) (L : Nat) (hL : L ≤ 160) (s : Nat) : ∀ (q p : Nat), p + q = L → s ≤ p → (∀ i, s ≤ i → i < p → isDg (c i)) → ∃ e, p ≤ e ∧ e ≤ L ∧ (∀ i, s ≤ i → i < e → isDg (c i)) ∧ (p < L → isDg (c p) → p < e) ∧
    (∀ n σ, q < n → CTp c L σ → σ.1 3 5 = nI p → σ.1 3 6 = nI s → (p - s ≤ 4 → σ.1 3 8 = nI (dv (off c s) (p - s))) → ∃ τ, F_X8_readNumber_b5 N n σ = some ((), τ) ∧ KTk σ τ ∧ τ.1 3 5 = nI e ∧ τ.1 3 6 = nI s ∧ τ.1 3 7 = (if e - s ≤ 4 then nI 2 else nI 1) ∧ (e - s ≤ 4 → τ.1 3 8 = nI (dv (off c s) (e - s)))) ∧
    (∀ n σ, q < n → MTp c L σ → σ.1 12 42 = nI p → (p - s ≤ 4 → σ.1 12 45 = nI (dv (off c s) (p - s))) → ∃ τ, F_X12_nextToken_b214 N n (nI (p - s)) σ = some ((), τ) ∧ KLk σ τ ∧ τ.1 12 42 = nI e ∧ τ.1 12 43 = σ.1 12 43 ∧ τ.1 12 44 = (if e - s ≤ 4 then 1 else Int32.ofInt (-1)) ∧ (e - s ≤ 4 → τ.1 12 45 = nI (dv (off c s) (e - s)))) := by
  intro q
  have finx : ∀ (p : Nat), s ≤ p → p ≤ L → ∀ (σ : Mem), σ.1 3 5 = nI p → σ.1 3 6 = nI s → (p - s ≤ 4 → σ.1 3 8 = nI (dv (off c s) (p - s))) → ∃ τ, F_X8_readNumber_b81 N σ = some ((), τ) ∧ KTk σ τ ∧ τ.1 3 5 = nI p ∧ τ.1 3 6 = nI s ∧ τ.1 3 7 = (if p - s ≤ 4 then nI 2 else nI 1) ∧ (p - s ≤ 4 → τ.1 3 8 = nI (dv (off c s) (p - s))) := by
    intro p h1 h2 σ h5 h6 h8
    refine ⟨(hwU2 σ.1 3 7 (if p - s ≤ 4 then nI 2 else nI 1), σ.2), ?_, KTk.w (by decide), (by simp (disch := decide) only [u2_k, hwU2_eq]; exact h5), (by simp (disch := decide) only [u2_k, hwU2_eq]; exact h6), (by simp only [hwU2_eq]), fun q => (by simp (disch := decide) only [u2_k, hwU2_eq]; exact h8 q)⟩
    unfold F_X8_readNumber_b81
    rw [h5, h6, k_sub h1]
    by_cases c4 : p - s ≤ 4
    · rw [if_pos (leL_b 4 4 rfl c4 (by decide)), if_pos c4]; rfl
    · rw [if_neg (geL_a 4 4 rfl (by omega) (by omega)), if_neg c4]; rfl
  have finm : ∀ (p : Nat), s ≤ p → p ≤ L → ∀ (σ : Mem), σ.1 12 42 = nI p → (p - s ≤ 4 → σ.1 12 45 = nI (dv (off c s) (p - s))) → ∃ τ, F_X12_nextToken_b293 N (nI (p - s)) σ = some ((), τ) ∧ KLk σ τ ∧ τ.1 12 42 = nI p ∧ τ.1 12 43 = σ.1 12 43 ∧ τ.1 12 44 = (if p - s ≤ 4 then 1 else Int32.ofInt (-1)) ∧ (p - s ≤ 4 → τ.1 12 45 = nI (dv (off c s) (p - s))) := by
    intro p h1 h2 σ h5 h8
    refine ⟨(hwU2 σ.1 12 44 (if p - s ≤ 4 then 1 else Int32.ofInt (-1)), σ.2), ?_, KLk.w (by decide), (by simp (disch := decide) only [u2_k, hwU2_eq]; exact h5), (by simp (disch := decide) only [u2_k, hwU2_eq]), (by simp only [hwU2_eq]), fun q => (by simp (disch := decide) only [u2_k, hwU2_eq]; exact h8 q)⟩
    unfold F_X12_nextToken_b293
    by_cases c4 : p - s ≤ 4
    · rw [if_pos (leL_b 4 4 rfl c4 (by decide)), if_pos c4]
    · rw [if_neg (geL_a 4 4 rfl (by omega) (by omega)), if_neg c4]
  induction q with
  | zero =>
    intro p hp hs ha
    have e : p = L := by omega
    subst e
    refine ⟨p, Nat.le_refl _, Nat.le_refl _, ha, fun h => absurd h (Nat.lt_irrefl p), fun n σ hn h h5 h6 h8 => ?_, fun n σ hn h h5 h8 => ?_⟩
    · cases n with
      | zero => cases hn
      | succ n =>
        rw [F_X8_readNumber_b5.eq_2, h.1, h5, if_pos (nI_le (Nat.le_refl _) (by omega))]
        exact finx p hs (Nat.le_refl _) σ h5 h6 h8
    · cases n with
      | zero => cases hn
      | succ n =>
        rw [F_X12_nextToken_b214.eq_2, h.1, h5, if_pos (nI_le (Nat.le_refl _) (by omega))]
        exact finm p hs (Nat.le_refl _) σ h5 h8
  | succ q ih =>
    intro p hp hs ha
    by_cases sp : isDg (c p)
    · obtain ⟨e, s1, s2, s3, -, sx, sm⟩ := ih (p + 1) (by omega) (by omega) (fun i h1 h2 => by
        by_cases z : i = p
        · rw [z]; exact sp
        · exact ha i h1 (by omega))
      have dn : p + 1 - s = (p - s) + 1 := by omega
      have od : off c s (p - s) = c p := by unfold off; rw [show s + (p - s) = p by omega]
      refine ⟨e, by omega, s2, s3, fun _ _ => by omega, fun n σ hn h h5 h6 h8 => ?_, fun n σ hn h h5 h8 => ?_⟩
      · cases n with
        | zero => cases hn
        | succ n =>
          rw [F_X8_readNumber_b5.eq_2, h.1, h5, if_neg (nI_ge (by omega) (by omega)), if_neg (out_nI (by omega) (by decide)), nI_clamp (by omega), h.2 p (by omega), (x_isDg N (c p) (hc p) σ).1 sp, Option.bind_some, k10]
          show ∃ τ, (if (4 : Int32) ≤ ((σ.1 3 5) - (σ.1 3 6)) then F_X8_readNumber_b5 N n (hwU2 σ.1 3 5 ((σ.1 3 5) + 1), σ.2) else if hwOut (σ.1 3 5) 160 then none else F_X8_readNumber_b5 N n (hwU2 (hwU2 σ.1 3 8 ((((σ.1 3 8) * (10 : Int32)) + (σ.2.2.1 62 0 ((σ.1 3 5)).toNatClampNeg)) - (48 : Int32))) 3 5 ((σ.1 3 5) + (1 : Int32)), σ.2)) = _ ∧ _
          rw [h5, h6, k_sub hs, nI_1]
          by_cases c4 : 4 ≤ p - s
          · obtain ⟨τ, e1, k1, r⟩ := sx n (hwU2 σ.1 3 5 (nI (p + 1)), σ.2) (by omega) (h.kt (KTk.w (by decide))) (by simp (disch := decide) only [u2_k, hwU2_eq]) (by simp (disch := decide) only [u2_k, hwU2_eq]; exact h6) (fun q => by omega)
            exact ⟨τ, by rw [if_pos (leL_a 4 4 rfl c4 (by omega))]; exact e1, (KTk.w (by decide)).trans k1, r⟩
          · obtain ⟨τ, e1, k1, r⟩ := sx n (hwU2 (hwU2 σ.1 3 8 (nI (dv (off c s) (p + 1 - s)))) 3 5 (nI (p + 1)), σ.2) (by omega) (h.kt ((KTk.w (k := 8) (by decide)).trans (KTk.w (k := 5) (by decide)))) (by simp (disch := decide) only [u2_k, hwU2_eq]) (by simp (disch := decide) only [u2_k, hwU2_eq]; exact h6) (fun q => (by simp (disch := decide) only [u2_k, hwU2_eq]))
            refine ⟨τ, ?_, ((KTk.w (k := 8) (by decide)).trans (KTk.w (k := 5) (by decide))).trans k1, r⟩
            rw [if_neg (geL_n 4 4 rfl (by omega) (by decide)), if_neg (out_nI (by omega) (by decide)), nI_clamp (by omega), h.2 p (by omega), h8 (by omega), show (10 : Int32) = nI 10 from rfl, nI_mul, nI_add, show (48 : Int32) = nI 48 from rfl, k_sub (by have := sp.1; omega)]
            rw [dn, dv, od] at e1
            rw [show dv (off c s) (p - s) * 10 + c p - 48 = dv (off c s) (p - s) * 10 + (c p - 48) by have := sp.1; omega]
            exact e1
      · cases n with
        | zero => cases hn
        | succ n =>
          rw [F_X12_nextToken_b214.eq_2, h.1, h5, if_neg (nI_ge (by omega) (by omega)), if_neg (out_nI (by omega) (by decide)), nI_clamp (by omega), h.2 p (by omega), (m_isDg N (c p) (hc p) σ).1 sp, Option.bind_some, k10]
          show ∃ τ, (if (4 : Int32) ≤ nI (p - s) then F_X12_nextToken_b214 N n (nI (p - s) + 1) (hwU2 (hwU2 σ.1 12 45 0) 12 42 ((σ.1 12 42) + 1), σ.2) else if hwOut (σ.1 12 42) 160 then none else F_X12_nextToken_b214 N n (nI (p - s) + 1) (hwU2 (hwU2 σ.1 12 45 ((((10 : Int32) * (σ.1 12 45)) + (σ.2.2.1 86 0 ((σ.1 12 42)).toNatClampNeg)) - (48 : Int32))) 12 42 ((σ.1 12 42) + (1 : Int32)), σ.2)) = _ ∧ _
          rw [h5, nI_1, nI_1, ← dn]
          by_cases c4 : 4 ≤ p - s
          · obtain ⟨τ, e1, k1, r1, r2, r3⟩ := sm n (hwU2 (hwU2 σ.1 12 45 0) 12 42 (nI (p + 1)), σ.2) (by omega) (h.kl ((KLk.w (k := 45) (by decide)).trans (KLk.w (k := 42) (by decide)))) (by simp (disch := decide) only [u2_k, hwU2_eq]) (fun q => by omega)
            exact ⟨τ, by rw [if_pos (leL_a 4 4 rfl c4 (by omega))]; exact e1, ((KLk.w (k := 45) (by decide)).trans (KLk.w (k := 42) (by decide))).trans k1, r1, r2.trans (by simp (disch := decide) only [u2_k, hwU2_eq]), r3⟩
          · obtain ⟨τ, e1, k1, r1, r2, r3⟩ := sm n (hwU2 (hwU2 σ.1 12 45 (nI (dv (off c s) (p + 1 - s)))) 12 42 (nI (p + 1)), σ.2) (by omega) (h.kl ((KLk.w (k := 45) (by decide)).trans (KLk.w (k := 42) (by decide)))) (by simp (disch := decide) only [u2_k, hwU2_eq]) (fun q => (by simp (disch := decide) only [u2_k, hwU2_eq]))
            refine ⟨τ, ?_, ((KLk.w (k := 45) (by decide)).trans (KLk.w (k := 42) (by decide))).trans k1, r1, r2.trans (by simp (disch := decide) only [u2_k, hwU2_eq]), r3⟩
            rw [if_neg (geL_n 4 4 rfl (by omega) (by decide)), if_neg (out_nI (by omega) (by decide)), nI_clamp (by omega), h.2 p (by omega), h8 (by omega), show (10 : Int32) = nI 10 from rfl, nI_mul, nI_add, show (48 : Int32) = nI 48 from rfl, k_sub (by have := sp.1; omega)]
            rw [dn, dv, od] at e1
            rw [show 10 * dv (off c s) (p - s) + c p - 48 = dv (off c s) (p - s) * 10 + (c p - 48) by have := sp.1; omega, dn]
            exact e1
    · refine ⟨p, Nat.le_refl _, by omega, ha, fun _ h => absurd h sp, fun n σ hn h h5 h6 h8 => ?_, fun n σ hn h h5 h8 => ?_⟩
      · cases n with
        | zero => cases hn
        | succ n =>
          rw [F_X8_readNumber_b5.eq_2, h.1, h5, if_neg (nI_ge (by omega) (by omega)), if_neg (out_nI (by omega) (by decide)), nI_clamp (by omega), h.2 p (by omega), (x_isDg N (c p) (hc p) σ).2 sp, Option.bind_some, k00]
          exact finx p hs (by omega) σ h5 h6 h8
      · cases n with
        | zero => cases hn
        | succ n =>
          rw [F_X12_nextToken_b214.eq_2, h.1, h5, if_neg (nI_ge (by omega) (by omega)), if_neg (out_nI (by omega) (by decide)), nI_clamp (by omega), h.2 p (by omega), (m_isDg N (c p) (hc p) σ).2 sp, Option.bind_some, k00]
          exact finm p hs (by omega) σ h5 h8

/-! THE PURE SIDE, 44: the reference is that machine: what stands between two -/
theorem m_sign (N : Nat) (k : Nat) (hk : k < 256) (σ : Mem) (h : σ.1 12 44 = mk k) : F_X12_signOf N σ = some (if sgn k = 0 then Int32.ofInt (-1) else nI (sgn k), σ) := by
  obtain ⟨-, -, -, a45, -, -⟩ := mk_tab1 k hk
  obtain ⟨-, a4, a5, -⟩ := mk_tab2 k hk
  obtain ⟨a60, a61, a43, a42, -⟩ := mk_tab3 k hk
  unfold F_X12_signOf sgn
  rw [h]
  by_cases c7 : k = 7
  · subst c7; rfl
  rw [if_neg (fun q => c7 (a4.mp q)), if_neg c7]
  by_cases c8 : k = 8
  · subst c8; rfl
  rw [if_neg (fun q => c8 (a5.mp q)), if_neg c8]
  by_cases c60 : k = 60
  · subst c60; rfl
  rw [if_neg (fun q => c60 (a60.mp q)), if_neg c60]
  by_cases c61 : k = 61
  · subst c61; rfl
  rw [if_neg (fun q => c61 (a61.mp q)), if_neg c61]
  by_cases c43 : k = 43
  · subst c43; rfl
  rw [if_neg (fun q => c43 (a43.mp q)), if_neg c43]
  by_cases c45 : k = 45
  · subst c45; rfl
  rw [if_neg (fun q => c45 (a45.mp q)), if_neg c45]
  by_cases c42 : k = 42
  · subst c42; rfl
  rw [if_neg (fun q => c42 (a42.mp q)), if_neg c42]
  rfl
theorem m_bt55 (N : Nat) {c : Nat → Nat} {L t b : Nat} {S : List Nat} {d : Nat} {o : List Nat} {σ : Mem} (h : RS c L t b S d o σ) (g : Nat) (hg : 11 ≤ g ∧ g ≤ 18 ∧ g ≠ 13) (hS : S.length < 200) : ∃ τ, F_X12_between_b55 N (nI g) σ = some (1, τ) ∧ RS c L t b (g :: S) d o τ ∧ KS t b σ τ ∧ τ.1 12 42 = σ.1 12 42 ∧ τ.1 12 43 = σ.1 12 43 := by
  have h5 := h.2.2.2.1
  obtain ⟨τ, f, r⟩ := m_push N h g (by omega) hS d (by rw [cnt, if_neg (by omega), h5.2.1]; rfl)
  rw [u2_same h5.1.symm] at f
  refine ⟨τ, ?_, r⟩
  unfold F_X12_between_b55
  rw [show F_X12_holds_ N (nI g) σ = _ from f, Option.bind_some]
theorem m_bt17 (N : Nat) {c : Nat → Nat} {L t b : Nat} {S : List Nat} {d : Nat} {o : List Nat} {σ : Mem} (h : RS c L t b S d o σ) (g r : Nat) (hr : 1 ≤ r ∧ r ≤ 7) (hg : 11 ≤ g ∧ g ≤ 18 ∧ g ≠ 13) (hN : 200 ≤ N) (hb : b + o.length + S.length < 190) :
    (rk g = 4 ∧ top4 (uw r S d o).1 = true → ∃ τ, F_X12_between_b17 N (nI g) (nI r) σ = some (0, τ) ∧ KS t b σ τ ∧ τ.1 12 43 = σ.1 12 43) ∧ (¬ (rk g = 4 ∧ top4 (uw r S d o).1 = true) → ∃ τ, F_X12_between_b17 N (nI g) (nI r) σ = some (1, τ) ∧ RS c L t b (g :: (uw r S d o).1) (uw r S d o).2.1 (uw r S d o).2.2 τ ∧ KS t b σ τ ∧ τ.1 12 42 = σ.1 12 42 ∧ τ.1 12 43 = σ.1 12 43) := by
  obtain ⟨τ1, f1, r1, k1, a42, a43⟩ := m_uw N c L t b r hr S N d o σ (by omega) (by omega) h
  have ul := uw_len r S d o
  generalize uw r S d o = u at r1 ul
  obtain ⟨τ2, f2, r2, k2, b42, b43⟩ := m_bt55 N r1 g hg (by omega)
  have e0 : F_X12_between_b17 N (nI g) (nI r) σ = if nI (rk g) = 4 then (if (τ1.1 12 48) ≤ 0 then F_X12_between_b55 N (nI g) τ1 else if hwOut ((τ1.1 12 48) - (1 : Int32)) 200 then none else (F_X12_rank N (τ1.2.2.1 99 0 (((τ1.1 12 48) - (1 : Int32))).toNatClampNeg) τ1).bind (fun q5 => if q5.1 = (4 : Int32) then some ((0 : Int32), q5.2) else F_X12_between_b55 N (nI g) q5.2)) else F_X12_between_b55 N (nI g) τ1 := by
    unfold F_X12_between_b17 F_X12_unwinds
    rw [f1, Option.bind_some, m_rank N g (by omega), Option.bind_some]
  by_cases c4 : rk g = 4
  rotate_left
  · have n4 : ¬ nI (rk g) = 4 := neL 4 4 rfl ⟨c4, by have := rk_le g; omega, by decide⟩
    exact ⟨fun q => absurd q.1 c4, fun _ => ⟨τ2, by rw [e0, if_neg n4]; exact f2, r2, k1.trans k2, b42.trans a42, b43.trans a43⟩⟩
  · rw [e0, if_pos (show nI (rk g) = 4 by rw [c4]; rfl), r1.2.2.1.1]
    cases eu : u.1 with
    | nil =>
      rw [eu] at r2
      exact ⟨fun q => absurd q.2 (by decide), fun _ => ⟨τ2, by rw [if_pos (show nI ([] : List Nat).length ≤ 0 by decide)]; exact f2, r2, k1.trans k2, b42.trans a42, b43.trans a43⟩⟩
    | cons a S2 =>
      have ha : a < 20 := by
        have := r1.2.2.2.1.2.2
        rw [eu] at this
        exact this.1
      have l2 : u.1.length = S2.length + 1 := by rw [eu]; rfl
      have e99 : τ1.2.2.1 99 0 S2.length = nI a := by
        have := r1.2.2.1.2 0 (by omega)
        rw [l2, show S2.length + 1 - 1 - 0 = S2.length by omega, eu] at this
        exact this
      rw [eu] at r2
      have l3 : (a :: S2).length = S2.length + 1 := rfl
      rw [l3, nI_pred, if_neg (geL_a 0 0 rfl (by omega) (by omega)), if_neg (out_nI (by omega) (by decide)), nI_clamp (by omega), e99, m_rank N a ha, Option.bind_some]
      by_cases ca : rk a = 4
      · refine ⟨fun _ => ⟨τ1, by rw [if_pos (show nI (rk a) = 4 by rw [ca]; rfl)], k1, a43⟩, fun q => absurd ⟨c4, ?_⟩ q⟩
        show Nat.beq (rk a) 4 = true
        rw [ca]; rfl
      · refine ⟨fun q => absurd (Nat.eq_of_beq_eq_true q.2) ca, fun _ => ⟨τ2, ?_, r2, k1.trans k2, b42.trans a42, b43.trans a43⟩⟩
        rw [if_neg (neL 4 4 rfl ⟨ca, by have := rk_le a; omega, by decide⟩)]
        exact f2
theorem m_bt (N : Nat) {c : Nat → Nat} {L t b : Nat} {S : List Nat} {d : Nat} {o : List Nat} {σ : Mem} (h : RS c L t b S d o σ) (g : Nat) (hg : 11 ≤ g ∧ g ≤ 18 ∧ g ≠ 13) (hN : 200 ≤ N) (hb : b + o.length + S.length < 190) :
    (rk g = 4 ∧ top4 (uw (if rk g = 4 then 5 else rk g) S d o).1 = true → ∃ τ, F_X12_between N (nI g) σ = some (0, τ) ∧ KS t b σ τ ∧ τ.1 12 43 = σ.1 12 43) ∧ (¬ (rk g = 4 ∧ top4 (uw (if rk g = 4 then 5 else rk g) S d o).1 = true) → ∃ τ, F_X12_between N (nI g) σ = some (1, τ) ∧ RS c L t b (g :: (uw (if rk g = 4 then 5 else rk g) S d o).1) (uw (if rk g = 4 then 5 else rk g) S d o).2.1 (uw (if rk g = 4 then 5 else rk g) S d o).2.2 τ ∧ KS t b σ τ ∧ τ.1 12 42 = σ.1 12 42 ∧ τ.1 12 43 = σ.1 12 43) := by
  have hr : 1 ≤ rk g ∧ rk g ≤ 7 := by
    have : g = 11 ∨ g = 12 ∨ g = 14 ∨ g = 15 ∨ g = 16 ∨ g = 17 ∨ g = 18 := by omega
    rcases this with e | e | e | e | e | e | e <;> (subst e; decide)
  have e0 : F_X12_between N (nI g) σ = F_X12_between_b17 N (nI g) (nI (if rk g = 4 then 5 else rk g)) σ := by
    unfold F_X12_between
    rw [m_rank N g (by omega), Option.bind_some]
    by_cases c4 : rk g = 4
    · rw [if_pos (show nI (rk g) = 4 by rw [c4]; rfl), if_pos c4]; rfl
    · rw [if_neg (neL 4 4 rfl ⟨c4, by omega, by decide⟩), m_rank N g (by omega), Option.bind_some, if_neg c4]
  rw [e0]
  exact m_bt17 N h g _ (by split <;> omega) hg hN hb

/-! THE PURE SIDE, 43: the reference is that machine: its words -/
theorem uw_len (r : Nat) : ∀ (S : List Nat) (d : Nat) (o : List Nat), (uw r S d o).1.length + (uw r S d o).2.2.length = S.length + o.length
  | [], d, o => rfl
  | a :: S, d, o => by
    by_cases c : rk a < r
    · rw [uw_st c]
    · have e1 : (o ++ [a]).length = o.length + 1 := by rw [List.length_append]; rfl
      have e2 : (a :: S).length = S.length + 1 := rfl
      rw [uw_go c, uw_len r S, e1, e2]
      omega
/-- a sign laid on the stack -/
theorem m_push (N : Nat) {c : Nat → Nat} {L t b : Nat} {S : List Nat} {d : Nat} {o : List Nat} {σ : Mem} (h : RS c L t b S d o σ) (a : Nat) (ha : a < 20) (hS : S.length < 200) (d' : Nat) (hd : d' = cnt (a :: S)) : ∃ τ, F_X12_holds_ N (nI a) (hwU2 σ.1 12 49 (nI d'), σ.2) = some ((), τ) ∧ RS c L t b (a :: S) d' o τ ∧ KS t b σ τ ∧ τ.1 12 42 = σ.1 12 42 ∧ τ.1 12 43 = σ.1 12 43 := by
  obtain ⟨⟨h1, h2⟩, h3, h4, h5, h6⟩ := h
  refine ⟨(hwU2 (hwU2 σ.1 12 49 (nI d')) 12 48 (nI (S.length + 1)), σ.2.1, hwU3 σ.2.2.1 99 0 S.length (nI a), σ.2.2.2.1, σ.2.2.2.2), ?_, ⟨⟨⟨by simp (disch := decide) only [u2_k]; exact h1.1, fun k hk => ?_⟩, h2⟩, ⟨by simp (disch := decide) only [u2_k]; exact h3.1, h3.2⟩, ⟨by simp (disch := decide) only [hwU2_eq]; rfl, fun i hi => ?_⟩, ⟨by simp (disch := decide) only [u2_k, hwU2_eq], hd, ha, h5.2.2⟩, ⟨by simp (disch := decide) only [u2_k]; exact h6.1, fun i hi => ?_⟩⟩, ⟨fun x hx => (u2_t hx).trans (u2_t hx), fun k hk => (u2_k (by omega)).trans (u2_k (by omega)), rfl, fun x _ y => hwU3_t y, fun k _ => by
    show hwU3 σ.2.2.1 99 0 S.length (nI a) 87 0 k = _
    rw [hwU3_t (by decide)], rfl⟩, (by simp (disch := decide) only [u2_k]), (by simp (disch := decide) only [u2_k])⟩
  · unfold F_X12_holds_
    have e48 : hwU2 σ.1 12 49 (nI d') 12 48 = nI S.length := by simp (disch := decide) only [u2_k]; exact h4.1
    show (if hwOut (hwU2 σ.1 12 49 (nI d') 12 48) 200 then none else some ((), (hwU2 (hwU2 σ.1 12 49 (nI d')) 12 48 (hwU2 σ.1 12 49 (nI d') 12 48 + 1), σ.2.1, hwU3 σ.2.2.1 99 0 (hwU2 σ.1 12 49 (nI d') 12 48).toNatClampNeg (nI a), σ.2.2.2.1, σ.2.2.2.2)) : Option (Unit × Mem)) = _
    rw [e48, if_neg (out_nI hS (by decide)), nI_1, nI_clamp (by omega)]
  · show hwU3 σ.2.2.1 99 0 S.length (nI a) 86 0 k = _
    rw [hwU3_t (by decide)]
    exact h1.2 k hk
  · rw [List.length_cons] at hi ⊢
    show hwU3 σ.2.2.1 99 0 S.length (nI a) 99 0 (S.length + 1 - 1 - i) = _
    cases i with
    | zero => rw [show S.length + 1 - 1 - 0 = S.length by omega, hwU3_eq]; rfl
    | succ i =>
      rw [hwU3_k (by omega), show S.length + 1 - 1 - (i + 1) = S.length - 1 - i by omega]
      exact h4.2 i (by omega)
  · show hwU3 σ.2.2.1 99 0 S.length (nI a) 87 0 (200 * t + (b + i)) = _
    rw [hwU3_t (by decide)]
    exact h6.2 i hi
theorem m_opens (N : Nat) {c : Nat → Nat} {L t b : Nat} {S : List Nat} {d : Nat} {o : List Nat} {σ : Mem} (h : RS c L t b S d o σ) (a : Nat) (ha : a = 0 ∨ a = 13 ∨ a = 19) (hS : S.length < 200) : (d = 5 → F_X12_opensOne N (nI a) σ = some (0, σ)) ∧ (d ≠ 5 → ∃ τ, F_X12_opensOne N (nI a) σ = some (1, τ) ∧ RS c L t b (a :: S) (d + 1) o τ ∧ KS t b σ τ ∧ τ.1 12 42 = σ.1 12 42 ∧ τ.1 12 43 = σ.1 12 43) := by
  have h5 := h.2.2.2.1
  have hc := cnt_le S
  unfold F_X12_opensOne
  rw [h5.1]
  constructor
  · intro e
    rw [e, if_pos (show nI 5 = 5 from rfl)]
  · intro e
    obtain ⟨τ, f, r⟩ := m_push N h a (by omega) hS (d + 1) (by rw [cnt, if_pos ha, h5.2.1])
    refine ⟨τ, ?_, r⟩
    rw [if_neg (neL 5 5 rfl ⟨e, by omega, by decide⟩), nI_1]
    show (F_X12_holds_ N (nI a) (hwU2 σ.1 12 49 (nI (d + 1)), σ.2)).bind _ = _
    rw [f, Option.bind_some]
/-- what the reading of a section comes to -/
def Er (c : Nat → Nat) (L t b : Nat) (S0 E : Nat → Nat) (r : Bool × Nat × List Nat) (F : Mem → Option (Int32 × Mem)) (σ : Mem) : Prop :=
  ∃ τ, F σ = some (bI r.1, τ) ∧ KS t b σ τ ∧ τ.1 12 43 = nI (S0 r.2.1) ∧ (r.1 = true → RS c L t b [] 0 r.2.2 τ ∧ τ.1 12 42 = nI (E r.2.1))
theorem Er.step {c : Nat → Nat} {L t b : Nat} {S0 E : Nat → Nat} {r : Bool × Nat × List Nat} {F G : Mem → Option (Int32 × Mem)} {σ σ' : Mem} (e : F σ = G σ') (k : KS t b σ σ') (h : Er c L t b S0 E r G σ') : Er c L t b S0 E r F σ := by
  obtain ⟨τ, f, k2, r2⟩ := h
  exact ⟨τ, e.trans f, k.trans k2, r2⟩
/-- the reference's kinds, told apart -/
theorem mk_tab1 : ∀ k, k < 256 → (mk k = 59 ↔ k = 59) ∧ (mk k = 41 ↔ k = 41) ∧ (mk k = 40 ↔ k = 40) ∧ (mk k = 45 ↔ k = 45) ∧ (mk k = 1 ↔ k = 2) ∧ (mk k = 2 ↔ k = 3) := by decide +kernel
theorem mk_tab2 : ∀ k, k < 256 → (mk k = 3 ↔ (k = 4 ∨ k = 5 ∨ k = 6)) ∧ (mk k = 4 ↔ k = 7) ∧ (mk k = 5 ↔ k = 8) ∧ (mk k = 6 ↔ k = 9) := by decide +kernel
theorem mk_tab3 : ∀ k, k < 256 → (mk k = 60 ↔ k = 60) ∧ (mk k = 61 ↔ k = 61) ∧ (mk k = 43 ↔ k = 43) ∧ (mk k = 42 ↔ k = 42) ∧ (mk k = 0 ↔ k = 0) := by decide +kernel

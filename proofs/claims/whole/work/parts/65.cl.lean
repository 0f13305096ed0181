/-! THE PURE SIDE, 46: the class's reading: a word on, a code out -/
/-- the class stands before the word at p, with these codes of the section from b on -/
def CS (c : Nat → Nat) (L b : Nat) (S0 K V E : Nat → Nat) (p : Nat) (o : List Nat) (σ : Mem) : Prop :=
  CTp c L σ ∧ (σ.1 3 5 = nI (E p) ∧ σ.1 3 6 = nI (S0 p) ∧ σ.1 3 7 = nI (K p) ∧ (K p = 2 ∨ K p = 3 → σ.1 3 8 = nI (V p))) ∧ σ.1 3 4 = nI (b + o.length) ∧ ∀ i, i < o.length → σ.2.2.1 63 0 (b + i) = sTr (nI (o.getD i 0))
def KEm (b : Nat) (σ τ : Mem) : Prop := (∀ a, a ≠ 3 → τ.1 a = σ.1 a) ∧ (∀ k, k < 4 ∨ 8 < k → τ.1 3 k = σ.1 3 k) ∧ τ.2.1 = σ.2.1 ∧ (∀ a, a ≠ 63 → τ.2.2.1 a = σ.2.2.1 a) ∧ (∀ k, k < b → τ.2.2.1 63 0 k = σ.2.2.1 63 0 k) ∧ τ.2.2.2 = σ.2.2.2
theorem KEm.rfl_ (b : Nat) (σ : Mem) : KEm b σ σ := ⟨fun _ _ => rfl, fun _ _ => rfl, rfl, fun _ _ => rfl, fun _ _ => rfl, rfl⟩
theorem KEm.trans {b : Nat} {σ τ υ : Mem} (h : KEm b σ τ) (k : KEm b τ υ) : KEm b σ υ :=
  ⟨fun a x => (k.1 a x).trans (h.1 a x), fun a x => (k.2.1 a x).trans (h.2.1 a x), k.2.2.1.trans h.2.2.1, fun a x => (k.2.2.2.1 a x).trans (h.2.2.2.1 a x), fun a x => (k.2.2.2.2.1 a x).trans (h.2.2.2.2.1 a x), k.2.2.2.2.2.trans h.2.2.2.2.2⟩
theorem KTk.em {b : Nat} {σ τ : Mem} (h : KTk σ τ) : KEm b σ τ := ⟨h.2.1, fun k hk => h.2.2 k (by omega), by rw [h.1], fun _ _ => by rw [h.1], fun _ _ => by rw [h.1], by rw [h.1]⟩
theorem x_stp (N : Nat) {c : Nat → Nat} {L b : Nat} {S0 K V E : Nat → Nat} (ht : Tks N c L S0 K V E) {p : Nat} (hp : p ≤ L) {o : List Nat} {σ : Mem} (h : CS c L b S0 K V E p o σ) : ∃ τ, F_X8_step N σ = some ((), τ) ∧ CS c L b S0 K V E (E p) o τ ∧ KEm b σ τ := by
  obtain ⟨h1, h2, h3, h4⟩ := h
  obtain ⟨⟨-, -, t3, -⟩, -, -⟩ := ht p hp
  obtain ⟨-, tx, -⟩ := ht (E p) t3
  obtain ⟨τ, f, k, a5, a6, a7, a8⟩ := tx σ h1 h2.1
  exact ⟨τ, f, ⟨h1.kt k, ⟨a5, a6, a7, a8⟩, (k.2.2 4 (by decide)).trans h3, by rw [k.1]; exact h4⟩, k.em⟩
theorem x_emt (N : Nat) {c : Nat → Nat} {L b : Nat} {S0 K V E : Nat → Nat} {p : Nat} {o : List Nat} {σ : Mem} (h : CS c L b S0 K V E p o σ) (hb : b + o.length < 160) (a : Nat) (v : Int32) (hv : v = sTr (nI a)) : ∃ τ, F_X8_emit N v σ = some ((), τ) ∧ CS c L b S0 K V E p (o ++ [a]) τ ∧ KEm b σ τ := by
  obtain ⟨h1, h2, h3, h4⟩ := h
  refine ⟨(hwU2 σ.1 3 4 (nI (b + o.length + 1)), σ.2.1, hwU3 σ.2.2.1 63 0 (b + o.length) v, σ.2.2.2.1, σ.2.2.2.2), ?_, ⟨⟨by simp (disch := decide) only [u2_k]; exact h1.1, fun k hk => ?_⟩, ⟨by simp (disch := decide) only [u2_k]; exact h2.1, by simp (disch := decide) only [u2_k]; exact h2.2.1, by simp (disch := decide) only [u2_k]; exact h2.2.2.1, fun q => by simp (disch := decide) only [u2_k]; exact h2.2.2.2 q⟩, ?_, fun i hi => ?_⟩, ⟨fun x hx => u2_t hx, fun k hk => u2_k (by omega), rfl, fun x hx => hwU3_t hx, fun k hk => hwU3_k (by omega), rfl⟩⟩
  · unfold F_X8_emit
    rw [h3, if_neg (geL_n 160 160 rfl hb (by decide)), if_neg (out_nI hb (by decide)), nI_1, nI_clamp (by omega)]
  · show hwU3 σ.2.2.1 63 0 (b + o.length) v 62 0 k = _
    rw [hwU3_t (by decide)]
    exact h1.2 k hk
  · show hwU2 σ.1 3 4 (nI (b + o.length + 1)) 3 4 = _
    rw [hwU2_eq, List.length_append]
    rfl
  · rw [List.length_append] at hi
    show hwU3 σ.2.2.1 63 0 (b + o.length) v 63 0 (b + i) = _
    by_cases x : i = o.length
    · subst x; rw [hwU3_eq, getD_end, hv]
    · have hl : i < o.length := by
        have : [a].length = 1 := rfl
        omega
      rw [hwU3_k (by omega), getD_app hl]
      exact h4 i hl
/-- a value's code, a sign's code -/
theorem sTr_v {v : Nat} (h : v < 10000) : sTr (nI (100000 + v)) = nI v := by
  unfold sTr
  rw [if_pos (leL_a 100000 100000 rfl (by omega) (by omega)), show (100000 : Int32) = nI 100000 from rfl, k_sub (by omega), show 100000 + v - 100000 = v by omega]
theorem sTr_n {v : Nat} (h : v < 6) : sTr (nI v) = 10000 + nI v := by
  have : v = 0 ∨ v = 1 ∨ v = 2 ∨ v = 3 ∨ v = 4 ∨ v = 5 := by omega
  rcases this with e | e | e | e | e | e <;> (subst e; decide)
theorem sTr_s {k : Nat} (h : sgn k ≠ 0) : sTr (nI (sgn k)) = 20000 + nI k := by
  have : k = 7 ∨ k = 8 ∨ k = 60 ∨ k = 61 ∨ k = 43 ∨ k = 45 ∨ k = 42 := by
    apply Classical.byContradiction
    intro q
    apply h
    unfold sgn
    rw [if_neg (by omega), if_neg (by omega), if_neg (by omega), if_neg (by omega), if_neg (by omega), if_neg (by omega), if_neg (by omega)]
  rcases this with e | e | e | e | e | e | e <;> (subst e; decide)

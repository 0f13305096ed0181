/-! what the pure side takes of the soundness parts (of parts 08, 09) -/
theorem hwU2_ne {α : Type} {f : Nat → Nat → α} {t k a b : Nat} {v : α} (h : ¬ (a = t ∧ b = k)) : hwU2 f t k v a b = f a b := by
  have e : (Nat.beq a t && Nat.beq b k) = false := by
    cases hb : (Nat.beq a t && Nat.beq b k) with
    | false => rfl
    | true => simp only [Bool.and_eq_true] at hb; exact absurd ⟨Nat.eq_of_beq_eq_true hb.1, Nat.eq_of_beq_eq_true hb.2⟩ h
  simp only [hwU2, e, cond_false]
theorem hwU2_eq {α : Type} {f : Nat → Nat → α} {t k : Nat} {v : α} : hwU2 f t k v t k = v := by
  simp [hwU2]
theorem and_t {a b : Bool} (h : (a && b) = true) : a = true ∧ b = true := by simpa using h
theorem beq_t {a b : Nat} (h : Nat.beq a b = true) : a = b := Nat.eq_of_beq_eq_true h

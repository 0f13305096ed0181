/-! THE PURE SIDE, 50: which signs join at which level -/
def Jn (l k : Nat) : Bool := if l = 0 then Nat.beq k 7 else if l = 1 then Nat.beq k 8 else if l = 2 then (Nat.beq k 43 || Nat.beq k 45) else Nat.beq k 42
theorem x_joins (N l k : Nat) (hl : l < 4) (hk : k < 256) (σ : Mem) (h : σ.1 3 7 = nI k) : F_X8_joins N (nI l) σ = some (bI (Jn l k), σ) := by
  have e : ∀ x : Nat, x < 256 → (nI k = nI x ↔ k = x) := fun x hx => nI_eq (by omega) (by omega)
  have bt : ∀ x : Nat, Nat.beq k x = decide (k = x) := fun x => by
    by_cases q : k = x
    · subst q; rw [decide_eq_true rfl]; exact Nat.beq_refl k
    · rw [decide_eq_false q]
      cases hb : Nat.beq k x with
      | false => rfl
      | true => exact absurd (Nat.eq_of_beq_eq_true hb) q
  have one : ∀ x : Nat, x < 256 → (if nI k = nI x then some ((1 : Int32), σ) else some (0, σ)) = some (bI (Nat.beq k x), σ) := fun x hx => by
    rw [bt]
    by_cases q : k = x
    · rw [if_pos ((e x hx).mpr q), decide_eq_true q]; rfl
    · rw [if_neg (fun z => q ((e x hx).mp z)), decide_eq_false q]; rfl
  have : l = 0 ∨ l = 1 ∨ l = 2 ∨ l = 3 := by omega
  unfold F_X8_joins Jn
  rw [h]
  rcases this with z | z | z | z
  · subst z; exact one 7 (by decide)
  · subst z; exact one 8 (by decide)
  · subst z
    show (if nI k = nI 43 then some ((1 : Int32), σ) else if nI k = nI 45 then some (1, σ) else some (0, σ)) = some (bI (Nat.beq k 43 || Nat.beq k 45), σ)
    rw [one 45 (by decide), bt 43]
    by_cases q : k = 43
    · rw [if_pos ((e 43 (by decide)).mpr q), decide_eq_true q]; rfl
    · rw [if_neg (fun z => q ((e 43 (by decide)).mp z)), decide_eq_false q]; rfl
  · subst z; exact one 42 (by decide)

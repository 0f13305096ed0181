/-! THE PURE SIDE, 41: the machine with a stack, told once -/
def Tks (N : Nat) (c : Nat → Nat) (L : Nat) (S K V E : Nat → Nat) : Prop := ∀ p, p ≤ L → (p ≤ S p ∧ S p ≤ L ∧ E p ≤ L ∧ (K p = 0 → E p = L) ∧ (K p ≠ 0 → S p < E p) ∧ K p ≤ 255 ∧ (K p = 2 → V p < 10000) ∧ (K p = 3 → V p < 6)) ∧ TkX N c L p (S p) (K p) (V p) (E p) ∧ TkM N c L p (S p) (K p) (V p) (E p)
theorem toks (N : Nat) (hN : 200 ≤ N) (c : Nat → Nat) (hc : ∀ k, c k ≤ 255) (L : Nat) (hL : L ≤ 160) : ∃ S K V E, Tks N c L S K V E := by
  have f : ∀ p, ∃ y : Nat × Nat × Nat × Nat, p ≤ L → (p ≤ y.1 ∧ y.1 ≤ L ∧ y.2.2.2 ≤ L ∧ (y.2.1 = 0 → y.2.2.2 = L) ∧ (y.2.1 ≠ 0 → y.1 < y.2.2.2) ∧ y.2.1 ≤ 255 ∧ (y.2.1 = 2 → y.2.2.1 < 10000) ∧ (y.2.1 = 3 → y.2.2.1 < 6)) ∧ TkX N c L p y.1 y.2.1 y.2.2.1 y.2.2.2 ∧ TkM N c L p y.1 y.2.1 y.2.2.1 y.2.2.2 := by
    intro p
    by_cases hp : p ≤ L
    · obtain ⟨s, k, v, e, h⟩ := tok N hN c hc L hL p hp
      exact ⟨(s, k, v, e), fun _ => h⟩
    · exact ⟨(0, 0, 0, 0), fun q => absurd q hp⟩
  obtain ⟨y, hy⟩ := Classical.axiomOfChoice f
  exact ⟨fun p => (y p).1, fun p => (y p).2.1, fun p => (y p).2.2.1, fun p => (y p).2.2.2, fun p hp => hy p hp⟩
/-- how tightly a sign binds -/
def rk (a : Nat) : Nat := if a = 0 then 0 else if a = 11 then 1 else if a = 12 then 2 else if a = 13 then 3 else if 15 < a then (if 17 < a then (if a = 18 then 6 else 7) else 5) else 4
/-- signs put, as far as they bind so tightly -/
def uw (r : Nat) : List Nat → Nat → List Nat → List Nat × Nat × List Nat
  | [], d, o => ([], d, o)
  | a :: S, d, o => if rk a < r then (a :: S, d, o) else uw r S (if a = 13 ∨ a = 19 then d - 1 else d) (o ++ [a])
/-- which sign a word is, between two; how far it puts what waits -/
def sgn (k : Nat) : Nat := if k = 7 then 11 else if k = 8 then 12 else if k = 60 then 14 else if k = 61 then 15 else if k = 43 then 16 else if k = 45 then 17 else if k = 42 then 18 else 0
def tr (k : Nat) : Nat := if k = 59 ∨ k = 41 then 1 else if k = 7 then 1 else if k = 8 then 2 else if k = 60 ∨ k = 61 ∨ k = 43 ∨ k = 45 then 5 else if k = 42 then 6 else 0
def top4 : List Nat → Bool
  | [] => false
  | a :: _ => Nat.beq (rk a) 4
def sy (K V E : Nat → Nat) : Nat → Bool → Bool → List Nat → Nat → List Nat → Nat → Option (Bool × Nat × List Nat)
  | 0, _, _, _, _, _, _ => none
  | n + 1, false, _, S, d, o, p =>
    if K p = 59 then (match (uw 1 S d o).1 with
      | [] => some (true, p, (uw 1 S d o).2.2)
      | _ :: _ => some (false, p, []))
    else if K p = 41 then (match (uw 1 S d o).1 with
      | [] => some (false, p, [])
      | _ :: S2 => sy K V E n false false (uw 7 S2 ((uw 1 S d o).2.1 - 1) (uw 1 S d o).2.2).1 (uw 7 S2 ((uw 1 S d o).2.1 - 1) (uw 1 S d o).2.2).2.1 (uw 7 S2 ((uw 1 S d o).2.1 - 1) (uw 1 S d o).2.2).2.2 (E p))
    else if sgn (K p) = 0 then some (false, p, [])
    else if K p = 60 ∨ K p = 61 then (if top4 (uw (tr (K p)) S d o).1 = true then some (false, p, []) else sy K V E n true false (sgn (K p) :: (uw (tr (K p)) S d o).1) (uw (tr (K p)) S d o).2.1 (uw (tr (K p)) S d o).2.2 (E p))
    else sy K V E n true (decide (sgn (K p) ≤ 12)) (sgn (K p) :: (uw (tr (K p)) S d o).1) (uw (tr (K p)) S d o).2.1 (uw (tr (K p)) S d o).2.2 (E p)
  | n + 1, true, x2, S, d, o, p =>
    if K p = 2 ∨ K p = 3 then sy K V E n false false (uw 7 S d (o ++ [if K p = 2 then 100000 + V p else V p])).1 (uw 7 S d (o ++ [if K p = 2 then 100000 + V p else V p])).2.1 (uw 7 S d (o ++ [if K p = 2 then 100000 + V p else V p])).2.2 (E p)
    else if K p = 9 ∧ x2 = true then (if d = 5 then some (false, p, []) else sy K V E n true true (13 :: S) (d + 1) o (E p))
    else if K p = 45 then (if d = 5 then some (false, p, []) else sy K V E n true false (19 :: S) (d + 1) o (E p))
    else if K p = 40 then (if d = 5 then some (false, p, []) else sy K V E n true true (0 :: S) (d + 1) o (E p))
    else some (false, p, [])
def Run (K V E : Nat → Nat) (x1 x2 : Bool) (S : List Nat) (d : Nat) (o : List Nat) (p : Nat) (r : Bool × Nat × List Nat) : Prop := ∃ n, sy K V E n x1 x2 S d o p = some r
theorem uw_go {r a : Nat} {S : List Nat} {d : Nat} {o : List Nat} (h : ¬ rk a < r) : uw r (a :: S) d o = uw r S (if a = 13 ∨ a = 19 then d - 1 else d) (o ++ [a]) := by
  rw [uw, if_neg h]
theorem uw_st {r a : Nat} {S : List Nat} {d : Nat} {o : List Nat} (h : rk a < r) : uw r (a :: S) d o = (a :: S, d, o) := by
  rw [uw, if_pos h]
theorem tr_0 {k : Nat} (h : tr k = 0) : sgn k = 0 ∧ k ≠ 59 ∧ k ≠ 41 := by
  unfold tr at h
  unfold sgn
  by_cases a : k = 59 ∨ k = 41
  · rw [if_pos a] at h; cases h
  rw [if_neg a] at h
  by_cases b : k = 7
  · rw [if_pos b] at h; cases h
  rw [if_neg b] at h
  by_cases b8 : k = 8
  · rw [if_pos b8] at h; cases h
  rw [if_neg b8] at h
  by_cases e : k = 60 ∨ k = 61 ∨ k = 43 ∨ k = 45
  · rw [if_pos e] at h; cases h
  rw [if_neg e] at h
  by_cases f : k = 42
  · rw [if_pos f] at h; cases h
  rw [if_neg b, if_neg b8, if_neg (by omega), if_neg (by omega), if_neg (by omega), if_neg (by omega), if_neg f]
  exact ⟨rfl, by omega, by omega⟩
/-- a sign that binds as tightly as the next word asks may be put at once -/
theorem sy_sw {K V E : Nat → Nat} {n : Nat} {x x' : Bool} {a : Nat} {S : List Nat} {d : Nat} {o : List Nat} {p : Nat} (h : tr (K p) ≤ rk a) : sy K V E n false x (a :: S) d o p = sy K V E n false x' S (if a = 13 ∨ a = 19 then d - 1 else d) (o ++ [a]) p := by
  cases n with
  | zero => rfl
  | succ n =>
    by_cases t0 : tr (K p) = 0
    · obtain ⟨s0, n1, n2⟩ := tr_0 t0
      rw [sy, sy, if_neg n1, if_neg n2, if_pos s0, if_neg n1, if_neg n2, if_pos s0]
    · have go : ∀ r, r ≤ tr (K p) → uw r (a :: S) d o = uw r S (if a = 13 ∨ a = 19 then d - 1 else d) (o ++ [a]) := fun r hr => uw_go (by omega)
      rw [sy, sy, go (tr (K p)) (Nat.le_refl _), go 1 (by omega)]
/-- with more to go on with, the same -/
theorem sy_mono {K V E : Nat → Nat} : ∀ (n : Nat) {x1 x2 : Bool} {S : List Nat} {d : Nat} {o : List Nat} {p : Nat} {r : Bool × Nat × List Nat}, sy K V E n x1 x2 S d o p = some r → sy K V E (n + 1) x1 x2 S d o p = some r := by
  intro n
  induction n with
  | zero => intro x1 x2 S d o p r h; rw [sy] at h; cases h
  | succ n ih =>
    intro x1 x2 S d o p r h
    cases x1 with
    | false =>
      rw [sy] at h ⊢
      by_cases c1 : K p = 59
      · rw [if_pos c1] at h ⊢; exact h
      rw [if_neg c1] at h ⊢
      by_cases c2 : K p = 41
      · rw [if_pos c2] at h ⊢
        cases e : (uw 1 S d o).1 with
        | nil => rw [e] at h; exact h
        | cons b S2 =>
          rw [e] at h
          exact ih h
      rw [if_neg c2] at h ⊢
      by_cases c3 : sgn (K p) = 0
      · rw [if_pos c3] at h ⊢; exact h
      rw [if_neg c3] at h ⊢
      by_cases c4 : K p = 60 ∨ K p = 61
      · rw [if_pos c4] at h ⊢
        by_cases c5 : top4 (uw (tr (K p)) S d o).1 = true
        · rw [if_pos c5] at h ⊢; exact h
        · rw [if_neg c5] at h ⊢; exact ih h
      · rw [if_neg c4] at h ⊢; exact ih h
    | true =>
      rw [sy] at h ⊢
      by_cases c1 : K p = 2 ∨ K p = 3
      · rw [if_pos c1] at h ⊢; exact ih h
      rw [if_neg c1] at h ⊢
      by_cases c2 : K p = 9 ∧ x2 = true
      · rw [if_pos c2] at h ⊢
        by_cases c5 : d = 5
        · rw [if_pos c5] at h ⊢; exact h
        · rw [if_neg c5] at h ⊢; exact ih h
      rw [if_neg c2] at h ⊢
      by_cases c3 : K p = 45
      · rw [if_pos c3] at h ⊢
        by_cases c5 : d = 5
        · rw [if_pos c5] at h ⊢; exact h
        · rw [if_neg c5] at h ⊢; exact ih h
      rw [if_neg c3] at h ⊢
      by_cases c4 : K p = 40
      · rw [if_pos c4] at h ⊢
        by_cases c5 : d = 5
        · rw [if_pos c5] at h ⊢; exact h
        · rw [if_neg c5] at h ⊢; exact ih h
      rw [if_neg c4] at h ⊢
      exact h

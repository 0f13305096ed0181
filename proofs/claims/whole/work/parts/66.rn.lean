/-! THE PURE SIDE, 47: the machine, step by step -/
theorem Run.num {K V E : Nat → Nat} {x2 : Bool} {S : List Nat} {d : Nat} {o : List Nat} {p : Nat} {r : Bool × Nat × List Nat} (c : K p = 2 ∨ K p = 3) (h : Run K V E false false (uw 7 S d (o ++ [if K p = 2 then 100000 + V p else V p])).1 (uw 7 S d (o ++ [if K p = 2 then 100000 + V p else V p])).2.1 (uw 7 S d (o ++ [if K p = 2 then 100000 + V p else V p])).2.2 (E p) r) : Run K V E true x2 S d o p r := by
  obtain ⟨n, h⟩ := h
  exact ⟨n + 1, by rw [sy, if_pos c]; exact h⟩
theorem Run.nt {K V E : Nat → Nat} {S : List Nat} {d : Nat} {o : List Nat} {p : Nat} {r : Bool × Nat × List Nat} (c : K p = 9) (hd : d ≠ 5) (h : Run K V E true true (13 :: S) (d + 1) o (E p) r) : Run K V E true true S d o p r := by
  obtain ⟨n, h⟩ := h
  exact ⟨n + 1, by rw [sy, if_neg (by omega), if_pos ⟨c, rfl⟩, if_neg hd]; exact h⟩
theorem Run.neg {K V E : Nat → Nat} {x2 : Bool} {S : List Nat} {d : Nat} {o : List Nat} {p : Nat} {r : Bool × Nat × List Nat} (c : K p = 45) (hd : d ≠ 5) (h : Run K V E true false (19 :: S) (d + 1) o (E p) r) : Run K V E true x2 S d o p r := by
  obtain ⟨n, h⟩ := h
  exact ⟨n + 1, by rw [sy, if_neg (by omega), if_neg (fun q => by have := q.1; omega), if_pos c, if_neg hd]; exact h⟩
theorem Run.par {K V E : Nat → Nat} {x2 : Bool} {S : List Nat} {d : Nat} {o : List Nat} {p : Nat} {r : Bool × Nat × List Nat} (c : K p = 40) (hd : d ≠ 5) (h : Run K V E true true (0 :: S) (d + 1) o (E p) r) : Run K V E true x2 S d o p r := by
  obtain ⟨n, h⟩ := h
  exact ⟨n + 1, by rw [sy, if_neg (by omega), if_neg (fun q => by have := q.1; omega), if_neg (by omega), if_pos c, if_neg hd]; exact h⟩
/-- too deep, or no operand at all -/
theorem Run.bad {K V E : Nat → Nat} {x2 : Bool} {S : List Nat} {d : Nat} {o : List Nat} {p : Nat} (c : ¬ (K p = 2 ∨ K p = 3)) (h : d = 5 ∨ ((K p = 9 → x2 = false) ∧ K p ≠ 45 ∧ K p ≠ 40)) : Run K V E true x2 S d o p (false, p, []) := by
  refine ⟨1, ?_⟩
  rw [sy, if_neg c]
  by_cases c9 : K p = 9 ∧ x2 = true
  · rw [if_pos c9]
    rcases h with h | h
    · rw [if_pos h]
    · have := h.1 c9.1
      rw [c9.2] at this
      cases this
  rw [if_neg c9]
  by_cases c45 : K p = 45
  · rw [if_pos c45]
    rcases h with h | h
    · rw [if_pos h]
    · exact absurd c45 h.2.1
  rw [if_neg c45]
  by_cases c40 : K p = 40
  · rw [if_pos c40]
    rcases h with h | h
    · rw [if_pos h]
    · exact absurd c40 h.2.2
  rw [if_neg c40]
/-- a word that neither joins nor ends -/
theorem Run.stray {K V E : Nat → Nat} {x : Bool} {S : List Nat} {d : Nat} {o : List Nat} {p : Nat} (c1 : K p ≠ 59) (c2 : K p ≠ 41) (c3 : sgn (K p) = 0) : Run K V E false x S d o p (false, p, []) :=
  ⟨1, by rw [sy, if_neg c1, if_neg c2, if_pos c3]⟩
/-- it ends inside brackets -/
theorem Run.open_ {K V E : Nat → Nat} {x : Bool} {S S2 : List Nat} {a d : Nat} {o : List Nat} {p : Nat} (c : K p = 59) (e : (uw 1 S d o).1 = a :: S2) : Run K V E false x S d o p (false, p, []) :=
  ⟨1, by rw [sy, if_pos c, e]⟩
theorem Run.sw {K V E : Nat → Nat} {x x' : Bool} {a : Nat} {S : List Nat} {d : Nat} {o : List Nat} {p : Nat} {r : Bool × Nat × List Nat} (h : tr (K p) ≤ rk a) (q : Run K V E false x' S (if a = 13 ∨ a = 19 then d - 1 else d) (o ++ [a]) p r) : Run K V E false x (a :: S) d o p r := by
  obtain ⟨n, q⟩ := q
  exact ⟨n, (sy_sw h).trans q⟩
/-- a bracket closes -/
theorem Run.cls {K V E : Nat → Nat} {x : Bool} {S : List Nat} {d : Nat} {o : List Nat} {p : Nat} {r : Bool × Nat × List Nat} (c : K p = 41) (h : Run K V E false false (uw 7 S (d - 1) o).1 (uw 7 S (d - 1) o).2.1 (uw 7 S (d - 1) o).2.2 (E p) r) : Run K V E false x (0 :: S) d o p r := by
  obtain ⟨n, h⟩ := h
  have e : uw 1 (0 :: S) d o = (0 :: S, d, o) := uw_st (by decide)
  exact ⟨n + 1, by rw [sy, if_neg (by omega), if_pos c, e]; exact h⟩
/-- a sign between two, nothing on the stack binding so tightly -/
theorem Run.op {K V E : Nat → Nat} {x : Bool} {S : List Nat} {d : Nat} {o : List Nat} {p : Nat} {r : Bool × Nat × List Nat} (c : sgn (K p) ≠ 0) (hu : uw (tr (K p)) S d o = (S, d, o)) (h4 : (K p = 60 ∨ K p = 61) → top4 S = false) (h : Run K V E true (decide (sgn (K p) ≤ 12)) (sgn (K p) :: S) d o (E p) r) : Run K V E false x S d o p r := by
  obtain ⟨n, h⟩ := h
  obtain ⟨-, -, -, n59, n41⟩ := tr_rk (K p) c
  refine ⟨n + 1, ?_⟩
  rw [sy, if_neg n59, if_neg n41, if_neg c, hu]
  by_cases c4 : K p = 60 ∨ K p = 61
  · rw [if_pos c4]
    rw [if_neg (by rw [h4 c4]; decide)]
    rw [show decide (sgn (K p) ≤ 12) = false from by rcases c4 with e | e <;> (rw [e]; rfl)] at h
    exact h
  · rw [if_neg c4]; exact h
/-- a second comparison -/
theorem Run.twice {K V E : Nat → Nat} {x : Bool} {a : Nat} {S : List Nat} {d : Nat} {o : List Nat} {p : Nat} (c : K p = 60 ∨ K p = 61) (ha : rk a = 4) : Run K V E false x (a :: S) d o p (false, p, []) := by
  have hs : sgn (K p) ≠ 0 ∧ K p ≠ 59 ∧ K p ≠ 41 ∧ tr (K p) = 5 := by rcases c with e | e <;> (rw [e]; decide)
  have e : uw (tr (K p)) (a :: S) d o = (a :: S, d, o) := uw_st (by omega)
  refine ⟨1, ?_⟩
  rw [sy, if_neg hs.2.1, if_neg hs.2.2.1, if_neg hs.1, if_pos c, e]
  rw [if_pos (show top4 (a :: S) = true by show Nat.beq (rk a) 4 = true; rw [ha]; rfl)]

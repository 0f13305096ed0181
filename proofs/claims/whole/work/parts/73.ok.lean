/-! THE PURE SIDE, 54: what the machine puts can be worked -/
def sDp : List Int32 → Nat → Option Nat
  | [], d => some d
  | c :: r, d => if sIsV c = true then sDp r (d + 1) else if sIsT c = true then (if 1 ≤ d then sDp r d else none) else if sIsJ c = true ∧ 2 ≤ d then sDp r (d - 1) else none
theorem sDp_ok : ∀ (l : List Int32) (d : Nat), sDp l d = some 1 → sOk l d = true
  | [], d, h => by
    rw [sDp] at h
    cases h
    rfl
  | c :: r, d, h => by
    rw [sDp] at h
    rw [sOk]
    by_cases v : sIsV c = true
    · rw [if_pos v] at h
      rw [v]
      exact sDp_ok r _ h
    · rw [if_neg v] at h
      have v' : sIsV c = false := by
        cases q : sIsV c with
        | false => rfl
        | true => exact absurd q v
      rw [v']
      by_cases t : sIsT c = true
      · rw [if_pos t] at h
        rw [t]
        by_cases e : 1 ≤ d
        · rw [if_pos e] at h
          show (Nat.ble 1 d && sOk r d) = true
          rw [Nat.ble_eq_true_of_le e]
          exact sDp_ok r _ h
        · rw [if_neg e] at h; cases h
      · rw [if_neg t] at h
        have t' : sIsT c = false := by
          cases q : sIsT c with
          | false => rfl
          | true => exact absurd q t
        rw [t']
        by_cases e : sIsJ c = true ∧ 2 ≤ d
        · rw [if_pos e] at h
          show (sIsJ c && (Nat.ble 2 d && sOk r (d - 1))) = true
          rw [e.1, Nat.ble_eq_true_of_le e.2]
          exact sDp_ok r _ h
        · rw [if_neg e] at h; cases h
theorem sDp_app : ∀ (l : List Int32) (c : Int32) (d e : Nat), sDp l d = some e → sDp (l ++ [c]) d = sDp [c] e
  | [], c, d, e, h => by
    rw [sDp] at h
    cases h
    rfl
  | x :: l, c, d, e, h => by
    rw [sDp] at h
    rw [List.cons_append, sDp]
    by_cases v : sIsV x = true
    · rw [if_pos v] at h ⊢
      exact sDp_app l c _ _ h
    · rw [if_neg v] at h ⊢
      by_cases t : sIsT x = true
      · rw [if_pos t] at h ⊢
        by_cases q : 1 ≤ d
        · rw [if_pos q] at h ⊢; exact sDp_app l c _ _ h
        · rw [if_neg q] at h; cases h
      · rw [if_neg t] at h ⊢
        by_cases q : sIsJ x = true ∧ 2 ≤ d
        · rw [if_pos q] at h ⊢; exact sDp_app l c _ _ h
        · rw [if_neg q] at h; cases h
def nbi (a : Nat) : Nat := if a = 0 ∨ a = 13 ∨ a = 19 then 0 else 1
def nb : List Nat → Nat
  | [] => 0
  | a :: S => nb S + nbi a
def okSt : List Nat → Prop
  | [] => True
  | a :: S => (a = 0 ∨ (11 ≤ a ∧ a ≤ 19)) ∧ okSt S
def Inv (x1 : Bool) (S o : List Nat) : Prop := okSt S ∧ sDp (o.map nI) 0 = some (nb S + (if x1 = true then 0 else 1))
theorem sgc_tab : ∀ a, 11 ≤ a → a ≤ 19 → sIsV (nI a) = false ∧ (a = 13 ∨ a = 19 → sIsT (nI a) = true) ∧ (¬ (a = 13 ∨ a = 19) → sIsT (nI a) = false ∧ sIsJ (nI a) = true) := by
  intro a h1 h2
  have : a = 11 ∨ a = 12 ∨ a = 13 ∨ a = 14 ∨ a = 15 ∨ a = 16 ∨ a = 17 ∨ a = 18 ∨ a = 19 := by omega
  rcases this with e | e | e | e | e | e | e | e | e <;> (subst e; decide)
theorem map_end (o : List Nat) (a : Nat) : (o ++ [a]).map nI = o.map nI ++ [nI a] := by rw [List.map_append]; rfl
theorem Inv.uw {r : Nat} (hr : 1 ≤ r) : ∀ (S : List Nat) (d : Nat) (o : List Nat), Inv false S o → Inv false (uw r S d o).1 (uw r S d o).2.2
  | [], d, o, h => h
  | a :: S, d, o, h => by
    by_cases c : rk a < r
    · rw [uw_st c]; exact h
    · rw [uw_go c]
      refine Inv.uw hr S _ _ ?_
      obtain ⟨⟨h1, h2⟩, h3⟩ := h
      have a0 : a ≠ 0 := fun e => c (by rw [e]; exact hr)
      obtain ⟨t1, t2, t3⟩ := sgc_tab a (by omega) (by omega)
      rw [if_neg (by decide), nb] at h3
      refine ⟨h2, ?_⟩
      rw [if_neg (by decide), map_end, sDp_app _ _ _ _ h3, sDp, if_neg (by rw [t1]; decide)]
      by_cases q : a = 13 ∨ a = 19
      · rw [if_pos (t2 q), if_pos (by omega)]
        have : nbi a = 0 := if_pos (Or.inr q)
        rw [sDp, this]
      · have e1 : nbi a = 1 := if_neg (fun z => z.elim a0 q)
        rw [if_neg (by rw [(t3 q).1]; decide), if_pos ⟨(t3 q).2, by omega⟩, sDp, e1, Nat.add_sub_cancel]
theorem v_ok {v : Nat} (h : (100000 ≤ v ∧ v < 110000) ∨ v < 6) : sIsV (nI v) = true := by
  unfold sIsV
  rcases h with ⟨h1, h2⟩ | h
  · rw [decide_eq_true (show (100000 : Int32) ≤ nI v from leL_a 100000 100000 rfl h1 (by omega)), decide_eq_true (show nI v < (110000 : Int32) from ltL_b 110000 110000 rfl h2 (by decide))]
    rfl
  · have : v = 0 ∨ v = 1 ∨ v = 2 ∨ v = 3 ∨ v = 4 ∨ v = 5 := by omega
    rcases this with e | e | e | e | e | e <;> (subst e; decide)
theorem Inv.val {S o : List Nat} {v : Nat} (h : Inv true S o) (hv : (100000 ≤ v ∧ v < 110000) ∨ v < 6) : Inv false S (o ++ [v]) := by
  obtain ⟨h1, h2⟩ := h
  refine ⟨h1, ?_⟩
  rw [if_pos rfl, Nat.add_zero] at h2
  rw [map_end, sDp_app _ _ _ _ h2, sDp, if_pos (v_ok hv), if_neg (by decide)]
  rfl
theorem Inv.opn {S o : List Nat} {a : Nat} (h : Inv true S o) (ha : a = 0 ∨ a = 13 ∨ a = 19) : Inv true (a :: S) o := by
  obtain ⟨h1, h2⟩ := h
  refine ⟨⟨by omega, h1⟩, ?_⟩
  rw [h2, nb, show nbi a = 0 from if_pos ha]
  rfl
theorem Inv.opr {S o : List Nat} {a : Nat} (h : Inv false S o) (ha : 11 ≤ a ∧ a ≤ 18 ∧ a ≠ 13) : Inv true (a :: S) o := by
  obtain ⟨h1, h2⟩ := h
  refine ⟨⟨by omega, h1⟩, ?_⟩
  rw [h2, nb, show nbi a = 1 from if_neg (by omega)]
  rfl
theorem Inv.cls {S o : List Nat} {a : Nat} (h : Inv false (a :: S) o) (ha : a = 0) : Inv false S o := by
  obtain ⟨⟨-, h1⟩, h2⟩ := h
  refine ⟨h1, ?_⟩
  rw [h2, nb, show nbi a = 0 from if_pos (Or.inl ha)]
  rfl
theorem sy_ok {N : Nat} {c : Nat → Nat} {L : Nat} {S0 K V E : Nat → Nat} (ht : Tks N c L S0 K V E) : ∀ (n : Nat) (x1 x2 : Bool) (S : List Nat) (d : Nat) (o : List Nat) (p p2 : Nat) (o2 : List Nat), p ≤ L → Inv x1 S o → sy K V E n x1 x2 S d o p = some (true, p2, o2) → sOk (o2.map nI) 0 = true := by
  intro n
  induction n with
  | zero => intro x1 x2 S d o p p2 o2 hp hi h; rw [sy] at h; cases h
  | succ n ih =>
    intro x1 x2 S d o p p2 o2 hp hi h
    obtain ⟨⟨t1, t2, t3, t4, t5, t6, t7, t8⟩, -, -⟩ := ht p hp
    cases x1 with
    | false =>
      rw [sy] at h
      by_cases c1 : K p = 59
      · rw [if_pos c1] at h
        have i1 := hi.uw (r := 1) (Nat.le_refl _) S d o
        cases e : (uw 1 S d o).1 with
        | nil =>
          rw [e] at h i1
          cases h
          exact sDp_ok _ _ i1.2
        | cons b S2 => rw [e] at h; cases h
      rw [if_neg c1] at h
      by_cases c2 : K p = 41
      · rw [if_pos c2] at h
        have i1 := hi.uw (r := 1) (Nat.le_refl _) S d o
        cases e : (uw 1 S d o).1 with
        | nil => rw [e] at h; cases h
        | cons b S2 =>
          have b0 := rk_0 (uw_top S d o b S2 e)
          rw [e] at h i1
          exact ih _ _ _ _ _ _ _ _ t3 ((i1.cls b0).uw (r := 7) (by decide) _ _ _) h
      rw [if_neg c2] at h
      by_cases c3 : sgn (K p) = 0
      · rw [if_pos c3] at h; cases h
      rw [if_neg c3] at h
      obtain ⟨-, g2, -⟩ := tr_rk (K p) c3
      have r1 : 1 ≤ tr (K p) := by
        cases q : tr (K p) with
        | zero => exact absurd (tr_0 q).1 c3
        | succ x => omega
      have i1 := (hi.uw r1 S d o).opr g2
      by_cases c4 : K p = 60 ∨ K p = 61
      · rw [if_pos c4] at h
        by_cases c5 : top4 (uw (tr (K p)) S d o).1 = true
        · rw [if_pos c5] at h; cases h
        · rw [if_neg c5] at h; exact ih _ _ _ _ _ _ _ _ t3 i1 h
      · rw [if_neg c4] at h; exact ih _ _ _ _ _ _ _ _ t3 i1 h
    | true =>
      rw [sy] at h
      by_cases c1 : K p = 2 ∨ K p = 3
      · rw [if_pos c1] at h
        refine ih _ _ _ _ _ _ _ _ t3 (Inv.uw (r := 7) (by decide) _ _ _ (hi.val ?_)) h
        by_cases z : K p = 2
        · rw [if_pos z]; have := t7 z; omega
        · rw [if_neg z]; have := t8 (by omega); omega
      rw [if_neg c1] at h
      by_cases c2 : K p = 9 ∧ x2 = true
      · rw [if_pos c2] at h
        by_cases c5 : d = 5
        · rw [if_pos c5] at h; cases h
        · rw [if_neg c5] at h; exact ih _ _ _ _ _ _ _ _ t3 (hi.opn (Or.inr (Or.inl rfl))) h
      rw [if_neg c2] at h
      by_cases c3 : K p = 45
      · rw [if_pos c3] at h
        by_cases c5 : d = 5
        · rw [if_pos c5] at h; cases h
        · rw [if_neg c5] at h; exact ih _ _ _ _ _ _ _ _ t3 (hi.opn (Or.inr (Or.inr rfl))) h
      rw [if_neg c3] at h
      by_cases c4 : K p = 40
      · rw [if_pos c4] at h
        by_cases c5 : d = 5
        · rw [if_pos c5] at h; cases h
        · rw [if_neg c5] at h; exact ih _ _ _ _ _ _ _ _ t3 (hi.opn (Or.inl rfl)) h
      rw [if_neg c4] at h
      cases h
theorem Run.ok {N : Nat} {c : Nat → Nat} {L : Nat} {S0 K V E : Nat → Nat} (ht : Tks N c L S0 K V E) {p p2 : Nat} {o : List Nat} (hp : p ≤ L) (h : Run K V E true true [] 0 [] p (true, p2, o)) : sOk (o.map nI) 0 = true := by
  obtain ⟨n, h⟩ := h
  exact sy_ok ht n true true [] 0 [] p p2 o hp ⟨trivial, rfl⟩ h

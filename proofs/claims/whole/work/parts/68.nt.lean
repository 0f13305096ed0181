/-! THE PURE SIDE, 49: the class reads what may be denied or compared -/
def nS (k : Nat) : Prop := k = 43 ∨ k = 45 ∨ k = 42
def Tp (r : Nat) : List Nat → Prop
  | [] => True
  | a :: _ => rk a < r
theorem Tp.uw {r q : Nat} {S : List Nat} {d : Nat} {o : List Nat} (h : Tp r S) (hq : r ≤ q) : uw q S d o = (S, d, o) := by
  cases S with
  | nil => rfl
  | cons a S => exact uw_st (Nat.lt_of_lt_of_le h hq)
theorem Tp.t4 {S : List Nat} (h : Tp 4 S) : top4 S = false := by
  cases S with
  | nil => rfl
  | cons a S =>
    have h : rk a < 4 := h
    show Nat.beq (rk a) 4 = false
    cases e : Nat.beq (rk a) 4 with
    | false => rfl
    | true => have := Nat.eq_of_beq_eq_true e; omega
theorem tr_sm {k : Nat} (h1 : ¬ nS k) (h2 : ¬ nC k) : tr k ≤ 2 := by
  unfold nS at h1
  unfold nC at h2
  unfold tr
  repeat' split
  all_goals first | omega | decide
theorem x_not (N : Nat) {c : Nat → Nat} {L b : Nat} (hL : L ≤ 160) {S0 K V E : Nat → Nat} (ht : Tks N c L S0 K V E) (g0 : Int32 → Int32 → Mem → Option (Int32 × Mem)) (g1 : Int32 → Mem → Option (Int32 × Mem)) (g2 : Int32 → Mem → Option (Int32 × Mem)) (g3 : Int32 → Int32 → Mem → Option (Int32 × Mem)) (a : Nat) (ha : a ≤ 5)
    (h1 : a < 5 → ∀ (p : Nat) (S : List Nat) (o : List Nat) (σ : Mem), CS c L b S0 K V E p o σ → p ≤ L → b + o.length ≤ p → Tp 4 S → Oc c L b S0 K V E true S (a + 1) o p nS nC (fun o2 => (S, a + 1, o2)) (g1 (nI (a + 1))) σ)
    (h0 : ∀ (p : Nat) (S : List Nat) (o : List Nat) (σ : Mem) (x2 : Bool), CS c L b S0 K V E p o σ → p ≤ L → b + o.length ≤ p → (x2 = true → K p ≠ 9) → Tp 5 S → Oc c L b S0 K V E x2 S a o p nS nF (fun o2 => (S, a, o2)) (g0 2 (nI a)) σ)
    (p : Nat) (S : List Nat) (o : List Nat) (σ : Mem) (hs : CS c L b S0 K V E p o σ) (hp : p ≤ L) (hb : b + o.length ≤ p) (hS : Tp 4 S) :
    Oc c L b S0 K V E true S a o p nS nC (fun o2 => (S, a, o2)) (B_X8_readsNot N g0 g1 g2 g3 (nI a)) σ := by
  obtain ⟨⟨t1, t2, t3, t4, t5, t6, t7, t8⟩, -, -⟩ := ht p hp
  have e7 : σ.1 3 7 = nI (K p) := hs.2.1.2.2.1
  have S5 : Tp 5 S := by
    cases S with
    | nil => trivial
    | cons x S => exact Nat.lt_of_lt_of_le hS (by decide)
  by_cases c9 : K p = 9
  · by_cases a5 : a = 5
    · subst a5
      refine ⟨0, σ, ?_, KEm.rfl_ b σ, Or.inl ⟨rfl, p, hp, hs.2.1.2.1, Run.bad (by omega) (Or.inl rfl)⟩⟩
      unfold B_X8_readsNot
      rw [e7, if_pos (show nI (K p) = 9 by rw [c9]; rfl), if_neg (show ¬ nI 5 < 5 by decide)]
    · have pe := t5 (by omega)
      obtain ⟨τ1, f1, s1, k1⟩ := x_stp N ht hp hs
      obtain ⟨r, τ2, f2, k2, alt⟩ := h1 (by omega) (E p) (13 :: S) o τ1 s1 t3 (by omega) (show rk 13 < 4 by decide)
      have B1 : B_X8_readsNot N g0 g1 g2 g3 (nI a) σ = if r = 0 then some (0, τ2) else (F_X8_emit N 30009 τ2).bind (fun q3 => some (1, q3.2)) := by
        unfold B_X8_readsNot
        rw [e7, if_pos (show nI (K p) = 9 by rw [c9]; rfl), if_pos (ltL_b 5 5 rfl (by omega) (by decide)), f1, Option.bind_some, nI_1]
        dsimp only
        rw [f2, Option.bind_some]
      rcases alt with ⟨e, pf, hpf, e6', run⟩ | ⟨e, p2, o2, hp2, s2, hl, nb, dead, cont⟩
      · subst e
        exact ⟨0, τ2, by rw [B1, k00], k1.trans k2, Or.inl ⟨rfl, pf, hpf, e6', Run.nt c9 a5 run⟩⟩
      · subst e
        obtain ⟨τ3, f3, s3, k3⟩ := x_emt N s2 (by omega) 13 30009 (by decide)
        refine ⟨1, τ3, by rw [B1, k10, f3, Option.bind_some], (k1.trans k2).trans k3, Or.inr ⟨rfl, p2, o2 ++ [13], hp2, s3, ?_, nb, fun q => Run.nt c9 a5 (dead q), fun nd res q => Run.nt c9 a5 (cont nd res (Run.sw (Nat.le_trans (tr_sm nb nd) (by decide)) q))⟩⟩
        have l1 : (o2 ++ [13]).length = o2.length + 1 := by rw [List.length_append]; rfl
        omega
  · obtain ⟨r, τ1, f1, k1, alt⟩ := h0 p S o σ true hs hp hb (fun _ => c9) S5
    have n9 : ¬ nI (K p) = 9 := fun z => c9 ((nI_eq (a := K p) (b := 9) (by omega) (by decide)).mp z)
    have B1 : B_X8_readsNot N g0 g1 g2 g3 (nI a) σ = if r = 0 then some (0, τ1) else if (τ1.1 3 7) = (60 : Int32) then F_X8_readsNot_b72 N g0 g1 g2 g3 (nI a) τ1 else if (τ1.1 3 7) = (61 : Int32) then F_X8_readsNot_b72 N g0 g1 g2 g3 (nI a) τ1 else some (1, τ1) := by
      unfold B_X8_readsNot
      rw [e7, if_neg n9, f1, Option.bind_some]
    rcases alt with ⟨e, pf, hpf, e6', run⟩ | ⟨e, p1, o1, hp1, s1, hl, nb, -, cont⟩
    · subst e
      exact ⟨0, τ1, by rw [B1, k00], k1, Or.inl ⟨rfl, pf, hpf, e6', run⟩⟩
    · subst e
      obtain ⟨⟨u1, u2, u3, u4, u5, u6, -, -⟩, -, -⟩ := ht p1 hp1
      rw [k10, s1.2.1.2.2.1] at B1
      by_cases cc : K p1 = 60 ∨ K p1 = 61
      · have hsg : sgn (K p1) ≠ 0 ∧ tr (K p1) = 5 ∧ rk (sgn (K p1)) = 4 ∧ decide (sgn (K p1) ≤ 12) = false ∧ ¬ (sgn (K p1) = 13 ∨ sgn (K p1) = 19) := by rcases cc with e | e <;> (rw [e]; decide)
        have pe := u5 (by omega)
        obtain ⟨τ2, f2, s2, k2⟩ := x_stp N ht hp1 s1
        obtain ⟨r, τ3, f3, k3, alt⟩ := h0 (E p1) (sgn (K p1) :: S) o1 τ2 false s2 u3 (by omega) (fun q => by cases q) (show rk (sgn (K p1)) < 5 by omega)
        have B2 : B_X8_readsNot N g0 g1 g2 g3 (nI a) σ = if r = 0 then some (0, τ3) else (F_X8_emit N (20000 + nI (K p1)) τ3).bind (fun q7 => some (1, q7.2)) := by
          have b72 : F_X8_readsNot_b72 N g0 g1 g2 g3 (nI a) τ1 = if r = 0 then some (0, τ3) else (F_X8_emit N (20000 + nI (K p1)) τ3).bind (fun q7 => some (1, q7.2)) := by
            unfold F_X8_readsNot_b72
            rw [f2, Option.bind_some]
            dsimp only
            rw [f3, Option.bind_some, s1.2.1.2.2.1]
          rw [B1, b72]
          rcases cc with e | e
          · rw [if_pos (show nI (K p1) = 60 by rw [e]; rfl)]
          · rw [if_neg (show ¬ nI (K p1) = 60 by rw [e]; decide), if_pos (show nI (K p1) = 61 by rw [e]; rfl)]
        have op : ∀ res, Run K V E true false (sgn (K p1) :: S) a o1 (E p1) res → Run K V E true true S a o p res := fun res q => cont id res (Run.op hsg.1 (hS.uw (by omega)) (fun _ => hS.t4) (by rw [hsg.2.2.2.1]; exact q))
        rcases alt with ⟨e, pf, hpf, e6', run⟩ | ⟨e, p2, o2, hp2, s3, hl2, nb2, -, cont2⟩
        · subst e
          exact ⟨0, τ3, by rw [B2, k00], (k1.trans k2).trans k3, Or.inl ⟨rfl, pf, hpf, e6', op _ run⟩⟩
        · subst e
          obtain ⟨τ4, f4, s4, k4⟩ := x_emt N s3 (by omega) (sgn (K p1)) (20000 + nI (K p1)) (sTr_s hsg.1).symm
          refine ⟨1, τ4, by rw [B2, k10, f4, Option.bind_some], ((k1.trans k2).trans k3).trans k4, Or.inr ⟨rfl, p2, o2 ++ [sgn (K p1)], hp2, s4, ?_, nb2, fun q => op _ (cont2 id _ (Run.twice q hsg.2.2.1)), fun nd res q => op res (cont2 id res (Run.sw (Nat.le_trans (tr_sm nb2 nd) (by omega)) (by rw [if_neg hsg.2.2.2.2]; exact q)))⟩⟩
          have l1 : (o2 ++ [sgn (K p1)]).length = o2.length + 1 := by rw [List.length_append]; rfl
          omega
      · refine ⟨1, τ1, ?_, k1, Or.inr ⟨rfl, p1, o1, hp1, s1, hl, nb, fun q => absurd q cc, fun _ res q => cont id res q⟩⟩
        rw [B1, if_neg (show ¬ nI (K p1) = 60 from fun z => cc (Or.inl ((nI_eq (a := K p1) (b := 60) (by omega) (by decide)).mp z))), if_neg (show ¬ nI (K p1) = 61 from fun z => cc (Or.inr ((nI_eq (a := K p1) (b := 61) (by omega) (by decide)).mp z)))]

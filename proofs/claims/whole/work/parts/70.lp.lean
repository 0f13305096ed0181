/-! THE PURE SIDE, 51: the class reads what is joined -/
theorem Tp.mono {r q : Nat} {S : List Nat} (h : Tp r S) (hq : r ≤ q) : Tp q S := by
  cases S with
  | nil => trivial
  | cons a S => exact Nat.lt_of_lt_of_le (show rk a < r from h) hq
theorem bI_if {α : Type} {x y : α} (b : Bool) : (if bI b = 0 then x else y) = if b = true then y else x := by
  cases b
  · exact if_pos rfl
  · exact if_neg (by decide)
theorem x_lp (N : Nat) {c : Nat → Nat} {L b : Nat} (hL : L ≤ 160) {S0 K V E : Nat → Nat} (ht : Tks N c L S0 K V E) (g0 : Int32 → Int32 → Mem → Option (Int32 × Mem)) (g1 : Int32 → Mem → Option (Int32 × Mem)) (g2 : Int32 → Mem → Option (Int32 × Mem)) (g3 : Int32 → Int32 → Mem → Option (Int32 × Mem)) (a l : Nat) (hl : l < 4) (R : Nat) (X : Bool) (B D : Nat → Prop) (Q : Bool → Nat → Prop)
    (hJ : ∀ k, k < 256 → Jn l k = true → sgn k ≠ 0 ∧ tr k = R ∧ rk (sgn k) = R ∧ decide (sgn k ≤ 12) = X ∧ ¬ (sgn k = 13 ∨ sgn k = 19) ∧ ¬ D k ∧ ¬ (k = 60 ∨ k = 61))
    (hT : ∀ k, ¬ B k → ¬ D k → tr k ≤ R) (hQ : ∀ k, Q X k)
    (h : ∀ (p : Nat) (S : List Nat) (o : List Nat) (σ : Mem) (x2 : Bool), CS c L b S0 K V E p o σ → p ≤ L → b + o.length ≤ p → Q x2 (K p) → Tp (R + 1) S → Oc c L b S0 K V E x2 S a o p B D (fun o2 => (S, a, o2)) (g3 (nI l) (nI a)) σ)
    (S : List Nat) (hS : Tp R S) (Rs : Bool × Nat × List Nat → Prop) : ∀ (n i p1 : Nat) (o1 : List Nat) (τ : Mem), i ≤ 160 → 161 ≤ n + i → CS c L b S0 K V E p1 o1 τ → p1 ≤ L → i ≤ p1 → b + o1.length ≤ p1 → ¬ B (K p1) → (D (K p1) → Rs (false, p1, [])) → (¬ D (K p1) → ∀ res, Run K V E false false S a o1 p1 res → Rs res) →
    ∃ r υ, F_X8_reads_b13 N g0 g1 g2 g3 n (nI l) (nI a) (nI i) τ = some (r, υ) ∧ KEm b τ υ ∧ ((r = 0 ∧ ∃ pf, pf ≤ L ∧ υ.1 3 6 = nI (S0 pf) ∧ Rs (false, pf, [])) ∨ (r = 1 ∧ ∃ p2 o2, p2 ≤ L ∧ CS c L b S0 K V E p2 o2 υ ∧ (p1 ≤ p2 ∧ o2.length + p1 ≤ o1.length + p2) ∧ ¬ (B (K p2) ∨ Jn l (K p2) = true) ∧ (D (K p2) → Rs (false, p2, [])) ∧ (¬ D (K p2) → ∀ res, Run K V E false false S a o2 p2 res → Rs res))) := by
  intro n
  induction n with
  | zero => intro i p1 o1 τ h1 h2; omega
  | succ n ih =>
    intro i p1 o1 τ h1 h2 hs hp hi hb nb dead cont
    obtain ⟨⟨t1, t2, t3, t4, t5, t6, t7, t8⟩, -, -⟩ := ht p1 hp
    by_cases ci : i = 160
    · subst ci
      refine ⟨1, τ, ?_, KEm.rfl_ b τ, Or.inr ⟨rfl, p1, o1, hp, hs, by omega, ?_, dead, cont⟩⟩
      · rw [F_X8_reads_b13.eq_2, if_pos (leL_a 160 160 rfl (Nat.le_refl _) (by decide))]
      · have k0 : K p1 = 0 := by
          apply Classical.byContradiction
          intro q
          have := t5 q
          omega
        intro q
        rcases q with q | q
        · exact nb q
        · rw [k0] at q
          exact (hJ 0 (by decide) q).1 rfl
    · have e0 : F_X8_reads_b13 N g0 g1 g2 g3 (n + 1) (nI l) (nI a) (nI i) τ = if Jn l (K p1) = true then (F_X8_step N τ).bind (fun q3 => (g3 (nI l) (nI a) q3.2).bind (fun q4 => if q4.1 = 0 then some ((0 : Int32), q4.2) else (F_X8_emit N ((20000 : Int32) + nI (K p1)) q4.2).bind (fun q5 => (F_X8_reads_b13 N g0 g1 g2 g3 n) (nI l) (nI a) (nI (i + 1)) q5.2))) else some ((1 : Int32), τ) := by
        rw [F_X8_reads_b13.eq_2, if_neg (geL_n 160 160 rfl (by omega) (by decide)), x_joins N l (K p1) hl (by omega) τ hs.2.1.2.2.1, Option.bind_some]
        dsimp only
        rw [bI_if, hs.2.1.2.2.1, nI_1]
      by_cases cj : Jn l (K p1) = true
      · obtain ⟨j1, j2, j3, j4, j5, j6, j7⟩ := hJ (K p1) (by omega) cj
        have pe := t5 (fun z => j1 (by rw [z]; rfl))
        obtain ⟨τ1, f1, s1, k1⟩ := x_stp N ht hp hs
        have op : ∀ res, Run K V E true X (sgn (K p1) :: S) a o1 (E p1) res → Rs res := fun res q => cont j6 res (Run.op j1 (hS.uw (by omega)) (fun z => absurd z j7) (by rw [j4]; exact q))
        obtain ⟨r, τ2, f2, k2, alt⟩ := h (E p1) (sgn (K p1) :: S) o1 τ1 X s1 t3 (by omega) (hQ _) (show rk (sgn (K p1)) < R + 1 by omega)
        rw [if_pos cj, f1, Option.bind_some] at e0
        dsimp only at e0
        rw [f2, Option.bind_some] at e0
        dsimp only at e0
        rcases alt with ⟨e, pf, hpf, e6', run⟩ | ⟨e, p2, o2, hp2, s2, hl2, nb2, dead2, cont2⟩
        · subst e
          exact ⟨0, τ2, by rw [e0, k00], k1.trans k2, Or.inl ⟨rfl, pf, hpf, e6', op _ run⟩⟩
        · subst e
          obtain ⟨τ3, f3, s3, k3⟩ := x_emt N s2 (by omega) (sgn (K p1)) (20000 + nI (K p1)) (sTr_s j1).symm
          rw [k10, f3, Option.bind_some] at e0
          have l1 : (o2 ++ [sgn (K p1)]).length = o2.length + 1 := by rw [List.length_append]; rfl
          obtain ⟨r, υ, f4, k4, alt⟩ := ih (i + 1) p2 (o2 ++ [sgn (K p1)]) τ3 (by omega) (by omega) s3 hp2 (by omega) (by omega) nb2 (fun q => op _ (dead2 q)) (fun nd res q => op res (cont2 nd res (Run.sw (by have := hT (K p2) nb2 nd; omega) (by rw [if_neg j5]; exact q))))
          refine ⟨r, υ, e0.trans f4, ((k1.trans k2).trans k3).trans k4, ?_⟩
          rcases alt with q | ⟨e, p3, o3, g1, g2, g3, g4⟩
          · exact Or.inl q
          · exact Or.inr ⟨e, p3, o3, g1, g2, by omega, g4⟩
      · rw [if_neg cj] at e0
        exact ⟨1, τ, e0, KEm.rfl_ b τ, Or.inr ⟨rfl, p1, o1, hp, hs, by omega, fun q => q.elim nb cj, dead, cont⟩⟩
theorem x_rds (N : Nat) (hN : 161 ≤ N) {c : Nat → Nat} {L b : Nat} (hL : L ≤ 160) {S0 K V E : Nat → Nat} (ht : Tks N c L S0 K V E) (g0 : Int32 → Int32 → Mem → Option (Int32 × Mem)) (g1 : Int32 → Mem → Option (Int32 × Mem)) (g2 : Int32 → Mem → Option (Int32 × Mem)) (g3 : Int32 → Int32 → Mem → Option (Int32 × Mem)) (a l : Nat) (hl : l < 4) (R : Nat) (X : Bool) (B D : Nat → Prop) (Q : Bool → Nat → Prop)
    (hJ : ∀ k, k < 256 → Jn l k = true → sgn k ≠ 0 ∧ tr k = R ∧ rk (sgn k) = R ∧ decide (sgn k ≤ 12) = X ∧ ¬ (sgn k = 13 ∨ sgn k = 19) ∧ ¬ D k ∧ ¬ (k = 60 ∨ k = 61))
    (hT : ∀ k, ¬ B k → ¬ D k → tr k ≤ R) (hQ : ∀ k, Q X k)
    (h : ∀ (p : Nat) (S : List Nat) (o : List Nat) (σ : Mem) (x2 : Bool), CS c L b S0 K V E p o σ → p ≤ L → b + o.length ≤ p → Q x2 (K p) → Tp (R + 1) S → Oc c L b S0 K V E x2 S a o p B D (fun o2 => (S, a, o2)) (g3 (nI l) (nI a)) σ)
    (p : Nat) (S : List Nat) (o : List Nat) (σ : Mem) (x2 : Bool) (hs : CS c L b S0 K V E p o σ) (hp : p ≤ L) (hb : b + o.length ≤ p) (hq : Q x2 (K p)) (hS : Tp R S) :
    Oc c L b S0 K V E x2 S a o p (fun k => B k ∨ Jn l k = true) D (fun o2 => (S, a, o2)) (B_X8_reads N g0 g1 g2 g3 (nI l) (nI a)) σ := by
  obtain ⟨r, τ, f, k, alt⟩ := h p S o σ x2 hs hp hb hq (hS.mono (Nat.le_succ R))
  have e0 : B_X8_reads N g0 g1 g2 g3 (nI l) (nI a) σ = if r = 0 then some ((0 : Int32), τ) else (F_X8_reads_b13 N g0 g1 g2 g3 N) (nI l) (nI a) (nI 0) τ := by
    unfold B_X8_reads
    rw [f, Option.bind_some]
    rfl
  rcases alt with ⟨e, pf, hpf, e6', run⟩ | ⟨e, p2, o2, hp2, s2, hl2, nb2, dead2, cont2⟩
  · subst e
    exact ⟨0, τ, by rw [e0, k00], k, Or.inl ⟨rfl, pf, hpf, e6', run⟩⟩
  · subst e
    rw [k10] at e0
    obtain ⟨r, υ, f4, k4, alt⟩ := x_lp N hL ht g0 g1 g2 g3 a l hl R X B D Q hJ hT hQ h S hS (fun res => Run K V E true x2 S a o p res) N 0 p2 o2 τ (by omega) (by omega) s2 hp2 (by omega) (by omega) nb2 dead2 cont2
    refine ⟨r, υ, e0.trans f4, k.trans k4, ?_⟩
    rcases alt with q | ⟨e, p3, o3, y1, y2, y3, y4⟩
    · exact Or.inl q
    · exact Or.inr ⟨e, p3, o3, y1, y2, by omega, y4⟩

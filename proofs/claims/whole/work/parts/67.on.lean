/-! THE PURE SIDE, 48: the class reads one operand -/
/-- what a reading of the class comes to, and what the machine makes of the same -/
def Oc (c : Nat → Nat) (L b : Nat) (S0 K V E : Nat → Nat) (x2 : Bool) (S : List Nat) (d : Nat) (o : List Nat) (p : Nat) (bad dead : Nat → Prop) (U : List Nat → List Nat × Nat × List Nat) (F : Mem → Option (Int32 × Mem)) (σ : Mem) : Prop :=
  ∃ r τ, F σ = some (r, τ) ∧ KEm b σ τ ∧ ((r = 0 ∧ ∃ pf, pf ≤ L ∧ τ.1 3 6 = nI (S0 pf) ∧ Run K V E true x2 S d o p (false, pf, [])) ∨ (r = 1 ∧ ∃ p2 o2, p2 ≤ L ∧ CS c L b S0 K V E p2 o2 τ ∧ (p ≤ p2 ∧ o2.length + p ≤ o.length + p2) ∧ ¬ bad (K p2) ∧ (dead (K p2) → Run K V E true x2 S d o p (false, p2, [])) ∧ (¬ dead (K p2) → ∀ res, Run K V E false false (U o2).1 (U o2).2.1 (U o2).2.2 p2 res → Run K V E true x2 S d o p res)))
def nJ (k : Nat) : Prop := k = 7 ∨ k = 8 ∨ k = 43 ∨ k = 45 ∨ k = 42
def nC (k : Nat) : Prop := k = 60 ∨ k = 61
def nF (_ : Nat) : Prop := False
theorem x_one (N : Nat) {c : Nat → Nat} {L b : Nat} (hL : L ≤ 160) {S0 K V E : Nat → Nat} (ht : Tks N c L S0 K V E) (g0 : Int32 → Int32 → Mem → Option (Int32 × Mem)) (g1 : Int32 → Mem → Option (Int32 × Mem)) (g2 : Int32 → Mem → Option (Int32 × Mem)) (g3 : Int32 → Int32 → Mem → Option (Int32 × Mem)) (a : Nat) (ha : a ≤ 5)
    (h0 : a < 5 → ∀ (p : Nat) (S : List Nat) (o : List Nat) (σ : Mem), CS c L b S0 K V E p o σ → p ≤ L → b + o.length ≤ p → Oc c L b S0 K V E true (0 :: S) (a + 1) o p nJ nC (fun o2 => (0 :: S, a + 1, o2)) (g0 0 (nI (a + 1))) σ)
    (h2 : a < 5 → ∀ (p : Nat) (S : List Nat) (o : List Nat) (σ : Mem), CS c L b S0 K V E p o σ → p ≤ L → b + o.length ≤ p → K p ≠ 9 ∨ True → Oc c L b S0 K V E false S (a + 1) o p nF nF (fun o2 => uw 7 S (a + 1) o2) (g2 (nI (a + 1))) σ)
    (p : Nat) (S : List Nat) (o : List Nat) (σ : Mem) (x2 : Bool) (hs : CS c L b S0 K V E p o σ) (hp : p ≤ L) (hb : b + o.length ≤ p) (hx : x2 = true → K p ≠ 9) :
    Oc c L b S0 K V E x2 S a o p nF nF (fun o2 => uw 7 S a o2) (B_X8_readsOne N g0 g1 g2 g3 (nI a)) σ := by
  obtain ⟨⟨t1, t2, t3, t4, t5, t6, t7, t8⟩, -, -⟩ := ht p hp
  have e7 : σ.1 3 7 = nI (K p) := hs.2.1.2.2.1
  have e6 : σ.1 3 6 = nI (S0 p) := hs.2.1.2.1
  have no : ∀ (F : Mem → Option (Int32 × Mem)), F σ = some (0, σ) → ¬ (K p = 2 ∨ K p = 3) → (a = 5 ∨ ((K p = 9 → x2 = false) ∧ K p ≠ 45 ∧ K p ≠ 40)) → Oc c L b S0 K V E x2 S a o p nF nF (fun o2 => uw 7 S a o2) F σ :=
    fun F hF n23 hh => ⟨0, σ, hF, KEm.rfl_ b σ, Or.inl ⟨rfl, p, hp, e6, Run.bad n23 hh⟩⟩
  have val : ∀ (v : Int32), (K p = 2 ∨ K p = 3) → v = sTr (nI (if K p = 2 then 100000 + V p else V p)) → ∀ F : Mem → Option (Int32 × Mem), F σ = F_X8_readsOne_b40 N g0 g1 g2 g3 v σ → Oc c L b S0 K V E x2 S a o p nF nF (fun o2 => uw 7 S a o2) F σ := by
    intro v ck hv F hF
    have pe := t5 (by omega)
    obtain ⟨τ1, f1, s1, k1⟩ := x_emt N hs (by omega) _ v hv
    obtain ⟨τ2, f2, s2, k2⟩ := x_stp N ht hp s1
    refine ⟨1, τ2, ?_, k1.trans k2, Or.inr ⟨rfl, E p, _, t3, s2, ?_, id, fun q => absurd q id, fun _ res q => Run.num ck q⟩⟩
    · rw [hF]
      unfold F_X8_readsOne_b40
      rw [f1, Option.bind_some, f2, Option.bind_some]
    · have l1 : (o ++ [if K p = 2 then 100000 + V p else V p]).length = o.length + 1 := by rw [List.length_append]; rfl
      omega
  by_cases c2 : K p = 2
  · refine val (σ.1 3 8) (Or.inl c2) ?_ _ ?_
    · rw [if_pos c2, hs.2.1.2.2.2 (Or.inl c2), sTr_v (t7 c2)]
    · unfold B_X8_readsOne F_X8_readsOne_b16
      rw [e7, c2, if_pos (show nI 2 = 2 from rfl), if_neg (show ¬ nI 2 = 3 by decide)]
  by_cases c3 : K p = 3
  · refine val (10000 + σ.1 3 8) (Or.inr c3) ?_ _ ?_
    · rw [if_neg c2, hs.2.1.2.2.2 (Or.inr c3), sTr_n (t8 c3)]
    · unfold B_X8_readsOne F_X8_readsOne_b16
      rw [e7, c3, if_neg (show ¬ nI 3 = 2 by decide), if_pos (show nI 3 = 3 from rfl), if_pos (show nI 3 = 3 from rfl)]
  have n23 : ¬ (K p = 2 ∨ K p = 3) := by omega
  have ne : ∀ x : Nat, x < 256 → K p ≠ x → ¬ nI (K p) = nI x := fun x hx q z => q ((nI_eq (by omega) (by omega)).mp z)
  have B0 : B_X8_readsOne N g0 g1 g2 g3 (nI a) σ = if (5 : Int32) ≤ nI a then some (0, σ) else if nI (K p) = 45 then F_X8_readsOne_b74 N g0 g1 g2 g3 (nI a) σ else if nI (K p) = 40 then F_X8_readsOne_b74 N g0 g1 g2 g3 (nI a) σ else some (0, σ) := by
    unfold B_X8_readsOne
    rw [e7, if_neg (show ¬ nI (K p) = 2 from ne 2 (by decide) c2), if_neg (show ¬ nI (K p) = 3 from ne 3 (by decide) c3)]
  by_cases a5 : a = 5
  · subst a5
    exact no _ (by rw [B0, if_pos (show (5 : Int32) ≤ nI 5 by decide)]) n23 (Or.inl rfl)
  rw [if_neg (geL_n 5 5 rfl (by omega) (by decide))] at B0
  by_cases c45 : K p = 45
  · have pe := t5 (by omega)
    obtain ⟨τ1, f1, s1, k1⟩ := x_stp N ht hp hs
    obtain ⟨r, τ2, f2, k2, alt⟩ := h2 (by omega) (E p) (19 :: S) o τ1 s1 t3 (by omega) (Or.inr trivial)
    have B1 : B_X8_readsOne N g0 g1 g2 g3 (nI a) σ = if r = 0 then some (0, τ2) else (F_X8_emit N 30045 τ2).bind (fun q5 => some (1, q5.2)) := by
      rw [B0, if_pos (show nI (K p) = 45 by rw [c45]; rfl)]
      unfold F_X8_readsOne_b74 F_X8_readsOne_b88
      rw [e7, if_pos (show nI (K p) = 45 by rw [c45]; rfl), f1, Option.bind_some, k10]
      dsimp only
      rw [nI_1, f2, Option.bind_some]
    rcases alt with ⟨e, pf, hpf, e6', run⟩ | ⟨e, p2, o2, hp2, s2, hl, -, -, cont⟩
    · subst e
      exact ⟨0, τ2, by rw [B1, k00], k1.trans k2, Or.inl ⟨rfl, pf, hpf, e6', Run.neg c45 a5 run⟩⟩
    · subst e
      obtain ⟨τ3, f3, s3, k3⟩ := x_emt N s2 (by omega) 19 30045 (by decide)
      refine ⟨1, τ3, by rw [B1, k10, f3, Option.bind_some], (k1.trans k2).trans k3, Or.inr ⟨rfl, p2, o2 ++ [19], hp2, s3, ?_, id, fun q => absurd q id, fun _ res q => Run.neg c45 a5 (cont id res ?_)⟩⟩
      · have l1 : (o2 ++ [19]).length = o2.length + 1 := by rw [List.length_append]; rfl
        omega
      · have eu : uw 7 (19 :: S) (a + 1) o2 = uw 7 S a (o2 ++ [19]) := uw_go (by decide)
        show Run K V E false false (uw 7 (19 :: S) (a + 1) o2).1 (uw 7 (19 :: S) (a + 1) o2).2.1 (uw 7 (19 :: S) (a + 1) o2).2.2 p2 res
        rw [eu]
        exact q
  by_cases c40 : K p = 40
  · have pe := t5 (by omega)
    obtain ⟨τ1, f1, s1, k1⟩ := x_stp N ht hp hs
    obtain ⟨r, τ2, f2, k2, alt⟩ := h0 (by omega) (E p) S o τ1 s1 t3 (by omega)
    have B1 : B_X8_readsOne N g0 g1 g2 g3 (nI a) σ = if r = 0 then some (0, τ2) else if (τ2.1 3 7) = (41 : Int32) then (F_X8_step N τ2).bind (fun q3 => some ((1 : Int32), q3.2)) else some ((0 : Int32), τ2) := by
      rw [B0, if_neg (show ¬ nI (K p) = 45 from ne 45 (by decide) c45), if_pos (show nI (K p) = 40 by rw [c40]; rfl)]
      unfold F_X8_readsOne_b74 F_X8_readsOne_b88
      rw [e7, if_neg (show ¬ nI (K p) = 45 from ne 45 (by decide) c45), f1, Option.bind_some, k00]
      dsimp only
      rw [nI_1, f2, Option.bind_some]
    rcases alt with ⟨e, pf, hpf, e6', run⟩ | ⟨e, p2, o2, hp2, s2, hl, nj, dead, cont⟩
    · subst e
      exact ⟨0, τ2, by rw [B1, k00], k1.trans k2, Or.inl ⟨rfl, pf, hpf, e6', Run.par c40 a5 run⟩⟩
    · subst e
      obtain ⟨⟨-, -, u3, -, u5, u6, -, -⟩, -, -⟩ := ht p2 hp2
      rw [k10, s2.2.1.2.2.1] at B1
      by_cases c41 : K p2 = 41
      · rw [if_pos (show nI (K p2) = 41 by rw [c41]; rfl)] at B1
        obtain ⟨τ3, f3, s3, k3⟩ := x_stp N ht hp2 s2
        have pe2 := u5 (by omega)
        have u1 := (ht p2 hp2).1.1
        refine ⟨1, τ3, by rw [B1, f3, Option.bind_some], (k1.trans k2).trans k3, Or.inr ⟨rfl, E p2, o2, u3, s3, by omega, id, fun q => absurd q id, fun _ res q => Run.par c40 a5 (cont (fun z => by unfold nC at z; omega) res (Run.cls c41 q))⟩⟩
      · rw [if_neg (show ¬ nI (K p2) = 41 from fun z => c41 ((nI_eq (a := K p2) (b := 41) (by omega) (by decide)).mp z))] at B1
        refine ⟨0, τ2, B1, k1.trans k2, Or.inl ⟨rfl, p2, hp2, s2.2.1.2.1, Run.par c40 a5 ?_⟩⟩
        by_cases cc : nC (K p2)
        · exact dead cc
        · refine cont cc _ ?_
          by_cases c59 : K p2 = 59
          · exact Run.open_ (a := 0) (S2 := S) c59 (by rw [uw_st (by decide)])
          · refine Run.stray c59 c41 ?_
            unfold nJ at nj
            unfold nC at cc
            unfold sgn
            rw [if_neg (by omega), if_neg (by omega), if_neg (by omega), if_neg (by omega), if_neg (by omega), if_neg (by omega), if_neg (by omega)]
  exact no _ (by rw [B0, if_neg (show ¬ nI (K p) = 45 from ne 45 (by decide) c45), if_neg (show ¬ nI (K p) = 40 from ne 40 (by decide) c40)]) n23 (Or.inr ⟨fun q => by
    cases x2 with
    | false => rfl
    | true => exact absurd q (hx rfl), c45, c40⟩)

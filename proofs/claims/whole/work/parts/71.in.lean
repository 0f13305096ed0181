/-! THE PURE SIDE, 52: the class's reading of an E, by its depth -/
def Rl (l : Nat) : Nat := if l = 0 then 1 else if l = 1 then 2 else if l = 2 then 5 else 6
def Bl (l k : Nat) : Prop := if l = 0 then nS k ∨ k = 8 else if l = 1 then nS k else if l = 2 then k = 42 else False
def Dl (l k : Nat) : Prop := if l < 2 then nC k else False
def Ql (l : Nat) (x2 : Bool) (k : Nat) : Prop := if l < 2 then x2 = true else (x2 = true → k ≠ 9)
theorem Oc.mono {c : Nat → Nat} {L b : Nat} {S0 K V E : Nat → Nat} {x2 : Bool} {S : List Nat} {d : Nat} {o : List Nat} {p : Nat} {B1 B2 D1 D2 : Nat → Prop} {U1 U2 : List Nat → List Nat × Nat × List Nat} {F : Mem → Option (Int32 × Mem)} {σ : Mem} (hB : ∀ k, k ≤ 255 → B2 k → B1 k) (hD : ∀ k, D1 k ↔ D2 k) (hU : ∀ o, U1 o = U2 o) (ht : ∀ p, p ≤ L → K p ≤ 255) (h : Oc c L b S0 K V E x2 S d o p B1 D1 U1 F σ) : Oc c L b S0 K V E x2 S d o p B2 D2 U2 F σ := by
  obtain ⟨r, τ, f, k, alt⟩ := h
  refine ⟨r, τ, f, k, ?_⟩
  rcases alt with q | ⟨e, p2, o2, h1, h2, h3, h4, h5, h6⟩
  · exact Or.inl q
  · exact Or.inr ⟨e, p2, o2, h1, h2, h3, fun z => h4 (hB _ (ht p2 h1) z), fun z => h5 ((hD _).mpr z), fun z res y => h6 (fun w => z ((hD _).mp w)) res (by rw [hU]; exact y)⟩
theorem Oc.wrap {c : Nat → Nat} {L b : Nat} {S0 K V E : Nat → Nat} {x2 : Bool} {S : List Nat} {d : Nat} {o : List Nat} {p : Nat} {B D : Nat → Prop} {U : List Nat → List Nat × Nat × List Nat} {F G : Mem → Option (Int32 × Mem)} {σ : Mem} (e : G σ = (F σ).bind (fun q => if q.1 = 0 ∨ q.1 = 1 then some (q.1, q.2) else none)) (h : Oc c L b S0 K V E x2 S d o p B D U F σ) : Oc c L b S0 K V E x2 S d o p B D U G σ := by
  obtain ⟨r, τ, f, k, alt⟩ := h
  refine ⟨r, τ, ?_, k, alt⟩
  rw [e, f, Option.bind_some]
  rcases alt with ⟨q, -⟩ | ⟨q, -⟩
  · exact if_pos (Or.inl q)
  · exact if_pos (Or.inr q)
def ROne (c : Nat → Nat) (L b : Nat) (S0 K V E : Nat → Nat) (a : Nat) (F : Mem → Option (Int32 × Mem)) : Prop := ∀ (p : Nat) (S : List Nat) (o : List Nat) (σ : Mem) (x2 : Bool), CS c L b S0 K V E p o σ → p ≤ L → b + o.length ≤ p → (x2 = true → K p ≠ 9) → Oc c L b S0 K V E x2 S a o p nF nF (fun o2 => uw 7 S a o2) F σ
def RNot (c : Nat → Nat) (L b : Nat) (S0 K V E : Nat → Nat) (a : Nat) (F : Mem → Option (Int32 × Mem)) : Prop := ∀ (p : Nat) (S : List Nat) (o : List Nat) (σ : Mem), CS c L b S0 K V E p o σ → p ≤ L → b + o.length ≤ p → Tp 4 S → Oc c L b S0 K V E true S a o p nS nC (fun o2 => (S, a, o2)) F σ
def RLv (c : Nat → Nat) (L b : Nat) (S0 K V E : Nat → Nat) (l a : Nat) (F : Mem → Option (Int32 × Mem)) : Prop := ∀ (p : Nat) (S : List Nat) (o : List Nat) (σ : Mem) (x2 : Bool), CS c L b S0 K V E p o σ → p ≤ L → b + o.length ≤ p → Ql l x2 (K p) → Tp (Rl l) S → Oc c L b S0 K V E x2 S a o p (fun k => Bl l k ∨ Jn l k = true) (Dl l) (fun o2 => (S, a, o2)) F σ
def RPt (c : Nat → Nat) (L b : Nat) (S0 K V E : Nat → Nat) (l a : Nat) (F : Mem → Option (Int32 × Mem)) : Prop := ∀ (p : Nat) (S : List Nat) (o : List Nat) (σ : Mem) (x2 : Bool), CS c L b S0 K V E p o σ → p ≤ L → b + o.length ≤ p → Ql l x2 (K p) → Tp (Rl l + 1) S → Oc c L b S0 K V E x2 S a o p (Bl l) (Dl l) (fun o2 => (S, a, o2)) F σ
def jnb (l k : Nat) : Bool := !(Jn l k) || (!(Nat.beq (sgn k) 0) && Nat.beq (tr k) (Rl l) && Nat.beq (rk (sgn k)) (Rl l) && (decide (sgn k ≤ 12) == decide (l < 2)) && !(Nat.beq (sgn k) 13) && !(Nat.beq (sgn k) 19) && (Nat.beq k 7 || Nat.beq k 8 || Nat.beq k 43 || Nat.beq k 45 || Nat.beq k 42))
theorem jnb_t : ∀ l, l < 4 → ∀ k, k < 256 → jnb l k = true := by decide +kernel
theorem beq_n {a b : Nat} (h : Nat.beq a b = false) : a ≠ b := fun e => by
  subst e
  have := Nat.beq_refl a
  rw [show Nat.beq a a = true from this] at h
  cases h
theorem jn_tab (l : Nat) (hl : l < 4) (k : Nat) (hk : k < 256) (h : Jn l k = true) : sgn k ≠ 0 ∧ tr k = Rl l ∧ rk (sgn k) = Rl l ∧ decide (sgn k ≤ 12) = decide (l < 2) ∧ ¬ (sgn k = 13 ∨ sgn k = 19) ∧ (k = 7 ∨ k = 8 ∨ k = 43 ∨ k = 45 ∨ k = 42) := by
  have t := jnb_t l hl k hk
  unfold jnb at t
  rw [h] at t
  simp only [Bool.not_true, Bool.false_or, Bool.and_eq_true, Bool.or_eq_true, Bool.not_eq_true', beq_iff_eq] at t
  obtain ⟨⟨⟨⟨⟨⟨a, b⟩, c⟩, d⟩, e⟩, f⟩, g⟩ := t
  refine ⟨beq_n a, Nat.eq_of_beq_eq_true b, Nat.eq_of_beq_eq_true c, d, fun z => z.elim (beq_n e) (beq_n f), ?_⟩
  rcases g with (((g | g) | g) | g) | g
  · exact Or.inl (Nat.eq_of_beq_eq_true g)
  · exact Or.inr (Or.inl (Nat.eq_of_beq_eq_true g))
  · exact Or.inr (Or.inr (Or.inl (Nat.eq_of_beq_eq_true g)))
  · exact Or.inr (Or.inr (Or.inr (Or.inl (Nat.eq_of_beq_eq_true g))))
  · exact Or.inr (Or.inr (Or.inr (Or.inr (Nat.eq_of_beq_eq_true g))))
theorem jn_k {l k : Nat} (hk : k < 256) : (l = 0 → (Jn l k = true ↔ k = 7)) ∧ (l = 1 → (Jn l k = true ↔ k = 8)) ∧ (l = 2 → (Jn l k = true ↔ (k = 43 ∨ k = 45))) ∧ (l = 3 → (Jn l k = true ↔ k = 42)) := by
  have t : ∀ k, k < 256 → (Jn 0 k = true ↔ k = 7) ∧ (Jn 1 k = true ↔ k = 8) ∧ (Jn 2 k = true ↔ (k = 43 ∨ k = 45)) ∧ (Jn 3 k = true ↔ k = 42) := by decide +kernel
  obtain ⟨a, b, c, d⟩ := t k hk
  exact ⟨fun e => e ▸ a, fun e => e ▸ b, fun e => e ▸ c, fun e => e ▸ d⟩
theorem Bl_0 (k : Nat) : Bl 0 k ↔ nS k ∨ k = 8 := Iff.rfl
theorem Bl_1 (k : Nat) : Bl 1 k ↔ nS k := Iff.rfl
theorem Bl_2 (k : Nat) : Bl 2 k ↔ k = 42 := Iff.rfl
theorem Bl_3 (k : Nat) : Bl 3 k ↔ False := Iff.rfl
theorem Dl_0 (k : Nat) : Dl 0 k ↔ nC k := Iff.rfl
theorem Dl_1 (k : Nat) : Dl 1 k ↔ nC k := Iff.rfl
theorem Dl_2 (k : Nat) : Dl 2 k ↔ nF k := Iff.rfl
theorem Dl_3 (k : Nat) : Dl 3 k ↔ nF k := Iff.rfl
theorem tr_lv (l : Nat) (hl : l < 4) (k : Nat) (h1 : ¬ Bl l k) (h2 : ¬ Dl l k) : tr k ≤ Rl l := by
  have : l = 0 ∨ l = 1 ∨ l = 2 ∨ l = 3 := by omega
  rcases this with e | e | e | e
  · subst e
    rw [Bl_0] at h1
    rw [Dl_0] at h2
    unfold nS at h1
    unfold nC at h2
    show tr k ≤ 1
    unfold tr
    rw [if_neg (show ¬ k = 8 by omega), if_neg (show ¬ (k = 60 ∨ k = 61 ∨ k = 43 ∨ k = 45) by omega), if_neg (show ¬ k = 42 by omega)]
    repeat' split
    all_goals decide
  · subst e
    exact tr_sm h1 h2
  · subst e
    rw [Bl_2] at h1
    show tr k ≤ 5
    unfold tr
    rw [if_neg h1]
    repeat' split
    all_goals decide
  · subst e
    show tr k ≤ 6
    unfold tr
    repeat' split
    all_goals decide
theorem x_lv (N : Nat) (hN : 161 ≤ N) {c : Nat → Nat} {L b : Nat} (hL : L ≤ 160) {S0 K V E : Nat → Nat} (ht : Tks N c L S0 K V E) (g0 : Int32 → Int32 → Mem → Option (Int32 × Mem)) (g1 : Int32 → Mem → Option (Int32 × Mem)) (g2 : Int32 → Mem → Option (Int32 × Mem)) (g3 : Int32 → Int32 → Mem → Option (Int32 × Mem)) (a l : Nat) (hl : l < 4) (h : RPt c L b S0 K V E l a (g3 (nI l) (nI a))) : RLv c L b S0 K V E l a (B_X8_reads N g0 g1 g2 g3 (nI l) (nI a)) := by
  intro p S o σ x2 hs hp hb hq hS
  refine x_rds N hN hL ht g0 g1 g2 g3 a l hl (Rl l) (decide (l < 2)) (Bl l) (Dl l) (Ql l) ?_ (tr_lv l hl) ?_ h p S o σ x2 hs hp hb hq hS
  · intro k hk hj
    obtain ⟨j1, j2, j3, j4, j5, j6⟩ := jn_tab l hl k hk hj
    refine ⟨j1, j2, j3, j4, j5, ?_, by omega⟩
    unfold Dl
    split
    · unfold nC; omega
    · exact id
  · intro k
    unfold Ql
    by_cases q : l < 2
    · rw [if_pos q, decide_eq_true q]
    · rw [if_neg q, decide_eq_false q]
      intro z
      cases z
theorem x_pt (N : Nat) {c : Nat → Nat} {L b : Nat} {S0 K V E : Nat → Nat} (ht : Tks N c L S0 K V E) (g0 : Int32 → Int32 → Mem → Option (Int32 × Mem)) (g1 : Int32 → Mem → Option (Int32 × Mem)) (g2 : Int32 → Mem → Option (Int32 × Mem)) (g3 : Int32 → Int32 → Mem → Option (Int32 × Mem)) (a l : Nat) (hl : l < 4)
    (h0 : l = 0 → RLv c L b S0 K V E 1 a (g0 1 (nI a))) (h1 : l = 1 → RNot c L b S0 K V E a (g1 (nI a))) (h2 : l = 2 → RLv c L b S0 K V E 3 a (g0 3 (nI a))) (h3 : l = 3 → ROne c L b S0 K V E a (g2 (nI a))) : RPt c L b S0 K V E l a (B_X8_readsPart N g0 g1 g2 g3 (nI l) (nI a)) := by
  have hk : ∀ p, p ≤ L → K p ≤ 255 := fun p hp => (ht p hp).1.2.2.2.2.2.1
  intro p S o σ x2 hs hp hb hq hS
  have : l = 0 ∨ l = 1 ∨ l = 2 ∨ l = 3 := by omega
  rcases this with e | e | e | e
  · subst e
    refine Oc.wrap (F := g0 1 (nI a)) ?_ (Oc.mono ?_ (fun k => Iff.rfl) (fun _ => rfl) hk (h0 rfl p S o σ x2 hs hp hb hq hS))
    · unfold B_X8_readsPart
      rw [if_pos (show nI 0 = 0 from rfl)]
    · intro k k2 z
      rcases z with z | z
      · exact Or.inl z
      · exact Or.inr (((jn_k (l := 1) (by omega)).2.1 rfl).mpr z)
  · subst e
    have x2t : x2 = true := hq
    subst x2t
    refine Oc.wrap (F := g1 (nI a)) ?_ (Oc.mono (fun _ _ => id) (fun k => Iff.rfl) (fun _ => rfl) hk (h1 rfl p S o σ hs hp hb (hS.mono (by decide))))
    unfold B_X8_readsPart
    rw [if_neg (show ¬ nI 1 = 0 by decide), if_pos (show nI 1 = 1 from rfl)]
  · subst e
    refine Oc.wrap (F := g0 3 (nI a)) ?_ (Oc.mono ?_ (fun k => Iff.rfl) (fun _ => rfl) hk (h2 rfl p S o σ x2 hs hp hb hq hS))
    · unfold B_X8_readsPart
      rw [if_neg (show ¬ nI 2 = 0 by decide), if_neg (show ¬ nI 2 = 1 by decide), if_pos (show nI 2 = 2 from rfl)]
    · intro k k2 z
      exact Or.inr (((jn_k (l := 3) (by omega)).2.2.2 rfl).mpr z)
  · subst e
    refine Oc.wrap (F := g2 (nI a)) ?_ (Oc.mono (fun k _ (z : Bl 3 k) => (z : False).elim) (fun k => Iff.rfl) (fun o2 => Tp.uw (r := 7) hS (Nat.le_refl _)) hk (h3 rfl p S o σ x2 hs hp hb hq))
    unfold B_X8_readsPart
    rw [if_neg (show ¬ nI 3 = 0 by decide), if_neg (show ¬ nI 3 = 1 by decide), if_neg (show ¬ nI 3 = 2 by decide)]
def wl (l : Nat) : Nat := if l = 0 then 10 else if l = 1 then 8 else if l = 2 then 5 else 3
theorem x_ind (N : Nat) (hN : 161 ≤ N) {c : Nat → Nat} {L b : Nat} (hL : L ≤ 160) {S0 K V E : Nat → Nat} (ht : Tks N c L S0 K V E) : ∀ (D a : Nat), a ≤ 5 →
    (10 * (5 - a) + 1 ≤ D → ROne c L b S0 K V E a ((G_X8_reads N D).2.2.1 (nI a))) ∧ (10 * (5 - a) + 6 ≤ D → RNot c L b S0 K V E a ((G_X8_reads N D).2.1 (nI a))) ∧
    (∀ l, l < 4 → 10 * (5 - a) + wl l ≤ D → RLv c L b S0 K V E l a ((G_X8_reads N D).1 (nI l) (nI a))) ∧ (∀ l, l < 4 → 10 * (5 - a) + wl l ≤ D + 1 → RPt c L b S0 K V E l a ((G_X8_reads N D).2.2.2 (nI l) (nI a))) := by
  have hk : ∀ p, p ≤ L → K p ≤ 255 := fun p hp => (ht p hp).1.2.2.2.2.2.1
  have w3 : ∀ l, 3 ≤ wl l := by
    intro l
    unfold wl
    repeat' split
    all_goals decide
  intro D
  induction D with
  | zero =>
    intro a ha
    refine ⟨fun q => by omega, fun q => by omega, fun l hl q => ?_, fun l hl q => ?_⟩
    · have := w3 l; omega
    · have := w3 l; omega
  | succ D ih =>
    intro a ha
    have iha := ih a ha
    have ihs : a < 5 → _ := fun q => ih (a + 1) (by omega)
    refine ⟨fun q => ?_, fun q => ?_, fun l hl q => ?_, fun l hl q => ?_⟩
    · intro p S o σ x2 hs hp hb hx
      refine x_one N hL ht _ _ _ _ a ha (fun a5 p S o σ hs hp hb => ?_) (fun a5 p S o σ hs hp hb _ => ?_) p S o σ x2 hs hp hb hx
      · refine Oc.mono ?_ (fun k => Iff.rfl) (fun _ => rfl) hk ((ihs a5).2.2.1 0 (by decide) (by show _ + 10 ≤ _; omega) p (0 :: S) o σ true hs hp hb rfl (show rk 0 < 1 by decide))
        intro k k2 z
        unfold nJ at z
        rcases z with z | z | z
        · exact Or.inr (((jn_k (l := 0) (by omega)).1 rfl).mpr z)
        · exact Or.inl (Or.inr z)
        · exact Or.inl (Or.inl z)
      · exact (ihs a5).1 (by omega) p S o σ false hs hp hb (fun z => by cases z)
    · intro p S o σ hs hp hb hS
      refine x_not N hL ht _ _ _ _ a ha (fun a5 p S o σ hs hp hb hS => ?_) (fun p S o σ x2 hs hp hb hx hS => ?_) p S o σ hs hp hb hS
      · exact (ihs a5).2.1 (by omega) p S o σ hs hp hb hS
      · refine Oc.mono ?_ (fun k => Iff.rfl) (fun _ => rfl) hk (iha.2.2.1 2 (by decide) (by show _ + 5 ≤ _; omega) p S o σ x2 hs hp hb hx hS)
        intro k k2 z
        unfold nS at z
        by_cases q : k = 42
        · exact Or.inl q
        · exact Or.inr (((jn_k (l := 2) (by omega)).2.2.1 rfl).mpr (by omega))
    · exact x_lv N hN hL ht _ _ _ _ a l hl (iha.2.2.2 l hl q)
    · refine x_pt N ht (G_X8_reads N D).1 (G_X8_reads N D).2.1 (G_X8_reads N D).2.2.1 (G_X8_reads N D).2.2.2 a l hl (fun e => ?_) (fun e => ?_) (fun e => ?_) (fun e => ?_)
      · subst e
        have q : 10 * (5 - a) + 10 ≤ D + 1 + 1 := q
        exact iha.2.2.1 1 (by decide) (by show _ + 8 ≤ _; omega)
      · subst e
        have q : 10 * (5 - a) + 8 ≤ D + 1 + 1 := q
        exact iha.2.1 (by omega)
      · subst e
        have q : 10 * (5 - a) + 5 ≤ D + 1 + 1 := q
        exact iha.2.2.1 3 (by decide) (by show _ + 3 ≤ _; omega)
      · subst e
        have q : 10 * (5 - a) + 3 ≤ D + 1 + 1 := q
        exact iha.1 (by omega)

/-! THE PURE SIDE, 45: the reference is that machine -/
theorem Er.no {c : Nat → Nat} {L t b : Nat} {S0 E : Nat → Nat} {p : Nat} {F : Mem → Option (Int32 × Mem)} {σ τ : Mem} (e : F σ = some (0, τ)) (k : KS t b σ τ) (h : τ.1 12 43 = nI (S0 p)) : Er c L t b S0 E (false, p, []) F σ :=
  ⟨τ, e, k, h, fun q => by cases q⟩
theorem tr_rk (k : Nat) (h : sgn k ≠ 0) : tr k = (if rk (sgn k) = 4 then 5 else rk (sgn k)) ∧ (11 ≤ sgn k ∧ sgn k ≤ 18 ∧ sgn k ≠ 13) ∧ (rk (sgn k) = 4 ↔ (k = 60 ∨ k = 61)) ∧ k ≠ 59 ∧ k ≠ 41 := by
  have : k = 7 ∨ k = 8 ∨ k = 60 ∨ k = 61 ∨ k = 43 ∨ k = 45 ∨ k = 42 := by
    apply Classical.byContradiction
    intro q
    apply h
    unfold sgn
    rw [if_neg (by omega), if_neg (by omega), if_neg (by omega), if_neg (by omega), if_neg (by omega), if_neg (by omega), if_neg (by omega)]
  rcases this with e | e | e | e | e | e | e <;> (subst e; decide)
theorem rk_0 {a : Nat} (h : rk a < 1) : a = 0 := by
  apply Classical.byContradiction
  intro q
  unfold rk at h
  rw [if_neg q] at h
  revert h
  repeat' split
  all_goals (intro h; exact absurd h (by decide))
theorem uw_top {r : Nat} : ∀ (S : List Nat) (d : Nat) (o : List Nat) (a : Nat) (S2 : List Nat), (uw r S d o).1 = a :: S2 → rk a < r
  | [], d, o, a, S2, h => by rw [uw] at h; cases h
  | x :: S, d, o, a, S2, h => by
    by_cases c : rk x < r
    · rw [uw_st c] at h; cases h; exact c
    · rw [uw_go c] at h; exact uw_top S _ _ a S2 h
theorem RS.pop {c : Nat → Nat} {L t b : Nat} {S : List Nat} {d : Nat} {o : List Nat} {σ : Mem} (h : RS c L t b (0 :: S) d o σ) : RS c L t b S (d - 1) o (hwU2 (hwU2 σ.1 12 48 (nI S.length)) 12 49 (nI (d - 1)), σ.2) ∧ KS t b σ (hwU2 (hwU2 σ.1 12 48 (nI S.length)) 12 49 (nI (d - 1)), σ.2) ∧ σ.1 12 48 - 1 = nI S.length ∧ σ.1 12 49 - 1 = nI (d - 1) ∧ 1 ≤ d := by
  obtain ⟨h1, h3, h4, h5, h6⟩ := h
  have hd : d = cnt S + 1 := h5.2.1
  refine ⟨⟨⟨⟨by simp (disch := decide) only [u2_k]; exact h1.1.1, h1.1.2⟩, h1.2⟩, ⟨by simp (disch := decide) only [u2_k]; exact h3.1, h3.2⟩, ⟨by simp (disch := decide) only [u2_k, hwU2_eq], fun i hi => ?_⟩, ⟨by simp (disch := decide) only [hwU2_eq], by omega, h5.2.2.2⟩, ⟨by simp (disch := decide) only [u2_k]; exact h6.1, h6.2⟩⟩, ⟨fun x hx => (u2_t hx).trans (u2_t hx), fun k hk => (u2_k (by omega)).trans (u2_k (by omega)), rfl, fun _ _ _ => rfl, fun _ _ => rfl, rfl⟩, ?_, ?_, by omega⟩
  · have := h4.2 (i + 1) (by rw [List.length_cons]; omega)
    rw [List.length_cons, show S.length + 1 - 1 - (i + 1) = S.length - 1 - i by omega] at this
    exact this
  · rw [h4.1]; exact nI_pred _
  · rw [h5.1, hd]; exact nI_pred _
theorem m_eread (N : Nat) (hN : 200 ≤ N) (c : Nat → Nat) (L : Nat) (hL : L ≤ 160) (S0 K V E : Nat → Nat) (ht : Tks N c L S0 K V E) (t b : Nat) : ∀ (m : Nat) (x1 x2 : Bool) (S : List Nat) (d : Nat) (o : List Nat) (p : Nat) (r : Bool × Nat × List Nat) (n : Nat) (y : Int32) (σ : Mem), sy K V E m x1 x2 S d o p = some r → L + 1 - p < n → p ≤ L → b + o.length + S.length ≤ p → RS c L t b S d o σ → σ.1 12 42 = nI p → (x1 = true → y = bI x2) →
    Er c L t b S0 E r (F_X12_eRead_b14 N n (bI x1) y) σ := by
  intro m
  induction m with
  | zero => intro x1 x2 S d o p r n y σ h; rw [sy] at h; cases h
  | succ m ih =>
    intro x1 x2 S d o p r n y σ h hn hp hb hr h42 hy
    obtain ⟨⟨t1, t2, t3, t4, t5, t6, t7, t8⟩, -, tm⟩ := ht p hp
    obtain ⟨τ0, f0, k0, a42, a43, a44, a45, a46⟩ := tm σ hr.1.1 hr.1.2 h42
    have r0 := hr.kl k0
    have ks0 : KS t b σ τ0 := k0.ks
    obtain ⟨z59, z41, z40, z45, z1, z2⟩ := mk_tab1 (K p) (by omega)
    obtain ⟨z3, z4, z5, z6⟩ := mk_tab2 (K p) (by omega)
    cases n with
    | zero => cases hn
    | succ n =>
      cases x1 with
      | false =>
        rw [sy] at h
        have e0 : F_X12_eRead_b14 N (n + 1) (bI false) y σ = if mk (K p) = 59 then (F_X12_unwinds N (1 : Int32) τ0).bind (fun q2 => if (q2.2.1 12 48) = 0 then some ((1 : Int32), q2.2) else some ((0 : Int32), q2.2)) else if mk (K p) = 41 then (F_X12_unwinds N (1 : Int32) τ0).bind (fun q3 =>
          if (q3.2.1 12 48) = 0 then
            some ((0 : Int32), q3.2)
          else
            (F_X12_unwinds N (7 : Int32) ((hwU2 (hwU2 q3.2.1 12 48 ((q3.2.1 12 48) - (1 : Int32))) 12 49 ((q3.2.1 12 49) - (1 : Int32))), q3.2.2.1, q3.2.2.2.1, q3.2.2.2.2.1, q3.2.2.2.2.2)).bind (fun q4 =>
            (F_X12_eRead_b14 N n) (bI false) y q4.2)) else (F_X12_signOf N τ0).bind (fun q5 =>
          if q5.1 = (Int32.ofInt (-1)) then
            some ((0 : Int32), q5.2)
          else
            (F_X12_between N q5.1 q5.2).bind (fun q6 =>
            if q6.1 = 0 then
              some ((0 : Int32), q6.2)
            else
              if (12 : Int32) < q5.1 then
                (F_X12_eRead_b14 N n) (1 : Int32) (0 : Int32) q6.2
              else
                (F_X12_eRead_b14 N n) (1 : Int32) (1 : Int32) q6.2)) := by
          rw [F_X12_eRead_b14.eq_2, f0, Option.bind_some]
          show (if (0 : Int32) = 0 then _ else _ : Option (Int32 × Mem)) = _
          rw [k00]
          show (if τ0.1 12 44 = 59 then _ else if τ0.1 12 44 = 41 then _ else _ : Option (Int32 × Mem)) = _
          rw [a44]
        by_cases c59 : K p = 59
        · rw [if_pos c59] at h
          obtain ⟨τ1, f1, r1, k1, b42, b43⟩ := m_uw N c L t b 1 (by decide) S N d o τ0 (by omega) (by omega) r0
          have f1' : F_X12_unwinds N (1 : Int32) τ0 = some ((), τ1) := f1
          rw [if_pos (z59.mpr c59), f1', Option.bind_some] at e0
          cases eu : (uw 1 S d o).1 with
          | nil =>
            rw [eu] at h r1
            cases h
            have e48 : τ1.1 12 48 = 0 := r1.2.2.1.1
            have d0 : (uw 1 S d o).2.1 = 0 := r1.2.2.2.1.2.1
            rw [d0] at r1
            refine ⟨τ1, ?_, ks0.trans k1, b43.trans a43, fun _ => ⟨r1, b42.trans a42⟩⟩
            rw [e0, e48, if_pos rfl]
            rfl
          | cons a S2 =>
            rw [eu] at h r1
            cases h
            have e48 : ¬ τ1.1 12 48 = 0 := by
              rw [r1.2.2.1.1]
              have ul := uw_len 1 S d o
              rw [eu] at ul
              have l3 : (a :: S2).length = S2.length + 1 := rfl
              exact neL 0 0 rfl ⟨by omega, by omega, by decide⟩
            exact Er.no (τ := τ1) (by rw [e0, if_neg e48]) (ks0.trans k1) (b43.trans a43)
        rw [if_neg c59] at h
        rw [if_neg (fun q => c59 (z59.mp q))] at e0
        by_cases c41 : K p = 41
        · rw [if_pos c41] at h
          obtain ⟨τ1, f1, r1, k1, b42, b43⟩ := m_uw N c L t b 1 (by decide) S N d o τ0 (by omega) (by omega) r0
          have f1' : F_X12_unwinds N (1 : Int32) τ0 = some ((), τ1) := f1
          rw [if_pos (z41.mpr c41), f1', Option.bind_some] at e0
          have ul := uw_len 1 S d o
          cases eu : (uw 1 S d o).1 with
          | nil =>
            rw [eu] at h r1
            cases h
            have e48 : τ1.1 12 48 = 0 := r1.2.2.1.1
            exact Er.no (τ := τ1) (by rw [e0, e48, if_pos rfl]) (ks0.trans k1) (b43.trans a43)
          | cons a S2 =>
            have a0 := rk_0 (uw_top S d o a S2 eu)
            subst a0
            rw [eu] at h r1 ul
            have l3 : (0 :: S2).length = S2.length + 1 := rfl
            obtain ⟨r2, k2, e48, e49, d1⟩ := r1.pop
            have n48 : ¬ τ1.1 12 48 = 0 := by
              rw [r1.2.2.1.1]
              exact neL 0 0 rfl ⟨by omega, by omega, by decide⟩
            obtain ⟨τ3, f3, r3, k3, c42, c43⟩ := m_uw N c L t b 7 (by decide) S2 N _ _ _ (by omega) (by omega) r2
            have ul2 := uw_len 7 S2 ((uw 1 S d o).2.1 - 1) (uw 1 S d o).2.2
            have pe := t5 (by omega)
            have res := ih false false _ _ _ (E p) r n y τ3 h (by omega) t3 (by omega) r3 (by rw [c42]; simp (disch := decide) only [u2_k]; rw [b42]; exact a42) (fun q => by cases q)
            refine Er.step ?_ (((ks0.trans k1).trans k2).trans k3) res
            rw [e0, if_neg n48, e48, e49]
            show (F_X12_unwinds N 7 (hwU2 (hwU2 τ1.1 12 48 (nI S2.length)) 12 49 (nI ((uw 1 S d o).2.1 - 1)), τ1.2)).bind _ = _
            rw [show F_X12_unwinds N 7 (hwU2 (hwU2 τ1.1 12 48 (nI S2.length)) 12 49 (nI ((uw 1 S d o).2.1 - 1)), τ1.2) = _ from f3, Option.bind_some]
        rw [if_neg c41] at h
        rw [if_neg (fun q => c41 (z41.mp q)), m_sign N (K p) (by omega) τ0 a44, Option.bind_some] at e0
        by_cases cs : sgn (K p) = 0
        · rw [if_pos cs] at h
          cases h
          refine Er.no (τ := τ0) ?_ ks0 a43
          rw [e0, if_pos cs, if_pos rfl]
        rw [if_neg cs] at h
        obtain ⟨g1, g2, g3, -, -⟩ := tr_rk (K p) cs
        have kp : K p ≠ 0 := fun z => cs (by rw [z]; rfl)
        have pe := t5 kp
        obtain ⟨bt1, bt2⟩ := m_bt N r0 (sgn (K p)) g2 hN (by omega)
        rw [← g1] at bt1 bt2
        have ng : ¬ nI (sgn (K p)) = Int32.ofInt (-1) := nI_n1 _ (by omega)
        dsimp only at e0
        rw [if_neg cs, if_neg ng] at e0
        have ul := uw_len (tr (K p)) S d o
        have go : ¬ (rk (sgn (K p)) = 4 ∧ top4 (uw (tr (K p)) S d o).1 = true) → sy K V E m true (decide (sgn (K p) ≤ 12)) (sgn (K p) :: (uw (tr (K p)) S d o).1) (uw (tr (K p)) S d o).2.1 (uw (tr (K p)) S d o).2.2 (E p) = some r → Er c L t b S0 E r (F_X12_eRead_b14 N (n + 1) (bI false) y) σ := by
          intro hno hs
          obtain ⟨τ2, f2, r2, k2, b42, b43⟩ := bt2 hno
          rw [f2, Option.bind_some] at e0
          rw [k10] at e0
          have l3 : (sgn (K p) :: (uw (tr (K p)) S d o).1).length = (uw (tr (K p)) S d o).1.length + 1 := rfl
          have res := ih true (decide (sgn (K p) ≤ 12)) _ _ _ (E p) r n (bI (decide (sgn (K p) ≤ 12))) τ2 hs (by omega) t3 (by omega) r2 (b42.trans a42) (fun _ => rfl)
          refine Er.step ?_ (ks0.trans k2) res
          rw [e0]
          by_cases c12 : sgn (K p) ≤ 12
          · rw [if_neg (nltL_a 12 12 rfl c12 (by decide)), decide_eq_true c12]
            rfl
          · rw [if_pos (ltL_a 12 12 rfl (by omega) (by omega)), decide_eq_false c12]
            rfl
        by_cases c4 : K p = 60 ∨ K p = 61
        · rw [if_pos c4] at h
          by_cases ct : top4 (uw (tr (K p)) S d o).1 = true
          · rw [if_pos ct] at h
            cases h
            obtain ⟨τ2, f2, k2, b43⟩ := bt1 ⟨g3.mpr c4, ct⟩
            rw [f2, Option.bind_some, k00] at e0
            exact Er.no (τ := τ2) e0 (ks0.trans k2) (b43.trans a43)
          · rw [if_neg ct] at h
            refine go (fun q => ct q.2) ?_
            rw [show decide (sgn (K p) ≤ 12) = false from by rcases c4 with e | e <;> (rw [e]; rfl)]
            exact h
        · rw [if_neg c4] at h
          exact go (fun q => c4 (g3.mp q.1)) h
      | true =>
        have hy' : y = bI x2 := hy rfl
        rw [sy] at h
        have e0 : F_X12_eRead_b14 N (n + 1) (bI true) y σ = if mk (K p) = 1 then F_X12_eRead_b38 N (F_X12_eRead_b14 N n) y τ0 else if mk (K p) = 2 then F_X12_eRead_b38 N (F_X12_eRead_b14 N n) y τ0 else if mk (K p) = 6 then (if y = 0 then F_X12_eRead_b99 N (F_X12_eRead_b14 N n) 1 τ0 else (F_X12_opensOne N (13 : Int32) τ0).bind (fun q7 => if q7.1 = 0 then some ((0 : Int32), q7.2) else (F_X12_eRead_b14 N n) 1 y q7.2)) else F_X12_eRead_b99 N (F_X12_eRead_b14 N n) 1 τ0 := by
          rw [F_X12_eRead_b14.eq_2, f0, Option.bind_some]
          show (if (1 : Int32) = 0 then _ else _ : Option (Int32 × Mem)) = _
          rw [k10]
          show (if τ0.1 12 44 = 1 then _ else if τ0.1 12 44 = 2 then _ else if τ0.1 12 44 = 6 then _ else _ : Option (Int32 × Mem)) = _
          rw [a44]
          rfl
        by_cases cv : K p = 2 ∨ K p = 3
        · rw [if_pos cv] at h
          have pe := t5 (by omega)
          obtain ⟨τ1, f1, r1, k1, b42, b43⟩ := m_puts N r0 (by omega) (if K p = 2 then 100000 + V p else V p)
          have l1 : (o ++ [if K p = 2 then 100000 + V p else V p]).length = o.length + 1 := by rw [List.length_append]; rfl
          obtain ⟨τ2, f2, r2, k2, c42, c43⟩ := m_uw N c L t b 7 (by decide) S N d _ τ1 (by omega) (by omega) r1
          have ul := uw_len 7 S d (o ++ [if K p = 2 then 100000 + V p else V p])
          have res := ih false false _ _ _ (E p) r n y τ2 h (by omega) t3 (by omega) r2 (by rw [c42, b42]; exact a42) (fun q => by cases q)
          refine Er.step ?_ ((ks0.trans k1).trans k2) res
          have e38 : F_X12_eRead_b38 N (F_X12_eRead_b14 N n) y τ0 = F_X12_eRead_b14 N n (bI false) y τ2 := by
            unfold F_X12_eRead_b38 F_X12_eRead_b61
            rw [a44, a45 cv]
            by_cases c2 : K p = 2
            · rw [if_pos (z1.mpr c2), show (100000 : Int32) = nI 100000 from rfl, nI_add]
              rw [if_pos c2] at f1
              rw [f1, Option.bind_some, show F_X12_unwinds N 7 τ1 = _ from f2, Option.bind_some]
              rfl
            · rw [if_neg (fun q => c2 (z1.mp q))]
              rw [if_neg c2] at f1
              rw [f1, Option.bind_some, show F_X12_unwinds N 7 τ1 = _ from f2, Option.bind_some]
              rfl
          rw [e0]
          rcases cv with e | e
          · rw [if_pos (z1.mpr e)]; exact e38
          · rw [if_neg (fun q => by have := z1.mp q; omega), if_pos (z2.mpr e)]; exact e38
        rw [if_neg cv] at h
        rw [if_neg (fun q => cv (Or.inl (z1.mp q))), if_neg (fun q => cv (Or.inr (z2.mp q)))] at e0
        have open_ : ∀ (a : Nat), (a = 0 ∨ a = 13 ∨ a = 19) → ∀ (x2' : Bool), K p ≠ 0 → (if d = 5 then some (false, p, []) else sy K V E m true x2' (a :: S) (d + 1) o (E p)) = some r → ∀ F : Mem → Option (Int32 × Mem), F σ = (F_X12_opensOne N (nI a) τ0).bind (fun q7 => if q7.1 = 0 then some ((0 : Int32), q7.2) else (F_X12_eRead_b14 N n) (bI true) (bI x2') q7.2) → Er c L t b S0 E r F σ := by
          intro a ha x2' kp hs F hF
          obtain ⟨o1, o2⟩ := m_opens N r0 a ha (by omega)
          by_cases d5 : d = 5
          · rw [if_pos d5] at hs
            cases hs
            exact Er.no (τ := τ0) (by rw [hF, o1 d5, Option.bind_some, k00]) ks0 a43
          · rw [if_neg d5] at hs
            obtain ⟨τ1, f1, r1, k1, b42, b43⟩ := o2 d5
            have pe := t5 kp
            have l3 : (a :: S).length = S.length + 1 := rfl
            have res := ih true x2' _ _ _ (E p) r n (bI x2') τ1 hs (by omega) t3 (by omega) r1 (b42.trans a42) (fun _ => rfl)
            exact Er.step (by rw [hF, f1, Option.bind_some, k10]) (ks0.trans k1) res
        have b99 : ∀ F : Mem → Option (Int32 × Mem), F σ = F_X12_eRead_b99 N (F_X12_eRead_b14 N n) 1 τ0 → (if K p = 45 then (if d = 5 then some (false, p, []) else sy K V E m true false (19 :: S) (d + 1) o (E p)) else if K p = 40 then (if d = 5 then some (false, p, []) else sy K V E m true true (0 :: S) (d + 1) o (E p)) else some (false, p, [])) = some r → Er c L t b S0 E r F σ := by
          intro F hF hs
          unfold F_X12_eRead_b99 at hF
          rw [a44] at hF
          by_cases c45 : K p = 45
          · rw [if_pos c45] at hs
            rw [if_pos (z45.mpr c45)] at hF
            exact open_ 19 (by decide) false (by omega) hs F hF
          rw [if_neg c45] at hs
          rw [if_neg (fun q => c45 (z45.mp q))] at hF
          by_cases c40 : K p = 40
          · rw [if_pos c40] at hs
            rw [if_pos (z40.mpr c40)] at hF
            exact open_ 0 (by decide) true (by omega) hs F hF
          rw [if_neg c40] at hs
          rw [if_neg (fun q => c40 (z40.mp q))] at hF
          cases hs
          exact Er.no (τ := τ0) hF ks0 a43
        by_cases c9 : K p = 9
        · rw [if_pos (z6.mpr c9)] at e0
          cases x2 with
          | false =>
            rw [if_neg (fun q => by cases q.2)] at h
            rw [if_pos (show y = 0 from hy')] at e0
            exact b99 _ e0 h
          | true =>
            rw [if_pos ⟨c9, rfl⟩] at h
            rw [if_neg (show ¬ y = 0 by rw [hy']; decide), hy'] at e0
            rw [hy'] at *
            exact open_ 13 (by decide) true (by omega) h _ e0
        · rw [if_neg (fun q => c9 q.1)] at h
          rw [if_neg (fun q => c9 (z6.mp q))] at e0
          exact b99 _ e0 h

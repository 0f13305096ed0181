/-! THE PURE SIDE, 28: join -/
theorem x_given (N : Nat) (hN : 160 ≤ N) {g : Nat → Nat → Int32} (hw : Wf g) (s m : Nat) (hs : s < 4) (hm : m < 64) (hp : ∀ j, j < sF g → isN (sCl g s j) 999999) (σ : Mem) (h : HX σ g) : F_X1_given_t69 N s (nI m) σ = some (nI (sGv g s m (sF g)), σ) := by
  have hF := sF_eq hw
  exact x_given5 N hw s m hs hm hp σ h (sF g) N 0 (by omega) (by omega)
theorem m_parts (N : Nat) (hN : 160 ≤ N) {g : Nat → Nat → Int32} (hw : Wf g) (s m : Nat) (hs : s < 4) (hm : m < 64) (hp : ∀ j, j < sF g → isN (sCl g s j) 999999) (σ : Mem) (hg : gM σ = g) : F_X12_partsOf N (nI s) (nI m) σ = some (nI (sGv g s m (sF g)), σ) := by
  have hF := sF_eq hw
  exact m_parts5 N hw s m hs hm hp σ hg (sF g) N 0 (by omega) (by omega)
/-- the first set that pays less alone, found alike -/
theorem joins (N : Nat) (hN : 160 ≤ N) {g : Nat → Nat → Int32} (hw : Wf g) (s y : Nat) (hs : s < 4) (hy : y ≤ 9999) (hp : ∀ j, j < sF g → isN (sCl g s j) 999999) (hF0 : 0 < sF g) : ∀ (q n m : Nat), m + q + 1 = 2 ^ sF g → 1 ≤ m → q + 2 < n → 0 < q ∨ m + 1 = 2 ^ sF g → m < 2 ^ sF g →
    ∃ r, (∀ σ, HX σ g → F_X1_leaving_t69_b8 N n s (nI y) (nI (2 ^ sF g - 1)) (nI m) σ = some (r, σ)) ∧ ∀ σ, gM σ = g → ∃ τ, F_X12_join_b122 N n (nI s) (nI y) (nI (2 ^ sF g - 1)) (nI m) σ = some (r, τ) ∧ KF σ τ := by
  have hF := sF_eq hw
  have h64 := pow_6 (sF g) (by omega)
  intro q
  induction q with
  | zero =>
    intro n m hk h1 hn hz hm
    cases n with
    | zero => cases hn
    | succ n =>
      cases n with
      | zero => omega
      | succ n =>
        obtain ⟨c, hc, wx, wm⟩ := wells N hN hw m (by omega) hm
        have hwk := sWk_le hw m c hc (sF g) (by omega)
        have hgv := sGv_le (m := m) (sF g) hp
        have em : 2 ^ sF g - 1 = m := by omega
        rw [em]
        by_cases b : sWk g m c (sF g) + y < sGv g s m (sF g)
        · refine ⟨nI m, fun σ h => ?_, fun σ hg => ?_⟩
          · rw [F_X1_leaving_t69_b8.eq_2, if_neg (nI_nlt (Nat.le_refl _) (by omega)), x_given N hN hw s m hs (by omega) hp σ h, Option.bind_some, wx σ h, Option.bind_some, x_walk N hN hw m c (by omega) hc σ h, Option.bind_some, nI_add, if_pos (nI_lt b (by omega))]
          · obtain ⟨τ, e, k, v1, v2⟩ := wm σ hg
            refine ⟨τ, ?_, k⟩
            rw [F_X12_join_b122.eq_2, if_neg (nI_nlt (Nat.le_refl _) (by omega)), e, Option.bind_some, m_parts N hN hw s m hs (by omega) hp τ (k.m.g.trans hg), Option.bind_some, v2, nI_add, if_neg (nI_ge b (by omega))]
        · by_cases b2 : sWk g m c (sF g) + y ≤ sGv g s m (sF g)
          · refine ⟨Int32.ofInt (-1), fun σ h => ?_, fun σ hg => ?_⟩
            · rw [F_X1_leaving_t69_b8.eq_2, if_neg (nI_nlt (Nat.le_refl _) (by omega)), x_given N hN hw s m hs (by omega) hp σ h, Option.bind_some, wx σ h, Option.bind_some, x_walk N hN hw m c (by omega) hc σ h, Option.bind_some, nI_add, if_neg (nI_nlt (by omega) (by omega)), if_pos rfl, if_pos (nI_le b2 (by omega)), nI_1, F_X1_leaving_t69_b8.eq_2, if_pos (nI_lt (by omega) (by omega))]
            · obtain ⟨τ, e, k, v1, v2⟩ := wm σ hg
              obtain ⟨τ3, e3, k3, v3, v4⟩ := wm τ (k.m.g.trans hg)
              refine ⟨τ3, ?_, k.trans k3⟩
              rw [F_X12_join_b122.eq_2, if_neg (nI_nlt (Nat.le_refl _) (by omega)), e, Option.bind_some, m_parts N hN hw s m hs (by omega) hp τ (k.m.g.trans hg), Option.bind_some, v2, nI_add, if_pos (nI_le (by omega) (by omega)), nI_1, F_X12_join_b122.eq_2, if_pos (nI_lt (by omega) (by omega)), rF (k.m.g.trans hg) (by decide), hF.1, if_neg (geL_a 0 0 rfl hF0 (by omega)), e3, Option.bind_some]
              unfold F_X12_join_b174
              rw [rF ((k.trans k3).m.g.trans hg) (by decide), hF.1, if_neg (geL_a 0 0 rfl hF0 (by omega)), m_parts N hN hw s m hs (by omega) hp τ3 ((k.trans k3).m.g.trans hg), Option.bind_some, v4, nI_add, if_pos (nI_le b2 (by omega))]
          · refine ⟨nI m, fun σ h => ?_, fun σ hg => ?_⟩
            · rw [F_X1_leaving_t69_b8.eq_2, if_neg (nI_nlt (Nat.le_refl _) (by omega)), x_given N hN hw s m hs (by omega) hp σ h, Option.bind_some, wx σ h, Option.bind_some, x_walk N hN hw m c (by omega) hc σ h, Option.bind_some, nI_add, if_neg (nI_nlt (by omega) (by omega)), if_pos rfl, if_neg (nI_ge (by omega) (by omega))]
            · obtain ⟨τ, e, k, v1, v2⟩ := wm σ hg
              obtain ⟨τ3, e3, k3, v3, v4⟩ := wm τ (k.m.g.trans hg)
              refine ⟨τ3, ?_, k.trans k3⟩
              rw [F_X12_join_b122.eq_2, if_neg (nI_nlt (Nat.le_refl _) (by omega)), e, Option.bind_some, m_parts N hN hw s m hs (by omega) hp τ (k.m.g.trans hg), Option.bind_some, v2, nI_add, if_pos (nI_le (by omega) (by omega)), nI_1, F_X12_join_b122.eq_2, if_pos (nI_lt (by omega) (by omega)), rF (k.m.g.trans hg) (by decide), hF.1, if_neg (geL_a 0 0 rfl hF0 (by omega)), e3, Option.bind_some]
              unfold F_X12_join_b174
              rw [rF ((k.trans k3).m.g.trans hg) (by decide), hF.1, if_neg (geL_a 0 0 rfl hF0 (by omega)), m_parts N hN hw s m hs (by omega) hp τ3 ((k.trans k3).m.g.trans hg), Option.bind_some, v4, nI_add, if_neg (nI_ge (by omega) (by omega))]
  | succ q ih =>
    intro n m hk h1 hn hz hm
    cases n with
    | zero => cases hn
    | succ n =>
      obtain ⟨c, hc, wx, wm⟩ := wells N hN hw m (by omega) hm
      have hwk := sWk_le hw m c hc (sF g) (by omega)
      have hgv := sGv_le (m := m) (sF g) hp
      obtain ⟨r, ix, im⟩ := ih n (m + 1) (by omega) (by omega) (by omega) (by omega) (by omega)
      by_cases b : sWk g m c (sF g) + y < sGv g s m (sF g)
      · refine ⟨nI m, fun σ h => ?_, fun σ hg => ?_⟩
        · rw [F_X1_leaving_t69_b8.eq_2, if_neg (nI_nlt (by omega) (by omega)), x_given N hN hw s m hs (by omega) hp σ h, Option.bind_some, wx σ h, Option.bind_some, x_walk N hN hw m c (by omega) hc σ h, Option.bind_some, nI_add, if_pos (nI_lt b (by omega))]
        · obtain ⟨τ, e, k, v1, v2⟩ := wm σ hg
          refine ⟨τ, ?_, k⟩
          rw [F_X12_join_b122.eq_2, if_neg (nI_nlt (by omega) (by omega)), e, Option.bind_some, m_parts N hN hw s m hs (by omega) hp τ (k.m.g.trans hg), Option.bind_some, v2, nI_add, if_neg (nI_ge b (by omega))]
      · refine ⟨r, fun σ h => ?_, fun σ hg => ?_⟩
        · rw [F_X1_leaving_t69_b8.eq_2, if_neg (nI_nlt (by omega) (by omega)), x_given N hN hw s m hs (by omega) hp σ h, Option.bind_some, wx σ h, Option.bind_some, x_walk N hN hw m c (by omega) hc σ h, Option.bind_some, nI_add, if_neg (nI_nlt (by omega) (by omega)), if_neg (fun z => by have := (nI_eq (by omega) (by omega)).mp z; omega), nI_1]
          exact ix σ h
        · obtain ⟨τ, e, k, v1, v2⟩ := wm σ hg
          obtain ⟨τ3, e3, k3⟩ := im τ (k.m.g.trans hg)
          refine ⟨τ3, ?_, k.trans k3⟩
          rw [F_X12_join_b122.eq_2, if_neg (nI_nlt (by omega) (by omega)), e, Option.bind_some, m_parts N hN hw s m hs (by omega) hp τ (k.m.g.trans hg), Option.bind_some, v2, nI_add, if_pos (nI_le (by omega) (by omega)), nI_1]
          exact e3
theorem m_join56 (N : Nat) {g : Nat → Nat → Int32} (hw : Wf g) (s : Nat) (hs : s < 4) (x2 : Int32) (ez : g 96 s = nI (sF g)) (σ : Mem) (hg : gM σ = g) : ∀ (q n k : Nat), k + q = sF g → q < n →
    F_X12_join_b56 N n (nI s) x2 1 (nI k) σ = F_X12_join_b95 N (nI s) x2 (if sAw g s 999999 q k = true then 1 else 0) σ := by
  have hF := sF_eq hw
  intro q
  induction q with
  | zero =>
    intro n k hk hn
    cases n with
    | zero => cases hn
    | succ n => rw [F_X12_join_b56.eq_2, rF hg (by decide), hF.1, if_pos (nI_le (by omega) (by omega))]; rfl
  | succ q ih =>
    intro n k hk hn
    cases n with
    | zero => cases hn
    | succ n =>
      rw [F_X12_join_b56.eq_2, rF hg (by decide), hF.1, if_neg (nI_ge (by omega) (by omega)), k10, ix40, if_neg (out_nI (by omega) (by decide)), nI_clamp (by omega), rA hg (by decide) (by decide), nI_1, sAw]
      by_cases c : sCl g s k < 0 ∨ 999999 < sCl g s k
      · rw [if_pos c, show F_X12_in N (g 97 (40 * s + k)) 0 999999 σ = _ from m_in_n c, Option.bind_some]
        cases n with
        | zero => omega
        | succ n =>
          rw [F_X12_join_b56.eq_2, rF hg (by decide), hF.1]
          by_cases cc : nI (sF g) ≤ nI (k + 1)
          · rw [if_pos cc, if_neg (by decide)]
          · rw [if_neg cc, k00, if_neg (by decide)]
      · rw [if_neg c, show F_X12_in N (g 97 (40 * s + k)) 0 999999 σ = _ from m_in_y (fun z => c (Or.inl z)) (fun z => c (Or.inr z)), Option.bind_some]
        exact ih n (k + 1) (by omega) (by omega)
theorem m_join56z (N : Nat) {g : Nat → Nat → Int32} (s : Int32) (x2 : Int32) (n : Nat) (σ : Mem) (k : Int32) : F_X12_join_b56 N (n + 1) s x2 0 k σ = some (Int32.ofInt (-2), σ) := by
  have e : F_X12_join_b95 N s x2 0 σ = some (Int32.ofInt (-2), σ) := by unfold F_X12_join_b95; rw [k00]
  rw [F_X12_join_b56.eq_2, k00, e, ite_self]
theorem c_join (N : Nat) (hN : 160 ≤ N) (a b : Int32) (σ : Mem) (h : Ag σ) : Ac (F_X11_join N a b) (F_X12_join N a b) σ := by
  obtain ⟨hx, hw⟩ := h
  have hF := sF_eq hw
  have h64 := pow_6 (sF (gM σ)) (by omega)
  rcases rg_c a (c := 4) (by decide) with ⟨s, hs, rfl⟩ | hq
  rotate_left
  · refine Ac.st (r := Int32.ofInt (-2)) ⟨hx, hw⟩ ?_ ?_
    · unfold F_X11_join; rw [x_shN hq, Option.bind_some, k00]
    · unfold F_X12_join; rw [m_shN hq, Option.bind_some, k00]
  rcases rg_m b 1 5 (by decide) (by decide) with ⟨d, d1, hd, rfl⟩ | hq
  rotate_left
  · refine Ac.st (r := Int32.ofInt (-2)) ⟨hx, hw⟩ ?_ ?_
    · unfold F_X11_join; rw [x_shY hs, Option.bind_some, k10, show F_X11_within N b 1 5 _ = _ from x_in_n hq, Option.bind_some, k00]
    · unfold F_X12_join; rw [m_shY hs, Option.bind_some, k10, show F_X12_in N b 1 5 _ = _ from m_in_n hq, Option.bind_some, k00]
  obtain ⟨ez, hz⟩ := hw.sz s hs
  by_cases c : gM σ 95 s = -1
  · refine Ac.st (r := Int32.ofInt (-11)) ⟨hx, hw⟩ ?_ ?_
    · unfold F_X11_join; rw [x_shY hs, Option.bind_some, k10, show F_X11_within N (nI d) 1 5 _ = _ from x_rgY d1 hd (by decide), Option.bind_some, k10, x_misY hx hs c, Option.bind_some, k10]
    · unfold F_X12_join; rw [m_shY hs, Option.bind_some, k10, show F_X12_in N (nI d) 1 5 _ = _ from m_rgY d1 hd (by decide), Option.bind_some, k10, if_neg (out_nI hs (by decide))]; simp only [nI_clamp (show s < 2 ^ 31 by omega)]; rw [rA rfl (by decide) (by decide), if_pos (show gM σ 95 s = Int32.ofInt (-1) from c)]
  by_cases cz : gM σ 96 s = nI (sF (gM σ))
  rotate_left
  · refine Ac.st (r := Int32.ofInt (-2)) ⟨hx, hw⟩ ?_ ?_
    · unfold F_X11_join
      rw [x_shY hs, Option.bind_some, k10, show F_X11_within N (nI d) 1 5 _ = _ from x_rgY d1 hd (by decide), Option.bind_some, k10, x_misN hw hx hs c, Option.bind_some, k00, if_neg (out_nI hs (by decide))]
      simp only [nI_clamp (show s < 2 ^ 31 by omega)]
      rw [hx.1.sz s hs, hx.1.fa, hF.1, if_neg cz]
    · unfold F_X12_join
      rw [m_shY hs, Option.bind_some, k10, show F_X12_in N (nI d) 1 5 _ = _ from m_rgY d1 hd (by decide), Option.bind_some, k10, if_neg (out_nI hs (by decide))]
      simp only [nI_clamp (show s < 2 ^ 31 by omega)]
      rw [rA rfl (by decide) (by decide), if_neg (show ¬ gM σ 95 s = Int32.ofInt (-1) from c), if_neg (out_nI hs (by decide)), rA rfl (by decide) (by decide), rF rfl (by decide), hF.1, if_neg cz]
      obtain ⟨n, rfl⟩ : ∃ n, N = n + 1 := ⟨N - 1, by omega⟩
      exact m_join56z _ (g := gM σ) _ _ _ _ _
  have ezF : (gM σ 96 s).toNatClampNeg = sF (gM σ) := by rw [cz, nI_clamp (by omega)]
  have xs : F_X11_join N (nI s) (nI d) σ = if sAw (gM σ) s 999999 (sF (gM σ)) 0 = true then (F_X1_leaving_t69 N s (sCo (gM σ) d) σ).bind (fun q6 => some (q6.1, q6.2)) else some (Int32.ofInt (-2), σ) := by
    unfold F_X11_join
    rw [x_shY hs, Option.bind_some, k10, show F_X11_within N (nI d) 1 5 _ = _ from x_rgY d1 hd (by decide), Option.bind_some, k10, x_misN hw hx hs c, Option.bind_some, k00, if_neg (out_nI hs (by decide))]
    simp only [nI_clamp (show s < 2 ^ 31 by omega)]
    rw [hx.1.sz s hs, hx.1.fa, hF.1, if_pos cz]
    unfold F_X10_allWithin
    rw [show F_X10_allWithin_b3 N N (nI s) 0 999999 (0 : Int32) σ = _ from x_all3 N hw s hs 999999 σ hx (sF (gM σ)) N 0 (by omega) (by omega), Option.bind_some]
    cases sAw (gM σ) s 999999 (sF (gM σ)) 0
    · show (if (0 : Int32) = 0 then _ else _) = _
      rw [k00]; rfl
    · rw [if_pos rfl]
      show (if (1 : Int32) = 0 then _ else _) = _
      rw [k10, if_neg (out_nI hs (by decide)), x_costs N hN d (by omega) σ hx, Option.bind_some]
  have ms : ∀ τ, gM τ = gM σ → F_X12_join N (nI s) (nI d) τ = F_X12_join_b95 N (nI s) (nI d) (if sAw (gM σ) s 999999 (sF (gM σ)) 0 = true then 1 else 0) τ := by
    intro τ gτ
    unfold F_X12_join
    rw [m_shY hs, Option.bind_some, k10, show F_X12_in N (nI d) 1 5 _ = _ from m_rgY d1 hd (by decide), Option.bind_some, k10, if_neg (out_nI hs (by decide))]
    simp only [nI_clamp (show s < 2 ^ 31 by omega)]
    rw [rA gτ (by decide) (by decide), if_neg (show ¬ gM σ 95 s = Int32.ofInt (-1) from c), if_neg (out_nI hs (by decide)), rA gτ (by decide) (by decide), rF gτ (by decide), hF.1, if_pos cz]
    exact m_join56 N hw s hs (nI d) cz τ gτ (sF (gM σ)) N 0 (by omega) (by omega)
  by_cases cw : sAw (gM σ) s 999999 (sF (gM σ)) 0 = true
  rotate_left
  · refine Ac.st (r := Int32.ofInt (-2)) ⟨hx, hw⟩ ?_ ?_
    · rw [xs, if_neg cw]
    · rw [ms σ rfl, if_neg cw]; unfold F_X12_join_b95; rw [k00]
  have hp : ∀ j, j < sF (gM σ) → isN (sCl (gM σ) s j) 999999 := fun j hj => sAw_is (m := 999999) (by decide) (sF (gM σ)) 0 cw j (Nat.zero_le _) (by omega)
  obtain ⟨eco, hco⟩ := sCoN_eq (gM σ) d (by omega)
  obtain ⟨τ1, e1, k1⟩ := m_costs N hN hw d (by omega) σ rfl
  have g1 := k1.g
  have et : ((1 : Int32) <<< ((τ1.1 12 20) &&& 31)) - (1 : Int32) = nI (2 ^ sF (gM σ) - 1) := by
    rw [rF g1 (by decide), hF.1, all_6 _ (by omega)]
  by_cases f0 : sF (gM σ) = 0
  · refine Ac.mk (r := Int32.ofInt (-1)) (τ1 := σ) (τ2 := τ1) ⟨hx, hw⟩ ?_ (KY.rfl_ σ) ?_ k1.q.m
    · rw [xs, if_pos cw]
      unfold F_X1_leaving_t69 F_X1_all
      rw [hx.1.fa, hF.1, all_6 _ (by omega), f0, Option.bind_some]
      obtain ⟨n, rfl⟩ : ∃ n, N = n + 1 := ⟨N - 1, by omega⟩
      rw [F_X1_leaving_t69_b8.eq_2, if_pos (show nI (2 ^ 0 - 1) < (1 : Int32) by decide)]
      rfl
    · rw [ms σ rfl, if_pos cw]
      unfold F_X12_join_b95
      rw [k10, e1, Option.bind_some, et, f0]
      obtain ⟨n, rfl⟩ : ∃ n, N = n + 1 := ⟨N - 1, by omega⟩
      rw [F_X12_join_b122.eq_2, if_pos (by decide), rF g1 (by decide), hF.1, f0, if_pos (by decide)]
      unfold F_X12_join_b174
      rw [rF g1 (by decide), hF.1, f0, if_pos (by decide)]
  have p2 : 2 ≤ 2 ^ sF (gM σ) := by
    obtain ⟨n, e⟩ : ∃ n, sF (gM σ) = n + 1 := ⟨sF (gM σ) - 1, by omega⟩
    rw [e, Nat.pow_succ]
    have := Nat.one_le_two_pow (n := n)
    omega
  obtain ⟨r, ix, im⟩ := joins N hN hw s (sCoN (gM σ) d) hs (by omega) hp (by omega) (2 ^ sF (gM σ) - 2) N 1 (by omega) (by omega) (by omega) (by omega) (by omega)
  obtain ⟨τ2, e2, k2⟩ := im τ1 g1
  refine Ac.mk (r := r) (τ1 := σ) (τ2 := τ2) ⟨hx, hw⟩ ?_ (KY.rfl_ σ) ?_ (k1.q.m.trans k2.m)
  · rw [xs, if_pos cw]
    unfold F_X1_leaving_t69 F_X1_all
    rw [hx.1.fa, hF.1, all_6 _ (by omega), Option.bind_some, eco, show F_X1_leaving_t69_b8 N N s (nI (sCoN (gM σ) d)) (nI (2 ^ sF (gM σ) - 1)) (1 : Int32) σ = _ from ix σ hx]
    rfl
  · rw [ms σ rfl, if_pos cw]
    unfold F_X12_join_b95
    rw [k10, e1, Option.bind_some, et, eco]
    exact e2

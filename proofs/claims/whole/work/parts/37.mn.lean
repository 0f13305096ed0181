/-! THE PURE SIDE, 18: the same in the reference; mean, right -/
/-- the reference: its sums, scratch, rows behind d -/
def KU (d : Nat) (σ τ : Mem) : Prop := τ.1 = σ.1 ∧ (∀ t, t ≠ 12 → τ.2.1 t = σ.2.1 t) ∧ (∀ t, t ≠ 100 → t ≠ 101 → τ.2.2.1 t = σ.2.2.1 t) ∧ (∀ t, t ≠ 102 → t ≠ 103 → τ.2.2.2.1 t = σ.2.2.2.1 t) ∧ (∀ k, k < 5 * d + 5 → τ.2.2.2.1 102 0 k = σ.2.2.2.1 102 0 k) ∧ τ.2.2.2.2 = σ.2.2.2.2
theorem KU.rfl_ (d : Nat) (σ : Mem) : KU d σ σ := ⟨rfl, fun _ _ => rfl, fun _ _ _ => rfl, fun _ _ _ => rfl, fun _ _ => rfl, rfl⟩
theorem KU.trans {d : Nat} {σ τ υ : Mem} (h : KU d σ τ) (k : KU d τ υ) : KU d σ υ := ⟨k.1.trans h.1, fun t a => (k.2.1 t a).trans (h.2.1 t a), fun t a b => (k.2.2.1 t a b).trans (h.2.2.1 t a b), fun t a b => (k.2.2.2.1 t a b).trans (h.2.2.2.1 t a b), fun t a => (k.2.2.2.2.1 t a).trans (h.2.2.2.2.1 t a), k.2.2.2.2.2.trans h.2.2.2.2.2⟩
theorem KU.mono {d e : Nat} {σ τ : Mem} (h : KU d σ τ) (he : e ≤ d) : KU e σ τ := ⟨h.1, h.2.1, h.2.2.1, h.2.2.2.1, fun k hk => h.2.2.2.2.1 k (by omega), h.2.2.2.2.2⟩
theorem KG.u {d : Nat} {σ τ : Mem} (h : KG d σ τ) : KU d σ τ := ⟨h.1, fun t _ => congrFun h.2.1 t, h.2.2.1, h.2.2.2.1, h.2.2.2.2.1, h.2.2.2.2.2.2⟩
theorem KG.a {d : Nat} {σ τ : Mem} (h : KG d σ τ) : aM τ = aM σ := by unfold aM; rw [h.2.1]
theorem KU.m {d : Nat} {σ τ : Mem} (h : KU d σ τ) : KM σ τ := ⟨fun t _ => congrFun h.1 t, fun k _ => congrFun (congrFun h.1 12) k, h.2.1, fun t ht => h.2.2.1 t (by omega) (by omega), h.2.2.1 98 (by omega) (by omega), fun t ht => h.2.2.2.1 t (by omega) (by omega), h.2.2.2.2.2⟩
theorem KU.row {d : Nat} {σ τ : Mem} (h : KU d σ τ) {th : Nat → Int64} {n : Nat} (hn : n ≤ 5) (hr : ∀ j, j < n → σ.2.2.2.1 102 0 (5 * d + j) = th j) : ∀ j, j < n → τ.2.2.2.1 102 0 (5 * d + j) = th j := fun j hj => by rw [h.2.2.2.2.1 _ (by omega)]; exact hr j hj
theorem KU.w {d : Nat} {σ : Mem} {L : Nat → Nat → Int64} (h : ∀ t, t ≠ 12 → L t = σ.2.1 t) : KU d σ (σ.1, L, σ.2.2) := ⟨rfl, h, fun _ _ _ => rfl, fun _ _ _ => rfl, fun _ _ => rfl, rfl⟩
theorem m_digs67 (N : Nat) (hN : 160 ≤ N) {g : Nat → Nat → Int32} (hw : Wf g) (g0 : Int32 → Int32 → Int32 → Int32 → Int64 → Int32 → Mem → Option (Unit × Mem)) (r k : Nat) (hk5 : k ≤ 5) (there : Int64) (all : Int32) (th : Nat → Int64) (a0 : Q4) : ∀ (q n j : Nat) (σ : Mem), j + q = sL g → q < n → gM σ = g → (∀ j, j < sL g → σ.2.2.2.1 102 0 (5 * k + j) = th j) → aM σ = sFind g (k + 1) there all th j a0 →
    ∃ τ, F_X12_digs_b67 N g0 n (nI r) (nI k) (nI k) there all (nI j) σ = F_X12_digs_b165 N g0 N (nI r) (nI k) (nI k) there all 0 τ ∧ KU k σ τ ∧ aM τ = sFind g (k + 1) there all th (sL g) a0 := by
  intro q
  have hL := sL_le hw
  induction q with
  | zero =>
    intro n j σ hk hn hg h1 ha
    cases n with
    | zero => cases hn
    | succ n =>
      refine ⟨σ, ?_, KU.rfl_ k σ, by rw [ha, show j = sL g by omega]⟩
      rw [F_X12_digs_b67.eq_2, rL hw hg, if_pos (nI_le (by omega) (by omega))]
  | succ q ih =>
    intro n j σ hk hn hg h1 ha
    cases n with
    | zero => cases hn
    | succ n =>
      obtain ⟨υ, f1, k1⟩ := m_waterOf N hN hw (k + 1) j (by omega) σ hg
      have k1' : KU k σ υ := (k1.kg k).u
      have au : aM υ = aM σ := (k1.kg k).a
      have hgu : gM υ = g := k1.g.trans hg
      have kz : KU k υ (υ.1, hwU2 (hwU2 (hwU2 υ.2.1 12 56 (υ.2.1 12 56 + sFound g (k + 1) j there th)) 12 55 (υ.2.1 12 55 + sFound g (k + 1) j there th * all.toInt64)) 12 58 (υ.2.1 12 58 + sFound g (k + 1) j there th * sGood (g 12 1) (g 73 j) 0), υ.2.2) := KU.w (fun t ht => by rw [u2_t ht, u2_t ht, u2_t ht])
      obtain ⟨τ, e1, k2, a1⟩ := ih n (j + 1) _ (by omega) (by omega) (kz.m.g.trans hgu) (kz.row hL (k1'.row hL h1)) (by
        show _ = sFd g (k + 1) there all th j (sFind g (k + 1) there all th j a0)
        rw [← ha, ← au]
        simp [aM, sFd, hwU2_get])
      refine ⟨τ, ?_, (k1'.trans kz).trans k2, a1⟩
      rw [F_X12_digs_b67.eq_2, rL hw hg, if_neg (nI_ge (by omega) (by omega)), ix5, if_neg (out_nI (by omega) (by decide)), nI_1, f1, Option.bind_some, nI_clamp (by omega), h1 j (by omega)]
      have kz2 : KU k υ (υ.1, hwU2 (hwU2 υ.2.1 12 56 (υ.2.1 12 56 + sFound g (k + 1) j there th)) 12 55 (υ.2.1 12 55 + sFound g (k + 1) j there th * all.toInt64), υ.2.2) := KU.w (fun t ht => by rw [u2_t ht, u2_t ht])
      show (F_X12_worthOf N (nI j) (υ.1, hwU2 (hwU2 υ.2.1 12 56 (υ.2.1 12 56 + sFound g (k + 1) j there th)) 12 55 (υ.2.1 12 55 + sFound g (k + 1) j there th * all.toInt64), υ.2.2.1, υ.2.2.2.1, υ.2.2.2.2)).bind _ = _
      rw [m_worthOf N hw j (by omega) _ (kz2.m.g.trans hgu), Option.bind_some, nI_1]
      exact e1
theorem m_dend {g : Nat → Nat → Int32} (there : Int64) (costs : Int32) (d : Nat) (σ : Mem) (hg : gM σ = g) : ∃ τ, (if costs ≤ σ.1 12 3 then
      (some ((), (σ.1, (hwU2 (hwU2 σ.2.1 12 55 ((σ.2.1 12 55) + (there * costs.toInt64))) 12 57 ((σ.2.1 12 57) + (0 : Int64))), σ.2.2.1, σ.2.2.2.1, σ.2.2.2.2)) : Option (Unit × Mem))
    else
      some ((), (σ.1, (hwU2 (hwU2 σ.2.1 12 55 ((σ.2.1 12 55) + (there * costs.toInt64))) 12 57 ((σ.2.1 12 57) + there)), σ.2.2.1, σ.2.2.2.1, σ.2.2.2.2))) = some ((), τ) ∧ KU d σ τ ∧ aM τ = sEnd g there costs (aM σ) := by
  unfold sEnd
  rw [rF hg (by decide)]
  by_cases hc : costs ≤ g 12 3
  · rw [if_pos hc, if_pos hc]
    refine ⟨_, rfl, KU.w (L := hwU2 (hwU2 σ.2.1 12 55 (σ.2.1 12 55 + there * costs.toInt64)) 12 57 (σ.2.1 12 57 + 0)) (fun t ht => by rw [u2_t ht, u2_t ht]), ?_⟩
    simp [aM, hwU2_get]
  · rw [if_neg hc, if_neg hc]
    refine ⟨_, rfl, KU.w (L := hwU2 (hwU2 σ.2.1 12 55 (σ.2.1 12 55 + there * costs.toInt64)) 12 57 (σ.2.1 12 57 + there)) (fun t ht => by rw [u2_t ht, u2_t ht]), ?_⟩
    simp [aM, hwU2_get]
theorem m_digs (N : Nat) (hN : 160 ≤ N) {g : Nat → Nat → Int32} (hw : Wf g) (r : Nat) (hr : r < 8) : ∀ (n d k : Nat) (s : Int32) (there : Int64) (costs : Int32) (th : Nat → Int64) (σ : Mem), n < d → k + n = 5 → Sg s → gM σ = g → (∀ j, j < sL g → σ.2.2.2.1 102 0 (5 * k + j) = th j) →
    ∃ τ, G_X12_digs N d (nI r) (nI k) s (nI k) there costs σ = some ((), τ) ∧ KU k σ τ ∧ aM τ = sDesc g r n k s there costs th (aM σ) := by
  have hD := (sD_eq hw).2
  have hL := sL_le hw
  intro n
  induction n with
  | zero =>
    intro d k s there costs th σ hd hk hs hg h1
    cases d with
    | zero => cases hd
    | succ d =>
      have e : k = 5 := by omega
      subst e
      obtain ⟨τ0, f0, k0⟩ := m_does N hN hw r hr 5 5 (by omega) (by omega) s hs th σ hg h1
      have hf : sDoes g r 5 s th = false := by unfold sDoes; rw [decide_eq_false (by omega), Bool.false_and]
      obtain ⟨τ, e1, k1, a1⟩ := m_dend (g := g) there costs 5 τ0 (k0.q.g.trans hg)
      refine ⟨τ, ?_, k0.u.trans k1, by rw [a1, k0.a]; rfl⟩
      show B_X12_digs N (G_X12_digs N d) (nI r) (nI 5) s (nI 5) there costs σ = _
      unfold B_X12_digs
      rw [f0, hf, Option.bind_some, if_pos (show bI false = 0 from rfl)]
      exact e1
  | succ n ih =>
    intro d k s there costs th σ hd hk hs hg h1
    cases d with
    | zero => cases hd
    | succ d =>
      obtain ⟨N', rfl⟩ : ∃ N', N = N' + 4 := ⟨N - 4, by omega⟩
      obtain ⟨τ0, f0, k0⟩ := m_does (N' + 4) hN hw r hr k k (by omega) (by omega) s hs th σ hg h1
      have g0 : gM τ0 = g := k0.q.g.trans hg
      show ∃ τ, B_X12_digs (N' + 4) (G_X12_digs (N' + 4) d) (nI r) (nI k) s (nI k) there costs σ = _ ∧ _
      unfold B_X12_digs
      rw [f0, Option.bind_some, sDesc]
      cases hdo : sDoes g r k s th with
      | false =>
        obtain ⟨τ, e1, k1, a1⟩ := m_dend (g := g) there costs k τ0 g0
        refine ⟨τ, ?_, k0.u.trans k1, ?_⟩
        · rw [if_pos (show bI false = 0 from rfl)]; exact e1
        · rw [if_neg (by decide), a1, k0.a]
      | true =>
        obtain ⟨τ1, f1, k1⟩ := m_costOf (N' + 4) hN hw (k + 1) τ0 g0
        have k1' : KU k τ0 τ1 := (k1.kg k).u
        have au1 : aM τ1 = aM τ0 := (k1.kg k).a
        have g1 : gM τ1 = g := k1.g.trans g0
        have row1 := k1'.row hL (k0.u.row hL h1)
        obtain ⟨τ2, f2, k2, a2⟩ := m_digs67 (N' + 4) hN hw (G_X12_digs (N' + 4) d) r k (by omega) there (costs + sCost g (k + 1)) th (aM τ1) (sL g) (N' + 4) 0 τ1 (by omega) (by omega) g1 row1 rfl
        have g2 : gM τ2 = g := k2.m.g.trans g1
        have row2 := k2.row hL row1
        have step : ∀ (q m : Nat) (σ : Mem), q < 3 → gM σ = g → (∀ j, j < sL g → σ.2.2.2.1 102 0 (5 * k + j) = th j) → ∃ τ, F_X12_digs_b165 (N' + 4) (G_X12_digs (N' + 4) d) (m + 1) (nI r) (nI k) (nI k) there (costs + sCost g (k + 1)) (nI q) σ = F_X12_digs_b165 (N' + 4) (G_X12_digs (N' + 4) d) m (nI r) (nI k) (nI k) there (costs + sCost g (k + 1)) (nI (q + 1)) τ ∧ KU k σ τ ∧ aM τ = sDarm g (fun s' t' h' b => sDesc g r n (k + 1) s' t' (costs + sCost g (k + 1)) h' b) (k + 1) th there (nI q) (aM σ) := by
          intro q m σ hq hg h1
          obtain ⟨τ1, f1, k1, r1⟩ := m_dries (N' + 4) hN hw k (k + 1) (by omega) (nI q) th σ hg h1
          have kg1 := k1.kg (by omega) k
          have g1 := k1.q.g.trans hg
          rw [F_X12_digs_b165.eq_2, if_neg (geL_n 3 3 rfl (by omega) (by decide)), nI_1, f1, Option.bind_some, nI_1]
          unfold sDarm
          by_cases hm : 0 < sMuch g (k + 1) (nI q) th
          · obtain ⟨τ2, f2, k2, r2⟩ := m_below (N' + 4) (by omega) hw k (by omega) (sMuch g (k + 1) (nI q) th) hm (sDry g (k + 1) (nI q) th) τ1 g1 r1
            have g2 := k2.q.g.trans g1
            obtain ⟨τ3, f3, k3, a3⟩ := ih d (k + 1) (nI q) (there * sMuch g (k + 1) (nI q) th / 1000000) (costs + sCost g (k + 1)) (sNext g (k + 1) (nI q) th) τ2 (by omega) (by omega) (Or.inr ⟨q, hq, rfl⟩) g2 r2
            refine ⟨τ3, ?_, (kg1.u.trans k2.kg.u).trans (k3.mono (by omega)), ?_⟩
            · show (if lg_cmp (sMuch g (k + 1) (nI q) th) 0 ≤ 0 then _ else (F_X12_below (N' + 4) (nI k) (sMuch g (k + 1) (nI q) th) τ1).bind (fun q6 => (G_X12_digs (N' + 4) d (nI r) (nI (k + 1)) (nI q) (nI (k + 1)) (there * sMuch g (k + 1) (nI q) th / 1000000) (costs + sCost g (k + 1)) q6.2).bind (fun q7 => F_X12_digs_b165 (N' + 4) (G_X12_digs (N' + 4) d) m (nI r) (nI k) (nI k) there (costs + sCost g (k + 1)) (nI (q + 1)) q7.2))) = _
              rw [if_neg (fun z => lg_npos.mp z hm), f2, Option.bind_some, f3, Option.bind_some]
            · rw [if_pos hm, a3, k2.kg.a, kg1.a]
          · refine ⟨τ1, ?_, kg1.u, ?_⟩
            · rw [if_pos (lg_npos.mpr hm)]
            · rw [if_neg hm, kg1.a]
        obtain ⟨τ3, f3, k3, a3⟩ := step 0 (N' + 3) τ2 (by decide) g2 row2
        have g3 := k3.m.g.trans g2
        have row3 := k3.row hL row2
        obtain ⟨τ4, f4, k4, a4⟩ := step 1 (N' + 2) τ3 (by decide) g3 row3
        obtain ⟨τ5, f5, k5, a5⟩ := step 2 (N' + 1) τ4 (by decide) (k4.m.g.trans g3) (k4.row hL row3)
        refine ⟨τ5, ?_, ((((k0.u.trans k1').trans k2).trans k3).trans k4).trans k5, ?_⟩
        · rw [if_neg (show ¬ bI true = 0 by decide)]
          show (F_X12_costOf (N' + 4) (nI k + 1) τ0).bind _ = _
          rw [nI_1, f1, Option.bind_some]
          show F_X12_digs_b67 (N' + 4) (G_X12_digs (N' + 4) d) (N' + 4) (nI r) (nI k) (nI k) there (costs + sCost g (k + 1)) (nI 0) τ1 = _
          rw [f2]
          show F_X12_digs_b165 (N' + 4) _ (N' + 3 + 1) (nI r) (nI k) (nI k) there (costs + sCost g (k + 1)) (nI 0) τ2 = _
          rw [f3, f4, f5, F_X12_digs_b165.eq_2, if_pos (show (3 : Int32) ≤ nI (2 + 1) by decide)]
        · rw [if_pos rfl, a5, a4, a3, a2, au1, k0.a]
          rfl
theorem m_means (N : Nat) (hN : 160 ≤ N) {g : Nat → Nat → Int32} (hw : Wf g) (r : Nat) (hr : r < 8) (p : Nat) (hp : p < 4) (σ : Mem) (hg : gM σ = g) : ∃ τ, F_X12_means N (nI r) (nI p) σ = some ((), τ) ∧ KM σ τ ∧ aM τ = sMean g r p := by
  unfold F_X12_means
  have ky : KU 0 σ (σ.1, hwU2 (hwU2 (hwU2 (hwU2 σ.2.1 12 55 (0 : Int64)) 12 56 (0 : Int64)) 12 57 (0 : Int64)) 12 58 (0 : Int64), σ.2.2) := KU.w (fun t a => by rw [u2_t a, u2_t a, u2_t a, u2_t a])
  obtain ⟨τ1, e1, k1, r1⟩ := m_begins N (by omega) hw p hp 0 (by omega) _ (ky.m.g.trans hg)
  obtain ⟨τ2, e2, k2, a2⟩ := m_digs N hN hw r hr 5 10 0 (-1) 1000000 0 (sFirst g p) τ1 (by decide) rfl (Or.inl rfl) (k1.q.g.trans (ky.m.g.trans hg)) r1
  refine ⟨τ2, ?_, (ky.m.trans k1.q.m).trans k2.m, ?_⟩
  · rw [show F_X12_begins N (nI p) (0 : Int32) (σ.1, (hwU2 (hwU2 (hwU2 (hwU2 σ.2.1 12 55 (0 : Int64)) 12 56 (0 : Int64)) 12 57 (0 : Int64)) 12 58 (0 : Int64)), σ.2.2.1, σ.2.2.2.1, σ.2.2.2.2) = _ from e1, Option.bind_some, show F_X12_digs N (nI r) (0 : Int32) (Int32.ofInt (-1)) (0 : Int32) (1000000 : Int64) (0 : Int32) τ1 = _ from e2]
    rfl
  · rw [a2]
    unfold sMean
    congr 1
    unfold aM
    rw [k1.2.1]
    simp [hwU2_get]
theorem c_mean (N : Nat) (hN : 160 ≤ N) (a b c : Int32) (σ : Mem) (h : Ag σ) : Ac (F_X11_mean N a b c) (F_X12_mean N a b c) σ := by
  obtain ⟨hx, hw⟩ := h
  have hP := (sPl_eq hw).2
  have hR := (sRu_eq hw).2
  rcases rg_c a (c := sRu (gM σ)) (by omega) with ⟨r, hr, rfl⟩ | hq
  rotate_left
  · refine Ac.st (r := Int64.ofInt (-4611686018427387904)) ⟨hx, hw⟩ ?_ ?_
    · unfold F_X11_mean; rw [x_ruN hw hx hq, Option.bind_some, k00]
    · unfold F_X12_mean; rw [m_ruN hw rfl hq, Option.bind_some, k00]
  rcases rg_c b (c := sPl (gM σ)) (by omega) with ⟨p, hp, rfl⟩ | hq
  rotate_left
  · refine Ac.st (r := Int64.ofInt (-4611686018427387904)) ⟨hx, hw⟩ ?_ ?_
    · unfold F_X11_mean; rw [x_ruY hw hx hr, Option.bind_some, k10, x_plN hw hx hq, Option.bind_some, k00]
    · unfold F_X12_mean; rw [m_ruY hw rfl hr, Option.bind_some, k10, m_plN hw rfl hq, Option.bind_some, k00]
  rcases rg_m c 0 3 (by decide) (by decide) with ⟨k, k0, hk, rfl⟩ | hq
  rotate_left
  · refine Ac.st (r := Int64.ofInt (-4611686018427387904)) ⟨hx, hw⟩ ?_ ?_
    · unfold F_X11_mean; rw [x_ruY hw hx hr, Option.bind_some, k10, x_plY hw hx hp, Option.bind_some, k10, show F_X11_within N c 0 3 _ = _ from x_in_n hq, Option.bind_some, k00]
    · unfold F_X12_mean; rw [m_ruY hw rfl hr, Option.bind_some, k10, m_plY hw rfl hp, Option.bind_some, k10, show F_X12_in N c 0 3 _ = _ from m_in_n hq, Option.bind_some, k00]
  obtain ⟨τ1, e1, k1, a1⟩ := x_reckon N hN hw r (by omega) p (by omega) σ hx
  obtain ⟨τ2, e2, k2, a2⟩ := m_means N hN hw r (by omega) p (by omega) τ1 k1.g
  have gx : F_X11_mean N (nI r) (nI p) (nI k) σ = (if nI k = 0 then
          some ((τ1.2.1 9 3), τ1)
        else
        if nI k = 1 then
          some ((τ1.2.1 9 4), τ1)
        else
        if nI k = 2 then
          some ((τ1.2.1 9 5), τ1)
        else
        some ((τ1.2.1 9 6), τ1)) := by
    unfold F_X11_mean; rw [x_ruY hw hx hr, Option.bind_some, k10, x_plY hw hx hp, Option.bind_some, k10, show F_X11_within N (nI k) 0 3 _ = _ from x_rgY k0 hk (by decide), Option.bind_some, k10, e1, Option.bind_some]
  have gm : F_X12_mean N (nI r) (nI p) (nI k) τ1 = (if nI k = 0 then
          some ((τ2.2.1 12 55), τ2)
        else
          if nI k = (1 : Int32) then
            some ((τ2.2.1 12 56), τ2)
          else
            if nI k = (2 : Int32) then
              some ((τ2.2.1 12 57), τ2)
            else
              some ((τ2.2.1 12 58), τ2)) := by
    unfold F_X12_mean; rw [m_ruY hw k1.g hr, Option.bind_some, k10, m_plY hw k1.g hp, Option.bind_some, k10, show F_X12_in N (nI k) 0 3 _ = _ from m_rgY k0 hk (by decide), Option.bind_some, k10, e2, Option.bind_some]
  have e : aX τ1 = aM τ2 := a1.trans a2.symm
  unfold aX aM at e
  simp only [Prod.mk.injEq] at e
  obtain ⟨z1, z2, z3, z4⟩ := e
  rw [z1, z2, z3, z4] at gx
  have fin : ∃ v, F_X11_mean N (nI r) (nI p) (nI k) σ = some (v, τ1) ∧ F_X12_mean N (nI r) (nI p) (nI k) τ1 = some (v, τ2) := by
    rw [gx, gm]
    by_cases c0 : nI k = 0
    · rw [if_pos c0, if_pos c0]; exact ⟨_, rfl, rfl⟩
    rw [if_neg c0, if_neg c0]
    by_cases c1 : nI k = 1
    · rw [if_pos c1, if_pos c1]; exact ⟨_, rfl, rfl⟩
    rw [if_neg c1, if_neg c1]
    by_cases c2 : nI k = 2
    · rw [if_pos c2, if_pos c2]; exact ⟨_, rfl, rfl⟩
    rw [if_neg c2, if_neg c2]
    exact ⟨_, rfl, rfl⟩
  obtain ⟨v, f1, f2⟩ := fin
  exact Ac.mk ⟨hx, hw⟩ f1 k1 f2 k2
/-- the best of n rules so far -/
def sBestR (g : Nat → Nat → Int32) (p : Nat) : Nat → Int32 × Int64
  | 0 => (-1, 0)
  | n + 1 => if n = 0 then (nI 0, (sMean g 0 p).2.2.2 - (sMean g 0 p).1) else if lg_cmp ((sMean g n p).2.2.2 - (sMean g n p).1) (sBestR g p n).2 ≤ 0 then sBestR g p n else (nI n, (sMean g n p).2.2.2 - (sMean g n p).1)
theorem sBestR_nI (g : Nat → Nat → Int32) (p : Nat) : ∀ n : Nat, 0 < n → ∃ k, k < n ∧ (sBestR g p n).1 = nI k
  | 0, h => by cases h
  | 1, _ => ⟨0, by decide, rfl⟩
  | n + 2, _ => by
    obtain ⟨k, hk, e⟩ := sBestR_nI g p (n + 1) (by omega)
    rw [sBestR, if_neg (by omega)]
    split
    · exact ⟨k, by omega, e⟩
    · exact ⟨n + 1, by omega, rfl⟩
theorem x_right18 (N : Nat) (hN : 160 ≤ N) {g : Nat → Nat → Int32} (hw : Wf g) (p : Nat) (hp : p < 4) : ∀ (q n j : Nat) (σ : Mem), j + q = sRu g → q < n → HX σ g →
    ∃ τ, F_X11_right_b18 N n (nI p) (sBestR g p j).1 (sBestR g p j).2 (nI j) σ = some ((sBestR g p (sRu g)).1, τ) ∧ KY σ τ := by
  have hR := sRu_eq hw
  intro q
  induction q with
  | zero =>
    intro n j σ hk hn h
    cases n with
    | zero => cases hn
    | succ n =>
      refine ⟨σ, ?_, KY.rfl_ σ⟩
      rw [F_X11_right_b18.eq_2, h.1.ru, hR.1, if_pos (nI_le (by omega) (by omega)), show j = sRu g by omega]
  | succ q ih =>
    intro n j σ hk hn h
    cases n with
    | zero => cases hn
    | succ n =>
      obtain ⟨τ1, e1, k1, a1⟩ := x_reckon N hN hw j (by omega) p hp σ h
      obtain ⟨τ2, e2, k2⟩ := ih n (j + 1) τ1 (by omega) (by omega) (h.ky k1)
      refine ⟨τ2, ?_, k1.trans k2⟩
      have z1 : τ1.2.1 9 3 = (sMean g j p).1 := by rw [← a1]; rfl
      have z4 : τ1.2.1 9 6 = (sMean g j p).2.2.2 := by rw [← a1]; rfl
      rw [F_X11_right_b18.eq_2, h.1.ru, hR.1, if_neg (nI_ge (by omega) (by omega)), e1, Option.bind_some, nI_1, z1, z4]
      rw [sBestR] at e2
      by_cases hj : j = 0
      · subst hj
        rw [if_pos (show (sBestR g p 0).1 < 0 by show (-1 : Int32) < 0; decide)]
        exact e2
      · obtain ⟨k, hk2, ek⟩ := sBestR_nI g p j (by omega)
        rw [if_neg (by rw [ek]; exact nI_pos (by omega))]
        rw [if_neg hj] at e2
        by_cases hc : lg_cmp ((sMean g j p).2.2.2 - (sMean g j p).1) (sBestR g p j).2 ≤ 0
        · rw [if_pos hc]; rw [if_pos hc] at e2; exact e2
        · rw [if_neg hc]; rw [if_neg hc] at e2; exact e2
theorem m_right18 (N : Nat) (hN : 160 ≤ N) {g : Nat → Nat → Int32} (hw : Wf g) (p : Nat) (hp : p < 4) : ∀ (q n j : Nat) (σ : Mem), j + q = sRu g → q < n → gM σ = g →
    ∃ τ, F_X12_right_b18 N n (nI p) (sBestR g p j).1 (sBestR g p j).2 (nI j) σ = some ((sBestR g p (sRu g)).1, τ) ∧ KM σ τ := by
  have hR := sRu_eq hw
  intro q
  induction q with
  | zero =>
    intro n j σ hk hn hg
    cases n with
    | zero => cases hn
    | succ n =>
      refine ⟨σ, ?_, KM.rfl_ σ⟩
      rw [F_X12_right_b18.eq_2, rF hg (by decide), hR.1, if_pos (nI_le (by omega) (by omega)), show j = sRu g by omega]
  | succ q ih =>
    intro n j σ hk hn hg
    cases n with
    | zero => cases hn
    | succ n =>
      obtain ⟨τ1, e1, k1, a1⟩ := m_means N hN hw j (by omega) p hp σ hg
      obtain ⟨τ2, e2, k2⟩ := ih n (j + 1) τ1 (by omega) (by omega) (k1.g.trans hg)
      refine ⟨τ2, ?_, k1.trans k2⟩
      have z1 : τ1.2.1 12 55 = (sMean g j p).1 := by rw [← a1]; rfl
      have z4 : τ1.2.1 12 58 = (sMean g j p).2.2.2 := by rw [← a1]; rfl
      have b53 : F_X12_right_b53 N (F_X12_right_b18 N n) (nI p) (nI j) τ1 = F_X12_right_b18 N n (nI p) (nI j) ((sMean g j p).2.2.2 - (sMean g j p).1) (nI (j + 1)) τ1 := by
        unfold F_X12_right_b53
        rw [z1, z4, nI_1]
      rw [F_X12_right_b18.eq_2, rF hg (by decide), hR.1, if_neg (nI_ge (by omega) (by omega)), e1, Option.bind_some, nI_1]
      show (if (sBestR g p j).1 = Int32.ofInt (-1) then F_X12_right_b53 N (F_X12_right_b18 N n) (nI p) (nI j) τ1 else if lg_cmp (τ1.2.1 12 58 - τ1.2.1 12 55) (sBestR g p j).2 ≤ 0 then F_X12_right_b18 N n (nI p) (sBestR g p j).1 (sBestR g p j).2 (nI (j + 1)) τ1 else F_X12_right_b53 N (F_X12_right_b18 N n) (nI p) (nI j) τ1) = _
      rw [b53, z1, z4]
      rw [sBestR] at e2
      by_cases hj : j = 0
      · subst hj
        rw [if_pos (show (sBestR g p 0).1 = Int32.ofInt (-1) from rfl)]
        exact e2
      · obtain ⟨k, hk2, ek⟩ := sBestR_nI g p j (by omega)
        rw [if_neg (by
          rw [ek]
          intro e
          have := congrArg Int32.toInt e
          rw [nI_toInt (by omega), show (Int32.ofInt (-1)).toInt = -1 from by decide] at this
          omega)]
        rw [if_neg hj] at e2
        by_cases hc : lg_cmp ((sMean g j p).2.2.2 - (sMean g j p).1) (sBestR g p j).2 ≤ 0
        · rw [if_pos hc]; rw [if_pos hc] at e2; exact e2
        · rw [if_neg hc]; rw [if_neg hc] at e2; exact e2
theorem c_right (N : Nat) (hN : 160 ≤ N) (a : Int32) (σ : Mem) (h : Ag σ) : Ac (F_X11_right N a) (F_X12_right N a) σ := by
  obtain ⟨hx, hw⟩ := h
  have hP := (sPl_eq hw).2
  have hR := (sRu_eq hw).2
  rcases rg_c a (c := sPl (gM σ)) (by omega) with ⟨p, hp, rfl⟩ | hq
  · obtain ⟨τ1, e1, k1⟩ := x_right18 N hN hw p (by omega) (sRu (gM σ)) N 0 σ (by omega) (by omega) hx
    obtain ⟨τ2, e2, k2⟩ := m_right18 N hN hw p (by omega) (sRu (gM σ)) N 0 τ1 (by omega) (by omega) k1.g
    refine Ac.mk (r := (sBestR (gM σ) p (sRu (gM σ))).1) (τ1 := τ1) (τ2 := τ2) ⟨hx, hw⟩ ?_ k1 ?_ k2
    · unfold F_X11_right
      rw [x_plY hw hx hp, Option.bind_some, k10]
      exact e1
    · unfold F_X12_right
      rw [m_plY hw k1.g hp, Option.bind_some, k10]
      exact e2
  · refine Ac.st (r := Int32.ofInt (-5)) ⟨hx, hw⟩ ?_ ?_
    · unfold F_X11_right
      rw [x_plN hw hx hq, Option.bind_some, k00]
    · unfold F_X12_right
      rw [m_plN hw rfl hq, Option.bind_some, k00]

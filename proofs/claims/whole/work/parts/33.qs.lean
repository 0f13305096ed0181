/-! THE PURE SIDE, 14: short questions -/
theorem l_6 : (6 : Int32) = nI 6 := rfl
theorem l_7 : (7 : Int32) = nI 7 := rfl
theorem l_8 : (8 : Int32) = nI 8 := rfl
theorem l_9 : (9 : Int32) = nI 9 := rfl
theorem l_10 : (10 : Int32) = nI 10 := rfl
theorem l_11 : (11 : Int32) = nI 11 := rfl
theorem l_12 : (12 : Int32) = nI 12 := rfl
theorem l_99 : (99 : Int32) = nI 99 := rfl
theorem l_100 : (100 : Int32) = nI 100 := rfl
theorem l_9999 : (9999 : Int32) = nI 9999 := rfl
theorem x_rgY {N lo m k : Nat} {σ : Mem} (h1 : lo ≤ k) (h2 : k ≤ m) (hm : m < 2147483648) : F_X11_within N (nI k) (nI lo) (nI m) σ = some (1, σ) := x_in_y (nI_nlt h1 (by omega)) (nI_nlt h2 hm)
theorem m_rgY {N lo m k : Nat} {σ : Mem} (h1 : lo ≤ k) (h2 : k ≤ m) (hm : m < 2147483648) : F_X12_in N (nI k) (nI lo) (nI m) σ = some (1, σ) := m_in_y (nI_nlt h1 (by omega)) (nI_nlt h2 hm)
theorem rg_ne {a : Int32} {lo m k : Nat} (q : a < nI lo ∨ nI m < a) (h1 : lo ≤ k) (h2 : k ≤ m) (hm : m < 2147483648) : ¬ a = nI k := fun e => by
  rw [e] at q
  exact q.elim (nI_nlt h1 (by omega)) (nI_nlt h2 hm)
theorem c_count (N : Nat) (a : Int32) (σ : Mem) (h : Ag σ) : Ac (F_X11_count N a) (F_X12_count N a) σ := by
  obtain ⟨hx, hw⟩ := h
  rcases rg_m a 0 4 (by decide) (by decide) with ⟨k, h0, hk, rfl⟩ | hq
  · refine Ac.st (r := gM σ 12 k) ⟨hx, hw⟩ ?_ ?_
    · unfold F_X11_count
      rw [show F_X11_within N (nI k) 0 4 σ = _ from x_rgY h0 hk (by decide)]
      simp only [Option.bind_some, k10]
      rw [if_neg (out_nI (by omega) (by decide)), nI_clamp (by omega), hx.1.set k (by omega)]
    · match k, hk with
      | 0, _ => rfl
      | 1, _ => rfl
      | 2, _ => rfl
      | 3, _ => rfl
      | 4, _ => rfl
  · have e : ∀ k, k ≤ 40 → σ.1 12 k = gM σ 12 k := fun k hk => (gM_f σ hk).symm
    have n0 : ¬ a = 0 := rg_ne hq (k := 0) (by decide) (by decide) (by decide)
    have n1 : ¬ a = 1 := rg_ne hq (k := 1) (by decide) (by decide) (by decide)
    have n2 : ¬ a = 2 := rg_ne hq (k := 2) (by decide) (by decide) (by decide)
    have n3 : ¬ a = 3 := rg_ne hq (k := 3) (by decide) (by decide) (by decide)
    have n4 : ¬ a = 4 := rg_ne hq (k := 4) (by decide) (by decide) (by decide)
    have e1 : F_X11_count N a σ = F_X12_count N a σ := by
      unfold F_X11_count F_X12_count
      rw [show F_X11_within N a 0 4 σ = _ from x_in_n hq]
      simp only [Option.bind_some, if_true, if_neg n0, if_neg n1, if_neg n2, if_neg n3, if_neg n4]
      rw [hx.1.ly, hx.1.pl, hx.1.ru, hx.1.fa, hx.1.tx, hx.1.rl, hx.1.td, e 5 (by decide), e 10 (by decide), e 16 (by decide), e 20 (by decide), e 27 (by decide), e 28 (by decide), e 24 (by decide)]
    have e2 : ∃ r, F_X12_count N a σ = some (r, σ) := by
      unfold F_X12_count
      repeat' split
      all_goals exact ⟨_, rfl⟩
    obtain ⟨r, e2⟩ := e2
    exact Ac.st ⟨hx, hw⟩ (e1.trans e2) e2
theorem c_ruleTold (N : Nat) (a b : Int32) (σ : Mem) (h : Ag σ) : Ac (F_X11_ruleTold N a b) (F_X12_ruleTold N a b) σ := by
  obtain ⟨hx, hw⟩ := h
  have hR := (sRu_eq hw).2
  have e : ∀ t k, 72 ≤ t → t ≤ 97 → σ.2.2.1 t 0 k = gM σ t k := fun t k h1 h2 => (gM_a σ h1 h2 k).symm
  rcases rg_c a (c := sRu (gM σ)) (by omega) with ⟨k, hk, rfl⟩ | hq
  · have e1 : F_X11_ruleTold N (nI k) b σ = F_X12_ruleTold N (nI k) b σ := by
      unfold F_X11_ruleTold F_X12_ruleTold
      simp only [x_ruY hw hx hk, m_ruY hw rfl hk, Option.bind_some, k10]
      simp (disch := omega) only [k_out, k_cl]
      rw [hx.1.ki k (by omega), hx.1.mo k (by omega), hx.1.sp k (by omega), e 81 k (by decide) (by decide), e 82 k (by decide) (by decide), e 83 k (by decide) (by decide)]
    have e2 : ∃ r, F_X12_ruleTold N (nI k) b σ = some (r, σ) := by
      unfold F_X12_ruleTold
      simp only [m_ruY hw rfl hk, Option.bind_some, k10]
      simp (disch := omega) only [k_out, k_cl]
      repeat' split
      all_goals exact ⟨_, rfl⟩
    obtain ⟨r, e2⟩ := e2
    exact Ac.st ⟨hx, hw⟩ (e1.trans e2) e2
  · refine Ac.st (r := Int32.ofInt (-5)) ⟨hx, hw⟩ ?_ ?_
    · unfold F_X11_ruleTold
      simp only [x_ruN hw hx hq, Option.bind_some, k00, if_true]
    · unfold F_X12_ruleTold
      simp only [m_ruN hw rfl hq, Option.bind_some, k00, if_true]
theorem c_asks (N : Nat) (hN : 160 ≤ N) (a b c d : Int32) (σ : Mem) (h : Ag σ) : Ac (F_X11_asks N a b c d) (F_X12_asks N a b c d) σ := by
  obtain ⟨hx, hw⟩ := h
  have hL := sL_le hw
  rcases rg_m a 0 2 (by decide) (by decide) with ⟨k, k0, hk, rfl⟩ | hq
  rotate_left
  · refine Ac.st (r := Int32.ofInt (-2)) ⟨hx, hw⟩ ?_ ?_
    · unfold F_X11_asks; rw [show F_X11_within N a 0 2 σ = _ from x_in_n hq]; rfl
    · unfold F_X12_asks; rw [show F_X12_in N a 0 2 σ = _ from m_in_n hq]; rfl
  rcases rg_m b 1 5 (by decide) (by decide) with ⟨y, y1, y5, rfl⟩ | hq
  rotate_left
  · refine Ac.st (r := Int32.ofInt (-2)) ⟨hx, hw⟩ ?_ ?_
    · unfold F_X11_asks; rw [show F_X11_within N (nI k) 0 2 σ = _ from x_rgY k0 hk (by decide)]; simp only [Option.bind_some, k10]; rw [show F_X11_within N b 1 5 σ = _ from x_in_n hq]; rfl
    · unfold F_X12_asks; rw [show F_X12_in N (nI k) 0 2 σ = _ from m_rgY k0 hk (by decide)]; simp only [Option.bind_some, k10]; rw [show F_X12_in N b 1 5 σ = _ from m_in_n hq]; rfl
  rcases rg_m d 0 1 (by decide) (by decide) with ⟨l, l0, l1, rfl⟩ | hq
  rotate_left
  · refine Ac.st (r := Int32.ofInt (-2)) ⟨hx, hw⟩ ?_ ?_
    · unfold F_X11_asks; rw [show F_X11_within N (nI k) 0 2 σ = _ from x_rgY k0 hk (by decide)]; simp only [Option.bind_some, k10]; rw [show F_X11_within N (nI y) 1 5 σ = _ from x_rgY y1 y5 (by decide)]; simp only [Option.bind_some, k10]; rw [show F_X11_within N d 0 1 σ = _ from x_in_n hq]; rfl
    · unfold F_X12_asks; rw [show F_X12_in N (nI k) 0 2 σ = _ from m_rgY k0 hk (by decide)]; simp only [Option.bind_some, k10]; rw [show F_X12_in N (nI y) 1 5 σ = _ from m_rgY y1 y5 (by decide)]; simp only [Option.bind_some, k10]; rw [show F_X12_in N d 0 1 σ = _ from m_in_n hq]; rfl
  have gx : ∀ v, F_X11_asks N (nI k) (nI y) c (nI l) σ = v ↔ (if nI k = 0 then
          if hwOut (nI y) 6 then none else
          some ((σ.2.2.1 42 0 (nI y).toNatClampNeg), σ)
        else
          if nI k = (2 : Int32) then
            if hwOut (nI l) 2 then none else
            if hwOut (nI y) 6 then none else
            some ((σ.2.2.1 46 (nI l).toNatClampNeg (nI y).toNatClampNeg), σ)
          else
            (F_X11_isLayer N c σ).bind (fun q4 =>
            if q4.1 = 0 then
              some ((Int32.ofInt (-5)), q4.2)
            else
              if hwOut (nI y) 6 then none else
              if hwOut c 5 then none else
              some ((q4.2.2.2.1 44 (nI y).toNatClampNeg (c).toNatClampNeg), q4.2))) = v := fun v => by
    unfold F_X11_asks; rw [show F_X11_within N (nI k) 0 2 σ = _ from x_rgY k0 hk (by decide)]; simp only [Option.bind_some, k10]; rw [show F_X11_within N (nI y) 1 5 σ = _ from x_rgY y1 y5 (by decide)]; simp only [Option.bind_some, k10]; rw [show F_X11_within N (nI l) 0 1 σ = _ from x_rgY l0 l1 (by decide)]; simp only [Option.bind_some, k10]
  have gm : ∀ v, F_X12_asks N (nI k) (nI y) c (nI l) σ = v ↔ (if nI k = (1 : Int32) then
          (F_X12_isLayer N c σ).bind (fun q4 =>
          if q4.1 = 0 then
            some ((Int32.ofInt (-5)), q4.2)
          else
            (F_X12_asks_b47 N) (nI k) (nI y) c (nI l) q4.2)
        else
          (F_X12_asks_b47 N) (nI k) (nI y) c (nI l) σ) = v := fun v => by
    unfold F_X12_asks; rw [show F_X12_in N (nI k) 0 2 σ = _ from m_rgY k0 hk (by decide)]; simp only [Option.bind_some, k10]; rw [show F_X12_in N (nI y) 1 5 σ = _ from m_rgY y1 y5 (by decide)]; simp only [Option.bind_some, k10]; rw [show F_X12_in N (nI l) 0 1 σ = _ from m_rgY l0 l1 (by decide)]; simp only [Option.bind_some, k10]
  match k, hk with
  | 0, _ =>
    obtain ⟨τ, e2, k2⟩ := m_costOf N hN hw y σ rfl
    refine Ac.mk (r := sCost (gM σ) y) (τ1 := σ) (τ2 := τ) ⟨hx, hw⟩ ((gx _).mpr ?_) (KY.rfl_ σ) ((gm _).mpr ?_) k2.q.m
    · rw [if_pos (show nI 0 = 0 from rfl), if_neg (out_nI (by omega) (by decide)), nI_clamp (by omega), hx.2.co y y1 y5]
    · rw [if_neg (show ¬ nI 0 = 1 by decide)]
      unfold F_X12_asks_b47
      rw [if_pos (show nI 0 = 0 from rfl), e2]
      rfl
  | 1, _ =>
    rcases rg_c c (c := sL (gM σ)) (by omega) with ⟨j, hj, rfl⟩ | hq
    · obtain ⟨τ, e2, k2⟩ := m_waterOf N hN hw y j (by omega) σ rfl
      refine Ac.mk (r := sWat (gM σ) y j) (τ1 := σ) (τ2 := τ) ⟨hx, hw⟩ ((gx _).mpr ?_) (KY.rfl_ σ) ((gm _).mpr ?_) k2.q.m
      · rw [if_neg (show ¬ nI 1 = 0 by decide), if_neg (show ¬ nI 1 = 2 by decide), x_lyY hw hx hj]
        simp only [Option.bind_some, k10]
        rw [if_neg (out_nI (by omega) (by decide)), if_neg (out_nI (by omega) (by decide)), nI_clamp (by omega), nI_clamp (by omega), hx.2.wt y j y1 y5 hj]
      · rw [if_pos (show nI 1 = 1 from rfl), m_lyY hw rfl hj]
        simp only [Option.bind_some, k10]
        unfold F_X12_asks_b47
        rw [if_neg (show ¬ nI 1 = 0 by decide), if_pos (show nI 1 = 1 from rfl), e2]
        rfl
    · refine Ac.st (r := Int32.ofInt (-5)) ⟨hx, hw⟩ ((gx _).mpr ?_) ((gm _).mpr ?_)
      · rw [if_neg (show ¬ nI 1 = 0 by decide), if_neg (show ¬ nI 1 = 2 by decide), x_lyN hw hx hq]
        rfl
      · rw [if_pos (show nI 1 = 1 from rfl), m_lyN hw rfl hq]
        rfl
  | 2, _ =>
    obtain ⟨τ, e2, k2⟩ := m_fallOf N hN hw y l σ rfl
    refine Ac.mk (r := sFall (gM σ) l y) (τ1 := σ) (τ2 := τ) ⟨hx, hw⟩ ((gx _).mpr ?_) (KY.rfl_ σ) ((gm _).mpr ?_) k2.q.m
    · rw [if_neg (show ¬ nI 2 = 0 by decide), if_pos (show nI 2 = 2 from rfl), if_neg (out_nI (by omega) (by decide)), if_neg (out_nI (by omega) (by decide)), nI_clamp (by omega), nI_clamp (by omega), hx.2.fl l y (by omega) y1 y5]
    · rw [if_neg (show ¬ nI 2 = 1 by decide)]
      unfold F_X12_asks_b47
      rw [if_neg (show ¬ nI 2 = 0 by decide), if_neg (show ¬ nI 2 = 1 by decide), e2]
      rfl

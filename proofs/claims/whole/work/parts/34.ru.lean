/-! THE PURE SIDE, 15: told, taken; whether one digs on by a rule -/
theorem x_sign0 (N : Nat) (p : Int32) (σ : Mem) : F_X7_signOf N p 0 σ = some (-1, σ) := rfl
theorem x_signOff (N : Nat) {g : Nat → Nat → Int32} (hw : Wf g) (p : Nat) (hp : p < 4) (k : Nat) (hk : sDug g p ≤ k) (hk2 : k < 1000) (σ : Mem) (h : HX σ g) : F_X7_signOf N (nI p) (nI (k + 1)) σ = some (-1, σ) := by
  obtain ⟨e, h5⟩ := sDug_eq hw hp
  unfold F_X7_signOf
  rw [if_neg (nltL_b 1 1 rfl (by omega) (by omega)), if_neg (out_nI hp (by decide))]
  simp only [nI_clamp (show p < 2 ^ 31 by omega)]
  rw [h.1.dy p hp, e, if_pos (nI_lt (by omega) (by omega))]
  rfl
theorem x_plIt {N : Nat} {g : Nat → Nat → Int32} {σ : Mem} (hw : Wf g) (h : HX σ g) {a : Int32} : (∃ p, p < sPl g ∧ a = nI p ∧ F_X11_isPlace N a σ = some (1, σ)) ∨ F_X11_isPlace N a σ = some (0, σ) := by
  have := (sPl_eq hw).2
  rcases rg_c a (c := sPl g) (by omega) with ⟨p, hp, rfl⟩ | hq
  · exact Or.inl ⟨p, hp, rfl, x_plY hw h hp⟩
  · exact Or.inr (x_plN hw h hq)
theorem c_told (N : Nat) (a b : Int32) (σ : Mem) (h : Ag σ) : Ac (F_X11_told N a b) (F_X12_told N a b) σ := by
  obtain ⟨hx, hw⟩ := h
  have hP := (sPl_eq hw).2
  have hL := sL_le hw
  rcases rg_c a (c := sPl (gM σ)) (by omega) with ⟨p, hp, rfl⟩ | hq
  · have hp4 : p < 4 := by omega
    obtain ⟨ed, hd⟩ := sDug_eq hw hp4
    obtain ⟨ew, hw1⟩ := hw.wa p hp4
    have r77 : σ.2.2.1 77 0 p = nI (sDug (gM σ) p) := (rA rfl (by decide) (by decide) p).trans ed
    rcases rg_m b 0 11 (by decide) (by decide) with ⟨k, k0, hk, rfl⟩ | hq
    · by_cases h0 : k = 0
      · subst h0
        refine Ac.st (r := nI (sDug (gM σ) p)) ⟨hx, hw⟩ ?_ ?_
        · unfold F_X11_told
          simp only [x_plY hw hx hp, Option.bind_some, k10]
          rw [if_pos (show nI 0 = 0 from rfl), if_neg (out_nI hp4 (by decide)), nI_clamp (by omega), hx.1.dy p hp4, ed]
        · unfold F_X12_told
          simp only [m_plY hw rfl hp, Option.bind_some, k10]
          rw [if_pos (show nI 0 = 0 from rfl), if_neg (out_nI hp4 (by decide)), nI_clamp (by omega), r77]
      · by_cases h1 : k = 1
        · subst h1
          refine Ac.st (r := gM σ 78 p) ⟨hx, hw⟩ ?_ ?_
          · unfold F_X11_told
            simp only [x_plY hw hx hp, Option.bind_some, k10]
            rw [if_neg (show ¬ nI 1 = 0 by decide), if_pos (show nI 1 = 1 from rfl), if_neg (out_nI hp4 (by decide)), nI_clamp (by omega), hx.1.wa p hp4]
            generalize (gM σ 78 p).toNatClampNeg = v at ew hw1
            rw [ew]
            match v, hw1 with
            | 0, _ => rfl
            | 1, _ => rfl
          · unfold F_X12_told
            simp only [m_plY hw rfl hp, Option.bind_some, k10]
            rw [if_neg (show ¬ nI 1 = 0 by decide), if_pos (show nI 1 = 1 from rfl), if_neg (out_nI hp4 (by decide)), nI_clamp (by omega), rA rfl (by decide) (by decide)]
        · have n0 : ¬ nI k = 0 := neL 0 0 rfl ⟨h0, by omega, by decide⟩
          have n1 : ¬ nI k = 1 := neL 1 1 rfl ⟨h1, by omega, by decide⟩
          by_cases h6 : k ≤ 6
          · have ek : nI k - (1 : Int32) = nI (k - 2 + 1) := (k_sub (b := 1) (by omega)).trans (by congr 1; omega)
            have e2 : nI k - (2 : Int32) = nI (k - 2) := k_sub (b := 2) (by omega)
            refine Ac.st (r := if k - 2 < sDug (gM σ) p then sSig (gM σ) p (k - 2) else -1) ⟨hx, hw⟩ ?_ ?_
            · unfold F_X11_told
              simp only [x_plY hw hx hp, Option.bind_some, k10]
              rw [if_neg n0, if_neg n1, show F_X11_within N (nI k) 2 6 σ = _ from x_rgY (lo := 2) (m := 6) (by omega) h6 (by decide)]
              simp only [Option.bind_some, k10]
              rw [ek]
              by_cases hs : k - 2 < sDug (gM σ) p
              · rw [if_pos hs, x_signOf N hw p hp4 (k - 2) hs σ hx]; rfl
              · rw [if_neg hs, x_signOff N hw p hp4 (k - 2) (by omega) (by omega) σ hx]; rfl
            · unfold F_X12_told
              simp only [m_plY hw rfl hp, Option.bind_some, k10]
              rw [if_neg n0, if_neg n1, show F_X12_in N (nI k) 2 6 σ = _ from m_rgY (lo := 2) (m := 6) (by omega) h6 (by decide)]
              simp only [Option.bind_some, k10]
              rw [if_neg (out_nI hp4 (by decide)), nI_clamp (by omega), r77, e2]
              by_cases hs : k - 2 < sDug (gM σ) p
              · have e3 : (5 : Int32) * nI p + nI k - 2 = nI (5 * p + (k - 2)) := by
                  rw [ix5]
                  exact (k_sub (b := 2) (by omega)).trans (by congr 1; omega)
                rw [if_pos hs, if_neg (nI_ge hs (by omega)), e3, if_neg (out_nI (by omega) (by decide)), nI_clamp (by omega), rA rfl (by decide) (by decide)]
                rfl
              · rw [if_neg hs, if_pos (nI_le (by omega) (by omega))]
                rfl
          · have e7 : nI k - (7 : Int32) = nI (k - 7) := k_sub (b := 7) (by omega)
            have off : F_X11_within N (nI k) 2 6 σ = some (0, σ) := x_in_n (Or.inr (ltL_a 6 6 rfl (by omega) (by omega)))
            have off2 : F_X12_in N (nI k) 2 6 σ = some (0, σ) := m_in_n (Or.inr (ltL_a 6 6 rfl (by omega) (by omega)))
            refine Ac.st (r := gM σ 76 (5 * p + (k - 7))) ⟨hx, hw⟩ ?_ ?_
            · unfold F_X11_told
              simp only [x_plY hw hx hp, Option.bind_some, k10]
              rw [if_neg n0, if_neg n1, off]
              simp only [Option.bind_some, k00, if_true]
              rw [show F_X11_within N (nI k) 7 11 σ = _ from x_rgY (lo := 7) (m := 11) (by omega) hk (by decide)]
              simp only [Option.bind_some, k10]
              rw [e7]
              by_cases hj : k - 7 < sL (gM σ)
              · rw [x_lyY hw hx hj]
                simp only [Option.bind_some, k10]
                rw [if_neg (out_nI hp4 (by decide)), if_neg (out_nI (by omega) (by decide)), nI_clamp (by omega), nI_clamp (by omega), hx.1.fi p (k - 7) hp4 (by omega)]
              · have hz := hw.iz p (k - 7) hp4 (by omega) (by show sL (gM σ) ≤ _; omega)
                rw [x_lyN hw hx (Or.inr (by
                  cases hl : sL (gM σ) with
                  | zero => rw [show nI 0 - 1 = -1 from by decide]; exact Int32.lt_iff_toInt_lt.mpr (by rw [nI_toInt (by omega), show (-1 : Int32).toInt = -1 from by decide]; omega)
                  | succ l => rw [nI_pred]; exact nI_lt (by omega) (by omega))), hz]
                simp only [Option.bind_some, if_true]
            · unfold F_X12_told
              simp only [m_plY hw rfl hp, Option.bind_some, k10]
              rw [if_neg n0, if_neg n1, off2, Option.bind_some, if_pos rfl, show F_X12_in N (nI k) 7 11 σ = _ from m_rgY (lo := 7) (m := 11) (by omega) hk (by decide), Option.bind_some, k10]
              have e3 : (5 : Int32) * nI p + nI k - 7 = nI (5 * p + (k - 7)) := by
                rw [ix5]
                exact (k_sub (b := 7) (by omega)).trans (by congr 1; omega)
              rw [e3, if_neg (out_nI (by omega) (by decide)), nI_clamp (by omega), rA rfl (by decide) (by decide)]
    · have n0 : ¬ b = 0 := rg_ne hq (k := 0) (by decide) (by decide) (by decide)
      have n1 : ¬ b = 1 := rg_ne hq (k := 1) (by decide) (by decide) (by decide)
      have q6 : b < 2 ∨ 6 < b := hq.elim (fun q => Or.inl (by
        have := Int32.lt_iff_toInt_lt.mp q
        rw [show (nI 0).toInt = 0 from by decide] at this
        exact Int32.lt_iff_toInt_lt.mpr (by rw [show (2 : Int32).toInt = 2 from by decide]; omega))) (fun q => Or.inr (by
        have := Int32.lt_iff_toInt_lt.mp q
        rw [show (nI 11).toInt = 11 from by decide] at this
        exact Int32.lt_iff_toInt_lt.mpr (by rw [show (6 : Int32).toInt = 6 from by decide]; omega)))
      have q11 : b < 7 ∨ 11 < b := hq.elim (fun q => Or.inl (by
        have := Int32.lt_iff_toInt_lt.mp q
        rw [show (nI 0).toInt = 0 from by decide] at this
        exact Int32.lt_iff_toInt_lt.mpr (by rw [show (7 : Int32).toInt = 7 from by decide]; omega))) (fun q => Or.inr q)
      refine Ac.st (r := Int32.ofInt (-7)) ⟨hx, hw⟩ ?_ ?_
      · unfold F_X11_told
        simp only [x_plY hw hx hp, Option.bind_some, k10]
        rw [if_neg n0, if_neg n1, x_in_n q6]
        simp only [Option.bind_some, k00, if_true]
        rw [x_in_n q11]
        simp only [Option.bind_some, if_true]
      · unfold F_X12_told
        simp only [m_plY hw rfl hp, Option.bind_some, k10]
        rw [if_neg n0, if_neg n1, m_in_n q6, Option.bind_some, if_pos rfl, m_in_n q11, Option.bind_some, if_pos rfl]
  · refine Ac.st (r := Int32.ofInt (-5)) ⟨hx, hw⟩ ?_ ?_
    · unfold F_X11_told
      simp only [x_plN hw hx hq, Option.bind_some, k00, if_true]
    · unfold F_X12_told
      simp only [m_plN hw rfl hq, Option.bind_some, k00, if_true]
def sUnd (f k : Nat) : Int32 := if k = 0 ∨ f = k ∨ (k = 1 ∧ (f = 2 ∨ f = 4 ∨ f = 5)) ∨ (k = 2 ∧ f = 5) then 1 else 0
theorem und_eq (N M : Nat) (σ : Mem) : ∀ f k : Nat, f < 6 → k < 6 → F_X9_isOne_b10 N (M + 7) (nI k) (nI f) 0 σ = some (sUnd f k, σ) ∧ F_X12_isUnder N (nI f) (nI k) σ = some (sUnd f k, σ) ∧ (sUnd f k = 0 ∨ sUnd f k = 1) := by
  intro f k hf hk
  match f, hf, k, hk with
  | 0, _, 0, _ => exact ⟨rfl, rfl, Or.inr rfl⟩
  | 0, _, 1, _ => exact ⟨rfl, rfl, Or.inl rfl⟩
  | 0, _, 2, _ => exact ⟨rfl, rfl, Or.inl rfl⟩
  | 0, _, 3, _ => exact ⟨rfl, rfl, Or.inl rfl⟩
  | 0, _, 4, _ => exact ⟨rfl, rfl, Or.inl rfl⟩
  | 0, _, 5, _ => exact ⟨rfl, rfl, Or.inl rfl⟩
  | 1, _, 0, _ => exact ⟨rfl, rfl, Or.inr rfl⟩
  | 1, _, 1, _ => exact ⟨rfl, rfl, Or.inr rfl⟩
  | 1, _, 2, _ => exact ⟨rfl, rfl, Or.inl rfl⟩
  | 1, _, 3, _ => exact ⟨rfl, rfl, Or.inl rfl⟩
  | 1, _, 4, _ => exact ⟨rfl, rfl, Or.inl rfl⟩
  | 1, _, 5, _ => exact ⟨rfl, rfl, Or.inl rfl⟩
  | 2, _, 0, _ => exact ⟨rfl, rfl, Or.inr rfl⟩
  | 2, _, 1, _ => exact ⟨rfl, rfl, Or.inr rfl⟩
  | 2, _, 2, _ => exact ⟨rfl, rfl, Or.inr rfl⟩
  | 2, _, 3, _ => exact ⟨rfl, rfl, Or.inl rfl⟩
  | 2, _, 4, _ => exact ⟨rfl, rfl, Or.inl rfl⟩
  | 2, _, 5, _ => exact ⟨rfl, rfl, Or.inl rfl⟩
  | 3, _, 0, _ => exact ⟨rfl, rfl, Or.inr rfl⟩
  | 3, _, 1, _ => exact ⟨rfl, rfl, Or.inl rfl⟩
  | 3, _, 2, _ => exact ⟨rfl, rfl, Or.inl rfl⟩
  | 3, _, 3, _ => exact ⟨rfl, rfl, Or.inr rfl⟩
  | 3, _, 4, _ => exact ⟨rfl, rfl, Or.inl rfl⟩
  | 3, _, 5, _ => exact ⟨rfl, rfl, Or.inl rfl⟩
  | 4, _, 0, _ => exact ⟨rfl, rfl, Or.inr rfl⟩
  | 4, _, 1, _ => exact ⟨rfl, rfl, Or.inr rfl⟩
  | 4, _, 2, _ => exact ⟨rfl, rfl, Or.inl rfl⟩
  | 4, _, 3, _ => exact ⟨rfl, rfl, Or.inl rfl⟩
  | 4, _, 4, _ => exact ⟨rfl, rfl, Or.inr rfl⟩
  | 4, _, 5, _ => exact ⟨rfl, rfl, Or.inl rfl⟩
  | 5, _, 0, _ => exact ⟨rfl, rfl, Or.inr rfl⟩
  | 5, _, 1, _ => exact ⟨rfl, rfl, Or.inr rfl⟩
  | 5, _, 2, _ => exact ⟨rfl, rfl, Or.inr rfl⟩
  | 5, _, 3, _ => exact ⟨rfl, rfl, Or.inl rfl⟩
  | 5, _, 4, _ => exact ⟨rfl, rfl, Or.inl rfl⟩
  | 5, _, 5, _ => exact ⟨rfl, rfl, Or.inr rfl⟩
theorem rg_off {k c : Nat} (h : c ≤ k) (hk : k < 2 ^ 31) : nI c - 1 < nI k := by
  cases c with
  | zero => rw [show nI 0 - 1 = -1 from by decide]; exact Int32.lt_iff_toInt_lt.mpr (by rw [nI_toInt hk, show (-1 : Int32).toInt = -1 from by decide]; omega)
  | succ c => rw [nI_pred]; exact nI_lt (by omega) hk
theorem c_taken (N : Nat) (hN : 160 ≤ N) (a b : Int32) (σ : Mem) (h : Ag σ) : Ac (F_X11_taken N a b) (F_X12_taken N a b) σ := by
  obtain ⟨hx, hw⟩ := h
  have hL := sL_le hw
  have hR := (sRu_eq hw).2
  obtain ⟨N, rfl⟩ : ∃ M, N = M + 7 := ⟨N - 7, by omega⟩
  rcases rg_m b 0 6 (by decide) (by decide) with ⟨k, k0, hk, rfl⟩ | hq
  rotate_left
  · refine Ac.st (r := Int32.ofInt (-2)) ⟨hx, hw⟩ ?_ ?_
    · unfold F_X11_taken; rw [show F_X11_within _ b 0 6 σ = _ from x_in_n hq]; rfl
    · unfold F_X12_taken; rw [show F_X12_in _ b 0 6 σ = _ from m_in_n hq]; rfl
  rcases rg_m a 0 12 (by decide) (by decide) with ⟨i, i0, hi, rfl⟩ | hq
  rotate_left
  · refine Ac.st (r := Int32.ofInt (-12)) ⟨hx, hw⟩ ?_ ?_
    · unfold F_X11_taken; rw [show F_X11_within _ (nI k) 0 6 σ = _ from x_rgY k0 hk (by decide)]; simp only [Option.bind_some, k10]; rw [show F_X11_within _ a 0 12 σ = _ from x_in_n hq]; rfl
    · unfold F_X12_taken; rw [show F_X12_in _ (nI k) 0 6 σ = _ from m_rgY k0 hk (by decide)]; simp only [Option.bind_some, k10]; rw [show F_X12_in _ a 0 12 σ = _ from m_in_n hq]; rfl
  have gx : F_X11_taken (N + 7) (nI i) (nI k) σ = (if 0 ≤ (nI i - (5 : Int32)) then
        (F_X11_isRule (N + 7) (nI i - (5 : Int32)) σ).bind (fun q3 =>
        if q3.1 = 0 then
          some ((Int32.ofInt (-11)), q3.2)
        else
          (F_X11_taken_b56 (N + 7)) (nI i) (nI k) (nI i - (5 : Int32)) q3.2)
      else
        (F_X11_isLayer (N + 7) (nI i) σ).bind (fun q4 =>
        if q4.1 = 0 then
          some ((Int32.ofInt (-11)), q4.2)
        else
          (F_X11_taken_b56 (N + 7)) (nI i) (nI k) (nI i - (5 : Int32)) q4.2)) := by
    unfold F_X11_taken; rw [show F_X11_within _ (nI k) 0 6 σ = _ from x_rgY k0 hk (by decide)]; simp only [Option.bind_some, k10]; rw [show F_X11_within _ (nI i) 0 12 σ = _ from x_rgY i0 hi (by decide)]; simp only [Option.bind_some, k10]
  have gm : F_X12_taken (N + 7) (nI i) (nI k) σ = (if (5 : Int32) ≤ nI i then
        if (nI i - (5 : Int32)) < (σ.1 12 16) then
          if (6 : Int32) ≤ nI k then
            some ((Int32.ofInt (-13)), σ)
          else
            if hwOut (nI i - (5 : Int32)) 8 then none else
            (F_X12_isUnder (N + 7) (σ.2.2.1 81 0 ((nI i - (5 : Int32))).toNatClampNeg) (nI k) σ).bind (fun q3 =>
            if q3.1 = 0 then
              some ((Int32.ofInt (-13)), q3.2)
            else
              some ((nI i - (5 : Int32)), q3.2))
        else
          some ((Int32.ofInt (-11)), σ)
      else
        if nI i < (σ.1 12 5) then
          if nI k = (6 : Int32) then
            if hwOut (nI i) 5 then none else
            some ((σ.2.2.1 72 0 (nI i).toNatClampNeg), σ)
          else
            some ((Int32.ofInt (-13)), σ)
        else
          some ((Int32.ofInt (-11)), σ)) := by
    unfold F_X12_taken; rw [show F_X12_in _ (nI k) 0 6 σ = _ from m_rgY k0 hk (by decide)]; simp only [Option.bind_some, k10]; rw [show F_X12_in _ (nI i) 0 12 σ = _ from m_rgY i0 hi (by decide)]; simp only [Option.bind_some, k10]
  by_cases h5 : 5 ≤ i
  · have e5 : nI i - (5 : Int32) = nI (i - 5) := k_sub (b := 5) h5
    rw [e5] at gx gm
    rw [if_pos (leL_a 0 0 rfl (Nat.zero_le _) (by omega))] at gx
    rw [if_pos (leL_a 5 5 rfl h5 (by omega)), rF rfl (by decide), (sRu_eq hw).1] at gm
    by_cases hr : i - 5 < sRu (gM σ)
    · rw [x_ruY hw hx hr] at gx
      simp only [Option.bind_some, k10] at gx
      rw [if_pos (nI_lt hr (by omega))] at gm
      unfold F_X11_taken_b56 at gx
      rw [if_pos (leL_a 0 0 rfl (Nat.zero_le _) (by omega))] at gx
      by_cases h6 : k = 6
      · subst h6
        refine Ac.st (r := Int32.ofInt (-13)) ⟨hx, hw⟩ ?_ ?_
        · rw [gx, if_pos (show (5 : Int32) < nI 6 by decide)]
        · rw [gm, if_pos (show (6 : Int32) ≤ nI 6 by decide)]
      · obtain ⟨ek, hk5⟩ := hw.ki (i - 5) (by omega)
        obtain ⟨u1, u2, u3⟩ := und_eq (N + 7) N σ (gM σ 81 (i - 5)).toNatClampNeg k (by omega) (by omega)
        rw [← ek] at u1 u2
        rw [if_neg (nltL_a 5 5 rfl (by omega) (by decide))] at gx
        unfold F_X9_isOne at gx
        rw [if_neg (out_nI (by omega) (by decide)), nI_clamp (by omega), hx.1.ki (i - 5) (by omega), u1] at gx
        rw [if_neg (geL_n 6 6 rfl (by omega) (by decide)), if_neg (out_nI (by omega) (by decide)), nI_clamp (by omega), rA rfl (by decide) (by decide), u2] at gm
        simp only [Option.bind_some] at gx gm
        rcases u3 with z | z
        · rw [z] at gx gm
          exact Ac.st ⟨hx, hw⟩ gx gm
        · rw [z] at gx gm
          exact Ac.st ⟨hx, hw⟩ gx gm
    · rw [x_ruN hw hx (Or.inr (rg_off (by omega) (by omega)))] at gx
      rw [if_neg (nI_nlt (by omega) (by omega))] at gm
      exact Ac.st ⟨hx, hw⟩ gx gm
  · have e5 : nI i - (5 : Int32) < 0 := by
      rw [Int32.lt_iff_toInt_lt, i32_sub (by rw [nI_toInt (by omega), show (5 : Int32).toInt = 5 from by decide]; omega) (by rw [nI_toInt (by omega), show (5 : Int32).toInt = 5 from by decide]; omega), nI_toInt (by omega), show (5 : Int32).toInt = 5 from by decide, show (0 : Int32).toInt = 0 from by decide]
      omega
    have e5n : ¬ 0 ≤ nI i - (5 : Int32) := by
      rw [Int32.le_iff_toInt_le]
      have := Int32.lt_iff_toInt_lt.mp e5
      omega
    rw [if_neg e5n] at gx
    rw [if_neg (geL_n 5 5 rfl (by omega) (by decide)), rL hw rfl] at gm
    by_cases hj : i < sL (gM σ)
    · rw [x_lyY hw hx hj] at gx
      simp only [Option.bind_some, k10] at gx
      unfold F_X11_taken_b56 at gx
      rw [if_neg e5n] at gx
      rw [if_pos (nI_lt hj (by omega))] at gm
      by_cases h6 : k = 6
      · subst h6
        rw [if_neg (show ¬ nI 6 ≤ (5 : Int32) by decide), if_neg (out_nI (by omega) (by decide)), nI_clamp (by omega), hx.1.bs i (by omega)] at gx
        rw [if_pos (show nI 6 = (6 : Int32) from rfl), if_neg (out_nI (by omega) (by decide)), nI_clamp (by omega), rA rfl (by decide) (by decide)] at gm
        exact Ac.st ⟨hx, hw⟩ gx gm
      · rw [if_pos (leL_b 5 5 rfl (by omega) (by decide))] at gx
        rw [if_neg (neL 6 6 rfl ⟨h6, by omega, by decide⟩)] at gm
        exact Ac.st ⟨hx, hw⟩ gx gm
    · rw [x_lyN hw hx (Or.inr (rg_off (by omega) (by omega)))] at gx
      rw [if_neg (nI_nlt (by omega) (by omega))] at gm
      exact Ac.st ⟨hx, hw⟩ gx gm

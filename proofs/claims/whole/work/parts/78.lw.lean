/-! THE PURE SIDE, 59: the law answers 1 -/
set_option maxRecDepth 20000 in
theorem lw_eq (N n : Nat) (x3 : Int32) (σ : Mem) : F_L_law_b18 N (n + 1) x3 σ = if ((nI σ.2.2.2.2.1) - (6 : Int32)) < x3 then some ((1 : Int32), σ) else if hwOut x3 σ.2.2.2.2.1 then none else
      if ((σ.2.2.2.2.2 (x3).toNatClampNeg) &&& (63 : Int32)) = 0 then lwC_0 N (F_L_law_b18 N n) x3 σ else
      if ((σ.2.2.2.2.2 (x3).toNatClampNeg) &&& (63 : Int32)) = 1 then lwC_1 N (F_L_law_b18 N n) x3 σ else
      if ((σ.2.2.2.2.2 (x3).toNatClampNeg) &&& (63 : Int32)) = 2 then lwC_2 N (F_L_law_b18 N n) x3 σ else
      if ((σ.2.2.2.2.2 (x3).toNatClampNeg) &&& (63 : Int32)) = 3 then lwC_3 N (F_L_law_b18 N n) x3 σ else
      if ((σ.2.2.2.2.2 (x3).toNatClampNeg) &&& (63 : Int32)) = 4 then lwC_4 N (F_L_law_b18 N n) x3 σ else
      if ((σ.2.2.2.2.2 (x3).toNatClampNeg) &&& (63 : Int32)) = 5 then lwC_5 N (F_L_law_b18 N n) x3 σ else
      if ((σ.2.2.2.2.2 (x3).toNatClampNeg) &&& (63 : Int32)) = 6 then lwC_6 N (F_L_law_b18 N n) x3 σ else
      if ((σ.2.2.2.2.2 (x3).toNatClampNeg) &&& (63 : Int32)) = 7 then lwC_7 N (F_L_law_b18 N n) x3 σ else
      if ((σ.2.2.2.2.2 (x3).toNatClampNeg) &&& (63 : Int32)) = 8 then lwC_8 N (F_L_law_b18 N n) x3 σ else
      if ((σ.2.2.2.2.2 (x3).toNatClampNeg) &&& (63 : Int32)) = 9 then lwC_9 N (F_L_law_b18 N n) x3 σ else
      if ((σ.2.2.2.2.2 (x3).toNatClampNeg) &&& (63 : Int32)) = 10 then lwC_10 N (F_L_law_b18 N n) x3 σ else
      if ((σ.2.2.2.2.2 (x3).toNatClampNeg) &&& (63 : Int32)) = 11 then lwC_11 N (F_L_law_b18 N n) x3 σ else
      if ((σ.2.2.2.2.2 (x3).toNatClampNeg) &&& (63 : Int32)) = 12 then lwC_12 N (F_L_law_b18 N n) x3 σ else
      if ((σ.2.2.2.2.2 (x3).toNatClampNeg) &&& (63 : Int32)) = 13 then lwC_13 N (F_L_law_b18 N n) x3 σ else
      if ((σ.2.2.2.2.2 (x3).toNatClampNeg) &&& (63 : Int32)) = 14 then lwC_14 N (F_L_law_b18 N n) x3 σ else
      if ((σ.2.2.2.2.2 (x3).toNatClampNeg) &&& (63 : Int32)) = 15 then lwC_15 N (F_L_law_b18 N n) x3 σ else
      if ((σ.2.2.2.2.2 (x3).toNatClampNeg) &&& (63 : Int32)) = 16 then lwC_16 N (F_L_law_b18 N n) x3 σ else
      if ((σ.2.2.2.2.2 (x3).toNatClampNeg) &&& (63 : Int32)) = 17 then lwC_17 N (F_L_law_b18 N n) x3 σ else
      if ((σ.2.2.2.2.2 (x3).toNatClampNeg) &&& (63 : Int32)) = 18 then lwC_18 N (F_L_law_b18 N n) x3 σ else
      if ((σ.2.2.2.2.2 (x3).toNatClampNeg) &&& (63 : Int32)) = 19 then lwC_19 N (F_L_law_b18 N n) x3 σ else
      if ((σ.2.2.2.2.2 (x3).toNatClampNeg) &&& (63 : Int32)) = 20 then lwC_20 N (F_L_law_b18 N n) x3 σ else
      if ((σ.2.2.2.2.2 (x3).toNatClampNeg) &&& (63 : Int32)) = 21 then lwC_21 N (F_L_law_b18 N n) x3 σ else
      if ((σ.2.2.2.2.2 (x3).toNatClampNeg) &&& (63 : Int32)) = 22 then lwC_22 N (F_L_law_b18 N n) x3 σ else
      if ((σ.2.2.2.2.2 (x3).toNatClampNeg) &&& (63 : Int32)) = 23 then lwC_23 N (F_L_law_b18 N n) x3 σ else
      if ((σ.2.2.2.2.2 (x3).toNatClampNeg) &&& (63 : Int32)) = 24 then lwC_24 N (F_L_law_b18 N n) x3 σ else
      if ((σ.2.2.2.2.2 (x3).toNatClampNeg) &&& (63 : Int32)) = 25 then lwC_25 N (F_L_law_b18 N n) x3 σ else
      if ((σ.2.2.2.2.2 (x3).toNatClampNeg) &&& (63 : Int32)) = 26 then lwC_26 N (F_L_law_b18 N n) x3 σ else
      if ((σ.2.2.2.2.2 (x3).toNatClampNeg) &&& (63 : Int32)) = 27 then lwC_27 N (F_L_law_b18 N n) x3 σ else
      if ((σ.2.2.2.2.2 (x3).toNatClampNeg) &&& (63 : Int32)) = 28 then lwC_28 N (F_L_law_b18 N n) x3 σ else
      if ((σ.2.2.2.2.2 (x3).toNatClampNeg) &&& (63 : Int32)) = 29 then lwC_29 N (F_L_law_b18 N n) x3 σ else
      if ((σ.2.2.2.2.2 (x3).toNatClampNeg) &&& (63 : Int32)) = 30 then lwC_30 N (F_L_law_b18 N n) x3 σ else
      if ((σ.2.2.2.2.2 (x3).toNatClampNeg) &&& (63 : Int32)) = 31 then lwC_31 N (F_L_law_b18 N n) x3 σ else
      if ((σ.2.2.2.2.2 (x3).toNatClampNeg) &&& (63 : Int32)) = 32 then lwC_32 N (F_L_law_b18 N n) x3 σ else
      if ((σ.2.2.2.2.2 (x3).toNatClampNeg) &&& (63 : Int32)) = 33 then lwC_33 N (F_L_law_b18 N n) x3 σ else
      if ((σ.2.2.2.2.2 (x3).toNatClampNeg) &&& (63 : Int32)) = 34 then lwC_34 N (F_L_law_b18 N n) x3 σ else
      if ((σ.2.2.2.2.2 (x3).toNatClampNeg) &&& (63 : Int32)) = 35 then lwC_35 N (F_L_law_b18 N n) x3 σ else
      if ((σ.2.2.2.2.2 (x3).toNatClampNeg) &&& (63 : Int32)) = 36 then lwC_36 N (F_L_law_b18 N n) x3 σ else
      if ((σ.2.2.2.2.2 (x3).toNatClampNeg) &&& (63 : Int32)) = 37 then lwC_37 N (F_L_law_b18 N n) x3 σ else
      if ((σ.2.2.2.2.2 (x3).toNatClampNeg) &&& (63 : Int32)) = 38 then lwC_38 N (F_L_law_b18 N n) x3 σ else
      if ((σ.2.2.2.2.2 (x3).toNatClampNeg) &&& (63 : Int32)) = 39 then lwC_39 N (F_L_law_b18 N n) x3 σ else
      if ((σ.2.2.2.2.2 (x3).toNatClampNeg) &&& (63 : Int32)) = 40 then lwC_40 N (F_L_law_b18 N n) x3 σ else
      if ((σ.2.2.2.2.2 (x3).toNatClampNeg) &&& (63 : Int32)) = 41 then lwC_41 N (F_L_law_b18 N n) x3 σ else
      if ((σ.2.2.2.2.2 (x3).toNatClampNeg) &&& (63 : Int32)) = 42 then lwC_42 N (F_L_law_b18 N n) x3 σ else
      if ((σ.2.2.2.2.2 (x3).toNatClampNeg) &&& (63 : Int32)) = 43 then lwC_43 N (F_L_law_b18 N n) x3 σ else
      if ((σ.2.2.2.2.2 (x3).toNatClampNeg) &&& (63 : Int32)) = 44 then lwC_44 N (F_L_law_b18 N n) x3 σ else
      F_L_law_b18 N n (x3 + 6) σ := by
  rw [F_L_law_b18.eq_2]
  rfl
theorem lw_end {z i : Nat} (hz : z ≤ 3072) (hi : i ≤ 4000) : nI z - 6 < nI i ↔ z < i + 6 := by
  by_cases c : 6 ≤ z
  · rw [show (6 : Int32) = nI 6 from rfl, k_sub c]
    constructor
    · intro q
      apply Classical.byContradiction
      intro w
      exact nI_nlt (a := z - 6) (b := i) (by omega) (by omega) q
    · intro q
      exact nI_lt (by omega) (by omega)
  · refine ⟨fun _ => by omega, fun _ => ?_⟩
    have h : nI z - 6 < 0 := by
      have : z = 0 ∨ z = 1 ∨ z = 2 ∨ z = 3 ∨ z = 4 ∨ z = 5 := by omega
      rcases this with e | e | e | e | e | e <;> (subst e; decide)
    exact Int32.lt_of_lt_of_le h (nI_pos' (by omega))
theorem lw_loop (N : Nat) (hN : 200 ≤ N) (z : Nat) (hz : z ≤ 3072) : ∀ (n i : Nat) (σ : Mem), z + 6 < n + i → i ≤ z + 6 → Ag σ → Wd σ → σ.2.2.2.2.1 = z → ∃ υ, F_L_law_b18 N n (nI i) σ = some (1, υ) := by
  intro n
  induction n with
  | zero =>
    intro i σ h1 h2
    omega
  | succ n ih =>
    intro i σ h1 h2 h hd es
    rw [lw_eq, es]
    by_cases c : z < i + 6
    · exact ⟨σ, if_pos ((lw_end hz (by omega)).mpr c)⟩
    · rw [if_neg (fun q => c ((lw_end hz (by omega)).mp q)), if_neg (out_nI (by omega) (by omega))]
      have o : ∀ j : Nat, j < 6 → ¬ hwOut (nI i + nI j) σ.2.2.2.2.1 := fun j hj => by
        rw [es, nI_add]
        exact out_nI (by omega) (by omega)
      have ih' : ∀ τ, τ.2.2.2.2 = σ.2.2.2.2 → Ag τ → Wd τ → ∃ υ, F_L_law_b18 N n (nI i + 6) τ = some (1, υ) := fun τ e a w => by
        rw [show (6 : Int32) = nI 6 from rfl, nI_add]
        exact ih (i + 6) τ (by omega) (by omega) a w (by rw [e]; exact es)
      generalize (σ.2.2.2.2.2 (nI i).toNatClampNeg) &&& (63 : Int32) = v
      by_cases e0 : v = 0
      · rw [if_pos e0]; exact lwc_0 N hN _ _ σ h hd o ih'
      rw [if_neg e0]
      by_cases e1 : v = 1
      · rw [if_pos e1]; exact lwc_1 N hN _ _ σ h hd o ih'
      rw [if_neg e1]
      by_cases e2 : v = 2
      · rw [if_pos e2]; exact lwc_2 N hN _ _ σ h hd o ih'
      rw [if_neg e2]
      by_cases e3 : v = 3
      · rw [if_pos e3]; exact lwc_3 N hN _ _ σ h hd o ih'
      rw [if_neg e3]
      by_cases e4 : v = 4
      · rw [if_pos e4]; exact lwc_4 N hN _ _ σ h hd o ih'
      rw [if_neg e4]
      by_cases e5 : v = 5
      · rw [if_pos e5]; exact lwc_5 N hN _ _ σ h hd o ih'
      rw [if_neg e5]
      by_cases e6 : v = 6
      · rw [if_pos e6]; exact lwc_6 N hN _ _ σ h hd o ih'
      rw [if_neg e6]
      by_cases e7 : v = 7
      · rw [if_pos e7]; exact lwc_7 N hN _ _ σ h hd o ih'
      rw [if_neg e7]
      by_cases e8 : v = 8
      · rw [if_pos e8]; exact lwc_8 N hN _ _ σ h hd o ih'
      rw [if_neg e8]
      by_cases e9 : v = 9
      · rw [if_pos e9]; exact lwc_9 N hN _ _ σ h hd o ih'
      rw [if_neg e9]
      by_cases e10 : v = 10
      · rw [if_pos e10]; exact lwc_10 N hN _ _ σ h hd o ih'
      rw [if_neg e10]
      by_cases e11 : v = 11
      · rw [if_pos e11]; exact lwc_11 N hN _ _ σ h hd o ih'
      rw [if_neg e11]
      by_cases e12 : v = 12
      · rw [if_pos e12]; exact lwc_12 N hN _ _ σ h hd o ih'
      rw [if_neg e12]
      by_cases e13 : v = 13
      · rw [if_pos e13]; exact lwc_13 N hN _ _ σ h hd o ih'
      rw [if_neg e13]
      by_cases e14 : v = 14
      · rw [if_pos e14]; exact lwc_14 N hN _ _ σ h hd o ih'
      rw [if_neg e14]
      by_cases e15 : v = 15
      · rw [if_pos e15]; exact lwc_15 N hN _ _ σ h hd o ih'
      rw [if_neg e15]
      by_cases e16 : v = 16
      · rw [if_pos e16]; exact lwc_16 N hN _ _ σ h hd o ih'
      rw [if_neg e16]
      by_cases e17 : v = 17
      · rw [if_pos e17]; exact lwc_17 N hN _ _ σ h hd o ih'
      rw [if_neg e17]
      by_cases e18 : v = 18
      · rw [if_pos e18]; exact lwc_18 N hN _ _ σ h hd o ih'
      rw [if_neg e18]
      by_cases e19 : v = 19
      · rw [if_pos e19]; exact lwc_19 N hN _ _ σ h hd o ih'
      rw [if_neg e19]
      by_cases e20 : v = 20
      · rw [if_pos e20]; exact lwc_20 N hN _ _ σ h hd o ih'
      rw [if_neg e20]
      by_cases e21 : v = 21
      · rw [if_pos e21]; exact lwc_21 N hN _ _ σ h hd o ih'
      rw [if_neg e21]
      by_cases e22 : v = 22
      · rw [if_pos e22]; exact lwc_22 N hN _ _ σ h hd o ih'
      rw [if_neg e22]
      by_cases e23 : v = 23
      · rw [if_pos e23]; exact lwc_23 N hN _ _ σ h hd o ih'
      rw [if_neg e23]
      by_cases e24 : v = 24
      · rw [if_pos e24]; exact lwc_24 N hN _ _ σ h hd o ih'
      rw [if_neg e24]
      by_cases e25 : v = 25
      · rw [if_pos e25]; exact lwc_25 N hN _ _ σ h hd o ih'
      rw [if_neg e25]
      by_cases e26 : v = 26
      · rw [if_pos e26]; exact lwc_26 N hN _ _ σ h hd o ih'
      rw [if_neg e26]
      by_cases e27 : v = 27
      · rw [if_pos e27]; exact lwc_27 N hN _ _ σ h hd o ih'
      rw [if_neg e27]
      by_cases e28 : v = 28
      · rw [if_pos e28]; exact lwc_28 N hN _ _ σ h hd o ih'
      rw [if_neg e28]
      by_cases e29 : v = 29
      · rw [if_pos e29]; exact lwc_29 N hN _ _ σ h hd o ih'
      rw [if_neg e29]
      by_cases e30 : v = 30
      · rw [if_pos e30]; exact lwc_30 N hN _ _ σ h hd o ih'
      rw [if_neg e30]
      by_cases e31 : v = 31
      · rw [if_pos e31]; exact lwc_31 N hN _ _ σ h hd o ih'
      rw [if_neg e31]
      by_cases e32 : v = 32
      · rw [if_pos e32]; exact lwc_32 N hN _ _ σ h hd o ih'
      rw [if_neg e32]
      by_cases e33 : v = 33
      · rw [if_pos e33]; exact lwc_33 N hN _ _ σ h hd o ih'
      rw [if_neg e33]
      by_cases e34 : v = 34
      · rw [if_pos e34]; exact lwc_34 N hN _ _ σ h hd o ih'
      rw [if_neg e34]
      by_cases e35 : v = 35
      · rw [if_pos e35]; exact lwc_35 N hN _ _ σ h hd o ih'
      rw [if_neg e35]
      by_cases e36 : v = 36
      · rw [if_pos e36]; exact lwc_36 N hN _ _ σ h hd o ih'
      rw [if_neg e36]
      by_cases e37 : v = 37
      · rw [if_pos e37]; exact lwc_37 N hN _ _ σ h hd o ih'
      rw [if_neg e37]
      by_cases e38 : v = 38
      · rw [if_pos e38]; exact lwc_38 N hN _ _ σ h hd o ih'
      rw [if_neg e38]
      by_cases e39 : v = 39
      · rw [if_pos e39]; exact lwc_39 N hN _ _ σ h hd o ih'
      rw [if_neg e39]
      by_cases e40 : v = 40
      · rw [if_pos e40]; exact lwc_40 N hN _ _ σ h hd o ih'
      rw [if_neg e40]
      by_cases e41 : v = 41
      · rw [if_pos e41]; exact lwc_41 N hN _ _ σ h hd o ih'
      rw [if_neg e41]
      by_cases e42 : v = 42
      · rw [if_pos e42]; exact lwc_42 N hN _ _ σ h hd o ih'
      rw [if_neg e42]
      by_cases e43 : v = 43
      · rw [if_pos e43]; exact lwc_43 N hN _ _ σ h hd o ih'
      rw [if_neg e43]
      by_cases e44 : v = 44
      · rw [if_pos e44]; exact lwc_44 N hN _ _ σ h hd o ih'
      rw [if_neg e44]
      exact ih' σ rfl h hd
theorem lw_one (N : Nat) (hN : 3100 ≤ N) (σ : Mem) (h : Ag σ) (hd : Wd σ) (hz : σ.2.2.2.2.1 ≤ 3072) : ∃ υ, F_L_law N σ = some (1, υ) := by
  unfold F_L_law
  exact lw_loop N (by omega) σ.2.2.2.2.1 hz N 0 σ (by omega) (by omega) h hd rfl

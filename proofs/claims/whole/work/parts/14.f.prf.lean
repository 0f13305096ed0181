set_option maxRecDepth 100000 in
set_option maxHeartbeats 4000000 in
theorem T_X12_begins_b5 (e N : Nat)   (r : Unit) (τ : Mem) (Q : Pst) (hQ : Q (none) τ) : ∀ n, ∀ (x1 : Int32) (x2 : Int32) (x3 : Int64) (x5 : Int32) (σ : Mem), F_X12_begins_b5 N n x1 x2 x3 x5 σ = some (r, τ) → Wp (WpD (e + 0)) hcX12_begins Q (5, [some (.inr (.inr (12, 0))), some (.inl x1), some (.inl x2), some (.inr (.inl x3)), none, some (.inl x5)], []) σ := by
  intro n
  induction n with
  | zero => intro x1 x2 x3 x5 σ h; cases h
  | succ n ih =>
    intro x1 x2 x3 x5 σ h
    unfold F_X12_begins_b5 at h
    refine Wp.run (WpD.mono _) 2 (q := ((11, [some (.inr (.inr (12, 0))), some (.inl x1), some (.inl x2), some (.inr (.inl x3)), none, some (.inl x5)], [.inl (σ.1 12 5), .inl x5]), σ)) rfl ?_
    refine Wp.if2_ge (WpD.mono _) rfl rfl (fun hc => ?_) (fun hc => ?_)
    · have h := (if_pos hc).symm.trans h
      show Wp (WpD (e + 0)) hcX12_begins Q (35, [some (.inr (.inr (12, 0))), some (.inl x1), some (.inl x2), some (.inr (.inl x3)), none, some (.inl x5)], []) σ
      refine Wp.run (WpD.mono _) 1 (q := ((38, [some (.inr (.inr (12, 0))), some (.inl x1), some (.inl x2), some (.inr (.inl x3)), none, some (.inl (0 : Int32))], []), σ)) rfl ?_
      exact Wp.jump (WpD.mono _) rfl ((T_X12_begins_b38 e N  r τ Q hQ  N) x1 x2 x3 (0 : Int32) σ h)
    · have h := (if_neg hc).symm.trans h
      show Wp (WpD (e + 0)) hcX12_begins Q (14, [some (.inr (.inr (12, 0))), some (.inl x1), some (.inl x2), some (.inr (.inl x3)), none, some (.inl x5)], []) σ
      refine Wp.run (WpD.mono _) 7 (q := ((25, [some (.inr (.inr (12, 0))), some (.inl x1), some (.inl x2), some (.inr (.inl x3)), none, some (.inl x5)], [.inl (((5 : Int32) * x1) + x5), .inr (.inr (76, 0)), .inr (.inl x3)]), σ)) rfl ?_
      obtain ⟨hc, h⟩ := ite_nn h
      refine Wp.X_ild1 (WpD.mono _) rfl rfl hc ?_
      show Wp (WpD (e + 0)) hcX12_begins Q (26, [some (.inr (.inr (12, 0))), some (.inl x1), some (.inl x2), some (.inr (.inl x3)), none, some (.inl x5)], [.inl (σ.2.2.1 76 0 ((((5 : Int32) * x1) + x5)).toNatClampNeg), .inr (.inl x3)]) σ
      refine Wp.run (WpD.mono _) 4 (q := ((5, [some (.inr (.inr (12, 0))), some (.inl x1), some (.inl x2), some (.inr (.inl (x3 + (σ.2.2.1 76 0 ((((5 : Int32) * x1) + x5)).toNatClampNeg).toInt64))), none, some (.inl (x5 + (1 : Int32)))], []), σ)) rfl ?_
      exact Wp.jump (WpD.mono _) rfl (ih x1 x2 (x3 + (σ.2.2.1 76 0 ((((5 : Int32) * x1) + x5)).toNatClampNeg).toInt64) (x5 + (1 : Int32)) σ h)

set_option maxRecDepth 100000 in
set_option maxHeartbeats 4000000 in
theorem T_X12_begins (e N : Nat)  (a1 : Int32) (a2 : Int32) (σ : Mem) (r : Unit) (τ : Mem) (Q : Pst) (h : F_X12_begins N a1 a2 σ = some (r, τ)) (hQ : Q (none) τ) : WpD (e + 1) mX12_begins [.inr (.inr (12, 0)), .inl a1, .inl a2] σ Q := by
  refine WpD.of (d := e + 0) (Nat.le_of_ble_eq_true rfl) (Nat.le_of_ble_eq_true rfl) ?_
  show Wp (WpD (e + 0)) hcX12_begins Q (0, [some (.inr (.inr (12, 0))), some (.inl a1), some (.inl a2), none, none, none], []) σ
  unfold F_X12_begins at h
  refine Wp.run (WpD.mono _) 3 (q := ((5, [some (.inr (.inr (12, 0))), some (.inl a1), some (.inl a2), some (.inr (.inl (0 : Int64))), none, some (.inl (0 : Int32))], []), σ)) rfl ?_
  exact Wp.jump (WpD.mono _) rfl ((T_X12_begins_b5 e N  r τ Q hQ  N) a1 a2 (0 : Int64) (0 : Int32) σ h)

set_option maxRecDepth 100000 in
set_option maxHeartbeats 4000000 in
theorem T_X12_below_b138 (e N : Nat)  (k74 : Int32 → Int64 → Int32 → Int64 → Int32 → Int32 → Mem → Option (Unit × Mem)) (r : Unit) (τ : Mem) (Q : Pst) (hQ : Q (none) τ) (hk74 : ∀ (x1 : Int32) (x2 : Int64) (x4 : Int32) (x5 : Int64) (x7 : Int32) (x8 : Int32) (σ : Mem), k74 x1 x2 x4 x5 x7 x8 σ = some (r, τ) → Wp (WpD (e + 1)) hcX12_below Q (74, [some (.inr (.inr (12, 0))), some (.inl x1), some (.inr (.inl x2)), none, some (.inl x4), some (.inr (.inl x5)), none, some (.inl x7), some (.inl x8)], []) σ) : ∀ (x1 : Int32) (x2 : Int64) (x4 : Int32) (x5 : Int64) (x7 : Int32) (x8 : Int32) (s0 : Int64) (s1 : Int64) (s2 : Int32) (σ : Mem), F_X12_below_b138 N k74 x1 x2 x4 x5 x7 x8 s0 s1 s2 σ = some (r, τ) → Wp (WpD (e + 1)) hcX12_below Q (138, [some (.inr (.inr (12, 0))), some (.inl x1), some (.inr (.inl x2)), none, some (.inl x4), some (.inr (.inl x5)), none, some (.inl x7), some (.inl x8)], [.inr (.inl s0), .inr (.inl s1), .inl s2, .inr (.inr (102, 0))]) σ := by
  intro x1 x2 x4 x5 x7 x8 s0 s1 s2 σ h
  unfold F_X12_below_b138 at h
  refine Wp.run (WpD.mono _) 0 (q := ((139, [some (.inr (.inr (12, 0))), some (.inl x1), some (.inr (.inl x2)), none, some (.inl x4), some (.inr (.inl x5)), none, some (.inl x7), some (.inl x8)], [.inr (.inl (s1 + s0)), .inl s2, .inr (.inr (102, 0))]), σ)) rfl ?_
  obtain ⟨hc, h⟩ := ite_nn h
  refine Wp.X_lst (WpD.mono _) rfl rfl hc ?_
  show Wp (WpD (e + 1)) hcX12_below Q (140, [some (.inr (.inr (12, 0))), some (.inl x1), some (.inr (.inl x2)), none, some (.inl x4), some (.inr (.inl x5)), none, some (.inl x7), some (.inl x8)], []) (σ.1, σ.2.1, σ.2.2.1, (hwU3 σ.2.2.2.1 102 0 (s2).toNatClampNeg (s1 + s0)), σ.2.2.2.2)
  refine Wp.run (WpD.mono _) 1 (q := ((74, [some (.inr (.inr (12, 0))), some (.inl x1), some (.inr (.inl x2)), none, some (.inl x4), some (.inr (.inl x5)), none, some (.inl x7), some (.inl (x8 + (1 : Int32)))], []), (σ.1, σ.2.1, σ.2.2.1, (hwU3 σ.2.2.2.1 102 0 (s2).toNatClampNeg (s1 + s0)), σ.2.2.2.2))) rfl ?_
  exact Wp.jump (WpD.mono _) rfl (hk74 x1 x2 x4 x5 x7 (x8 + (1 : Int32)) (σ.1, σ.2.1, σ.2.2.1, (hwU3 σ.2.2.2.1 102 0 (s2).toNatClampNeg (s1 + s0)), σ.2.2.2.2) h)

set_option maxRecDepth 100000 in
set_option maxHeartbeats 4000000 in
theorem T_X12_below_b74 (e N : Nat)  (k35 : Int32 → Int64 → Int32 → Mem → Option (Unit × Mem)) (r : Unit) (τ : Mem) (Q : Pst) (hQ : Q (none) τ) (hk35 : ∀ (x1 : Int32) (x2 : Int64) (x4 : Int32) (σ : Mem), k35 x1 x2 x4 σ = some (r, τ) → Wp (WpD (e + 1)) hcX12_below Q (35, [some (.inr (.inr (12, 0))), some (.inl x1), some (.inr (.inl x2)), none, some (.inl x4), none, none, none, none], []) σ) : ∀ n, ∀ (x1 : Int32) (x2 : Int64) (x4 : Int32) (x5 : Int64) (x7 : Int32) (x8 : Int32) (σ : Mem), F_X12_below_b74 N k35 n x1 x2 x4 x5 x7 x8 σ = some (r, τ) → Wp (WpD (e + 1)) hcX12_below Q (74, [some (.inr (.inr (12, 0))), some (.inl x1), some (.inr (.inl x2)), none, some (.inl x4), some (.inr (.inl x5)), none, some (.inl x7), some (.inl x8)], []) σ := by
  intro n
  induction n with
  | zero => intro x1 x2 x4 x5 x7 x8 σ h; cases h
  | succ n ih =>
    intro x1 x2 x4 x5 x7 x8 σ h
    unfold F_X12_below_b74 at h
    refine Wp.run (WpD.mono _) 2 (q := ((80, [some (.inr (.inr (12, 0))), some (.inl x1), some (.inr (.inl x2)), none, some (.inl x4), some (.inr (.inl x5)), none, some (.inl x7), some (.inl x8)], [.inl (σ.1 12 5), .inl x8]), σ)) rfl ?_
    refine Wp.if2_ge (WpD.mono _) rfl rfl (fun hc => ?_) (fun hc => ?_)
    · have h := (if_pos hc).symm.trans h
      show Wp (WpD (e + 1)) hcX12_below Q (146, [some (.inr (.inr (12, 0))), some (.inl x1), some (.inr (.inl x2)), none, some (.inl x4), some (.inr (.inl x5)), none, some (.inl x7), some (.inl x8)], []) σ
      refine Wp.run (WpD.mono _) 1 (q := ((35, [some (.inr (.inr (12, 0))), some (.inl x1), some (.inr (.inl x2)), none, some (.inl (x4 + (1 : Int32))), some (.inr (.inl x5)), none, some (.inl x7), some (.inl x8)], []), σ)) rfl ?_
      exact Wp.jump (WpD.mono _) rfl (hk35 x1 x2 (x4 + (1 : Int32)) σ h)
    · have h := (if_neg hc).symm.trans h
      show Wp (WpD (e + 1)) hcX12_below Q (83, [some (.inr (.inr (12, 0))), some (.inl x1), some (.inr (.inl x2)), none, some (.inl x4), some (.inr (.inl x5)), none, some (.inl x7), some (.inl x8)], []) σ
      refine Wp.run (WpD.mono _) 9 (q := ((96, [some (.inr (.inr (12, 0))), some (.inl x1), some (.inr (.inl x2)), none, some (.inl x4), some (.inr (.inl x5)), none, some (.inl x7), some (.inl x8)], [.inl ((((5 : Int32) * x1) + (5 : Int32)) + x8), .inr (.inr (102, 0)), .inl ((((5 : Int32) * x1) + (5 : Int32)) + x8), .inr (.inr (102, 0))]), σ)) rfl ?_
      obtain ⟨hc, h⟩ := ite_nn h
      refine Wp.X_lld (WpD.mono _) rfl rfl hc ?_
      show Wp (WpD (e + 1)) hcX12_below Q (97, [some (.inr (.inr (12, 0))), some (.inl x1), some (.inr (.inl x2)), none, some (.inl x4), some (.inr (.inl x5)), none, some (.inl x7), some (.inl x8)], [.inr (.inl (σ.2.2.2.1 102 0 (((((5 : Int32) * x1) + (5 : Int32)) + x8)).toNatClampNeg)), .inl ((((5 : Int32) * x1) + (5 : Int32)) + x8), .inr (.inr (102, 0))]) σ
      refine Wp.run (WpD.mono _) 0 (q := ((99, [some (.inr (.inr (12, 0))), some (.inl x1), some (.inr (.inl x2)), none, some (.inl x4), some (.inr (.inl x5)), none, some (.inl x7), some (.inl x8)], [.inl x7, .inr (.inl (σ.2.2.2.1 102 0 (((((5 : Int32) * x1) + (5 : Int32)) + x8)).toNatClampNeg)), .inl ((((5 : Int32) * x1) + (5 : Int32)) + x8), .inr (.inr (102, 0))]), σ)) rfl ?_
      refine Wp.if0_ne (WpD.mono _) rfl rfl (fun hc => ?_) (fun hc => ?_)
      · have h := (if_pos hc).symm.trans h
        show Wp (WpD (e + 1)) hcX12_below Q (102, [some (.inr (.inr (12, 0))), some (.inl x1), some (.inr (.inl x2)), none, some (.inl x4), some (.inr (.inl x5)), none, some (.inl x7), some (.inl x8)], [.inr (.inl (σ.2.2.2.1 102 0 (((((5 : Int32) * x1) + (5 : Int32)) + x8)).toNatClampNeg)), .inl ((((5 : Int32) * x1) + (5 : Int32)) + x8), .inr (.inr (102, 0))]) σ
        refine Wp.run (WpD.mono _) 1 (q := ((106, [some (.inr (.inr (12, 0))), some (.inl x1), some (.inr (.inl x2)), none, some (.inl x4), some (.inr (.inl x5)), none, some (.inl x7), some (.inl x8)], [.inl x8, .inl x4, .inr (.inl (σ.2.2.2.1 102 0 (((((5 : Int32) * x1) + (5 : Int32)) + x8)).toNatClampNeg)), .inl ((((5 : Int32) * x1) + (5 : Int32)) + x8), .inr (.inr (102, 0))]), σ)) rfl ?_
        refine Wp.if2_ne (WpD.mono _) rfl rfl (fun hc => ?_) (fun hc => ?_)
        · have h := (if_pos hc).symm.trans h
          show Wp (WpD (e + 1)) hcX12_below Q (109, [some (.inr (.inr (12, 0))), some (.inl x1), some (.inr (.inl x2)), none, some (.inl x4), some (.inr (.inl x5)), none, some (.inl x7), some (.inl x8)], [.inr (.inl (σ.2.2.2.1 102 0 (((((5 : Int32) * x1) + (5 : Int32)) + x8)).toNatClampNeg)), .inl ((((5 : Int32) * x1) + (5 : Int32)) + x8), .inr (.inr (102, 0))]) σ
          refine Wp.run (WpD.mono _) 1 (q := ((138, [some (.inr (.inr (12, 0))), some (.inl x1), some (.inr (.inl x2)), none, some (.inl x4), some (.inr (.inl x5)), none, some (.inl x7), some (.inl x8)], [.inr (.inl x5), .inr (.inl (σ.2.2.2.1 102 0 (((((5 : Int32) * x1) + (5 : Int32)) + x8)).toNatClampNeg)), .inl ((((5 : Int32) * x1) + (5 : Int32)) + x8), .inr (.inr (102, 0))]), σ)) rfl ?_
          exact Wp.jump (WpD.mono _) rfl ((T_X12_below_b138 e N (F_X12_below_b74 N k35 n) r τ Q hQ ih) x1 x2 x4 x5 x7 x8 x5 (σ.2.2.2.1 102 0 (((((5 : Int32) * x1) + (5 : Int32)) + x8)).toNatClampNeg) ((((5 : Int32) * x1) + (5 : Int32)) + x8) σ h)
        · have h := (if_neg hc).symm.trans h
          show Wp (WpD (e + 1)) hcX12_below Q (114, [some (.inr (.inr (12, 0))), some (.inl x1), some (.inr (.inl x2)), none, some (.inl x4), some (.inr (.inl x5)), none, some (.inl x7), some (.inl x8)], [.inr (.inl (σ.2.2.2.1 102 0 (((((5 : Int32) * x1) + (5 : Int32)) + x8)).toNatClampNeg)), .inl ((((5 : Int32) * x1) + (5 : Int32)) + x8), .inr (.inr (102, 0))]) σ
          refine Wp.run (WpD.mono _) 1 (q := ((138, [some (.inr (.inr (12, 0))), some (.inl x1), some (.inr (.inl x2)), none, some (.inl x4), some (.inr (.inl x5)), none, some (.inl x7), some (.inl x8)], [.inr (.inl (0 : Int64)), .inr (.inl (σ.2.2.2.1 102 0 (((((5 : Int32) * x1) + (5 : Int32)) + x8)).toNatClampNeg)), .inl ((((5 : Int32) * x1) + (5 : Int32)) + x8), .inr (.inr (102, 0))]), σ)) rfl ?_
          exact Wp.jump (WpD.mono _) rfl ((T_X12_below_b138 e N (F_X12_below_b74 N k35 n) r τ Q hQ ih) x1 x2 x4 x5 x7 x8 (0 : Int64) (σ.2.2.2.1 102 0 (((((5 : Int32) * x1) + (5 : Int32)) + x8)).toNatClampNeg) ((((5 : Int32) * x1) + (5 : Int32)) + x8) σ h)
      · have h := (if_neg hc).symm.trans h
        show Wp (WpD (e + 1)) hcX12_below Q (118, [some (.inr (.inr (12, 0))), some (.inl x1), some (.inr (.inl x2)), none, some (.inl x4), some (.inr (.inl x5)), none, some (.inl x7), some (.inl x8)], [.inr (.inl (σ.2.2.2.1 102 0 (((((5 : Int32) * x1) + (5 : Int32)) + x8)).toNatClampNeg)), .inl ((((5 : Int32) * x1) + (5 : Int32)) + x8), .inr (.inr (102, 0))]) σ
        refine Wp.run (WpD.mono _) 7 (q := ((131, [some (.inr (.inr (12, 0))), some (.inl x1), some (.inr (.inl x2)), none, some (.inl x4), some (.inr (.inl x5)), none, some (.inl x7), some (.inl x8)], [.inl (((5 : Int32) * x4) + x8), .inr (.inr (75, 0)), .inr (.inl x5), .inr (.inl (σ.2.2.2.1 102 0 (((((5 : Int32) * x1) + (5 : Int32)) + x8)).toNatClampNeg)), .inl ((((5 : Int32) * x1) + (5 : Int32)) + x8), .inr (.inr (102, 0))]), σ)) rfl ?_
        obtain ⟨hc, h⟩ := ite_nn h
        refine Wp.X_ild1 (WpD.mono _) rfl rfl hc ?_
        show Wp (WpD (e + 1)) hcX12_below Q (132, [some (.inr (.inr (12, 0))), some (.inl x1), some (.inr (.inl x2)), none, some (.inl x4), some (.inr (.inl x5)), none, some (.inl x7), some (.inl x8)], [.inl (σ.2.2.1 75 0 ((((5 : Int32) * x4) + x8)).toNatClampNeg), .inr (.inl x5), .inr (.inl (σ.2.2.2.1 102 0 (((((5 : Int32) * x1) + (5 : Int32)) + x8)).toNatClampNeg)), .inl ((((5 : Int32) * x1) + (5 : Int32)) + x8), .inr (.inr (102, 0))]) σ
        refine Wp.run (WpD.mono _) 3 (q := ((137, [some (.inr (.inr (12, 0))), some (.inl x1), some (.inr (.inl x2)), none, some (.inl x4), some (.inr (.inl x5)), none, some (.inl x7), some (.inl x8)], [.inr (.inl x7.toInt64), .inr (.inl (x5 * (σ.2.2.1 75 0 ((((5 : Int32) * x4) + x8)).toNatClampNeg).toInt64)), .inr (.inl (σ.2.2.2.1 102 0 (((((5 : Int32) * x1) + (5 : Int32)) + x8)).toNatClampNeg)), .inl ((((5 : Int32) * x1) + (5 : Int32)) + x8), .inr (.inr (102, 0))]), σ)) rfl ?_
        obtain ⟨hc, h⟩ := ite_nn h
        refine Wp.X_ldiv (WpD.mono _) rfl hc ?_
        show Wp (WpD (e + 1)) hcX12_below Q (138, [some (.inr (.inr (12, 0))), some (.inl x1), some (.inr (.inl x2)), none, some (.inl x4), some (.inr (.inl x5)), none, some (.inl x7), some (.inl x8)], [.inr (.inl ((x5 * (σ.2.2.1 75 0 ((((5 : Int32) * x4) + x8)).toNatClampNeg).toInt64) / x7.toInt64)), .inr (.inl (σ.2.2.2.1 102 0 (((((5 : Int32) * x1) + (5 : Int32)) + x8)).toNatClampNeg)), .inl ((((5 : Int32) * x1) + (5 : Int32)) + x8), .inr (.inr (102, 0))]) σ
        exact Wp.jump (WpD.mono _) rfl ((T_X12_below_b138 e N (F_X12_below_b74 N k35 n) r τ Q hQ ih) x1 x2 x4 x5 x7 x8 ((x5 * (σ.2.2.1 75 0 ((((5 : Int32) * x4) + x8)).toNatClampNeg).toInt64) / x7.toInt64) (σ.2.2.2.1 102 0 (((((5 : Int32) * x1) + (5 : Int32)) + x8)).toNatClampNeg) ((((5 : Int32) * x1) + (5 : Int32)) + x8) σ h)

set_option maxRecDepth 100000 in
set_option maxHeartbeats 4000000 in
theorem T_X12_below_b35 (e N : Nat)   (r : Unit) (τ : Mem) (Q : Pst) (hQ : Q (none) τ) : ∀ n, ∀ (x1 : Int32) (x2 : Int64) (x4 : Int32) (σ : Mem), F_X12_below_b35 N n x1 x2 x4 σ = some (r, τ) → Wp (WpD (e + 1)) hcX12_below Q (35, [some (.inr (.inr (12, 0))), some (.inl x1), some (.inr (.inl x2)), none, some (.inl x4), none, none, none, none], []) σ := by
  intro n
  induction n with
  | zero => intro x1 x2 x4 σ h; cases h
  | succ n ih =>
    intro x1 x2 x4 σ h
    unfold F_X12_below_b35 at h
    refine Wp.run (WpD.mono _) 2 (q := ((41, [some (.inr (.inr (12, 0))), some (.inl x1), some (.inr (.inl x2)), none, some (.inl x4), none, none, none, none], [.inl (σ.1 12 5), .inl x4]), σ)) rfl ?_
    refine Wp.if2_ge (WpD.mono _) rfl rfl (fun hc => ?_) (fun hc => ?_)
    · have h := (if_pos hc).symm.trans h
      show Wp (WpD (e + 1)) hcX12_below Q (152, [some (.inr (.inr (12, 0))), some (.inl x1), some (.inr (.inl x2)), none, some (.inl x4), none, none, none, none], []) σ
      obtain ⟨rfl, rfl⟩ := ret_inj h
      exact Wp.ret (WpD.mono _) rfl hQ
    · have h := (if_neg hc).symm.trans h
      show Wp (WpD (e + 1)) hcX12_below Q (44, [some (.inr (.inr (12, 0))), some (.inl x1), some (.inr (.inl x2)), none, some (.inl x4), none, none, none, none], []) σ
      refine Wp.run (WpD.mono _) 6 (q := ((54, [some (.inr (.inr (12, 0))), some (.inl x1), some (.inr (.inl x2)), none, some (.inl x4), none, none, none, none], [.inl (((5 : Int32) * x1) + x4), .inr (.inr (103, 0))]), σ)) rfl ?_
      obtain ⟨hc, h⟩ := ite_nn h
      refine Wp.X_lld (WpD.mono _) rfl rfl hc ?_
      show Wp (WpD (e + 1)) hcX12_below Q (55, [some (.inr (.inr (12, 0))), some (.inl x1), some (.inr (.inl x2)), none, some (.inl x4), none, none, none, none], [.inr (.inl (σ.2.2.2.1 103 0 ((((5 : Int32) * x1) + x4)).toNatClampNeg))]) σ
      refine Wp.run (WpD.mono _) 2 (q := ((60, [some (.inr (.inr (12, 0))), some (.inl x1), some (.inr (.inl x2)), none, some (.inl x4), none, none, none, none], [.inr (.inl x2), .inr (.inl ((σ.2.2.2.1 103 0 ((((5 : Int32) * x1) + x4)).toNatClampNeg) * (1000000 : Int64)))]), σ)) rfl ?_
      obtain ⟨hc, h⟩ := ite_nn h
      refine Wp.X_ldiv (WpD.mono _) rfl hc ?_
      show Wp (WpD (e + 1)) hcX12_below Q (61, [some (.inr (.inr (12, 0))), some (.inl x1), some (.inr (.inl x2)), none, some (.inl x4), none, none, none, none], [.inr (.inl (((σ.2.2.2.1 103 0 ((((5 : Int32) * x1) + x4)).toNatClampNeg) * (1000000 : Int64)) / x2))]) σ
      refine Wp.run (WpD.mono _) 2 (q := ((66, [some (.inr (.inr (12, 0))), some (.inl x1), some (.inr (.inl x2)), none, some (.inl x4), some (.inr (.inl (((σ.2.2.2.1 103 0 ((((5 : Int32) * x1) + x4)).toNatClampNeg) * (1000000 : Int64)) / x2))), none, none, none], [.inl x4, .inr (.inr (12, 0))]), σ)) rfl ?_
      obtain ⟨q1, hb, h⟩ := bind_some h
      refine Wp.call (WpD.mono _) rfl (T_X12_allBelow (e + 0) N x4 σ _ _ _ hb ?_)
      show Wp (WpD (e + 1)) hcX12_below Q (69, [some (.inr (.inr (12, 0))), some (.inl x1), some (.inr (.inl x2)), none, some (.inl x4), some (.inr (.inl (((σ.2.2.2.1 103 0 ((((5 : Int32) * x1) + x4)).toNatClampNeg) * (1000000 : Int64)) / x2))), none, none, none], [.inl q1.1]) q1.2
      refine Wp.run (WpD.mono _) 2 (q := ((74, [some (.inr (.inr (12, 0))), some (.inl x1), some (.inr (.inl x2)), none, some (.inl x4), some (.inr (.inl (((σ.2.2.2.1 103 0 ((((5 : Int32) * x1) + x4)).toNatClampNeg) * (1000000 : Int64)) / x2))), none, some (.inl q1.1), some (.inl (0 : Int32))], []), q1.2)) rfl ?_
      exact Wp.jump (WpD.mono _) rfl ((T_X12_below_b74 e N (F_X12_below_b35 N n) r τ Q hQ ih N) x1 x2 x4 (((σ.2.2.2.1 103 0 ((((5 : Int32) * x1) + x4)).toNatClampNeg) * (1000000 : Int64)) / x2) q1.1 (0 : Int32) q1.2 h)

set_option maxRecDepth 100000 in
set_option maxHeartbeats 4000000 in
theorem T_X12_below_b3 (e N : Nat)   (r : Unit) (τ : Mem) (Q : Pst) (hQ : Q (none) τ) : ∀ n, ∀ (x1 : Int32) (x2 : Int64) (x4 : Int32) (σ : Mem), F_X12_below_b3 N n x1 x2 x4 σ = some (r, τ) → Wp (WpD (e + 1)) hcX12_below Q (3, [some (.inr (.inr (12, 0))), some (.inl x1), some (.inr (.inl x2)), none, some (.inl x4), none, none, none, none], []) σ := by
  intro n
  induction n with
  | zero => intro x1 x2 x4 σ h; cases h
  | succ n ih =>
    intro x1 x2 x4 σ h
    unfold F_X12_below_b3 at h
    refine Wp.run (WpD.mono _) 2 (q := ((9, [some (.inr (.inr (12, 0))), some (.inl x1), some (.inr (.inl x2)), none, some (.inl x4), none, none, none, none], [.inl (σ.1 12 5), .inl x4]), σ)) rfl ?_
    refine Wp.if2_ge (WpD.mono _) rfl rfl (fun hc => ?_) (fun hc => ?_)
    · have h := (if_pos hc).symm.trans h
      show Wp (WpD (e + 1)) hcX12_below Q (32, [some (.inr (.inr (12, 0))), some (.inl x1), some (.inr (.inl x2)), none, some (.inl x4), none, none, none, none], []) σ
      refine Wp.run (WpD.mono _) 1 (q := ((35, [some (.inr (.inr (12, 0))), some (.inl x1), some (.inr (.inl x2)), none, some (.inl (0 : Int32)), none, none, none, none], []), σ)) rfl ?_
      exact Wp.jump (WpD.mono _) rfl ((T_X12_below_b35 e N  r τ Q hQ  N) x1 x2 (0 : Int32) σ h)
    · have h := (if_neg hc).symm.trans h
      show Wp (WpD (e + 1)) hcX12_below Q (12, [some (.inr (.inr (12, 0))), some (.inl x1), some (.inr (.inl x2)), none, some (.inl x4), none, none, none, none], []) σ
      refine Wp.run (WpD.mono _) 9 (q := ((25, [some (.inr (.inr (12, 0))), some (.inl x1), some (.inr (.inl x2)), none, some (.inl x4), none, none, none, none], [.inr (.inl (0 : Int64)), .inl ((((5 : Int32) * x1) + (5 : Int32)) + x4), .inr (.inr (102, 0))]), σ)) rfl ?_
      obtain ⟨hc, h⟩ := ite_nn h
      refine Wp.X_lst (WpD.mono _) rfl rfl hc ?_
      show Wp (WpD (e + 1)) hcX12_below Q (26, [some (.inr (.inr (12, 0))), some (.inl x1), some (.inr (.inl x2)), none, some (.inl x4), none, none, none, none], []) (σ.1, σ.2.1, σ.2.2.1, (hwU3 σ.2.2.2.1 102 0 (((((5 : Int32) * x1) + (5 : Int32)) + x4)).toNatClampNeg (0 : Int64)), σ.2.2.2.2)
      refine Wp.run (WpD.mono _) 1 (q := ((3, [some (.inr (.inr (12, 0))), some (.inl x1), some (.inr (.inl x2)), none, some (.inl (x4 + (1 : Int32))), none, none, none, none], []), (σ.1, σ.2.1, σ.2.2.1, (hwU3 σ.2.2.2.1 102 0 (((((5 : Int32) * x1) + (5 : Int32)) + x4)).toNatClampNeg (0 : Int64)), σ.2.2.2.2))) rfl ?_
      exact Wp.jump (WpD.mono _) rfl (ih x1 x2 (x4 + (1 : Int32)) (σ.1, σ.2.1, σ.2.2.1, (hwU3 σ.2.2.2.1 102 0 (((((5 : Int32) * x1) + (5 : Int32)) + x4)).toNatClampNeg (0 : Int64)), σ.2.2.2.2) h)

set_option maxRecDepth 100000 in
set_option maxHeartbeats 4000000 in
theorem T_X12_below (e N : Nat)  (a1 : Int32) (a2 : Int64) (σ : Mem) (r : Unit) (τ : Mem) (Q : Pst) (h : F_X12_below N a1 a2 σ = some (r, τ)) (hQ : Q (none) τ) : WpD (e + 2) mX12_below [.inr (.inr (12, 0)), .inl a1, .inr (.inl a2)] σ Q := by
  refine WpD.of (d := e + 1) (Nat.le_of_ble_eq_true rfl) (Nat.le_of_ble_eq_true rfl) ?_
  show Wp (WpD (e + 1)) hcX12_below Q (0, [some (.inr (.inr (12, 0))), some (.inl a1), some (.inr (.inl a2)), none, none, none, none, none, none], []) σ
  unfold F_X12_below at h
  refine Wp.run (WpD.mono _) 1 (q := ((3, [some (.inr (.inr (12, 0))), some (.inl a1), some (.inr (.inl a2)), none, some (.inl (0 : Int32)), none, none, none, none], []), σ)) rfl ?_
  exact Wp.jump (WpD.mono _) rfl ((T_X12_below_b3 e N  r τ Q hQ  N) a1 a2 (0 : Int32) σ h)

set_option maxRecDepth 100000 in
set_option maxHeartbeats 4000000 in
theorem T_X12_dries_b71 (e N : Nat)  (k6 : Int32 → Int32 → Int32 → Int64 → Int32 → Mem → Option (Int64 × Mem)) (r : Int64) (τ : Mem) (Q : Pst) (hQ : Q (some (.inr (.inl r))) τ) (hk6 : ∀ (x1 : Int32) (x2 : Int32) (x3 : Int32) (x4 : Int64) (x6 : Int32) (σ : Mem), k6 x1 x2 x3 x4 x6 σ = some (r, τ) → Wp (WpD (e + 3)) hcX12_dries Q (6, [some (.inr (.inr (12, 0))), some (.inl x1), some (.inl x2), some (.inl x3), some (.inr (.inl x4)), none, some (.inl x6), none, none], []) σ) : ∀ (x1 : Int32) (x2 : Int32) (x3 : Int32) (x4 : Int64) (x6 : Int32) (s0 : Int64) (s1 : Int32) (σ : Mem), F_X12_dries_b71 N k6 x1 x2 x3 x4 x6 s0 s1 σ = some (r, τ) → Wp (WpD (e + 3)) hcX12_dries Q (71, [some (.inr (.inr (12, 0))), some (.inl x1), some (.inl x2), some (.inl x3), some (.inr (.inl x4)), none, some (.inl x6), none, none], [.inr (.inl s0), .inl s1, .inr (.inr (103, 0))]) σ := by
  intro x1 x2 x3 x4 x6 s0 s1 σ h
  unfold F_X12_dries_b71 at h
  obtain ⟨hc, h⟩ := ite_nn h
  refine Wp.X_lst (WpD.mono _) rfl rfl hc ?_
  show Wp (WpD (e + 3)) hcX12_dries Q (72, [some (.inr (.inr (12, 0))), some (.inl x1), some (.inl x2), some (.inl x3), some (.inr (.inl x4)), none, some (.inl x6), none, none], []) (σ.1, σ.2.1, σ.2.2.1, (hwU3 σ.2.2.2.1 103 0 (s1).toNatClampNeg s0), σ.2.2.2.2)
  refine Wp.run (WpD.mono _) 7 (q := ((84, [some (.inr (.inr (12, 0))), some (.inl x1), some (.inl x2), some (.inl x3), some (.inr (.inl x4)), none, some (.inl x6), none, none], [.inl (((5 : Int32) * x1) + x6), .inr (.inr (103, 0)), .inr (.inl x4)]), (σ.1, σ.2.1, σ.2.2.1, (hwU3 σ.2.2.2.1 103 0 (s1).toNatClampNeg s0), σ.2.2.2.2))) rfl ?_
  obtain ⟨hc, h⟩ := ite_nn h
  refine Wp.X_lld (WpD.mono _) rfl rfl hc ?_
  show Wp (WpD (e + 3)) hcX12_dries Q (85, [some (.inr (.inr (12, 0))), some (.inl x1), some (.inl x2), some (.inl x3), some (.inr (.inl x4)), none, some (.inl x6), none, none], [.inr (.inl ((hwU3 σ.2.2.2.1 103 0 (s1).toNatClampNeg s0) 103 0 ((((5 : Int32) * x1) + x6)).toNatClampNeg)), .inr (.inl x4)]) (σ.1, σ.2.1, σ.2.2.1, (hwU3 σ.2.2.2.1 103 0 (s1).toNatClampNeg s0), σ.2.2.2.2)
  refine Wp.run (WpD.mono _) 3 (q := ((6, [some (.inr (.inr (12, 0))), some (.inl x1), some (.inl x2), some (.inl x3), some (.inr (.inl (x4 + ((hwU3 σ.2.2.2.1 103 0 (s1).toNatClampNeg s0) 103 0 ((((5 : Int32) * x1) + x6)).toNatClampNeg)))), none, some (.inl (x6 + (1 : Int32))), none, none], []), (σ.1, σ.2.1, σ.2.2.1, (hwU3 σ.2.2.2.1 103 0 (s1).toNatClampNeg s0), σ.2.2.2.2))) rfl ?_
  exact Wp.jump (WpD.mono _) rfl (hk6 x1 x2 x3 (x4 + ((hwU3 σ.2.2.2.1 103 0 (s1).toNatClampNeg s0) 103 0 ((((5 : Int32) * x1) + x6)).toNatClampNeg)) (x6 + (1 : Int32)) (σ.1, σ.2.1, σ.2.2.1, (hwU3 σ.2.2.2.1 103 0 (s1).toNatClampNeg s0), σ.2.2.2.2) h)

set_option maxRecDepth 100000 in
set_option maxHeartbeats 4000000 in
theorem T_X12_dries_b6 (e N : Nat)   (r : Int64) (τ : Mem) (Q : Pst) (hQ : Q (some (.inr (.inl r))) τ) : ∀ n, ∀ (x1 : Int32) (x2 : Int32) (x3 : Int32) (x4 : Int64) (x6 : Int32) (σ : Mem), F_X12_dries_b6 N n x1 x2 x3 x4 x6 σ = some (r, τ) → Wp (WpD (e + 3)) hcX12_dries Q (6, [some (.inr (.inr (12, 0))), some (.inl x1), some (.inl x2), some (.inl x3), some (.inr (.inl x4)), none, some (.inl x6), none, none], []) σ := by
  intro n
  induction n with
  | zero => intro x1 x2 x3 x4 x6 σ h; cases h
  | succ n ih =>
    intro x1 x2 x3 x4 x6 σ h
    unfold F_X12_dries_b6 at h
    refine Wp.run (WpD.mono _) 2 (q := ((12, [some (.inr (.inr (12, 0))), some (.inl x1), some (.inl x2), some (.inl x3), some (.inr (.inl x4)), none, some (.inl x6), none, none], [.inl (σ.1 12 5), .inl x6]), σ)) rfl ?_
    refine Wp.if2_ge (WpD.mono _) rfl rfl (fun hc => ?_) (fun hc => ?_)
    · have h := (if_pos hc).symm.trans h
      show Wp (WpD (e + 3)) hcX12_dries Q (94, [some (.inr (.inr (12, 0))), some (.inl x1), some (.inl x2), some (.inl x3), some (.inr (.inl x4)), none, some (.inl x6), none, none], []) σ
      refine Wp.run (WpD.mono _) 0 (q := ((96, [some (.inr (.inr (12, 0))), some (.inl x1), some (.inl x2), some (.inl x3), some (.inr (.inl x4)), none, some (.inl x6), none, none], [.inr (.inl x4)]), σ)) rfl ?_
      obtain ⟨rfl, rfl⟩ := ret_inj h
      exact Wp.ret (WpD.mono _) rfl hQ
    · have h := (if_neg hc).symm.trans h
      show Wp (WpD (e + 3)) hcX12_dries Q (15, [some (.inr (.inr (12, 0))), some (.inl x1), some (.inl x2), some (.inl x3), some (.inr (.inl x4)), none, some (.inl x6), none, none], []) σ
      refine Wp.run (WpD.mono _) 6 (q := ((25, [some (.inr (.inr (12, 0))), some (.inl x1), some (.inl x2), some (.inl x3), some (.inr (.inl x4)), none, some (.inl x6), none, none], [.inl (((5 : Int32) * x1) + x6), .inr (.inr (102, 0))]), σ)) rfl ?_
      obtain ⟨hc, h⟩ := ite_nn h
      refine Wp.X_lld (WpD.mono _) rfl rfl hc ?_
      show Wp (WpD (e + 3)) hcX12_dries Q (26, [some (.inr (.inr (12, 0))), some (.inl x1), some (.inl x2), some (.inl x3), some (.inr (.inl x4)), none, some (.inl x6), none, none], [.inr (.inl (σ.2.2.2.1 102 0 ((((5 : Int32) * x1) + x6)).toNatClampNeg))]) σ
      refine Wp.run (WpD.mono _) 10 (q := ((44, [some (.inr (.inr (12, 0))), some (.inl x1), some (.inl x2), some (.inl x3), some (.inr (.inl x4)), none, some (.inl x6), some (.inr (.inl (σ.2.2.2.1 102 0 ((((5 : Int32) * x1) + x6)).toNatClampNeg))), none], [.inl x6, .inr (.inr (74, 0)), .inl (((5 : Int32) * x1) + x6), .inr (.inr (103, 0))]), σ)) rfl ?_
      obtain ⟨hc, h⟩ := ite_nn h
      refine Wp.X_ild1 (WpD.mono _) rfl rfl hc ?_
      show Wp (WpD (e + 3)) hcX12_dries Q (45, [some (.inr (.inr (12, 0))), some (.inl x1), some (.inl x2), some (.inl x3), some (.inr (.inl x4)), none, some (.inl x6), some (.inr (.inl (σ.2.2.2.1 102 0 ((((5 : Int32) * x1) + x6)).toNatClampNeg))), none], [.inl (σ.2.2.1 74 0 (x6).toNatClampNeg), .inl (((5 : Int32) * x1) + x6), .inr (.inr (103, 0))]) σ
      refine Wp.run (WpD.mono _) 0 (q := ((46, [some (.inr (.inr (12, 0))), some (.inl x1), some (.inl x2), some (.inl x3), some (.inr (.inl x4)), none, some (.inl x6), some (.inr (.inl (σ.2.2.2.1 102 0 ((((5 : Int32) * x1) + x6)).toNatClampNeg))), none], [.inl x3, .inl (σ.2.2.1 74 0 (x6).toNatClampNeg), .inl (((5 : Int32) * x1) + x6), .inr (.inr (103, 0))]), σ)) rfl ?_
      refine Wp.if2_ne (WpD.mono _) rfl rfl (fun hc => ?_) (fun hc => ?_)
      · have h := (if_pos hc).symm.trans h
        show Wp (WpD (e + 3)) hcX12_dries Q (49, [some (.inr (.inr (12, 0))), some (.inl x1), some (.inl x2), some (.inl x3), some (.inr (.inl x4)), none, some (.inl x6), some (.inr (.inl (σ.2.2.2.1 102 0 ((((5 : Int32) * x1) + x6)).toNatClampNeg))), none], [.inl (((5 : Int32) * x1) + x6), .inr (.inr (103, 0))]) σ
        refine Wp.run (WpD.mono _) 4 (q := ((57, [some (.inr (.inr (12, 0))), some (.inl x1), some (.inl x2), some (.inl x3), some (.inr (.inl x4)), none, some (.inl x6), some (.inr (.inl (σ.2.2.2.1 102 0 ((((5 : Int32) * x1) + x6)).toNatClampNeg))), none], [.inl x6, .inl x2, .inr (.inr (12, 0)), .inr (.inl (σ.2.2.2.1 102 0 ((((5 : Int32) * x1) + x6)).toNatClampNeg)), .inr (.inl (σ.2.2.2.1 102 0 ((((5 : Int32) * x1) + x6)).toNatClampNeg)), .inl (((5 : Int32) * x1) + x6), .inr (.inr (103, 0))]), σ)) rfl ?_
        obtain ⟨q1, hb, h⟩ := bind_some h
        refine Wp.call (WpD.mono _) rfl (T_X12_waterOf (e + 0) N x2 x6 σ _ _ _ hb ?_)
        show Wp (WpD (e + 3)) hcX12_dries Q (60, [some (.inr (.inr (12, 0))), some (.inl x1), some (.inl x2), some (.inl x3), some (.inr (.inl x4)), none, some (.inl x6), some (.inr (.inl (σ.2.2.2.1 102 0 ((((5 : Int32) * x1) + x6)).toNatClampNeg))), none], [.inl q1.1, .inr (.inl (σ.2.2.2.1 102 0 ((((5 : Int32) * x1) + x6)).toNatClampNeg)), .inr (.inl (σ.2.2.2.1 102 0 ((((5 : Int32) * x1) + x6)).toNatClampNeg)), .inl (((5 : Int32) * x1) + x6), .inr (.inr (103, 0))]) q1.2
        refine Wp.run (WpD.mono _) 5 (q := ((71, [some (.inr (.inr (12, 0))), some (.inl x1), some (.inl x2), some (.inl x3), some (.inr (.inl x4)), none, some (.inl x6), some (.inr (.inl (σ.2.2.2.1 102 0 ((((5 : Int32) * x1) + x6)).toNatClampNeg))), none], [.inr (.inl ((σ.2.2.2.1 102 0 ((((5 : Int32) * x1) + x6)).toNatClampNeg) - (((σ.2.2.2.1 102 0 ((((5 : Int32) * x1) + x6)).toNatClampNeg) * q1.1.toInt64) / (100 : Int64)))), .inl (((5 : Int32) * x1) + x6), .inr (.inr (103, 0))]), q1.2)) rfl ?_
        exact Wp.jump (WpD.mono _) rfl ((T_X12_dries_b71 e N (F_X12_dries_b6 N n) r τ Q hQ ih) x1 x2 x3 x4 x6 ((σ.2.2.2.1 102 0 ((((5 : Int32) * x1) + x6)).toNatClampNeg) - (((σ.2.2.2.1 102 0 ((((5 : Int32) * x1) + x6)).toNatClampNeg) * q1.1.toInt64) / (100 : Int64))) (((5 : Int32) * x1) + x6) q1.2 h)
      · have h := (if_neg hc).symm.trans h
        show Wp (WpD (e + 3)) hcX12_dries Q (70, [some (.inr (.inr (12, 0))), some (.inl x1), some (.inl x2), some (.inl x3), some (.inr (.inl x4)), none, some (.inl x6), some (.inr (.inl (σ.2.2.2.1 102 0 ((((5 : Int32) * x1) + x6)).toNatClampNeg))), none], [.inl (((5 : Int32) * x1) + x6), .inr (.inr (103, 0))]) σ
        refine Wp.run (WpD.mono _) 0 (q := ((71, [some (.inr (.inr (12, 0))), some (.inl x1), some (.inl x2), some (.inl x3), some (.inr (.inl x4)), none, some (.inl x6), some (.inr (.inl (σ.2.2.2.1 102 0 ((((5 : Int32) * x1) + x6)).toNatClampNeg))), none], [.inr (.inl (0 : Int64)), .inl (((5 : Int32) * x1) + x6), .inr (.inr (103, 0))]), σ)) rfl ?_
        exact Wp.jump (WpD.mono _) rfl ((T_X12_dries_b71 e N (F_X12_dries_b6 N n) r τ Q hQ ih) x1 x2 x3 x4 x6 (0 : Int64) (((5 : Int32) * x1) + x6) σ h)

set_option maxRecDepth 100000 in
set_option maxHeartbeats 4000000 in
theorem T_X12_dries (e N : Nat)  (a1 : Int32) (a2 : Int32) (a3 : Int32) (σ : Mem) (r : Int64) (τ : Mem) (Q : Pst) (h : F_X12_dries N a1 a2 a3 σ = some (r, τ)) (hQ : Q (some (.inr (.inl r))) τ) : WpD (e + 4) mX12_dries [.inr (.inr (12, 0)), .inl a1, .inl a2, .inl a3] σ Q := by
  refine WpD.of (d := e + 3) (Nat.le_of_ble_eq_true rfl) (Nat.le_of_ble_eq_true rfl) ?_
  show Wp (WpD (e + 3)) hcX12_dries Q (0, [some (.inr (.inr (12, 0))), some (.inl a1), some (.inl a2), some (.inl a3), none, none, none, none, none], []) σ
  unfold F_X12_dries at h
  refine Wp.run (WpD.mono _) 3 (q := ((6, [some (.inr (.inr (12, 0))), some (.inl a1), some (.inl a2), some (.inl a3), some (.inr (.inl (0 : Int64))), none, some (.inl (0 : Int32)), none, none], []), σ)) rfl ?_
  exact Wp.jump (WpD.mono _) rfl ((T_X12_dries_b6 e N  r τ Q hQ  N) a1 a2 a3 (0 : Int64) (0 : Int32) σ h)

set_option maxRecDepth 100000 in
set_option maxHeartbeats 4000000 in
theorem T_X12_thinks_b54 (e N : Nat)  (k8 : Int32 → Int32 → Mem → Option (Int32 × Mem)) (r : Int32) (τ : Mem) (Q : Pst) (hQ : Q (some (.inl r)) τ) (hk8 : ∀ (x1 : Int32) (x2 : Int32) (σ : Mem), k8 x1 x2 σ = some (r, τ) → Wp (WpD (e + 4)) hcX12_thinks Q (8, [some (.inr (.inr (12, 0))), some (.inl x1), some (.inl x2), none, none, none], []) σ) : ∀ n, ∀ (x1 : Int32) (x2 : Int32) (x5 : Int32) (σ : Mem), F_X12_thinks_b54 N k8 n x1 x2 x5 σ = some (r, τ) → Wp (WpD (e + 4)) hcX12_thinks Q (54, [some (.inr (.inr (12, 0))), some (.inl x1), some (.inl x2), none, none, some (.inl x5)], []) σ := by
  intro n
  induction n with
  | zero => intro x1 x2 x5 σ h; cases h
  | succ n ih =>
    intro x1 x2 x5 σ h
    unfold F_X12_thinks_b54 at h
    refine Wp.run (WpD.mono _) 2 (q := ((60, [some (.inr (.inr (12, 0))), some (.inl x1), some (.inl x2), none, none, some (.inl x5)], [.inl (σ.1 12 5), .inl x5]), σ)) rfl ?_
    refine Wp.if2_ge (WpD.mono _) rfl rfl (fun hc => ?_) (fun hc => ?_)
    · have h := (if_pos hc).symm.trans h
      show Wp (WpD (e + 4)) hcX12_thinks Q (85, [some (.inr (.inr (12, 0))), some (.inl x1), some (.inl x2), none, none, some (.inl x5)], []) σ
      refine Wp.run (WpD.mono _) 1 (q := ((8, [some (.inr (.inr (12, 0))), some (.inl x1), some (.inl (x2 + (1 : Int32))), none, none, some (.inl x5)], []), σ)) rfl ?_
      exact Wp.jump (WpD.mono _) rfl (hk8 x1 (x2 + (1 : Int32)) σ h)
    · have h := (if_neg hc).symm.trans h
      show Wp (WpD (e + 4)) hcX12_thinks Q (63, [some (.inr (.inr (12, 0))), some (.inl x1), some (.inl x2), none, none, some (.inl x5)], []) σ
      refine Wp.run (WpD.mono _) 7 (q := ((77, [some (.inr (.inr (12, 0))), some (.inl x1), some (.inl x2), none, none, some (.inl x5)], [.inl ((5 : Int32) + x5), .inr (.inr (102, 0)), .inl x5, .inr (.inr (102, 0))]), σ)) rfl ?_
      obtain ⟨hc, h⟩ := ite_nn h
      refine Wp.X_lld (WpD.mono _) rfl rfl hc ?_
      show Wp (WpD (e + 4)) hcX12_thinks Q (78, [some (.inr (.inr (12, 0))), some (.inl x1), some (.inl x2), none, none, some (.inl x5)], [.inr (.inl (σ.2.2.2.1 102 0 (((5 : Int32) + x5)).toNatClampNeg)), .inl x5, .inr (.inr (102, 0))]) σ
      obtain ⟨hc, h⟩ := ite_nn h
      refine Wp.X_lst (WpD.mono _) rfl rfl hc ?_
      show Wp (WpD (e + 4)) hcX12_thinks Q (79, [some (.inr (.inr (12, 0))), some (.inl x1), some (.inl x2), none, none, some (.inl x5)], []) (σ.1, σ.2.1, σ.2.2.1, (hwU3 σ.2.2.2.1 102 0 (x5).toNatClampNeg (σ.2.2.2.1 102 0 (((5 : Int32) + x5)).toNatClampNeg)), σ.2.2.2.2)
      refine Wp.run (WpD.mono _) 1 (q := ((54, [some (.inr (.inr (12, 0))), some (.inl x1), some (.inl x2), none, none, some (.inl (x5 + (1 : Int32)))], []), (σ.1, σ.2.1, σ.2.2.1, (hwU3 σ.2.2.2.1 102 0 (x5).toNatClampNeg (σ.2.2.2.1 102 0 (((5 : Int32) + x5)).toNatClampNeg)), σ.2.2.2.2))) rfl ?_
      exact Wp.jump (WpD.mono _) rfl (ih x1 x2 (x5 + (1 : Int32)) (σ.1, σ.2.1, σ.2.2.1, (hwU3 σ.2.2.2.1 102 0 (x5).toNatClampNeg (σ.2.2.2.1 102 0 (((5 : Int32) + x5)).toNatClampNeg)), σ.2.2.2.2) h)

set_option maxRecDepth 100000 in
set_option maxHeartbeats 4000000 in
theorem T_X12_thinks_b8 (e N : Nat)   (r : Int32) (τ : Mem) (Q : Pst) (hQ : Q (some (.inl r)) τ) : ∀ n, ∀ (x1 : Int32) (x2 : Int32) (σ : Mem), F_X12_thinks_b8 N n x1 x2 σ = some (r, τ) → Wp (WpD (e + 4)) hcX12_thinks Q (8, [some (.inr (.inr (12, 0))), some (.inl x1), some (.inl x2), none, none, none], []) σ := by
  intro n
  induction n with
  | zero => intro x1 x2 σ h; cases h
  | succ n ih =>
    intro x1 x2 σ h
    unfold F_X12_thinks_b8 at h
    refine Wp.run (WpD.mono _) 3 (q := ((14, [some (.inr (.inr (12, 0))), some (.inl x1), some (.inl x2), none, none, none], [.inl x1, .inr (.inr (77, 0)), .inl x2]), σ)) rfl ?_
    obtain ⟨hc, h⟩ := ite_nn h
    refine Wp.X_ild1 (WpD.mono _) rfl rfl hc ?_
    show Wp (WpD (e + 4)) hcX12_thinks Q (15, [some (.inr (.inr (12, 0))), some (.inl x1), some (.inl x2), none, none, none], [.inl (σ.2.2.1 77 0 (x1).toNatClampNeg), .inl x2]) σ
    refine Wp.if2_ge (WpD.mono _) rfl rfl (fun hc => ?_) (fun hc => ?_)
    · have h := (if_pos hc).symm.trans h
      show Wp (WpD (e + 4)) hcX12_thinks Q (91, [some (.inr (.inr (12, 0))), some (.inl x1), some (.inl x2), none, none, none], []) σ
      refine Wp.run (WpD.mono _) 0 (q := ((92, [some (.inr (.inr (12, 0))), some (.inl x1), some (.inl x2), none, none, none], [.inl (1 : Int32)]), σ)) rfl ?_
      obtain ⟨rfl, rfl⟩ := ret_inj h
      exact Wp.ret (WpD.mono _) rfl hQ
    · have h := (if_neg hc).symm.trans h
      show Wp (WpD (e + 4)) hcX12_thinks Q (18, [some (.inr (.inr (12, 0))), some (.inl x1), some (.inl x2), none, none, none], []) σ
      refine Wp.run (WpD.mono _) 11 (q := ((32, [some (.inr (.inr (12, 0))), some (.inl x1), some (.inl x2), none, none, none], [.inl (((5 : Int32) * x1) + x2), .inr (.inr (79, 0)), .inl (x2 + (1 : Int32)), .inl (0 : Int32), .inr (.inr (12, 0))]), σ)) rfl ?_
      obtain ⟨hc, h⟩ := ite_nn h
      refine Wp.X_ild1 (WpD.mono _) rfl rfl hc ?_
      show Wp (WpD (e + 4)) hcX12_thinks Q (33, [some (.inr (.inr (12, 0))), some (.inl x1), some (.inl x2), none, none, none], [.inl (σ.2.2.1 79 0 ((((5 : Int32) * x1) + x2)).toNatClampNeg), .inl (x2 + (1 : Int32)), .inl (0 : Int32), .inr (.inr (12, 0))]) σ
      obtain ⟨q2, hb, h⟩ := bind_some h
      refine Wp.call (WpD.mono _) rfl (T_X12_dries (e + 0) N (0 : Int32) (x2 + (1 : Int32)) (σ.2.2.1 79 0 ((((5 : Int32) * x1) + x2)).toNatClampNeg) σ _ _ _ hb ?_)
      show Wp (WpD (e + 4)) hcX12_thinks Q (36, [some (.inr (.inr (12, 0))), some (.inl x1), some (.inl x2), none, none, none], [.inr (.inl q2.1)]) q2.2
      refine Wp.run (WpD.mono _) 3 (q := ((40, [some (.inr (.inr (12, 0))), some (.inl x1), some (.inl x2), some (.inr (.inl q2.1)), none, none], [.inl (lg_cmp q2.1 (0 : Int64))]), q2.2)) rfl ?_
      refine Wp.if0_ne (WpD.mono _) rfl rfl (fun hc => ?_) (fun hc => ?_)
      · have h := (if_pos hc).symm.trans h
        show Wp (WpD (e + 4)) hcX12_thinks Q (43, [some (.inr (.inr (12, 0))), some (.inl x1), some (.inl x2), some (.inr (.inl q2.1)), none, none], []) q2.2
        refine Wp.run (WpD.mono _) 0 (q := ((44, [some (.inr (.inr (12, 0))), some (.inl x1), some (.inl x2), some (.inr (.inl q2.1)), none, none], [.inl (0 : Int32)]), q2.2)) rfl ?_
        obtain ⟨rfl, rfl⟩ := ret_inj h
        exact Wp.ret (WpD.mono _) rfl hQ
      · have h := (if_neg hc).symm.trans h
        show Wp (WpD (e + 4)) hcX12_thinks Q (45, [some (.inr (.inr (12, 0))), some (.inl x1), some (.inl x2), some (.inr (.inl q2.1)), none, none], []) q2.2
        refine Wp.run (WpD.mono _) 2 (q := ((48, [some (.inr (.inr (12, 0))), some (.inl x1), some (.inl x2), some (.inr (.inl q2.1)), none, none], [.inr (.inl q2.1), .inl (0 : Int32), .inr (.inr (12, 0))]), q2.2)) rfl ?_
        obtain ⟨q3, hb, h⟩ := bind_some h
        refine Wp.call (WpD.mono _) rfl (T_X12_below (e + 2) N (0 : Int32) q2.1 q2.2 _ _ _ hb ?_)
        show Wp (WpD (e + 4)) hcX12_thinks Q (51, [some (.inr (.inr (12, 0))), some (.inl x1), some (.inl x2), some (.inr (.inl q2.1)), none, none], []) q3.2
        refine Wp.run (WpD.mono _) 1 (q := ((54, [some (.inr (.inr (12, 0))), some (.inl x1), some (.inl x2), some (.inr (.inl q2.1)), none, some (.inl (0 : Int32))], []), q3.2)) rfl ?_
        exact Wp.jump (WpD.mono _) rfl ((T_X12_thinks_b54 e N (F_X12_thinks_b8 N n) r τ Q hQ ih N) x1 x2 (0 : Int32) q3.2 h)

set_option maxRecDepth 100000 in
set_option maxHeartbeats 4000000 in
theorem T_X12_thinks (e N : Nat)  (a1 : Int32) (σ : Mem) (r : Int32) (τ : Mem) (Q : Pst) (h : F_X12_thinks N a1 σ = some (r, τ)) (hQ : Q (some (.inl r)) τ) : WpD (e + 5) mX12_thinks [.inr (.inr (12, 0)), .inl a1] σ Q := by
  refine WpD.of (d := e + 4) (Nat.le_of_ble_eq_true rfl) (Nat.le_of_ble_eq_true rfl) ?_
  show Wp (WpD (e + 4)) hcX12_thinks Q (0, [some (.inr (.inr (12, 0))), some (.inl a1), none, none, none, none], []) σ
  unfold F_X12_thinks at h
  refine Wp.run (WpD.mono _) 2 (q := ((3, [some (.inr (.inr (12, 0))), some (.inl a1), none, none, none, none], [.inl (0 : Int32), .inl a1, .inr (.inr (12, 0))]), σ)) rfl ?_
  obtain ⟨q1, hb, h⟩ := bind_some h
  refine Wp.call (WpD.mono _) rfl (T_X12_begins (e + 3) N a1 (0 : Int32) σ _ _ _ hb ?_)
  show Wp (WpD (e + 4)) hcX12_thinks Q (6, [some (.inr (.inr (12, 0))), some (.inl a1), none, none, none, none], []) q1.2
  refine Wp.run (WpD.mono _) 1 (q := ((8, [some (.inr (.inr (12, 0))), some (.inl a1), some (.inl (0 : Int32)), none, none, none], []), q1.2)) rfl ?_
  exact Wp.jump (WpD.mono _) rfl ((T_X12_thinks_b8 e N  r τ Q hQ  N) a1 (0 : Int32) q1.2 h)

set_option maxRecDepth 100000 in
set_option maxHeartbeats 4000000 in
theorem T_X12_goesHere (e N : Nat)  (a1 : Int32) (σ : Mem) (r : Int32) (τ : Mem) (Q : Pst) (h : F_X12_goesHere N a1 σ = some (r, τ)) (hQ : Q (some (.inl r)) τ) : WpD (e + 6) mX12_goesHere [.inr (.inr (12, 0)), .inl a1] σ Q := by
  refine WpD.of (d := e + 5) (Nat.le_of_ble_eq_true rfl) (Nat.le_of_ble_eq_true rfl) ?_
  show Wp (WpD (e + 5)) hcX12_goesHere Q (0, [some (.inr (.inr (12, 0))), some (.inl a1)], []) σ
  unfold F_X12_goesHere at h
  refine Wp.run (WpD.mono _) 2 (q := ((5, [some (.inr (.inr (12, 0))), some (.inl a1)], [.inl a1, .inr (.inr (78, 0))]), σ)) rfl ?_
  obtain ⟨hc, h⟩ := ite_nn h
  refine Wp.X_ild1 (WpD.mono _) rfl rfl hc ?_
  show Wp (WpD (e + 5)) hcX12_goesHere Q (6, [some (.inr (.inr (12, 0))), some (.inl a1)], [.inl (σ.2.2.1 78 0 (a1).toNatClampNeg)]) σ
  refine Wp.if0_ne (WpD.mono _) rfl rfl (fun hc => ?_) (fun hc => ?_)
  · have h := (if_pos hc).symm.trans h
    show Wp (WpD (e + 5)) hcX12_goesHere Q (9, [some (.inr (.inr (12, 0))), some (.inl a1)], []) σ
    refine Wp.run (WpD.mono _) 1 (q := ((11, [some (.inr (.inr (12, 0))), some (.inl a1)], [.inl a1, .inr (.inr (12, 0))]), σ)) rfl ?_
    obtain ⟨q1, hb, h⟩ := bind_some h
    refine Wp.call (WpD.mono _) rfl (T_X12_thinks (e + 0) N a1 σ _ _ _ hb ?_)
    show Wp (WpD (e + 5)) hcX12_goesHere Q (14, [some (.inr (.inr (12, 0))), some (.inl a1)], [.inl q1.1]) q1.2
    refine Wp.if0_eq (WpD.mono _) rfl rfl (fun hc => ?_) (fun hc => ?_)
    · have h := (if_pos hc).symm.trans h
      show Wp (WpD (e + 5)) hcX12_goesHere Q (21, [some (.inr (.inr (12, 0))), some (.inl a1)], []) q1.2
      refine Wp.run (WpD.mono _) 0 (q := ((22, [none, none], [.inl (0 : Int32)]), q1.2)) rfl ?_
      obtain ⟨rfl, rfl⟩ := ret_inj h
      exact Wp.ret (WpD.mono _) rfl hQ
    · have h := (if_neg hc).symm.trans h
      show Wp (WpD (e + 5)) hcX12_goesHere Q (17, [some (.inr (.inr (12, 0))), some (.inl a1)], []) q1.2
      refine Wp.run (WpD.mono _) 1 (q := ((22, [some (.inr (.inr (12, 0))), some (.inl a1)], [.inl (1 : Int32)]), q1.2)) rfl ?_
      obtain ⟨rfl, rfl⟩ := ret_inj h
      exact Wp.ret (WpD.mono _) rfl hQ
  · have h := (if_neg hc).symm.trans h
    show Wp (WpD (e + 5)) hcX12_goesHere Q (21, [some (.inr (.inr (12, 0))), some (.inl a1)], []) σ
    refine Wp.run (WpD.mono _) 0 (q := ((22, [none, none], [.inl (0 : Int32)]), σ)) rfl ?_
    obtain ⟨rfl, rfl⟩ := ret_inj h
    exact Wp.ret (WpD.mono _) rfl hQ

set_option maxRecDepth 100000 in
set_option maxHeartbeats 4000000 in
theorem T_X12_worthOf (e N : Nat)  (a1 : Int32) (σ : Mem) (r : Int64) (τ : Mem) (Q : Pst) (h : F_X12_worthOf N a1 σ = some (r, τ)) (hQ : Q (some (.inr (.inl r))) τ) : WpD (e + 1) mX12_worthOf [.inr (.inr (12, 0)), .inl a1] σ Q := by
  refine WpD.of (d := e + 0) (Nat.le_of_ble_eq_true rfl) (Nat.le_of_ble_eq_true rfl) ?_
  show Wp (WpD (e + 0)) hcX12_worthOf Q (0, [some (.inr (.inr (12, 0))), some (.inl a1)], []) σ
  unfold F_X12_worthOf at h
  refine Wp.run (WpD.mono _) 4 (q := ((9, [some (.inr (.inr (12, 0))), some (.inl a1)], [.inl a1, .inr (.inr (73, 0)), .inl (σ.1 12 1)]), σ)) rfl ?_
  obtain ⟨hc, h⟩ := ite_nn h
  refine Wp.X_ild1 (WpD.mono _) rfl rfl hc ?_
  show Wp (WpD (e + 0)) hcX12_worthOf Q (10, [some (.inr (.inr (12, 0))), some (.inl a1)], [.inl (σ.2.2.1 73 0 (a1).toNatClampNeg), .inl (σ.1 12 1)]) σ
  refine Wp.if2_le (WpD.mono _) rfl rfl (fun hc => ?_) (fun hc => ?_)
  · have h := (if_pos hc).symm.trans h
    show Wp (WpD (e + 0)) hcX12_worthOf Q (28, [some (.inr (.inr (12, 0))), some (.inl a1)], []) σ
    refine Wp.run (WpD.mono _) 0 (q := ((29, [some (.inr (.inr (12, 0))), some (.inl a1)], [.inr (.inl (0 : Int64))]), σ)) rfl ?_
    obtain ⟨rfl, rfl⟩ := ret_inj h
    exact Wp.ret (WpD.mono _) rfl hQ
  · have h := (if_neg hc).symm.trans h
    show Wp (WpD (e + 0)) hcX12_worthOf Q (13, [some (.inr (.inr (12, 0))), some (.inl a1)], []) σ
    refine Wp.run (WpD.mono _) 4 (q := ((22, [some (.inr (.inr (12, 0))), some (.inl a1)], [.inl a1, .inr (.inr (73, 0)), .inl (σ.1 12 1)]), σ)) rfl ?_
    obtain ⟨hc, h⟩ := ite_nn h
    refine Wp.X_ild1 (WpD.mono _) rfl rfl hc ?_
    show Wp (WpD (e + 0)) hcX12_worthOf Q (23, [some (.inr (.inr (12, 0))), some (.inl a1)], [.inl (σ.2.2.1 73 0 (a1).toNatClampNeg), .inl (σ.1 12 1)]) σ
    refine Wp.run (WpD.mono _) 2 (q := ((29, [some (.inr (.inr (12, 0))), some (.inl a1)], [.inr (.inl ((σ.1 12 1) - (σ.2.2.1 73 0 (a1).toNatClampNeg)).toInt64)]), σ)) rfl ?_
    obtain ⟨rfl, rfl⟩ := ret_inj h
    exact Wp.ret (WpD.mono _) rfl hQ

set_option maxRecDepth 100000 in
set_option maxHeartbeats 4000000 in
theorem T_X12_goesOn_b76 (e N : Nat) (g0 : Int32 → Int32 → Mem → Option (Int64 × Mem)) (g1 : Int32 → Int32 → Mem → Option (Int64 × Mem)) (hg0 : ∀ (a1 : Int32) (a2 : Int32) (σ : Mem) (r : Int64) (τ : Mem) (Q : Pst), g0 a1 a2 σ = some (r, τ) → Q (some (.inr (.inl r))) τ → WpD (e + 4) mX12_goesOn [.inr (.inr (12, 0)), .inl a1, .inl a2] σ Q) (hg1 : ∀ (a1 : Int32) (a2 : Int32) (σ : Mem) (r : Int64) (τ : Mem) (Q : Pst), g1 a1 a2 σ = some (r, τ) → Q (some (.inr (.inl r))) τ → WpD (e + 4) mX12_valueOf [.inr (.inr (12, 0)), .inl a1, .inl a2] σ Q)  (r : Int64) (τ : Mem) (Q : Pst) (hQ : Q (some (.inr (.inl r))) τ) : ∀ n, ∀ (x1 : Int32) (x2 : Int32) (x3 : Int64) (x5 : Int32) (σ : Mem), F_X12_goesOn_b76 N g0 g1 n x1 x2 x3 x5 σ = some (r, τ) → Wp (WpD (e + 4)) hcX12_goesOn Q (76, [some (.inr (.inr (12, 0))), some (.inl x1), some (.inl x2), some (.inr (.inl x3)), none, some (.inl x5), none, none], []) σ := by
  intro n
  induction n with
  | zero => intro x1 x2 x3 x5 σ h; cases h
  | succ n ih =>
    intro x1 x2 x3 x5 σ h
    unfold F_X12_goesOn_b76 at h
    refine Wp.run (WpD.mono _) 1 (q := ((79, [some (.inr (.inr (12, 0))), some (.inl x1), some (.inl x2), some (.inr (.inl x3)), none, some (.inl x5), none, none], [.inl (3 : Int32), .inl x5]), σ)) rfl ?_
    refine Wp.if2_ge (WpD.mono _) rfl rfl (fun hc => ?_) (fun hc => ?_)
    · have h := (if_pos hc).symm.trans h
      show Wp (WpD (e + 4)) hcX12_goesOn Q (140, [some (.inr (.inr (12, 0))), some (.inl x1), some (.inl x2), some (.inr (.inl x3)), none, some (.inl x5), none, none], []) σ
      refine Wp.run (WpD.mono _) 0 (q := ((141, [none, none, none, some (.inr (.inl x3)), none, none, none, none], [.inr (.inl x3)]), σ)) rfl ?_
      obtain ⟨rfl, rfl⟩ := ret_inj h
      exact Wp.ret (WpD.mono _) rfl hQ
    · have h := (if_neg hc).symm.trans h
      show Wp (WpD (e + 4)) hcX12_goesOn Q (82, [some (.inr (.inr (12, 0))), some (.inl x1), some (.inl x2), some (.inr (.inl x3)), none, some (.inl x5), none, none], []) σ
      refine Wp.run (WpD.mono _) 2 (q := ((87, [some (.inr (.inr (12, 0))), some (.inl x1), some (.inl x2), some (.inr (.inl x3)), none, some (.inl x5), none, none], [.inl (σ.1 12 0), .inl x1]), σ)) rfl ?_
      refine Wp.if2_ge (WpD.mono _) rfl rfl (fun hc => ?_) (fun hc => ?_)
      · have h := (if_pos hc).symm.trans h
        show Wp (WpD (e + 4)) hcX12_goesOn Q (140, [some (.inr (.inr (12, 0))), some (.inl x1), some (.inl x2), some (.inr (.inl x3)), none, some (.inl x5), none, none], []) σ
        refine Wp.run (WpD.mono _) 0 (q := ((141, [none, none, none, some (.inr (.inl x3)), none, none, none, none], [.inr (.inl x3)]), σ)) rfl ?_
        obtain ⟨rfl, rfl⟩ := ret_inj h
        exact Wp.ret (WpD.mono _) rfl hQ
      · have h := (if_neg hc).symm.trans h
        show Wp (WpD (e + 4)) hcX12_goesOn Q (90, [some (.inr (.inr (12, 0))), some (.inl x1), some (.inl x2), some (.inr (.inl x3)), none, some (.inl x5), none, none], []) σ
        refine Wp.run (WpD.mono _) 3 (q := ((95, [some (.inr (.inr (12, 0))), some (.inl x1), some (.inl x2), some (.inr (.inl x3)), none, some (.inl x5), none, none], [.inl x5, .inl x1, .inl x2, .inr (.inr (12, 0))]), σ)) rfl ?_
        obtain ⟨q4, hb, h⟩ := bind_some h
        refine Wp.call (WpD.mono _) rfl (T_X12_dries (e + 0) N x2 x1 x5 σ _ _ _ hb ?_)
        show Wp (WpD (e + 4)) hcX12_goesOn Q (98, [some (.inr (.inr (12, 0))), some (.inl x1), some (.inl x2), some (.inr (.inl x3)), none, some (.inl x5), none, none], [.inr (.inl q4.1)]) q4.2
        refine Wp.run (WpD.mono _) 3 (q := ((104, [some (.inr (.inr (12, 0))), some (.inl x1), some (.inl x2), some (.inr (.inl x3)), none, some (.inl x5), some (.inr (.inl q4.1)), none], [.inl (lg_cmp q4.1 (0 : Int64))]), q4.2)) rfl ?_
        refine Wp.if0_le (WpD.mono _) rfl rfl (fun hc => ?_) (fun hc => ?_)
        · have h := (if_pos hc).symm.trans h
          show Wp (WpD (e + 4)) hcX12_goesOn Q (134, [some (.inr (.inr (12, 0))), some (.inl x1), some (.inl x2), some (.inr (.inl x3)), none, some (.inl x5), some (.inr (.inl q4.1)), none], []) q4.2
          refine Wp.run (WpD.mono _) 1 (q := ((76, [some (.inr (.inr (12, 0))), some (.inl x1), some (.inl x2), some (.inr (.inl x3)), none, some (.inl (x5 + (1 : Int32))), none, none], []), q4.2)) rfl ?_
          exact Wp.jump (WpD.mono _) rfl (ih x1 x2 x3 (x5 + (1 : Int32)) q4.2 h)
        · have h := (if_neg hc).symm.trans h
          show Wp (WpD (e + 4)) hcX12_goesOn Q (107, [some (.inr (.inr (12, 0))), some (.inl x1), some (.inl x2), some (.inr (.inl x3)), none, some (.inl x5), some (.inr (.inl q4.1)), none], []) q4.2
          refine Wp.run (WpD.mono _) 2 (q := ((111, [some (.inr (.inr (12, 0))), some (.inl x1), some (.inl x2), some (.inr (.inl x3)), none, some (.inl x5), some (.inr (.inl q4.1)), none], [.inr (.inl q4.1), .inl x2, .inr (.inr (12, 0))]), q4.2)) rfl ?_
          obtain ⟨q5, hb, h⟩ := bind_some h
          refine Wp.call (WpD.mono _) rfl (T_X12_below (e + 2) N x2 q4.1 q4.2 _ _ _ hb ?_)
          show Wp (WpD (e + 4)) hcX12_goesOn Q (114, [some (.inr (.inr (12, 0))), some (.inl x1), some (.inl x2), some (.inr (.inl x3)), none, some (.inl x5), some (.inr (.inl q4.1)), none], []) q5.2
          refine Wp.run (WpD.mono _) 8 (q := ((124, [some (.inr (.inr (12, 0))), some (.inl x1), some (.inl x2), some (.inr (.inl x3)), none, some (.inl x5), some (.inr (.inl q4.1)), none], [.inl (x2 + (1 : Int32)), .inl (x1 + (1 : Int32)), .inr (.inr (12, 0)), .inr (.inl q4.1), .inr (.inl x3)]), q5.2)) rfl ?_
          obtain ⟨q6, hb, h⟩ := bind_some h
          refine Wp.call (WpD.mono _) rfl (hg1 (x1 + (1 : Int32)) (x2 + (1 : Int32)) q5.2 _ _ _ hb ?_)
          show Wp (WpD (e + 4)) hcX12_goesOn Q (127, [some (.inr (.inr (12, 0))), some (.inl x1), some (.inl x2), some (.inr (.inl x3)), none, some (.inl x5), some (.inr (.inl q4.1)), none], [.inr (.inl q6.1), .inr (.inl q4.1), .inr (.inl x3)]) q6.2
          refine Wp.run (WpD.mono _) 6 (q := ((76, [some (.inr (.inr (12, 0))), some (.inl x1), some (.inl x2), some (.inr (.inl (x3 + ((q4.1 * q6.1) / (1000000 : Int64))))), none, some (.inl (x5 + (1 : Int32))), none, none], []), q6.2)) rfl ?_
          exact Wp.jump (WpD.mono _) rfl (ih x1 x2 (x3 + ((q4.1 * q6.1) / (1000000 : Int64))) (x5 + (1 : Int32)) q6.2 h)

set_option maxRecDepth 100000 in
set_option maxHeartbeats 4000000 in
theorem T_X12_goesOn_b24 (e N : Nat) (g0 : Int32 → Int32 → Mem → Option (Int64 × Mem)) (g1 : Int32 → Int32 → Mem → Option (Int64 × Mem)) (hg0 : ∀ (a1 : Int32) (a2 : Int32) (σ : Mem) (r : Int64) (τ : Mem) (Q : Pst), g0 a1 a2 σ = some (r, τ) → Q (some (.inr (.inl r))) τ → WpD (e + 4) mX12_goesOn [.inr (.inr (12, 0)), .inl a1, .inl a2] σ Q) (hg1 : ∀ (a1 : Int32) (a2 : Int32) (σ : Mem) (r : Int64) (τ : Mem) (Q : Pst), g1 a1 a2 σ = some (r, τ) → Q (some (.inr (.inl r))) τ → WpD (e + 4) mX12_valueOf [.inr (.inr (12, 0)), .inl a1, .inl a2] σ Q)  (r : Int64) (τ : Mem) (Q : Pst) (hQ : Q (some (.inr (.inl r))) τ) : ∀ n, ∀ (x1 : Int32) (x2 : Int32) (x3 : Int64) (x5 : Int32) (σ : Mem), F_X12_goesOn_b24 N g0 g1 n x1 x2 x3 x5 σ = some (r, τ) → Wp (WpD (e + 4)) hcX12_goesOn Q (24, [some (.inr (.inr (12, 0))), some (.inl x1), some (.inl x2), some (.inr (.inl x3)), none, some (.inl x5), none, none], []) σ := by
  intro n
  induction n with
  | zero => intro x1 x2 x3 x5 σ h; cases h
  | succ n ih =>
    intro x1 x2 x3 x5 σ h
    unfold F_X12_goesOn_b24 at h
    refine Wp.run (WpD.mono _) 2 (q := ((30, [some (.inr (.inr (12, 0))), some (.inl x1), some (.inl x2), some (.inr (.inl x3)), none, some (.inl x5), none, none], [.inl (σ.1 12 5), .inl x5]), σ)) rfl ?_
    refine Wp.if2_ge (WpD.mono _) rfl rfl (fun hc => ?_) (fun hc => ?_)
    · have h := (if_pos hc).symm.trans h
      show Wp (WpD (e + 4)) hcX12_goesOn Q (73, [some (.inr (.inr (12, 0))), some (.inl x1), some (.inl x2), some (.inr (.inl x3)), none, some (.inl x5), none, none], []) σ
      refine Wp.run (WpD.mono _) 1 (q := ((76, [some (.inr (.inr (12, 0))), some (.inl x1), some (.inl x2), some (.inr (.inl x3)), none, some (.inl (0 : Int32)), none, none], []), σ)) rfl ?_
      exact Wp.jump (WpD.mono _) rfl ((T_X12_goesOn_b76 e N g0 g1 hg0 hg1 r τ Q hQ  N) x1 x2 x3 (0 : Int32) σ h)
    · have h := (if_neg hc).symm.trans h
      show Wp (WpD (e + 4)) hcX12_goesOn Q (33, [some (.inr (.inr (12, 0))), some (.inl x1), some (.inl x2), some (.inr (.inl x3)), none, some (.inl x5), none, none], []) σ
      refine Wp.run (WpD.mono _) 7 (q := ((44, [some (.inr (.inr (12, 0))), some (.inl x1), some (.inl x2), some (.inr (.inl x3)), none, some (.inl x5), none, none], [.inl (((5 : Int32) * x2) + x5), .inr (.inr (102, 0)), .inr (.inl x3)]), σ)) rfl ?_
      obtain ⟨hc, h⟩ := ite_nn h
      refine Wp.X_lld (WpD.mono _) rfl rfl hc ?_
      show Wp (WpD (e + 4)) hcX12_goesOn Q (45, [some (.inr (.inr (12, 0))), some (.inl x1), some (.inl x2), some (.inr (.inl x3)), none, some (.inl x5), none, none], [.inr (.inl (σ.2.2.2.1 102 0 ((((5 : Int32) * x2) + x5)).toNatClampNeg)), .inr (.inl x3)]) σ
      refine Wp.run (WpD.mono _) 2 (q := ((49, [some (.inr (.inr (12, 0))), some (.inl x1), some (.inl x2), some (.inr (.inl x3)), none, some (.inl x5), none, none], [.inl x5, .inl x1, .inr (.inr (12, 0)), .inr (.inl (σ.2.2.2.1 102 0 ((((5 : Int32) * x2) + x5)).toNatClampNeg)), .inr (.inl x3)]), σ)) rfl ?_
      obtain ⟨q2, hb, h⟩ := bind_some h
      refine Wp.call (WpD.mono _) rfl (T_X12_waterOf (e + 1) N x1 x5 σ _ _ _ hb ?_)
      show Wp (WpD (e + 4)) hcX12_goesOn Q (52, [some (.inr (.inr (12, 0))), some (.inl x1), some (.inl x2), some (.inr (.inl x3)), none, some (.inl x5), none, none], [.inl q2.1, .inr (.inl (σ.2.2.2.1 102 0 ((((5 : Int32) * x2) + x5)).toNatClampNeg)), .inr (.inl x3)]) q2.2
      refine Wp.run (WpD.mono _) 5 (q := ((61, [some (.inr (.inr (12, 0))), some (.inl x1), some (.inl x2), some (.inr (.inl x3)), none, some (.inl x5), none, none], [.inl x5, .inr (.inr (12, 0)), .inr (.inl (((σ.2.2.2.1 102 0 ((((5 : Int32) * x2) + x5)).toNatClampNeg) * q2.1.toInt64) / (100 : Int64))), .inr (.inl x3)]), q2.2)) rfl ?_
      obtain ⟨q3, hb, h⟩ := bind_some h
      refine Wp.call (WpD.mono _) rfl (T_X12_worthOf (e + 3) N x5 q2.2 _ _ _ hb ?_)
      show Wp (WpD (e + 4)) hcX12_goesOn Q (64, [some (.inr (.inr (12, 0))), some (.inl x1), some (.inl x2), some (.inr (.inl x3)), none, some (.inl x5), none, none], [.inr (.inl q3.1), .inr (.inl (((σ.2.2.2.1 102 0 ((((5 : Int32) * x2) + x5)).toNatClampNeg) * q2.1.toInt64) / (100 : Int64))), .inr (.inl x3)]) q3.2
      refine Wp.run (WpD.mono _) 4 (q := ((24, [some (.inr (.inr (12, 0))), some (.inl x1), some (.inl x2), some (.inr (.inl (x3 + ((((σ.2.2.2.1 102 0 ((((5 : Int32) * x2) + x5)).toNatClampNeg) * q2.1.toInt64) / (100 : Int64)) * q3.1)))), none, some (.inl (x5 + (1 : Int32))), none, none], []), q3.2)) rfl ?_
      exact Wp.jump (WpD.mono _) rfl (ih x1 x2 (x3 + ((((σ.2.2.2.1 102 0 ((((5 : Int32) * x2) + x5)).toNatClampNeg) * q2.1.toInt64) / (100 : Int64)) * q3.1)) (x5 + (1 : Int32)) q3.2 h)

set_option maxRecDepth 100000 in
set_option maxHeartbeats 4000000 in
theorem TB_X12_goesOn (e N : Nat) (g0 : Int32 → Int32 → Mem → Option (Int64 × Mem)) (g1 : Int32 → Int32 → Mem → Option (Int64 × Mem)) (hg0 : ∀ (a1 : Int32) (a2 : Int32) (σ : Mem) (r : Int64) (τ : Mem) (Q : Pst), g0 a1 a2 σ = some (r, τ) → Q (some (.inr (.inl r))) τ → WpD (e + 4) mX12_goesOn [.inr (.inr (12, 0)), .inl a1, .inl a2] σ Q) (hg1 : ∀ (a1 : Int32) (a2 : Int32) (σ : Mem) (r : Int64) (τ : Mem) (Q : Pst), g1 a1 a2 σ = some (r, τ) → Q (some (.inr (.inl r))) τ → WpD (e + 4) mX12_valueOf [.inr (.inr (12, 0)), .inl a1, .inl a2] σ Q) (a1 : Int32) (a2 : Int32) (σ : Mem) (r : Int64) (τ : Mem) (Q : Pst) (h : B_X12_goesOn N g0 g1 a1 a2 σ = some (r, τ)) (hQ : Q (some (.inr (.inl r))) τ) : WpD (e + 1 + 4) mX12_goesOn [.inr (.inr (12, 0)), .inl a1, .inl a2] σ Q := by
  refine WpD.of (d := e + 4) (Nat.le_of_ble_eq_true rfl) (Nat.le_of_ble_eq_true rfl) ?_
  show Wp (WpD (e + 4)) hcX12_goesOn Q (0, [some (.inr (.inr (12, 0))), some (.inl a1), some (.inl a2), none, none, none, none, none], []) σ
  unfold B_X12_goesOn at h
  refine Wp.run (WpD.mono _) 2 (q := ((5, [some (.inr (.inr (12, 0))), some (.inl a1), some (.inl a2), none, none, none, none, none], [.inl (σ.1 12 0), .inl a1]), σ)) rfl ?_
  refine Wp.if2_le (WpD.mono _) rfl rfl (fun hc => ?_) (fun hc => ?_)
  · have h := (if_pos hc).symm.trans h
    show Wp (WpD (e + 4)) hcX12_goesOn Q (10, [some (.inr (.inr (12, 0))), some (.inl a1), some (.inl a2), none, none, none, none, none], []) σ
    refine Wp.run (WpD.mono _) 2 (q := ((15, [some (.inr (.inr (12, 0))), some (.inl a1), some (.inl a2), none, none, none, none, none], [.inl a1, .inr (.inr (12, 0)), .inr (.inl (Int64.ofInt (-1000000)))]), σ)) rfl ?_
    obtain ⟨q1, hb, h⟩ := bind_some h
    refine Wp.call (WpD.mono _) rfl (T_X12_costOf (e + 1) N a1 σ _ _ _ hb ?_)
    show Wp (WpD (e + 4)) hcX12_goesOn Q (18, [some (.inr (.inr (12, 0))), some (.inl a1), some (.inl a2), none, none, none, none, none], [.inl q1.1, .inr (.inl (Int64.ofInt (-1000000)))]) q1.2
    refine Wp.run (WpD.mono _) 4 (q := ((24, [some (.inr (.inr (12, 0))), some (.inl a1), some (.inl a2), some (.inr (.inl ((Int64.ofInt (-1000000)) * q1.1.toInt64))), none, some (.inl (0 : Int32)), none, none], []), q1.2)) rfl ?_
    exact Wp.jump (WpD.mono _) rfl ((T_X12_goesOn_b24 e N g0 g1 hg0 hg1 r τ Q hQ  N) a1 a2 ((Int64.ofInt (-1000000)) * q1.1.toInt64) (0 : Int32) q1.2 h)
  · have h := (if_neg hc).symm.trans h
    show Wp (WpD (e + 4)) hcX12_goesOn Q (8, [some (.inr (.inr (12, 0))), some (.inl a1), some (.inl a2), none, none, none, none, none], []) σ
    refine Wp.run (WpD.mono _) 0 (q := ((9, [some (.inr (.inr (12, 0))), some (.inl a1), some (.inl a2), none, none, none, none, none], [.inr (.inl (0 : Int64))]), σ)) rfl ?_
    obtain ⟨rfl, rfl⟩ := ret_inj h
    exact Wp.ret (WpD.mono _) rfl hQ

set_option maxRecDepth 100000 in
set_option maxHeartbeats 4000000 in
theorem TB_X12_valueOf (e N : Nat) (g0 : Int32 → Int32 → Mem → Option (Int64 × Mem)) (g1 : Int32 → Int32 → Mem → Option (Int64 × Mem)) (hg0 : ∀ (a1 : Int32) (a2 : Int32) (σ : Mem) (r : Int64) (τ : Mem) (Q : Pst), g0 a1 a2 σ = some (r, τ) → Q (some (.inr (.inl r))) τ → WpD (e + 4) mX12_goesOn [.inr (.inr (12, 0)), .inl a1, .inl a2] σ Q) (hg1 : ∀ (a1 : Int32) (a2 : Int32) (σ : Mem) (r : Int64) (τ : Mem) (Q : Pst), g1 a1 a2 σ = some (r, τ) → Q (some (.inr (.inl r))) τ → WpD (e + 4) mX12_valueOf [.inr (.inr (12, 0)), .inl a1, .inl a2] σ Q) (a1 : Int32) (a2 : Int32) (σ : Mem) (r : Int64) (τ : Mem) (Q : Pst) (h : B_X12_valueOf N g0 g1 a1 a2 σ = some (r, τ)) (hQ : Q (some (.inr (.inl r))) τ) : WpD (e + 1 + 4) mX12_valueOf [.inr (.inr (12, 0)), .inl a1, .inl a2] σ Q := by
  refine WpD.of (d := e + 4) (Nat.le_of_ble_eq_true rfl) (Nat.le_of_ble_eq_true rfl) ?_
  show Wp (WpD (e + 4)) hcX12_valueOf Q (0, [some (.inr (.inr (12, 0))), some (.inl a1), some (.inl a2), none, none], []) σ
  unfold B_X12_valueOf at h
  refine Wp.run (WpD.mono _) 2 (q := ((3, [some (.inr (.inr (12, 0))), some (.inl a1), some (.inl a2), none, none], [.inl a2, .inl a1, .inr (.inr (12, 0))]), σ)) rfl ?_
  obtain ⟨q1, hb, h⟩ := bind_some h
  refine Wp.call (WpD.mono _) rfl (hg0 a1 a2 σ _ _ _ hb ?_)
  show Wp (WpD (e + 4)) hcX12_valueOf Q (6, [some (.inr (.inr (12, 0))), some (.inl a1), some (.inl a2), none, none], [.inr (.inl q1.1)]) q1.2
  refine Wp.run (WpD.mono _) 3 (q := ((10, [some (.inr (.inr (12, 0))), some (.inl a1), some (.inl a2), some (.inr (.inl q1.1)), none], [.inl (lg_cmp q1.1 (0 : Int64))]), q1.2)) rfl ?_
  refine Wp.if0_ge (WpD.mono _) rfl rfl (fun hc => ?_) (fun hc => ?_)
  · have h := (if_pos hc).symm.trans h
    show Wp (WpD (e + 4)) hcX12_valueOf Q (17, [some (.inr (.inr (12, 0))), some (.inl a1), some (.inl a2), some (.inr (.inl q1.1)), none], []) q1.2
    refine Wp.run (WpD.mono _) 0 (q := ((18, [some (.inr (.inr (12, 0))), some (.inl a1), some (.inl a2), some (.inr (.inl q1.1)), none], [.inr (.inl q1.1)]), q1.2)) rfl ?_
    obtain ⟨rfl, rfl⟩ := ret_inj h
    exact Wp.ret (WpD.mono _) rfl hQ
  · have h := (if_neg hc).symm.trans h
    show Wp (WpD (e + 4)) hcX12_valueOf Q (13, [some (.inr (.inr (12, 0))), some (.inl a1), some (.inl a2), some (.inr (.inl q1.1)), none], []) q1.2
    refine Wp.run (WpD.mono _) 1 (q := ((18, [some (.inr (.inr (12, 0))), some (.inl a1), some (.inl a2), some (.inr (.inl q1.1)), none], [.inr (.inl (0 : Int64))]), q1.2)) rfl ?_
    obtain ⟨rfl, rfl⟩ := ret_inj h
    exact Wp.ret (WpD.mono _) rfl hQ

set_option maxRecDepth 100000 in
theorem TG_X12_goesOn (e N : Nat) : ∀ d : Nat, (∀ (a1 : Int32) (a2 : Int32) (σ : Mem) (r : Int64) (τ : Mem) (Q : Pst), (G_X12_goesOn N d).1 a1 a2 σ = some (r, τ) → Q (some (.inr (.inl r))) τ → WpD (e + d + 4) mX12_goesOn [.inr (.inr (12, 0)), .inl a1, .inl a2] σ Q) ∧ (∀ (a1 : Int32) (a2 : Int32) (σ : Mem) (r : Int64) (τ : Mem) (Q : Pst), (G_X12_goesOn N d).2 a1 a2 σ = some (r, τ) → Q (some (.inr (.inl r))) τ → WpD (e + d + 4) mX12_valueOf [.inr (.inr (12, 0)), .inl a1, .inl a2] σ Q) := by
  intro d
  induction d with
  | zero =>
    exact ⟨(fun _ _ _ _ _ _ h => (nomatch h)), (fun _ _ _ _ _ _ h => (nomatch h))⟩
  | succ d ih =>
    exact ⟨(fun a1 a2 σ r τ Q h hQ => TB_X12_goesOn (e + d) N (G_X12_goesOn N d).1 (G_X12_goesOn N d).2 ih.1 ih.2 a1 a2 σ r τ Q h hQ), (fun a1 a2 σ r τ Q h hQ => TB_X12_valueOf (e + d) N (G_X12_goesOn N d).1 (G_X12_goesOn N d).2 ih.1 ih.2 a1 a2 σ r τ Q h hQ)⟩

theorem T_X12_goesOn (e N : Nat) (a1 : Int32) (a2 : Int32) (σ : Mem) (r : Int64) (τ : Mem) (Q : Pst) (h : F_X12_goesOn N a1 a2 σ = some (r, τ)) (hQ : Q (some (.inr (.inl r))) τ) : WpD (e + 24) mX12_goesOn [.inr (.inr (12, 0)), .inl a1, .inl a2] σ Q := (TG_X12_goesOn e N 20).1 a1 a2 σ r τ Q h hQ
theorem T_X12_valueOf (e N : Nat) (a1 : Int32) (a2 : Int32) (σ : Mem) (r : Int64) (τ : Mem) (Q : Pst) (h : F_X12_valueOf N a1 a2 σ = some (r, τ)) (hQ : Q (some (.inr (.inl r))) τ) : WpD (e + 24) mX12_valueOf [.inr (.inr (12, 0)), .inl a1, .inl a2] σ Q := (TG_X12_goesOn e N 20).2 a1 a2 σ r τ Q h hQ
set_option maxRecDepth 100000 in
set_option maxHeartbeats 4000000 in
theorem T_X12_isPlace (e N : Nat)  (a1 : Int32) (σ : Mem) (r : Int32) (τ : Mem) (Q : Pst) (h : F_X12_isPlace N a1 σ = some (r, τ)) (hQ : Q (some (.inl r)) τ) : WpD (e + 2) mX12_isPlace [.inr (.inr (12, 0)), .inl a1] σ Q := by
  refine WpD.of (d := e + 1) (Nat.le_of_ble_eq_true rfl) (Nat.le_of_ble_eq_true rfl) ?_
  show Wp (WpD (e + 1)) hcX12_isPlace Q (0, [some (.inr (.inr (12, 0))), some (.inl a1)], []) σ
  unfold F_X12_isPlace at h
  refine Wp.run (WpD.mono _) 5 (q := ((8, [some (.inr (.inr (12, 0))), some (.inl a1)], [.inl ((σ.1 12 10) - (1 : Int32)), .inl (0 : Int32), .inl a1]), σ)) rfl ?_
  obtain ⟨q1, hb, h⟩ := bind_some h
  refine Wp.call (WpD.mono _) rfl (T_X12_in (e + 0) N a1 (0 : Int32) ((σ.1 12 10) - (1 : Int32)) σ _ _ _ hb ?_)
  show Wp (WpD (e + 1)) hcX12_isPlace Q (11, [some (.inr (.inr (12, 0))), some (.inl a1)], [.inl q1.1]) q1.2
  obtain ⟨hc, h⟩ := ite_yy h
  obtain ⟨rfl, rfl⟩ := ret_inj h
  exact Wp.retZ (WpD.mono _) rfl hc hQ

set_option maxRecDepth 100000 in
set_option maxHeartbeats 4000000 in
theorem T_X12_back (e N : Nat)  (a1 : Int32) (σ : Mem) (r : Int32) (τ : Mem) (Q : Pst) (h : F_X12_back N a1 σ = some (r, τ)) (hQ : Q (some (.inl r)) τ) : WpD (e + 25) mX12_back [.inr (.inr (12, 0)), .inl a1] σ Q := by
  refine WpD.of (d := e + 24) (Nat.le_of_ble_eq_true rfl) (Nat.le_of_ble_eq_true rfl) ?_
  show Wp (WpD (e + 24)) hcX12_back Q (0, [some (.inr (.inr (12, 0))), some (.inl a1)], []) σ
  unfold F_X12_back at h
  refine Wp.run (WpD.mono _) 1 (q := ((2, [some (.inr (.inr (12, 0))), some (.inl a1)], [.inl a1, .inr (.inr (12, 0))]), σ)) rfl ?_
  obtain ⟨q1, hb, h⟩ := bind_some h
  refine Wp.call (WpD.mono _) rfl (T_X12_isPlace (e + 22) N a1 σ _ _ _ hb ?_)
  show Wp (WpD (e + 24)) hcX12_back Q (5, [some (.inr (.inr (12, 0))), some (.inl a1)], [.inl q1.1]) q1.2
  refine Wp.if0_ne (WpD.mono _) rfl rfl (fun hc => ?_) (fun hc => ?_)
  · have h := (if_pos hc).symm.trans h
    show Wp (WpD (e + 24)) hcX12_back Q (8, [some (.inr (.inr (12, 0))), some (.inl a1)], []) q1.2
    refine Wp.run (WpD.mono _) 0 (q := ((9, [some (.inr (.inr (12, 0))), some (.inl a1)], [.inl (Int32.ofInt (-1))]), q1.2)) rfl ?_
    obtain ⟨rfl, rfl⟩ := ret_inj h
    exact Wp.ret (WpD.mono _) rfl hQ
  · have h := (if_neg hc).symm.trans h
    show Wp (WpD (e + 24)) hcX12_back Q (10, [some (.inr (.inr (12, 0))), some (.inl a1)], []) q1.2
    refine Wp.run (WpD.mono _) 1 (q := ((12, [some (.inr (.inr (12, 0))), some (.inl a1)], [.inl a1, .inr (.inr (12, 0))]), q1.2)) rfl ?_
    obtain ⟨q2, hb, h⟩ := bind_some h
    refine Wp.call (WpD.mono _) rfl (T_X12_goesHere (e + 18) N a1 q1.2 _ _ _ hb ?_)
    show Wp (WpD (e + 24)) hcX12_back Q (15, [some (.inr (.inr (12, 0))), some (.inl a1)], [.inl q2.1]) q2.2
    refine Wp.if0_ne (WpD.mono _) rfl rfl (fun hc => ?_) (fun hc => ?_)
    · have h := (if_pos hc).symm.trans h
      show Wp (WpD (e + 24)) hcX12_back Q (18, [some (.inr (.inr (12, 0))), some (.inl a1)], []) q2.2
      refine Wp.run (WpD.mono _) 1 (q := ((46, [some (.inr (.inr (12, 0))), some (.inl a1)], [.inl (Int32.ofInt (-3))]), q2.2)) rfl ?_
      obtain ⟨rfl, rfl⟩ := ret_inj h
      exact Wp.ret (WpD.mono _) rfl hQ
    · have h := (if_neg hc).symm.trans h
      show Wp (WpD (e + 24)) hcX12_back Q (23, [some (.inr (.inr (12, 0))), some (.inl a1)], []) q2.2
      refine Wp.run (WpD.mono _) 3 (q := ((29, [some (.inr (.inr (12, 0))), some (.inl a1)], [.inl a1, .inr (.inr (77, 0)), .inr (.inr (12, 0))]), q2.2)) rfl ?_
      obtain ⟨hc, h⟩ := ite_nn h
      refine Wp.X_ild1 (WpD.mono _) rfl rfl hc ?_
      show Wp (WpD (e + 24)) hcX12_back Q (30, [some (.inr (.inr (12, 0))), some (.inl a1)], [.inl (q2.2.2.2.1 77 0 (a1).toNatClampNeg), .inr (.inr (12, 0))]) q2.2
      refine Wp.run (WpD.mono _) 2 (q := ((33, [some (.inr (.inr (12, 0))), some (.inl a1)], [.inl (0 : Int32), .inl ((q2.2.2.2.1 77 0 (a1).toNatClampNeg) + (1 : Int32)), .inr (.inr (12, 0))]), q2.2)) rfl ?_
      obtain ⟨q3, hb, h⟩ := bind_some h
      refine Wp.call (WpD.mono _) rfl (T_X12_goesOn (e + 0) N ((q2.2.2.2.1 77 0 (a1).toNatClampNeg) + (1 : Int32)) (0 : Int32) q2.2 _ _ _ hb ?_)
      show Wp (WpD (e + 24)) hcX12_back Q (36, [some (.inr (.inr (12, 0))), some (.inl a1)], [.inr (.inl q3.1)]) q3.2
      refine Wp.run (WpD.mono _) 1 (q := ((38, [some (.inr (.inr (12, 0))), some (.inl a1)], [.inl (lg_cmp q3.1 (0 : Int64))]), q3.2)) rfl ?_
      refine Wp.if0_le (WpD.mono _) rfl rfl (fun hc => ?_) (fun hc => ?_)
      · have h := (if_pos hc).symm.trans h
        show Wp (WpD (e + 24)) hcX12_back Q (45, [some (.inr (.inr (12, 0))), some (.inl a1)], []) q3.2
        refine Wp.run (WpD.mono _) 0 (q := ((46, [some (.inr (.inr (12, 0))), some (.inl a1)], [.inl (0 : Int32)]), q3.2)) rfl ?_
        obtain ⟨rfl, rfl⟩ := ret_inj h
        exact Wp.ret (WpD.mono _) rfl hQ
      · have h := (if_neg hc).symm.trans h
        show Wp (WpD (e + 24)) hcX12_back Q (41, [some (.inr (.inr (12, 0))), some (.inl a1)], []) q3.2
        refine Wp.run (WpD.mono _) 1 (q := ((46, [some (.inr (.inr (12, 0))), some (.inl a1)], [.inl (1 : Int32)]), q3.2)) rfl ?_
        obtain ⟨rfl, rfl⟩ := ret_inj h
        exact Wp.ret (WpD.mono _) rfl hQ

set_option maxRecDepth 100000 in
set_option maxHeartbeats 4000000 in
theorem T_X12_wetOf_b5 (e N : Nat)   (r : Int64) (τ : Mem) (Q : Pst) (hQ : Q (some (.inr (.inl r))) τ) : ∀ n, ∀ (x1 : Int32) (x2 : Int32) (x3 : Int64) (x5 : Int32) (σ : Mem), F_X12_wetOf_b5 N n x1 x2 x3 x5 σ = some (r, τ) → Wp (WpD (e + 3)) hcX12_wetOf Q (5, [some (.inr (.inr (12, 0))), some (.inl x1), some (.inl x2), some (.inr (.inl x3)), none, some (.inl x5)], []) σ := by
  intro n
  induction n with
  | zero => intro x1 x2 x3 x5 σ h; cases h
  | succ n ih =>
    intro x1 x2 x3 x5 σ h
    unfold F_X12_wetOf_b5 at h
    refine Wp.run (WpD.mono _) 2 (q := ((11, [some (.inr (.inr (12, 0))), some (.inl x1), some (.inl x2), some (.inr (.inl x3)), none, some (.inl x5)], [.inl (σ.1 12 5), .inl x5]), σ)) rfl ?_
    refine Wp.if2_ge (WpD.mono _) rfl rfl (fun hc => ?_) (fun hc => ?_)
    · have h := (if_pos hc).symm.trans h
      show Wp (WpD (e + 3)) hcX12_wetOf Q (47, [some (.inr (.inr (12, 0))), some (.inl x1), some (.inl x2), some (.inr (.inl x3)), none, some (.inl x5)], []) σ
      refine Wp.run (WpD.mono _) 0 (q := ((48, [some (.inr (.inr (12, 0))), some (.inl x1), some (.inl x2), some (.inr (.inl x3)), none, some (.inl x5)], [.inr (.inl x3)]), σ)) rfl ?_
      obtain ⟨rfl, rfl⟩ := ret_inj h
      exact Wp.ret (WpD.mono _) rfl hQ
    · have h := (if_neg hc).symm.trans h
      show Wp (WpD (e + 3)) hcX12_wetOf Q (14, [some (.inr (.inr (12, 0))), some (.inl x1), some (.inl x2), some (.inr (.inl x3)), none, some (.inl x5)], []) σ
      refine Wp.run (WpD.mono _) 7 (q := ((25, [some (.inr (.inr (12, 0))), some (.inl x1), some (.inl x2), some (.inr (.inl x3)), none, some (.inl x5)], [.inl (((5 : Int32) * x1) + x5), .inr (.inr (102, 0)), .inr (.inl x3)]), σ)) rfl ?_
      obtain ⟨hc, h⟩ := ite_nn h
      refine Wp.X_lld (WpD.mono _) rfl rfl hc ?_
      show Wp (WpD (e + 3)) hcX12_wetOf Q (26, [some (.inr (.inr (12, 0))), some (.inl x1), some (.inl x2), some (.inr (.inl x3)), none, some (.inl x5)], [.inr (.inl (σ.2.2.2.1 102 0 ((((5 : Int32) * x1) + x5)).toNatClampNeg)), .inr (.inl x3)]) σ
      refine Wp.run (WpD.mono _) 2 (q := ((30, [some (.inr (.inr (12, 0))), some (.inl x1), some (.inl x2), some (.inr (.inl x3)), none, some (.inl x5)], [.inl x5, .inl x2, .inr (.inr (12, 0)), .inr (.inl (σ.2.2.2.1 102 0 ((((5 : Int32) * x1) + x5)).toNatClampNeg)), .inr (.inl x3)]), σ)) rfl ?_
      obtain ⟨q1, hb, h⟩ := bind_some h
      refine Wp.call (WpD.mono _) rfl (T_X12_waterOf (e + 0) N x2 x5 σ _ _ _ hb ?_)
      show Wp (WpD (e + 3)) hcX12_wetOf Q (33, [some (.inr (.inr (12, 0))), some (.inl x1), some (.inl x2), some (.inr (.inl x3)), none, some (.inl x5)], [.inl q1.1, .inr (.inl (σ.2.2.2.1 102 0 ((((5 : Int32) * x1) + x5)).toNatClampNeg)), .inr (.inl x3)]) q1.2
      refine Wp.run (WpD.mono _) 7 (q := ((5, [some (.inr (.inr (12, 0))), some (.inl x1), some (.inl x2), some (.inr (.inl (x3 + (((σ.2.2.2.1 102 0 ((((5 : Int32) * x1) + x5)).toNatClampNeg) * q1.1.toInt64) / (100 : Int64))))), none, some (.inl (x5 + (1 : Int32)))], []), q1.2)) rfl ?_
      exact Wp.jump (WpD.mono _) rfl (ih x1 x2 (x3 + (((σ.2.2.2.1 102 0 ((((5 : Int32) * x1) + x5)).toNatClampNeg) * q1.1.toInt64) / (100 : Int64))) (x5 + (1 : Int32)) q1.2 h)

set_option maxRecDepth 100000 in
set_option maxHeartbeats 4000000 in
theorem T_X12_wetOf (e N : Nat)  (a1 : Int32) (a2 : Int32) (σ : Mem) (r : Int64) (τ : Mem) (Q : Pst) (h : F_X12_wetOf N a1 a2 σ = some (r, τ)) (hQ : Q (some (.inr (.inl r))) τ) : WpD (e + 4) mX12_wetOf [.inr (.inr (12, 0)), .inl a1, .inl a2] σ Q := by
  refine WpD.of (d := e + 3) (Nat.le_of_ble_eq_true rfl) (Nat.le_of_ble_eq_true rfl) ?_
  show Wp (WpD (e + 3)) hcX12_wetOf Q (0, [some (.inr (.inr (12, 0))), some (.inl a1), some (.inl a2), none, none, none], []) σ
  unfold F_X12_wetOf at h
  refine Wp.run (WpD.mono _) 3 (q := ((5, [some (.inr (.inr (12, 0))), some (.inl a1), some (.inl a2), some (.inr (.inl (0 : Int64))), none, some (.inl (0 : Int32))], []), σ)) rfl ?_
  exact Wp.jump (WpD.mono _) rfl ((T_X12_wetOf_b5 e N  r τ Q hQ  N) a1 a2 (0 : Int64) (0 : Int32) σ h)

set_option maxRecDepth 100000 in
set_option maxHeartbeats 4000000 in
theorem T_X12_divines_b240 (e N : Nat)   (r : Int64) (τ : Mem) (Q : Pst) (hQ : Q (some (.inr (.inl r))) τ) : ∀ (x8 : Int64) (s0 : Int64) (s1 : Int64) (σ : Mem), F_X12_divines_b240 N x8 s0 s1 σ = some (r, τ) → Wp (WpD (e + 24)) hcX12_divines Q (240, [none, none, none, none, none, none, none, none, some (.inr (.inl x8)), none, none, none, none, none, none, none, none, none, none, none], [.inr (.inl s0), .inr (.inl s1)]) σ := by
  intro x8 s0 s1 σ h
  unfold F_X12_divines_b240 at h
  refine Wp.run (WpD.mono _) 3 (q := ((245, [none, none, none, none, none, none, none, none, some (.inr (.inl x8)), none, none, none, none, none, none, none, none, none, none, none], [.inl (lg_cmp x8 (0 : Int64)), .inr (.inl (s1 + s0))]), σ)) rfl ?_
  refine Wp.if0_ge (WpD.mono _) rfl rfl (fun hc => ?_) (fun hc => ?_)
  · have h := (if_pos hc).symm.trans h
    show Wp (WpD (e + 24)) hcX12_divines Q (252, [none, none, none, none, none, none, none, none, some (.inr (.inl x8)), none, none, none, none, none, none, none, none, none, none, none], [.inr (.inl (s1 + s0))]) σ
    refine Wp.run (WpD.mono _) 1 (q := ((255, [none, none, none, none, none, none, none, none, none, none, none, none, none, none, none, none, none, none, none, none], [.inr (.inl ((s1 + s0) - x8))]), σ)) rfl ?_
    obtain ⟨rfl, rfl⟩ := ret_inj h
    exact Wp.ret (WpD.mono _) rfl hQ
  · have h := (if_neg hc).symm.trans h
    show Wp (WpD (e + 24)) hcX12_divines Q (248, [none, none, none, none, none, none, none, none, some (.inr (.inl x8)), none, none, none, none, none, none, none, none, none, none, none], [.inr (.inl (s1 + s0))]) σ
    refine Wp.run (WpD.mono _) 2 (q := ((255, [none, none, none, none, none, none, none, none, none, none, none, none, none, none, none, none, none, none, none, none], [.inr (.inl ((s1 + s0) - (0 : Int64)))]), σ)) rfl ?_
    obtain ⟨rfl, rfl⟩ := ret_inj h
    exact Wp.ret (WpD.mono _) rfl hQ

set_option maxRecDepth 100000 in
set_option maxHeartbeats 4000000 in
theorem T_X12_divines_b227 (e N : Nat)   (r : Int64) (τ : Mem) (Q : Pst) (hQ : Q (some (.inr (.inl r))) τ) : ∀ (x8 : Int64) (x18 : Int64) (s0 : Int64) (σ : Mem), F_X12_divines_b227 N x8 x18 s0 σ = some (r, τ) → Wp (WpD (e + 24)) hcX12_divines Q (227, [none, none, none, none, none, none, none, none, some (.inr (.inl x8)), none, none, none, none, none, none, none, none, none, some (.inr (.inl x18)), none], [.inr (.inl s0)]) σ := by
  intro x8 x18 s0 σ h
  unfold F_X12_divines_b227 at h
  refine Wp.run (WpD.mono _) 2 (q := ((231, [none, none, none, none, none, none, none, none, some (.inr (.inl x8)), none, none, none, none, none, none, none, none, none, some (.inr (.inl x18)), none], [.inl (lg_cmp x18 (0 : Int64)), .inr (.inl s0)]), σ)) rfl ?_
  refine Wp.if0_ge (WpD.mono _) rfl rfl (fun hc => ?_) (fun hc => ?_)
  · have h := (if_pos hc).symm.trans h
    show Wp (WpD (e + 24)) hcX12_divines Q (238, [none, none, none, none, none, none, none, none, some (.inr (.inl x8)), none, none, none, none, none, none, none, none, none, some (.inr (.inl x18)), none], [.inr (.inl s0)]) σ
    refine Wp.run (WpD.mono _) 0 (q := ((240, [none, none, none, none, none, none, none, none, some (.inr (.inl x8)), none, none, none, none, none, none, none, none, none, some (.inr (.inl x18)), none], [.inr (.inl x18), .inr (.inl s0)]), σ)) rfl ?_
    exact Wp.jump (WpD.mono _) rfl ((T_X12_divines_b240 e N  r τ Q hQ ) x8 x18 s0 σ h)
  · have h := (if_neg hc).symm.trans h
    show Wp (WpD (e + 24)) hcX12_divines Q (234, [none, none, none, none, none, none, none, none, some (.inr (.inl x8)), none, none, none, none, none, none, none, none, none, some (.inr (.inl x18)), none], [.inr (.inl s0)]) σ
    refine Wp.run (WpD.mono _) 1 (q := ((240, [none, none, none, none, none, none, none, none, some (.inr (.inl x8)), none, none, none, none, none, none, none, none, none, some (.inr (.inl x18)), none], [.inr (.inl (0 : Int64)), .inr (.inl s0)]), σ)) rfl ?_
    exact Wp.jump (WpD.mono _) rfl ((T_X12_divines_b240 e N  r τ Q hQ ) x8 (0 : Int64) s0 σ h)

set_option maxRecDepth 100000 in
set_option maxHeartbeats 4000000 in
theorem T_X12_divines_b25 (e N : Nat)   (r : Int64) (τ : Mem) (Q : Pst) (hQ : Q (some (.inr (.inl r))) τ) : ∀ n, ∀ (x2 : Int32) (x3 : Int32) (x4 : Int64) (x6 : Int32) (σ : Mem), F_X12_divines_b25 N n x2 x3 x4 x6 σ = some (r, τ) → Wp (WpD (e + 24)) hcX12_divines Q (25, [some (.inr (.inr (12, 0))), none, some (.inl x2), some (.inl x3), some (.inr (.inl x4)), none, some (.inl x6), none, none, none, none, none, none, none, none, none, none, none, none, none], []) σ := by
  intro n
  induction n with
  | zero => intro x2 x3 x4 x6 σ h; cases h
  | succ n ih =>
    intro x2 x3 x4 x6 σ h
    unfold F_X12_divines_b25 at h
    refine Wp.run (WpD.mono _) 2 (q := ((31, [some (.inr (.inr (12, 0))), none, some (.inl x2), some (.inl x3), some (.inr (.inl x4)), none, some (.inl x6), none, none, none, none, none, none, none, none, none, none, none, none, none], [.inl (σ.1 12 5), .inl x6]), σ)) rfl ?_
    refine Wp.if2_ge (WpD.mono _) rfl rfl (fun hc => ?_) (fun hc => ?_)
    · have h := (if_pos hc).symm.trans h
      show Wp (WpD (e + 24)) hcX12_divines Q (72, [some (.inr (.inr (12, 0))), none, some (.inl x2), some (.inl x3), some (.inr (.inl x4)), none, some (.inl x6), none, none, none, none, none, none, none, none, none, none, none, none, none], []) σ
      refine Wp.run (WpD.mono _) 2 (q := ((77, [some (.inr (.inr (12, 0))), none, some (.inl x2), some (.inl x3), some (.inr (.inl x4)), none, some (.inl x6), none, none, none, none, none, none, none, none, none, none, none, none, none], [.inl x3, .inr (.inr (12, 0)), .inr (.inl (1000000 : Int64))]), σ)) rfl ?_
      obtain ⟨q1, hb, h⟩ := bind_some h
      refine Wp.call (WpD.mono _) rfl (T_X12_costOf (e + 21) N x3 σ _ _ _ hb ?_)
      show Wp (WpD (e + 24)) hcX12_divines Q (80, [some (.inr (.inr (12, 0))), none, some (.inl x2), some (.inl x3), some (.inr (.inl x4)), none, some (.inl x6), none, none, none, none, none, none, none, none, none, none, none, none, none], [.inl q1.1, .inr (.inl (1000000 : Int64))]) q1.2
      refine Wp.run (WpD.mono _) 5 (q := ((87, [some (.inr (.inr (12, 0))), none, some (.inl x2), some (.inl x3), some (.inr (.inl x4)), none, some (.inr (.inl ((1000000 : Int64) * q1.1.toInt64))), none, none, none, none, none, none, none, none, none, none, none, none, none], [.inl (0 : Int32), .inl x3, .inr (.inr (12, 0))]), q1.2)) rfl ?_
      obtain ⟨q2, hb, h⟩ := bind_some h
      refine Wp.call (WpD.mono _) rfl (T_X12_goesOn (e + 0) N x3 (0 : Int32) q1.2 _ _ _ hb ?_)
      show Wp (WpD (e + 24)) hcX12_divines Q (90, [some (.inr (.inr (12, 0))), none, some (.inl x2), some (.inl x3), some (.inr (.inl x4)), none, some (.inr (.inl ((1000000 : Int64) * q1.1.toInt64))), none, none, none, none, none, none, none, none, none, none, none, none, none], [.inr (.inl q2.1)]) q2.2
      refine Wp.run (WpD.mono _) 9 (q := ((105, [some (.inr (.inr (12, 0))), none, some (.inl x2), some (.inl x3), some (.inr (.inl x4)), none, some (.inr (.inl ((1000000 : Int64) * q1.1.toInt64))), none, some (.inr (.inl q2.1)), none, some (.inr (.inl ((q2.1 - x4) + ((1000000 : Int64) * q1.1.toInt64)))), none, none, none, none, none, none, none, none, none], [.inl x3, .inl (0 : Int32), .inr (.inr (12, 0))]), q2.2)) rfl ?_
      obtain ⟨q3, hb, h⟩ := bind_some h
      refine Wp.call (WpD.mono _) rfl (T_X12_wetOf (e + 20) N (0 : Int32) x3 q2.2 _ _ _ hb ?_)
      show Wp (WpD (e + 24)) hcX12_divines Q (108, [some (.inr (.inr (12, 0))), none, some (.inl x2), some (.inl x3), some (.inr (.inl x4)), none, some (.inr (.inl ((1000000 : Int64) * q1.1.toInt64))), none, some (.inr (.inl q2.1)), none, some (.inr (.inl ((q2.1 - x4) + ((1000000 : Int64) * q1.1.toInt64)))), none, none, none, none, none, none, none, none, none], [.inr (.inl q3.1)]) q3.2
      refine Wp.run (WpD.mono _) 68 (q := ((218, [some (.inr (.inr (12, 0))), none, some (.inl x2), some (.inl x3), some (.inr (.inl x4)), none, some (.inr (.inl ((1000000 : Int64) * q1.1.toInt64))), none, some (.inr (.inl q2.1)), none, some (.inr (.inl ((q2.1 - x4) + ((1000000 : Int64) * q1.1.toInt64)))), none, some (.inr (.inl q3.1)), none, some (.inr (.inl ((100 : Int64) - x2.toInt64))), none, some (.inr (.inl ((((x4 * x2.toInt64) / (100 : Int64)) + ((((q2.1 - x4) + ((1000000 : Int64) * q1.1.toInt64)) * ((100 : Int64) - x2.toInt64)) / (100 : Int64))) - (((((1000000 : Int64) * q1.1.toInt64) * ((q3.1 * x2.toInt64) + (((1000000 : Int64) - q3.1) * ((100 : Int64) - x2.toInt64)))) / (100 : Int64)) / (1000000 : Int64))))), none, some (.inr (.inl ((((x4 * ((100 : Int64) - x2.toInt64)) / (100 : Int64)) + ((((q2.1 - x4) + ((1000000 : Int64) * q1.1.toInt64)) * x2.toInt64) / (100 : Int64))) - (((((1000000 : Int64) * q1.1.toInt64) * ((q3.1 * ((100 : Int64) - x2.toInt64)) + (((1000000 : Int64) - q3.1) * x2.toInt64))) / (100 : Int64)) / (1000000 : Int64))))), none], [.inl (lg_cmp ((((x4 * x2.toInt64) / (100 : Int64)) + ((((q2.1 - x4) + ((1000000 : Int64) * q1.1.toInt64)) * ((100 : Int64) - x2.toInt64)) / (100 : Int64))) - (((((1000000 : Int64) * q1.1.toInt64) * ((q3.1 * x2.toInt64) + (((1000000 : Int64) - q3.1) * ((100 : Int64) - x2.toInt64)))) / (100 : Int64)) / (1000000 : Int64))) (0 : Int64))]), q3.2)) rfl ?_
      refine Wp.if0_ge (WpD.mono _) rfl rfl (fun hc => ?_) (fun hc => ?_)
      · have h := (if_pos hc).symm.trans h
        show Wp (WpD (e + 24)) hcX12_divines Q (225, [some (.inr (.inr (12, 0))), none, some (.inl x2), some (.inl x3), some (.inr (.inl x4)), none, some (.inr (.inl ((1000000 : Int64) * q1.1.toInt64))), none, some (.inr (.inl q2.1)), none, some (.inr (.inl ((q2.1 - x4) + ((1000000 : Int64) * q1.1.toInt64)))), none, some (.inr (.inl q3.1)), none, some (.inr (.inl ((100 : Int64) - x2.toInt64))), none, some (.inr (.inl ((((x4 * x2.toInt64) / (100 : Int64)) + ((((q2.1 - x4) + ((1000000 : Int64) * q1.1.toInt64)) * ((100 : Int64) - x2.toInt64)) / (100 : Int64))) - (((((1000000 : Int64) * q1.1.toInt64) * ((q3.1 * x2.toInt64) + (((1000000 : Int64) - q3.1) * ((100 : Int64) - x2.toInt64)))) / (100 : Int64)) / (1000000 : Int64))))), none, some (.inr (.inl ((((x4 * ((100 : Int64) - x2.toInt64)) / (100 : Int64)) + ((((q2.1 - x4) + ((1000000 : Int64) * q1.1.toInt64)) * x2.toInt64) / (100 : Int64))) - (((((1000000 : Int64) * q1.1.toInt64) * ((q3.1 * ((100 : Int64) - x2.toInt64)) + (((1000000 : Int64) - q3.1) * x2.toInt64))) / (100 : Int64)) / (1000000 : Int64))))), none], []) q3.2
        refine Wp.run (WpD.mono _) 0 (q := ((227, [some (.inr (.inr (12, 0))), none, some (.inl x2), some (.inl x3), some (.inr (.inl x4)), none, some (.inr (.inl ((1000000 : Int64) * q1.1.toInt64))), none, some (.inr (.inl q2.1)), none, some (.inr (.inl ((q2.1 - x4) + ((1000000 : Int64) * q1.1.toInt64)))), none, some (.inr (.inl q3.1)), none, some (.inr (.inl ((100 : Int64) - x2.toInt64))), none, some (.inr (.inl ((((x4 * x2.toInt64) / (100 : Int64)) + ((((q2.1 - x4) + ((1000000 : Int64) * q1.1.toInt64)) * ((100 : Int64) - x2.toInt64)) / (100 : Int64))) - (((((1000000 : Int64) * q1.1.toInt64) * ((q3.1 * x2.toInt64) + (((1000000 : Int64) - q3.1) * ((100 : Int64) - x2.toInt64)))) / (100 : Int64)) / (1000000 : Int64))))), none, some (.inr (.inl ((((x4 * ((100 : Int64) - x2.toInt64)) / (100 : Int64)) + ((((q2.1 - x4) + ((1000000 : Int64) * q1.1.toInt64)) * x2.toInt64) / (100 : Int64))) - (((((1000000 : Int64) * q1.1.toInt64) * ((q3.1 * ((100 : Int64) - x2.toInt64)) + (((1000000 : Int64) - q3.1) * x2.toInt64))) / (100 : Int64)) / (1000000 : Int64))))), none], [.inr (.inl ((((x4 * x2.toInt64) / (100 : Int64)) + ((((q2.1 - x4) + ((1000000 : Int64) * q1.1.toInt64)) * ((100 : Int64) - x2.toInt64)) / (100 : Int64))) - (((((1000000 : Int64) * q1.1.toInt64) * ((q3.1 * x2.toInt64) + (((1000000 : Int64) - q3.1) * ((100 : Int64) - x2.toInt64)))) / (100 : Int64)) / (1000000 : Int64))))]), q3.2)) rfl ?_
        exact Wp.jump (WpD.mono _) rfl ((T_X12_divines_b227 e N  r τ Q hQ ) q2.1 ((((x4 * ((100 : Int64) - x2.toInt64)) / (100 : Int64)) + ((((q2.1 - x4) + ((1000000 : Int64) * q1.1.toInt64)) * x2.toInt64) / (100 : Int64))) - (((((1000000 : Int64) * q1.1.toInt64) * ((q3.1 * ((100 : Int64) - x2.toInt64)) + (((1000000 : Int64) - q3.1) * x2.toInt64))) / (100 : Int64)) / (1000000 : Int64))) ((((x4 * x2.toInt64) / (100 : Int64)) + ((((q2.1 - x4) + ((1000000 : Int64) * q1.1.toInt64)) * ((100 : Int64) - x2.toInt64)) / (100 : Int64))) - (((((1000000 : Int64) * q1.1.toInt64) * ((q3.1 * x2.toInt64) + (((1000000 : Int64) - q3.1) * ((100 : Int64) - x2.toInt64)))) / (100 : Int64)) / (1000000 : Int64))) q3.2 h)
      · have h := (if_neg hc).symm.trans h
        show Wp (WpD (e + 24)) hcX12_divines Q (221, [some (.inr (.inr (12, 0))), none, some (.inl x2), some (.inl x3), some (.inr (.inl x4)), none, some (.inr (.inl ((1000000 : Int64) * q1.1.toInt64))), none, some (.inr (.inl q2.1)), none, some (.inr (.inl ((q2.1 - x4) + ((1000000 : Int64) * q1.1.toInt64)))), none, some (.inr (.inl q3.1)), none, some (.inr (.inl ((100 : Int64) - x2.toInt64))), none, some (.inr (.inl ((((x4 * x2.toInt64) / (100 : Int64)) + ((((q2.1 - x4) + ((1000000 : Int64) * q1.1.toInt64)) * ((100 : Int64) - x2.toInt64)) / (100 : Int64))) - (((((1000000 : Int64) * q1.1.toInt64) * ((q3.1 * x2.toInt64) + (((1000000 : Int64) - q3.1) * ((100 : Int64) - x2.toInt64)))) / (100 : Int64)) / (1000000 : Int64))))), none, some (.inr (.inl ((((x4 * ((100 : Int64) - x2.toInt64)) / (100 : Int64)) + ((((q2.1 - x4) + ((1000000 : Int64) * q1.1.toInt64)) * x2.toInt64) / (100 : Int64))) - (((((1000000 : Int64) * q1.1.toInt64) * ((q3.1 * ((100 : Int64) - x2.toInt64)) + (((1000000 : Int64) - q3.1) * x2.toInt64))) / (100 : Int64)) / (1000000 : Int64))))), none], []) q3.2
        refine Wp.run (WpD.mono _) 1 (q := ((227, [some (.inr (.inr (12, 0))), none, some (.inl x2), some (.inl x3), some (.inr (.inl x4)), none, some (.inr (.inl ((1000000 : Int64) * q1.1.toInt64))), none, some (.inr (.inl q2.1)), none, some (.inr (.inl ((q2.1 - x4) + ((1000000 : Int64) * q1.1.toInt64)))), none, some (.inr (.inl q3.1)), none, some (.inr (.inl ((100 : Int64) - x2.toInt64))), none, some (.inr (.inl ((((x4 * x2.toInt64) / (100 : Int64)) + ((((q2.1 - x4) + ((1000000 : Int64) * q1.1.toInt64)) * ((100 : Int64) - x2.toInt64)) / (100 : Int64))) - (((((1000000 : Int64) * q1.1.toInt64) * ((q3.1 * x2.toInt64) + (((1000000 : Int64) - q3.1) * ((100 : Int64) - x2.toInt64)))) / (100 : Int64)) / (1000000 : Int64))))), none, some (.inr (.inl ((((x4 * ((100 : Int64) - x2.toInt64)) / (100 : Int64)) + ((((q2.1 - x4) + ((1000000 : Int64) * q1.1.toInt64)) * x2.toInt64) / (100 : Int64))) - (((((1000000 : Int64) * q1.1.toInt64) * ((q3.1 * ((100 : Int64) - x2.toInt64)) + (((1000000 : Int64) - q3.1) * x2.toInt64))) / (100 : Int64)) / (1000000 : Int64))))), none], [.inr (.inl (0 : Int64))]), q3.2)) rfl ?_
        exact Wp.jump (WpD.mono _) rfl ((T_X12_divines_b227 e N  r τ Q hQ ) q2.1 ((((x4 * ((100 : Int64) - x2.toInt64)) / (100 : Int64)) + ((((q2.1 - x4) + ((1000000 : Int64) * q1.1.toInt64)) * x2.toInt64) / (100 : Int64))) - (((((1000000 : Int64) * q1.1.toInt64) * ((q3.1 * ((100 : Int64) - x2.toInt64)) + (((1000000 : Int64) - q3.1) * x2.toInt64))) / (100 : Int64)) / (1000000 : Int64))) (0 : Int64) q3.2 h)
    · have h := (if_neg hc).symm.trans h
      show Wp (WpD (e + 24)) hcX12_divines Q (34, [some (.inr (.inr (12, 0))), none, some (.inl x2), some (.inl x3), some (.inr (.inl x4)), none, some (.inl x6), none, none, none, none, none, none, none, none, none, none, none, none, none], []) σ
      refine Wp.run (WpD.mono _) 3 (q := ((42, [some (.inr (.inr (12, 0))), none, some (.inl x2), some (.inl x3), some (.inr (.inl x4)), none, some (.inl x6), none, none, none, none, none, none, none, none, none, none, none, none, none], [.inl x6, .inr (.inr (102, 0)), .inr (.inl x4)]), σ)) rfl ?_
      obtain ⟨hc, h⟩ := ite_nn h
      refine Wp.X_lld (WpD.mono _) rfl rfl hc ?_
      show Wp (WpD (e + 24)) hcX12_divines Q (43, [some (.inr (.inr (12, 0))), none, some (.inl x2), some (.inl x3), some (.inr (.inl x4)), none, some (.inl x6), none, none, none, none, none, none, none, none, none, none, none, none, none], [.inr (.inl (σ.2.2.2.1 102 0 (x6).toNatClampNeg)), .inr (.inl x4)]) σ
      refine Wp.run (WpD.mono _) 2 (q := ((47, [some (.inr (.inr (12, 0))), none, some (.inl x2), some (.inl x3), some (.inr (.inl x4)), none, some (.inl x6), none, none, none, none, none, none, none, none, none, none, none, none, none], [.inl x6, .inl x3, .inr (.inr (12, 0)), .inr (.inl (σ.2.2.2.1 102 0 (x6).toNatClampNeg)), .inr (.inl x4)]), σ)) rfl ?_
      obtain ⟨q4, hb, h⟩ := bind_some h
      refine Wp.call (WpD.mono _) rfl (T_X12_waterOf (e + 21) N x3 x6 σ _ _ _ hb ?_)
      show Wp (WpD (e + 24)) hcX12_divines Q (50, [some (.inr (.inr (12, 0))), none, some (.inl x2), some (.inl x3), some (.inr (.inl x4)), none, some (.inl x6), none, none, none, none, none, none, none, none, none, none, none, none, none], [.inl q4.1, .inr (.inl (σ.2.2.2.1 102 0 (x6).toNatClampNeg)), .inr (.inl x4)]) q4.2
      refine Wp.run (WpD.mono _) 5 (q := ((59, [some (.inr (.inr (12, 0))), none, some (.inl x2), some (.inl x3), some (.inr (.inl x4)), none, some (.inl x6), none, none, none, none, none, none, none, none, none, none, none, none, none], [.inl x6, .inr (.inr (12, 0)), .inr (.inl (((σ.2.2.2.1 102 0 (x6).toNatClampNeg) * q4.1.toInt64) / (100 : Int64))), .inr (.inl x4)]), q4.2)) rfl ?_
      obtain ⟨q5, hb, h⟩ := bind_some h
      refine Wp.call (WpD.mono _) rfl (T_X12_worthOf (e + 23) N x6 q4.2 _ _ _ hb ?_)
      show Wp (WpD (e + 24)) hcX12_divines Q (62, [some (.inr (.inr (12, 0))), none, some (.inl x2), some (.inl x3), some (.inr (.inl x4)), none, some (.inl x6), none, none, none, none, none, none, none, none, none, none, none, none, none], [.inr (.inl q5.1), .inr (.inl (((σ.2.2.2.1 102 0 (x6).toNatClampNeg) * q4.1.toInt64) / (100 : Int64))), .inr (.inl x4)]) q5.2
      refine Wp.run (WpD.mono _) 4 (q := ((25, [some (.inr (.inr (12, 0))), none, some (.inl x2), some (.inl x3), some (.inr (.inl (x4 + ((((σ.2.2.2.1 102 0 (x6).toNatClampNeg) * q4.1.toInt64) / (100 : Int64)) * q5.1)))), none, some (.inl (x6 + (1 : Int32))), none, none, none, none, none, none, none, none, none, none, none, none, none], []), q5.2)) rfl ?_
      exact Wp.jump (WpD.mono _) rfl (ih x2 x3 (x4 + ((((σ.2.2.2.1 102 0 (x6).toNatClampNeg) * q4.1.toInt64) / (100 : Int64)) * q5.1)) (x6 + (1 : Int32)) q5.2 h)

set_option maxRecDepth 100000 in
set_option maxHeartbeats 4000000 in
theorem T_X12_divines (e N : Nat)  (a1 : Int32) (a2 : Int32) (σ : Mem) (r : Int64) (τ : Mem) (Q : Pst) (h : F_X12_divines N a1 a2 σ = some (r, τ)) (hQ : Q (some (.inr (.inl r))) τ) : WpD (e + 25) mX12_divines [.inr (.inr (12, 0)), .inl a1, .inl a2] σ Q := by
  refine WpD.of (d := e + 24) (Nat.le_of_ble_eq_true rfl) (Nat.le_of_ble_eq_true rfl) ?_
  show Wp (WpD (e + 24)) hcX12_divines Q (0, [some (.inr (.inr (12, 0))), some (.inl a1), some (.inl a2), none, none, none, none, none, none, none, none, none, none, none, none, none, none, none, none, none], []) σ
  unfold F_X12_divines at h
  refine Wp.run (WpD.mono _) 2 (q := ((5, [some (.inr (.inr (12, 0))), some (.inl a1), some (.inl a2), none, none, none, none, none, none, none, none, none, none, none, none, none, none, none, none, none], [.inl a1, .inr (.inr (77, 0))]), σ)) rfl ?_
  obtain ⟨hc, h⟩ := ite_nn h
  refine Wp.X_ild1 (WpD.mono _) rfl rfl hc ?_
  show Wp (WpD (e + 24)) hcX12_divines Q (6, [some (.inr (.inr (12, 0))), some (.inl a1), some (.inl a2), none, none, none, none, none, none, none, none, none, none, none, none, none, none, none, none, none], [.inl (σ.2.2.1 77 0 (a1).toNatClampNeg)]) σ
  refine Wp.run (WpD.mono _) 5 (q := ((14, [some (.inr (.inr (12, 0))), some (.inl a1), some (.inl a2), some (.inl ((σ.2.2.1 77 0 (a1).toNatClampNeg) + (1 : Int32))), none, none, none, none, none, none, none, none, none, none, none, none, none, none, none, none], [.inl (σ.1 12 0), .inl ((σ.2.2.1 77 0 (a1).toNatClampNeg) + (1 : Int32))]), σ)) rfl ?_
  refine Wp.if2_le (WpD.mono _) rfl rfl (fun hc => ?_) (fun hc => ?_)
  · have h := (if_pos hc).symm.trans h
    show Wp (WpD (e + 24)) hcX12_divines Q (19, [some (.inr (.inr (12, 0))), some (.inl a1), some (.inl a2), some (.inl ((σ.2.2.1 77 0 (a1).toNatClampNeg) + (1 : Int32))), none, none, none, none, none, none, none, none, none, none, none, none, none, none, none, none], []) σ
    refine Wp.run (WpD.mono _) 3 (q := ((25, [some (.inr (.inr (12, 0))), some (.inl a1), some (.inl a2), some (.inl ((σ.2.2.1 77 0 (a1).toNatClampNeg) + (1 : Int32))), some (.inr (.inl (0 : Int64))), none, some (.inl (0 : Int32)), none, none, none, none, none, none, none, none, none, none, none, none, none], []), σ)) rfl ?_
    exact Wp.jump (WpD.mono _) rfl ((T_X12_divines_b25 e N  r τ Q hQ  N) a2 ((σ.2.2.1 77 0 (a1).toNatClampNeg) + (1 : Int32)) (0 : Int64) (0 : Int32) σ h)
  · have h := (if_neg hc).symm.trans h
    show Wp (WpD (e + 24)) hcX12_divines Q (17, [some (.inr (.inr (12, 0))), some (.inl a1), some (.inl a2), some (.inl ((σ.2.2.1 77 0 (a1).toNatClampNeg) + (1 : Int32))), none, none, none, none, none, none, none, none, none, none, none, none, none, none, none, none], []) σ
    refine Wp.run (WpD.mono _) 0 (q := ((18, [some (.inr (.inr (12, 0))), some (.inl a1), some (.inl a2), some (.inl ((σ.2.2.1 77 0 (a1).toNatClampNeg) + (1 : Int32))), none, none, none, none, none, none, none, none, none, none, none, none, none, none, none, none], [.inr (.inl (0 : Int64))]), σ)) rfl ?_
    obtain ⟨rfl, rfl⟩ := ret_inj h
    exact Wp.ret (WpD.mono _) rfl hQ

set_option maxRecDepth 100000 in
set_option maxHeartbeats 4000000 in
theorem T_X12_believe_b25 (e N : Nat)   (r : Int32) (τ : Mem) (Q : Pst) (hQ : Q (some (.inl r)) τ) : ∀ n, ∀ (x1 : Int32) (x2 : Int32) (σ : Mem), F_X12_believe_b25 N n x1 x2 σ = some (r, τ) → Wp (WpD (e + 25)) hcX12_believe Q (25, [some (.inr (.inr (12, 0))), some (.inl x1), some (.inl x2)], []) σ := by
  intro n
  induction n with
  | zero => intro x1 x2 σ h; cases h
  | succ n ih =>
    intro x1 x2 σ h
    unfold F_X12_believe_b25 at h
    refine Wp.run (WpD.mono _) 1 (q := ((28, [some (.inr (.inr (12, 0))), some (.inl x1), some (.inl x2)], [.inl (100 : Int32), .inl x2]), σ)) rfl ?_
    refine Wp.if2_gt (WpD.mono _) rfl rfl (fun hc => ?_) (fun hc => ?_)
    · have h := (if_pos hc).symm.trans h
      show Wp (WpD (e + 25)) hcX12_believe Q (50, [some (.inr (.inr (12, 0))), some (.inl x1), some (.inl x2)], []) σ
      refine Wp.run (WpD.mono _) 0 (q := ((51, [some (.inr (.inr (12, 0))), some (.inl x1), some (.inl x2)], [.inl (Int32.ofInt (-1))]), σ)) rfl ?_
      obtain ⟨rfl, rfl⟩ := ret_inj h
      exact Wp.ret (WpD.mono _) rfl hQ
    · have h := (if_neg hc).symm.trans h
      show Wp (WpD (e + 25)) hcX12_believe Q (31, [some (.inr (.inr (12, 0))), some (.inl x1), some (.inl x2)], []) σ
      refine Wp.run (WpD.mono _) 2 (q := ((34, [some (.inr (.inr (12, 0))), some (.inl x1), some (.inl x2)], [.inl x2, .inl x1, .inr (.inr (12, 0))]), σ)) rfl ?_
      obtain ⟨q3, hb, h⟩ := bind_some h
      refine Wp.call (WpD.mono _) rfl (T_X12_divines (e + 0) N x1 x2 σ _ _ _ hb ?_)
      show Wp (WpD (e + 25)) hcX12_believe Q (37, [some (.inr (.inr (12, 0))), some (.inl x1), some (.inl x2)], [.inr (.inl q3.1)]) q3.2
      refine Wp.run (WpD.mono _) 1 (q := ((39, [some (.inr (.inr (12, 0))), some (.inl x1), some (.inl x2)], [.inl (lg_cmp q3.1 (0 : Int64))]), q3.2)) rfl ?_
      refine Wp.if0_le (WpD.mono _) rfl rfl (fun hc => ?_) (fun hc => ?_)
      · have h := (if_pos hc).symm.trans h
        show Wp (WpD (e + 25)) hcX12_believe Q (44, [some (.inr (.inr (12, 0))), some (.inl x1), some (.inl x2)], []) q3.2
        refine Wp.run (WpD.mono _) 1 (q := ((25, [some (.inr (.inr (12, 0))), some (.inl x1), some (.inl (x2 + (1 : Int32)))], []), q3.2)) rfl ?_
        exact Wp.jump (WpD.mono _) rfl (ih x1 (x2 + (1 : Int32)) q3.2 h)
      · have h := (if_neg hc).symm.trans h
        show Wp (WpD (e + 25)) hcX12_believe Q (42, [some (.inr (.inr (12, 0))), some (.inl x1), some (.inl x2)], []) q3.2
        refine Wp.run (WpD.mono _) 0 (q := ((43, [some (.inr (.inr (12, 0))), some (.inl x1), some (.inl x2)], [.inl x2]), q3.2)) rfl ?_
        obtain ⟨rfl, rfl⟩ := ret_inj h
        exact Wp.ret (WpD.mono _) rfl hQ

set_option maxRecDepth 100000 in
set_option maxHeartbeats 4000000 in
theorem T_X12_believe (e N : Nat)  (a1 : Int32) (σ : Mem) (r : Int32) (τ : Mem) (Q : Pst) (h : F_X12_believe N a1 σ = some (r, τ)) (hQ : Q (some (.inl r)) τ) : WpD (e + 26) mX12_believe [.inr (.inr (12, 0)), .inl a1] σ Q := by
  refine WpD.of (d := e + 25) (Nat.le_of_ble_eq_true rfl) (Nat.le_of_ble_eq_true rfl) ?_
  show Wp (WpD (e + 25)) hcX12_believe Q (0, [some (.inr (.inr (12, 0))), some (.inl a1), none], []) σ
  unfold F_X12_believe at h
  refine Wp.run (WpD.mono _) 1 (q := ((2, [some (.inr (.inr (12, 0))), some (.inl a1), none], [.inl a1, .inr (.inr (12, 0))]), σ)) rfl ?_
  obtain ⟨q1, hb, h⟩ := bind_some h
  refine Wp.call (WpD.mono _) rfl (T_X12_isPlace (e + 23) N a1 σ _ _ _ hb ?_)
  show Wp (WpD (e + 25)) hcX12_believe Q (5, [some (.inr (.inr (12, 0))), some (.inl a1), none], [.inl q1.1]) q1.2
  refine Wp.if0_ne (WpD.mono _) rfl rfl (fun hc => ?_) (fun hc => ?_)
  · have h := (if_pos hc).symm.trans h
    show Wp (WpD (e + 25)) hcX12_believe Q (8, [some (.inr (.inr (12, 0))), some (.inl a1), none], []) q1.2
    refine Wp.run (WpD.mono _) 0 (q := ((10, [some (.inr (.inr (12, 0))), some (.inl a1), none], [.inl (Int32.ofInt (-5))]), q1.2)) rfl ?_
    obtain ⟨rfl, rfl⟩ := ret_inj h
    exact Wp.ret (WpD.mono _) rfl hQ
  · have h := (if_neg hc).symm.trans h
    show Wp (WpD (e + 25)) hcX12_believe Q (11, [some (.inr (.inr (12, 0))), some (.inl a1), none], []) q1.2
    refine Wp.run (WpD.mono _) 1 (q := ((13, [some (.inr (.inr (12, 0))), some (.inl a1), none], [.inl a1, .inr (.inr (12, 0))]), q1.2)) rfl ?_
    obtain ⟨q2, hb, h⟩ := bind_some h
    refine Wp.call (WpD.mono _) rfl (T_X12_goesHere (e + 19) N a1 q1.2 _ _ _ hb ?_)
    show Wp (WpD (e + 25)) hcX12_believe Q (16, [some (.inr (.inr (12, 0))), some (.inl a1), none], [.inl q2.1]) q2.2
    refine Wp.if0_ne (WpD.mono _) rfl rfl (fun hc => ?_) (fun hc => ?_)
    · have h := (if_pos hc).symm.trans h
      show Wp (WpD (e + 25)) hcX12_believe Q (19, [some (.inr (.inr (12, 0))), some (.inl a1), none], []) q2.2
      refine Wp.run (WpD.mono _) 0 (q := ((21, [some (.inr (.inr (12, 0))), some (.inl a1), none], [.inl (Int32.ofInt (-3))]), q2.2)) rfl ?_
      obtain ⟨rfl, rfl⟩ := ret_inj h
      exact Wp.ret (WpD.mono _) rfl hQ
    · have h := (if_neg hc).symm.trans h
      show Wp (WpD (e + 25)) hcX12_believe Q (22, [some (.inr (.inr (12, 0))), some (.inl a1), none], []) q2.2
      refine Wp.run (WpD.mono _) 1 (q := ((25, [some (.inr (.inr (12, 0))), some (.inl a1), some (.inl (50 : Int32))], []), q2.2)) rfl ?_
      exact Wp.jump (WpD.mono _) rfl ((T_X12_believe_b25 e N  r τ Q hQ  N) a1 (50 : Int32) q2.2 h)

set_option maxRecDepth 100000 in
set_option maxHeartbeats 4000000 in
theorem T_X12_best (e N : Nat)  (a1 : Int32) (σ : Mem) (r : Int64) (τ : Mem) (Q : Pst) (h : F_X12_best N a1 σ = some (r, τ)) (hQ : Q (some (.inr (.inl r))) τ) : WpD (e + 25) mX12_best [.inr (.inr (12, 0)), .inl a1] σ Q := by
  refine WpD.of (d := e + 24) (Nat.le_of_ble_eq_true rfl) (Nat.le_of_ble_eq_true rfl) ?_
  show Wp (WpD (e + 24)) hcX12_best Q (0, [some (.inr (.inr (12, 0))), some (.inl a1)], []) σ
  unfold F_X12_best at h
  refine Wp.run (WpD.mono _) 1 (q := ((2, [some (.inr (.inr (12, 0))), some (.inl a1)], [.inl a1, .inr (.inr (12, 0))]), σ)) rfl ?_
  obtain ⟨q1, hb, h⟩ := bind_some h
  refine Wp.call (WpD.mono _) rfl (T_X12_isPlace (e + 22) N a1 σ _ _ _ hb ?_)
  show Wp (WpD (e + 24)) hcX12_best Q (5, [some (.inr (.inr (12, 0))), some (.inl a1)], [.inl q1.1]) q1.2
  refine Wp.if0_ne (WpD.mono _) rfl rfl (fun hc => ?_) (fun hc => ?_)
  · have h := (if_pos hc).symm.trans h
    show Wp (WpD (e + 24)) hcX12_best Q (8, [some (.inr (.inr (12, 0))), some (.inl a1)], []) q1.2
    refine Wp.run (WpD.mono _) 0 (q := ((11, [some (.inr (.inr (12, 0))), some (.inl a1)], [.inr (.inl (Int64.ofInt (-4611686018427387904)))]), q1.2)) rfl ?_
    obtain ⟨rfl, rfl⟩ := ret_inj h
    exact Wp.ret (WpD.mono _) rfl hQ
  · have h := (if_neg hc).symm.trans h
    show Wp (WpD (e + 24)) hcX12_best Q (12, [some (.inr (.inr (12, 0))), some (.inl a1)], []) q1.2
    refine Wp.run (WpD.mono _) 1 (q := ((14, [some (.inr (.inr (12, 0))), some (.inl a1)], [.inl a1, .inr (.inr (12, 0))]), q1.2)) rfl ?_
    obtain ⟨q2, hb, h⟩ := bind_some h
    refine Wp.call (WpD.mono _) rfl (T_X12_goesHere (e + 18) N a1 q1.2 _ _ _ hb ?_)
    show Wp (WpD (e + 24)) hcX12_best Q (17, [some (.inr (.inr (12, 0))), some (.inl a1)], [.inl q2.1]) q2.2
    refine Wp.if0_eq (WpD.mono _) rfl rfl (fun hc => ?_) (fun hc => ?_)
    · have h := (if_pos hc).symm.trans h
      show Wp (WpD (e + 24)) hcX12_best Q (36, [some (.inr (.inr (12, 0))), some (.inl a1)], []) q2.2
      refine Wp.run (WpD.mono _) 0 (q := ((39, [some (.inr (.inr (12, 0))), some (.inl a1)], [.inr (.inl (Int64.ofInt (-3)))]), q2.2)) rfl ?_
      obtain ⟨rfl, rfl⟩ := ret_inj h
      exact Wp.ret (WpD.mono _) rfl hQ
    · have h := (if_neg hc).symm.trans h
      show Wp (WpD (e + 24)) hcX12_best Q (20, [some (.inr (.inr (12, 0))), some (.inl a1)], []) q2.2
      refine Wp.run (WpD.mono _) 3 (q := ((26, [some (.inr (.inr (12, 0))), some (.inl a1)], [.inl a1, .inr (.inr (77, 0)), .inr (.inr (12, 0))]), q2.2)) rfl ?_
      obtain ⟨hc, h⟩ := ite_nn h
      refine Wp.X_ild1 (WpD.mono _) rfl rfl hc ?_
      show Wp (WpD (e + 24)) hcX12_best Q (27, [some (.inr (.inr (12, 0))), some (.inl a1)], [.inl (q2.2.2.2.1 77 0 (a1).toNatClampNeg), .inr (.inr (12, 0))]) q2.2
      refine Wp.run (WpD.mono _) 2 (q := ((30, [some (.inr (.inr (12, 0))), some (.inl a1)], [.inl (0 : Int32), .inl ((q2.2.2.2.1 77 0 (a1).toNatClampNeg) + (1 : Int32)), .inr (.inr (12, 0))]), q2.2)) rfl ?_
      obtain ⟨q3, hb, h⟩ := bind_some h
      refine Wp.call (WpD.mono _) rfl (T_X12_valueOf (e + 0) N ((q2.2.2.2.1 77 0 (a1).toNatClampNeg) + (1 : Int32)) (0 : Int32) q2.2 _ _ _ hb ?_)
      show Wp (WpD (e + 24)) hcX12_best Q (33, [some (.inr (.inr (12, 0))), some (.inl a1)], [.inr (.inl q3.1)]) q3.2
      refine Wp.run (WpD.mono _) 0 (q := ((39, [some (.inr (.inr (12, 0))), some (.inl a1)], [.inr (.inl q3.1)]), q3.2)) rfl ?_
      obtain ⟨rfl, rfl⟩ := ret_inj h
      exact Wp.ret (WpD.mono _) rfl hQ

set_option maxRecDepth 100000 in
set_option maxHeartbeats 4000000 in
theorem T_X12_holds_ (e N : Nat)  (a1 : Int32) (σ : Mem) (r : Unit) (τ : Mem) (Q : Pst) (h : F_X12_holds_ N a1 σ = some (r, τ)) (hQ : Q (none) τ) : WpD (e + 1) mX12_holds_ [.inr (.inr (12, 0)), .inl a1] σ Q := by
  refine WpD.of (d := e + 0) (Nat.le_of_ble_eq_true rfl) (Nat.le_of_ble_eq_true rfl) ?_
  show Wp (WpD (e + 0)) hcX12_holds_ Q (0, [some (.inr (.inr (12, 0))), some (.inl a1)], []) σ
  unfold F_X12_holds_ at h
  refine Wp.run (WpD.mono _) 4 (q := ((9, [some (.inr (.inr (12, 0))), some (.inl a1)], [.inl a1, .inl (σ.1 12 48), .inr (.inr (99, 0))]), σ)) rfl ?_
  obtain ⟨hc, h⟩ := ite_nn h
  refine Wp.X_ist (WpD.mono _) rfl rfl hc ?_
  show Wp (WpD (e + 0)) hcX12_holds_ Q (10, [some (.inr (.inr (12, 0))), some (.inl a1)], []) (σ.1, σ.2.1, (hwU3 σ.2.2.1 99 0 ((σ.1 12 48)).toNatClampNeg a1), σ.2.2.2.1, σ.2.2.2.2)
  refine Wp.run (WpD.mono _) 5 (q := ((20, [some (.inr (.inr (12, 0))), some (.inl a1)], []), ((hwU2 σ.1 12 48 ((σ.1 12 48) + (1 : Int32))), σ.2.1, (hwU3 σ.2.2.1 99 0 ((σ.1 12 48)).toNatClampNeg a1), σ.2.2.2.1, σ.2.2.2.2))) rfl ?_
  obtain ⟨rfl, rfl⟩ := ret_inj h
  exact Wp.ret (WpD.mono _) rfl hQ

set_option maxRecDepth 100000 in
set_option maxHeartbeats 4000000 in
theorem T_X12_rank (e N : Nat)  (a1 : Int32) (σ : Mem) (r : Int32) (τ : Mem) (Q : Pst) (h : F_X12_rank N a1 σ = some (r, τ)) (hQ : Q (some (.inl r)) τ) : WpD (e + 1) mX12_rank [.inl a1] σ Q := by
  refine WpD.of (d := e + 0) (Nat.le_of_ble_eq_true rfl) (Nat.le_of_ble_eq_true rfl) ?_
  show Wp (WpD (e + 0)) hcX12_rank Q (0, [some (.inl a1)], []) σ
  unfold F_X12_rank at h
  refine Wp.run (WpD.mono _) 0 (q := ((1, [some (.inl a1)], [.inl a1]), σ)) rfl ?_
  refine Wp.if0_ne (WpD.mono _) rfl rfl (fun hc => ?_) (fun hc => ?_)
  · have h := (if_pos hc).symm.trans h
    show Wp (WpD (e + 0)) hcX12_rank Q (4, [some (.inl a1)], []) σ
    refine Wp.run (WpD.mono _) 1 (q := ((71, [some (.inl a1)], [.inl (0 : Int32)]), σ)) rfl ?_
    obtain ⟨rfl, rfl⟩ := ret_inj h
    exact Wp.ret (WpD.mono _) rfl hQ
  · have h := (if_neg hc).symm.trans h
    show Wp (WpD (e + 0)) hcX12_rank Q (8, [some (.inl a1)], []) σ
    refine Wp.run (WpD.mono _) 1 (q := ((11, [some (.inl a1)], [.inl (11 : Int32), .inl a1]), σ)) rfl ?_
    refine Wp.if2_ne (WpD.mono _) rfl rfl (fun hc => ?_) (fun hc => ?_)
    · have h := (if_pos hc).symm.trans h
      show Wp (WpD (e + 0)) hcX12_rank Q (14, [some (.inl a1)], []) σ
      refine Wp.run (WpD.mono _) 1 (q := ((71, [some (.inl a1)], [.inl (1 : Int32)]), σ)) rfl ?_
      obtain ⟨rfl, rfl⟩ := ret_inj h
      exact Wp.ret (WpD.mono _) rfl hQ
    · have h := (if_neg hc).symm.trans h
      show Wp (WpD (e + 0)) hcX12_rank Q (18, [some (.inl a1)], []) σ
      refine Wp.run (WpD.mono _) 1 (q := ((21, [some (.inl a1)], [.inl (12 : Int32), .inl a1]), σ)) rfl ?_
      refine Wp.if2_ne (WpD.mono _) rfl rfl (fun hc => ?_) (fun hc => ?_)
      · have h := (if_pos hc).symm.trans h
        show Wp (WpD (e + 0)) hcX12_rank Q (24, [some (.inl a1)], []) σ
        refine Wp.run (WpD.mono _) 1 (q := ((71, [some (.inl a1)], [.inl (2 : Int32)]), σ)) rfl ?_
        obtain ⟨rfl, rfl⟩ := ret_inj h
        exact Wp.ret (WpD.mono _) rfl hQ
      · have h := (if_neg hc).symm.trans h
        show Wp (WpD (e + 0)) hcX12_rank Q (28, [some (.inl a1)], []) σ
        refine Wp.run (WpD.mono _) 1 (q := ((31, [some (.inl a1)], [.inl (13 : Int32), .inl a1]), σ)) rfl ?_
        refine Wp.if2_ne (WpD.mono _) rfl rfl (fun hc => ?_) (fun hc => ?_)
        · have h := (if_pos hc).symm.trans h
          show Wp (WpD (e + 0)) hcX12_rank Q (34, [some (.inl a1)], []) σ
          refine Wp.run (WpD.mono _) 1 (q := ((71, [some (.inl a1)], [.inl (3 : Int32)]), σ)) rfl ?_
          obtain ⟨rfl, rfl⟩ := ret_inj h
          exact Wp.ret (WpD.mono _) rfl hQ
        · have h := (if_neg hc).symm.trans h
          show Wp (WpD (e + 0)) hcX12_rank Q (38, [some (.inl a1)], []) σ
          refine Wp.run (WpD.mono _) 1 (q := ((41, [some (.inl a1)], [.inl (15 : Int32), .inl a1]), σ)) rfl ?_
          refine Wp.if2_gt (WpD.mono _) rfl rfl (fun hc => ?_) (fun hc => ?_)
          · have h := (if_pos hc).symm.trans h
            show Wp (WpD (e + 0)) hcX12_rank Q (48, [some (.inl a1)], []) σ
            refine Wp.run (WpD.mono _) 1 (q := ((51, [some (.inl a1)], [.inl (17 : Int32), .inl a1]), σ)) rfl ?_
            refine Wp.if2_gt (WpD.mono _) rfl rfl (fun hc => ?_) (fun hc => ?_)
            · have h := (if_pos hc).symm.trans h
              show Wp (WpD (e + 0)) hcX12_rank Q (58, [some (.inl a1)], []) σ
              refine Wp.run (WpD.mono _) 1 (q := ((61, [some (.inl a1)], [.inl (18 : Int32), .inl a1]), σ)) rfl ?_
              refine Wp.if2_ne (WpD.mono _) rfl rfl (fun hc => ?_) (fun hc => ?_)
              · have h := (if_pos hc).symm.trans h
                show Wp (WpD (e + 0)) hcX12_rank Q (64, [some (.inl a1)], []) σ
                refine Wp.run (WpD.mono _) 1 (q := ((71, [some (.inl a1)], [.inl (6 : Int32)]), σ)) rfl ?_
                obtain ⟨rfl, rfl⟩ := ret_inj h
                exact Wp.ret (WpD.mono _) rfl hQ
              · have h := (if_neg hc).symm.trans h
                show Wp (WpD (e + 0)) hcX12_rank Q (69, [some (.inl a1)], []) σ
                refine Wp.run (WpD.mono _) 0 (q := ((71, [some (.inl a1)], [.inl (7 : Int32)]), σ)) rfl ?_
                obtain ⟨rfl, rfl⟩ := ret_inj h
                exact Wp.ret (WpD.mono _) rfl hQ
            · have h := (if_neg hc).symm.trans h
              show Wp (WpD (e + 0)) hcX12_rank Q (54, [some (.inl a1)], []) σ
              refine Wp.run (WpD.mono _) 1 (q := ((71, [some (.inl a1)], [.inl (5 : Int32)]), σ)) rfl ?_
              obtain ⟨rfl, rfl⟩ := ret_inj h
              exact Wp.ret (WpD.mono _) rfl hQ
          · have h := (if_neg hc).symm.trans h
            show Wp (WpD (e + 0)) hcX12_rank Q (44, [some (.inl a1)], []) σ
            refine Wp.run (WpD.mono _) 1 (q := ((71, [some (.inl a1)], [.inl (4 : Int32)]), σ)) rfl ?_
            obtain ⟨rfl, rfl⟩ := ret_inj h
            exact Wp.ret (WpD.mono _) rfl hQ

set_option maxRecDepth 100000 in
set_option maxHeartbeats 4000000 in
theorem T_X12_puts (e N : Nat)  (a1 : Int32) (σ : Mem) (r : Unit) (τ : Mem) (Q : Pst) (h : F_X12_puts N a1 σ = some (r, τ)) (hQ : Q (none) τ) : WpD (e + 1) mX12_puts [.inr (.inr (12, 0)), .inl a1] σ Q := by
  refine WpD.of (d := e + 0) (Nat.le_of_ble_eq_true rfl) (Nat.le_of_ble_eq_true rfl) ?_
  show Wp (WpD (e + 0)) hcX12_puts Q (0, [some (.inr (.inr (12, 0))), some (.inl a1)], []) σ
  unfold F_X12_puts at h
  refine Wp.run (WpD.mono _) 9 (q := ((18, [some (.inr (.inr (12, 0))), some (.inl a1)], [.inl a1, .inl (((200 : Int32) * (σ.1 12 27)) + (σ.1 12 50)), .inr (.inr (87, 0))]), σ)) rfl ?_
  obtain ⟨hc, h⟩ := ite_nn h
  refine Wp.X_ist (WpD.mono _) rfl rfl hc ?_
  show Wp (WpD (e + 0)) hcX12_puts Q (19, [some (.inr (.inr (12, 0))), some (.inl a1)], []) (σ.1, σ.2.1, (hwU3 σ.2.2.1 87 0 ((((200 : Int32) * (σ.1 12 27)) + (σ.1 12 50))).toNatClampNeg a1), σ.2.2.2.1, σ.2.2.2.2)
  refine Wp.run (WpD.mono _) 5 (q := ((29, [some (.inr (.inr (12, 0))), some (.inl a1)], []), ((hwU2 σ.1 12 50 ((σ.1 12 50) + (1 : Int32))), σ.2.1, (hwU3 σ.2.2.1 87 0 ((((200 : Int32) * (σ.1 12 27)) + (σ.1 12 50))).toNatClampNeg a1), σ.2.2.2.1, σ.2.2.2.2))) rfl ?_
  obtain ⟨rfl, rfl⟩ := ret_inj h
  exact Wp.ret (WpD.mono _) rfl hQ

set_option maxRecDepth 100000 in
set_option maxHeartbeats 4000000 in
theorem T_X12_unwinds_b67 (e N : Nat)  (k0 : Int32 → Mem → Option (Unit × Mem)) (r : Unit) (τ : Mem) (Q : Pst) (hQ : Q (none) τ) (hk0 : ∀ (x1 : Int32) (σ : Mem), k0 x1 σ = some (r, τ) → Wp (WpD (e + 1)) hcX12_unwinds Q (0, [some (.inr (.inr (12, 0))), some (.inl x1), none], []) σ) : ∀ (x1 : Int32) (x2 : Int32) (s0 : Int32) (s1 : Int32) (σ : Mem), F_X12_unwinds_b67 N k0 x1 x2 s0 s1 σ = some (r, τ) → Wp (WpD (e + 1)) hcX12_unwinds Q (67, [some (.inr (.inr (12, 0))), some (.inl x1), some (.inl x2)], [.inl s0, .inl s1, .inr (.inr (12, 0))]) σ := by
  intro x1 x2 s0 s1 σ h
  unfold F_X12_unwinds_b67 at h
  refine Wp.run (WpD.mono _) 3 (q := ((73, [some (.inr (.inr (12, 0))), some (.inl x1), some (.inl x2)], [.inl x2, .inr (.inr (12, 0))]), ((hwU2 σ.1 12 49 (s1 - s0)), σ.2.1, σ.2.2.1, σ.2.2.2.1, σ.2.2.2.2))) rfl ?_
  obtain ⟨q2, hb, h⟩ := bind_some h
  refine Wp.call (WpD.mono _) rfl (T_X12_puts (e + 0) N x2 ((hwU2 σ.1 12 49 (s1 - s0)), σ.2.1, σ.2.2.1, σ.2.2.2.1, σ.2.2.2.2) _ _ _ hb ?_)
  show Wp (WpD (e + 1)) hcX12_unwinds Q (76, [some (.inr (.inr (12, 0))), some (.inl x1), some (.inl x2)], []) q2.2
  refine Wp.run (WpD.mono _) 0 (q := ((0, [some (.inr (.inr (12, 0))), some (.inl x1), some (.inl x2)], []), q2.2)) rfl ?_
  exact Wp.jump (WpD.mono _) rfl (hk0 x1 q2.2 h)

set_option maxRecDepth 100000 in
set_option maxHeartbeats 4000000 in
theorem T_X12_unwinds_b62 (e N : Nat)  (k67 : Int32 → Int32 → Int32 → Int32 → Mem → Option (Unit × Mem)) (r : Unit) (τ : Mem) (Q : Pst) (hQ : Q (none) τ) (hk67 : ∀ (x1 : Int32) (x2 : Int32) (s0 : Int32) (s1 : Int32) (σ : Mem), k67 x1 x2 s0 s1 σ = some (r, τ) → Wp (WpD (e + 1)) hcX12_unwinds Q (67, [some (.inr (.inr (12, 0))), some (.inl x1), some (.inl x2)], [.inl s0, .inl s1, .inr (.inr (12, 0))]) σ) : ∀ (x1 : Int32) (x2 : Int32) (s0 : Int32) (σ : Mem), F_X12_unwinds_b62 N k67 x1 x2 s0 σ = some (r, τ) → Wp (WpD (e + 1)) hcX12_unwinds Q (62, [some (.inr (.inr (12, 0))), some (.inl x1), some (.inl x2)], [.inl s0, .inr (.inr (12, 0))]) σ := by
  intro x1 x2 s0 σ h
  unfold F_X12_unwinds_b62 at h
  refine Wp.run (WpD.mono _) 1 (q := ((67, [some (.inr (.inr (12, 0))), some (.inl x1), some (.inl x2)], [.inl (1 : Int32), .inl s0, .inr (.inr (12, 0))]), σ)) rfl ?_
  exact Wp.jump (WpD.mono _) rfl (hk67 x1 x2 (1 : Int32) s0 σ h)

set_option maxRecDepth 100000 in
set_option maxHeartbeats 4000000 in
theorem T_X12_unwinds_b0 (e N : Nat)   (r : Unit) (τ : Mem) (Q : Pst) (hQ : Q (none) τ) : ∀ n, ∀ (x1 : Int32) (σ : Mem), F_X12_unwinds_b0 N n x1 σ = some (r, τ) → Wp (WpD (e + 1)) hcX12_unwinds Q (0, [some (.inr (.inr (12, 0))), some (.inl x1), none], []) σ := by
  intro n
  induction n with
  | zero => intro x1 σ h; cases h
  | succ n ih =>
    intro x1 σ h
    unfold F_X12_unwinds_b0 at h
    refine Wp.run (WpD.mono _) 1 (q := ((4, [some (.inr (.inr (12, 0))), some (.inl x1), none], [.inl (σ.1 12 48)]), σ)) rfl ?_
    refine Wp.if0_le (WpD.mono _) rfl rfl (fun hc => ?_) (fun hc => ?_)
    · have h := (if_pos hc).symm.trans h
      show Wp (WpD (e + 1)) hcX12_unwinds Q (79, [some (.inr (.inr (12, 0))), some (.inl x1), none], []) σ
      obtain ⟨rfl, rfl⟩ := ret_inj h
      exact Wp.ret (WpD.mono _) rfl hQ
    · have h := (if_neg hc).symm.trans h
      show Wp (WpD (e + 1)) hcX12_unwinds Q (7, [some (.inr (.inr (12, 0))), some (.inl x1), none], []) σ
      refine Wp.run (WpD.mono _) 5 (q := ((17, [some (.inr (.inr (12, 0))), some (.inl x1), none], [.inl ((σ.1 12 48) - (1 : Int32)), .inr (.inr (99, 0))]), σ)) rfl ?_
      obtain ⟨hc, h⟩ := ite_nn h
      refine Wp.X_ild1 (WpD.mono _) rfl rfl hc ?_
      show Wp (WpD (e + 1)) hcX12_unwinds Q (18, [some (.inr (.inr (12, 0))), some (.inl x1), none], [.inl (σ.2.2.1 99 0 (((σ.1 12 48) - (1 : Int32))).toNatClampNeg)]) σ
      obtain ⟨q1, hb, h⟩ := bind_some h
      refine Wp.call (WpD.mono _) rfl (T_X12_rank (e + 0) N (σ.2.2.1 99 0 (((σ.1 12 48) - (1 : Int32))).toNatClampNeg) σ _ _ _ hb ?_)
      show Wp (WpD (e + 1)) hcX12_unwinds Q (21, [some (.inr (.inr (12, 0))), some (.inl x1), none], [.inl q1.1]) q1.2
      refine Wp.run (WpD.mono _) 0 (q := ((22, [some (.inr (.inr (12, 0))), some (.inl x1), none], [.inl x1, .inl q1.1]), q1.2)) rfl ?_
      refine Wp.if2_lt (WpD.mono _) rfl rfl (fun hc => ?_) (fun hc => ?_)
      · have h := (if_pos hc).symm.trans h
        show Wp (WpD (e + 1)) hcX12_unwinds Q (79, [some (.inr (.inr (12, 0))), some (.inl x1), none], []) q1.2
        obtain ⟨rfl, rfl⟩ := ret_inj h
        exact Wp.ret (WpD.mono _) rfl hQ
      · have h := (if_neg hc).symm.trans h
        show Wp (WpD (e + 1)) hcX12_unwinds Q (25, [some (.inr (.inr (12, 0))), some (.inl x1), none], []) q1.2
        refine Wp.run (WpD.mono _) 9 (q := ((43, [some (.inr (.inr (12, 0))), some (.inl x1), none], [.inl ((q1.2.1 12 48) - (1 : Int32)), .inr (.inr (99, 0))]), ((hwU2 q1.2.1 12 48 ((q1.2.1 12 48) - (1 : Int32))), q1.2.2.1, q1.2.2.2.1, q1.2.2.2.2.1, q1.2.2.2.2.2))) rfl ?_
        obtain ⟨hc, h⟩ := ite_nn h
        refine Wp.X_ild1 (WpD.mono _) rfl rfl hc ?_
        show Wp (WpD (e + 1)) hcX12_unwinds Q (44, [some (.inr (.inr (12, 0))), some (.inl x1), none], [.inl (q1.2.2.2.1 99 0 (((q1.2.1 12 48) - (1 : Int32))).toNatClampNeg)]) ((hwU2 q1.2.1 12 48 ((q1.2.1 12 48) - (1 : Int32))), q1.2.2.1, q1.2.2.2.1, q1.2.2.2.2.1, q1.2.2.2.2.2)
        refine Wp.run (WpD.mono _) 5 (q := ((53, [some (.inr (.inr (12, 0))), some (.inl x1), some (.inl (q1.2.2.2.1 99 0 (((q1.2.1 12 48) - (1 : Int32))).toNatClampNeg))], [.inl (13 : Int32), .inl (q1.2.2.2.1 99 0 (((q1.2.1 12 48) - (1 : Int32))).toNatClampNeg), .inl (q1.2.1 12 49), .inr (.inr (12, 0))]), ((hwU2 q1.2.1 12 48 ((q1.2.1 12 48) - (1 : Int32))), q1.2.2.1, q1.2.2.2.1, q1.2.2.2.2.1, q1.2.2.2.2.2))) rfl ?_
        refine Wp.if2_eq (WpD.mono _) rfl rfl (fun hc => ?_) (fun hc => ?_)
        · have h := (if_pos hc).symm.trans h
          show Wp (WpD (e + 1)) hcX12_unwinds Q (62, [some (.inr (.inr (12, 0))), some (.inl x1), some (.inl (q1.2.2.2.1 99 0 (((q1.2.1 12 48) - (1 : Int32))).toNatClampNeg))], [.inl (q1.2.1 12 49), .inr (.inr (12, 0))]) ((hwU2 q1.2.1 12 48 ((q1.2.1 12 48) - (1 : Int32))), q1.2.2.1, q1.2.2.2.1, q1.2.2.2.2.1, q1.2.2.2.2.2)
          exact Wp.jump (WpD.mono _) rfl ((T_X12_unwinds_b62 e N (F_X12_unwinds_b67 N (F_X12_unwinds_b0 N n)) r τ Q hQ (T_X12_unwinds_b67 e N (F_X12_unwinds_b0 N n) r τ Q hQ ih)) x1 (q1.2.2.2.1 99 0 (((q1.2.1 12 48) - (1 : Int32))).toNatClampNeg) (q1.2.1 12 49) ((hwU2 q1.2.1 12 48 ((q1.2.1 12 48) - (1 : Int32))), q1.2.2.1, q1.2.2.2.1, q1.2.2.2.2.1, q1.2.2.2.2.2) h)
        · have h := (if_neg hc).symm.trans h
          show Wp (WpD (e + 1)) hcX12_unwinds Q (56, [some (.inr (.inr (12, 0))), some (.inl x1), some (.inl (q1.2.2.2.1 99 0 (((q1.2.1 12 48) - (1 : Int32))).toNatClampNeg))], [.inl (q1.2.1 12 49), .inr (.inr (12, 0))]) ((hwU2 q1.2.1 12 48 ((q1.2.1 12 48) - (1 : Int32))), q1.2.2.1, q1.2.2.2.1, q1.2.2.2.2.1, q1.2.2.2.2.2)
          refine Wp.run (WpD.mono _) 1 (q := ((59, [some (.inr (.inr (12, 0))), some (.inl x1), some (.inl (q1.2.2.2.1 99 0 (((q1.2.1 12 48) - (1 : Int32))).toNatClampNeg))], [.inl (19 : Int32), .inl (q1.2.2.2.1 99 0 (((q1.2.1 12 48) - (1 : Int32))).toNatClampNeg), .inl (q1.2.1 12 49), .inr (.inr (12, 0))]), ((hwU2 q1.2.1 12 48 ((q1.2.1 12 48) - (1 : Int32))), q1.2.2.1, q1.2.2.2.1, q1.2.2.2.2.1, q1.2.2.2.2.2))) rfl ?_
          refine Wp.if2_ne (WpD.mono _) rfl rfl (fun hc => ?_) (fun hc => ?_)
          · have h := (if_pos hc).symm.trans h
            show Wp (WpD (e + 1)) hcX12_unwinds Q (62, [some (.inr (.inr (12, 0))), some (.inl x1), some (.inl (q1.2.2.2.1 99 0 (((q1.2.1 12 48) - (1 : Int32))).toNatClampNeg))], [.inl (q1.2.1 12 49), .inr (.inr (12, 0))]) ((hwU2 q1.2.1 12 48 ((q1.2.1 12 48) - (1 : Int32))), q1.2.2.1, q1.2.2.2.1, q1.2.2.2.2.1, q1.2.2.2.2.2)
            exact Wp.jump (WpD.mono _) rfl ((T_X12_unwinds_b62 e N (F_X12_unwinds_b67 N (F_X12_unwinds_b0 N n)) r τ Q hQ (T_X12_unwinds_b67 e N (F_X12_unwinds_b0 N n) r τ Q hQ ih)) x1 (q1.2.2.2.1 99 0 (((q1.2.1 12 48) - (1 : Int32))).toNatClampNeg) (q1.2.1 12 49) ((hwU2 q1.2.1 12 48 ((q1.2.1 12 48) - (1 : Int32))), q1.2.2.1, q1.2.2.2.1, q1.2.2.2.2.1, q1.2.2.2.2.2) h)
          · have h := (if_neg hc).symm.trans h
            show Wp (WpD (e + 1)) hcX12_unwinds Q (66, [some (.inr (.inr (12, 0))), some (.inl x1), some (.inl (q1.2.2.2.1 99 0 (((q1.2.1 12 48) - (1 : Int32))).toNatClampNeg))], [.inl (q1.2.1 12 49), .inr (.inr (12, 0))]) ((hwU2 q1.2.1 12 48 ((q1.2.1 12 48) - (1 : Int32))), q1.2.2.1, q1.2.2.2.1, q1.2.2.2.2.1, q1.2.2.2.2.2)
            refine Wp.run (WpD.mono _) 0 (q := ((67, [some (.inr (.inr (12, 0))), some (.inl x1), some (.inl (q1.2.2.2.1 99 0 (((q1.2.1 12 48) - (1 : Int32))).toNatClampNeg))], [.inl (0 : Int32), .inl (q1.2.1 12 49), .inr (.inr (12, 0))]), ((hwU2 q1.2.1 12 48 ((q1.2.1 12 48) - (1 : Int32))), q1.2.2.1, q1.2.2.2.1, q1.2.2.2.2.1, q1.2.2.2.2.2))) rfl ?_
            exact Wp.jump (WpD.mono _) rfl ((T_X12_unwinds_b67 e N (F_X12_unwinds_b0 N n) r τ Q hQ ih) x1 (q1.2.2.2.1 99 0 (((q1.2.1 12 48) - (1 : Int32))).toNatClampNeg) (0 : Int32) (q1.2.1 12 49) ((hwU2 q1.2.1 12 48 ((q1.2.1 12 48) - (1 : Int32))), q1.2.2.1, q1.2.2.2.1, q1.2.2.2.2.1, q1.2.2.2.2.2) h)

set_option maxRecDepth 100000 in
set_option maxHeartbeats 4000000 in
theorem T_X12_unwinds (e N : Nat)  (a1 : Int32) (σ : Mem) (r : Unit) (τ : Mem) (Q : Pst) (h : F_X12_unwinds N a1 σ = some (r, τ)) (hQ : Q (none) τ) : WpD (e + 2) mX12_unwinds [.inr (.inr (12, 0)), .inl a1] σ Q := by
  refine WpD.of (d := e + 1) (Nat.le_of_ble_eq_true rfl) (Nat.le_of_ble_eq_true rfl) ?_
  show Wp (WpD (e + 1)) hcX12_unwinds Q (0, [some (.inr (.inr (12, 0))), some (.inl a1), none], []) σ
  unfold F_X12_unwinds at h
  exact Wp.jump (WpD.mono _) rfl ((T_X12_unwinds_b0 e N  r τ Q hQ  N) a1 σ h)

set_option maxRecDepth 100000 in
set_option maxHeartbeats 4000000 in
theorem T_X12_between_b55 (e N : Nat)   (r : Int32) (τ : Mem) (Q : Pst) (hQ : Q (some (.inl r)) τ) : ∀ (x1 : Int32) (σ : Mem), F_X12_between_b55 N x1 σ = some (r, τ) → Wp (WpD (e + 2)) hcX12_between Q (55, [some (.inr (.inr (12, 0))), some (.inl x1)], []) σ := by
  intro x1 σ h
  unfold F_X12_between_b55 at h
  refine Wp.run (WpD.mono _) 1 (q := ((57, [some (.inr (.inr (12, 0))), some (.inl x1)], [.inl x1, .inr (.inr (12, 0))]), σ)) rfl ?_
  obtain ⟨q6, hb, h⟩ := bind_some h
  refine Wp.call (WpD.mono _) rfl (T_X12_holds_ (e + 1) N x1 σ _ _ _ hb ?_)
  show Wp (WpD (e + 2)) hcX12_between Q (60, [some (.inr (.inr (12, 0))), some (.inl x1)], []) q6.2
  refine Wp.run (WpD.mono _) 0 (q := ((61, [some (.inr (.inr (12, 0))), some (.inl x1)], [.inl (1 : Int32)]), q6.2)) rfl ?_
  obtain ⟨rfl, rfl⟩ := ret_inj h
  exact Wp.ret (WpD.mono _) rfl hQ

set_option maxRecDepth 100000 in
set_option maxHeartbeats 4000000 in
theorem T_X12_between_b17 (e N : Nat)   (r : Int32) (τ : Mem) (Q : Pst) (hQ : Q (some (.inl r)) τ) : ∀ (x1 : Int32) (s0 : Int32) (σ : Mem), F_X12_between_b17 N x1 s0 σ = some (r, τ) → Wp (WpD (e + 2)) hcX12_between Q (17, [some (.inr (.inr (12, 0))), some (.inl x1)], [.inl s0, .inr (.inr (12, 0))]) σ := by
  intro x1 s0 σ h
  unfold F_X12_between_b17 at h
  obtain ⟨q3, hb, h⟩ := bind_some h
  refine Wp.call (WpD.mono _) rfl (T_X12_unwinds (e + 0) N s0 σ _ _ _ hb ?_)
  show Wp (WpD (e + 2)) hcX12_between Q (20, [some (.inr (.inr (12, 0))), some (.inl x1)], []) q3.2
  refine Wp.run (WpD.mono _) 0 (q := ((21, [some (.inr (.inr (12, 0))), some (.inl x1)], [.inl x1]), q3.2)) rfl ?_
  obtain ⟨q4, hb, h⟩ := bind_some h
  refine Wp.call (WpD.mono _) rfl (T_X12_rank (e + 1) N x1 q3.2 _ _ _ hb ?_)
  show Wp (WpD (e + 2)) hcX12_between Q (24, [some (.inr (.inr (12, 0))), some (.inl x1)], [.inl q4.1]) q4.2
  refine Wp.run (WpD.mono _) 0 (q := ((25, [some (.inr (.inr (12, 0))), some (.inl x1)], [.inl (4 : Int32), .inl q4.1]), q4.2)) rfl ?_
  refine Wp.if2_ne (WpD.mono _) rfl rfl (fun hc => ?_) (fun hc => ?_)
  · have h := (if_pos hc).symm.trans h
    show Wp (WpD (e + 2)) hcX12_between Q (28, [some (.inr (.inr (12, 0))), some (.inl x1)], []) q4.2
    refine Wp.run (WpD.mono _) 1 (q := ((32, [some (.inr (.inr (12, 0))), some (.inl x1)], [.inl (q4.2.1 12 48)]), q4.2)) rfl ?_
    refine Wp.if0_le (WpD.mono _) rfl rfl (fun hc => ?_) (fun hc => ?_)
    · have h := (if_pos hc).symm.trans h
      show Wp (WpD (e + 2)) hcX12_between Q (55, [some (.inr (.inr (12, 0))), some (.inl x1)], []) q4.2
      exact Wp.jump (WpD.mono _) rfl ((T_X12_between_b55 e N  r τ Q hQ ) x1 q4.2 h)
    · have h := (if_neg hc).symm.trans h
      show Wp (WpD (e + 2)) hcX12_between Q (35, [some (.inr (.inr (12, 0))), some (.inl x1)], []) q4.2
      refine Wp.run (WpD.mono _) 5 (q := ((45, [some (.inr (.inr (12, 0))), some (.inl x1)], [.inl ((q4.2.1 12 48) - (1 : Int32)), .inr (.inr (99, 0))]), q4.2)) rfl ?_
      obtain ⟨hc, h⟩ := ite_nn h
      refine Wp.X_ild1 (WpD.mono _) rfl rfl hc ?_
      show Wp (WpD (e + 2)) hcX12_between Q (46, [some (.inr (.inr (12, 0))), some (.inl x1)], [.inl (q4.2.2.2.1 99 0 (((q4.2.1 12 48) - (1 : Int32))).toNatClampNeg)]) q4.2
      obtain ⟨q5, hb, h⟩ := bind_some h
      refine Wp.call (WpD.mono _) rfl (T_X12_rank (e + 1) N (q4.2.2.2.1 99 0 (((q4.2.1 12 48) - (1 : Int32))).toNatClampNeg) q4.2 _ _ _ hb ?_)
      show Wp (WpD (e + 2)) hcX12_between Q (49, [some (.inr (.inr (12, 0))), some (.inl x1)], [.inl q5.1]) q5.2
      refine Wp.run (WpD.mono _) 0 (q := ((50, [some (.inr (.inr (12, 0))), some (.inl x1)], [.inl (4 : Int32), .inl q5.1]), q5.2)) rfl ?_
      refine Wp.if2_ne (WpD.mono _) rfl rfl (fun hc => ?_) (fun hc => ?_)
      · have h := (if_pos hc).symm.trans h
        show Wp (WpD (e + 2)) hcX12_between Q (53, [some (.inr (.inr (12, 0))), some (.inl x1)], []) q5.2
        refine Wp.run (WpD.mono _) 0 (q := ((54, [some (.inr (.inr (12, 0))), some (.inl x1)], [.inl (0 : Int32)]), q5.2)) rfl ?_
        obtain ⟨rfl, rfl⟩ := ret_inj h
        exact Wp.ret (WpD.mono _) rfl hQ
      · have h := (if_neg hc).symm.trans h
        show Wp (WpD (e + 2)) hcX12_between Q (55, [some (.inr (.inr (12, 0))), some (.inl x1)], []) q5.2
        exact Wp.jump (WpD.mono _) rfl ((T_X12_between_b55 e N  r τ Q hQ ) x1 q5.2 h)
  · have h := (if_neg hc).symm.trans h
    show Wp (WpD (e + 2)) hcX12_between Q (55, [some (.inr (.inr (12, 0))), some (.inl x1)], []) q4.2
    exact Wp.jump (WpD.mono _) rfl ((T_X12_between_b55 e N  r τ Q hQ ) x1 q4.2 h)

set_option maxRecDepth 100000 in
set_option maxHeartbeats 4000000 in
theorem T_X12_between (e N : Nat)  (a1 : Int32) (σ : Mem) (r : Int32) (τ : Mem) (Q : Pst) (h : F_X12_between N a1 σ = some (r, τ)) (hQ : Q (some (.inl r)) τ) : WpD (e + 3) mX12_between [.inr (.inr (12, 0)), .inl a1] σ Q := by
  refine WpD.of (d := e + 2) (Nat.le_of_ble_eq_true rfl) (Nat.le_of_ble_eq_true rfl) ?_
  show Wp (WpD (e + 2)) hcX12_between Q (0, [some (.inr (.inr (12, 0))), some (.inl a1)], []) σ
  unfold F_X12_between at h
  refine Wp.run (WpD.mono _) 1 (q := ((2, [some (.inr (.inr (12, 0))), some (.inl a1)], [.inl a1, .inr (.inr (12, 0))]), σ)) rfl ?_
  obtain ⟨q1, hb, h⟩ := bind_some h
  refine Wp.call (WpD.mono _) rfl (T_X12_rank (e + 1) N a1 σ _ _ _ hb ?_)
  show Wp (WpD (e + 2)) hcX12_between Q (5, [some (.inr (.inr (12, 0))), some (.inl a1)], [.inl q1.1, .inr (.inr (12, 0))]) q1.2
  refine Wp.run (WpD.mono _) 0 (q := ((6, [some (.inr (.inr (12, 0))), some (.inl a1)], [.inl (4 : Int32), .inl q1.1, .inr (.inr (12, 0))]), q1.2)) rfl ?_
  refine Wp.if2_ne (WpD.mono _) rfl rfl (fun hc => ?_) (fun hc => ?_)
  · have h := (if_pos hc).symm.trans h
    show Wp (WpD (e + 2)) hcX12_between Q (9, [some (.inr (.inr (12, 0))), some (.inl a1)], [.inr (.inr (12, 0))]) q1.2
    refine Wp.run (WpD.mono _) 1 (q := ((17, [some (.inr (.inr (12, 0))), some (.inl a1)], [.inl (5 : Int32), .inr (.inr (12, 0))]), q1.2)) rfl ?_
    exact Wp.jump (WpD.mono _) rfl ((T_X12_between_b17 e N  r τ Q hQ ) a1 (5 : Int32) q1.2 h)
  · have h := (if_neg hc).symm.trans h
    show Wp (WpD (e + 2)) hcX12_between Q (13, [some (.inr (.inr (12, 0))), some (.inl a1)], [.inr (.inr (12, 0))]) q1.2
    refine Wp.run (WpD.mono _) 0 (q := ((14, [some (.inr (.inr (12, 0))), some (.inl a1)], [.inl a1, .inr (.inr (12, 0))]), q1.2)) rfl ?_
    obtain ⟨q2, hb, h⟩ := bind_some h
    refine Wp.call (WpD.mono _) rfl (T_X12_rank (e + 1) N a1 q1.2 _ _ _ hb ?_)
    show Wp (WpD (e + 2)) hcX12_between Q (17, [some (.inr (.inr (12, 0))), some (.inl a1)], [.inl q2.1, .inr (.inr (12, 0))]) q2.2
    exact Wp.jump (WpD.mono _) rfl ((T_X12_between_b17 e N  r τ Q hQ ) a1 q2.1 q2.2 h)

set_option maxRecDepth 100000 in
set_option maxHeartbeats 4000000 in
theorem T_X12_tells_b131 (e N : Nat) (g0 : Int32 → Int32 → Int32 → Int32 → Mem → Option (Int64 × Mem)) (hg0 : ∀ (a1 : Int32) (a2 : Int32) (a3 : Int32) (a4 : Int32) (σ : Mem) (r : Int64) (τ : Mem) (Q : Pst), g0 a1 a2 a3 a4 σ = some (r, τ) → Q (some (.inr (.inl r))) τ → WpD (e + 24) mX12_tells [.inr (.inr (12, 0)), .inl a1, .inl a2, .inl a3, .inl a4] σ Q)  (r : Int64) (τ : Mem) (Q : Pst) (hQ : Q (some (.inr (.inl r))) τ) : ∀ n, ∀ (x1 : Int32) (x2 : Int32) (x3 : Int32) (x5 : Int32) (x6 : Int64) (x8 : Int32) (σ : Mem), F_X12_tells_b131 N g0 n x1 x2 x3 x5 x6 x8 σ = some (r, τ) → Wp (WpD (e + 24)) hcX12_tells Q (131, [some (.inr (.inr (12, 0))), some (.inl x1), some (.inl x2), some (.inl x3), none, some (.inl x5), some (.inr (.inl x6)), none, some (.inl x8), none, none], []) σ := by
  intro n
  induction n with
  | zero => intro x1 x2 x3 x5 x6 x8 σ h; cases h
  | succ n ih =>
    intro x1 x2 x3 x5 x6 x8 σ h
    unfold F_X12_tells_b131 at h
    refine Wp.run (WpD.mono _) 1 (q := ((134, [some (.inr (.inr (12, 0))), some (.inl x1), some (.inl x2), some (.inl x3), none, some (.inl x5), some (.inr (.inl x6)), none, some (.inl x8), none, none], [.inl (3 : Int32), .inl x8]), σ)) rfl ?_
    refine Wp.if2_ge (WpD.mono _) rfl rfl (fun hc => ?_) (fun hc => ?_)
    · have h := (if_pos hc).symm.trans h
      show Wp (WpD (e + 24)) hcX12_tells Q (194, [some (.inr (.inr (12, 0))), some (.inl x1), some (.inl x2), some (.inl x3), none, some (.inl x5), some (.inr (.inl x6)), none, some (.inl x8), none, none], []) σ
      refine Wp.run (WpD.mono _) 0 (q := ((196, [some (.inr (.inr (12, 0))), some (.inl x1), some (.inl x2), some (.inl x3), none, some (.inl x5), some (.inr (.inl x6)), none, some (.inl x8), none, none], [.inr (.inl x6)]), σ)) rfl ?_
      obtain ⟨rfl, rfl⟩ := ret_inj h
      exact Wp.ret (WpD.mono _) rfl hQ
    · have h := (if_neg hc).symm.trans h
      show Wp (WpD (e + 24)) hcX12_tells Q (137, [some (.inr (.inr (12, 0))), some (.inl x1), some (.inl x2), some (.inl x3), none, some (.inl x5), some (.inr (.inl x6)), none, some (.inl x8), none, none], []) σ
      refine Wp.run (WpD.mono _) 3 (q := ((142, [some (.inr (.inr (12, 0))), some (.inl x1), some (.inl x2), some (.inl x3), none, some (.inl x5), some (.inr (.inl x6)), none, some (.inl x8), none, none], [.inl x8, .inl x1, .inl x2, .inr (.inr (12, 0))]), σ)) rfl ?_
      obtain ⟨q4, hb, h⟩ := bind_some h
      refine Wp.call (WpD.mono _) rfl (T_X12_dries (e + 20) N x2 x1 x8 σ _ _ _ hb ?_)
      show Wp (WpD (e + 24)) hcX12_tells Q (145, [some (.inr (.inr (12, 0))), some (.inl x1), some (.inl x2), some (.inl x3), none, some (.inl x5), some (.inr (.inl x6)), none, some (.inl x8), none, none], [.inr (.inl q4.1)]) q4.2
      refine Wp.run (WpD.mono _) 3 (q := ((151, [some (.inr (.inr (12, 0))), some (.inl x1), some (.inl x2), some (.inl x3), none, some (.inl x5), some (.inr (.inl x6)), none, some (.inl x8), some (.inr (.inl q4.1)), none], [.inl (lg_cmp q4.1 (0 : Int64))]), q4.2)) rfl ?_
      refine Wp.if0_le (WpD.mono _) rfl rfl (fun hc => ?_) (fun hc => ?_)
      · have h := (if_pos hc).symm.trans h
        show Wp (WpD (e + 24)) hcX12_tells Q (188, [some (.inr (.inr (12, 0))), some (.inl x1), some (.inl x2), some (.inl x3), none, some (.inl x5), some (.inr (.inl x6)), none, some (.inl x8), some (.inr (.inl q4.1)), none], []) q4.2
        refine Wp.run (WpD.mono _) 1 (q := ((131, [some (.inr (.inr (12, 0))), some (.inl x1), some (.inl x2), some (.inl x3), none, some (.inl x5), some (.inr (.inl x6)), none, some (.inl (x8 + (1 : Int32))), none, none], []), q4.2)) rfl ?_
        exact Wp.jump (WpD.mono _) rfl (ih x1 x2 x3 x5 x6 (x8 + (1 : Int32)) q4.2 h)
      · have h := (if_neg hc).symm.trans h
        show Wp (WpD (e + 24)) hcX12_tells Q (154, [some (.inr (.inr (12, 0))), some (.inl x1), some (.inl x2), some (.inl x3), none, some (.inl x5), some (.inr (.inl x6)), none, some (.inl x8), some (.inr (.inl q4.1)), none], []) q4.2
        refine Wp.run (WpD.mono _) 2 (q := ((158, [some (.inr (.inr (12, 0))), some (.inl x1), some (.inl x2), some (.inl x3), none, some (.inl x5), some (.inr (.inl x6)), none, some (.inl x8), some (.inr (.inl q4.1)), none], [.inr (.inl q4.1), .inl x2, .inr (.inr (12, 0))]), q4.2)) rfl ?_
        obtain ⟨q5, hb, h⟩ := bind_some h
        refine Wp.call (WpD.mono _) rfl (T_X12_below (e + 22) N x2 q4.1 q4.2 _ _ _ hb ?_)
        show Wp (WpD (e + 24)) hcX12_tells Q (161, [some (.inr (.inr (12, 0))), some (.inl x1), some (.inl x2), some (.inl x3), none, some (.inl x5), some (.inr (.inl x6)), none, some (.inl x8), some (.inr (.inl q4.1)), none], []) q5.2
        refine Wp.run (WpD.mono _) 12 (q := ((177, [some (.inr (.inr (12, 0))), some (.inl x1), some (.inl x2), some (.inl x3), none, some (.inl x5), some (.inr (.inl x6)), none, some (.inl x8), some (.inr (.inl q4.1)), none], [.inl x5, .inl (x3 - (1 : Int32)), .inl (x2 + (1 : Int32)), .inl (x1 + (1 : Int32)), .inr (.inr (12, 0)), .inr (.inl q4.1), .inr (.inl x6)]), q5.2)) rfl ?_
        obtain ⟨q6, hb, h⟩ := bind_some h
        refine Wp.call (WpD.mono _) rfl (hg0 (x1 + (1 : Int32)) (x2 + (1 : Int32)) (x3 - (1 : Int32)) x5 q5.2 _ _ _ hb ?_)
        show Wp (WpD (e + 24)) hcX12_tells Q (180, [some (.inr (.inr (12, 0))), some (.inl x1), some (.inl x2), some (.inl x3), none, some (.inl x5), some (.inr (.inl x6)), none, some (.inl x8), some (.inr (.inl q4.1)), none], [.inr (.inl q6.1), .inr (.inl q4.1), .inr (.inl x6)]) q6.2
        refine Wp.run (WpD.mono _) 6 (q := ((131, [some (.inr (.inr (12, 0))), some (.inl x1), some (.inl x2), some (.inl x3), none, some (.inl x5), some (.inr (.inl (x6 + ((q4.1 * q6.1) / (1000000 : Int64))))), none, some (.inl (x8 + (1 : Int32))), none, none], []), q6.2)) rfl ?_
        exact Wp.jump (WpD.mono _) rfl (ih x1 x2 x3 x5 (x6 + ((q4.1 * q6.1) / (1000000 : Int64))) (x8 + (1 : Int32)) q6.2 h)

set_option maxRecDepth 100000 in
set_option maxHeartbeats 4000000 in
theorem T_X12_tells_b58 (e N : Nat) (g0 : Int32 → Int32 → Int32 → Int32 → Mem → Option (Int64 × Mem)) (hg0 : ∀ (a1 : Int32) (a2 : Int32) (a3 : Int32) (a4 : Int32) (σ : Mem) (r : Int64) (τ : Mem) (Q : Pst), g0 a1 a2 a3 a4 σ = some (r, τ) → Q (some (.inr (.inl r))) τ → WpD (e + 24) mX12_tells [.inr (.inr (12, 0)), .inl a1, .inl a2, .inl a3, .inl a4] σ Q)  (r : Int64) (τ : Mem) (Q : Pst) (hQ : Q (some (.inr (.inl r))) τ) : ∀ n, ∀ (x1 : Int32) (x2 : Int32) (x3 : Int32) (x5 : Int32) (x6 : Int64) (x8 : Int32) (σ : Mem), F_X12_tells_b58 N g0 n x1 x2 x3 x5 x6 x8 σ = some (r, τ) → Wp (WpD (e + 24)) hcX12_tells Q (58, [some (.inr (.inr (12, 0))), some (.inl x1), some (.inl x2), some (.inl x3), none, some (.inl x5), some (.inr (.inl x6)), none, some (.inl x8), none, none], []) σ := by
  intro n
  induction n with
  | zero => intro x1 x2 x3 x5 x6 x8 σ h; cases h
  | succ n ih =>
    intro x1 x2 x3 x5 x6 x8 σ h
    unfold F_X12_tells_b58 at h
    refine Wp.run (WpD.mono _) 2 (q := ((64, [some (.inr (.inr (12, 0))), some (.inl x1), some (.inl x2), some (.inl x3), none, some (.inl x5), some (.inr (.inl x6)), none, some (.inl x8), none, none], [.inl (σ.1 12 5), .inl x8]), σ)) rfl ?_
    refine Wp.if2_ge (WpD.mono _) rfl rfl (fun hc => ?_) (fun hc => ?_)
    · have h := (if_pos hc).symm.trans h
      show Wp (WpD (e + 24)) hcX12_tells Q (128, [some (.inr (.inr (12, 0))), some (.inl x1), some (.inl x2), some (.inl x3), none, some (.inl x5), some (.inr (.inl x6)), none, some (.inl x8), none, none], []) σ
      refine Wp.run (WpD.mono _) 1 (q := ((131, [some (.inr (.inr (12, 0))), some (.inl x1), some (.inl x2), some (.inl x3), none, some (.inl x5), some (.inr (.inl x6)), none, some (.inl (0 : Int32)), none, none], []), σ)) rfl ?_
      exact Wp.jump (WpD.mono _) rfl ((T_X12_tells_b131 e N g0 hg0 r τ Q hQ  N) x1 x2 x3 x5 x6 (0 : Int32) σ h)
    · have h := (if_neg hc).symm.trans h
      show Wp (WpD (e + 24)) hcX12_tells Q (67, [some (.inr (.inr (12, 0))), some (.inl x1), some (.inl x2), some (.inl x3), none, some (.inl x5), some (.inr (.inl x6)), none, some (.inl x8), none, none], []) σ
      refine Wp.run (WpD.mono _) 1 (q := ((70, [some (.inr (.inr (12, 0))), some (.inl x1), some (.inl x2), some (.inl x3), none, some (.inl x5), some (.inr (.inl x6)), none, some (.inl x8), none, none], [.inl x8, .inr (.inr (12, 0))]), σ)) rfl ?_
      obtain ⟨q2, hb, h⟩ := bind_some h
      refine Wp.call (WpD.mono _) rfl (T_X12_worthOf (e + 23) N x8 σ _ _ _ hb ?_)
      show Wp (WpD (e + 24)) hcX12_tells Q (73, [some (.inr (.inr (12, 0))), some (.inl x1), some (.inl x2), some (.inl x3), none, some (.inl x5), some (.inr (.inl x6)), none, some (.inl x8), none, none], [.inr (.inl q2.1)]) q2.2
      refine Wp.run (WpD.mono _) 11 (q := ((91, [some (.inr (.inr (12, 0))), some (.inl x1), some (.inl x2), some (.inl x3), none, some (.inl x5), some (.inr (.inl x6)), none, some (.inl x8), some (.inr (.inl (q2.1 - x5.toInt64))), none], [.inl (((5 : Int32) * x2) + x8), .inr (.inr (102, 0)), .inr (.inl x6)]), q2.2)) rfl ?_
      obtain ⟨hc, h⟩ := ite_nn h
      refine Wp.X_lld (WpD.mono _) rfl rfl hc ?_
      show Wp (WpD (e + 24)) hcX12_tells Q (92, [some (.inr (.inr (12, 0))), some (.inl x1), some (.inl x2), some (.inl x3), none, some (.inl x5), some (.inr (.inl x6)), none, some (.inl x8), some (.inr (.inl (q2.1 - x5.toInt64))), none], [.inr (.inl (q2.2.2.2.2.1 102 0 ((((5 : Int32) * x2) + x8)).toNatClampNeg)), .inr (.inl x6)]) q2.2
      refine Wp.run (WpD.mono _) 2 (q := ((96, [some (.inr (.inr (12, 0))), some (.inl x1), some (.inl x2), some (.inl x3), none, some (.inl x5), some (.inr (.inl x6)), none, some (.inl x8), some (.inr (.inl (q2.1 - x5.toInt64))), none], [.inl x8, .inl x1, .inr (.inr (12, 0)), .inr (.inl (q2.2.2.2.2.1 102 0 ((((5 : Int32) * x2) + x8)).toNatClampNeg)), .inr (.inl x6)]), q2.2)) rfl ?_
      obtain ⟨q3, hb, h⟩ := bind_some h
      refine Wp.call (WpD.mono _) rfl (T_X12_waterOf (e + 21) N x1 x8 q2.2 _ _ _ hb ?_)
      show Wp (WpD (e + 24)) hcX12_tells Q (99, [some (.inr (.inr (12, 0))), some (.inl x1), some (.inl x2), some (.inl x3), none, some (.inl x5), some (.inr (.inl x6)), none, some (.inl x8), some (.inr (.inl (q2.1 - x5.toInt64))), none], [.inl q3.1, .inr (.inl (q2.2.2.2.2.1 102 0 ((((5 : Int32) * x2) + x8)).toNatClampNeg)), .inr (.inl x6)]) q3.2
      refine Wp.run (WpD.mono _) 6 (q := ((109, [some (.inr (.inr (12, 0))), some (.inl x1), some (.inl x2), some (.inl x3), none, some (.inl x5), some (.inr (.inl x6)), none, some (.inl x8), some (.inr (.inl (q2.1 - x5.toInt64))), none], [.inl (lg_cmp (q2.1 - x5.toInt64) (0 : Int64)), .inr (.inl (((q2.2.2.2.2.1 102 0 ((((5 : Int32) * x2) + x8)).toNatClampNeg) * q3.1.toInt64) / (100 : Int64))), .inr (.inl x6)]), q3.2)) rfl ?_
      refine Wp.if0_ge (WpD.mono _) rfl rfl (fun hc => ?_) (fun hc => ?_)
      · have h := (if_pos hc).symm.trans h
        show Wp (WpD (e + 24)) hcX12_tells Q (116, [some (.inr (.inr (12, 0))), some (.inl x1), some (.inl x2), some (.inl x3), none, some (.inl x5), some (.inr (.inl x6)), none, some (.inl x8), some (.inr (.inl (q2.1 - x5.toInt64))), none], [.inr (.inl (((q2.2.2.2.2.1 102 0 ((((5 : Int32) * x2) + x8)).toNatClampNeg) * q3.1.toInt64) / (100 : Int64))), .inr (.inl x6)]) q3.2
        refine Wp.run (WpD.mono _) 5 (q := ((58, [some (.inr (.inr (12, 0))), some (.inl x1), some (.inl x2), some (.inl x3), none, some (.inl x5), some (.inr (.inl (x6 + ((((q2.2.2.2.2.1 102 0 ((((5 : Int32) * x2) + x8)).toNatClampNeg) * q3.1.toInt64) / (100 : Int64)) * (q2.1 - x5.toInt64))))), none, some (.inl (x8 + (1 : Int32))), none, none], []), q3.2)) rfl ?_
        exact Wp.jump (WpD.mono _) rfl (ih x1 x2 x3 x5 (x6 + ((((q2.2.2.2.2.1 102 0 ((((5 : Int32) * x2) + x8)).toNatClampNeg) * q3.1.toInt64) / (100 : Int64)) * (q2.1 - x5.toInt64))) (x8 + (1 : Int32)) q3.2 h)
      · have h := (if_neg hc).symm.trans h
        show Wp (WpD (e + 24)) hcX12_tells Q (112, [some (.inr (.inr (12, 0))), some (.inl x1), some (.inl x2), some (.inl x3), none, some (.inl x5), some (.inr (.inl x6)), none, some (.inl x8), some (.inr (.inl (q2.1 - x5.toInt64))), none], [.inr (.inl (((q2.2.2.2.2.1 102 0 ((((5 : Int32) * x2) + x8)).toNatClampNeg) * q3.1.toInt64) / (100 : Int64))), .inr (.inl x6)]) q3.2
        refine Wp.run (WpD.mono _) 6 (q := ((58, [some (.inr (.inr (12, 0))), some (.inl x1), some (.inl x2), some (.inl x3), none, some (.inl x5), some (.inr (.inl (x6 + ((((q2.2.2.2.2.1 102 0 ((((5 : Int32) * x2) + x8)).toNatClampNeg) * q3.1.toInt64) / (100 : Int64)) * (0 : Int64))))), none, some (.inl (x8 + (1 : Int32))), none, none], []), q3.2)) rfl ?_
        exact Wp.jump (WpD.mono _) rfl (ih x1 x2 x3 x5 (x6 + ((((q2.2.2.2.2.1 102 0 ((((5 : Int32) * x2) + x8)).toNatClampNeg) * q3.1.toInt64) / (100 : Int64)) * (0 : Int64))) (x8 + (1 : Int32)) q3.2 h)

set_option maxRecDepth 100000 in
set_option maxHeartbeats 4000000 in
theorem T_X12_tells_b12 (e N : Nat) (g0 : Int32 → Int32 → Int32 → Int32 → Mem → Option (Int64 × Mem)) (hg0 : ∀ (a1 : Int32) (a2 : Int32) (a3 : Int32) (a4 : Int32) (σ : Mem) (r : Int64) (τ : Mem) (Q : Pst), g0 a1 a2 a3 a4 σ = some (r, τ) → Q (some (.inr (.inl r))) τ → WpD (e + 24) mX12_tells [.inr (.inr (12, 0)), .inl a1, .inl a2, .inl a3, .inl a4] σ Q)  (r : Int64) (τ : Mem) (Q : Pst) (hQ : Q (some (.inr (.inl r))) τ) : ∀ (x1 : Int32) (x2 : Int32) (x4 : Int32) (σ : Mem), F_X12_tells_b12 N g0 x1 x2 x4 σ = some (r, τ) → Wp (WpD (e + 24)) hcX12_tells Q (12, [some (.inr (.inr (12, 0))), some (.inl x1), some (.inl x2), none, some (.inl x4), none, none, none, none, none, none], []) σ := by
  intro x1 x2 x4 σ h
  unfold F_X12_tells_b12 at h
  refine Wp.run (WpD.mono _) 2 (q := ((15, [some (.inr (.inr (12, 0))), some (.inl x1), some (.inl x2), none, some (.inl x4), none, none, none, none, none, none], [.inl x2, .inl x1, .inr (.inr (12, 0))]), σ)) rfl ?_
  obtain ⟨q7, hb, h⟩ := bind_some h
  refine Wp.call (WpD.mono _) rfl (T_X12_valueOf (e + 0) N x1 x2 σ _ _ _ hb ?_)
  show Wp (WpD (e + 24)) hcX12_tells Q (18, [some (.inr (.inr (12, 0))), some (.inl x1), some (.inl x2), none, some (.inl x4), none, none, none, none, none, none], [.inr (.inl q7.1)]) q7.2
  refine Wp.run (WpD.mono _) 8 (q := ((32, [some (.inr (.inr (12, 0))), some (.inl x1), some (.inl x2), none, some (.inl x4), some (.inr (.inl (q7.1 - ((1000000 : Int64) * x4.toInt64)))), none, none, none, none, none], [.inl (lg_cmp (q7.1 - ((1000000 : Int64) * x4.toInt64)) (0 : Int64))]), q7.2)) rfl ?_
  refine Wp.if0_ge (WpD.mono _) rfl rfl (fun hc => ?_) (fun hc => ?_)
  · have h := (if_pos hc).symm.trans h
    show Wp (WpD (e + 24)) hcX12_tells Q (39, [some (.inr (.inr (12, 0))), some (.inl x1), some (.inl x2), none, some (.inl x4), some (.inr (.inl (q7.1 - ((1000000 : Int64) * x4.toInt64)))), none, none, none, none, none], []) q7.2
    refine Wp.run (WpD.mono _) 0 (q := ((41, [some (.inr (.inr (12, 0))), some (.inl x1), some (.inl x2), none, some (.inl x4), some (.inr (.inl (q7.1 - ((1000000 : Int64) * x4.toInt64)))), none, none, none, none, none], [.inr (.inl (q7.1 - ((1000000 : Int64) * x4.toInt64)))]), q7.2)) rfl ?_
    obtain ⟨rfl, rfl⟩ := ret_inj h
    exact Wp.ret (WpD.mono _) rfl hQ
  · have h := (if_neg hc).symm.trans h
    show Wp (WpD (e + 24)) hcX12_tells Q (35, [some (.inr (.inr (12, 0))), some (.inl x1), some (.inl x2), none, some (.inl x4), some (.inr (.inl (q7.1 - ((1000000 : Int64) * x4.toInt64)))), none, none, none, none, none], []) q7.2
    refine Wp.run (WpD.mono _) 1 (q := ((41, [some (.inr (.inr (12, 0))), some (.inl x1), some (.inl x2), none, some (.inl x4), some (.inr (.inl (q7.1 - ((1000000 : Int64) * x4.toInt64)))), none, none, none, none, none], [.inr (.inl (0 : Int64))]), q7.2)) rfl ?_
    obtain ⟨rfl, rfl⟩ := ret_inj h
    exact Wp.ret (WpD.mono _) rfl hQ

set_option maxRecDepth 100000 in
set_option maxHeartbeats 4000000 in
theorem TB_X12_tells (e N : Nat) (g0 : Int32 → Int32 → Int32 → Int32 → Mem → Option (Int64 × Mem)) (hg0 : ∀ (a1 : Int32) (a2 : Int32) (a3 : Int32) (a4 : Int32) (σ : Mem) (r : Int64) (τ : Mem) (Q : Pst), g0 a1 a2 a3 a4 σ = some (r, τ) → Q (some (.inr (.inl r))) τ → WpD (e + 24) mX12_tells [.inr (.inr (12, 0)), .inl a1, .inl a2, .inl a3, .inl a4] σ Q) (a1 : Int32) (a2 : Int32) (a3 : Int32) (a4 : Int32) (σ : Mem) (r : Int64) (τ : Mem) (Q : Pst) (h : B_X12_tells N g0 a1 a2 a3 a4 σ = some (r, τ)) (hQ : Q (some (.inr (.inl r))) τ) : WpD (e + 1 + 24) mX12_tells [.inr (.inr (12, 0)), .inl a1, .inl a2, .inl a3, .inl a4] σ Q := by
  refine WpD.of (d := e + 24) (Nat.le_of_ble_eq_true rfl) (Nat.le_of_ble_eq_true rfl) ?_
  show Wp (WpD (e + 24)) hcX12_tells Q (0, [some (.inr (.inr (12, 0))), some (.inl a1), some (.inl a2), some (.inl a3), some (.inl a4), none, none, none, none, none, none], []) σ
  unfold B_X12_tells at h
  refine Wp.run (WpD.mono _) 0 (q := ((1, [some (.inr (.inr (12, 0))), some (.inl a1), some (.inl a2), some (.inl a3), some (.inl a4), none, none, none, none, none, none], [.inl a3]), σ)) rfl ?_
  refine Wp.if0_eq (WpD.mono _) rfl rfl (fun hc => ?_) (fun hc => ?_)
  · have h := (if_pos hc).symm.trans h
    show Wp (WpD (e + 24)) hcX12_tells Q (12, [some (.inr (.inr (12, 0))), some (.inl a1), some (.inl a2), some (.inl a3), some (.inl a4), none, none, none, none, none, none], []) σ
    exact Wp.jump (WpD.mono _) rfl ((T_X12_tells_b12 e N g0 hg0 r τ Q hQ ) a1 a2 a4 σ h)
  · have h := (if_neg hc).symm.trans h
    show Wp (WpD (e + 24)) hcX12_tells Q (4, [some (.inr (.inr (12, 0))), some (.inl a1), some (.inl a2), some (.inl a3), some (.inl a4), none, none, none, none, none, none], []) σ
    refine Wp.run (WpD.mono _) 2 (q := ((9, [some (.inr (.inr (12, 0))), some (.inl a1), some (.inl a2), some (.inl a3), some (.inl a4), none, none, none, none, none, none], [.inl (σ.1 12 0), .inl a1]), σ)) rfl ?_
    refine Wp.if2_le (WpD.mono _) rfl rfl (fun hc => ?_) (fun hc => ?_)
    · have h := (if_pos hc).symm.trans h
      show Wp (WpD (e + 24)) hcX12_tells Q (42, [some (.inr (.inr (12, 0))), some (.inl a1), some (.inl a2), some (.inl a3), some (.inl a4), none, none, none, none, none, none], []) σ
      refine Wp.run (WpD.mono _) 2 (q := ((46, [some (.inr (.inr (12, 0))), some (.inl a1), some (.inl a2), some (.inl a3), some (.inl a4), none, none, none, none, none, none], [.inl a1, .inr (.inr (12, 0)), .inl a4]), σ)) rfl ?_
      obtain ⟨q1, hb, h⟩ := bind_some h
      refine Wp.call (WpD.mono _) rfl (T_X12_costOf (e + 21) N a1 σ _ _ _ hb ?_)
      show Wp (WpD (e + 24)) hcX12_tells Q (49, [some (.inr (.inr (12, 0))), some (.inl a1), some (.inl a2), some (.inl a3), some (.inl a4), none, none, none, none, none, none], [.inl q1.1, .inl a4]) q1.2
      refine Wp.run (WpD.mono _) 5 (q := ((58, [some (.inr (.inr (12, 0))), some (.inl a1), some (.inl a2), some (.inl a3), some (.inl a4), some (.inl (a4 + q1.1)), some (.inr (.inl (0 : Int64))), none, some (.inl (0 : Int32)), none, none], []), q1.2)) rfl ?_
      exact Wp.jump (WpD.mono _) rfl ((T_X12_tells_b58 e N g0 hg0 r τ Q hQ  N) a1 a2 a3 (a4 + q1.1) (0 : Int64) (0 : Int32) q1.2 h)
    · have h := (if_neg hc).symm.trans h
      show Wp (WpD (e + 24)) hcX12_tells Q (12, [some (.inr (.inr (12, 0))), some (.inl a1), some (.inl a2), some (.inl a3), some (.inl a4), none, none, none, none, none, none], []) σ
      exact Wp.jump (WpD.mono _) rfl ((T_X12_tells_b12 e N g0 hg0 r τ Q hQ ) a1 a2 a4 σ h)

set_option maxRecDepth 100000 in
theorem TG_X12_tells (e N : Nat) : ∀ d : Nat, (∀ (a1 : Int32) (a2 : Int32) (a3 : Int32) (a4 : Int32) (σ : Mem) (r : Int64) (τ : Mem) (Q : Pst), (G_X12_tells N d) a1 a2 a3 a4 σ = some (r, τ) → Q (some (.inr (.inl r))) τ → WpD (e + d + 24) mX12_tells [.inr (.inr (12, 0)), .inl a1, .inl a2, .inl a3, .inl a4] σ Q) := by
  intro d
  induction d with
  | zero =>
    exact fun _ _ _ _ _ _ _ _ h => (nomatch h)
  | succ d ih =>
    exact (fun a1 a2 a3 a4 σ r τ Q h hQ => TB_X12_tells (e + d) N (G_X12_tells N d) ih a1 a2 a3 a4 σ r τ Q h hQ)

theorem T_X12_tells (e N : Nat) (a1 : Int32) (a2 : Int32) (a3 : Int32) (a4 : Int32) (σ : Mem) (r : Int64) (τ : Mem) (Q : Pst) (h : F_X12_tells N a1 a2 a3 a4 σ = some (r, τ)) (hQ : Q (some (.inr (.inl r))) τ) : WpD (e + 34) mX12_tells [.inr (.inr (12, 0)), .inl a1, .inl a2, .inl a3, .inl a4] σ Q := (TG_X12_tells e N 10) a1 a2 a3 a4 σ r τ Q h hQ
set_option maxRecDepth 100000 in
set_option maxHeartbeats 4000000 in
theorem T_X12_boreOf (e N : Nat)  (a1 : Int32) (a2 : Int32) (σ : Mem) (r : Int64) (τ : Mem) (Q : Pst) (h : F_X12_boreOf N a1 a2 σ = some (r, τ)) (hQ : Q (some (.inr (.inl r))) τ) : WpD (e + 35) mX12_boreOf [.inr (.inr (12, 0)), .inl a1, .inl a2] σ Q := by
  refine WpD.of (d := e + 34) (Nat.le_of_ble_eq_true rfl) (Nat.le_of_ble_eq_true rfl) ?_
  show Wp (WpD (e + 34)) hcX12_boreOf Q (0, [some (.inr (.inr (12, 0))), some (.inl a1), some (.inl a2)], []) σ
  unfold F_X12_boreOf at h
  refine Wp.run (WpD.mono _) 3 (q := ((6, [some (.inr (.inr (12, 0))), some (.inl a1), some (.inl a2)], [.inl a1, .inr (.inr (77, 0)), .inr (.inr (12, 0))]), σ)) rfl ?_
  obtain ⟨hc, h⟩ := ite_nn h
  refine Wp.X_ild1 (WpD.mono _) rfl rfl hc ?_
  show Wp (WpD (e + 34)) hcX12_boreOf Q (7, [some (.inr (.inr (12, 0))), some (.inl a1), some (.inl a2)], [.inl (σ.2.2.1 77 0 (a1).toNatClampNeg), .inr (.inr (12, 0))]) σ
  refine Wp.run (WpD.mono _) 4 (q := ((12, [some (.inr (.inr (12, 0))), some (.inl a1), some (.inl a2)], [.inl (0 : Int32), .inl a2, .inl (0 : Int32), .inl ((σ.2.2.1 77 0 (a1).toNatClampNeg) + (1 : Int32)), .inr (.inr (12, 0))]), σ)) rfl ?_
  obtain ⟨q1, hb, h⟩ := bind_some h
  refine Wp.call (WpD.mono _) rfl (T_X12_tells (e + 0) N ((σ.2.2.1 77 0 (a1).toNatClampNeg) + (1 : Int32)) (0 : Int32) a2 (0 : Int32) σ _ _ _ hb ?_)
  show Wp (WpD (e + 34)) hcX12_boreOf Q (15, [some (.inr (.inr (12, 0))), some (.inl a1), some (.inl a2)], [.inr (.inl q1.1)]) q1.2
  refine Wp.run (WpD.mono _) 3 (q := ((21, [some (.inr (.inr (12, 0))), some (.inl a1), some (.inl a2)], [.inl a1, .inr (.inr (77, 0)), .inr (.inr (12, 0)), .inr (.inl q1.1)]), q1.2)) rfl ?_
  obtain ⟨hc, h⟩ := ite_nn h
  refine Wp.X_ild1 (WpD.mono _) rfl rfl hc ?_
  show Wp (WpD (e + 34)) hcX12_boreOf Q (22, [some (.inr (.inr (12, 0))), some (.inl a1), some (.inl a2)], [.inl (q1.2.2.2.1 77 0 (a1).toNatClampNeg), .inr (.inr (12, 0)), .inr (.inl q1.1)]) q1.2
  refine Wp.run (WpD.mono _) 2 (q := ((25, [some (.inr (.inr (12, 0))), some (.inl a1), some (.inl a2)], [.inl (0 : Int32), .inl ((q1.2.2.2.1 77 0 (a1).toNatClampNeg) + (1 : Int32)), .inr (.inr (12, 0)), .inr (.inl q1.1)]), q1.2)) rfl ?_
  obtain ⟨q2, hb, h⟩ := bind_some h
  refine Wp.call (WpD.mono _) rfl (T_X12_valueOf (e + 10) N ((q1.2.2.2.1 77 0 (a1).toNatClampNeg) + (1 : Int32)) (0 : Int32) q1.2 _ _ _ hb ?_)
  show Wp (WpD (e + 34)) hcX12_boreOf Q (28, [some (.inr (.inr (12, 0))), some (.inl a1), some (.inl a2)], [.inr (.inl q2.1), .inr (.inl q1.1)]) q2.2
  refine Wp.run (WpD.mono _) 0 (q := ((29, [some (.inr (.inr (12, 0))), some (.inl a1), some (.inl a2)], [.inr (.inl (q1.1 - q2.1))]), q2.2)) rfl ?_
  obtain ⟨rfl, rfl⟩ := ret_inj h
  exact Wp.ret (WpD.mono _) rfl hQ

set_option maxRecDepth 100000 in
set_option maxHeartbeats 4000000 in
theorem T_X12_bore (e N : Nat)  (a1 : Int32) (a2 : Int32) (σ : Mem) (r : Int64) (τ : Mem) (Q : Pst) (h : F_X12_bore N a1 a2 σ = some (r, τ)) (hQ : Q (some (.inr (.inl r))) τ) : WpD (e + 36) mX12_bore [.inr (.inr (12, 0)), .inl a1, .inl a2] σ Q := by
  refine WpD.of (d := e + 35) (Nat.le_of_ble_eq_true rfl) (Nat.le_of_ble_eq_true rfl) ?_
  show Wp (WpD (e + 35)) hcX12_bore Q (0, [some (.inr (.inr (12, 0))), some (.inl a1), some (.inl a2)], []) σ
  unfold F_X12_bore at h
  refine Wp.run (WpD.mono _) 1 (q := ((2, [some (.inr (.inr (12, 0))), some (.inl a1), some (.inl a2)], [.inl a1, .inr (.inr (12, 0))]), σ)) rfl ?_
  obtain ⟨q1, hb, h⟩ := bind_some h
  refine Wp.call (WpD.mono _) rfl (T_X12_isPlace (e + 33) N a1 σ _ _ _ hb ?_)
  show Wp (WpD (e + 35)) hcX12_bore Q (5, [some (.inr (.inr (12, 0))), some (.inl a1), some (.inl a2)], [.inl q1.1]) q1.2
  refine Wp.if0_eq (WpD.mono _) rfl rfl (fun hc => ?_) (fun hc => ?_)
  · have h := (if_pos hc).symm.trans h
    show Wp (WpD (e + 35)) hcX12_bore Q (17, [some (.inr (.inr (12, 0))), some (.inl a1), some (.inl a2)], []) q1.2
    refine Wp.run (WpD.mono _) 0 (q := ((20, [none, none, none], [.inr (.inl (Int64.ofInt (-4611686018427387904)))]), q1.2)) rfl ?_
    obtain ⟨rfl, rfl⟩ := ret_inj h
    exact Wp.ret (WpD.mono _) rfl hQ
  · have h := (if_neg hc).symm.trans h
    show Wp (WpD (e + 35)) hcX12_bore Q (8, [some (.inr (.inr (12, 0))), some (.inl a1), some (.inl a2)], []) q1.2
    refine Wp.run (WpD.mono _) 2 (q := ((11, [some (.inr (.inr (12, 0))), some (.inl a1), some (.inl a2)], [.inl (5 : Int32), .inl (0 : Int32), .inl a2]), q1.2)) rfl ?_
    obtain ⟨q2, hb, h⟩ := bind_some h
    refine Wp.call (WpD.mono _) rfl (T_X12_in (e + 34) N a2 (0 : Int32) (5 : Int32) q1.2 _ _ _ hb ?_)
    show Wp (WpD (e + 35)) hcX12_bore Q (14, [some (.inr (.inr (12, 0))), some (.inl a1), some (.inl a2)], [.inl q2.1]) q2.2
    refine Wp.if0_ne (WpD.mono _) rfl rfl (fun hc => ?_) (fun hc => ?_)
    · have h := (if_pos hc).symm.trans h
      show Wp (WpD (e + 35)) hcX12_bore Q (17, [some (.inr (.inr (12, 0))), some (.inl a1), some (.inl a2)], []) q2.2
      refine Wp.run (WpD.mono _) 0 (q := ((20, [none, none, none], [.inr (.inl (Int64.ofInt (-4611686018427387904)))]), q2.2)) rfl ?_
      obtain ⟨rfl, rfl⟩ := ret_inj h
      exact Wp.ret (WpD.mono _) rfl hQ
    · have h := (if_neg hc).symm.trans h
      show Wp (WpD (e + 35)) hcX12_bore Q (21, [some (.inr (.inr (12, 0))), some (.inl a1), some (.inl a2)], []) q2.2
      refine Wp.run (WpD.mono _) 1 (q := ((23, [some (.inr (.inr (12, 0))), some (.inl a1), some (.inl a2)], [.inl a1, .inr (.inr (12, 0))]), q2.2)) rfl ?_
      obtain ⟨q3, hb, h⟩ := bind_some h
      refine Wp.call (WpD.mono _) rfl (T_X12_goesHere (e + 29) N a1 q2.2 _ _ _ hb ?_)
      show Wp (WpD (e + 35)) hcX12_bore Q (26, [some (.inr (.inr (12, 0))), some (.inl a1), some (.inl a2)], [.inl q3.1]) q3.2
      refine Wp.if0_eq (WpD.mono _) rfl rfl (fun hc => ?_) (fun hc => ?_)
      · have h := (if_pos hc).symm.trans h
        show Wp (WpD (e + 35)) hcX12_bore Q (38, [some (.inr (.inr (12, 0))), some (.inl a1), some (.inl a2)], []) q3.2
        refine Wp.run (WpD.mono _) 0 (q := ((41, [some (.inr (.inr (12, 0))), some (.inl a1), some (.inl a2)], [.inr (.inl (Int64.ofInt (-3)))]), q3.2)) rfl ?_
        obtain ⟨rfl, rfl⟩ := ret_inj h
        exact Wp.ret (WpD.mono _) rfl hQ
      · have h := (if_neg hc).symm.trans h
        show Wp (WpD (e + 35)) hcX12_bore Q (29, [some (.inr (.inr (12, 0))), some (.inl a1), some (.inl a2)], []) q3.2
        refine Wp.run (WpD.mono _) 2 (q := ((32, [some (.inr (.inr (12, 0))), some (.inl a1), some (.inl a2)], [.inl a2, .inl a1, .inr (.inr (12, 0))]), q3.2)) rfl ?_
        obtain ⟨q4, hb, h⟩ := bind_some h
        refine Wp.call (WpD.mono _) rfl (T_X12_boreOf (e + 0) N a1 a2 q3.2 _ _ _ hb ?_)
        show Wp (WpD (e + 35)) hcX12_bore Q (35, [some (.inr (.inr (12, 0))), some (.inl a1), some (.inl a2)], [.inr (.inl q4.1)]) q4.2
        refine Wp.run (WpD.mono _) 0 (q := ((41, [some (.inr (.inr (12, 0))), some (.inl a1), some (.inl a2)], [.inr (.inl q4.1)]), q4.2)) rfl ?_
        obtain ⟨rfl, rfl⟩ := ret_inj h
        exact Wp.ret (WpD.mono _) rfl hQ

set_option maxRecDepth 100000 in
set_option maxHeartbeats 4000000 in
theorem T_X12_cell_b84 (e N : Nat)   (r : Int32) (τ : Mem) (Q : Pst) (hQ : Q (some (.inl r)) τ) : ∀ (s0 : Int32) (s1 : Int32) (σ : Mem), F_X12_cell_b84 N s0 s1 σ = some (r, τ) → Wp (WpD (e + 1)) hcX12_cell Q (84, [none, none, none, none], [.inl s0, .inl s1, .inr (.inr (97, 0))]) σ := by
  intro s0 s1 σ h
  unfold F_X12_cell_b84 at h
  obtain ⟨hc, h⟩ := ite_nn h
  refine Wp.X_ist (WpD.mono _) rfl rfl hc ?_
  show Wp (WpD (e + 1)) hcX12_cell Q (85, [none, none, none, none], []) (σ.1, σ.2.1, (hwU3 σ.2.2.1 97 0 (s1).toNatClampNeg s0), σ.2.2.2.1, σ.2.2.2.2)
  refine Wp.run (WpD.mono _) 0 (q := ((86, [none, none, none, none], [.inl (1 : Int32)]), (σ.1, σ.2.1, (hwU3 σ.2.2.1 97 0 (s1).toNatClampNeg s0), σ.2.2.2.1, σ.2.2.2.2))) rfl ?_
  obtain ⟨rfl, rfl⟩ := ret_inj h
  exact Wp.ret (WpD.mono _) rfl hQ

set_option maxRecDepth 100000 in
set_option maxHeartbeats 4000000 in
theorem T_X12_cell (e N : Nat)  (a1 : Int32) (a2 : Int32) (a3 : Int32) (σ : Mem) (r : Int32) (τ : Mem) (Q : Pst) (h : F_X12_cell N a1 a2 a3 σ = some (r, τ)) (hQ : Q (some (.inl r)) τ) : WpD (e + 2) mX12_cell [.inr (.inr (12, 0)), .inl a1, .inl a2, .inl a3] σ Q := by
  refine WpD.of (d := e + 1) (Nat.le_of_ble_eq_true rfl) (Nat.le_of_ble_eq_true rfl) ?_
  show Wp (WpD (e + 1)) hcX12_cell Q (0, [some (.inr (.inr (12, 0))), some (.inl a1), some (.inl a2), some (.inl a3)], []) σ
  unfold F_X12_cell at h
  refine Wp.run (WpD.mono _) 2 (q := ((3, [some (.inr (.inr (12, 0))), some (.inl a1), some (.inl a2), some (.inl a3)], [.inl (3 : Int32), .inl (0 : Int32), .inl a1]), σ)) rfl ?_
  obtain ⟨q1, hb, h⟩ := bind_some h
  refine Wp.call (WpD.mono _) rfl (T_X12_in (e + 0) N a1 (0 : Int32) (3 : Int32) σ _ _ _ hb ?_)
  show Wp (WpD (e + 1)) hcX12_cell Q (6, [some (.inr (.inr (12, 0))), some (.inl a1), some (.inl a2), some (.inl a3)], [.inl q1.1]) q1.2
  refine Wp.if0_ne (WpD.mono _) rfl rfl (fun hc => ?_) (fun hc => ?_)
  · have h := (if_pos hc).symm.trans h
    show Wp (WpD (e + 1)) hcX12_cell Q (9, [some (.inr (.inr (12, 0))), some (.inl a1), some (.inl a2), some (.inl a3)], []) q1.2
    refine Wp.run (WpD.mono _) 0 (q := ((11, [some (.inr (.inr (12, 0))), some (.inl a1), some (.inl a2), some (.inl a3)], [.inl (Int32.ofInt (-2))]), q1.2)) rfl ?_
    obtain ⟨rfl, rfl⟩ := ret_inj h
    exact Wp.ret (WpD.mono _) rfl hQ
  · have h := (if_neg hc).symm.trans h
    show Wp (WpD (e + 1)) hcX12_cell Q (12, [some (.inr (.inr (12, 0))), some (.inl a1), some (.inl a2), some (.inl a3)], []) q1.2
    refine Wp.run (WpD.mono _) 2 (q := ((17, [some (.inr (.inr (12, 0))), some (.inl a1), some (.inl a2), some (.inl a3)], [.inl a1, .inr (.inr (95, 0))]), q1.2)) rfl ?_
    obtain ⟨hc, h⟩ := ite_nn h
    refine Wp.X_ild1 (WpD.mono _) rfl rfl hc ?_
    show Wp (WpD (e + 1)) hcX12_cell Q (18, [some (.inr (.inr (12, 0))), some (.inl a1), some (.inl a2), some (.inl a3)], [.inl (q1.2.2.2.1 95 0 (a1).toNatClampNeg)]) q1.2
    refine Wp.run (WpD.mono _) 0 (q := ((19, [some (.inr (.inr (12, 0))), some (.inl a1), some (.inl a2), some (.inl a3)], [.inl (Int32.ofInt (-1)), .inl (q1.2.2.2.1 95 0 (a1).toNatClampNeg)]), q1.2)) rfl ?_
    refine Wp.if2_ne (WpD.mono _) rfl rfl (fun hc => ?_) (fun hc => ?_)
    · have h := (if_pos hc).symm.trans h
      show Wp (WpD (e + 1)) hcX12_cell Q (22, [some (.inr (.inr (12, 0))), some (.inl a1), some (.inl a2), some (.inl a3)], []) q1.2
      refine Wp.run (WpD.mono _) 0 (q := ((24, [some (.inr (.inr (12, 0))), some (.inl a1), some (.inl a2), some (.inl a3)], [.inl (Int32.ofInt (-11))]), q1.2)) rfl ?_
      obtain ⟨rfl, rfl⟩ := ret_inj h
      exact Wp.ret (WpD.mono _) rfl hQ
    · have h := (if_neg hc).symm.trans h
      show Wp (WpD (e + 1)) hcX12_cell Q (25, [some (.inr (.inr (12, 0))), some (.inl a1), some (.inl a2), some (.inl a3)], []) q1.2
      refine Wp.run (WpD.mono _) 4 (q := ((32, [some (.inr (.inr (12, 0))), some (.inl a1), some (.inl a2), some (.inl a3)], [.inl a1, .inr (.inr (96, 0)), .inl (0 : Int32), .inl a2]), q1.2)) rfl ?_
      obtain ⟨hc, h⟩ := ite_nn h
      refine Wp.X_ild1 (WpD.mono _) rfl rfl hc ?_
      show Wp (WpD (e + 1)) hcX12_cell Q (33, [some (.inr (.inr (12, 0))), some (.inl a1), some (.inl a2), some (.inl a3)], [.inl (q1.2.2.2.1 96 0 (a1).toNatClampNeg), .inl (0 : Int32), .inl a2]) q1.2
      refine Wp.run (WpD.mono _) 1 (q := ((35, [some (.inr (.inr (12, 0))), some (.inl a1), some (.inl a2), some (.inl a3)], [.inl ((q1.2.2.2.1 96 0 (a1).toNatClampNeg) - (1 : Int32)), .inl (0 : Int32), .inl a2]), q1.2)) rfl ?_
      obtain ⟨q2, hb, h⟩ := bind_some h
      refine Wp.call (WpD.mono _) rfl (T_X12_in (e + 0) N a2 (0 : Int32) ((q1.2.2.2.1 96 0 (a1).toNatClampNeg) - (1 : Int32)) q1.2 _ _ _ hb ?_)
      show Wp (WpD (e + 1)) hcX12_cell Q (38, [some (.inr (.inr (12, 0))), some (.inl a1), some (.inl a2), some (.inl a3)], [.inl q2.1]) q2.2
      refine Wp.if0_ne (WpD.mono _) rfl rfl (fun hc => ?_) (fun hc => ?_)
      · have h := (if_pos hc).symm.trans h
        show Wp (WpD (e + 1)) hcX12_cell Q (41, [some (.inr (.inr (12, 0))), some (.inl a1), some (.inl a2), some (.inl a3)], []) q2.2
        refine Wp.run (WpD.mono _) 0 (q := ((43, [some (.inr (.inr (12, 0))), some (.inl a1), some (.inl a2), some (.inl a3)], [.inl (Int32.ofInt (-12))]), q2.2)) rfl ?_
        obtain ⟨rfl, rfl⟩ := ret_inj h
        exact Wp.ret (WpD.mono _) rfl hQ
      · have h := (if_neg hc).symm.trans h
        show Wp (WpD (e + 1)) hcX12_cell Q (44, [some (.inr (.inr (12, 0))), some (.inl a1), some (.inl a2), some (.inl a3)], []) q2.2
        refine Wp.run (WpD.mono _) 9 (q := ((59, [some (.inr (.inr (12, 0))), some (.inl a1), some (.inl a2), some (.inl a3)], [.inl a1, .inr (.inr (95, 0)), .inl (((40 : Int32) * a1) + a2), .inr (.inr (97, 0))]), q2.2)) rfl ?_
        obtain ⟨hc, h⟩ := ite_nn h
        refine Wp.X_ild1 (WpD.mono _) rfl rfl hc ?_
        show Wp (WpD (e + 1)) hcX12_cell Q (60, [some (.inr (.inr (12, 0))), some (.inl a1), some (.inl a2), some (.inl a3)], [.inl (q2.2.2.2.1 95 0 (a1).toNatClampNeg), .inl (((40 : Int32) * a1) + a2), .inr (.inr (97, 0))]) q2.2
        refine Wp.if0_ne (WpD.mono _) rfl rfl (fun hc => ?_) (fun hc => ?_)
        · have h := (if_pos hc).symm.trans h
          show Wp (WpD (e + 1)) hcX12_cell Q (63, [some (.inr (.inr (12, 0))), some (.inl a1), some (.inl a2), some (.inl a3)], [.inl (((40 : Int32) * a1) + a2), .inr (.inr (97, 0))]) q2.2
          refine Wp.run (WpD.mono _) 2 (q := ((84, [some (.inr (.inr (12, 0))), some (.inl a1), some (.inl a2), some (.inl a3)], [.inl a3.toInt8.toInt32, .inl (((40 : Int32) * a1) + a2), .inr (.inr (97, 0))]), q2.2)) rfl ?_
          exact Wp.jump (WpD.mono _) rfl ((T_X12_cell_b84 e N  r τ Q hQ ) a3.toInt8.toInt32 (((40 : Int32) * a1) + a2) q2.2 h)
        · have h := (if_neg hc).symm.trans h
          show Wp (WpD (e + 1)) hcX12_cell Q (68, [some (.inr (.inr (12, 0))), some (.inl a1), some (.inl a2), some (.inl a3)], [.inl (((40 : Int32) * a1) + a2), .inr (.inr (97, 0))]) q2.2
          refine Wp.run (WpD.mono _) 2 (q := ((73, [some (.inr (.inr (12, 0))), some (.inl a1), some (.inl a2), some (.inl a3)], [.inl a1, .inr (.inr (95, 0)), .inl (((40 : Int32) * a1) + a2), .inr (.inr (97, 0))]), q2.2)) rfl ?_
          obtain ⟨hc, h⟩ := ite_nn h
          refine Wp.X_ild1 (WpD.mono _) rfl rfl hc ?_
          show Wp (WpD (e + 1)) hcX12_cell Q (74, [some (.inr (.inr (12, 0))), some (.inl a1), some (.inl a2), some (.inl a3)], [.inl (q2.2.2.2.1 95 0 (a1).toNatClampNeg), .inl (((40 : Int32) * a1) + a2), .inr (.inr (97, 0))]) q2.2
          refine Wp.run (WpD.mono _) 0 (q := ((75, [some (.inr (.inr (12, 0))), some (.inl a1), some (.inl a2), some (.inl a3)], [.inl (1 : Int32), .inl (q2.2.2.2.1 95 0 (a1).toNatClampNeg), .inl (((40 : Int32) * a1) + a2), .inr (.inr (97, 0))]), q2.2)) rfl ?_
          refine Wp.if2_ne (WpD.mono _) rfl rfl (fun hc => ?_) (fun hc => ?_)
          · have h := (if_pos hc).symm.trans h
            show Wp (WpD (e + 1)) hcX12_cell Q (78, [some (.inr (.inr (12, 0))), some (.inl a1), some (.inl a2), some (.inl a3)], [.inl (((40 : Int32) * a1) + a2), .inr (.inr (97, 0))]) q2.2
            refine Wp.run (WpD.mono _) 2 (q := ((84, [some (.inr (.inr (12, 0))), some (.inl a1), some (.inl a2), some (.inl a3)], [.inl a3.toInt16.toInt32, .inl (((40 : Int32) * a1) + a2), .inr (.inr (97, 0))]), q2.2)) rfl ?_
            exact Wp.jump (WpD.mono _) rfl ((T_X12_cell_b84 e N  r τ Q hQ ) a3.toInt16.toInt32 (((40 : Int32) * a1) + a2) q2.2 h)
          · have h := (if_neg hc).symm.trans h
            show Wp (WpD (e + 1)) hcX12_cell Q (83, [some (.inr (.inr (12, 0))), some (.inl a1), some (.inl a2), some (.inl a3)], [.inl (((40 : Int32) * a1) + a2), .inr (.inr (97, 0))]) q2.2
            refine Wp.run (WpD.mono _) 0 (q := ((84, [some (.inr (.inr (12, 0))), some (.inl a1), some (.inl a2), some (.inl a3)], [.inl a3, .inl (((40 : Int32) * a1) + a2), .inr (.inr (97, 0))]), q2.2)) rfl ?_
            exact Wp.jump (WpD.mono _) rfl ((T_X12_cell_b84 e N  r τ Q hQ ) a3 (((40 : Int32) * a1) + a2) q2.2 h)

set_option maxRecDepth 100000 in
set_option maxHeartbeats 4000000 in
theorem T_X12_copy_b173 (e N : Nat)  (k147 : Int32 → Int32 → Int32 → Int32 → Mem → Option (Int32 × Mem)) (r : Int32) (τ : Mem) (Q : Pst) (hQ : Q (some (.inl r)) τ) (hk147 : ∀ (x5 : Int32) (x6 : Int32) (x7 : Int32) (x8 : Int32) (σ : Mem), k147 x5 x6 x7 x8 σ = some (r, τ) → Wp (WpD (e + 1)) hcX12_copy Q (147, [some (.inr (.inr (12, 0))), none, none, none, none, some (.inl x5), some (.inl x6), some (.inl x7), some (.inl x8), none], []) σ) : ∀ (x5 : Int32) (x6 : Int32) (x7 : Int32) (x8 : Int32) (s0 : Int32) (σ : Mem), F_X12_copy_b173 N k147 x5 x6 x7 x8 s0 σ = some (r, τ) → Wp (WpD (e + 1)) hcX12_copy Q (173, [some (.inr (.inr (12, 0))), none, none, none, none, some (.inl x5), some (.inl x6), some (.inl x7), some (.inl x8), none], [.inl s0]) σ := by
  intro x5 x6 x7 x8 s0 σ h
  unfold F_X12_copy_b173 at h
  refine Wp.run (WpD.mono _) 10 (q := ((193, [some (.inr (.inr (12, 0))), none, none, none, none, some (.inl x5), some (.inl x6), some (.inl x7), some (.inl x8), some (.inl s0)], [.inl (x6 + s0), .inr (.inr (97, 0)), .inl (x7 + s0), .inr (.inr (97, 0))]), σ)) rfl ?_
  obtain ⟨hc, h⟩ := ite_nn h
  refine Wp.X_ild1 (WpD.mono _) rfl rfl hc ?_
  show Wp (WpD (e + 1)) hcX12_copy Q (194, [some (.inr (.inr (12, 0))), none, none, none, none, some (.inl x5), some (.inl x6), some (.inl x7), some (.inl x8), some (.inl s0)], [.inl (σ.2.2.1 97 0 ((x6 + s0)).toNatClampNeg), .inl (x7 + s0), .inr (.inr (97, 0))]) σ
  obtain ⟨hc, h⟩ := ite_nn h
  refine Wp.X_ist (WpD.mono _) rfl rfl hc ?_
  show Wp (WpD (e + 1)) hcX12_copy Q (195, [some (.inr (.inr (12, 0))), none, none, none, none, some (.inl x5), some (.inl x6), some (.inl x7), some (.inl x8), some (.inl s0)], []) (σ.1, σ.2.1, (hwU3 σ.2.2.1 97 0 ((x7 + s0)).toNatClampNeg (σ.2.2.1 97 0 ((x6 + s0)).toNatClampNeg)), σ.2.2.2.1, σ.2.2.2.2)
  refine Wp.run (WpD.mono _) 1 (q := ((147, [some (.inr (.inr (12, 0))), none, none, none, none, some (.inl x5), some (.inl x6), some (.inl x7), some (.inl (x8 + (1 : Int32))), some (.inl s0)], []), (σ.1, σ.2.1, (hwU3 σ.2.2.1 97 0 ((x7 + s0)).toNatClampNeg (σ.2.2.1 97 0 ((x6 + s0)).toNatClampNeg)), σ.2.2.2.1, σ.2.2.2.2))) rfl ?_
  exact Wp.jump (WpD.mono _) rfl (hk147 x5 x6 x7 (x8 + (1 : Int32)) (σ.1, σ.2.1, (hwU3 σ.2.2.1 97 0 ((x7 + s0)).toNatClampNeg (σ.2.2.1 97 0 ((x6 + s0)).toNatClampNeg)), σ.2.2.2.1, σ.2.2.2.2) h)

set_option maxRecDepth 100000 in
set_option maxHeartbeats 4000000 in
theorem T_X12_copy_b147 (e N : Nat)   (r : Int32) (τ : Mem) (Q : Pst) (hQ : Q (some (.inl r)) τ) : ∀ n, ∀ (x5 : Int32) (x6 : Int32) (x7 : Int32) (x8 : Int32) (σ : Mem), F_X12_copy_b147 N n x5 x6 x7 x8 σ = some (r, τ) → Wp (WpD (e + 1)) hcX12_copy Q (147, [some (.inr (.inr (12, 0))), none, none, none, none, some (.inl x5), some (.inl x6), some (.inl x7), some (.inl x8), none], []) σ := by
  intro n
  induction n with
  | zero => intro x5 x6 x7 x8 σ h; cases h
  | succ n ih =>
    intro x5 x6 x7 x8 σ h
    unfold F_X12_copy_b147 at h
    refine Wp.run (WpD.mono _) 1 (q := ((151, [some (.inr (.inr (12, 0))), none, none, none, none, some (.inl x5), some (.inl x6), some (.inl x7), some (.inl x8), none], [.inl x5, .inl x8]), σ)) rfl ?_
    refine Wp.if2_ge (WpD.mono _) rfl rfl (fun hc => ?_) (fun hc => ?_)
    · have h := (if_pos hc).symm.trans h
      show Wp (WpD (e + 1)) hcX12_copy Q (201, [some (.inr (.inr (12, 0))), none, none, none, none, some (.inl x5), some (.inl x6), some (.inl x7), some (.inl x8), none], []) σ
      refine Wp.run (WpD.mono _) 0 (q := ((203, [some (.inr (.inr (12, 0))), none, none, none, none, some (.inl x5), some (.inl x6), some (.inl x7), some (.inl x8), none], [.inl x5]), σ)) rfl ?_
      obtain ⟨rfl, rfl⟩ := ret_inj h
      exact Wp.ret (WpD.mono _) rfl hQ
    · have h := (if_neg hc).symm.trans h
      show Wp (WpD (e + 1)) hcX12_copy Q (154, [some (.inr (.inr (12, 0))), none, none, none, none, some (.inl x5), some (.inl x6), some (.inl x7), some (.inl x8), none], []) σ
      refine Wp.run (WpD.mono _) 1 (q := ((158, [some (.inr (.inr (12, 0))), none, none, none, none, some (.inl x5), some (.inl x6), some (.inl x7), some (.inl x8), none], [.inl x7, .inl x6]), σ)) rfl ?_
      refine Wp.if2_ge (WpD.mono _) rfl rfl (fun hc => ?_) (fun hc => ?_)
      · have h := (if_pos hc).symm.trans h
        show Wp (WpD (e + 1)) hcX12_copy Q (171, [some (.inr (.inr (12, 0))), none, none, none, none, some (.inl x5), some (.inl x6), some (.inl x7), some (.inl x8), none], []) σ
        refine Wp.run (WpD.mono _) 0 (q := ((173, [some (.inr (.inr (12, 0))), none, none, none, none, some (.inl x5), some (.inl x6), some (.inl x7), some (.inl x8), none], [.inl x8]), σ)) rfl ?_
        exact Wp.jump (WpD.mono _) rfl ((T_X12_copy_b173 e N (F_X12_copy_b147 N n) r τ Q hQ ih) x5 x6 x7 x8 x8 σ h)
      · have h := (if_neg hc).symm.trans h
        show Wp (WpD (e + 1)) hcX12_copy Q (161, [some (.inr (.inr (12, 0))), none, none, none, none, some (.inl x5), some (.inl x6), some (.inl x7), some (.inl x8), none], []) σ
        refine Wp.run (WpD.mono _) 5 (q := ((173, [some (.inr (.inr (12, 0))), none, none, none, none, some (.inl x5), some (.inl x6), some (.inl x7), some (.inl x8), none], [.inl ((x5 - (1 : Int32)) - x8)]), σ)) rfl ?_
        exact Wp.jump (WpD.mono _) rfl ((T_X12_copy_b173 e N (F_X12_copy_b147 N n) r τ Q hQ ih) x5 x6 x7 x8 ((x5 - (1 : Int32)) - x8) σ h)

set_option maxRecDepth 100000 in
set_option maxHeartbeats 4000000 in
theorem T_X12_copy (e N : Nat)  (a1 : Int32) (a2 : Int32) (a3 : Int32) (a4 : Int32) (a5 : Int32) (σ : Mem) (r : Int32) (τ : Mem) (Q : Pst) (h : F_X12_copy N a1 a2 a3 a4 a5 σ = some (r, τ)) (hQ : Q (some (.inl r)) τ) : WpD (e + 2) mX12_copy [.inr (.inr (12, 0)), .inl a1, .inl a2, .inl a3, .inl a4, .inl a5] σ Q := by
  refine WpD.of (d := e + 1) (Nat.le_of_ble_eq_true rfl) (Nat.le_of_ble_eq_true rfl) ?_
  show Wp (WpD (e + 1)) hcX12_copy Q (0, [some (.inr (.inr (12, 0))), some (.inl a1), some (.inl a2), some (.inl a3), some (.inl a4), some (.inl a5), none, none, none, none], []) σ
  unfold F_X12_copy at h
  refine Wp.run (WpD.mono _) 2 (q := ((3, [some (.inr (.inr (12, 0))), some (.inl a1), some (.inl a2), some (.inl a3), some (.inl a4), some (.inl a5), none, none, none, none], [.inl (3 : Int32), .inl (0 : Int32), .inl a1]), σ)) rfl ?_
  obtain ⟨q1, hb, h⟩ := bind_some h
  refine Wp.call (WpD.mono _) rfl (T_X12_in (e + 0) N a1 (0 : Int32) (3 : Int32) σ _ _ _ hb ?_)
  show Wp (WpD (e + 1)) hcX12_copy Q (6, [some (.inr (.inr (12, 0))), some (.inl a1), some (.inl a2), some (.inl a3), some (.inl a4), some (.inl a5), none, none, none, none], [.inl q1.1]) q1.2
  refine Wp.if0_eq (WpD.mono _) rfl rfl (fun hc => ?_) (fun hc => ?_)
  · have h := (if_pos hc).symm.trans h
    show Wp (WpD (e + 1)) hcX12_copy Q (18, [some (.inr (.inr (12, 0))), some (.inl a1), some (.inl a2), some (.inl a3), some (.inl a4), some (.inl a5), none, none, none, none], []) q1.2
    refine Wp.run (WpD.mono _) 0 (q := ((20, [none, none, none, none, none, none, none, none, none, none], [.inl (Int32.ofInt (-2))]), q1.2)) rfl ?_
    obtain ⟨rfl, rfl⟩ := ret_inj h
    exact Wp.ret (WpD.mono _) rfl hQ
  · have h := (if_neg hc).symm.trans h
    show Wp (WpD (e + 1)) hcX12_copy Q (9, [some (.inr (.inr (12, 0))), some (.inl a1), some (.inl a2), some (.inl a3), some (.inl a4), some (.inl a5), none, none, none, none], []) q1.2
    refine Wp.run (WpD.mono _) 2 (q := ((12, [some (.inr (.inr (12, 0))), some (.inl a1), some (.inl a2), some (.inl a3), some (.inl a4), some (.inl a5), none, none, none, none], [.inl (3 : Int32), .inl (0 : Int32), .inl a3]), q1.2)) rfl ?_
    obtain ⟨q2, hb, h⟩ := bind_some h
    refine Wp.call (WpD.mono _) rfl (T_X12_in (e + 0) N a3 (0 : Int32) (3 : Int32) q1.2 _ _ _ hb ?_)
    show Wp (WpD (e + 1)) hcX12_copy Q (15, [some (.inr (.inr (12, 0))), some (.inl a1), some (.inl a2), some (.inl a3), some (.inl a4), some (.inl a5), none, none, none, none], [.inl q2.1]) q2.2
    refine Wp.if0_ne (WpD.mono _) rfl rfl (fun hc => ?_) (fun hc => ?_)
    · have h := (if_pos hc).symm.trans h
      show Wp (WpD (e + 1)) hcX12_copy Q (18, [some (.inr (.inr (12, 0))), some (.inl a1), some (.inl a2), some (.inl a3), some (.inl a4), some (.inl a5), none, none, none, none], []) q2.2
      refine Wp.run (WpD.mono _) 0 (q := ((20, [none, none, none, none, none, none, none, none, none, none], [.inl (Int32.ofInt (-2))]), q2.2)) rfl ?_
      obtain ⟨rfl, rfl⟩ := ret_inj h
      exact Wp.ret (WpD.mono _) rfl hQ
    · have h := (if_neg hc).symm.trans h
      show Wp (WpD (e + 1)) hcX12_copy Q (21, [some (.inr (.inr (12, 0))), some (.inl a1), some (.inl a2), some (.inl a3), some (.inl a4), some (.inl a5), none, none, none, none], []) q2.2
      refine Wp.run (WpD.mono _) 2 (q := ((26, [some (.inr (.inr (12, 0))), some (.inl a1), some (.inl a2), some (.inl a3), some (.inl a4), some (.inl a5), none, none, none, none], [.inl a1, .inr (.inr (95, 0))]), q2.2)) rfl ?_
      obtain ⟨hc, h⟩ := ite_nn h
      refine Wp.X_ild1 (WpD.mono _) rfl rfl hc ?_
      show Wp (WpD (e + 1)) hcX12_copy Q (27, [some (.inr (.inr (12, 0))), some (.inl a1), some (.inl a2), some (.inl a3), some (.inl a4), some (.inl a5), none, none, none, none], [.inl (q2.2.2.2.1 95 0 (a1).toNatClampNeg)]) q2.2
      refine Wp.run (WpD.mono _) 0 (q := ((28, [some (.inr (.inr (12, 0))), some (.inl a1), some (.inl a2), some (.inl a3), some (.inl a4), some (.inl a5), none, none, none, none], [.inl (Int32.ofInt (-1)), .inl (q2.2.2.2.1 95 0 (a1).toNatClampNeg)]), q2.2)) rfl ?_
      refine Wp.if2_eq (WpD.mono _) rfl rfl (fun hc => ?_) (fun hc => ?_)
      · have h := (if_pos hc).symm.trans h
        show Wp (WpD (e + 1)) hcX12_copy Q (41, [some (.inr (.inr (12, 0))), some (.inl a1), some (.inl a2), some (.inl a3), some (.inl a4), some (.inl a5), none, none, none, none], []) q2.2
        refine Wp.run (WpD.mono _) 0 (q := ((43, [none, none, none, none, none, none, none, none, none, none], [.inl (Int32.ofInt (-11))]), q2.2)) rfl ?_
        obtain ⟨rfl, rfl⟩ := ret_inj h
        exact Wp.ret (WpD.mono _) rfl hQ
      · have h := (if_neg hc).symm.trans h
        show Wp (WpD (e + 1)) hcX12_copy Q (31, [some (.inr (.inr (12, 0))), some (.inl a1), some (.inl a2), some (.inl a3), some (.inl a4), some (.inl a5), none, none, none, none], []) q2.2
        refine Wp.run (WpD.mono _) 2 (q := ((36, [some (.inr (.inr (12, 0))), some (.inl a1), some (.inl a2), some (.inl a3), some (.inl a4), some (.inl a5), none, none, none, none], [.inl a3, .inr (.inr (95, 0))]), q2.2)) rfl ?_
        obtain ⟨hc, h⟩ := ite_nn h
        refine Wp.X_ild1 (WpD.mono _) rfl rfl hc ?_
        show Wp (WpD (e + 1)) hcX12_copy Q (37, [some (.inr (.inr (12, 0))), some (.inl a1), some (.inl a2), some (.inl a3), some (.inl a4), some (.inl a5), none, none, none, none], [.inl (q2.2.2.2.1 95 0 (a3).toNatClampNeg)]) q2.2
        refine Wp.run (WpD.mono _) 0 (q := ((38, [some (.inr (.inr (12, 0))), some (.inl a1), some (.inl a2), some (.inl a3), some (.inl a4), some (.inl a5), none, none, none, none], [.inl (Int32.ofInt (-1)), .inl (q2.2.2.2.1 95 0 (a3).toNatClampNeg)]), q2.2)) rfl ?_
        refine Wp.if2_ne (WpD.mono _) rfl rfl (fun hc => ?_) (fun hc => ?_)
        · have h := (if_pos hc).symm.trans h
          show Wp (WpD (e + 1)) hcX12_copy Q (41, [some (.inr (.inr (12, 0))), some (.inl a1), some (.inl a2), some (.inl a3), some (.inl a4), some (.inl a5), none, none, none, none], []) q2.2
          refine Wp.run (WpD.mono _) 0 (q := ((43, [none, none, none, none, none, none, none, none, none, none], [.inl (Int32.ofInt (-11))]), q2.2)) rfl ?_
          obtain ⟨rfl, rfl⟩ := ret_inj h
          exact Wp.ret (WpD.mono _) rfl hQ
        · have h := (if_neg hc).symm.trans h
          show Wp (WpD (e + 1)) hcX12_copy Q (44, [some (.inr (.inr (12, 0))), some (.inl a1), some (.inl a2), some (.inl a3), some (.inl a4), some (.inl a5), none, none, none, none], []) q2.2
          refine Wp.run (WpD.mono _) 2 (q := ((49, [some (.inr (.inr (12, 0))), some (.inl a1), some (.inl a2), some (.inl a3), some (.inl a4), some (.inl a5), none, none, none, none], [.inl a1, .inr (.inr (95, 0))]), q2.2)) rfl ?_
          obtain ⟨hc, h⟩ := ite_nn h
          refine Wp.X_ild1 (WpD.mono _) rfl rfl hc ?_
          show Wp (WpD (e + 1)) hcX12_copy Q (50, [some (.inr (.inr (12, 0))), some (.inl a1), some (.inl a2), some (.inl a3), some (.inl a4), some (.inl a5), none, none, none, none], [.inl (q2.2.2.2.1 95 0 (a1).toNatClampNeg)]) q2.2
          refine Wp.run (WpD.mono _) 2 (q := ((55, [some (.inr (.inr (12, 0))), some (.inl a1), some (.inl a2), some (.inl a3), some (.inl a4), some (.inl a5), none, none, none, none], [.inl a3, .inr (.inr (95, 0)), .inl (q2.2.2.2.1 95 0 (a1).toNatClampNeg)]), q2.2)) rfl ?_
          obtain ⟨hc, h⟩ := ite_nn h
          refine Wp.X_ild1 (WpD.mono _) rfl rfl hc ?_
          show Wp (WpD (e + 1)) hcX12_copy Q (56, [some (.inr (.inr (12, 0))), some (.inl a1), some (.inl a2), some (.inl a3), some (.inl a4), some (.inl a5), none, none, none, none], [.inl (q2.2.2.2.1 95 0 (a3).toNatClampNeg), .inl (q2.2.2.2.1 95 0 (a1).toNatClampNeg)]) q2.2
          refine Wp.if2_eq (WpD.mono _) rfl rfl (fun hc => ?_) (fun hc => ?_)
          · have h := (if_pos hc).symm.trans h
            show Wp (WpD (e + 1)) hcX12_copy Q (62, [some (.inr (.inr (12, 0))), some (.inl a1), some (.inl a2), some (.inl a3), some (.inl a4), some (.inl a5), none, none, none, none], []) q2.2
            refine Wp.run (WpD.mono _) 0 (q := ((64, [some (.inr (.inr (12, 0))), some (.inl a1), some (.inl a2), some (.inl a3), some (.inl a4), some (.inl a5), none, none, none, none], [.inl a5]), q2.2)) rfl ?_
            refine Wp.if0_lt (WpD.mono _) rfl rfl (fun hc => ?_) (fun hc => ?_)
            · have h := (if_pos hc).symm.trans h
              show Wp (WpD (e + 1)) hcX12_copy Q (124, [some (.inr (.inr (12, 0))), some (.inl a1), some (.inl a2), some (.inl a3), some (.inl a4), some (.inl a5), none, none, none, none], []) q2.2
              refine Wp.run (WpD.mono _) 0 (q := ((126, [none, none, none, none, none, none, none, none, none, none], [.inl (Int32.ofInt (-12))]), q2.2)) rfl ?_
              obtain ⟨rfl, rfl⟩ := ret_inj h
              exact Wp.ret (WpD.mono _) rfl hQ
            · have h := (if_neg hc).symm.trans h
              show Wp (WpD (e + 1)) hcX12_copy Q (67, [some (.inr (.inr (12, 0))), some (.inl a1), some (.inl a2), some (.inl a3), some (.inl a4), some (.inl a5), none, none, none, none], []) q2.2
              refine Wp.run (WpD.mono _) 0 (q := ((68, [some (.inr (.inr (12, 0))), some (.inl a1), some (.inl a2), some (.inl a3), some (.inl a4), some (.inl a5), none, none, none, none], [.inl a2]), q2.2)) rfl ?_
              refine Wp.if0_lt (WpD.mono _) rfl rfl (fun hc => ?_) (fun hc => ?_)
              · have h := (if_pos hc).symm.trans h
                show Wp (WpD (e + 1)) hcX12_copy Q (124, [some (.inr (.inr (12, 0))), some (.inl a1), some (.inl a2), some (.inl a3), some (.inl a4), some (.inl a5), none, none, none, none], []) q2.2
                refine Wp.run (WpD.mono _) 0 (q := ((126, [none, none, none, none, none, none, none, none, none, none], [.inl (Int32.ofInt (-12))]), q2.2)) rfl ?_
                obtain ⟨rfl, rfl⟩ := ret_inj h
                exact Wp.ret (WpD.mono _) rfl hQ
              · have h := (if_neg hc).symm.trans h
                show Wp (WpD (e + 1)) hcX12_copy Q (71, [some (.inr (.inr (12, 0))), some (.inl a1), some (.inl a2), some (.inl a3), some (.inl a4), some (.inl a5), none, none, none, none], []) q2.2
                refine Wp.run (WpD.mono _) 0 (q := ((73, [some (.inr (.inr (12, 0))), some (.inl a1), some (.inl a2), some (.inl a3), some (.inl a4), some (.inl a5), none, none, none, none], [.inl a4]), q2.2)) rfl ?_
                refine Wp.if0_lt (WpD.mono _) rfl rfl (fun hc => ?_) (fun hc => ?_)
                · have h := (if_pos hc).symm.trans h
                  show Wp (WpD (e + 1)) hcX12_copy Q (124, [some (.inr (.inr (12, 0))), some (.inl a1), some (.inl a2), some (.inl a3), some (.inl a4), some (.inl a5), none, none, none, none], []) q2.2
                  refine Wp.run (WpD.mono _) 0 (q := ((126, [none, none, none, none, none, none, none, none, none, none], [.inl (Int32.ofInt (-12))]), q2.2)) rfl ?_
                  obtain ⟨rfl, rfl⟩ := ret_inj h
                  exact Wp.ret (WpD.mono _) rfl hQ
                · have h := (if_neg hc).symm.trans h
                  show Wp (WpD (e + 1)) hcX12_copy Q (76, [some (.inr (.inr (12, 0))), some (.inl a1), some (.inl a2), some (.inl a3), some (.inl a4), some (.inl a5), none, none, none, none], []) q2.2
                  refine Wp.run (WpD.mono _) 3 (q := ((82, [some (.inr (.inr (12, 0))), some (.inl a1), some (.inl a2), some (.inl a3), some (.inl a4), some (.inl a5), none, none, none, none], [.inl a1, .inr (.inr (96, 0)), .inl a2]), q2.2)) rfl ?_
                  obtain ⟨hc, h⟩ := ite_nn h
                  refine Wp.X_ild1 (WpD.mono _) rfl rfl hc ?_
                  show Wp (WpD (e + 1)) hcX12_copy Q (83, [some (.inr (.inr (12, 0))), some (.inl a1), some (.inl a2), some (.inl a3), some (.inl a4), some (.inl a5), none, none, none, none], [.inl (q2.2.2.2.1 96 0 (a1).toNatClampNeg), .inl a2]) q2.2
                  refine Wp.if2_gt (WpD.mono _) rfl rfl (fun hc => ?_) (fun hc => ?_)
                  · have h := (if_pos hc).symm.trans h
                    show Wp (WpD (e + 1)) hcX12_copy Q (124, [some (.inr (.inr (12, 0))), some (.inl a1), some (.inl a2), some (.inl a3), some (.inl a4), some (.inl a5), none, none, none, none], []) q2.2
                    refine Wp.run (WpD.mono _) 0 (q := ((126, [none, none, none, none, none, none, none, none, none, none], [.inl (Int32.ofInt (-12))]), q2.2)) rfl ?_
                    obtain ⟨rfl, rfl⟩ := ret_inj h
                    exact Wp.ret (WpD.mono _) rfl hQ
                  · have h := (if_neg hc).symm.trans h
                    show Wp (WpD (e + 1)) hcX12_copy Q (86, [some (.inr (.inr (12, 0))), some (.inl a1), some (.inl a2), some (.inl a3), some (.inl a4), some (.inl a5), none, none, none, none], []) q2.2
                    refine Wp.run (WpD.mono _) 3 (q := ((93, [some (.inr (.inr (12, 0))), some (.inl a1), some (.inl a2), some (.inl a3), some (.inl a4), some (.inl a5), none, none, none, none], [.inl a3, .inr (.inr (96, 0)), .inl a4]), q2.2)) rfl ?_
                    obtain ⟨hc, h⟩ := ite_nn h
                    refine Wp.X_ild1 (WpD.mono _) rfl rfl hc ?_
                    show Wp (WpD (e + 1)) hcX12_copy Q (94, [some (.inr (.inr (12, 0))), some (.inl a1), some (.inl a2), some (.inl a3), some (.inl a4), some (.inl a5), none, none, none, none], [.inl (q2.2.2.2.1 96 0 (a3).toNatClampNeg), .inl a4]) q2.2
                    refine Wp.if2_gt (WpD.mono _) rfl rfl (fun hc => ?_) (fun hc => ?_)
                    · have h := (if_pos hc).symm.trans h
                      show Wp (WpD (e + 1)) hcX12_copy Q (124, [some (.inr (.inr (12, 0))), some (.inl a1), some (.inl a2), some (.inl a3), some (.inl a4), some (.inl a5), none, none, none, none], []) q2.2
                      refine Wp.run (WpD.mono _) 0 (q := ((126, [none, none, none, none, none, none, none, none, none, none], [.inl (Int32.ofInt (-12))]), q2.2)) rfl ?_
                      obtain ⟨rfl, rfl⟩ := ret_inj h
                      exact Wp.ret (WpD.mono _) rfl hQ
                    · have h := (if_neg hc).symm.trans h
                      show Wp (WpD (e + 1)) hcX12_copy Q (97, [some (.inr (.inr (12, 0))), some (.inl a1), some (.inl a2), some (.inl a3), some (.inl a4), some (.inl a5), none, none, none, none], []) q2.2
                      refine Wp.run (WpD.mono _) 3 (q := ((104, [some (.inr (.inr (12, 0))), some (.inl a1), some (.inl a2), some (.inl a3), some (.inl a4), some (.inl a5), none, none, none, none], [.inl a1, .inr (.inr (96, 0)), .inl a5]), q2.2)) rfl ?_
                      obtain ⟨hc, h⟩ := ite_nn h
                      refine Wp.X_ild1 (WpD.mono _) rfl rfl hc ?_
                      show Wp (WpD (e + 1)) hcX12_copy Q (105, [some (.inr (.inr (12, 0))), some (.inl a1), some (.inl a2), some (.inl a3), some (.inl a4), some (.inl a5), none, none, none, none], [.inl (q2.2.2.2.1 96 0 (a1).toNatClampNeg), .inl a5]) q2.2
                      refine Wp.run (WpD.mono _) 1 (q := ((107, [some (.inr (.inr (12, 0))), some (.inl a1), some (.inl a2), some (.inl a3), some (.inl a4), some (.inl a5), none, none, none, none], [.inl ((q2.2.2.2.1 96 0 (a1).toNatClampNeg) - a2), .inl a5]), q2.2)) rfl ?_
                      refine Wp.if2_gt (WpD.mono _) rfl rfl (fun hc => ?_) (fun hc => ?_)
                      · have h := (if_pos hc).symm.trans h
                        show Wp (WpD (e + 1)) hcX12_copy Q (124, [some (.inr (.inr (12, 0))), some (.inl a1), some (.inl a2), some (.inl a3), some (.inl a4), some (.inl a5), none, none, none, none], []) q2.2
                        refine Wp.run (WpD.mono _) 0 (q := ((126, [none, none, none, none, none, none, none, none, none, none], [.inl (Int32.ofInt (-12))]), q2.2)) rfl ?_
                        obtain ⟨rfl, rfl⟩ := ret_inj h
                        exact Wp.ret (WpD.mono _) rfl hQ
                      · have h := (if_neg hc).symm.trans h
                        show Wp (WpD (e + 1)) hcX12_copy Q (110, [some (.inr (.inr (12, 0))), some (.inl a1), some (.inl a2), some (.inl a3), some (.inl a4), some (.inl a5), none, none, none, none], []) q2.2
                        refine Wp.run (WpD.mono _) 3 (q := ((117, [some (.inr (.inr (12, 0))), some (.inl a1), some (.inl a2), some (.inl a3), some (.inl a4), some (.inl a5), none, none, none, none], [.inl a3, .inr (.inr (96, 0)), .inl a5]), q2.2)) rfl ?_
                        obtain ⟨hc, h⟩ := ite_nn h
                        refine Wp.X_ild1 (WpD.mono _) rfl rfl hc ?_
                        show Wp (WpD (e + 1)) hcX12_copy Q (118, [some (.inr (.inr (12, 0))), some (.inl a1), some (.inl a2), some (.inl a3), some (.inl a4), some (.inl a5), none, none, none, none], [.inl (q2.2.2.2.1 96 0 (a3).toNatClampNeg), .inl a5]) q2.2
                        refine Wp.run (WpD.mono _) 1 (q := ((121, [some (.inr (.inr (12, 0))), some (.inl a1), some (.inl a2), some (.inl a3), some (.inl a4), some (.inl a5), none, none, none, none], [.inl ((q2.2.2.2.1 96 0 (a3).toNatClampNeg) - a4), .inl a5]), q2.2)) rfl ?_
                        refine Wp.if2_le (WpD.mono _) rfl rfl (fun hc => ?_) (fun hc => ?_)
                        · have h := (if_pos hc).symm.trans h
                          show Wp (WpD (e + 1)) hcX12_copy Q (127, [some (.inr (.inr (12, 0))), some (.inl a1), some (.inl a2), some (.inl a3), some (.inl a4), some (.inl a5), none, none, none, none], []) q2.2
                          refine Wp.run (WpD.mono _) 13 (q := ((147, [some (.inr (.inr (12, 0))), some (.inl a1), some (.inl a2), some (.inl a3), some (.inl a4), some (.inl a5), some (.inl (((40 : Int32) * a1) + a2)), some (.inl (((40 : Int32) * a3) + a4)), some (.inl (0 : Int32)), none], []), q2.2)) rfl ?_
                          exact Wp.jump (WpD.mono _) rfl ((T_X12_copy_b147 e N  r τ Q hQ  N) a5 (((40 : Int32) * a1) + a2) (((40 : Int32) * a3) + a4) (0 : Int32) q2.2 h)
                        · have h := (if_neg hc).symm.trans h
                          show Wp (WpD (e + 1)) hcX12_copy Q (124, [some (.inr (.inr (12, 0))), some (.inl a1), some (.inl a2), some (.inl a3), some (.inl a4), some (.inl a5), none, none, none, none], []) q2.2
                          refine Wp.run (WpD.mono _) 0 (q := ((126, [none, none, none, none, none, none, none, none, none, none], [.inl (Int32.ofInt (-12))]), q2.2)) rfl ?_
                          obtain ⟨rfl, rfl⟩ := ret_inj h
                          exact Wp.ret (WpD.mono _) rfl hQ
          · have h := (if_neg hc).symm.trans h
            show Wp (WpD (e + 1)) hcX12_copy Q (59, [some (.inr (.inr (12, 0))), some (.inl a1), some (.inl a2), some (.inl a3), some (.inl a4), some (.inl a5), none, none, none, none], []) q2.2
            refine Wp.run (WpD.mono _) 0 (q := ((61, [some (.inr (.inr (12, 0))), some (.inl a1), some (.inl a2), some (.inl a3), some (.inl a4), some (.inl a5), none, none, none, none], [.inl (Int32.ofInt (-13))]), q2.2)) rfl ?_
            obtain ⟨rfl, rfl⟩ := ret_inj h
            exact Wp.ret (WpD.mono _) rfl hQ


set_option maxRecDepth 100000 in
set_option maxHeartbeats 4000000 in
theorem T_X11_goesBy (e N : Nat)  (a1 : Int32) (a2 : Int32) (σ : Mem) (r : Int32) (τ : Mem) (Q : Pst) (h : F_X11_goesBy N a1 a2 σ = some (r, τ)) (hQ : Q (some (.inl r)) τ) : WpD (e + 14) mX11_goesBy [.inr (.inr (0, 0)), .inl a1, .inl a2] σ Q := by
  refine WpD.of (d := e + 13) (Nat.le_of_ble_eq_true rfl) (Nat.le_of_ble_eq_true rfl) ?_
  show Wp (WpD (e + 13)) hcX11_goesBy Q (0, [some (.inr (.inr (0, 0))), some (.inl a1), some (.inl a2), none], []) σ
  unfold F_X11_goesBy at h
  refine Wp.run (WpD.mono _) 1 (q := ((2, [some (.inr (.inr (0, 0))), some (.inl a1), some (.inl a2), none], [.inl a1, .inr (.inr (0, 0))]), σ)) rfl ?_
  obtain ⟨q1, hb, h⟩ := bind_some h
  refine Wp.call (WpD.mono _) rfl (T_X11_isRule (e + 11) N a1 σ _ _ _ hb ?_)
  show Wp (WpD (e + 13)) hcX11_goesBy Q (5, [some (.inr (.inr (0, 0))), some (.inl a1), some (.inl a2), none], [.inl q1.1]) q1.2
  refine Wp.br (WpD.mono _) 0 (c := q1.1 = 0) (q1 := ((16, [some (.inr (.inr (0, 0))), some (.inl a1), some (.inl a2), none], []), q1.2)) (q2 := ((8, [some (.inr (.inr (0, 0))), some (.inl a1), some (.inl a2), none], []), q1.2)) rfl (fun hc => ?_) (fun hc => ?_)
  · have h := (if_pos hc).symm.trans h
    refine Wp.run (WpD.mono _) 0 (q := ((18, [none, none, none, none], [.inl (-5 : Int32)]), q1.2)) rfl ?_
    cases h
    exact Wp.ret (WpD.mono _) rfl hQ
  · have h := (if_neg hc).symm.trans h
    refine Wp.run (WpD.mono _) 1 (q := ((10, [some (.inr (.inr (0, 0))), some (.inl a1), some (.inl a2), none], [.inl a2, .inr (.inr (0, 0))]), q1.2)) rfl ?_
    obtain ⟨q2, hb, h⟩ := bind_some h
    refine Wp.call (WpD.mono _) rfl (T_X11_isPlace (e + 11) N a2 q1.2 _ _ _ hb ?_)
    show Wp (WpD (e + 13)) hcX11_goesBy Q (13, [some (.inr (.inr (0, 0))), some (.inl a1), some (.inl a2), none], [.inl q2.1]) q2.2
    refine Wp.br (WpD.mono _) 0 (c := q2.1 = 0) (q1 := ((16, [some (.inr (.inr (0, 0))), some (.inl a1), some (.inl a2), none], []), q2.2)) (q2 := ((19, [some (.inr (.inr (0, 0))), some (.inl a1), some (.inl a2), none], []), q2.2)) rfl (fun hc => ?_) (fun hc => ?_)
    · have h := (if_pos hc).symm.trans h
      refine Wp.run (WpD.mono _) 0 (q := ((18, [none, none, none, none], [.inl (-5 : Int32)]), q2.2)) rfl ?_
      cases h
      exact Wp.ret (WpD.mono _) rfl hQ
    · have h := (if_neg hc).symm.trans h
      refine Wp.run (WpD.mono _) 2 (q := ((24, [some (.inr (.inr (0, 0))), some (.inl a1), some (.inl a2), none], [.inl a2, .inr (.inr (8, 0))]), q2.2)) rfl ?_
      obtain ⟨q3, hb, h⟩ := bind_some h
      refine Wp.call (WpD.mono _) rfl (T_X6_openYard (e + 9) N a2 q2.2 _ _ _ hb ?_)
      show Wp (WpD (e + 13)) hcX11_goesBy Q (27, [some (.inr (.inr (0, 0))), some (.inl a1), some (.inl a2), none], [.inl q3.1]) q3.2
      refine Wp.br (WpD.mono _) 0 (c := q3.1 = 0) (q1 := ((30, [some (.inr (.inr (0, 0))), some (.inl a1), some (.inl a2), none], []), q3.2)) (q2 := ((33, [some (.inr (.inr (0, 0))), some (.inl a1), some (.inl a2), none], []), q3.2)) rfl (fun hc => ?_) (fun hc => ?_)
      · have h := (if_pos hc).symm.trans h
        refine Wp.run (WpD.mono _) 0 (q := ((32, [some (.inr (.inr (0, 0))), some (.inl a1), some (.inl a2), none], [.inl (-3 : Int32)]), q3.2)) rfl ?_
        cases h
        exact Wp.ret (WpD.mono _) rfl hQ
      · have h := (if_neg hc).symm.trans h
        obtain ⟨hc, h⟩ := ite_nn h
        refine Wp.no (WpD.mono _) 4 (c := hwOut a2 4) (q := ((42, [some (.inr (.inr (0, 0))), some (.inl a1), some (.inl a2), none], [.inl (q3.2.2.2.1 58 0 (a2).toNatClampNeg)]), q3.2)) rfl hc ?_
        refine Wp.run (WpD.mono _) 8 (q := ((55, [some (.inr (.inr (0, 0))), some (.inl a1), some (.inl a2), some (.inl (q3.2.2.2.1 58 0 (a2).toNatClampNeg))], [.inl (q3.2.2.2.1 58 0 (a2).toNatClampNeg), .inl a2, .inr (.inr (4, 0)), .inl (q3.2.2.2.1 58 0 (a2).toNatClampNeg), .inl a1, .inr (.inr (6, 0))]), q3.2)) rfl ?_
        obtain ⟨q4, hb, h⟩ := bind_some h
        refine Wp.call (WpD.mono _) rfl (T_X7_signOf (e + 12) N a2 (q3.2.2.2.1 58 0 (a2).toNatClampNeg) q3.2 _ _ _ hb ?_)
        show Wp (WpD (e + 13)) hcX11_goesBy Q (58, [some (.inr (.inr (0, 0))), some (.inl a1), some (.inl a2), some (.inl (q3.2.2.2.1 58 0 (a2).toNatClampNeg))], [.inl q4.1, .inl (q3.2.2.2.1 58 0 (a2).toNatClampNeg), .inl a1, .inr (.inr (6, 0))]) q4.2
        obtain ⟨q5, hb, h⟩ := bind_some h
        refine Wp.call (WpD.mono _) rfl (T_X9_goesOn (e + 0) N a1 (q3.2.2.2.1 58 0 (a2).toNatClampNeg) q4.1 q4.2 _ _ _ hb ?_)
        show Wp (WpD (e + 13)) hcX11_goesBy Q (61, [some (.inr (.inr (0, 0))), some (.inl a1), some (.inl a2), some (.inl (q3.2.2.2.1 58 0 (a2).toNatClampNeg))], [.inl q5.1]) q5.2
        refine Wp.br (WpD.mono _) 0 (c := q5.1 = 0) (q1 := ((68, [some (.inr (.inr (0, 0))), some (.inl a1), some (.inl a2), some (.inl (q3.2.2.2.1 58 0 (a2).toNatClampNeg))], []), q5.2)) (q2 := ((64, [some (.inr (.inr (0, 0))), some (.inl a1), some (.inl a2), some (.inl (q3.2.2.2.1 58 0 (a2).toNatClampNeg))], []), q5.2)) rfl (fun hc => ?_) (fun hc => ?_)
        · have h := (if_pos hc).symm.trans h
          refine Wp.run (WpD.mono _) 0 (q := ((69, [some (.inr (.inr (0, 0))), some (.inl a1), some (.inl a2), some (.inl (q3.2.2.2.1 58 0 (a2).toNatClampNeg))], [.inl (0 : Int32)]), q5.2)) rfl ?_
          cases h
          exact Wp.ret (WpD.mono _) rfl hQ
        · have h := (if_neg hc).symm.trans h
          refine Wp.run (WpD.mono _) 1 (q := ((69, [some (.inr (.inr (0, 0))), some (.inl a1), some (.inl a2), some (.inl (q3.2.2.2.1 58 0 (a2).toNatClampNeg))], [.inl (1 : Int32)]), q5.2)) rfl ?_
          cases h
          exact Wp.ret (WpD.mono _) rfl hQ

set_option maxRecDepth 100000 in
set_option maxHeartbeats 4000000 in
theorem T_X3_carry_t25_t30_b2 (e N : Nat)   (r : Unit) (τ : Mem) (Q : Pst) (hQ : Q (none) τ) : ∀ n, ∀ (x2 : Int32) (x3 : Int32) (σ : Mem), F_X3_carry_t25_t30_b2 N n x2 x3 σ = some (r, τ) → Wp (WpD (e + 0)) hcX3_carry Q (2, [some (.inr (.inr (25, 0))), some (.inr (.inr (30, 0))), some (.inl x2), some (.inl x3)], []) σ := by
  intro n
  induction n with
  | zero => intro x2 x3 σ h; cases h
  | succ n ih =>
    intro x2 x3 σ h
    unfold F_X3_carry_t25_t30_b2 at h
    refine Wp.br (WpD.mono _) 3 (c := (5 : Int32) ≤ x3) (q1 := ((32, [some (.inr (.inr (25, 0))), some (.inr (.inr (30, 0))), some (.inl x2), some (.inl x3)], []), σ)) (q2 := ((8, [some (.inr (.inr (25, 0))), some (.inr (.inr (30, 0))), some (.inl x2), some (.inl x3)], []), σ)) rfl (fun hc => ?_) (fun hc => ?_)
    · have h := (if_pos hc).symm.trans h
      cases h
      exact Wp.ret (WpD.mono _) rfl hQ
    · have h := (if_neg hc).symm.trans h
      refine Wp.br (WpD.mono _) 3 (c := (5 : Int32) ≤ x3) (q1 := ((32, [some (.inr (.inr (25, 0))), some (.inr (.inr (30, 0))), some (.inl x2), some (.inl x3)], []), σ)) (q2 := ((14, [some (.inr (.inr (25, 0))), some (.inr (.inr (30, 0))), some (.inl x2), some (.inl x3)], []), σ)) rfl (fun hc => ?_) (fun hc => ?_)
      · have h := (if_pos hc).symm.trans h
        cases h
        exact Wp.ret (WpD.mono _) rfl hQ
      · have h := (if_neg hc).symm.trans h
        obtain ⟨hc, h⟩ := ite_nn h
        refine Wp.no (WpD.mono _) 2 (c := hwOut x3 5) (q := ((17, [some (.inr (.inr (25, 0))), some (.inr (.inr (30, 0))), some (.inl x2), some (.inl x3)], [.inr (.inr (26, (x3).toNatClampNeg))]), σ)) rfl hc ?_
        obtain ⟨hc, h⟩ := ite_nn h
        refine Wp.no (WpD.mono _) 3 (c := hwOut x3 5) (q := ((21, [some (.inr (.inr (25, 0))), some (.inr (.inr (30, 0))), some (.inl x2), some (.inl x3)], [.inr (.inr (31, (x3).toNatClampNeg)), .inl (0 : Int32), .inr (.inr (26, (x3).toNatClampNeg))]), σ)) rfl hc ?_
        obtain ⟨hc, h⟩ := ite_nn h
        refine Wp.no (WpD.mono _) 2 (c := (0 : Int32) < 0 ∨ (0 : Int32) < 0 ∨ x2 < 0 ∨ 5 < 0 + (x2).toNatClampNeg ∨ 5 < 0 + (x2).toNatClampNeg) (q := ((26, [some (.inr (.inr (25, 0))), some (.inr (.inr (30, 0))), some (.inl x2), some (.inl x3)], []), (σ.1, σ.2.1, (hwR3 σ.2.2.1 31 (x3).toNatClampNeg (va_cpy (σ.2.2.1 26 (x3).toNatClampNeg) (σ.2.2.1 31 (x3).toNatClampNeg) 0 0 (x2).toNatClampNeg)), σ.2.2.2.1, σ.2.2.2.2))) rfl hc ?_
        refine Wp.run (WpD.mono _) 1 (q := ((2, [some (.inr (.inr (25, 0))), some (.inr (.inr (30, 0))), some (.inl x2), some (.inl (x3 + (1 : Int32)))], []), (σ.1, σ.2.1, (hwR3 σ.2.2.1 31 (x3).toNatClampNeg (va_cpy (σ.2.2.1 26 (x3).toNatClampNeg) (σ.2.2.1 31 (x3).toNatClampNeg) 0 0 (x2).toNatClampNeg)), σ.2.2.2.1, σ.2.2.2.2))) rfl ?_
        exact Wp.jump (WpD.mono _) rfl (ih x2 (x3 + (1 : Int32)) (σ.1, σ.2.1, (hwR3 σ.2.2.1 31 (x3).toNatClampNeg (va_cpy (σ.2.2.1 26 (x3).toNatClampNeg) (σ.2.2.1 31 (x3).toNatClampNeg) 0 0 (x2).toNatClampNeg)), σ.2.2.2.1, σ.2.2.2.2) h)

set_option maxRecDepth 100000 in
set_option maxHeartbeats 4000000 in
theorem T_X3_carry_t25_t30 (e N : Nat)  (a3 : Int32) (σ : Mem) (r : Unit) (τ : Mem) (Q : Pst) (h : F_X3_carry_t25_t30 N a3 σ = some (r, τ)) (hQ : Q (none) τ) : WpD (e + 1) mX3_carry [.inr (.inr (25, 0)), .inr (.inr (30, 0)), .inl a3] σ Q := by
  refine WpD.of (d := e + 0) (Nat.le_of_ble_eq_true rfl) (Nat.le_of_ble_eq_true rfl) ?_
  show Wp (WpD (e + 0)) hcX3_carry Q (0, [some (.inr (.inr (25, 0))), some (.inr (.inr (30, 0))), some (.inl a3), none], []) σ
  unfold F_X3_carry_t25_t30 at h
  refine Wp.run (WpD.mono _) 1 (q := ((2, [some (.inr (.inr (25, 0))), some (.inr (.inr (30, 0))), some (.inl a3), some (.inl (0 : Int32))], []), σ)) rfl ?_
  exact Wp.jump (WpD.mono _) rfl ((T_X3_carry_t25_t30_b2 e N  r τ Q hQ  N) a3 (0 : Int32) σ h)

set_option maxRecDepth 100000 in
set_option maxHeartbeats 4000000 in
theorem T_X3_carry_t56_t32_b2 (e N : Nat)   (r : Unit) (τ : Mem) (Q : Pst) (hQ : Q (none) τ) : ∀ n, ∀ (x2 : Int32) (x3 : Int32) (σ : Mem), F_X3_carry_t56_t32_b2 N n x2 x3 σ = some (r, τ) → Wp (WpD (e + 0)) hcX3_carry Q (2, [some (.inr (.inr (56, 0))), some (.inr (.inr (32, 0))), some (.inl x2), some (.inl x3)], []) σ := by
  intro n
  induction n with
  | zero => intro x2 x3 σ h; cases h
  | succ n ih =>
    intro x2 x3 σ h
    unfold F_X3_carry_t56_t32_b2 at h
    refine Wp.br (WpD.mono _) 3 (c := (4 : Int32) ≤ x3) (q1 := ((32, [some (.inr (.inr (56, 0))), some (.inr (.inr (32, 0))), some (.inl x2), some (.inl x3)], []), σ)) (q2 := ((8, [some (.inr (.inr (56, 0))), some (.inr (.inr (32, 0))), some (.inl x2), some (.inl x3)], []), σ)) rfl (fun hc => ?_) (fun hc => ?_)
    · have h := (if_pos hc).symm.trans h
      cases h
      exact Wp.ret (WpD.mono _) rfl hQ
    · have h := (if_neg hc).symm.trans h
      refine Wp.br (WpD.mono _) 3 (c := (4 : Int32) ≤ x3) (q1 := ((32, [some (.inr (.inr (56, 0))), some (.inr (.inr (32, 0))), some (.inl x2), some (.inl x3)], []), σ)) (q2 := ((14, [some (.inr (.inr (56, 0))), some (.inr (.inr (32, 0))), some (.inl x2), some (.inl x3)], []), σ)) rfl (fun hc => ?_) (fun hc => ?_)
      · have h := (if_pos hc).symm.trans h
        cases h
        exact Wp.ret (WpD.mono _) rfl hQ
      · have h := (if_neg hc).symm.trans h
        obtain ⟨hc, h⟩ := ite_nn h
        refine Wp.no (WpD.mono _) 2 (c := hwOut x3 4) (q := ((17, [some (.inr (.inr (56, 0))), some (.inr (.inr (32, 0))), some (.inl x2), some (.inl x3)], [.inr (.inr (57, (x3).toNatClampNeg))]), σ)) rfl hc ?_
        obtain ⟨hc, h⟩ := ite_nn h
        refine Wp.no (WpD.mono _) 3 (c := hwOut x3 4) (q := ((21, [some (.inr (.inr (56, 0))), some (.inr (.inr (32, 0))), some (.inl x2), some (.inl x3)], [.inr (.inr (33, (x3).toNatClampNeg)), .inl (0 : Int32), .inr (.inr (57, (x3).toNatClampNeg))]), σ)) rfl hc ?_
        obtain ⟨hc, h⟩ := ite_nn h
        refine Wp.no (WpD.mono _) 2 (c := (0 : Int32) < 0 ∨ (0 : Int32) < 0 ∨ x2 < 0 ∨ 5 < 0 + (x2).toNatClampNeg ∨ 5 < 0 + (x2).toNatClampNeg) (q := ((26, [some (.inr (.inr (56, 0))), some (.inr (.inr (32, 0))), some (.inl x2), some (.inl x3)], []), (σ.1, σ.2.1, (hwR3 σ.2.2.1 33 (x3).toNatClampNeg (va_cpy (σ.2.2.1 57 (x3).toNatClampNeg) (σ.2.2.1 33 (x3).toNatClampNeg) 0 0 (x2).toNatClampNeg)), σ.2.2.2.1, σ.2.2.2.2))) rfl hc ?_
        refine Wp.run (WpD.mono _) 1 (q := ((2, [some (.inr (.inr (56, 0))), some (.inr (.inr (32, 0))), some (.inl x2), some (.inl (x3 + (1 : Int32)))], []), (σ.1, σ.2.1, (hwR3 σ.2.2.1 33 (x3).toNatClampNeg (va_cpy (σ.2.2.1 57 (x3).toNatClampNeg) (σ.2.2.1 33 (x3).toNatClampNeg) 0 0 (x2).toNatClampNeg)), σ.2.2.2.1, σ.2.2.2.2))) rfl ?_
        exact Wp.jump (WpD.mono _) rfl (ih x2 (x3 + (1 : Int32)) (σ.1, σ.2.1, (hwR3 σ.2.2.1 33 (x3).toNatClampNeg (va_cpy (σ.2.2.1 57 (x3).toNatClampNeg) (σ.2.2.1 33 (x3).toNatClampNeg) 0 0 (x2).toNatClampNeg)), σ.2.2.2.1, σ.2.2.2.2) h)

set_option maxRecDepth 100000 in
set_option maxHeartbeats 4000000 in
theorem T_X3_carry_t56_t32 (e N : Nat)  (a3 : Int32) (σ : Mem) (r : Unit) (τ : Mem) (Q : Pst) (h : F_X3_carry_t56_t32 N a3 σ = some (r, τ)) (hQ : Q (none) τ) : WpD (e + 1) mX3_carry [.inr (.inr (56, 0)), .inr (.inr (32, 0)), .inl a3] σ Q := by
  refine WpD.of (d := e + 0) (Nat.le_of_ble_eq_true rfl) (Nat.le_of_ble_eq_true rfl) ?_
  show Wp (WpD (e + 0)) hcX3_carry Q (0, [some (.inr (.inr (56, 0))), some (.inr (.inr (32, 0))), some (.inl a3), none], []) σ
  unfold F_X3_carry_t56_t32 at h
  refine Wp.run (WpD.mono _) 1 (q := ((2, [some (.inr (.inr (56, 0))), some (.inr (.inr (32, 0))), some (.inl a3), some (.inl (0 : Int32))], []), σ)) rfl ?_
  exact Wp.jump (WpD.mono _) rfl ((T_X3_carry_t56_t32_b2 e N  r τ Q hQ  N) a3 (0 : Int32) σ h)

set_option maxRecDepth 100000 in
set_option maxHeartbeats 4000000 in
theorem T_X3_carry_t60_t36_b2 (e N : Nat)   (r : Unit) (τ : Mem) (Q : Pst) (hQ : Q (none) τ) : ∀ n, ∀ (x2 : Int32) (x3 : Int32) (σ : Mem), F_X3_carry_t60_t36_b2 N n x2 x3 σ = some (r, τ) → Wp (WpD (e + 0)) hcX3_carry Q (2, [some (.inr (.inr (60, 0))), some (.inr (.inr (36, 0))), some (.inl x2), some (.inl x3)], []) σ := by
  intro n
  induction n with
  | zero => intro x2 x3 σ h; cases h
  | succ n ih =>
    intro x2 x3 σ h
    unfold F_X3_carry_t60_t36_b2 at h
    refine Wp.br (WpD.mono _) 3 (c := (4 : Int32) ≤ x3) (q1 := ((32, [some (.inr (.inr (60, 0))), some (.inr (.inr (36, 0))), some (.inl x2), some (.inl x3)], []), σ)) (q2 := ((8, [some (.inr (.inr (60, 0))), some (.inr (.inr (36, 0))), some (.inl x2), some (.inl x3)], []), σ)) rfl (fun hc => ?_) (fun hc => ?_)
    · have h := (if_pos hc).symm.trans h
      cases h
      exact Wp.ret (WpD.mono _) rfl hQ
    · have h := (if_neg hc).symm.trans h
      refine Wp.br (WpD.mono _) 3 (c := (4 : Int32) ≤ x3) (q1 := ((32, [some (.inr (.inr (60, 0))), some (.inr (.inr (36, 0))), some (.inl x2), some (.inl x3)], []), σ)) (q2 := ((14, [some (.inr (.inr (60, 0))), some (.inr (.inr (36, 0))), some (.inl x2), some (.inl x3)], []), σ)) rfl (fun hc => ?_) (fun hc => ?_)
      · have h := (if_pos hc).symm.trans h
        cases h
        exact Wp.ret (WpD.mono _) rfl hQ
      · have h := (if_neg hc).symm.trans h
        obtain ⟨hc, h⟩ := ite_nn h
        refine Wp.no (WpD.mono _) 2 (c := hwOut x3 4) (q := ((17, [some (.inr (.inr (60, 0))), some (.inr (.inr (36, 0))), some (.inl x2), some (.inl x3)], [.inr (.inr (61, (x3).toNatClampNeg))]), σ)) rfl hc ?_
        obtain ⟨hc, h⟩ := ite_nn h
        refine Wp.no (WpD.mono _) 3 (c := hwOut x3 4) (q := ((21, [some (.inr (.inr (60, 0))), some (.inr (.inr (36, 0))), some (.inl x2), some (.inl x3)], [.inr (.inr (37, (x3).toNatClampNeg)), .inl (0 : Int32), .inr (.inr (61, (x3).toNatClampNeg))]), σ)) rfl hc ?_
        obtain ⟨hc, h⟩ := ite_nn h
        refine Wp.no (WpD.mono _) 2 (c := (0 : Int32) < 0 ∨ (0 : Int32) < 0 ∨ x2 < 0 ∨ 4 < 0 + (x2).toNatClampNeg ∨ 4 < 0 + (x2).toNatClampNeg) (q := ((26, [some (.inr (.inr (60, 0))), some (.inr (.inr (36, 0))), some (.inl x2), some (.inl x3)], []), (σ.1, σ.2.1, (hwR3 σ.2.2.1 37 (x3).toNatClampNeg (va_cpy (σ.2.2.1 61 (x3).toNatClampNeg) (σ.2.2.1 37 (x3).toNatClampNeg) 0 0 (x2).toNatClampNeg)), σ.2.2.2.1, σ.2.2.2.2))) rfl hc ?_
        refine Wp.run (WpD.mono _) 1 (q := ((2, [some (.inr (.inr (60, 0))), some (.inr (.inr (36, 0))), some (.inl x2), some (.inl (x3 + (1 : Int32)))], []), (σ.1, σ.2.1, (hwR3 σ.2.2.1 37 (x3).toNatClampNeg (va_cpy (σ.2.2.1 61 (x3).toNatClampNeg) (σ.2.2.1 37 (x3).toNatClampNeg) 0 0 (x2).toNatClampNeg)), σ.2.2.2.1, σ.2.2.2.2))) rfl ?_
        exact Wp.jump (WpD.mono _) rfl (ih x2 (x3 + (1 : Int32)) (σ.1, σ.2.1, (hwR3 σ.2.2.1 37 (x3).toNatClampNeg (va_cpy (σ.2.2.1 61 (x3).toNatClampNeg) (σ.2.2.1 37 (x3).toNatClampNeg) 0 0 (x2).toNatClampNeg)), σ.2.2.2.1, σ.2.2.2.2) h)

set_option maxRecDepth 100000 in
set_option maxHeartbeats 4000000 in
theorem T_X3_carry_t60_t36 (e N : Nat)  (a3 : Int32) (σ : Mem) (r : Unit) (τ : Mem) (Q : Pst) (h : F_X3_carry_t60_t36 N a3 σ = some (r, τ)) (hQ : Q (none) τ) : WpD (e + 1) mX3_carry [.inr (.inr (60, 0)), .inr (.inr (36, 0)), .inl a3] σ Q := by
  refine WpD.of (d := e + 0) (Nat.le_of_ble_eq_true rfl) (Nat.le_of_ble_eq_true rfl) ?_
  show Wp (WpD (e + 0)) hcX3_carry Q (0, [some (.inr (.inr (60, 0))), some (.inr (.inr (36, 0))), some (.inl a3), none], []) σ
  unfold F_X3_carry_t60_t36 at h
  refine Wp.run (WpD.mono _) 1 (q := ((2, [some (.inr (.inr (60, 0))), some (.inr (.inr (36, 0))), some (.inl a3), some (.inl (0 : Int32))], []), σ)) rfl ?_
  exact Wp.jump (WpD.mono _) rfl ((T_X3_carry_t60_t36_b2 e N  r τ Q hQ  N) a3 (0 : Int32) σ h)

set_option maxRecDepth 100000 in
set_option maxHeartbeats 4000000 in
theorem T_X3_keep_b96 (e N : Nat)   (r : Unit) (τ : Mem) (Q : Pst) (hQ : Q (none) τ) : ∀ n, ∀ (x2 : Int32) (σ : Mem), F_X3_keep_b96 N n x2 σ = some (r, τ) → Wp (WpD (e + 1)) hcX3_keep Q (96, [some (.inr (.inr (11, 0))), none, some (.inl x2)], []) σ := by
  intro n
  induction n with
  | zero => intro x2 σ h; cases h
  | succ n ih =>
    intro x2 σ h
    unfold F_X3_keep_b96 at h
    refine Wp.br (WpD.mono _) 2 (c := (4 : Int32) ≤ x2) (q1 := ((137, [some (.inr (.inr (11, 0))), none, some (.inl x2)], []), σ)) (q2 := ((101, [some (.inr (.inr (11, 0))), none, some (.inl x2)], []), σ)) rfl (fun hc => ?_) (fun hc => ?_)
    · have h := (if_pos hc).symm.trans h
      cases h
      exact Wp.ret (WpD.mono _) rfl hQ
    · have h := (if_neg hc).symm.trans h
      obtain ⟨hc, h⟩ := ite_nn h
      refine Wp.no (WpD.mono _) 7 (c := hwOut x2 4) (q := ((115, [some (.inr (.inr (11, 0))), none, some (.inl x2)], [.inl (σ.2.2.1 58 0 (x2).toNatClampNeg), .inl x2, .inr (.inr (34, 0))]), σ)) rfl hc ?_
      obtain ⟨hc, h⟩ := ite_nn h
      refine Wp.no (WpD.mono _) 0 (c := hwOut x2 4) (q := ((116, [some (.inr (.inr (11, 0))), none, some (.inl x2)], []), (σ.1, σ.2.1, (hwU3 σ.2.2.1 34 0 (x2).toNatClampNeg (σ.2.2.1 58 0 (x2).toNatClampNeg)), σ.2.2.2.1, σ.2.2.2.2))) rfl hc ?_
      obtain ⟨hc, h⟩ := ite_nn h
      refine Wp.no (WpD.mono _) 7 (c := hwOut x2 4) (q := ((130, [some (.inr (.inr (11, 0))), none, some (.inl x2)], [.inl (σ.2.2.1 59 0 (x2).toNatClampNeg), .inl x2, .inr (.inr (35, 0))]), (σ.1, σ.2.1, (hwU3 σ.2.2.1 34 0 (x2).toNatClampNeg (σ.2.2.1 58 0 (x2).toNatClampNeg)), σ.2.2.2.1, σ.2.2.2.2))) rfl hc ?_
      obtain ⟨hc, h⟩ := ite_nn h
      refine Wp.no (WpD.mono _) 0 (c := hwOut x2 4) (q := ((131, [some (.inr (.inr (11, 0))), none, some (.inl x2)], []), (σ.1, σ.2.1, (hwU3 (hwU3 σ.2.2.1 34 0 (x2).toNatClampNeg (σ.2.2.1 58 0 (x2).toNatClampNeg)) 35 0 (x2).toNatClampNeg (vp_nar .boolean (σ.2.2.1 59 0 (x2).toNatClampNeg))), σ.2.2.2.1, σ.2.2.2.2))) rfl hc ?_
      refine Wp.run (WpD.mono _) 1 (q := ((96, [some (.inr (.inr (11, 0))), none, some (.inl (x2 + (1 : Int32)))], []), (σ.1, σ.2.1, (hwU3 (hwU3 σ.2.2.1 34 0 (x2).toNatClampNeg (σ.2.2.1 58 0 (x2).toNatClampNeg)) 35 0 (x2).toNatClampNeg (vp_nar .boolean (σ.2.2.1 59 0 (x2).toNatClampNeg))), σ.2.2.2.1, σ.2.2.2.2))) rfl ?_
      exact Wp.jump (WpD.mono _) rfl (ih (x2 + (1 : Int32)) (σ.1, σ.2.1, (hwU3 (hwU3 σ.2.2.1 34 0 (x2).toNatClampNeg (σ.2.2.1 58 0 (x2).toNatClampNeg)) 35 0 (x2).toNatClampNeg (vp_nar .boolean (σ.2.2.1 59 0 (x2).toNatClampNeg))), σ.2.2.2.1, σ.2.2.2.2) h)

set_option maxRecDepth 100000 in
set_option maxHeartbeats 4000000 in
theorem T_X3_keep (e N : Nat)  (a1 : Int32) (σ : Mem) (r : Unit) (τ : Mem) (Q : Pst) (h : F_X3_keep N a1 σ = some (r, τ)) (hQ : Q (none) τ) : WpD (e + 2) mX3_keep [.inr (.inr (11, 0)), .inl a1] σ Q := by
  refine WpD.of (d := e + 1) (Nat.le_of_ble_eq_true rfl) (Nat.le_of_ble_eq_true rfl) ?_
  show Wp (WpD (e + 1)) hcX3_keep Q (0, [some (.inr (.inr (11, 0))), some (.inl a1), none], []) σ
  unfold F_X3_keep at h
  refine Wp.run (WpD.mono _) 30 (q := ((61, [some (.inr (.inr (11, 0))), some (.inl a1), none], [.inl (5 : Int32), .inr (.inr (30, 0)), .inr (.inr (25, 0))]), ((hwU2 (hwU2 (hwU2 (hwU2 σ.1 11 11 (1 : Int32)) 11 10 a1) 11 8 (σ.1 1 6)) 11 9 (σ.1 4 5)), σ.2.1, (hwR3 σ.2.2.1 29 0 (va_cpy (σ.2.2.1 28 0) (σ.2.2.1 29 0) 0 0 5)), σ.2.2.2.1, σ.2.2.2.2))) rfl ?_
  obtain ⟨q1, hb, h⟩ := bind_some h
  refine Wp.call (WpD.mono _) rfl (T_X3_carry_t25_t30 (e + 0) N (5 : Int32) ((hwU2 (hwU2 (hwU2 (hwU2 σ.1 11 11 (1 : Int32)) 11 10 a1) 11 8 (σ.1 1 6)) 11 9 (σ.1 4 5)), σ.2.1, (hwR3 σ.2.2.1 29 0 (va_cpy (σ.2.2.1 28 0) (σ.2.2.1 29 0) 0 0 5)), σ.2.2.2.1, σ.2.2.2.2) _ _ _ hb ?_)
  show Wp (WpD (e + 1)) hcX3_keep Q (64, [some (.inr (.inr (11, 0))), some (.inl a1), none], []) q1.2
  refine Wp.run (WpD.mono _) 5 (q := ((76, [some (.inr (.inr (11, 0))), some (.inl a1), none], [.inl (5 : Int32), .inr (.inr (32, 0)), .inr (.inr (56, 0))]), q1.2)) rfl ?_
  obtain ⟨q2, hb, h⟩ := bind_some h
  refine Wp.call (WpD.mono _) rfl (T_X3_carry_t56_t32 (e + 0) N (5 : Int32) q1.2 _ _ _ hb ?_)
  show Wp (WpD (e + 1)) hcX3_keep Q (79, [some (.inr (.inr (11, 0))), some (.inl a1), none], []) q2.2
  refine Wp.run (WpD.mono _) 5 (q := ((91, [some (.inr (.inr (11, 0))), some (.inl a1), none], [.inl (4 : Int32), .inr (.inr (36, 0)), .inr (.inr (60, 0))]), q2.2)) rfl ?_
  obtain ⟨q3, hb, h⟩ := bind_some h
  refine Wp.call (WpD.mono _) rfl (T_X3_carry_t60_t36 (e + 0) N (4 : Int32) q2.2 _ _ _ hb ?_)
  show Wp (WpD (e + 1)) hcX3_keep Q (94, [some (.inr (.inr (11, 0))), some (.inl a1), none], []) q3.2
  refine Wp.run (WpD.mono _) 1 (q := ((96, [some (.inr (.inr (11, 0))), some (.inl a1), some (.inl (0 : Int32))], []), q3.2)) rfl ?_
  exact Wp.jump (WpD.mono _) rfl ((T_X3_keep_b96 e N  r τ Q hQ  N) (0 : Int32) q3.2 h)

set_option maxRecDepth 100000 in
set_option maxHeartbeats 4000000 in
theorem T_X11_image (e N : Nat)   (σ : Mem) (r : Int32) (τ : Mem) (Q : Pst) (h : F_X11_image N  σ = some (r, τ)) (hQ : Q (some (.inl r)) τ) : WpD (e + 3) mX11_image [.inr (.inr (0, 0))] σ Q := by
  refine WpD.of (d := e + 2) (Nat.le_of_ble_eq_true rfl) (Nat.le_of_ble_eq_true rfl) ?_
  show Wp (WpD (e + 2)) hcX11_image Q (0, [some (.inr (.inr (0, 0)))], []) σ
  unfold F_X11_image at h
  refine Wp.run (WpD.mono _) 4 (q := ((11, [some (.inr (.inr (0, 0)))], [.inl (σ.1 2 10), .inr (.inr (11, 0))]), σ)) rfl ?_
  obtain ⟨q1, hb, h⟩ := bind_some h
  refine Wp.call (WpD.mono _) rfl (T_X3_keep (e + 0) N (σ.1 2 10) σ _ _ _ hb ?_)
  show Wp (WpD (e + 2)) hcX11_image Q (14, [some (.inr (.inr (0, 0)))], []) q1.2
  refine Wp.run (WpD.mono _) 2 (q := ((21, [some (.inr (.inr (0, 0)))], [.inl (q1.2.1 4 5)]), q1.2)) rfl ?_
  cases h
  exact Wp.ret (WpD.mono _) rfl hQ

set_option maxRecDepth 100000 in
set_option maxHeartbeats 4000000 in
theorem T_X6_leastWorth_b24 (e N : Nat)   (r : Int32) (τ : Mem) (Q : Pst) (hQ : Q (some (.inl r)) τ) : ∀ n, ∀ (x1 : Int32) (x2 : Int32) (x3 : Int32) (x4 : Int32) (σ : Mem), F_X6_leastWorth_b24 N n x1 x2 x3 x4 σ = some (r, τ) → Wp (WpD (e + 12)) hcX6_leastWorth Q (24, [some (.inr (.inr (8, 0))), some (.inl x1), some (.inl x2), some (.inl x3), some (.inl x4), none], []) σ := by
  intro n
  induction n with
  | zero => intro x1 x2 x3 x4 σ h; cases h
  | succ n ih =>
    intro x1 x2 x3 x4 σ h
    unfold F_X6_leastWorth_b24 at h
    refine Wp.br (WpD.mono _) 2 (c := (32 : Int32) ≤ x4) (q1 := ((72, [some (.inr (.inr (8, 0))), some (.inl x1), some (.inl x2), some (.inl x3), some (.inl x4), none], []), σ)) (q2 := ((31, [some (.inr (.inr (8, 0))), some (.inl x1), some (.inl x2), some (.inl x3), some (.inl x4), none], []), σ)) rfl (fun hc => ?_) (fun hc => ?_)
    · have h := (if_pos hc).symm.trans h
      refine Wp.run (WpD.mono _) 0 (q := ((73, [none, none, some (.inl x2), none, none, none], [.inl x2]), σ)) rfl ?_
      cases h
      exact Wp.ret (WpD.mono _) rfl hQ
    · have h := (if_neg hc).symm.trans h
      refine Wp.br (WpD.mono _) 2 (c := x3 ≤ x2) (q1 := ((72, [some (.inr (.inr (8, 0))), some (.inl x1), some (.inl x2), some (.inl x3), some (.inl x4), none], []), σ)) (q2 := ((36, [some (.inr (.inr (8, 0))), some (.inl x1), some (.inl x2), some (.inl x3), some (.inl x4), none], []), σ)) rfl (fun hc => ?_) (fun hc => ?_)
      · have h := (if_pos hc).symm.trans h
        refine Wp.run (WpD.mono _) 0 (q := ((73, [none, none, some (.inl x2), none, none, none], [.inl x2]), σ)) rfl ?_
        cases h
        exact Wp.ret (WpD.mono _) rfl hQ
      · have h := (if_neg hc).symm.trans h
        refine Wp.run (WpD.mono _) 8 (q := ((47, [some (.inr (.inr (8, 0))), some (.inl x1), some (.inl x2), some (.inl x3), some (.inl x4), some (.inl ((x2 + x3) / (2 : Int32)))], [.inl ((x2 + x3) / (2 : Int32)), .inl x1, .inr (.inr (8, 0))]), σ)) rfl ?_
        obtain ⟨q2, hb, h⟩ := bind_some h
        refine Wp.call (WpD.mono _) rfl (T_X6_goingOn (e + 0) N x1 ((x2 + x3) / (2 : Int32)) σ _ _ _ hb ?_)
        show Wp (WpD (e + 12)) hcX6_leastWorth Q (50, [some (.inr (.inr (8, 0))), some (.inl x1), some (.inl x2), some (.inl x3), some (.inl x4), some (.inl ((x2 + x3) / (2 : Int32)))], [.inr (.inl q2.1)]) q2.2
        refine Wp.br (WpD.mono _) 2 (c := (lg_cmp q2.1 (0 : Int64)) ≤ 0) (q1 := ((61, [some (.inr (.inr (8, 0))), some (.inl x1), some (.inl x2), some (.inl x3), some (.inl x4), some (.inl ((x2 + x3) / (2 : Int32)))], []), q2.2)) (q2 := ((55, [some (.inr (.inr (8, 0))), some (.inl x1), some (.inl x2), some (.inl x3), some (.inl x4), some (.inl ((x2 + x3) / (2 : Int32)))], []), q2.2)) rfl (fun hc => ?_) (fun hc => ?_)
        · have h := (if_pos hc).symm.trans h
          refine Wp.run (WpD.mono _) 5 (q := ((24, [some (.inr (.inr (8, 0))), some (.inl x1), some (.inl (((x2 + x3) / (2 : Int32)) + (1 : Int32))), some (.inl x3), some (.inl (x4 + (1 : Int32))), none], []), q2.2)) rfl ?_
          exact Wp.jump (WpD.mono _) rfl (ih x1 (((x2 + x3) / (2 : Int32)) + (1 : Int32)) x3 (x4 + (1 : Int32)) q2.2 h)
        · have h := (if_neg hc).symm.trans h
          refine Wp.run (WpD.mono _) 4 (q := ((24, [some (.inr (.inr (8, 0))), some (.inl x1), some (.inl x2), some (.inl ((x2 + x3) / (2 : Int32))), some (.inl (x4 + (1 : Int32))), none], []), q2.2)) rfl ?_
          exact Wp.jump (WpD.mono _) rfl (ih x1 x2 ((x2 + x3) / (2 : Int32)) (x4 + (1 : Int32)) q2.2 h)

set_option maxRecDepth 100000 in
set_option maxHeartbeats 4000000 in
theorem T_X6_leastWorth (e N : Nat)  (a1 : Int32) (σ : Mem) (r : Int32) (τ : Mem) (Q : Pst) (h : F_X6_leastWorth N a1 σ = some (r, τ)) (hQ : Q (some (.inl r)) τ) : WpD (e + 13) mX6_leastWorth [.inr (.inr (8, 0)), .inl a1] σ Q := by
  refine WpD.of (d := e + 12) (Nat.le_of_ble_eq_true rfl) (Nat.le_of_ble_eq_true rfl) ?_
  show Wp (WpD (e + 12)) hcX6_leastWorth Q (0, [some (.inr (.inr (8, 0))), some (.inl a1), none, none, none, none], []) σ
  unfold F_X6_leastWorth at h
  refine Wp.run (WpD.mono _) 2 (q := ((5, [some (.inr (.inr (8, 0))), some (.inl a1), none, none, none, none], [.inl (9999 : Int32), .inl a1, .inr (.inr (8, 0))]), σ)) rfl ?_
  obtain ⟨q1, hb, h⟩ := bind_some h
  refine Wp.call (WpD.mono _) rfl (T_X6_goingOn (e + 0) N a1 (9999 : Int32) σ _ _ _ hb ?_)
  show Wp (WpD (e + 12)) hcX6_leastWorth Q (8, [some (.inr (.inr (8, 0))), some (.inl a1), none, none, none, none], [.inr (.inl q1.1)]) q1.2
  refine Wp.br (WpD.mono _) 2 (c := 0 < (lg_cmp q1.1 (0 : Int64))) (q1 := ((15, [some (.inr (.inr (8, 0))), some (.inl a1), none, none, none, none], []), q1.2)) (q2 := ((13, [some (.inr (.inr (8, 0))), some (.inl a1), none, none, none, none], []), q1.2)) rfl (fun hc => ?_) (fun hc => ?_)
  · have h := (if_pos hc).symm.trans h
    refine Wp.run (WpD.mono _) 5 (q := ((24, [some (.inr (.inr (8, 0))), some (.inl a1), some (.inl (0 : Int32)), some (.inl (9999 : Int32)), some (.inl (0 : Int32)), none], []), q1.2)) rfl ?_
    exact Wp.jump (WpD.mono _) rfl ((T_X6_leastWorth_b24 e N  r τ Q hQ  N) a1 (0 : Int32) (9999 : Int32) (0 : Int32) q1.2 h)
  · have h := (if_neg hc).symm.trans h
    refine Wp.run (WpD.mono _) 0 (q := ((14, [some (.inr (.inr (8, 0))), some (.inl a1), none, none, none, none], [.inl (-1 : Int32)]), q1.2)) rfl ?_
    cases h
    exact Wp.ret (WpD.mono _) rfl hQ

set_option maxRecDepth 100000 in
set_option maxHeartbeats 4000000 in
theorem T_X11_index (e N : Nat)  (a1 : Int32) (σ : Mem) (r : Int32) (τ : Mem) (Q : Pst) (h : F_X11_index N a1 σ = some (r, τ)) (hQ : Q (some (.inl r)) τ) : WpD (e + 14) mX11_index [.inr (.inr (0, 0)), .inl a1] σ Q := by
  refine WpD.of (d := e + 13) (Nat.le_of_ble_eq_true rfl) (Nat.le_of_ble_eq_true rfl) ?_
  show Wp (WpD (e + 13)) hcX11_index Q (0, [some (.inr (.inr (0, 0))), some (.inl a1), none], []) σ
  unfold F_X11_index at h
  refine Wp.run (WpD.mono _) 1 (q := ((2, [some (.inr (.inr (0, 0))), some (.inl a1), none], [.inl a1, .inr (.inr (0, 0))]), σ)) rfl ?_
  obtain ⟨q1, hb, h⟩ := bind_some h
  refine Wp.call (WpD.mono _) rfl (T_X11_isPlace (e + 11) N a1 σ _ _ _ hb ?_)
  show Wp (WpD (e + 13)) hcX11_index Q (5, [some (.inr (.inr (0, 0))), some (.inl a1), none], [.inl q1.1]) q1.2
  refine Wp.br (WpD.mono _) 0 (c := q1.1 = 0) (q1 := ((8, [some (.inr (.inr (0, 0))), some (.inl a1), none], []), q1.2)) (q2 := ((11, [some (.inr (.inr (0, 0))), some (.inl a1), none], []), q1.2)) rfl (fun hc => ?_) (fun hc => ?_)
  · have h := (if_pos hc).symm.trans h
    refine Wp.run (WpD.mono _) 0 (q := ((10, [some (.inr (.inr (0, 0))), some (.inl a1), none], [.inl (-5 : Int32)]), q1.2)) rfl ?_
    cases h
    exact Wp.ret (WpD.mono _) rfl hQ
  · have h := (if_neg hc).symm.trans h
    refine Wp.run (WpD.mono _) 2 (q := ((16, [some (.inr (.inr (0, 0))), some (.inl a1), none], [.inl a1, .inr (.inr (8, 0))]), q1.2)) rfl ?_
    obtain ⟨q2, hb, h⟩ := bind_some h
    refine Wp.call (WpD.mono _) rfl (T_X6_openYard (e + 9) N a1 q1.2 _ _ _ hb ?_)
    show Wp (WpD (e + 13)) hcX11_index Q (19, [some (.inr (.inr (0, 0))), some (.inl a1), none], [.inl q2.1]) q2.2
    refine Wp.br (WpD.mono _) 2 (c := q2.1 = 0) (q1 := ((24, [some (.inr (.inr (0, 0))), some (.inl a1), some (.inl q2.1)], []), q2.2)) (q2 := ((29, [some (.inr (.inr (0, 0))), some (.inl a1), some (.inl q2.1)], []), q2.2)) rfl (fun hc => ?_) (fun hc => ?_)
    · have h := (if_pos hc).symm.trans h
      refine Wp.run (WpD.mono _) 1 (q := ((37, [some (.inr (.inr (0, 0))), some (.inl a1), some (.inl q2.1)], [.inl (-3 : Int32)]), q2.2)) rfl ?_
      cases h
      exact Wp.ret (WpD.mono _) rfl hQ
    · have h := (if_neg hc).symm.trans h
      refine Wp.run (WpD.mono _) 2 (q := ((34, [some (.inr (.inr (0, 0))), some (.inl a1), some (.inl q2.1)], [.inl q2.1, .inr (.inr (8, 0))]), q2.2)) rfl ?_
      obtain ⟨q3, hb, h⟩ := bind_some h
      refine Wp.call (WpD.mono _) rfl (T_X6_leastWorth (e + 0) N q2.1 q2.2 _ _ _ hb ?_)
      show Wp (WpD (e + 13)) hcX11_index Q (37, [some (.inr (.inr (0, 0))), some (.inl a1), some (.inl q2.1)], [.inl q3.1]) q3.2
      cases h
      exact Wp.ret (WpD.mono _) rfl hQ

set_option maxRecDepth 100000 in
set_option maxHeartbeats 4000000 in
theorem T_X1_all (e N : Nat)   (σ : Mem) (r : Int32) (τ : Mem) (Q : Pst) (h : F_X1_all N  σ = some (r, τ)) (hQ : Q (some (.inl r)) τ) : WpD (e + 1) mX1_all [.inr (.inr (7, 0))] σ Q := by
  refine WpD.of (d := e + 0) (Nat.le_of_ble_eq_true rfl) (Nat.le_of_ble_eq_true rfl) ?_
  show Wp (WpD (e + 0)) hcX1_all Q (0, [some (.inr (.inr (7, 0)))], []) σ
  unfold F_X1_all at h
  refine Wp.run (WpD.mono _) 5 (q := ((8, [some (.inr (.inr (7, 0)))], [.inl (((1 : Int32) <<< ((σ.1 7 2) &&& 31)) - (1 : Int32))]), σ)) rfl ?_
  cases h
  exact Wp.ret (WpD.mono _) rfl hQ

set_option maxRecDepth 100000 in
set_option maxHeartbeats 4000000 in
theorem T_X1_has (e N : Nat)  (a1 : Int32) (a2 : Int32) (σ : Mem) (r : Int32) (τ : Mem) (Q : Pst) (h : F_X1_has N a1 a2 σ = some (r, τ)) (hQ : Q (some (.inl r)) τ) : WpD (e + 1) mX1_has [.inl a1, .inl a2] σ Q := by
  refine WpD.of (d := e + 0) (Nat.le_of_ble_eq_true rfl) (Nat.le_of_ble_eq_true rfl) ?_
  show Wp (WpD (e + 0)) hcX1_has Q (0, [some (.inl a1), some (.inl a2)], []) σ
  unfold F_X1_has at h
  refine Wp.br (WpD.mono _) 6 (c := ((a1 >>> (a2 &&& 31)) &&& (1 : Int32)) = (1 : Int32)) (q1 := ((9, [some (.inl a1), some (.inl a2)], []), σ)) (q2 := ((13, [some (.inl a1), some (.inl a2)], []), σ)) rfl (fun hc => ?_) (fun hc => ?_)
  · have h := (if_pos hc).symm.trans h
    refine Wp.run (WpD.mono _) 1 (q := ((14, [some (.inl a1), some (.inl a2)], [.inl (1 : Int32)]), σ)) rfl ?_
    cases h
    exact Wp.ret (WpD.mono _) rfl hQ
  · have h := (if_neg hc).symm.trans h
    refine Wp.run (WpD.mono _) 0 (q := ((14, [some (.inl a1), some (.inl a2)], [.inl (0 : Int32)]), σ)) rfl ?_
    cases h
    exact Wp.ret (WpD.mono _) rfl hQ

set_option maxRecDepth 100000 in
set_option maxHeartbeats 4000000 in
theorem T_X1_given_t69_b5 (e N : Nat)   (r : Int32) (τ : Mem) (Q : Pst) (hQ : Q (some (.inl r)) τ) : ∀ n, ∀ (x1 : Nat) (x2 : Int32) (x3 : Int32) (x4 : Int32) (σ : Mem), F_X1_given_t69_b5 N n x1 x2 x3 x4 σ = some (r, τ) → Wp (WpD (e + 1)) hcX1_given Q (5, [some (.inr (.inr (7, 0))), some (.inr (.inr (69, x1))), some (.inl x2), some (.inl x3), some (.inl x4)], []) σ := by
  intro n
  induction n with
  | zero => intro x1 x2 x3 x4 σ h; cases h
  | succ n ih =>
    intro x1 x2 x3 x4 σ h
    unfold F_X1_given_t69_b5 at h
    refine Wp.br (WpD.mono _) 3 (c := (σ.1 7 2) ≤ x4) (q1 := ((43, [some (.inr (.inr (7, 0))), some (.inr (.inr (69, x1))), some (.inl x2), some (.inl x3), some (.inl x4)], []), σ)) (q2 := ((14, [some (.inr (.inr (7, 0))), some (.inr (.inr (69, x1))), some (.inl x2), some (.inl x3), some (.inl x4)], []), σ)) rfl (fun hc => ?_) (fun hc => ?_)
    · have h := (if_pos hc).symm.trans h
      refine Wp.run (WpD.mono _) 0 (q := ((44, [none, none, none, some (.inl x3), none], [.inl x3]), σ)) rfl ?_
      cases h
      exact Wp.ret (WpD.mono _) rfl hQ
    · have h := (if_neg hc).symm.trans h
      refine Wp.br (WpD.mono _) 3 (c := (40 : Int32) ≤ x4) (q1 := ((43, [some (.inr (.inr (7, 0))), some (.inr (.inr (69, x1))), some (.inl x2), some (.inl x3), some (.inl x4)], []), σ)) (q2 := ((21, [some (.inr (.inr (7, 0))), some (.inr (.inr (69, x1))), some (.inl x2), some (.inl x3), some (.inl x4)], []), σ)) rfl (fun hc => ?_) (fun hc => ?_)
      · have h := (if_pos hc).symm.trans h
        refine Wp.run (WpD.mono _) 0 (q := ((44, [none, none, none, some (.inl x3), none], [.inl x3]), σ)) rfl ?_
        cases h
        exact Wp.ret (WpD.mono _) rfl hQ
      · have h := (if_neg hc).symm.trans h
        refine Wp.run (WpD.mono _) 1 (q := ((24, [some (.inr (.inr (7, 0))), some (.inr (.inr (69, x1))), some (.inl x2), some (.inl x3), some (.inl x4)], [.inl x4, .inl x2]), σ)) rfl ?_
        obtain ⟨q1, hb, h⟩ := bind_some h
        refine Wp.call (WpD.mono _) rfl (T_X1_has (e + 0) N x2 x4 σ _ _ _ hb ?_)
        show Wp (WpD (e + 1)) hcX1_given Q (27, [some (.inr (.inr (7, 0))), some (.inr (.inr (69, x1))), some (.inl x2), some (.inl x3), some (.inl x4)], [.inl q1.1]) q1.2
        refine Wp.br (WpD.mono _) 0 (c := q1.1 = 0) (q1 := ((37, [some (.inr (.inr (7, 0))), some (.inr (.inr (69, x1))), some (.inl x2), some (.inl x3), some (.inl x4)], []), q1.2)) (q2 := ((30, [some (.inr (.inr (7, 0))), some (.inr (.inr (69, x1))), some (.inl x2), some (.inl x3), some (.inl x4)], []), q1.2)) rfl (fun hc => ?_) (fun hc => ?_)
        · have h := (if_pos hc).symm.trans h
          refine Wp.run (WpD.mono _) 1 (q := ((5, [some (.inr (.inr (7, 0))), some (.inr (.inr (69, x1))), some (.inl x2), some (.inl x3), some (.inl (x4 + (1 : Int32)))], []), q1.2)) rfl ?_
          exact Wp.jump (WpD.mono _) rfl (ih x1 x2 x3 (x4 + (1 : Int32)) q1.2 h)
        · have h := (if_neg hc).symm.trans h
          obtain ⟨hc, h⟩ := ite_nn h
          refine Wp.no (WpD.mono _) 3 (c := hwOut x4 40) (q := ((35, [some (.inr (.inr (7, 0))), some (.inr (.inr (69, x1))), some (.inl x2), some (.inl x3), some (.inl x4)], [.inl (q1.2.2.2.1 69 x1 (x4).toNatClampNeg), .inl x3]), q1.2)) rfl hc ?_
          refine Wp.run (WpD.mono _) 3 (q := ((5, [some (.inr (.inr (7, 0))), some (.inr (.inr (69, x1))), some (.inl x2), some (.inl (x3 + (q1.2.2.2.1 69 x1 (x4).toNatClampNeg))), some (.inl (x4 + (1 : Int32)))], []), q1.2)) rfl ?_
          exact Wp.jump (WpD.mono _) rfl (ih x1 x2 (x3 + (q1.2.2.2.1 69 x1 (x4).toNatClampNeg)) (x4 + (1 : Int32)) q1.2 h)

set_option maxRecDepth 100000 in
set_option maxHeartbeats 4000000 in
theorem T_X1_given_t69 (e N : Nat)  (a1 : Nat) (a2 : Int32) (σ : Mem) (r : Int32) (τ : Mem) (Q : Pst) (h : F_X1_given_t69 N a1 a2 σ = some (r, τ)) (hQ : Q (some (.inl r)) τ) : WpD (e + 2) mX1_given [.inr (.inr (7, 0)), .inr (.inr (69, a1)), .inl a2] σ Q := by
  refine WpD.of (d := e + 1) (Nat.le_of_ble_eq_true rfl) (Nat.le_of_ble_eq_true rfl) ?_
  show Wp (WpD (e + 1)) hcX1_given Q (0, [some (.inr (.inr (7, 0))), some (.inr (.inr (69, a1))), some (.inl a2), none, none], []) σ
  unfold F_X1_given_t69 at h
  refine Wp.run (WpD.mono _) 3 (q := ((5, [some (.inr (.inr (7, 0))), some (.inr (.inr (69, a1))), some (.inl a2), some (.inl (0 : Int32)), some (.inl (0 : Int32))], []), σ)) rfl ?_
  exact Wp.jump (WpD.mono _) rfl ((T_X1_given_t69_b5 e N  r τ Q hQ  N) a1 a2 (0 : Int32) (0 : Int32) σ h)

set_option maxRecDepth 100000 in
set_option maxHeartbeats 4000000 in
theorem T_X1_walk_b5 (e N : Nat)   (r : Int32) (τ : Mem) (Q : Pst) (hQ : Q (some (.inl r)) τ) : ∀ n, ∀ (x1 : Int32) (x2 : Int32) (x3 : Int32) (x4 : Int32) (σ : Mem), F_X1_walk_b5 N n x1 x2 x3 x4 σ = some (r, τ) → Wp (WpD (e + 1)) hcX1_walk Q (5, [some (.inr (.inr (7, 0))), some (.inl x1), some (.inl x2), some (.inl x3), some (.inl x4)], []) σ := by
  intro n
  induction n with
  | zero => intro x1 x2 x3 x4 σ h; cases h
  | succ n ih =>
    intro x1 x2 x3 x4 σ h
    unfold F_X1_walk_b5 at h
    refine Wp.br (WpD.mono _) 3 (c := (σ.1 7 2) ≤ x4) (q1 := ((52, [some (.inr (.inr (7, 0))), some (.inl x1), some (.inl x2), some (.inl x3), some (.inl x4)], []), σ)) (q2 := ((14, [some (.inr (.inr (7, 0))), some (.inl x1), some (.inl x2), some (.inl x3), some (.inl x4)], []), σ)) rfl (fun hc => ?_) (fun hc => ?_)
    · have h := (if_pos hc).symm.trans h
      refine Wp.run (WpD.mono _) 0 (q := ((53, [some (.inr (.inr (7, 0))), some (.inl x1), some (.inl x2), some (.inl x3), some (.inl x4)], [.inl x3]), σ)) rfl ?_
      cases h
      exact Wp.ret (WpD.mono _) rfl hQ
    · have h := (if_neg hc).symm.trans h
      refine Wp.run (WpD.mono _) 1 (q := ((17, [some (.inr (.inr (7, 0))), some (.inl x1), some (.inl x2), some (.inl x3), some (.inl x4)], [.inl x4, .inl x1]), σ)) rfl ?_
      obtain ⟨q1, hb, h⟩ := bind_some h
      refine Wp.call (WpD.mono _) rfl (T_X1_has (e + 0) N x1 x4 σ _ _ _ hb ?_)
      show Wp (WpD (e + 1)) hcX1_walk Q (20, [some (.inr (.inr (7, 0))), some (.inl x1), some (.inl x2), some (.inl x3), some (.inl x4)], [.inl q1.1]) q1.2
      refine Wp.br (WpD.mono _) 0 (c := q1.1 = 0) (q1 := ((46, [some (.inr (.inr (7, 0))), some (.inl x1), some (.inl x2), some (.inl x3), some (.inl x4)], []), q1.2)) (q2 := ((23, [some (.inr (.inr (7, 0))), some (.inl x1), some (.inl x2), some (.inl x3), some (.inl x4)], []), q1.2)) rfl (fun hc => ?_) (fun hc => ?_)
      · have h := (if_pos hc).symm.trans h
        refine Wp.run (WpD.mono _) 1 (q := ((5, [some (.inr (.inr (7, 0))), some (.inl x1), some (.inl x2), some (.inl x3), some (.inl (x4 + (1 : Int32)))], []), q1.2)) rfl ?_
        exact Wp.jump (WpD.mono _) rfl (ih x1 x2 x3 (x4 + (1 : Int32)) q1.2 h)
      · have h := (if_neg hc).symm.trans h
        obtain ⟨hc, h⟩ := ite_nn h
        refine Wp.no (WpD.mono _) 4 (c := hwOut x4 6) (q := ((31, [some (.inr (.inr (7, 0))), some (.inl x1), some (.inl x2), some (.inl x3), some (.inl x4)], [.inl (q1.2.2.2.1 21 0 (x4).toNatClampNeg), .inl x3]), q1.2)) rfl hc ?_
        obtain ⟨hc, h⟩ := ite_nn h
        refine Wp.no (WpD.mono _) 3 (c := hwOut x4 6) (q := ((38, [some (.inr (.inr (7, 0))), some (.inl x1), some (.inl x2), some (.inl x3), some (.inl x4)], [.inl (q1.2.2.2.1 20 0 (x4).toNatClampNeg), .inl (q1.2.2.2.1 21 0 (x4).toNatClampNeg), .inl x3]), q1.2)) rfl hc ?_
        refine Wp.run (WpD.mono _) 7 (q := ((5, [some (.inr (.inr (7, 0))), some (.inl x1), some (.inl x2), some (.inl (x3 + ((q1.2.2.2.1 21 0 (x4).toNatClampNeg) * (if 0 ≤ ((q1.2.2.2.1 20 0 (x4).toNatClampNeg) - x2) then ((q1.2.2.2.1 20 0 (x4).toNatClampNeg) - x2) else 0 - ((q1.2.2.2.1 20 0 (x4).toNatClampNeg) - x2))))), some (.inl (x4 + (1 : Int32)))], []), q1.2)) rfl ?_
        exact Wp.jump (WpD.mono _) rfl (ih x1 x2 (x3 + ((q1.2.2.2.1 21 0 (x4).toNatClampNeg) * (if 0 ≤ ((q1.2.2.2.1 20 0 (x4).toNatClampNeg) - x2) then ((q1.2.2.2.1 20 0 (x4).toNatClampNeg) - x2) else 0 - ((q1.2.2.2.1 20 0 (x4).toNatClampNeg) - x2)))) (x4 + (1 : Int32)) q1.2 h)

set_option maxRecDepth 100000 in
set_option maxHeartbeats 4000000 in
theorem T_X1_walk (e N : Nat)  (a1 : Int32) (a2 : Int32) (σ : Mem) (r : Int32) (τ : Mem) (Q : Pst) (h : F_X1_walk N a1 a2 σ = some (r, τ)) (hQ : Q (some (.inl r)) τ) : WpD (e + 2) mX1_walk [.inr (.inr (7, 0)), .inl a1, .inl a2] σ Q := by
  refine WpD.of (d := e + 1) (Nat.le_of_ble_eq_true rfl) (Nat.le_of_ble_eq_true rfl) ?_
  show Wp (WpD (e + 1)) hcX1_walk Q (0, [some (.inr (.inr (7, 0))), some (.inl a1), some (.inl a2), none, none], []) σ
  unfold F_X1_walk at h
  refine Wp.run (WpD.mono _) 3 (q := ((5, [some (.inr (.inr (7, 0))), some (.inl a1), some (.inl a2), some (.inl (0 : Int32)), some (.inl (0 : Int32))], []), σ)) rfl ?_
  exact Wp.jump (WpD.mono _) rfl ((T_X1_walk_b5 e N  r τ Q hQ  N) a1 a2 (0 : Int32) (0 : Int32) σ h)

set_option maxRecDepth 100000 in
set_option maxHeartbeats 4000000 in
theorem T_X1_wellOf_b66 (e N : Nat)  (k7 : Int32 → Int32 → Int32 → Int32 → Mem → Option (Int32 × Mem)) (r : Int32) (τ : Mem) (Q : Pst) (hQ : Q (some (.inl r)) τ) (hk7 : ∀ (x1 : Int32) (x2 : Int32) (x3 : Int32) (x4 : Int32) (σ : Mem), k7 x1 x2 x3 x4 σ = some (r, τ) → Wp (WpD (e + 2)) hcX1_wellOf Q (7, [some (.inr (.inr (7, 0))), some (.inl x1), some (.inl x2), some (.inl x3), some (.inl x4), none], []) σ) : ∀ (x1 : Int32) (x4 : Int32) (x5 : Int32) (σ : Mem), F_X1_wellOf_b66 N k7 x1 x4 x5 σ = some (r, τ) → Wp (WpD (e + 2)) hcX1_wellOf Q (66, [some (.inr (.inr (7, 0))), some (.inl x1), none, none, some (.inl x4), some (.inl x5)], []) σ := by
  intro x1 x4 x5 σ h
  unfold F_X1_wellOf_b66 at h
  obtain ⟨hc, h⟩ := ite_nn h
  refine Wp.no (WpD.mono _) 5 (c := hwOut x4 6) (q := ((76, [some (.inr (.inr (7, 0))), some (.inl x1), none, some (.inl x5), some (.inl x4), some (.inl x5)], [.inl (σ.2.2.1 20 0 (x4).toNatClampNeg)]), σ)) rfl hc ?_
  refine Wp.run (WpD.mono _) 2 (q := ((7, [some (.inr (.inr (7, 0))), some (.inl x1), some (.inl (σ.2.2.1 20 0 (x4).toNatClampNeg)), some (.inl x5), some (.inl (x4 + (1 : Int32))), none], []), σ)) rfl ?_
  exact Wp.jump (WpD.mono _) rfl (hk7 x1 (σ.2.2.1 20 0 (x4).toNatClampNeg) x5 (x4 + (1 : Int32)) σ h)

set_option maxRecDepth 100000 in
set_option maxHeartbeats 4000000 in
theorem T_X1_wellOf_b7 (e N : Nat)   (r : Int32) (τ : Mem) (Q : Pst) (hQ : Q (some (.inl r)) τ) : ∀ n, ∀ (x1 : Int32) (x2 : Int32) (x3 : Int32) (x4 : Int32) (σ : Mem), F_X1_wellOf_b7 N n x1 x2 x3 x4 σ = some (r, τ) → Wp (WpD (e + 2)) hcX1_wellOf Q (7, [some (.inr (.inr (7, 0))), some (.inl x1), some (.inl x2), some (.inl x3), some (.inl x4), none], []) σ := by
  intro n
  induction n with
  | zero => intro x1 x2 x3 x4 σ h; cases h
  | succ n ih =>
    intro x1 x2 x3 x4 σ h
    unfold F_X1_wellOf_b7 at h
    refine Wp.br (WpD.mono _) 3 (c := (σ.1 7 2) ≤ x4) (q1 := ((83, [some (.inr (.inr (7, 0))), some (.inl x1), some (.inl x2), some (.inl x3), some (.inl x4), none], []), σ)) (q2 := ((16, [some (.inr (.inr (7, 0))), some (.inl x1), some (.inl x2), some (.inl x3), some (.inl x4), none], []), σ)) rfl (fun hc => ?_) (fun hc => ?_)
    · have h := (if_pos hc).symm.trans h
      refine Wp.run (WpD.mono _) 0 (q := ((84, [some (.inr (.inr (7, 0))), some (.inl x1), some (.inl x2), some (.inl x3), some (.inl x4), none], [.inl x2]), σ)) rfl ?_
      cases h
      exact Wp.ret (WpD.mono _) rfl hQ
    · have h := (if_neg hc).symm.trans h
      refine Wp.run (WpD.mono _) 1 (q := ((19, [some (.inr (.inr (7, 0))), some (.inl x1), some (.inl x2), some (.inl x3), some (.inl x4), none], [.inl x4, .inl x1]), σ)) rfl ?_
      obtain ⟨q1, hb, h⟩ := bind_some h
      refine Wp.call (WpD.mono _) rfl (T_X1_has (e + 1) N x1 x4 σ _ _ _ hb ?_)
      show Wp (WpD (e + 2)) hcX1_wellOf Q (22, [some (.inr (.inr (7, 0))), some (.inl x1), some (.inl x2), some (.inl x3), some (.inl x4), none], [.inl q1.1]) q1.2
      refine Wp.br (WpD.mono _) 0 (c := q1.1 = 0) (q1 := ((77, [some (.inr (.inr (7, 0))), some (.inl x1), some (.inl x2), some (.inl x3), some (.inl x4), none], []), q1.2)) (q2 := ((25, [some (.inr (.inr (7, 0))), some (.inl x1), some (.inl x2), some (.inl x3), some (.inl x4), none], []), q1.2)) rfl (fun hc => ?_) (fun hc => ?_)
      · have h := (if_pos hc).symm.trans h
        refine Wp.run (WpD.mono _) 1 (q := ((7, [some (.inr (.inr (7, 0))), some (.inl x1), some (.inl x2), some (.inl x3), some (.inl (x4 + (1 : Int32))), none], []), q1.2)) rfl ?_
        exact Wp.jump (WpD.mono _) rfl (ih x1 x2 x3 (x4 + (1 : Int32)) q1.2 h)
      · have h := (if_neg hc).symm.trans h
        obtain ⟨hc, h⟩ := ite_nn h
        refine Wp.no (WpD.mono _) 5 (c := hwOut x4 6) (q := ((34, [some (.inr (.inr (7, 0))), some (.inl x1), some (.inl x2), some (.inl x3), some (.inl x4), none], [.inl (q1.2.2.2.1 20 0 (x4).toNatClampNeg), .inl x1, .inr (.inr (7, 0))]), q1.2)) rfl hc ?_
        obtain ⟨q2, hb, h⟩ := bind_some h
        refine Wp.call (WpD.mono _) rfl (T_X1_walk (e + 0) N x1 (q1.2.2.2.1 20 0 (x4).toNatClampNeg) q1.2 _ _ _ hb ?_)
        show Wp (WpD (e + 2)) hcX1_wellOf Q (37, [some (.inr (.inr (7, 0))), some (.inl x1), some (.inl x2), some (.inl x3), some (.inl x4), none], [.inl q2.1]) q2.2
        refine Wp.br (WpD.mono _) 2 (c := x2 < 0) (q1 := ((66, [some (.inr (.inr (7, 0))), some (.inl x1), some (.inl x2), some (.inl x3), some (.inl x4), some (.inl q2.1)], []), q2.2)) (q2 := ((43, [some (.inr (.inr (7, 0))), some (.inl x1), some (.inl x2), some (.inl x3), some (.inl x4), some (.inl q2.1)], []), q2.2)) rfl (fun hc => ?_) (fun hc => ?_)
        · have h := (if_pos hc).symm.trans h
          exact Wp.jump (WpD.mono _) rfl ((T_X1_wellOf_b66 e N (F_X1_wellOf_b7 N n) r τ Q hQ ih) x1 x4 q2.1 q2.2 h)
        · have h := (if_neg hc).symm.trans h
          refine Wp.br (WpD.mono _) 2 (c := q2.1 < x3) (q1 := ((66, [some (.inr (.inr (7, 0))), some (.inl x1), some (.inl x2), some (.inl x3), some (.inl x4), some (.inl q2.1)], []), q2.2)) (q2 := ((49, [some (.inr (.inr (7, 0))), some (.inl x1), some (.inl x2), some (.inl x3), some (.inl x4), some (.inl q2.1)], []), q2.2)) rfl (fun hc => ?_) (fun hc => ?_)
          · have h := (if_pos hc).symm.trans h
            exact Wp.jump (WpD.mono _) rfl ((T_X1_wellOf_b66 e N (F_X1_wellOf_b7 N n) r τ Q hQ ih) x1 x4 q2.1 q2.2 h)
          · have h := (if_neg hc).symm.trans h
            refine Wp.br (WpD.mono _) 2 (c := q2.1 = x3) (q1 := ((55, [some (.inr (.inr (7, 0))), some (.inl x1), some (.inl x2), some (.inl x3), some (.inl x4), some (.inl q2.1)], []), q2.2)) (q2 := ((77, [some (.inr (.inr (7, 0))), some (.inl x1), some (.inl x2), some (.inl x3), some (.inl x4), some (.inl q2.1)], []), q2.2)) rfl (fun hc => ?_) (fun hc => ?_)
            · have h := (if_pos hc).symm.trans h
              obtain ⟨hc, h⟩ := ite_nn h
              refine Wp.no (WpD.mono _) 3 (c := hwOut x4 6) (q := ((62, [some (.inr (.inr (7, 0))), some (.inl x1), some (.inl x2), some (.inl x3), some (.inl x4), some (.inl q2.1)], [.inl (q2.2.2.2.1 20 0 (x4).toNatClampNeg)]), q2.2)) rfl hc ?_
              refine Wp.br (WpD.mono _) 1 (c := x2 ≤ (q2.2.2.2.1 20 0 (x4).toNatClampNeg)) (q1 := ((77, [some (.inr (.inr (7, 0))), some (.inl x1), some (.inl x2), some (.inl x3), some (.inl x4), some (.inl q2.1)], []), q2.2)) (q2 := ((66, [some (.inr (.inr (7, 0))), some (.inl x1), some (.inl x2), some (.inl x3), some (.inl x4), some (.inl q2.1)], []), q2.2)) rfl (fun hc => ?_) (fun hc => ?_)
              · have h := (if_pos hc).symm.trans h
                refine Wp.run (WpD.mono _) 1 (q := ((7, [some (.inr (.inr (7, 0))), some (.inl x1), some (.inl x2), some (.inl x3), some (.inl (x4 + (1 : Int32))), none], []), q2.2)) rfl ?_
                exact Wp.jump (WpD.mono _) rfl (ih x1 x2 x3 (x4 + (1 : Int32)) q2.2 h)
              · have h := (if_neg hc).symm.trans h
                exact Wp.jump (WpD.mono _) rfl ((T_X1_wellOf_b66 e N (F_X1_wellOf_b7 N n) r τ Q hQ ih) x1 x4 q2.1 q2.2 h)
            · have h := (if_neg hc).symm.trans h
              refine Wp.run (WpD.mono _) 1 (q := ((7, [some (.inr (.inr (7, 0))), some (.inl x1), some (.inl x2), some (.inl x3), some (.inl (x4 + (1 : Int32))), none], []), q2.2)) rfl ?_
              exact Wp.jump (WpD.mono _) rfl (ih x1 x2 x3 (x4 + (1 : Int32)) q2.2 h)

set_option maxRecDepth 100000 in
set_option maxHeartbeats 4000000 in
theorem T_X1_wellOf (e N : Nat)  (a1 : Int32) (σ : Mem) (r : Int32) (τ : Mem) (Q : Pst) (h : F_X1_wellOf N a1 σ = some (r, τ)) (hQ : Q (some (.inl r)) τ) : WpD (e + 3) mX1_wellOf [.inr (.inr (7, 0)), .inl a1] σ Q := by
  refine WpD.of (d := e + 2) (Nat.le_of_ble_eq_true rfl) (Nat.le_of_ble_eq_true rfl) ?_
  show Wp (WpD (e + 2)) hcX1_wellOf Q (0, [some (.inr (.inr (7, 0))), some (.inl a1), none, none, none, none], []) σ
  unfold F_X1_wellOf at h
  refine Wp.run (WpD.mono _) 5 (q := ((7, [some (.inr (.inr (7, 0))), some (.inl a1), some (.inl (-1 : Int32)), some (.inl (0 : Int32)), some (.inl (0 : Int32)), none], []), σ)) rfl ?_
  exact Wp.jump (WpD.mono _) rfl ((T_X1_wellOf_b7 e N  r τ Q hQ  N) a1 (-1 : Int32) (0 : Int32) (0 : Int32) σ h)

set_option maxRecDepth 100000 in
set_option maxHeartbeats 4000000 in
theorem T_X1_leaving_t69_b8 (e N : Nat)   (r : Int32) (τ : Mem) (Q : Pst) (hQ : Q (some (.inl r)) τ) : ∀ n, ∀ (x1 : Nat) (x2 : Int32) (x3 : Int32) (x4 : Int32) (σ : Mem), F_X1_leaving_t69_b8 N n x1 x2 x3 x4 σ = some (r, τ) → Wp (WpD (e + 3)) hcX1_leaving Q (8, [some (.inr (.inr (7, 0))), some (.inr (.inr (69, x1))), some (.inl x2), some (.inl x3), some (.inl x4), none, none], []) σ := by
  intro n
  induction n with
  | zero => intro x1 x2 x3 x4 σ h; cases h
  | succ n ih =>
    intro x1 x2 x3 x4 σ h
    unfold F_X1_leaving_t69_b8 at h
    refine Wp.br (WpD.mono _) 2 (c := x3 < x4) (q1 := ((68, [some (.inr (.inr (7, 0))), some (.inr (.inr (69, x1))), some (.inl x2), some (.inl x3), some (.inl x4), none, none], []), σ)) (q2 := ((14, [some (.inr (.inr (7, 0))), some (.inr (.inr (69, x1))), some (.inl x2), some (.inl x3), some (.inl x4), none, none], []), σ)) rfl (fun hc => ?_) (fun hc => ?_)
    · have h := (if_pos hc).symm.trans h
      refine Wp.run (WpD.mono _) 0 (q := ((69, [some (.inr (.inr (7, 0))), some (.inr (.inr (69, x1))), some (.inl x2), some (.inl x3), some (.inl x4), none, none], [.inl (-1 : Int32)]), σ)) rfl ?_
      cases h
      exact Wp.ret (WpD.mono _) rfl hQ
    · have h := (if_neg hc).symm.trans h
      refine Wp.run (WpD.mono _) 2 (q := ((18, [some (.inr (.inr (7, 0))), some (.inr (.inr (69, x1))), some (.inl x2), some (.inl x3), some (.inl x4), none, none], [.inl x4, .inr (.inr (69, x1)), .inr (.inr (7, 0))]), σ)) rfl ?_
      obtain ⟨q2, hb, h⟩ := bind_some h
      refine Wp.call (WpD.mono _) rfl (T_X1_given_t69 (e + 1) N x1 x4 σ _ _ _ hb ?_)
      show Wp (WpD (e + 3)) hcX1_leaving Q (21, [some (.inr (.inr (7, 0))), some (.inr (.inr (69, x1))), some (.inl x2), some (.inl x3), some (.inl x4), none, none], [.inl q2.1]) q2.2
      refine Wp.run (WpD.mono _) 4 (q := ((29, [some (.inr (.inr (7, 0))), some (.inr (.inr (69, x1))), some (.inl x2), some (.inl x3), some (.inl x4), some (.inl q2.1), none], [.inl x4, .inr (.inr (7, 0)), .inl x4, .inr (.inr (7, 0))]), q2.2)) rfl ?_
      obtain ⟨q3, hb, h⟩ := bind_some h
      refine Wp.call (WpD.mono _) rfl (T_X1_wellOf (e + 0) N x4 q2.2 _ _ _ hb ?_)
      show Wp (WpD (e + 3)) hcX1_leaving Q (32, [some (.inr (.inr (7, 0))), some (.inr (.inr (69, x1))), some (.inl x2), some (.inl x3), some (.inl x4), some (.inl q2.1), none], [.inl q3.1, .inl x4, .inr (.inr (7, 0))]) q3.2
      obtain ⟨q4, hb, h⟩ := bind_some h
      refine Wp.call (WpD.mono _) rfl (T_X1_walk (e + 1) N x4 q3.1 q3.2 _ _ _ hb ?_)
      show Wp (WpD (e + 3)) hcX1_leaving Q (35, [some (.inr (.inr (7, 0))), some (.inr (.inr (69, x1))), some (.inl x2), some (.inl x3), some (.inl x4), some (.inl q2.1), none], [.inl q4.1]) q4.2
      refine Wp.br (WpD.mono _) 5 (c := (q4.1 + x2) < q2.1) (q1 := ((59, [some (.inr (.inr (7, 0))), some (.inr (.inr (69, x1))), some (.inl x2), some (.inl x3), some (.inl x4), some (.inl q2.1), some (.inl (q4.1 + x2))], []), q4.2)) (q2 := ((46, [some (.inr (.inr (7, 0))), some (.inr (.inr (69, x1))), some (.inl x2), some (.inl x3), some (.inl x4), some (.inl q2.1), some (.inl (q4.1 + x2))], []), q4.2)) rfl (fun hc => ?_) (fun hc => ?_)
      · have h := (if_pos hc).symm.trans h
        refine Wp.run (WpD.mono _) 0 (q := ((61, [none, none, none, none, some (.inl x4), none, none], [.inl x4]), q4.2)) rfl ?_
        cases h
        exact Wp.ret (WpD.mono _) rfl hQ
      · have h := (if_neg hc).symm.trans h
        refine Wp.br (WpD.mono _) 2 (c := x4 = x3) (q1 := ((52, [some (.inr (.inr (7, 0))), some (.inr (.inr (69, x1))), some (.inl x2), some (.inl x3), some (.inl x4), some (.inl q2.1), some (.inl (q4.1 + x2))], []), q4.2)) (q2 := ((62, [some (.inr (.inr (7, 0))), some (.inr (.inr (69, x1))), some (.inl x2), some (.inl x3), some (.inl x4), some (.inl q2.1), some (.inl (q4.1 + x2))], []), q4.2)) rfl (fun hc => ?_) (fun hc => ?_)
        · have h := (if_pos hc).symm.trans h
          refine Wp.br (WpD.mono _) 2 (c := (q4.1 + x2) ≤ q2.1) (q1 := ((62, [some (.inr (.inr (7, 0))), some (.inr (.inr (69, x1))), some (.inl x2), some (.inl x3), some (.inl x4), some (.inl q2.1), some (.inl (q4.1 + x2))], []), q4.2)) (q2 := ((59, [some (.inr (.inr (7, 0))), some (.inr (.inr (69, x1))), some (.inl x2), some (.inl x3), some (.inl x4), some (.inl q2.1), some (.inl (q4.1 + x2))], []), q4.2)) rfl (fun hc => ?_) (fun hc => ?_)
          · have h := (if_pos hc).symm.trans h
            refine Wp.run (WpD.mono _) 1 (q := ((8, [some (.inr (.inr (7, 0))), some (.inr (.inr (69, x1))), some (.inl x2), some (.inl x3), some (.inl (x4 + (1 : Int32))), none, none], []), q4.2)) rfl ?_
            exact Wp.jump (WpD.mono _) rfl (ih x1 x2 x3 (x4 + (1 : Int32)) q4.2 h)
          · have h := (if_neg hc).symm.trans h
            refine Wp.run (WpD.mono _) 0 (q := ((61, [none, none, none, none, some (.inl x4), none, none], [.inl x4]), q4.2)) rfl ?_
            cases h
            exact Wp.ret (WpD.mono _) rfl hQ
        · have h := (if_neg hc).symm.trans h
          refine Wp.run (WpD.mono _) 1 (q := ((8, [some (.inr (.inr (7, 0))), some (.inr (.inr (69, x1))), some (.inl x2), some (.inl x3), some (.inl (x4 + (1 : Int32))), none, none], []), q4.2)) rfl ?_
          exact Wp.jump (WpD.mono _) rfl (ih x1 x2 x3 (x4 + (1 : Int32)) q4.2 h)

set_option maxRecDepth 100000 in
set_option maxHeartbeats 4000000 in
theorem T_X1_leaving_t69 (e N : Nat)  (a1 : Nat) (a2 : Int32) (σ : Mem) (r : Int32) (τ : Mem) (Q : Pst) (h : F_X1_leaving_t69 N a1 a2 σ = some (r, τ)) (hQ : Q (some (.inl r)) τ) : WpD (e + 4) mX1_leaving [.inr (.inr (7, 0)), .inr (.inr (69, a1)), .inl a2] σ Q := by
  refine WpD.of (d := e + 3) (Nat.le_of_ble_eq_true rfl) (Nat.le_of_ble_eq_true rfl) ?_
  show Wp (WpD (e + 3)) hcX1_leaving Q (0, [some (.inr (.inr (7, 0))), some (.inr (.inr (69, a1))), some (.inl a2), none, none, none, none], []) σ
  unfold F_X1_leaving_t69 at h
  refine Wp.run (WpD.mono _) 0 (q := ((1, [some (.inr (.inr (7, 0))), some (.inr (.inr (69, a1))), some (.inl a2), none, none, none, none], [.inr (.inr (7, 0))]), σ)) rfl ?_
  obtain ⟨q1, hb, h⟩ := bind_some h
  refine Wp.call (WpD.mono _) rfl (T_X1_all (e + 2) N σ _ _ _ hb ?_)
  show Wp (WpD (e + 3)) hcX1_leaving Q (4, [some (.inr (.inr (7, 0))), some (.inr (.inr (69, a1))), some (.inl a2), none, none, none, none], [.inl q1.1]) q1.2
  refine Wp.run (WpD.mono _) 2 (q := ((8, [some (.inr (.inr (7, 0))), some (.inr (.inr (69, a1))), some (.inl a2), some (.inl q1.1), some (.inl (1 : Int32)), none, none], []), q1.2)) rfl ?_
  exact Wp.jump (WpD.mono _) rfl ((T_X1_leaving_t69_b8 e N  r τ Q hQ  N) a1 a2 q1.1 (1 : Int32) q1.2 h)

set_option maxRecDepth 100000 in
set_option maxHeartbeats 4000000 in
theorem T_X4_costsOf_b4 (e N : Nat)   (r : Int32) (τ : Mem) (Q : Pst) (hQ : Q (some (.inl r)) τ) : ∀ n, ∀ (x1 : Int32) (x2 : Int32) (x3 : Int32) (σ : Mem), F_X4_costsOf_b4 N n x1 x2 x3 σ = some (r, τ) → Wp (WpD (e + 0)) hcX4_costsOf Q (4, [some (.inr (.inr (2, 0))), some (.inl x1), some (.inl x2), some (.inl x3)], []) σ := by
  intro n
  induction n with
  | zero => intro x1 x2 x3 σ h; cases h
  | succ n ih =>
    intro x1 x2 x3 σ h
    unfold F_X4_costsOf_b4 at h
    refine Wp.br (WpD.mono _) 2 (c := x1 < x3) (q1 := ((29, [some (.inr (.inr (2, 0))), some (.inl x1), some (.inl x2), some (.inl x3)], []), σ)) (q2 := ((9, [some (.inr (.inr (2, 0))), some (.inl x1), some (.inl x2), some (.inl x3)], []), σ)) rfl (fun hc => ?_) (fun hc => ?_)
    · have h := (if_pos hc).symm.trans h
      refine Wp.run (WpD.mono _) 0 (q := ((30, [none, none, some (.inl x2), none], [.inl x2]), σ)) rfl ?_
      cases h
      exact Wp.ret (WpD.mono _) rfl hQ
    · have h := (if_neg hc).symm.trans h
      refine Wp.br (WpD.mono _) 2 (c := (5 : Int32) < x3) (q1 := ((29, [some (.inr (.inr (2, 0))), some (.inl x1), some (.inl x2), some (.inl x3)], []), σ)) (q2 := ((14, [some (.inr (.inr (2, 0))), some (.inl x1), some (.inl x2), some (.inl x3)], []), σ)) rfl (fun hc => ?_) (fun hc => ?_)
      · have h := (if_pos hc).symm.trans h
        refine Wp.run (WpD.mono _) 0 (q := ((30, [none, none, some (.inl x2), none], [.inl x2]), σ)) rfl ?_
        cases h
        exact Wp.ret (WpD.mono _) rfl hQ
      · have h := (if_neg hc).symm.trans h
        obtain ⟨hc, h⟩ := ite_nn h
        refine Wp.no (WpD.mono _) 4 (c := hwOut x3 6) (q := ((21, [some (.inr (.inr (2, 0))), some (.inl x1), some (.inl x2), some (.inl x3)], [.inl (σ.2.2.1 42 0 (x3).toNatClampNeg), .inl x2]), σ)) rfl hc ?_
        refine Wp.run (WpD.mono _) 3 (q := ((4, [some (.inr (.inr (2, 0))), some (.inl x1), some (.inl (x2 + (σ.2.2.1 42 0 (x3).toNatClampNeg))), some (.inl (x3 + (1 : Int32)))], []), σ)) rfl ?_
        exact Wp.jump (WpD.mono _) rfl (ih x1 (x2 + (σ.2.2.1 42 0 (x3).toNatClampNeg)) (x3 + (1 : Int32)) σ h)

set_option maxRecDepth 100000 in
set_option maxHeartbeats 4000000 in
theorem T_X4_costsOf (e N : Nat)  (a1 : Int32) (σ : Mem) (r : Int32) (τ : Mem) (Q : Pst) (h : F_X4_costsOf N a1 σ = some (r, τ)) (hQ : Q (some (.inl r)) τ) : WpD (e + 1) mX4_costsOf [.inr (.inr (2, 0)), .inl a1] σ Q := by
  refine WpD.of (d := e + 0) (Nat.le_of_ble_eq_true rfl) (Nat.le_of_ble_eq_true rfl) ?_
  show Wp (WpD (e + 0)) hcX4_costsOf Q (0, [some (.inr (.inr (2, 0))), some (.inl a1), none, none], []) σ
  unfold F_X4_costsOf at h
  refine Wp.run (WpD.mono _) 3 (q := ((4, [some (.inr (.inr (2, 0))), some (.inl a1), some (.inl (0 : Int32)), some (.inl (1 : Int32))], []), σ)) rfl ?_
  exact Wp.jump (WpD.mono _) rfl ((T_X4_costsOf_b4 e N  r τ Q hQ  N) a1 (0 : Int32) (1 : Int32) σ h)

set_option maxRecDepth 100000 in
set_option maxHeartbeats 4000000 in
theorem T_X11_join (e N : Nat)  (a1 : Int32) (a2 : Int32) (σ : Mem) (r : Int32) (τ : Mem) (Q : Pst) (h : F_X11_join N a1 a2 σ = some (r, τ)) (hQ : Q (some (.inl r)) τ) : WpD (e + 5) mX11_join [.inr (.inr (0, 0)), .inl a1, .inl a2] σ Q := by
  refine WpD.of (d := e + 4) (Nat.le_of_ble_eq_true rfl) (Nat.le_of_ble_eq_true rfl) ?_
  show Wp (WpD (e + 4)) hcX11_join Q (0, [some (.inr (.inr (0, 0))), some (.inl a1), some (.inl a2)], []) σ
  unfold F_X11_join at h
  refine Wp.run (WpD.mono _) 0 (q := ((1, [some (.inr (.inr (0, 0))), some (.inl a1), some (.inl a2)], [.inl a1]), σ)) rfl ?_
  obtain ⟨q1, hb, h⟩ := bind_some h
  refine Wp.call (WpD.mono _) rfl (T_X11_isSheet (e + 2) N a1 σ _ _ _ hb ?_)
  show Wp (WpD (e + 4)) hcX11_join Q (4, [some (.inr (.inr (0, 0))), some (.inl a1), some (.inl a2)], [.inl q1.1]) q1.2
  refine Wp.br (WpD.mono _) 0 (c := q1.1 = 0) (q1 := ((16, [some (.inr (.inr (0, 0))), some (.inl a1), some (.inl a2)], []), q1.2)) (q2 := ((7, [some (.inr (.inr (0, 0))), some (.inl a1), some (.inl a2)], []), q1.2)) rfl (fun hc => ?_) (fun hc => ?_)
  · have h := (if_pos hc).symm.trans h
    refine Wp.run (WpD.mono _) 0 (q := ((18, [none, none, none], [.inl (-2 : Int32)]), q1.2)) rfl ?_
    cases h
    exact Wp.ret (WpD.mono _) rfl hQ
  · have h := (if_neg hc).symm.trans h
    refine Wp.run (WpD.mono _) 2 (q := ((10, [some (.inr (.inr (0, 0))), some (.inl a1), some (.inl a2)], [.inl (5 : Int32), .inl (1 : Int32), .inl a2]), q1.2)) rfl ?_
    obtain ⟨q2, hb, h⟩ := bind_some h
    refine Wp.call (WpD.mono _) rfl (T_X11_within (e + 3) N a2 (1 : Int32) (5 : Int32) q1.2 _ _ _ hb ?_)
    show Wp (WpD (e + 4)) hcX11_join Q (13, [some (.inr (.inr (0, 0))), some (.inl a1), some (.inl a2)], [.inl q2.1]) q2.2
    refine Wp.br (WpD.mono _) 0 (c := q2.1 = 0) (q1 := ((16, [some (.inr (.inr (0, 0))), some (.inl a1), some (.inl a2)], []), q2.2)) (q2 := ((19, [some (.inr (.inr (0, 0))), some (.inl a1), some (.inl a2)], []), q2.2)) rfl (fun hc => ?_) (fun hc => ?_)
    · have h := (if_pos hc).symm.trans h
      refine Wp.run (WpD.mono _) 0 (q := ((18, [none, none, none], [.inl (-2 : Int32)]), q2.2)) rfl ?_
      cases h
      exact Wp.ret (WpD.mono _) rfl hQ
    · have h := (if_neg hc).symm.trans h
      refine Wp.run (WpD.mono _) 2 (q := ((24, [some (.inr (.inr (0, 0))), some (.inl a1), some (.inl a2)], [.inl a1, .inr (.inr (5, 0))]), q2.2)) rfl ?_
      obtain ⟨q3, hb, h⟩ := bind_some h
      refine Wp.call (WpD.mono _) rfl (T_X10_isMissing (e + 3) N a1 q2.2 _ _ _ hb ?_)
      show Wp (WpD (e + 4)) hcX11_join Q (27, [some (.inr (.inr (0, 0))), some (.inl a1), some (.inl a2)], [.inl q3.1]) q3.2
      refine Wp.br (WpD.mono _) 0 (c := q3.1 = 0) (q1 := ((33, [some (.inr (.inr (0, 0))), some (.inl a1), some (.inl a2)], []), q3.2)) (q2 := ((30, [some (.inr (.inr (0, 0))), some (.inl a1), some (.inl a2)], []), q3.2)) rfl (fun hc => ?_) (fun hc => ?_)
      · have h := (if_pos hc).symm.trans h
        obtain ⟨hc, h⟩ := ite_nn h
        refine Wp.no (WpD.mono _) 4 (c := hwOut a1 4) (q := ((42, [some (.inr (.inr (0, 0))), some (.inl a1), some (.inl a2)], [.inl (q3.2.2.2.1 71 0 (a1).toNatClampNeg)]), q3.2)) rfl hc ?_
        refine Wp.br (WpD.mono _) 3 (c := (q3.2.2.2.1 71 0 (a1).toNatClampNeg) = (q3.2.1 7 2)) (q1 := ((52, [some (.inr (.inr (0, 0))), some (.inl a1), some (.inl a2)], []), q3.2)) (q2 := ((67, [some (.inr (.inr (0, 0))), some (.inl a1), some (.inl a2)], []), q3.2)) rfl (fun hc => ?_) (fun hc => ?_)
        · have h := (if_pos hc).symm.trans h
          refine Wp.run (WpD.mono _) 4 (q := ((61, [some (.inr (.inr (0, 0))), some (.inl a1), some (.inl a2)], [.inl (999999 : Int32), .inl (0 : Int32), .inl a1, .inr (.inr (5, 0))]), q3.2)) rfl ?_
          obtain ⟨q4, hb, h⟩ := bind_some h
          refine Wp.call (WpD.mono _) rfl (T_X10_allWithin (e + 2) N a1 (0 : Int32) (999999 : Int32) q3.2 _ _ _ hb ?_)
          show Wp (WpD (e + 4)) hcX11_join Q (64, [some (.inr (.inr (0, 0))), some (.inl a1), some (.inl a2)], [.inl q4.1]) q4.2
          refine Wp.br (WpD.mono _) 0 (c := q4.1 = 0) (q1 := ((67, [some (.inr (.inr (0, 0))), some (.inl a1), some (.inl a2)], []), q4.2)) (q2 := ((70, [some (.inr (.inr (0, 0))), some (.inl a1), some (.inl a2)], []), q4.2)) rfl (fun hc => ?_) (fun hc => ?_)
          · have h := (if_pos hc).symm.trans h
            refine Wp.run (WpD.mono _) 0 (q := ((69, [none, none, none], [.inl (-2 : Int32)]), q4.2)) rfl ?_
            cases h
            exact Wp.ret (WpD.mono _) rfl hQ
          · have h := (if_neg hc).symm.trans h
            obtain ⟨hc, h⟩ := ite_nn h
            refine Wp.no (WpD.mono _) 6 (c := hwOut a1 4) (q := ((83, [some (.inr (.inr (0, 0))), some (.inl a1), some (.inl a2)], [.inr (.inr (69, (a1).toNatClampNeg)), .inr (.inr (7, 0))]), q4.2)) rfl hc ?_
            refine Wp.run (WpD.mono _) 2 (q := ((88, [some (.inr (.inr (0, 0))), some (.inl a1), some (.inl a2)], [.inl a2, .inr (.inr (2, 0)), .inr (.inr (69, (a1).toNatClampNeg)), .inr (.inr (7, 0))]), q4.2)) rfl ?_
            obtain ⟨q5, hb, h⟩ := bind_some h
            refine Wp.call (WpD.mono _) rfl (T_X4_costsOf (e + 3) N a2 q4.2 _ _ _ hb ?_)
            show Wp (WpD (e + 4)) hcX11_join Q (91, [some (.inr (.inr (0, 0))), some (.inl a1), some (.inl a2)], [.inl q5.1, .inr (.inr (69, (a1).toNatClampNeg)), .inr (.inr (7, 0))]) q5.2
            obtain ⟨q6, hb, h⟩ := bind_some h
            refine Wp.call (WpD.mono _) rfl (T_X1_leaving_t69 (e + 0) N (a1).toNatClampNeg q5.1 q5.2 _ _ _ hb ?_)
            show Wp (WpD (e + 4)) hcX11_join Q (94, [some (.inr (.inr (0, 0))), some (.inl a1), some (.inl a2)], [.inl q6.1]) q6.2
            cases h
            exact Wp.ret (WpD.mono _) rfl hQ
        · have h := (if_neg hc).symm.trans h
          refine Wp.run (WpD.mono _) 0 (q := ((69, [none, none, none], [.inl (-2 : Int32)]), q3.2)) rfl ?_
          cases h
          exact Wp.ret (WpD.mono _) rfl hQ
      · have h := (if_neg hc).symm.trans h
        refine Wp.run (WpD.mono _) 0 (q := ((32, [some (.inr (.inr (0, 0))), some (.inl a1), some (.inl a2)], [.inl (-11 : Int32)]), q3.2)) rfl ?_
        cases h
        exact Wp.ret (WpD.mono _) rfl hQ

set_option maxRecDepth 100000 in
set_option maxHeartbeats 4000000 in
theorem T_X6_firstWrong_t69_b8 (e N : Nat)   (r : Int32) (τ : Mem) (Q : Pst) (hQ : Q (some (.inl r)) τ) : ∀ n, ∀ (x2 : Nat) (x3 : Int32) (x4 : Int32) (σ : Mem), F_X6_firstWrong_t69_b8 N n x2 x3 x4 σ = some (r, τ) → Wp (WpD (e + 2)) hcX6_firstWrong Q (8, [some (.inr (.inr (8, 0))), none, some (.inr (.inr (69, x2))), some (.inl x3), some (.inl x4)], []) σ := by
  intro n
  induction n with
  | zero => intro x2 x3 x4 σ h; cases h
  | succ n ih =>
    intro x2 x3 x4 σ h
    unfold F_X6_firstWrong_t69_b8 at h
    refine Wp.br (WpD.mono _) 2 (c := x3 ≤ x4) (q1 := ((58, [some (.inr (.inr (8, 0))), none, some (.inr (.inr (69, x2))), some (.inl x3), some (.inl x4)], []), σ)) (q2 := ((14, [some (.inr (.inr (8, 0))), none, some (.inr (.inr (69, x2))), some (.inl x3), some (.inl x4)], []), σ)) rfl (fun hc => ?_) (fun hc => ?_)
    · have h := (if_pos hc).symm.trans h
      refine Wp.run (WpD.mono _) 0 (q := ((59, [none, none, none, none, none], [.inl (-1 : Int32)]), σ)) rfl ?_
      cases h
      exact Wp.ret (WpD.mono _) rfl hQ
    · have h := (if_neg hc).symm.trans h
      refine Wp.br (WpD.mono _) 2 (c := (5 : Int32) ≤ x4) (q1 := ((58, [some (.inr (.inr (8, 0))), none, some (.inr (.inr (69, x2))), some (.inl x3), some (.inl x4)], []), σ)) (q2 := ((20, [some (.inr (.inr (8, 0))), none, some (.inr (.inr (69, x2))), some (.inl x3), some (.inl x4)], []), σ)) rfl (fun hc => ?_) (fun hc => ?_)
      · have h := (if_pos hc).symm.trans h
        refine Wp.run (WpD.mono _) 0 (q := ((59, [none, none, none, none, none], [.inl (-1 : Int32)]), σ)) rfl ?_
        cases h
        exact Wp.ret (WpD.mono _) rfl hQ
      · have h := (if_neg hc).symm.trans h
        obtain ⟨hc, h⟩ := ite_nn h
        refine Wp.no (WpD.mono _) 2 (c := hwOut x4 40) (q := ((24, [some (.inr (.inr (8, 0))), none, some (.inr (.inr (69, x2))), some (.inl x3), some (.inl x4)], [.inl (σ.2.2.1 69 x2 (x4).toNatClampNeg)]), σ)) rfl hc ?_
        refine Wp.run (WpD.mono _) 1 (q := ((26, [some (.inr (.inr (8, 0))), none, some (.inr (.inr (69, x2))), some (.inl x3), some (.inl x4)], [.inl (2 : Int32), .inl (0 : Int32), .inl (σ.2.2.1 69 x2 (x4).toNatClampNeg)]), σ)) rfl ?_
        obtain ⟨q2, hb, h⟩ := bind_some h
        refine Wp.call (WpD.mono _) rfl (T_X11_within (e + 1) N (σ.2.2.1 69 x2 (x4).toNatClampNeg) (0 : Int32) (2 : Int32) σ _ _ _ hb ?_)
        show Wp (WpD (e + 2)) hcX6_firstWrong Q (29, [some (.inr (.inr (8, 0))), none, some (.inr (.inr (69, x2))), some (.inl x3), some (.inl x4)], [.inl q2.1]) q2.2
        refine Wp.br (WpD.mono _) 0 (c := q2.1 = 0) (q1 := ((49, [some (.inr (.inr (8, 0))), none, some (.inr (.inr (69, x2))), some (.inl x3), some (.inl x4)], []), q2.2)) (q2 := ((32, [some (.inr (.inr (8, 0))), none, some (.inr (.inr (69, x2))), some (.inl x3), some (.inl x4)], []), q2.2)) rfl (fun hc => ?_) (fun hc => ?_)
        · have h := (if_pos hc).symm.trans h
          refine Wp.run (WpD.mono _) 0 (q := ((51, [none, none, none, none, some (.inl x4)], [.inl x4]), q2.2)) rfl ?_
          cases h
          exact Wp.ret (WpD.mono _) rfl hQ
        · have h := (if_neg hc).symm.trans h
          obtain ⟨hc, h⟩ := ite_nn h
          refine Wp.no (WpD.mono _) 6 (c := hwOut x4 40) (q := ((41, [some (.inr (.inr (8, 0))), none, some (.inr (.inr (69, x2))), some (.inl x3), some (.inl x4)], [.inl (q2.2.2.2.1 69 x2 (x4).toNatClampNeg), .inl (x4 + (1 : Int32)), .inr (.inr (8, 0))]), q2.2)) rfl hc ?_
          obtain ⟨q3, hb, h⟩ := bind_some h
          refine Wp.call (WpD.mono _) rfl (T_X6_pass (e + 0) N (x4 + (1 : Int32)) (q2.2.2.2.1 69 x2 (x4).toNatClampNeg) q2.2 _ _ _ hb ?_)
          show Wp (WpD (e + 2)) hcX6_firstWrong Q (44, [some (.inr (.inr (8, 0))), none, some (.inr (.inr (69, x2))), some (.inl x3), some (.inl x4)], [.inr (.inl q3.1)]) q3.2
          refine Wp.br (WpD.mono _) 2 (c := (lg_cmp q3.1 (0 : Int64)) = 0) (q1 := ((49, [some (.inr (.inr (8, 0))), none, some (.inr (.inr (69, x2))), some (.inl x3), some (.inl x4)], []), q3.2)) (q2 := ((52, [some (.inr (.inr (8, 0))), none, some (.inr (.inr (69, x2))), some (.inl x3), some (.inl x4)], []), q3.2)) rfl (fun hc => ?_) (fun hc => ?_)
          · have h := (if_pos hc).symm.trans h
            refine Wp.run (WpD.mono _) 0 (q := ((51, [none, none, none, none, some (.inl x4)], [.inl x4]), q3.2)) rfl ?_
            cases h
            exact Wp.ret (WpD.mono _) rfl hQ
          · have h := (if_neg hc).symm.trans h
            refine Wp.run (WpD.mono _) 1 (q := ((8, [some (.inr (.inr (8, 0))), none, some (.inr (.inr (69, x2))), some (.inl x3), some (.inl (x4 + (1 : Int32)))], []), q3.2)) rfl ?_
            exact Wp.jump (WpD.mono _) rfl (ih x2 x3 (x4 + (1 : Int32)) q3.2 h)

set_option maxRecDepth 100000 in
set_option maxHeartbeats 4000000 in
theorem T_X6_firstWrong_t69 (e N : Nat)  (a1 : Int32) (a2 : Nat) (a3 : Int32) (σ : Mem) (r : Int32) (τ : Mem) (Q : Pst) (h : F_X6_firstWrong_t69 N a1 a2 a3 σ = some (r, τ)) (hQ : Q (some (.inl r)) τ) : WpD (e + 3) mX6_firstWrong [.inr (.inr (8, 0)), .inl a1, .inr (.inr (69, a2)), .inl a3] σ Q := by
  refine WpD.of (d := e + 2) (Nat.le_of_ble_eq_true rfl) (Nat.le_of_ble_eq_true rfl) ?_
  show Wp (WpD (e + 2)) hcX6_firstWrong Q (0, [some (.inr (.inr (8, 0))), some (.inl a1), some (.inr (.inr (69, a2))), some (.inl a3), none], []) σ
  unfold F_X6_firstWrong_t69 at h
  refine Wp.run (WpD.mono _) 1 (q := ((2, [some (.inr (.inr (8, 0))), some (.inl a1), some (.inr (.inr (69, a2))), some (.inl a3), none], [.inl a1, .inr (.inr (8, 0))]), σ)) rfl ?_
  obtain ⟨q1, hb, h⟩ := bind_some h
  refine Wp.call (WpD.mono _) rfl (T_X6_begin (e + 0) N a1 σ _ _ _ hb ?_)
  show Wp (WpD (e + 2)) hcX6_firstWrong Q (5, [some (.inr (.inr (8, 0))), some (.inl a1), some (.inr (.inr (69, a2))), some (.inl a3), none], []) q1.2
  refine Wp.run (WpD.mono _) 1 (q := ((8, [some (.inr (.inr (8, 0))), some (.inl a1), some (.inr (.inr (69, a2))), some (.inl a3), some (.inl (0 : Int32))], []), q1.2)) rfl ?_
  exact Wp.jump (WpD.mono _) rfl ((T_X6_firstWrong_t69_b8 e N  r τ Q hQ  N) a2 a3 (0 : Int32) q1.2 h)

set_option maxRecDepth 100000 in
set_option maxHeartbeats 4000000 in
theorem T_X11_judge (e N : Nat)  (a1 : Int32) (a2 : Int32) (σ : Mem) (r : Int32) (τ : Mem) (Q : Pst) (h : F_X11_judge N a1 a2 σ = some (r, τ)) (hQ : Q (some (.inl r)) τ) : WpD (e + 4) mX11_judge [.inr (.inr (0, 0)), .inl a1, .inl a2] σ Q := by
  refine WpD.of (d := e + 3) (Nat.le_of_ble_eq_true rfl) (Nat.le_of_ble_eq_true rfl) ?_
  show Wp (WpD (e + 3)) hcX11_judge Q (0, [some (.inr (.inr (0, 0))), some (.inl a1), some (.inl a2)], []) σ
  unfold F_X11_judge at h
  refine Wp.run (WpD.mono _) 1 (q := ((2, [some (.inr (.inr (0, 0))), some (.inl a1), some (.inl a2)], [.inl a1, .inr (.inr (0, 0))]), σ)) rfl ?_
  obtain ⟨q1, hb, h⟩ := bind_some h
  refine Wp.call (WpD.mono _) rfl (T_X11_isPlace (e + 1) N a1 σ _ _ _ hb ?_)
  show Wp (WpD (e + 3)) hcX11_judge Q (5, [some (.inr (.inr (0, 0))), some (.inl a1), some (.inl a2)], [.inl q1.1]) q1.2
  refine Wp.br (WpD.mono _) 0 (c := q1.1 = 0) (q1 := ((8, [some (.inr (.inr (0, 0))), some (.inl a1), some (.inl a2)], []), q1.2)) (q2 := ((11, [some (.inr (.inr (0, 0))), some (.inl a1), some (.inl a2)], []), q1.2)) rfl (fun hc => ?_) (fun hc => ?_)
  · have h := (if_pos hc).symm.trans h
    refine Wp.run (WpD.mono _) 0 (q := ((10, [some (.inr (.inr (0, 0))), some (.inl a1), some (.inl a2)], [.inl (-5 : Int32)]), q1.2)) rfl ?_
    cases h
    exact Wp.ret (WpD.mono _) rfl hQ
  · have h := (if_neg hc).symm.trans h
    refine Wp.run (WpD.mono _) 0 (q := ((12, [some (.inr (.inr (0, 0))), some (.inl a1), some (.inl a2)], [.inl a2]), q1.2)) rfl ?_
    obtain ⟨q2, hb, h⟩ := bind_some h
    refine Wp.call (WpD.mono _) rfl (T_X11_isSheet (e + 1) N a2 q1.2 _ _ _ hb ?_)
    show Wp (WpD (e + 3)) hcX11_judge Q (15, [some (.inr (.inr (0, 0))), some (.inl a1), some (.inl a2)], [.inl q2.1]) q2.2
    refine Wp.br (WpD.mono _) 0 (c := q2.1 = 0) (q1 := ((18, [some (.inr (.inr (0, 0))), some (.inl a1), some (.inl a2)], []), q2.2)) (q2 := ((21, [some (.inr (.inr (0, 0))), some (.inl a1), some (.inl a2)], []), q2.2)) rfl (fun hc => ?_) (fun hc => ?_)
    · have h := (if_pos hc).symm.trans h
      refine Wp.run (WpD.mono _) 0 (q := ((20, [some (.inr (.inr (0, 0))), some (.inl a1), some (.inl a2)], [.inl (-2 : Int32)]), q2.2)) rfl ?_
      cases h
      exact Wp.ret (WpD.mono _) rfl hQ
    · have h := (if_neg hc).symm.trans h
      refine Wp.run (WpD.mono _) 2 (q := ((26, [some (.inr (.inr (0, 0))), some (.inl a1), some (.inl a2)], [.inl a2, .inr (.inr (5, 0))]), q2.2)) rfl ?_
      obtain ⟨q3, hb, h⟩ := bind_some h
      refine Wp.call (WpD.mono _) rfl (T_X10_isMissing (e + 2) N a2 q2.2 _ _ _ hb ?_)
      show Wp (WpD (e + 3)) hcX11_judge Q (29, [some (.inr (.inr (0, 0))), some (.inl a1), some (.inl a2)], [.inl q3.1]) q3.2
      refine Wp.br (WpD.mono _) 0 (c := q3.1 = 0) (q1 := ((35, [some (.inr (.inr (0, 0))), some (.inl a1), some (.inl a2)], []), q3.2)) (q2 := ((32, [some (.inr (.inr (0, 0))), some (.inl a1), some (.inl a2)], []), q3.2)) rfl (fun hc => ?_) (fun hc => ?_)
      · have h := (if_pos hc).symm.trans h
        obtain ⟨hc, h⟩ := ite_nn h
        refine Wp.no (WpD.mono _) 4 (c := hwOut a2 4) (q := ((44, [some (.inr (.inr (0, 0))), some (.inl a1), some (.inl a2)], [.inl (q3.2.2.2.1 71 0 (a2).toNatClampNeg)]), q3.2)) rfl hc ?_
        refine Wp.run (WpD.mono _) 1 (q := ((48, [some (.inr (.inr (0, 0))), some (.inl a1), some (.inl a2)], [.inr (.inr (1, 0)), .inl (q3.2.2.2.1 71 0 (a2).toNatClampNeg)]), q3.2)) rfl ?_
        obtain ⟨q4, hb, h⟩ := bind_some h
        refine Wp.call (WpD.mono _) rfl (T_X2_deepest (e + 2) N q3.2 _ _ _ hb ?_)
        show Wp (WpD (e + 3)) hcX11_judge Q (51, [some (.inr (.inr (0, 0))), some (.inl a1), some (.inl a2)], [.inl q4.1, .inl (q3.2.2.2.1 71 0 (a2).toNatClampNeg)]) q4.2
        refine Wp.br (WpD.mono _) 0 (c := (q3.2.2.2.1 71 0 (a2).toNatClampNeg) ≤ q4.1) (q1 := ((57, [some (.inr (.inr (0, 0))), some (.inl a1), some (.inl a2)], []), q4.2)) (q2 := ((54, [some (.inr (.inr (0, 0))), some (.inl a1), some (.inl a2)], []), q4.2)) rfl (fun hc => ?_) (fun hc => ?_)
        · have h := (if_pos hc).symm.trans h
          obtain ⟨hc, h⟩ := ite_nn h
          refine Wp.no (WpD.mono _) 7 (c := hwOut a2 4) (q := ((71, [some (.inr (.inr (0, 0))), some (.inl a1), some (.inl a2)], [.inr (.inr (69, (a2).toNatClampNeg)), .inl a1, .inr (.inr (8, 0))]), q4.2)) rfl hc ?_
          obtain ⟨hc, h⟩ := ite_nn h
          refine Wp.no (WpD.mono _) 4 (c := hwOut a2 4) (q := ((80, [some (.inr (.inr (0, 0))), some (.inl a1), some (.inl a2)], [.inl (q4.2.2.2.1 71 0 (a2).toNatClampNeg), .inr (.inr (69, (a2).toNatClampNeg)), .inl a1, .inr (.inr (8, 0))]), q4.2)) rfl hc ?_
          obtain ⟨q5, hb, h⟩ := bind_some h
          refine Wp.call (WpD.mono _) rfl (T_X6_firstWrong_t69 (e + 0) N a1 (a2).toNatClampNeg (q4.2.2.2.1 71 0 (a2).toNatClampNeg) q4.2 _ _ _ hb ?_)
          show Wp (WpD (e + 3)) hcX11_judge Q (83, [some (.inr (.inr (0, 0))), some (.inl a1), some (.inl a2)], [.inl q5.1]) q5.2
          cases h
          exact Wp.ret (WpD.mono _) rfl hQ
        · have h := (if_neg hc).symm.trans h
          refine Wp.run (WpD.mono _) 0 (q := ((56, [some (.inr (.inr (0, 0))), some (.inl a1), some (.inl a2)], [.inl (-2 : Int32)]), q4.2)) rfl ?_
          cases h
          exact Wp.ret (WpD.mono _) rfl hQ
      · have h := (if_neg hc).symm.trans h
        refine Wp.run (WpD.mono _) 0 (q := ((34, [some (.inr (.inr (0, 0))), some (.inl a1), some (.inl a2)], [.inl (-11 : Int32)]), q3.2)) rfl ?_
        cases h
        exact Wp.ret (WpD.mono _) rfl hQ

set_option maxRecDepth 100000 in
set_option maxHeartbeats 4000000 in
theorem T_X2_lay (e N : Nat)  (a1 : Int32) (a2 : Int32) (a3 : Int32) (σ : Mem) (r : Int32) (τ : Mem) (Q : Pst) (h : F_X2_lay N a1 a2 a3 σ = some (r, τ)) (hQ : Q (some (.inl r)) τ) : WpD (e + 1) mX2_lay [.inr (.inr (1, 0)), .inl a1, .inl a2, .inl a3] σ Q := by
  refine WpD.of (d := e + 0) (Nat.le_of_ble_eq_true rfl) (Nat.le_of_ble_eq_true rfl) ?_
  show Wp (WpD (e + 0)) hcX2_lay Q (0, [some (.inr (.inr (1, 0))), some (.inl a1), some (.inl a2), some (.inl a3), none], []) σ
  unfold F_X2_lay at h
  obtain ⟨hc, h⟩ := ite_nn h
  refine Wp.no (WpD.mono _) 7 (c := hwOut (σ.1 1 6) 5) (q := ((14, [some (.inr (.inr (1, 0))), some (.inl a1), some (.inl a2), some (.inl a3), some (.inl (σ.1 1 6))], []), (σ.1, σ.2.1, (hwU3 σ.2.2.1 22 0 ((σ.1 1 6)).toNatClampNeg a1), σ.2.2.2.1, σ.2.2.2.2))) rfl hc ?_
  obtain ⟨hc, h⟩ := ite_nn h
  refine Wp.no (WpD.mono _) 4 (c := hwOut (σ.1 1 6) 5) (q := ((22, [some (.inr (.inr (1, 0))), some (.inl a1), some (.inl a2), some (.inl a3), some (.inl (σ.1 1 6))], []), (σ.1, σ.2.1, (hwU3 (hwU3 σ.2.2.1 22 0 ((σ.1 1 6)).toNatClampNeg a1) 23 0 ((σ.1 1 6)).toNatClampNeg a2), σ.2.2.2.1, σ.2.2.2.2))) rfl hc ?_
  obtain ⟨hc, h⟩ := ite_nn h
  refine Wp.no (WpD.mono _) 4 (c := hwOut (σ.1 1 6) 5) (q := ((30, [some (.inr (.inr (1, 0))), some (.inl a1), some (.inl a2), some (.inl a3), some (.inl (σ.1 1 6))], []), (σ.1, σ.2.1, (hwU3 (hwU3 (hwU3 σ.2.2.1 22 0 ((σ.1 1 6)).toNatClampNeg a1) 23 0 ((σ.1 1 6)).toNatClampNeg a2) 24 0 ((σ.1 1 6)).toNatClampNeg a3), σ.2.2.2.1, σ.2.2.2.2))) rfl hc ?_
  refine Wp.run (WpD.mono _) 5 (q := ((40, [some (.inr (.inr (1, 0))), some (.inl a1), some (.inl a2), some (.inl a3), some (.inl (σ.1 1 6))], [.inl (σ.1 1 6)]), ((hwU2 σ.1 1 6 ((σ.1 1 6) + (1 : Int32))), σ.2.1, (hwU3 (hwU3 (hwU3 σ.2.2.1 22 0 ((σ.1 1 6)).toNatClampNeg a1) 23 0 ((σ.1 1 6)).toNatClampNeg a2) 24 0 ((σ.1 1 6)).toNatClampNeg a3), σ.2.2.2.1, σ.2.2.2.2))) rfl ?_
  cases h
  exact Wp.ret (WpD.mono _) rfl hQ

set_option maxRecDepth 100000 in
set_option maxHeartbeats 4000000 in
theorem T_X11_newLayer (e N : Nat)  (a1 : Int32) (a2 : Int32) (a3 : Int32) (σ : Mem) (r : Int32) (τ : Mem) (Q : Pst) (h : F_X11_newLayer N a1 a2 a3 σ = some (r, τ)) (hQ : Q (some (.inl r)) τ) : WpD (e + 2) mX11_newLayer [.inr (.inr (0, 0)), .inl a1, .inl a2, .inl a3] σ Q := by
  refine WpD.of (d := e + 1) (Nat.le_of_ble_eq_true rfl) (Nat.le_of_ble_eq_true rfl) ?_
  show Wp (WpD (e + 1)) hcX11_newLayer Q (0, [some (.inr (.inr (0, 0))), some (.inl a1), some (.inl a2), some (.inl a3)], []) σ
  unfold F_X11_newLayer at h
  refine Wp.run (WpD.mono _) 2 (q := ((4, [some (.inr (.inr (0, 0))), some (.inl a1), some (.inl a2), some (.inl a3)], [.inl (100 : Int32), .inl (0 : Int32), .inl a1]), σ)) rfl ?_
  obtain ⟨q1, hb, h⟩ := bind_some h
  refine Wp.call (WpD.mono _) rfl (T_X11_within (e + 0) N a1 (0 : Int32) (100 : Int32) σ _ _ _ hb ?_)
  show Wp (WpD (e + 1)) hcX11_newLayer Q (7, [some (.inr (.inr (0, 0))), some (.inl a1), some (.inl a2), some (.inl a3)], [.inl q1.1]) q1.2
  refine Wp.br (WpD.mono _) 0 (c := q1.1 = 0) (q1 := ((29, [some (.inr (.inr (0, 0))), some (.inl a1), some (.inl a2), some (.inl a3)], []), q1.2)) (q2 := ((10, [some (.inr (.inr (0, 0))), some (.inl a1), some (.inl a2), some (.inl a3)], []), q1.2)) rfl (fun hc => ?_) (fun hc => ?_)
  · have h := (if_pos hc).symm.trans h
    refine Wp.run (WpD.mono _) 0 (q := ((31, [none, none, none, none], [.inl (-2 : Int32)]), q1.2)) rfl ?_
    cases h
    exact Wp.ret (WpD.mono _) rfl hQ
  · have h := (if_neg hc).symm.trans h
    refine Wp.run (WpD.mono _) 2 (q := ((14, [some (.inr (.inr (0, 0))), some (.inl a1), some (.inl a2), some (.inl a3)], [.inl (9 : Int32), .inl (0 : Int32), .inl a2]), q1.2)) rfl ?_
    obtain ⟨q2, hb, h⟩ := bind_some h
    refine Wp.call (WpD.mono _) rfl (T_X11_within (e + 0) N a2 (0 : Int32) (9 : Int32) q1.2 _ _ _ hb ?_)
    show Wp (WpD (e + 1)) hcX11_newLayer Q (17, [some (.inr (.inr (0, 0))), some (.inl a1), some (.inl a2), some (.inl a3)], [.inl q2.1]) q2.2
    refine Wp.br (WpD.mono _) 0 (c := q2.1 = 0) (q1 := ((29, [some (.inr (.inr (0, 0))), some (.inl a1), some (.inl a2), some (.inl a3)], []), q2.2)) (q2 := ((20, [some (.inr (.inr (0, 0))), some (.inl a1), some (.inl a2), some (.inl a3)], []), q2.2)) rfl (fun hc => ?_) (fun hc => ?_)
    · have h := (if_pos hc).symm.trans h
      refine Wp.run (WpD.mono _) 0 (q := ((31, [none, none, none, none], [.inl (-2 : Int32)]), q2.2)) rfl ?_
      cases h
      exact Wp.ret (WpD.mono _) rfl hQ
    · have h := (if_neg hc).symm.trans h
      refine Wp.run (WpD.mono _) 2 (q := ((23, [some (.inr (.inr (0, 0))), some (.inl a1), some (.inl a2), some (.inl a3)], [.inl (2 : Int32), .inl (0 : Int32), .inl a3]), q2.2)) rfl ?_
      obtain ⟨q3, hb, h⟩ := bind_some h
      refine Wp.call (WpD.mono _) rfl (T_X11_within (e + 0) N a3 (0 : Int32) (2 : Int32) q2.2 _ _ _ hb ?_)
      show Wp (WpD (e + 1)) hcX11_newLayer Q (26, [some (.inr (.inr (0, 0))), some (.inl a1), some (.inl a2), some (.inl a3)], [.inl q3.1]) q3.2
      refine Wp.br (WpD.mono _) 0 (c := q3.1 = 0) (q1 := ((29, [some (.inr (.inr (0, 0))), some (.inl a1), some (.inl a2), some (.inl a3)], []), q3.2)) (q2 := ((32, [some (.inr (.inr (0, 0))), some (.inl a1), some (.inl a2), some (.inl a3)], []), q3.2)) rfl (fun hc => ?_) (fun hc => ?_)
      · have h := (if_pos hc).symm.trans h
        refine Wp.run (WpD.mono _) 0 (q := ((31, [none, none, none, none], [.inl (-2 : Int32)]), q3.2)) rfl ?_
        cases h
        exact Wp.ret (WpD.mono _) rfl hQ
      · have h := (if_neg hc).symm.trans h
        refine Wp.br (WpD.mono _) 4 (c := (q3.2.1 1 6) < (5 : Int32)) (q1 := ((46, [some (.inr (.inr (0, 0))), some (.inl a1), some (.inl a2), some (.inl a3)], []), q3.2)) (q2 := ((43, [some (.inr (.inr (0, 0))), some (.inl a1), some (.inl a2), some (.inl a3)], []), q3.2)) rfl (fun hc => ?_) (fun hc => ?_)
        · have h := (if_pos hc).symm.trans h
          refine Wp.br (WpD.mono _) 3 (c := (q3.2.1 4 5) ≤ 0) (q1 := ((59, [some (.inr (.inr (0, 0))), some (.inl a1), some (.inl a2), some (.inl a3)], []), q3.2)) (q2 := ((56, [some (.inr (.inr (0, 0))), some (.inl a1), some (.inl a2), some (.inl a3)], []), q3.2)) rfl (fun hc => ?_) (fun hc => ?_)
          · have h := (if_pos hc).symm.trans h
            refine Wp.run (WpD.mono _) 4 (q := ((66, [some (.inr (.inr (0, 0))), some (.inl a1), some (.inl a2), some (.inl a3)], [.inl a3, .inl a2, .inl a1, .inr (.inr (1, 0))]), q3.2)) rfl ?_
            obtain ⟨q4, hb, h⟩ := bind_some h
            refine Wp.call (WpD.mono _) rfl (T_X2_lay (e + 0) N a1 a2 a3 q3.2 _ _ _ hb ?_)
            show Wp (WpD (e + 1)) hcX11_newLayer Q (69, [some (.inr (.inr (0, 0))), some (.inl a1), some (.inl a2), some (.inl a3)], [.inl q4.1]) q4.2
            cases h
            exact Wp.ret (WpD.mono _) rfl hQ
          · have h := (if_neg hc).symm.trans h
            refine Wp.run (WpD.mono _) 0 (q := ((58, [some (.inr (.inr (0, 0))), some (.inl a1), some (.inl a2), some (.inl a3)], [.inl (-3 : Int32)]), q3.2)) rfl ?_
            cases h
            exact Wp.ret (WpD.mono _) rfl hQ
        · have h := (if_neg hc).symm.trans h
          refine Wp.run (WpD.mono _) 0 (q := ((45, [some (.inr (.inr (0, 0))), some (.inl a1), some (.inl a2), some (.inl a3)], [.inl (-4 : Int32)]), q3.2)) rfl ?_
          cases h
          exact Wp.ret (WpD.mono _) rfl hQ

set_option maxRecDepth 100000 in
set_option maxHeartbeats 4000000 in
theorem T_X11_layer (e N : Nat)  (a1 : Int32) (a2 : Int32) (a3 : Int32) (σ : Mem) (r : Int32) (τ : Mem) (Q : Pst) (h : F_X11_layer N a1 a2 a3 σ = some (r, τ)) (hQ : Q (some (.inl r)) τ) : WpD (e + 7) mX11_layer [.inr (.inr (0, 0)), .inl a1, .inl a2, .inl a3] σ Q := by
  refine WpD.of (d := e + 6) (Nat.le_of_ble_eq_true rfl) (Nat.le_of_ble_eq_true rfl) ?_
  show Wp (WpD (e + 6)) hcX11_layer Q (0, [some (.inr (.inr (0, 0))), some (.inl a1), some (.inl a2), some (.inl a3), none], []) σ
  unfold F_X11_layer at h
  refine Wp.run (WpD.mono _) 3 (q := ((4, [some (.inr (.inr (0, 0))), some (.inl a1), some (.inl a2), some (.inl a3), none], [.inl a3, .inl a2, .inl a1, .inr (.inr (0, 0))]), σ)) rfl ?_
  obtain ⟨q1, hb, h⟩ := bind_some h
  refine Wp.call (WpD.mono _) rfl (T_X11_newLayer (e + 4) N a1 a2 a3 σ _ _ _ hb ?_)
  show Wp (WpD (e + 6)) hcX11_layer Q (7, [some (.inr (.inr (0, 0))), some (.inl a1), some (.inl a2), some (.inl a3), none], [.inl q1.1]) q1.2
  refine Wp.br (WpD.mono _) 2 (c := q1.1 < 0) (q1 := ((21, [some (.inr (.inr (0, 0))), some (.inl a1), some (.inl a2), some (.inl a3), some (.inl q1.1)], []), q1.2)) (q2 := ((14, [some (.inr (.inr (0, 0))), some (.inl a1), some (.inl a2), some (.inl a3), some (.inl q1.1)], []), q1.2)) rfl (fun hc => ?_) (fun hc => ?_)
  · have h := (if_pos hc).symm.trans h
    refine Wp.run (WpD.mono _) 0 (q := ((23, [none, none, none, none, some (.inl q1.1)], [.inl q1.1]), q1.2)) rfl ?_
    cases h
    exact Wp.ret (WpD.mono _) rfl hQ
  · have h := (if_neg hc).symm.trans h
    refine Wp.run (WpD.mono _) 1 (q := ((18, [some (.inr (.inr (0, 0))), some (.inl a1), some (.inl a2), some (.inl a3), some (.inl q1.1)], [.inr (.inr (2, 0))]), q1.2)) rfl ?_
    obtain ⟨q2, hb, h⟩ := bind_some h
    refine Wp.call (WpD.mono _) rfl (T_X4_weigh (e + 0) N q1.2 _ _ _ hb ?_)
    show Wp (WpD (e + 6)) hcX11_layer Q (21, [some (.inr (.inr (0, 0))), some (.inl a1), some (.inl a2), some (.inl a3), some (.inl q1.1)], []) q2.2
    refine Wp.run (WpD.mono _) 0 (q := ((23, [none, none, none, none, some (.inl q1.1)], [.inl q1.1]), q2.2)) rfl ?_
    cases h
    exact Wp.ret (WpD.mono _) rfl hQ

set_option maxRecDepth 100000 in
set_option maxHeartbeats 4000000 in
theorem T_X11_layersBy_b68 (e N : Nat)   (r : Int32) (τ : Mem) (Q : Pst) (hQ : Q (some (.inl r)) τ) : ∀ n, ∀ (x1 : Int32) (x4 : Int32) (x5 : Int32) (x6 : Int32) (x7 : Int32) (σ : Mem), F_X11_layersBy_b68 N n x1 x4 x5 x6 x7 σ = some (r, τ) → Wp (WpD (e + 7)) hcX11_layersBy Q (68, [some (.inr (.inr (0, 0))), some (.inl x1), none, none, some (.inl x4), some (.inl x5), some (.inl x6), some (.inl x7), none], []) σ := by
  intro n
  induction n with
  | zero => intro x1 x4 x5 x6 x7 σ h; cases h
  | succ n ih =>
    intro x1 x4 x5 x6 x7 σ h
    unfold F_X11_layersBy_b68 at h
    refine Wp.br (WpD.mono _) 2 (c := x4 ≤ x6) (q1 := ((141, [some (.inr (.inr (0, 0))), some (.inl x1), none, none, some (.inl x4), some (.inl x5), some (.inl x6), some (.inl x7), none], []), σ)) (q2 := ((75, [some (.inr (.inr (0, 0))), some (.inl x1), none, none, some (.inl x4), some (.inl x5), some (.inl x6), some (.inl x7), none], []), σ)) rfl (fun hc => ?_) (fun hc => ?_)
    · have h := (if_pos hc).symm.trans h
      refine Wp.run (WpD.mono _) 0 (q := ((143, [some (.inr (.inr (0, 0))), some (.inl x1), none, none, some (.inl x4), some (.inl x5), some (.inl x6), some (.inl x7), none], [.inl x5]), σ)) rfl ?_
      cases h
      exact Wp.ret (WpD.mono _) rfl hQ
    · have h := (if_neg hc).symm.trans h
      refine Wp.run (WpD.mono _) 4 (q := ((83, [some (.inr (.inr (0, 0))), some (.inl x1), none, none, some (.inl x4), some (.inl x5), some (.inl x6), some (.inl x7), none], [.inl (3 : Int32), .inl x7, .inl x1, .inr (.inr (5, 0))]), σ)) rfl ?_
      obtain ⟨q5, hb, h⟩ := bind_some h
      refine Wp.call (WpD.mono _) rfl (T_X10_holds (e + 6) N x1 x7 (3 : Int32) σ _ _ _ hb ?_)
      show Wp (WpD (e + 7)) hcX11_layersBy Q (86, [some (.inr (.inr (0, 0))), some (.inl x1), none, none, some (.inl x4), some (.inl x5), some (.inl x6), some (.inl x7), none], [.inl q5.1]) q5.2
      refine Wp.br (WpD.mono _) 0 (c := q5.1 = 0) (q1 := ((89, [some (.inr (.inr (0, 0))), some (.inl x1), none, none, some (.inl x4), some (.inl x5), some (.inl x6), some (.inl x7), none], []), q5.2)) (q2 := ((92, [some (.inr (.inr (0, 0))), some (.inl x1), none, none, some (.inl x4), some (.inl x5), some (.inl x6), some (.inl x7), none], []), q5.2)) rfl (fun hc => ?_) (fun hc => ?_)
      · have h := (if_pos hc).symm.trans h
        refine Wp.run (WpD.mono _) 0 (q := ((91, [some (.inr (.inr (0, 0))), some (.inl x1), none, none, some (.inl x4), some (.inl x5), some (.inl x6), some (.inl x7), none], [.inl (-12 : Int32)]), q5.2)) rfl ?_
        cases h
        exact Wp.ret (WpD.mono _) rfl hQ
      · have h := (if_neg hc).symm.trans h
        obtain ⟨hc, h⟩ := ite_nn h
        refine Wp.no (WpD.mono _) 4 (c := hwOut x1 4) (q := ((101, [some (.inr (.inr (0, 0))), some (.inl x1), none, none, some (.inl x4), some (.inl x5), some (.inl x6), some (.inl x7), none], [.inr (.inr (69, (x1).toNatClampNeg))]), q5.2)) rfl hc ?_
        obtain ⟨hc, h⟩ := ite_nn h
        refine Wp.no (WpD.mono _) 4 (c := hwOut x7 40) (q := ((109, [some (.inr (.inr (0, 0))), some (.inl x1), none, none, some (.inl x4), some (.inl x5), some (.inl x6), some (.inl x7), some (.inr (.inr (69, (x1).toNatClampNeg)))], [.inl (q5.2.2.2.1 69 (x1).toNatClampNeg (x7).toNatClampNeg), .inr (.inr (0, 0))]), q5.2)) rfl hc ?_
        obtain ⟨hc, h⟩ := ite_nn h
        refine Wp.no (WpD.mono _) 4 (c := hwOut (x7 + (1 : Int32)) 40) (q := ((116, [some (.inr (.inr (0, 0))), some (.inl x1), none, none, some (.inl x4), some (.inl x5), some (.inl x6), some (.inl x7), some (.inr (.inr (69, (x1).toNatClampNeg)))], [.inl (q5.2.2.2.1 69 (x1).toNatClampNeg ((x7 + (1 : Int32))).toNatClampNeg), .inl (q5.2.2.2.1 69 (x1).toNatClampNeg (x7).toNatClampNeg), .inr (.inr (0, 0))]), q5.2)) rfl hc ?_
        obtain ⟨hc, h⟩ := ite_nn h
        refine Wp.no (WpD.mono _) 4 (c := hwOut (x7 + (2 : Int32)) 40) (q := ((123, [some (.inr (.inr (0, 0))), some (.inl x1), none, none, some (.inl x4), some (.inl x5), some (.inl x6), some (.inl x7), some (.inr (.inr (69, (x1).toNatClampNeg)))], [.inl (q5.2.2.2.1 69 (x1).toNatClampNeg ((x7 + (2 : Int32))).toNatClampNeg), .inl (q5.2.2.2.1 69 (x1).toNatClampNeg ((x7 + (1 : Int32))).toNatClampNeg), .inl (q5.2.2.2.1 69 (x1).toNatClampNeg (x7).toNatClampNeg), .inr (.inr (0, 0))]), q5.2)) rfl hc ?_
        obtain ⟨q6, hb, h⟩ := bind_some h
        refine Wp.call (WpD.mono _) rfl (T_X11_layer (e + 0) N (q5.2.2.2.1 69 (x1).toNatClampNeg (x7).toNatClampNeg) (q5.2.2.2.1 69 (x1).toNatClampNeg ((x7 + (1 : Int32))).toNatClampNeg) (q5.2.2.2.1 69 (x1).toNatClampNeg ((x7 + (2 : Int32))).toNatClampNeg) q5.2 _ _ _ hb ?_)
        show Wp (WpD (e + 7)) hcX11_layersBy Q (126, [some (.inr (.inr (0, 0))), some (.inl x1), none, none, some (.inl x4), some (.inl x5), some (.inl x6), some (.inl x7), some (.inr (.inr (69, (x1).toNatClampNeg)))], [.inl q6.1]) q6.2
        refine Wp.br (WpD.mono _) 0 (c := q6.1 < 0) (q1 := ((132, [some (.inr (.inr (0, 0))), some (.inl x1), none, none, some (.inl x4), some (.inl x5), some (.inl x6), some (.inl x7), some (.inr (.inr (69, (x1).toNatClampNeg)))], []), q6.2)) (q2 := ((129, [some (.inr (.inr (0, 0))), some (.inl x1), none, none, some (.inl x4), some (.inl x5), some (.inl x6), some (.inl x7), some (.inr (.inr (69, (x1).toNatClampNeg)))], []), q6.2)) rfl (fun hc => ?_) (fun hc => ?_)
        · have h := (if_pos hc).symm.trans h
          refine Wp.run (WpD.mono _) 2 (q := ((68, [some (.inr (.inr (0, 0))), some (.inl x1), none, none, some (.inl x4), some (.inl x5), some (.inl (x6 + (1 : Int32))), some (.inl (x7 + (3 : Int32))), none], []), q6.2)) rfl ?_
          exact Wp.jump (WpD.mono _) rfl (ih x1 x4 x5 (x6 + (1 : Int32)) (x7 + (3 : Int32)) q6.2 h)
        · have h := (if_neg hc).symm.trans h
          refine Wp.run (WpD.mono _) 3 (q := ((68, [some (.inr (.inr (0, 0))), some (.inl x1), none, none, some (.inl x4), some (.inl (x5 + (1 : Int32))), some (.inl (x6 + (1 : Int32))), some (.inl (x7 + (3 : Int32))), none], []), q6.2)) rfl ?_
          exact Wp.jump (WpD.mono _) rfl (ih x1 x4 (x5 + (1 : Int32)) (x6 + (1 : Int32)) (x7 + (3 : Int32)) q6.2 h)

set_option maxRecDepth 100000 in
set_option maxHeartbeats 4000000 in
theorem T_X11_layersBy (e N : Nat)  (a1 : Int32) (a2 : Int32) (a3 : Int32) (a4 : Int32) (σ : Mem) (r : Int32) (τ : Mem) (Q : Pst) (h : F_X11_layersBy N a1 a2 a3 a4 σ = some (r, τ)) (hQ : Q (some (.inl r)) τ) : WpD (e + 8) mX11_layersBy [.inr (.inr (0, 0)), .inl a1, .inl a2, .inl a3, .inl a4] σ Q := by
  refine WpD.of (d := e + 7) (Nat.le_of_ble_eq_true rfl) (Nat.le_of_ble_eq_true rfl) ?_
  show Wp (WpD (e + 7)) hcX11_layersBy Q (0, [some (.inr (.inr (0, 0))), some (.inl a1), some (.inl a2), some (.inl a3), some (.inl a4), none, none, none, none], []) σ
  unfold F_X11_layersBy at h
  refine Wp.run (WpD.mono _) 0 (q := ((1, [some (.inr (.inr (0, 0))), some (.inl a1), some (.inl a2), some (.inl a3), some (.inl a4), none, none, none, none], [.inl a1]), σ)) rfl ?_
  obtain ⟨q1, hb, h⟩ := bind_some h
  refine Wp.call (WpD.mono _) rfl (T_X11_isSheet (e + 5) N a1 σ _ _ _ hb ?_)
  show Wp (WpD (e + 7)) hcX11_layersBy Q (4, [some (.inr (.inr (0, 0))), some (.inl a1), some (.inl a2), some (.inl a3), some (.inl a4), none, none, none, none], [.inl q1.1]) q1.2
  refine Wp.br (WpD.mono _) 0 (c := q1.1 = 0) (q1 := ((26, [some (.inr (.inr (0, 0))), some (.inl a1), some (.inl a2), some (.inl a3), some (.inl a4), none, none, none, none], []), q1.2)) (q2 := ((7, [some (.inr (.inr (0, 0))), some (.inl a1), some (.inl a2), some (.inl a3), some (.inl a4), none, none, none, none], []), q1.2)) rfl (fun hc => ?_) (fun hc => ?_)
  · have h := (if_pos hc).symm.trans h
    refine Wp.run (WpD.mono _) 0 (q := ((28, [none, none, none, none, none, none, none, none, none], [.inl (-2 : Int32)]), q1.2)) rfl ?_
    cases h
    exact Wp.ret (WpD.mono _) rfl hQ
  · have h := (if_neg hc).symm.trans h
    refine Wp.run (WpD.mono _) 2 (q := ((10, [some (.inr (.inr (0, 0))), some (.inl a1), some (.inl a2), some (.inl a3), some (.inl a4), none, none, none, none], [.inl (2 : Int32), .inl (0 : Int32), .inl a2]), q1.2)) rfl ?_
    obtain ⟨q2, hb, h⟩ := bind_some h
    refine Wp.call (WpD.mono _) rfl (T_X11_within (e + 6) N a2 (0 : Int32) (2 : Int32) q1.2 _ _ _ hb ?_)
    show Wp (WpD (e + 7)) hcX11_layersBy Q (13, [some (.inr (.inr (0, 0))), some (.inl a1), some (.inl a2), some (.inl a3), some (.inl a4), none, none, none, none], [.inl q2.1]) q2.2
    refine Wp.br (WpD.mono _) 0 (c := q2.1 = 0) (q1 := ((26, [some (.inr (.inr (0, 0))), some (.inl a1), some (.inl a2), some (.inl a3), some (.inl a4), none, none, none, none], []), q2.2)) (q2 := ((16, [some (.inr (.inr (0, 0))), some (.inl a1), some (.inl a2), some (.inl a3), some (.inl a4), none, none, none, none], []), q2.2)) rfl (fun hc => ?_) (fun hc => ?_)
    · have h := (if_pos hc).symm.trans h
      refine Wp.run (WpD.mono _) 0 (q := ((28, [none, none, none, none, none, none, none, none, none], [.inl (-2 : Int32)]), q2.2)) rfl ?_
      cases h
      exact Wp.ret (WpD.mono _) rfl hQ
    · have h := (if_neg hc).symm.trans h
      refine Wp.run (WpD.mono _) 2 (q := ((20, [some (.inr (.inr (0, 0))), some (.inl a1), some (.inl a2), some (.inl a3), some (.inl a4), none, none, none, none], [.inl (5 : Int32), .inl (0 : Int32), .inl a4]), q2.2)) rfl ?_
      obtain ⟨q3, hb, h⟩ := bind_some h
      refine Wp.call (WpD.mono _) rfl (T_X11_within (e + 6) N a4 (0 : Int32) (5 : Int32) q2.2 _ _ _ hb ?_)
      show Wp (WpD (e + 7)) hcX11_layersBy Q (23, [some (.inr (.inr (0, 0))), some (.inl a1), some (.inl a2), some (.inl a3), some (.inl a4), none, none, none, none], [.inl q3.1]) q3.2
      refine Wp.br (WpD.mono _) 0 (c := q3.1 = 0) (q1 := ((26, [some (.inr (.inr (0, 0))), some (.inl a1), some (.inl a2), some (.inl a3), some (.inl a4), none, none, none, none], []), q3.2)) (q2 := ((29, [some (.inr (.inr (0, 0))), some (.inl a1), some (.inl a2), some (.inl a3), some (.inl a4), none, none, none, none], []), q3.2)) rfl (fun hc => ?_) (fun hc => ?_)
      · have h := (if_pos hc).symm.trans h
        refine Wp.run (WpD.mono _) 0 (q := ((28, [none, none, none, none, none, none, none, none, none], [.inl (-2 : Int32)]), q3.2)) rfl ?_
        cases h
        exact Wp.ret (WpD.mono _) rfl hQ
      · have h := (if_neg hc).symm.trans h
        refine Wp.run (WpD.mono _) 2 (q := ((34, [some (.inr (.inr (0, 0))), some (.inl a1), some (.inl a2), some (.inl a3), some (.inl a4), none, none, none, none], [.inl a1, .inr (.inr (5, 0))]), q3.2)) rfl ?_
        obtain ⟨q4, hb, h⟩ := bind_some h
        refine Wp.call (WpD.mono _) rfl (T_X10_isMissing (e + 6) N a1 q3.2 _ _ _ hb ?_)
        show Wp (WpD (e + 7)) hcX11_layersBy Q (37, [some (.inr (.inr (0, 0))), some (.inl a1), some (.inl a2), some (.inl a3), some (.inl a4), none, none, none, none], [.inl q4.1]) q4.2
        refine Wp.br (WpD.mono _) 0 (c := q4.1 = 0) (q1 := ((43, [some (.inr (.inr (0, 0))), some (.inl a1), some (.inl a2), some (.inl a3), some (.inl a4), none, none, none, none], []), q4.2)) (q2 := ((40, [some (.inr (.inr (0, 0))), some (.inl a1), some (.inl a2), some (.inl a3), some (.inl a4), none, none, none, none], []), q4.2)) rfl (fun hc => ?_) (fun hc => ?_)
        · have h := (if_pos hc).symm.trans h
          obtain ⟨hc, h⟩ := ite_nn h
          refine Wp.no (WpD.mono _) 4 (c := hwOut a1 4) (q := ((52, [some (.inr (.inr (0, 0))), some (.inl a1), some (.inl a2), some (.inl a3), some (.inl a4), none, none, none, none], [.inl (q4.2.2.2.1 70 0 (a1).toNatClampNeg)]), q4.2)) rfl hc ?_
          refine Wp.br (WpD.mono _) 1 (c := (q4.2.2.2.1 70 0 (a1).toNatClampNeg) = a2) (q1 := ((59, [some (.inr (.inr (0, 0))), some (.inl a1), some (.inl a2), some (.inl a3), some (.inl a4), none, none, none, none], []), q4.2)) (q2 := ((56, [some (.inr (.inr (0, 0))), some (.inl a1), some (.inl a2), some (.inl a3), some (.inl a4), none, none, none, none], []), q4.2)) rfl (fun hc => ?_) (fun hc => ?_)
          · have h := (if_pos hc).symm.trans h
            refine Wp.run (WpD.mono _) 5 (q := ((68, [some (.inr (.inr (0, 0))), some (.inl a1), some (.inl a2), some (.inl a3), some (.inl a4), some (.inl (0 : Int32)), some (.inl (0 : Int32)), some (.inl a3), none], []), q4.2)) rfl ?_
            exact Wp.jump (WpD.mono _) rfl ((T_X11_layersBy_b68 e N  r τ Q hQ  N) a1 a4 (0 : Int32) (0 : Int32) a3 q4.2 h)
          · have h := (if_neg hc).symm.trans h
            refine Wp.run (WpD.mono _) 0 (q := ((58, [some (.inr (.inr (0, 0))), some (.inl a1), some (.inl a2), some (.inl a3), some (.inl a4), none, none, none, none], [.inl (-13 : Int32)]), q4.2)) rfl ?_
            cases h
            exact Wp.ret (WpD.mono _) rfl hQ
        · have h := (if_neg hc).symm.trans h
          refine Wp.run (WpD.mono _) 0 (q := ((42, [some (.inr (.inr (0, 0))), some (.inl a1), some (.inl a2), some (.inl a3), some (.inl a4), none, none, none, none], [.inl (-11 : Int32)]), q4.2)) rfl ?_
          cases h
          exact Wp.ret (WpD.mono _) rfl hQ

set_option maxRecDepth 100000 in
set_option maxHeartbeats 4000000 in
theorem T_X11_learn (e N : Nat)  (a1 : Int32) (σ : Mem) (r : Int64) (τ : Mem) (Q : Pst) (h : F_X11_learn N a1 σ = some (r, τ)) (hQ : Q (some (.inr (.inl r))) τ) : WpD (e + 16) mX11_learn [.inr (.inr (0, 0)), .inl a1] σ Q := by
  refine WpD.of (d := e + 15) (Nat.le_of_ble_eq_true rfl) (Nat.le_of_ble_eq_true rfl) ?_
  show Wp (WpD (e + 15)) hcX11_learn Q (0, [some (.inr (.inr (0, 0))), some (.inl a1)], []) σ
  unfold F_X11_learn at h
  refine Wp.run (WpD.mono _) 1 (q := ((2, [some (.inr (.inr (0, 0))), some (.inl a1)], [.inl a1, .inr (.inr (0, 0))]), σ)) rfl ?_
  obtain ⟨q1, hb, h⟩ := bind_some h
  refine Wp.call (WpD.mono _) rfl (T_X11_isPlace (e + 13) N a1 σ _ _ _ hb ?_)
  show Wp (WpD (e + 15)) hcX11_learn Q (5, [some (.inr (.inr (0, 0))), some (.inl a1)], [.inl q1.1]) q1.2
  refine Wp.br (WpD.mono _) 0 (c := q1.1 = 0) (q1 := ((19, [some (.inr (.inr (0, 0))), some (.inl a1)], []), q1.2)) (q2 := ((8, [some (.inr (.inr (0, 0))), some (.inl a1)], []), q1.2)) rfl (fun hc => ?_) (fun hc => ?_)
  · have h := (if_pos hc).symm.trans h
    refine Wp.run (WpD.mono _) 0 (q := ((22, [some (.inr (.inr (0, 0))), some (.inl a1)], [.inr (.inl (-4611686018427387904 : Int64))]), q1.2)) rfl ?_
    cases h
    exact Wp.ret (WpD.mono _) rfl hQ
  · have h := (if_neg hc).symm.trans h
    refine Wp.run (WpD.mono _) 2 (q := ((13, [some (.inr (.inr (0, 0))), some (.inl a1)], [.inl a1, .inr (.inr (8, 0))]), q1.2)) rfl ?_
    obtain ⟨q2, hb, h⟩ := bind_some h
    refine Wp.call (WpD.mono _) rfl (T_X6_learning (e + 0) N a1 q1.2 _ _ _ hb ?_)
    show Wp (WpD (e + 15)) hcX11_learn Q (16, [some (.inr (.inr (0, 0))), some (.inl a1)], [.inr (.inl q2.1)]) q2.2
    refine Wp.run (WpD.mono _) 0 (q := ((22, [some (.inr (.inr (0, 0))), some (.inl a1)], [.inr (.inl q2.1)]), q2.2)) rfl ?_
    cases h
    exact Wp.ret (WpD.mono _) rfl hQ

set_option maxRecDepth 100000 in
set_option maxHeartbeats 4000000 in
theorem T_X11_likely (e N : Nat)  (a1 : Int32) (σ : Mem) (r : Int64) (τ : Mem) (Q : Pst) (h : F_X11_likely N a1 σ = some (r, τ)) (hQ : Q (some (.inr (.inl r))) τ) : WpD (e + 4) mX11_likely [.inr (.inr (0, 0)), .inl a1] σ Q := by
  refine WpD.of (d := e + 3) (Nat.le_of_ble_eq_true rfl) (Nat.le_of_ble_eq_true rfl) ?_
  show Wp (WpD (e + 3)) hcX11_likely Q (0, [some (.inr (.inr (0, 0))), some (.inl a1), none], []) σ
  unfold F_X11_likely at h
  refine Wp.run (WpD.mono _) 1 (q := ((2, [some (.inr (.inr (0, 0))), some (.inl a1), none], [.inl a1, .inr (.inr (0, 0))]), σ)) rfl ?_
  obtain ⟨q1, hb, h⟩ := bind_some h
  refine Wp.call (WpD.mono _) rfl (T_X11_isPlace (e + 1) N a1 σ _ _ _ hb ?_)
  show Wp (WpD (e + 3)) hcX11_likely Q (5, [some (.inr (.inr (0, 0))), some (.inl a1), none], [.inl q1.1]) q1.2
  refine Wp.br (WpD.mono _) 0 (c := q1.1 = 0) (q1 := ((8, [some (.inr (.inr (0, 0))), some (.inl a1), none], []), q1.2)) (q2 := ((12, [some (.inr (.inr (0, 0))), some (.inl a1), none], []), q1.2)) rfl (fun hc => ?_) (fun hc => ?_)
  · have h := (if_pos hc).symm.trans h
    refine Wp.run (WpD.mono _) 0 (q := ((11, [some (.inr (.inr (0, 0))), some (.inl a1), none], [.inr (.inl (-4611686018427387904 : Int64))]), q1.2)) rfl ?_
    cases h
    exact Wp.ret (WpD.mono _) rfl hQ
  · have h := (if_neg hc).symm.trans h
    refine Wp.run (WpD.mono _) 2 (q := ((17, [some (.inr (.inr (0, 0))), some (.inl a1), none], [.inl a1, .inr (.inr (8, 0))]), q1.2)) rfl ?_
    obtain ⟨q2, hb, h⟩ := bind_some h
    refine Wp.call (WpD.mono _) rfl (T_X6_nextYard (e + 0) N a1 q1.2 _ _ _ hb ?_)
    show Wp (WpD (e + 3)) hcX11_likely Q (20, [some (.inr (.inr (0, 0))), some (.inl a1), none], [.inl q2.1]) q2.2
    refine Wp.br (WpD.mono _) 2 (c := q2.1 = 0) (q1 := ((25, [some (.inr (.inr (0, 0))), some (.inl a1), some (.inl q2.1)], []), q2.2)) (q2 := ((29, [some (.inr (.inr (0, 0))), some (.inl a1), some (.inl q2.1)], []), q2.2)) rfl (fun hc => ?_) (fun hc => ?_)
    · have h := (if_pos hc).symm.trans h
      refine Wp.run (WpD.mono _) 0 (q := ((28, [some (.inr (.inr (0, 0))), some (.inl a1), some (.inl q2.1)], [.inr (.inl (-3 : Int64))]), q2.2)) rfl ?_
      cases h
      exact Wp.ret (WpD.mono _) rfl hQ
    · have h := (if_neg hc).symm.trans h
      refine Wp.run (WpD.mono _) 2 (q := ((34, [some (.inr (.inr (0, 0))), some (.inl a1), some (.inl q2.1)], [.inr (.inr (1, 0)), .inl q2.1]), q2.2)) rfl ?_
      obtain ⟨q3, hb, h⟩ := bind_some h
      refine Wp.call (WpD.mono _) rfl (T_X2_deepest (e + 2) N q2.2 _ _ _ hb ?_)
      show Wp (WpD (e + 3)) hcX11_likely Q (37, [some (.inr (.inr (0, 0))), some (.inl a1), some (.inl q2.1)], [.inl q3.1, .inl q2.1]) q3.2
      refine Wp.br (WpD.mono _) 0 (c := q2.1 ≤ q3.1) (q1 := ((44, [some (.inr (.inr (0, 0))), some (.inl a1), some (.inl q2.1)], []), q3.2)) (q2 := ((40, [some (.inr (.inr (0, 0))), some (.inl a1), some (.inl q2.1)], []), q3.2)) rfl (fun hc => ?_) (fun hc => ?_)
      · have h := (if_pos hc).symm.trans h
        refine Wp.run (WpD.mono _) 2 (q := ((49, [some (.inr (.inr (0, 0))), some (.inl a1), some (.inl q2.1)], [.inl q2.1, .inr (.inr (8, 0))]), q3.2)) rfl ?_
        obtain ⟨q4, hb, h⟩ := bind_some h
        refine Wp.call (WpD.mono _) rfl (T_X6_wet (e + 1) N q2.1 q3.2 _ _ _ hb ?_)
        show Wp (WpD (e + 3)) hcX11_likely Q (52, [some (.inr (.inr (0, 0))), some (.inl a1), some (.inl q2.1)], [.inr (.inl q4.1)]) q4.2
        cases h
        exact Wp.ret (WpD.mono _) rfl hQ
      · have h := (if_neg hc).symm.trans h
        refine Wp.run (WpD.mono _) 1 (q := ((52, [some (.inr (.inr (0, 0))), some (.inl a1), some (.inl q2.1)], [.inr (.inl (0 : Int64))]), q3.2)) rfl ?_
        cases h
        exact Wp.ret (WpD.mono _) rfl hQ

set_option maxRecDepth 100000 in
set_option maxHeartbeats 4000000 in
theorem T_X4_bestLining_b7 (e N : Nat)   (r : Int32) (τ : Mem) (Q : Pst) (hQ : Q (some (.inl r)) τ) : ∀ n, ∀ (x1 : Int32) (x2 : Int32) (x3 : Int64) (x5 : Int32) (σ : Mem), F_X4_bestLining_b7 N n x1 x2 x3 x5 σ = some (r, τ) → Wp (WpD (e + 1)) hcX4_bestLining Q (7, [some (.inr (.inr (2, 0))), some (.inl x1), some (.inl x2), some (.inr (.inl x3)), none, some (.inl x5), none, none], []) σ := by
  intro n
  induction n with
  | zero => intro x1 x2 x3 x5 σ h; cases h
  | succ n ih =>
    intro x1 x2 x3 x5 σ h
    unfold F_X4_bestLining_b7 at h
    refine Wp.br (WpD.mono _) 2 (c := x1 < x5) (q1 := ((74, [some (.inr (.inr (2, 0))), some (.inl x1), some (.inl x2), some (.inr (.inl x3)), none, some (.inl x5), none, none], []), σ)) (q2 := ((13, [some (.inr (.inr (2, 0))), some (.inl x1), some (.inl x2), some (.inr (.inl x3)), none, some (.inl x5), none, none], []), σ)) rfl (fun hc => ?_) (fun hc => ?_)
    · have h := (if_pos hc).symm.trans h
      refine Wp.run (WpD.mono _) 0 (q := ((75, [some (.inr (.inr (2, 0))), some (.inl x1), some (.inl x2), some (.inr (.inl x3)), none, some (.inl x5), none, none], [.inl x2]), σ)) rfl ?_
      cases h
      exact Wp.ret (WpD.mono _) rfl hQ
    · have h := (if_neg hc).symm.trans h
      refine Wp.run (WpD.mono _) 2 (q := ((17, [some (.inr (.inr (2, 0))), some (.inl x1), some (.inl x2), some (.inr (.inl x3)), none, some (.inl x5), none, none], [.inl x5, .inl x1, .inr (.inr (2, 0))]), σ)) rfl ?_
      obtain ⟨q1, hb, h⟩ := bind_some h
      refine Wp.call (WpD.mono _) rfl (T_X4_fallen (e + 0) N x1 x5 σ _ _ _ hb ?_)
      show Wp (WpD (e + 1)) hcX4_bestLining Q (20, [some (.inr (.inr (2, 0))), some (.inl x1), some (.inl x2), some (.inr (.inl x3)), none, some (.inl x5), none, none], [.inr (.inl q1.1)]) q1.2
      refine Wp.run (WpD.mono _) 1 (q := ((22, [some (.inr (.inr (2, 0))), some (.inl x1), some (.inl x2), some (.inr (.inl x3)), none, some (.inl x5), none, none], [.inl x1, .inr (.inr (2, 0)), .inr (.inl q1.1)]), q1.2)) rfl ?_
      obtain ⟨q2, hb, h⟩ := bind_some h
      refine Wp.call (WpD.mono _) rfl (T_X4_costsOf (e + 0) N x1 q1.2 _ _ _ hb ?_)
      show Wp (WpD (e + 1)) hcX4_bestLining Q (25, [some (.inr (.inr (2, 0))), some (.inl x1), some (.inl x2), some (.inr (.inl x3)), none, some (.inl x5), none, none], [.inl q2.1, .inr (.inl q1.1)]) q2.2
      refine Wp.br (WpD.mono _) 18 (c := x5 = 0) (q1 := ((62, [some (.inr (.inr (2, 0))), some (.inl x1), some (.inl x2), some (.inr (.inl x3)), none, some (.inl x5), some (.inr (.inl ((q1.1 * q2.1.toInt64) + (((1000000 : Int64) * (q2.2.2.2.1 28 0 4).toInt64) * (x1 - x5).toInt64)))), none], []), q2.2)) (q2 := ((55, [some (.inr (.inr (2, 0))), some (.inl x1), some (.inl x2), some (.inr (.inl x3)), none, some (.inl x5), some (.inr (.inl ((q1.1 * q2.1.toInt64) + (((1000000 : Int64) * (q2.2.2.2.1 28 0 4).toInt64) * (x1 - x5).toInt64)))), none], []), q2.2)) rfl (fun hc => ?_) (fun hc => ?_)
      · have h := (if_pos hc).symm.trans h
        refine Wp.run (WpD.mono _) 5 (q := ((7, [some (.inr (.inr (2, 0))), some (.inl x1), some (.inl x5), some (.inr (.inl ((q1.1 * q2.1.toInt64) + (((1000000 : Int64) * (q2.2.2.2.1 28 0 4).toInt64) * (x1 - x5).toInt64)))), none, some (.inl (x5 + (1 : Int32))), none, none], []), q2.2)) rfl ?_
        exact Wp.jump (WpD.mono _) rfl (ih x1 x5 ((q1.1 * q2.1.toInt64) + (((1000000 : Int64) * (q2.2.2.2.1 28 0 4).toInt64) * (x1 - x5).toInt64)) (x5 + (1 : Int32)) q2.2 h)
      · have h := (if_neg hc).symm.trans h
        refine Wp.br (WpD.mono _) 3 (c := 0 ≤ (lg_cmp ((q1.1 * q2.1.toInt64) + (((1000000 : Int64) * (q2.2.2.2.1 28 0 4).toInt64) * (x1 - x5).toInt64)) x3)) (q1 := ((68, [some (.inr (.inr (2, 0))), some (.inl x1), some (.inl x2), some (.inr (.inl x3)), none, some (.inl x5), some (.inr (.inl ((q1.1 * q2.1.toInt64) + (((1000000 : Int64) * (q2.2.2.2.1 28 0 4).toInt64) * (x1 - x5).toInt64)))), none], []), q2.2)) (q2 := ((62, [some (.inr (.inr (2, 0))), some (.inl x1), some (.inl x2), some (.inr (.inl x3)), none, some (.inl x5), some (.inr (.inl ((q1.1 * q2.1.toInt64) + (((1000000 : Int64) * (q2.2.2.2.1 28 0 4).toInt64) * (x1 - x5).toInt64)))), none], []), q2.2)) rfl (fun hc => ?_) (fun hc => ?_)
        · have h := (if_pos hc).symm.trans h
          refine Wp.run (WpD.mono _) 1 (q := ((7, [some (.inr (.inr (2, 0))), some (.inl x1), some (.inl x2), some (.inr (.inl x3)), none, some (.inl (x5 + (1 : Int32))), none, none], []), q2.2)) rfl ?_
          exact Wp.jump (WpD.mono _) rfl (ih x1 x2 x3 (x5 + (1 : Int32)) q2.2 h)
        · have h := (if_neg hc).symm.trans h
          refine Wp.run (WpD.mono _) 5 (q := ((7, [some (.inr (.inr (2, 0))), some (.inl x1), some (.inl x5), some (.inr (.inl ((q1.1 * q2.1.toInt64) + (((1000000 : Int64) * (q2.2.2.2.1 28 0 4).toInt64) * (x1 - x5).toInt64)))), none, some (.inl (x5 + (1 : Int32))), none, none], []), q2.2)) rfl ?_
          exact Wp.jump (WpD.mono _) rfl (ih x1 x5 ((q1.1 * q2.1.toInt64) + (((1000000 : Int64) * (q2.2.2.2.1 28 0 4).toInt64) * (x1 - x5).toInt64)) (x5 + (1 : Int32)) q2.2 h)

set_option maxRecDepth 100000 in
set_option maxHeartbeats 4000000 in
theorem T_X4_bestLining (e N : Nat)  (a1 : Int32) (σ : Mem) (r : Int32) (τ : Mem) (Q : Pst) (h : F_X4_bestLining N a1 σ = some (r, τ)) (hQ : Q (some (.inl r)) τ) : WpD (e + 2) mX4_bestLining [.inr (.inr (2, 0)), .inl a1] σ Q := by
  refine WpD.of (d := e + 1) (Nat.le_of_ble_eq_true rfl) (Nat.le_of_ble_eq_true rfl) ?_
  show Wp (WpD (e + 1)) hcX4_bestLining Q (0, [some (.inr (.inr (2, 0))), some (.inl a1), none, none, none, none, none, none], []) σ
  unfold F_X4_bestLining at h
  refine Wp.run (WpD.mono _) 5 (q := ((7, [some (.inr (.inr (2, 0))), some (.inl a1), some (.inl (0 : Int32)), some (.inr (.inl (0 : Int64))), none, some (.inl (0 : Int32)), none, none], []), σ)) rfl ?_
  exact Wp.jump (WpD.mono _) rfl ((T_X4_bestLining_b7 e N  r τ Q hQ  N) a1 (0 : Int32) (0 : Int64) (0 : Int32) σ h)

set_option maxRecDepth 100000 in
set_option maxHeartbeats 4000000 in
theorem T_X11_line (e N : Nat)  (a1 : Int32) (σ : Mem) (r : Int32) (τ : Mem) (Q : Pst) (h : F_X11_line N a1 σ = some (r, τ)) (hQ : Q (some (.inl r)) τ) : WpD (e + 3) mX11_line [.inr (.inr (0, 0)), .inl a1] σ Q := by
  refine WpD.of (d := e + 2) (Nat.le_of_ble_eq_true rfl) (Nat.le_of_ble_eq_true rfl) ?_
  show Wp (WpD (e + 2)) hcX11_line Q (0, [some (.inr (.inr (0, 0))), some (.inl a1)], []) σ
  unfold F_X11_line at h
  refine Wp.run (WpD.mono _) 2 (q := ((3, [some (.inr (.inr (0, 0))), some (.inl a1)], [.inl (5 : Int32), .inl (0 : Int32), .inl a1]), σ)) rfl ?_
  obtain ⟨q1, hb, h⟩ := bind_some h
  refine Wp.call (WpD.mono _) rfl (T_X11_within (e + 1) N a1 (0 : Int32) (5 : Int32) σ _ _ _ hb ?_)
  show Wp (WpD (e + 2)) hcX11_line Q (6, [some (.inr (.inr (0, 0))), some (.inl a1)], [.inl q1.1]) q1.2
  refine Wp.br (WpD.mono _) 0 (c := q1.1 = 0) (q1 := ((20, [some (.inr (.inr (0, 0))), some (.inl a1)], []), q1.2)) (q2 := ((9, [some (.inr (.inr (0, 0))), some (.inl a1)], []), q1.2)) rfl (fun hc => ?_) (fun hc => ?_)
  · have h := (if_pos hc).symm.trans h
    refine Wp.run (WpD.mono _) 0 (q := ((22, [some (.inr (.inr (0, 0))), some (.inl a1)], [.inl (-2 : Int32)]), q1.2)) rfl ?_
    cases h
    exact Wp.ret (WpD.mono _) rfl hQ
  · have h := (if_neg hc).symm.trans h
    refine Wp.run (WpD.mono _) 2 (q := ((14, [some (.inr (.inr (0, 0))), some (.inl a1)], [.inl a1, .inr (.inr (2, 0))]), q1.2)) rfl ?_
    obtain ⟨q2, hb, h⟩ := bind_some h
    refine Wp.call (WpD.mono _) rfl (T_X4_bestLining (e + 0) N a1 q1.2 _ _ _ hb ?_)
    show Wp (WpD (e + 2)) hcX11_line Q (17, [some (.inr (.inr (0, 0))), some (.inl a1)], [.inl q2.1]) q2.2
    refine Wp.run (WpD.mono _) 0 (q := ((22, [some (.inr (.inr (0, 0))), some (.inl a1)], [.inl q2.1]), q2.2)) rfl ?_
    cases h
    exact Wp.ret (WpD.mono _) rfl hQ

set_option maxRecDepth 100000 in
set_option maxHeartbeats 4000000 in
theorem T_X2_goodOf (e N : Nat)  (a1 : Int32) (a2 : Int32) (σ : Mem) (r : Int32) (τ : Mem) (Q : Pst) (h : F_X2_goodOf N a1 a2 σ = some (r, τ)) (hQ : Q (some (.inl r)) τ) : WpD (e + 1) mX2_goodOf [.inr (.inr (1, 0)), .inl a1, .inl a2] σ Q := by
  refine WpD.of (d := e + 0) (Nat.le_of_ble_eq_true rfl) (Nat.le_of_ble_eq_true rfl) ?_
  show Wp (WpD (e + 0)) hcX2_goodOf Q (0, [some (.inr (.inr (1, 0))), some (.inl a1), some (.inl a2)], []) σ
  unfold F_X2_goodOf at h
  obtain ⟨hc, h⟩ := ite_nn h
  refine Wp.no (WpD.mono _) 5 (c := hwOut a1 5) (q := ((8, [some (.inr (.inr (1, 0))), some (.inl a1), some (.inl a2)], [.inl (σ.2.2.1 23 0 (a1).toNatClampNeg), .inl a2, .inl (0 : Int32)]), σ)) rfl hc ?_
  refine Wp.run (WpD.mono _) 1 (q := ((12, [some (.inr (.inr (1, 0))), some (.inl a1), some (.inl a2)], [.inl (if (0 : Int32) < (a2 - (σ.2.2.1 23 0 (a1).toNatClampNeg)) then (a2 - (σ.2.2.1 23 0 (a1).toNatClampNeg)) else (0 : Int32))]), σ)) rfl ?_
  cases h
  exact Wp.ret (WpD.mono _) rfl hQ

set_option maxRecDepth 100000 in
set_option maxHeartbeats 4000000 in
theorem T_X5_find_b12 (e N : Nat)   (r : Unit) (τ : Mem) (Q : Pst) (hQ : Q (none) τ) : ∀ n, ∀ (x1 : Int32) (x2 : Int64) (x4 : Int32) (x6 : Int32) (σ : Mem), F_X5_find_b12 N n x1 x2 x4 x6 σ = some (r, τ) → Wp (WpD (e + 1)) hcX5_find Q (12, [some (.inr (.inr (9, 0))), some (.inl x1), some (.inr (.inl x2)), none, some (.inl x4), some (.inr (.inr (1, 0))), some (.inl x6), none, none], []) σ := by
  intro n
  induction n with
  | zero => intro x1 x2 x4 x6 σ h; cases h
  | succ n ih =>
    intro x1 x2 x4 x6 σ h
    unfold F_X5_find_b12 at h
    refine Wp.br (WpD.mono _) 3 (c := (σ.1 1 6) ≤ x6) (q1 := ((97, [some (.inr (.inr (9, 0))), some (.inl x1), some (.inr (.inl x2)), none, some (.inl x4), some (.inr (.inr (1, 0))), some (.inl x6), none, none], []), σ)) (q2 := ((22, [some (.inr (.inr (9, 0))), some (.inl x1), some (.inr (.inl x2)), none, some (.inl x4), some (.inr (.inr (1, 0))), some (.inl x6), none, none], []), σ)) rfl (fun hc => ?_) (fun hc => ?_)
    · have h := (if_pos hc).symm.trans h
      cases h
      exact Wp.ret (WpD.mono _) rfl hQ
    · have h := (if_neg hc).symm.trans h
      refine Wp.run (WpD.mono _) 3 (q := ((29, [some (.inr (.inr (9, 0))), some (.inl x1), some (.inr (.inl x2)), none, some (.inl x4), some (.inr (.inr (1, 0))), some (.inl x6), none, none], [.inl x6, .inl x1, .inr (.inr (8, 0))]), σ)) rfl ?_
      obtain ⟨q1, hb, h⟩ := bind_some h
      refine Wp.call (WpD.mono _) rfl (T_X6_wetOf (e + 0) N x1 x6 σ _ _ _ hb ?_)
      show Wp (WpD (e + 1)) hcX5_find Q (32, [some (.inr (.inr (9, 0))), some (.inl x1), some (.inr (.inl x2)), none, some (.inl x4), some (.inr (.inr (1, 0))), some (.inl x6), none, none], [.inr (.inl q1.1)]) q1.2
      refine Wp.run (WpD.mono _) 26 (q := ((79, [some (.inr (.inr (9, 0))), some (.inl x1), some (.inr (.inl x2)), none, some (.inl x4), some (.inr (.inr (1, 0))), some (.inl x6), some (.inr (.inl ((q1.1 * x2) / (1000000 : Int64)))), none], [.inr (.inr (1, 0)), .inl x6, .inr (.inr (1, 0)), .inr (.inl ((q1.1 * x2) / (1000000 : Int64))), .inr (.inl (q1.2.2.1 9 6)), .inr (.inr (9, 0))]), (q1.2.1, (hwU2 (hwU2 q1.2.2.1 9 4 ((q1.2.2.1 9 4) + ((q1.1 * x2) / (1000000 : Int64)))) 9 3 ((q1.2.2.1 9 3) + (((q1.1 * x2) / (1000000 : Int64)) * x4.toInt64))), q1.2.2.2.1, q1.2.2.2.2.1, q1.2.2.2.2.2))) rfl ?_
      obtain ⟨q2, hb, h⟩ := bind_some h
      refine Wp.call (WpD.mono _) rfl (T_X2_worth (e + 0) N (q1.2.1, (hwU2 (hwU2 q1.2.2.1 9 4 ((q1.2.2.1 9 4) + ((q1.1 * x2) / (1000000 : Int64)))) 9 3 ((q1.2.2.1 9 3) + (((q1.1 * x2) / (1000000 : Int64)) * x4.toInt64))), q1.2.2.2.1, q1.2.2.2.2.1, q1.2.2.2.2.2) _ _ _ hb ?_)
      show Wp (WpD (e + 1)) hcX5_find Q (82, [some (.inr (.inr (9, 0))), some (.inl x1), some (.inr (.inl x2)), none, some (.inl x4), some (.inr (.inr (1, 0))), some (.inl x6), some (.inr (.inl ((q1.1 * x2) / (1000000 : Int64)))), none], [.inl q2.1, .inl x6, .inr (.inr (1, 0)), .inr (.inl ((q1.1 * x2) / (1000000 : Int64))), .inr (.inl (q1.2.2.1 9 6)), .inr (.inr (9, 0))]) q2.2
      obtain ⟨q3, hb, h⟩ := bind_some h
      refine Wp.call (WpD.mono _) rfl (T_X2_goodOf (e + 0) N x6 q2.1 q2.2 _ _ _ hb ?_)
      show Wp (WpD (e + 1)) hcX5_find Q (85, [some (.inr (.inr (9, 0))), some (.inl x1), some (.inr (.inl x2)), none, some (.inl x4), some (.inr (.inr (1, 0))), some (.inl x6), some (.inr (.inl ((q1.1 * x2) / (1000000 : Int64)))), none], [.inl q3.1, .inr (.inl ((q1.1 * x2) / (1000000 : Int64))), .inr (.inl (q1.2.2.1 9 6)), .inr (.inr (9, 0))]) q3.2
      refine Wp.run (WpD.mono _) 5 (q := ((12, [some (.inr (.inr (9, 0))), some (.inl x1), some (.inr (.inl x2)), none, some (.inl x4), some (.inr (.inr (1, 0))), some (.inl (x6 + (1 : Int32))), some (.inr (.inl ((q1.1 * x2) / (1000000 : Int64)))), none], []), (q3.2.1, (hwU2 q3.2.2.1 9 6 ((q1.2.2.1 9 6) + (((q1.1 * x2) / (1000000 : Int64)) * q3.1.toInt64))), q3.2.2.2.1, q3.2.2.2.2.1, q3.2.2.2.2.2))) rfl ?_
      exact Wp.jump (WpD.mono _) rfl (ih x1 x2 x4 (x6 + (1 : Int32)) (q3.2.1, (hwU2 q3.2.2.1 9 6 ((q1.2.2.1 9 6) + (((q1.1 * x2) / (1000000 : Int64)) * q3.1.toInt64))), q3.2.2.2.1, q3.2.2.2.2.1, q3.2.2.2.2.2) h)

set_option maxRecDepth 100000 in
set_option maxHeartbeats 4000000 in
theorem T_X5_find (e N : Nat)  (a1 : Int32) (a2 : Int64) (a3 : Int32) (σ : Mem) (r : Unit) (τ : Mem) (Q : Pst) (h : F_X5_find N a1 a2 a3 σ = some (r, τ)) (hQ : Q (none) τ) : WpD (e + 2) mX5_find [.inr (.inr (9, 0)), .inl a1, .inr (.inl a2), .inl a3] σ Q := by
  refine WpD.of (d := e + 1) (Nat.le_of_ble_eq_true rfl) (Nat.le_of_ble_eq_true rfl) ?_
  show Wp (WpD (e + 1)) hcX5_find Q (0, [some (.inr (.inr (9, 0))), some (.inl a1), some (.inr (.inl a2)), none, some (.inl a3), none, none, none, none], []) σ
  unfold F_X5_find at h
  refine Wp.run (WpD.mono _) 5 (q := ((12, [some (.inr (.inr (9, 0))), some (.inl a1), some (.inr (.inl a2)), none, some (.inl a3), some (.inr (.inr (1, 0))), some (.inl (0 : Int32)), none, none], []), σ)) rfl ?_
  exact Wp.jump (WpD.mono _) rfl ((T_X5_find_b12 e N  r τ Q hQ  N) a1 a2 a3 (0 : Int32) σ h)

set_option maxRecDepth 100000 in
set_option maxHeartbeats 4000000 in
theorem T_X5_descend_b98 (e N : Nat) (g0 : Int32 → Int32 → Int64 → Int32 → Mem → Option (Unit × Mem)) (hg0 : ∀ (a1 : Int32) (a2 : Int32) (a3 : Int64) (a4 : Int32) (σ : Mem) (r : Unit) (τ : Mem) (Q : Pst), g0 a1 a2 a3 a4 σ = some (r, τ) → Q (none) τ → WpD (e + 13) mX5_descend [.inr (.inr (9, 0)), .inl a1, .inl a2, .inr (.inl a3), .inl a4] σ Q)  (r : Unit) (τ : Mem) (Q : Pst) (hQ : Q (none) τ) : ∀ n, ∀ (x3 : Int64) (x6 : Int32) (x7 : Int32) (x8 : Int32) (σ : Mem), F_X5_descend_b98 N g0 n x3 x6 x7 x8 σ = some (r, τ) → Wp (WpD (e + 13)) hcX5_descend Q (98, [some (.inr (.inr (9, 0))), none, none, some (.inr (.inl x3)), none, none, some (.inl x6), some (.inl x7), some (.inl x8), none, none], []) σ := by
  intro n
  induction n with
  | zero => intro x3 x6 x7 x8 σ h; cases h
  | succ n ih =>
    intro x3 x6 x7 x8 σ h
    unfold F_X5_descend_b98 at h
    refine Wp.br (WpD.mono _) 2 (c := (3 : Int32) ≤ x8) (q1 := ((148, [some (.inr (.inr (9, 0))), none, none, some (.inr (.inl x3)), none, none, some (.inl x6), some (.inl x7), some (.inl x8), none, none], []), σ)) (q2 := ((104, [some (.inr (.inr (9, 0))), none, none, some (.inr (.inl x3)), none, none, some (.inl x6), some (.inl x7), some (.inl x8), none, none], []), σ)) rfl (fun hc => ?_) (fun hc => ?_)
    · have h := (if_pos hc).symm.trans h
      cases h
      exact Wp.ret (WpD.mono _) rfl hQ
    · have h := (if_neg hc).symm.trans h
      refine Wp.run (WpD.mono _) 3 (q := ((112, [some (.inr (.inr (9, 0))), none, none, some (.inr (.inl x3)), none, none, some (.inl x6), some (.inl x7), some (.inl x8), none, none], [.inl x8, .inl x6, .inr (.inr (8, 0))]), σ)) rfl ?_
      obtain ⟨q3, hb, h⟩ := bind_some h
      refine Wp.call (WpD.mono _) rfl (T_X6_pass (e + 11) N x6 x8 σ _ _ _ hb ?_)
      show Wp (WpD (e + 13)) hcX5_descend Q (115, [some (.inr (.inr (9, 0))), none, none, some (.inr (.inl x3)), none, none, some (.inl x6), some (.inl x7), some (.inl x8), none, none], [.inr (.inl q3.1)]) q3.2
      refine Wp.br (WpD.mono _) 4 (c := (lg_cmp q3.1 (0 : Int64)) ≤ 0) (q1 := ((142, [some (.inr (.inr (9, 0))), none, none, some (.inr (.inl x3)), none, none, some (.inl x6), some (.inl x7), some (.inl x8), some (.inr (.inl q3.1)), none], []), q3.2)) (q2 := ((124, [some (.inr (.inr (9, 0))), none, none, some (.inr (.inl x3)), none, none, some (.inl x6), some (.inl x7), some (.inl x8), some (.inr (.inl q3.1)), none], []), q3.2)) rfl (fun hc => ?_) (fun hc => ?_)
      · have h := (if_pos hc).symm.trans h
        refine Wp.run (WpD.mono _) 1 (q := ((98, [some (.inr (.inr (9, 0))), none, none, some (.inr (.inl x3)), none, none, some (.inl x6), some (.inl x7), some (.inl (x8 + (1 : Int32))), none, none], []), q3.2)) rfl ?_
        exact Wp.jump (WpD.mono _) rfl (ih x3 x6 x7 (x8 + (1 : Int32)) q3.2 h)
      · have h := (if_neg hc).symm.trans h
        refine Wp.run (WpD.mono _) 8 (q := ((139, [some (.inr (.inr (9, 0))), none, none, some (.inr (.inl x3)), none, none, some (.inl x6), some (.inl x7), some (.inl x8), some (.inr (.inl q3.1)), none], [.inl x7, .inr (.inl ((x3 * q3.1) / (1000000 : Int64))), .inl x8, .inl x6, .inr (.inr (9, 0))]), q3.2)) rfl ?_
        obtain ⟨q4, hb, h⟩ := bind_some h
        refine Wp.call (WpD.mono _) rfl (hg0 x6 x8 ((x3 * q3.1) / (1000000 : Int64)) x7 q3.2 _ _ _ hb ?_)
        show Wp (WpD (e + 13)) hcX5_descend Q (142, [some (.inr (.inr (9, 0))), none, none, some (.inr (.inl x3)), none, none, some (.inl x6), some (.inl x7), some (.inl x8), some (.inr (.inl q3.1)), none], []) q4.2
        refine Wp.run (WpD.mono _) 1 (q := ((98, [some (.inr (.inr (9, 0))), none, none, some (.inr (.inl x3)), none, none, some (.inl x6), some (.inl x7), some (.inl (x8 + (1 : Int32))), none, none], []), q4.2)) rfl ?_
        exact Wp.jump (WpD.mono _) rfl (ih x3 x6 x7 (x8 + (1 : Int32)) q4.2 h)

set_option maxRecDepth 100000 in
set_option maxHeartbeats 4000000 in
theorem T_X5_descend_b21 (e N : Nat) (g0 : Int32 → Int32 → Int64 → Int32 → Mem → Option (Unit × Mem)) (hg0 : ∀ (a1 : Int32) (a2 : Int32) (a3 : Int64) (a4 : Int32) (σ : Mem) (r : Unit) (τ : Mem) (Q : Pst), g0 a1 a2 a3 a4 σ = some (r, τ) → Q (none) τ → WpD (e + 13) mX5_descend [.inr (.inr (9, 0)), .inl a1, .inl a2, .inr (.inl a3), .inl a4] σ Q)  (r : Unit) (τ : Mem) (Q : Pst) (hQ : Q (none) τ) : ∀ (x3 : Int64) (x5 : Int32) (σ : Mem), F_X5_descend_b21 N g0 x3 x5 σ = some (r, τ) → Wp (WpD (e + 13)) hcX5_descend Q (21, [some (.inr (.inr (9, 0))), none, none, some (.inr (.inl x3)), none, some (.inl x5), none, none, none, none, none], []) σ := by
  intro x3 x5 σ h
  unfold F_X5_descend_b21 at h
  refine Wp.br (WpD.mono _) 16 (c := x5 ≤ (σ.2.2.1 28 0 3)) (q1 := ((62, [some (.inr (.inr (9, 0))), none, none, some (.inr (.inl x3)), none, some (.inl x5), none, none, none, none, none], []), (σ.1, (hwU2 σ.2.1 9 3 ((σ.2.1 9 3) + (x3 * x5.toInt64))), σ.2.2.1, σ.2.2.2.1, σ.2.2.2.2))) (q2 := ((52, [some (.inr (.inr (9, 0))), none, none, some (.inr (.inl x3)), none, some (.inl x5), none, none, none, none, none], []), (σ.1, (hwU2 σ.2.1 9 3 ((σ.2.1 9 3) + (x3 * x5.toInt64))), σ.2.2.1, σ.2.2.2.1, σ.2.2.2.2))) rfl (fun hc => ?_) (fun hc => ?_)
  · have h := (if_pos hc).symm.trans h
    cases h
    exact Wp.ret (WpD.mono _) rfl hQ
  · have h := (if_neg hc).symm.trans h
    refine Wp.run (WpD.mono _) 5 (q := ((62, [some (.inr (.inr (9, 0))), none, none, some (.inr (.inl x3)), none, some (.inl x5), none, none, none, none, none], []), (σ.1, (hwU2 (hwU2 σ.2.1 9 3 ((σ.2.1 9 3) + (x3 * x5.toInt64))) 9 5 ((σ.2.1 9 5) + x3)), σ.2.2.1, σ.2.2.2.1, σ.2.2.2.2))) rfl ?_
    cases h
    exact Wp.ret (WpD.mono _) rfl hQ

set_option maxRecDepth 100000 in
set_option maxHeartbeats 4000000 in
theorem TB_X5_descend (e N : Nat) (g0 : Int32 → Int32 → Int64 → Int32 → Mem → Option (Unit × Mem)) (hg0 : ∀ (a1 : Int32) (a2 : Int32) (a3 : Int64) (a4 : Int32) (σ : Mem) (r : Unit) (τ : Mem) (Q : Pst), g0 a1 a2 a3 a4 σ = some (r, τ) → Q (none) τ → WpD (e + 13) mX5_descend [.inr (.inr (9, 0)), .inl a1, .inl a2, .inr (.inl a3), .inl a4] σ Q) (a1 : Int32) (a2 : Int32) (a3 : Int64) (a4 : Int32) (σ : Mem) (r : Unit) (τ : Mem) (Q : Pst) (h : B_X5_descend N g0 a1 a2 a3 a4 σ = some (r, τ)) (hQ : Q (none) τ) : WpD (e + 1 + 13) mX5_descend [.inr (.inr (9, 0)), .inl a1, .inl a2, .inr (.inl a3), .inl a4] σ Q := by
  refine WpD.of (d := e + 13) (Nat.le_of_ble_eq_true rfl) (Nat.le_of_ble_eq_true rfl) ?_
  show Wp (WpD (e + 13)) hcX5_descend Q (0, [some (.inr (.inr (9, 0))), some (.inl a1), some (.inl a2), some (.inr (.inl a3)), none, some (.inl a4), none, none, none, none, none], []) σ
  unfold B_X5_descend at h
  refine Wp.br (WpD.mono _) 2 (c := (5 : Int32) ≤ a1) (q1 := ((21, [some (.inr (.inr (9, 0))), some (.inl a1), some (.inl a2), some (.inr (.inl a3)), none, some (.inl a4), none, none, none, none, none], []), σ)) (q2 := ((5, [some (.inr (.inr (9, 0))), some (.inl a1), some (.inl a2), some (.inr (.inl a3)), none, some (.inl a4), none, none, none, none, none], []), σ)) rfl (fun hc => ?_) (fun hc => ?_)
  · have h := (if_pos hc).symm.trans h
    exact Wp.jump (WpD.mono _) rfl ((T_X5_descend_b21 e N g0 hg0 r τ Q hQ ) a3 a4 σ h)
  · have h := (if_neg hc).symm.trans h
    refine Wp.run (WpD.mono _) 5 (q := ((15, [some (.inr (.inr (9, 0))), some (.inl a1), some (.inl a2), some (.inr (.inl a3)), none, some (.inl a4), none, none, none, none, none], [.inl a2, .inl a1, .inl (σ.1 9 2), .inr (.inr (6, 0))]), σ)) rfl ?_
    obtain ⟨q1, hb, h⟩ := bind_some h
    refine Wp.call (WpD.mono _) rfl (T_X9_goesOn (e + 0) N (σ.1 9 2) a1 a2 σ _ _ _ hb ?_)
    show Wp (WpD (e + 13)) hcX5_descend Q (18, [some (.inr (.inr (9, 0))), some (.inl a1), some (.inl a2), some (.inr (.inl a3)), none, some (.inl a4), none, none, none, none, none], [.inl q1.1]) q1.2
    refine Wp.br (WpD.mono _) 0 (c := q1.1 = 0) (q1 := ((21, [some (.inr (.inr (9, 0))), some (.inl a1), some (.inl a2), some (.inr (.inl a3)), none, some (.inl a4), none, none, none, none, none], []), q1.2)) (q2 := ((63, [some (.inr (.inr (9, 0))), some (.inl a1), some (.inl a2), some (.inr (.inl a3)), none, some (.inl a4), none, none, none, none, none], []), q1.2)) rfl (fun hc => ?_) (fun hc => ?_)
    · have h := (if_pos hc).symm.trans h
      exact Wp.jump (WpD.mono _) rfl ((T_X5_descend_b21 e N g0 hg0 r τ Q hQ ) a3 a4 q1.2 h)
    · have h := (if_neg hc).symm.trans h
      obtain ⟨hc, h⟩ := ite_nn h
      refine Wp.no (WpD.mono _) 10 (c := hwOut (a1 + (1 : Int32)) 6) (q := ((83, [some (.inr (.inr (9, 0))), some (.inl a1), some (.inl a2), some (.inr (.inl a3)), none, some (.inl a4), some (.inl (a1 + (1 : Int32))), none, none, none, none], [.inl (q1.2.2.2.1 42 0 ((a1 + (1 : Int32))).toNatClampNeg), .inl a4]), q1.2)) rfl hc ?_
      refine Wp.run (WpD.mono _) 5 (q := ((92, [some (.inr (.inr (9, 0))), some (.inl a1), some (.inl a2), some (.inr (.inl a3)), none, some (.inl a4), some (.inl (a1 + (1 : Int32))), some (.inl (a4 + (q1.2.2.2.1 42 0 ((a1 + (1 : Int32))).toNatClampNeg))), none, none, none], [.inl (a4 + (q1.2.2.2.1 42 0 ((a1 + (1 : Int32))).toNatClampNeg)), .inr (.inl a3), .inl (a1 + (1 : Int32)), .inr (.inr (9, 0))]), q1.2)) rfl ?_
      obtain ⟨q2, hb, h⟩ := bind_some h
      refine Wp.call (WpD.mono _) rfl (T_X5_find (e + 11) N (a1 + (1 : Int32)) a3 (a4 + (q1.2.2.2.1 42 0 ((a1 + (1 : Int32))).toNatClampNeg)) q1.2 _ _ _ hb ?_)
      show Wp (WpD (e + 13)) hcX5_descend Q (95, [some (.inr (.inr (9, 0))), some (.inl a1), some (.inl a2), some (.inr (.inl a3)), none, some (.inl a4), some (.inl (a1 + (1 : Int32))), some (.inl (a4 + (q1.2.2.2.1 42 0 ((a1 + (1 : Int32))).toNatClampNeg))), none, none, none], []) q2.2
      refine Wp.run (WpD.mono _) 1 (q := ((98, [some (.inr (.inr (9, 0))), some (.inl a1), some (.inl a2), some (.inr (.inl a3)), none, some (.inl a4), some (.inl (a1 + (1 : Int32))), some (.inl (a4 + (q1.2.2.2.1 42 0 ((a1 + (1 : Int32))).toNatClampNeg))), some (.inl (0 : Int32)), none, none], []), q2.2)) rfl ?_
      exact Wp.jump (WpD.mono _) rfl ((T_X5_descend_b98 e N g0 hg0 r τ Q hQ  N) a3 (a1 + (1 : Int32)) (a4 + (q1.2.2.2.1 42 0 ((a1 + (1 : Int32))).toNatClampNeg)) (0 : Int32) q2.2 h)

set_option maxRecDepth 100000 in
theorem TG_X5_descend (e N : Nat) : ∀ d : Nat, (∀ (a1 : Int32) (a2 : Int32) (a3 : Int64) (a4 : Int32) (σ : Mem) (r : Unit) (τ : Mem) (Q : Pst), (G_X5_descend N d) a1 a2 a3 a4 σ = some (r, τ) → Q (none) τ → WpD (e + d + 13) mX5_descend [.inr (.inr (9, 0)), .inl a1, .inl a2, .inr (.inl a3), .inl a4] σ Q) := by
  intro d
  induction d with
  | zero =>
    exact fun _ _ _ _ _ _ _ _ h => nomatch h
  | succ d ih =>
    exact fun a1 a2 a3 a4 σ r τ Q h hQ => TB_X5_descend (e + d) N (G_X5_descend N d) ih a1 a2 a3 a4 σ r τ Q h hQ

theorem T_X5_descend (e N : Nat) (a1 : Int32) (a2 : Int32) (a3 : Int64) (a4 : Int32) (σ : Mem) (r : Unit) (τ : Mem) (Q : Pst) (h : F_X5_descend N a1 a2 a3 a4 σ = some (r, τ)) (hQ : Q (none) τ) : WpD (e + 23) mX5_descend [.inr (.inr (9, 0)), .inl a1, .inl a2, .inr (.inl a3), .inl a4] σ Q := (TG_X5_descend e N 10) a1 a2 a3 a4 σ r τ Q h hQ
set_option maxRecDepth 100000 in
set_option maxHeartbeats 4000000 in
theorem T_X5_reckon (e N : Nat)  (a1 : Int32) (a2 : Int32) (σ : Mem) (r : Unit) (τ : Mem) (Q : Pst) (h : F_X5_reckon N a1 a2 σ = some (r, τ)) (hQ : Q (none) τ) : WpD (e + 24) mX5_reckon [.inr (.inr (9, 0)), .inl a1, .inl a2] σ Q := by
  refine WpD.of (d := e + 23) (Nat.le_of_ble_eq_true rfl) (Nat.le_of_ble_eq_true rfl) ?_
  show Wp (WpD (e + 23)) hcX5_reckon Q (0, [some (.inr (.inr (9, 0))), some (.inl a1), some (.inl a2)], []) σ
  unfold F_X5_reckon at h
  refine Wp.run (WpD.mono _) 17 (q := ((30, [some (.inr (.inr (9, 0))), some (.inl a1), some (.inl a2)], [.inl a2, .inr (.inr (8, 0))]), ((hwU2 σ.1 9 2 a1), (hwU2 (hwU2 (hwU2 (hwU2 σ.2.1 9 3 (0 : Int64)) 9 4 (0 : Int64)) 9 5 (0 : Int64)) 9 6 (0 : Int64)), σ.2.2.1, σ.2.2.2.1, σ.2.2.2.2))) rfl ?_
  obtain ⟨q1, hb, h⟩ := bind_some h
  refine Wp.call (WpD.mono _) rfl (T_X6_begin (e + 21) N a2 ((hwU2 σ.1 9 2 a1), (hwU2 (hwU2 (hwU2 (hwU2 σ.2.1 9 3 (0 : Int64)) 9 4 (0 : Int64)) 9 5 (0 : Int64)) 9 6 (0 : Int64)), σ.2.2.1, σ.2.2.2.1, σ.2.2.2.2) _ _ _ hb ?_)
  show Wp (WpD (e + 23)) hcX5_reckon Q (33, [some (.inr (.inr (9, 0))), some (.inl a1), some (.inl a2)], []) q1.2
  refine Wp.run (WpD.mono _) 4 (q := ((40, [some (.inr (.inr (9, 0))), some (.inl a1), some (.inl a2)], [.inl (0 : Int32), .inr (.inl (1000000 : Int64)), .inl (-1 : Int32), .inl (0 : Int32), .inr (.inr (9, 0))]), q1.2)) rfl ?_
  obtain ⟨q2, hb, h⟩ := bind_some h
  refine Wp.call (WpD.mono _) rfl (T_X5_descend (e + 0) N (0 : Int32) (-1 : Int32) (1000000 : Int64) (0 : Int32) q1.2 _ _ _ hb ?_)
  show Wp (WpD (e + 23)) hcX5_reckon Q (43, [some (.inr (.inr (9, 0))), some (.inl a1), some (.inl a2)], []) q2.2
  cases h
  exact Wp.ret (WpD.mono _) rfl hQ

set_option maxRecDepth 100000 in
set_option maxHeartbeats 4000000 in
theorem T_X11_mean (e N : Nat)  (a1 : Int32) (a2 : Int32) (a3 : Int32) (σ : Mem) (r : Int64) (τ : Mem) (Q : Pst) (h : F_X11_mean N a1 a2 a3 σ = some (r, τ)) (hQ : Q (some (.inr (.inl r))) τ) : WpD (e + 25) mX11_mean [.inr (.inr (0, 0)), .inl a1, .inl a2, .inl a3] σ Q := by
  refine WpD.of (d := e + 24) (Nat.le_of_ble_eq_true rfl) (Nat.le_of_ble_eq_true rfl) ?_
  show Wp (WpD (e + 24)) hcX11_mean Q (0, [some (.inr (.inr (0, 0))), some (.inl a1), some (.inl a2), some (.inl a3)], []) σ
  unfold F_X11_mean at h
  refine Wp.run (WpD.mono _) 1 (q := ((2, [some (.inr (.inr (0, 0))), some (.inl a1), some (.inl a2), some (.inl a3)], [.inl a1, .inr (.inr (0, 0))]), σ)) rfl ?_
  obtain ⟨q1, hb, h⟩ := bind_some h
  refine Wp.call (WpD.mono _) rfl (T_X11_isRule (e + 22) N a1 σ _ _ _ hb ?_)
  show Wp (WpD (e + 24)) hcX11_mean Q (5, [some (.inr (.inr (0, 0))), some (.inl a1), some (.inl a2), some (.inl a3)], [.inl q1.1]) q1.2
  refine Wp.br (WpD.mono _) 0 (c := q1.1 = 0) (q1 := ((25, [some (.inr (.inr (0, 0))), some (.inl a1), some (.inl a2), some (.inl a3)], []), q1.2)) (q2 := ((8, [some (.inr (.inr (0, 0))), some (.inl a1), some (.inl a2), some (.inl a3)], []), q1.2)) rfl (fun hc => ?_) (fun hc => ?_)
  · have h := (if_pos hc).symm.trans h
    refine Wp.run (WpD.mono _) 0 (q := ((28, [none, none, none, none], [.inr (.inl (-4611686018427387904 : Int64))]), q1.2)) rfl ?_
    cases h
    exact Wp.ret (WpD.mono _) rfl hQ
  · have h := (if_neg hc).symm.trans h
    refine Wp.run (WpD.mono _) 1 (q := ((10, [some (.inr (.inr (0, 0))), some (.inl a1), some (.inl a2), some (.inl a3)], [.inl a2, .inr (.inr (0, 0))]), q1.2)) rfl ?_
    obtain ⟨q2, hb, h⟩ := bind_some h
    refine Wp.call (WpD.mono _) rfl (T_X11_isPlace (e + 22) N a2 q1.2 _ _ _ hb ?_)
    show Wp (WpD (e + 24)) hcX11_mean Q (13, [some (.inr (.inr (0, 0))), some (.inl a1), some (.inl a2), some (.inl a3)], [.inl q2.1]) q2.2
    refine Wp.br (WpD.mono _) 0 (c := q2.1 = 0) (q1 := ((25, [some (.inr (.inr (0, 0))), some (.inl a1), some (.inl a2), some (.inl a3)], []), q2.2)) (q2 := ((16, [some (.inr (.inr (0, 0))), some (.inl a1), some (.inl a2), some (.inl a3)], []), q2.2)) rfl (fun hc => ?_) (fun hc => ?_)
    · have h := (if_pos hc).symm.trans h
      refine Wp.run (WpD.mono _) 0 (q := ((28, [none, none, none, none], [.inr (.inl (-4611686018427387904 : Int64))]), q2.2)) rfl ?_
      cases h
      exact Wp.ret (WpD.mono _) rfl hQ
    · have h := (if_neg hc).symm.trans h
      refine Wp.run (WpD.mono _) 2 (q := ((19, [some (.inr (.inr (0, 0))), some (.inl a1), some (.inl a2), some (.inl a3)], [.inl (3 : Int32), .inl (0 : Int32), .inl a3]), q2.2)) rfl ?_
      obtain ⟨q3, hb, h⟩ := bind_some h
      refine Wp.call (WpD.mono _) rfl (T_X11_within (e + 23) N a3 (0 : Int32) (3 : Int32) q2.2 _ _ _ hb ?_)
      show Wp (WpD (e + 24)) hcX11_mean Q (22, [some (.inr (.inr (0, 0))), some (.inl a1), some (.inl a2), some (.inl a3)], [.inl q3.1]) q3.2
      refine Wp.br (WpD.mono _) 0 (c := q3.1 = 0) (q1 := ((25, [some (.inr (.inr (0, 0))), some (.inl a1), some (.inl a2), some (.inl a3)], []), q3.2)) (q2 := ((29, [some (.inr (.inr (0, 0))), some (.inl a1), some (.inl a2), some (.inl a3)], []), q3.2)) rfl (fun hc => ?_) (fun hc => ?_)
      · have h := (if_pos hc).symm.trans h
        refine Wp.run (WpD.mono _) 0 (q := ((28, [none, none, none, none], [.inr (.inl (-4611686018427387904 : Int64))]), q3.2)) rfl ?_
        cases h
        exact Wp.ret (WpD.mono _) rfl hQ
      · have h := (if_neg hc).symm.trans h
        refine Wp.run (WpD.mono _) 3 (q := ((35, [some (.inr (.inr (0, 0))), some (.inl a1), some (.inl a2), some (.inl a3)], [.inl a2, .inl a1, .inr (.inr (9, 0))]), q3.2)) rfl ?_
        obtain ⟨q4, hb, h⟩ := bind_some h
        refine Wp.call (WpD.mono _) rfl (T_X5_reckon (e + 0) N a1 a2 q3.2 _ _ _ hb ?_)
        show Wp (WpD (e + 24)) hcX11_mean Q (38, [some (.inr (.inr (0, 0))), some (.inl a1), some (.inl a2), some (.inl a3)], []) q4.2
        refine Wp.run (WpD.mono _) 0 (q := ((39, [some (.inr (.inr (0, 0))), some (.inl a1), some (.inl a2), some (.inl a3)], [.inl a3]), q4.2)) rfl ?_
        by_cases hs0 : a3 = 0
        · have h := (if_pos hs0).symm.trans h
          refine Wp.swIn (WpD.mono _) (q := ((64, [some (.inr (.inr (0, 0))), some (.inl a1), some (.inl a2), some (.inl a3)], []), q4.2)) hs0 rfl ?_
          refine Wp.run (WpD.mono _) 2 (q := ((71, [some (.inr (.inr (0, 0))), some (.inl a1), some (.inl a2), some (.inl a3)], [.inr (.inl (q4.2.2.1 9 3))]), q4.2)) rfl ?_
          cases h
          exact Wp.ret (WpD.mono _) rfl hQ
        have h := (if_neg hs0).symm.trans h
        by_cases hs1 : a3 = 1
        · have h := (if_pos hs1).symm.trans h
          refine Wp.swIn (WpD.mono _) (q := ((72, [some (.inr (.inr (0, 0))), some (.inl a1), some (.inl a2), some (.inl a3)], []), q4.2)) hs1 rfl ?_
          refine Wp.run (WpD.mono _) 2 (q := ((79, [some (.inr (.inr (0, 0))), some (.inl a1), some (.inl a2), some (.inl a3)], [.inr (.inl (q4.2.2.1 9 4))]), q4.2)) rfl ?_
          cases h
          exact Wp.ret (WpD.mono _) rfl hQ
        have h := (if_neg hs1).symm.trans h
        by_cases hs2 : a3 = 2
        · have h := (if_pos hs2).symm.trans h
          refine Wp.swIn (WpD.mono _) (q := ((80, [some (.inr (.inr (0, 0))), some (.inl a1), some (.inl a2), some (.inl a3)], []), q4.2)) hs2 rfl ?_
          refine Wp.run (WpD.mono _) 2 (q := ((87, [some (.inr (.inr (0, 0))), some (.inl a1), some (.inl a2), some (.inl a3)], [.inr (.inl (q4.2.2.1 9 5))]), q4.2)) rfl ?_
          cases h
          exact Wp.ret (WpD.mono _) rfl hQ
        have h := (if_neg hs2).symm.trans h
        have ehs0 : ¬ (a3).toInt = 0 := fun z => hs0 (Int32.toInt_inj.mp z)
        have ehs1 : ¬ (a3).toInt = 1 := fun z => hs1 (Int32.toInt_inj.mp z)
        have ehs2 : ¬ (a3).toInt = 2 := fun z => hs2 (Int32.toInt_inj.mp z)
        refine Wp.swOut (WpD.mono _) (q := ((88, [some (.inr (.inr (0, 0))), some (.inl a1), some (.inl a2), some (.inl a3)], []), q4.2)) (o := if (a3).toInt < 0 ∨ 2 < (a3).toInt then some (49) else #[25, 33, 41][((a3).toInt - 0).toNat]?) (o' := some (49)) rfl (if_pos (by omega)) rfl ?_
        refine Wp.run (WpD.mono _) 2 (q := ((95, [some (.inr (.inr (0, 0))), some (.inl a1), some (.inl a2), some (.inl a3)], [.inr (.inl (q4.2.2.1 9 6))]), q4.2)) rfl ?_
        cases h
        exact Wp.ret (WpD.mono _) rfl hQ

set_option maxRecDepth 100000 in
set_option maxHeartbeats 4000000 in
theorem T_X11_next_b53 (e N : Nat)  (k14 : Int32 → Int32 → Int32 → Mem → Option (Int32 × Mem)) (r : Int32) (τ : Mem) (Q : Pst) (hQ : Q (some (.inl r)) τ) (hk14 : ∀ (x1 : Int32) (x2 : Int32) (x3 : Int32) (σ : Mem), k14 x1 x2 x3 σ = some (r, τ) → Wp (WpD (e + 13)) hcX11_next Q (14, [some (.inr (.inr (0, 0))), some (.inl x1), some (.inl x2), some (.inl x3), none, none], []) σ) : ∀ (x1 : Int32) (x2 : Int32) (x3 : Int32) (s0 : Int32) (σ : Mem), F_X11_next_b53 N k14 x1 x2 x3 s0 σ = some (r, τ) → Wp (WpD (e + 13)) hcX11_next Q (53, [some (.inr (.inr (0, 0))), some (.inl x1), some (.inl x2), some (.inl x3), none, none], [.inl s0]) σ := by
  intro x1 x2 x3 s0 σ h
  unfold F_X11_next_b53 at h
  refine Wp.br (WpD.mono _) 2 (c := s0 < 0) (q1 := ((71, [some (.inr (.inr (0, 0))), some (.inl x1), some (.inl x2), some (.inl x3), none, some (.inl s0)], []), σ)) (q2 := ((60, [some (.inr (.inr (0, 0))), some (.inl x1), some (.inl x2), some (.inl x3), none, some (.inl s0)], []), σ)) rfl (fun hc => ?_) (fun hc => ?_)
  · have h := (if_pos hc).symm.trans h
    refine Wp.run (WpD.mono _) 1 (q := ((14, [some (.inr (.inr (0, 0))), some (.inl x1), some (.inl x2), some (.inl (x3 + (1 : Int32))), none, none], []), σ)) rfl ?_
    exact Wp.jump (WpD.mono _) rfl (hk14 x1 x2 (x3 + (1 : Int32)) σ h)
  · have h := (if_neg hc).symm.trans h
    refine Wp.br (WpD.mono _) 2 (c := x2 ≤ s0) (q1 := ((71, [some (.inr (.inr (0, 0))), some (.inl x1), some (.inl x2), some (.inl x3), none, some (.inl s0)], []), σ)) (q2 := ((66, [some (.inr (.inr (0, 0))), some (.inl x1), some (.inl x2), some (.inl x3), none, some (.inl s0)], []), σ)) rfl (fun hc => ?_) (fun hc => ?_)
    · have h := (if_pos hc).symm.trans h
      refine Wp.run (WpD.mono _) 1 (q := ((14, [some (.inr (.inr (0, 0))), some (.inl x1), some (.inl x2), some (.inl (x3 + (1 : Int32))), none, none], []), σ)) rfl ?_
      exact Wp.jump (WpD.mono _) rfl (hk14 x1 x2 (x3 + (1 : Int32)) σ h)
    · have h := (if_neg hc).symm.trans h
      refine Wp.run (WpD.mono _) 5 (q := ((14, [some (.inr (.inr (0, 0))), some (.inl x3), some (.inl s0), some (.inl (x3 + (1 : Int32))), none, none], []), σ)) rfl ?_
      exact Wp.jump (WpD.mono _) rfl (hk14 x3 s0 (x3 + (1 : Int32)) σ h)

set_option maxRecDepth 100000 in
set_option maxHeartbeats 4000000 in
theorem T_X11_next_b14 (e N : Nat)   (r : Int32) (τ : Mem) (Q : Pst) (hQ : Q (some (.inl r)) τ) : ∀ n, ∀ (x1 : Int32) (x2 : Int32) (x3 : Int32) (σ : Mem), F_X11_next_b14 N n x1 x2 x3 σ = some (r, τ) → Wp (WpD (e + 13)) hcX11_next Q (14, [some (.inr (.inr (0, 0))), some (.inl x1), some (.inl x2), some (.inl x3), none, none], []) σ := by
  intro n
  induction n with
  | zero => intro x1 x2 x3 σ h; cases h
  | succ n ih =>
    intro x1 x2 x3 σ h
    unfold F_X11_next_b14 at h
    refine Wp.br (WpD.mono _) 4 (c := (σ.1 4 5) ≤ x3) (q1 := ((77, [some (.inr (.inr (0, 0))), some (.inl x1), some (.inl x2), some (.inl x3), none, none], []), σ)) (q2 := ((25, [some (.inr (.inr (0, 0))), some (.inl x1), some (.inl x2), some (.inl x3), none, none], []), σ)) rfl (fun hc => ?_) (fun hc => ?_)
    · have h := (if_pos hc).symm.trans h
      refine Wp.run (WpD.mono _) 0 (q := ((78, [some (.inr (.inr (0, 0))), some (.inl x1), some (.inl x2), some (.inl x3), none, none], [.inl x1]), σ)) rfl ?_
      cases h
      exact Wp.ret (WpD.mono _) rfl hQ
    · have h := (if_neg hc).symm.trans h
      refine Wp.run (WpD.mono _) 2 (q := ((30, [some (.inr (.inr (0, 0))), some (.inl x1), some (.inl x2), some (.inl x3), none, none], [.inl x3, .inr (.inr (8, 0))]), σ)) rfl ?_
      obtain ⟨q2, hb, h⟩ := bind_some h
      refine Wp.call (WpD.mono _) rfl (T_X6_openYard (e + 9) N x3 σ _ _ _ hb ?_)
      show Wp (WpD (e + 13)) hcX11_next Q (33, [some (.inr (.inr (0, 0))), some (.inl x1), some (.inl x2), some (.inl x3), none, none], [.inl q2.1]) q2.2
      refine Wp.br (WpD.mono _) 2 (c := q2.1 = 0) (q1 := ((40, [some (.inr (.inr (0, 0))), some (.inl x1), some (.inl x2), some (.inl x3), some (.inl q2.1), none], []), q2.2)) (q2 := ((44, [some (.inr (.inr (0, 0))), some (.inl x1), some (.inl x2), some (.inl x3), some (.inl q2.1), none], []), q2.2)) rfl (fun hc => ?_) (fun hc => ?_)
      · have h := (if_pos hc).symm.trans h
        refine Wp.run (WpD.mono _) 1 (q := ((53, [some (.inr (.inr (0, 0))), some (.inl x1), some (.inl x2), some (.inl x3), some (.inl q2.1), none], [.inl (-1 : Int32)]), q2.2)) rfl ?_
        exact Wp.jump (WpD.mono _) rfl ((T_X11_next_b53 e N (F_X11_next_b14 N n) r τ Q hQ ih) x1 x2 x3 (-1 : Int32) q2.2 h)
      · have h := (if_neg hc).symm.trans h
        refine Wp.run (WpD.mono _) 2 (q := ((50, [some (.inr (.inr (0, 0))), some (.inl x1), some (.inl x2), some (.inl x3), some (.inl q2.1), none], [.inl q2.1, .inr (.inr (8, 0))]), q2.2)) rfl ?_
        obtain ⟨q3, hb, h⟩ := bind_some h
        refine Wp.call (WpD.mono _) rfl (T_X6_leastWorth (e + 0) N q2.1 q2.2 _ _ _ hb ?_)
        show Wp (WpD (e + 13)) hcX11_next Q (53, [some (.inr (.inr (0, 0))), some (.inl x1), some (.inl x2), some (.inl x3), some (.inl q2.1), none], [.inl q3.1]) q3.2
        exact Wp.jump (WpD.mono _) rfl ((T_X11_next_b53 e N (F_X11_next_b14 N n) r τ Q hQ ih) x1 x2 x3 q3.1 q3.2 h)

set_option maxRecDepth 100000 in
set_option maxHeartbeats 4000000 in
theorem T_X11_next (e N : Nat)   (σ : Mem) (r : Int32) (τ : Mem) (Q : Pst) (h : F_X11_next N  σ = some (r, τ)) (hQ : Q (some (.inl r)) τ) : WpD (e + 14) mX11_next [.inr (.inr (0, 0))] σ Q := by
  refine WpD.of (d := e + 13) (Nat.le_of_ble_eq_true rfl) (Nat.le_of_ble_eq_true rfl) ?_
  show Wp (WpD (e + 13)) hcX11_next Q (0, [some (.inr (.inr (0, 0))), none, none, none, none, none], []) σ
  unfold F_X11_next at h
  refine Wp.run (WpD.mono _) 3 (q := ((6, [some (.inr (.inr (0, 0))), some (.inl (-1 : Int32)), none, none, none, none], [.inr (.inr (1, 0))]), σ)) rfl ?_
  obtain ⟨q1, hb, h⟩ := bind_some h
  refine Wp.call (WpD.mono _) rfl (T_X2_worth (e + 12) N σ _ _ _ hb ?_)
  show Wp (WpD (e + 13)) hcX11_next Q (9, [some (.inr (.inr (0, 0))), some (.inl (-1 : Int32)), none, none, none, none], [.inl q1.1]) q1.2
  refine Wp.run (WpD.mono _) 4 (q := ((14, [some (.inr (.inr (0, 0))), some (.inl (-1 : Int32)), some (.inl (q1.1 + (1 : Int32))), some (.inl (0 : Int32)), none, none], []), q1.2)) rfl ?_
  exact Wp.jump (WpD.mono _) rfl ((T_X11_next_b14 e N  r τ Q hQ  N) (-1 : Int32) (q1.1 + (1 : Int32)) (0 : Int32) q1.2 h)

set_option maxRecDepth 100000 in
set_option maxHeartbeats 4000000 in
theorem T_X7_found_t69_b16 (e N : Nat)   (r : Int32) (τ : Mem) (Q : Pst) (hQ : Q (some (.inl r)) τ) : ∀ n, ∀ (x1 : Nat) (x2 : Int32) (x3 : Int32) (x4 : Int32) (σ : Mem), F_X7_found_t69_b16 N n x1 x2 x3 x4 σ = some (r, τ) → Wp (WpD (e + 0)) hcX7_found Q (16, [some (.inr (.inr (4, 0))), some (.inr (.inr (69, x1))), some (.inl x2), some (.inl x3), some (.inl x4)], []) σ := by
  intro n
  induction n with
  | zero => intro x1 x2 x3 x4 σ h; cases h
  | succ n ih =>
    intro x1 x2 x3 x4 σ h
    unfold F_X7_found_t69_b16 at h
    refine Wp.br (WpD.mono _) 2 (c := x2 ≤ x4) (q1 := ((48, [some (.inr (.inr (4, 0))), some (.inr (.inr (69, x1))), some (.inl x2), some (.inl x3), some (.inl x4)], []), σ)) (q2 := ((22, [some (.inr (.inr (4, 0))), some (.inr (.inr (69, x1))), some (.inl x2), some (.inl x3), some (.inl x4)], []), σ)) rfl (fun hc => ?_) (fun hc => ?_)
    · have h := (if_pos hc).symm.trans h
      refine Wp.run (WpD.mono _) 5 (q := ((56, [some (.inr (.inr (4, 0))), none, none, some (.inl x3), none], [.inl x3]), ((hwU2 σ.1 4 5 (x3 + (1 : Int32))), σ.2.1, σ.2.2.1, σ.2.2.2.1, σ.2.2.2.2))) rfl ?_
      cases h
      exact Wp.ret (WpD.mono _) rfl hQ
    · have h := (if_neg hc).symm.trans h
      refine Wp.br (WpD.mono _) 3 (c := (40 : Int32) ≤ x4) (q1 := ((48, [some (.inr (.inr (4, 0))), some (.inr (.inr (69, x1))), some (.inl x2), some (.inl x3), some (.inl x4)], []), σ)) (q2 := ((29, [some (.inr (.inr (4, 0))), some (.inr (.inr (69, x1))), some (.inl x2), some (.inl x3), some (.inl x4)], []), σ)) rfl (fun hc => ?_) (fun hc => ?_)
      · have h := (if_pos hc).symm.trans h
        refine Wp.run (WpD.mono _) 5 (q := ((56, [some (.inr (.inr (4, 0))), none, none, some (.inl x3), none], [.inl x3]), ((hwU2 σ.1 4 5 (x3 + (1 : Int32))), σ.2.1, σ.2.2.1, σ.2.2.2.1, σ.2.2.2.2))) rfl ?_
        cases h
        exact Wp.ret (WpD.mono _) rfl hQ
      · have h := (if_neg hc).symm.trans h
        obtain ⟨hc, h⟩ := ite_nn h
        refine Wp.no (WpD.mono _) 3 (c := hwOut x3 4) (q := ((35, [some (.inr (.inr (4, 0))), some (.inr (.inr (69, x1))), some (.inl x2), some (.inl x3), some (.inl x4)], [.inr (.inr (55, (x3).toNatClampNeg))]), σ)) rfl hc ?_
        obtain ⟨hc, h⟩ := ite_nn h
        refine Wp.no (WpD.mono _) 3 (c := hwOut x4 40) (q := ((41, [some (.inr (.inr (4, 0))), some (.inr (.inr (69, x1))), some (.inl x2), some (.inl x3), some (.inl x4)], [.inl (σ.2.2.1 69 x1 (x4).toNatClampNeg), .inl x4, .inr (.inr (55, (x3).toNatClampNeg))]), σ)) rfl hc ?_
        obtain ⟨hc, h⟩ := ite_nn h
        refine Wp.no (WpD.mono _) 0 (c := hwOut x4 5) (q := ((42, [some (.inr (.inr (4, 0))), some (.inr (.inr (69, x1))), some (.inl x2), some (.inl x3), some (.inl x4)], []), (σ.1, σ.2.1, (hwU3 σ.2.2.1 55 (x3).toNatClampNeg (x4).toNatClampNeg (σ.2.2.1 69 x1 (x4).toNatClampNeg)), σ.2.2.2.1, σ.2.2.2.2))) rfl hc ?_
        refine Wp.run (WpD.mono _) 1 (q := ((16, [some (.inr (.inr (4, 0))), some (.inr (.inr (69, x1))), some (.inl x2), some (.inl x3), some (.inl (x4 + (1 : Int32)))], []), (σ.1, σ.2.1, (hwU3 σ.2.2.1 55 (x3).toNatClampNeg (x4).toNatClampNeg (σ.2.2.1 69 x1 (x4).toNatClampNeg)), σ.2.2.2.1, σ.2.2.2.2))) rfl ?_
        exact Wp.jump (WpD.mono _) rfl (ih x1 x2 x3 (x4 + (1 : Int32)) (σ.1, σ.2.1, (hwU3 σ.2.2.1 55 (x3).toNatClampNeg (x4).toNatClampNeg (σ.2.2.1 69 x1 (x4).toNatClampNeg)), σ.2.2.2.1, σ.2.2.2.2) h)

set_option maxRecDepth 100000 in
set_option maxHeartbeats 4000000 in
theorem T_X7_found_t69 (e N : Nat)  (a1 : Nat) (a2 : Int32) (σ : Mem) (r : Int32) (τ : Mem) (Q : Pst) (h : F_X7_found_t69 N a1 a2 σ = some (r, τ)) (hQ : Q (some (.inl r)) τ) : WpD (e + 1) mX7_found [.inr (.inr (4, 0)), .inr (.inr (69, a1)), .inl a2] σ Q := by
  refine WpD.of (d := e + 0) (Nat.le_of_ble_eq_true rfl) (Nat.le_of_ble_eq_true rfl) ?_
  show Wp (WpD (e + 0)) hcX7_found Q (0, [some (.inr (.inr (4, 0))), some (.inr (.inr (69, a1))), some (.inl a2), none, none], []) σ
  unfold F_X7_found_t69 at h
  refine Wp.br (WpD.mono _) 5 (c := (σ.1 4 5) < (4 : Int32)) (q1 := ((13, [some (.inr (.inr (4, 0))), some (.inr (.inr (69, a1))), some (.inl a2), some (.inl (σ.1 4 5)), none], []), σ)) (q2 := ((10, [some (.inr (.inr (4, 0))), some (.inr (.inr (69, a1))), some (.inl a2), some (.inl (σ.1 4 5)), none], []), σ)) rfl (fun hc => ?_) (fun hc => ?_)
  · have h := (if_pos hc).symm.trans h
    refine Wp.run (WpD.mono _) 1 (q := ((16, [some (.inr (.inr (4, 0))), some (.inr (.inr (69, a1))), some (.inl a2), some (.inl (σ.1 4 5)), some (.inl (0 : Int32))], []), σ)) rfl ?_
    exact Wp.jump (WpD.mono _) rfl ((T_X7_found_t69_b16 e N  r τ Q hQ  N) a1 a2 (σ.1 4 5) (0 : Int32) σ h)
  · have h := (if_neg hc).symm.trans h
    refine Wp.run (WpD.mono _) 0 (q := ((12, [some (.inr (.inr (4, 0))), some (.inr (.inr (69, a1))), some (.inl a2), some (.inl (σ.1 4 5)), none], [.inl (-4 : Int32)]), σ)) rfl ?_
    cases h
    exact Wp.ret (WpD.mono _) rfl hQ

set_option maxRecDepth 100000 in
set_option maxHeartbeats 4000000 in
theorem T_X11_place (e N : Nat)  (a1 : Int32) (σ : Mem) (r : Int32) (τ : Mem) (Q : Pst) (h : F_X11_place N a1 σ = some (r, τ)) (hQ : Q (some (.inl r)) τ) : WpD (e + 3) mX11_place [.inr (.inr (0, 0)), .inl a1] σ Q := by
  refine WpD.of (d := e + 2) (Nat.le_of_ble_eq_true rfl) (Nat.le_of_ble_eq_true rfl) ?_
  show Wp (WpD (e + 2)) hcX11_place Q (0, [some (.inr (.inr (0, 0))), some (.inl a1)], []) σ
  unfold F_X11_place at h
  refine Wp.run (WpD.mono _) 0 (q := ((1, [some (.inr (.inr (0, 0))), some (.inl a1)], [.inl a1]), σ)) rfl ?_
  obtain ⟨q1, hb, h⟩ := bind_some h
  refine Wp.call (WpD.mono _) rfl (T_X11_isSheet (e + 0) N a1 σ _ _ _ hb ?_)
  show Wp (WpD (e + 2)) hcX11_place Q (4, [some (.inr (.inr (0, 0))), some (.inl a1)], [.inl q1.1]) q1.2
  refine Wp.br (WpD.mono _) 0 (c := q1.1 = 0) (q1 := ((7, [some (.inr (.inr (0, 0))), some (.inl a1)], []), q1.2)) (q2 := ((10, [some (.inr (.inr (0, 0))), some (.inl a1)], []), q1.2)) rfl (fun hc => ?_) (fun hc => ?_)
  · have h := (if_pos hc).symm.trans h
    refine Wp.run (WpD.mono _) 0 (q := ((9, [some (.inr (.inr (0, 0))), some (.inl a1)], [.inl (-2 : Int32)]), q1.2)) rfl ?_
    cases h
    exact Wp.ret (WpD.mono _) rfl hQ
  · have h := (if_neg hc).symm.trans h
    refine Wp.run (WpD.mono _) 2 (q := ((15, [some (.inr (.inr (0, 0))), some (.inl a1)], [.inl a1, .inr (.inr (5, 0))]), q1.2)) rfl ?_
    obtain ⟨q2, hb, h⟩ := bind_some h
    refine Wp.call (WpD.mono _) rfl (T_X10_isMissing (e + 1) N a1 q1.2 _ _ _ hb ?_)
    show Wp (WpD (e + 2)) hcX11_place Q (18, [some (.inr (.inr (0, 0))), some (.inl a1)], [.inl q2.1]) q2.2
    refine Wp.br (WpD.mono _) 0 (c := q2.1 = 0) (q1 := ((24, [some (.inr (.inr (0, 0))), some (.inl a1)], []), q2.2)) (q2 := ((21, [some (.inr (.inr (0, 0))), some (.inl a1)], []), q2.2)) rfl (fun hc => ?_) (fun hc => ?_)
    · have h := (if_pos hc).symm.trans h
      refine Wp.br (WpD.mono _) 3 (c := (q2.2.1 1 6) = 0) (q1 := ((67, [some (.inr (.inr (0, 0))), some (.inl a1)], []), q2.2)) (q2 := ((34, [some (.inr (.inr (0, 0))), some (.inl a1)], []), q2.2)) rfl (fun hc => ?_) (fun hc => ?_)
      · have h := (if_pos hc).symm.trans h
        refine Wp.run (WpD.mono _) 0 (q := ((69, [none, none], [.inl (-2 : Int32)]), q2.2)) rfl ?_
        cases h
        exact Wp.ret (WpD.mono _) rfl hQ
      · have h := (if_neg hc).symm.trans h
        obtain ⟨hc, h⟩ := ite_nn h
        refine Wp.no (WpD.mono _) 4 (c := hwOut a1 4) (q := ((43, [some (.inr (.inr (0, 0))), some (.inl a1)], [.inl (q2.2.2.2.1 71 0 (a1).toNatClampNeg)]), q2.2)) rfl hc ?_
        refine Wp.br (WpD.mono _) 3 (c := (q2.2.2.2.1 71 0 (a1).toNatClampNeg) = (q2.2.1 1 6)) (q1 := ((53, [some (.inr (.inr (0, 0))), some (.inl a1)], []), q2.2)) (q2 := ((67, [some (.inr (.inr (0, 0))), some (.inl a1)], []), q2.2)) rfl (fun hc => ?_) (fun hc => ?_)
        · have h := (if_pos hc).symm.trans h
          refine Wp.run (WpD.mono _) 4 (q := ((61, [some (.inr (.inr (0, 0))), some (.inl a1)], [.inl (99 : Int32), .inl (0 : Int32), .inl a1, .inr (.inr (5, 0))]), q2.2)) rfl ?_
          obtain ⟨q3, hb, h⟩ := bind_some h
          refine Wp.call (WpD.mono _) rfl (T_X10_allWithin (e + 0) N a1 (0 : Int32) (99 : Int32) q2.2 _ _ _ hb ?_)
          show Wp (WpD (e + 2)) hcX11_place Q (64, [some (.inr (.inr (0, 0))), some (.inl a1)], [.inl q3.1]) q3.2
          refine Wp.br (WpD.mono _) 0 (c := q3.1 = 0) (q1 := ((67, [some (.inr (.inr (0, 0))), some (.inl a1)], []), q3.2)) (q2 := ((70, [some (.inr (.inr (0, 0))), some (.inl a1)], []), q3.2)) rfl (fun hc => ?_) (fun hc => ?_)
          · have h := (if_pos hc).symm.trans h
            refine Wp.run (WpD.mono _) 0 (q := ((69, [none, none], [.inl (-2 : Int32)]), q3.2)) rfl ?_
            cases h
            exact Wp.ret (WpD.mono _) rfl hQ
          · have h := (if_neg hc).symm.trans h
            obtain ⟨hc, h⟩ := ite_nn h
            refine Wp.no (WpD.mono _) 6 (c := hwOut a1 4) (q := ((83, [some (.inr (.inr (0, 0))), some (.inl a1)], [.inr (.inr (69, (a1).toNatClampNeg)), .inr (.inr (4, 0))]), q3.2)) rfl hc ?_
            refine Wp.run (WpD.mono _) 2 (q := ((90, [some (.inr (.inr (0, 0))), some (.inl a1)], [.inl (q3.2.1 1 6), .inr (.inr (69, (a1).toNatClampNeg)), .inr (.inr (4, 0))]), q3.2)) rfl ?_
            obtain ⟨q4, hb, h⟩ := bind_some h
            refine Wp.call (WpD.mono _) rfl (T_X7_found_t69 (e + 1) N (a1).toNatClampNeg (q3.2.1 1 6) q3.2 _ _ _ hb ?_)
            show Wp (WpD (e + 2)) hcX11_place Q (93, [some (.inr (.inr (0, 0))), some (.inl a1)], [.inl q4.1]) q4.2
            cases h
            exact Wp.ret (WpD.mono _) rfl hQ
        · have h := (if_neg hc).symm.trans h
          refine Wp.run (WpD.mono _) 0 (q := ((69, [none, none], [.inl (-2 : Int32)]), q2.2)) rfl ?_
          cases h
          exact Wp.ret (WpD.mono _) rfl hQ
    · have h := (if_neg hc).symm.trans h
      refine Wp.run (WpD.mono _) 0 (q := ((23, [some (.inr (.inr (0, 0))), some (.inl a1)], [.inl (-11 : Int32)]), q2.2)) rfl ?_
      cases h
      exact Wp.ret (WpD.mono _) rfl hQ

set_option maxRecDepth 100000 in
set_option maxHeartbeats 4000000 in
theorem T_X11_right_b18 (e N : Nat)   (r : Int32) (τ : Mem) (Q : Pst) (hQ : Q (some (.inl r)) τ) : ∀ n, ∀ (x1 : Int32) (x2 : Int32) (x3 : Int64) (x5 : Int32) (σ : Mem), F_X11_right_b18 N n x1 x2 x3 x5 σ = some (r, τ) → Wp (WpD (e + 24)) hcX11_right Q (18, [some (.inr (.inr (0, 0))), some (.inl x1), some (.inl x2), some (.inr (.inl x3)), none, some (.inl x5), none, none], []) σ := by
  intro n
  induction n with
  | zero => intro x1 x2 x3 x5 σ h; cases h
  | succ n ih =>
    intro x1 x2 x3 x5 σ h
    unfold F_X11_right_b18 at h
    refine Wp.br (WpD.mono _) 4 (c := (σ.1 6 4) ≤ x5) (q1 := ((80, [some (.inr (.inr (0, 0))), some (.inl x1), some (.inl x2), some (.inr (.inl x3)), none, some (.inl x5), none, none], []), σ)) (q2 := ((30, [some (.inr (.inr (0, 0))), some (.inl x1), some (.inl x2), some (.inr (.inl x3)), none, some (.inl x5), none, none], []), σ)) rfl (fun hc => ?_) (fun hc => ?_)
    · have h := (if_pos hc).symm.trans h
      refine Wp.run (WpD.mono _) 0 (q := ((81, [some (.inr (.inr (0, 0))), some (.inl x1), some (.inl x2), some (.inr (.inl x3)), none, some (.inl x5), none, none], [.inl x2]), σ)) rfl ?_
      cases h
      exact Wp.ret (WpD.mono _) rfl hQ
    · have h := (if_neg hc).symm.trans h
      refine Wp.run (WpD.mono _) 3 (q := ((37, [some (.inr (.inr (0, 0))), some (.inl x1), some (.inl x2), some (.inr (.inl x3)), none, some (.inl x5), none, none], [.inl x1, .inl x5, .inr (.inr (9, 0))]), σ)) rfl ?_
      obtain ⟨q2, hb, h⟩ := bind_some h
      refine Wp.call (WpD.mono _) rfl (T_X5_reckon (e + 0) N x5 x1 σ _ _ _ hb ?_)
      show Wp (WpD (e + 24)) hcX11_right Q (40, [some (.inr (.inr (0, 0))), some (.inl x1), some (.inl x2), some (.inr (.inl x3)), none, some (.inl x5), none, none], []) q2.2
      refine Wp.br (WpD.mono _) 9 (c := x2 < 0) (q1 := ((68, [some (.inr (.inr (0, 0))), some (.inl x1), some (.inl x2), some (.inr (.inl x3)), none, some (.inl x5), some (.inr (.inl ((q2.2.2.1 9 6) - (q2.2.2.1 9 3)))), none], []), q2.2)) (q2 := ((61, [some (.inr (.inr (0, 0))), some (.inl x1), some (.inl x2), some (.inr (.inl x3)), none, some (.inl x5), some (.inr (.inl ((q2.2.2.1 9 6) - (q2.2.2.1 9 3)))), none], []), q2.2)) rfl (fun hc => ?_) (fun hc => ?_)
      · have h := (if_pos hc).symm.trans h
        refine Wp.run (WpD.mono _) 5 (q := ((18, [some (.inr (.inr (0, 0))), some (.inl x1), some (.inl x5), some (.inr (.inl ((q2.2.2.1 9 6) - (q2.2.2.1 9 3)))), none, some (.inl (x5 + (1 : Int32))), none, none], []), q2.2)) rfl ?_
        exact Wp.jump (WpD.mono _) rfl (ih x1 x5 ((q2.2.2.1 9 6) - (q2.2.2.1 9 3)) (x5 + (1 : Int32)) q2.2 h)
      · have h := (if_neg hc).symm.trans h
        refine Wp.br (WpD.mono _) 3 (c := (lg_cmp ((q2.2.2.1 9 6) - (q2.2.2.1 9 3)) x3) ≤ 0) (q1 := ((74, [some (.inr (.inr (0, 0))), some (.inl x1), some (.inl x2), some (.inr (.inl x3)), none, some (.inl x5), some (.inr (.inl ((q2.2.2.1 9 6) - (q2.2.2.1 9 3)))), none], []), q2.2)) (q2 := ((68, [some (.inr (.inr (0, 0))), some (.inl x1), some (.inl x2), some (.inr (.inl x3)), none, some (.inl x5), some (.inr (.inl ((q2.2.2.1 9 6) - (q2.2.2.1 9 3)))), none], []), q2.2)) rfl (fun hc => ?_) (fun hc => ?_)
        · have h := (if_pos hc).symm.trans h
          refine Wp.run (WpD.mono _) 1 (q := ((18, [some (.inr (.inr (0, 0))), some (.inl x1), some (.inl x2), some (.inr (.inl x3)), none, some (.inl (x5 + (1 : Int32))), none, none], []), q2.2)) rfl ?_
          exact Wp.jump (WpD.mono _) rfl (ih x1 x2 x3 (x5 + (1 : Int32)) q2.2 h)
        · have h := (if_neg hc).symm.trans h
          refine Wp.run (WpD.mono _) 5 (q := ((18, [some (.inr (.inr (0, 0))), some (.inl x1), some (.inl x5), some (.inr (.inl ((q2.2.2.1 9 6) - (q2.2.2.1 9 3)))), none, some (.inl (x5 + (1 : Int32))), none, none], []), q2.2)) rfl ?_
          exact Wp.jump (WpD.mono _) rfl (ih x1 x5 ((q2.2.2.1 9 6) - (q2.2.2.1 9 3)) (x5 + (1 : Int32)) q2.2 h)

set_option maxRecDepth 100000 in
set_option maxHeartbeats 4000000 in
theorem T_X11_right (e N : Nat)  (a1 : Int32) (σ : Mem) (r : Int32) (τ : Mem) (Q : Pst) (h : F_X11_right N a1 σ = some (r, τ)) (hQ : Q (some (.inl r)) τ) : WpD (e + 25) mX11_right [.inr (.inr (0, 0)), .inl a1] σ Q := by
  refine WpD.of (d := e + 24) (Nat.le_of_ble_eq_true rfl) (Nat.le_of_ble_eq_true rfl) ?_
  show Wp (WpD (e + 24)) hcX11_right Q (0, [some (.inr (.inr (0, 0))), some (.inl a1), none, none, none, none, none, none], []) σ
  unfold F_X11_right at h
  refine Wp.run (WpD.mono _) 1 (q := ((2, [some (.inr (.inr (0, 0))), some (.inl a1), none, none, none, none, none, none], [.inl a1, .inr (.inr (0, 0))]), σ)) rfl ?_
  obtain ⟨q1, hb, h⟩ := bind_some h
  refine Wp.call (WpD.mono _) rfl (T_X11_isPlace (e + 22) N a1 σ _ _ _ hb ?_)
  show Wp (WpD (e + 24)) hcX11_right Q (5, [some (.inr (.inr (0, 0))), some (.inl a1), none, none, none, none, none, none], [.inl q1.1]) q1.2
  refine Wp.br (WpD.mono _) 0 (c := q1.1 = 0) (q1 := ((8, [some (.inr (.inr (0, 0))), some (.inl a1), none, none, none, none, none, none], []), q1.2)) (q2 := ((11, [some (.inr (.inr (0, 0))), some (.inl a1), none, none, none, none, none, none], []), q1.2)) rfl (fun hc => ?_) (fun hc => ?_)
  · have h := (if_pos hc).symm.trans h
    refine Wp.run (WpD.mono _) 0 (q := ((10, [some (.inr (.inr (0, 0))), some (.inl a1), none, none, none, none, none, none], [.inl (-5 : Int32)]), q1.2)) rfl ?_
    cases h
    exact Wp.ret (WpD.mono _) rfl hQ
  · have h := (if_neg hc).symm.trans h
    refine Wp.run (WpD.mono _) 5 (q := ((18, [some (.inr (.inr (0, 0))), some (.inl a1), some (.inl (-1 : Int32)), some (.inr (.inl (0 : Int64))), none, some (.inl (0 : Int32)), none, none], []), q1.2)) rfl ?_
    exact Wp.jump (WpD.mono _) rfl ((T_X11_right_b18 e N  r τ Q hQ  N) a1 (-1 : Int32) (0 : Int64) (0 : Int32) q1.2 h)

set_option maxRecDepth 100000 in
set_option maxHeartbeats 4000000 in
theorem T_X6_chanceOf_t69_b53 (e N : Nat)  (k13 : Nat → Int32 → Int64 → Int32 → Mem → Option (Int64 × Mem)) (r : Int64) (τ : Mem) (Q : Pst) (hQ : Q (some (.inr (.inl r))) τ) (hk13 : ∀ (x2 : Nat) (x3 : Int32) (x4 : Int64) (x6 : Int32) (σ : Mem), k13 x2 x3 x4 x6 σ = some (r, τ) → Wp (WpD (e + 2)) hcX6_chanceOf Q (13, [some (.inr (.inr (8, 0))), none, some (.inr (.inr (69, x2))), some (.inl x3), some (.inr (.inl x4)), none, some (.inl x6), none, none], []) σ) : ∀ (x2 : Nat) (x3 : Int32) (x4 : Int64) (x6 : Int32) (s0 : Int64) (σ : Mem), F_X6_chanceOf_t69_b53 N k13 x2 x3 x4 x6 s0 σ = some (r, τ) → Wp (WpD (e + 2)) hcX6_chanceOf Q (53, [some (.inr (.inr (8, 0))), none, some (.inr (.inr (69, x2))), some (.inl x3), some (.inr (.inl x4)), none, some (.inl x6), none, none], [.inr (.inl s0)]) σ := by
  intro x2 x3 x4 x6 s0 σ h
  unfold F_X6_chanceOf_t69_b53 at h
  refine Wp.br (WpD.mono _) 4 (c := (lg_cmp s0 (0 : Int64)) = 0) (q1 := ((62, [some (.inr (.inr (8, 0))), none, some (.inr (.inr (69, x2))), some (.inl x3), some (.inr (.inl x4)), none, some (.inl x6), some (.inr (.inl s0)), none], []), σ)) (q2 := ((64, [some (.inr (.inr (8, 0))), none, some (.inr (.inr (69, x2))), some (.inl x3), some (.inr (.inl x4)), none, some (.inl x6), some (.inr (.inl s0)), none], []), σ)) rfl (fun hc => ?_) (fun hc => ?_)
  · have h := (if_pos hc).symm.trans h
    refine Wp.run (WpD.mono _) 0 (q := ((63, [some (.inr (.inr (8, 0))), none, some (.inr (.inr (69, x2))), some (.inl x3), some (.inr (.inl x4)), none, some (.inl x6), some (.inr (.inl s0)), none], [.inr (.inl (0 : Int64))]), σ)) rfl ?_
    cases h
    exact Wp.ret (WpD.mono _) rfl hQ
  · have h := (if_neg hc).symm.trans h
    refine Wp.run (WpD.mono _) 7 (q := ((13, [some (.inr (.inr (8, 0))), none, some (.inr (.inr (69, x2))), some (.inl x3), some (.inr (.inl ((x4 * s0) / (1000000 : Int64)))), none, some (.inl (x6 + (1 : Int32))), some (.inr (.inl s0)), none], []), σ)) rfl ?_
    exact Wp.jump (WpD.mono _) rfl (hk13 x2 x3 ((x4 * s0) / (1000000 : Int64)) (x6 + (1 : Int32)) σ h)

set_option maxRecDepth 100000 in
set_option maxHeartbeats 4000000 in
theorem T_X6_chanceOf_t69_b13 (e N : Nat)   (r : Int64) (τ : Mem) (Q : Pst) (hQ : Q (some (.inr (.inl r))) τ) : ∀ n, ∀ (x2 : Nat) (x3 : Int32) (x4 : Int64) (x6 : Int32) (σ : Mem), F_X6_chanceOf_t69_b13 N n x2 x3 x4 x6 σ = some (r, τ) → Wp (WpD (e + 2)) hcX6_chanceOf Q (13, [some (.inr (.inr (8, 0))), none, some (.inr (.inr (69, x2))), some (.inl x3), some (.inr (.inl x4)), none, some (.inl x6), none, none], []) σ := by
  intro n
  induction n with
  | zero => intro x2 x3 x4 x6 σ h; cases h
  | succ n ih =>
    intro x2 x3 x4 x6 σ h
    unfold F_X6_chanceOf_t69_b13 at h
    refine Wp.br (WpD.mono _) 2 (c := x3 ≤ x6) (q1 := ((81, [some (.inr (.inr (8, 0))), none, some (.inr (.inr (69, x2))), some (.inl x3), some (.inr (.inl x4)), none, some (.inl x6), none, none], []), σ)) (q2 := ((19, [some (.inr (.inr (8, 0))), none, some (.inr (.inr (69, x2))), some (.inl x3), some (.inr (.inl x4)), none, some (.inl x6), none, none], []), σ)) rfl (fun hc => ?_) (fun hc => ?_)
    · have h := (if_pos hc).symm.trans h
      refine Wp.run (WpD.mono _) 0 (q := ((83, [none, none, none, none, some (.inr (.inl x4)), none, none, none, none], [.inr (.inl x4)]), σ)) rfl ?_
      cases h
      exact Wp.ret (WpD.mono _) rfl hQ
    · have h := (if_neg hc).symm.trans h
      refine Wp.br (WpD.mono _) 2 (c := (5 : Int32) ≤ x6) (q1 := ((81, [some (.inr (.inr (8, 0))), none, some (.inr (.inr (69, x2))), some (.inl x3), some (.inr (.inl x4)), none, some (.inl x6), none, none], []), σ)) (q2 := ((25, [some (.inr (.inr (8, 0))), none, some (.inr (.inr (69, x2))), some (.inl x3), some (.inr (.inl x4)), none, some (.inl x6), none, none], []), σ)) rfl (fun hc => ?_) (fun hc => ?_)
      · have h := (if_pos hc).symm.trans h
        refine Wp.run (WpD.mono _) 0 (q := ((83, [none, none, none, none, some (.inr (.inl x4)), none, none, none, none], [.inr (.inl x4)]), σ)) rfl ?_
        cases h
        exact Wp.ret (WpD.mono _) rfl hQ
      · have h := (if_neg hc).symm.trans h
        obtain ⟨hc, h⟩ := ite_nn h
        refine Wp.no (WpD.mono _) 2 (c := hwOut x6 40) (q := ((29, [some (.inr (.inr (8, 0))), none, some (.inr (.inr (69, x2))), some (.inl x3), some (.inr (.inl x4)), none, some (.inl x6), none, none], [.inl (σ.2.2.1 69 x2 (x6).toNatClampNeg)]), σ)) rfl hc ?_
        refine Wp.run (WpD.mono _) 1 (q := ((31, [some (.inr (.inr (8, 0))), none, some (.inr (.inr (69, x2))), some (.inl x3), some (.inr (.inl x4)), none, some (.inl x6), none, none], [.inl (2 : Int32), .inl (0 : Int32), .inl (σ.2.2.1 69 x2 (x6).toNatClampNeg)]), σ)) rfl ?_
        obtain ⟨q2, hb, h⟩ := bind_some h
        refine Wp.call (WpD.mono _) rfl (T_X11_within (e + 1) N (σ.2.2.1 69 x2 (x6).toNatClampNeg) (0 : Int32) (2 : Int32) σ _ _ _ hb ?_)
        show Wp (WpD (e + 2)) hcX6_chanceOf Q (34, [some (.inr (.inr (8, 0))), none, some (.inr (.inr (69, x2))), some (.inl x3), some (.inr (.inl x4)), none, some (.inl x6), none, none], [.inl q2.1]) q2.2
        refine Wp.br (WpD.mono _) 0 (c := q2.1 = 0) (q1 := ((52, [some (.inr (.inr (8, 0))), none, some (.inr (.inr (69, x2))), some (.inl x3), some (.inr (.inl x4)), none, some (.inl x6), none, none], []), q2.2)) (q2 := ((37, [some (.inr (.inr (8, 0))), none, some (.inr (.inr (69, x2))), some (.inl x3), some (.inr (.inl x4)), none, some (.inl x6), none, none], []), q2.2)) rfl (fun hc => ?_) (fun hc => ?_)
        · have h := (if_pos hc).symm.trans h
          refine Wp.run (WpD.mono _) 0 (q := ((53, [some (.inr (.inr (8, 0))), none, some (.inr (.inr (69, x2))), some (.inl x3), some (.inr (.inl x4)), none, some (.inl x6), none, none], [.inr (.inl (0 : Int64))]), q2.2)) rfl ?_
          exact Wp.jump (WpD.mono _) rfl ((T_X6_chanceOf_t69_b53 e N (F_X6_chanceOf_t69_b13 N n) r τ Q hQ ih) x2 x3 x4 x6 (0 : Int64) q2.2 h)
        · have h := (if_neg hc).symm.trans h
          obtain ⟨hc, h⟩ := ite_nn h
          refine Wp.no (WpD.mono _) 6 (c := hwOut x6 40) (q := ((46, [some (.inr (.inr (8, 0))), none, some (.inr (.inr (69, x2))), some (.inl x3), some (.inr (.inl x4)), none, some (.inl x6), none, none], [.inl (q2.2.2.2.1 69 x2 (x6).toNatClampNeg), .inl (x6 + (1 : Int32)), .inr (.inr (8, 0))]), q2.2)) rfl hc ?_
          obtain ⟨q3, hb, h⟩ := bind_some h
          refine Wp.call (WpD.mono _) rfl (T_X6_pass (e + 0) N (x6 + (1 : Int32)) (q2.2.2.2.1 69 x2 (x6).toNatClampNeg) q2.2 _ _ _ hb ?_)
          show Wp (WpD (e + 2)) hcX6_chanceOf Q (49, [some (.inr (.inr (8, 0))), none, some (.inr (.inr (69, x2))), some (.inl x3), some (.inr (.inl x4)), none, some (.inl x6), none, none], [.inr (.inl q3.1)]) q3.2
          refine Wp.run (WpD.mono _) 0 (q := ((53, [some (.inr (.inr (8, 0))), none, some (.inr (.inr (69, x2))), some (.inl x3), some (.inr (.inl x4)), none, some (.inl x6), none, none], [.inr (.inl q3.1)]), q3.2)) rfl ?_
          exact Wp.jump (WpD.mono _) rfl ((T_X6_chanceOf_t69_b53 e N (F_X6_chanceOf_t69_b13 N n) r τ Q hQ ih) x2 x3 x4 x6 q3.1 q3.2 h)

set_option maxRecDepth 100000 in
set_option maxHeartbeats 4000000 in
theorem T_X6_chanceOf_t69 (e N : Nat)  (a1 : Int32) (a2 : Nat) (a3 : Int32) (σ : Mem) (r : Int64) (τ : Mem) (Q : Pst) (h : F_X6_chanceOf_t69 N a1 a2 a3 σ = some (r, τ)) (hQ : Q (some (.inr (.inl r))) τ) : WpD (e + 3) mX6_chanceOf [.inr (.inr (8, 0)), .inl a1, .inr (.inr (69, a2)), .inl a3] σ Q := by
  refine WpD.of (d := e + 2) (Nat.le_of_ble_eq_true rfl) (Nat.le_of_ble_eq_true rfl) ?_
  show Wp (WpD (e + 2)) hcX6_chanceOf Q (0, [some (.inr (.inr (8, 0))), some (.inl a1), some (.inr (.inr (69, a2))), some (.inl a3), none, none, none, none, none], []) σ
  unfold F_X6_chanceOf_t69 at h
  refine Wp.run (WpD.mono _) 1 (q := ((2, [some (.inr (.inr (8, 0))), some (.inl a1), some (.inr (.inr (69, a2))), some (.inl a3), none, none, none, none, none], [.inl a1, .inr (.inr (8, 0))]), σ)) rfl ?_
  obtain ⟨q1, hb, h⟩ := bind_some h
  refine Wp.call (WpD.mono _) rfl (T_X6_begin (e + 0) N a1 σ _ _ _ hb ?_)
  show Wp (WpD (e + 2)) hcX6_chanceOf Q (5, [some (.inr (.inr (8, 0))), some (.inl a1), some (.inr (.inr (69, a2))), some (.inl a3), none, none, none, none, none], []) q1.2
  refine Wp.run (WpD.mono _) 3 (q := ((13, [some (.inr (.inr (8, 0))), some (.inl a1), some (.inr (.inr (69, a2))), some (.inl a3), some (.inr (.inl (1000000 : Int64))), none, some (.inl (0 : Int32)), none, none], []), q1.2)) rfl ?_
  exact Wp.jump (WpD.mono _) rfl ((T_X6_chanceOf_t69_b13 e N  r τ Q hQ  N) a2 a3 (1000000 : Int64) (0 : Int32) q1.2 h)

set_option maxRecDepth 100000 in
set_option maxHeartbeats 4000000 in
theorem T_X11_row (e N : Nat)  (a1 : Int32) (a2 : Int32) (σ : Mem) (r : Int64) (τ : Mem) (Q : Pst) (h : F_X11_row N a1 a2 σ = some (r, τ)) (hQ : Q (some (.inr (.inl r))) τ) : WpD (e + 4) mX11_row [.inr (.inr (0, 0)), .inl a1, .inl a2] σ Q := by
  refine WpD.of (d := e + 3) (Nat.le_of_ble_eq_true rfl) (Nat.le_of_ble_eq_true rfl) ?_
  show Wp (WpD (e + 3)) hcX11_row Q (0, [some (.inr (.inr (0, 0))), some (.inl a1), some (.inl a2)], []) σ
  unfold F_X11_row at h
  refine Wp.run (WpD.mono _) 1 (q := ((2, [some (.inr (.inr (0, 0))), some (.inl a1), some (.inl a2)], [.inl a1, .inr (.inr (0, 0))]), σ)) rfl ?_
  obtain ⟨q1, hb, h⟩ := bind_some h
  refine Wp.call (WpD.mono _) rfl (T_X11_isPlace (e + 1) N a1 σ _ _ _ hb ?_)
  show Wp (WpD (e + 3)) hcX11_row Q (5, [some (.inr (.inr (0, 0))), some (.inl a1), some (.inl a2)], [.inl q1.1]) q1.2
  refine Wp.br (WpD.mono _) 0 (c := q1.1 = 0) (q1 := ((26, [some (.inr (.inr (0, 0))), some (.inl a1), some (.inl a2)], []), q1.2)) (q2 := ((8, [some (.inr (.inr (0, 0))), some (.inl a1), some (.inl a2)], []), q1.2)) rfl (fun hc => ?_) (fun hc => ?_)
  · have h := (if_pos hc).symm.trans h
    refine Wp.run (WpD.mono _) 0 (q := ((29, [none, none, none], [.inr (.inl (-4611686018427387904 : Int64))]), q1.2)) rfl ?_
    cases h
    exact Wp.ret (WpD.mono _) rfl hQ
  · have h := (if_neg hc).symm.trans h
    refine Wp.run (WpD.mono _) 0 (q := ((9, [some (.inr (.inr (0, 0))), some (.inl a1), some (.inl a2)], [.inl a2]), q1.2)) rfl ?_
    obtain ⟨q2, hb, h⟩ := bind_some h
    refine Wp.call (WpD.mono _) rfl (T_X11_isSheet (e + 1) N a2 q1.2 _ _ _ hb ?_)
    show Wp (WpD (e + 3)) hcX11_row Q (12, [some (.inr (.inr (0, 0))), some (.inl a1), some (.inl a2)], [.inl q2.1]) q2.2
    refine Wp.br (WpD.mono _) 0 (c := q2.1 = 0) (q1 := ((26, [some (.inr (.inr (0, 0))), some (.inl a1), some (.inl a2)], []), q2.2)) (q2 := ((15, [some (.inr (.inr (0, 0))), some (.inl a1), some (.inl a2)], []), q2.2)) rfl (fun hc => ?_) (fun hc => ?_)
    · have h := (if_pos hc).symm.trans h
      refine Wp.run (WpD.mono _) 0 (q := ((29, [none, none, none], [.inr (.inl (-4611686018427387904 : Int64))]), q2.2)) rfl ?_
      cases h
      exact Wp.ret (WpD.mono _) rfl hQ
    · have h := (if_neg hc).symm.trans h
      refine Wp.run (WpD.mono _) 2 (q := ((20, [some (.inr (.inr (0, 0))), some (.inl a1), some (.inl a2)], [.inl a2, .inr (.inr (5, 0))]), q2.2)) rfl ?_
      obtain ⟨q3, hb, h⟩ := bind_some h
      refine Wp.call (WpD.mono _) rfl (T_X10_isMissing (e + 2) N a2 q2.2 _ _ _ hb ?_)
      show Wp (WpD (e + 3)) hcX11_row Q (23, [some (.inr (.inr (0, 0))), some (.inl a1), some (.inl a2)], [.inl q3.1]) q3.2
      refine Wp.br (WpD.mono _) 0 (c := q3.1 = 0) (q1 := ((30, [some (.inr (.inr (0, 0))), some (.inl a1), some (.inl a2)], []), q3.2)) (q2 := ((26, [some (.inr (.inr (0, 0))), some (.inl a1), some (.inl a2)], []), q3.2)) rfl (fun hc => ?_) (fun hc => ?_)
      · have h := (if_pos hc).symm.trans h
        obtain ⟨hc, h⟩ := ite_nn h
        refine Wp.no (WpD.mono _) 4 (c := hwOut a2 4) (q := ((39, [some (.inr (.inr (0, 0))), some (.inl a1), some (.inl a2)], [.inl (q3.2.2.2.1 71 0 (a2).toNatClampNeg)]), q3.2)) rfl hc ?_
        refine Wp.run (WpD.mono _) 1 (q := ((43, [some (.inr (.inr (0, 0))), some (.inl a1), some (.inl a2)], [.inr (.inr (1, 0)), .inl (q3.2.2.2.1 71 0 (a2).toNatClampNeg)]), q3.2)) rfl ?_
        obtain ⟨q4, hb, h⟩ := bind_some h
        refine Wp.call (WpD.mono _) rfl (T_X2_deepest (e + 2) N q3.2 _ _ _ hb ?_)
        show Wp (WpD (e + 3)) hcX11_row Q (46, [some (.inr (.inr (0, 0))), some (.inl a1), some (.inl a2)], [.inl q4.1, .inl (q3.2.2.2.1 71 0 (a2).toNatClampNeg)]) q4.2
        refine Wp.br (WpD.mono _) 0 (c := (q3.2.2.2.1 71 0 (a2).toNatClampNeg) ≤ q4.1) (q1 := ((53, [some (.inr (.inr (0, 0))), some (.inl a1), some (.inl a2)], []), q4.2)) (q2 := ((49, [some (.inr (.inr (0, 0))), some (.inl a1), some (.inl a2)], []), q4.2)) rfl (fun hc => ?_) (fun hc => ?_)
        · have h := (if_pos hc).symm.trans h
          obtain ⟨hc, h⟩ := ite_nn h
          refine Wp.no (WpD.mono _) 7 (c := hwOut a2 4) (q := ((67, [some (.inr (.inr (0, 0))), some (.inl a1), some (.inl a2)], [.inr (.inr (69, (a2).toNatClampNeg)), .inl a1, .inr (.inr (8, 0))]), q4.2)) rfl hc ?_
          obtain ⟨hc, h⟩ := ite_nn h
          refine Wp.no (WpD.mono _) 4 (c := hwOut a2 4) (q := ((76, [some (.inr (.inr (0, 0))), some (.inl a1), some (.inl a2)], [.inl (q4.2.2.2.1 71 0 (a2).toNatClampNeg), .inr (.inr (69, (a2).toNatClampNeg)), .inl a1, .inr (.inr (8, 0))]), q4.2)) rfl hc ?_
          obtain ⟨q5, hb, h⟩ := bind_some h
          refine Wp.call (WpD.mono _) rfl (T_X6_chanceOf_t69 (e + 0) N a1 (a2).toNatClampNeg (q4.2.2.2.1 71 0 (a2).toNatClampNeg) q4.2 _ _ _ hb ?_)
          show Wp (WpD (e + 3)) hcX11_row Q (79, [some (.inr (.inr (0, 0))), some (.inl a1), some (.inl a2)], [.inr (.inl q5.1)]) q5.2
          cases h
          exact Wp.ret (WpD.mono _) rfl hQ
        · have h := (if_neg hc).symm.trans h
          refine Wp.run (WpD.mono _) 0 (q := ((52, [some (.inr (.inr (0, 0))), some (.inl a1), some (.inl a2)], [.inr (.inl (-4611686018427387904 : Int64))]), q4.2)) rfl ?_
          cases h
          exact Wp.ret (WpD.mono _) rfl hQ
      · have h := (if_neg hc).symm.trans h
        refine Wp.run (WpD.mono _) 0 (q := ((29, [none, none, none], [.inr (.inl (-4611686018427387904 : Int64))]), q3.2)) rfl ?_
        cases h
        exact Wp.ret (WpD.mono _) rfl hQ


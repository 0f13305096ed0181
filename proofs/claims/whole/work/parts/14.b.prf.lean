set_option maxRecDepth 100000 in
set_option maxHeartbeats 4000000 in
theorem T_X6_heeded (e N : Nat)  (a1 : Int64) (a2 : Int64) (a3 : Int64) (a4 : Int64) (a5 : Int32) (σ : Mem) (r : Int64) (τ : Mem) (Q : Pst) (h : F_X6_heeded N a1 a2 a3 a4 a5 σ = some (r, τ)) (hQ : Q (some (.inr (.inl r))) τ) : WpD (e + 1) mX6_heeded [.inr (.inl a1), .inr (.inl a2), .inr (.inl a3), .inr (.inl a4), .inl a5] σ Q := by
  refine WpD.of (d := e + 0) (Nat.le_of_ble_eq_true rfl) (Nat.le_of_ble_eq_true rfl) ?_
  show Wp (WpD (e + 0)) hcX6_heeded Q (0, [some (.inr (.inl a1)), none, some (.inr (.inl a2)), none, some (.inr (.inl a3)), none, some (.inr (.inl a4)), none, some (.inl a5), none, none, none], []) σ
  unfold F_X6_heeded at h
  refine Wp.run (WpD.mono _) 36 (q := ((59, [some (.inr (.inl a1)), none, some (.inr (.inl a2)), none, some (.inr (.inl a3)), none, some (.inr (.inl a4)), none, some (.inl a5), some (.inl ((100 : Int32) - a5)), some (.inr (.inl ((a4 * a5.toInt64) + (((1000000 : Int64) - a4) * ((100 : Int32) - a5).toInt64)))), none], [.inr (.inl ((((a1 * a5.toInt64) / (100 : Int64)) + ((a2 * ((100 : Int32) - a5).toInt64) / (100 : Int64))) - (((a3 * ((a4 * a5.toInt64) + (((1000000 : Int64) - a4) * ((100 : Int32) - a5).toInt64))) / (100 : Int64)) / (1000000 : Int64))))]), σ)) rfl ?_
  obtain ⟨rfl, rfl⟩ := ret_inj h
  exact Wp.ret (WpD.mono _) rfl hQ

set_option maxRecDepth 100000 in
set_option maxHeartbeats 4000000 in
theorem T_X6_spoken (e N : Nat)  (a1 : Int64) (a2 : Int64) (a3 : Int64) (a4 : Int64) (a5 : Int32) (σ : Mem) (r : Int64) (τ : Mem) (Q : Pst) (h : F_X6_spoken N a1 a2 a3 a4 a5 σ = some (r, τ)) (hQ : Q (some (.inr (.inl r))) τ) : WpD (e + 2) mX6_spoken [.inr (.inl a1), .inr (.inl a2), .inr (.inl a3), .inr (.inl a4), .inl a5] σ Q := by
  refine WpD.of (d := e + 1) (Nat.le_of_ble_eq_true rfl) (Nat.le_of_ble_eq_true rfl) ?_
  show Wp (WpD (e + 1)) hcX6_spoken Q (0, [some (.inr (.inl a1)), none, some (.inr (.inl a2)), none, some (.inr (.inl a3)), none, some (.inr (.inl a4)), none, some (.inl a5), none, none, none, none, none, none], []) σ
  unfold F_X6_spoken at h
  refine Wp.run (WpD.mono _) 10 (q := ((17, [some (.inr (.inl a1)), none, some (.inr (.inl a2)), none, some (.inr (.inl a3)), none, some (.inr (.inl a4)), none, some (.inl a5), some (.inr (.inl ((a1 - a2) + a3))), none, none, none, none, none], [.inl a5, .inr (.inl a4), .inr (.inl a3), .inr (.inl ((a1 - a2) + a3)), .inr (.inl a2)]), σ)) rfl ?_
  obtain ⟨q1, hb, h⟩ := bind_some h
  refine Wp.call (WpD.mono _) rfl (T_X6_heeded (e + 0) N a2 ((a1 - a2) + a3) a3 a4 a5 σ _ _ _ hb ?_)
  show Wp (WpD (e + 1)) hcX6_spoken Q (20, [some (.inr (.inl a1)), none, some (.inr (.inl a2)), none, some (.inr (.inl a3)), none, some (.inr (.inl a4)), none, some (.inl a5), some (.inr (.inl ((a1 - a2) + a3))), none, none, none, none, none], [.inr (.inl q1.1)]) q1.2
  refine Wp.run (WpD.mono _) 7 (q := ((34, [some (.inr (.inl a1)), none, some (.inr (.inl a2)), none, some (.inr (.inl a3)), none, some (.inr (.inl a4)), none, some (.inl a5), some (.inr (.inl ((a1 - a2) + a3))), none, some (.inr (.inl q1.1)), none, none, none], [.inl ((100 : Int32) - a5), .inr (.inl a4), .inr (.inl a3), .inr (.inl ((a1 - a2) + a3)), .inr (.inl a2)]), q1.2)) rfl ?_
  obtain ⟨q2, hb, h⟩ := bind_some h
  refine Wp.call (WpD.mono _) rfl (T_X6_heeded (e + 0) N a2 ((a1 - a2) + a3) a3 a4 ((100 : Int32) - a5) q1.2 _ _ _ hb ?_)
  show Wp (WpD (e + 1)) hcX6_spoken Q (37, [some (.inr (.inl a1)), none, some (.inr (.inl a2)), none, some (.inr (.inl a3)), none, some (.inr (.inl a4)), none, some (.inl a5), some (.inr (.inl ((a1 - a2) + a3))), none, some (.inr (.inl q1.1)), none, none, none], [.inr (.inl q2.1)]) q2.2
  refine Wp.run (WpD.mono _) 11 (q := ((58, [some (.inr (.inl a1)), none, some (.inr (.inl a2)), none, some (.inr (.inl a3)), none, some (.inr (.inl a4)), none, some (.inl a5), some (.inr (.inl ((a1 - a2) + a3))), none, some (.inr (.inl q1.1)), none, some (.inr (.inl q2.1)), none], [.inr (.inl (((if q1.1 < (0 : Int64) then (0 : Int64) else q1.1) + (if q2.1 < (0 : Int64) then (0 : Int64) else q2.1)) - (if a1 < (0 : Int64) then (0 : Int64) else a1)))]), q2.2)) rfl ?_
  obtain ⟨rfl, rfl⟩ := ret_inj h
  exact Wp.ret (WpD.mono _) rfl hQ

set_option maxRecDepth 100000 in
set_option maxHeartbeats 4000000 in
theorem T_X6_leastRight_b32 (e N : Nat)   (r : Int32) (τ : Mem) (Q : Pst) (hQ : Q (some (.inl r)) τ) : ∀ n, ∀ (x1 : Int32) (x2 : Int64) (x4 : Int64) (x6 : Int32) (σ : Mem), F_X6_leastRight_b32 N n x1 x2 x4 x6 σ = some (r, τ) → Wp (WpD (e + 12)) hcX6_leastRight Q (32, [some (.inr (.inr (8, 0))), some (.inl x1), some (.inr (.inl x2)), none, some (.inr (.inl x4)), none, some (.inl x6)], []) σ := by
  intro n
  induction n with
  | zero => intro x1 x2 x4 x6 σ h; cases h
  | succ n ih =>
    intro x1 x2 x4 x6 σ h
    unfold F_X6_leastRight_b32 at h
    refine Wp.run (WpD.mono _) 1 (q := ((36, [some (.inr (.inr (8, 0))), some (.inl x1), some (.inr (.inl x2)), none, some (.inr (.inl x4)), none, some (.inl x6)], [.inl (100 : Int32), .inl x6]), σ)) rfl ?_
    refine Wp.if2_gt (WpD.mono _) rfl rfl (fun hc => ?_) (fun hc => ?_)
    · have h := (if_pos hc).symm.trans h
      show Wp (WpD (e + 12)) hcX6_leastRight Q (80, [some (.inr (.inr (8, 0))), some (.inl x1), some (.inr (.inl x2)), none, some (.inr (.inl x4)), none, some (.inl x6)], []) σ
      refine Wp.run (WpD.mono _) 0 (q := ((81, [some (.inr (.inr (8, 0))), some (.inl x1), some (.inr (.inl x2)), none, some (.inr (.inl x4)), none, some (.inl x6)], [.inl (Int32.ofInt (-1))]), σ)) rfl ?_
      obtain ⟨rfl, rfl⟩ := ret_inj h
      exact Wp.ret (WpD.mono _) rfl hQ
    · have h := (if_neg hc).symm.trans h
      show Wp (WpD (e + 12)) hcX6_leastRight Q (39, [some (.inr (.inr (8, 0))), some (.inl x1), some (.inr (.inl x2)), none, some (.inr (.inl x4)), none, some (.inl x6)], []) σ
      refine Wp.run (WpD.mono _) 6 (q := ((53, [some (.inr (.inr (8, 0))), some (.inl x1), some (.inr (.inl x2)), none, some (.inr (.inl x4)), none, some (.inl x6)], [.inl x1, .inr (.inr (42, 0)), .inr (.inl (1000000 : Int64)), .inr (.inl x4), .inr (.inl x2)]), σ)) rfl ?_
      obtain ⟨hc, h⟩ := ite_nn h
      refine Wp.X_ild1 (WpD.mono _) rfl rfl hc ?_
      show Wp (WpD (e + 12)) hcX6_leastRight Q (54, [some (.inr (.inr (8, 0))), some (.inl x1), some (.inr (.inl x2)), none, some (.inr (.inl x4)), none, some (.inl x6)], [.inl (σ.2.2.1 42 0 (x1).toNatClampNeg), .inr (.inl (1000000 : Int64)), .inr (.inl x4), .inr (.inl x2)]) σ
      refine Wp.run (WpD.mono _) 3 (q := ((58, [some (.inr (.inr (8, 0))), some (.inl x1), some (.inr (.inl x2)), none, some (.inr (.inl x4)), none, some (.inl x6)], [.inl x1, .inr (.inr (8, 0)), .inr (.inl ((1000000 : Int64) * (σ.2.2.1 42 0 (x1).toNatClampNeg).toInt64)), .inr (.inl x4), .inr (.inl x2)]), σ)) rfl ?_
      obtain ⟨q5, hb, h⟩ := bind_some h
      refine Wp.call (WpD.mono _) rfl (T_X6_wet (e + 10) N x1 σ _ _ _ hb ?_)
      show Wp (WpD (e + 12)) hcX6_leastRight Q (61, [some (.inr (.inr (8, 0))), some (.inl x1), some (.inr (.inl x2)), none, some (.inr (.inl x4)), none, some (.inl x6)], [.inr (.inl q5.1), .inr (.inl ((1000000 : Int64) * (σ.2.2.1 42 0 (x1).toNatClampNeg).toInt64)), .inr (.inl x4), .inr (.inl x2)]) q5.2
      refine Wp.run (WpD.mono _) 0 (q := ((63, [some (.inr (.inr (8, 0))), some (.inl x1), some (.inr (.inl x2)), none, some (.inr (.inl x4)), none, some (.inl x6)], [.inl x6, .inr (.inl q5.1), .inr (.inl ((1000000 : Int64) * (σ.2.2.1 42 0 (x1).toNatClampNeg).toInt64)), .inr (.inl x4), .inr (.inl x2)]), q5.2)) rfl ?_
      obtain ⟨q6, hb, h⟩ := bind_some h
      refine Wp.call (WpD.mono _) rfl (T_X6_spoken (e + 10) N x2 x4 ((1000000 : Int64) * (σ.2.2.1 42 0 (x1).toNatClampNeg).toInt64) q5.1 x6 q5.2 _ _ _ hb ?_)
      show Wp (WpD (e + 12)) hcX6_leastRight Q (66, [some (.inr (.inr (8, 0))), some (.inl x1), some (.inr (.inl x2)), none, some (.inr (.inl x4)), none, some (.inl x6)], [.inr (.inl q6.1)]) q6.2
      refine Wp.run (WpD.mono _) 1 (q := ((68, [some (.inr (.inr (8, 0))), some (.inl x1), some (.inr (.inl x2)), none, some (.inr (.inl x4)), none, some (.inl x6)], [.inl (lg_cmp q6.1 (0 : Int64))]), q6.2)) rfl ?_
      refine Wp.if0_le (WpD.mono _) rfl rfl (fun hc => ?_) (fun hc => ?_)
      · have h := (if_pos hc).symm.trans h
        show Wp (WpD (e + 12)) hcX6_leastRight Q (74, [some (.inr (.inr (8, 0))), some (.inl x1), some (.inr (.inl x2)), none, some (.inr (.inl x4)), none, some (.inl x6)], []) q6.2
        refine Wp.run (WpD.mono _) 1 (q := ((32, [some (.inr (.inr (8, 0))), some (.inl x1), some (.inr (.inl x2)), none, some (.inr (.inl x4)), none, some (.inl (x6 + (1 : Int32)))], []), q6.2)) rfl ?_
        exact Wp.jump (WpD.mono _) rfl (ih x1 x2 x4 (x6 + (1 : Int32)) q6.2 h)
      · have h := (if_neg hc).symm.trans h
        show Wp (WpD (e + 12)) hcX6_leastRight Q (71, [some (.inr (.inr (8, 0))), some (.inl x1), some (.inr (.inl x2)), none, some (.inr (.inl x4)), none, some (.inl x6)], []) q6.2
        refine Wp.run (WpD.mono _) 0 (q := ((73, [some (.inr (.inr (8, 0))), some (.inl x1), some (.inr (.inl x2)), none, some (.inr (.inl x4)), none, some (.inl x6)], [.inl x6]), q6.2)) rfl ?_
        obtain ⟨rfl, rfl⟩ := ret_inj h
        exact Wp.ret (WpD.mono _) rfl hQ

set_option maxRecDepth 100000 in
set_option maxHeartbeats 4000000 in
theorem T_X6_leastRight (e N : Nat)  (a1 : Int32) (σ : Mem) (r : Int32) (τ : Mem) (Q : Pst) (h : F_X6_leastRight N a1 σ = some (r, τ)) (hQ : Q (some (.inl r)) τ) : WpD (e + 13) mX6_leastRight [.inr (.inr (8, 0)), .inl a1] σ Q := by
  refine WpD.of (d := e + 12) (Nat.le_of_ble_eq_true rfl) (Nat.le_of_ble_eq_true rfl) ?_
  show Wp (WpD (e + 12)) hcX6_leastRight Q (0, [some (.inr (.inr (8, 0))), some (.inl a1), none, none, none, none, none], []) σ
  unfold F_X6_leastRight at h
  refine Wp.run (WpD.mono _) 3 (q := ((6, [some (.inr (.inr (8, 0))), some (.inl a1), none, none, none, none, none], [.inr (.inr (1, 0)), .inl a1, .inr (.inr (8, 0))]), σ)) rfl ?_
  obtain ⟨q1, hb, h⟩ := bind_some h
  refine Wp.call (WpD.mono _) rfl (T_X2_worth (e + 11) N σ _ _ _ hb ?_)
  show Wp (WpD (e + 12)) hcX6_leastRight Q (9, [some (.inr (.inr (8, 0))), some (.inl a1), none, none, none, none, none], [.inl q1.1, .inl a1, .inr (.inr (8, 0))]) q1.2
  obtain ⟨q2, hb, h⟩ := bind_some h
  refine Wp.call (WpD.mono _) rfl (T_X6_goingOn (e + 0) N a1 q1.1 q1.2 _ _ _ hb ?_)
  show Wp (WpD (e + 12)) hcX6_leastRight Q (12, [some (.inr (.inr (8, 0))), some (.inl a1), none, none, none, none, none], [.inr (.inl q2.1)]) q2.2
  refine Wp.run (WpD.mono _) 4 (q := ((19, [some (.inr (.inr (8, 0))), some (.inl a1), some (.inr (.inl q2.1)), none, none, none, none], [.inr (.inr (1, 0)), .inl a1, .inr (.inr (8, 0))]), q2.2)) rfl ?_
  obtain ⟨q3, hb, h⟩ := bind_some h
  refine Wp.call (WpD.mono _) rfl (T_X2_worth (e + 11) N q2.2 _ _ _ hb ?_)
  show Wp (WpD (e + 12)) hcX6_leastRight Q (22, [some (.inr (.inr (8, 0))), some (.inl a1), some (.inr (.inl q2.1)), none, none, none, none], [.inl q3.1, .inl a1, .inr (.inr (8, 0))]) q3.2
  refine Wp.run (WpD.mono _) 0 (q := ((23, [some (.inr (.inr (8, 0))), some (.inl a1), some (.inr (.inl q2.1)), none, none, none, none], [.inl (0 : Int32), .inl q3.1, .inl a1, .inr (.inr (8, 0))]), q3.2)) rfl ?_
  obtain ⟨q4, hb, h⟩ := bind_some h
  refine Wp.call (WpD.mono _) rfl (T_X6_gain (e + 10) N a1 q3.1 (0 : Int32) q3.2 _ _ _ hb ?_)
  show Wp (WpD (e + 12)) hcX6_leastRight Q (26, [some (.inr (.inr (8, 0))), some (.inl a1), some (.inr (.inl q2.1)), none, none, none, none], [.inr (.inl q4.1)]) q4.2
  refine Wp.run (WpD.mono _) 2 (q := ((32, [some (.inr (.inr (8, 0))), some (.inl a1), some (.inr (.inl q2.1)), none, some (.inr (.inl q4.1)), none, some (.inl (50 : Int32))], []), q4.2)) rfl ?_
  exact Wp.jump (WpD.mono _) rfl ((T_X6_leastRight_b32 e N  r τ Q hQ  N) a1 q2.1 q4.1 (50 : Int32) q4.2 h)

set_option maxRecDepth 100000 in
set_option maxHeartbeats 4000000 in
theorem T_X11_believe (e N : Nat)  (a1 : Int32) (σ : Mem) (r : Int32) (τ : Mem) (Q : Pst) (h : F_X11_believe N a1 σ = some (r, τ)) (hQ : Q (some (.inl r)) τ) : WpD (e + 14) mX11_believe [.inr (.inr (0, 0)), .inl a1] σ Q := by
  refine WpD.of (d := e + 13) (Nat.le_of_ble_eq_true rfl) (Nat.le_of_ble_eq_true rfl) ?_
  show Wp (WpD (e + 13)) hcX11_believe Q (0, [some (.inr (.inr (0, 0))), some (.inl a1), none], []) σ
  unfold F_X11_believe at h
  refine Wp.run (WpD.mono _) 1 (q := ((2, [some (.inr (.inr (0, 0))), some (.inl a1), none], [.inl a1, .inr (.inr (0, 0))]), σ)) rfl ?_
  obtain ⟨q1, hb, h⟩ := bind_some h
  refine Wp.call (WpD.mono _) rfl (T_X11_isPlace (e + 11) N a1 σ _ _ _ hb ?_)
  show Wp (WpD (e + 13)) hcX11_believe Q (5, [some (.inr (.inr (0, 0))), some (.inl a1), none], [.inl q1.1]) q1.2
  refine Wp.if0_ne (WpD.mono _) rfl rfl (fun hc => ?_) (fun hc => ?_)
  · have h := (if_pos hc).symm.trans h
    show Wp (WpD (e + 13)) hcX11_believe Q (8, [some (.inr (.inr (0, 0))), some (.inl a1), none], []) q1.2
    refine Wp.run (WpD.mono _) 0 (q := ((10, [some (.inr (.inr (0, 0))), some (.inl a1), none], [.inl (Int32.ofInt (-5))]), q1.2)) rfl ?_
    obtain ⟨rfl, rfl⟩ := ret_inj h
    exact Wp.ret (WpD.mono _) rfl hQ
  · have h := (if_neg hc).symm.trans h
    show Wp (WpD (e + 13)) hcX11_believe Q (11, [some (.inr (.inr (0, 0))), some (.inl a1), none], []) q1.2
    refine Wp.run (WpD.mono _) 2 (q := ((16, [some (.inr (.inr (0, 0))), some (.inl a1), none], [.inl a1, .inr (.inr (8, 0))]), q1.2)) rfl ?_
    obtain ⟨q2, hb, h⟩ := bind_some h
    refine Wp.call (WpD.mono _) rfl (T_X6_openYard (e + 9) N a1 q1.2 _ _ _ hb ?_)
    show Wp (WpD (e + 13)) hcX11_believe Q (19, [some (.inr (.inr (0, 0))), some (.inl a1), none], [.inl q2.1]) q2.2
    refine Wp.run (WpD.mono _) 1 (q := ((21, [some (.inr (.inr (0, 0))), some (.inl a1), some (.inl q2.1)], [.inl q2.1]), q2.2)) rfl ?_
    refine Wp.if0_ne (WpD.mono _) rfl rfl (fun hc => ?_) (fun hc => ?_)
    · have h := (if_pos hc).symm.trans h
      show Wp (WpD (e + 13)) hcX11_believe Q (24, [some (.inr (.inr (0, 0))), some (.inl a1), some (.inl q2.1)], []) q2.2
      refine Wp.run (WpD.mono _) 0 (q := ((26, [some (.inr (.inr (0, 0))), some (.inl a1), some (.inl q2.1)], [.inl (Int32.ofInt (-3))]), q2.2)) rfl ?_
      obtain ⟨rfl, rfl⟩ := ret_inj h
      exact Wp.ret (WpD.mono _) rfl hQ
    · have h := (if_neg hc).symm.trans h
      show Wp (WpD (e + 13)) hcX11_believe Q (27, [some (.inr (.inr (0, 0))), some (.inl a1), some (.inl q2.1)], []) q2.2
      refine Wp.run (WpD.mono _) 2 (q := ((32, [some (.inr (.inr (0, 0))), some (.inl a1), some (.inl q2.1)], [.inr (.inr (1, 0)), .inl q2.1]), q2.2)) rfl ?_
      obtain ⟨q3, hb, h⟩ := bind_some h
      refine Wp.call (WpD.mono _) rfl (T_X2_deepest (e + 12) N q2.2 _ _ _ hb ?_)
      show Wp (WpD (e + 13)) hcX11_believe Q (35, [some (.inr (.inr (0, 0))), some (.inl a1), some (.inl q2.1)], [.inl q3.1, .inl q2.1]) q3.2
      refine Wp.if2_le (WpD.mono _) rfl rfl (fun hc => ?_) (fun hc => ?_)
      · have h := (if_pos hc).symm.trans h
        show Wp (WpD (e + 13)) hcX11_believe Q (40, [some (.inr (.inr (0, 0))), some (.inl a1), some (.inl q2.1)], []) q3.2
        refine Wp.run (WpD.mono _) 2 (q := ((45, [some (.inr (.inr (0, 0))), some (.inl a1), some (.inl q2.1)], [.inl q2.1, .inr (.inr (8, 0))]), q3.2)) rfl ?_
        obtain ⟨q4, hb, h⟩ := bind_some h
        refine Wp.call (WpD.mono _) rfl (T_X6_leastRight (e + 0) N q2.1 q3.2 _ _ _ hb ?_)
        show Wp (WpD (e + 13)) hcX11_believe Q (48, [some (.inr (.inr (0, 0))), some (.inl a1), some (.inl q2.1)], [.inl q4.1]) q4.2
        obtain ⟨rfl, rfl⟩ := ret_inj h
        exact Wp.ret (WpD.mono _) rfl hQ
      · have h := (if_neg hc).symm.trans h
        show Wp (WpD (e + 13)) hcX11_believe Q (38, [some (.inr (.inr (0, 0))), some (.inl a1), some (.inl q2.1)], []) q3.2
        refine Wp.run (WpD.mono _) 0 (q := ((39, [some (.inr (.inr (0, 0))), some (.inl a1), some (.inl q2.1)], [.inl (Int32.ofInt (-1))]), q3.2)) rfl ?_
        obtain ⟨rfl, rfl⟩ := ret_inj h
        exact Wp.ret (WpD.mono _) rfl hQ

set_option maxRecDepth 100000 in
set_option maxHeartbeats 4000000 in
theorem T_X6_worthOf (e N : Nat)  (a1 : Int32) (σ : Mem) (r : Int64) (τ : Mem) (Q : Pst) (h : F_X6_worthOf N a1 σ = some (r, τ)) (hQ : Q (some (.inr (.inl r))) τ) : WpD (e + 13) mX6_worthOf [.inr (.inr (8, 0)), .inl a1] σ Q := by
  refine WpD.of (d := e + 12) (Nat.le_of_ble_eq_true rfl) (Nat.le_of_ble_eq_true rfl) ?_
  show Wp (WpD (e + 12)) hcX6_worthOf Q (0, [some (.inr (.inr (8, 0))), some (.inl a1)], []) σ
  unfold F_X6_worthOf at h
  refine Wp.run (WpD.mono _) 4 (q := ((7, [some (.inr (.inr (8, 0))), some (.inl a1)], [.inr (.inr (1, 0)), .inl a1, .inr (.inr (8, 0)), .inr (.inl (0 : Int64))]), σ)) rfl ?_
  obtain ⟨q1, hb, h⟩ := bind_some h
  refine Wp.call (WpD.mono _) rfl (T_X2_worth (e + 11) N σ _ _ _ hb ?_)
  show Wp (WpD (e + 12)) hcX6_worthOf Q (10, [some (.inr (.inr (8, 0))), some (.inl a1)], [.inl q1.1, .inl a1, .inr (.inr (8, 0)), .inr (.inl (0 : Int64))]) q1.2
  obtain ⟨q2, hb, h⟩ := bind_some h
  refine Wp.call (WpD.mono _) rfl (T_X6_goingOn (e + 0) N a1 q1.1 q1.2 _ _ _ hb ?_)
  show Wp (WpD (e + 12)) hcX6_worthOf Q (13, [some (.inr (.inr (8, 0))), some (.inl a1)], [.inr (.inl q2.1), .inr (.inl (0 : Int64))]) q2.2
  refine Wp.run (WpD.mono _) 0 (q := ((16, [some (.inr (.inr (8, 0))), some (.inl a1)], [.inr (.inl (if q2.1 < (0 : Int64) then (0 : Int64) else q2.1))]), q2.2)) rfl ?_
  obtain ⟨rfl, rfl⟩ := ret_inj h
  exact Wp.ret (WpD.mono _) rfl hQ

set_option maxRecDepth 100000 in
set_option maxHeartbeats 4000000 in
theorem T_X11_best (e N : Nat)  (a1 : Int32) (σ : Mem) (r : Int64) (τ : Mem) (Q : Pst) (h : F_X11_best N a1 σ = some (r, τ)) (hQ : Q (some (.inr (.inl r))) τ) : WpD (e + 14) mX11_best [.inr (.inr (0, 0)), .inl a1] σ Q := by
  refine WpD.of (d := e + 13) (Nat.le_of_ble_eq_true rfl) (Nat.le_of_ble_eq_true rfl) ?_
  show Wp (WpD (e + 13)) hcX11_best Q (0, [some (.inr (.inr (0, 0))), some (.inl a1), none], []) σ
  unfold F_X11_best at h
  refine Wp.run (WpD.mono _) 1 (q := ((2, [some (.inr (.inr (0, 0))), some (.inl a1), none], [.inl a1, .inr (.inr (0, 0))]), σ)) rfl ?_
  obtain ⟨q1, hb, h⟩ := bind_some h
  refine Wp.call (WpD.mono _) rfl (T_X11_isPlace (e + 11) N a1 σ _ _ _ hb ?_)
  show Wp (WpD (e + 13)) hcX11_best Q (5, [some (.inr (.inr (0, 0))), some (.inl a1), none], [.inl q1.1]) q1.2
  refine Wp.if0_ne (WpD.mono _) rfl rfl (fun hc => ?_) (fun hc => ?_)
  · have h := (if_pos hc).symm.trans h
    show Wp (WpD (e + 13)) hcX11_best Q (8, [some (.inr (.inr (0, 0))), some (.inl a1), none], []) q1.2
    refine Wp.run (WpD.mono _) 0 (q := ((11, [some (.inr (.inr (0, 0))), some (.inl a1), none], [.inr (.inl (Int64.ofInt (-4611686018427387904)))]), q1.2)) rfl ?_
    obtain ⟨rfl, rfl⟩ := ret_inj h
    exact Wp.ret (WpD.mono _) rfl hQ
  · have h := (if_neg hc).symm.trans h
    show Wp (WpD (e + 13)) hcX11_best Q (12, [some (.inr (.inr (0, 0))), some (.inl a1), none], []) q1.2
    refine Wp.run (WpD.mono _) 2 (q := ((17, [some (.inr (.inr (0, 0))), some (.inl a1), none], [.inl a1, .inr (.inr (8, 0))]), q1.2)) rfl ?_
    obtain ⟨q2, hb, h⟩ := bind_some h
    refine Wp.call (WpD.mono _) rfl (T_X6_openYard (e + 9) N a1 q1.2 _ _ _ hb ?_)
    show Wp (WpD (e + 13)) hcX11_best Q (20, [some (.inr (.inr (0, 0))), some (.inl a1), none], [.inl q2.1]) q2.2
    refine Wp.run (WpD.mono _) 1 (q := ((22, [some (.inr (.inr (0, 0))), some (.inl a1), some (.inl q2.1)], [.inl q2.1]), q2.2)) rfl ?_
    refine Wp.if0_ne (WpD.mono _) rfl rfl (fun hc => ?_) (fun hc => ?_)
    · have h := (if_pos hc).symm.trans h
      show Wp (WpD (e + 13)) hcX11_best Q (25, [some (.inr (.inr (0, 0))), some (.inl a1), some (.inl q2.1)], []) q2.2
      refine Wp.run (WpD.mono _) 1 (q := ((39, [some (.inr (.inr (0, 0))), some (.inl a1), some (.inl q2.1)], [.inr (.inl (Int64.ofInt (-3)))]), q2.2)) rfl ?_
      obtain ⟨rfl, rfl⟩ := ret_inj h
      exact Wp.ret (WpD.mono _) rfl hQ
    · have h := (if_neg hc).symm.trans h
      show Wp (WpD (e + 13)) hcX11_best Q (31, [some (.inr (.inr (0, 0))), some (.inl a1), some (.inl q2.1)], []) q2.2
      refine Wp.run (WpD.mono _) 2 (q := ((36, [some (.inr (.inr (0, 0))), some (.inl a1), some (.inl q2.1)], [.inl q2.1, .inr (.inr (8, 0))]), q2.2)) rfl ?_
      obtain ⟨q3, hb, h⟩ := bind_some h
      refine Wp.call (WpD.mono _) rfl (T_X6_worthOf (e + 0) N q2.1 q2.2 _ _ _ hb ?_)
      show Wp (WpD (e + 13)) hcX11_best Q (39, [some (.inr (.inr (0, 0))), some (.inl a1), some (.inl q2.1)], [.inr (.inl q3.1)]) q3.2
      obtain ⟨rfl, rfl⟩ := ret_inj h
      exact Wp.ret (WpD.mono _) rfl hQ

set_option maxRecDepth 100000 in
set_option maxHeartbeats 4000000 in
theorem T_X6_toldBy_b69 (e N : Nat) (g0 : Int32 → Int32 → Int32 → Mem → Option (Int64 × Mem)) (hg0 : ∀ (a1 : Int32) (a2 : Int32) (a3 : Int32) (σ : Mem) (r : Int64) (τ : Mem) (Q : Pst), g0 a1 a2 a3 σ = some (r, τ) → Q (some (.inr (.inl r))) τ → WpD (e + 13) mX6_toldBy [.inr (.inr (8, 0)), .inl a1, .inl a2, .inl a3] σ Q)  (r : Int64) (τ : Mem) (Q : Pst) (hQ : Q (some (.inr (.inl r))) τ) : ∀ n, ∀ (x1 : Int32) (x2 : Int32) (x4 : Int32) (x5 : Int64) (x7 : Int32) (σ : Mem), F_X6_toldBy_b69 N g0 n x1 x2 x4 x5 x7 σ = some (r, τ) → Wp (WpD (e + 13)) hcX6_toldBy Q (69, [some (.inr (.inr (8, 0))), some (.inl x1), some (.inl x2), none, some (.inl x4), some (.inr (.inl x5)), none, some (.inl x7), none, none], []) σ := by
  intro n
  induction n with
  | zero => intro x1 x2 x4 x5 x7 σ h; cases h
  | succ n ih =>
    intro x1 x2 x4 x5 x7 σ h
    unfold F_X6_toldBy_b69 at h
    refine Wp.run (WpD.mono _) 1 (q := ((72, [some (.inr (.inr (8, 0))), some (.inl x1), some (.inl x2), none, some (.inl x4), some (.inr (.inl x5)), none, some (.inl x7), none, none], [.inl (3 : Int32), .inl x7]), σ)) rfl ?_
    refine Wp.if2_ge (WpD.mono _) rfl rfl (fun hc => ?_) (fun hc => ?_)
    · have h := (if_pos hc).symm.trans h
      show Wp (WpD (e + 13)) hcX6_toldBy Q (121, [some (.inr (.inr (8, 0))), some (.inl x1), some (.inl x2), none, some (.inl x4), some (.inr (.inl x5)), none, some (.inl x7), none, none], []) σ
      refine Wp.run (WpD.mono _) 0 (q := ((123, [some (.inr (.inr (8, 0))), some (.inl x1), some (.inl x2), none, some (.inl x4), some (.inr (.inl x5)), none, some (.inl x7), none, none], [.inr (.inl x5)]), σ)) rfl ?_
      obtain ⟨rfl, rfl⟩ := ret_inj h
      exact Wp.ret (WpD.mono _) rfl hQ
    · have h := (if_neg hc).symm.trans h
      show Wp (WpD (e + 13)) hcX6_toldBy Q (75, [some (.inr (.inr (8, 0))), some (.inl x1), some (.inl x2), none, some (.inl x4), some (.inr (.inl x5)), none, some (.inl x7), none, none], []) σ
      refine Wp.run (WpD.mono _) 2 (q := ((79, [some (.inr (.inr (8, 0))), some (.inl x1), some (.inl x2), none, some (.inl x4), some (.inr (.inl x5)), none, some (.inl x7), none, none], [.inl x7, .inl x2, .inr (.inr (8, 0))]), σ)) rfl ?_
      obtain ⟨q4, hb, h⟩ := bind_some h
      refine Wp.call (WpD.mono _) rfl (T_X6_pass (e + 11) N x2 x7 σ _ _ _ hb ?_)
      show Wp (WpD (e + 13)) hcX6_toldBy Q (82, [some (.inr (.inr (8, 0))), some (.inl x1), some (.inl x2), none, some (.inl x4), some (.inr (.inl x5)), none, some (.inl x7), none, none], [.inr (.inl q4.1)]) q4.2
      refine Wp.run (WpD.mono _) 3 (q := ((88, [some (.inr (.inr (8, 0))), some (.inl x1), some (.inl x2), none, some (.inl x4), some (.inr (.inl x5)), none, some (.inl x7), some (.inr (.inl q4.1)), none], [.inl (lg_cmp q4.1 (0 : Int64))]), q4.2)) rfl ?_
      refine Wp.if0_le (WpD.mono _) rfl rfl (fun hc => ?_) (fun hc => ?_)
      · have h := (if_pos hc).symm.trans h
        show Wp (WpD (e + 13)) hcX6_toldBy Q (115, [some (.inr (.inr (8, 0))), some (.inl x1), some (.inl x2), none, some (.inl x4), some (.inr (.inl x5)), none, some (.inl x7), some (.inr (.inl q4.1)), none], []) q4.2
        refine Wp.run (WpD.mono _) 1 (q := ((69, [some (.inr (.inr (8, 0))), some (.inl x1), some (.inl x2), none, some (.inl x4), some (.inr (.inl x5)), none, some (.inl (x7 + (1 : Int32))), none, none], []), q4.2)) rfl ?_
        exact Wp.jump (WpD.mono _) rfl (ih x1 x2 x4 x5 (x7 + (1 : Int32)) q4.2 h)
      · have h := (if_neg hc).symm.trans h
        show Wp (WpD (e + 13)) hcX6_toldBy Q (91, [some (.inr (.inr (8, 0))), some (.inl x1), some (.inl x2), none, some (.inl x4), some (.inr (.inl x5)), none, some (.inl x7), some (.inr (.inl q4.1)), none], []) q4.2
        refine Wp.run (WpD.mono _) 9 (q := ((104, [some (.inr (.inr (8, 0))), some (.inl x1), some (.inl x2), none, some (.inl x4), some (.inr (.inl x5)), none, some (.inl x7), some (.inr (.inl q4.1)), none], [.inl x4, .inl (x2 + (1 : Int32)), .inl (x1 - (1 : Int32)), .inr (.inr (8, 0)), .inr (.inl q4.1), .inr (.inl x5)]), q4.2)) rfl ?_
        obtain ⟨q5, hb, h⟩ := bind_some h
        refine Wp.call (WpD.mono _) rfl (hg0 (x1 - (1 : Int32)) (x2 + (1 : Int32)) x4 q4.2 _ _ _ hb ?_)
        show Wp (WpD (e + 13)) hcX6_toldBy Q (107, [some (.inr (.inr (8, 0))), some (.inl x1), some (.inl x2), none, some (.inl x4), some (.inr (.inl x5)), none, some (.inl x7), some (.inr (.inl q4.1)), none], [.inr (.inl q5.1), .inr (.inl q4.1), .inr (.inl x5)]) q5.2
        refine Wp.run (WpD.mono _) 6 (q := ((69, [some (.inr (.inr (8, 0))), some (.inl x1), some (.inl x2), none, some (.inl x4), some (.inr (.inl (x5 + ((q4.1 * q5.1) / (1000000 : Int64))))), none, some (.inl (x7 + (1 : Int32))), none, none], []), q5.2)) rfl ?_
        exact Wp.jump (WpD.mono _) rfl (ih x1 x2 x4 (x5 + ((q4.1 * q5.1) / (1000000 : Int64))) (x7 + (1 : Int32)) q5.2 h)

set_option maxRecDepth 100000 in
set_option maxHeartbeats 4000000 in
theorem T_X6_toldBy_b20 (e N : Nat) (g0 : Int32 → Int32 → Int32 → Mem → Option (Int64 × Mem)) (hg0 : ∀ (a1 : Int32) (a2 : Int32) (a3 : Int32) (σ : Mem) (r : Int64) (τ : Mem) (Q : Pst), g0 a1 a2 a3 σ = some (r, τ) → Q (some (.inr (.inl r))) τ → WpD (e + 13) mX6_toldBy [.inr (.inr (8, 0)), .inl a1, .inl a2, .inl a3] σ Q)  (r : Int64) (τ : Mem) (Q : Pst) (hQ : Q (some (.inr (.inl r))) τ) : ∀ (x2 : Int32) (x3 : Int32) (σ : Mem), F_X6_toldBy_b20 N g0 x2 x3 σ = some (r, τ) → Wp (WpD (e + 13)) hcX6_toldBy Q (20, [some (.inr (.inr (8, 0))), none, some (.inl x2), some (.inl x3), none, none, none, none, none, none], []) σ := by
  intro x2 x3 σ h
  unfold F_X6_toldBy_b20 at h
  refine Wp.run (WpD.mono _) 2 (q := ((23, [some (.inr (.inr (8, 0))), none, some (.inl x2), some (.inl x3), none, none, none, none, none, none], [.inl x2, .inr (.inr (8, 0)), .inr (.inl (0 : Int64))]), σ)) rfl ?_
  obtain ⟨q6, hb, h⟩ := bind_some h
  refine Wp.call (WpD.mono _) rfl (T_X6_worthOf (e + 0) N x2 σ _ _ _ hb ?_)
  show Wp (WpD (e + 13)) hcX6_toldBy Q (26, [some (.inr (.inr (8, 0))), none, some (.inl x2), some (.inl x3), none, none, none, none, none, none], [.inr (.inl q6.1), .inr (.inl (0 : Int64))]) q6.2
  refine Wp.run (WpD.mono _) 5 (q := ((36, [some (.inr (.inr (8, 0))), none, some (.inl x2), some (.inl x3), none, none, none, none, none, none], [.inr (.inl (if (q6.1 - ((1000000 : Int64) * x3.toInt64)) < (0 : Int64) then (0 : Int64) else (q6.1 - ((1000000 : Int64) * x3.toInt64))))]), q6.2)) rfl ?_
  obtain ⟨rfl, rfl⟩ := ret_inj h
  exact Wp.ret (WpD.mono _) rfl hQ

set_option maxRecDepth 100000 in
set_option maxHeartbeats 4000000 in
theorem TB_X6_toldBy (e N : Nat) (g0 : Int32 → Int32 → Int32 → Mem → Option (Int64 × Mem)) (hg0 : ∀ (a1 : Int32) (a2 : Int32) (a3 : Int32) (σ : Mem) (r : Int64) (τ : Mem) (Q : Pst), g0 a1 a2 a3 σ = some (r, τ) → Q (some (.inr (.inl r))) τ → WpD (e + 13) mX6_toldBy [.inr (.inr (8, 0)), .inl a1, .inl a2, .inl a3] σ Q) (a1 : Int32) (a2 : Int32) (a3 : Int32) (σ : Mem) (r : Int64) (τ : Mem) (Q : Pst) (h : B_X6_toldBy N g0 a1 a2 a3 σ = some (r, τ)) (hQ : Q (some (.inr (.inl r))) τ) : WpD (e + 1 + 13) mX6_toldBy [.inr (.inr (8, 0)), .inl a1, .inl a2, .inl a3] σ Q := by
  refine WpD.of (d := e + 13) (Nat.le_of_ble_eq_true rfl) (Nat.le_of_ble_eq_true rfl) ?_
  show Wp (WpD (e + 13)) hcX6_toldBy Q (0, [some (.inr (.inr (8, 0))), some (.inl a1), some (.inl a2), some (.inl a3), none, none, none, none, none, none], []) σ
  unfold B_X6_toldBy at h
  refine Wp.run (WpD.mono _) 0 (q := ((1, [some (.inr (.inr (8, 0))), some (.inl a1), some (.inl a2), some (.inl a3), none, none, none, none, none, none], [.inl a1]), σ)) rfl ?_
  refine Wp.if0_le (WpD.mono _) rfl rfl (fun hc => ?_) (fun hc => ?_)
  · have h := (if_pos hc).symm.trans h
    show Wp (WpD (e + 13)) hcX6_toldBy Q (20, [some (.inr (.inr (8, 0))), some (.inl a1), some (.inl a2), some (.inl a3), none, none, none, none, none, none], []) σ
    exact Wp.jump (WpD.mono _) rfl ((T_X6_toldBy_b20 e N g0 hg0 r τ Q hQ ) a2 a3 σ h)
  · have h := (if_neg hc).symm.trans h
    show Wp (WpD (e + 13)) hcX6_toldBy Q (4, [some (.inr (.inr (8, 0))), some (.inl a1), some (.inl a2), some (.inl a3), none, none, none, none, none, none], []) σ
    refine Wp.run (WpD.mono _) 1 (q := ((6, [some (.inr (.inr (8, 0))), some (.inl a1), some (.inl a2), some (.inl a3), none, none, none, none, none, none], [.inl (1 : Int32), .inl a2]), σ)) rfl ?_
    refine Wp.if2_lt (WpD.mono _) rfl rfl (fun hc => ?_) (fun hc => ?_)
    · have h := (if_pos hc).symm.trans h
      show Wp (WpD (e + 13)) hcX6_toldBy Q (20, [some (.inr (.inr (8, 0))), some (.inl a1), some (.inl a2), some (.inl a3), none, none, none, none, none, none], []) σ
      exact Wp.jump (WpD.mono _) rfl ((T_X6_toldBy_b20 e N g0 hg0 r τ Q hQ ) a2 a3 σ h)
    · have h := (if_neg hc).symm.trans h
      show Wp (WpD (e + 13)) hcX6_toldBy Q (9, [some (.inr (.inr (8, 0))), some (.inl a1), some (.inl a2), some (.inl a3), none, none, none, none, none, none], []) σ
      refine Wp.run (WpD.mono _) 2 (q := ((14, [some (.inr (.inr (8, 0))), some (.inl a1), some (.inl a2), some (.inl a3), none, none, none, none, none, none], [.inr (.inr (1, 0)), .inl a2]), σ)) rfl ?_
      obtain ⟨q1, hb, h⟩ := bind_some h
      refine Wp.call (WpD.mono _) rfl (T_X2_deepest (e + 12) N σ _ _ _ hb ?_)
      show Wp (WpD (e + 13)) hcX6_toldBy Q (17, [some (.inr (.inr (8, 0))), some (.inl a1), some (.inl a2), some (.inl a3), none, none, none, none, none, none], [.inl q1.1, .inl a2]) q1.2
      refine Wp.if2_le (WpD.mono _) rfl rfl (fun hc => ?_) (fun hc => ?_)
      · have h := (if_pos hc).symm.trans h
        show Wp (WpD (e + 13)) hcX6_toldBy Q (37, [some (.inr (.inr (8, 0))), some (.inl a1), some (.inl a2), some (.inl a3), none, none, none, none, none, none], []) q1.2
        refine Wp.run (WpD.mono _) 4 (q := ((46, [some (.inr (.inr (8, 0))), some (.inl a1), some (.inl a2), some (.inl a3), none, none, none, none, none, none], [.inl a2, .inr (.inr (42, 0)), .inl a3]), q1.2)) rfl ?_
        obtain ⟨hc, h⟩ := ite_nn h
        refine Wp.X_ild1 (WpD.mono _) rfl rfl hc ?_
        show Wp (WpD (e + 13)) hcX6_toldBy Q (47, [some (.inr (.inr (8, 0))), some (.inl a1), some (.inl a2), some (.inl a3), none, none, none, none, none, none], [.inl (q1.2.2.2.1 42 0 (a2).toNatClampNeg), .inl a3]) q1.2
        refine Wp.run (WpD.mono _) 5 (q := ((56, [some (.inr (.inr (8, 0))), some (.inl a1), some (.inl a2), some (.inl a3), some (.inl (a3 + (q1.2.2.2.1 42 0 (a2).toNatClampNeg))), none, none, none, none, none], [.inr (.inr (1, 0)), .inl a2, .inr (.inr (8, 0))]), q1.2)) rfl ?_
        obtain ⟨q2, hb, h⟩ := bind_some h
        refine Wp.call (WpD.mono _) rfl (T_X2_worth (e + 12) N q1.2 _ _ _ hb ?_)
        show Wp (WpD (e + 13)) hcX6_toldBy Q (59, [some (.inr (.inr (8, 0))), some (.inl a1), some (.inl a2), some (.inl a3), some (.inl (a3 + (q1.2.2.2.1 42 0 (a2).toNatClampNeg))), none, none, none, none, none], [.inl q2.1, .inl a2, .inr (.inr (8, 0))]) q2.2
        refine Wp.run (WpD.mono _) 0 (q := ((61, [some (.inr (.inr (8, 0))), some (.inl a1), some (.inl a2), some (.inl a3), some (.inl (a3 + (q1.2.2.2.1 42 0 (a2).toNatClampNeg))), none, none, none, none, none], [.inl (a3 + (q1.2.2.2.1 42 0 (a2).toNatClampNeg)), .inl q2.1, .inl a2, .inr (.inr (8, 0))]), q2.2)) rfl ?_
        obtain ⟨q3, hb, h⟩ := bind_some h
        refine Wp.call (WpD.mono _) rfl (T_X6_gain (e + 11) N a2 q2.1 (a3 + (q1.2.2.2.1 42 0 (a2).toNatClampNeg)) q2.2 _ _ _ hb ?_)
        show Wp (WpD (e + 13)) hcX6_toldBy Q (64, [some (.inr (.inr (8, 0))), some (.inl a1), some (.inl a2), some (.inl a3), some (.inl (a3 + (q1.2.2.2.1 42 0 (a2).toNatClampNeg))), none, none, none, none, none], [.inr (.inl q3.1)]) q3.2
        refine Wp.run (WpD.mono _) 2 (q := ((69, [some (.inr (.inr (8, 0))), some (.inl a1), some (.inl a2), some (.inl a3), some (.inl (a3 + (q1.2.2.2.1 42 0 (a2).toNatClampNeg))), some (.inr (.inl q3.1)), none, some (.inl (0 : Int32)), none, none], []), q3.2)) rfl ?_
        exact Wp.jump (WpD.mono _) rfl ((T_X6_toldBy_b69 e N g0 hg0 r τ Q hQ  N) a1 a2 (a3 + (q1.2.2.2.1 42 0 (a2).toNatClampNeg)) q3.1 (0 : Int32) q3.2 h)
      · have h := (if_neg hc).symm.trans h
        show Wp (WpD (e + 13)) hcX6_toldBy Q (20, [some (.inr (.inr (8, 0))), some (.inl a1), some (.inl a2), some (.inl a3), none, none, none, none, none, none], []) q1.2
        exact Wp.jump (WpD.mono _) rfl ((T_X6_toldBy_b20 e N g0 hg0 r τ Q hQ ) a2 a3 q1.2 h)

set_option maxRecDepth 100000 in
theorem TG_X6_toldBy (e N : Nat) : ∀ d : Nat, (∀ (a1 : Int32) (a2 : Int32) (a3 : Int32) (σ : Mem) (r : Int64) (τ : Mem) (Q : Pst), (G_X6_toldBy N d) a1 a2 a3 σ = some (r, τ) → Q (some (.inr (.inl r))) τ → WpD (e + d + 13) mX6_toldBy [.inr (.inr (8, 0)), .inl a1, .inl a2, .inl a3] σ Q) := by
  intro d
  induction d with
  | zero =>
    exact fun _ _ _ _ _ _ _ h => (nomatch h)
  | succ d ih =>
    exact (fun a1 a2 a3 σ r τ Q h hQ => TB_X6_toldBy (e + d) N (G_X6_toldBy N d) ih a1 a2 a3 σ r τ Q h hQ)

theorem T_X6_toldBy (e N : Nat) (a1 : Int32) (a2 : Int32) (a3 : Int32) (σ : Mem) (r : Int64) (τ : Mem) (Q : Pst) (h : F_X6_toldBy N a1 a2 a3 σ = some (r, τ)) (hQ : Q (some (.inr (.inl r))) τ) : WpD (e + 23) mX6_toldBy [.inr (.inr (8, 0)), .inl a1, .inl a2, .inl a3] σ Q := (TG_X6_toldBy e N 10) a1 a2 a3 σ r τ Q h hQ
set_option maxRecDepth 100000 in
set_option maxHeartbeats 4000000 in
theorem T_X6_boreWorth (e N : Nat)  (a1 : Int32) (a2 : Int32) (σ : Mem) (r : Int64) (τ : Mem) (Q : Pst) (h : F_X6_boreWorth N a1 a2 σ = some (r, τ)) (hQ : Q (some (.inr (.inl r))) τ) : WpD (e + 24) mX6_boreWorth [.inr (.inr (8, 0)), .inl a1, .inl a2] σ Q := by
  refine WpD.of (d := e + 23) (Nat.le_of_ble_eq_true rfl) (Nat.le_of_ble_eq_true rfl) ?_
  show Wp (WpD (e + 23)) hcX6_boreWorth Q (0, [some (.inr (.inr (8, 0))), some (.inl a1), some (.inl a2)], []) σ
  unfold F_X6_boreWorth at h
  refine Wp.run (WpD.mono _) 3 (q := ((4, [some (.inr (.inr (8, 0))), some (.inl a1), some (.inl a2)], [.inl (0 : Int32), .inl a1, .inl a2, .inr (.inr (8, 0))]), σ)) rfl ?_
  obtain ⟨q1, hb, h⟩ := bind_some h
  refine Wp.call (WpD.mono _) rfl (T_X6_toldBy (e + 0) N a2 a1 (0 : Int32) σ _ _ _ hb ?_)
  show Wp (WpD (e + 23)) hcX6_boreWorth Q (7, [some (.inr (.inr (8, 0))), some (.inl a1), some (.inl a2)], [.inr (.inl q1.1)]) q1.2
  refine Wp.run (WpD.mono _) 1 (q := ((9, [some (.inr (.inr (8, 0))), some (.inl a1), some (.inl a2)], [.inl a1, .inr (.inr (8, 0)), .inr (.inl q1.1)]), q1.2)) rfl ?_
  obtain ⟨q2, hb, h⟩ := bind_some h
  refine Wp.call (WpD.mono _) rfl (T_X6_worthOf (e + 10) N a1 q1.2 _ _ _ hb ?_)
  show Wp (WpD (e + 23)) hcX6_boreWorth Q (12, [some (.inr (.inr (8, 0))), some (.inl a1), some (.inl a2)], [.inr (.inl q2.1), .inr (.inl q1.1)]) q2.2
  refine Wp.run (WpD.mono _) 0 (q := ((13, [some (.inr (.inr (8, 0))), some (.inl a1), some (.inl a2)], [.inr (.inl (q1.1 - q2.1))]), q2.2)) rfl ?_
  obtain ⟨rfl, rfl⟩ := ret_inj h
  exact Wp.ret (WpD.mono _) rfl hQ

set_option maxRecDepth 100000 in
set_option maxHeartbeats 4000000 in
theorem T_X11_bore (e N : Nat)  (a1 : Int32) (a2 : Int32) (σ : Mem) (r : Int64) (τ : Mem) (Q : Pst) (h : F_X11_bore N a1 a2 σ = some (r, τ)) (hQ : Q (some (.inr (.inl r))) τ) : WpD (e + 25) mX11_bore [.inr (.inr (0, 0)), .inl a1, .inl a2] σ Q := by
  refine WpD.of (d := e + 24) (Nat.le_of_ble_eq_true rfl) (Nat.le_of_ble_eq_true rfl) ?_
  show Wp (WpD (e + 24)) hcX11_bore Q (0, [some (.inr (.inr (0, 0))), some (.inl a1), some (.inl a2), none], []) σ
  unfold F_X11_bore at h
  refine Wp.run (WpD.mono _) 1 (q := ((2, [some (.inr (.inr (0, 0))), some (.inl a1), some (.inl a2), none], [.inl a1, .inr (.inr (0, 0))]), σ)) rfl ?_
  obtain ⟨q1, hb, h⟩ := bind_some h
  refine Wp.call (WpD.mono _) rfl (T_X11_isPlace (e + 22) N a1 σ _ _ _ hb ?_)
  show Wp (WpD (e + 24)) hcX11_bore Q (5, [some (.inr (.inr (0, 0))), some (.inl a1), some (.inl a2), none], [.inl q1.1]) q1.2
  refine Wp.if0_eq (WpD.mono _) rfl rfl (fun hc => ?_) (fun hc => ?_)
  · have h := (if_pos hc).symm.trans h
    show Wp (WpD (e + 24)) hcX11_bore Q (17, [some (.inr (.inr (0, 0))), some (.inl a1), some (.inl a2), none], []) q1.2
    refine Wp.run (WpD.mono _) 0 (q := ((20, [none, none, none, none], [.inr (.inl (Int64.ofInt (-4611686018427387904)))]), q1.2)) rfl ?_
    obtain ⟨rfl, rfl⟩ := ret_inj h
    exact Wp.ret (WpD.mono _) rfl hQ
  · have h := (if_neg hc).symm.trans h
    show Wp (WpD (e + 24)) hcX11_bore Q (8, [some (.inr (.inr (0, 0))), some (.inl a1), some (.inl a2), none], []) q1.2
    refine Wp.run (WpD.mono _) 2 (q := ((11, [some (.inr (.inr (0, 0))), some (.inl a1), some (.inl a2), none], [.inl (5 : Int32), .inl (0 : Int32), .inl a2]), q1.2)) rfl ?_
    obtain ⟨q2, hb, h⟩ := bind_some h
    refine Wp.call (WpD.mono _) rfl (T_X11_within (e + 23) N a2 (0 : Int32) (5 : Int32) q1.2 _ _ _ hb ?_)
    show Wp (WpD (e + 24)) hcX11_bore Q (14, [some (.inr (.inr (0, 0))), some (.inl a1), some (.inl a2), none], [.inl q2.1]) q2.2
    refine Wp.if0_ne (WpD.mono _) rfl rfl (fun hc => ?_) (fun hc => ?_)
    · have h := (if_pos hc).symm.trans h
      show Wp (WpD (e + 24)) hcX11_bore Q (17, [some (.inr (.inr (0, 0))), some (.inl a1), some (.inl a2), none], []) q2.2
      refine Wp.run (WpD.mono _) 0 (q := ((20, [none, none, none, none], [.inr (.inl (Int64.ofInt (-4611686018427387904)))]), q2.2)) rfl ?_
      obtain ⟨rfl, rfl⟩ := ret_inj h
      exact Wp.ret (WpD.mono _) rfl hQ
    · have h := (if_neg hc).symm.trans h
      show Wp (WpD (e + 24)) hcX11_bore Q (21, [some (.inr (.inr (0, 0))), some (.inl a1), some (.inl a2), none], []) q2.2
      refine Wp.run (WpD.mono _) 2 (q := ((26, [some (.inr (.inr (0, 0))), some (.inl a1), some (.inl a2), none], [.inl a1, .inr (.inr (8, 0))]), q2.2)) rfl ?_
      obtain ⟨q3, hb, h⟩ := bind_some h
      refine Wp.call (WpD.mono _) rfl (T_X6_openYard (e + 20) N a1 q2.2 _ _ _ hb ?_)
      show Wp (WpD (e + 24)) hcX11_bore Q (29, [some (.inr (.inr (0, 0))), some (.inl a1), some (.inl a2), none], [.inl q3.1]) q3.2
      refine Wp.run (WpD.mono _) 1 (q := ((31, [some (.inr (.inr (0, 0))), some (.inl a1), some (.inl a2), some (.inl q3.1)], [.inl q3.1]), q3.2)) rfl ?_
      refine Wp.if0_ne (WpD.mono _) rfl rfl (fun hc => ?_) (fun hc => ?_)
      · have h := (if_pos hc).symm.trans h
        show Wp (WpD (e + 24)) hcX11_bore Q (34, [some (.inr (.inr (0, 0))), some (.inl a1), some (.inl a2), some (.inl q3.1)], []) q3.2
        refine Wp.run (WpD.mono _) 1 (q := ((49, [some (.inr (.inr (0, 0))), some (.inl a1), some (.inl a2), some (.inl q3.1)], [.inr (.inl (Int64.ofInt (-3)))]), q3.2)) rfl ?_
        obtain ⟨rfl, rfl⟩ := ret_inj h
        exact Wp.ret (WpD.mono _) rfl hQ
      · have h := (if_neg hc).symm.trans h
        show Wp (WpD (e + 24)) hcX11_bore Q (40, [some (.inr (.inr (0, 0))), some (.inl a1), some (.inl a2), some (.inl q3.1)], []) q3.2
        refine Wp.run (WpD.mono _) 3 (q := ((46, [some (.inr (.inr (0, 0))), some (.inl a1), some (.inl a2), some (.inl q3.1)], [.inl a2, .inl q3.1, .inr (.inr (8, 0))]), q3.2)) rfl ?_
        obtain ⟨q4, hb, h⟩ := bind_some h
        refine Wp.call (WpD.mono _) rfl (T_X6_boreWorth (e + 0) N q3.1 a2 q3.2 _ _ _ hb ?_)
        show Wp (WpD (e + 24)) hcX11_bore Q (49, [some (.inr (.inr (0, 0))), some (.inl a1), some (.inl a2), some (.inl q3.1)], [.inr (.inl q4.1)]) q4.2
        obtain ⟨rfl, rfl⟩ := ret_inj h
        exact Wp.ret (WpD.mono _) rfl hQ

set_option maxRecDepth 100000 in
set_option maxHeartbeats 4000000 in
theorem T_X11_isSheet (e N : Nat)  (a1 : Int32) (σ : Mem) (r : Int32) (τ : Mem) (Q : Pst) (h : F_X11_isSheet N a1 σ = some (r, τ)) (hQ : Q (some (.inl r)) τ) : WpD (e + 2) mX11_isSheet [.inl a1] σ Q := by
  refine WpD.of (d := e + 1) (Nat.le_of_ble_eq_true rfl) (Nat.le_of_ble_eq_true rfl) ?_
  show Wp (WpD (e + 1)) hcX11_isSheet Q (0, [some (.inl a1)], []) σ
  unfold F_X11_isSheet at h
  refine Wp.run (WpD.mono _) 2 (q := ((3, [some (.inl a1)], [.inl (3 : Int32), .inl (0 : Int32), .inl a1]), σ)) rfl ?_
  obtain ⟨q1, hb, h⟩ := bind_some h
  refine Wp.call (WpD.mono _) rfl (T_X11_within (e + 0) N a1 (0 : Int32) (3 : Int32) σ _ _ _ hb ?_)
  show Wp (WpD (e + 1)) hcX11_isSheet Q (6, [some (.inl a1)], [.inl q1.1]) q1.2
  obtain ⟨hc, h⟩ := ite_yy h
  obtain ⟨rfl, rfl⟩ := ret_inj h
  exact Wp.retZ (WpD.mono _) rfl hc hQ

set_option maxRecDepth 100000 in
set_option maxHeartbeats 4000000 in
theorem T_X11_cell (e N : Nat)  (a1 : Int32) (a2 : Int32) (a3 : Int32) (σ : Mem) (r : Int32) (τ : Mem) (Q : Pst) (h : F_X11_cell N a1 a2 a3 σ = some (r, τ)) (hQ : Q (some (.inl r)) τ) : WpD (e + 3) mX11_cell [.inr (.inr (0, 0)), .inl a1, .inl a2, .inl a3] σ Q := by
  refine WpD.of (d := e + 2) (Nat.le_of_ble_eq_true rfl) (Nat.le_of_ble_eq_true rfl) ?_
  show Wp (WpD (e + 2)) hcX11_cell Q (0, [some (.inr (.inr (0, 0))), some (.inl a1), some (.inl a2), some (.inl a3)], []) σ
  unfold F_X11_cell at h
  refine Wp.run (WpD.mono _) 0 (q := ((1, [some (.inr (.inr (0, 0))), some (.inl a1), some (.inl a2), some (.inl a3)], [.inl a1]), σ)) rfl ?_
  obtain ⟨q1, hb, h⟩ := bind_some h
  refine Wp.call (WpD.mono _) rfl (T_X11_isSheet (e + 0) N a1 σ _ _ _ hb ?_)
  show Wp (WpD (e + 2)) hcX11_cell Q (4, [some (.inr (.inr (0, 0))), some (.inl a1), some (.inl a2), some (.inl a3)], [.inl q1.1]) q1.2
  refine Wp.if0_ne (WpD.mono _) rfl rfl (fun hc => ?_) (fun hc => ?_)
  · have h := (if_pos hc).symm.trans h
    show Wp (WpD (e + 2)) hcX11_cell Q (7, [some (.inr (.inr (0, 0))), some (.inl a1), some (.inl a2), some (.inl a3)], []) q1.2
    refine Wp.run (WpD.mono _) 0 (q := ((9, [some (.inr (.inr (0, 0))), some (.inl a1), some (.inl a2), some (.inl a3)], [.inl (Int32.ofInt (-2))]), q1.2)) rfl ?_
    obtain ⟨rfl, rfl⟩ := ret_inj h
    exact Wp.ret (WpD.mono _) rfl hQ
  · have h := (if_neg hc).symm.trans h
    show Wp (WpD (e + 2)) hcX11_cell Q (10, [some (.inr (.inr (0, 0))), some (.inl a1), some (.inl a2), some (.inl a3)], []) q1.2
    refine Wp.run (WpD.mono _) 2 (q := ((15, [some (.inr (.inr (0, 0))), some (.inl a1), some (.inl a2), some (.inl a3)], [.inl a1, .inr (.inr (5, 0))]), q1.2)) rfl ?_
    obtain ⟨q2, hb, h⟩ := bind_some h
    refine Wp.call (WpD.mono _) rfl (T_X10_isMissing (e + 1) N a1 q1.2 _ _ _ hb ?_)
    show Wp (WpD (e + 2)) hcX11_cell Q (18, [some (.inr (.inr (0, 0))), some (.inl a1), some (.inl a2), some (.inl a3)], [.inl q2.1]) q2.2
    refine Wp.if0_eq (WpD.mono _) rfl rfl (fun hc => ?_) (fun hc => ?_)
    · have h := (if_pos hc).symm.trans h
      show Wp (WpD (e + 2)) hcX11_cell Q (24, [some (.inr (.inr (0, 0))), some (.inl a1), some (.inl a2), some (.inl a3)], []) q2.2
      refine Wp.run (WpD.mono _) 3 (q := ((30, [some (.inr (.inr (0, 0))), some (.inl a1), some (.inl a2), some (.inl a3)], [.inl a2, .inl a1, .inr (.inr (5, 0))]), q2.2)) rfl ?_
      obtain ⟨q3, hb, h⟩ := bind_some h
      refine Wp.call (WpD.mono _) rfl (T_X10_has (e + 1) N a1 a2 q2.2 _ _ _ hb ?_)
      show Wp (WpD (e + 2)) hcX11_cell Q (33, [some (.inr (.inr (0, 0))), some (.inl a1), some (.inl a2), some (.inl a3)], [.inl q3.1]) q3.2
      refine Wp.if0_ne (WpD.mono _) rfl rfl (fun hc => ?_) (fun hc => ?_)
      · have h := (if_pos hc).symm.trans h
        show Wp (WpD (e + 2)) hcX11_cell Q (36, [some (.inr (.inr (0, 0))), some (.inl a1), some (.inl a2), some (.inl a3)], []) q3.2
        refine Wp.run (WpD.mono _) 0 (q := ((38, [some (.inr (.inr (0, 0))), some (.inl a1), some (.inl a2), some (.inl a3)], [.inl (Int32.ofInt (-12))]), q3.2)) rfl ?_
        obtain ⟨rfl, rfl⟩ := ret_inj h
        exact Wp.ret (WpD.mono _) rfl hQ
      · have h := (if_neg hc).symm.trans h
        show Wp (WpD (e + 2)) hcX11_cell Q (39, [some (.inr (.inr (0, 0))), some (.inl a1), some (.inl a2), some (.inl a3)], []) q3.2
        refine Wp.run (WpD.mono _) 4 (q := ((46, [some (.inr (.inr (0, 0))), some (.inl a1), some (.inl a2), some (.inl a3)], [.inl a3, .inl a2, .inl a1, .inr (.inr (5, 0))]), q3.2)) rfl ?_
        obtain ⟨q4, hb, h⟩ := bind_some h
        refine Wp.call (WpD.mono _) rfl (T_X10_write (e + 1) N a1 a2 a3 q3.2 _ _ _ hb ?_)
        show Wp (WpD (e + 2)) hcX11_cell Q (49, [some (.inr (.inr (0, 0))), some (.inl a1), some (.inl a2), some (.inl a3)], []) q4.2
        refine Wp.run (WpD.mono _) 0 (q := ((50, [some (.inr (.inr (0, 0))), some (.inl a1), some (.inl a2), some (.inl a3)], [.inl (1 : Int32)]), q4.2)) rfl ?_
        obtain ⟨rfl, rfl⟩ := ret_inj h
        exact Wp.ret (WpD.mono _) rfl hQ
    · have h := (if_neg hc).symm.trans h
      show Wp (WpD (e + 2)) hcX11_cell Q (21, [some (.inr (.inr (0, 0))), some (.inl a1), some (.inl a2), some (.inl a3)], []) q2.2
      refine Wp.run (WpD.mono _) 0 (q := ((23, [some (.inr (.inr (0, 0))), some (.inl a1), some (.inl a2), some (.inl a3)], [.inl (Int32.ofInt (-11))]), q2.2)) rfl ?_
      obtain ⟨rfl, rfl⟩ := ret_inj h
      exact Wp.ret (WpD.mono _) rfl hQ

set_option maxRecDepth 100000 in
set_option maxHeartbeats 4000000 in
theorem T_X11_copy (e N : Nat)  (a1 : Int32) (a2 : Int32) (a3 : Int32) (a4 : Int32) (a5 : Int32) (σ : Mem) (r : Int32) (τ : Mem) (Q : Pst) (h : F_X11_copy N a1 a2 a3 a4 a5 σ = some (r, τ)) (hQ : Q (some (.inl r)) τ) : WpD (e + 3) mX11_copy [.inr (.inr (0, 0)), .inl a1, .inl a2, .inl a3, .inl a4, .inl a5] σ Q := by
  refine WpD.of (d := e + 2) (Nat.le_of_ble_eq_true rfl) (Nat.le_of_ble_eq_true rfl) ?_
  show Wp (WpD (e + 2)) hcX11_copy Q (0, [some (.inr (.inr (0, 0))), some (.inl a1), some (.inl a2), some (.inl a3), some (.inl a4), some (.inl a5)], []) σ
  unfold F_X11_copy at h
  refine Wp.run (WpD.mono _) 0 (q := ((1, [some (.inr (.inr (0, 0))), some (.inl a1), some (.inl a2), some (.inl a3), some (.inl a4), some (.inl a5)], [.inl a1]), σ)) rfl ?_
  obtain ⟨q1, hb, h⟩ := bind_some h
  refine Wp.call (WpD.mono _) rfl (T_X11_isSheet (e + 0) N a1 σ _ _ _ hb ?_)
  show Wp (WpD (e + 2)) hcX11_copy Q (4, [some (.inr (.inr (0, 0))), some (.inl a1), some (.inl a2), some (.inl a3), some (.inl a4), some (.inl a5)], [.inl q1.1]) q1.2
  refine Wp.if0_eq (WpD.mono _) rfl rfl (fun hc => ?_) (fun hc => ?_)
  · have h := (if_pos hc).symm.trans h
    show Wp (WpD (e + 2)) hcX11_copy Q (14, [some (.inr (.inr (0, 0))), some (.inl a1), some (.inl a2), some (.inl a3), some (.inl a4), some (.inl a5)], []) q1.2
    refine Wp.run (WpD.mono _) 0 (q := ((16, [none, none, none, none, none, none], [.inl (Int32.ofInt (-2))]), q1.2)) rfl ?_
    obtain ⟨rfl, rfl⟩ := ret_inj h
    exact Wp.ret (WpD.mono _) rfl hQ
  · have h := (if_neg hc).symm.trans h
    show Wp (WpD (e + 2)) hcX11_copy Q (7, [some (.inr (.inr (0, 0))), some (.inl a1), some (.inl a2), some (.inl a3), some (.inl a4), some (.inl a5)], []) q1.2
    refine Wp.run (WpD.mono _) 0 (q := ((8, [some (.inr (.inr (0, 0))), some (.inl a1), some (.inl a2), some (.inl a3), some (.inl a4), some (.inl a5)], [.inl a3]), q1.2)) rfl ?_
    obtain ⟨q2, hb, h⟩ := bind_some h
    refine Wp.call (WpD.mono _) rfl (T_X11_isSheet (e + 0) N a3 q1.2 _ _ _ hb ?_)
    show Wp (WpD (e + 2)) hcX11_copy Q (11, [some (.inr (.inr (0, 0))), some (.inl a1), some (.inl a2), some (.inl a3), some (.inl a4), some (.inl a5)], [.inl q2.1]) q2.2
    refine Wp.if0_ne (WpD.mono _) rfl rfl (fun hc => ?_) (fun hc => ?_)
    · have h := (if_pos hc).symm.trans h
      show Wp (WpD (e + 2)) hcX11_copy Q (14, [some (.inr (.inr (0, 0))), some (.inl a1), some (.inl a2), some (.inl a3), some (.inl a4), some (.inl a5)], []) q2.2
      refine Wp.run (WpD.mono _) 0 (q := ((16, [none, none, none, none, none, none], [.inl (Int32.ofInt (-2))]), q2.2)) rfl ?_
      obtain ⟨rfl, rfl⟩ := ret_inj h
      exact Wp.ret (WpD.mono _) rfl hQ
    · have h := (if_neg hc).symm.trans h
      show Wp (WpD (e + 2)) hcX11_copy Q (17, [some (.inr (.inr (0, 0))), some (.inl a1), some (.inl a2), some (.inl a3), some (.inl a4), some (.inl a5)], []) q2.2
      refine Wp.run (WpD.mono _) 2 (q := ((22, [some (.inr (.inr (0, 0))), some (.inl a1), some (.inl a2), some (.inl a3), some (.inl a4), some (.inl a5)], [.inl a1, .inr (.inr (5, 0))]), q2.2)) rfl ?_
      obtain ⟨q3, hb, h⟩ := bind_some h
      refine Wp.call (WpD.mono _) rfl (T_X10_isMissing (e + 1) N a1 q2.2 _ _ _ hb ?_)
      show Wp (WpD (e + 2)) hcX11_copy Q (25, [some (.inr (.inr (0, 0))), some (.inl a1), some (.inl a2), some (.inl a3), some (.inl a4), some (.inl a5)], [.inl q3.1]) q3.2
      refine Wp.if0_ne (WpD.mono _) rfl rfl (fun hc => ?_) (fun hc => ?_)
      · have h := (if_pos hc).symm.trans h
        show Wp (WpD (e + 2)) hcX11_copy Q (28, [some (.inr (.inr (0, 0))), some (.inl a1), some (.inl a2), some (.inl a3), some (.inl a4), some (.inl a5)], []) q3.2
        refine Wp.run (WpD.mono _) 2 (q := ((33, [some (.inr (.inr (0, 0))), some (.inl a1), some (.inl a2), some (.inl a3), some (.inl a4), some (.inl a5)], [.inl a3, .inr (.inr (5, 0))]), q3.2)) rfl ?_
        obtain ⟨q4, hb, h⟩ := bind_some h
        refine Wp.call (WpD.mono _) rfl (T_X10_isMissing (e + 1) N a3 q3.2 _ _ _ hb ?_)
        show Wp (WpD (e + 2)) hcX11_copy Q (36, [some (.inr (.inr (0, 0))), some (.inl a1), some (.inl a2), some (.inl a3), some (.inl a4), some (.inl a5)], [.inl q4.1]) q4.2
        refine Wp.if0_eq (WpD.mono _) rfl rfl (fun hc => ?_) (fun hc => ?_)
        · have h := (if_pos hc).symm.trans h
          show Wp (WpD (e + 2)) hcX11_copy Q (42, [some (.inr (.inr (0, 0))), some (.inl a1), some (.inl a2), some (.inl a3), some (.inl a4), some (.inl a5)], []) q4.2
          refine Wp.run (WpD.mono _) 3 (q := ((50, [some (.inr (.inr (0, 0))), some (.inl a1), some (.inl a2), some (.inl a3), some (.inl a4), some (.inl a5)], [.inl a1, .inr (.inr (70, 0))]), q4.2)) rfl ?_
          obtain ⟨hc, h⟩ := ite_nn h
          refine Wp.X_ild1 (WpD.mono _) rfl rfl hc ?_
          show Wp (WpD (e + 2)) hcX11_copy Q (51, [some (.inr (.inr (0, 0))), some (.inl a1), some (.inl a2), some (.inl a3), some (.inl a4), some (.inl a5)], [.inl (q4.2.2.2.1 70 0 (a1).toNatClampNeg)]) q4.2
          refine Wp.run (WpD.mono _) 3 (q := ((59, [some (.inr (.inr (0, 0))), some (.inl a1), some (.inl a2), some (.inl a3), some (.inl a4), some (.inl a5)], [.inl a3, .inr (.inr (70, 0)), .inl (q4.2.2.2.1 70 0 (a1).toNatClampNeg)]), q4.2)) rfl ?_
          obtain ⟨hc, h⟩ := ite_nn h
          refine Wp.X_ild1 (WpD.mono _) rfl rfl hc ?_
          show Wp (WpD (e + 2)) hcX11_copy Q (60, [some (.inr (.inr (0, 0))), some (.inl a1), some (.inl a2), some (.inl a3), some (.inl a4), some (.inl a5)], [.inl (q4.2.2.2.1 70 0 (a3).toNatClampNeg), .inl (q4.2.2.2.1 70 0 (a1).toNatClampNeg)]) q4.2
          refine Wp.if2_eq (WpD.mono _) rfl rfl (fun hc => ?_) (fun hc => ?_)
          · have h := (if_pos hc).symm.trans h
            show Wp (WpD (e + 2)) hcX11_copy Q (66, [some (.inr (.inr (0, 0))), some (.inl a1), some (.inl a2), some (.inl a3), some (.inl a4), some (.inl a5)], []) q4.2
            refine Wp.run (WpD.mono _) 4 (q := ((74, [some (.inr (.inr (0, 0))), some (.inl a1), some (.inl a2), some (.inl a3), some (.inl a4), some (.inl a5)], [.inl a5, .inl a2, .inl a1, .inr (.inr (5, 0))]), q4.2)) rfl ?_
            obtain ⟨q5, hb, h⟩ := bind_some h
            refine Wp.call (WpD.mono _) rfl (T_X10_holds (e + 1) N a1 a2 a5 q4.2 _ _ _ hb ?_)
            show Wp (WpD (e + 2)) hcX11_copy Q (77, [some (.inr (.inr (0, 0))), some (.inl a1), some (.inl a2), some (.inl a3), some (.inl a4), some (.inl a5)], [.inl q5.1]) q5.2
            refine Wp.if0_eq (WpD.mono _) rfl rfl (fun hc => ?_) (fun hc => ?_)
            · have h := (if_pos hc).symm.trans h
              show Wp (WpD (e + 2)) hcX11_copy Q (95, [some (.inr (.inr (0, 0))), some (.inl a1), some (.inl a2), some (.inl a3), some (.inl a4), some (.inl a5)], []) q5.2
              refine Wp.run (WpD.mono _) 0 (q := ((97, [none, none, none, none, none, none], [.inl (Int32.ofInt (-12))]), q5.2)) rfl ?_
              obtain ⟨rfl, rfl⟩ := ret_inj h
              exact Wp.ret (WpD.mono _) rfl hQ
            · have h := (if_neg hc).symm.trans h
              show Wp (WpD (e + 2)) hcX11_copy Q (80, [some (.inr (.inr (0, 0))), some (.inl a1), some (.inl a2), some (.inl a3), some (.inl a4), some (.inl a5)], []) q5.2
              refine Wp.run (WpD.mono _) 4 (q := ((89, [some (.inr (.inr (0, 0))), some (.inl a1), some (.inl a2), some (.inl a3), some (.inl a4), some (.inl a5)], [.inl a5, .inl a4, .inl a3, .inr (.inr (5, 0))]), q5.2)) rfl ?_
              obtain ⟨q6, hb, h⟩ := bind_some h
              refine Wp.call (WpD.mono _) rfl (T_X10_holds (e + 1) N a3 a4 a5 q5.2 _ _ _ hb ?_)
              show Wp (WpD (e + 2)) hcX11_copy Q (92, [some (.inr (.inr (0, 0))), some (.inl a1), some (.inl a2), some (.inl a3), some (.inl a4), some (.inl a5)], [.inl q6.1]) q6.2
              refine Wp.if0_ne (WpD.mono _) rfl rfl (fun hc => ?_) (fun hc => ?_)
              · have h := (if_pos hc).symm.trans h
                show Wp (WpD (e + 2)) hcX11_copy Q (95, [some (.inr (.inr (0, 0))), some (.inl a1), some (.inl a2), some (.inl a3), some (.inl a4), some (.inl a5)], []) q6.2
                refine Wp.run (WpD.mono _) 0 (q := ((97, [none, none, none, none, none, none], [.inl (Int32.ofInt (-12))]), q6.2)) rfl ?_
                obtain ⟨rfl, rfl⟩ := ret_inj h
                exact Wp.ret (WpD.mono _) rfl hQ
              · have h := (if_neg hc).symm.trans h
                show Wp (WpD (e + 2)) hcX11_copy Q (98, [some (.inr (.inr (0, 0))), some (.inl a1), some (.inl a2), some (.inl a3), some (.inl a4), some (.inl a5)], []) q6.2
                refine Wp.run (WpD.mono _) 3 (q := ((106, [some (.inr (.inr (0, 0))), some (.inl a1), some (.inl a2), some (.inl a3), some (.inl a4), some (.inl a5)], [.inl a1, .inr (.inr (68, 0))]), q6.2)) rfl ?_
                obtain ⟨hc, h⟩ := ite_nn h
                refine Wp.X_rld4 (WpD.mono _) rfl rfl hc ?_
                show Wp (WpD (e + 2)) hcX11_copy Q (107, [some (.inr (.inr (0, 0))), some (.inl a1), some (.inl a2), some (.inl a3), some (.inl a4), some (.inl a5)], [.inr (.inr (69, (a1).toNatClampNeg))]) q6.2
                refine Wp.run (WpD.mono _) 4 (q := ((116, [some (.inr (.inr (0, 0))), some (.inl a1), some (.inl a2), some (.inl a3), some (.inl a4), some (.inl a5)], [.inl a3, .inr (.inr (68, 0)), .inl a2, .inr (.inr (69, (a1).toNatClampNeg))]), q6.2)) rfl ?_
                obtain ⟨hc, h⟩ := ite_nn h
                refine Wp.X_rld4 (WpD.mono _) rfl rfl hc ?_
                show Wp (WpD (e + 2)) hcX11_copy Q (117, [some (.inr (.inr (0, 0))), some (.inl a1), some (.inl a2), some (.inl a3), some (.inl a4), some (.inl a5)], [.inr (.inr (69, (a3).toNatClampNeg)), .inl a2, .inr (.inr (69, (a1).toNatClampNeg))]) q6.2
                refine Wp.run (WpD.mono _) 1 (q := ((121, [some (.inr (.inr (0, 0))), some (.inl a1), some (.inl a2), some (.inl a3), some (.inl a4), some (.inl a5)], [.inl a5, .inl a4, .inr (.inr (69, (a3).toNatClampNeg)), .inl a2, .inr (.inr (69, (a1).toNatClampNeg))]), q6.2)) rfl ?_
                obtain ⟨hc, h⟩ := ite_nn h
                refine Wp.X_cpyI (WpD.mono _) rfl rfl rfl rfl hc ?_
                show Wp (WpD (e + 2)) hcX11_copy Q (124, [some (.inr (.inr (0, 0))), some (.inl a1), some (.inl a2), some (.inl a3), some (.inl a4), some (.inl a5)], []) (q6.2.1, q6.2.2.1, (hwR3 q6.2.2.2.1 69 (a3).toNatClampNeg (va_cpy (q6.2.2.2.1 69 (a1).toNatClampNeg) (q6.2.2.2.1 69 (a3).toNatClampNeg) (a2).toNatClampNeg (a4).toNatClampNeg (a5).toNatClampNeg)), q6.2.2.2.2.1, q6.2.2.2.2.2)
                refine Wp.run (WpD.mono _) 0 (q := ((126, [some (.inr (.inr (0, 0))), some (.inl a1), some (.inl a2), some (.inl a3), some (.inl a4), some (.inl a5)], [.inl a5]), (q6.2.1, q6.2.2.1, (hwR3 q6.2.2.2.1 69 (a3).toNatClampNeg (va_cpy (q6.2.2.2.1 69 (a1).toNatClampNeg) (q6.2.2.2.1 69 (a3).toNatClampNeg) (a2).toNatClampNeg (a4).toNatClampNeg (a5).toNatClampNeg)), q6.2.2.2.2.1, q6.2.2.2.2.2))) rfl ?_
                obtain ⟨rfl, rfl⟩ := ret_inj h
                exact Wp.ret (WpD.mono _) rfl hQ
          · have h := (if_neg hc).symm.trans h
            show Wp (WpD (e + 2)) hcX11_copy Q (63, [some (.inr (.inr (0, 0))), some (.inl a1), some (.inl a2), some (.inl a3), some (.inl a4), some (.inl a5)], []) q4.2
            refine Wp.run (WpD.mono _) 0 (q := ((65, [some (.inr (.inr (0, 0))), some (.inl a1), some (.inl a2), some (.inl a3), some (.inl a4), some (.inl a5)], [.inl (Int32.ofInt (-13))]), q4.2)) rfl ?_
            obtain ⟨rfl, rfl⟩ := ret_inj h
            exact Wp.ret (WpD.mono _) rfl hQ
        · have h := (if_neg hc).symm.trans h
          show Wp (WpD (e + 2)) hcX11_copy Q (39, [some (.inr (.inr (0, 0))), some (.inl a1), some (.inl a2), some (.inl a3), some (.inl a4), some (.inl a5)], []) q4.2
          refine Wp.run (WpD.mono _) 0 (q := ((41, [none, none, none, none, none, none], [.inl (Int32.ofInt (-11))]), q4.2)) rfl ?_
          obtain ⟨rfl, rfl⟩ := ret_inj h
          exact Wp.ret (WpD.mono _) rfl hQ
      · have h := (if_neg hc).symm.trans h
        show Wp (WpD (e + 2)) hcX11_copy Q (39, [some (.inr (.inr (0, 0))), some (.inl a1), some (.inl a2), some (.inl a3), some (.inl a4), some (.inl a5)], []) q3.2
        refine Wp.run (WpD.mono _) 0 (q := ((41, [none, none, none, none, none, none], [.inl (Int32.ofInt (-11))]), q3.2)) rfl ?_
        obtain ⟨rfl, rfl⟩ := ret_inj h
        exact Wp.ret (WpD.mono _) rfl hQ

set_option maxRecDepth 100000 in
set_option maxHeartbeats 4000000 in
theorem T_X11_count (e N : Nat)  (a1 : Int32) (σ : Mem) (r : Int32) (τ : Mem) (Q : Pst) (h : F_X11_count N a1 σ = some (r, τ)) (hQ : Q (some (.inl r)) τ) : WpD (e + 2) mX11_count [.inr (.inr (0, 0)), .inl a1] σ Q := by
  refine WpD.of (d := e + 1) (Nat.le_of_ble_eq_true rfl) (Nat.le_of_ble_eq_true rfl) ?_
  show Wp (WpD (e + 1)) hcX11_count Q (0, [some (.inr (.inr (0, 0))), some (.inl a1)], []) σ
  unfold F_X11_count at h
  refine Wp.run (WpD.mono _) 2 (q := ((3, [some (.inr (.inr (0, 0))), some (.inl a1)], [.inl (4 : Int32), .inl (0 : Int32), .inl a1]), σ)) rfl ?_
  obtain ⟨q1, hb, h⟩ := bind_some h
  refine Wp.call (WpD.mono _) rfl (T_X11_within (e + 0) N a1 (0 : Int32) (4 : Int32) σ _ _ _ hb ?_)
  show Wp (WpD (e + 1)) hcX11_count Q (6, [some (.inr (.inr (0, 0))), some (.inl a1)], [.inl q1.1]) q1.2
  refine Wp.if0_eq (WpD.mono _) rfl rfl (fun hc => ?_) (fun hc => ?_)
  · have h := (if_pos hc).symm.trans h
    show Wp (WpD (e + 1)) hcX11_count Q (19, [some (.inr (.inr (0, 0))), some (.inl a1)], []) q1.2
    refine Wp.run (WpD.mono _) 0 (q := ((20, [some (.inr (.inr (0, 0))), some (.inl a1)], [.inl a1]), q1.2)) rfl ?_
    by_cases hs0 : a1 = 5
    · have h := (if_pos hs0).symm.trans h
      refine Wp.swIn (WpD.mono _) (q := ((64, [some (.inr (.inr (0, 0))), some (.inl a1)], []), q1.2)) hs0 rfl ?_
      refine Wp.run (WpD.mono _) 2 (q := ((71, [some (.inr (.inr (0, 0))), some (.inl a1)], [.inl (q1.2.1 1 6)]), q1.2)) rfl ?_
      obtain ⟨rfl, rfl⟩ := ret_inj h
      exact Wp.ret (WpD.mono _) rfl hQ
    have h := (if_neg hs0).symm.trans h
    by_cases hs1 : a1 = 6
    · have h := (if_pos hs1).symm.trans h
      refine Wp.swIn (WpD.mono _) (q := ((72, [some (.inr (.inr (0, 0))), some (.inl a1)], []), q1.2)) hs1 rfl ?_
      refine Wp.run (WpD.mono _) 2 (q := ((79, [some (.inr (.inr (0, 0))), some (.inl a1)], [.inl (q1.2.1 4 5)]), q1.2)) rfl ?_
      obtain ⟨rfl, rfl⟩ := ret_inj h
      exact Wp.ret (WpD.mono _) rfl hQ
    have h := (if_neg hs1).symm.trans h
    by_cases hs2 : a1 = 7
    · have h := (if_pos hs2).symm.trans h
      refine Wp.swIn (WpD.mono _) (q := ((80, [some (.inr (.inr (0, 0))), some (.inl a1)], []), q1.2)) hs2 rfl ?_
      refine Wp.run (WpD.mono _) 2 (q := ((87, [some (.inr (.inr (0, 0))), some (.inl a1)], [.inl (q1.2.1 6 4)]), q1.2)) rfl ?_
      obtain ⟨rfl, rfl⟩ := ret_inj h
      exact Wp.ret (WpD.mono _) rfl hQ
    have h := (if_neg hs2).symm.trans h
    by_cases hs3 : a1 = 8
    · have h := (if_pos hs3).symm.trans h
      refine Wp.swIn (WpD.mono _) (q := ((88, [some (.inr (.inr (0, 0))), some (.inl a1)], []), q1.2)) hs3 rfl ?_
      refine Wp.run (WpD.mono _) 2 (q := ((95, [some (.inr (.inr (0, 0))), some (.inl a1)], [.inl (q1.2.1 7 2)]), q1.2)) rfl ?_
      obtain ⟨rfl, rfl⟩ := ret_inj h
      exact Wp.ret (WpD.mono _) rfl hQ
    have h := (if_neg hs3).symm.trans h
    by_cases hs4 : a1 = 9
    · have h := (if_pos hs4).symm.trans h
      refine Wp.swIn (WpD.mono _) (q := ((96, [some (.inr (.inr (0, 0))), some (.inl a1)], []), q1.2)) hs4 rfl ?_
      refine Wp.run (WpD.mono _) 2 (q := ((103, [some (.inr (.inr (0, 0))), some (.inl a1)], [.inl (q1.2.1 2 9)]), q1.2)) rfl ?_
      obtain ⟨rfl, rfl⟩ := ret_inj h
      exact Wp.ret (WpD.mono _) rfl hQ
    have h := (if_neg hs4).symm.trans h
    by_cases hs5 : a1 = 10
    · have h := (if_pos hs5).symm.trans h
      refine Wp.swIn (WpD.mono _) (q := ((104, [some (.inr (.inr (0, 0))), some (.inl a1)], []), q1.2)) hs5 rfl ?_
      refine Wp.run (WpD.mono _) 2 (q := ((111, [some (.inr (.inr (0, 0))), some (.inl a1)], [.inl (q1.2.1 2 10)]), q1.2)) rfl ?_
      obtain ⟨rfl, rfl⟩ := ret_inj h
      exact Wp.ret (WpD.mono _) rfl hQ
    have h := (if_neg hs5).symm.trans h
    by_cases hs6 : a1 = 11
    · have h := (if_pos hs6).symm.trans h
      refine Wp.swIn (WpD.mono _) (q := ((112, [some (.inr (.inr (0, 0))), some (.inl a1)], []), q1.2)) hs6 rfl ?_
      refine Wp.run (WpD.mono _) 3 (q := ((122, [some (.inr (.inr (0, 0))), some (.inl a1)], [.inl (q1.2.1 3 3)]), q1.2)) rfl ?_
      obtain ⟨rfl, rfl⟩ := ret_inj h
      exact Wp.ret (WpD.mono _) rfl hQ
    have h := (if_neg hs6).symm.trans h
    have ehs0 : ¬ (a1).toInt = 5 := fun z => hs0 (Int32.toInt_inj.mp z)
    have ehs1 : ¬ (a1).toInt = 6 := fun z => hs1 (Int32.toInt_inj.mp z)
    have ehs2 : ¬ (a1).toInt = 7 := fun z => hs2 (Int32.toInt_inj.mp z)
    have ehs3 : ¬ (a1).toInt = 8 := fun z => hs3 (Int32.toInt_inj.mp z)
    have ehs4 : ¬ (a1).toInt = 9 := fun z => hs4 (Int32.toInt_inj.mp z)
    have ehs5 : ¬ (a1).toInt = 10 := fun z => hs5 (Int32.toInt_inj.mp z)
    have ehs6 : ¬ (a1).toInt = 11 := fun z => hs6 (Int32.toInt_inj.mp z)
    refine Wp.swOut (WpD.mono _) (q := ((123, [some (.inr (.inr (0, 0))), some (.inl a1)], []), q1.2)) (o := if (a1).toInt < 5 ∨ 11 < (a1).toInt then some (103) else #[44, 52, 60, 68, 76, 84, 92][((a1).toInt - 5).toNat]?) (o' := some (103)) rfl (if_pos (by omega)) rfl ?_
    refine Wp.run (WpD.mono _) 0 (q := ((125, [some (.inr (.inr (0, 0))), some (.inl a1)], [.inl (Int32.ofInt (-2))]), q1.2)) rfl ?_
    obtain ⟨rfl, rfl⟩ := ret_inj h
    exact Wp.ret (WpD.mono _) rfl hQ
  · have h := (if_neg hc).symm.trans h
    show Wp (WpD (e + 1)) hcX11_count Q (9, [some (.inr (.inr (0, 0))), some (.inl a1)], []) q1.2
    refine Wp.run (WpD.mono _) 3 (q := ((17, [some (.inr (.inr (0, 0))), some (.inl a1)], [.inl a1, .inr (.inr (28, 0))]), q1.2)) rfl ?_
    obtain ⟨hc, h⟩ := ite_nn h
    refine Wp.X_ild1 (WpD.mono _) rfl rfl hc ?_
    show Wp (WpD (e + 1)) hcX11_count Q (18, [some (.inr (.inr (0, 0))), some (.inl a1)], [.inl (q1.2.2.2.1 28 0 (a1).toNatClampNeg)]) q1.2
    obtain ⟨rfl, rfl⟩ := ret_inj h
    exact Wp.ret (WpD.mono _) rfl hQ

set_option maxRecDepth 100000 in
set_option maxHeartbeats 4000000 in
theorem T_X7_deepen_b49 (e N : Nat)   (r : Int32) (τ : Mem) (Q : Pst) (hQ : Q (some (.inl r)) τ) : ∀ (x1 : Int32) (σ : Mem), F_X7_deepen_b49 N x1 σ = some (r, τ) → Wp (WpD (e + 0)) hcX7_deepen Q (49, [some (.inr (.inr (4, 0))), some (.inl x1), none], []) σ := by
  intro x1 σ h
  unfold F_X7_deepen_b49 at h
  refine Wp.run (WpD.mono _) 2 (q := ((54, [some (.inr (.inr (4, 0))), some (.inl x1), none], [.inl x1, .inr (.inr (58, 0))]), σ)) rfl ?_
  obtain ⟨hc, h⟩ := ite_nn h
  refine Wp.X_ild1 (WpD.mono _) rfl rfl hc ?_
  show Wp (WpD (e + 0)) hcX7_deepen Q (55, [some (.inr (.inr (4, 0))), some (.inl x1), none], [.inl (σ.2.2.1 58 0 (x1).toNatClampNeg)]) σ
  obtain ⟨rfl, rfl⟩ := ret_inj h
  exact Wp.ret (WpD.mono _) rfl hQ

set_option maxRecDepth 100000 in
set_option maxHeartbeats 4000000 in
theorem T_X7_deepen (e N : Nat)  (a1 : Int32) (a2 : Int32) (σ : Mem) (r : Int32) (τ : Mem) (Q : Pst) (h : F_X7_deepen N a1 a2 σ = some (r, τ)) (hQ : Q (some (.inl r)) τ) : WpD (e + 1) mX7_deepen [.inr (.inr (4, 0)), .inl a1, .inl a2] σ Q := by
  refine WpD.of (d := e + 0) (Nat.le_of_ble_eq_true rfl) (Nat.le_of_ble_eq_true rfl) ?_
  show Wp (WpD (e + 0)) hcX7_deepen Q (0, [some (.inr (.inr (4, 0))), some (.inl a1), some (.inl a2)], []) σ
  unfold F_X7_deepen at h
  refine Wp.run (WpD.mono _) 1 (q := ((2, [some (.inr (.inr (4, 0))), some (.inl a1), some (.inl a2)], [.inl (3 : Int32), .inl a2]), σ)) rfl ?_
  refine Wp.if2_ne (WpD.mono _) rfl rfl (fun hc => ?_) (fun hc => ?_)
  · have h := (if_pos hc).symm.trans h
    show Wp (WpD (e + 0)) hcX7_deepen Q (5, [some (.inr (.inr (4, 0))), some (.inl a1), some (.inl a2)], []) σ
    refine Wp.run (WpD.mono _) 3 (q := ((11, [some (.inr (.inr (4, 0))), some (.inl a1), some (.inl a2)], [.inl (1 : Int32), .inl a1, .inr (.inr (59, 0))]), σ)) rfl ?_
    obtain ⟨hc, h⟩ := ite_nn h
    refine Wp.X_zst (WpD.mono _) rfl rfl hc ?_
    show Wp (WpD (e + 0)) hcX7_deepen Q (12, [some (.inr (.inr (4, 0))), some (.inl a1), some (.inl a2)], []) (σ.1, σ.2.1, (hwU3 σ.2.2.1 59 0 (a1).toNatClampNeg (1 : Int32)), σ.2.2.2.1, σ.2.2.2.2)
    refine Wp.run (WpD.mono _) 0 (q := ((49, [some (.inr (.inr (4, 0))), some (.inl a1), some (.inl a2)], []), (σ.1, σ.2.1, (hwU3 σ.2.2.1 59 0 (a1).toNatClampNeg (1 : Int32)), σ.2.2.2.1, σ.2.2.2.2))) rfl ?_
    exact Wp.jump (WpD.mono _) rfl ((T_X7_deepen_b49 e N  r τ Q hQ ) a1 (σ.1, σ.2.1, (hwU3 σ.2.2.1 59 0 (a1).toNatClampNeg (1 : Int32)), σ.2.2.2.1, σ.2.2.2.2) h)
  · have h := (if_neg hc).symm.trans h
    show Wp (WpD (e + 0)) hcX7_deepen Q (15, [some (.inr (.inr (4, 0))), some (.inl a1), some (.inl a2)], []) σ
    refine Wp.run (WpD.mono _) 2 (q := ((20, [some (.inr (.inr (4, 0))), some (.inl a1), some (.inl a2)], [.inl a1, .inr (.inr (58, 0))]), σ)) rfl ?_
    obtain ⟨hc, h⟩ := ite_nn h
    refine Wp.X_ild1 (WpD.mono _) rfl rfl hc ?_
    show Wp (WpD (e + 0)) hcX7_deepen Q (21, [some (.inr (.inr (4, 0))), some (.inl a1), some (.inl a2)], [.inl (σ.2.2.1 58 0 (a1).toNatClampNeg)]) σ
    refine Wp.run (WpD.mono _) 0 (q := ((22, [some (.inr (.inr (4, 0))), some (.inl a1), some (.inl a2)], [.inl (5 : Int32), .inl (σ.2.2.1 58 0 (a1).toNatClampNeg)]), σ)) rfl ?_
    refine Wp.if2_ge (WpD.mono _) rfl rfl (fun hc => ?_) (fun hc => ?_)
    · have h := (if_pos hc).symm.trans h
      show Wp (WpD (e + 0)) hcX7_deepen Q (49, [some (.inr (.inr (4, 0))), some (.inl a1), some (.inl a2)], []) σ
      exact Wp.jump (WpD.mono _) rfl ((T_X7_deepen_b49 e N  r τ Q hQ ) a1 σ h)
    · have h := (if_neg hc).symm.trans h
      show Wp (WpD (e + 0)) hcX7_deepen Q (25, [some (.inr (.inr (4, 0))), some (.inl a1), some (.inl a2)], []) σ
      refine Wp.run (WpD.mono _) 2 (q := ((30, [some (.inr (.inr (4, 0))), some (.inl a1), some (.inl a2)], [.inl a1, .inr (.inr (56, 0))]), σ)) rfl ?_
      obtain ⟨hc, h⟩ := ite_nn h
      refine Wp.X_rld4 (WpD.mono _) rfl rfl hc ?_
      show Wp (WpD (e + 0)) hcX7_deepen Q (31, [some (.inr (.inr (4, 0))), some (.inl a1), some (.inl a2)], [.inr (.inr (57, (a1).toNatClampNeg))]) σ
      refine Wp.run (WpD.mono _) 2 (q := ((36, [some (.inr (.inr (4, 0))), some (.inl a1), some (.inl a2)], [.inl a1, .inr (.inr (58, 0)), .inr (.inr (57, (a1).toNatClampNeg))]), σ)) rfl ?_
      obtain ⟨hc, h⟩ := ite_nn h
      refine Wp.X_ild1 (WpD.mono _) rfl rfl hc ?_
      show Wp (WpD (e + 0)) hcX7_deepen Q (37, [some (.inr (.inr (4, 0))), some (.inl a1), some (.inl a2)], [.inl (σ.2.2.1 58 0 (a1).toNatClampNeg), .inr (.inr (57, (a1).toNatClampNeg))]) σ
      refine Wp.run (WpD.mono _) 0 (q := ((38, [some (.inr (.inr (4, 0))), some (.inl a1), some (.inl a2)], [.inl a2, .inl (σ.2.2.1 58 0 (a1).toNatClampNeg), .inr (.inr (57, (a1).toNatClampNeg))]), σ)) rfl ?_
      obtain ⟨hc, h⟩ := ite_nn h
      refine Wp.X_ist (WpD.mono _) rfl rfl hc ?_
      show Wp (WpD (e + 0)) hcX7_deepen Q (39, [some (.inr (.inr (4, 0))), some (.inl a1), some (.inl a2)], []) (σ.1, σ.2.1, (hwU3 σ.2.2.1 57 (a1).toNatClampNeg ((σ.2.2.1 58 0 (a1).toNatClampNeg)).toNatClampNeg a2), σ.2.2.2.1, σ.2.2.2.2)
      refine Wp.run (WpD.mono _) 3 (q := ((45, [some (.inr (.inr (4, 0))), some (.inl a1), some (.inl a2)], [.inl a1, .inr (.inr (58, 0)), .inl a1, .inr (.inr (58, 0))]), (σ.1, σ.2.1, (hwU3 σ.2.2.1 57 (a1).toNatClampNeg ((σ.2.2.1 58 0 (a1).toNatClampNeg)).toNatClampNeg a2), σ.2.2.2.1, σ.2.2.2.2))) rfl ?_
      obtain ⟨hc, h⟩ := ite_nn h
      refine Wp.X_ild1 (WpD.mono _) rfl rfl hc ?_
      show Wp (WpD (e + 0)) hcX7_deepen Q (46, [some (.inr (.inr (4, 0))), some (.inl a1), some (.inl a2)], [.inl (σ.2.2.1 58 0 (a1).toNatClampNeg), .inl a1, .inr (.inr (58, 0))]) (σ.1, σ.2.1, (hwU3 σ.2.2.1 57 (a1).toNatClampNeg ((σ.2.2.1 58 0 (a1).toNatClampNeg)).toNatClampNeg a2), σ.2.2.2.1, σ.2.2.2.2)
      refine Wp.run (WpD.mono _) 1 (q := ((48, [some (.inr (.inr (4, 0))), some (.inl a1), some (.inl a2)], [.inl ((σ.2.2.1 58 0 (a1).toNatClampNeg) + (1 : Int32)), .inl a1, .inr (.inr (58, 0))]), (σ.1, σ.2.1, (hwU3 σ.2.2.1 57 (a1).toNatClampNeg ((σ.2.2.1 58 0 (a1).toNatClampNeg)).toNatClampNeg a2), σ.2.2.2.1, σ.2.2.2.2))) rfl ?_
      obtain ⟨hc, h⟩ := ite_nn h
      refine Wp.X_ist (WpD.mono _) rfl rfl hc ?_
      show Wp (WpD (e + 0)) hcX7_deepen Q (49, [some (.inr (.inr (4, 0))), some (.inl a1), some (.inl a2)], []) (σ.1, σ.2.1, (hwU3 (hwU3 σ.2.2.1 57 (a1).toNatClampNeg ((σ.2.2.1 58 0 (a1).toNatClampNeg)).toNatClampNeg a2) 58 0 (a1).toNatClampNeg ((σ.2.2.1 58 0 (a1).toNatClampNeg) + (1 : Int32))), σ.2.2.2.1, σ.2.2.2.2)
      exact Wp.jump (WpD.mono _) rfl ((T_X7_deepen_b49 e N  r τ Q hQ ) a1 (σ.1, σ.2.1, (hwU3 (hwU3 σ.2.2.1 57 (a1).toNatClampNeg ((σ.2.2.1 58 0 (a1).toNatClampNeg)).toNatClampNeg a2) 58 0 (a1).toNatClampNeg ((σ.2.2.1 58 0 (a1).toNatClampNeg) + (1 : Int32))), σ.2.2.2.1, σ.2.2.2.2) h)

set_option maxRecDepth 100000 in
set_option maxHeartbeats 4000000 in
theorem T_X11_dig (e N : Nat)  (a1 : Int32) (a2 : Int32) (σ : Mem) (r : Int32) (τ : Mem) (Q : Pst) (h : F_X11_dig N a1 a2 σ = some (r, τ)) (hQ : Q (some (.inl r)) τ) : WpD (e + 3) mX11_dig [.inr (.inr (0, 0)), .inl a1, .inl a2] σ Q := by
  refine WpD.of (d := e + 2) (Nat.le_of_ble_eq_true rfl) (Nat.le_of_ble_eq_true rfl) ?_
  show Wp (WpD (e + 2)) hcX11_dig Q (0, [some (.inr (.inr (0, 0))), some (.inl a1), some (.inl a2)], []) σ
  unfold F_X11_dig at h
  refine Wp.run (WpD.mono _) 1 (q := ((2, [some (.inr (.inr (0, 0))), some (.inl a1), some (.inl a2)], [.inl a1, .inr (.inr (0, 0))]), σ)) rfl ?_
  obtain ⟨q1, hb, h⟩ := bind_some h
  refine Wp.call (WpD.mono _) rfl (T_X11_isPlace (e + 0) N a1 σ _ _ _ hb ?_)
  show Wp (WpD (e + 2)) hcX11_dig Q (5, [some (.inr (.inr (0, 0))), some (.inl a1), some (.inl a2)], [.inl q1.1]) q1.2
  refine Wp.if0_ne (WpD.mono _) rfl rfl (fun hc => ?_) (fun hc => ?_)
  · have h := (if_pos hc).symm.trans h
    show Wp (WpD (e + 2)) hcX11_dig Q (8, [some (.inr (.inr (0, 0))), some (.inl a1), some (.inl a2)], []) q1.2
    refine Wp.run (WpD.mono _) 0 (q := ((9, [some (.inr (.inr (0, 0))), some (.inl a1), some (.inl a2)], [.inl (Int32.ofInt (-1))]), q1.2)) rfl ?_
    obtain ⟨rfl, rfl⟩ := ret_inj h
    exact Wp.ret (WpD.mono _) rfl hQ
  · have h := (if_neg hc).symm.trans h
    show Wp (WpD (e + 2)) hcX11_dig Q (10, [some (.inr (.inr (0, 0))), some (.inl a1), some (.inl a2)], []) q1.2
    refine Wp.run (WpD.mono _) 2 (q := ((13, [some (.inr (.inr (0, 0))), some (.inl a1), some (.inl a2)], [.inl (3 : Int32), .inl (0 : Int32), .inl a2]), q1.2)) rfl ?_
    obtain ⟨q2, hb, h⟩ := bind_some h
    refine Wp.call (WpD.mono _) rfl (T_X11_within (e + 1) N a2 (0 : Int32) (3 : Int32) q1.2 _ _ _ hb ?_)
    show Wp (WpD (e + 2)) hcX11_dig Q (16, [some (.inr (.inr (0, 0))), some (.inl a1), some (.inl a2)], [.inl q2.1]) q2.2
    refine Wp.if0_ne (WpD.mono _) rfl rfl (fun hc => ?_) (fun hc => ?_)
    · have h := (if_pos hc).symm.trans h
      show Wp (WpD (e + 2)) hcX11_dig Q (19, [some (.inr (.inr (0, 0))), some (.inl a1), some (.inl a2)], []) q2.2
      refine Wp.run (WpD.mono _) 0 (q := ((21, [some (.inr (.inr (0, 0))), some (.inl a1), some (.inl a2)], [.inl (Int32.ofInt (-2))]), q2.2)) rfl ?_
      obtain ⟨rfl, rfl⟩ := ret_inj h
      exact Wp.ret (WpD.mono _) rfl hQ
    · have h := (if_neg hc).symm.trans h
      show Wp (WpD (e + 2)) hcX11_dig Q (22, [some (.inr (.inr (0, 0))), some (.inl a1), some (.inl a2)], []) q2.2
      refine Wp.run (WpD.mono _) 3 (q := ((30, [some (.inr (.inr (0, 0))), some (.inl a1), some (.inl a2)], [.inl a1, .inr (.inr (59, 0))]), q2.2)) rfl ?_
      obtain ⟨hc, h⟩ := ite_nn h
      refine Wp.X_zld (WpD.mono _) rfl rfl hc ?_
      show Wp (WpD (e + 2)) hcX11_dig Q (31, [some (.inr (.inr (0, 0))), some (.inl a1), some (.inl a2)], [.inl (q2.2.2.2.1 59 0 (a1).toNatClampNeg)]) q2.2
      refine Wp.if0_ne (WpD.mono _) rfl rfl (fun hc => ?_) (fun hc => ?_)
      · have h := (if_pos hc).symm.trans h
        show Wp (WpD (e + 2)) hcX11_dig Q (34, [some (.inr (.inr (0, 0))), some (.inl a1), some (.inl a2)], []) q2.2
        refine Wp.run (WpD.mono _) 3 (q := ((42, [some (.inr (.inr (0, 0))), some (.inl a1), some (.inl a2)], [.inl a1, .inr (.inr (58, 0))]), q2.2)) rfl ?_
        obtain ⟨hc, h⟩ := ite_nn h
        refine Wp.X_ild1 (WpD.mono _) rfl rfl hc ?_
        show Wp (WpD (e + 2)) hcX11_dig Q (43, [some (.inr (.inr (0, 0))), some (.inl a1), some (.inl a2)], [.inl (q2.2.2.2.1 58 0 (a1).toNatClampNeg)]) q2.2
        refine Wp.run (WpD.mono _) 1 (q := ((47, [some (.inr (.inr (0, 0))), some (.inl a1), some (.inl a2)], [.inr (.inr (1, 0)), .inl (q2.2.2.2.1 58 0 (a1).toNatClampNeg)]), q2.2)) rfl ?_
        obtain ⟨q3, hb, h⟩ := bind_some h
        refine Wp.call (WpD.mono _) rfl (T_X2_deepest (e + 1) N q2.2 _ _ _ hb ?_)
        show Wp (WpD (e + 2)) hcX11_dig Q (50, [some (.inr (.inr (0, 0))), some (.inl a1), some (.inl a2)], [.inl q3.1, .inl (q2.2.2.2.1 58 0 (a1).toNatClampNeg)]) q3.2
        refine Wp.if2_lt (WpD.mono _) rfl rfl (fun hc => ?_) (fun hc => ?_)
        · have h := (if_pos hc).symm.trans h
          show Wp (WpD (e + 2)) hcX11_dig Q (56, [some (.inr (.inr (0, 0))), some (.inl a1), some (.inl a2)], []) q3.2
          refine Wp.run (WpD.mono _) 3 (q := ((62, [some (.inr (.inr (0, 0))), some (.inl a1), some (.inl a2)], [.inl a2, .inl a1, .inr (.inr (4, 0))]), q3.2)) rfl ?_
          obtain ⟨q4, hb, h⟩ := bind_some h
          refine Wp.call (WpD.mono _) rfl (T_X7_deepen (e + 1) N a1 a2 q3.2 _ _ _ hb ?_)
          show Wp (WpD (e + 2)) hcX11_dig Q (65, [some (.inr (.inr (0, 0))), some (.inl a1), some (.inl a2)], [.inl q4.1]) q4.2
          obtain ⟨rfl, rfl⟩ := ret_inj h
          exact Wp.ret (WpD.mono _) rfl hQ
        · have h := (if_neg hc).symm.trans h
          show Wp (WpD (e + 2)) hcX11_dig Q (53, [some (.inr (.inr (0, 0))), some (.inl a1), some (.inl a2)], []) q3.2
          refine Wp.run (WpD.mono _) 0 (q := ((55, [none, none, none], [.inl (Int32.ofInt (-3))]), q3.2)) rfl ?_
          obtain ⟨rfl, rfl⟩ := ret_inj h
          exact Wp.ret (WpD.mono _) rfl hQ
      · have h := (if_neg hc).symm.trans h
        show Wp (WpD (e + 2)) hcX11_dig Q (53, [some (.inr (.inr (0, 0))), some (.inl a1), some (.inl a2)], []) q2.2
        refine Wp.run (WpD.mono _) 0 (q := ((55, [none, none, none], [.inl (Int32.ofInt (-3))]), q2.2)) rfl ?_
        obtain ⟨rfl, rfl⟩ := ret_inj h
        exact Wp.ret (WpD.mono _) rfl hQ

set_option maxRecDepth 100000 in
set_option maxHeartbeats 4000000 in
theorem T_X6_wordWorth (e N : Nat)  (a1 : Int32) (a2 : Int32) (σ : Mem) (r : Int64) (τ : Mem) (Q : Pst) (h : F_X6_wordWorth N a1 a2 σ = some (r, τ)) (hQ : Q (some (.inr (.inl r))) τ) : WpD (e + 13) mX6_wordWorth [.inr (.inr (8, 0)), .inl a1, .inl a2] σ Q := by
  refine WpD.of (d := e + 12) (Nat.le_of_ble_eq_true rfl) (Nat.le_of_ble_eq_true rfl) ?_
  show Wp (WpD (e + 12)) hcX6_wordWorth Q (0, [some (.inr (.inr (8, 0))), some (.inl a1), some (.inl a2), none, none, none, none], []) σ
  unfold F_X6_wordWorth at h
  refine Wp.run (WpD.mono _) 3 (q := ((6, [some (.inr (.inr (8, 0))), some (.inl a1), some (.inl a2), none, none, none, none], [.inr (.inr (1, 0)), .inl a1, .inr (.inr (8, 0))]), σ)) rfl ?_
  obtain ⟨q1, hb, h⟩ := bind_some h
  refine Wp.call (WpD.mono _) rfl (T_X2_worth (e + 11) N σ _ _ _ hb ?_)
  show Wp (WpD (e + 12)) hcX6_wordWorth Q (9, [some (.inr (.inr (8, 0))), some (.inl a1), some (.inl a2), none, none, none, none], [.inl q1.1, .inl a1, .inr (.inr (8, 0))]) q1.2
  obtain ⟨q2, hb, h⟩ := bind_some h
  refine Wp.call (WpD.mono _) rfl (T_X6_goingOn (e + 0) N a1 q1.1 q1.2 _ _ _ hb ?_)
  show Wp (WpD (e + 12)) hcX6_wordWorth Q (12, [some (.inr (.inr (8, 0))), some (.inl a1), some (.inl a2), none, none, none, none], [.inr (.inl q2.1)]) q2.2
  refine Wp.run (WpD.mono _) 4 (q := ((19, [some (.inr (.inr (8, 0))), some (.inl a1), some (.inl a2), some (.inr (.inl q2.1)), none, none, none], [.inr (.inr (1, 0)), .inl a1, .inr (.inr (8, 0))]), q2.2)) rfl ?_
  obtain ⟨q3, hb, h⟩ := bind_some h
  refine Wp.call (WpD.mono _) rfl (T_X2_worth (e + 11) N q2.2 _ _ _ hb ?_)
  show Wp (WpD (e + 12)) hcX6_wordWorth Q (22, [some (.inr (.inr (8, 0))), some (.inl a1), some (.inl a2), some (.inr (.inl q2.1)), none, none, none], [.inl q3.1, .inl a1, .inr (.inr (8, 0))]) q3.2
  refine Wp.run (WpD.mono _) 0 (q := ((23, [some (.inr (.inr (8, 0))), some (.inl a1), some (.inl a2), some (.inr (.inl q2.1)), none, none, none], [.inl (0 : Int32), .inl q3.1, .inl a1, .inr (.inr (8, 0))]), q3.2)) rfl ?_
  obtain ⟨q4, hb, h⟩ := bind_some h
  refine Wp.call (WpD.mono _) rfl (T_X6_gain (e + 10) N a1 q3.1 (0 : Int32) q3.2 _ _ _ hb ?_)
  show Wp (WpD (e + 12)) hcX6_wordWorth Q (26, [some (.inr (.inr (8, 0))), some (.inl a1), some (.inl a2), some (.inr (.inl q2.1)), none, none, none], [.inr (.inl q4.1)]) q4.2
  refine Wp.run (WpD.mono _) 7 (q := ((42, [some (.inr (.inr (8, 0))), some (.inl a1), some (.inl a2), some (.inr (.inl q2.1)), none, some (.inr (.inl q4.1)), none], [.inl a1, .inr (.inr (42, 0)), .inr (.inl (1000000 : Int64)), .inr (.inl q4.1), .inr (.inl q2.1)]), q4.2)) rfl ?_
  obtain ⟨hc, h⟩ := ite_nn h
  refine Wp.X_ild1 (WpD.mono _) rfl rfl hc ?_
  show Wp (WpD (e + 12)) hcX6_wordWorth Q (43, [some (.inr (.inr (8, 0))), some (.inl a1), some (.inl a2), some (.inr (.inl q2.1)), none, some (.inr (.inl q4.1)), none], [.inl (q4.2.2.2.1 42 0 (a1).toNatClampNeg), .inr (.inl (1000000 : Int64)), .inr (.inl q4.1), .inr (.inl q2.1)]) q4.2
  refine Wp.run (WpD.mono _) 3 (q := ((47, [some (.inr (.inr (8, 0))), some (.inl a1), some (.inl a2), some (.inr (.inl q2.1)), none, some (.inr (.inl q4.1)), none], [.inl a1, .inr (.inr (8, 0)), .inr (.inl ((1000000 : Int64) * (q4.2.2.2.1 42 0 (a1).toNatClampNeg).toInt64)), .inr (.inl q4.1), .inr (.inl q2.1)]), q4.2)) rfl ?_
  obtain ⟨q5, hb, h⟩ := bind_some h
  refine Wp.call (WpD.mono _) rfl (T_X6_wet (e + 10) N a1 q4.2 _ _ _ hb ?_)
  show Wp (WpD (e + 12)) hcX6_wordWorth Q (50, [some (.inr (.inr (8, 0))), some (.inl a1), some (.inl a2), some (.inr (.inl q2.1)), none, some (.inr (.inl q4.1)), none], [.inr (.inl q5.1), .inr (.inl ((1000000 : Int64) * (q4.2.2.2.1 42 0 (a1).toNatClampNeg).toInt64)), .inr (.inl q4.1), .inr (.inl q2.1)]) q5.2
  refine Wp.run (WpD.mono _) 0 (q := ((51, [some (.inr (.inr (8, 0))), some (.inl a1), some (.inl a2), some (.inr (.inl q2.1)), none, some (.inr (.inl q4.1)), none], [.inl a2, .inr (.inl q5.1), .inr (.inl ((1000000 : Int64) * (q4.2.2.2.1 42 0 (a1).toNatClampNeg).toInt64)), .inr (.inl q4.1), .inr (.inl q2.1)]), q5.2)) rfl ?_
  obtain ⟨q6, hb, h⟩ := bind_some h
  refine Wp.call (WpD.mono _) rfl (T_X6_spoken (e + 10) N q2.1 q4.1 ((1000000 : Int64) * (q4.2.2.2.1 42 0 (a1).toNatClampNeg).toInt64) q5.1 a2 q5.2 _ _ _ hb ?_)
  show Wp (WpD (e + 12)) hcX6_wordWorth Q (54, [some (.inr (.inr (8, 0))), some (.inl a1), some (.inl a2), some (.inr (.inl q2.1)), none, some (.inr (.inl q4.1)), none], [.inr (.inl q6.1)]) q6.2
  obtain ⟨rfl, rfl⟩ := ret_inj h
  exact Wp.ret (WpD.mono _) rfl hQ

set_option maxRecDepth 100000 in
set_option maxHeartbeats 4000000 in
theorem T_X11_diviner (e N : Nat)  (a1 : Int32) (a2 : Int32) (σ : Mem) (r : Int64) (τ : Mem) (Q : Pst) (h : F_X11_diviner N a1 a2 σ = some (r, τ)) (hQ : Q (some (.inr (.inl r))) τ) : WpD (e + 14) mX11_diviner [.inr (.inr (0, 0)), .inl a1, .inl a2] σ Q := by
  refine WpD.of (d := e + 13) (Nat.le_of_ble_eq_true rfl) (Nat.le_of_ble_eq_true rfl) ?_
  show Wp (WpD (e + 13)) hcX11_diviner Q (0, [some (.inr (.inr (0, 0))), some (.inl a1), some (.inl a2), none], []) σ
  unfold F_X11_diviner at h
  refine Wp.run (WpD.mono _) 1 (q := ((2, [some (.inr (.inr (0, 0))), some (.inl a1), some (.inl a2), none], [.inl a1, .inr (.inr (0, 0))]), σ)) rfl ?_
  obtain ⟨q1, hb, h⟩ := bind_some h
  refine Wp.call (WpD.mono _) rfl (T_X11_isPlace (e + 11) N a1 σ _ _ _ hb ?_)
  show Wp (WpD (e + 13)) hcX11_diviner Q (5, [some (.inr (.inr (0, 0))), some (.inl a1), some (.inl a2), none], [.inl q1.1]) q1.2
  refine Wp.if0_eq (WpD.mono _) rfl rfl (fun hc => ?_) (fun hc => ?_)
  · have h := (if_pos hc).symm.trans h
    show Wp (WpD (e + 13)) hcX11_diviner Q (18, [some (.inr (.inr (0, 0))), some (.inl a1), some (.inl a2), none], []) q1.2
    refine Wp.run (WpD.mono _) 0 (q := ((21, [none, none, none, none], [.inr (.inl (Int64.ofInt (-4611686018427387904)))]), q1.2)) rfl ?_
    obtain ⟨rfl, rfl⟩ := ret_inj h
    exact Wp.ret (WpD.mono _) rfl hQ
  · have h := (if_neg hc).symm.trans h
    show Wp (WpD (e + 13)) hcX11_diviner Q (8, [some (.inr (.inr (0, 0))), some (.inl a1), some (.inl a2), none], []) q1.2
    refine Wp.run (WpD.mono _) 2 (q := ((12, [some (.inr (.inr (0, 0))), some (.inl a1), some (.inl a2), none], [.inl (100 : Int32), .inl (0 : Int32), .inl a2]), q1.2)) rfl ?_
    obtain ⟨q2, hb, h⟩ := bind_some h
    refine Wp.call (WpD.mono _) rfl (T_X11_within (e + 12) N a2 (0 : Int32) (100 : Int32) q1.2 _ _ _ hb ?_)
    show Wp (WpD (e + 13)) hcX11_diviner Q (15, [some (.inr (.inr (0, 0))), some (.inl a1), some (.inl a2), none], [.inl q2.1]) q2.2
    refine Wp.if0_ne (WpD.mono _) rfl rfl (fun hc => ?_) (fun hc => ?_)
    · have h := (if_pos hc).symm.trans h
      show Wp (WpD (e + 13)) hcX11_diviner Q (18, [some (.inr (.inr (0, 0))), some (.inl a1), some (.inl a2), none], []) q2.2
      refine Wp.run (WpD.mono _) 0 (q := ((21, [none, none, none, none], [.inr (.inl (Int64.ofInt (-4611686018427387904)))]), q2.2)) rfl ?_
      obtain ⟨rfl, rfl⟩ := ret_inj h
      exact Wp.ret (WpD.mono _) rfl hQ
    · have h := (if_neg hc).symm.trans h
      show Wp (WpD (e + 13)) hcX11_diviner Q (22, [some (.inr (.inr (0, 0))), some (.inl a1), some (.inl a2), none], []) q2.2
      refine Wp.run (WpD.mono _) 2 (q := ((27, [some (.inr (.inr (0, 0))), some (.inl a1), some (.inl a2), none], [.inl a1, .inr (.inr (8, 0))]), q2.2)) rfl ?_
      obtain ⟨q3, hb, h⟩ := bind_some h
      refine Wp.call (WpD.mono _) rfl (T_X6_openYard (e + 9) N a1 q2.2 _ _ _ hb ?_)
      show Wp (WpD (e + 13)) hcX11_diviner Q (30, [some (.inr (.inr (0, 0))), some (.inl a1), some (.inl a2), none], [.inl q3.1]) q3.2
      refine Wp.run (WpD.mono _) 1 (q := ((32, [some (.inr (.inr (0, 0))), some (.inl a1), some (.inl a2), some (.inl q3.1)], [.inl q3.1]), q3.2)) rfl ?_
      refine Wp.if0_ne (WpD.mono _) rfl rfl (fun hc => ?_) (fun hc => ?_)
      · have h := (if_pos hc).symm.trans h
        show Wp (WpD (e + 13)) hcX11_diviner Q (35, [some (.inr (.inr (0, 0))), some (.inl a1), some (.inl a2), some (.inl q3.1)], []) q3.2
        refine Wp.run (WpD.mono _) 0 (q := ((38, [some (.inr (.inr (0, 0))), some (.inl a1), some (.inl a2), some (.inl q3.1)], [.inr (.inl (Int64.ofInt (-3)))]), q3.2)) rfl ?_
        obtain ⟨rfl, rfl⟩ := ret_inj h
        exact Wp.ret (WpD.mono _) rfl hQ
      · have h := (if_neg hc).symm.trans h
        show Wp (WpD (e + 13)) hcX11_diviner Q (39, [some (.inr (.inr (0, 0))), some (.inl a1), some (.inl a2), some (.inl q3.1)], []) q3.2
        refine Wp.run (WpD.mono _) 2 (q := ((44, [some (.inr (.inr (0, 0))), some (.inl a1), some (.inl a2), some (.inl q3.1)], [.inr (.inr (1, 0)), .inl q3.1]), q3.2)) rfl ?_
        obtain ⟨q4, hb, h⟩ := bind_some h
        refine Wp.call (WpD.mono _) rfl (T_X2_deepest (e + 12) N q3.2 _ _ _ hb ?_)
        show Wp (WpD (e + 13)) hcX11_diviner Q (47, [some (.inr (.inr (0, 0))), some (.inl a1), some (.inl a2), some (.inl q3.1)], [.inl q4.1, .inl q3.1]) q4.2
        refine Wp.if2_le (WpD.mono _) rfl rfl (fun hc => ?_) (fun hc => ?_)
        · have h := (if_pos hc).symm.trans h
          show Wp (WpD (e + 13)) hcX11_diviner Q (54, [some (.inr (.inr (0, 0))), some (.inl a1), some (.inl a2), some (.inl q3.1)], []) q4.2
          refine Wp.run (WpD.mono _) 3 (q := ((60, [some (.inr (.inr (0, 0))), some (.inl a1), some (.inl a2), some (.inl q3.1)], [.inl a2, .inl q3.1, .inr (.inr (8, 0))]), q4.2)) rfl ?_
          obtain ⟨q5, hb, h⟩ := bind_some h
          refine Wp.call (WpD.mono _) rfl (T_X6_wordWorth (e + 0) N q3.1 a2 q4.2 _ _ _ hb ?_)
          show Wp (WpD (e + 13)) hcX11_diviner Q (63, [some (.inr (.inr (0, 0))), some (.inl a1), some (.inl a2), some (.inl q3.1)], [.inr (.inl q5.1)]) q5.2
          obtain ⟨rfl, rfl⟩ := ret_inj h
          exact Wp.ret (WpD.mono _) rfl hQ
        · have h := (if_neg hc).symm.trans h
          show Wp (WpD (e + 13)) hcX11_diviner Q (50, [some (.inr (.inr (0, 0))), some (.inl a1), some (.inl a2), some (.inl q3.1)], []) q4.2
          refine Wp.run (WpD.mono _) 1 (q := ((63, [some (.inr (.inr (0, 0))), some (.inl a1), some (.inl a2), some (.inl q3.1)], [.inr (.inl (0 : Int64))]), q4.2)) rfl ?_
          obtain ⟨rfl, rfl⟩ := ret_inj h
          exact Wp.ret (WpD.mono _) rfl hQ

set_option maxRecDepth 100000 in
set_option maxHeartbeats 4000000 in
theorem T_X11_isRule (e N : Nat)  (a1 : Int32) (σ : Mem) (r : Int32) (τ : Mem) (Q : Pst) (h : F_X11_isRule N a1 σ = some (r, τ)) (hQ : Q (some (.inl r)) τ) : WpD (e + 2) mX11_isRule [.inr (.inr (0, 0)), .inl a1] σ Q := by
  refine WpD.of (d := e + 1) (Nat.le_of_ble_eq_true rfl) (Nat.le_of_ble_eq_true rfl) ?_
  show Wp (WpD (e + 1)) hcX11_isRule Q (0, [some (.inr (.inr (0, 0))), some (.inl a1)], []) σ
  unfold F_X11_isRule at h
  refine Wp.run (WpD.mono _) 6 (q := ((11, [some (.inr (.inr (0, 0))), some (.inl a1)], [.inl ((σ.1 6 4) - (1 : Int32)), .inl (0 : Int32), .inl a1]), σ)) rfl ?_
  obtain ⟨q1, hb, h⟩ := bind_some h
  refine Wp.call (WpD.mono _) rfl (T_X11_within (e + 0) N a1 (0 : Int32) ((σ.1 6 4) - (1 : Int32)) σ _ _ _ hb ?_)
  show Wp (WpD (e + 1)) hcX11_isRule Q (14, [some (.inr (.inr (0, 0))), some (.inl a1)], [.inl q1.1]) q1.2
  obtain ⟨hc, h⟩ := ite_yy h
  obtain ⟨rfl, rfl⟩ := ret_inj h
  exact Wp.retZ (WpD.mono _) rfl hc hQ

set_option maxRecDepth 100000 in
set_option maxHeartbeats 4000000 in
theorem T_X11_drawn (e N : Nat)  (a1 : Int32) (a2 : Int32) (a3 : Int32) (a4 : Int32) (σ : Mem) (r : Int32) (τ : Mem) (Q : Pst) (h : F_X11_drawn N a1 a2 a3 a4 σ = some (r, τ)) (hQ : Q (some (.inl r)) τ) : WpD (e + 15) mX11_drawn [.inr (.inr (0, 0)), .inl a1, .inl a2, .inl a3, .inl a4] σ Q := by
  refine WpD.of (d := e + 14) (Nat.le_of_ble_eq_true rfl) (Nat.le_of_ble_eq_true rfl) ?_
  show Wp (WpD (e + 14)) hcX11_drawn Q (0, [some (.inr (.inr (0, 0))), some (.inl a1), some (.inl a2), some (.inl a3), some (.inl a4)], []) σ
  unfold F_X11_drawn at h
  refine Wp.run (WpD.mono _) 1 (q := ((2, [some (.inr (.inr (0, 0))), some (.inl a1), some (.inl a2), some (.inl a3), some (.inl a4)], [.inl a1, .inr (.inr (0, 0))]), σ)) rfl ?_
  obtain ⟨q1, hb, h⟩ := bind_some h
  refine Wp.call (WpD.mono _) rfl (T_X11_isRule (e + 12) N a1 σ _ _ _ hb ?_)
  show Wp (WpD (e + 14)) hcX11_drawn Q (5, [some (.inr (.inr (0, 0))), some (.inl a1), some (.inl a2), some (.inl a3), some (.inl a4)], [.inl q1.1]) q1.2
  refine Wp.if0_eq (WpD.mono _) rfl rfl (fun hc => ?_) (fun hc => ?_)
  · have h := (if_pos hc).symm.trans h
    show Wp (WpD (e + 14)) hcX11_drawn Q (16, [some (.inr (.inr (0, 0))), some (.inl a1), some (.inl a2), some (.inl a3), some (.inl a4)], []) q1.2
    refine Wp.run (WpD.mono _) 0 (q := ((18, [none, none, none, none, none], [.inl (Int32.ofInt (-5))]), q1.2)) rfl ?_
    obtain ⟨rfl, rfl⟩ := ret_inj h
    exact Wp.ret (WpD.mono _) rfl hQ
  · have h := (if_neg hc).symm.trans h
    show Wp (WpD (e + 14)) hcX11_drawn Q (8, [some (.inr (.inr (0, 0))), some (.inl a1), some (.inl a2), some (.inl a3), some (.inl a4)], []) q1.2
    refine Wp.run (WpD.mono _) 1 (q := ((10, [some (.inr (.inr (0, 0))), some (.inl a1), some (.inl a2), some (.inl a3), some (.inl a4)], [.inl a2, .inr (.inr (0, 0))]), q1.2)) rfl ?_
    obtain ⟨q2, hb, h⟩ := bind_some h
    refine Wp.call (WpD.mono _) rfl (T_X11_isPlace (e + 12) N a2 q1.2 _ _ _ hb ?_)
    show Wp (WpD (e + 14)) hcX11_drawn Q (13, [some (.inr (.inr (0, 0))), some (.inl a1), some (.inl a2), some (.inl a3), some (.inl a4)], [.inl q2.1]) q2.2
    refine Wp.if0_ne (WpD.mono _) rfl rfl (fun hc => ?_) (fun hc => ?_)
    · have h := (if_pos hc).symm.trans h
      show Wp (WpD (e + 14)) hcX11_drawn Q (16, [some (.inr (.inr (0, 0))), some (.inl a1), some (.inl a2), some (.inl a3), some (.inl a4)], []) q2.2
      refine Wp.run (WpD.mono _) 0 (q := ((18, [none, none, none, none, none], [.inl (Int32.ofInt (-5))]), q2.2)) rfl ?_
      obtain ⟨rfl, rfl⟩ := ret_inj h
      exact Wp.ret (WpD.mono _) rfl hQ
    · have h := (if_neg hc).symm.trans h
      show Wp (WpD (e + 14)) hcX11_drawn Q (19, [some (.inr (.inr (0, 0))), some (.inl a1), some (.inl a2), some (.inl a3), some (.inl a4)], []) q2.2
      refine Wp.run (WpD.mono _) 2 (q := ((24, [some (.inr (.inr (0, 0))), some (.inl a1), some (.inl a2), some (.inl a3), some (.inl a4)], [.inl (99999 : Int32), .inl (0 : Int32), .inl a3]), q2.2)) rfl ?_
      obtain ⟨q3, hb, h⟩ := bind_some h
      refine Wp.call (WpD.mono _) rfl (T_X11_within (e + 13) N a3 (0 : Int32) (99999 : Int32) q2.2 _ _ _ hb ?_)
      show Wp (WpD (e + 14)) hcX11_drawn Q (27, [some (.inr (.inr (0, 0))), some (.inl a1), some (.inl a2), some (.inl a3), some (.inl a4)], [.inl q3.1]) q3.2
      refine Wp.if0_eq (WpD.mono _) rfl rfl (fun hc => ?_) (fun hc => ?_)
      · have h := (if_pos hc).symm.trans h
        show Wp (WpD (e + 14)) hcX11_drawn Q (40, [some (.inr (.inr (0, 0))), some (.inl a1), some (.inl a2), some (.inl a3), some (.inl a4)], []) q3.2
        refine Wp.run (WpD.mono _) 0 (q := ((42, [none, none, none, none, none], [.inl (Int32.ofInt (-7))]), q3.2)) rfl ?_
        obtain ⟨rfl, rfl⟩ := ret_inj h
        exact Wp.ret (WpD.mono _) rfl hQ
      · have h := (if_neg hc).symm.trans h
        show Wp (WpD (e + 14)) hcX11_drawn Q (30, [some (.inr (.inr (0, 0))), some (.inl a1), some (.inl a2), some (.inl a3), some (.inl a4)], []) q3.2
        refine Wp.run (WpD.mono _) 2 (q := ((34, [some (.inr (.inr (0, 0))), some (.inl a1), some (.inl a2), some (.inl a3), some (.inl a4)], [.inl (2 : Int32), .inl (0 : Int32), .inl a4]), q3.2)) rfl ?_
        obtain ⟨q4, hb, h⟩ := bind_some h
        refine Wp.call (WpD.mono _) rfl (T_X11_within (e + 13) N a4 (0 : Int32) (2 : Int32) q3.2 _ _ _ hb ?_)
        show Wp (WpD (e + 14)) hcX11_drawn Q (37, [some (.inr (.inr (0, 0))), some (.inl a1), some (.inl a2), some (.inl a3), some (.inl a4)], [.inl q4.1]) q4.2
        refine Wp.if0_ne (WpD.mono _) rfl rfl (fun hc => ?_) (fun hc => ?_)
        · have h := (if_pos hc).symm.trans h
          show Wp (WpD (e + 14)) hcX11_drawn Q (40, [some (.inr (.inr (0, 0))), some (.inl a1), some (.inl a2), some (.inl a3), some (.inl a4)], []) q4.2
          refine Wp.run (WpD.mono _) 0 (q := ((42, [none, none, none, none, none], [.inl (Int32.ofInt (-7))]), q4.2)) rfl ?_
          obtain ⟨rfl, rfl⟩ := ret_inj h
          exact Wp.ret (WpD.mono _) rfl hQ
        · have h := (if_neg hc).symm.trans h
          show Wp (WpD (e + 14)) hcX11_drawn Q (43, [some (.inr (.inr (0, 0))), some (.inl a1), some (.inl a2), some (.inl a3), some (.inl a4)], []) q4.2
          refine Wp.run (WpD.mono _) 4 (q := ((50, [some (.inr (.inr (0, 0))), some (.inl a1), some (.inl a2), some (.inl a3), some (.inl a4)], [.inl a3, .inl a2, .inl a1, .inr (.inr (10, 0))]), q4.2)) rfl ?_
          obtain ⟨q5, hb, h⟩ := bind_some h
          refine Wp.call (WpD.mono _) rfl (T_X0_work (e + 0) N a1 a2 a3 q4.2 _ _ _ hb ?_)
          show Wp (WpD (e + 14)) hcX11_drawn Q (53, [some (.inr (.inr (0, 0))), some (.inl a1), some (.inl a2), some (.inl a3), some (.inl a4)], []) q5.2
          refine Wp.run (WpD.mono _) 0 (q := ((55, [some (.inr (.inr (0, 0))), some (.inl a1), some (.inl a2), some (.inl a3), some (.inl a4)], [.inl a4]), q5.2)) rfl ?_
          refine Wp.if0_ne (WpD.mono _) rfl rfl (fun hc => ?_) (fun hc => ?_)
          · have h := (if_pos hc).symm.trans h
            show Wp (WpD (e + 14)) hcX11_drawn Q (58, [some (.inr (.inr (0, 0))), some (.inl a1), some (.inl a2), some (.inl a3), some (.inl a4)], []) q5.2
            refine Wp.run (WpD.mono _) 2 (q := ((65, [some (.inr (.inr (0, 0))), some (.inl a1), some (.inl a2), some (.inl a3), some (.inl a4)], [.inl (q5.2.1 10 3)]), q5.2)) rfl ?_
            obtain ⟨rfl, rfl⟩ := ret_inj h
            exact Wp.ret (WpD.mono _) rfl hQ
          · have h := (if_neg hc).symm.trans h
            show Wp (WpD (e + 14)) hcX11_drawn Q (66, [some (.inr (.inr (0, 0))), some (.inl a1), some (.inl a2), some (.inl a3), some (.inl a4)], []) q5.2
            refine Wp.run (WpD.mono _) 1 (q := ((69, [some (.inr (.inr (0, 0))), some (.inl a1), some (.inl a2), some (.inl a3), some (.inl a4)], [.inl (1 : Int32), .inl a4]), q5.2)) rfl ?_
            refine Wp.if2_ne (WpD.mono _) rfl rfl (fun hc => ?_) (fun hc => ?_)
            · have h := (if_pos hc).symm.trans h
              show Wp (WpD (e + 14)) hcX11_drawn Q (72, [some (.inr (.inr (0, 0))), some (.inl a1), some (.inl a2), some (.inl a3), some (.inl a4)], []) q5.2
              refine Wp.run (WpD.mono _) 3 (q := ((89, [some (.inr (.inr (0, 0))), some (.inl a1), some (.inl a2), some (.inl a3), some (.inl a4)], [.inl (q5.2.1 10 4)]), q5.2)) rfl ?_
              obtain ⟨rfl, rfl⟩ := ret_inj h
              exact Wp.ret (WpD.mono _) rfl hQ
            · have h := (if_neg hc).symm.trans h
              show Wp (WpD (e + 14)) hcX11_drawn Q (82, [some (.inr (.inr (0, 0))), some (.inl a1), some (.inl a2), some (.inl a3), some (.inl a4)], []) q5.2
              refine Wp.run (WpD.mono _) 2 (q := ((89, [some (.inr (.inr (0, 0))), some (.inl a1), some (.inl a2), some (.inl a3), some (.inl a4)], [.inl (q5.2.1 10 5)]), q5.2)) rfl ?_
              obtain ⟨rfl, rfl⟩ := ret_inj h
              exact Wp.ret (WpD.mono _) rfl hQ

set_option maxRecDepth 100000 in
set_option maxHeartbeats 4000000 in
theorem T_X4_fallen_b34 (e N : Nat)  (k7 : Int32 → Int32 → Int64 → Int32 → Mem → Option (Int64 × Mem)) (r : Int64) (τ : Mem) (Q : Pst) (hQ : Q (some (.inr (.inl r))) τ) (hk7 : ∀ (x1 : Int32) (x2 : Int32) (x3 : Int64) (x5 : Int32) (σ : Mem), k7 x1 x2 x3 x5 σ = some (r, τ) → Wp (WpD (e + 0)) hcX4_fallen Q (7, [some (.inr (.inr (2, 0))), some (.inl x1), some (.inl x2), some (.inr (.inl x3)), none, some (.inl x5), none], []) σ) : ∀ (x1 : Int32) (x2 : Int32) (x3 : Int64) (x5 : Int32) (s0 : Int32) (σ : Mem), F_X4_fallen_b34 N k7 x1 x2 x3 x5 s0 σ = some (r, τ) → Wp (WpD (e + 0)) hcX4_fallen Q (34, [some (.inr (.inr (2, 0))), some (.inl x1), some (.inl x2), some (.inr (.inl x3)), none, some (.inl x5), none], [.inl s0, .inr (.inr (45, 0))]) σ := by
  intro x1 x2 x3 x5 s0 σ h
  unfold F_X4_fallen_b34 at h
  obtain ⟨hc, h⟩ := ite_nn h
  refine Wp.X_rld4 (WpD.mono _) rfl rfl hc ?_
  show Wp (WpD (e + 0)) hcX4_fallen Q (35, [some (.inr (.inr (2, 0))), some (.inl x1), some (.inl x2), some (.inr (.inl x3)), none, some (.inl x5), none], [.inr (.inr (46, (s0).toNatClampNeg))]) σ
  refine Wp.run (WpD.mono _) 4 (q := ((44, [some (.inr (.inr (2, 0))), some (.inl x1), some (.inl x2), some (.inr (.inl x3)), none, some (.inl x5), some (.inr (.inr (46, (s0).toNatClampNeg)))], [.inl x5, .inr (.inr (46, (s0).toNatClampNeg)), .inl (100 : Int32), .inr (.inl x3)]), σ)) rfl ?_
  obtain ⟨hc, h⟩ := ite_nn h
  refine Wp.X_ild1 (WpD.mono _) rfl rfl hc ?_
  show Wp (WpD (e + 0)) hcX4_fallen Q (45, [some (.inr (.inr (2, 0))), some (.inl x1), some (.inl x2), some (.inr (.inl x3)), none, some (.inl x5), some (.inr (.inr (46, (s0).toNatClampNeg)))], [.inl (σ.2.2.1 46 (s0).toNatClampNeg (x5).toNatClampNeg), .inl (100 : Int32), .inr (.inl x3)]) σ
  refine Wp.run (WpD.mono _) 7 (q := ((7, [some (.inr (.inr (2, 0))), some (.inl x1), some (.inl x2), some (.inr (.inl ((x3 * ((100 : Int32) - (σ.2.2.1 46 (s0).toNatClampNeg (x5).toNatClampNeg)).toInt64) / (100 : Int64)))), none, some (.inl (x5 + (1 : Int32))), some (.inr (.inr (46, (s0).toNatClampNeg)))], []), σ)) rfl ?_
  exact Wp.jump (WpD.mono _) rfl (hk7 x1 x2 ((x3 * ((100 : Int32) - (σ.2.2.1 46 (s0).toNatClampNeg (x5).toNatClampNeg)).toInt64) / (100 : Int64)) (x5 + (1 : Int32)) σ h)

set_option maxRecDepth 100000 in
set_option maxHeartbeats 4000000 in
theorem T_X4_fallen_b7 (e N : Nat)   (r : Int64) (τ : Mem) (Q : Pst) (hQ : Q (some (.inr (.inl r))) τ) : ∀ n, ∀ (x1 : Int32) (x2 : Int32) (x3 : Int64) (x5 : Int32) (σ : Mem), F_X4_fallen_b7 N n x1 x2 x3 x5 σ = some (r, τ) → Wp (WpD (e + 0)) hcX4_fallen Q (7, [some (.inr (.inr (2, 0))), some (.inl x1), some (.inl x2), some (.inr (.inl x3)), none, some (.inl x5), none], []) σ := by
  intro n
  induction n with
  | zero => intro x1 x2 x3 x5 σ h; cases h
  | succ n ih =>
    intro x1 x2 x3 x5 σ h
    unfold F_X4_fallen_b7 at h
    refine Wp.run (WpD.mono _) 1 (q := ((10, [some (.inr (.inr (2, 0))), some (.inl x1), some (.inl x2), some (.inr (.inl x3)), none, some (.inl x5), none], [.inl x1, .inl x5]), σ)) rfl ?_
    refine Wp.if2_gt (WpD.mono _) rfl rfl (fun hc => ?_) (fun hc => ?_)
    · have h := (if_pos hc).symm.trans h
      show Wp (WpD (e + 0)) hcX4_fallen Q (59, [some (.inr (.inr (2, 0))), some (.inl x1), some (.inl x2), some (.inr (.inl x3)), none, some (.inl x5), none], []) σ
      refine Wp.run (WpD.mono _) 2 (q := ((64, [none, none, none, some (.inr (.inl x3)), none, none, none], [.inr (.inl ((1000000 : Int64) - x3))]), σ)) rfl ?_
      obtain ⟨rfl, rfl⟩ := ret_inj h
      exact Wp.ret (WpD.mono _) rfl hQ
    · have h := (if_neg hc).symm.trans h
      show Wp (WpD (e + 0)) hcX4_fallen Q (13, [some (.inr (.inr (2, 0))), some (.inl x1), some (.inl x2), some (.inr (.inl x3)), none, some (.inl x5), none], []) σ
      refine Wp.run (WpD.mono _) 1 (q := ((16, [some (.inr (.inr (2, 0))), some (.inl x1), some (.inl x2), some (.inr (.inl x3)), none, some (.inl x5), none], [.inl (5 : Int32), .inl x5]), σ)) rfl ?_
      refine Wp.if2_gt (WpD.mono _) rfl rfl (fun hc => ?_) (fun hc => ?_)
      · have h := (if_pos hc).symm.trans h
        show Wp (WpD (e + 0)) hcX4_fallen Q (59, [some (.inr (.inr (2, 0))), some (.inl x1), some (.inl x2), some (.inr (.inl x3)), none, some (.inl x5), none], []) σ
        refine Wp.run (WpD.mono _) 2 (q := ((64, [none, none, none, some (.inr (.inl x3)), none, none, none], [.inr (.inl ((1000000 : Int64) - x3))]), σ)) rfl ?_
        obtain ⟨rfl, rfl⟩ := ret_inj h
        exact Wp.ret (WpD.mono _) rfl hQ
      · have h := (if_neg hc).symm.trans h
        show Wp (WpD (e + 0)) hcX4_fallen Q (19, [some (.inr (.inr (2, 0))), some (.inl x1), some (.inl x2), some (.inr (.inl x3)), none, some (.inl x5), none], []) σ
        refine Wp.run (WpD.mono _) 3 (q := ((26, [some (.inr (.inr (2, 0))), some (.inl x1), some (.inl x2), some (.inr (.inl x3)), none, some (.inl x5), none], [.inl x2, .inl x5, .inr (.inr (45, 0))]), σ)) rfl ?_
        refine Wp.if2_le (WpD.mono _) rfl rfl (fun hc => ?_) (fun hc => ?_)
        · have h := (if_pos hc).symm.trans h
          show Wp (WpD (e + 0)) hcX4_fallen Q (33, [some (.inr (.inr (2, 0))), some (.inl x1), some (.inl x2), some (.inr (.inl x3)), none, some (.inl x5), none], [.inr (.inr (45, 0))]) σ
          refine Wp.run (WpD.mono _) 0 (q := ((34, [some (.inr (.inr (2, 0))), some (.inl x1), some (.inl x2), some (.inr (.inl x3)), none, some (.inl x5), none], [.inl (0 : Int32), .inr (.inr (45, 0))]), σ)) rfl ?_
          exact Wp.jump (WpD.mono _) rfl ((T_X4_fallen_b34 e N (F_X4_fallen_b7 N n) r τ Q hQ ih) x1 x2 x3 x5 (0 : Int32) σ h)
        · have h := (if_neg hc).symm.trans h
          show Wp (WpD (e + 0)) hcX4_fallen Q (29, [some (.inr (.inr (2, 0))), some (.inl x1), some (.inl x2), some (.inr (.inl x3)), none, some (.inl x5), none], [.inr (.inr (45, 0))]) σ
          refine Wp.run (WpD.mono _) 1 (q := ((34, [some (.inr (.inr (2, 0))), some (.inl x1), some (.inl x2), some (.inr (.inl x3)), none, some (.inl x5), none], [.inl (1 : Int32), .inr (.inr (45, 0))]), σ)) rfl ?_
          exact Wp.jump (WpD.mono _) rfl ((T_X4_fallen_b34 e N (F_X4_fallen_b7 N n) r τ Q hQ ih) x1 x2 x3 x5 (1 : Int32) σ h)

set_option maxRecDepth 100000 in
set_option maxHeartbeats 4000000 in
theorem T_X4_fallen (e N : Nat)  (a1 : Int32) (a2 : Int32) (σ : Mem) (r : Int64) (τ : Mem) (Q : Pst) (h : F_X4_fallen N a1 a2 σ = some (r, τ)) (hQ : Q (some (.inr (.inl r))) τ) : WpD (e + 1) mX4_fallen [.inr (.inr (2, 0)), .inl a1, .inl a2] σ Q := by
  refine WpD.of (d := e + 0) (Nat.le_of_ble_eq_true rfl) (Nat.le_of_ble_eq_true rfl) ?_
  show Wp (WpD (e + 0)) hcX4_fallen Q (0, [some (.inr (.inr (2, 0))), some (.inl a1), some (.inl a2), none, none, none, none], []) σ
  unfold F_X4_fallen at h
  refine Wp.run (WpD.mono _) 3 (q := ((7, [some (.inr (.inr (2, 0))), some (.inl a1), some (.inl a2), some (.inr (.inl (1000000 : Int64))), none, some (.inl (1 : Int32)), none], []), σ)) rfl ?_
  exact Wp.jump (WpD.mono _) rfl ((T_X4_fallen_b7 e N  r τ Q hQ  N) a1 a2 (1000000 : Int64) (1 : Int32) σ h)

set_option maxRecDepth 100000 in
set_option maxHeartbeats 4000000 in
theorem T_X11_fall (e N : Nat)  (a1 : Int32) (a2 : Int32) (σ : Mem) (r : Int64) (τ : Mem) (Q : Pst) (h : F_X11_fall N a1 a2 σ = some (r, τ)) (hQ : Q (some (.inr (.inl r))) τ) : WpD (e + 2) mX11_fall [.inr (.inr (0, 0)), .inl a1, .inl a2] σ Q := by
  refine WpD.of (d := e + 1) (Nat.le_of_ble_eq_true rfl) (Nat.le_of_ble_eq_true rfl) ?_
  show Wp (WpD (e + 1)) hcX11_fall Q (0, [some (.inr (.inr (0, 0))), some (.inl a1), some (.inl a2)], []) σ
  unfold F_X11_fall at h
  refine Wp.run (WpD.mono _) 2 (q := ((3, [some (.inr (.inr (0, 0))), some (.inl a1), some (.inl a2)], [.inl (5 : Int32), .inl (0 : Int32), .inl a1]), σ)) rfl ?_
  obtain ⟨q1, hb, h⟩ := bind_some h
  refine Wp.call (WpD.mono _) rfl (T_X11_within (e + 0) N a1 (0 : Int32) (5 : Int32) σ _ _ _ hb ?_)
  show Wp (WpD (e + 1)) hcX11_fall Q (6, [some (.inr (.inr (0, 0))), some (.inl a1), some (.inl a2)], [.inl q1.1]) q1.2
  refine Wp.if0_eq (WpD.mono _) rfl rfl (fun hc => ?_) (fun hc => ?_)
  · have h := (if_pos hc).symm.trans h
    show Wp (WpD (e + 1)) hcX11_fall Q (18, [some (.inr (.inr (0, 0))), some (.inl a1), some (.inl a2)], []) q1.2
    refine Wp.run (WpD.mono _) 0 (q := ((21, [none, none, none], [.inr (.inl (Int64.ofInt (-4611686018427387904)))]), q1.2)) rfl ?_
    obtain ⟨rfl, rfl⟩ := ret_inj h
    exact Wp.ret (WpD.mono _) rfl hQ
  · have h := (if_neg hc).symm.trans h
    show Wp (WpD (e + 1)) hcX11_fall Q (9, [some (.inr (.inr (0, 0))), some (.inl a1), some (.inl a2)], []) q1.2
    refine Wp.run (WpD.mono _) 2 (q := ((12, [some (.inr (.inr (0, 0))), some (.inl a1), some (.inl a2)], [.inl (5 : Int32), .inl (0 : Int32), .inl a2]), q1.2)) rfl ?_
    obtain ⟨q2, hb, h⟩ := bind_some h
    refine Wp.call (WpD.mono _) rfl (T_X11_within (e + 0) N a2 (0 : Int32) (5 : Int32) q1.2 _ _ _ hb ?_)
    show Wp (WpD (e + 1)) hcX11_fall Q (15, [some (.inr (.inr (0, 0))), some (.inl a1), some (.inl a2)], [.inl q2.1]) q2.2
    refine Wp.if0_ne (WpD.mono _) rfl rfl (fun hc => ?_) (fun hc => ?_)
    · have h := (if_pos hc).symm.trans h
      show Wp (WpD (e + 1)) hcX11_fall Q (18, [some (.inr (.inr (0, 0))), some (.inl a1), some (.inl a2)], []) q2.2
      refine Wp.run (WpD.mono _) 0 (q := ((21, [none, none, none], [.inr (.inl (Int64.ofInt (-4611686018427387904)))]), q2.2)) rfl ?_
      obtain ⟨rfl, rfl⟩ := ret_inj h
      exact Wp.ret (WpD.mono _) rfl hQ
    · have h := (if_neg hc).symm.trans h
      show Wp (WpD (e + 1)) hcX11_fall Q (22, [some (.inr (.inr (0, 0))), some (.inl a1), some (.inl a2)], []) q2.2
      refine Wp.run (WpD.mono _) 3 (q := ((28, [some (.inr (.inr (0, 0))), some (.inl a1), some (.inl a2)], [.inl a2, .inl a1, .inr (.inr (2, 0))]), q2.2)) rfl ?_
      obtain ⟨q3, hb, h⟩ := bind_some h
      refine Wp.call (WpD.mono _) rfl (T_X4_fallen (e + 0) N a1 a2 q2.2 _ _ _ hb ?_)
      show Wp (WpD (e + 1)) hcX11_fall Q (31, [some (.inr (.inr (0, 0))), some (.inl a1), some (.inl a2)], [.inr (.inl q3.1)]) q3.2
      obtain ⟨rfl, rfl⟩ := ret_inj h
      exact Wp.ret (WpD.mono _) rfl hQ

set_option maxRecDepth 100000 in
set_option maxHeartbeats 4000000 in
theorem T_X6_bestBore_b8 (e N : Nat)   (r : Int32) (τ : Mem) (Q : Pst) (hQ : Q (some (.inl r)) τ) : ∀ n, ∀ (x1 : Int32) (x2 : Int32) (x3 : Int32) (x4 : Int64) (x6 : Int32) (σ : Mem), F_X6_bestBore_b8 N n x1 x2 x3 x4 x6 σ = some (r, τ) → Wp (WpD (e + 24)) hcX6_bestBore Q (8, [some (.inr (.inr (8, 0))), some (.inl x1), some (.inl x2), some (.inl x3), some (.inr (.inl x4)), none, some (.inl x6), none, none], []) σ := by
  intro n
  induction n with
  | zero => intro x1 x2 x3 x4 x6 σ h; cases h
  | succ n ih =>
    intro x1 x2 x3 x4 x6 σ h
    unfold F_X6_bestBore_b8 at h
    refine Wp.run (WpD.mono _) 1 (q := ((11, [some (.inr (.inr (8, 0))), some (.inl x1), some (.inl x2), some (.inl x3), some (.inr (.inl x4)), none, some (.inl x6), none, none], [.inl (5 : Int32), .inl x6]), σ)) rfl ?_
    refine Wp.if2_gt (WpD.mono _) rfl rfl (fun hc => ?_) (fun hc => ?_)
    · have h := (if_pos hc).symm.trans h
      show Wp (WpD (e + 24)) hcX6_bestBore Q (60, [some (.inr (.inr (8, 0))), some (.inl x1), some (.inl x2), some (.inl x3), some (.inr (.inl x4)), none, some (.inl x6), none, none], []) σ
      refine Wp.run (WpD.mono _) 0 (q := ((61, [some (.inr (.inr (8, 0))), some (.inl x1), some (.inl x2), some (.inl x3), some (.inr (.inl x4)), none, some (.inl x6), none, none], [.inl x3]), σ)) rfl ?_
      obtain ⟨rfl, rfl⟩ := ret_inj h
      exact Wp.ret (WpD.mono _) rfl hQ
    · have h := (if_neg hc).symm.trans h
      show Wp (WpD (e + 24)) hcX6_bestBore Q (14, [some (.inr (.inr (8, 0))), some (.inl x1), some (.inl x2), some (.inl x3), some (.inr (.inl x4)), none, some (.inl x6), none, none], []) σ
      refine Wp.run (WpD.mono _) 2 (q := ((18, [some (.inr (.inr (8, 0))), some (.inl x1), some (.inl x2), some (.inl x3), some (.inr (.inl x4)), none, some (.inl x6), none, none], [.inl x6, .inl x1, .inr (.inr (8, 0))]), σ)) rfl ?_
      obtain ⟨q1, hb, h⟩ := bind_some h
      refine Wp.call (WpD.mono _) rfl (T_X6_boreWorth (e + 0) N x1 x6 σ _ _ _ hb ?_)
      show Wp (WpD (e + 24)) hcX6_bestBore Q (21, [some (.inr (.inr (8, 0))), some (.inl x1), some (.inl x2), some (.inl x3), some (.inr (.inl x4)), none, some (.inl x6), none, none], [.inr (.inl q1.1)]) q1.2
      refine Wp.run (WpD.mono _) 9 (q := ((36, [some (.inr (.inr (8, 0))), some (.inl x1), some (.inl x2), some (.inl x3), some (.inr (.inl x4)), none, some (.inl x6), some (.inr (.inl (q1.1 - ((x6.toInt64 * (1000000 : Int64)) * x2.toInt64)))), none], [.inl x6]), q1.2)) rfl ?_
      refine Wp.if0_eq (WpD.mono _) rfl rfl (fun hc => ?_) (fun hc => ?_)
      · have h := (if_pos hc).symm.trans h
        show Wp (WpD (e + 24)) hcX6_bestBore Q (47, [some (.inr (.inr (8, 0))), some (.inl x1), some (.inl x2), some (.inl x3), some (.inr (.inl x4)), none, some (.inl x6), some (.inr (.inl (q1.1 - ((x6.toInt64 * (1000000 : Int64)) * x2.toInt64)))), none], []) q1.2
        refine Wp.run (WpD.mono _) 5 (q := ((8, [some (.inr (.inr (8, 0))), some (.inl x1), some (.inl x2), some (.inl x6), some (.inr (.inl (q1.1 - ((x6.toInt64 * (1000000 : Int64)) * x2.toInt64)))), none, some (.inl (x6 + (1 : Int32))), none, none], []), q1.2)) rfl ?_
        exact Wp.jump (WpD.mono _) rfl (ih x1 x2 x6 (q1.1 - ((x6.toInt64 * (1000000 : Int64)) * x2.toInt64)) (x6 + (1 : Int32)) q1.2 h)
      · have h := (if_neg hc).symm.trans h
        show Wp (WpD (e + 24)) hcX6_bestBore Q (39, [some (.inr (.inr (8, 0))), some (.inl x1), some (.inl x2), some (.inl x3), some (.inr (.inl x4)), none, some (.inl x6), some (.inr (.inl (q1.1 - ((x6.toInt64 * (1000000 : Int64)) * x2.toInt64)))), none], []) q1.2
        refine Wp.run (WpD.mono _) 2 (q := ((44, [some (.inr (.inr (8, 0))), some (.inl x1), some (.inl x2), some (.inl x3), some (.inr (.inl x4)), none, some (.inl x6), some (.inr (.inl (q1.1 - ((x6.toInt64 * (1000000 : Int64)) * x2.toInt64)))), none], [.inl (lg_cmp (q1.1 - ((x6.toInt64 * (1000000 : Int64)) * x2.toInt64)) x4)]), q1.2)) rfl ?_
        refine Wp.if0_le (WpD.mono _) rfl rfl (fun hc => ?_) (fun hc => ?_)
        · have h := (if_pos hc).symm.trans h
          show Wp (WpD (e + 24)) hcX6_bestBore Q (54, [some (.inr (.inr (8, 0))), some (.inl x1), some (.inl x2), some (.inl x3), some (.inr (.inl x4)), none, some (.inl x6), some (.inr (.inl (q1.1 - ((x6.toInt64 * (1000000 : Int64)) * x2.toInt64)))), none], []) q1.2
          refine Wp.run (WpD.mono _) 1 (q := ((8, [some (.inr (.inr (8, 0))), some (.inl x1), some (.inl x2), some (.inl x3), some (.inr (.inl x4)), none, some (.inl (x6 + (1 : Int32))), none, none], []), q1.2)) rfl ?_
          exact Wp.jump (WpD.mono _) rfl (ih x1 x2 x3 x4 (x6 + (1 : Int32)) q1.2 h)
        · have h := (if_neg hc).symm.trans h
          show Wp (WpD (e + 24)) hcX6_bestBore Q (47, [some (.inr (.inr (8, 0))), some (.inl x1), some (.inl x2), some (.inl x3), some (.inr (.inl x4)), none, some (.inl x6), some (.inr (.inl (q1.1 - ((x6.toInt64 * (1000000 : Int64)) * x2.toInt64)))), none], []) q1.2
          refine Wp.run (WpD.mono _) 5 (q := ((8, [some (.inr (.inr (8, 0))), some (.inl x1), some (.inl x2), some (.inl x6), some (.inr (.inl (q1.1 - ((x6.toInt64 * (1000000 : Int64)) * x2.toInt64)))), none, some (.inl (x6 + (1 : Int32))), none, none], []), q1.2)) rfl ?_
          exact Wp.jump (WpD.mono _) rfl (ih x1 x2 x6 (q1.1 - ((x6.toInt64 * (1000000 : Int64)) * x2.toInt64)) (x6 + (1 : Int32)) q1.2 h)

set_option maxRecDepth 100000 in
set_option maxHeartbeats 4000000 in
theorem T_X6_bestBore (e N : Nat)  (a1 : Int32) (a2 : Int32) (σ : Mem) (r : Int32) (τ : Mem) (Q : Pst) (h : F_X6_bestBore N a1 a2 σ = some (r, τ)) (hQ : Q (some (.inl r)) τ) : WpD (e + 25) mX6_bestBore [.inr (.inr (8, 0)), .inl a1, .inl a2] σ Q := by
  refine WpD.of (d := e + 24) (Nat.le_of_ble_eq_true rfl) (Nat.le_of_ble_eq_true rfl) ?_
  show Wp (WpD (e + 24)) hcX6_bestBore Q (0, [some (.inr (.inr (8, 0))), some (.inl a1), some (.inl a2), none, none, none, none, none, none], []) σ
  unfold F_X6_bestBore at h
  refine Wp.run (WpD.mono _) 5 (q := ((8, [some (.inr (.inr (8, 0))), some (.inl a1), some (.inl a2), some (.inl (0 : Int32)), some (.inr (.inl (0 : Int64))), none, some (.inl (0 : Int32)), none, none], []), σ)) rfl ?_
  exact Wp.jump (WpD.mono _) rfl ((T_X6_bestBore_b8 e N  r τ Q hQ  N) a1 a2 (0 : Int32) (0 : Int64) (0 : Int32) σ h)

set_option maxRecDepth 100000 in
set_option maxHeartbeats 4000000 in
theorem T_X11_far (e N : Nat)  (a1 : Int32) (a2 : Int32) (σ : Mem) (r : Int32) (τ : Mem) (Q : Pst) (h : F_X11_far N a1 a2 σ = some (r, τ)) (hQ : Q (some (.inl r)) τ) : WpD (e + 26) mX11_far [.inr (.inr (0, 0)), .inl a1, .inl a2] σ Q := by
  refine WpD.of (d := e + 25) (Nat.le_of_ble_eq_true rfl) (Nat.le_of_ble_eq_true rfl) ?_
  show Wp (WpD (e + 25)) hcX11_far Q (0, [some (.inr (.inr (0, 0))), some (.inl a1), some (.inl a2), none], []) σ
  unfold F_X11_far at h
  refine Wp.run (WpD.mono _) 1 (q := ((2, [some (.inr (.inr (0, 0))), some (.inl a1), some (.inl a2), none], [.inl a1, .inr (.inr (0, 0))]), σ)) rfl ?_
  obtain ⟨q1, hb, h⟩ := bind_some h
  refine Wp.call (WpD.mono _) rfl (T_X11_isPlace (e + 23) N a1 σ _ _ _ hb ?_)
  show Wp (WpD (e + 25)) hcX11_far Q (5, [some (.inr (.inr (0, 0))), some (.inl a1), some (.inl a2), none], [.inl q1.1]) q1.2
  refine Wp.if0_ne (WpD.mono _) rfl rfl (fun hc => ?_) (fun hc => ?_)
  · have h := (if_pos hc).symm.trans h
    show Wp (WpD (e + 25)) hcX11_far Q (8, [some (.inr (.inr (0, 0))), some (.inl a1), some (.inl a2), none], []) q1.2
    refine Wp.run (WpD.mono _) 0 (q := ((10, [some (.inr (.inr (0, 0))), some (.inl a1), some (.inl a2), none], [.inl (Int32.ofInt (-5))]), q1.2)) rfl ?_
    obtain ⟨rfl, rfl⟩ := ret_inj h
    exact Wp.ret (WpD.mono _) rfl hQ
  · have h := (if_neg hc).symm.trans h
    show Wp (WpD (e + 25)) hcX11_far Q (11, [some (.inr (.inr (0, 0))), some (.inl a1), some (.inl a2), none], []) q1.2
    refine Wp.run (WpD.mono _) 2 (q := ((16, [some (.inr (.inr (0, 0))), some (.inl a1), some (.inl a2), none], [.inl (999 : Int32), .inl (0 : Int32), .inl a2]), q1.2)) rfl ?_
    obtain ⟨q2, hb, h⟩ := bind_some h
    refine Wp.call (WpD.mono _) rfl (T_X11_within (e + 24) N a2 (0 : Int32) (999 : Int32) q1.2 _ _ _ hb ?_)
    show Wp (WpD (e + 25)) hcX11_far Q (19, [some (.inr (.inr (0, 0))), some (.inl a1), some (.inl a2), none], [.inl q2.1]) q2.2
    refine Wp.if0_ne (WpD.mono _) rfl rfl (fun hc => ?_) (fun hc => ?_)
    · have h := (if_pos hc).symm.trans h
      show Wp (WpD (e + 25)) hcX11_far Q (22, [some (.inr (.inr (0, 0))), some (.inl a1), some (.inl a2), none], []) q2.2
      refine Wp.run (WpD.mono _) 0 (q := ((24, [some (.inr (.inr (0, 0))), some (.inl a1), some (.inl a2), none], [.inl (Int32.ofInt (-7))]), q2.2)) rfl ?_
      obtain ⟨rfl, rfl⟩ := ret_inj h
      exact Wp.ret (WpD.mono _) rfl hQ
    · have h := (if_neg hc).symm.trans h
      show Wp (WpD (e + 25)) hcX11_far Q (25, [some (.inr (.inr (0, 0))), some (.inl a1), some (.inl a2), none], []) q2.2
      refine Wp.run (WpD.mono _) 2 (q := ((30, [some (.inr (.inr (0, 0))), some (.inl a1), some (.inl a2), none], [.inl a1, .inr (.inr (8, 0))]), q2.2)) rfl ?_
      obtain ⟨q3, hb, h⟩ := bind_some h
      refine Wp.call (WpD.mono _) rfl (T_X6_openYard (e + 21) N a1 q2.2 _ _ _ hb ?_)
      show Wp (WpD (e + 25)) hcX11_far Q (33, [some (.inr (.inr (0, 0))), some (.inl a1), some (.inl a2), none], [.inl q3.1]) q3.2
      refine Wp.run (WpD.mono _) 1 (q := ((35, [some (.inr (.inr (0, 0))), some (.inl a1), some (.inl a2), some (.inl q3.1)], [.inl q3.1]), q3.2)) rfl ?_
      refine Wp.if0_ne (WpD.mono _) rfl rfl (fun hc => ?_) (fun hc => ?_)
      · have h := (if_pos hc).symm.trans h
        show Wp (WpD (e + 25)) hcX11_far Q (38, [some (.inr (.inr (0, 0))), some (.inl a1), some (.inl a2), some (.inl q3.1)], []) q3.2
        refine Wp.run (WpD.mono _) 1 (q := ((52, [some (.inr (.inr (0, 0))), some (.inl a1), some (.inl a2), some (.inl q3.1)], [.inl (Int32.ofInt (-3))]), q3.2)) rfl ?_
        obtain ⟨rfl, rfl⟩ := ret_inj h
        exact Wp.ret (WpD.mono _) rfl hQ
      · have h := (if_neg hc).symm.trans h
        show Wp (WpD (e + 25)) hcX11_far Q (43, [some (.inr (.inr (0, 0))), some (.inl a1), some (.inl a2), some (.inl q3.1)], []) q3.2
        refine Wp.run (WpD.mono _) 3 (q := ((49, [some (.inr (.inr (0, 0))), some (.inl a1), some (.inl a2), some (.inl q3.1)], [.inl a2, .inl q3.1, .inr (.inr (8, 0))]), q3.2)) rfl ?_
        obtain ⟨q4, hb, h⟩ := bind_some h
        refine Wp.call (WpD.mono _) rfl (T_X6_bestBore (e + 0) N q3.1 a2 q3.2 _ _ _ hb ?_)
        show Wp (WpD (e + 25)) hcX11_far Q (52, [some (.inr (.inr (0, 0))), some (.inl a1), some (.inl a2), some (.inl q3.1)], [.inl q4.1]) q4.2
        obtain ⟨rfl, rfl⟩ := ret_inj h
        exact Wp.ret (WpD.mono _) rfl hQ

set_option maxRecDepth 100000 in
set_option maxHeartbeats 4000000 in
theorem T_X1_settle (e N : Nat)  (a1 : Int32) (a2 : Int32) (σ : Mem) (r : Int32) (τ : Mem) (Q : Pst) (h : F_X1_settle N a1 a2 σ = some (r, τ)) (hQ : Q (some (.inl r)) τ) : WpD (e + 1) mX1_settle [.inr (.inr (7, 0)), .inl a1, .inl a2] σ Q := by
  refine WpD.of (d := e + 0) (Nat.le_of_ble_eq_true rfl) (Nat.le_of_ble_eq_true rfl) ?_
  show Wp (WpD (e + 0)) hcX1_settle Q (0, [some (.inr (.inr (7, 0))), some (.inl a1), some (.inl a2), none], []) σ
  unfold F_X1_settle at h
  refine Wp.run (WpD.mono _) 4 (q := ((8, [some (.inr (.inr (7, 0))), some (.inl a1), some (.inl a2), some (.inl (σ.1 7 2))], [.inl (6 : Int32), .inl (σ.1 7 2)]), σ)) rfl ?_
  refine Wp.if2_lt (WpD.mono _) rfl rfl (fun hc => ?_) (fun hc => ?_)
  · have h := (if_pos hc).symm.trans h
    show Wp (WpD (e + 0)) hcX1_settle Q (14, [some (.inr (.inr (7, 0))), some (.inl a1), some (.inl a2), some (.inl (σ.1 7 2))], []) σ
    refine Wp.run (WpD.mono _) 3 (q := ((20, [some (.inr (.inr (7, 0))), some (.inl a1), some (.inl a2), some (.inl (σ.1 7 2))], [.inl a1, .inl (σ.1 7 2), .inr (.inr (20, 0))]), σ)) rfl ?_
    obtain ⟨hc, h⟩ := ite_nn h
    refine Wp.X_ist (WpD.mono _) rfl rfl hc ?_
    show Wp (WpD (e + 0)) hcX1_settle Q (21, [some (.inr (.inr (7, 0))), some (.inl a1), some (.inl a2), some (.inl (σ.1 7 2))], []) (σ.1, σ.2.1, (hwU3 σ.2.2.1 20 0 ((σ.1 7 2)).toNatClampNeg a1), σ.2.2.2.1, σ.2.2.2.2)
    refine Wp.run (WpD.mono _) 3 (q := ((27, [some (.inr (.inr (7, 0))), some (.inl a1), some (.inl a2), some (.inl (σ.1 7 2))], [.inl a2, .inl (σ.1 7 2), .inr (.inr (21, 0))]), (σ.1, σ.2.1, (hwU3 σ.2.2.1 20 0 ((σ.1 7 2)).toNatClampNeg a1), σ.2.2.2.1, σ.2.2.2.2))) rfl ?_
    obtain ⟨hc, h⟩ := ite_nn h
    refine Wp.X_ist (WpD.mono _) rfl rfl hc ?_
    show Wp (WpD (e + 0)) hcX1_settle Q (28, [some (.inr (.inr (7, 0))), some (.inl a1), some (.inl a2), some (.inl (σ.1 7 2))], []) (σ.1, σ.2.1, (hwU3 (hwU3 σ.2.2.1 20 0 ((σ.1 7 2)).toNatClampNeg a1) 21 0 ((σ.1 7 2)).toNatClampNeg a2), σ.2.2.2.1, σ.2.2.2.2)
    refine Wp.run (WpD.mono _) 5 (q := ((36, [some (.inr (.inr (7, 0))), some (.inl a1), some (.inl a2), some (.inl (σ.1 7 2))], [.inl (σ.1 7 2)]), ((hwU2 σ.1 7 2 ((σ.1 7 2) + (1 : Int32))), σ.2.1, (hwU3 (hwU3 σ.2.2.1 20 0 ((σ.1 7 2)).toNatClampNeg a1) 21 0 ((σ.1 7 2)).toNatClampNeg a2), σ.2.2.2.1, σ.2.2.2.2))) rfl ?_
    obtain ⟨rfl, rfl⟩ := ret_inj h
    exact Wp.ret (WpD.mono _) rfl hQ
  · have h := (if_neg hc).symm.trans h
    show Wp (WpD (e + 0)) hcX1_settle Q (11, [some (.inr (.inr (7, 0))), some (.inl a1), some (.inl a2), some (.inl (σ.1 7 2))], []) σ
    refine Wp.run (WpD.mono _) 0 (q := ((13, [some (.inr (.inr (7, 0))), some (.inl a1), some (.inl a2), some (.inl (σ.1 7 2))], [.inl (Int32.ofInt (-4))]), σ)) rfl ?_
    obtain ⟨rfl, rfl⟩ := ret_inj h
    exact Wp.ret (WpD.mono _) rfl hQ

set_option maxRecDepth 100000 in
set_option maxHeartbeats 4000000 in
theorem T_X11_farm (e N : Nat)  (a1 : Int32) (a2 : Int32) (σ : Mem) (r : Int32) (τ : Mem) (Q : Pst) (h : F_X11_farm N a1 a2 σ = some (r, τ)) (hQ : Q (some (.inl r)) τ) : WpD (e + 2) mX11_farm [.inr (.inr (0, 0)), .inl a1, .inl a2] σ Q := by
  refine WpD.of (d := e + 1) (Nat.le_of_ble_eq_true rfl) (Nat.le_of_ble_eq_true rfl) ?_
  show Wp (WpD (e + 1)) hcX11_farm Q (0, [some (.inr (.inr (0, 0))), some (.inl a1), some (.inl a2)], []) σ
  unfold F_X11_farm at h
  refine Wp.run (WpD.mono _) 2 (q := ((4, [some (.inr (.inr (0, 0))), some (.inl a1), some (.inl a2)], [.inl (99 : Int32), .inl (0 : Int32), .inl a1]), σ)) rfl ?_
  obtain ⟨q1, hb, h⟩ := bind_some h
  refine Wp.call (WpD.mono _) rfl (T_X11_within (e + 0) N a1 (0 : Int32) (99 : Int32) σ _ _ _ hb ?_)
  show Wp (WpD (e + 1)) hcX11_farm Q (7, [some (.inr (.inr (0, 0))), some (.inl a1), some (.inl a2)], [.inl q1.1]) q1.2
  refine Wp.if0_eq (WpD.mono _) rfl rfl (fun hc => ?_) (fun hc => ?_)
  · have h := (if_pos hc).symm.trans h
    show Wp (WpD (e + 1)) hcX11_farm Q (20, [some (.inr (.inr (0, 0))), some (.inl a1), some (.inl a2)], []) q1.2
    refine Wp.run (WpD.mono _) 0 (q := ((22, [none, none, none], [.inl (Int32.ofInt (-2))]), q1.2)) rfl ?_
    obtain ⟨rfl, rfl⟩ := ret_inj h
    exact Wp.ret (WpD.mono _) rfl hQ
  · have h := (if_neg hc).symm.trans h
    show Wp (WpD (e + 1)) hcX11_farm Q (10, [some (.inr (.inr (0, 0))), some (.inl a1), some (.inl a2)], []) q1.2
    refine Wp.run (WpD.mono _) 2 (q := ((14, [some (.inr (.inr (0, 0))), some (.inl a1), some (.inl a2)], [.inl (99 : Int32), .inl (1 : Int32), .inl a2]), q1.2)) rfl ?_
    obtain ⟨q2, hb, h⟩ := bind_some h
    refine Wp.call (WpD.mono _) rfl (T_X11_within (e + 0) N a2 (1 : Int32) (99 : Int32) q1.2 _ _ _ hb ?_)
    show Wp (WpD (e + 1)) hcX11_farm Q (17, [some (.inr (.inr (0, 0))), some (.inl a1), some (.inl a2)], [.inl q2.1]) q2.2
    refine Wp.if0_ne (WpD.mono _) rfl rfl (fun hc => ?_) (fun hc => ?_)
    · have h := (if_pos hc).symm.trans h
      show Wp (WpD (e + 1)) hcX11_farm Q (20, [some (.inr (.inr (0, 0))), some (.inl a1), some (.inl a2)], []) q2.2
      refine Wp.run (WpD.mono _) 0 (q := ((22, [none, none, none], [.inl (Int32.ofInt (-2))]), q2.2)) rfl ?_
      obtain ⟨rfl, rfl⟩ := ret_inj h
      exact Wp.ret (WpD.mono _) rfl hQ
    · have h := (if_neg hc).symm.trans h
      show Wp (WpD (e + 1)) hcX11_farm Q (23, [some (.inr (.inr (0, 0))), some (.inl a1), some (.inl a2)], []) q2.2
      refine Wp.run (WpD.mono _) 3 (q := ((29, [some (.inr (.inr (0, 0))), some (.inl a1), some (.inl a2)], [.inl a2, .inl a1, .inr (.inr (7, 0))]), q2.2)) rfl ?_
      obtain ⟨q3, hb, h⟩ := bind_some h
      refine Wp.call (WpD.mono _) rfl (T_X1_settle (e + 0) N a1 a2 q2.2 _ _ _ hb ?_)
      show Wp (WpD (e + 1)) hcX11_farm Q (32, [some (.inr (.inr (0, 0))), some (.inl a1), some (.inl a2)], [.inl q3.1]) q3.2
      obtain ⟨rfl, rfl⟩ := ret_inj h
      exact Wp.ret (WpD.mono _) rfl hQ

set_option maxRecDepth 100000 in
set_option maxHeartbeats 4000000 in
theorem T_X8_record_b20 (e N : Nat)   (r : Int32) (τ : Mem) (Q : Pst) (hQ : Q (some (.inl r)) τ) : ∀ n, ∀ (x1 : Int64) (x4 : Int32) (σ : Mem), F_X8_record_b20 N n x1 x4 σ = some (r, τ) → Wp (WpD (e + 0)) hcX8_record Q (20, [some (.inr (.inr (3, 0))), some (.inr (.inl x1)), none, none, some (.inl x4)], []) σ := by
  intro n
  induction n with
  | zero => intro x1 x4 σ h; cases h
  | succ n ih =>
    intro x1 x4 σ h
    unfold F_X8_record_b20 at h
    refine Wp.run (WpD.mono _) 0 (q := ((22, [some (.inr (.inr (3, 0))), some (.inr (.inl x1)), none, none, some (.inl x4)], [.inl x4]), σ)) rfl ?_
    refine Wp.if0_lt (WpD.mono _) rfl rfl (fun hc => ?_) (fun hc => ?_)
    · have h := (if_pos hc).symm.trans h
      show Wp (WpD (e + 0)) hcX8_record Q (62, [some (.inr (.inr (3, 0))), some (.inr (.inl x1)), none, none, some (.inl x4)], []) σ
      refine Wp.run (WpD.mono _) 1 (q := ((66, [some (.inr (.inr (3, 0))), some (.inr (.inl x1)), none, none, some (.inl x4)], [.inl (σ.1 3 3)]), σ)) rfl ?_
      obtain ⟨rfl, rfl⟩ := ret_inj h
      exact Wp.ret (WpD.mono _) rfl hQ
    · have h := (if_neg hc).symm.trans h
      show Wp (WpD (e + 0)) hcX8_record Q (25, [some (.inr (.inr (3, 0))), some (.inr (.inl x1)), none, none, some (.inl x4)], []) σ
      refine Wp.run (WpD.mono _) 11 (q := ((45, [some (.inr (.inr (3, 0))), some (.inr (.inl x1)), none, none, some (.inl x4)], [.inl ((x1 >>> ((((8 : Int32) * x4)).toInt64 &&& 63)).toInt32 &&& (255 : Int32)), .inl (σ.1 3 3), .inr (.inr (62, 0))]), σ)) rfl ?_
      obtain ⟨hc, h⟩ := ite_nn h
      refine Wp.X_ist (WpD.mono _) rfl rfl hc ?_
      show Wp (WpD (e + 0)) hcX8_record Q (46, [some (.inr (.inr (3, 0))), some (.inr (.inl x1)), none, none, some (.inl x4)], []) (σ.1, σ.2.1, (hwU3 σ.2.2.1 62 0 ((σ.1 3 3)).toNatClampNeg ((x1 >>> ((((8 : Int32) * x4)).toInt64 &&& 63)).toInt32 &&& (255 : Int32))), σ.2.2.2.1, σ.2.2.2.2)
      refine Wp.run (WpD.mono _) 7 (q := ((20, [some (.inr (.inr (3, 0))), some (.inr (.inl x1)), none, none, some (.inl (x4 + (Int32.ofInt (-1))))], []), ((hwU2 σ.1 3 3 ((σ.1 3 3) + (1 : Int32))), σ.2.1, (hwU3 σ.2.2.1 62 0 ((σ.1 3 3)).toNatClampNeg ((x1 >>> ((((8 : Int32) * x4)).toInt64 &&& 63)).toInt32 &&& (255 : Int32))), σ.2.2.2.1, σ.2.2.2.2))) rfl ?_
      exact Wp.jump (WpD.mono _) rfl (ih x1 (x4 + (Int32.ofInt (-1))) ((hwU2 σ.1 3 3 ((σ.1 3 3) + (1 : Int32))), σ.2.1, (hwU3 σ.2.2.1 62 0 ((σ.1 3 3)).toNatClampNeg ((x1 >>> ((((8 : Int32) * x4)).toInt64 &&& 63)).toInt32 &&& (255 : Int32))), σ.2.2.2.1, σ.2.2.2.2) h)

set_option maxRecDepth 100000 in
set_option maxHeartbeats 4000000 in
theorem T_X8_record (e N : Nat)  (a1 : Int64) (a2 : Int32) (σ : Mem) (r : Int32) (τ : Mem) (Q : Pst) (h : F_X8_record N a1 a2 σ = some (r, τ)) (hQ : Q (some (.inl r)) τ) : WpD (e + 1) mX8_record [.inr (.inr (3, 0)), .inr (.inl a1), .inl a2] σ Q := by
  refine WpD.of (d := e + 0) (Nat.le_of_ble_eq_true rfl) (Nat.le_of_ble_eq_true rfl) ?_
  show Wp (WpD (e + 0)) hcX8_record Q (0, [some (.inr (.inr (3, 0))), some (.inr (.inl a1)), none, some (.inl a2), none], []) σ
  unfold F_X8_record at h
  refine Wp.run (WpD.mono _) 4 (q := ((9, [some (.inr (.inr (3, 0))), some (.inr (.inl a1)), none, some (.inl a2), none], [.inl (160 : Int32), .inl ((σ.1 3 3) + a2)]), σ)) rfl ?_
  refine Wp.if2_le (WpD.mono _) rfl rfl (fun hc => ?_) (fun hc => ?_)
  · have h := (if_pos hc).symm.trans h
    show Wp (WpD (e + 0)) hcX8_record Q (15, [some (.inr (.inr (3, 0))), some (.inr (.inl a1)), none, some (.inl a2), none], []) σ
    refine Wp.run (WpD.mono _) 3 (q := ((20, [some (.inr (.inr (3, 0))), some (.inr (.inl a1)), none, some (.inl a2), some (.inl (a2 - (1 : Int32)))], []), σ)) rfl ?_
    exact Wp.jump (WpD.mono _) rfl ((T_X8_record_b20 e N  r τ Q hQ  N) a1 (a2 - (1 : Int32)) σ h)
  · have h := (if_neg hc).symm.trans h
    show Wp (WpD (e + 0)) hcX8_record Q (12, [some (.inr (.inr (3, 0))), some (.inr (.inl a1)), none, some (.inl a2), none], []) σ
    refine Wp.run (WpD.mono _) 0 (q := ((14, [some (.inr (.inr (3, 0))), some (.inr (.inl a1)), none, some (.inl a2), none], [.inl (Int32.ofInt (-4))]), σ)) rfl ?_
    obtain ⟨rfl, rfl⟩ := ret_inj h
    exact Wp.ret (WpD.mono _) rfl hQ

set_option maxRecDepth 100000 in
set_option maxHeartbeats 4000000 in
theorem T_X11_feed (e N : Nat)  (a1 : Int64) (a2 : Int32) (σ : Mem) (r : Int32) (τ : Mem) (Q : Pst) (h : F_X11_feed N a1 a2 σ = some (r, τ)) (hQ : Q (some (.inl r)) τ) : WpD (e + 2) mX11_feed [.inr (.inr (0, 0)), .inr (.inl a1), .inl a2] σ Q := by
  refine WpD.of (d := e + 1) (Nat.le_of_ble_eq_true rfl) (Nat.le_of_ble_eq_true rfl) ?_
  show Wp (WpD (e + 1)) hcX11_feed Q (0, [some (.inr (.inr (0, 0))), some (.inr (.inl a1)), none, some (.inl a2)], []) σ
  unfold F_X11_feed at h
  refine Wp.run (WpD.mono _) 2 (q := ((4, [some (.inr (.inr (0, 0))), some (.inr (.inl a1)), none, some (.inl a2)], [.inl (8 : Int32), .inl (1 : Int32), .inl a2]), σ)) rfl ?_
  obtain ⟨q1, hb, h⟩ := bind_some h
  refine Wp.call (WpD.mono _) rfl (T_X11_within (e + 0) N a2 (1 : Int32) (8 : Int32) σ _ _ _ hb ?_)
  show Wp (WpD (e + 1)) hcX11_feed Q (7, [some (.inr (.inr (0, 0))), some (.inr (.inl a1)), none, some (.inl a2)], [.inl q1.1]) q1.2
  refine Wp.if0_ne (WpD.mono _) rfl rfl (fun hc => ?_) (fun hc => ?_)
  · have h := (if_pos hc).symm.trans h
    show Wp (WpD (e + 1)) hcX11_feed Q (10, [some (.inr (.inr (0, 0))), some (.inr (.inl a1)), none, some (.inl a2)], []) q1.2
    refine Wp.run (WpD.mono _) 0 (q := ((12, [some (.inr (.inr (0, 0))), some (.inr (.inl a1)), none, some (.inl a2)], [.inl (Int32.ofInt (-2))]), q1.2)) rfl ?_
    obtain ⟨rfl, rfl⟩ := ret_inj h
    exact Wp.ret (WpD.mono _) rfl hQ
  · have h := (if_neg hc).symm.trans h
    show Wp (WpD (e + 1)) hcX11_feed Q (13, [some (.inr (.inr (0, 0))), some (.inr (.inl a1)), none, some (.inl a2)], []) q1.2
    refine Wp.run (WpD.mono _) 4 (q := ((22, [some (.inr (.inr (0, 0))), some (.inr (.inl a1)), none, some (.inl a2)], [.inl a2, .inr (.inl a1), .inr (.inr (3, 0))]), q1.2)) rfl ?_
    obtain ⟨q2, hb, h⟩ := bind_some h
    refine Wp.call (WpD.mono _) rfl (T_X8_record (e + 0) N a1 a2 q1.2 _ _ _ hb ?_)
    show Wp (WpD (e + 1)) hcX11_feed Q (25, [some (.inr (.inr (0, 0))), some (.inr (.inl a1)), none, some (.inl a2)], [.inl q2.1]) q2.2
    obtain ⟨rfl, rfl⟩ := ret_inj h
    exact Wp.ret (WpD.mono _) rfl hQ

set_option maxRecDepth 100000 in
set_option maxHeartbeats 4000000 in
theorem T_X11_fill (e N : Nat)  (a1 : Int32) (σ : Mem) (r : Int32) (τ : Mem) (Q : Pst) (h : F_X11_fill N a1 σ = some (r, τ)) (hQ : Q (some (.inl r)) τ) : WpD (e + 3) mX11_fill [.inr (.inr (0, 0)), .inl a1] σ Q := by
  refine WpD.of (d := e + 2) (Nat.le_of_ble_eq_true rfl) (Nat.le_of_ble_eq_true rfl) ?_
  show Wp (WpD (e + 2)) hcX11_fill Q (0, [some (.inr (.inr (0, 0))), some (.inl a1), none], []) σ
  unfold F_X11_fill at h
  refine Wp.run (WpD.mono _) 1 (q := ((2, [some (.inr (.inr (0, 0))), some (.inl a1), none], [.inl a1, .inr (.inr (0, 0))]), σ)) rfl ?_
  obtain ⟨q1, hb, h⟩ := bind_some h
  refine Wp.call (WpD.mono _) rfl (T_X11_isPlace (e + 0) N a1 σ _ _ _ hb ?_)
  show Wp (WpD (e + 2)) hcX11_fill Q (5, [some (.inr (.inr (0, 0))), some (.inl a1), none], [.inl q1.1]) q1.2
  refine Wp.if0_ne (WpD.mono _) rfl rfl (fun hc => ?_) (fun hc => ?_)
  · have h := (if_pos hc).symm.trans h
    show Wp (WpD (e + 2)) hcX11_fill Q (8, [some (.inr (.inr (0, 0))), some (.inl a1), none], []) q1.2
    refine Wp.run (WpD.mono _) 0 (q := ((9, [some (.inr (.inr (0, 0))), some (.inl a1), none], [.inl (Int32.ofInt (-1))]), q1.2)) rfl ?_
    obtain ⟨rfl, rfl⟩ := ret_inj h
    exact Wp.ret (WpD.mono _) rfl hQ
  · have h := (if_neg hc).symm.trans h
    show Wp (WpD (e + 2)) hcX11_fill Q (10, [some (.inr (.inr (0, 0))), some (.inl a1), none], []) q1.2
    refine Wp.run (WpD.mono _) 3 (q := ((18, [some (.inr (.inr (0, 0))), some (.inl a1), none], [.inl a1, .inr (.inr (58, 0))]), q1.2)) rfl ?_
    obtain ⟨hc, h⟩ := ite_nn h
    refine Wp.X_ild1 (WpD.mono _) rfl rfl hc ?_
    show Wp (WpD (e + 2)) hcX11_fill Q (19, [some (.inr (.inr (0, 0))), some (.inl a1), none], [.inl (q1.2.2.2.1 58 0 (a1).toNatClampNeg)]) q1.2
    refine Wp.run (WpD.mono _) 5 (q := ((29, [some (.inr (.inr (0, 0))), some (.inl a1), some (.inl (q1.2.2.2.1 58 0 (a1).toNatClampNeg))], [.inl (0 : Int32), .inl a1, .inr (.inr (58, 0))]), q1.2)) rfl ?_
    obtain ⟨hc, h⟩ := ite_nn h
    refine Wp.X_ist (WpD.mono _) rfl rfl hc ?_
    show Wp (WpD (e + 2)) hcX11_fill Q (30, [some (.inr (.inr (0, 0))), some (.inl a1), some (.inl (q1.2.2.2.1 58 0 (a1).toNatClampNeg))], []) (q1.2.1, q1.2.2.1, (hwU3 q1.2.2.2.1 58 0 (a1).toNatClampNeg (0 : Int32)), q1.2.2.2.2.1, q1.2.2.2.2.2)
    refine Wp.run (WpD.mono _) 4 (q := ((39, [some (.inr (.inr (0, 0))), some (.inl a1), some (.inl (q1.2.2.2.1 58 0 (a1).toNatClampNeg))], [.inl (0 : Int32), .inl a1, .inr (.inr (59, 0))]), (q1.2.1, q1.2.2.1, (hwU3 q1.2.2.2.1 58 0 (a1).toNatClampNeg (0 : Int32)), q1.2.2.2.2.1, q1.2.2.2.2.2))) rfl ?_
    obtain ⟨hc, h⟩ := ite_nn h
    refine Wp.X_zst (WpD.mono _) rfl rfl hc ?_
    show Wp (WpD (e + 2)) hcX11_fill Q (40, [some (.inr (.inr (0, 0))), some (.inl a1), some (.inl (q1.2.2.2.1 58 0 (a1).toNatClampNeg))], []) (q1.2.1, q1.2.2.1, (hwU3 (hwU3 q1.2.2.2.1 58 0 (a1).toNatClampNeg (0 : Int32)) 59 0 (a1).toNatClampNeg (0 : Int32)), q1.2.2.2.2.1, q1.2.2.2.2.2)
    refine Wp.run (WpD.mono _) 0 (q := ((41, [some (.inr (.inr (0, 0))), some (.inl a1), some (.inl (q1.2.2.2.1 58 0 (a1).toNatClampNeg))], [.inl (q1.2.2.2.1 58 0 (a1).toNatClampNeg)]), (q1.2.1, q1.2.2.1, (hwU3 (hwU3 q1.2.2.2.1 58 0 (a1).toNatClampNeg (0 : Int32)) 59 0 (a1).toNatClampNeg (0 : Int32)), q1.2.2.2.2.1, q1.2.2.2.2.2))) rfl ?_
    obtain ⟨rfl, rfl⟩ := ret_inj h
    exact Wp.ret (WpD.mono _) rfl hQ

set_option maxRecDepth 100000 in
set_option maxHeartbeats 4000000 in
theorem T_X6_dryWith_t52_b73 (e N : Nat)  (k17 : Int32 → Nat → Int64 → Int32 → Mem → Option (Int64 × Mem)) (r : Int64) (τ : Mem) (Q : Pst) (hQ : Q (some (.inr (.inl r))) τ) (hk17 : ∀ (x3 : Int32) (x4 : Nat) (x5 : Int64) (x7 : Int32) (σ : Mem), k17 x3 x4 x5 x7 σ = some (r, τ) → Wp (WpD (e + 0)) hcX6_dryWith Q (17, [some (.inr (.inr (8, 0))), some (.inr (.inr (52, 0))), none, some (.inl x3), some (.inr (.inr (44, x4))), some (.inr (.inl x5)), none, some (.inl x7)], []) σ) : ∀ (x3 : Int32) (x4 : Nat) (x5 : Int64) (x7 : Int32) (s0 : Int64) (s1 : Int32) (σ : Mem), F_X6_dryWith_t52_b73 N k17 x3 x4 x5 x7 s0 s1 σ = some (r, τ) → Wp (WpD (e + 0)) hcX6_dryWith Q (73, [some (.inr (.inr (8, 0))), some (.inr (.inr (52, 0))), none, some (.inl x3), some (.inr (.inr (44, x4))), some (.inr (.inl x5)), none, some (.inl x7)], [.inr (.inl s0), .inl s1, .inr (.inr (51, 0))]) σ := by
  intro x3 x4 x5 x7 s0 s1 σ h
  unfold F_X6_dryWith_t52_b73 at h
  obtain ⟨hc, h⟩ := ite_nn h
  refine Wp.X_lst (WpD.mono _) rfl rfl hc ?_
  show Wp (WpD (e + 0)) hcX6_dryWith Q (74, [some (.inr (.inr (8, 0))), some (.inr (.inr (52, 0))), none, some (.inl x3), some (.inr (.inr (44, x4))), some (.inr (.inl x5)), none, some (.inl x7)], []) (σ.1, σ.2.1, σ.2.2.1, (hwU3 σ.2.2.2.1 51 0 (s1).toNatClampNeg s0), σ.2.2.2.2)
  refine Wp.run (WpD.mono _) 3 (q := ((82, [some (.inr (.inr (8, 0))), some (.inr (.inr (52, 0))), none, some (.inl x3), some (.inr (.inr (44, x4))), some (.inr (.inl x5)), none, some (.inl x7)], [.inl x7, .inr (.inr (51, 0)), .inr (.inl x5)]), (σ.1, σ.2.1, σ.2.2.1, (hwU3 σ.2.2.2.1 51 0 (s1).toNatClampNeg s0), σ.2.2.2.2))) rfl ?_
  obtain ⟨hc, h⟩ := ite_nn h
  refine Wp.X_lld (WpD.mono _) rfl rfl hc ?_
  show Wp (WpD (e + 0)) hcX6_dryWith Q (83, [some (.inr (.inr (8, 0))), some (.inr (.inr (52, 0))), none, some (.inl x3), some (.inr (.inr (44, x4))), some (.inr (.inl x5)), none, some (.inl x7)], [.inr (.inl ((hwU3 σ.2.2.2.1 51 0 (s1).toNatClampNeg s0) 51 0 (x7).toNatClampNeg)), .inr (.inl x5)]) (σ.1, σ.2.1, σ.2.2.1, (hwU3 σ.2.2.2.1 51 0 (s1).toNatClampNeg s0), σ.2.2.2.2)
  refine Wp.run (WpD.mono _) 3 (q := ((17, [some (.inr (.inr (8, 0))), some (.inr (.inr (52, 0))), none, some (.inl x3), some (.inr (.inr (44, x4))), some (.inr (.inl (x5 + ((hwU3 σ.2.2.2.1 51 0 (s1).toNatClampNeg s0) 51 0 (x7).toNatClampNeg)))), none, some (.inl (x7 + (1 : Int32)))], []), (σ.1, σ.2.1, σ.2.2.1, (hwU3 σ.2.2.2.1 51 0 (s1).toNatClampNeg s0), σ.2.2.2.2))) rfl ?_
  exact Wp.jump (WpD.mono _) rfl (hk17 x3 x4 (x5 + ((hwU3 σ.2.2.2.1 51 0 (s1).toNatClampNeg s0) 51 0 (x7).toNatClampNeg)) (x7 + (1 : Int32)) (σ.1, σ.2.1, σ.2.2.1, (hwU3 σ.2.2.2.1 51 0 (s1).toNatClampNeg s0), σ.2.2.2.2) h)

set_option maxRecDepth 100000 in
set_option maxHeartbeats 4000000 in
theorem T_X6_dryWith_t52_b104 (e N : Nat)   (r : Int64) (τ : Mem) (Q : Pst) (hQ : Q (some (.inr (.inl r))) τ) : ∀ n, ∀ (x5 : Int64) (x7 : Int32) (σ : Mem), F_X6_dryWith_t52_b104 N n x5 x7 σ = some (r, τ) → Wp (WpD (e + 0)) hcX6_dryWith Q (104, [some (.inr (.inr (8, 0))), none, none, none, none, some (.inr (.inl x5)), none, some (.inl x7)], []) σ := by
  intro n
  induction n with
  | zero => intro x5 x7 σ h; cases h
  | succ n ih =>
    intro x5 x7 σ h
    unfold F_X6_dryWith_t52_b104 at h
    refine Wp.run (WpD.mono _) 3 (q := ((113, [some (.inr (.inr (8, 0))), none, none, none, none, some (.inr (.inl x5)), none, some (.inl x7)], [.inl (σ.1 1 6), .inl x7]), σ)) rfl ?_
    refine Wp.if2_ge (WpD.mono _) rfl rfl (fun hc => ?_) (fun hc => ?_)
    · have h := (if_pos hc).symm.trans h
      show Wp (WpD (e + 0)) hcX6_dryWith Q (143, [some (.inr (.inr (8, 0))), none, none, none, none, some (.inr (.inl x5)), none, some (.inl x7)], []) σ
      refine Wp.run (WpD.mono _) 0 (q := ((145, [some (.inr (.inr (8, 0))), none, none, none, none, some (.inr (.inl x5)), none, some (.inl x7)], [.inr (.inl x5)]), σ)) rfl ?_
      obtain ⟨rfl, rfl⟩ := ret_inj h
      exact Wp.ret (WpD.mono _) rfl hQ
    · have h := (if_neg hc).symm.trans h
      show Wp (WpD (e + 0)) hcX6_dryWith Q (116, [some (.inr (.inr (8, 0))), none, none, none, none, some (.inr (.inl x5)), none, some (.inl x7)], []) σ
      refine Wp.run (WpD.mono _) 5 (q := ((128, [some (.inr (.inr (8, 0))), none, none, none, none, some (.inr (.inl x5)), none, some (.inl x7)], [.inl x7, .inr (.inr (51, 0)), .inl x7, .inr (.inr (51, 0))]), σ)) rfl ?_
      obtain ⟨hc, h⟩ := ite_nn h
      refine Wp.X_lld (WpD.mono _) rfl rfl hc ?_
      show Wp (WpD (e + 0)) hcX6_dryWith Q (129, [some (.inr (.inr (8, 0))), none, none, none, none, some (.inr (.inl x5)), none, some (.inl x7)], [.inr (.inl (σ.2.2.2.1 51 0 (x7).toNatClampNeg)), .inl x7, .inr (.inr (51, 0))]) σ
      refine Wp.run (WpD.mono _) 2 (q := ((135, [some (.inr (.inr (8, 0))), none, none, none, none, some (.inr (.inl x5)), none, some (.inl x7)], [.inr (.inl x5), .inr (.inl ((σ.2.2.2.1 51 0 (x7).toNatClampNeg) * (1000000 : Int64))), .inl x7, .inr (.inr (51, 0))]), σ)) rfl ?_
      obtain ⟨hc, h⟩ := ite_nn h
      refine Wp.X_ldiv (WpD.mono _) rfl hc ?_
      show Wp (WpD (e + 0)) hcX6_dryWith Q (136, [some (.inr (.inr (8, 0))), none, none, none, none, some (.inr (.inl x5)), none, some (.inl x7)], [.inr (.inl (((σ.2.2.2.1 51 0 (x7).toNatClampNeg) * (1000000 : Int64)) / x5)), .inl x7, .inr (.inr (51, 0))]) σ
      obtain ⟨hc, h⟩ := ite_nn h
      refine Wp.X_lst (WpD.mono _) rfl rfl hc ?_
      show Wp (WpD (e + 0)) hcX6_dryWith Q (137, [some (.inr (.inr (8, 0))), none, none, none, none, some (.inr (.inl x5)), none, some (.inl x7)], []) (σ.1, σ.2.1, σ.2.2.1, (hwU3 σ.2.2.2.1 51 0 (x7).toNatClampNeg (((σ.2.2.2.1 51 0 (x7).toNatClampNeg) * (1000000 : Int64)) / x5)), σ.2.2.2.2)
      refine Wp.run (WpD.mono _) 1 (q := ((104, [some (.inr (.inr (8, 0))), none, none, none, none, some (.inr (.inl x5)), none, some (.inl (x7 + (1 : Int32)))], []), (σ.1, σ.2.1, σ.2.2.1, (hwU3 σ.2.2.2.1 51 0 (x7).toNatClampNeg (((σ.2.2.2.1 51 0 (x7).toNatClampNeg) * (1000000 : Int64)) / x5)), σ.2.2.2.2))) rfl ?_
      exact Wp.jump (WpD.mono _) rfl (ih x5 (x7 + (1 : Int32)) (σ.1, σ.2.1, σ.2.2.1, (hwU3 σ.2.2.2.1 51 0 (x7).toNatClampNeg (((σ.2.2.2.1 51 0 (x7).toNatClampNeg) * (1000000 : Int64)) / x5)), σ.2.2.2.2) h)

set_option maxRecDepth 100000 in
set_option maxHeartbeats 4000000 in
theorem T_X6_dryWith_t52_b17 (e N : Nat)   (r : Int64) (τ : Mem) (Q : Pst) (hQ : Q (some (.inr (.inl r))) τ) : ∀ n, ∀ (x3 : Int32) (x4 : Nat) (x5 : Int64) (x7 : Int32) (σ : Mem), F_X6_dryWith_t52_b17 N n x3 x4 x5 x7 σ = some (r, τ) → Wp (WpD (e + 0)) hcX6_dryWith Q (17, [some (.inr (.inr (8, 0))), some (.inr (.inr (52, 0))), none, some (.inl x3), some (.inr (.inr (44, x4))), some (.inr (.inl x5)), none, some (.inl x7)], []) σ := by
  intro n
  induction n with
  | zero => intro x3 x4 x5 x7 σ h; cases h
  | succ n ih =>
    intro x3 x4 x5 x7 σ h
    unfold F_X6_dryWith_t52_b17 at h
    refine Wp.run (WpD.mono _) 3 (q := ((26, [some (.inr (.inr (8, 0))), some (.inr (.inr (52, 0))), none, some (.inl x3), some (.inr (.inr (44, x4))), some (.inr (.inl x5)), none, some (.inl x7)], [.inl (σ.1 1 6), .inl x7]), σ)) rfl ?_
    refine Wp.if2_ge (WpD.mono _) rfl rfl (fun hc => ?_) (fun hc => ?_)
    · have h := (if_pos hc).symm.trans h
      show Wp (WpD (e + 0)) hcX6_dryWith Q (92, [some (.inr (.inr (8, 0))), some (.inr (.inr (52, 0))), none, some (.inl x3), some (.inr (.inr (44, x4))), some (.inr (.inl x5)), none, some (.inl x7)], []) σ
      refine Wp.run (WpD.mono _) 2 (q := ((96, [some (.inr (.inr (8, 0))), some (.inr (.inr (52, 0))), none, some (.inl x3), some (.inr (.inr (44, x4))), some (.inr (.inl x5)), none, some (.inl x7)], [.inl (lg_cmp x5 (0 : Int64))]), σ)) rfl ?_
      refine Wp.if0_gt (WpD.mono _) rfl rfl (fun hc => ?_) (fun hc => ?_)
      · have h := (if_pos hc).symm.trans h
        show Wp (WpD (e + 0)) hcX6_dryWith Q (101, [some (.inr (.inr (8, 0))), some (.inr (.inr (52, 0))), none, some (.inl x3), some (.inr (.inr (44, x4))), some (.inr (.inl x5)), none, some (.inl x7)], []) σ
        refine Wp.run (WpD.mono _) 1 (q := ((104, [some (.inr (.inr (8, 0))), some (.inr (.inr (52, 0))), none, some (.inl x3), some (.inr (.inr (44, x4))), some (.inr (.inl x5)), none, some (.inl (0 : Int32))], []), σ)) rfl ?_
        exact Wp.jump (WpD.mono _) rfl ((T_X6_dryWith_t52_b104 e N  r τ Q hQ  N) x5 (0 : Int32) σ h)
      · have h := (if_neg hc).symm.trans h
        show Wp (WpD (e + 0)) hcX6_dryWith Q (99, [some (.inr (.inr (8, 0))), some (.inr (.inr (52, 0))), none, some (.inl x3), some (.inr (.inr (44, x4))), some (.inr (.inl x5)), none, some (.inl x7)], []) σ
        refine Wp.run (WpD.mono _) 0 (q := ((100, [some (.inr (.inr (8, 0))), some (.inr (.inr (52, 0))), none, some (.inl x3), some (.inr (.inr (44, x4))), some (.inr (.inl x5)), none, some (.inl x7)], [.inr (.inl (0 : Int64))]), σ)) rfl ?_
        obtain ⟨rfl, rfl⟩ := ret_inj h
        exact Wp.ret (WpD.mono _) rfl hQ
    · have h := (if_neg hc).symm.trans h
      show Wp (WpD (e + 0)) hcX6_dryWith Q (29, [some (.inr (.inr (8, 0))), some (.inr (.inr (52, 0))), none, some (.inl x3), some (.inr (.inr (44, x4))), some (.inr (.inl x5)), none, some (.inl x7)], []) σ
      refine Wp.run (WpD.mono _) 6 (q := ((44, [some (.inr (.inr (8, 0))), some (.inr (.inr (52, 0))), none, some (.inl x3), some (.inr (.inr (44, x4))), some (.inr (.inl x5)), none, some (.inl x7)], [.inl x7, .inr (.inr (24, 0)), .inl x7, .inr (.inr (51, 0))]), σ)) rfl ?_
      obtain ⟨hc, h⟩ := ite_nn h
      refine Wp.X_ild1 (WpD.mono _) rfl rfl hc ?_
      show Wp (WpD (e + 0)) hcX6_dryWith Q (45, [some (.inr (.inr (8, 0))), some (.inr (.inr (52, 0))), none, some (.inl x3), some (.inr (.inr (44, x4))), some (.inr (.inl x5)), none, some (.inl x7)], [.inl (σ.2.2.1 24 0 (x7).toNatClampNeg), .inl x7, .inr (.inr (51, 0))]) σ
      refine Wp.run (WpD.mono _) 0 (q := ((46, [some (.inr (.inr (8, 0))), some (.inr (.inr (52, 0))), none, some (.inl x3), some (.inr (.inr (44, x4))), some (.inr (.inl x5)), none, some (.inl x7)], [.inl x3, .inl (σ.2.2.1 24 0 (x7).toNatClampNeg), .inl x7, .inr (.inr (51, 0))]), σ)) rfl ?_
      refine Wp.if2_ne (WpD.mono _) rfl rfl (fun hc => ?_) (fun hc => ?_)
      · have h := (if_pos hc).symm.trans h
        show Wp (WpD (e + 0)) hcX6_dryWith Q (49, [some (.inr (.inr (8, 0))), some (.inr (.inr (52, 0))), none, some (.inl x3), some (.inr (.inr (44, x4))), some (.inr (.inl x5)), none, some (.inl x7)], [.inl x7, .inr (.inr (51, 0))]) σ
        refine Wp.run (WpD.mono _) 1 (q := ((52, [some (.inr (.inr (8, 0))), some (.inr (.inr (52, 0))), none, some (.inl x3), some (.inr (.inr (44, x4))), some (.inr (.inl x5)), none, some (.inl x7)], [.inl x7, .inr (.inr (52, 0)), .inl x7, .inr (.inr (51, 0))]), σ)) rfl ?_
        obtain ⟨hc, h⟩ := ite_nn h
        refine Wp.X_lld (WpD.mono _) rfl rfl hc ?_
        show Wp (WpD (e + 0)) hcX6_dryWith Q (53, [some (.inr (.inr (8, 0))), some (.inr (.inr (52, 0))), none, some (.inl x3), some (.inr (.inr (44, x4))), some (.inr (.inl x5)), none, some (.inl x7)], [.inr (.inl (σ.2.2.2.1 52 0 (x7).toNatClampNeg)), .inl x7, .inr (.inr (51, 0))]) σ
        refine Wp.run (WpD.mono _) 1 (q := ((56, [some (.inr (.inr (8, 0))), some (.inr (.inr (52, 0))), none, some (.inl x3), some (.inr (.inr (44, x4))), some (.inr (.inl x5)), none, some (.inl x7)], [.inl x7, .inr (.inr (52, 0)), .inr (.inl (σ.2.2.2.1 52 0 (x7).toNatClampNeg)), .inl x7, .inr (.inr (51, 0))]), σ)) rfl ?_
        obtain ⟨hc, h⟩ := ite_nn h
        refine Wp.X_lld (WpD.mono _) rfl rfl hc ?_
        show Wp (WpD (e + 0)) hcX6_dryWith Q (57, [some (.inr (.inr (8, 0))), some (.inr (.inr (52, 0))), none, some (.inl x3), some (.inr (.inr (44, x4))), some (.inr (.inl x5)), none, some (.inl x7)], [.inr (.inl (σ.2.2.2.1 52 0 (x7).toNatClampNeg)), .inr (.inl (σ.2.2.2.1 52 0 (x7).toNatClampNeg)), .inl x7, .inr (.inr (51, 0))]) σ
        refine Wp.run (WpD.mono _) 1 (q := ((61, [some (.inr (.inr (8, 0))), some (.inr (.inr (52, 0))), none, some (.inl x3), some (.inr (.inr (44, x4))), some (.inr (.inl x5)), none, some (.inl x7)], [.inl x7, .inr (.inr (44, x4)), .inr (.inl (σ.2.2.2.1 52 0 (x7).toNatClampNeg)), .inr (.inl (σ.2.2.2.1 52 0 (x7).toNatClampNeg)), .inl x7, .inr (.inr (51, 0))]), σ)) rfl ?_
        obtain ⟨hc, h⟩ := ite_nn h
        refine Wp.X_ild1 (WpD.mono _) rfl rfl hc ?_
        show Wp (WpD (e + 0)) hcX6_dryWith Q (62, [some (.inr (.inr (8, 0))), some (.inr (.inr (52, 0))), none, some (.inl x3), some (.inr (.inr (44, x4))), some (.inr (.inl x5)), none, some (.inl x7)], [.inl (σ.2.2.1 44 x4 (x7).toNatClampNeg), .inr (.inl (σ.2.2.2.1 52 0 (x7).toNatClampNeg)), .inr (.inl (σ.2.2.2.1 52 0 (x7).toNatClampNeg)), .inl x7, .inr (.inr (51, 0))]) σ
        refine Wp.run (WpD.mono _) 5 (q := ((73, [some (.inr (.inr (8, 0))), some (.inr (.inr (52, 0))), none, some (.inl x3), some (.inr (.inr (44, x4))), some (.inr (.inl x5)), none, some (.inl x7)], [.inr (.inl ((σ.2.2.2.1 52 0 (x7).toNatClampNeg) - (((σ.2.2.2.1 52 0 (x7).toNatClampNeg) * (σ.2.2.1 44 x4 (x7).toNatClampNeg).toInt64) / (100 : Int64)))), .inl x7, .inr (.inr (51, 0))]), σ)) rfl ?_
        exact Wp.jump (WpD.mono _) rfl ((T_X6_dryWith_t52_b73 e N (F_X6_dryWith_t52_b17 N n) r τ Q hQ ih) x3 x4 x5 x7 ((σ.2.2.2.1 52 0 (x7).toNatClampNeg) - (((σ.2.2.2.1 52 0 (x7).toNatClampNeg) * (σ.2.2.1 44 x4 (x7).toNatClampNeg).toInt64) / (100 : Int64))) x7 σ h)
      · have h := (if_neg hc).symm.trans h
        show Wp (WpD (e + 0)) hcX6_dryWith Q (72, [some (.inr (.inr (8, 0))), some (.inr (.inr (52, 0))), none, some (.inl x3), some (.inr (.inr (44, x4))), some (.inr (.inl x5)), none, some (.inl x7)], [.inl x7, .inr (.inr (51, 0))]) σ
        refine Wp.run (WpD.mono _) 0 (q := ((73, [some (.inr (.inr (8, 0))), some (.inr (.inr (52, 0))), none, some (.inl x3), some (.inr (.inr (44, x4))), some (.inr (.inl x5)), none, some (.inl x7)], [.inr (.inl (0 : Int64)), .inl x7, .inr (.inr (51, 0))]), σ)) rfl ?_
        exact Wp.jump (WpD.mono _) rfl ((T_X6_dryWith_t52_b73 e N (F_X6_dryWith_t52_b17 N n) r τ Q hQ ih) x3 x4 x5 x7 (0 : Int64) x7 σ h)

set_option maxRecDepth 100000 in
set_option maxHeartbeats 4000000 in
theorem T_X6_dryWith_t52 (e N : Nat)  (a2 : Int32) (a3 : Int32) (σ : Mem) (r : Int64) (τ : Mem) (Q : Pst) (h : F_X6_dryWith_t52 N a2 a3 σ = some (r, τ)) (hQ : Q (some (.inr (.inl r))) τ) : WpD (e + 1) mX6_dryWith [.inr (.inr (8, 0)), .inr (.inr (52, 0)), .inl a2, .inl a3] σ Q := by
  refine WpD.of (d := e + 0) (Nat.le_of_ble_eq_true rfl) (Nat.le_of_ble_eq_true rfl) ?_
  show Wp (WpD (e + 0)) hcX6_dryWith Q (0, [some (.inr (.inr (8, 0))), some (.inr (.inr (52, 0))), some (.inl a2), some (.inl a3), none, none, none, none], []) σ
  unfold F_X6_dryWith_t52 at h
  refine Wp.run (WpD.mono _) 3 (q := ((8, [some (.inr (.inr (8, 0))), some (.inr (.inr (52, 0))), some (.inl a2), some (.inl a3), none, none, none, none], [.inl a2, .inr (.inr (43, 0))]), σ)) rfl ?_
  obtain ⟨hc, h⟩ := ite_nn h
  refine Wp.X_rld4 (WpD.mono _) rfl rfl hc ?_
  show Wp (WpD (e + 0)) hcX6_dryWith Q (9, [some (.inr (.inr (8, 0))), some (.inr (.inr (52, 0))), some (.inl a2), some (.inl a3), none, none, none, none], [.inr (.inr (44, (a2).toNatClampNeg))]) σ
  refine Wp.run (WpD.mono _) 4 (q := ((17, [some (.inr (.inr (8, 0))), some (.inr (.inr (52, 0))), some (.inl a2), some (.inl a3), some (.inr (.inr (44, (a2).toNatClampNeg))), some (.inr (.inl (0 : Int64))), none, some (.inl (0 : Int32))], []), σ)) rfl ?_
  exact Wp.jump (WpD.mono _) rfl ((T_X6_dryWith_t52_b17 e N  r τ Q hQ  N) a3 (a2).toNatClampNeg (0 : Int64) (0 : Int32) σ h)

set_option maxRecDepth 100000 in
set_option maxHeartbeats 4000000 in
theorem T_X6_mix_b2 (e N : Nat)   (r : Unit) (τ : Mem) (Q : Pst) (hQ : Q (none) τ) : ∀ n, ∀ (x1 : Int32) (x2 : Int32) (σ : Mem), F_X6_mix_b2 N n x1 x2 σ = some (r, τ) → Wp (WpD (e + 0)) hcX6_mix Q (2, [some (.inr (.inr (8, 0))), some (.inl x1), some (.inl x2)], []) σ := by
  intro n
  induction n with
  | zero => intro x1 x2 σ h; cases h
  | succ n ih =>
    intro x1 x2 σ h
    unfold F_X6_mix_b2 at h
    refine Wp.run (WpD.mono _) 3 (q := ((10, [some (.inr (.inr (8, 0))), some (.inl x1), some (.inl x2)], [.inl (σ.1 1 6), .inl x2]), σ)) rfl ?_
    refine Wp.if2_ge (WpD.mono _) rfl rfl (fun hc => ?_) (fun hc => ?_)
    · have h := (if_pos hc).symm.trans h
      show Wp (WpD (e + 0)) hcX6_mix Q (53, [some (.inr (.inr (8, 0))), some (.inl x1), some (.inl x2)], []) σ
      obtain ⟨rfl, rfl⟩ := ret_inj h
      exact Wp.ret (WpD.mono _) rfl hQ
    · have h := (if_neg hc).symm.trans h
      show Wp (WpD (e + 0)) hcX6_mix Q (13, [some (.inr (.inr (8, 0))), some (.inl x1), some (.inl x2)], []) σ
      refine Wp.run (WpD.mono _) 7 (q := ((25, [some (.inr (.inr (8, 0))), some (.inl x1), some (.inl x2)], [.inl x2, .inr (.inr (53, 0)), .inl x2, .inr (.inr (50, 1))]), σ)) rfl ?_
      obtain ⟨hc, h⟩ := ite_nn h
      refine Wp.X_lld (WpD.mono _) rfl rfl hc ?_
      show Wp (WpD (e + 0)) hcX6_mix Q (26, [some (.inr (.inr (8, 0))), some (.inl x1), some (.inl x2)], [.inr (.inl (σ.2.2.2.1 53 0 (x2).toNatClampNeg)), .inl x2, .inr (.inr (50, 1))]) σ
      refine Wp.run (WpD.mono _) 7 (q := ((37, [some (.inr (.inr (8, 0))), some (.inl x1), some (.inl x2)], [.inl x2, .inr (.inr (51, 0)), .inr (.inl ((σ.2.2.2.1 53 0 (x2).toNatClampNeg) * ((100 : Int32) - x1).toInt64)), .inl x2, .inr (.inr (50, 1))]), σ)) rfl ?_
      obtain ⟨hc, h⟩ := ite_nn h
      refine Wp.X_lld (WpD.mono _) rfl rfl hc ?_
      show Wp (WpD (e + 0)) hcX6_mix Q (38, [some (.inr (.inr (8, 0))), some (.inl x1), some (.inl x2)], [.inr (.inl (σ.2.2.2.1 51 0 (x2).toNatClampNeg)), .inr (.inl ((σ.2.2.2.1 53 0 (x2).toNatClampNeg) * ((100 : Int32) - x1).toInt64)), .inl x2, .inr (.inr (50, 1))]) σ
      refine Wp.run (WpD.mono _) 5 (q := ((46, [some (.inr (.inr (8, 0))), some (.inl x1), some (.inl x2)], [.inr (.inl ((((σ.2.2.2.1 53 0 (x2).toNatClampNeg) * ((100 : Int32) - x1).toInt64) + ((σ.2.2.2.1 51 0 (x2).toNatClampNeg) * x1.toInt64)) / (100 : Int64))), .inl x2, .inr (.inr (50, 1))]), σ)) rfl ?_
      obtain ⟨hc, h⟩ := ite_nn h
      refine Wp.X_lst (WpD.mono _) rfl rfl hc ?_
      show Wp (WpD (e + 0)) hcX6_mix Q (47, [some (.inr (.inr (8, 0))), some (.inl x1), some (.inl x2)], []) (σ.1, σ.2.1, σ.2.2.1, (hwU3 σ.2.2.2.1 50 1 (x2).toNatClampNeg ((((σ.2.2.2.1 53 0 (x2).toNatClampNeg) * ((100 : Int32) - x1).toInt64) + ((σ.2.2.2.1 51 0 (x2).toNatClampNeg) * x1.toInt64)) / (100 : Int64))), σ.2.2.2.2)
      refine Wp.run (WpD.mono _) 1 (q := ((2, [some (.inr (.inr (8, 0))), some (.inl x1), some (.inl (x2 + (1 : Int32)))], []), (σ.1, σ.2.1, σ.2.2.1, (hwU3 σ.2.2.2.1 50 1 (x2).toNatClampNeg ((((σ.2.2.2.1 53 0 (x2).toNatClampNeg) * ((100 : Int32) - x1).toInt64) + ((σ.2.2.2.1 51 0 (x2).toNatClampNeg) * x1.toInt64)) / (100 : Int64))), σ.2.2.2.2))) rfl ?_
      exact Wp.jump (WpD.mono _) rfl (ih x1 (x2 + (1 : Int32)) (σ.1, σ.2.1, σ.2.2.1, (hwU3 σ.2.2.2.1 50 1 (x2).toNatClampNeg ((((σ.2.2.2.1 53 0 (x2).toNatClampNeg) * ((100 : Int32) - x1).toInt64) + ((σ.2.2.2.1 51 0 (x2).toNatClampNeg) * x1.toInt64)) / (100 : Int64))), σ.2.2.2.2) h)

set_option maxRecDepth 100000 in
set_option maxHeartbeats 4000000 in
theorem T_X6_mix (e N : Nat)  (a1 : Int32) (σ : Mem) (r : Unit) (τ : Mem) (Q : Pst) (h : F_X6_mix N a1 σ = some (r, τ)) (hQ : Q (none) τ) : WpD (e + 1) mX6_mix [.inr (.inr (8, 0)), .inl a1] σ Q := by
  refine WpD.of (d := e + 0) (Nat.le_of_ble_eq_true rfl) (Nat.le_of_ble_eq_true rfl) ?_
  show Wp (WpD (e + 0)) hcX6_mix Q (0, [some (.inr (.inr (8, 0))), some (.inl a1), none], []) σ
  unfold F_X6_mix at h
  refine Wp.run (WpD.mono _) 1 (q := ((2, [some (.inr (.inr (8, 0))), some (.inl a1), some (.inl (0 : Int32))], []), σ)) rfl ?_
  exact Wp.jump (WpD.mono _) rfl ((T_X6_mix_b2 e N  r τ Q hQ  N) a1 (0 : Int32) σ h)

set_option maxRecDepth 100000 in
set_option maxHeartbeats 4000000 in
theorem T_X6_teaches_b33 (e N : Nat)   (r : Int64) (τ : Mem) (Q : Pst) (hQ : Q (some (.inr (.inl r))) τ) : ∀ n, ∀ (x1 : Int32) (x2 : Int32) (x3 : Int64) (x5 : Int64) (x7 : Int32) (σ : Mem), F_X6_teaches_b33 N n x1 x2 x3 x5 x7 σ = some (r, τ) → Wp (WpD (e + 13)) hcX6_teaches Q (33, [some (.inr (.inr (8, 0))), some (.inl x1), some (.inl x2), some (.inr (.inl x3)), none, some (.inr (.inl x5)), none, some (.inl x7), none, none], []) σ := by
  intro n
  induction n with
  | zero => intro x1 x2 x3 x5 x7 σ h; cases h
  | succ n ih =>
    intro x1 x2 x3 x5 x7 σ h
    unfold F_X6_teaches_b33 at h
    refine Wp.run (WpD.mono _) 1 (q := ((36, [some (.inr (.inr (8, 0))), some (.inl x1), some (.inl x2), some (.inr (.inl x3)), none, some (.inr (.inl x5)), none, some (.inl x7), none, none], [.inl (3 : Int32), .inl x7]), σ)) rfl ?_
    refine Wp.if2_ge (WpD.mono _) rfl rfl (fun hc => ?_) (fun hc => ?_)
    · have h := (if_pos hc).symm.trans h
      show Wp (WpD (e + 13)) hcX6_teaches Q (99, [some (.inr (.inr (8, 0))), some (.inl x1), some (.inl x2), some (.inr (.inl x3)), none, some (.inr (.inl x5)), none, some (.inl x7), none, none], []) σ
      refine Wp.run (WpD.mono _) 0 (q := ((101, [some (.inr (.inr (8, 0))), some (.inl x1), some (.inl x2), some (.inr (.inl x3)), none, some (.inr (.inl x5)), none, some (.inl x7), none, none], [.inr (.inl x5)]), σ)) rfl ?_
      obtain ⟨rfl, rfl⟩ := ret_inj h
      exact Wp.ret (WpD.mono _) rfl hQ
    · have h := (if_neg hc).symm.trans h
      show Wp (WpD (e + 13)) hcX6_teaches Q (39, [some (.inr (.inr (8, 0))), some (.inl x1), some (.inl x2), some (.inr (.inl x3)), none, some (.inr (.inl x5)), none, some (.inl x7), none, none], []) σ
      refine Wp.run (WpD.mono _) 4 (q := ((47, [some (.inr (.inr (8, 0))), some (.inl x1), some (.inl x2), some (.inr (.inl x3)), none, some (.inr (.inl x5)), none, some (.inl x7), none, none], [.inl x7, .inl (1 : Int32), .inr (.inr (52, 0)), .inr (.inr (8, 0))]), σ)) rfl ?_
      obtain ⟨q3, hb, h⟩ := bind_some h
      refine Wp.call (WpD.mono _) rfl (T_X6_dryWith_t52 (e + 12) N (1 : Int32) x7 σ _ _ _ hb ?_)
      show Wp (WpD (e + 13)) hcX6_teaches Q (50, [some (.inr (.inr (8, 0))), some (.inl x1), some (.inl x2), some (.inr (.inl x3)), none, some (.inr (.inl x5)), none, some (.inl x7), none, none], [.inr (.inl q3.1)]) q3.2
      refine Wp.run (WpD.mono _) 3 (q := ((56, [some (.inr (.inr (8, 0))), some (.inl x1), some (.inl x2), some (.inr (.inl x3)), none, some (.inr (.inl x5)), none, some (.inl x7), some (.inr (.inl q3.1)), none], [.inl (lg_cmp q3.1 (0 : Int64))]), q3.2)) rfl ?_
      refine Wp.if0_le (WpD.mono _) rfl rfl (fun hc => ?_) (fun hc => ?_)
      · have h := (if_pos hc).symm.trans h
        show Wp (WpD (e + 13)) hcX6_teaches Q (93, [some (.inr (.inr (8, 0))), some (.inl x1), some (.inl x2), some (.inr (.inl x3)), none, some (.inr (.inl x5)), none, some (.inl x7), some (.inr (.inl q3.1)), none], []) q3.2
        refine Wp.run (WpD.mono _) 1 (q := ((33, [some (.inr (.inr (8, 0))), some (.inl x1), some (.inl x2), some (.inr (.inl x3)), none, some (.inr (.inl x5)), none, some (.inl (x7 + (1 : Int32))), none, none], []), q3.2)) rfl ?_
        exact Wp.jump (WpD.mono _) rfl (ih x1 x2 x3 x5 (x7 + (1 : Int32)) q3.2 h)
      · have h := (if_neg hc).symm.trans h
        show Wp (WpD (e + 13)) hcX6_teaches Q (59, [some (.inr (.inr (8, 0))), some (.inl x1), some (.inl x2), some (.inr (.inl x3)), none, some (.inr (.inl x5)), none, some (.inl x7), some (.inr (.inl q3.1)), none], []) q3.2
        refine Wp.run (WpD.mono _) 4 (q := ((68, [some (.inr (.inr (8, 0))), some (.inl x1), some (.inl x2), some (.inr (.inl x3)), none, some (.inr (.inl x5)), none, some (.inl x7), some (.inr (.inl q3.1)), none], [.inl x1, .inr (.inr (60, 0)), .inr (.inr (8, 0))]), q3.2)) rfl ?_
        obtain ⟨hc, h⟩ := ite_nn h
        refine Wp.X_rld4 (WpD.mono _) rfl rfl hc ?_
        show Wp (WpD (e + 13)) hcX6_teaches Q (69, [some (.inr (.inr (8, 0))), some (.inl x1), some (.inl x2), some (.inr (.inl x3)), none, some (.inr (.inl x5)), none, some (.inl x7), some (.inr (.inl q3.1)), none], [.inr (.inr (61, (x1).toNatClampNeg)), .inr (.inr (8, 0))]) q3.2
        refine Wp.run (WpD.mono _) 0 (q := ((70, [some (.inr (.inr (8, 0))), some (.inl x1), some (.inl x2), some (.inr (.inl x3)), none, some (.inr (.inl x5)), none, some (.inl x7), some (.inr (.inl q3.1)), none], [.inl x2, .inr (.inr (61, (x1).toNatClampNeg)), .inr (.inr (8, 0))]), q3.2)) rfl ?_
        obtain ⟨hc, h⟩ := ite_nn h
        refine Wp.X_ild1 (WpD.mono _) rfl rfl hc ?_
        show Wp (WpD (e + 13)) hcX6_teaches Q (71, [some (.inr (.inr (8, 0))), some (.inl x1), some (.inl x2), some (.inr (.inl x3)), none, some (.inr (.inl x5)), none, some (.inl x7), some (.inr (.inl q3.1)), none], [.inl (q3.2.2.2.1 61 (x1).toNatClampNeg (x2).toNatClampNeg), .inr (.inr (8, 0))]) q3.2
        obtain ⟨q4, hb, h⟩ := bind_some h
        refine Wp.call (WpD.mono _) rfl (T_X6_mix (e + 12) N (q3.2.2.2.1 61 (x1).toNatClampNeg (x2).toNatClampNeg) q3.2 _ _ _ hb ?_)
        show Wp (WpD (e + 13)) hcX6_teaches Q (74, [some (.inr (.inr (8, 0))), some (.inl x1), some (.inl x2), some (.inr (.inl x3)), none, some (.inr (.inl x5)), none, some (.inl x7), some (.inr (.inl q3.1)), none], []) q4.2
        refine Wp.run (WpD.mono _) 3 (q := ((80, [some (.inr (.inr (8, 0))), some (.inl x1), some (.inl x2), some (.inr (.inl x3)), none, some (.inr (.inl x5)), none, some (.inl x7), some (.inr (.inl q3.1)), none], [.inl (1 : Int32), .inr (.inr (8, 0)), .inr (.inl q3.1), .inr (.inl x5)]), q4.2)) rfl ?_
        obtain ⟨q5, hb, h⟩ := bind_some h
        refine Wp.call (WpD.mono _) rfl (T_X6_worthOf (e + 0) N (1 : Int32) q4.2 _ _ _ hb ?_)
        show Wp (WpD (e + 13)) hcX6_teaches Q (83, [some (.inr (.inr (8, 0))), some (.inl x1), some (.inl x2), some (.inr (.inl x3)), none, some (.inr (.inl x5)), none, some (.inl x7), some (.inr (.inl q3.1)), none], [.inr (.inl q5.1), .inr (.inl q3.1), .inr (.inl x5)]) q5.2
        refine Wp.run (WpD.mono _) 8 (q := ((33, [some (.inr (.inr (8, 0))), some (.inl x1), some (.inl x2), some (.inr (.inl x3)), none, some (.inr (.inl (x5 + ((q3.1 * (q5.1 - x3)) / (1000000 : Int64))))), none, some (.inl (x7 + (1 : Int32))), none, none], []), q5.2)) rfl ?_
        exact Wp.jump (WpD.mono _) rfl (ih x1 x2 x3 (x5 + ((q3.1 * (q5.1 - x3)) / (1000000 : Int64))) (x7 + (1 : Int32)) q5.2 h)

set_option maxRecDepth 100000 in
set_option maxHeartbeats 4000000 in
theorem T_X6_teaches (e N : Nat)  (a1 : Int32) (a2 : Int32) (σ : Mem) (r : Int64) (τ : Mem) (Q : Pst) (h : F_X6_teaches N a1 a2 σ = some (r, τ)) (hQ : Q (some (.inr (.inl r))) τ) : WpD (e + 14) mX6_teaches [.inr (.inr (8, 0)), .inl a1, .inl a2] σ Q := by
  refine WpD.of (d := e + 13) (Nat.le_of_ble_eq_true rfl) (Nat.le_of_ble_eq_true rfl) ?_
  show Wp (WpD (e + 13)) hcX6_teaches Q (0, [some (.inr (.inr (8, 0))), some (.inl a1), some (.inl a2), none, none, none, none, none, none, none], []) σ
  unfold F_X6_teaches at h
  refine Wp.run (WpD.mono _) 1 (q := ((2, [some (.inr (.inr (8, 0))), some (.inl a1), some (.inl a2), none, none, none, none, none, none, none], [.inl a2, .inr (.inr (8, 0))]), σ)) rfl ?_
  obtain ⟨q1, hb, h⟩ := bind_some h
  refine Wp.call (WpD.mono _) rfl (T_X6_begin (e + 11) N a2 σ _ _ _ hb ?_)
  show Wp (WpD (e + 13)) hcX6_teaches Q (5, [some (.inr (.inr (8, 0))), some (.inl a1), some (.inl a2), none, none, none, none, none, none, none], []) q1.2
  refine Wp.run (WpD.mono _) 11 (q := ((23, [some (.inr (.inr (8, 0))), some (.inl a1), some (.inl a2), none, none, none, none, none, none, none], [.inl (1 : Int32), .inr (.inr (8, 0))]), (q1.2.1, q1.2.2.1, q1.2.2.2.1, (hwR3 q1.2.2.2.2.1 53 0 (va_cpy (q1.2.2.2.2.1 50 1) (q1.2.2.2.2.1 53 0) 0 0 5)), q1.2.2.2.2.2))) rfl ?_
  obtain ⟨q2, hb, h⟩ := bind_some h
  refine Wp.call (WpD.mono _) rfl (T_X6_worthOf (e + 0) N (1 : Int32) (q1.2.1, q1.2.2.1, q1.2.2.2.1, (hwR3 q1.2.2.2.2.1 53 0 (va_cpy (q1.2.2.2.2.1 50 1) (q1.2.2.2.2.1 53 0) 0 0 5)), q1.2.2.2.2.2) _ _ _ hb ?_)
  show Wp (WpD (e + 13)) hcX6_teaches Q (26, [some (.inr (.inr (8, 0))), some (.inl a1), some (.inl a2), none, none, none, none, none, none, none], [.inr (.inl q2.1)]) q2.2
  refine Wp.run (WpD.mono _) 4 (q := ((33, [some (.inr (.inr (8, 0))), some (.inl a1), some (.inl a2), some (.inr (.inl q2.1)), none, some (.inr (.inl (0 : Int64))), none, some (.inl (0 : Int32)), none, none], []), q2.2)) rfl ?_
  exact Wp.jump (WpD.mono _) rfl ((T_X6_teaches_b33 e N  r τ Q hQ  N) a1 a2 q2.1 (0 : Int64) (0 : Int32) q2.2 h)

set_option maxRecDepth 100000 in
set_option maxHeartbeats 4000000 in
theorem T_X6_learning_b26 (e N : Nat)   (r : Int64) (τ : Mem) (Q : Pst) (hQ : Q (some (.inr (.inl r))) τ) : ∀ n, ∀ (x1 : Int32) (x2 : Int64) (x4 : Int32) (σ : Mem), F_X6_learning_b26 N n x1 x2 x4 σ = some (r, τ) → Wp (WpD (e + 14)) hcX6_learning Q (26, [some (.inr (.inr (8, 0))), some (.inl x1), some (.inr (.inl x2)), none, some (.inl x4)], []) σ := by
  intro n
  induction n with
  | zero => intro x1 x2 x4 σ h; cases h
  | succ n ih =>
    intro x1 x2 x4 σ h
    unfold F_X6_learning_b26 at h
    refine Wp.run (WpD.mono _) 3 (q := ((35, [some (.inr (.inr (8, 0))), some (.inl x1), some (.inr (.inl x2)), none, some (.inl x4)], [.inl (σ.1 4 5), .inl x4]), σ)) rfl ?_
    refine Wp.if2_ge (WpD.mono _) rfl rfl (fun hc => ?_) (fun hc => ?_)
    · have h := (if_pos hc).symm.trans h
      show Wp (WpD (e + 14)) hcX6_learning Q (60, [some (.inr (.inr (8, 0))), some (.inl x1), some (.inr (.inl x2)), none, some (.inl x4)], []) σ
      refine Wp.run (WpD.mono _) 0 (q := ((61, [some (.inr (.inr (8, 0))), some (.inl x1), some (.inr (.inl x2)), none, some (.inl x4)], [.inr (.inl x2)]), σ)) rfl ?_
      obtain ⟨rfl, rfl⟩ := ret_inj h
      exact Wp.ret (WpD.mono _) rfl hQ
    · have h := (if_neg hc).symm.trans h
      show Wp (WpD (e + 14)) hcX6_learning Q (38, [some (.inr (.inr (8, 0))), some (.inl x1), some (.inr (.inl x2)), none, some (.inl x4)], []) σ
      refine Wp.run (WpD.mono _) 1 (q := ((41, [some (.inr (.inr (8, 0))), some (.inl x1), some (.inr (.inl x2)), none, some (.inl x4)], [.inl x1, .inl x4]), σ)) rfl ?_
      refine Wp.if2_eq (WpD.mono _) rfl rfl (fun hc => ?_) (fun hc => ?_)
      · have h := (if_pos hc).symm.trans h
        show Wp (WpD (e + 14)) hcX6_learning Q (54, [some (.inr (.inr (8, 0))), some (.inl x1), some (.inr (.inl x2)), none, some (.inl x4)], []) σ
        refine Wp.run (WpD.mono _) 1 (q := ((26, [some (.inr (.inr (8, 0))), some (.inl x1), some (.inr (.inl x2)), none, some (.inl (x4 + (1 : Int32)))], []), σ)) rfl ?_
        exact Wp.jump (WpD.mono _) rfl (ih x1 x2 (x4 + (1 : Int32)) σ h)
      · have h := (if_neg hc).symm.trans h
        show Wp (WpD (e + 14)) hcX6_learning Q (44, [some (.inr (.inr (8, 0))), some (.inl x1), some (.inr (.inl x2)), none, some (.inl x4)], []) σ
        refine Wp.run (WpD.mono _) 3 (q := ((49, [some (.inr (.inr (8, 0))), some (.inl x1), some (.inr (.inl x2)), none, some (.inl x4)], [.inl x4, .inl x1, .inr (.inr (8, 0)), .inr (.inl x2)]), σ)) rfl ?_
        obtain ⟨q2, hb, h⟩ := bind_some h
        refine Wp.call (WpD.mono _) rfl (T_X6_teaches (e + 0) N x1 x4 σ _ _ _ hb ?_)
        show Wp (WpD (e + 14)) hcX6_learning Q (52, [some (.inr (.inr (8, 0))), some (.inl x1), some (.inr (.inl x2)), none, some (.inl x4)], [.inr (.inl q2.1), .inr (.inl x2)]) q2.2
        refine Wp.run (WpD.mono _) 3 (q := ((26, [some (.inr (.inr (8, 0))), some (.inl x1), some (.inr (.inl (x2 + q2.1))), none, some (.inl (x4 + (1 : Int32)))], []), q2.2)) rfl ?_
        exact Wp.jump (WpD.mono _) rfl (ih x1 (x2 + q2.1) (x4 + (1 : Int32)) q2.2 h)

set_option maxRecDepth 100000 in
set_option maxHeartbeats 4000000 in
theorem T_X6_learning (e N : Nat)  (a1 : Int32) (σ : Mem) (r : Int64) (τ : Mem) (Q : Pst) (h : F_X6_learning N a1 σ = some (r, τ)) (hQ : Q (some (.inr (.inl r))) τ) : WpD (e + 15) mX6_learning [.inr (.inr (8, 0)), .inl a1] σ Q := by
  refine WpD.of (d := e + 14) (Nat.le_of_ble_eq_true rfl) (Nat.le_of_ble_eq_true rfl) ?_
  show Wp (WpD (e + 14)) hcX6_learning Q (0, [some (.inr (.inr (8, 0))), some (.inl a1), none, none, none], []) σ
  unfold F_X6_learning at h
  refine Wp.run (WpD.mono _) 1 (q := ((2, [some (.inr (.inr (8, 0))), some (.inl a1), none, none, none], [.inl a1, .inr (.inr (8, 0))]), σ)) rfl ?_
  obtain ⟨q1, hb, h⟩ := bind_some h
  refine Wp.call (WpD.mono _) rfl (T_X6_begin (e + 12) N a1 σ _ _ _ hb ?_)
  show Wp (WpD (e + 14)) hcX6_learning Q (5, [some (.inr (.inr (8, 0))), some (.inl a1), none, none, none], []) q1.2
  refine Wp.run (WpD.mono _) 13 (q := ((26, [some (.inr (.inr (8, 0))), some (.inl a1), some (.inr (.inl (0 : Int64))), none, some (.inl (0 : Int32))], []), (q1.2.1, q1.2.2.1, q1.2.2.2.1, (hwR3 q1.2.2.2.2.1 52 0 (va_cpy (q1.2.2.2.2.1 50 1) (q1.2.2.2.2.1 52 0) 0 0 5)), q1.2.2.2.2.2))) rfl ?_
  exact Wp.jump (WpD.mono _) rfl ((T_X6_learning_b26 e N  r τ Q hQ  N) a1 (0 : Int64) (0 : Int32) (q1.2.1, q1.2.2.1, q1.2.2.2.1, (hwR3 q1.2.2.2.2.1 52 0 (va_cpy (q1.2.2.2.2.1 50 1) (q1.2.2.2.2.1 52 0) 0 0 5)), q1.2.2.2.2.2) h)

set_option maxRecDepth 100000 in
set_option maxHeartbeats 4000000 in
theorem T_X11_first_b7 (e N : Nat)   (r : Int32) (τ : Mem) (Q : Pst) (hQ : Q (some (.inl r)) τ) : ∀ n, ∀ (x1 : Int32) (x2 : Int64) (x4 : Int32) (σ : Mem), F_X11_first_b7 N n x1 x2 x4 σ = some (r, τ) → Wp (WpD (e + 15)) hcX11_first Q (7, [some (.inr (.inr (0, 0))), some (.inl x1), some (.inr (.inl x2)), none, some (.inl x4), none, none], []) σ := by
  intro n
  induction n with
  | zero => intro x1 x2 x4 σ h; cases h
  | succ n ih =>
    intro x1 x2 x4 σ h
    unfold F_X11_first_b7 at h
    refine Wp.run (WpD.mono _) 3 (q := ((16, [some (.inr (.inr (0, 0))), some (.inl x1), some (.inr (.inl x2)), none, some (.inl x4), none, none], [.inl (σ.1 4 5), .inl x4]), σ)) rfl ?_
    refine Wp.if2_ge (WpD.mono _) rfl rfl (fun hc => ?_) (fun hc => ?_)
    · have h := (if_pos hc).symm.trans h
      show Wp (WpD (e + 15)) hcX11_first Q (75, [some (.inr (.inr (0, 0))), some (.inl x1), some (.inr (.inl x2)), none, some (.inl x4), none, none], []) σ
      refine Wp.run (WpD.mono _) 0 (q := ((76, [some (.inr (.inr (0, 0))), some (.inl x1), some (.inr (.inl x2)), none, some (.inl x4), none, none], [.inl x1]), σ)) rfl ?_
      obtain ⟨rfl, rfl⟩ := ret_inj h
      exact Wp.ret (WpD.mono _) rfl hQ
    · have h := (if_neg hc).symm.trans h
      show Wp (WpD (e + 15)) hcX11_first Q (19, [some (.inr (.inr (0, 0))), some (.inl x1), some (.inr (.inl x2)), none, some (.inl x4), none, none], []) σ
      refine Wp.run (WpD.mono _) 2 (q := ((25, [some (.inr (.inr (0, 0))), some (.inl x1), some (.inr (.inl x2)), none, some (.inl x4), none, none], [.inl x4, .inr (.inr (8, 0))]), σ)) rfl ?_
      obtain ⟨q1, hb, h⟩ := bind_some h
      refine Wp.call (WpD.mono _) rfl (T_X6_learning (e + 0) N x4 σ _ _ _ hb ?_)
      show Wp (WpD (e + 15)) hcX11_first Q (28, [some (.inr (.inr (0, 0))), some (.inl x1), some (.inr (.inl x2)), none, some (.inl x4), none, none], [.inr (.inl q1.1)]) q1.2
      refine Wp.run (WpD.mono _) 3 (q := ((36, [some (.inr (.inr (0, 0))), some (.inl x1), some (.inr (.inl x2)), none, some (.inl x4), some (.inr (.inl q1.1)), none], [.inl x4, .inr (.inr (8, 0))]), q1.2)) rfl ?_
      obtain ⟨q2, hb, h⟩ := bind_some h
      refine Wp.call (WpD.mono _) rfl (T_X6_begin (e + 13) N x4 q1.2 _ _ _ hb ?_)
      show Wp (WpD (e + 15)) hcX11_first Q (39, [some (.inr (.inr (0, 0))), some (.inl x1), some (.inr (.inl x2)), none, some (.inl x4), some (.inr (.inl q1.1)), none], []) q2.2
      refine Wp.run (WpD.mono _) 3 (q := ((46, [some (.inr (.inr (0, 0))), some (.inl x1), some (.inr (.inl x2)), none, some (.inl x4), some (.inr (.inl q1.1)), none], [.inl (1 : Int32), .inr (.inr (8, 0)), .inr (.inl q1.1)]), q2.2)) rfl ?_
      obtain ⟨q3, hb, h⟩ := bind_some h
      refine Wp.call (WpD.mono _) rfl (T_X6_worthOf (e + 2) N (1 : Int32) q2.2 _ _ _ hb ?_)
      show Wp (WpD (e + 15)) hcX11_first Q (49, [some (.inr (.inr (0, 0))), some (.inl x1), some (.inr (.inl x2)), none, some (.inl x4), some (.inr (.inl q1.1)), none], [.inr (.inl q3.1), .inr (.inl q1.1)]) q3.2
      refine Wp.run (WpD.mono _) 2 (q := ((53, [some (.inr (.inr (0, 0))), some (.inl x1), some (.inr (.inl x2)), none, some (.inl x4), some (.inr (.inl (q1.1 + q3.1))), none], [.inl x1]), q3.2)) rfl ?_
      refine Wp.if0_lt (WpD.mono _) rfl rfl (fun hc => ?_) (fun hc => ?_)
      · have h := (if_pos hc).symm.trans h
        show Wp (WpD (e + 15)) hcX11_first Q (63, [some (.inr (.inr (0, 0))), some (.inl x1), some (.inr (.inl x2)), none, some (.inl x4), some (.inr (.inl (q1.1 + q3.1))), none], []) q3.2
        refine Wp.run (WpD.mono _) 5 (q := ((7, [some (.inr (.inr (0, 0))), some (.inl x4), some (.inr (.inl (q1.1 + q3.1))), none, some (.inl (x4 + (1 : Int32))), none, none], []), q3.2)) rfl ?_
        exact Wp.jump (WpD.mono _) rfl (ih x4 (q1.1 + q3.1) (x4 + (1 : Int32)) q3.2 h)
      · have h := (if_neg hc).symm.trans h
        show Wp (WpD (e + 15)) hcX11_first Q (56, [some (.inr (.inr (0, 0))), some (.inl x1), some (.inr (.inl x2)), none, some (.inl x4), some (.inr (.inl (q1.1 + q3.1))), none], []) q3.2
        refine Wp.run (WpD.mono _) 2 (q := ((60, [some (.inr (.inr (0, 0))), some (.inl x1), some (.inr (.inl x2)), none, some (.inl x4), some (.inr (.inl (q1.1 + q3.1))), none], [.inl (lg_cmp (q1.1 + q3.1) x2)]), q3.2)) rfl ?_
        refine Wp.if0_le (WpD.mono _) rfl rfl (fun hc => ?_) (fun hc => ?_)
        · have h := (if_pos hc).symm.trans h
          show Wp (WpD (e + 15)) hcX11_first Q (69, [some (.inr (.inr (0, 0))), some (.inl x1), some (.inr (.inl x2)), none, some (.inl x4), some (.inr (.inl (q1.1 + q3.1))), none], []) q3.2
          refine Wp.run (WpD.mono _) 1 (q := ((7, [some (.inr (.inr (0, 0))), some (.inl x1), some (.inr (.inl x2)), none, some (.inl (x4 + (1 : Int32))), none, none], []), q3.2)) rfl ?_
          exact Wp.jump (WpD.mono _) rfl (ih x1 x2 (x4 + (1 : Int32)) q3.2 h)
        · have h := (if_neg hc).symm.trans h
          show Wp (WpD (e + 15)) hcX11_first Q (63, [some (.inr (.inr (0, 0))), some (.inl x1), some (.inr (.inl x2)), none, some (.inl x4), some (.inr (.inl (q1.1 + q3.1))), none], []) q3.2
          refine Wp.run (WpD.mono _) 5 (q := ((7, [some (.inr (.inr (0, 0))), some (.inl x4), some (.inr (.inl (q1.1 + q3.1))), none, some (.inl (x4 + (1 : Int32))), none, none], []), q3.2)) rfl ?_
          exact Wp.jump (WpD.mono _) rfl (ih x4 (q1.1 + q3.1) (x4 + (1 : Int32)) q3.2 h)

set_option maxRecDepth 100000 in
set_option maxHeartbeats 4000000 in
theorem T_X11_first (e N : Nat)   (σ : Mem) (r : Int32) (τ : Mem) (Q : Pst) (h : F_X11_first N  σ = some (r, τ)) (hQ : Q (some (.inl r)) τ) : WpD (e + 16) mX11_first [.inr (.inr (0, 0))] σ Q := by
  refine WpD.of (d := e + 15) (Nat.le_of_ble_eq_true rfl) (Nat.le_of_ble_eq_true rfl) ?_
  show Wp (WpD (e + 15)) hcX11_first Q (0, [some (.inr (.inr (0, 0))), none, none, none, none, none, none], []) σ
  unfold F_X11_first at h
  refine Wp.run (WpD.mono _) 5 (q := ((7, [some (.inr (.inr (0, 0))), some (.inl (Int32.ofInt (-1))), some (.inr (.inl (0 : Int64))), none, some (.inl (0 : Int32)), none, none], []), σ)) rfl ?_
  exact Wp.jump (WpD.mono _) rfl ((T_X11_first_b7 e N  r τ Q hQ  N) (Int32.ofInt (-1)) (0 : Int64) (0 : Int32) σ h)


set_option maxRecDepth 100000 in
set_option maxHeartbeats 4000000 in
theorem T_X2_reweigh (e N : Nat)  (a1 : Int32) (a2 : Int32) (a3 : Int32) (σ : Mem) (r : Int32) (τ : Mem) (Q : Pst) (h : F_X2_reweigh N a1 a2 a3 σ = some (r, τ)) (hQ : Q (some (.inl r)) τ) : WpD (e + 1) mX2_reweigh [.inr (.inr (1, 0)), .inl a1, .inl a2, .inl a3] σ Q := by
  refine WpD.of (d := e + 0) (Nat.le_of_ble_eq_true rfl) (Nat.le_of_ble_eq_true rfl) ?_
  show Wp (WpD (e + 0)) hcX2_reweigh Q (0, [some (.inr (.inr (1, 0))), some (.inl a1), some (.inl a2), some (.inl a3), none], []) σ
  unfold F_X2_reweigh at h
  refine Wp.run (WpD.mono _) 2 (q := ((5, [some (.inr (.inr (1, 0))), some (.inl a1), some (.inl a2), some (.inl a3), none], [.inl a1, .inr (.inr (25, 0))]), σ)) rfl ?_
  obtain ⟨hc, h⟩ := ite_nn h
  refine Wp.X_rld4 (WpD.mono _) rfl rfl hc ?_
  show Wp (WpD (e + 0)) hcX2_reweigh Q (6, [some (.inr (.inr (1, 0))), some (.inl a1), some (.inl a2), some (.inl a3), none], [.inr (.inr (26, (a1).toNatClampNeg))]) σ
  refine Wp.run (WpD.mono _) 0 (q := ((7, [some (.inr (.inr (1, 0))), some (.inl a1), some (.inl a2), some (.inl a3), none], [.inl a2, .inr (.inr (26, (a1).toNatClampNeg))]), σ)) rfl ?_
  obtain ⟨hc, h⟩ := ite_nn h
  refine Wp.X_ild1 (WpD.mono _) rfl rfl hc ?_
  show Wp (WpD (e + 0)) hcX2_reweigh Q (8, [some (.inr (.inr (1, 0))), some (.inl a1), some (.inl a2), some (.inl a3), none], [.inl (σ.2.2.1 26 (a1).toNatClampNeg (a2).toNatClampNeg)]) σ
  refine Wp.run (WpD.mono _) 3 (q := ((15, [some (.inr (.inr (1, 0))), some (.inl a1), some (.inl a2), some (.inl a3), some (.inl (σ.2.2.1 26 (a1).toNatClampNeg (a2).toNatClampNeg))], [.inl a1, .inr (.inr (25, 0))]), σ)) rfl ?_
  obtain ⟨hc, h⟩ := ite_nn h
  refine Wp.X_rld4 (WpD.mono _) rfl rfl hc ?_
  show Wp (WpD (e + 0)) hcX2_reweigh Q (16, [some (.inr (.inr (1, 0))), some (.inl a1), some (.inl a2), some (.inl a3), some (.inl (σ.2.2.1 26 (a1).toNatClampNeg (a2).toNatClampNeg))], [.inr (.inr (26, (a1).toNatClampNeg))]) σ
  refine Wp.run (WpD.mono _) 1 (q := ((18, [some (.inr (.inr (1, 0))), some (.inl a1), some (.inl a2), some (.inl a3), some (.inl (σ.2.2.1 26 (a1).toNatClampNeg (a2).toNatClampNeg))], [.inl a3, .inl a2, .inr (.inr (26, (a1).toNatClampNeg))]), σ)) rfl ?_
  obtain ⟨hc, h⟩ := ite_nn h
  refine Wp.X_ist (WpD.mono _) rfl rfl hc ?_
  show Wp (WpD (e + 0)) hcX2_reweigh Q (19, [some (.inr (.inr (1, 0))), some (.inl a1), some (.inl a2), some (.inl a3), some (.inl (σ.2.2.1 26 (a1).toNatClampNeg (a2).toNatClampNeg))], []) (σ.1, σ.2.1, (hwU3 σ.2.2.1 26 (a1).toNatClampNeg (a2).toNatClampNeg a3), σ.2.2.2.1, σ.2.2.2.2)
  refine Wp.run (WpD.mono _) 3 (q := ((25, [some (.inr (.inr (1, 0))), some (.inl a1), some (.inl a2), some (.inl a3), some (.inl (σ.2.2.1 26 (a1).toNatClampNeg (a2).toNatClampNeg))], [.inl a1, .inr (.inr (27, 0)), .inl a1, .inr (.inr (27, 0))]), (σ.1, σ.2.1, (hwU3 σ.2.2.1 26 (a1).toNatClampNeg (a2).toNatClampNeg a3), σ.2.2.2.1, σ.2.2.2.2))) rfl ?_
  obtain ⟨hc, h⟩ := ite_nn h
  refine Wp.X_ild1 (WpD.mono _) rfl rfl hc ?_
  show Wp (WpD (e + 0)) hcX2_reweigh Q (26, [some (.inr (.inr (1, 0))), some (.inl a1), some (.inl a2), some (.inl a3), some (.inl (σ.2.2.1 26 (a1).toNatClampNeg (a2).toNatClampNeg))], [.inl (σ.2.2.1 27 0 (a1).toNatClampNeg), .inl a1, .inr (.inr (27, 0))]) (σ.1, σ.2.1, (hwU3 σ.2.2.1 26 (a1).toNatClampNeg (a2).toNatClampNeg a3), σ.2.2.2.1, σ.2.2.2.2)
  refine Wp.run (WpD.mono _) 3 (q := ((31, [some (.inr (.inr (1, 0))), some (.inl a1), some (.inl a2), some (.inl a3), some (.inl (σ.2.2.1 26 (a1).toNatClampNeg (a2).toNatClampNeg))], [.inl ((σ.2.2.1 27 0 (a1).toNatClampNeg) + (a3 - (σ.2.2.1 26 (a1).toNatClampNeg (a2).toNatClampNeg))), .inl a1, .inr (.inr (27, 0))]), (σ.1, σ.2.1, (hwU3 σ.2.2.1 26 (a1).toNatClampNeg (a2).toNatClampNeg a3), σ.2.2.2.1, σ.2.2.2.2))) rfl ?_
  obtain ⟨hc, h⟩ := ite_nn h
  refine Wp.X_ist (WpD.mono _) rfl rfl hc ?_
  show Wp (WpD (e + 0)) hcX2_reweigh Q (32, [some (.inr (.inr (1, 0))), some (.inl a1), some (.inl a2), some (.inl a3), some (.inl (σ.2.2.1 26 (a1).toNatClampNeg (a2).toNatClampNeg))], []) (σ.1, σ.2.1, (hwU3 (hwU3 σ.2.2.1 26 (a1).toNatClampNeg (a2).toNatClampNeg a3) 27 0 (a1).toNatClampNeg ((σ.2.2.1 27 0 (a1).toNatClampNeg) + (a3 - (σ.2.2.1 26 (a1).toNatClampNeg (a2).toNatClampNeg)))), σ.2.2.2.1, σ.2.2.2.2)
  refine Wp.run (WpD.mono _) 0 (q := ((34, [some (.inr (.inr (1, 0))), some (.inl a1), some (.inl a2), some (.inl a3), some (.inl (σ.2.2.1 26 (a1).toNatClampNeg (a2).toNatClampNeg))], [.inl (σ.2.2.1 26 (a1).toNatClampNeg (a2).toNatClampNeg)]), (σ.1, σ.2.1, (hwU3 (hwU3 σ.2.2.1 26 (a1).toNatClampNeg (a2).toNatClampNeg a3) 27 0 (a1).toNatClampNeg ((σ.2.2.1 27 0 (a1).toNatClampNeg) + (a3 - (σ.2.2.1 26 (a1).toNatClampNeg (a2).toNatClampNeg)))), σ.2.2.2.1, σ.2.2.2.2))) rfl ?_
  obtain ⟨rfl, rfl⟩ := ret_inj h
  exact Wp.ret (WpD.mono _) rfl hQ

set_option maxRecDepth 100000 in
set_option maxHeartbeats 4000000 in
theorem T_X11_follow (e N : Nat)  (a1 : Int32) (a2 : Int32) (a3 : Int32) (σ : Mem) (r : Int32) (τ : Mem) (Q : Pst) (h : F_X11_follow N a1 a2 a3 σ = some (r, τ)) (hQ : Q (some (.inl r)) τ) : WpD (e + 3) mX11_follow [.inr (.inr (0, 0)), .inl a1, .inl a2, .inl a3] σ Q := by
  refine WpD.of (d := e + 2) (Nat.le_of_ble_eq_true rfl) (Nat.le_of_ble_eq_true rfl) ?_
  show Wp (WpD (e + 2)) hcX11_follow Q (0, [some (.inr (.inr (0, 0))), some (.inl a1), some (.inl a2), some (.inl a3)], []) σ
  unfold F_X11_follow at h
  refine Wp.run (WpD.mono _) 1 (q := ((2, [some (.inr (.inr (0, 0))), some (.inl a1), some (.inl a2), some (.inl a3)], [.inl a1, .inr (.inr (0, 0))]), σ)) rfl ?_
  obtain ⟨q1, hb, h⟩ := bind_some h
  refine Wp.call (WpD.mono _) rfl (T_X11_isLayer (e + 0) N a1 σ _ _ _ hb ?_)
  show Wp (WpD (e + 2)) hcX11_follow Q (5, [some (.inr (.inr (0, 0))), some (.inl a1), some (.inl a2), some (.inl a3)], [.inl q1.1]) q1.2
  refine Wp.if0_eq (WpD.mono _) rfl rfl (fun hc => ?_) (fun hc => ?_)
  · have h := (if_pos hc).symm.trans h
    show Wp (WpD (e + 2)) hcX11_follow Q (16, [some (.inr (.inr (0, 0))), some (.inl a1), some (.inl a2), some (.inl a3)], []) q1.2
    refine Wp.run (WpD.mono _) 0 (q := ((17, [none, none, none, none], [.inl (Int32.ofInt (-1))]), q1.2)) rfl ?_
    obtain ⟨rfl, rfl⟩ := ret_inj h
    exact Wp.ret (WpD.mono _) rfl hQ
  · have h := (if_neg hc).symm.trans h
    show Wp (WpD (e + 2)) hcX11_follow Q (8, [some (.inr (.inr (0, 0))), some (.inl a1), some (.inl a2), some (.inl a3)], []) q1.2
    refine Wp.run (WpD.mono _) 1 (q := ((10, [some (.inr (.inr (0, 0))), some (.inl a1), some (.inl a2), some (.inl a3)], [.inl a2, .inr (.inr (0, 0))]), q1.2)) rfl ?_
    obtain ⟨q2, hb, h⟩ := bind_some h
    refine Wp.call (WpD.mono _) rfl (T_X11_isLayer (e + 0) N a2 q1.2 _ _ _ hb ?_)
    show Wp (WpD (e + 2)) hcX11_follow Q (13, [some (.inr (.inr (0, 0))), some (.inl a1), some (.inl a2), some (.inl a3)], [.inl q2.1]) q2.2
    refine Wp.if0_ne (WpD.mono _) rfl rfl (fun hc => ?_) (fun hc => ?_)
    · have h := (if_pos hc).symm.trans h
      show Wp (WpD (e + 2)) hcX11_follow Q (16, [some (.inr (.inr (0, 0))), some (.inl a1), some (.inl a2), some (.inl a3)], []) q2.2
      refine Wp.run (WpD.mono _) 0 (q := ((17, [none, none, none, none], [.inl (Int32.ofInt (-1))]), q2.2)) rfl ?_
      obtain ⟨rfl, rfl⟩ := ret_inj h
      exact Wp.ret (WpD.mono _) rfl hQ
    · have h := (if_neg hc).symm.trans h
      show Wp (WpD (e + 2)) hcX11_follow Q (18, [some (.inr (.inr (0, 0))), some (.inl a1), some (.inl a2), some (.inl a3)], []) q2.2
      refine Wp.run (WpD.mono _) 2 (q := ((22, [some (.inr (.inr (0, 0))), some (.inl a1), some (.inl a2), some (.inl a3)], [.inl (9 : Int32), .inl (0 : Int32), .inl a3]), q2.2)) rfl ?_
      obtain ⟨q3, hb, h⟩ := bind_some h
      refine Wp.call (WpD.mono _) rfl (T_X11_within (e + 1) N a3 (0 : Int32) (9 : Int32) q2.2 _ _ _ hb ?_)
      show Wp (WpD (e + 2)) hcX11_follow Q (25, [some (.inr (.inr (0, 0))), some (.inl a1), some (.inl a2), some (.inl a3)], [.inl q3.1]) q3.2
      refine Wp.if0_ne (WpD.mono _) rfl rfl (fun hc => ?_) (fun hc => ?_)
      · have h := (if_pos hc).symm.trans h
        show Wp (WpD (e + 2)) hcX11_follow Q (28, [some (.inr (.inr (0, 0))), some (.inl a1), some (.inl a2), some (.inl a3)], []) q3.2
        refine Wp.run (WpD.mono _) 0 (q := ((30, [some (.inr (.inr (0, 0))), some (.inl a1), some (.inl a2), some (.inl a3)], [.inl (Int32.ofInt (-2))]), q3.2)) rfl ?_
        obtain ⟨rfl, rfl⟩ := ret_inj h
        exact Wp.ret (WpD.mono _) rfl hQ
      · have h := (if_neg hc).symm.trans h
        show Wp (WpD (e + 2)) hcX11_follow Q (31, [some (.inr (.inr (0, 0))), some (.inl a1), some (.inl a2), some (.inl a3)], []) q3.2
        refine Wp.run (WpD.mono _) 4 (q := ((38, [some (.inr (.inr (0, 0))), some (.inl a1), some (.inl a2), some (.inl a3)], [.inl a3, .inl a2, .inl a1, .inr (.inr (1, 0))]), q3.2)) rfl ?_
        obtain ⟨q4, hb, h⟩ := bind_some h
        refine Wp.call (WpD.mono _) rfl (T_X2_reweigh (e + 1) N a1 a2 a3 q3.2 _ _ _ hb ?_)
        show Wp (WpD (e + 2)) hcX11_follow Q (41, [some (.inr (.inr (0, 0))), some (.inl a1), some (.inl a2), some (.inl a3)], [.inl q4.1]) q4.2
        obtain ⟨rfl, rfl⟩ := ret_inj h
        exact Wp.ret (WpD.mono _) rfl hQ

set_option maxRecDepth 100000 in
set_option maxHeartbeats 4000000 in
theorem T_X4_truth (e N : Nat)  (a1 : Int32) (σ : Mem) (r : Int32) (τ : Mem) (Q : Pst) (h : F_X4_truth N a1 σ = some (r, τ)) (hQ : Q (some (.inl r)) τ) : WpD (e + 1) mX4_truth [.inl a1] σ Q := by
  refine WpD.of (d := e + 0) (Nat.le_of_ble_eq_true rfl) (Nat.le_of_ble_eq_true rfl) ?_
  show Wp (WpD (e + 0)) hcX4_truth Q (0, [some (.inl a1)], []) σ
  unfold F_X4_truth at h
  refine Wp.run (WpD.mono _) 0 (q := ((1, [some (.inl a1)], [.inl a1]), σ)) rfl ?_
  refine Wp.if0_eq (WpD.mono _) rfl rfl (fun hc => ?_) (fun hc => ?_)
  · have h := (if_pos hc).symm.trans h
    show Wp (WpD (e + 0)) hcX4_truth Q (8, [some (.inl a1)], []) σ
    refine Wp.run (WpD.mono _) 0 (q := ((9, [some (.inl a1)], [.inl (0 : Int32)]), σ)) rfl ?_
    obtain ⟨rfl, rfl⟩ := ret_inj h
    exact Wp.ret (WpD.mono _) rfl hQ
  · have h := (if_neg hc).symm.trans h
    show Wp (WpD (e + 0)) hcX4_truth Q (4, [some (.inl a1)], []) σ
    refine Wp.run (WpD.mono _) 1 (q := ((9, [some (.inl a1)], [.inl (1 : Int32)]), σ)) rfl ?_
    obtain ⟨rfl, rfl⟩ := ret_inj h
    exact Wp.ret (WpD.mono _) rfl hQ

set_option maxRecDepth 100000 in
set_option maxHeartbeats 4000000 in
theorem T_X4_joined_b118 (e N : Nat)   (r : Int32) (τ : Mem) (Q : Pst) (hQ : Q (some (.inl r)) τ) : ∀ (s0 : Int32) (σ : Mem), F_X4_joined_b118 N s0 σ = some (r, τ) → Wp (WpD (e + 1)) hcX4_joined Q (118, [none, none, none], [.inl s0]) σ := by
  intro s0 σ h
  unfold F_X4_joined_b118 at h
  obtain ⟨q1, hb, h⟩ := bind_some h
  refine Wp.call (WpD.mono _) rfl (T_X4_truth (e + 0) N s0 σ _ _ _ hb ?_)
  show Wp (WpD (e + 1)) hcX4_joined Q (121, [none, none, none], [.inl q1.1]) q1.2
  obtain ⟨rfl, rfl⟩ := ret_inj h
  exact Wp.ret (WpD.mono _) rfl hQ

set_option maxRecDepth 100000 in
set_option maxHeartbeats 4000000 in
theorem T_X4_joined_b104 (e N : Nat)   (r : Int32) (τ : Mem) (Q : Pst) (hQ : Q (some (.inl r)) τ) : ∀ (s0 : Int32) (σ : Mem), F_X4_joined_b104 N s0 σ = some (r, τ) → Wp (WpD (e + 1)) hcX4_joined Q (104, [none, none, none], [.inl s0]) σ := by
  intro s0 σ h
  unfold F_X4_joined_b104 at h
  obtain ⟨q2, hb, h⟩ := bind_some h
  refine Wp.call (WpD.mono _) rfl (T_X4_truth (e + 0) N s0 σ _ _ _ hb ?_)
  show Wp (WpD (e + 1)) hcX4_joined Q (107, [none, none, none], [.inl q2.1]) q2.2
  obtain ⟨rfl, rfl⟩ := ret_inj h
  exact Wp.ret (WpD.mono _) rfl hQ

set_option maxRecDepth 100000 in
set_option maxHeartbeats 4000000 in
theorem T_X4_joined_b90 (e N : Nat)   (r : Int32) (τ : Mem) (Q : Pst) (hQ : Q (some (.inl r)) τ) : ∀ (s0 : Int32) (σ : Mem), F_X4_joined_b90 N s0 σ = some (r, τ) → Wp (WpD (e + 1)) hcX4_joined Q (90, [none, none, none], [.inl s0]) σ := by
  intro s0 σ h
  unfold F_X4_joined_b90 at h
  obtain ⟨q3, hb, h⟩ := bind_some h
  refine Wp.call (WpD.mono _) rfl (T_X4_truth (e + 0) N s0 σ _ _ _ hb ?_)
  show Wp (WpD (e + 1)) hcX4_joined Q (93, [none, none, none], [.inl q3.1]) q3.2
  obtain ⟨rfl, rfl⟩ := ret_inj h
  exact Wp.ret (WpD.mono _) rfl hQ

set_option maxRecDepth 100000 in
set_option maxHeartbeats 4000000 in
theorem T_X4_joined_b89 (e N : Nat)  (k90 : Int32 → Mem → Option (Int32 × Mem)) (r : Int32) (τ : Mem) (Q : Pst) (hQ : Q (some (.inl r)) τ) (hk90 : ∀ (s0 : Int32) (σ : Mem), k90 s0 σ = some (r, τ) → Wp (WpD (e + 1)) hcX4_joined Q (90, [none, none, none], [.inl s0]) σ) : ∀  (σ : Mem), F_X4_joined_b89 N k90  σ = some (r, τ) → Wp (WpD (e + 1)) hcX4_joined Q (89, [none, none, none], []) σ := by
  intro  σ h
  unfold F_X4_joined_b89 at h
  refine Wp.run (WpD.mono _) 0 (q := ((90, [none, none, none], [.inl (0 : Int32)]), σ)) rfl ?_
  exact Wp.jump (WpD.mono _) rfl (hk90 (0 : Int32) σ h)

set_option maxRecDepth 100000 in
set_option maxHeartbeats 4000000 in
theorem T_X4_joined_b68 (e N : Nat)  (k73 : Int32 → Mem → Option (Int32 × Mem)) (r : Int32) (τ : Mem) (Q : Pst) (hQ : Q (some (.inl r)) τ) (hk73 : ∀ (s0 : Int32) (σ : Mem), k73 s0 σ = some (r, τ) → Wp (WpD (e + 1)) hcX4_joined Q (73, [none, none, none], [.inl s0]) σ) : ∀  (σ : Mem), F_X4_joined_b68 N k73  σ = some (r, τ) → Wp (WpD (e + 1)) hcX4_joined Q (68, [none, none, none], []) σ := by
  intro  σ h
  unfold F_X4_joined_b68 at h
  refine Wp.run (WpD.mono _) 1 (q := ((73, [none, none, none], [.inl (1 : Int32)]), σ)) rfl ?_
  exact Wp.jump (WpD.mono _) rfl (hk73 (1 : Int32) σ h)

set_option maxRecDepth 100000 in
set_option maxHeartbeats 4000000 in
theorem T_X4_joined_b73 (e N : Nat)   (r : Int32) (τ : Mem) (Q : Pst) (hQ : Q (some (.inl r)) τ) : ∀ (s0 : Int32) (σ : Mem), F_X4_joined_b73 N s0 σ = some (r, τ) → Wp (WpD (e + 1)) hcX4_joined Q (73, [none, none, none], [.inl s0]) σ := by
  intro s0 σ h
  unfold F_X4_joined_b73 at h
  obtain ⟨q4, hb, h⟩ := bind_some h
  refine Wp.call (WpD.mono _) rfl (T_X4_truth (e + 0) N s0 σ _ _ _ hb ?_)
  show Wp (WpD (e + 1)) hcX4_joined Q (76, [none, none, none], [.inl q4.1]) q4.2
  obtain ⟨rfl, rfl⟩ := ret_inj h
  exact Wp.ret (WpD.mono _) rfl hQ

set_option maxRecDepth 100000 in
set_option maxHeartbeats 4000000 in
theorem T_X4_joined (e N : Nat)  (a1 : Int32) (a2 : Int32) (a3 : Int32) (σ : Mem) (r : Int32) (τ : Mem) (Q : Pst) (h : F_X4_joined N a1 a2 a3 σ = some (r, τ)) (hQ : Q (some (.inl r)) τ) : WpD (e + 2) mX4_joined [.inl a1, .inl a2, .inl a3] σ Q := by
  refine WpD.of (d := e + 1) (Nat.le_of_ble_eq_true rfl) (Nat.le_of_ble_eq_true rfl) ?_
  show Wp (WpD (e + 1)) hcX4_joined Q (0, [some (.inl a1), some (.inl a2), some (.inl a3)], []) σ
  unfold F_X4_joined at h
  refine Wp.run (WpD.mono _) 0 (q := ((1, [some (.inl a1), some (.inl a2), some (.inl a3)], [.inl a1]), σ)) rfl ?_
  by_cases hs0 : a1 = 7
  · have h := (if_pos hs0).symm.trans h
    refine Wp.swIn (WpD.mono _) (q := ((60, [some (.inl a1), some (.inl a2), some (.inl a3)], []), σ)) hs0 rfl ?_
    refine Wp.run (WpD.mono _) 0 (q := ((61, [some (.inl a1), some (.inl a2), some (.inl a3)], [.inl a2]), σ)) rfl ?_
    refine Wp.if0_ne (WpD.mono _) rfl rfl (fun hc => ?_) (fun hc => ?_)
    · have h := (if_pos hc).symm.trans h
      show Wp (WpD (e + 1)) hcX4_joined Q (64, [some (.inl a1), some (.inl a2), some (.inl a3)], []) σ
      refine Wp.run (WpD.mono _) 0 (q := ((65, [some (.inl a1), some (.inl a2), some (.inl a3)], [.inl a3]), σ)) rfl ?_
      refine Wp.if0_eq (WpD.mono _) rfl rfl (fun hc => ?_) (fun hc => ?_)
      · have h := (if_pos hc).symm.trans h
        show Wp (WpD (e + 1)) hcX4_joined Q (72, [some (.inl a1), some (.inl a2), some (.inl a3)], []) σ
        refine Wp.run (WpD.mono _) 0 (q := ((73, [some (.inl a1), some (.inl a2), some (.inl a3)], [.inl (0 : Int32)]), σ)) rfl ?_
        exact Wp.jump (WpD.mono _) rfl ((T_X4_joined_b73 e N  r τ Q hQ ) (0 : Int32) σ h)
      · have h := (if_neg hc).symm.trans h
        show Wp (WpD (e + 1)) hcX4_joined Q (68, [some (.inl a1), some (.inl a2), some (.inl a3)], []) σ
        exact Wp.jump (WpD.mono _) rfl ((T_X4_joined_b68 e N (F_X4_joined_b73 N) r τ Q hQ (T_X4_joined_b73 e N  r τ Q hQ )) σ h)
    · have h := (if_neg hc).symm.trans h
      show Wp (WpD (e + 1)) hcX4_joined Q (68, [some (.inl a1), some (.inl a2), some (.inl a3)], []) σ
      exact Wp.jump (WpD.mono _) rfl ((T_X4_joined_b68 e N (F_X4_joined_b73 N) r τ Q hQ (T_X4_joined_b73 e N  r τ Q hQ )) σ h)
  have h := (if_neg hs0).symm.trans h
  by_cases hs1 : a1 = 8
  · have h := (if_pos hs1).symm.trans h
    refine Wp.swIn (WpD.mono _) (q := ((77, [some (.inl a1), some (.inl a2), some (.inl a3)], []), σ)) hs1 rfl ?_
    refine Wp.run (WpD.mono _) 0 (q := ((78, [some (.inl a1), some (.inl a2), some (.inl a3)], [.inl a2]), σ)) rfl ?_
    refine Wp.if0_eq (WpD.mono _) rfl rfl (fun hc => ?_) (fun hc => ?_)
    · have h := (if_pos hc).symm.trans h
      show Wp (WpD (e + 1)) hcX4_joined Q (89, [some (.inl a1), some (.inl a2), some (.inl a3)], []) σ
      exact Wp.jump (WpD.mono _) rfl ((T_X4_joined_b89 e N (F_X4_joined_b90 N) r τ Q hQ (T_X4_joined_b90 e N  r τ Q hQ )) σ h)
    · have h := (if_neg hc).symm.trans h
      show Wp (WpD (e + 1)) hcX4_joined Q (81, [some (.inl a1), some (.inl a2), some (.inl a3)], []) σ
      refine Wp.run (WpD.mono _) 0 (q := ((82, [some (.inl a1), some (.inl a2), some (.inl a3)], [.inl a3]), σ)) rfl ?_
      refine Wp.if0_eq (WpD.mono _) rfl rfl (fun hc => ?_) (fun hc => ?_)
      · have h := (if_pos hc).symm.trans h
        show Wp (WpD (e + 1)) hcX4_joined Q (89, [some (.inl a1), some (.inl a2), some (.inl a3)], []) σ
        exact Wp.jump (WpD.mono _) rfl ((T_X4_joined_b89 e N (F_X4_joined_b90 N) r τ Q hQ (T_X4_joined_b90 e N  r τ Q hQ )) σ h)
      · have h := (if_neg hc).symm.trans h
        show Wp (WpD (e + 1)) hcX4_joined Q (85, [some (.inl a1), some (.inl a2), some (.inl a3)], []) σ
        refine Wp.run (WpD.mono _) 1 (q := ((90, [some (.inl a1), some (.inl a2), some (.inl a3)], [.inl (1 : Int32)]), σ)) rfl ?_
        exact Wp.jump (WpD.mono _) rfl ((T_X4_joined_b90 e N  r τ Q hQ ) (1 : Int32) σ h)
  have h := (if_neg hs1).symm.trans h
  by_cases hs2 : a1 = 43
  · have h := (if_pos hs2).symm.trans h
    refine Wp.swIn (WpD.mono _) (q := ((122, [some (.inl a1), some (.inl a2), some (.inl a3)], []), σ)) hs2 rfl ?_
    refine Wp.run (WpD.mono _) 2 (q := ((125, [some (.inl a1), some (.inl a2), some (.inl a3)], [.inl (a2 + a3)]), σ)) rfl ?_
    obtain ⟨rfl, rfl⟩ := ret_inj h
    exact Wp.ret (WpD.mono _) rfl hQ
  have h := (if_neg hs2).symm.trans h
  by_cases hs3 : a1 = 45
  · have h := (if_pos hs3).symm.trans h
    refine Wp.swIn (WpD.mono _) (q := ((126, [some (.inl a1), some (.inl a2), some (.inl a3)], []), σ)) hs3 rfl ?_
    refine Wp.run (WpD.mono _) 2 (q := ((129, [some (.inl a1), some (.inl a2), some (.inl a3)], [.inl (a2 - a3)]), σ)) rfl ?_
    obtain ⟨rfl, rfl⟩ := ret_inj h
    exact Wp.ret (WpD.mono _) rfl hQ
  have h := (if_neg hs3).symm.trans h
  by_cases hs4 : a1 = 60
  · have h := (if_pos hs4).symm.trans h
    refine Wp.swIn (WpD.mono _) (q := ((94, [some (.inl a1), some (.inl a2), some (.inl a3)], []), σ)) hs4 rfl ?_
    refine Wp.run (WpD.mono _) 1 (q := ((96, [some (.inl a1), some (.inl a2), some (.inl a3)], [.inl a3, .inl a2]), σ)) rfl ?_
    refine Wp.if2_ge (WpD.mono _) rfl rfl (fun hc => ?_) (fun hc => ?_)
    · have h := (if_pos hc).symm.trans h
      show Wp (WpD (e + 1)) hcX4_joined Q (103, [some (.inl a1), some (.inl a2), some (.inl a3)], []) σ
      refine Wp.run (WpD.mono _) 0 (q := ((104, [some (.inl a1), some (.inl a2), some (.inl a3)], [.inl (0 : Int32)]), σ)) rfl ?_
      exact Wp.jump (WpD.mono _) rfl ((T_X4_joined_b104 e N  r τ Q hQ ) (0 : Int32) σ h)
    · have h := (if_neg hc).symm.trans h
      show Wp (WpD (e + 1)) hcX4_joined Q (99, [some (.inl a1), some (.inl a2), some (.inl a3)], []) σ
      refine Wp.run (WpD.mono _) 1 (q := ((104, [some (.inl a1), some (.inl a2), some (.inl a3)], [.inl (1 : Int32)]), σ)) rfl ?_
      exact Wp.jump (WpD.mono _) rfl ((T_X4_joined_b104 e N  r τ Q hQ ) (1 : Int32) σ h)
  have h := (if_neg hs4).symm.trans h
  by_cases hs5 : a1 = 61
  · have h := (if_pos hs5).symm.trans h
    refine Wp.swIn (WpD.mono _) (q := ((108, [some (.inl a1), some (.inl a2), some (.inl a3)], []), σ)) hs5 rfl ?_
    refine Wp.run (WpD.mono _) 1 (q := ((110, [some (.inl a1), some (.inl a2), some (.inl a3)], [.inl a3, .inl a2]), σ)) rfl ?_
    refine Wp.if2_ne (WpD.mono _) rfl rfl (fun hc => ?_) (fun hc => ?_)
    · have h := (if_pos hc).symm.trans h
      show Wp (WpD (e + 1)) hcX4_joined Q (113, [some (.inl a1), some (.inl a2), some (.inl a3)], []) σ
      refine Wp.run (WpD.mono _) 1 (q := ((118, [some (.inl a1), some (.inl a2), some (.inl a3)], [.inl (1 : Int32)]), σ)) rfl ?_
      exact Wp.jump (WpD.mono _) rfl ((T_X4_joined_b118 e N  r τ Q hQ ) (1 : Int32) σ h)
    · have h := (if_neg hc).symm.trans h
      show Wp (WpD (e + 1)) hcX4_joined Q (117, [some (.inl a1), some (.inl a2), some (.inl a3)], []) σ
      refine Wp.run (WpD.mono _) 0 (q := ((118, [some (.inl a1), some (.inl a2), some (.inl a3)], [.inl (0 : Int32)]), σ)) rfl ?_
      exact Wp.jump (WpD.mono _) rfl ((T_X4_joined_b118 e N  r τ Q hQ ) (0 : Int32) σ h)
  have h := (if_neg hs5).symm.trans h
  have ehs0 : ¬ 7 = (a1).toInt := fun z => hs0 (Int32.toInt_inj.mp z.symm)
  have ehs1 : ¬ 8 = (a1).toInt := fun z => hs1 (Int32.toInt_inj.mp z.symm)
  have ehs2 : ¬ 43 = (a1).toInt := fun z => hs2 (Int32.toInt_inj.mp z.symm)
  have ehs3 : ¬ 45 = (a1).toInt := fun z => hs3 (Int32.toInt_inj.mp z.symm)
  have ehs4 : ¬ 60 = (a1).toInt := fun z => hs4 (Int32.toInt_inj.mp z.symm)
  have ehs5 : ¬ 61 = (a1).toInt := fun z => hs5 (Int32.toInt_inj.mp z.symm)
  refine Wp.swOut (WpD.mono _) (q := ((130, [some (.inl a1), some (.inl a2), some (.inl a3)], []), σ)) (o := some (Op.lookupswitch.offset [(7, 59), (8, 76), (43, 121), (45, 125), (60, 93), (61, 107)] 129 (a1).toInt)) (o' := some (129)) rfl (by simp [Op.lookupswitch.offset, ehs0, ehs1, ehs2, ehs3, ehs4, ehs5]) rfl ?_
  refine Wp.run (WpD.mono _) 2 (q := ((133, [some (.inl a1), some (.inl a2), some (.inl a3)], [.inl (a2 * a3)]), σ)) rfl ?_
  obtain ⟨rfl, rfl⟩ := ret_inj h
  exact Wp.ret (WpD.mono _) rfl hQ

set_option maxRecDepth 100000 in
set_option maxHeartbeats 4000000 in
theorem T_X4_turned_b15 (e N : Nat)   (r : Int32) (τ : Mem) (Q : Pst) (hQ : Q (some (.inl r)) τ) : ∀ (s0 : Int32) (σ : Mem), F_X4_turned_b15 N s0 σ = some (r, τ) → Wp (WpD (e + 1)) hcX4_turned Q (15, [none, none], [.inl s0]) σ := by
  intro s0 σ h
  unfold F_X4_turned_b15 at h
  obtain ⟨q1, hb, h⟩ := bind_some h
  refine Wp.call (WpD.mono _) rfl (T_X4_truth (e + 0) N s0 σ _ _ _ hb ?_)
  show Wp (WpD (e + 1)) hcX4_turned Q (18, [none, none], [.inl q1.1]) q1.2
  refine Wp.run (WpD.mono _) 0 (q := ((23, [none, none], [.inl q1.1]), q1.2)) rfl ?_
  obtain ⟨rfl, rfl⟩ := ret_inj h
  exact Wp.ret (WpD.mono _) rfl hQ

set_option maxRecDepth 100000 in
set_option maxHeartbeats 4000000 in
theorem T_X4_turned (e N : Nat)  (a1 : Int32) (a2 : Int32) (σ : Mem) (r : Int32) (τ : Mem) (Q : Pst) (h : F_X4_turned N a1 a2 σ = some (r, τ)) (hQ : Q (some (.inl r)) τ) : WpD (e + 2) mX4_turned [.inl a1, .inl a2] σ Q := by
  refine WpD.of (d := e + 1) (Nat.le_of_ble_eq_true rfl) (Nat.le_of_ble_eq_true rfl) ?_
  show Wp (WpD (e + 1)) hcX4_turned Q (0, [some (.inl a1), some (.inl a2)], []) σ
  unfold F_X4_turned at h
  refine Wp.run (WpD.mono _) 1 (q := ((3, [some (.inl a1), some (.inl a2)], [.inl (9 : Int32), .inl a1]), σ)) rfl ?_
  refine Wp.if2_ne (WpD.mono _) rfl rfl (fun hc => ?_) (fun hc => ?_)
  · have h := (if_pos hc).symm.trans h
    show Wp (WpD (e + 1)) hcX4_turned Q (6, [some (.inl a1), some (.inl a2)], []) σ
    refine Wp.run (WpD.mono _) 0 (q := ((7, [some (.inl a1), some (.inl a2)], [.inl a2]), σ)) rfl ?_
    refine Wp.if0_ne (WpD.mono _) rfl rfl (fun hc => ?_) (fun hc => ?_)
    · have h := (if_pos hc).symm.trans h
      show Wp (WpD (e + 1)) hcX4_turned Q (10, [some (.inl a1), some (.inl a2)], []) σ
      refine Wp.run (WpD.mono _) 1 (q := ((15, [some (.inl a1), some (.inl a2)], [.inl (1 : Int32)]), σ)) rfl ?_
      exact Wp.jump (WpD.mono _) rfl ((T_X4_turned_b15 e N  r τ Q hQ ) (1 : Int32) σ h)
    · have h := (if_neg hc).symm.trans h
      show Wp (WpD (e + 1)) hcX4_turned Q (14, [some (.inl a1), some (.inl a2)], []) σ
      refine Wp.run (WpD.mono _) 0 (q := ((15, [some (.inl a1), some (.inl a2)], [.inl (0 : Int32)]), σ)) rfl ?_
      exact Wp.jump (WpD.mono _) rfl ((T_X4_turned_b15 e N  r τ Q hQ ) (0 : Int32) σ h)
  · have h := (if_neg hc).symm.trans h
    show Wp (WpD (e + 1)) hcX4_turned Q (21, [some (.inl a1), some (.inl a2)], []) σ
    refine Wp.run (WpD.mono _) 1 (q := ((23, [some (.inl a1), some (.inl a2)], [.inl (-a2)]), σ)) rfl ?_
    obtain ⟨rfl, rfl⟩ := ret_inj h
    exact Wp.ret (WpD.mono _) rfl hQ

set_option maxRecDepth 100000 in
set_option maxHeartbeats 4000000 in
theorem T_X4_valueOf (e N : Nat)  (a1 : Int32) (σ : Mem) (r : Int32) (τ : Mem) (Q : Pst) (h : F_X4_valueOf N a1 σ = some (r, τ)) (hQ : Q (some (.inl r)) τ) : WpD (e + 1) mX4_valueOf [.inr (.inr (2, 0)), .inl a1] σ Q := by
  refine WpD.of (d := e + 0) (Nat.le_of_ble_eq_true rfl) (Nat.le_of_ble_eq_true rfl) ?_
  show Wp (WpD (e + 0)) hcX4_valueOf Q (0, [some (.inr (.inr (2, 0))), some (.inl a1)], []) σ
  unfold F_X4_valueOf at h
  refine Wp.run (WpD.mono _) 0 (q := ((1, [some (.inr (.inr (2, 0))), some (.inl a1)], [.inl a1]), σ)) rfl ?_
  refine Wp.if0_lt (WpD.mono _) rfl rfl (fun hc => ?_) (fun hc => ?_)
  · have h := (if_pos hc).symm.trans h
    show Wp (WpD (e + 0)) hcX4_valueOf Q (19, [some (.inr (.inr (2, 0))), some (.inl a1)], []) σ
    refine Wp.run (WpD.mono _) 0 (q := ((20, [none, none], [.inl (0 : Int32)]), σ)) rfl ?_
    obtain ⟨rfl, rfl⟩ := ret_inj h
    exact Wp.ret (WpD.mono _) rfl hQ
  · have h := (if_neg hc).symm.trans h
    show Wp (WpD (e + 0)) hcX4_valueOf Q (4, [some (.inr (.inr (2, 0))), some (.inl a1)], []) σ
    refine Wp.run (WpD.mono _) 1 (q := ((7, [some (.inr (.inr (2, 0))), some (.inl a1)], [.inl (6 : Int32), .inl a1]), σ)) rfl ?_
    refine Wp.if2_ge (WpD.mono _) rfl rfl (fun hc => ?_) (fun hc => ?_)
    · have h := (if_pos hc).symm.trans h
      show Wp (WpD (e + 0)) hcX4_valueOf Q (19, [some (.inr (.inr (2, 0))), some (.inl a1)], []) σ
      refine Wp.run (WpD.mono _) 0 (q := ((20, [none, none], [.inl (0 : Int32)]), σ)) rfl ?_
      obtain ⟨rfl, rfl⟩ := ret_inj h
      exact Wp.ret (WpD.mono _) rfl hQ
    · have h := (if_neg hc).symm.trans h
      show Wp (WpD (e + 0)) hcX4_valueOf Q (10, [some (.inr (.inr (2, 0))), some (.inl a1)], []) σ
      refine Wp.run (WpD.mono _) 2 (q := ((15, [some (.inr (.inr (2, 0))), some (.inl a1)], [.inl a1, .inr (.inr (47, 0))]), σ)) rfl ?_
      obtain ⟨hc, h⟩ := ite_nn h
      refine Wp.X_ild1 (WpD.mono _) rfl rfl hc ?_
      show Wp (WpD (e + 0)) hcX4_valueOf Q (16, [some (.inr (.inr (2, 0))), some (.inl a1)], [.inl (σ.2.2.1 47 0 (a1).toNatClampNeg)]) σ
      refine Wp.run (WpD.mono _) 0 (q := ((20, [some (.inr (.inr (2, 0))), some (.inl a1)], [.inl (σ.2.2.1 47 0 (a1).toNatClampNeg)]), σ)) rfl ?_
      obtain ⟨rfl, rfl⟩ := ret_inj h
      exact Wp.ret (WpD.mono _) rfl hQ

set_option maxRecDepth 100000 in
set_option maxHeartbeats 4000000 in
theorem T_X4_worked_t39_b76 (e N : Nat)  (k9 : Nat → Int32 → Int32 → Mem → Option (Int32 × Mem)) (r : Int32) (τ : Mem) (Q : Pst) (hQ : Q (some (.inl r)) τ) (hk9 : ∀ (x1 : Nat) (x3 : Int32) (x4 : Int32) (σ : Mem), k9 x1 x3 x4 σ = some (r, τ) → Wp (WpD (e + 2)) hcX4_worked Q (9, [some (.inr (.inr (2, 0))), some (.inr (.inr (39, x1))), none, some (.inl x3), some (.inl x4), none], []) σ) : ∀ (x1 : Nat) (x3 : Int32) (x4 : Int32) (s0 : Int32) (s1 : Int32) (σ : Mem), F_X4_worked_t39_b76 N k9 x1 x3 x4 s0 s1 σ = some (r, τ) → Wp (WpD (e + 2)) hcX4_worked Q (76, [some (.inr (.inr (2, 0))), some (.inr (.inr (39, x1))), none, some (.inl x3), some (.inl x4), none], [.inl s0, .inl s1, .inr (.inr (48, 0))]) σ := by
  intro x1 x3 x4 s0 s1 σ h
  unfold F_X4_worked_t39_b76 at h
  obtain ⟨hc, h⟩ := ite_nn h
  refine Wp.X_ist (WpD.mono _) rfl rfl hc ?_
  show Wp (WpD (e + 2)) hcX4_worked Q (77, [some (.inr (.inr (2, 0))), some (.inr (.inr (39, x1))), none, some (.inl x3), some (.inl x4), none], []) (σ.1, σ.2.1, (hwU3 σ.2.2.1 48 0 (s1).toNatClampNeg s0), σ.2.2.2.1, σ.2.2.2.2)
  refine Wp.run (WpD.mono _) 3 (q := ((9, [some (.inr (.inr (2, 0))), some (.inr (.inr (39, x1))), none, some (.inl (x3 + (1 : Int32))), some (.inl (x4 + (1 : Int32))), none], []), (σ.1, σ.2.1, (hwU3 σ.2.2.1 48 0 (s1).toNatClampNeg s0), σ.2.2.2.1, σ.2.2.2.2))) rfl ?_
  exact Wp.jump (WpD.mono _) rfl (hk9 x1 (x3 + (1 : Int32)) (x4 + (1 : Int32)) (σ.1, σ.2.1, (hwU3 σ.2.2.1 48 0 (s1).toNatClampNeg s0), σ.2.2.2.1, σ.2.2.2.2) h)

set_option maxRecDepth 100000 in
set_option maxHeartbeats 4000000 in
theorem T_X4_worked_t39_b168 (e N : Nat)   (r : Int32) (τ : Mem) (Q : Pst) (hQ : Q (some (.inl r)) τ) : ∀ (x3 : Int32) (σ : Mem), F_X4_worked_t39_b168 N x3 σ = some (r, τ) → Wp (WpD (e + 2)) hcX4_worked Q (168, [some (.inr (.inr (2, 0))), none, none, some (.inl x3), none, none], []) σ := by
  intro x3 σ h
  unfold F_X4_worked_t39_b168 at h
  refine Wp.run (WpD.mono _) 0 (q := ((169, [some (.inr (.inr (2, 0))), none, none, some (.inl x3), none, none], [.inl x3]), σ)) rfl ?_
  refine Wp.if0_le (WpD.mono _) rfl rfl (fun hc => ?_) (fun hc => ?_)
  · have h := (if_pos hc).symm.trans h
    show Wp (WpD (e + 2)) hcX4_worked Q (181, [some (.inr (.inr (2, 0))), none, none, some (.inl x3), none, none], []) σ
    refine Wp.run (WpD.mono _) 0 (q := ((182, [some (.inr (.inr (2, 0))), none, none, some (.inl x3), none, none], [.inl (0 : Int32)]), σ)) rfl ?_
    obtain ⟨rfl, rfl⟩ := ret_inj h
    exact Wp.ret (WpD.mono _) rfl hQ
  · have h := (if_neg hc).symm.trans h
    show Wp (WpD (e + 2)) hcX4_worked Q (172, [some (.inr (.inr (2, 0))), none, none, some (.inl x3), none, none], []) σ
    refine Wp.run (WpD.mono _) 4 (q := ((182, [some (.inr (.inr (2, 0))), none, none, some (.inl x3), none, none], [.inl (σ.2.2.1 48 0 0)]), σ)) rfl ?_
    obtain ⟨rfl, rfl⟩ := ret_inj h
    exact Wp.ret (WpD.mono _) rfl hQ

set_option maxRecDepth 100000 in
set_option maxHeartbeats 4000000 in
theorem T_X4_worked_t39_b9 (e N : Nat)   (r : Int32) (τ : Mem) (Q : Pst) (hQ : Q (some (.inl r)) τ) : ∀ n, ∀ (x1 : Nat) (x3 : Int32) (x4 : Int32) (σ : Mem), F_X4_worked_t39_b9 N n x1 x3 x4 σ = some (r, τ) → Wp (WpD (e + 2)) hcX4_worked Q (9, [some (.inr (.inr (2, 0))), some (.inr (.inr (39, x1))), none, some (.inl x3), some (.inl x4), none], []) σ := by
  intro n
  induction n with
  | zero => intro x1 x3 x4 σ h; cases h
  | succ n ih =>
    intro x1 x3 x4 σ h
    unfold F_X4_worked_t39_b9 at h
    refine Wp.run (WpD.mono _) 2 (q := ((13, [some (.inr (.inr (2, 0))), some (.inr (.inr (39, x1))), none, some (.inl x3), some (.inl x4), none], [.inl (160 : Int32), .inl x4]), σ)) rfl ?_
    refine Wp.if2_ge (WpD.mono _) rfl rfl (fun hc => ?_) (fun hc => ?_)
    · have h := (if_pos hc).symm.trans h
      show Wp (WpD (e + 2)) hcX4_worked Q (168, [some (.inr (.inr (2, 0))), some (.inr (.inr (39, x1))), none, some (.inl x3), some (.inl x4), none], []) σ
      exact Wp.jump (WpD.mono _) rfl ((T_X4_worked_t39_b168 e N  r τ Q hQ ) x3 σ h)
    · have h := (if_neg hc).symm.trans h
      show Wp (WpD (e + 2)) hcX4_worked Q (16, [some (.inr (.inr (2, 0))), some (.inr (.inr (39, x1))), none, some (.inl x3), some (.inl x4), none], []) σ
      refine Wp.run (WpD.mono _) 1 (q := ((19, [some (.inr (.inr (2, 0))), some (.inr (.inr (39, x1))), none, some (.inl x3), some (.inl x4), none], [.inl x4, .inr (.inr (39, x1))]), σ)) rfl ?_
      obtain ⟨hc, h⟩ := ite_nn h
      refine Wp.X_ild1 (WpD.mono _) rfl rfl hc ?_
      show Wp (WpD (e + 2)) hcX4_worked Q (20, [some (.inr (.inr (2, 0))), some (.inr (.inr (39, x1))), none, some (.inl x3), some (.inl x4), none], [.inl (σ.2.2.1 39 x1 (x4).toNatClampNeg)]) σ
      refine Wp.run (WpD.mono _) 0 (q := ((22, [some (.inr (.inr (2, 0))), some (.inr (.inr (39, x1))), none, some (.inl x3), some (.inl x4), none], [.inl (40000 : Int32), .inl (σ.2.2.1 39 x1 (x4).toNatClampNeg)]), σ)) rfl ?_
      refine Wp.if2_eq (WpD.mono _) rfl rfl (fun hc => ?_) (fun hc => ?_)
      · have h := (if_pos hc).symm.trans h
        show Wp (WpD (e + 2)) hcX4_worked Q (168, [some (.inr (.inr (2, 0))), some (.inr (.inr (39, x1))), none, some (.inl x3), some (.inl x4), none], []) σ
        exact Wp.jump (WpD.mono _) rfl ((T_X4_worked_t39_b168 e N  r τ Q hQ ) x3 σ h)
      · have h := (if_neg hc).symm.trans h
        show Wp (WpD (e + 2)) hcX4_worked Q (25, [some (.inr (.inr (2, 0))), some (.inr (.inr (39, x1))), none, some (.inl x3), some (.inl x4), none], []) σ
        refine Wp.run (WpD.mono _) 1 (q := ((28, [some (.inr (.inr (2, 0))), some (.inr (.inr (39, x1))), none, some (.inl x3), some (.inl x4), none], [.inl x4, .inr (.inr (39, x1))]), σ)) rfl ?_
        obtain ⟨hc, h⟩ := ite_nn h
        refine Wp.X_ild1 (WpD.mono _) rfl rfl hc ?_
        show Wp (WpD (e + 2)) hcX4_worked Q (29, [some (.inr (.inr (2, 0))), some (.inr (.inr (39, x1))), none, some (.inl x3), some (.inl x4), none], [.inl (σ.2.2.1 39 x1 (x4).toNatClampNeg)]) σ
        refine Wp.run (WpD.mono _) 2 (q := ((36, [some (.inr (.inr (2, 0))), some (.inr (.inr (39, x1))), none, some (.inl x3), some (.inl x4), some (.inl (σ.2.2.1 39 x1 (x4).toNatClampNeg))], [.inl (20000 : Int32), .inl (σ.2.2.1 39 x1 (x4).toNatClampNeg)]), σ)) rfl ?_
        refine Wp.if2_ge (WpD.mono _) rfl rfl (fun hc => ?_) (fun hc => ?_)
        · have h := (if_pos hc).symm.trans h
          show Wp (WpD (e + 2)) hcX4_worked Q (83, [some (.inr (.inr (2, 0))), some (.inr (.inr (39, x1))), none, some (.inl x3), some (.inl x4), some (.inl (σ.2.2.1 39 x1 (x4).toNatClampNeg))], []) σ
          refine Wp.run (WpD.mono _) 1 (q := ((88, [some (.inr (.inr (2, 0))), some (.inr (.inr (39, x1))), none, some (.inl x3), some (.inl x4), some (.inl (σ.2.2.1 39 x1 (x4).toNatClampNeg))], [.inl (30000 : Int32), .inl (σ.2.2.1 39 x1 (x4).toNatClampNeg)]), σ)) rfl ?_
          refine Wp.if2_lt (WpD.mono _) rfl rfl (fun hc => ?_) (fun hc => ?_)
          · have h := (if_pos hc).symm.trans h
            show Wp (WpD (e + 2)) hcX4_worked Q (123, [some (.inr (.inr (2, 0))), some (.inr (.inr (39, x1))), none, some (.inl x3), some (.inl x4), some (.inl (σ.2.2.1 39 x1 (x4).toNatClampNeg))], []) σ
            refine Wp.run (WpD.mono _) 1 (q := ((125, [some (.inr (.inr (2, 0))), some (.inr (.inr (39, x1))), none, some (.inl x3), some (.inl x4), some (.inl (σ.2.2.1 39 x1 (x4).toNatClampNeg))], [.inl (1 : Int32), .inl x3]), σ)) rfl ?_
            refine Wp.if2_le (WpD.mono _) rfl rfl (fun hc => ?_) (fun hc => ?_)
            · have h := (if_pos hc).symm.trans h
              show Wp (WpD (e + 2)) hcX4_worked Q (162, [some (.inr (.inr (2, 0))), some (.inr (.inr (39, x1))), none, some (.inl x3), some (.inl x4), some (.inl (σ.2.2.1 39 x1 (x4).toNatClampNeg))], []) σ
              refine Wp.run (WpD.mono _) 1 (q := ((9, [some (.inr (.inr (2, 0))), some (.inr (.inr (39, x1))), none, some (.inl x3), some (.inl (x4 + (1 : Int32))), none], []), σ)) rfl ?_
              exact Wp.jump (WpD.mono _) rfl (ih x1 x3 (x4 + (1 : Int32)) σ h)
            · have h := (if_neg hc).symm.trans h
              show Wp (WpD (e + 2)) hcX4_worked Q (128, [some (.inr (.inr (2, 0))), some (.inr (.inr (39, x1))), none, some (.inl x3), some (.inl x4), some (.inl (σ.2.2.1 39 x1 (x4).toNatClampNeg))], []) σ
              refine Wp.run (WpD.mono _) 13 (q := ((151, [some (.inr (.inr (2, 0))), some (.inr (.inr (39, x1))), none, some (.inl (x3 + (Int32.ofInt (-1)))), some (.inl x4), some (.inl (σ.2.2.1 39 x1 (x4).toNatClampNeg))], [.inl ((x3 + (Int32.ofInt (-1))) - (1 : Int32)), .inr (.inr (48, 0)), .inl ((σ.2.2.1 39 x1 (x4).toNatClampNeg) - (20000 : Int32)), .inl ((x3 + (Int32.ofInt (-1))) - (1 : Int32)), .inr (.inr (48, 0))]), σ)) rfl ?_
              obtain ⟨hc, h⟩ := ite_nn h
              refine Wp.X_ild1 (WpD.mono _) rfl rfl hc ?_
              show Wp (WpD (e + 2)) hcX4_worked Q (152, [some (.inr (.inr (2, 0))), some (.inr (.inr (39, x1))), none, some (.inl (x3 + (Int32.ofInt (-1)))), some (.inl x4), some (.inl (σ.2.2.1 39 x1 (x4).toNatClampNeg))], [.inl (σ.2.2.1 48 0 (((x3 + (Int32.ofInt (-1))) - (1 : Int32))).toNatClampNeg), .inl ((σ.2.2.1 39 x1 (x4).toNatClampNeg) - (20000 : Int32)), .inl ((x3 + (Int32.ofInt (-1))) - (1 : Int32)), .inr (.inr (48, 0))]) σ
              refine Wp.run (WpD.mono _) 2 (q := ((157, [some (.inr (.inr (2, 0))), some (.inr (.inr (39, x1))), none, some (.inl (x3 + (Int32.ofInt (-1)))), some (.inl x4), some (.inl (σ.2.2.1 39 x1 (x4).toNatClampNeg))], [.inl (x3 + (Int32.ofInt (-1))), .inr (.inr (48, 0)), .inl (σ.2.2.1 48 0 (((x3 + (Int32.ofInt (-1))) - (1 : Int32))).toNatClampNeg), .inl ((σ.2.2.1 39 x1 (x4).toNatClampNeg) - (20000 : Int32)), .inl ((x3 + (Int32.ofInt (-1))) - (1 : Int32)), .inr (.inr (48, 0))]), σ)) rfl ?_
              obtain ⟨hc, h⟩ := ite_nn h
              refine Wp.X_ild1 (WpD.mono _) rfl rfl hc ?_
              show Wp (WpD (e + 2)) hcX4_worked Q (158, [some (.inr (.inr (2, 0))), some (.inr (.inr (39, x1))), none, some (.inl (x3 + (Int32.ofInt (-1)))), some (.inl x4), some (.inl (σ.2.2.1 39 x1 (x4).toNatClampNeg))], [.inl (σ.2.2.1 48 0 ((x3 + (Int32.ofInt (-1)))).toNatClampNeg), .inl (σ.2.2.1 48 0 (((x3 + (Int32.ofInt (-1))) - (1 : Int32))).toNatClampNeg), .inl ((σ.2.2.1 39 x1 (x4).toNatClampNeg) - (20000 : Int32)), .inl ((x3 + (Int32.ofInt (-1))) - (1 : Int32)), .inr (.inr (48, 0))]) σ
              obtain ⟨q1, hb, h⟩ := bind_some h
              refine Wp.call (WpD.mono _) rfl (T_X4_joined (e + 0) N ((σ.2.2.1 39 x1 (x4).toNatClampNeg) - (20000 : Int32)) (σ.2.2.1 48 0 (((x3 + (Int32.ofInt (-1))) - (1 : Int32))).toNatClampNeg) (σ.2.2.1 48 0 ((x3 + (Int32.ofInt (-1)))).toNatClampNeg) σ _ _ _ hb ?_)
              show Wp (WpD (e + 2)) hcX4_worked Q (161, [some (.inr (.inr (2, 0))), some (.inr (.inr (39, x1))), none, some (.inl (x3 + (Int32.ofInt (-1)))), some (.inl x4), some (.inl (σ.2.2.1 39 x1 (x4).toNatClampNeg))], [.inl q1.1, .inl ((x3 + (Int32.ofInt (-1))) - (1 : Int32)), .inr (.inr (48, 0))]) q1.2
              obtain ⟨hc, h⟩ := ite_nn h
              refine Wp.X_ist (WpD.mono _) rfl rfl hc ?_
              show Wp (WpD (e + 2)) hcX4_worked Q (162, [some (.inr (.inr (2, 0))), some (.inr (.inr (39, x1))), none, some (.inl (x3 + (Int32.ofInt (-1)))), some (.inl x4), some (.inl (σ.2.2.1 39 x1 (x4).toNatClampNeg))], []) (q1.2.1, q1.2.2.1, (hwU3 q1.2.2.2.1 48 0 (((x3 + (Int32.ofInt (-1))) - (1 : Int32))).toNatClampNeg q1.1), q1.2.2.2.2.1, q1.2.2.2.2.2)
              refine Wp.run (WpD.mono _) 1 (q := ((9, [some (.inr (.inr (2, 0))), some (.inr (.inr (39, x1))), none, some (.inl (x3 + (Int32.ofInt (-1)))), some (.inl (x4 + (1 : Int32))), none], []), (q1.2.1, q1.2.2.1, (hwU3 q1.2.2.2.1 48 0 (((x3 + (Int32.ofInt (-1))) - (1 : Int32))).toNatClampNeg q1.1), q1.2.2.2.2.1, q1.2.2.2.2.2))) rfl ?_
              exact Wp.jump (WpD.mono _) rfl (ih x1 (x3 + (Int32.ofInt (-1))) (x4 + (1 : Int32)) (q1.2.1, q1.2.2.1, (hwU3 q1.2.2.2.1 48 0 (((x3 + (Int32.ofInt (-1))) - (1 : Int32))).toNatClampNeg q1.1), q1.2.2.2.2.1, q1.2.2.2.2.2) h)
          · have h := (if_neg hc).symm.trans h
            show Wp (WpD (e + 2)) hcX4_worked Q (91, [some (.inr (.inr (2, 0))), some (.inr (.inr (39, x1))), none, some (.inl x3), some (.inl x4), some (.inl (σ.2.2.1 39 x1 (x4).toNatClampNeg))], []) σ
            refine Wp.run (WpD.mono _) 0 (q := ((92, [some (.inr (.inr (2, 0))), some (.inr (.inr (39, x1))), none, some (.inl x3), some (.inl x4), some (.inl (σ.2.2.1 39 x1 (x4).toNatClampNeg))], [.inl x3]), σ)) rfl ?_
            refine Wp.if0_le (WpD.mono _) rfl rfl (fun hc => ?_) (fun hc => ?_)
            · have h := (if_pos hc).symm.trans h
              show Wp (WpD (e + 2)) hcX4_worked Q (162, [some (.inr (.inr (2, 0))), some (.inr (.inr (39, x1))), none, some (.inl x3), some (.inl x4), some (.inl (σ.2.2.1 39 x1 (x4).toNatClampNeg))], []) σ
              refine Wp.run (WpD.mono _) 1 (q := ((9, [some (.inr (.inr (2, 0))), some (.inr (.inr (39, x1))), none, some (.inl x3), some (.inl (x4 + (1 : Int32))), none], []), σ)) rfl ?_
              exact Wp.jump (WpD.mono _) rfl (ih x1 x3 (x4 + (1 : Int32)) σ h)
            · have h := (if_neg hc).symm.trans h
              show Wp (WpD (e + 2)) hcX4_worked Q (95, [some (.inr (.inr (2, 0))), some (.inr (.inr (39, x1))), none, some (.inl x3), some (.inl x4), some (.inl (σ.2.2.1 39 x1 (x4).toNatClampNeg))], []) σ
              refine Wp.run (WpD.mono _) 12 (q := ((115, [some (.inr (.inr (2, 0))), some (.inr (.inr (39, x1))), none, some (.inl x3), some (.inl x4), some (.inl (σ.2.2.1 39 x1 (x4).toNatClampNeg))], [.inl (x3 - (1 : Int32)), .inr (.inr (48, 0)), .inl ((σ.2.2.1 39 x1 (x4).toNatClampNeg) - (30000 : Int32)), .inl (x3 - (1 : Int32)), .inr (.inr (48, 0))]), σ)) rfl ?_
              obtain ⟨hc, h⟩ := ite_nn h
              refine Wp.X_ild1 (WpD.mono _) rfl rfl hc ?_
              show Wp (WpD (e + 2)) hcX4_worked Q (116, [some (.inr (.inr (2, 0))), some (.inr (.inr (39, x1))), none, some (.inl x3), some (.inl x4), some (.inl (σ.2.2.1 39 x1 (x4).toNatClampNeg))], [.inl (σ.2.2.1 48 0 ((x3 - (1 : Int32))).toNatClampNeg), .inl ((σ.2.2.1 39 x1 (x4).toNatClampNeg) - (30000 : Int32)), .inl (x3 - (1 : Int32)), .inr (.inr (48, 0))]) σ
              obtain ⟨q2, hb, h⟩ := bind_some h
              refine Wp.call (WpD.mono _) rfl (T_X4_turned (e + 0) N ((σ.2.2.1 39 x1 (x4).toNatClampNeg) - (30000 : Int32)) (σ.2.2.1 48 0 ((x3 - (1 : Int32))).toNatClampNeg) σ _ _ _ hb ?_)
              show Wp (WpD (e + 2)) hcX4_worked Q (119, [some (.inr (.inr (2, 0))), some (.inr (.inr (39, x1))), none, some (.inl x3), some (.inl x4), some (.inl (σ.2.2.1 39 x1 (x4).toNatClampNeg))], [.inl q2.1, .inl (x3 - (1 : Int32)), .inr (.inr (48, 0))]) q2.2
              obtain ⟨hc, h⟩ := ite_nn h
              refine Wp.X_ist (WpD.mono _) rfl rfl hc ?_
              show Wp (WpD (e + 2)) hcX4_worked Q (120, [some (.inr (.inr (2, 0))), some (.inr (.inr (39, x1))), none, some (.inl x3), some (.inl x4), some (.inl (σ.2.2.1 39 x1 (x4).toNatClampNeg))], []) (q2.2.1, q2.2.2.1, (hwU3 q2.2.2.2.1 48 0 ((x3 - (1 : Int32))).toNatClampNeg q2.1), q2.2.2.2.2.1, q2.2.2.2.2.2)
              refine Wp.run (WpD.mono _) 2 (q := ((9, [some (.inr (.inr (2, 0))), some (.inr (.inr (39, x1))), none, some (.inl x3), some (.inl (x4 + (1 : Int32))), none], []), (q2.2.1, q2.2.2.1, (hwU3 q2.2.2.2.1 48 0 ((x3 - (1 : Int32))).toNatClampNeg q2.1), q2.2.2.2.2.1, q2.2.2.2.2.2))) rfl ?_
              exact Wp.jump (WpD.mono _) rfl (ih x1 x3 (x4 + (1 : Int32)) (q2.2.1, q2.2.2.1, (hwU3 q2.2.2.2.1 48 0 ((x3 - (1 : Int32))).toNatClampNeg q2.1), q2.2.2.2.2.1, q2.2.2.2.2.2) h)
        · have h := (if_neg hc).symm.trans h
          show Wp (WpD (e + 2)) hcX4_worked Q (39, [some (.inr (.inr (2, 0))), some (.inr (.inr (39, x1))), none, some (.inl x3), some (.inl x4), some (.inl (σ.2.2.1 39 x1 (x4).toNatClampNeg))], []) σ
          refine Wp.run (WpD.mono _) 3 (q := ((45, [some (.inr (.inr (2, 0))), some (.inr (.inr (39, x1))), none, some (.inl x3), some (.inl x4), some (.inl (σ.2.2.1 39 x1 (x4).toNatClampNeg))], [.inl (160 : Int32), .inl x3]), σ)) rfl ?_
          refine Wp.if2_ge (WpD.mono _) rfl rfl (fun hc => ?_) (fun hc => ?_)
          · have h := (if_pos hc).symm.trans h
            show Wp (WpD (e + 2)) hcX4_worked Q (162, [some (.inr (.inr (2, 0))), some (.inr (.inr (39, x1))), none, some (.inl x3), some (.inl x4), some (.inl (σ.2.2.1 39 x1 (x4).toNatClampNeg))], []) σ
            refine Wp.run (WpD.mono _) 1 (q := ((9, [some (.inr (.inr (2, 0))), some (.inr (.inr (39, x1))), none, some (.inl x3), some (.inl (x4 + (1 : Int32))), none], []), σ)) rfl ?_
            exact Wp.jump (WpD.mono _) rfl (ih x1 x3 (x4 + (1 : Int32)) σ h)
          · have h := (if_neg hc).symm.trans h
            show Wp (WpD (e + 2)) hcX4_worked Q (48, [some (.inr (.inr (2, 0))), some (.inr (.inr (39, x1))), none, some (.inl x3), some (.inl x4), some (.inl (σ.2.2.1 39 x1 (x4).toNatClampNeg))], []) σ
            refine Wp.run (WpD.mono _) 4 (q := ((58, [some (.inr (.inr (2, 0))), some (.inr (.inr (39, x1))), none, some (.inl x3), some (.inl x4), some (.inl (σ.2.2.1 39 x1 (x4).toNatClampNeg))], [.inl (10000 : Int32), .inl (σ.2.2.1 39 x1 (x4).toNatClampNeg), .inl x3, .inr (.inr (48, 0))]), σ)) rfl ?_
            refine Wp.if2_ge (WpD.mono _) rfl rfl (fun hc => ?_) (fun hc => ?_)
            · have h := (if_pos hc).symm.trans h
              show Wp (WpD (e + 2)) hcX4_worked Q (66, [some (.inr (.inr (2, 0))), some (.inr (.inr (39, x1))), none, some (.inl x3), some (.inl x4), some (.inl (σ.2.2.1 39 x1 (x4).toNatClampNeg))], [.inl x3, .inr (.inr (48, 0))]) σ
              refine Wp.run (WpD.mono _) 3 (q := ((73, [some (.inr (.inr (2, 0))), some (.inr (.inr (39, x1))), none, some (.inl x3), some (.inl x4), some (.inl (σ.2.2.1 39 x1 (x4).toNatClampNeg))], [.inl ((σ.2.2.1 39 x1 (x4).toNatClampNeg) - (10000 : Int32)), .inr (.inr (2, 0)), .inl x3, .inr (.inr (48, 0))]), σ)) rfl ?_
              obtain ⟨q3, hb, h⟩ := bind_some h
              refine Wp.call (WpD.mono _) rfl (T_X4_valueOf (e + 1) N ((σ.2.2.1 39 x1 (x4).toNatClampNeg) - (10000 : Int32)) σ _ _ _ hb ?_)
              show Wp (WpD (e + 2)) hcX4_worked Q (76, [some (.inr (.inr (2, 0))), some (.inr (.inr (39, x1))), none, some (.inl x3), some (.inl x4), some (.inl (σ.2.2.1 39 x1 (x4).toNatClampNeg))], [.inl q3.1, .inl x3, .inr (.inr (48, 0))]) q3.2
              exact Wp.jump (WpD.mono _) rfl ((T_X4_worked_t39_b76 e N (F_X4_worked_t39_b9 N n) r τ Q hQ ih) x1 x3 x4 q3.1 x3 q3.2 h)
            · have h := (if_neg hc).symm.trans h
              show Wp (WpD (e + 2)) hcX4_worked Q (61, [some (.inr (.inr (2, 0))), some (.inr (.inr (39, x1))), none, some (.inl x3), some (.inl x4), some (.inl (σ.2.2.1 39 x1 (x4).toNatClampNeg))], [.inl x3, .inr (.inr (48, 0))]) σ
              refine Wp.run (WpD.mono _) 1 (q := ((76, [some (.inr (.inr (2, 0))), some (.inr (.inr (39, x1))), none, some (.inl x3), some (.inl x4), some (.inl (σ.2.2.1 39 x1 (x4).toNatClampNeg))], [.inl (σ.2.2.1 39 x1 (x4).toNatClampNeg), .inl x3, .inr (.inr (48, 0))]), σ)) rfl ?_
              exact Wp.jump (WpD.mono _) rfl ((T_X4_worked_t39_b76 e N (F_X4_worked_t39_b9 N n) r τ Q hQ ih) x1 x3 x4 (σ.2.2.1 39 x1 (x4).toNatClampNeg) x3 σ h)

set_option maxRecDepth 100000 in
set_option maxHeartbeats 4000000 in
theorem T_X4_worked_t39 (e N : Nat)  (a1 : Nat) (a2 : Int32) (σ : Mem) (r : Int32) (τ : Mem) (Q : Pst) (h : F_X4_worked_t39 N a1 a2 σ = some (r, τ)) (hQ : Q (some (.inl r)) τ) : WpD (e + 3) mX4_worked [.inr (.inr (2, 0)), .inr (.inr (39, a1)), .inl a2] σ Q := by
  refine WpD.of (d := e + 2) (Nat.le_of_ble_eq_true rfl) (Nat.le_of_ble_eq_true rfl) ?_
  show Wp (WpD (e + 2)) hcX4_worked Q (0, [some (.inr (.inr (2, 0))), some (.inr (.inr (39, a1))), some (.inl a2), none, none, none], []) σ
  unfold F_X4_worked_t39 at h
  refine Wp.run (WpD.mono _) 5 (q := ((9, [some (.inr (.inr (2, 0))), some (.inr (.inr (39, a1))), some (.inl a2), some (.inl (0 : Int32)), some (.inl (if (0 : Int32) < a2 then a2 else (0 : Int32))), none], []), σ)) rfl ?_
  exact Wp.jump (WpD.mono _) rfl ((T_X4_worked_t39_b9 e N  r τ Q hQ  N) a1 (0 : Int32) (if (0 : Int32) < a2 then a2 else (0 : Int32)) σ h)

set_option maxRecDepth 100000 in
set_option maxHeartbeats 4000000 in
theorem T_X4_part (e N : Nat)  (a1 : Int32) (a2 : Int32) (σ : Mem) (r : Int32) (τ : Mem) (Q : Pst) (h : F_X4_part N a1 a2 σ = some (r, τ)) (hQ : Q (some (.inl r)) τ) : WpD (e + 4) mX4_part [.inr (.inr (2, 0)), .inl a1, .inl a2] σ Q := by
  refine WpD.of (d := e + 3) (Nat.le_of_ble_eq_true rfl) (Nat.le_of_ble_eq_true rfl) ?_
  show Wp (WpD (e + 3)) hcX4_part Q (0, [some (.inr (.inr (2, 0))), some (.inl a1), some (.inl a2), none], []) σ
  unfold F_X4_part at h
  refine Wp.run (WpD.mono _) 4 (q := ((9, [some (.inr (.inr (2, 0))), some (.inl a1), some (.inl a2), none], [.inl (σ.1 2 10), .inr (.inr (38, 0)), .inr (.inr (2, 0))]), σ)) rfl ?_
  obtain ⟨hc, h⟩ := ite_nn h
  refine Wp.X_rld4 (WpD.mono _) rfl rfl hc ?_
  show Wp (WpD (e + 3)) hcX4_part Q (10, [some (.inr (.inr (2, 0))), some (.inl a1), some (.inl a2), none], [.inr (.inr (39, ((σ.1 2 10)).toNatClampNeg)), .inr (.inr (2, 0))]) σ
  refine Wp.run (WpD.mono _) 3 (q := ((18, [some (.inr (.inr (2, 0))), some (.inl a1), some (.inl a2), none], [.inl (σ.1 2 10), .inr (.inr (40, 0)), .inr (.inr (39, ((σ.1 2 10)).toNatClampNeg)), .inr (.inr (2, 0))]), σ)) rfl ?_
  obtain ⟨hc, h⟩ := ite_nn h
  refine Wp.X_rld4 (WpD.mono _) rfl rfl hc ?_
  show Wp (WpD (e + 3)) hcX4_part Q (19, [some (.inr (.inr (2, 0))), some (.inl a1), some (.inl a2), none], [.inr (.inr (41, ((σ.1 2 10)).toNatClampNeg)), .inr (.inr (39, ((σ.1 2 10)).toNatClampNeg)), .inr (.inr (2, 0))]) σ
  refine Wp.run (WpD.mono _) 0 (q := ((20, [some (.inr (.inr (2, 0))), some (.inl a1), some (.inl a2), none], [.inl a1, .inr (.inr (41, ((σ.1 2 10)).toNatClampNeg)), .inr (.inr (39, ((σ.1 2 10)).toNatClampNeg)), .inr (.inr (2, 0))]), σ)) rfl ?_
  obtain ⟨hc, h⟩ := ite_nn h
  refine Wp.X_ild1 (WpD.mono _) rfl rfl hc ?_
  show Wp (WpD (e + 3)) hcX4_part Q (21, [some (.inr (.inr (2, 0))), some (.inl a1), some (.inl a2), none], [.inl (σ.2.2.1 41 ((σ.1 2 10)).toNatClampNeg (a1).toNatClampNeg), .inr (.inr (39, ((σ.1 2 10)).toNatClampNeg)), .inr (.inr (2, 0))]) σ
  obtain ⟨q1, hb, h⟩ := bind_some h
  refine Wp.call (WpD.mono _) rfl (T_X4_worked_t39 (e + 0) N ((σ.1 2 10)).toNatClampNeg (σ.2.2.1 41 ((σ.1 2 10)).toNatClampNeg (a1).toNatClampNeg) σ _ _ _ hb ?_)
  show Wp (WpD (e + 3)) hcX4_part Q (24, [some (.inr (.inr (2, 0))), some (.inl a1), some (.inl a2), none], [.inl q1.1]) q1.2
  refine Wp.run (WpD.mono _) 5 (q := ((34, [some (.inr (.inr (2, 0))), some (.inl a1), some (.inl a2), some (.inl q1.1)], [.inl (if (0 : Int32) < (if q1.1 < a2 then q1.1 else a2) then (if q1.1 < a2 then q1.1 else a2) else (0 : Int32))]), q1.2)) rfl ?_
  obtain ⟨rfl, rfl⟩ := ret_inj h
  exact Wp.ret (WpD.mono _) rfl hQ

set_option maxRecDepth 100000 in
set_option maxHeartbeats 4000000 in
theorem T_X4_weighLayers_t44_b2 (e N : Nat)   (r : Unit) (τ : Mem) (Q : Pst) (hQ : Q (none) τ) : ∀ n, ∀ (x1 : Nat) (x2 : Int32) (σ : Mem), F_X4_weighLayers_t44_b2 N n x1 x2 σ = some (r, τ) → Wp (WpD (e + 4)) hcX4_weighLayers Q (2, [some (.inr (.inr (2, 0))), some (.inr (.inr (44, x1))), some (.inl x2)], []) σ := by
  intro n
  induction n with
  | zero => intro x1 x2 σ h; cases h
  | succ n ih =>
    intro x1 x2 σ h
    unfold F_X4_weighLayers_t44_b2 at h
    refine Wp.run (WpD.mono _) 3 (q := ((10, [some (.inr (.inr (2, 0))), some (.inr (.inr (44, x1))), some (.inl x2)], [.inl (σ.1 1 6), .inl x2]), σ)) rfl ?_
    refine Wp.if2_ge (WpD.mono _) rfl rfl (fun hc => ?_) (fun hc => ?_)
    · have h := (if_pos hc).symm.trans h
      show Wp (WpD (e + 4)) hcX4_weighLayers Q (66, [some (.inr (.inr (2, 0))), some (.inr (.inr (44, x1))), some (.inl x2)], []) σ
      refine Wp.run (WpD.mono _) 14 (q := ((87, [some (.inr (.inr (2, 0))), some (.inr (.inr (44, x1))), some (.inl x2)], []), (σ.1, σ.2.1, (hwU3 (hwU3 (hwU3 σ.2.2.1 47 0 1 (0 : Int32)) 47 0 2 (0 : Int32)) 47 0 3 (0 : Int32)), σ.2.2.2.1, σ.2.2.2.2))) rfl ?_
      obtain ⟨rfl, rfl⟩ := ret_inj h
      exact Wp.ret (WpD.mono _) rfl hQ
    · have h := (if_neg hc).symm.trans h
      show Wp (WpD (e + 4)) hcX4_weighLayers Q (13, [some (.inr (.inr (2, 0))), some (.inr (.inr (44, x1))), some (.inl x2)], []) σ
      refine Wp.run (WpD.mono _) 11 (q := ((33, [some (.inr (.inr (2, 0))), some (.inr (.inr (44, x1))), some (.inl x2)], [.inl x2, .inr (.inr (22, 0)), .inl (2 : Int32), .inr (.inr (47, 0))]), (σ.1, σ.2.1, (hwU3 σ.2.2.1 47 0 1 x2), σ.2.2.2.1, σ.2.2.2.2))) rfl ?_
      obtain ⟨hc, h⟩ := ite_nn h
      refine Wp.X_ild1 (WpD.mono _) rfl rfl hc ?_
      show Wp (WpD (e + 4)) hcX4_weighLayers Q (34, [some (.inr (.inr (2, 0))), some (.inr (.inr (44, x1))), some (.inl x2)], [.inl (σ.2.2.1 22 0 (x2).toNatClampNeg), .inl (2 : Int32), .inr (.inr (47, 0))]) (σ.1, σ.2.1, (hwU3 σ.2.2.1 47 0 1 x2), σ.2.2.2.1, σ.2.2.2.2)
      refine Wp.run (WpD.mono _) 7 (q := ((48, [some (.inr (.inr (2, 0))), some (.inr (.inr (44, x1))), some (.inl x2)], [.inl x2, .inr (.inr (23, 0)), .inl (3 : Int32), .inr (.inr (47, 0))]), (σ.1, σ.2.1, (hwU3 (hwU3 σ.2.2.1 47 0 1 x2) 47 0 2 (σ.2.2.1 22 0 (x2).toNatClampNeg)), σ.2.2.2.1, σ.2.2.2.2))) rfl ?_
      obtain ⟨hc, h⟩ := ite_nn h
      refine Wp.X_ild1 (WpD.mono _) rfl rfl hc ?_
      show Wp (WpD (e + 4)) hcX4_weighLayers Q (49, [some (.inr (.inr (2, 0))), some (.inr (.inr (44, x1))), some (.inl x2)], [.inl (σ.2.2.1 23 0 (x2).toNatClampNeg), .inl (3 : Int32), .inr (.inr (47, 0))]) (σ.1, σ.2.1, (hwU3 (hwU3 σ.2.2.1 47 0 1 x2) 47 0 2 (σ.2.2.1 22 0 (x2).toNatClampNeg)), σ.2.2.2.1, σ.2.2.2.2)
      refine Wp.run (WpD.mono _) 5 (q := ((56, [some (.inr (.inr (2, 0))), some (.inr (.inr (44, x1))), some (.inl x2)], [.inl (100 : Int32), .inl (1 : Int32), .inr (.inr (2, 0)), .inl x2, .inr (.inr (44, x1))]), (σ.1, σ.2.1, (hwU3 (hwU3 (hwU3 σ.2.2.1 47 0 1 x2) 47 0 2 (σ.2.2.1 22 0 (x2).toNatClampNeg)) 47 0 3 (σ.2.2.1 23 0 (x2).toNatClampNeg)), σ.2.2.2.1, σ.2.2.2.2))) rfl ?_
      obtain ⟨q1, hb, h⟩ := bind_some h
      refine Wp.call (WpD.mono _) rfl (T_X4_part (e + 0) N (1 : Int32) (100 : Int32) (σ.1, σ.2.1, (hwU3 (hwU3 (hwU3 σ.2.2.1 47 0 1 x2) 47 0 2 (σ.2.2.1 22 0 (x2).toNatClampNeg)) 47 0 3 (σ.2.2.1 23 0 (x2).toNatClampNeg)), σ.2.2.2.1, σ.2.2.2.2) _ _ _ hb ?_)
      show Wp (WpD (e + 4)) hcX4_weighLayers Q (59, [some (.inr (.inr (2, 0))), some (.inr (.inr (44, x1))), some (.inl x2)], [.inl q1.1, .inl x2, .inr (.inr (44, x1))]) q1.2
      obtain ⟨hc, h⟩ := ite_nn h
      refine Wp.X_ist (WpD.mono _) rfl rfl hc ?_
      show Wp (WpD (e + 4)) hcX4_weighLayers Q (60, [some (.inr (.inr (2, 0))), some (.inr (.inr (44, x1))), some (.inl x2)], []) (q1.2.1, q1.2.2.1, (hwU3 q1.2.2.2.1 44 x1 (x2).toNatClampNeg q1.1), q1.2.2.2.2.1, q1.2.2.2.2.2)
      refine Wp.run (WpD.mono _) 1 (q := ((2, [some (.inr (.inr (2, 0))), some (.inr (.inr (44, x1))), some (.inl (x2 + (1 : Int32)))], []), (q1.2.1, q1.2.2.1, (hwU3 q1.2.2.2.1 44 x1 (x2).toNatClampNeg q1.1), q1.2.2.2.2.1, q1.2.2.2.2.2))) rfl ?_
      exact Wp.jump (WpD.mono _) rfl (ih x1 (x2 + (1 : Int32)) (q1.2.1, q1.2.2.1, (hwU3 q1.2.2.2.1 44 x1 (x2).toNatClampNeg q1.1), q1.2.2.2.2.1, q1.2.2.2.2.2) h)

set_option maxRecDepth 100000 in
set_option maxHeartbeats 4000000 in
theorem T_X4_weighLayers_t44 (e N : Nat)  (a1 : Nat) (σ : Mem) (r : Unit) (τ : Mem) (Q : Pst) (h : F_X4_weighLayers_t44 N a1 σ = some (r, τ)) (hQ : Q (none) τ) : WpD (e + 5) mX4_weighLayers [.inr (.inr (2, 0)), .inr (.inr (44, a1))] σ Q := by
  refine WpD.of (d := e + 4) (Nat.le_of_ble_eq_true rfl) (Nat.le_of_ble_eq_true rfl) ?_
  show Wp (WpD (e + 4)) hcX4_weighLayers Q (0, [some (.inr (.inr (2, 0))), some (.inr (.inr (44, a1))), none], []) σ
  unfold F_X4_weighLayers_t44 at h
  refine Wp.run (WpD.mono _) 1 (q := ((2, [some (.inr (.inr (2, 0))), some (.inr (.inr (44, a1))), some (.inl (0 : Int32))], []), σ)) rfl ?_
  exact Wp.jump (WpD.mono _) rfl ((T_X4_weighLayers_t44_b2 e N  r τ Q hQ  N) a1 (0 : Int32) σ h)

set_option maxRecDepth 100000 in
set_option maxHeartbeats 4000000 in
theorem T_X4_weigh_b38 (e N : Nat)   (r : Unit) (τ : Mem) (Q : Pst) (hQ : Q (none) τ) : ∀ n, ∀ (x1 : Int32) (σ : Mem), F_X4_weigh_b38 N n x1 σ = some (r, τ) → Wp (WpD (e + 5)) hcX4_weigh Q (38, [some (.inr (.inr (2, 0))), some (.inl x1)], []) σ := by
  intro n
  induction n with
  | zero => intro x1 σ h; cases h
  | succ n ih =>
    intro x1 σ h
    unfold F_X4_weigh_b38 at h
    refine Wp.run (WpD.mono _) 1 (q := ((40, [some (.inr (.inr (2, 0))), some (.inl x1)], [.inl (5 : Int32), .inl x1]), σ)) rfl ?_
    refine Wp.if2_gt (WpD.mono _) rfl rfl (fun hc => ?_) (fun hc => ?_)
    · have h := (if_pos hc).symm.trans h
      show Wp (WpD (e + 5)) hcX4_weigh Q (124, [some (.inr (.inr (2, 0))), some (.inl x1)], []) σ
      obtain ⟨rfl, rfl⟩ := ret_inj h
      exact Wp.ret (WpD.mono _) rfl hQ
    · have h := (if_neg hc).symm.trans h
      show Wp (WpD (e + 5)) hcX4_weigh Q (43, [some (.inr (.inr (2, 0))), some (.inl x1)], []) σ
      refine Wp.run (WpD.mono _) 10 (q := ((60, [some (.inr (.inr (2, 0))), some (.inl x1)], [.inl (999 : Int32), .inl (0 : Int32), .inr (.inr (2, 0)), .inl x1, .inr (.inr (42, 0))]), (σ.1, σ.2.1, (hwU3 σ.2.2.1 47 0 0 x1), σ.2.2.2.1, σ.2.2.2.2))) rfl ?_
      obtain ⟨q1, hb, h⟩ := bind_some h
      refine Wp.call (WpD.mono _) rfl (T_X4_part (e + 1) N (0 : Int32) (999 : Int32) (σ.1, σ.2.1, (hwU3 σ.2.2.1 47 0 0 x1), σ.2.2.2.1, σ.2.2.2.2) _ _ _ hb ?_)
      show Wp (WpD (e + 5)) hcX4_weigh Q (63, [some (.inr (.inr (2, 0))), some (.inl x1)], [.inl q1.1, .inl x1, .inr (.inr (42, 0))]) q1.2
      obtain ⟨hc, h⟩ := ite_nn h
      refine Wp.X_ist (WpD.mono _) rfl rfl hc ?_
      show Wp (WpD (e + 5)) hcX4_weigh Q (64, [some (.inr (.inr (2, 0))), some (.inl x1)], []) (q1.2.1, q1.2.2.1, (hwU3 q1.2.2.2.1 42 0 (x1).toNatClampNeg q1.1), q1.2.2.2.2.1, q1.2.2.2.2.2)
      refine Wp.run (WpD.mono _) 7 (q := ((75, [some (.inr (.inr (2, 0))), some (.inl x1)], [.inl (100 : Int32), .inl (2 : Int32), .inr (.inr (2, 0)), .inl x1, .inr (.inr (46, 0))]), (q1.2.1, q1.2.2.1, (hwU3 q1.2.2.2.1 42 0 (x1).toNatClampNeg q1.1), q1.2.2.2.2.1, q1.2.2.2.2.2))) rfl ?_
      obtain ⟨q2, hb, h⟩ := bind_some h
      refine Wp.call (WpD.mono _) rfl (T_X4_part (e + 1) N (2 : Int32) (100 : Int32) (q1.2.1, q1.2.2.1, (hwU3 q1.2.2.2.1 42 0 (x1).toNatClampNeg q1.1), q1.2.2.2.2.1, q1.2.2.2.2.2) _ _ _ hb ?_)
      show Wp (WpD (e + 5)) hcX4_weigh Q (78, [some (.inr (.inr (2, 0))), some (.inl x1)], [.inl q2.1, .inl x1, .inr (.inr (46, 0))]) q2.2
      obtain ⟨hc, h⟩ := ite_nn h
      refine Wp.X_ist (WpD.mono _) rfl rfl hc ?_
      show Wp (WpD (e + 5)) hcX4_weigh Q (79, [some (.inr (.inr (2, 0))), some (.inl x1)], []) (q2.2.1, q2.2.2.1, (hwU3 q2.2.2.2.1 46 0 (x1).toNatClampNeg q2.1), q2.2.2.2.2.1, q2.2.2.2.2.2)
      refine Wp.run (WpD.mono _) 12 (q := ((97, [some (.inr (.inr (2, 0))), some (.inl x1)], [.inl (100 : Int32), .inl (2 : Int32), .inr (.inr (2, 0)), .inl x1, .inr (.inr (46, 1))]), (q2.2.1, q2.2.2.1, (hwU3 (hwU3 q2.2.2.2.1 46 0 (x1).toNatClampNeg q2.1) 47 0 5 (1 : Int32)), q2.2.2.2.2.1, q2.2.2.2.2.2))) rfl ?_
      obtain ⟨q3, hb, h⟩ := bind_some h
      refine Wp.call (WpD.mono _) rfl (T_X4_part (e + 1) N (2 : Int32) (100 : Int32) (q2.2.1, q2.2.2.1, (hwU3 (hwU3 q2.2.2.2.1 46 0 (x1).toNatClampNeg q2.1) 47 0 5 (1 : Int32)), q2.2.2.2.2.1, q2.2.2.2.2.2) _ _ _ hb ?_)
      show Wp (WpD (e + 5)) hcX4_weigh Q (100, [some (.inr (.inr (2, 0))), some (.inl x1)], [.inl q3.1, .inl x1, .inr (.inr (46, 1))]) q3.2
      obtain ⟨hc, h⟩ := ite_nn h
      refine Wp.X_ist (WpD.mono _) rfl rfl hc ?_
      show Wp (WpD (e + 5)) hcX4_weigh Q (101, [some (.inr (.inr (2, 0))), some (.inl x1)], []) (q3.2.1, q3.2.2.1, (hwU3 q3.2.2.2.1 46 1 (x1).toNatClampNeg q3.1), q3.2.2.2.2.1, q3.2.2.2.2.2)
      refine Wp.run (WpD.mono _) 8 (q := ((114, [some (.inr (.inr (2, 0))), some (.inl x1)], [.inl x1, .inr (.inr (43, 0)), .inr (.inr (2, 0))]), (q3.2.1, q3.2.2.1, (hwU3 (hwU3 q3.2.2.2.1 46 1 (x1).toNatClampNeg q3.1) 47 0 5 (0 : Int32)), q3.2.2.2.2.1, q3.2.2.2.2.2))) rfl ?_
      obtain ⟨hc, h⟩ := ite_nn h
      refine Wp.X_rld4 (WpD.mono _) rfl rfl hc ?_
      show Wp (WpD (e + 5)) hcX4_weigh Q (115, [some (.inr (.inr (2, 0))), some (.inl x1)], [.inr (.inr (44, (x1).toNatClampNeg)), .inr (.inr (2, 0))]) (q3.2.1, q3.2.2.1, (hwU3 (hwU3 q3.2.2.2.1 46 1 (x1).toNatClampNeg q3.1) 47 0 5 (0 : Int32)), q3.2.2.2.2.1, q3.2.2.2.2.2)
      obtain ⟨q4, hb, h⟩ := bind_some h
      refine Wp.call (WpD.mono _) rfl (T_X4_weighLayers_t44 (e + 0) N (x1).toNatClampNeg (q3.2.1, q3.2.2.1, (hwU3 (hwU3 q3.2.2.2.1 46 1 (x1).toNatClampNeg q3.1) 47 0 5 (0 : Int32)), q3.2.2.2.2.1, q3.2.2.2.2.2) _ _ _ hb ?_)
      show Wp (WpD (e + 5)) hcX4_weigh Q (118, [some (.inr (.inr (2, 0))), some (.inl x1)], []) q4.2
      refine Wp.run (WpD.mono _) 1 (q := ((38, [some (.inr (.inr (2, 0))), some (.inl (x1 + (1 : Int32)))], []), q4.2)) rfl ?_
      exact Wp.jump (WpD.mono _) rfl (ih (x1 + (1 : Int32)) q4.2 h)

set_option maxRecDepth 100000 in
set_option maxHeartbeats 4000000 in
theorem T_X4_weigh_b2 (e N : Nat)   (r : Unit) (τ : Mem) (Q : Pst) (hQ : Q (none) τ) : ∀ n, ∀ (x1 : Int32) (σ : Mem), F_X4_weigh_b2 N n x1 σ = some (r, τ) → Wp (WpD (e + 5)) hcX4_weigh Q (2, [some (.inr (.inr (2, 0))), some (.inl x1)], []) σ := by
  intro n
  induction n with
  | zero => intro x1 σ h; cases h
  | succ n ih =>
    intro x1 σ h
    unfold F_X4_weigh_b2 at h
    refine Wp.run (WpD.mono _) 1 (q := ((5, [some (.inr (.inr (2, 0))), some (.inl x1)], [.inl (6 : Int32), .inl x1]), σ)) rfl ?_
    refine Wp.if2_ge (WpD.mono _) rfl rfl (fun hc => ?_) (fun hc => ?_)
    · have h := (if_pos hc).symm.trans h
      show Wp (WpD (e + 5)) hcX4_weigh Q (21, [some (.inr (.inr (2, 0))), some (.inl x1)], []) σ
      refine Wp.run (WpD.mono _) 10 (q := ((38, [some (.inr (.inr (2, 0))), some (.inl (1 : Int32))], []), (σ.1, σ.2.1, (hwU3 σ.2.2.1 47 0 4 (σ.2.2.1 28 0 2)), σ.2.2.2.1, σ.2.2.2.2))) rfl ?_
      exact Wp.jump (WpD.mono _) rfl ((T_X4_weigh_b38 e N  r τ Q hQ  N) (1 : Int32) (σ.1, σ.2.1, (hwU3 σ.2.2.1 47 0 4 (σ.2.2.1 28 0 2)), σ.2.2.2.1, σ.2.2.2.2) h)
    · have h := (if_neg hc).symm.trans h
      show Wp (WpD (e + 5)) hcX4_weigh Q (8, [some (.inr (.inr (2, 0))), some (.inl x1)], []) σ
      refine Wp.run (WpD.mono _) 3 (q := ((14, [some (.inr (.inr (2, 0))), some (.inl x1)], [.inl (0 : Int32), .inl x1, .inr (.inr (47, 0))]), σ)) rfl ?_
      obtain ⟨hc, h⟩ := ite_nn h
      refine Wp.X_ist (WpD.mono _) rfl rfl hc ?_
      show Wp (WpD (e + 5)) hcX4_weigh Q (15, [some (.inr (.inr (2, 0))), some (.inl x1)], []) (σ.1, σ.2.1, (hwU3 σ.2.2.1 47 0 (x1).toNatClampNeg (0 : Int32)), σ.2.2.2.1, σ.2.2.2.2)
      refine Wp.run (WpD.mono _) 1 (q := ((2, [some (.inr (.inr (2, 0))), some (.inl (x1 + (1 : Int32)))], []), (σ.1, σ.2.1, (hwU3 σ.2.2.1 47 0 (x1).toNatClampNeg (0 : Int32)), σ.2.2.2.1, σ.2.2.2.2))) rfl ?_
      exact Wp.jump (WpD.mono _) rfl (ih (x1 + (1 : Int32)) (σ.1, σ.2.1, (hwU3 σ.2.2.1 47 0 (x1).toNatClampNeg (0 : Int32)), σ.2.2.2.1, σ.2.2.2.2) h)

set_option maxRecDepth 100000 in
set_option maxHeartbeats 4000000 in
theorem T_X4_weigh (e N : Nat)   (σ : Mem) (r : Unit) (τ : Mem) (Q : Pst) (h : F_X4_weigh N  σ = some (r, τ)) (hQ : Q (none) τ) : WpD (e + 6) mX4_weigh [.inr (.inr (2, 0))] σ Q := by
  refine WpD.of (d := e + 5) (Nat.le_of_ble_eq_true rfl) (Nat.le_of_ble_eq_true rfl) ?_
  show Wp (WpD (e + 5)) hcX4_weigh Q (0, [some (.inr (.inr (2, 0))), none], []) σ
  unfold F_X4_weigh at h
  refine Wp.run (WpD.mono _) 1 (q := ((2, [some (.inr (.inr (2, 0))), some (.inl (0 : Int32))], []), σ)) rfl ?_
  exact Wp.jump (WpD.mono _) rfl ((T_X4_weigh_b2 e N  r τ Q hQ  N) (0 : Int32) σ h)

set_option maxRecDepth 100000 in
set_option maxHeartbeats 4000000 in
theorem T_X11_force (e N : Nat)  (a1 : Int32) (σ : Mem) (r : Int32) (τ : Mem) (Q : Pst) (h : F_X11_force N a1 σ = some (r, τ)) (hQ : Q (some (.inl r)) τ) : WpD (e + 7) mX11_force [.inr (.inr (0, 0)), .inl a1] σ Q := by
  refine WpD.of (d := e + 6) (Nat.le_of_ble_eq_true rfl) (Nat.le_of_ble_eq_true rfl) ?_
  show Wp (WpD (e + 6)) hcX11_force Q (0, [some (.inr (.inr (0, 0))), some (.inl a1), none], []) σ
  unfold F_X11_force at h
  refine Wp.run (WpD.mono _) 6 (q := ((11, [some (.inr (.inr (0, 0))), some (.inl a1), none], [.inl ((σ.1 2 9) - (1 : Int32)), .inl (0 : Int32), .inl a1]), σ)) rfl ?_
  obtain ⟨q1, hb, h⟩ := bind_some h
  refine Wp.call (WpD.mono _) rfl (T_X11_within (e + 5) N a1 (0 : Int32) ((σ.1 2 9) - (1 : Int32)) σ _ _ _ hb ?_)
  show Wp (WpD (e + 6)) hcX11_force Q (14, [some (.inr (.inr (0, 0))), some (.inl a1), none], [.inl q1.1]) q1.2
  refine Wp.if0_ne (WpD.mono _) rfl rfl (fun hc => ?_) (fun hc => ?_)
  · have h := (if_pos hc).symm.trans h
    show Wp (WpD (e + 6)) hcX11_force Q (17, [some (.inr (.inr (0, 0))), some (.inl a1), none], []) q1.2
    refine Wp.run (WpD.mono _) 0 (q := ((19, [some (.inr (.inr (0, 0))), some (.inl a1), none], [.inl (Int32.ofInt (-2))]), q1.2)) rfl ?_
    obtain ⟨rfl, rfl⟩ := ret_inj h
    exact Wp.ret (WpD.mono _) rfl hQ
  · have h := (if_neg hc).symm.trans h
    show Wp (WpD (e + 6)) hcX11_force Q (20, [some (.inr (.inr (0, 0))), some (.inl a1), none], []) q1.2
    refine Wp.run (WpD.mono _) 9 (q := ((40, [some (.inr (.inr (0, 0))), some (.inl a1), some (.inl (q1.2.1 2 10))], [.inr (.inr (2, 0))]), ((hwU2 q1.2.1 2 10 a1), q1.2.2.1, q1.2.2.2.1, q1.2.2.2.2.1, q1.2.2.2.2.2))) rfl ?_
    obtain ⟨q2, hb, h⟩ := bind_some h
    refine Wp.call (WpD.mono _) rfl (T_X4_weigh (e + 0) N ((hwU2 q1.2.1 2 10 a1), q1.2.2.1, q1.2.2.2.1, q1.2.2.2.2.1, q1.2.2.2.2.2) _ _ _ hb ?_)
    show Wp (WpD (e + 6)) hcX11_force Q (43, [some (.inr (.inr (0, 0))), some (.inl a1), some (.inl (q1.2.1 2 10))], []) q2.2
    refine Wp.run (WpD.mono _) 0 (q := ((44, [some (.inr (.inr (0, 0))), some (.inl a1), some (.inl (q1.2.1 2 10))], [.inl (q1.2.1 2 10)]), q2.2)) rfl ?_
    obtain ⟨rfl, rfl⟩ := ret_inj h
    exact Wp.ret (WpD.mono _) rfl hQ

set_option maxRecDepth 100000 in
set_option maxHeartbeats 4000000 in
theorem T_X11_goesBy (e N : Nat)  (a1 : Int32) (a2 : Int32) (σ : Mem) (r : Int32) (τ : Mem) (Q : Pst) (h : F_X11_goesBy N a1 a2 σ = some (r, τ)) (hQ : Q (some (.inl r)) τ) : WpD (e + 14) mX11_goesBy [.inr (.inr (0, 0)), .inl a1, .inl a2] σ Q := by
  refine WpD.of (d := e + 13) (Nat.le_of_ble_eq_true rfl) (Nat.le_of_ble_eq_true rfl) ?_
  show Wp (WpD (e + 13)) hcX11_goesBy Q (0, [some (.inr (.inr (0, 0))), some (.inl a1), some (.inl a2), none], []) σ
  unfold F_X11_goesBy at h
  refine Wp.run (WpD.mono _) 1 (q := ((2, [some (.inr (.inr (0, 0))), some (.inl a1), some (.inl a2), none], [.inl a1, .inr (.inr (0, 0))]), σ)) rfl ?_
  obtain ⟨q1, hb, h⟩ := bind_some h
  refine Wp.call (WpD.mono _) rfl (T_X11_isRule (e + 11) N a1 σ _ _ _ hb ?_)
  show Wp (WpD (e + 13)) hcX11_goesBy Q (5, [some (.inr (.inr (0, 0))), some (.inl a1), some (.inl a2), none], [.inl q1.1]) q1.2
  refine Wp.if0_eq (WpD.mono _) rfl rfl (fun hc => ?_) (fun hc => ?_)
  · have h := (if_pos hc).symm.trans h
    show Wp (WpD (e + 13)) hcX11_goesBy Q (16, [some (.inr (.inr (0, 0))), some (.inl a1), some (.inl a2), none], []) q1.2
    refine Wp.run (WpD.mono _) 0 (q := ((18, [none, none, none, none], [.inl (Int32.ofInt (-5))]), q1.2)) rfl ?_
    obtain ⟨rfl, rfl⟩ := ret_inj h
    exact Wp.ret (WpD.mono _) rfl hQ
  · have h := (if_neg hc).symm.trans h
    show Wp (WpD (e + 13)) hcX11_goesBy Q (8, [some (.inr (.inr (0, 0))), some (.inl a1), some (.inl a2), none], []) q1.2
    refine Wp.run (WpD.mono _) 1 (q := ((10, [some (.inr (.inr (0, 0))), some (.inl a1), some (.inl a2), none], [.inl a2, .inr (.inr (0, 0))]), q1.2)) rfl ?_
    obtain ⟨q2, hb, h⟩ := bind_some h
    refine Wp.call (WpD.mono _) rfl (T_X11_isPlace (e + 11) N a2 q1.2 _ _ _ hb ?_)
    show Wp (WpD (e + 13)) hcX11_goesBy Q (13, [some (.inr (.inr (0, 0))), some (.inl a1), some (.inl a2), none], [.inl q2.1]) q2.2
    refine Wp.if0_ne (WpD.mono _) rfl rfl (fun hc => ?_) (fun hc => ?_)
    · have h := (if_pos hc).symm.trans h
      show Wp (WpD (e + 13)) hcX11_goesBy Q (16, [some (.inr (.inr (0, 0))), some (.inl a1), some (.inl a2), none], []) q2.2
      refine Wp.run (WpD.mono _) 0 (q := ((18, [none, none, none, none], [.inl (Int32.ofInt (-5))]), q2.2)) rfl ?_
      obtain ⟨rfl, rfl⟩ := ret_inj h
      exact Wp.ret (WpD.mono _) rfl hQ
    · have h := (if_neg hc).symm.trans h
      show Wp (WpD (e + 13)) hcX11_goesBy Q (19, [some (.inr (.inr (0, 0))), some (.inl a1), some (.inl a2), none], []) q2.2
      refine Wp.run (WpD.mono _) 2 (q := ((24, [some (.inr (.inr (0, 0))), some (.inl a1), some (.inl a2), none], [.inl a2, .inr (.inr (8, 0))]), q2.2)) rfl ?_
      obtain ⟨q3, hb, h⟩ := bind_some h
      refine Wp.call (WpD.mono _) rfl (T_X6_openYard (e + 9) N a2 q2.2 _ _ _ hb ?_)
      show Wp (WpD (e + 13)) hcX11_goesBy Q (27, [some (.inr (.inr (0, 0))), some (.inl a1), some (.inl a2), none], [.inl q3.1]) q3.2
      refine Wp.if0_ne (WpD.mono _) rfl rfl (fun hc => ?_) (fun hc => ?_)
      · have h := (if_pos hc).symm.trans h
        show Wp (WpD (e + 13)) hcX11_goesBy Q (30, [some (.inr (.inr (0, 0))), some (.inl a1), some (.inl a2), none], []) q3.2
        refine Wp.run (WpD.mono _) 0 (q := ((32, [some (.inr (.inr (0, 0))), some (.inl a1), some (.inl a2), none], [.inl (Int32.ofInt (-3))]), q3.2)) rfl ?_
        obtain ⟨rfl, rfl⟩ := ret_inj h
        exact Wp.ret (WpD.mono _) rfl hQ
      · have h := (if_neg hc).symm.trans h
        show Wp (WpD (e + 13)) hcX11_goesBy Q (33, [some (.inr (.inr (0, 0))), some (.inl a1), some (.inl a2), none], []) q3.2
        refine Wp.run (WpD.mono _) 3 (q := ((41, [some (.inr (.inr (0, 0))), some (.inl a1), some (.inl a2), none], [.inl a2, .inr (.inr (58, 0))]), q3.2)) rfl ?_
        obtain ⟨hc, h⟩ := ite_nn h
        refine Wp.X_ild1 (WpD.mono _) rfl rfl hc ?_
        show Wp (WpD (e + 13)) hcX11_goesBy Q (42, [some (.inr (.inr (0, 0))), some (.inl a1), some (.inl a2), none], [.inl (q3.2.2.2.1 58 0 (a2).toNatClampNeg)]) q3.2
        refine Wp.run (WpD.mono _) 8 (q := ((55, [some (.inr (.inr (0, 0))), some (.inl a1), some (.inl a2), some (.inl (q3.2.2.2.1 58 0 (a2).toNatClampNeg))], [.inl (q3.2.2.2.1 58 0 (a2).toNatClampNeg), .inl a2, .inr (.inr (4, 0)), .inl (q3.2.2.2.1 58 0 (a2).toNatClampNeg), .inl a1, .inr (.inr (6, 0))]), q3.2)) rfl ?_
        obtain ⟨q4, hb, h⟩ := bind_some h
        refine Wp.call (WpD.mono _) rfl (T_X7_signOf (e + 12) N a2 (q3.2.2.2.1 58 0 (a2).toNatClampNeg) q3.2 _ _ _ hb ?_)
        show Wp (WpD (e + 13)) hcX11_goesBy Q (58, [some (.inr (.inr (0, 0))), some (.inl a1), some (.inl a2), some (.inl (q3.2.2.2.1 58 0 (a2).toNatClampNeg))], [.inl q4.1, .inl (q3.2.2.2.1 58 0 (a2).toNatClampNeg), .inl a1, .inr (.inr (6, 0))]) q4.2
        obtain ⟨q5, hb, h⟩ := bind_some h
        refine Wp.call (WpD.mono _) rfl (T_X9_goesOn (e + 0) N a1 (q3.2.2.2.1 58 0 (a2).toNatClampNeg) q4.1 q4.2 _ _ _ hb ?_)
        show Wp (WpD (e + 13)) hcX11_goesBy Q (61, [some (.inr (.inr (0, 0))), some (.inl a1), some (.inl a2), some (.inl (q3.2.2.2.1 58 0 (a2).toNatClampNeg))], [.inl q5.1]) q5.2
        refine Wp.if0_eq (WpD.mono _) rfl rfl (fun hc => ?_) (fun hc => ?_)
        · have h := (if_pos hc).symm.trans h
          show Wp (WpD (e + 13)) hcX11_goesBy Q (68, [some (.inr (.inr (0, 0))), some (.inl a1), some (.inl a2), some (.inl (q3.2.2.2.1 58 0 (a2).toNatClampNeg))], []) q5.2
          refine Wp.run (WpD.mono _) 0 (q := ((69, [some (.inr (.inr (0, 0))), some (.inl a1), some (.inl a2), some (.inl (q3.2.2.2.1 58 0 (a2).toNatClampNeg))], [.inl (0 : Int32)]), q5.2)) rfl ?_
          obtain ⟨rfl, rfl⟩ := ret_inj h
          exact Wp.ret (WpD.mono _) rfl hQ
        · have h := (if_neg hc).symm.trans h
          show Wp (WpD (e + 13)) hcX11_goesBy Q (64, [some (.inr (.inr (0, 0))), some (.inl a1), some (.inl a2), some (.inl (q3.2.2.2.1 58 0 (a2).toNatClampNeg))], []) q5.2
          refine Wp.run (WpD.mono _) 1 (q := ((69, [some (.inr (.inr (0, 0))), some (.inl a1), some (.inl a2), some (.inl (q3.2.2.2.1 58 0 (a2).toNatClampNeg))], [.inl (1 : Int32)]), q5.2)) rfl ?_
          obtain ⟨rfl, rfl⟩ := ret_inj h
          exact Wp.ret (WpD.mono _) rfl hQ

set_option maxRecDepth 100000 in
set_option maxHeartbeats 4000000 in
theorem T_X3_carry_t25_t30_b2 (e N : Nat)   (r : Unit) (τ : Mem) (Q : Pst) (hQ : Q (none) τ) : ∀ n, ∀ (x2 : Int32) (x3 : Int32) (σ : Mem), F_X3_carry_t25_t30_b2 N n x2 x3 σ = some (r, τ) → Wp (WpD (e + 0)) hcX3_carry Q (2, [some (.inr (.inr (25, 0))), some (.inr (.inr (30, 0))), some (.inl x2), some (.inl x3)], []) σ := by
  intro n
  induction n with
  | zero => intro x2 x3 σ h; cases h
  | succ n ih =>
    intro x2 x3 σ h
    unfold F_X3_carry_t25_t30_b2 at h
    refine Wp.run (WpD.mono _) 2 (q := ((5, [some (.inr (.inr (25, 0))), some (.inr (.inr (30, 0))), some (.inl x2), some (.inl x3)], [.inl (5 : Int32), .inl x3]), σ)) rfl ?_
    refine Wp.if2_ge (WpD.mono _) rfl rfl (fun hc => ?_) (fun hc => ?_)
    · have h := (if_pos hc).symm.trans h
      show Wp (WpD (e + 0)) hcX3_carry Q (32, [some (.inr (.inr (25, 0))), some (.inr (.inr (30, 0))), some (.inl x2), some (.inl x3)], []) σ
      obtain ⟨rfl, rfl⟩ := ret_inj h
      exact Wp.ret (WpD.mono _) rfl hQ
    · have h := (if_neg hc).symm.trans h
      show Wp (WpD (e + 0)) hcX3_carry Q (8, [some (.inr (.inr (25, 0))), some (.inr (.inr (30, 0))), some (.inl x2), some (.inl x3)], []) σ
      refine Wp.run (WpD.mono _) 2 (q := ((11, [some (.inr (.inr (25, 0))), some (.inr (.inr (30, 0))), some (.inl x2), some (.inl x3)], [.inl (5 : Int32), .inl x3]), σ)) rfl ?_
      refine Wp.if2_ge (WpD.mono _) rfl rfl (fun hc => ?_) (fun hc => ?_)
      · have h := (if_pos hc).symm.trans h
        show Wp (WpD (e + 0)) hcX3_carry Q (32, [some (.inr (.inr (25, 0))), some (.inr (.inr (30, 0))), some (.inl x2), some (.inl x3)], []) σ
        obtain ⟨rfl, rfl⟩ := ret_inj h
        exact Wp.ret (WpD.mono _) rfl hQ
      · have h := (if_neg hc).symm.trans h
        show Wp (WpD (e + 0)) hcX3_carry Q (14, [some (.inr (.inr (25, 0))), some (.inr (.inr (30, 0))), some (.inl x2), some (.inl x3)], []) σ
        refine Wp.run (WpD.mono _) 1 (q := ((16, [some (.inr (.inr (25, 0))), some (.inr (.inr (30, 0))), some (.inl x2), some (.inl x3)], [.inl x3, .inr (.inr (25, 0))]), σ)) rfl ?_
        obtain ⟨hc, h⟩ := ite_nn h
        refine Wp.X_rld4 (WpD.mono _) rfl rfl hc ?_
        show Wp (WpD (e + 0)) hcX3_carry Q (17, [some (.inr (.inr (25, 0))), some (.inr (.inr (30, 0))), some (.inl x2), some (.inl x3)], [.inr (.inr (26, (x3).toNatClampNeg))]) σ
        refine Wp.run (WpD.mono _) 2 (q := ((20, [some (.inr (.inr (25, 0))), some (.inr (.inr (30, 0))), some (.inl x2), some (.inl x3)], [.inl x3, .inr (.inr (30, 0)), .inl (0 : Int32), .inr (.inr (26, (x3).toNatClampNeg))]), σ)) rfl ?_
        obtain ⟨hc, h⟩ := ite_nn h
        refine Wp.X_rld4 (WpD.mono _) rfl rfl hc ?_
        show Wp (WpD (e + 0)) hcX3_carry Q (21, [some (.inr (.inr (25, 0))), some (.inr (.inr (30, 0))), some (.inl x2), some (.inl x3)], [.inr (.inr (31, (x3).toNatClampNeg)), .inl (0 : Int32), .inr (.inr (26, (x3).toNatClampNeg))]) σ
        refine Wp.run (WpD.mono _) 1 (q := ((23, [some (.inr (.inr (25, 0))), some (.inr (.inr (30, 0))), some (.inl x2), some (.inl x3)], [.inl x2, .inl (0 : Int32), .inr (.inr (31, (x3).toNatClampNeg)), .inl (0 : Int32), .inr (.inr (26, (x3).toNatClampNeg))]), σ)) rfl ?_
        obtain ⟨hc, h⟩ := ite_nn h
        refine Wp.X_cpyI (WpD.mono _) rfl rfl rfl rfl hc ?_
        show Wp (WpD (e + 0)) hcX3_carry Q (26, [some (.inr (.inr (25, 0))), some (.inr (.inr (30, 0))), some (.inl x2), some (.inl x3)], []) (σ.1, σ.2.1, (hwR3 σ.2.2.1 31 (x3).toNatClampNeg (va_cpy (σ.2.2.1 26 (x3).toNatClampNeg) (σ.2.2.1 31 (x3).toNatClampNeg) 0 0 (x2).toNatClampNeg)), σ.2.2.2.1, σ.2.2.2.2)
        refine Wp.run (WpD.mono _) 1 (q := ((2, [some (.inr (.inr (25, 0))), some (.inr (.inr (30, 0))), some (.inl x2), some (.inl (x3 + (1 : Int32)))], []), (σ.1, σ.2.1, (hwR3 σ.2.2.1 31 (x3).toNatClampNeg (va_cpy (σ.2.2.1 26 (x3).toNatClampNeg) (σ.2.2.1 31 (x3).toNatClampNeg) 0 0 (x2).toNatClampNeg)), σ.2.2.2.1, σ.2.2.2.2))) rfl ?_
        exact Wp.jump (WpD.mono _) rfl (ih x2 (x3 + (1 : Int32)) (σ.1, σ.2.1, (hwR3 σ.2.2.1 31 (x3).toNatClampNeg (va_cpy (σ.2.2.1 26 (x3).toNatClampNeg) (σ.2.2.1 31 (x3).toNatClampNeg) 0 0 (x2).toNatClampNeg)), σ.2.2.2.1, σ.2.2.2.2) h)

set_option maxRecDepth 100000 in
set_option maxHeartbeats 4000000 in
theorem T_X3_carry_t25_t30 (e N : Nat)  (a3 : Int32) (σ : Mem) (r : Unit) (τ : Mem) (Q : Pst) (h : F_X3_carry_t25_t30 N a3 σ = some (r, τ)) (hQ : Q (none) τ) : WpD (e + 1) mX3_carry [.inr (.inr (25, 0)), .inr (.inr (30, 0)), .inl a3] σ Q := by
  refine WpD.of (d := e + 0) (Nat.le_of_ble_eq_true rfl) (Nat.le_of_ble_eq_true rfl) ?_
  show Wp (WpD (e + 0)) hcX3_carry Q (0, [some (.inr (.inr (25, 0))), some (.inr (.inr (30, 0))), some (.inl a3), none], []) σ
  unfold F_X3_carry_t25_t30 at h
  refine Wp.run (WpD.mono _) 1 (q := ((2, [some (.inr (.inr (25, 0))), some (.inr (.inr (30, 0))), some (.inl a3), some (.inl (0 : Int32))], []), σ)) rfl ?_
  exact Wp.jump (WpD.mono _) rfl ((T_X3_carry_t25_t30_b2 e N  r τ Q hQ  N) a3 (0 : Int32) σ h)

set_option maxRecDepth 100000 in
set_option maxHeartbeats 4000000 in
theorem T_X3_carry_t56_t32_b2 (e N : Nat)   (r : Unit) (τ : Mem) (Q : Pst) (hQ : Q (none) τ) : ∀ n, ∀ (x2 : Int32) (x3 : Int32) (σ : Mem), F_X3_carry_t56_t32_b2 N n x2 x3 σ = some (r, τ) → Wp (WpD (e + 0)) hcX3_carry Q (2, [some (.inr (.inr (56, 0))), some (.inr (.inr (32, 0))), some (.inl x2), some (.inl x3)], []) σ := by
  intro n
  induction n with
  | zero => intro x2 x3 σ h; cases h
  | succ n ih =>
    intro x2 x3 σ h
    unfold F_X3_carry_t56_t32_b2 at h
    refine Wp.run (WpD.mono _) 2 (q := ((5, [some (.inr (.inr (56, 0))), some (.inr (.inr (32, 0))), some (.inl x2), some (.inl x3)], [.inl (4 : Int32), .inl x3]), σ)) rfl ?_
    refine Wp.if2_ge (WpD.mono _) rfl rfl (fun hc => ?_) (fun hc => ?_)
    · have h := (if_pos hc).symm.trans h
      show Wp (WpD (e + 0)) hcX3_carry Q (32, [some (.inr (.inr (56, 0))), some (.inr (.inr (32, 0))), some (.inl x2), some (.inl x3)], []) σ
      obtain ⟨rfl, rfl⟩ := ret_inj h
      exact Wp.ret (WpD.mono _) rfl hQ
    · have h := (if_neg hc).symm.trans h
      show Wp (WpD (e + 0)) hcX3_carry Q (8, [some (.inr (.inr (56, 0))), some (.inr (.inr (32, 0))), some (.inl x2), some (.inl x3)], []) σ
      refine Wp.run (WpD.mono _) 2 (q := ((11, [some (.inr (.inr (56, 0))), some (.inr (.inr (32, 0))), some (.inl x2), some (.inl x3)], [.inl (4 : Int32), .inl x3]), σ)) rfl ?_
      refine Wp.if2_ge (WpD.mono _) rfl rfl (fun hc => ?_) (fun hc => ?_)
      · have h := (if_pos hc).symm.trans h
        show Wp (WpD (e + 0)) hcX3_carry Q (32, [some (.inr (.inr (56, 0))), some (.inr (.inr (32, 0))), some (.inl x2), some (.inl x3)], []) σ
        obtain ⟨rfl, rfl⟩ := ret_inj h
        exact Wp.ret (WpD.mono _) rfl hQ
      · have h := (if_neg hc).symm.trans h
        show Wp (WpD (e + 0)) hcX3_carry Q (14, [some (.inr (.inr (56, 0))), some (.inr (.inr (32, 0))), some (.inl x2), some (.inl x3)], []) σ
        refine Wp.run (WpD.mono _) 1 (q := ((16, [some (.inr (.inr (56, 0))), some (.inr (.inr (32, 0))), some (.inl x2), some (.inl x3)], [.inl x3, .inr (.inr (56, 0))]), σ)) rfl ?_
        obtain ⟨hc, h⟩ := ite_nn h
        refine Wp.X_rld4 (WpD.mono _) rfl rfl hc ?_
        show Wp (WpD (e + 0)) hcX3_carry Q (17, [some (.inr (.inr (56, 0))), some (.inr (.inr (32, 0))), some (.inl x2), some (.inl x3)], [.inr (.inr (57, (x3).toNatClampNeg))]) σ
        refine Wp.run (WpD.mono _) 2 (q := ((20, [some (.inr (.inr (56, 0))), some (.inr (.inr (32, 0))), some (.inl x2), some (.inl x3)], [.inl x3, .inr (.inr (32, 0)), .inl (0 : Int32), .inr (.inr (57, (x3).toNatClampNeg))]), σ)) rfl ?_
        obtain ⟨hc, h⟩ := ite_nn h
        refine Wp.X_rld4 (WpD.mono _) rfl rfl hc ?_
        show Wp (WpD (e + 0)) hcX3_carry Q (21, [some (.inr (.inr (56, 0))), some (.inr (.inr (32, 0))), some (.inl x2), some (.inl x3)], [.inr (.inr (33, (x3).toNatClampNeg)), .inl (0 : Int32), .inr (.inr (57, (x3).toNatClampNeg))]) σ
        refine Wp.run (WpD.mono _) 1 (q := ((23, [some (.inr (.inr (56, 0))), some (.inr (.inr (32, 0))), some (.inl x2), some (.inl x3)], [.inl x2, .inl (0 : Int32), .inr (.inr (33, (x3).toNatClampNeg)), .inl (0 : Int32), .inr (.inr (57, (x3).toNatClampNeg))]), σ)) rfl ?_
        obtain ⟨hc, h⟩ := ite_nn h
        refine Wp.X_cpyI (WpD.mono _) rfl rfl rfl rfl hc ?_
        show Wp (WpD (e + 0)) hcX3_carry Q (26, [some (.inr (.inr (56, 0))), some (.inr (.inr (32, 0))), some (.inl x2), some (.inl x3)], []) (σ.1, σ.2.1, (hwR3 σ.2.2.1 33 (x3).toNatClampNeg (va_cpy (σ.2.2.1 57 (x3).toNatClampNeg) (σ.2.2.1 33 (x3).toNatClampNeg) 0 0 (x2).toNatClampNeg)), σ.2.2.2.1, σ.2.2.2.2)
        refine Wp.run (WpD.mono _) 1 (q := ((2, [some (.inr (.inr (56, 0))), some (.inr (.inr (32, 0))), some (.inl x2), some (.inl (x3 + (1 : Int32)))], []), (σ.1, σ.2.1, (hwR3 σ.2.2.1 33 (x3).toNatClampNeg (va_cpy (σ.2.2.1 57 (x3).toNatClampNeg) (σ.2.2.1 33 (x3).toNatClampNeg) 0 0 (x2).toNatClampNeg)), σ.2.2.2.1, σ.2.2.2.2))) rfl ?_
        exact Wp.jump (WpD.mono _) rfl (ih x2 (x3 + (1 : Int32)) (σ.1, σ.2.1, (hwR3 σ.2.2.1 33 (x3).toNatClampNeg (va_cpy (σ.2.2.1 57 (x3).toNatClampNeg) (σ.2.2.1 33 (x3).toNatClampNeg) 0 0 (x2).toNatClampNeg)), σ.2.2.2.1, σ.2.2.2.2) h)

set_option maxRecDepth 100000 in
set_option maxHeartbeats 4000000 in
theorem T_X3_carry_t56_t32 (e N : Nat)  (a3 : Int32) (σ : Mem) (r : Unit) (τ : Mem) (Q : Pst) (h : F_X3_carry_t56_t32 N a3 σ = some (r, τ)) (hQ : Q (none) τ) : WpD (e + 1) mX3_carry [.inr (.inr (56, 0)), .inr (.inr (32, 0)), .inl a3] σ Q := by
  refine WpD.of (d := e + 0) (Nat.le_of_ble_eq_true rfl) (Nat.le_of_ble_eq_true rfl) ?_
  show Wp (WpD (e + 0)) hcX3_carry Q (0, [some (.inr (.inr (56, 0))), some (.inr (.inr (32, 0))), some (.inl a3), none], []) σ
  unfold F_X3_carry_t56_t32 at h
  refine Wp.run (WpD.mono _) 1 (q := ((2, [some (.inr (.inr (56, 0))), some (.inr (.inr (32, 0))), some (.inl a3), some (.inl (0 : Int32))], []), σ)) rfl ?_
  exact Wp.jump (WpD.mono _) rfl ((T_X3_carry_t56_t32_b2 e N  r τ Q hQ  N) a3 (0 : Int32) σ h)

set_option maxRecDepth 100000 in
set_option maxHeartbeats 4000000 in
theorem T_X3_carry_t60_t36_b2 (e N : Nat)   (r : Unit) (τ : Mem) (Q : Pst) (hQ : Q (none) τ) : ∀ n, ∀ (x2 : Int32) (x3 : Int32) (σ : Mem), F_X3_carry_t60_t36_b2 N n x2 x3 σ = some (r, τ) → Wp (WpD (e + 0)) hcX3_carry Q (2, [some (.inr (.inr (60, 0))), some (.inr (.inr (36, 0))), some (.inl x2), some (.inl x3)], []) σ := by
  intro n
  induction n with
  | zero => intro x2 x3 σ h; cases h
  | succ n ih =>
    intro x2 x3 σ h
    unfold F_X3_carry_t60_t36_b2 at h
    refine Wp.run (WpD.mono _) 2 (q := ((5, [some (.inr (.inr (60, 0))), some (.inr (.inr (36, 0))), some (.inl x2), some (.inl x3)], [.inl (4 : Int32), .inl x3]), σ)) rfl ?_
    refine Wp.if2_ge (WpD.mono _) rfl rfl (fun hc => ?_) (fun hc => ?_)
    · have h := (if_pos hc).symm.trans h
      show Wp (WpD (e + 0)) hcX3_carry Q (32, [some (.inr (.inr (60, 0))), some (.inr (.inr (36, 0))), some (.inl x2), some (.inl x3)], []) σ
      obtain ⟨rfl, rfl⟩ := ret_inj h
      exact Wp.ret (WpD.mono _) rfl hQ
    · have h := (if_neg hc).symm.trans h
      show Wp (WpD (e + 0)) hcX3_carry Q (8, [some (.inr (.inr (60, 0))), some (.inr (.inr (36, 0))), some (.inl x2), some (.inl x3)], []) σ
      refine Wp.run (WpD.mono _) 2 (q := ((11, [some (.inr (.inr (60, 0))), some (.inr (.inr (36, 0))), some (.inl x2), some (.inl x3)], [.inl (4 : Int32), .inl x3]), σ)) rfl ?_
      refine Wp.if2_ge (WpD.mono _) rfl rfl (fun hc => ?_) (fun hc => ?_)
      · have h := (if_pos hc).symm.trans h
        show Wp (WpD (e + 0)) hcX3_carry Q (32, [some (.inr (.inr (60, 0))), some (.inr (.inr (36, 0))), some (.inl x2), some (.inl x3)], []) σ
        obtain ⟨rfl, rfl⟩ := ret_inj h
        exact Wp.ret (WpD.mono _) rfl hQ
      · have h := (if_neg hc).symm.trans h
        show Wp (WpD (e + 0)) hcX3_carry Q (14, [some (.inr (.inr (60, 0))), some (.inr (.inr (36, 0))), some (.inl x2), some (.inl x3)], []) σ
        refine Wp.run (WpD.mono _) 1 (q := ((16, [some (.inr (.inr (60, 0))), some (.inr (.inr (36, 0))), some (.inl x2), some (.inl x3)], [.inl x3, .inr (.inr (60, 0))]), σ)) rfl ?_
        obtain ⟨hc, h⟩ := ite_nn h
        refine Wp.X_rld4 (WpD.mono _) rfl rfl hc ?_
        show Wp (WpD (e + 0)) hcX3_carry Q (17, [some (.inr (.inr (60, 0))), some (.inr (.inr (36, 0))), some (.inl x2), some (.inl x3)], [.inr (.inr (61, (x3).toNatClampNeg))]) σ
        refine Wp.run (WpD.mono _) 2 (q := ((20, [some (.inr (.inr (60, 0))), some (.inr (.inr (36, 0))), some (.inl x2), some (.inl x3)], [.inl x3, .inr (.inr (36, 0)), .inl (0 : Int32), .inr (.inr (61, (x3).toNatClampNeg))]), σ)) rfl ?_
        obtain ⟨hc, h⟩ := ite_nn h
        refine Wp.X_rld4 (WpD.mono _) rfl rfl hc ?_
        show Wp (WpD (e + 0)) hcX3_carry Q (21, [some (.inr (.inr (60, 0))), some (.inr (.inr (36, 0))), some (.inl x2), some (.inl x3)], [.inr (.inr (37, (x3).toNatClampNeg)), .inl (0 : Int32), .inr (.inr (61, (x3).toNatClampNeg))]) σ
        refine Wp.run (WpD.mono _) 1 (q := ((23, [some (.inr (.inr (60, 0))), some (.inr (.inr (36, 0))), some (.inl x2), some (.inl x3)], [.inl x2, .inl (0 : Int32), .inr (.inr (37, (x3).toNatClampNeg)), .inl (0 : Int32), .inr (.inr (61, (x3).toNatClampNeg))]), σ)) rfl ?_
        obtain ⟨hc, h⟩ := ite_nn h
        refine Wp.X_cpyI (WpD.mono _) rfl rfl rfl rfl hc ?_
        show Wp (WpD (e + 0)) hcX3_carry Q (26, [some (.inr (.inr (60, 0))), some (.inr (.inr (36, 0))), some (.inl x2), some (.inl x3)], []) (σ.1, σ.2.1, (hwR3 σ.2.2.1 37 (x3).toNatClampNeg (va_cpy (σ.2.2.1 61 (x3).toNatClampNeg) (σ.2.2.1 37 (x3).toNatClampNeg) 0 0 (x2).toNatClampNeg)), σ.2.2.2.1, σ.2.2.2.2)
        refine Wp.run (WpD.mono _) 1 (q := ((2, [some (.inr (.inr (60, 0))), some (.inr (.inr (36, 0))), some (.inl x2), some (.inl (x3 + (1 : Int32)))], []), (σ.1, σ.2.1, (hwR3 σ.2.2.1 37 (x3).toNatClampNeg (va_cpy (σ.2.2.1 61 (x3).toNatClampNeg) (σ.2.2.1 37 (x3).toNatClampNeg) 0 0 (x2).toNatClampNeg)), σ.2.2.2.1, σ.2.2.2.2))) rfl ?_
        exact Wp.jump (WpD.mono _) rfl (ih x2 (x3 + (1 : Int32)) (σ.1, σ.2.1, (hwR3 σ.2.2.1 37 (x3).toNatClampNeg (va_cpy (σ.2.2.1 61 (x3).toNatClampNeg) (σ.2.2.1 37 (x3).toNatClampNeg) 0 0 (x2).toNatClampNeg)), σ.2.2.2.1, σ.2.2.2.2) h)

set_option maxRecDepth 100000 in
set_option maxHeartbeats 4000000 in
theorem T_X3_carry_t60_t36 (e N : Nat)  (a3 : Int32) (σ : Mem) (r : Unit) (τ : Mem) (Q : Pst) (h : F_X3_carry_t60_t36 N a3 σ = some (r, τ)) (hQ : Q (none) τ) : WpD (e + 1) mX3_carry [.inr (.inr (60, 0)), .inr (.inr (36, 0)), .inl a3] σ Q := by
  refine WpD.of (d := e + 0) (Nat.le_of_ble_eq_true rfl) (Nat.le_of_ble_eq_true rfl) ?_
  show Wp (WpD (e + 0)) hcX3_carry Q (0, [some (.inr (.inr (60, 0))), some (.inr (.inr (36, 0))), some (.inl a3), none], []) σ
  unfold F_X3_carry_t60_t36 at h
  refine Wp.run (WpD.mono _) 1 (q := ((2, [some (.inr (.inr (60, 0))), some (.inr (.inr (36, 0))), some (.inl a3), some (.inl (0 : Int32))], []), σ)) rfl ?_
  exact Wp.jump (WpD.mono _) rfl ((T_X3_carry_t60_t36_b2 e N  r τ Q hQ  N) a3 (0 : Int32) σ h)

set_option maxRecDepth 100000 in
set_option maxHeartbeats 4000000 in
theorem T_X3_keep_b96 (e N : Nat)   (r : Unit) (τ : Mem) (Q : Pst) (hQ : Q (none) τ) : ∀ n, ∀ (x2 : Int32) (σ : Mem), F_X3_keep_b96 N n x2 σ = some (r, τ) → Wp (WpD (e + 1)) hcX3_keep Q (96, [some (.inr (.inr (11, 0))), none, some (.inl x2)], []) σ := by
  intro n
  induction n with
  | zero => intro x2 σ h; cases h
  | succ n ih =>
    intro x2 σ h
    unfold F_X3_keep_b96 at h
    refine Wp.run (WpD.mono _) 1 (q := ((98, [some (.inr (.inr (11, 0))), none, some (.inl x2)], [.inl (4 : Int32), .inl x2]), σ)) rfl ?_
    refine Wp.if2_ge (WpD.mono _) rfl rfl (fun hc => ?_) (fun hc => ?_)
    · have h := (if_pos hc).symm.trans h
      show Wp (WpD (e + 1)) hcX3_keep Q (137, [some (.inr (.inr (11, 0))), none, some (.inl x2)], []) σ
      obtain ⟨rfl, rfl⟩ := ret_inj h
      exact Wp.ret (WpD.mono _) rfl hQ
    · have h := (if_neg hc).symm.trans h
      show Wp (WpD (e + 1)) hcX3_keep Q (101, [some (.inr (.inr (11, 0))), none, some (.inl x2)], []) σ
      refine Wp.run (WpD.mono _) 6 (q := ((114, [some (.inr (.inr (11, 0))), none, some (.inl x2)], [.inl x2, .inr (.inr (58, 0)), .inl x2, .inr (.inr (34, 0))]), σ)) rfl ?_
      obtain ⟨hc, h⟩ := ite_nn h
      refine Wp.X_ild1 (WpD.mono _) rfl rfl hc ?_
      show Wp (WpD (e + 1)) hcX3_keep Q (115, [some (.inr (.inr (11, 0))), none, some (.inl x2)], [.inl (σ.2.2.1 58 0 (x2).toNatClampNeg), .inl x2, .inr (.inr (34, 0))]) σ
      obtain ⟨hc, h⟩ := ite_nn h
      refine Wp.X_ist (WpD.mono _) rfl rfl hc ?_
      show Wp (WpD (e + 1)) hcX3_keep Q (116, [some (.inr (.inr (11, 0))), none, some (.inl x2)], []) (σ.1, σ.2.1, (hwU3 σ.2.2.1 34 0 (x2).toNatClampNeg (σ.2.2.1 58 0 (x2).toNatClampNeg)), σ.2.2.2.1, σ.2.2.2.2)
      refine Wp.run (WpD.mono _) 6 (q := ((129, [some (.inr (.inr (11, 0))), none, some (.inl x2)], [.inl x2, .inr (.inr (59, 0)), .inl x2, .inr (.inr (35, 0))]), (σ.1, σ.2.1, (hwU3 σ.2.2.1 34 0 (x2).toNatClampNeg (σ.2.2.1 58 0 (x2).toNatClampNeg)), σ.2.2.2.1, σ.2.2.2.2))) rfl ?_
      obtain ⟨hc, h⟩ := ite_nn h
      refine Wp.X_zld (WpD.mono _) rfl rfl hc ?_
      show Wp (WpD (e + 1)) hcX3_keep Q (130, [some (.inr (.inr (11, 0))), none, some (.inl x2)], [.inl (σ.2.2.1 59 0 (x2).toNatClampNeg), .inl x2, .inr (.inr (35, 0))]) (σ.1, σ.2.1, (hwU3 σ.2.2.1 34 0 (x2).toNatClampNeg (σ.2.2.1 58 0 (x2).toNatClampNeg)), σ.2.2.2.1, σ.2.2.2.2)
      obtain ⟨hc, h⟩ := ite_nn h
      refine Wp.X_zst (WpD.mono _) rfl rfl hc ?_
      show Wp (WpD (e + 1)) hcX3_keep Q (131, [some (.inr (.inr (11, 0))), none, some (.inl x2)], []) (σ.1, σ.2.1, (hwU3 (hwU3 σ.2.2.1 34 0 (x2).toNatClampNeg (σ.2.2.1 58 0 (x2).toNatClampNeg)) 35 0 (x2).toNatClampNeg (vp_nar .boolean (σ.2.2.1 59 0 (x2).toNatClampNeg))), σ.2.2.2.1, σ.2.2.2.2)
      refine Wp.run (WpD.mono _) 1 (q := ((96, [some (.inr (.inr (11, 0))), none, some (.inl (x2 + (1 : Int32)))], []), (σ.1, σ.2.1, (hwU3 (hwU3 σ.2.2.1 34 0 (x2).toNatClampNeg (σ.2.2.1 58 0 (x2).toNatClampNeg)) 35 0 (x2).toNatClampNeg (vp_nar .boolean (σ.2.2.1 59 0 (x2).toNatClampNeg))), σ.2.2.2.1, σ.2.2.2.2))) rfl ?_
      exact Wp.jump (WpD.mono _) rfl (ih (x2 + (1 : Int32)) (σ.1, σ.2.1, (hwU3 (hwU3 σ.2.2.1 34 0 (x2).toNatClampNeg (σ.2.2.1 58 0 (x2).toNatClampNeg)) 35 0 (x2).toNatClampNeg (vp_nar .boolean (σ.2.2.1 59 0 (x2).toNatClampNeg))), σ.2.2.2.1, σ.2.2.2.2) h)

set_option maxRecDepth 100000 in
set_option maxHeartbeats 4000000 in
theorem T_X3_keep (e N : Nat)  (a1 : Int32) (σ : Mem) (r : Unit) (τ : Mem) (Q : Pst) (h : F_X3_keep N a1 σ = some (r, τ)) (hQ : Q (none) τ) : WpD (e + 2) mX3_keep [.inr (.inr (11, 0)), .inl a1] σ Q := by
  refine WpD.of (d := e + 1) (Nat.le_of_ble_eq_true rfl) (Nat.le_of_ble_eq_true rfl) ?_
  show Wp (WpD (e + 1)) hcX3_keep Q (0, [some (.inr (.inr (11, 0))), some (.inl a1), none], []) σ
  unfold F_X3_keep at h
  refine Wp.run (WpD.mono _) 30 (q := ((61, [some (.inr (.inr (11, 0))), some (.inl a1), none], [.inl (5 : Int32), .inr (.inr (30, 0)), .inr (.inr (25, 0))]), ((hwU2 (hwU2 (hwU2 (hwU2 σ.1 11 11 (1 : Int32)) 11 10 a1) 11 8 (σ.1 1 6)) 11 9 (σ.1 4 5)), σ.2.1, (hwR3 σ.2.2.1 29 0 (va_cpy (σ.2.2.1 28 0) (σ.2.2.1 29 0) 0 0 5)), σ.2.2.2.1, σ.2.2.2.2))) rfl ?_
  obtain ⟨q1, hb, h⟩ := bind_some h
  refine Wp.call (WpD.mono _) rfl (T_X3_carry_t25_t30 (e + 0) N (5 : Int32) ((hwU2 (hwU2 (hwU2 (hwU2 σ.1 11 11 (1 : Int32)) 11 10 a1) 11 8 (σ.1 1 6)) 11 9 (σ.1 4 5)), σ.2.1, (hwR3 σ.2.2.1 29 0 (va_cpy (σ.2.2.1 28 0) (σ.2.2.1 29 0) 0 0 5)), σ.2.2.2.1, σ.2.2.2.2) _ _ _ hb ?_)
  show Wp (WpD (e + 1)) hcX3_keep Q (64, [some (.inr (.inr (11, 0))), some (.inl a1), none], []) q1.2
  refine Wp.run (WpD.mono _) 5 (q := ((76, [some (.inr (.inr (11, 0))), some (.inl a1), none], [.inl (5 : Int32), .inr (.inr (32, 0)), .inr (.inr (56, 0))]), q1.2)) rfl ?_
  obtain ⟨q2, hb, h⟩ := bind_some h
  refine Wp.call (WpD.mono _) rfl (T_X3_carry_t56_t32 (e + 0) N (5 : Int32) q1.2 _ _ _ hb ?_)
  show Wp (WpD (e + 1)) hcX3_keep Q (79, [some (.inr (.inr (11, 0))), some (.inl a1), none], []) q2.2
  refine Wp.run (WpD.mono _) 5 (q := ((91, [some (.inr (.inr (11, 0))), some (.inl a1), none], [.inl (4 : Int32), .inr (.inr (36, 0)), .inr (.inr (60, 0))]), q2.2)) rfl ?_
  obtain ⟨q3, hb, h⟩ := bind_some h
  refine Wp.call (WpD.mono _) rfl (T_X3_carry_t60_t36 (e + 0) N (4 : Int32) q2.2 _ _ _ hb ?_)
  show Wp (WpD (e + 1)) hcX3_keep Q (94, [some (.inr (.inr (11, 0))), some (.inl a1), none], []) q3.2
  refine Wp.run (WpD.mono _) 1 (q := ((96, [some (.inr (.inr (11, 0))), some (.inl a1), some (.inl (0 : Int32))], []), q3.2)) rfl ?_
  exact Wp.jump (WpD.mono _) rfl ((T_X3_keep_b96 e N  r τ Q hQ  N) (0 : Int32) q3.2 h)

set_option maxRecDepth 100000 in
set_option maxHeartbeats 4000000 in
theorem T_X11_image (e N : Nat)   (σ : Mem) (r : Int32) (τ : Mem) (Q : Pst) (h : F_X11_image N  σ = some (r, τ)) (hQ : Q (some (.inl r)) τ) : WpD (e + 3) mX11_image [.inr (.inr (0, 0))] σ Q := by
  refine WpD.of (d := e + 2) (Nat.le_of_ble_eq_true rfl) (Nat.le_of_ble_eq_true rfl) ?_
  show Wp (WpD (e + 2)) hcX11_image Q (0, [some (.inr (.inr (0, 0)))], []) σ
  unfold F_X11_image at h
  refine Wp.run (WpD.mono _) 4 (q := ((11, [some (.inr (.inr (0, 0)))], [.inl (σ.1 2 10), .inr (.inr (11, 0))]), σ)) rfl ?_
  obtain ⟨q1, hb, h⟩ := bind_some h
  refine Wp.call (WpD.mono _) rfl (T_X3_keep (e + 0) N (σ.1 2 10) σ _ _ _ hb ?_)
  show Wp (WpD (e + 2)) hcX11_image Q (14, [some (.inr (.inr (0, 0)))], []) q1.2
  refine Wp.run (WpD.mono _) 2 (q := ((21, [some (.inr (.inr (0, 0)))], [.inl (q1.2.1 4 5)]), q1.2)) rfl ?_
  obtain ⟨rfl, rfl⟩ := ret_inj h
  exact Wp.ret (WpD.mono _) rfl hQ

set_option maxRecDepth 100000 in
set_option maxHeartbeats 4000000 in
theorem T_X6_leastWorth_b24 (e N : Nat)   (r : Int32) (τ : Mem) (Q : Pst) (hQ : Q (some (.inl r)) τ) : ∀ n, ∀ (x1 : Int32) (x2 : Int32) (x3 : Int32) (x4 : Int32) (σ : Mem), F_X6_leastWorth_b24 N n x1 x2 x3 x4 σ = some (r, τ) → Wp (WpD (e + 12)) hcX6_leastWorth Q (24, [some (.inr (.inr (8, 0))), some (.inl x1), some (.inl x2), some (.inl x3), some (.inl x4), none], []) σ := by
  intro n
  induction n with
  | zero => intro x1 x2 x3 x4 σ h; cases h
  | succ n ih =>
    intro x1 x2 x3 x4 σ h
    unfold F_X6_leastWorth_b24 at h
    refine Wp.run (WpD.mono _) 1 (q := ((28, [some (.inr (.inr (8, 0))), some (.inl x1), some (.inl x2), some (.inl x3), some (.inl x4), none], [.inl (32 : Int32), .inl x4]), σ)) rfl ?_
    refine Wp.if2_ge (WpD.mono _) rfl rfl (fun hc => ?_) (fun hc => ?_)
    · have h := (if_pos hc).symm.trans h
      show Wp (WpD (e + 12)) hcX6_leastWorth Q (72, [some (.inr (.inr (8, 0))), some (.inl x1), some (.inl x2), some (.inl x3), some (.inl x4), none], []) σ
      refine Wp.run (WpD.mono _) 0 (q := ((73, [none, none, some (.inl x2), none, none, none], [.inl x2]), σ)) rfl ?_
      obtain ⟨rfl, rfl⟩ := ret_inj h
      exact Wp.ret (WpD.mono _) rfl hQ
    · have h := (if_neg hc).symm.trans h
      show Wp (WpD (e + 12)) hcX6_leastWorth Q (31, [some (.inr (.inr (8, 0))), some (.inl x1), some (.inl x2), some (.inl x3), some (.inl x4), none], []) σ
      refine Wp.run (WpD.mono _) 1 (q := ((33, [some (.inr (.inr (8, 0))), some (.inl x1), some (.inl x2), some (.inl x3), some (.inl x4), none], [.inl x3, .inl x2]), σ)) rfl ?_
      refine Wp.if2_ge (WpD.mono _) rfl rfl (fun hc => ?_) (fun hc => ?_)
      · have h := (if_pos hc).symm.trans h
        show Wp (WpD (e + 12)) hcX6_leastWorth Q (72, [some (.inr (.inr (8, 0))), some (.inl x1), some (.inl x2), some (.inl x3), some (.inl x4), none], []) σ
        refine Wp.run (WpD.mono _) 0 (q := ((73, [none, none, some (.inl x2), none, none, none], [.inl x2]), σ)) rfl ?_
        obtain ⟨rfl, rfl⟩ := ret_inj h
        exact Wp.ret (WpD.mono _) rfl hQ
      · have h := (if_neg hc).symm.trans h
        show Wp (WpD (e + 12)) hcX6_leastWorth Q (36, [some (.inr (.inr (8, 0))), some (.inl x1), some (.inl x2), some (.inl x3), some (.inl x4), none], []) σ
        refine Wp.run (WpD.mono _) 8 (q := ((47, [some (.inr (.inr (8, 0))), some (.inl x1), some (.inl x2), some (.inl x3), some (.inl x4), some (.inl ((x2 + x3) / (2 : Int32)))], [.inl ((x2 + x3) / (2 : Int32)), .inl x1, .inr (.inr (8, 0))]), σ)) rfl ?_
        obtain ⟨q2, hb, h⟩ := bind_some h
        refine Wp.call (WpD.mono _) rfl (T_X6_goingOn (e + 0) N x1 ((x2 + x3) / (2 : Int32)) σ _ _ _ hb ?_)
        show Wp (WpD (e + 12)) hcX6_leastWorth Q (50, [some (.inr (.inr (8, 0))), some (.inl x1), some (.inl x2), some (.inl x3), some (.inl x4), some (.inl ((x2 + x3) / (2 : Int32)))], [.inr (.inl q2.1)]) q2.2
        refine Wp.run (WpD.mono _) 1 (q := ((52, [some (.inr (.inr (8, 0))), some (.inl x1), some (.inl x2), some (.inl x3), some (.inl x4), some (.inl ((x2 + x3) / (2 : Int32)))], [.inl (lg_cmp q2.1 (0 : Int64))]), q2.2)) rfl ?_
        refine Wp.if0_le (WpD.mono _) rfl rfl (fun hc => ?_) (fun hc => ?_)
        · have h := (if_pos hc).symm.trans h
          show Wp (WpD (e + 12)) hcX6_leastWorth Q (61, [some (.inr (.inr (8, 0))), some (.inl x1), some (.inl x2), some (.inl x3), some (.inl x4), some (.inl ((x2 + x3) / (2 : Int32)))], []) q2.2
          refine Wp.run (WpD.mono _) 5 (q := ((24, [some (.inr (.inr (8, 0))), some (.inl x1), some (.inl (((x2 + x3) / (2 : Int32)) + (1 : Int32))), some (.inl x3), some (.inl (x4 + (1 : Int32))), none], []), q2.2)) rfl ?_
          exact Wp.jump (WpD.mono _) rfl (ih x1 (((x2 + x3) / (2 : Int32)) + (1 : Int32)) x3 (x4 + (1 : Int32)) q2.2 h)
        · have h := (if_neg hc).symm.trans h
          show Wp (WpD (e + 12)) hcX6_leastWorth Q (55, [some (.inr (.inr (8, 0))), some (.inl x1), some (.inl x2), some (.inl x3), some (.inl x4), some (.inl ((x2 + x3) / (2 : Int32)))], []) q2.2
          refine Wp.run (WpD.mono _) 4 (q := ((24, [some (.inr (.inr (8, 0))), some (.inl x1), some (.inl x2), some (.inl ((x2 + x3) / (2 : Int32))), some (.inl (x4 + (1 : Int32))), none], []), q2.2)) rfl ?_
          exact Wp.jump (WpD.mono _) rfl (ih x1 x2 ((x2 + x3) / (2 : Int32)) (x4 + (1 : Int32)) q2.2 h)

set_option maxRecDepth 100000 in
set_option maxHeartbeats 4000000 in
theorem T_X6_leastWorth (e N : Nat)  (a1 : Int32) (σ : Mem) (r : Int32) (τ : Mem) (Q : Pst) (h : F_X6_leastWorth N a1 σ = some (r, τ)) (hQ : Q (some (.inl r)) τ) : WpD (e + 13) mX6_leastWorth [.inr (.inr (8, 0)), .inl a1] σ Q := by
  refine WpD.of (d := e + 12) (Nat.le_of_ble_eq_true rfl) (Nat.le_of_ble_eq_true rfl) ?_
  show Wp (WpD (e + 12)) hcX6_leastWorth Q (0, [some (.inr (.inr (8, 0))), some (.inl a1), none, none, none, none], []) σ
  unfold F_X6_leastWorth at h
  refine Wp.run (WpD.mono _) 2 (q := ((5, [some (.inr (.inr (8, 0))), some (.inl a1), none, none, none, none], [.inl (9999 : Int32), .inl a1, .inr (.inr (8, 0))]), σ)) rfl ?_
  obtain ⟨q1, hb, h⟩ := bind_some h
  refine Wp.call (WpD.mono _) rfl (T_X6_goingOn (e + 0) N a1 (9999 : Int32) σ _ _ _ hb ?_)
  show Wp (WpD (e + 12)) hcX6_leastWorth Q (8, [some (.inr (.inr (8, 0))), some (.inl a1), none, none, none, none], [.inr (.inl q1.1)]) q1.2
  refine Wp.run (WpD.mono _) 1 (q := ((10, [some (.inr (.inr (8, 0))), some (.inl a1), none, none, none, none], [.inl (lg_cmp q1.1 (0 : Int64))]), q1.2)) rfl ?_
  refine Wp.if0_gt (WpD.mono _) rfl rfl (fun hc => ?_) (fun hc => ?_)
  · have h := (if_pos hc).symm.trans h
    show Wp (WpD (e + 12)) hcX6_leastWorth Q (15, [some (.inr (.inr (8, 0))), some (.inl a1), none, none, none, none], []) q1.2
    refine Wp.run (WpD.mono _) 5 (q := ((24, [some (.inr (.inr (8, 0))), some (.inl a1), some (.inl (0 : Int32)), some (.inl (9999 : Int32)), some (.inl (0 : Int32)), none], []), q1.2)) rfl ?_
    exact Wp.jump (WpD.mono _) rfl ((T_X6_leastWorth_b24 e N  r τ Q hQ  N) a1 (0 : Int32) (9999 : Int32) (0 : Int32) q1.2 h)
  · have h := (if_neg hc).symm.trans h
    show Wp (WpD (e + 12)) hcX6_leastWorth Q (13, [some (.inr (.inr (8, 0))), some (.inl a1), none, none, none, none], []) q1.2
    refine Wp.run (WpD.mono _) 0 (q := ((14, [some (.inr (.inr (8, 0))), some (.inl a1), none, none, none, none], [.inl (Int32.ofInt (-1))]), q1.2)) rfl ?_
    obtain ⟨rfl, rfl⟩ := ret_inj h
    exact Wp.ret (WpD.mono _) rfl hQ

set_option maxRecDepth 100000 in
set_option maxHeartbeats 4000000 in
theorem T_X11_index (e N : Nat)  (a1 : Int32) (σ : Mem) (r : Int32) (τ : Mem) (Q : Pst) (h : F_X11_index N a1 σ = some (r, τ)) (hQ : Q (some (.inl r)) τ) : WpD (e + 14) mX11_index [.inr (.inr (0, 0)), .inl a1] σ Q := by
  refine WpD.of (d := e + 13) (Nat.le_of_ble_eq_true rfl) (Nat.le_of_ble_eq_true rfl) ?_
  show Wp (WpD (e + 13)) hcX11_index Q (0, [some (.inr (.inr (0, 0))), some (.inl a1), none], []) σ
  unfold F_X11_index at h
  refine Wp.run (WpD.mono _) 1 (q := ((2, [some (.inr (.inr (0, 0))), some (.inl a1), none], [.inl a1, .inr (.inr (0, 0))]), σ)) rfl ?_
  obtain ⟨q1, hb, h⟩ := bind_some h
  refine Wp.call (WpD.mono _) rfl (T_X11_isPlace (e + 11) N a1 σ _ _ _ hb ?_)
  show Wp (WpD (e + 13)) hcX11_index Q (5, [some (.inr (.inr (0, 0))), some (.inl a1), none], [.inl q1.1]) q1.2
  refine Wp.if0_ne (WpD.mono _) rfl rfl (fun hc => ?_) (fun hc => ?_)
  · have h := (if_pos hc).symm.trans h
    show Wp (WpD (e + 13)) hcX11_index Q (8, [some (.inr (.inr (0, 0))), some (.inl a1), none], []) q1.2
    refine Wp.run (WpD.mono _) 0 (q := ((10, [some (.inr (.inr (0, 0))), some (.inl a1), none], [.inl (Int32.ofInt (-5))]), q1.2)) rfl ?_
    obtain ⟨rfl, rfl⟩ := ret_inj h
    exact Wp.ret (WpD.mono _) rfl hQ
  · have h := (if_neg hc).symm.trans h
    show Wp (WpD (e + 13)) hcX11_index Q (11, [some (.inr (.inr (0, 0))), some (.inl a1), none], []) q1.2
    refine Wp.run (WpD.mono _) 2 (q := ((16, [some (.inr (.inr (0, 0))), some (.inl a1), none], [.inl a1, .inr (.inr (8, 0))]), q1.2)) rfl ?_
    obtain ⟨q2, hb, h⟩ := bind_some h
    refine Wp.call (WpD.mono _) rfl (T_X6_openYard (e + 9) N a1 q1.2 _ _ _ hb ?_)
    show Wp (WpD (e + 13)) hcX11_index Q (19, [some (.inr (.inr (0, 0))), some (.inl a1), none], [.inl q2.1]) q2.2
    refine Wp.run (WpD.mono _) 1 (q := ((21, [some (.inr (.inr (0, 0))), some (.inl a1), some (.inl q2.1)], [.inl q2.1]), q2.2)) rfl ?_
    refine Wp.if0_ne (WpD.mono _) rfl rfl (fun hc => ?_) (fun hc => ?_)
    · have h := (if_pos hc).symm.trans h
      show Wp (WpD (e + 13)) hcX11_index Q (24, [some (.inr (.inr (0, 0))), some (.inl a1), some (.inl q2.1)], []) q2.2
      refine Wp.run (WpD.mono _) 1 (q := ((37, [some (.inr (.inr (0, 0))), some (.inl a1), some (.inl q2.1)], [.inl (Int32.ofInt (-3))]), q2.2)) rfl ?_
      obtain ⟨rfl, rfl⟩ := ret_inj h
      exact Wp.ret (WpD.mono _) rfl hQ
    · have h := (if_neg hc).symm.trans h
      show Wp (WpD (e + 13)) hcX11_index Q (29, [some (.inr (.inr (0, 0))), some (.inl a1), some (.inl q2.1)], []) q2.2
      refine Wp.run (WpD.mono _) 2 (q := ((34, [some (.inr (.inr (0, 0))), some (.inl a1), some (.inl q2.1)], [.inl q2.1, .inr (.inr (8, 0))]), q2.2)) rfl ?_
      obtain ⟨q3, hb, h⟩ := bind_some h
      refine Wp.call (WpD.mono _) rfl (T_X6_leastWorth (e + 0) N q2.1 q2.2 _ _ _ hb ?_)
      show Wp (WpD (e + 13)) hcX11_index Q (37, [some (.inr (.inr (0, 0))), some (.inl a1), some (.inl q2.1)], [.inl q3.1]) q3.2
      obtain ⟨rfl, rfl⟩ := ret_inj h
      exact Wp.ret (WpD.mono _) rfl hQ

set_option maxRecDepth 100000 in
set_option maxHeartbeats 4000000 in
theorem T_X1_all (e N : Nat)   (σ : Mem) (r : Int32) (τ : Mem) (Q : Pst) (h : F_X1_all N  σ = some (r, τ)) (hQ : Q (some (.inl r)) τ) : WpD (e + 1) mX1_all [.inr (.inr (7, 0))] σ Q := by
  refine WpD.of (d := e + 0) (Nat.le_of_ble_eq_true rfl) (Nat.le_of_ble_eq_true rfl) ?_
  show Wp (WpD (e + 0)) hcX1_all Q (0, [some (.inr (.inr (7, 0)))], []) σ
  unfold F_X1_all at h
  refine Wp.run (WpD.mono _) 5 (q := ((8, [some (.inr (.inr (7, 0)))], [.inl (((1 : Int32) <<< ((σ.1 7 2) &&& 31)) - (1 : Int32))]), σ)) rfl ?_
  obtain ⟨rfl, rfl⟩ := ret_inj h
  exact Wp.ret (WpD.mono _) rfl hQ

set_option maxRecDepth 100000 in
set_option maxHeartbeats 4000000 in
theorem T_X1_has (e N : Nat)  (a1 : Int32) (a2 : Int32) (σ : Mem) (r : Int32) (τ : Mem) (Q : Pst) (h : F_X1_has N a1 a2 σ = some (r, τ)) (hQ : Q (some (.inl r)) τ) : WpD (e + 1) mX1_has [.inl a1, .inl a2] σ Q := by
  refine WpD.of (d := e + 0) (Nat.le_of_ble_eq_true rfl) (Nat.le_of_ble_eq_true rfl) ?_
  show Wp (WpD (e + 0)) hcX1_has Q (0, [some (.inl a1), some (.inl a2)], []) σ
  unfold F_X1_has at h
  refine Wp.run (WpD.mono _) 5 (q := ((6, [some (.inl a1), some (.inl a2)], [.inl (1 : Int32), .inl ((a1 >>> (a2 &&& 31)) &&& (1 : Int32))]), σ)) rfl ?_
  refine Wp.if2_ne (WpD.mono _) rfl rfl (fun hc => ?_) (fun hc => ?_)
  · have h := (if_pos hc).symm.trans h
    show Wp (WpD (e + 0)) hcX1_has Q (9, [some (.inl a1), some (.inl a2)], []) σ
    refine Wp.run (WpD.mono _) 1 (q := ((14, [some (.inl a1), some (.inl a2)], [.inl (1 : Int32)]), σ)) rfl ?_
    obtain ⟨rfl, rfl⟩ := ret_inj h
    exact Wp.ret (WpD.mono _) rfl hQ
  · have h := (if_neg hc).symm.trans h
    show Wp (WpD (e + 0)) hcX1_has Q (13, [some (.inl a1), some (.inl a2)], []) σ
    refine Wp.run (WpD.mono _) 0 (q := ((14, [some (.inl a1), some (.inl a2)], [.inl (0 : Int32)]), σ)) rfl ?_
    obtain ⟨rfl, rfl⟩ := ret_inj h
    exact Wp.ret (WpD.mono _) rfl hQ

set_option maxRecDepth 100000 in
set_option maxHeartbeats 4000000 in
theorem T_X1_given_t69_b5 (e N : Nat)   (r : Int32) (τ : Mem) (Q : Pst) (hQ : Q (some (.inl r)) τ) : ∀ n, ∀ (x1 : Nat) (x2 : Int32) (x3 : Int32) (x4 : Int32) (σ : Mem), F_X1_given_t69_b5 N n x1 x2 x3 x4 σ = some (r, τ) → Wp (WpD (e + 1)) hcX1_given Q (5, [some (.inr (.inr (7, 0))), some (.inr (.inr (69, x1))), some (.inl x2), some (.inl x3), some (.inl x4)], []) σ := by
  intro n
  induction n with
  | zero => intro x1 x2 x3 x4 σ h; cases h
  | succ n ih =>
    intro x1 x2 x3 x4 σ h
    unfold F_X1_given_t69_b5 at h
    refine Wp.run (WpD.mono _) 2 (q := ((11, [some (.inr (.inr (7, 0))), some (.inr (.inr (69, x1))), some (.inl x2), some (.inl x3), some (.inl x4)], [.inl (σ.1 7 2), .inl x4]), σ)) rfl ?_
    refine Wp.if2_ge (WpD.mono _) rfl rfl (fun hc => ?_) (fun hc => ?_)
    · have h := (if_pos hc).symm.trans h
      show Wp (WpD (e + 1)) hcX1_given Q (43, [some (.inr (.inr (7, 0))), some (.inr (.inr (69, x1))), some (.inl x2), some (.inl x3), some (.inl x4)], []) σ
      refine Wp.run (WpD.mono _) 0 (q := ((44, [none, none, none, some (.inl x3), none], [.inl x3]), σ)) rfl ?_
      obtain ⟨rfl, rfl⟩ := ret_inj h
      exact Wp.ret (WpD.mono _) rfl hQ
    · have h := (if_neg hc).symm.trans h
      show Wp (WpD (e + 1)) hcX1_given Q (14, [some (.inr (.inr (7, 0))), some (.inr (.inr (69, x1))), some (.inl x2), some (.inl x3), some (.inl x4)], []) σ
      refine Wp.run (WpD.mono _) 2 (q := ((18, [some (.inr (.inr (7, 0))), some (.inr (.inr (69, x1))), some (.inl x2), some (.inl x3), some (.inl x4)], [.inl (40 : Int32), .inl x4]), σ)) rfl ?_
      refine Wp.if2_ge (WpD.mono _) rfl rfl (fun hc => ?_) (fun hc => ?_)
      · have h := (if_pos hc).symm.trans h
        show Wp (WpD (e + 1)) hcX1_given Q (43, [some (.inr (.inr (7, 0))), some (.inr (.inr (69, x1))), some (.inl x2), some (.inl x3), some (.inl x4)], []) σ
        refine Wp.run (WpD.mono _) 0 (q := ((44, [none, none, none, some (.inl x3), none], [.inl x3]), σ)) rfl ?_
        obtain ⟨rfl, rfl⟩ := ret_inj h
        exact Wp.ret (WpD.mono _) rfl hQ
      · have h := (if_neg hc).symm.trans h
        show Wp (WpD (e + 1)) hcX1_given Q (21, [some (.inr (.inr (7, 0))), some (.inr (.inr (69, x1))), some (.inl x2), some (.inl x3), some (.inl x4)], []) σ
        refine Wp.run (WpD.mono _) 1 (q := ((24, [some (.inr (.inr (7, 0))), some (.inr (.inr (69, x1))), some (.inl x2), some (.inl x3), some (.inl x4)], [.inl x4, .inl x2]), σ)) rfl ?_
        obtain ⟨q1, hb, h⟩ := bind_some h
        refine Wp.call (WpD.mono _) rfl (T_X1_has (e + 0) N x2 x4 σ _ _ _ hb ?_)
        show Wp (WpD (e + 1)) hcX1_given Q (27, [some (.inr (.inr (7, 0))), some (.inr (.inr (69, x1))), some (.inl x2), some (.inl x3), some (.inl x4)], [.inl q1.1]) q1.2
        refine Wp.if0_eq (WpD.mono _) rfl rfl (fun hc => ?_) (fun hc => ?_)
        · have h := (if_pos hc).symm.trans h
          show Wp (WpD (e + 1)) hcX1_given Q (37, [some (.inr (.inr (7, 0))), some (.inr (.inr (69, x1))), some (.inl x2), some (.inl x3), some (.inl x4)], []) q1.2
          refine Wp.run (WpD.mono _) 1 (q := ((5, [some (.inr (.inr (7, 0))), some (.inr (.inr (69, x1))), some (.inl x2), some (.inl x3), some (.inl (x4 + (1 : Int32)))], []), q1.2)) rfl ?_
          exact Wp.jump (WpD.mono _) rfl (ih x1 x2 x3 (x4 + (1 : Int32)) q1.2 h)
        · have h := (if_neg hc).symm.trans h
          show Wp (WpD (e + 1)) hcX1_given Q (30, [some (.inr (.inr (7, 0))), some (.inr (.inr (69, x1))), some (.inl x2), some (.inl x3), some (.inl x4)], []) q1.2
          refine Wp.run (WpD.mono _) 2 (q := ((34, [some (.inr (.inr (7, 0))), some (.inr (.inr (69, x1))), some (.inl x2), some (.inl x3), some (.inl x4)], [.inl x4, .inr (.inr (69, x1)), .inl x3]), q1.2)) rfl ?_
          obtain ⟨hc, h⟩ := ite_nn h
          refine Wp.X_ild1 (WpD.mono _) rfl rfl hc ?_
          show Wp (WpD (e + 1)) hcX1_given Q (35, [some (.inr (.inr (7, 0))), some (.inr (.inr (69, x1))), some (.inl x2), some (.inl x3), some (.inl x4)], [.inl (q1.2.2.2.1 69 x1 (x4).toNatClampNeg), .inl x3]) q1.2
          refine Wp.run (WpD.mono _) 3 (q := ((5, [some (.inr (.inr (7, 0))), some (.inr (.inr (69, x1))), some (.inl x2), some (.inl (x3 + (q1.2.2.2.1 69 x1 (x4).toNatClampNeg))), some (.inl (x4 + (1 : Int32)))], []), q1.2)) rfl ?_
          exact Wp.jump (WpD.mono _) rfl (ih x1 x2 (x3 + (q1.2.2.2.1 69 x1 (x4).toNatClampNeg)) (x4 + (1 : Int32)) q1.2 h)

set_option maxRecDepth 100000 in
set_option maxHeartbeats 4000000 in
theorem T_X1_given_t69 (e N : Nat)  (a1 : Nat) (a2 : Int32) (σ : Mem) (r : Int32) (τ : Mem) (Q : Pst) (h : F_X1_given_t69 N a1 a2 σ = some (r, τ)) (hQ : Q (some (.inl r)) τ) : WpD (e + 2) mX1_given [.inr (.inr (7, 0)), .inr (.inr (69, a1)), .inl a2] σ Q := by
  refine WpD.of (d := e + 1) (Nat.le_of_ble_eq_true rfl) (Nat.le_of_ble_eq_true rfl) ?_
  show Wp (WpD (e + 1)) hcX1_given Q (0, [some (.inr (.inr (7, 0))), some (.inr (.inr (69, a1))), some (.inl a2), none, none], []) σ
  unfold F_X1_given_t69 at h
  refine Wp.run (WpD.mono _) 3 (q := ((5, [some (.inr (.inr (7, 0))), some (.inr (.inr (69, a1))), some (.inl a2), some (.inl (0 : Int32)), some (.inl (0 : Int32))], []), σ)) rfl ?_
  exact Wp.jump (WpD.mono _) rfl ((T_X1_given_t69_b5 e N  r τ Q hQ  N) a1 a2 (0 : Int32) (0 : Int32) σ h)

set_option maxRecDepth 100000 in
set_option maxHeartbeats 4000000 in
theorem T_X1_walk_b5 (e N : Nat)   (r : Int32) (τ : Mem) (Q : Pst) (hQ : Q (some (.inl r)) τ) : ∀ n, ∀ (x1 : Int32) (x2 : Int32) (x3 : Int32) (x4 : Int32) (σ : Mem), F_X1_walk_b5 N n x1 x2 x3 x4 σ = some (r, τ) → Wp (WpD (e + 1)) hcX1_walk Q (5, [some (.inr (.inr (7, 0))), some (.inl x1), some (.inl x2), some (.inl x3), some (.inl x4)], []) σ := by
  intro n
  induction n with
  | zero => intro x1 x2 x3 x4 σ h; cases h
  | succ n ih =>
    intro x1 x2 x3 x4 σ h
    unfold F_X1_walk_b5 at h
    refine Wp.run (WpD.mono _) 2 (q := ((11, [some (.inr (.inr (7, 0))), some (.inl x1), some (.inl x2), some (.inl x3), some (.inl x4)], [.inl (σ.1 7 2), .inl x4]), σ)) rfl ?_
    refine Wp.if2_ge (WpD.mono _) rfl rfl (fun hc => ?_) (fun hc => ?_)
    · have h := (if_pos hc).symm.trans h
      show Wp (WpD (e + 1)) hcX1_walk Q (52, [some (.inr (.inr (7, 0))), some (.inl x1), some (.inl x2), some (.inl x3), some (.inl x4)], []) σ
      refine Wp.run (WpD.mono _) 0 (q := ((53, [some (.inr (.inr (7, 0))), some (.inl x1), some (.inl x2), some (.inl x3), some (.inl x4)], [.inl x3]), σ)) rfl ?_
      obtain ⟨rfl, rfl⟩ := ret_inj h
      exact Wp.ret (WpD.mono _) rfl hQ
    · have h := (if_neg hc).symm.trans h
      show Wp (WpD (e + 1)) hcX1_walk Q (14, [some (.inr (.inr (7, 0))), some (.inl x1), some (.inl x2), some (.inl x3), some (.inl x4)], []) σ
      refine Wp.run (WpD.mono _) 1 (q := ((17, [some (.inr (.inr (7, 0))), some (.inl x1), some (.inl x2), some (.inl x3), some (.inl x4)], [.inl x4, .inl x1]), σ)) rfl ?_
      obtain ⟨q1, hb, h⟩ := bind_some h
      refine Wp.call (WpD.mono _) rfl (T_X1_has (e + 0) N x1 x4 σ _ _ _ hb ?_)
      show Wp (WpD (e + 1)) hcX1_walk Q (20, [some (.inr (.inr (7, 0))), some (.inl x1), some (.inl x2), some (.inl x3), some (.inl x4)], [.inl q1.1]) q1.2
      refine Wp.if0_eq (WpD.mono _) rfl rfl (fun hc => ?_) (fun hc => ?_)
      · have h := (if_pos hc).symm.trans h
        show Wp (WpD (e + 1)) hcX1_walk Q (46, [some (.inr (.inr (7, 0))), some (.inl x1), some (.inl x2), some (.inl x3), some (.inl x4)], []) q1.2
        refine Wp.run (WpD.mono _) 1 (q := ((5, [some (.inr (.inr (7, 0))), some (.inl x1), some (.inl x2), some (.inl x3), some (.inl (x4 + (1 : Int32)))], []), q1.2)) rfl ?_
        exact Wp.jump (WpD.mono _) rfl (ih x1 x2 x3 (x4 + (1 : Int32)) q1.2 h)
      · have h := (if_neg hc).symm.trans h
        show Wp (WpD (e + 1)) hcX1_walk Q (23, [some (.inr (.inr (7, 0))), some (.inl x1), some (.inl x2), some (.inl x3), some (.inl x4)], []) q1.2
        refine Wp.run (WpD.mono _) 3 (q := ((30, [some (.inr (.inr (7, 0))), some (.inl x1), some (.inl x2), some (.inl x3), some (.inl x4)], [.inl x4, .inr (.inr (21, 0)), .inl x3]), q1.2)) rfl ?_
        obtain ⟨hc, h⟩ := ite_nn h
        refine Wp.X_ild1 (WpD.mono _) rfl rfl hc ?_
        show Wp (WpD (e + 1)) hcX1_walk Q (31, [some (.inr (.inr (7, 0))), some (.inl x1), some (.inl x2), some (.inl x3), some (.inl x4)], [.inl (q1.2.2.2.1 21 0 (x4).toNatClampNeg), .inl x3]) q1.2
        refine Wp.run (WpD.mono _) 2 (q := ((37, [some (.inr (.inr (7, 0))), some (.inl x1), some (.inl x2), some (.inl x3), some (.inl x4)], [.inl x4, .inr (.inr (20, 0)), .inl (q1.2.2.2.1 21 0 (x4).toNatClampNeg), .inl x3]), q1.2)) rfl ?_
        obtain ⟨hc, h⟩ := ite_nn h
        refine Wp.X_ild1 (WpD.mono _) rfl rfl hc ?_
        show Wp (WpD (e + 1)) hcX1_walk Q (38, [some (.inr (.inr (7, 0))), some (.inl x1), some (.inl x2), some (.inl x3), some (.inl x4)], [.inl (q1.2.2.2.1 20 0 (x4).toNatClampNeg), .inl (q1.2.2.2.1 21 0 (x4).toNatClampNeg), .inl x3]) q1.2
        refine Wp.run (WpD.mono _) 7 (q := ((5, [some (.inr (.inr (7, 0))), some (.inl x1), some (.inl x2), some (.inl (x3 + ((q1.2.2.2.1 21 0 (x4).toNatClampNeg) * (if 0 ≤ ((q1.2.2.2.1 20 0 (x4).toNatClampNeg) - x2) then ((q1.2.2.2.1 20 0 (x4).toNatClampNeg) - x2) else 0 - ((q1.2.2.2.1 20 0 (x4).toNatClampNeg) - x2))))), some (.inl (x4 + (1 : Int32)))], []), q1.2)) rfl ?_
        exact Wp.jump (WpD.mono _) rfl (ih x1 x2 (x3 + ((q1.2.2.2.1 21 0 (x4).toNatClampNeg) * (if 0 ≤ ((q1.2.2.2.1 20 0 (x4).toNatClampNeg) - x2) then ((q1.2.2.2.1 20 0 (x4).toNatClampNeg) - x2) else 0 - ((q1.2.2.2.1 20 0 (x4).toNatClampNeg) - x2)))) (x4 + (1 : Int32)) q1.2 h)

set_option maxRecDepth 100000 in
set_option maxHeartbeats 4000000 in
theorem T_X1_walk (e N : Nat)  (a1 : Int32) (a2 : Int32) (σ : Mem) (r : Int32) (τ : Mem) (Q : Pst) (h : F_X1_walk N a1 a2 σ = some (r, τ)) (hQ : Q (some (.inl r)) τ) : WpD (e + 2) mX1_walk [.inr (.inr (7, 0)), .inl a1, .inl a2] σ Q := by
  refine WpD.of (d := e + 1) (Nat.le_of_ble_eq_true rfl) (Nat.le_of_ble_eq_true rfl) ?_
  show Wp (WpD (e + 1)) hcX1_walk Q (0, [some (.inr (.inr (7, 0))), some (.inl a1), some (.inl a2), none, none], []) σ
  unfold F_X1_walk at h
  refine Wp.run (WpD.mono _) 3 (q := ((5, [some (.inr (.inr (7, 0))), some (.inl a1), some (.inl a2), some (.inl (0 : Int32)), some (.inl (0 : Int32))], []), σ)) rfl ?_
  exact Wp.jump (WpD.mono _) rfl ((T_X1_walk_b5 e N  r τ Q hQ  N) a1 a2 (0 : Int32) (0 : Int32) σ h)

set_option maxRecDepth 100000 in
set_option maxHeartbeats 4000000 in
theorem T_X1_wellOf_b66 (e N : Nat)  (k7 : Int32 → Int32 → Int32 → Int32 → Mem → Option (Int32 × Mem)) (r : Int32) (τ : Mem) (Q : Pst) (hQ : Q (some (.inl r)) τ) (hk7 : ∀ (x1 : Int32) (x2 : Int32) (x3 : Int32) (x4 : Int32) (σ : Mem), k7 x1 x2 x3 x4 σ = some (r, τ) → Wp (WpD (e + 2)) hcX1_wellOf Q (7, [some (.inr (.inr (7, 0))), some (.inl x1), some (.inl x2), some (.inl x3), some (.inl x4), none], []) σ) : ∀ (x1 : Int32) (x4 : Int32) (x5 : Int32) (σ : Mem), F_X1_wellOf_b66 N k7 x1 x4 x5 σ = some (r, τ) → Wp (WpD (e + 2)) hcX1_wellOf Q (66, [some (.inr (.inr (7, 0))), some (.inl x1), none, none, some (.inl x4), some (.inl x5)], []) σ := by
  intro x1 x4 x5 σ h
  unfold F_X1_wellOf_b66 at h
  refine Wp.run (WpD.mono _) 4 (q := ((75, [some (.inr (.inr (7, 0))), some (.inl x1), none, some (.inl x5), some (.inl x4), some (.inl x5)], [.inl x4, .inr (.inr (20, 0))]), σ)) rfl ?_
  obtain ⟨hc, h⟩ := ite_nn h
  refine Wp.X_ild1 (WpD.mono _) rfl rfl hc ?_
  show Wp (WpD (e + 2)) hcX1_wellOf Q (76, [some (.inr (.inr (7, 0))), some (.inl x1), none, some (.inl x5), some (.inl x4), some (.inl x5)], [.inl (σ.2.2.1 20 0 (x4).toNatClampNeg)]) σ
  refine Wp.run (WpD.mono _) 2 (q := ((7, [some (.inr (.inr (7, 0))), some (.inl x1), some (.inl (σ.2.2.1 20 0 (x4).toNatClampNeg)), some (.inl x5), some (.inl (x4 + (1 : Int32))), none], []), σ)) rfl ?_
  exact Wp.jump (WpD.mono _) rfl (hk7 x1 (σ.2.2.1 20 0 (x4).toNatClampNeg) x5 (x4 + (1 : Int32)) σ h)

set_option maxRecDepth 100000 in
set_option maxHeartbeats 4000000 in
theorem T_X1_wellOf_b7 (e N : Nat)   (r : Int32) (τ : Mem) (Q : Pst) (hQ : Q (some (.inl r)) τ) : ∀ n, ∀ (x1 : Int32) (x2 : Int32) (x3 : Int32) (x4 : Int32) (σ : Mem), F_X1_wellOf_b7 N n x1 x2 x3 x4 σ = some (r, τ) → Wp (WpD (e + 2)) hcX1_wellOf Q (7, [some (.inr (.inr (7, 0))), some (.inl x1), some (.inl x2), some (.inl x3), some (.inl x4), none], []) σ := by
  intro n
  induction n with
  | zero => intro x1 x2 x3 x4 σ h; cases h
  | succ n ih =>
    intro x1 x2 x3 x4 σ h
    unfold F_X1_wellOf_b7 at h
    refine Wp.run (WpD.mono _) 2 (q := ((13, [some (.inr (.inr (7, 0))), some (.inl x1), some (.inl x2), some (.inl x3), some (.inl x4), none], [.inl (σ.1 7 2), .inl x4]), σ)) rfl ?_
    refine Wp.if2_ge (WpD.mono _) rfl rfl (fun hc => ?_) (fun hc => ?_)
    · have h := (if_pos hc).symm.trans h
      show Wp (WpD (e + 2)) hcX1_wellOf Q (83, [some (.inr (.inr (7, 0))), some (.inl x1), some (.inl x2), some (.inl x3), some (.inl x4), none], []) σ
      refine Wp.run (WpD.mono _) 0 (q := ((84, [some (.inr (.inr (7, 0))), some (.inl x1), some (.inl x2), some (.inl x3), some (.inl x4), none], [.inl x2]), σ)) rfl ?_
      obtain ⟨rfl, rfl⟩ := ret_inj h
      exact Wp.ret (WpD.mono _) rfl hQ
    · have h := (if_neg hc).symm.trans h
      show Wp (WpD (e + 2)) hcX1_wellOf Q (16, [some (.inr (.inr (7, 0))), some (.inl x1), some (.inl x2), some (.inl x3), some (.inl x4), none], []) σ
      refine Wp.run (WpD.mono _) 1 (q := ((19, [some (.inr (.inr (7, 0))), some (.inl x1), some (.inl x2), some (.inl x3), some (.inl x4), none], [.inl x4, .inl x1]), σ)) rfl ?_
      obtain ⟨q1, hb, h⟩ := bind_some h
      refine Wp.call (WpD.mono _) rfl (T_X1_has (e + 1) N x1 x4 σ _ _ _ hb ?_)
      show Wp (WpD (e + 2)) hcX1_wellOf Q (22, [some (.inr (.inr (7, 0))), some (.inl x1), some (.inl x2), some (.inl x3), some (.inl x4), none], [.inl q1.1]) q1.2
      refine Wp.if0_eq (WpD.mono _) rfl rfl (fun hc => ?_) (fun hc => ?_)
      · have h := (if_pos hc).symm.trans h
        show Wp (WpD (e + 2)) hcX1_wellOf Q (77, [some (.inr (.inr (7, 0))), some (.inl x1), some (.inl x2), some (.inl x3), some (.inl x4), none], []) q1.2
        refine Wp.run (WpD.mono _) 1 (q := ((7, [some (.inr (.inr (7, 0))), some (.inl x1), some (.inl x2), some (.inl x3), some (.inl (x4 + (1 : Int32))), none], []), q1.2)) rfl ?_
        exact Wp.jump (WpD.mono _) rfl (ih x1 x2 x3 (x4 + (1 : Int32)) q1.2 h)
      · have h := (if_neg hc).symm.trans h
        show Wp (WpD (e + 2)) hcX1_wellOf Q (25, [some (.inr (.inr (7, 0))), some (.inl x1), some (.inl x2), some (.inl x3), some (.inl x4), none], []) q1.2
        refine Wp.run (WpD.mono _) 4 (q := ((33, [some (.inr (.inr (7, 0))), some (.inl x1), some (.inl x2), some (.inl x3), some (.inl x4), none], [.inl x4, .inr (.inr (20, 0)), .inl x1, .inr (.inr (7, 0))]), q1.2)) rfl ?_
        obtain ⟨hc, h⟩ := ite_nn h
        refine Wp.X_ild1 (WpD.mono _) rfl rfl hc ?_
        show Wp (WpD (e + 2)) hcX1_wellOf Q (34, [some (.inr (.inr (7, 0))), some (.inl x1), some (.inl x2), some (.inl x3), some (.inl x4), none], [.inl (q1.2.2.2.1 20 0 (x4).toNatClampNeg), .inl x1, .inr (.inr (7, 0))]) q1.2
        obtain ⟨q2, hb, h⟩ := bind_some h
        refine Wp.call (WpD.mono _) rfl (T_X1_walk (e + 0) N x1 (q1.2.2.2.1 20 0 (x4).toNatClampNeg) q1.2 _ _ _ hb ?_)
        show Wp (WpD (e + 2)) hcX1_wellOf Q (37, [some (.inr (.inr (7, 0))), some (.inl x1), some (.inl x2), some (.inl x3), some (.inl x4), none], [.inl q2.1]) q2.2
        refine Wp.run (WpD.mono _) 1 (q := ((40, [some (.inr (.inr (7, 0))), some (.inl x1), some (.inl x2), some (.inl x3), some (.inl x4), some (.inl q2.1)], [.inl x2]), q2.2)) rfl ?_
        refine Wp.if0_lt (WpD.mono _) rfl rfl (fun hc => ?_) (fun hc => ?_)
        · have h := (if_pos hc).symm.trans h
          show Wp (WpD (e + 2)) hcX1_wellOf Q (66, [some (.inr (.inr (7, 0))), some (.inl x1), some (.inl x2), some (.inl x3), some (.inl x4), some (.inl q2.1)], []) q2.2
          exact Wp.jump (WpD.mono _) rfl ((T_X1_wellOf_b66 e N (F_X1_wellOf_b7 N n) r τ Q hQ ih) x1 x4 q2.1 q2.2 h)
        · have h := (if_neg hc).symm.trans h
          show Wp (WpD (e + 2)) hcX1_wellOf Q (43, [some (.inr (.inr (7, 0))), some (.inl x1), some (.inl x2), some (.inl x3), some (.inl x4), some (.inl q2.1)], []) q2.2
          refine Wp.run (WpD.mono _) 1 (q := ((46, [some (.inr (.inr (7, 0))), some (.inl x1), some (.inl x2), some (.inl x3), some (.inl x4), some (.inl q2.1)], [.inl x3, .inl q2.1]), q2.2)) rfl ?_
          refine Wp.if2_lt (WpD.mono _) rfl rfl (fun hc => ?_) (fun hc => ?_)
          · have h := (if_pos hc).symm.trans h
            show Wp (WpD (e + 2)) hcX1_wellOf Q (66, [some (.inr (.inr (7, 0))), some (.inl x1), some (.inl x2), some (.inl x3), some (.inl x4), some (.inl q2.1)], []) q2.2
            exact Wp.jump (WpD.mono _) rfl ((T_X1_wellOf_b66 e N (F_X1_wellOf_b7 N n) r τ Q hQ ih) x1 x4 q2.1 q2.2 h)
          · have h := (if_neg hc).symm.trans h
            show Wp (WpD (e + 2)) hcX1_wellOf Q (49, [some (.inr (.inr (7, 0))), some (.inl x1), some (.inl x2), some (.inl x3), some (.inl x4), some (.inl q2.1)], []) q2.2
            refine Wp.run (WpD.mono _) 1 (q := ((52, [some (.inr (.inr (7, 0))), some (.inl x1), some (.inl x2), some (.inl x3), some (.inl x4), some (.inl q2.1)], [.inl x3, .inl q2.1]), q2.2)) rfl ?_
            refine Wp.if2_ne (WpD.mono _) rfl rfl (fun hc => ?_) (fun hc => ?_)
            · have h := (if_pos hc).symm.trans h
              show Wp (WpD (e + 2)) hcX1_wellOf Q (55, [some (.inr (.inr (7, 0))), some (.inl x1), some (.inl x2), some (.inl x3), some (.inl x4), some (.inl q2.1)], []) q2.2
              refine Wp.run (WpD.mono _) 2 (q := ((61, [some (.inr (.inr (7, 0))), some (.inl x1), some (.inl x2), some (.inl x3), some (.inl x4), some (.inl q2.1)], [.inl x4, .inr (.inr (20, 0))]), q2.2)) rfl ?_
              obtain ⟨hc, h⟩ := ite_nn h
              refine Wp.X_ild1 (WpD.mono _) rfl rfl hc ?_
              show Wp (WpD (e + 2)) hcX1_wellOf Q (62, [some (.inr (.inr (7, 0))), some (.inl x1), some (.inl x2), some (.inl x3), some (.inl x4), some (.inl q2.1)], [.inl (q2.2.2.2.1 20 0 (x4).toNatClampNeg)]) q2.2
              refine Wp.run (WpD.mono _) 0 (q := ((63, [some (.inr (.inr (7, 0))), some (.inl x1), some (.inl x2), some (.inl x3), some (.inl x4), some (.inl q2.1)], [.inl x2, .inl (q2.2.2.2.1 20 0 (x4).toNatClampNeg)]), q2.2)) rfl ?_
              refine Wp.if2_ge (WpD.mono _) rfl rfl (fun hc => ?_) (fun hc => ?_)
              · have h := (if_pos hc).symm.trans h
                show Wp (WpD (e + 2)) hcX1_wellOf Q (77, [some (.inr (.inr (7, 0))), some (.inl x1), some (.inl x2), some (.inl x3), some (.inl x4), some (.inl q2.1)], []) q2.2
                refine Wp.run (WpD.mono _) 1 (q := ((7, [some (.inr (.inr (7, 0))), some (.inl x1), some (.inl x2), some (.inl x3), some (.inl (x4 + (1 : Int32))), none], []), q2.2)) rfl ?_
                exact Wp.jump (WpD.mono _) rfl (ih x1 x2 x3 (x4 + (1 : Int32)) q2.2 h)
              · have h := (if_neg hc).symm.trans h
                show Wp (WpD (e + 2)) hcX1_wellOf Q (66, [some (.inr (.inr (7, 0))), some (.inl x1), some (.inl x2), some (.inl x3), some (.inl x4), some (.inl q2.1)], []) q2.2
                exact Wp.jump (WpD.mono _) rfl ((T_X1_wellOf_b66 e N (F_X1_wellOf_b7 N n) r τ Q hQ ih) x1 x4 q2.1 q2.2 h)
            · have h := (if_neg hc).symm.trans h
              show Wp (WpD (e + 2)) hcX1_wellOf Q (77, [some (.inr (.inr (7, 0))), some (.inl x1), some (.inl x2), some (.inl x3), some (.inl x4), some (.inl q2.1)], []) q2.2
              refine Wp.run (WpD.mono _) 1 (q := ((7, [some (.inr (.inr (7, 0))), some (.inl x1), some (.inl x2), some (.inl x3), some (.inl (x4 + (1 : Int32))), none], []), q2.2)) rfl ?_
              exact Wp.jump (WpD.mono _) rfl (ih x1 x2 x3 (x4 + (1 : Int32)) q2.2 h)

set_option maxRecDepth 100000 in
set_option maxHeartbeats 4000000 in
theorem T_X1_wellOf (e N : Nat)  (a1 : Int32) (σ : Mem) (r : Int32) (τ : Mem) (Q : Pst) (h : F_X1_wellOf N a1 σ = some (r, τ)) (hQ : Q (some (.inl r)) τ) : WpD (e + 3) mX1_wellOf [.inr (.inr (7, 0)), .inl a1] σ Q := by
  refine WpD.of (d := e + 2) (Nat.le_of_ble_eq_true rfl) (Nat.le_of_ble_eq_true rfl) ?_
  show Wp (WpD (e + 2)) hcX1_wellOf Q (0, [some (.inr (.inr (7, 0))), some (.inl a1), none, none, none, none], []) σ
  unfold F_X1_wellOf at h
  refine Wp.run (WpD.mono _) 5 (q := ((7, [some (.inr (.inr (7, 0))), some (.inl a1), some (.inl (Int32.ofInt (-1))), some (.inl (0 : Int32)), some (.inl (0 : Int32)), none], []), σ)) rfl ?_
  exact Wp.jump (WpD.mono _) rfl ((T_X1_wellOf_b7 e N  r τ Q hQ  N) a1 (Int32.ofInt (-1)) (0 : Int32) (0 : Int32) σ h)

set_option maxRecDepth 100000 in
set_option maxHeartbeats 4000000 in
theorem T_X1_leaving_t69_b8 (e N : Nat)   (r : Int32) (τ : Mem) (Q : Pst) (hQ : Q (some (.inl r)) τ) : ∀ n, ∀ (x1 : Nat) (x2 : Int32) (x3 : Int32) (x4 : Int32) (σ : Mem), F_X1_leaving_t69_b8 N n x1 x2 x3 x4 σ = some (r, τ) → Wp (WpD (e + 3)) hcX1_leaving Q (8, [some (.inr (.inr (7, 0))), some (.inr (.inr (69, x1))), some (.inl x2), some (.inl x3), some (.inl x4), none, none], []) σ := by
  intro n
  induction n with
  | zero => intro x1 x2 x3 x4 σ h; cases h
  | succ n ih =>
    intro x1 x2 x3 x4 σ h
    unfold F_X1_leaving_t69_b8 at h
    refine Wp.run (WpD.mono _) 1 (q := ((11, [some (.inr (.inr (7, 0))), some (.inr (.inr (69, x1))), some (.inl x2), some (.inl x3), some (.inl x4), none, none], [.inl x3, .inl x4]), σ)) rfl ?_
    refine Wp.if2_gt (WpD.mono _) rfl rfl (fun hc => ?_) (fun hc => ?_)
    · have h := (if_pos hc).symm.trans h
      show Wp (WpD (e + 3)) hcX1_leaving Q (68, [some (.inr (.inr (7, 0))), some (.inr (.inr (69, x1))), some (.inl x2), some (.inl x3), some (.inl x4), none, none], []) σ
      refine Wp.run (WpD.mono _) 0 (q := ((69, [some (.inr (.inr (7, 0))), some (.inr (.inr (69, x1))), some (.inl x2), some (.inl x3), some (.inl x4), none, none], [.inl (Int32.ofInt (-1))]), σ)) rfl ?_
      obtain ⟨rfl, rfl⟩ := ret_inj h
      exact Wp.ret (WpD.mono _) rfl hQ
    · have h := (if_neg hc).symm.trans h
      show Wp (WpD (e + 3)) hcX1_leaving Q (14, [some (.inr (.inr (7, 0))), some (.inr (.inr (69, x1))), some (.inl x2), some (.inl x3), some (.inl x4), none, none], []) σ
      refine Wp.run (WpD.mono _) 2 (q := ((18, [some (.inr (.inr (7, 0))), some (.inr (.inr (69, x1))), some (.inl x2), some (.inl x3), some (.inl x4), none, none], [.inl x4, .inr (.inr (69, x1)), .inr (.inr (7, 0))]), σ)) rfl ?_
      obtain ⟨q2, hb, h⟩ := bind_some h
      refine Wp.call (WpD.mono _) rfl (T_X1_given_t69 (e + 1) N x1 x4 σ _ _ _ hb ?_)
      show Wp (WpD (e + 3)) hcX1_leaving Q (21, [some (.inr (.inr (7, 0))), some (.inr (.inr (69, x1))), some (.inl x2), some (.inl x3), some (.inl x4), none, none], [.inl q2.1]) q2.2
      refine Wp.run (WpD.mono _) 4 (q := ((29, [some (.inr (.inr (7, 0))), some (.inr (.inr (69, x1))), some (.inl x2), some (.inl x3), some (.inl x4), some (.inl q2.1), none], [.inl x4, .inr (.inr (7, 0)), .inl x4, .inr (.inr (7, 0))]), q2.2)) rfl ?_
      obtain ⟨q3, hb, h⟩ := bind_some h
      refine Wp.call (WpD.mono _) rfl (T_X1_wellOf (e + 0) N x4 q2.2 _ _ _ hb ?_)
      show Wp (WpD (e + 3)) hcX1_leaving Q (32, [some (.inr (.inr (7, 0))), some (.inr (.inr (69, x1))), some (.inl x2), some (.inl x3), some (.inl x4), some (.inl q2.1), none], [.inl q3.1, .inl x4, .inr (.inr (7, 0))]) q3.2
      obtain ⟨q4, hb, h⟩ := bind_some h
      refine Wp.call (WpD.mono _) rfl (T_X1_walk (e + 1) N x4 q3.1 q3.2 _ _ _ hb ?_)
      show Wp (WpD (e + 3)) hcX1_leaving Q (35, [some (.inr (.inr (7, 0))), some (.inr (.inr (69, x1))), some (.inl x2), some (.inl x3), some (.inl x4), some (.inl q2.1), none], [.inl q4.1]) q4.2
      refine Wp.run (WpD.mono _) 4 (q := ((43, [some (.inr (.inr (7, 0))), some (.inr (.inr (69, x1))), some (.inl x2), some (.inl x3), some (.inl x4), some (.inl q2.1), some (.inl (q4.1 + x2))], [.inl (q4.1 + x2), .inl q2.1]), q4.2)) rfl ?_
      refine Wp.if2_gt (WpD.mono _) rfl rfl (fun hc => ?_) (fun hc => ?_)
      · have h := (if_pos hc).symm.trans h
        show Wp (WpD (e + 3)) hcX1_leaving Q (59, [some (.inr (.inr (7, 0))), some (.inr (.inr (69, x1))), some (.inl x2), some (.inl x3), some (.inl x4), some (.inl q2.1), some (.inl (q4.1 + x2))], []) q4.2
        refine Wp.run (WpD.mono _) 0 (q := ((61, [none, none, none, none, some (.inl x4), none, none], [.inl x4]), q4.2)) rfl ?_
        obtain ⟨rfl, rfl⟩ := ret_inj h
        exact Wp.ret (WpD.mono _) rfl hQ
      · have h := (if_neg hc).symm.trans h
        show Wp (WpD (e + 3)) hcX1_leaving Q (46, [some (.inr (.inr (7, 0))), some (.inr (.inr (69, x1))), some (.inl x2), some (.inl x3), some (.inl x4), some (.inl q2.1), some (.inl (q4.1 + x2))], []) q4.2
        refine Wp.run (WpD.mono _) 1 (q := ((49, [some (.inr (.inr (7, 0))), some (.inr (.inr (69, x1))), some (.inl x2), some (.inl x3), some (.inl x4), some (.inl q2.1), some (.inl (q4.1 + x2))], [.inl x3, .inl x4]), q4.2)) rfl ?_
        refine Wp.if2_ne (WpD.mono _) rfl rfl (fun hc => ?_) (fun hc => ?_)
        · have h := (if_pos hc).symm.trans h
          show Wp (WpD (e + 3)) hcX1_leaving Q (52, [some (.inr (.inr (7, 0))), some (.inr (.inr (69, x1))), some (.inl x2), some (.inl x3), some (.inl x4), some (.inl q2.1), some (.inl (q4.1 + x2))], []) q4.2
          refine Wp.run (WpD.mono _) 1 (q := ((56, [some (.inr (.inr (7, 0))), some (.inr (.inr (69, x1))), some (.inl x2), some (.inl x3), some (.inl x4), some (.inl q2.1), some (.inl (q4.1 + x2))], [.inl (q4.1 + x2), .inl q2.1]), q4.2)) rfl ?_
          refine Wp.if2_ge (WpD.mono _) rfl rfl (fun hc => ?_) (fun hc => ?_)
          · have h := (if_pos hc).symm.trans h
            show Wp (WpD (e + 3)) hcX1_leaving Q (62, [some (.inr (.inr (7, 0))), some (.inr (.inr (69, x1))), some (.inl x2), some (.inl x3), some (.inl x4), some (.inl q2.1), some (.inl (q4.1 + x2))], []) q4.2
            refine Wp.run (WpD.mono _) 1 (q := ((8, [some (.inr (.inr (7, 0))), some (.inr (.inr (69, x1))), some (.inl x2), some (.inl x3), some (.inl (x4 + (1 : Int32))), none, none], []), q4.2)) rfl ?_
            exact Wp.jump (WpD.mono _) rfl (ih x1 x2 x3 (x4 + (1 : Int32)) q4.2 h)
          · have h := (if_neg hc).symm.trans h
            show Wp (WpD (e + 3)) hcX1_leaving Q (59, [some (.inr (.inr (7, 0))), some (.inr (.inr (69, x1))), some (.inl x2), some (.inl x3), some (.inl x4), some (.inl q2.1), some (.inl (q4.1 + x2))], []) q4.2
            refine Wp.run (WpD.mono _) 0 (q := ((61, [none, none, none, none, some (.inl x4), none, none], [.inl x4]), q4.2)) rfl ?_
            obtain ⟨rfl, rfl⟩ := ret_inj h
            exact Wp.ret (WpD.mono _) rfl hQ
        · have h := (if_neg hc).symm.trans h
          show Wp (WpD (e + 3)) hcX1_leaving Q (62, [some (.inr (.inr (7, 0))), some (.inr (.inr (69, x1))), some (.inl x2), some (.inl x3), some (.inl x4), some (.inl q2.1), some (.inl (q4.1 + x2))], []) q4.2
          refine Wp.run (WpD.mono _) 1 (q := ((8, [some (.inr (.inr (7, 0))), some (.inr (.inr (69, x1))), some (.inl x2), some (.inl x3), some (.inl (x4 + (1 : Int32))), none, none], []), q4.2)) rfl ?_
          exact Wp.jump (WpD.mono _) rfl (ih x1 x2 x3 (x4 + (1 : Int32)) q4.2 h)

set_option maxRecDepth 100000 in
set_option maxHeartbeats 4000000 in
theorem T_X1_leaving_t69 (e N : Nat)  (a1 : Nat) (a2 : Int32) (σ : Mem) (r : Int32) (τ : Mem) (Q : Pst) (h : F_X1_leaving_t69 N a1 a2 σ = some (r, τ)) (hQ : Q (some (.inl r)) τ) : WpD (e + 4) mX1_leaving [.inr (.inr (7, 0)), .inr (.inr (69, a1)), .inl a2] σ Q := by
  refine WpD.of (d := e + 3) (Nat.le_of_ble_eq_true rfl) (Nat.le_of_ble_eq_true rfl) ?_
  show Wp (WpD (e + 3)) hcX1_leaving Q (0, [some (.inr (.inr (7, 0))), some (.inr (.inr (69, a1))), some (.inl a2), none, none, none, none], []) σ
  unfold F_X1_leaving_t69 at h
  refine Wp.run (WpD.mono _) 0 (q := ((1, [some (.inr (.inr (7, 0))), some (.inr (.inr (69, a1))), some (.inl a2), none, none, none, none], [.inr (.inr (7, 0))]), σ)) rfl ?_
  obtain ⟨q1, hb, h⟩ := bind_some h
  refine Wp.call (WpD.mono _) rfl (T_X1_all (e + 2) N σ _ _ _ hb ?_)
  show Wp (WpD (e + 3)) hcX1_leaving Q (4, [some (.inr (.inr (7, 0))), some (.inr (.inr (69, a1))), some (.inl a2), none, none, none, none], [.inl q1.1]) q1.2
  refine Wp.run (WpD.mono _) 2 (q := ((8, [some (.inr (.inr (7, 0))), some (.inr (.inr (69, a1))), some (.inl a2), some (.inl q1.1), some (.inl (1 : Int32)), none, none], []), q1.2)) rfl ?_
  exact Wp.jump (WpD.mono _) rfl ((T_X1_leaving_t69_b8 e N  r τ Q hQ  N) a1 a2 q1.1 (1 : Int32) q1.2 h)

set_option maxRecDepth 100000 in
set_option maxHeartbeats 4000000 in
theorem T_X4_costsOf_b4 (e N : Nat)   (r : Int32) (τ : Mem) (Q : Pst) (hQ : Q (some (.inl r)) τ) : ∀ n, ∀ (x1 : Int32) (x2 : Int32) (x3 : Int32) (σ : Mem), F_X4_costsOf_b4 N n x1 x2 x3 σ = some (r, τ) → Wp (WpD (e + 0)) hcX4_costsOf Q (4, [some (.inr (.inr (2, 0))), some (.inl x1), some (.inl x2), some (.inl x3)], []) σ := by
  intro n
  induction n with
  | zero => intro x1 x2 x3 σ h; cases h
  | succ n ih =>
    intro x1 x2 x3 σ h
    unfold F_X4_costsOf_b4 at h
    refine Wp.run (WpD.mono _) 1 (q := ((6, [some (.inr (.inr (2, 0))), some (.inl x1), some (.inl x2), some (.inl x3)], [.inl x1, .inl x3]), σ)) rfl ?_
    refine Wp.if2_gt (WpD.mono _) rfl rfl (fun hc => ?_) (fun hc => ?_)
    · have h := (if_pos hc).symm.trans h
      show Wp (WpD (e + 0)) hcX4_costsOf Q (29, [some (.inr (.inr (2, 0))), some (.inl x1), some (.inl x2), some (.inl x3)], []) σ
      refine Wp.run (WpD.mono _) 0 (q := ((30, [none, none, some (.inl x2), none], [.inl x2]), σ)) rfl ?_
      obtain ⟨rfl, rfl⟩ := ret_inj h
      exact Wp.ret (WpD.mono _) rfl hQ
    · have h := (if_neg hc).symm.trans h
      show Wp (WpD (e + 0)) hcX4_costsOf Q (9, [some (.inr (.inr (2, 0))), some (.inl x1), some (.inl x2), some (.inl x3)], []) σ
      refine Wp.run (WpD.mono _) 1 (q := ((11, [some (.inr (.inr (2, 0))), some (.inl x1), some (.inl x2), some (.inl x3)], [.inl (5 : Int32), .inl x3]), σ)) rfl ?_
      refine Wp.if2_gt (WpD.mono _) rfl rfl (fun hc => ?_) (fun hc => ?_)
      · have h := (if_pos hc).symm.trans h
        show Wp (WpD (e + 0)) hcX4_costsOf Q (29, [some (.inr (.inr (2, 0))), some (.inl x1), some (.inl x2), some (.inl x3)], []) σ
        refine Wp.run (WpD.mono _) 0 (q := ((30, [none, none, some (.inl x2), none], [.inl x2]), σ)) rfl ?_
        obtain ⟨rfl, rfl⟩ := ret_inj h
        exact Wp.ret (WpD.mono _) rfl hQ
      · have h := (if_neg hc).symm.trans h
        show Wp (WpD (e + 0)) hcX4_costsOf Q (14, [some (.inr (.inr (2, 0))), some (.inl x1), some (.inl x2), some (.inl x3)], []) σ
        refine Wp.run (WpD.mono _) 3 (q := ((20, [some (.inr (.inr (2, 0))), some (.inl x1), some (.inl x2), some (.inl x3)], [.inl x3, .inr (.inr (42, 0)), .inl x2]), σ)) rfl ?_
        obtain ⟨hc, h⟩ := ite_nn h
        refine Wp.X_ild1 (WpD.mono _) rfl rfl hc ?_
        show Wp (WpD (e + 0)) hcX4_costsOf Q (21, [some (.inr (.inr (2, 0))), some (.inl x1), some (.inl x2), some (.inl x3)], [.inl (σ.2.2.1 42 0 (x3).toNatClampNeg), .inl x2]) σ
        refine Wp.run (WpD.mono _) 3 (q := ((4, [some (.inr (.inr (2, 0))), some (.inl x1), some (.inl (x2 + (σ.2.2.1 42 0 (x3).toNatClampNeg))), some (.inl (x3 + (1 : Int32)))], []), σ)) rfl ?_
        exact Wp.jump (WpD.mono _) rfl (ih x1 (x2 + (σ.2.2.1 42 0 (x3).toNatClampNeg)) (x3 + (1 : Int32)) σ h)

set_option maxRecDepth 100000 in
set_option maxHeartbeats 4000000 in
theorem T_X4_costsOf (e N : Nat)  (a1 : Int32) (σ : Mem) (r : Int32) (τ : Mem) (Q : Pst) (h : F_X4_costsOf N a1 σ = some (r, τ)) (hQ : Q (some (.inl r)) τ) : WpD (e + 1) mX4_costsOf [.inr (.inr (2, 0)), .inl a1] σ Q := by
  refine WpD.of (d := e + 0) (Nat.le_of_ble_eq_true rfl) (Nat.le_of_ble_eq_true rfl) ?_
  show Wp (WpD (e + 0)) hcX4_costsOf Q (0, [some (.inr (.inr (2, 0))), some (.inl a1), none, none], []) σ
  unfold F_X4_costsOf at h
  refine Wp.run (WpD.mono _) 3 (q := ((4, [some (.inr (.inr (2, 0))), some (.inl a1), some (.inl (0 : Int32)), some (.inl (1 : Int32))], []), σ)) rfl ?_
  exact Wp.jump (WpD.mono _) rfl ((T_X4_costsOf_b4 e N  r τ Q hQ  N) a1 (0 : Int32) (1 : Int32) σ h)

set_option maxRecDepth 100000 in
set_option maxHeartbeats 4000000 in
theorem T_X11_join (e N : Nat)  (a1 : Int32) (a2 : Int32) (σ : Mem) (r : Int32) (τ : Mem) (Q : Pst) (h : F_X11_join N a1 a2 σ = some (r, τ)) (hQ : Q (some (.inl r)) τ) : WpD (e + 5) mX11_join [.inr (.inr (0, 0)), .inl a1, .inl a2] σ Q := by
  refine WpD.of (d := e + 4) (Nat.le_of_ble_eq_true rfl) (Nat.le_of_ble_eq_true rfl) ?_
  show Wp (WpD (e + 4)) hcX11_join Q (0, [some (.inr (.inr (0, 0))), some (.inl a1), some (.inl a2)], []) σ
  unfold F_X11_join at h
  refine Wp.run (WpD.mono _) 0 (q := ((1, [some (.inr (.inr (0, 0))), some (.inl a1), some (.inl a2)], [.inl a1]), σ)) rfl ?_
  obtain ⟨q1, hb, h⟩ := bind_some h
  refine Wp.call (WpD.mono _) rfl (T_X11_isSheet (e + 2) N a1 σ _ _ _ hb ?_)
  show Wp (WpD (e + 4)) hcX11_join Q (4, [some (.inr (.inr (0, 0))), some (.inl a1), some (.inl a2)], [.inl q1.1]) q1.2
  refine Wp.if0_eq (WpD.mono _) rfl rfl (fun hc => ?_) (fun hc => ?_)
  · have h := (if_pos hc).symm.trans h
    show Wp (WpD (e + 4)) hcX11_join Q (16, [some (.inr (.inr (0, 0))), some (.inl a1), some (.inl a2)], []) q1.2
    refine Wp.run (WpD.mono _) 0 (q := ((18, [none, none, none], [.inl (Int32.ofInt (-2))]), q1.2)) rfl ?_
    obtain ⟨rfl, rfl⟩ := ret_inj h
    exact Wp.ret (WpD.mono _) rfl hQ
  · have h := (if_neg hc).symm.trans h
    show Wp (WpD (e + 4)) hcX11_join Q (7, [some (.inr (.inr (0, 0))), some (.inl a1), some (.inl a2)], []) q1.2
    refine Wp.run (WpD.mono _) 2 (q := ((10, [some (.inr (.inr (0, 0))), some (.inl a1), some (.inl a2)], [.inl (5 : Int32), .inl (1 : Int32), .inl a2]), q1.2)) rfl ?_
    obtain ⟨q2, hb, h⟩ := bind_some h
    refine Wp.call (WpD.mono _) rfl (T_X11_within (e + 3) N a2 (1 : Int32) (5 : Int32) q1.2 _ _ _ hb ?_)
    show Wp (WpD (e + 4)) hcX11_join Q (13, [some (.inr (.inr (0, 0))), some (.inl a1), some (.inl a2)], [.inl q2.1]) q2.2
    refine Wp.if0_ne (WpD.mono _) rfl rfl (fun hc => ?_) (fun hc => ?_)
    · have h := (if_pos hc).symm.trans h
      show Wp (WpD (e + 4)) hcX11_join Q (16, [some (.inr (.inr (0, 0))), some (.inl a1), some (.inl a2)], []) q2.2
      refine Wp.run (WpD.mono _) 0 (q := ((18, [none, none, none], [.inl (Int32.ofInt (-2))]), q2.2)) rfl ?_
      obtain ⟨rfl, rfl⟩ := ret_inj h
      exact Wp.ret (WpD.mono _) rfl hQ
    · have h := (if_neg hc).symm.trans h
      show Wp (WpD (e + 4)) hcX11_join Q (19, [some (.inr (.inr (0, 0))), some (.inl a1), some (.inl a2)], []) q2.2
      refine Wp.run (WpD.mono _) 2 (q := ((24, [some (.inr (.inr (0, 0))), some (.inl a1), some (.inl a2)], [.inl a1, .inr (.inr (5, 0))]), q2.2)) rfl ?_
      obtain ⟨q3, hb, h⟩ := bind_some h
      refine Wp.call (WpD.mono _) rfl (T_X10_isMissing (e + 3) N a1 q2.2 _ _ _ hb ?_)
      show Wp (WpD (e + 4)) hcX11_join Q (27, [some (.inr (.inr (0, 0))), some (.inl a1), some (.inl a2)], [.inl q3.1]) q3.2
      refine Wp.if0_eq (WpD.mono _) rfl rfl (fun hc => ?_) (fun hc => ?_)
      · have h := (if_pos hc).symm.trans h
        show Wp (WpD (e + 4)) hcX11_join Q (33, [some (.inr (.inr (0, 0))), some (.inl a1), some (.inl a2)], []) q3.2
        refine Wp.run (WpD.mono _) 3 (q := ((41, [some (.inr (.inr (0, 0))), some (.inl a1), some (.inl a2)], [.inl a1, .inr (.inr (71, 0))]), q3.2)) rfl ?_
        obtain ⟨hc, h⟩ := ite_nn h
        refine Wp.X_ild1 (WpD.mono _) rfl rfl hc ?_
        show Wp (WpD (e + 4)) hcX11_join Q (42, [some (.inr (.inr (0, 0))), some (.inl a1), some (.inl a2)], [.inl (q3.2.2.2.1 71 0 (a1).toNatClampNeg)]) q3.2
        refine Wp.run (WpD.mono _) 2 (q := ((49, [some (.inr (.inr (0, 0))), some (.inl a1), some (.inl a2)], [.inl (q3.2.1 7 2), .inl (q3.2.2.2.1 71 0 (a1).toNatClampNeg)]), q3.2)) rfl ?_
        refine Wp.if2_ne (WpD.mono _) rfl rfl (fun hc => ?_) (fun hc => ?_)
        · have h := (if_pos hc).symm.trans h
          show Wp (WpD (e + 4)) hcX11_join Q (52, [some (.inr (.inr (0, 0))), some (.inl a1), some (.inl a2)], []) q3.2
          refine Wp.run (WpD.mono _) 4 (q := ((61, [some (.inr (.inr (0, 0))), some (.inl a1), some (.inl a2)], [.inl (999999 : Int32), .inl (0 : Int32), .inl a1, .inr (.inr (5, 0))]), q3.2)) rfl ?_
          obtain ⟨q4, hb, h⟩ := bind_some h
          refine Wp.call (WpD.mono _) rfl (T_X10_allWithin (e + 2) N a1 (0 : Int32) (999999 : Int32) q3.2 _ _ _ hb ?_)
          show Wp (WpD (e + 4)) hcX11_join Q (64, [some (.inr (.inr (0, 0))), some (.inl a1), some (.inl a2)], [.inl q4.1]) q4.2
          refine Wp.if0_ne (WpD.mono _) rfl rfl (fun hc => ?_) (fun hc => ?_)
          · have h := (if_pos hc).symm.trans h
            show Wp (WpD (e + 4)) hcX11_join Q (67, [some (.inr (.inr (0, 0))), some (.inl a1), some (.inl a2)], []) q4.2
            refine Wp.run (WpD.mono _) 0 (q := ((69, [none, none, none], [.inl (Int32.ofInt (-2))]), q4.2)) rfl ?_
            obtain ⟨rfl, rfl⟩ := ret_inj h
            exact Wp.ret (WpD.mono _) rfl hQ
          · have h := (if_neg hc).symm.trans h
            show Wp (WpD (e + 4)) hcX11_join Q (70, [some (.inr (.inr (0, 0))), some (.inl a1), some (.inl a2)], []) q4.2
            refine Wp.run (WpD.mono _) 5 (q := ((82, [some (.inr (.inr (0, 0))), some (.inl a1), some (.inl a2)], [.inl a1, .inr (.inr (68, 0)), .inr (.inr (7, 0))]), q4.2)) rfl ?_
            obtain ⟨hc, h⟩ := ite_nn h
            refine Wp.X_rld4 (WpD.mono _) rfl rfl hc ?_
            show Wp (WpD (e + 4)) hcX11_join Q (83, [some (.inr (.inr (0, 0))), some (.inl a1), some (.inl a2)], [.inr (.inr (69, (a1).toNatClampNeg)), .inr (.inr (7, 0))]) q4.2
            refine Wp.run (WpD.mono _) 2 (q := ((88, [some (.inr (.inr (0, 0))), some (.inl a1), some (.inl a2)], [.inl a2, .inr (.inr (2, 0)), .inr (.inr (69, (a1).toNatClampNeg)), .inr (.inr (7, 0))]), q4.2)) rfl ?_
            obtain ⟨q5, hb, h⟩ := bind_some h
            refine Wp.call (WpD.mono _) rfl (T_X4_costsOf (e + 3) N a2 q4.2 _ _ _ hb ?_)
            show Wp (WpD (e + 4)) hcX11_join Q (91, [some (.inr (.inr (0, 0))), some (.inl a1), some (.inl a2)], [.inl q5.1, .inr (.inr (69, (a1).toNatClampNeg)), .inr (.inr (7, 0))]) q5.2
            obtain ⟨q6, hb, h⟩ := bind_some h
            refine Wp.call (WpD.mono _) rfl (T_X1_leaving_t69 (e + 0) N (a1).toNatClampNeg q5.1 q5.2 _ _ _ hb ?_)
            show Wp (WpD (e + 4)) hcX11_join Q (94, [some (.inr (.inr (0, 0))), some (.inl a1), some (.inl a2)], [.inl q6.1]) q6.2
            obtain ⟨rfl, rfl⟩ := ret_inj h
            exact Wp.ret (WpD.mono _) rfl hQ
        · have h := (if_neg hc).symm.trans h
          show Wp (WpD (e + 4)) hcX11_join Q (67, [some (.inr (.inr (0, 0))), some (.inl a1), some (.inl a2)], []) q3.2
          refine Wp.run (WpD.mono _) 0 (q := ((69, [none, none, none], [.inl (Int32.ofInt (-2))]), q3.2)) rfl ?_
          obtain ⟨rfl, rfl⟩ := ret_inj h
          exact Wp.ret (WpD.mono _) rfl hQ
      · have h := (if_neg hc).symm.trans h
        show Wp (WpD (e + 4)) hcX11_join Q (30, [some (.inr (.inr (0, 0))), some (.inl a1), some (.inl a2)], []) q3.2
        refine Wp.run (WpD.mono _) 0 (q := ((32, [some (.inr (.inr (0, 0))), some (.inl a1), some (.inl a2)], [.inl (Int32.ofInt (-11))]), q3.2)) rfl ?_
        obtain ⟨rfl, rfl⟩ := ret_inj h
        exact Wp.ret (WpD.mono _) rfl hQ

set_option maxRecDepth 100000 in
set_option maxHeartbeats 4000000 in
theorem T_X6_firstWrong_t69_b8 (e N : Nat)   (r : Int32) (τ : Mem) (Q : Pst) (hQ : Q (some (.inl r)) τ) : ∀ n, ∀ (x2 : Nat) (x3 : Int32) (x4 : Int32) (σ : Mem), F_X6_firstWrong_t69_b8 N n x2 x3 x4 σ = some (r, τ) → Wp (WpD (e + 2)) hcX6_firstWrong Q (8, [some (.inr (.inr (8, 0))), none, some (.inr (.inr (69, x2))), some (.inl x3), some (.inl x4)], []) σ := by
  intro n
  induction n with
  | zero => intro x2 x3 x4 σ h; cases h
  | succ n ih =>
    intro x2 x3 x4 σ h
    unfold F_X6_firstWrong_t69_b8 at h
    refine Wp.run (WpD.mono _) 1 (q := ((11, [some (.inr (.inr (8, 0))), none, some (.inr (.inr (69, x2))), some (.inl x3), some (.inl x4)], [.inl x3, .inl x4]), σ)) rfl ?_
    refine Wp.if2_ge (WpD.mono _) rfl rfl (fun hc => ?_) (fun hc => ?_)
    · have h := (if_pos hc).symm.trans h
      show Wp (WpD (e + 2)) hcX6_firstWrong Q (58, [some (.inr (.inr (8, 0))), none, some (.inr (.inr (69, x2))), some (.inl x3), some (.inl x4)], []) σ
      refine Wp.run (WpD.mono _) 0 (q := ((59, [none, none, none, none, none], [.inl (Int32.ofInt (-1))]), σ)) rfl ?_
      obtain ⟨rfl, rfl⟩ := ret_inj h
      exact Wp.ret (WpD.mono _) rfl hQ
    · have h := (if_neg hc).symm.trans h
      show Wp (WpD (e + 2)) hcX6_firstWrong Q (14, [some (.inr (.inr (8, 0))), none, some (.inr (.inr (69, x2))), some (.inl x3), some (.inl x4)], []) σ
      refine Wp.run (WpD.mono _) 1 (q := ((17, [some (.inr (.inr (8, 0))), none, some (.inr (.inr (69, x2))), some (.inl x3), some (.inl x4)], [.inl (5 : Int32), .inl x4]), σ)) rfl ?_
      refine Wp.if2_ge (WpD.mono _) rfl rfl (fun hc => ?_) (fun hc => ?_)
      · have h := (if_pos hc).symm.trans h
        show Wp (WpD (e + 2)) hcX6_firstWrong Q (58, [some (.inr (.inr (8, 0))), none, some (.inr (.inr (69, x2))), some (.inl x3), some (.inl x4)], []) σ
        refine Wp.run (WpD.mono _) 0 (q := ((59, [none, none, none, none, none], [.inl (Int32.ofInt (-1))]), σ)) rfl ?_
        obtain ⟨rfl, rfl⟩ := ret_inj h
        exact Wp.ret (WpD.mono _) rfl hQ
      · have h := (if_neg hc).symm.trans h
        show Wp (WpD (e + 2)) hcX6_firstWrong Q (20, [some (.inr (.inr (8, 0))), none, some (.inr (.inr (69, x2))), some (.inl x3), some (.inl x4)], []) σ
        refine Wp.run (WpD.mono _) 1 (q := ((23, [some (.inr (.inr (8, 0))), none, some (.inr (.inr (69, x2))), some (.inl x3), some (.inl x4)], [.inl x4, .inr (.inr (69, x2))]), σ)) rfl ?_
        obtain ⟨hc, h⟩ := ite_nn h
        refine Wp.X_ild1 (WpD.mono _) rfl rfl hc ?_
        show Wp (WpD (e + 2)) hcX6_firstWrong Q (24, [some (.inr (.inr (8, 0))), none, some (.inr (.inr (69, x2))), some (.inl x3), some (.inl x4)], [.inl (σ.2.2.1 69 x2 (x4).toNatClampNeg)]) σ
        refine Wp.run (WpD.mono _) 1 (q := ((26, [some (.inr (.inr (8, 0))), none, some (.inr (.inr (69, x2))), some (.inl x3), some (.inl x4)], [.inl (2 : Int32), .inl (0 : Int32), .inl (σ.2.2.1 69 x2 (x4).toNatClampNeg)]), σ)) rfl ?_
        obtain ⟨q2, hb, h⟩ := bind_some h
        refine Wp.call (WpD.mono _) rfl (T_X11_within (e + 1) N (σ.2.2.1 69 x2 (x4).toNatClampNeg) (0 : Int32) (2 : Int32) σ _ _ _ hb ?_)
        show Wp (WpD (e + 2)) hcX6_firstWrong Q (29, [some (.inr (.inr (8, 0))), none, some (.inr (.inr (69, x2))), some (.inl x3), some (.inl x4)], [.inl q2.1]) q2.2
        refine Wp.if0_eq (WpD.mono _) rfl rfl (fun hc => ?_) (fun hc => ?_)
        · have h := (if_pos hc).symm.trans h
          show Wp (WpD (e + 2)) hcX6_firstWrong Q (49, [some (.inr (.inr (8, 0))), none, some (.inr (.inr (69, x2))), some (.inl x3), some (.inl x4)], []) q2.2
          refine Wp.run (WpD.mono _) 0 (q := ((51, [none, none, none, none, some (.inl x4)], [.inl x4]), q2.2)) rfl ?_
          obtain ⟨rfl, rfl⟩ := ret_inj h
          exact Wp.ret (WpD.mono _) rfl hQ
        · have h := (if_neg hc).symm.trans h
          show Wp (WpD (e + 2)) hcX6_firstWrong Q (32, [some (.inr (.inr (8, 0))), none, some (.inr (.inr (69, x2))), some (.inl x3), some (.inl x4)], []) q2.2
          refine Wp.run (WpD.mono _) 5 (q := ((40, [some (.inr (.inr (8, 0))), none, some (.inr (.inr (69, x2))), some (.inl x3), some (.inl x4)], [.inl x4, .inr (.inr (69, x2)), .inl (x4 + (1 : Int32)), .inr (.inr (8, 0))]), q2.2)) rfl ?_
          obtain ⟨hc, h⟩ := ite_nn h
          refine Wp.X_ild1 (WpD.mono _) rfl rfl hc ?_
          show Wp (WpD (e + 2)) hcX6_firstWrong Q (41, [some (.inr (.inr (8, 0))), none, some (.inr (.inr (69, x2))), some (.inl x3), some (.inl x4)], [.inl (q2.2.2.2.1 69 x2 (x4).toNatClampNeg), .inl (x4 + (1 : Int32)), .inr (.inr (8, 0))]) q2.2
          obtain ⟨q3, hb, h⟩ := bind_some h
          refine Wp.call (WpD.mono _) rfl (T_X6_pass (e + 0) N (x4 + (1 : Int32)) (q2.2.2.2.1 69 x2 (x4).toNatClampNeg) q2.2 _ _ _ hb ?_)
          show Wp (WpD (e + 2)) hcX6_firstWrong Q (44, [some (.inr (.inr (8, 0))), none, some (.inr (.inr (69, x2))), some (.inl x3), some (.inl x4)], [.inr (.inl q3.1)]) q3.2
          refine Wp.run (WpD.mono _) 1 (q := ((46, [some (.inr (.inr (8, 0))), none, some (.inr (.inr (69, x2))), some (.inl x3), some (.inl x4)], [.inl (lg_cmp q3.1 (0 : Int64))]), q3.2)) rfl ?_
          refine Wp.if0_ne (WpD.mono _) rfl rfl (fun hc => ?_) (fun hc => ?_)
          · have h := (if_pos hc).symm.trans h
            show Wp (WpD (e + 2)) hcX6_firstWrong Q (49, [some (.inr (.inr (8, 0))), none, some (.inr (.inr (69, x2))), some (.inl x3), some (.inl x4)], []) q3.2
            refine Wp.run (WpD.mono _) 0 (q := ((51, [none, none, none, none, some (.inl x4)], [.inl x4]), q3.2)) rfl ?_
            obtain ⟨rfl, rfl⟩ := ret_inj h
            exact Wp.ret (WpD.mono _) rfl hQ
          · have h := (if_neg hc).symm.trans h
            show Wp (WpD (e + 2)) hcX6_firstWrong Q (52, [some (.inr (.inr (8, 0))), none, some (.inr (.inr (69, x2))), some (.inl x3), some (.inl x4)], []) q3.2
            refine Wp.run (WpD.mono _) 1 (q := ((8, [some (.inr (.inr (8, 0))), none, some (.inr (.inr (69, x2))), some (.inl x3), some (.inl (x4 + (1 : Int32)))], []), q3.2)) rfl ?_
            exact Wp.jump (WpD.mono _) rfl (ih x2 x3 (x4 + (1 : Int32)) q3.2 h)

set_option maxRecDepth 100000 in
set_option maxHeartbeats 4000000 in
theorem T_X6_firstWrong_t69 (e N : Nat)  (a1 : Int32) (a2 : Nat) (a3 : Int32) (σ : Mem) (r : Int32) (τ : Mem) (Q : Pst) (h : F_X6_firstWrong_t69 N a1 a2 a3 σ = some (r, τ)) (hQ : Q (some (.inl r)) τ) : WpD (e + 3) mX6_firstWrong [.inr (.inr (8, 0)), .inl a1, .inr (.inr (69, a2)), .inl a3] σ Q := by
  refine WpD.of (d := e + 2) (Nat.le_of_ble_eq_true rfl) (Nat.le_of_ble_eq_true rfl) ?_
  show Wp (WpD (e + 2)) hcX6_firstWrong Q (0, [some (.inr (.inr (8, 0))), some (.inl a1), some (.inr (.inr (69, a2))), some (.inl a3), none], []) σ
  unfold F_X6_firstWrong_t69 at h
  refine Wp.run (WpD.mono _) 1 (q := ((2, [some (.inr (.inr (8, 0))), some (.inl a1), some (.inr (.inr (69, a2))), some (.inl a3), none], [.inl a1, .inr (.inr (8, 0))]), σ)) rfl ?_
  obtain ⟨q1, hb, h⟩ := bind_some h
  refine Wp.call (WpD.mono _) rfl (T_X6_begin (e + 0) N a1 σ _ _ _ hb ?_)
  show Wp (WpD (e + 2)) hcX6_firstWrong Q (5, [some (.inr (.inr (8, 0))), some (.inl a1), some (.inr (.inr (69, a2))), some (.inl a3), none], []) q1.2
  refine Wp.run (WpD.mono _) 1 (q := ((8, [some (.inr (.inr (8, 0))), some (.inl a1), some (.inr (.inr (69, a2))), some (.inl a3), some (.inl (0 : Int32))], []), q1.2)) rfl ?_
  exact Wp.jump (WpD.mono _) rfl ((T_X6_firstWrong_t69_b8 e N  r τ Q hQ  N) a2 a3 (0 : Int32) q1.2 h)

set_option maxRecDepth 100000 in
set_option maxHeartbeats 4000000 in
theorem T_X11_judge (e N : Nat)  (a1 : Int32) (a2 : Int32) (σ : Mem) (r : Int32) (τ : Mem) (Q : Pst) (h : F_X11_judge N a1 a2 σ = some (r, τ)) (hQ : Q (some (.inl r)) τ) : WpD (e + 4) mX11_judge [.inr (.inr (0, 0)), .inl a1, .inl a2] σ Q := by
  refine WpD.of (d := e + 3) (Nat.le_of_ble_eq_true rfl) (Nat.le_of_ble_eq_true rfl) ?_
  show Wp (WpD (e + 3)) hcX11_judge Q (0, [some (.inr (.inr (0, 0))), some (.inl a1), some (.inl a2)], []) σ
  unfold F_X11_judge at h
  refine Wp.run (WpD.mono _) 1 (q := ((2, [some (.inr (.inr (0, 0))), some (.inl a1), some (.inl a2)], [.inl a1, .inr (.inr (0, 0))]), σ)) rfl ?_
  obtain ⟨q1, hb, h⟩ := bind_some h
  refine Wp.call (WpD.mono _) rfl (T_X11_isPlace (e + 1) N a1 σ _ _ _ hb ?_)
  show Wp (WpD (e + 3)) hcX11_judge Q (5, [some (.inr (.inr (0, 0))), some (.inl a1), some (.inl a2)], [.inl q1.1]) q1.2
  refine Wp.if0_ne (WpD.mono _) rfl rfl (fun hc => ?_) (fun hc => ?_)
  · have h := (if_pos hc).symm.trans h
    show Wp (WpD (e + 3)) hcX11_judge Q (8, [some (.inr (.inr (0, 0))), some (.inl a1), some (.inl a2)], []) q1.2
    refine Wp.run (WpD.mono _) 0 (q := ((10, [some (.inr (.inr (0, 0))), some (.inl a1), some (.inl a2)], [.inl (Int32.ofInt (-5))]), q1.2)) rfl ?_
    obtain ⟨rfl, rfl⟩ := ret_inj h
    exact Wp.ret (WpD.mono _) rfl hQ
  · have h := (if_neg hc).symm.trans h
    show Wp (WpD (e + 3)) hcX11_judge Q (11, [some (.inr (.inr (0, 0))), some (.inl a1), some (.inl a2)], []) q1.2
    refine Wp.run (WpD.mono _) 0 (q := ((12, [some (.inr (.inr (0, 0))), some (.inl a1), some (.inl a2)], [.inl a2]), q1.2)) rfl ?_
    obtain ⟨q2, hb, h⟩ := bind_some h
    refine Wp.call (WpD.mono _) rfl (T_X11_isSheet (e + 1) N a2 q1.2 _ _ _ hb ?_)
    show Wp (WpD (e + 3)) hcX11_judge Q (15, [some (.inr (.inr (0, 0))), some (.inl a1), some (.inl a2)], [.inl q2.1]) q2.2
    refine Wp.if0_ne (WpD.mono _) rfl rfl (fun hc => ?_) (fun hc => ?_)
    · have h := (if_pos hc).symm.trans h
      show Wp (WpD (e + 3)) hcX11_judge Q (18, [some (.inr (.inr (0, 0))), some (.inl a1), some (.inl a2)], []) q2.2
      refine Wp.run (WpD.mono _) 0 (q := ((20, [some (.inr (.inr (0, 0))), some (.inl a1), some (.inl a2)], [.inl (Int32.ofInt (-2))]), q2.2)) rfl ?_
      obtain ⟨rfl, rfl⟩ := ret_inj h
      exact Wp.ret (WpD.mono _) rfl hQ
    · have h := (if_neg hc).symm.trans h
      show Wp (WpD (e + 3)) hcX11_judge Q (21, [some (.inr (.inr (0, 0))), some (.inl a1), some (.inl a2)], []) q2.2
      refine Wp.run (WpD.mono _) 2 (q := ((26, [some (.inr (.inr (0, 0))), some (.inl a1), some (.inl a2)], [.inl a2, .inr (.inr (5, 0))]), q2.2)) rfl ?_
      obtain ⟨q3, hb, h⟩ := bind_some h
      refine Wp.call (WpD.mono _) rfl (T_X10_isMissing (e + 2) N a2 q2.2 _ _ _ hb ?_)
      show Wp (WpD (e + 3)) hcX11_judge Q (29, [some (.inr (.inr (0, 0))), some (.inl a1), some (.inl a2)], [.inl q3.1]) q3.2
      refine Wp.if0_eq (WpD.mono _) rfl rfl (fun hc => ?_) (fun hc => ?_)
      · have h := (if_pos hc).symm.trans h
        show Wp (WpD (e + 3)) hcX11_judge Q (35, [some (.inr (.inr (0, 0))), some (.inl a1), some (.inl a2)], []) q3.2
        refine Wp.run (WpD.mono _) 3 (q := ((43, [some (.inr (.inr (0, 0))), some (.inl a1), some (.inl a2)], [.inl a2, .inr (.inr (71, 0))]), q3.2)) rfl ?_
        obtain ⟨hc, h⟩ := ite_nn h
        refine Wp.X_ild1 (WpD.mono _) rfl rfl hc ?_
        show Wp (WpD (e + 3)) hcX11_judge Q (44, [some (.inr (.inr (0, 0))), some (.inl a1), some (.inl a2)], [.inl (q3.2.2.2.1 71 0 (a2).toNatClampNeg)]) q3.2
        refine Wp.run (WpD.mono _) 1 (q := ((48, [some (.inr (.inr (0, 0))), some (.inl a1), some (.inl a2)], [.inr (.inr (1, 0)), .inl (q3.2.2.2.1 71 0 (a2).toNatClampNeg)]), q3.2)) rfl ?_
        obtain ⟨q4, hb, h⟩ := bind_some h
        refine Wp.call (WpD.mono _) rfl (T_X2_deepest (e + 2) N q3.2 _ _ _ hb ?_)
        show Wp (WpD (e + 3)) hcX11_judge Q (51, [some (.inr (.inr (0, 0))), some (.inl a1), some (.inl a2)], [.inl q4.1, .inl (q3.2.2.2.1 71 0 (a2).toNatClampNeg)]) q4.2
        refine Wp.if2_le (WpD.mono _) rfl rfl (fun hc => ?_) (fun hc => ?_)
        · have h := (if_pos hc).symm.trans h
          show Wp (WpD (e + 3)) hcX11_judge Q (57, [some (.inr (.inr (0, 0))), some (.inl a1), some (.inl a2)], []) q4.2
          refine Wp.run (WpD.mono _) 6 (q := ((70, [some (.inr (.inr (0, 0))), some (.inl a1), some (.inl a2)], [.inl a2, .inr (.inr (68, 0)), .inl a1, .inr (.inr (8, 0))]), q4.2)) rfl ?_
          obtain ⟨hc, h⟩ := ite_nn h
          refine Wp.X_rld4 (WpD.mono _) rfl rfl hc ?_
          show Wp (WpD (e + 3)) hcX11_judge Q (71, [some (.inr (.inr (0, 0))), some (.inl a1), some (.inl a2)], [.inr (.inr (69, (a2).toNatClampNeg)), .inl a1, .inr (.inr (8, 0))]) q4.2
          refine Wp.run (WpD.mono _) 3 (q := ((79, [some (.inr (.inr (0, 0))), some (.inl a1), some (.inl a2)], [.inl a2, .inr (.inr (71, 0)), .inr (.inr (69, (a2).toNatClampNeg)), .inl a1, .inr (.inr (8, 0))]), q4.2)) rfl ?_
          obtain ⟨hc, h⟩ := ite_nn h
          refine Wp.X_ild1 (WpD.mono _) rfl rfl hc ?_
          show Wp (WpD (e + 3)) hcX11_judge Q (80, [some (.inr (.inr (0, 0))), some (.inl a1), some (.inl a2)], [.inl (q4.2.2.2.1 71 0 (a2).toNatClampNeg), .inr (.inr (69, (a2).toNatClampNeg)), .inl a1, .inr (.inr (8, 0))]) q4.2
          obtain ⟨q5, hb, h⟩ := bind_some h
          refine Wp.call (WpD.mono _) rfl (T_X6_firstWrong_t69 (e + 0) N a1 (a2).toNatClampNeg (q4.2.2.2.1 71 0 (a2).toNatClampNeg) q4.2 _ _ _ hb ?_)
          show Wp (WpD (e + 3)) hcX11_judge Q (83, [some (.inr (.inr (0, 0))), some (.inl a1), some (.inl a2)], [.inl q5.1]) q5.2
          obtain ⟨rfl, rfl⟩ := ret_inj h
          exact Wp.ret (WpD.mono _) rfl hQ
        · have h := (if_neg hc).symm.trans h
          show Wp (WpD (e + 3)) hcX11_judge Q (54, [some (.inr (.inr (0, 0))), some (.inl a1), some (.inl a2)], []) q4.2
          refine Wp.run (WpD.mono _) 0 (q := ((56, [some (.inr (.inr (0, 0))), some (.inl a1), some (.inl a2)], [.inl (Int32.ofInt (-2))]), q4.2)) rfl ?_
          obtain ⟨rfl, rfl⟩ := ret_inj h
          exact Wp.ret (WpD.mono _) rfl hQ
      · have h := (if_neg hc).symm.trans h
        show Wp (WpD (e + 3)) hcX11_judge Q (32, [some (.inr (.inr (0, 0))), some (.inl a1), some (.inl a2)], []) q3.2
        refine Wp.run (WpD.mono _) 0 (q := ((34, [some (.inr (.inr (0, 0))), some (.inl a1), some (.inl a2)], [.inl (Int32.ofInt (-11))]), q3.2)) rfl ?_
        obtain ⟨rfl, rfl⟩ := ret_inj h
        exact Wp.ret (WpD.mono _) rfl hQ

set_option maxRecDepth 100000 in
set_option maxHeartbeats 4000000 in
theorem T_X2_lay (e N : Nat)  (a1 : Int32) (a2 : Int32) (a3 : Int32) (σ : Mem) (r : Int32) (τ : Mem) (Q : Pst) (h : F_X2_lay N a1 a2 a3 σ = some (r, τ)) (hQ : Q (some (.inl r)) τ) : WpD (e + 1) mX2_lay [.inr (.inr (1, 0)), .inl a1, .inl a2, .inl a3] σ Q := by
  refine WpD.of (d := e + 0) (Nat.le_of_ble_eq_true rfl) (Nat.le_of_ble_eq_true rfl) ?_
  show Wp (WpD (e + 0)) hcX2_lay Q (0, [some (.inr (.inr (1, 0))), some (.inl a1), some (.inl a2), some (.inl a3), none], []) σ
  unfold F_X2_lay at h
  refine Wp.run (WpD.mono _) 6 (q := ((13, [some (.inr (.inr (1, 0))), some (.inl a1), some (.inl a2), some (.inl a3), some (.inl (σ.1 1 6))], [.inl a1, .inl (σ.1 1 6), .inr (.inr (22, 0))]), σ)) rfl ?_
  obtain ⟨hc, h⟩ := ite_nn h
  refine Wp.X_ist (WpD.mono _) rfl rfl hc ?_
  show Wp (WpD (e + 0)) hcX2_lay Q (14, [some (.inr (.inr (1, 0))), some (.inl a1), some (.inl a2), some (.inl a3), some (.inl (σ.1 1 6))], []) (σ.1, σ.2.1, (hwU3 σ.2.2.1 22 0 ((σ.1 1 6)).toNatClampNeg a1), σ.2.2.2.1, σ.2.2.2.2)
  refine Wp.run (WpD.mono _) 3 (q := ((21, [some (.inr (.inr (1, 0))), some (.inl a1), some (.inl a2), some (.inl a3), some (.inl (σ.1 1 6))], [.inl a2, .inl (σ.1 1 6), .inr (.inr (23, 0))]), (σ.1, σ.2.1, (hwU3 σ.2.2.1 22 0 ((σ.1 1 6)).toNatClampNeg a1), σ.2.2.2.1, σ.2.2.2.2))) rfl ?_
  obtain ⟨hc, h⟩ := ite_nn h
  refine Wp.X_ist (WpD.mono _) rfl rfl hc ?_
  show Wp (WpD (e + 0)) hcX2_lay Q (22, [some (.inr (.inr (1, 0))), some (.inl a1), some (.inl a2), some (.inl a3), some (.inl (σ.1 1 6))], []) (σ.1, σ.2.1, (hwU3 (hwU3 σ.2.2.1 22 0 ((σ.1 1 6)).toNatClampNeg a1) 23 0 ((σ.1 1 6)).toNatClampNeg a2), σ.2.2.2.1, σ.2.2.2.2)
  refine Wp.run (WpD.mono _) 3 (q := ((29, [some (.inr (.inr (1, 0))), some (.inl a1), some (.inl a2), some (.inl a3), some (.inl (σ.1 1 6))], [.inl a3, .inl (σ.1 1 6), .inr (.inr (24, 0))]), (σ.1, σ.2.1, (hwU3 (hwU3 σ.2.2.1 22 0 ((σ.1 1 6)).toNatClampNeg a1) 23 0 ((σ.1 1 6)).toNatClampNeg a2), σ.2.2.2.1, σ.2.2.2.2))) rfl ?_
  obtain ⟨hc, h⟩ := ite_nn h
  refine Wp.X_ist (WpD.mono _) rfl rfl hc ?_
  show Wp (WpD (e + 0)) hcX2_lay Q (30, [some (.inr (.inr (1, 0))), some (.inl a1), some (.inl a2), some (.inl a3), some (.inl (σ.1 1 6))], []) (σ.1, σ.2.1, (hwU3 (hwU3 (hwU3 σ.2.2.1 22 0 ((σ.1 1 6)).toNatClampNeg a1) 23 0 ((σ.1 1 6)).toNatClampNeg a2) 24 0 ((σ.1 1 6)).toNatClampNeg a3), σ.2.2.2.1, σ.2.2.2.2)
  refine Wp.run (WpD.mono _) 5 (q := ((40, [some (.inr (.inr (1, 0))), some (.inl a1), some (.inl a2), some (.inl a3), some (.inl (σ.1 1 6))], [.inl (σ.1 1 6)]), ((hwU2 σ.1 1 6 ((σ.1 1 6) + (1 : Int32))), σ.2.1, (hwU3 (hwU3 (hwU3 σ.2.2.1 22 0 ((σ.1 1 6)).toNatClampNeg a1) 23 0 ((σ.1 1 6)).toNatClampNeg a2) 24 0 ((σ.1 1 6)).toNatClampNeg a3), σ.2.2.2.1, σ.2.2.2.2))) rfl ?_
  obtain ⟨rfl, rfl⟩ := ret_inj h
  exact Wp.ret (WpD.mono _) rfl hQ

set_option maxRecDepth 100000 in
set_option maxHeartbeats 4000000 in
theorem T_X11_newLayer (e N : Nat)  (a1 : Int32) (a2 : Int32) (a3 : Int32) (σ : Mem) (r : Int32) (τ : Mem) (Q : Pst) (h : F_X11_newLayer N a1 a2 a3 σ = some (r, τ)) (hQ : Q (some (.inl r)) τ) : WpD (e + 2) mX11_newLayer [.inr (.inr (0, 0)), .inl a1, .inl a2, .inl a3] σ Q := by
  refine WpD.of (d := e + 1) (Nat.le_of_ble_eq_true rfl) (Nat.le_of_ble_eq_true rfl) ?_
  show Wp (WpD (e + 1)) hcX11_newLayer Q (0, [some (.inr (.inr (0, 0))), some (.inl a1), some (.inl a2), some (.inl a3)], []) σ
  unfold F_X11_newLayer at h
  refine Wp.run (WpD.mono _) 2 (q := ((4, [some (.inr (.inr (0, 0))), some (.inl a1), some (.inl a2), some (.inl a3)], [.inl (100 : Int32), .inl (0 : Int32), .inl a1]), σ)) rfl ?_
  obtain ⟨q1, hb, h⟩ := bind_some h
  refine Wp.call (WpD.mono _) rfl (T_X11_within (e + 0) N a1 (0 : Int32) (100 : Int32) σ _ _ _ hb ?_)
  show Wp (WpD (e + 1)) hcX11_newLayer Q (7, [some (.inr (.inr (0, 0))), some (.inl a1), some (.inl a2), some (.inl a3)], [.inl q1.1]) q1.2
  refine Wp.if0_eq (WpD.mono _) rfl rfl (fun hc => ?_) (fun hc => ?_)
  · have h := (if_pos hc).symm.trans h
    show Wp (WpD (e + 1)) hcX11_newLayer Q (29, [some (.inr (.inr (0, 0))), some (.inl a1), some (.inl a2), some (.inl a3)], []) q1.2
    refine Wp.run (WpD.mono _) 0 (q := ((31, [none, none, none, none], [.inl (Int32.ofInt (-2))]), q1.2)) rfl ?_
    obtain ⟨rfl, rfl⟩ := ret_inj h
    exact Wp.ret (WpD.mono _) rfl hQ
  · have h := (if_neg hc).symm.trans h
    show Wp (WpD (e + 1)) hcX11_newLayer Q (10, [some (.inr (.inr (0, 0))), some (.inl a1), some (.inl a2), some (.inl a3)], []) q1.2
    refine Wp.run (WpD.mono _) 2 (q := ((14, [some (.inr (.inr (0, 0))), some (.inl a1), some (.inl a2), some (.inl a3)], [.inl (9 : Int32), .inl (0 : Int32), .inl a2]), q1.2)) rfl ?_
    obtain ⟨q2, hb, h⟩ := bind_some h
    refine Wp.call (WpD.mono _) rfl (T_X11_within (e + 0) N a2 (0 : Int32) (9 : Int32) q1.2 _ _ _ hb ?_)
    show Wp (WpD (e + 1)) hcX11_newLayer Q (17, [some (.inr (.inr (0, 0))), some (.inl a1), some (.inl a2), some (.inl a3)], [.inl q2.1]) q2.2
    refine Wp.if0_eq (WpD.mono _) rfl rfl (fun hc => ?_) (fun hc => ?_)
    · have h := (if_pos hc).symm.trans h
      show Wp (WpD (e + 1)) hcX11_newLayer Q (29, [some (.inr (.inr (0, 0))), some (.inl a1), some (.inl a2), some (.inl a3)], []) q2.2
      refine Wp.run (WpD.mono _) 0 (q := ((31, [none, none, none, none], [.inl (Int32.ofInt (-2))]), q2.2)) rfl ?_
      obtain ⟨rfl, rfl⟩ := ret_inj h
      exact Wp.ret (WpD.mono _) rfl hQ
    · have h := (if_neg hc).symm.trans h
      show Wp (WpD (e + 1)) hcX11_newLayer Q (20, [some (.inr (.inr (0, 0))), some (.inl a1), some (.inl a2), some (.inl a3)], []) q2.2
      refine Wp.run (WpD.mono _) 2 (q := ((23, [some (.inr (.inr (0, 0))), some (.inl a1), some (.inl a2), some (.inl a3)], [.inl (2 : Int32), .inl (0 : Int32), .inl a3]), q2.2)) rfl ?_
      obtain ⟨q3, hb, h⟩ := bind_some h
      refine Wp.call (WpD.mono _) rfl (T_X11_within (e + 0) N a3 (0 : Int32) (2 : Int32) q2.2 _ _ _ hb ?_)
      show Wp (WpD (e + 1)) hcX11_newLayer Q (26, [some (.inr (.inr (0, 0))), some (.inl a1), some (.inl a2), some (.inl a3)], [.inl q3.1]) q3.2
      refine Wp.if0_ne (WpD.mono _) rfl rfl (fun hc => ?_) (fun hc => ?_)
      · have h := (if_pos hc).symm.trans h
        show Wp (WpD (e + 1)) hcX11_newLayer Q (29, [some (.inr (.inr (0, 0))), some (.inl a1), some (.inl a2), some (.inl a3)], []) q3.2
        refine Wp.run (WpD.mono _) 0 (q := ((31, [none, none, none, none], [.inl (Int32.ofInt (-2))]), q3.2)) rfl ?_
        obtain ⟨rfl, rfl⟩ := ret_inj h
        exact Wp.ret (WpD.mono _) rfl hQ
      · have h := (if_neg hc).symm.trans h
        show Wp (WpD (e + 1)) hcX11_newLayer Q (32, [some (.inr (.inr (0, 0))), some (.inl a1), some (.inl a2), some (.inl a3)], []) q3.2
        refine Wp.run (WpD.mono _) 3 (q := ((40, [some (.inr (.inr (0, 0))), some (.inl a1), some (.inl a2), some (.inl a3)], [.inl (5 : Int32), .inl (q3.2.1 1 6)]), q3.2)) rfl ?_
        refine Wp.if2_lt (WpD.mono _) rfl rfl (fun hc => ?_) (fun hc => ?_)
        · have h := (if_pos hc).symm.trans h
          show Wp (WpD (e + 1)) hcX11_newLayer Q (46, [some (.inr (.inr (0, 0))), some (.inl a1), some (.inl a2), some (.inl a3)], []) q3.2
          refine Wp.run (WpD.mono _) 2 (q := ((53, [some (.inr (.inr (0, 0))), some (.inl a1), some (.inl a2), some (.inl a3)], [.inl (q3.2.1 4 5)]), q3.2)) rfl ?_
          refine Wp.if0_le (WpD.mono _) rfl rfl (fun hc => ?_) (fun hc => ?_)
          · have h := (if_pos hc).symm.trans h
            show Wp (WpD (e + 1)) hcX11_newLayer Q (59, [some (.inr (.inr (0, 0))), some (.inl a1), some (.inl a2), some (.inl a3)], []) q3.2
            refine Wp.run (WpD.mono _) 4 (q := ((66, [some (.inr (.inr (0, 0))), some (.inl a1), some (.inl a2), some (.inl a3)], [.inl a3, .inl a2, .inl a1, .inr (.inr (1, 0))]), q3.2)) rfl ?_
            obtain ⟨q4, hb, h⟩ := bind_some h
            refine Wp.call (WpD.mono _) rfl (T_X2_lay (e + 0) N a1 a2 a3 q3.2 _ _ _ hb ?_)
            show Wp (WpD (e + 1)) hcX11_newLayer Q (69, [some (.inr (.inr (0, 0))), some (.inl a1), some (.inl a2), some (.inl a3)], [.inl q4.1]) q4.2
            obtain ⟨rfl, rfl⟩ := ret_inj h
            exact Wp.ret (WpD.mono _) rfl hQ
          · have h := (if_neg hc).symm.trans h
            show Wp (WpD (e + 1)) hcX11_newLayer Q (56, [some (.inr (.inr (0, 0))), some (.inl a1), some (.inl a2), some (.inl a3)], []) q3.2
            refine Wp.run (WpD.mono _) 0 (q := ((58, [some (.inr (.inr (0, 0))), some (.inl a1), some (.inl a2), some (.inl a3)], [.inl (Int32.ofInt (-3))]), q3.2)) rfl ?_
            obtain ⟨rfl, rfl⟩ := ret_inj h
            exact Wp.ret (WpD.mono _) rfl hQ
        · have h := (if_neg hc).symm.trans h
          show Wp (WpD (e + 1)) hcX11_newLayer Q (43, [some (.inr (.inr (0, 0))), some (.inl a1), some (.inl a2), some (.inl a3)], []) q3.2
          refine Wp.run (WpD.mono _) 0 (q := ((45, [some (.inr (.inr (0, 0))), some (.inl a1), some (.inl a2), some (.inl a3)], [.inl (Int32.ofInt (-4))]), q3.2)) rfl ?_
          obtain ⟨rfl, rfl⟩ := ret_inj h
          exact Wp.ret (WpD.mono _) rfl hQ

set_option maxRecDepth 100000 in
set_option maxHeartbeats 4000000 in
theorem T_X11_layer (e N : Nat)  (a1 : Int32) (a2 : Int32) (a3 : Int32) (σ : Mem) (r : Int32) (τ : Mem) (Q : Pst) (h : F_X11_layer N a1 a2 a3 σ = some (r, τ)) (hQ : Q (some (.inl r)) τ) : WpD (e + 7) mX11_layer [.inr (.inr (0, 0)), .inl a1, .inl a2, .inl a3] σ Q := by
  refine WpD.of (d := e + 6) (Nat.le_of_ble_eq_true rfl) (Nat.le_of_ble_eq_true rfl) ?_
  show Wp (WpD (e + 6)) hcX11_layer Q (0, [some (.inr (.inr (0, 0))), some (.inl a1), some (.inl a2), some (.inl a3), none], []) σ
  unfold F_X11_layer at h
  refine Wp.run (WpD.mono _) 3 (q := ((4, [some (.inr (.inr (0, 0))), some (.inl a1), some (.inl a2), some (.inl a3), none], [.inl a3, .inl a2, .inl a1, .inr (.inr (0, 0))]), σ)) rfl ?_
  obtain ⟨q1, hb, h⟩ := bind_some h
  refine Wp.call (WpD.mono _) rfl (T_X11_newLayer (e + 4) N a1 a2 a3 σ _ _ _ hb ?_)
  show Wp (WpD (e + 6)) hcX11_layer Q (7, [some (.inr (.inr (0, 0))), some (.inl a1), some (.inl a2), some (.inl a3), none], [.inl q1.1]) q1.2
  refine Wp.run (WpD.mono _) 1 (q := ((11, [some (.inr (.inr (0, 0))), some (.inl a1), some (.inl a2), some (.inl a3), some (.inl q1.1)], [.inl q1.1]), q1.2)) rfl ?_
  refine Wp.if0_lt (WpD.mono _) rfl rfl (fun hc => ?_) (fun hc => ?_)
  · have h := (if_pos hc).symm.trans h
    show Wp (WpD (e + 6)) hcX11_layer Q (21, [some (.inr (.inr (0, 0))), some (.inl a1), some (.inl a2), some (.inl a3), some (.inl q1.1)], []) q1.2
    refine Wp.run (WpD.mono _) 0 (q := ((23, [none, none, none, none, some (.inl q1.1)], [.inl q1.1]), q1.2)) rfl ?_
    obtain ⟨rfl, rfl⟩ := ret_inj h
    exact Wp.ret (WpD.mono _) rfl hQ
  · have h := (if_neg hc).symm.trans h
    show Wp (WpD (e + 6)) hcX11_layer Q (14, [some (.inr (.inr (0, 0))), some (.inl a1), some (.inl a2), some (.inl a3), some (.inl q1.1)], []) q1.2
    refine Wp.run (WpD.mono _) 1 (q := ((18, [some (.inr (.inr (0, 0))), some (.inl a1), some (.inl a2), some (.inl a3), some (.inl q1.1)], [.inr (.inr (2, 0))]), q1.2)) rfl ?_
    obtain ⟨q2, hb, h⟩ := bind_some h
    refine Wp.call (WpD.mono _) rfl (T_X4_weigh (e + 0) N q1.2 _ _ _ hb ?_)
    show Wp (WpD (e + 6)) hcX11_layer Q (21, [some (.inr (.inr (0, 0))), some (.inl a1), some (.inl a2), some (.inl a3), some (.inl q1.1)], []) q2.2
    refine Wp.run (WpD.mono _) 0 (q := ((23, [none, none, none, none, some (.inl q1.1)], [.inl q1.1]), q2.2)) rfl ?_
    obtain ⟨rfl, rfl⟩ := ret_inj h
    exact Wp.ret (WpD.mono _) rfl hQ

set_option maxRecDepth 100000 in
set_option maxHeartbeats 4000000 in
theorem T_X11_layersBy_b68 (e N : Nat)   (r : Int32) (τ : Mem) (Q : Pst) (hQ : Q (some (.inl r)) τ) : ∀ n, ∀ (x1 : Int32) (x4 : Int32) (x5 : Int32) (x6 : Int32) (x7 : Int32) (σ : Mem), F_X11_layersBy_b68 N n x1 x4 x5 x6 x7 σ = some (r, τ) → Wp (WpD (e + 7)) hcX11_layersBy Q (68, [some (.inr (.inr (0, 0))), some (.inl x1), none, none, some (.inl x4), some (.inl x5), some (.inl x6), some (.inl x7), none], []) σ := by
  intro n
  induction n with
  | zero => intro x1 x4 x5 x6 x7 σ h; cases h
  | succ n ih =>
    intro x1 x4 x5 x6 x7 σ h
    unfold F_X11_layersBy_b68 at h
    refine Wp.run (WpD.mono _) 1 (q := ((72, [some (.inr (.inr (0, 0))), some (.inl x1), none, none, some (.inl x4), some (.inl x5), some (.inl x6), some (.inl x7), none], [.inl x4, .inl x6]), σ)) rfl ?_
    refine Wp.if2_ge (WpD.mono _) rfl rfl (fun hc => ?_) (fun hc => ?_)
    · have h := (if_pos hc).symm.trans h
      show Wp (WpD (e + 7)) hcX11_layersBy Q (141, [some (.inr (.inr (0, 0))), some (.inl x1), none, none, some (.inl x4), some (.inl x5), some (.inl x6), some (.inl x7), none], []) σ
      refine Wp.run (WpD.mono _) 0 (q := ((143, [some (.inr (.inr (0, 0))), some (.inl x1), none, none, some (.inl x4), some (.inl x5), some (.inl x6), some (.inl x7), none], [.inl x5]), σ)) rfl ?_
      obtain ⟨rfl, rfl⟩ := ret_inj h
      exact Wp.ret (WpD.mono _) rfl hQ
    · have h := (if_neg hc).symm.trans h
      show Wp (WpD (e + 7)) hcX11_layersBy Q (75, [some (.inr (.inr (0, 0))), some (.inl x1), none, none, some (.inl x4), some (.inl x5), some (.inl x6), some (.inl x7), none], []) σ
      refine Wp.run (WpD.mono _) 4 (q := ((83, [some (.inr (.inr (0, 0))), some (.inl x1), none, none, some (.inl x4), some (.inl x5), some (.inl x6), some (.inl x7), none], [.inl (3 : Int32), .inl x7, .inl x1, .inr (.inr (5, 0))]), σ)) rfl ?_
      obtain ⟨q5, hb, h⟩ := bind_some h
      refine Wp.call (WpD.mono _) rfl (T_X10_holds (e + 6) N x1 x7 (3 : Int32) σ _ _ _ hb ?_)
      show Wp (WpD (e + 7)) hcX11_layersBy Q (86, [some (.inr (.inr (0, 0))), some (.inl x1), none, none, some (.inl x4), some (.inl x5), some (.inl x6), some (.inl x7), none], [.inl q5.1]) q5.2
      refine Wp.if0_ne (WpD.mono _) rfl rfl (fun hc => ?_) (fun hc => ?_)
      · have h := (if_pos hc).symm.trans h
        show Wp (WpD (e + 7)) hcX11_layersBy Q (89, [some (.inr (.inr (0, 0))), some (.inl x1), none, none, some (.inl x4), some (.inl x5), some (.inl x6), some (.inl x7), none], []) q5.2
        refine Wp.run (WpD.mono _) 0 (q := ((91, [some (.inr (.inr (0, 0))), some (.inl x1), none, none, some (.inl x4), some (.inl x5), some (.inl x6), some (.inl x7), none], [.inl (Int32.ofInt (-12))]), q5.2)) rfl ?_
        obtain ⟨rfl, rfl⟩ := ret_inj h
        exact Wp.ret (WpD.mono _) rfl hQ
      · have h := (if_neg hc).symm.trans h
        show Wp (WpD (e + 7)) hcX11_layersBy Q (92, [some (.inr (.inr (0, 0))), some (.inl x1), none, none, some (.inl x4), some (.inl x5), some (.inl x6), some (.inl x7), none], []) q5.2
        refine Wp.run (WpD.mono _) 3 (q := ((100, [some (.inr (.inr (0, 0))), some (.inl x1), none, none, some (.inl x4), some (.inl x5), some (.inl x6), some (.inl x7), none], [.inl x1, .inr (.inr (68, 0))]), q5.2)) rfl ?_
        obtain ⟨hc, h⟩ := ite_nn h
        refine Wp.X_rld4 (WpD.mono _) rfl rfl hc ?_
        show Wp (WpD (e + 7)) hcX11_layersBy Q (101, [some (.inr (.inr (0, 0))), some (.inl x1), none, none, some (.inl x4), some (.inl x5), some (.inl x6), some (.inl x7), none], [.inr (.inr (69, (x1).toNatClampNeg))]) q5.2
        refine Wp.run (WpD.mono _) 3 (q := ((108, [some (.inr (.inr (0, 0))), some (.inl x1), none, none, some (.inl x4), some (.inl x5), some (.inl x6), some (.inl x7), some (.inr (.inr (69, (x1).toNatClampNeg)))], [.inl x7, .inr (.inr (69, (x1).toNatClampNeg)), .inr (.inr (0, 0))]), q5.2)) rfl ?_
        obtain ⟨hc, h⟩ := ite_nn h
        refine Wp.X_ild1 (WpD.mono _) rfl rfl hc ?_
        show Wp (WpD (e + 7)) hcX11_layersBy Q (109, [some (.inr (.inr (0, 0))), some (.inl x1), none, none, some (.inl x4), some (.inl x5), some (.inl x6), some (.inl x7), some (.inr (.inr (69, (x1).toNatClampNeg)))], [.inl (q5.2.2.2.1 69 (x1).toNatClampNeg (x7).toNatClampNeg), .inr (.inr (0, 0))]) q5.2
        refine Wp.run (WpD.mono _) 3 (q := ((115, [some (.inr (.inr (0, 0))), some (.inl x1), none, none, some (.inl x4), some (.inl x5), some (.inl x6), some (.inl x7), some (.inr (.inr (69, (x1).toNatClampNeg)))], [.inl (x7 + (1 : Int32)), .inr (.inr (69, (x1).toNatClampNeg)), .inl (q5.2.2.2.1 69 (x1).toNatClampNeg (x7).toNatClampNeg), .inr (.inr (0, 0))]), q5.2)) rfl ?_
        obtain ⟨hc, h⟩ := ite_nn h
        refine Wp.X_ild1 (WpD.mono _) rfl rfl hc ?_
        show Wp (WpD (e + 7)) hcX11_layersBy Q (116, [some (.inr (.inr (0, 0))), some (.inl x1), none, none, some (.inl x4), some (.inl x5), some (.inl x6), some (.inl x7), some (.inr (.inr (69, (x1).toNatClampNeg)))], [.inl (q5.2.2.2.1 69 (x1).toNatClampNeg ((x7 + (1 : Int32))).toNatClampNeg), .inl (q5.2.2.2.1 69 (x1).toNatClampNeg (x7).toNatClampNeg), .inr (.inr (0, 0))]) q5.2
        refine Wp.run (WpD.mono _) 3 (q := ((122, [some (.inr (.inr (0, 0))), some (.inl x1), none, none, some (.inl x4), some (.inl x5), some (.inl x6), some (.inl x7), some (.inr (.inr (69, (x1).toNatClampNeg)))], [.inl (x7 + (2 : Int32)), .inr (.inr (69, (x1).toNatClampNeg)), .inl (q5.2.2.2.1 69 (x1).toNatClampNeg ((x7 + (1 : Int32))).toNatClampNeg), .inl (q5.2.2.2.1 69 (x1).toNatClampNeg (x7).toNatClampNeg), .inr (.inr (0, 0))]), q5.2)) rfl ?_
        obtain ⟨hc, h⟩ := ite_nn h
        refine Wp.X_ild1 (WpD.mono _) rfl rfl hc ?_
        show Wp (WpD (e + 7)) hcX11_layersBy Q (123, [some (.inr (.inr (0, 0))), some (.inl x1), none, none, some (.inl x4), some (.inl x5), some (.inl x6), some (.inl x7), some (.inr (.inr (69, (x1).toNatClampNeg)))], [.inl (q5.2.2.2.1 69 (x1).toNatClampNeg ((x7 + (2 : Int32))).toNatClampNeg), .inl (q5.2.2.2.1 69 (x1).toNatClampNeg ((x7 + (1 : Int32))).toNatClampNeg), .inl (q5.2.2.2.1 69 (x1).toNatClampNeg (x7).toNatClampNeg), .inr (.inr (0, 0))]) q5.2
        obtain ⟨q6, hb, h⟩ := bind_some h
        refine Wp.call (WpD.mono _) rfl (T_X11_layer (e + 0) N (q5.2.2.2.1 69 (x1).toNatClampNeg (x7).toNatClampNeg) (q5.2.2.2.1 69 (x1).toNatClampNeg ((x7 + (1 : Int32))).toNatClampNeg) (q5.2.2.2.1 69 (x1).toNatClampNeg ((x7 + (2 : Int32))).toNatClampNeg) q5.2 _ _ _ hb ?_)
        show Wp (WpD (e + 7)) hcX11_layersBy Q (126, [some (.inr (.inr (0, 0))), some (.inl x1), none, none, some (.inl x4), some (.inl x5), some (.inl x6), some (.inl x7), some (.inr (.inr (69, (x1).toNatClampNeg)))], [.inl q6.1]) q6.2
        refine Wp.if0_lt (WpD.mono _) rfl rfl (fun hc => ?_) (fun hc => ?_)
        · have h := (if_pos hc).symm.trans h
          show Wp (WpD (e + 7)) hcX11_layersBy Q (132, [some (.inr (.inr (0, 0))), some (.inl x1), none, none, some (.inl x4), some (.inl x5), some (.inl x6), some (.inl x7), some (.inr (.inr (69, (x1).toNatClampNeg)))], []) q6.2
          refine Wp.run (WpD.mono _) 2 (q := ((68, [some (.inr (.inr (0, 0))), some (.inl x1), none, none, some (.inl x4), some (.inl x5), some (.inl (x6 + (1 : Int32))), some (.inl (x7 + (3 : Int32))), none], []), q6.2)) rfl ?_
          exact Wp.jump (WpD.mono _) rfl (ih x1 x4 x5 (x6 + (1 : Int32)) (x7 + (3 : Int32)) q6.2 h)
        · have h := (if_neg hc).symm.trans h
          show Wp (WpD (e + 7)) hcX11_layersBy Q (129, [some (.inr (.inr (0, 0))), some (.inl x1), none, none, some (.inl x4), some (.inl x5), some (.inl x6), some (.inl x7), some (.inr (.inr (69, (x1).toNatClampNeg)))], []) q6.2
          refine Wp.run (WpD.mono _) 3 (q := ((68, [some (.inr (.inr (0, 0))), some (.inl x1), none, none, some (.inl x4), some (.inl (x5 + (1 : Int32))), some (.inl (x6 + (1 : Int32))), some (.inl (x7 + (3 : Int32))), none], []), q6.2)) rfl ?_
          exact Wp.jump (WpD.mono _) rfl (ih x1 x4 (x5 + (1 : Int32)) (x6 + (1 : Int32)) (x7 + (3 : Int32)) q6.2 h)


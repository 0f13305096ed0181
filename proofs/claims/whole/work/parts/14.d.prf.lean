set_option maxRecDepth 100000 in
set_option maxHeartbeats 4000000 in
theorem T_X11_layersBy (e N : Nat)  (a1 : Int32) (a2 : Int32) (a3 : Int32) (a4 : Int32) (σ : Mem) (r : Int32) (τ : Mem) (Q : Pst) (h : F_X11_layersBy N a1 a2 a3 a4 σ = some (r, τ)) (hQ : Q (some (.inl r)) τ) : WpD (e + 8) mX11_layersBy [.inr (.inr (0, 0)), .inl a1, .inl a2, .inl a3, .inl a4] σ Q := by
  refine WpD.of (d := e + 7) (Nat.le_of_ble_eq_true rfl) (Nat.le_of_ble_eq_true rfl) ?_
  show Wp (WpD (e + 7)) hcX11_layersBy Q (0, [some (.inr (.inr (0, 0))), some (.inl a1), some (.inl a2), some (.inl a3), some (.inl a4), none, none, none, none], []) σ
  unfold F_X11_layersBy at h
  refine Wp.run (WpD.mono _) 0 (q := ((1, [some (.inr (.inr (0, 0))), some (.inl a1), some (.inl a2), some (.inl a3), some (.inl a4), none, none, none, none], [.inl a1]), σ)) rfl ?_
  obtain ⟨q1, hb, h⟩ := bind_some h
  refine Wp.call (WpD.mono _) rfl (T_X11_isSheet (e + 5) N a1 σ _ _ _ hb ?_)
  show Wp (WpD (e + 7)) hcX11_layersBy Q (4, [some (.inr (.inr (0, 0))), some (.inl a1), some (.inl a2), some (.inl a3), some (.inl a4), none, none, none, none], [.inl q1.1]) q1.2
  refine Wp.if0_eq (WpD.mono _) rfl rfl (fun hc => ?_) (fun hc => ?_)
  · have h := (if_pos hc).symm.trans h
    show Wp (WpD (e + 7)) hcX11_layersBy Q (26, [some (.inr (.inr (0, 0))), some (.inl a1), some (.inl a2), some (.inl a3), some (.inl a4), none, none, none, none], []) q1.2
    refine Wp.run (WpD.mono _) 0 (q := ((28, [none, none, none, none, none, none, none, none, none], [.inl (Int32.ofInt (-2))]), q1.2)) rfl ?_
    obtain ⟨rfl, rfl⟩ := ret_inj h
    exact Wp.ret (WpD.mono _) rfl hQ
  · have h := (if_neg hc).symm.trans h
    show Wp (WpD (e + 7)) hcX11_layersBy Q (7, [some (.inr (.inr (0, 0))), some (.inl a1), some (.inl a2), some (.inl a3), some (.inl a4), none, none, none, none], []) q1.2
    refine Wp.run (WpD.mono _) 2 (q := ((10, [some (.inr (.inr (0, 0))), some (.inl a1), some (.inl a2), some (.inl a3), some (.inl a4), none, none, none, none], [.inl (2 : Int32), .inl (0 : Int32), .inl a2]), q1.2)) rfl ?_
    obtain ⟨q2, hb, h⟩ := bind_some h
    refine Wp.call (WpD.mono _) rfl (T_X11_within (e + 6) N a2 (0 : Int32) (2 : Int32) q1.2 _ _ _ hb ?_)
    show Wp (WpD (e + 7)) hcX11_layersBy Q (13, [some (.inr (.inr (0, 0))), some (.inl a1), some (.inl a2), some (.inl a3), some (.inl a4), none, none, none, none], [.inl q2.1]) q2.2
    refine Wp.if0_eq (WpD.mono _) rfl rfl (fun hc => ?_) (fun hc => ?_)
    · have h := (if_pos hc).symm.trans h
      show Wp (WpD (e + 7)) hcX11_layersBy Q (26, [some (.inr (.inr (0, 0))), some (.inl a1), some (.inl a2), some (.inl a3), some (.inl a4), none, none, none, none], []) q2.2
      refine Wp.run (WpD.mono _) 0 (q := ((28, [none, none, none, none, none, none, none, none, none], [.inl (Int32.ofInt (-2))]), q2.2)) rfl ?_
      obtain ⟨rfl, rfl⟩ := ret_inj h
      exact Wp.ret (WpD.mono _) rfl hQ
    · have h := (if_neg hc).symm.trans h
      show Wp (WpD (e + 7)) hcX11_layersBy Q (16, [some (.inr (.inr (0, 0))), some (.inl a1), some (.inl a2), some (.inl a3), some (.inl a4), none, none, none, none], []) q2.2
      refine Wp.run (WpD.mono _) 2 (q := ((20, [some (.inr (.inr (0, 0))), some (.inl a1), some (.inl a2), some (.inl a3), some (.inl a4), none, none, none, none], [.inl (5 : Int32), .inl (0 : Int32), .inl a4]), q2.2)) rfl ?_
      obtain ⟨q3, hb, h⟩ := bind_some h
      refine Wp.call (WpD.mono _) rfl (T_X11_within (e + 6) N a4 (0 : Int32) (5 : Int32) q2.2 _ _ _ hb ?_)
      show Wp (WpD (e + 7)) hcX11_layersBy Q (23, [some (.inr (.inr (0, 0))), some (.inl a1), some (.inl a2), some (.inl a3), some (.inl a4), none, none, none, none], [.inl q3.1]) q3.2
      refine Wp.if0_ne (WpD.mono _) rfl rfl (fun hc => ?_) (fun hc => ?_)
      · have h := (if_pos hc).symm.trans h
        show Wp (WpD (e + 7)) hcX11_layersBy Q (26, [some (.inr (.inr (0, 0))), some (.inl a1), some (.inl a2), some (.inl a3), some (.inl a4), none, none, none, none], []) q3.2
        refine Wp.run (WpD.mono _) 0 (q := ((28, [none, none, none, none, none, none, none, none, none], [.inl (Int32.ofInt (-2))]), q3.2)) rfl ?_
        obtain ⟨rfl, rfl⟩ := ret_inj h
        exact Wp.ret (WpD.mono _) rfl hQ
      · have h := (if_neg hc).symm.trans h
        show Wp (WpD (e + 7)) hcX11_layersBy Q (29, [some (.inr (.inr (0, 0))), some (.inl a1), some (.inl a2), some (.inl a3), some (.inl a4), none, none, none, none], []) q3.2
        refine Wp.run (WpD.mono _) 2 (q := ((34, [some (.inr (.inr (0, 0))), some (.inl a1), some (.inl a2), some (.inl a3), some (.inl a4), none, none, none, none], [.inl a1, .inr (.inr (5, 0))]), q3.2)) rfl ?_
        obtain ⟨q4, hb, h⟩ := bind_some h
        refine Wp.call (WpD.mono _) rfl (T_X10_isMissing (e + 6) N a1 q3.2 _ _ _ hb ?_)
        show Wp (WpD (e + 7)) hcX11_layersBy Q (37, [some (.inr (.inr (0, 0))), some (.inl a1), some (.inl a2), some (.inl a3), some (.inl a4), none, none, none, none], [.inl q4.1]) q4.2
        refine Wp.if0_eq (WpD.mono _) rfl rfl (fun hc => ?_) (fun hc => ?_)
        · have h := (if_pos hc).symm.trans h
          show Wp (WpD (e + 7)) hcX11_layersBy Q (43, [some (.inr (.inr (0, 0))), some (.inl a1), some (.inl a2), some (.inl a3), some (.inl a4), none, none, none, none], []) q4.2
          refine Wp.run (WpD.mono _) 3 (q := ((51, [some (.inr (.inr (0, 0))), some (.inl a1), some (.inl a2), some (.inl a3), some (.inl a4), none, none, none, none], [.inl a1, .inr (.inr (70, 0))]), q4.2)) rfl ?_
          obtain ⟨hc, h⟩ := ite_nn h
          refine Wp.X_ild1 (WpD.mono _) rfl rfl hc ?_
          show Wp (WpD (e + 7)) hcX11_layersBy Q (52, [some (.inr (.inr (0, 0))), some (.inl a1), some (.inl a2), some (.inl a3), some (.inl a4), none, none, none, none], [.inl (q4.2.2.2.1 70 0 (a1).toNatClampNeg)]) q4.2
          refine Wp.run (WpD.mono _) 0 (q := ((53, [some (.inr (.inr (0, 0))), some (.inl a1), some (.inl a2), some (.inl a3), some (.inl a4), none, none, none, none], [.inl a2, .inl (q4.2.2.2.1 70 0 (a1).toNatClampNeg)]), q4.2)) rfl ?_
          refine Wp.if2_eq (WpD.mono _) rfl rfl (fun hc => ?_) (fun hc => ?_)
          · have h := (if_pos hc).symm.trans h
            show Wp (WpD (e + 7)) hcX11_layersBy Q (59, [some (.inr (.inr (0, 0))), some (.inl a1), some (.inl a2), some (.inl a3), some (.inl a4), none, none, none, none], []) q4.2
            refine Wp.run (WpD.mono _) 5 (q := ((68, [some (.inr (.inr (0, 0))), some (.inl a1), some (.inl a2), some (.inl a3), some (.inl a4), some (.inl (0 : Int32)), some (.inl (0 : Int32)), some (.inl a3), none], []), q4.2)) rfl ?_
            exact Wp.jump (WpD.mono _) rfl ((T_X11_layersBy_b68 e N  r τ Q hQ  N) a1 a4 (0 : Int32) (0 : Int32) a3 q4.2 h)
          · have h := (if_neg hc).symm.trans h
            show Wp (WpD (e + 7)) hcX11_layersBy Q (56, [some (.inr (.inr (0, 0))), some (.inl a1), some (.inl a2), some (.inl a3), some (.inl a4), none, none, none, none], []) q4.2
            refine Wp.run (WpD.mono _) 0 (q := ((58, [some (.inr (.inr (0, 0))), some (.inl a1), some (.inl a2), some (.inl a3), some (.inl a4), none, none, none, none], [.inl (Int32.ofInt (-13))]), q4.2)) rfl ?_
            obtain ⟨rfl, rfl⟩ := ret_inj h
            exact Wp.ret (WpD.mono _) rfl hQ
        · have h := (if_neg hc).symm.trans h
          show Wp (WpD (e + 7)) hcX11_layersBy Q (40, [some (.inr (.inr (0, 0))), some (.inl a1), some (.inl a2), some (.inl a3), some (.inl a4), none, none, none, none], []) q4.2
          refine Wp.run (WpD.mono _) 0 (q := ((42, [some (.inr (.inr (0, 0))), some (.inl a1), some (.inl a2), some (.inl a3), some (.inl a4), none, none, none, none], [.inl (Int32.ofInt (-11))]), q4.2)) rfl ?_
          obtain ⟨rfl, rfl⟩ := ret_inj h
          exact Wp.ret (WpD.mono _) rfl hQ

set_option maxRecDepth 100000 in
set_option maxHeartbeats 4000000 in
theorem T_X11_learn (e N : Nat)  (a1 : Int32) (σ : Mem) (r : Int64) (τ : Mem) (Q : Pst) (h : F_X11_learn N a1 σ = some (r, τ)) (hQ : Q (some (.inr (.inl r))) τ) : WpD (e + 16) mX11_learn [.inr (.inr (0, 0)), .inl a1] σ Q := by
  refine WpD.of (d := e + 15) (Nat.le_of_ble_eq_true rfl) (Nat.le_of_ble_eq_true rfl) ?_
  show Wp (WpD (e + 15)) hcX11_learn Q (0, [some (.inr (.inr (0, 0))), some (.inl a1)], []) σ
  unfold F_X11_learn at h
  refine Wp.run (WpD.mono _) 1 (q := ((2, [some (.inr (.inr (0, 0))), some (.inl a1)], [.inl a1, .inr (.inr (0, 0))]), σ)) rfl ?_
  obtain ⟨q1, hb, h⟩ := bind_some h
  refine Wp.call (WpD.mono _) rfl (T_X11_isPlace (e + 13) N a1 σ _ _ _ hb ?_)
  show Wp (WpD (e + 15)) hcX11_learn Q (5, [some (.inr (.inr (0, 0))), some (.inl a1)], [.inl q1.1]) q1.2
  refine Wp.if0_eq (WpD.mono _) rfl rfl (fun hc => ?_) (fun hc => ?_)
  · have h := (if_pos hc).symm.trans h
    show Wp (WpD (e + 15)) hcX11_learn Q (19, [some (.inr (.inr (0, 0))), some (.inl a1)], []) q1.2
    refine Wp.run (WpD.mono _) 0 (q := ((22, [some (.inr (.inr (0, 0))), some (.inl a1)], [.inr (.inl (Int64.ofInt (-4611686018427387904)))]), q1.2)) rfl ?_
    obtain ⟨rfl, rfl⟩ := ret_inj h
    exact Wp.ret (WpD.mono _) rfl hQ
  · have h := (if_neg hc).symm.trans h
    show Wp (WpD (e + 15)) hcX11_learn Q (8, [some (.inr (.inr (0, 0))), some (.inl a1)], []) q1.2
    refine Wp.run (WpD.mono _) 2 (q := ((13, [some (.inr (.inr (0, 0))), some (.inl a1)], [.inl a1, .inr (.inr (8, 0))]), q1.2)) rfl ?_
    obtain ⟨q2, hb, h⟩ := bind_some h
    refine Wp.call (WpD.mono _) rfl (T_X6_learning (e + 0) N a1 q1.2 _ _ _ hb ?_)
    show Wp (WpD (e + 15)) hcX11_learn Q (16, [some (.inr (.inr (0, 0))), some (.inl a1)], [.inr (.inl q2.1)]) q2.2
    refine Wp.run (WpD.mono _) 0 (q := ((22, [some (.inr (.inr (0, 0))), some (.inl a1)], [.inr (.inl q2.1)]), q2.2)) rfl ?_
    obtain ⟨rfl, rfl⟩ := ret_inj h
    exact Wp.ret (WpD.mono _) rfl hQ

set_option maxRecDepth 100000 in
set_option maxHeartbeats 4000000 in
theorem T_X11_likely (e N : Nat)  (a1 : Int32) (σ : Mem) (r : Int64) (τ : Mem) (Q : Pst) (h : F_X11_likely N a1 σ = some (r, τ)) (hQ : Q (some (.inr (.inl r))) τ) : WpD (e + 4) mX11_likely [.inr (.inr (0, 0)), .inl a1] σ Q := by
  refine WpD.of (d := e + 3) (Nat.le_of_ble_eq_true rfl) (Nat.le_of_ble_eq_true rfl) ?_
  show Wp (WpD (e + 3)) hcX11_likely Q (0, [some (.inr (.inr (0, 0))), some (.inl a1), none], []) σ
  unfold F_X11_likely at h
  refine Wp.run (WpD.mono _) 1 (q := ((2, [some (.inr (.inr (0, 0))), some (.inl a1), none], [.inl a1, .inr (.inr (0, 0))]), σ)) rfl ?_
  obtain ⟨q1, hb, h⟩ := bind_some h
  refine Wp.call (WpD.mono _) rfl (T_X11_isPlace (e + 1) N a1 σ _ _ _ hb ?_)
  show Wp (WpD (e + 3)) hcX11_likely Q (5, [some (.inr (.inr (0, 0))), some (.inl a1), none], [.inl q1.1]) q1.2
  refine Wp.if0_ne (WpD.mono _) rfl rfl (fun hc => ?_) (fun hc => ?_)
  · have h := (if_pos hc).symm.trans h
    show Wp (WpD (e + 3)) hcX11_likely Q (8, [some (.inr (.inr (0, 0))), some (.inl a1), none], []) q1.2
    refine Wp.run (WpD.mono _) 0 (q := ((11, [some (.inr (.inr (0, 0))), some (.inl a1), none], [.inr (.inl (Int64.ofInt (-4611686018427387904)))]), q1.2)) rfl ?_
    obtain ⟨rfl, rfl⟩ := ret_inj h
    exact Wp.ret (WpD.mono _) rfl hQ
  · have h := (if_neg hc).symm.trans h
    show Wp (WpD (e + 3)) hcX11_likely Q (12, [some (.inr (.inr (0, 0))), some (.inl a1), none], []) q1.2
    refine Wp.run (WpD.mono _) 2 (q := ((17, [some (.inr (.inr (0, 0))), some (.inl a1), none], [.inl a1, .inr (.inr (8, 0))]), q1.2)) rfl ?_
    obtain ⟨q2, hb, h⟩ := bind_some h
    refine Wp.call (WpD.mono _) rfl (T_X6_nextYard (e + 0) N a1 q1.2 _ _ _ hb ?_)
    show Wp (WpD (e + 3)) hcX11_likely Q (20, [some (.inr (.inr (0, 0))), some (.inl a1), none], [.inl q2.1]) q2.2
    refine Wp.run (WpD.mono _) 1 (q := ((22, [some (.inr (.inr (0, 0))), some (.inl a1), some (.inl q2.1)], [.inl q2.1]), q2.2)) rfl ?_
    refine Wp.if0_ne (WpD.mono _) rfl rfl (fun hc => ?_) (fun hc => ?_)
    · have h := (if_pos hc).symm.trans h
      show Wp (WpD (e + 3)) hcX11_likely Q (25, [some (.inr (.inr (0, 0))), some (.inl a1), some (.inl q2.1)], []) q2.2
      refine Wp.run (WpD.mono _) 0 (q := ((28, [some (.inr (.inr (0, 0))), some (.inl a1), some (.inl q2.1)], [.inr (.inl (Int64.ofInt (-3)))]), q2.2)) rfl ?_
      obtain ⟨rfl, rfl⟩ := ret_inj h
      exact Wp.ret (WpD.mono _) rfl hQ
    · have h := (if_neg hc).symm.trans h
      show Wp (WpD (e + 3)) hcX11_likely Q (29, [some (.inr (.inr (0, 0))), some (.inl a1), some (.inl q2.1)], []) q2.2
      refine Wp.run (WpD.mono _) 2 (q := ((34, [some (.inr (.inr (0, 0))), some (.inl a1), some (.inl q2.1)], [.inr (.inr (1, 0)), .inl q2.1]), q2.2)) rfl ?_
      obtain ⟨q3, hb, h⟩ := bind_some h
      refine Wp.call (WpD.mono _) rfl (T_X2_deepest (e + 2) N q2.2 _ _ _ hb ?_)
      show Wp (WpD (e + 3)) hcX11_likely Q (37, [some (.inr (.inr (0, 0))), some (.inl a1), some (.inl q2.1)], [.inl q3.1, .inl q2.1]) q3.2
      refine Wp.if2_le (WpD.mono _) rfl rfl (fun hc => ?_) (fun hc => ?_)
      · have h := (if_pos hc).symm.trans h
        show Wp (WpD (e + 3)) hcX11_likely Q (44, [some (.inr (.inr (0, 0))), some (.inl a1), some (.inl q2.1)], []) q3.2
        refine Wp.run (WpD.mono _) 2 (q := ((49, [some (.inr (.inr (0, 0))), some (.inl a1), some (.inl q2.1)], [.inl q2.1, .inr (.inr (8, 0))]), q3.2)) rfl ?_
        obtain ⟨q4, hb, h⟩ := bind_some h
        refine Wp.call (WpD.mono _) rfl (T_X6_wet (e + 1) N q2.1 q3.2 _ _ _ hb ?_)
        show Wp (WpD (e + 3)) hcX11_likely Q (52, [some (.inr (.inr (0, 0))), some (.inl a1), some (.inl q2.1)], [.inr (.inl q4.1)]) q4.2
        obtain ⟨rfl, rfl⟩ := ret_inj h
        exact Wp.ret (WpD.mono _) rfl hQ
      · have h := (if_neg hc).symm.trans h
        show Wp (WpD (e + 3)) hcX11_likely Q (40, [some (.inr (.inr (0, 0))), some (.inl a1), some (.inl q2.1)], []) q3.2
        refine Wp.run (WpD.mono _) 1 (q := ((52, [some (.inr (.inr (0, 0))), some (.inl a1), some (.inl q2.1)], [.inr (.inl (0 : Int64))]), q3.2)) rfl ?_
        obtain ⟨rfl, rfl⟩ := ret_inj h
        exact Wp.ret (WpD.mono _) rfl hQ

set_option maxRecDepth 100000 in
set_option maxHeartbeats 4000000 in
theorem T_X4_bestLining_b7 (e N : Nat)   (r : Int32) (τ : Mem) (Q : Pst) (hQ : Q (some (.inl r)) τ) : ∀ n, ∀ (x1 : Int32) (x2 : Int32) (x3 : Int64) (x5 : Int32) (σ : Mem), F_X4_bestLining_b7 N n x1 x2 x3 x5 σ = some (r, τ) → Wp (WpD (e + 1)) hcX4_bestLining Q (7, [some (.inr (.inr (2, 0))), some (.inl x1), some (.inl x2), some (.inr (.inl x3)), none, some (.inl x5), none, none], []) σ := by
  intro n
  induction n with
  | zero => intro x1 x2 x3 x5 σ h; cases h
  | succ n ih =>
    intro x1 x2 x3 x5 σ h
    unfold F_X4_bestLining_b7 at h
    refine Wp.run (WpD.mono _) 1 (q := ((10, [some (.inr (.inr (2, 0))), some (.inl x1), some (.inl x2), some (.inr (.inl x3)), none, some (.inl x5), none, none], [.inl x1, .inl x5]), σ)) rfl ?_
    refine Wp.if2_gt (WpD.mono _) rfl rfl (fun hc => ?_) (fun hc => ?_)
    · have h := (if_pos hc).symm.trans h
      show Wp (WpD (e + 1)) hcX4_bestLining Q (74, [some (.inr (.inr (2, 0))), some (.inl x1), some (.inl x2), some (.inr (.inl x3)), none, some (.inl x5), none, none], []) σ
      refine Wp.run (WpD.mono _) 0 (q := ((75, [some (.inr (.inr (2, 0))), some (.inl x1), some (.inl x2), some (.inr (.inl x3)), none, some (.inl x5), none, none], [.inl x2]), σ)) rfl ?_
      obtain ⟨rfl, rfl⟩ := ret_inj h
      exact Wp.ret (WpD.mono _) rfl hQ
    · have h := (if_neg hc).symm.trans h
      show Wp (WpD (e + 1)) hcX4_bestLining Q (13, [some (.inr (.inr (2, 0))), some (.inl x1), some (.inl x2), some (.inr (.inl x3)), none, some (.inl x5), none, none], []) σ
      refine Wp.run (WpD.mono _) 2 (q := ((17, [some (.inr (.inr (2, 0))), some (.inl x1), some (.inl x2), some (.inr (.inl x3)), none, some (.inl x5), none, none], [.inl x5, .inl x1, .inr (.inr (2, 0))]), σ)) rfl ?_
      obtain ⟨q1, hb, h⟩ := bind_some h
      refine Wp.call (WpD.mono _) rfl (T_X4_fallen (e + 0) N x1 x5 σ _ _ _ hb ?_)
      show Wp (WpD (e + 1)) hcX4_bestLining Q (20, [some (.inr (.inr (2, 0))), some (.inl x1), some (.inl x2), some (.inr (.inl x3)), none, some (.inl x5), none, none], [.inr (.inl q1.1)]) q1.2
      refine Wp.run (WpD.mono _) 1 (q := ((22, [some (.inr (.inr (2, 0))), some (.inl x1), some (.inl x2), some (.inr (.inl x3)), none, some (.inl x5), none, none], [.inl x1, .inr (.inr (2, 0)), .inr (.inl q1.1)]), q1.2)) rfl ?_
      obtain ⟨q2, hb, h⟩ := bind_some h
      refine Wp.call (WpD.mono _) rfl (T_X4_costsOf (e + 0) N x1 q1.2 _ _ _ hb ?_)
      show Wp (WpD (e + 1)) hcX4_bestLining Q (25, [some (.inr (.inr (2, 0))), some (.inl x1), some (.inl x2), some (.inr (.inl x3)), none, some (.inl x5), none, none], [.inl q2.1, .inr (.inl q1.1)]) q2.2
      refine Wp.run (WpD.mono _) 17 (q := ((52, [some (.inr (.inr (2, 0))), some (.inl x1), some (.inl x2), some (.inr (.inl x3)), none, some (.inl x5), some (.inr (.inl ((q1.1 * q2.1.toInt64) + (((1000000 : Int64) * (q2.2.2.2.1 28 0 4).toInt64) * (x1 - x5).toInt64)))), none], [.inl x5]), q2.2)) rfl ?_
      refine Wp.if0_eq (WpD.mono _) rfl rfl (fun hc => ?_) (fun hc => ?_)
      · have h := (if_pos hc).symm.trans h
        show Wp (WpD (e + 1)) hcX4_bestLining Q (62, [some (.inr (.inr (2, 0))), some (.inl x1), some (.inl x2), some (.inr (.inl x3)), none, some (.inl x5), some (.inr (.inl ((q1.1 * q2.1.toInt64) + (((1000000 : Int64) * (q2.2.2.2.1 28 0 4).toInt64) * (x1 - x5).toInt64)))), none], []) q2.2
        refine Wp.run (WpD.mono _) 5 (q := ((7, [some (.inr (.inr (2, 0))), some (.inl x1), some (.inl x5), some (.inr (.inl ((q1.1 * q2.1.toInt64) + (((1000000 : Int64) * (q2.2.2.2.1 28 0 4).toInt64) * (x1 - x5).toInt64)))), none, some (.inl (x5 + (1 : Int32))), none, none], []), q2.2)) rfl ?_
        exact Wp.jump (WpD.mono _) rfl (ih x1 x5 ((q1.1 * q2.1.toInt64) + (((1000000 : Int64) * (q2.2.2.2.1 28 0 4).toInt64) * (x1 - x5).toInt64)) (x5 + (1 : Int32)) q2.2 h)
      · have h := (if_neg hc).symm.trans h
        show Wp (WpD (e + 1)) hcX4_bestLining Q (55, [some (.inr (.inr (2, 0))), some (.inl x1), some (.inl x2), some (.inr (.inl x3)), none, some (.inl x5), some (.inr (.inl ((q1.1 * q2.1.toInt64) + (((1000000 : Int64) * (q2.2.2.2.1 28 0 4).toInt64) * (x1 - x5).toInt64)))), none], []) q2.2
        refine Wp.run (WpD.mono _) 2 (q := ((59, [some (.inr (.inr (2, 0))), some (.inl x1), some (.inl x2), some (.inr (.inl x3)), none, some (.inl x5), some (.inr (.inl ((q1.1 * q2.1.toInt64) + (((1000000 : Int64) * (q2.2.2.2.1 28 0 4).toInt64) * (x1 - x5).toInt64)))), none], [.inl (lg_cmp ((q1.1 * q2.1.toInt64) + (((1000000 : Int64) * (q2.2.2.2.1 28 0 4).toInt64) * (x1 - x5).toInt64)) x3)]), q2.2)) rfl ?_
        refine Wp.if0_ge (WpD.mono _) rfl rfl (fun hc => ?_) (fun hc => ?_)
        · have h := (if_pos hc).symm.trans h
          show Wp (WpD (e + 1)) hcX4_bestLining Q (68, [some (.inr (.inr (2, 0))), some (.inl x1), some (.inl x2), some (.inr (.inl x3)), none, some (.inl x5), some (.inr (.inl ((q1.1 * q2.1.toInt64) + (((1000000 : Int64) * (q2.2.2.2.1 28 0 4).toInt64) * (x1 - x5).toInt64)))), none], []) q2.2
          refine Wp.run (WpD.mono _) 1 (q := ((7, [some (.inr (.inr (2, 0))), some (.inl x1), some (.inl x2), some (.inr (.inl x3)), none, some (.inl (x5 + (1 : Int32))), none, none], []), q2.2)) rfl ?_
          exact Wp.jump (WpD.mono _) rfl (ih x1 x2 x3 (x5 + (1 : Int32)) q2.2 h)
        · have h := (if_neg hc).symm.trans h
          show Wp (WpD (e + 1)) hcX4_bestLining Q (62, [some (.inr (.inr (2, 0))), some (.inl x1), some (.inl x2), some (.inr (.inl x3)), none, some (.inl x5), some (.inr (.inl ((q1.1 * q2.1.toInt64) + (((1000000 : Int64) * (q2.2.2.2.1 28 0 4).toInt64) * (x1 - x5).toInt64)))), none], []) q2.2
          refine Wp.run (WpD.mono _) 5 (q := ((7, [some (.inr (.inr (2, 0))), some (.inl x1), some (.inl x5), some (.inr (.inl ((q1.1 * q2.1.toInt64) + (((1000000 : Int64) * (q2.2.2.2.1 28 0 4).toInt64) * (x1 - x5).toInt64)))), none, some (.inl (x5 + (1 : Int32))), none, none], []), q2.2)) rfl ?_
          exact Wp.jump (WpD.mono _) rfl (ih x1 x5 ((q1.1 * q2.1.toInt64) + (((1000000 : Int64) * (q2.2.2.2.1 28 0 4).toInt64) * (x1 - x5).toInt64)) (x5 + (1 : Int32)) q2.2 h)

set_option maxRecDepth 100000 in
set_option maxHeartbeats 4000000 in
theorem T_X4_bestLining (e N : Nat)  (a1 : Int32) (σ : Mem) (r : Int32) (τ : Mem) (Q : Pst) (h : F_X4_bestLining N a1 σ = some (r, τ)) (hQ : Q (some (.inl r)) τ) : WpD (e + 2) mX4_bestLining [.inr (.inr (2, 0)), .inl a1] σ Q := by
  refine WpD.of (d := e + 1) (Nat.le_of_ble_eq_true rfl) (Nat.le_of_ble_eq_true rfl) ?_
  show Wp (WpD (e + 1)) hcX4_bestLining Q (0, [some (.inr (.inr (2, 0))), some (.inl a1), none, none, none, none, none, none], []) σ
  unfold F_X4_bestLining at h
  refine Wp.run (WpD.mono _) 5 (q := ((7, [some (.inr (.inr (2, 0))), some (.inl a1), some (.inl (0 : Int32)), some (.inr (.inl (0 : Int64))), none, some (.inl (0 : Int32)), none, none], []), σ)) rfl ?_
  exact Wp.jump (WpD.mono _) rfl ((T_X4_bestLining_b7 e N  r τ Q hQ  N) a1 (0 : Int32) (0 : Int64) (0 : Int32) σ h)

set_option maxRecDepth 100000 in
set_option maxHeartbeats 4000000 in
theorem T_X11_line (e N : Nat)  (a1 : Int32) (σ : Mem) (r : Int32) (τ : Mem) (Q : Pst) (h : F_X11_line N a1 σ = some (r, τ)) (hQ : Q (some (.inl r)) τ) : WpD (e + 3) mX11_line [.inr (.inr (0, 0)), .inl a1] σ Q := by
  refine WpD.of (d := e + 2) (Nat.le_of_ble_eq_true rfl) (Nat.le_of_ble_eq_true rfl) ?_
  show Wp (WpD (e + 2)) hcX11_line Q (0, [some (.inr (.inr (0, 0))), some (.inl a1)], []) σ
  unfold F_X11_line at h
  refine Wp.run (WpD.mono _) 2 (q := ((3, [some (.inr (.inr (0, 0))), some (.inl a1)], [.inl (5 : Int32), .inl (0 : Int32), .inl a1]), σ)) rfl ?_
  obtain ⟨q1, hb, h⟩ := bind_some h
  refine Wp.call (WpD.mono _) rfl (T_X11_within (e + 1) N a1 (0 : Int32) (5 : Int32) σ _ _ _ hb ?_)
  show Wp (WpD (e + 2)) hcX11_line Q (6, [some (.inr (.inr (0, 0))), some (.inl a1)], [.inl q1.1]) q1.2
  refine Wp.if0_eq (WpD.mono _) rfl rfl (fun hc => ?_) (fun hc => ?_)
  · have h := (if_pos hc).symm.trans h
    show Wp (WpD (e + 2)) hcX11_line Q (20, [some (.inr (.inr (0, 0))), some (.inl a1)], []) q1.2
    refine Wp.run (WpD.mono _) 0 (q := ((22, [some (.inr (.inr (0, 0))), some (.inl a1)], [.inl (Int32.ofInt (-2))]), q1.2)) rfl ?_
    obtain ⟨rfl, rfl⟩ := ret_inj h
    exact Wp.ret (WpD.mono _) rfl hQ
  · have h := (if_neg hc).symm.trans h
    show Wp (WpD (e + 2)) hcX11_line Q (9, [some (.inr (.inr (0, 0))), some (.inl a1)], []) q1.2
    refine Wp.run (WpD.mono _) 2 (q := ((14, [some (.inr (.inr (0, 0))), some (.inl a1)], [.inl a1, .inr (.inr (2, 0))]), q1.2)) rfl ?_
    obtain ⟨q2, hb, h⟩ := bind_some h
    refine Wp.call (WpD.mono _) rfl (T_X4_bestLining (e + 0) N a1 q1.2 _ _ _ hb ?_)
    show Wp (WpD (e + 2)) hcX11_line Q (17, [some (.inr (.inr (0, 0))), some (.inl a1)], [.inl q2.1]) q2.2
    refine Wp.run (WpD.mono _) 0 (q := ((22, [some (.inr (.inr (0, 0))), some (.inl a1)], [.inl q2.1]), q2.2)) rfl ?_
    obtain ⟨rfl, rfl⟩ := ret_inj h
    exact Wp.ret (WpD.mono _) rfl hQ

set_option maxRecDepth 100000 in
set_option maxHeartbeats 4000000 in
theorem T_X2_goodOf (e N : Nat)  (a1 : Int32) (a2 : Int32) (σ : Mem) (r : Int32) (τ : Mem) (Q : Pst) (h : F_X2_goodOf N a1 a2 σ = some (r, τ)) (hQ : Q (some (.inl r)) τ) : WpD (e + 1) mX2_goodOf [.inr (.inr (1, 0)), .inl a1, .inl a2] σ Q := by
  refine WpD.of (d := e + 0) (Nat.le_of_ble_eq_true rfl) (Nat.le_of_ble_eq_true rfl) ?_
  show Wp (WpD (e + 0)) hcX2_goodOf Q (0, [some (.inr (.inr (1, 0))), some (.inl a1), some (.inl a2)], []) σ
  unfold F_X2_goodOf at h
  refine Wp.run (WpD.mono _) 4 (q := ((7, [some (.inr (.inr (1, 0))), some (.inl a1), some (.inl a2)], [.inl a1, .inr (.inr (23, 0)), .inl a2, .inl (0 : Int32)]), σ)) rfl ?_
  obtain ⟨hc, h⟩ := ite_nn h
  refine Wp.X_ild1 (WpD.mono _) rfl rfl hc ?_
  show Wp (WpD (e + 0)) hcX2_goodOf Q (8, [some (.inr (.inr (1, 0))), some (.inl a1), some (.inl a2)], [.inl (σ.2.2.1 23 0 (a1).toNatClampNeg), .inl a2, .inl (0 : Int32)]) σ
  refine Wp.run (WpD.mono _) 1 (q := ((12, [some (.inr (.inr (1, 0))), some (.inl a1), some (.inl a2)], [.inl (if (0 : Int32) < (a2 - (σ.2.2.1 23 0 (a1).toNatClampNeg)) then (a2 - (σ.2.2.1 23 0 (a1).toNatClampNeg)) else (0 : Int32))]), σ)) rfl ?_
  obtain ⟨rfl, rfl⟩ := ret_inj h
  exact Wp.ret (WpD.mono _) rfl hQ

set_option maxRecDepth 100000 in
set_option maxHeartbeats 4000000 in
theorem T_X5_find_b12 (e N : Nat)   (r : Unit) (τ : Mem) (Q : Pst) (hQ : Q (none) τ) : ∀ n, ∀ (x1 : Int32) (x2 : Int64) (x4 : Int32) (x6 : Int32) (σ : Mem), F_X5_find_b12 N n x1 x2 x4 x6 σ = some (r, τ) → Wp (WpD (e + 1)) hcX5_find Q (12, [some (.inr (.inr (9, 0))), some (.inl x1), some (.inr (.inl x2)), none, some (.inl x4), some (.inr (.inr (1, 0))), some (.inl x6), none, none], []) σ := by
  intro n
  induction n with
  | zero => intro x1 x2 x4 x6 σ h; cases h
  | succ n ih =>
    intro x1 x2 x4 x6 σ h
    unfold F_X5_find_b12 at h
    refine Wp.run (WpD.mono _) 2 (q := ((19, [some (.inr (.inr (9, 0))), some (.inl x1), some (.inr (.inl x2)), none, some (.inl x4), some (.inr (.inr (1, 0))), some (.inl x6), none, none], [.inl (σ.1 1 6), .inl x6]), σ)) rfl ?_
    refine Wp.if2_ge (WpD.mono _) rfl rfl (fun hc => ?_) (fun hc => ?_)
    · have h := (if_pos hc).symm.trans h
      show Wp (WpD (e + 1)) hcX5_find Q (97, [some (.inr (.inr (9, 0))), some (.inl x1), some (.inr (.inl x2)), none, some (.inl x4), some (.inr (.inr (1, 0))), some (.inl x6), none, none], []) σ
      obtain ⟨rfl, rfl⟩ := ret_inj h
      exact Wp.ret (WpD.mono _) rfl hQ
    · have h := (if_neg hc).symm.trans h
      show Wp (WpD (e + 1)) hcX5_find Q (22, [some (.inr (.inr (9, 0))), some (.inl x1), some (.inr (.inl x2)), none, some (.inl x4), some (.inr (.inr (1, 0))), some (.inl x6), none, none], []) σ
      refine Wp.run (WpD.mono _) 3 (q := ((29, [some (.inr (.inr (9, 0))), some (.inl x1), some (.inr (.inl x2)), none, some (.inl x4), some (.inr (.inr (1, 0))), some (.inl x6), none, none], [.inl x6, .inl x1, .inr (.inr (8, 0))]), σ)) rfl ?_
      obtain ⟨q1, hb, h⟩ := bind_some h
      refine Wp.call (WpD.mono _) rfl (T_X6_wetOf (e + 0) N x1 x6 σ _ _ _ hb ?_)
      show Wp (WpD (e + 1)) hcX5_find Q (32, [some (.inr (.inr (9, 0))), some (.inl x1), some (.inr (.inl x2)), none, some (.inl x4), some (.inr (.inr (1, 0))), some (.inl x6), none, none], [.inr (.inl q1.1)]) q1.2
      refine Wp.run (WpD.mono _) 26 (q := ((79, [some (.inr (.inr (9, 0))), some (.inl x1), some (.inr (.inl x2)), none, some (.inl x4), some (.inr (.inr (1, 0))), some (.inl x6), some (.inr (.inl ((q1.1 * x2) / (1000000 : Int64)))), none], [.inr (.inr (1, 0)), .inl x6, .inr (.inr (1, 0)), .inr (.inl ((q1.1 * x2) / (1000000 : Int64))), .inr (.inl (q1.2.2.1 9 6)), .inr (.inr (9, 0))]), (q1.2.1, (hwU2 (hwU2 q1.2.2.1 9 4 ((q1.2.2.1 9 4) + ((q1.1 * x2) / (1000000 : Int64)))) 9 3 ((q1.2.2.1 9 3) + (((q1.1 * x2) / (1000000 : Int64)) * x4.toInt64))), q1.2.2.2.1, q1.2.2.2.2.1, q1.2.2.2.2.2))) rfl ?_
      obtain ⟨q2, hb, h⟩ := bind_some h
      refine Wp.call (WpD.mono _) rfl (T_X2_worth (e + 0) N (q1.2.1, (hwU2 (hwU2 q1.2.2.1 9 4 ((q1.2.2.1 9 4) + ((q1.1 * x2) / (1000000 : Int64)))) 9 3 ((q1.2.2.1 9 3) + (((q1.1 * x2) / (1000000 : Int64)) * x4.toInt64))), q1.2.2.2.1, q1.2.2.2.2.1, q1.2.2.2.2.2) _ _ _ hb ?_)
      show Wp (WpD (e + 1)) hcX5_find Q (82, [some (.inr (.inr (9, 0))), some (.inl x1), some (.inr (.inl x2)), none, some (.inl x4), some (.inr (.inr (1, 0))), some (.inl x6), some (.inr (.inl ((q1.1 * x2) / (1000000 : Int64)))), none], [.inl q2.1, .inl x6, .inr (.inr (1, 0)), .inr (.inl ((q1.1 * x2) / (1000000 : Int64))), .inr (.inl (q1.2.2.1 9 6)), .inr (.inr (9, 0))]) q2.2
      obtain ⟨q3, hb, h⟩ := bind_some h
      refine Wp.call (WpD.mono _) rfl (T_X2_goodOf (e + 0) N x6 q2.1 q2.2 _ _ _ hb ?_)
      show Wp (WpD (e + 1)) hcX5_find Q (85, [some (.inr (.inr (9, 0))), some (.inl x1), some (.inr (.inl x2)), none, some (.inl x4), some (.inr (.inr (1, 0))), some (.inl x6), some (.inr (.inl ((q1.1 * x2) / (1000000 : Int64)))), none], [.inl q3.1, .inr (.inl ((q1.1 * x2) / (1000000 : Int64))), .inr (.inl (q1.2.2.1 9 6)), .inr (.inr (9, 0))]) q3.2
      refine Wp.run (WpD.mono _) 5 (q := ((12, [some (.inr (.inr (9, 0))), some (.inl x1), some (.inr (.inl x2)), none, some (.inl x4), some (.inr (.inr (1, 0))), some (.inl (x6 + (1 : Int32))), some (.inr (.inl ((q1.1 * x2) / (1000000 : Int64)))), none], []), (q3.2.1, (hwU2 q3.2.2.1 9 6 ((q1.2.2.1 9 6) + (((q1.1 * x2) / (1000000 : Int64)) * q3.1.toInt64))), q3.2.2.2.1, q3.2.2.2.2.1, q3.2.2.2.2.2))) rfl ?_
      exact Wp.jump (WpD.mono _) rfl (ih x1 x2 x4 (x6 + (1 : Int32)) (q3.2.1, (hwU2 q3.2.2.1 9 6 ((q1.2.2.1 9 6) + (((q1.1 * x2) / (1000000 : Int64)) * q3.1.toInt64))), q3.2.2.2.1, q3.2.2.2.2.1, q3.2.2.2.2.2) h)

set_option maxRecDepth 100000 in
set_option maxHeartbeats 4000000 in
theorem T_X5_find (e N : Nat)  (a1 : Int32) (a2 : Int64) (a3 : Int32) (σ : Mem) (r : Unit) (τ : Mem) (Q : Pst) (h : F_X5_find N a1 a2 a3 σ = some (r, τ)) (hQ : Q (none) τ) : WpD (e + 2) mX5_find [.inr (.inr (9, 0)), .inl a1, .inr (.inl a2), .inl a3] σ Q := by
  refine WpD.of (d := e + 1) (Nat.le_of_ble_eq_true rfl) (Nat.le_of_ble_eq_true rfl) ?_
  show Wp (WpD (e + 1)) hcX5_find Q (0, [some (.inr (.inr (9, 0))), some (.inl a1), some (.inr (.inl a2)), none, some (.inl a3), none, none, none, none], []) σ
  unfold F_X5_find at h
  refine Wp.run (WpD.mono _) 5 (q := ((12, [some (.inr (.inr (9, 0))), some (.inl a1), some (.inr (.inl a2)), none, some (.inl a3), some (.inr (.inr (1, 0))), some (.inl (0 : Int32)), none, none], []), σ)) rfl ?_
  exact Wp.jump (WpD.mono _) rfl ((T_X5_find_b12 e N  r τ Q hQ  N) a1 a2 a3 (0 : Int32) σ h)

set_option maxRecDepth 100000 in
set_option maxHeartbeats 4000000 in
theorem T_X5_descend_b98 (e N : Nat) (g0 : Int32 → Int32 → Int64 → Int32 → Mem → Option (Unit × Mem)) (hg0 : ∀ (a1 : Int32) (a2 : Int32) (a3 : Int64) (a4 : Int32) (σ : Mem) (r : Unit) (τ : Mem) (Q : Pst), g0 a1 a2 a3 a4 σ = some (r, τ) → Q (none) τ → WpD (e + 13) mX5_descend [.inr (.inr (9, 0)), .inl a1, .inl a2, .inr (.inl a3), .inl a4] σ Q)  (r : Unit) (τ : Mem) (Q : Pst) (hQ : Q (none) τ) : ∀ n, ∀ (x3 : Int64) (x6 : Int32) (x7 : Int32) (x8 : Int32) (σ : Mem), F_X5_descend_b98 N g0 n x3 x6 x7 x8 σ = some (r, τ) → Wp (WpD (e + 13)) hcX5_descend Q (98, [some (.inr (.inr (9, 0))), none, none, some (.inr (.inl x3)), none, none, some (.inl x6), some (.inl x7), some (.inl x8), none, none], []) σ := by
  intro n
  induction n with
  | zero => intro x3 x6 x7 x8 σ h; cases h
  | succ n ih =>
    intro x3 x6 x7 x8 σ h
    unfold F_X5_descend_b98 at h
    refine Wp.run (WpD.mono _) 1 (q := ((101, [some (.inr (.inr (9, 0))), none, none, some (.inr (.inl x3)), none, none, some (.inl x6), some (.inl x7), some (.inl x8), none, none], [.inl (3 : Int32), .inl x8]), σ)) rfl ?_
    refine Wp.if2_ge (WpD.mono _) rfl rfl (fun hc => ?_) (fun hc => ?_)
    · have h := (if_pos hc).symm.trans h
      show Wp (WpD (e + 13)) hcX5_descend Q (148, [some (.inr (.inr (9, 0))), none, none, some (.inr (.inl x3)), none, none, some (.inl x6), some (.inl x7), some (.inl x8), none, none], []) σ
      obtain ⟨rfl, rfl⟩ := ret_inj h
      exact Wp.ret (WpD.mono _) rfl hQ
    · have h := (if_neg hc).symm.trans h
      show Wp (WpD (e + 13)) hcX5_descend Q (104, [some (.inr (.inr (9, 0))), none, none, some (.inr (.inl x3)), none, none, some (.inl x6), some (.inl x7), some (.inl x8), none, none], []) σ
      refine Wp.run (WpD.mono _) 3 (q := ((112, [some (.inr (.inr (9, 0))), none, none, some (.inr (.inl x3)), none, none, some (.inl x6), some (.inl x7), some (.inl x8), none, none], [.inl x8, .inl x6, .inr (.inr (8, 0))]), σ)) rfl ?_
      obtain ⟨q3, hb, h⟩ := bind_some h
      refine Wp.call (WpD.mono _) rfl (T_X6_pass (e + 11) N x6 x8 σ _ _ _ hb ?_)
      show Wp (WpD (e + 13)) hcX5_descend Q (115, [some (.inr (.inr (9, 0))), none, none, some (.inr (.inl x3)), none, none, some (.inl x6), some (.inl x7), some (.inl x8), none, none], [.inr (.inl q3.1)]) q3.2
      refine Wp.run (WpD.mono _) 3 (q := ((121, [some (.inr (.inr (9, 0))), none, none, some (.inr (.inl x3)), none, none, some (.inl x6), some (.inl x7), some (.inl x8), some (.inr (.inl q3.1)), none], [.inl (lg_cmp q3.1 (0 : Int64))]), q3.2)) rfl ?_
      refine Wp.if0_le (WpD.mono _) rfl rfl (fun hc => ?_) (fun hc => ?_)
      · have h := (if_pos hc).symm.trans h
        show Wp (WpD (e + 13)) hcX5_descend Q (142, [some (.inr (.inr (9, 0))), none, none, some (.inr (.inl x3)), none, none, some (.inl x6), some (.inl x7), some (.inl x8), some (.inr (.inl q3.1)), none], []) q3.2
        refine Wp.run (WpD.mono _) 1 (q := ((98, [some (.inr (.inr (9, 0))), none, none, some (.inr (.inl x3)), none, none, some (.inl x6), some (.inl x7), some (.inl (x8 + (1 : Int32))), none, none], []), q3.2)) rfl ?_
        exact Wp.jump (WpD.mono _) rfl (ih x3 x6 x7 (x8 + (1 : Int32)) q3.2 h)
      · have h := (if_neg hc).symm.trans h
        show Wp (WpD (e + 13)) hcX5_descend Q (124, [some (.inr (.inr (9, 0))), none, none, some (.inr (.inl x3)), none, none, some (.inl x6), some (.inl x7), some (.inl x8), some (.inr (.inl q3.1)), none], []) q3.2
        refine Wp.run (WpD.mono _) 8 (q := ((139, [some (.inr (.inr (9, 0))), none, none, some (.inr (.inl x3)), none, none, some (.inl x6), some (.inl x7), some (.inl x8), some (.inr (.inl q3.1)), none], [.inl x7, .inr (.inl ((x3 * q3.1) / (1000000 : Int64))), .inl x8, .inl x6, .inr (.inr (9, 0))]), q3.2)) rfl ?_
        obtain ⟨q4, hb, h⟩ := bind_some h
        refine Wp.call (WpD.mono _) rfl (hg0 x6 x8 ((x3 * q3.1) / (1000000 : Int64)) x7 q3.2 _ _ _ hb ?_)
        show Wp (WpD (e + 13)) hcX5_descend Q (142, [some (.inr (.inr (9, 0))), none, none, some (.inr (.inl x3)), none, none, some (.inl x6), some (.inl x7), some (.inl x8), some (.inr (.inl q3.1)), none], []) q4.2
        refine Wp.run (WpD.mono _) 1 (q := ((98, [some (.inr (.inr (9, 0))), none, none, some (.inr (.inl x3)), none, none, some (.inl x6), some (.inl x7), some (.inl (x8 + (1 : Int32))), none, none], []), q4.2)) rfl ?_
        exact Wp.jump (WpD.mono _) rfl (ih x3 x6 x7 (x8 + (1 : Int32)) q4.2 h)

set_option maxRecDepth 100000 in
set_option maxHeartbeats 4000000 in
theorem T_X5_descend_b21 (e N : Nat) (g0 : Int32 → Int32 → Int64 → Int32 → Mem → Option (Unit × Mem)) (hg0 : ∀ (a1 : Int32) (a2 : Int32) (a3 : Int64) (a4 : Int32) (σ : Mem) (r : Unit) (τ : Mem) (Q : Pst), g0 a1 a2 a3 a4 σ = some (r, τ) → Q (none) τ → WpD (e + 13) mX5_descend [.inr (.inr (9, 0)), .inl a1, .inl a2, .inr (.inl a3), .inl a4] σ Q)  (r : Unit) (τ : Mem) (Q : Pst) (hQ : Q (none) τ) : ∀ (x3 : Int64) (x5 : Int32) (σ : Mem), F_X5_descend_b21 N g0 x3 x5 σ = some (r, τ) → Wp (WpD (e + 13)) hcX5_descend Q (21, [some (.inr (.inr (9, 0))), none, none, some (.inr (.inl x3)), none, some (.inl x5), none, none, none, none, none], []) σ := by
  intro x3 x5 σ h
  unfold F_X5_descend_b21 at h
  refine Wp.run (WpD.mono _) 15 (q := ((49, [some (.inr (.inr (9, 0))), none, none, some (.inr (.inl x3)), none, some (.inl x5), none, none, none, none, none], [.inl (σ.2.2.1 28 0 3), .inl x5]), (σ.1, (hwU2 σ.2.1 9 3 ((σ.2.1 9 3) + (x3 * x5.toInt64))), σ.2.2.1, σ.2.2.2.1, σ.2.2.2.2))) rfl ?_
  refine Wp.if2_le (WpD.mono _) rfl rfl (fun hc => ?_) (fun hc => ?_)
  · have h := (if_pos hc).symm.trans h
    show Wp (WpD (e + 13)) hcX5_descend Q (62, [some (.inr (.inr (9, 0))), none, none, some (.inr (.inl x3)), none, some (.inl x5), none, none, none, none, none], []) (σ.1, (hwU2 σ.2.1 9 3 ((σ.2.1 9 3) + (x3 * x5.toInt64))), σ.2.2.1, σ.2.2.2.1, σ.2.2.2.2)
    obtain ⟨rfl, rfl⟩ := ret_inj h
    exact Wp.ret (WpD.mono _) rfl hQ
  · have h := (if_neg hc).symm.trans h
    show Wp (WpD (e + 13)) hcX5_descend Q (52, [some (.inr (.inr (9, 0))), none, none, some (.inr (.inl x3)), none, some (.inl x5), none, none, none, none, none], []) (σ.1, (hwU2 σ.2.1 9 3 ((σ.2.1 9 3) + (x3 * x5.toInt64))), σ.2.2.1, σ.2.2.2.1, σ.2.2.2.2)
    refine Wp.run (WpD.mono _) 5 (q := ((62, [some (.inr (.inr (9, 0))), none, none, some (.inr (.inl x3)), none, some (.inl x5), none, none, none, none, none], []), (σ.1, (hwU2 (hwU2 σ.2.1 9 3 ((σ.2.1 9 3) + (x3 * x5.toInt64))) 9 5 ((σ.2.1 9 5) + x3)), σ.2.2.1, σ.2.2.2.1, σ.2.2.2.2))) rfl ?_
    obtain ⟨rfl, rfl⟩ := ret_inj h
    exact Wp.ret (WpD.mono _) rfl hQ

set_option maxRecDepth 100000 in
set_option maxHeartbeats 4000000 in
theorem TB_X5_descend (e N : Nat) (g0 : Int32 → Int32 → Int64 → Int32 → Mem → Option (Unit × Mem)) (hg0 : ∀ (a1 : Int32) (a2 : Int32) (a3 : Int64) (a4 : Int32) (σ : Mem) (r : Unit) (τ : Mem) (Q : Pst), g0 a1 a2 a3 a4 σ = some (r, τ) → Q (none) τ → WpD (e + 13) mX5_descend [.inr (.inr (9, 0)), .inl a1, .inl a2, .inr (.inl a3), .inl a4] σ Q) (a1 : Int32) (a2 : Int32) (a3 : Int64) (a4 : Int32) (σ : Mem) (r : Unit) (τ : Mem) (Q : Pst) (h : B_X5_descend N g0 a1 a2 a3 a4 σ = some (r, τ)) (hQ : Q (none) τ) : WpD (e + 1 + 13) mX5_descend [.inr (.inr (9, 0)), .inl a1, .inl a2, .inr (.inl a3), .inl a4] σ Q := by
  refine WpD.of (d := e + 13) (Nat.le_of_ble_eq_true rfl) (Nat.le_of_ble_eq_true rfl) ?_
  show Wp (WpD (e + 13)) hcX5_descend Q (0, [some (.inr (.inr (9, 0))), some (.inl a1), some (.inl a2), some (.inr (.inl a3)), none, some (.inl a4), none, none, none, none, none], []) σ
  unfold B_X5_descend at h
  refine Wp.run (WpD.mono _) 1 (q := ((2, [some (.inr (.inr (9, 0))), some (.inl a1), some (.inl a2), some (.inr (.inl a3)), none, some (.inl a4), none, none, none, none, none], [.inl (5 : Int32), .inl a1]), σ)) rfl ?_
  refine Wp.if2_ge (WpD.mono _) rfl rfl (fun hc => ?_) (fun hc => ?_)
  · have h := (if_pos hc).symm.trans h
    show Wp (WpD (e + 13)) hcX5_descend Q (21, [some (.inr (.inr (9, 0))), some (.inl a1), some (.inl a2), some (.inr (.inl a3)), none, some (.inl a4), none, none, none, none, none], []) σ
    exact Wp.jump (WpD.mono _) rfl ((T_X5_descend_b21 e N g0 hg0 r τ Q hQ ) a3 a4 σ h)
  · have h := (if_neg hc).symm.trans h
    show Wp (WpD (e + 13)) hcX5_descend Q (5, [some (.inr (.inr (9, 0))), some (.inl a1), some (.inl a2), some (.inr (.inl a3)), none, some (.inl a4), none, none, none, none, none], []) σ
    refine Wp.run (WpD.mono _) 5 (q := ((15, [some (.inr (.inr (9, 0))), some (.inl a1), some (.inl a2), some (.inr (.inl a3)), none, some (.inl a4), none, none, none, none, none], [.inl a2, .inl a1, .inl (σ.1 9 2), .inr (.inr (6, 0))]), σ)) rfl ?_
    obtain ⟨q1, hb, h⟩ := bind_some h
    refine Wp.call (WpD.mono _) rfl (T_X9_goesOn (e + 0) N (σ.1 9 2) a1 a2 σ _ _ _ hb ?_)
    show Wp (WpD (e + 13)) hcX5_descend Q (18, [some (.inr (.inr (9, 0))), some (.inl a1), some (.inl a2), some (.inr (.inl a3)), none, some (.inl a4), none, none, none, none, none], [.inl q1.1]) q1.2
    refine Wp.if0_ne (WpD.mono _) rfl rfl (fun hc => ?_) (fun hc => ?_)
    · have h := (if_pos hc).symm.trans h
      show Wp (WpD (e + 13)) hcX5_descend Q (21, [some (.inr (.inr (9, 0))), some (.inl a1), some (.inl a2), some (.inr (.inl a3)), none, some (.inl a4), none, none, none, none, none], []) q1.2
      exact Wp.jump (WpD.mono _) rfl ((T_X5_descend_b21 e N g0 hg0 r τ Q hQ ) a3 a4 q1.2 h)
    · have h := (if_neg hc).symm.trans h
      show Wp (WpD (e + 13)) hcX5_descend Q (63, [some (.inr (.inr (9, 0))), some (.inl a1), some (.inl a2), some (.inr (.inl a3)), none, some (.inl a4), none, none, none, none, none], []) q1.2
      refine Wp.run (WpD.mono _) 9 (q := ((82, [some (.inr (.inr (9, 0))), some (.inl a1), some (.inl a2), some (.inr (.inl a3)), none, some (.inl a4), some (.inl (a1 + (1 : Int32))), none, none, none, none], [.inl (a1 + (1 : Int32)), .inr (.inr (42, 0)), .inl a4]), q1.2)) rfl ?_
      obtain ⟨hc, h⟩ := ite_nn h
      refine Wp.X_ild1 (WpD.mono _) rfl rfl hc ?_
      show Wp (WpD (e + 13)) hcX5_descend Q (83, [some (.inr (.inr (9, 0))), some (.inl a1), some (.inl a2), some (.inr (.inl a3)), none, some (.inl a4), some (.inl (a1 + (1 : Int32))), none, none, none, none], [.inl (q1.2.2.2.1 42 0 ((a1 + (1 : Int32))).toNatClampNeg), .inl a4]) q1.2
      refine Wp.run (WpD.mono _) 5 (q := ((92, [some (.inr (.inr (9, 0))), some (.inl a1), some (.inl a2), some (.inr (.inl a3)), none, some (.inl a4), some (.inl (a1 + (1 : Int32))), some (.inl (a4 + (q1.2.2.2.1 42 0 ((a1 + (1 : Int32))).toNatClampNeg))), none, none, none], [.inl (a4 + (q1.2.2.2.1 42 0 ((a1 + (1 : Int32))).toNatClampNeg)), .inr (.inl a3), .inl (a1 + (1 : Int32)), .inr (.inr (9, 0))]), q1.2)) rfl ?_
      obtain ⟨q2, hb, h⟩ := bind_some h
      refine Wp.call (WpD.mono _) rfl (T_X5_find (e + 11) N (a1 + (1 : Int32)) a3 (a4 + (q1.2.2.2.1 42 0 ((a1 + (1 : Int32))).toNatClampNeg)) q1.2 _ _ _ hb ?_)
      show Wp (WpD (e + 13)) hcX5_descend Q (95, [some (.inr (.inr (9, 0))), some (.inl a1), some (.inl a2), some (.inr (.inl a3)), none, some (.inl a4), some (.inl (a1 + (1 : Int32))), some (.inl (a4 + (q1.2.2.2.1 42 0 ((a1 + (1 : Int32))).toNatClampNeg))), none, none, none], []) q2.2
      refine Wp.run (WpD.mono _) 1 (q := ((98, [some (.inr (.inr (9, 0))), some (.inl a1), some (.inl a2), some (.inr (.inl a3)), none, some (.inl a4), some (.inl (a1 + (1 : Int32))), some (.inl (a4 + (q1.2.2.2.1 42 0 ((a1 + (1 : Int32))).toNatClampNeg))), some (.inl (0 : Int32)), none, none], []), q2.2)) rfl ?_
      exact Wp.jump (WpD.mono _) rfl ((T_X5_descend_b98 e N g0 hg0 r τ Q hQ  N) a3 (a1 + (1 : Int32)) (a4 + (q1.2.2.2.1 42 0 ((a1 + (1 : Int32))).toNatClampNeg)) (0 : Int32) q2.2 h)

set_option maxRecDepth 100000 in
theorem TG_X5_descend (e N : Nat) : ∀ d : Nat, (∀ (a1 : Int32) (a2 : Int32) (a3 : Int64) (a4 : Int32) (σ : Mem) (r : Unit) (τ : Mem) (Q : Pst), (G_X5_descend N d) a1 a2 a3 a4 σ = some (r, τ) → Q (none) τ → WpD (e + d + 13) mX5_descend [.inr (.inr (9, 0)), .inl a1, .inl a2, .inr (.inl a3), .inl a4] σ Q) := by
  intro d
  induction d with
  | zero =>
    exact fun _ _ _ _ _ _ _ _ h => (nomatch h)
  | succ d ih =>
    exact (fun a1 a2 a3 a4 σ r τ Q h hQ => TB_X5_descend (e + d) N (G_X5_descend N d) ih a1 a2 a3 a4 σ r τ Q h hQ)

theorem T_X5_descend (e N : Nat) (a1 : Int32) (a2 : Int32) (a3 : Int64) (a4 : Int32) (σ : Mem) (r : Unit) (τ : Mem) (Q : Pst) (h : F_X5_descend N a1 a2 a3 a4 σ = some (r, τ)) (hQ : Q (none) τ) : WpD (e + 23) mX5_descend [.inr (.inr (9, 0)), .inl a1, .inl a2, .inr (.inl a3), .inl a4] σ Q := (TG_X5_descend e N 10) a1 a2 a3 a4 σ r τ Q h hQ
set_option maxRecDepth 100000 in
set_option maxHeartbeats 4000000 in
theorem T_X5_reckon (e N : Nat)  (a1 : Int32) (a2 : Int32) (σ : Mem) (r : Unit) (τ : Mem) (Q : Pst) (h : F_X5_reckon N a1 a2 σ = some (r, τ)) (hQ : Q (none) τ) : WpD (e + 24) mX5_reckon [.inr (.inr (9, 0)), .inl a1, .inl a2] σ Q := by
  refine WpD.of (d := e + 23) (Nat.le_of_ble_eq_true rfl) (Nat.le_of_ble_eq_true rfl) ?_
  show Wp (WpD (e + 23)) hcX5_reckon Q (0, [some (.inr (.inr (9, 0))), some (.inl a1), some (.inl a2)], []) σ
  unfold F_X5_reckon at h
  refine Wp.run (WpD.mono _) 17 (q := ((30, [some (.inr (.inr (9, 0))), some (.inl a1), some (.inl a2)], [.inl a2, .inr (.inr (8, 0))]), ((hwU2 σ.1 9 2 a1), (hwU2 (hwU2 (hwU2 (hwU2 σ.2.1 9 3 (0 : Int64)) 9 4 (0 : Int64)) 9 5 (0 : Int64)) 9 6 (0 : Int64)), σ.2.2.1, σ.2.2.2.1, σ.2.2.2.2))) rfl ?_
  obtain ⟨q1, hb, h⟩ := bind_some h
  refine Wp.call (WpD.mono _) rfl (T_X6_begin (e + 21) N a2 ((hwU2 σ.1 9 2 a1), (hwU2 (hwU2 (hwU2 (hwU2 σ.2.1 9 3 (0 : Int64)) 9 4 (0 : Int64)) 9 5 (0 : Int64)) 9 6 (0 : Int64)), σ.2.2.1, σ.2.2.2.1, σ.2.2.2.2) _ _ _ hb ?_)
  show Wp (WpD (e + 23)) hcX5_reckon Q (33, [some (.inr (.inr (9, 0))), some (.inl a1), some (.inl a2)], []) q1.2
  refine Wp.run (WpD.mono _) 4 (q := ((40, [some (.inr (.inr (9, 0))), some (.inl a1), some (.inl a2)], [.inl (0 : Int32), .inr (.inl (1000000 : Int64)), .inl (Int32.ofInt (-1)), .inl (0 : Int32), .inr (.inr (9, 0))]), q1.2)) rfl ?_
  obtain ⟨q2, hb, h⟩ := bind_some h
  refine Wp.call (WpD.mono _) rfl (T_X5_descend (e + 0) N (0 : Int32) (Int32.ofInt (-1)) (1000000 : Int64) (0 : Int32) q1.2 _ _ _ hb ?_)
  show Wp (WpD (e + 23)) hcX5_reckon Q (43, [some (.inr (.inr (9, 0))), some (.inl a1), some (.inl a2)], []) q2.2
  obtain ⟨rfl, rfl⟩ := ret_inj h
  exact Wp.ret (WpD.mono _) rfl hQ

set_option maxRecDepth 100000 in
set_option maxHeartbeats 4000000 in
theorem T_X11_mean (e N : Nat)  (a1 : Int32) (a2 : Int32) (a3 : Int32) (σ : Mem) (r : Int64) (τ : Mem) (Q : Pst) (h : F_X11_mean N a1 a2 a3 σ = some (r, τ)) (hQ : Q (some (.inr (.inl r))) τ) : WpD (e + 25) mX11_mean [.inr (.inr (0, 0)), .inl a1, .inl a2, .inl a3] σ Q := by
  refine WpD.of (d := e + 24) (Nat.le_of_ble_eq_true rfl) (Nat.le_of_ble_eq_true rfl) ?_
  show Wp (WpD (e + 24)) hcX11_mean Q (0, [some (.inr (.inr (0, 0))), some (.inl a1), some (.inl a2), some (.inl a3)], []) σ
  unfold F_X11_mean at h
  refine Wp.run (WpD.mono _) 1 (q := ((2, [some (.inr (.inr (0, 0))), some (.inl a1), some (.inl a2), some (.inl a3)], [.inl a1, .inr (.inr (0, 0))]), σ)) rfl ?_
  obtain ⟨q1, hb, h⟩ := bind_some h
  refine Wp.call (WpD.mono _) rfl (T_X11_isRule (e + 22) N a1 σ _ _ _ hb ?_)
  show Wp (WpD (e + 24)) hcX11_mean Q (5, [some (.inr (.inr (0, 0))), some (.inl a1), some (.inl a2), some (.inl a3)], [.inl q1.1]) q1.2
  refine Wp.if0_eq (WpD.mono _) rfl rfl (fun hc => ?_) (fun hc => ?_)
  · have h := (if_pos hc).symm.trans h
    show Wp (WpD (e + 24)) hcX11_mean Q (25, [some (.inr (.inr (0, 0))), some (.inl a1), some (.inl a2), some (.inl a3)], []) q1.2
    refine Wp.run (WpD.mono _) 0 (q := ((28, [none, none, none, none], [.inr (.inl (Int64.ofInt (-4611686018427387904)))]), q1.2)) rfl ?_
    obtain ⟨rfl, rfl⟩ := ret_inj h
    exact Wp.ret (WpD.mono _) rfl hQ
  · have h := (if_neg hc).symm.trans h
    show Wp (WpD (e + 24)) hcX11_mean Q (8, [some (.inr (.inr (0, 0))), some (.inl a1), some (.inl a2), some (.inl a3)], []) q1.2
    refine Wp.run (WpD.mono _) 1 (q := ((10, [some (.inr (.inr (0, 0))), some (.inl a1), some (.inl a2), some (.inl a3)], [.inl a2, .inr (.inr (0, 0))]), q1.2)) rfl ?_
    obtain ⟨q2, hb, h⟩ := bind_some h
    refine Wp.call (WpD.mono _) rfl (T_X11_isPlace (e + 22) N a2 q1.2 _ _ _ hb ?_)
    show Wp (WpD (e + 24)) hcX11_mean Q (13, [some (.inr (.inr (0, 0))), some (.inl a1), some (.inl a2), some (.inl a3)], [.inl q2.1]) q2.2
    refine Wp.if0_eq (WpD.mono _) rfl rfl (fun hc => ?_) (fun hc => ?_)
    · have h := (if_pos hc).symm.trans h
      show Wp (WpD (e + 24)) hcX11_mean Q (25, [some (.inr (.inr (0, 0))), some (.inl a1), some (.inl a2), some (.inl a3)], []) q2.2
      refine Wp.run (WpD.mono _) 0 (q := ((28, [none, none, none, none], [.inr (.inl (Int64.ofInt (-4611686018427387904)))]), q2.2)) rfl ?_
      obtain ⟨rfl, rfl⟩ := ret_inj h
      exact Wp.ret (WpD.mono _) rfl hQ
    · have h := (if_neg hc).symm.trans h
      show Wp (WpD (e + 24)) hcX11_mean Q (16, [some (.inr (.inr (0, 0))), some (.inl a1), some (.inl a2), some (.inl a3)], []) q2.2
      refine Wp.run (WpD.mono _) 2 (q := ((19, [some (.inr (.inr (0, 0))), some (.inl a1), some (.inl a2), some (.inl a3)], [.inl (3 : Int32), .inl (0 : Int32), .inl a3]), q2.2)) rfl ?_
      obtain ⟨q3, hb, h⟩ := bind_some h
      refine Wp.call (WpD.mono _) rfl (T_X11_within (e + 23) N a3 (0 : Int32) (3 : Int32) q2.2 _ _ _ hb ?_)
      show Wp (WpD (e + 24)) hcX11_mean Q (22, [some (.inr (.inr (0, 0))), some (.inl a1), some (.inl a2), some (.inl a3)], [.inl q3.1]) q3.2
      refine Wp.if0_ne (WpD.mono _) rfl rfl (fun hc => ?_) (fun hc => ?_)
      · have h := (if_pos hc).symm.trans h
        show Wp (WpD (e + 24)) hcX11_mean Q (25, [some (.inr (.inr (0, 0))), some (.inl a1), some (.inl a2), some (.inl a3)], []) q3.2
        refine Wp.run (WpD.mono _) 0 (q := ((28, [none, none, none, none], [.inr (.inl (Int64.ofInt (-4611686018427387904)))]), q3.2)) rfl ?_
        obtain ⟨rfl, rfl⟩ := ret_inj h
        exact Wp.ret (WpD.mono _) rfl hQ
      · have h := (if_neg hc).symm.trans h
        show Wp (WpD (e + 24)) hcX11_mean Q (29, [some (.inr (.inr (0, 0))), some (.inl a1), some (.inl a2), some (.inl a3)], []) q3.2
        refine Wp.run (WpD.mono _) 3 (q := ((35, [some (.inr (.inr (0, 0))), some (.inl a1), some (.inl a2), some (.inl a3)], [.inl a2, .inl a1, .inr (.inr (9, 0))]), q3.2)) rfl ?_
        obtain ⟨q4, hb, h⟩ := bind_some h
        refine Wp.call (WpD.mono _) rfl (T_X5_reckon (e + 0) N a1 a2 q3.2 _ _ _ hb ?_)
        show Wp (WpD (e + 24)) hcX11_mean Q (38, [some (.inr (.inr (0, 0))), some (.inl a1), some (.inl a2), some (.inl a3)], []) q4.2
        refine Wp.run (WpD.mono _) 0 (q := ((39, [some (.inr (.inr (0, 0))), some (.inl a1), some (.inl a2), some (.inl a3)], [.inl a3]), q4.2)) rfl ?_
        by_cases hs0 : a3 = 0
        · have h := (if_pos hs0).symm.trans h
          refine Wp.swIn (WpD.mono _) (q := ((64, [some (.inr (.inr (0, 0))), some (.inl a1), some (.inl a2), some (.inl a3)], []), q4.2)) hs0 rfl ?_
          refine Wp.run (WpD.mono _) 2 (q := ((71, [some (.inr (.inr (0, 0))), some (.inl a1), some (.inl a2), some (.inl a3)], [.inr (.inl (q4.2.2.1 9 3))]), q4.2)) rfl ?_
          obtain ⟨rfl, rfl⟩ := ret_inj h
          exact Wp.ret (WpD.mono _) rfl hQ
        have h := (if_neg hs0).symm.trans h
        by_cases hs1 : a3 = 1
        · have h := (if_pos hs1).symm.trans h
          refine Wp.swIn (WpD.mono _) (q := ((72, [some (.inr (.inr (0, 0))), some (.inl a1), some (.inl a2), some (.inl a3)], []), q4.2)) hs1 rfl ?_
          refine Wp.run (WpD.mono _) 2 (q := ((79, [some (.inr (.inr (0, 0))), some (.inl a1), some (.inl a2), some (.inl a3)], [.inr (.inl (q4.2.2.1 9 4))]), q4.2)) rfl ?_
          obtain ⟨rfl, rfl⟩ := ret_inj h
          exact Wp.ret (WpD.mono _) rfl hQ
        have h := (if_neg hs1).symm.trans h
        by_cases hs2 : a3 = 2
        · have h := (if_pos hs2).symm.trans h
          refine Wp.swIn (WpD.mono _) (q := ((80, [some (.inr (.inr (0, 0))), some (.inl a1), some (.inl a2), some (.inl a3)], []), q4.2)) hs2 rfl ?_
          refine Wp.run (WpD.mono _) 2 (q := ((87, [some (.inr (.inr (0, 0))), some (.inl a1), some (.inl a2), some (.inl a3)], [.inr (.inl (q4.2.2.1 9 5))]), q4.2)) rfl ?_
          obtain ⟨rfl, rfl⟩ := ret_inj h
          exact Wp.ret (WpD.mono _) rfl hQ
        have h := (if_neg hs2).symm.trans h
        have ehs0 : ¬ (a3).toInt = 0 := fun z => hs0 (Int32.toInt_inj.mp z)
        have ehs1 : ¬ (a3).toInt = 1 := fun z => hs1 (Int32.toInt_inj.mp z)
        have ehs2 : ¬ (a3).toInt = 2 := fun z => hs2 (Int32.toInt_inj.mp z)
        refine Wp.swOut (WpD.mono _) (q := ((88, [some (.inr (.inr (0, 0))), some (.inl a1), some (.inl a2), some (.inl a3)], []), q4.2)) (o := if (a3).toInt < 0 ∨ 2 < (a3).toInt then some (49) else #[25, 33, 41][((a3).toInt - 0).toNat]?) (o' := some (49)) rfl (if_pos (by omega)) rfl ?_
        refine Wp.run (WpD.mono _) 2 (q := ((95, [some (.inr (.inr (0, 0))), some (.inl a1), some (.inl a2), some (.inl a3)], [.inr (.inl (q4.2.2.1 9 6))]), q4.2)) rfl ?_
        obtain ⟨rfl, rfl⟩ := ret_inj h
        exact Wp.ret (WpD.mono _) rfl hQ

set_option maxRecDepth 100000 in
set_option maxHeartbeats 4000000 in
theorem T_X11_next_b53 (e N : Nat)  (k14 : Int32 → Int32 → Int32 → Mem → Option (Int32 × Mem)) (r : Int32) (τ : Mem) (Q : Pst) (hQ : Q (some (.inl r)) τ) (hk14 : ∀ (x1 : Int32) (x2 : Int32) (x3 : Int32) (σ : Mem), k14 x1 x2 x3 σ = some (r, τ) → Wp (WpD (e + 13)) hcX11_next Q (14, [some (.inr (.inr (0, 0))), some (.inl x1), some (.inl x2), some (.inl x3), none, none], []) σ) : ∀ (x1 : Int32) (x2 : Int32) (x3 : Int32) (s0 : Int32) (σ : Mem), F_X11_next_b53 N k14 x1 x2 x3 s0 σ = some (r, τ) → Wp (WpD (e + 13)) hcX11_next Q (53, [some (.inr (.inr (0, 0))), some (.inl x1), some (.inl x2), some (.inl x3), none, none], [.inl s0]) σ := by
  intro x1 x2 x3 s0 σ h
  unfold F_X11_next_b53 at h
  refine Wp.run (WpD.mono _) 1 (q := ((57, [some (.inr (.inr (0, 0))), some (.inl x1), some (.inl x2), some (.inl x3), none, some (.inl s0)], [.inl s0]), σ)) rfl ?_
  refine Wp.if0_lt (WpD.mono _) rfl rfl (fun hc => ?_) (fun hc => ?_)
  · have h := (if_pos hc).symm.trans h
    show Wp (WpD (e + 13)) hcX11_next Q (71, [some (.inr (.inr (0, 0))), some (.inl x1), some (.inl x2), some (.inl x3), none, some (.inl s0)], []) σ
    refine Wp.run (WpD.mono _) 1 (q := ((14, [some (.inr (.inr (0, 0))), some (.inl x1), some (.inl x2), some (.inl (x3 + (1 : Int32))), none, none], []), σ)) rfl ?_
    exact Wp.jump (WpD.mono _) rfl (hk14 x1 x2 (x3 + (1 : Int32)) σ h)
  · have h := (if_neg hc).symm.trans h
    show Wp (WpD (e + 13)) hcX11_next Q (60, [some (.inr (.inr (0, 0))), some (.inl x1), some (.inl x2), some (.inl x3), none, some (.inl s0)], []) σ
    refine Wp.run (WpD.mono _) 1 (q := ((63, [some (.inr (.inr (0, 0))), some (.inl x1), some (.inl x2), some (.inl x3), none, some (.inl s0)], [.inl x2, .inl s0]), σ)) rfl ?_
    refine Wp.if2_ge (WpD.mono _) rfl rfl (fun hc => ?_) (fun hc => ?_)
    · have h := (if_pos hc).symm.trans h
      show Wp (WpD (e + 13)) hcX11_next Q (71, [some (.inr (.inr (0, 0))), some (.inl x1), some (.inl x2), some (.inl x3), none, some (.inl s0)], []) σ
      refine Wp.run (WpD.mono _) 1 (q := ((14, [some (.inr (.inr (0, 0))), some (.inl x1), some (.inl x2), some (.inl (x3 + (1 : Int32))), none, none], []), σ)) rfl ?_
      exact Wp.jump (WpD.mono _) rfl (hk14 x1 x2 (x3 + (1 : Int32)) σ h)
    · have h := (if_neg hc).symm.trans h
      show Wp (WpD (e + 13)) hcX11_next Q (66, [some (.inr (.inr (0, 0))), some (.inl x1), some (.inl x2), some (.inl x3), none, some (.inl s0)], []) σ
      refine Wp.run (WpD.mono _) 5 (q := ((14, [some (.inr (.inr (0, 0))), some (.inl x3), some (.inl s0), some (.inl (x3 + (1 : Int32))), none, none], []), σ)) rfl ?_
      exact Wp.jump (WpD.mono _) rfl (hk14 x3 s0 (x3 + (1 : Int32)) σ h)

set_option maxRecDepth 100000 in
set_option maxHeartbeats 4000000 in
theorem T_X11_next_b14 (e N : Nat)   (r : Int32) (τ : Mem) (Q : Pst) (hQ : Q (some (.inl r)) τ) : ∀ n, ∀ (x1 : Int32) (x2 : Int32) (x3 : Int32) (σ : Mem), F_X11_next_b14 N n x1 x2 x3 σ = some (r, τ) → Wp (WpD (e + 13)) hcX11_next Q (14, [some (.inr (.inr (0, 0))), some (.inl x1), some (.inl x2), some (.inl x3), none, none], []) σ := by
  intro n
  induction n with
  | zero => intro x1 x2 x3 σ h; cases h
  | succ n ih =>
    intro x1 x2 x3 σ h
    unfold F_X11_next_b14 at h
    refine Wp.run (WpD.mono _) 3 (q := ((22, [some (.inr (.inr (0, 0))), some (.inl x1), some (.inl x2), some (.inl x3), none, none], [.inl (σ.1 4 5), .inl x3]), σ)) rfl ?_
    refine Wp.if2_ge (WpD.mono _) rfl rfl (fun hc => ?_) (fun hc => ?_)
    · have h := (if_pos hc).symm.trans h
      show Wp (WpD (e + 13)) hcX11_next Q (77, [some (.inr (.inr (0, 0))), some (.inl x1), some (.inl x2), some (.inl x3), none, none], []) σ
      refine Wp.run (WpD.mono _) 0 (q := ((78, [some (.inr (.inr (0, 0))), some (.inl x1), some (.inl x2), some (.inl x3), none, none], [.inl x1]), σ)) rfl ?_
      obtain ⟨rfl, rfl⟩ := ret_inj h
      exact Wp.ret (WpD.mono _) rfl hQ
    · have h := (if_neg hc).symm.trans h
      show Wp (WpD (e + 13)) hcX11_next Q (25, [some (.inr (.inr (0, 0))), some (.inl x1), some (.inl x2), some (.inl x3), none, none], []) σ
      refine Wp.run (WpD.mono _) 2 (q := ((30, [some (.inr (.inr (0, 0))), some (.inl x1), some (.inl x2), some (.inl x3), none, none], [.inl x3, .inr (.inr (8, 0))]), σ)) rfl ?_
      obtain ⟨q2, hb, h⟩ := bind_some h
      refine Wp.call (WpD.mono _) rfl (T_X6_openYard (e + 9) N x3 σ _ _ _ hb ?_)
      show Wp (WpD (e + 13)) hcX11_next Q (33, [some (.inr (.inr (0, 0))), some (.inl x1), some (.inl x2), some (.inl x3), none, none], [.inl q2.1]) q2.2
      refine Wp.run (WpD.mono _) 1 (q := ((37, [some (.inr (.inr (0, 0))), some (.inl x1), some (.inl x2), some (.inl x3), some (.inl q2.1), none], [.inl q2.1]), q2.2)) rfl ?_
      refine Wp.if0_ne (WpD.mono _) rfl rfl (fun hc => ?_) (fun hc => ?_)
      · have h := (if_pos hc).symm.trans h
        show Wp (WpD (e + 13)) hcX11_next Q (40, [some (.inr (.inr (0, 0))), some (.inl x1), some (.inl x2), some (.inl x3), some (.inl q2.1), none], []) q2.2
        refine Wp.run (WpD.mono _) 1 (q := ((53, [some (.inr (.inr (0, 0))), some (.inl x1), some (.inl x2), some (.inl x3), some (.inl q2.1), none], [.inl (Int32.ofInt (-1))]), q2.2)) rfl ?_
        exact Wp.jump (WpD.mono _) rfl ((T_X11_next_b53 e N (F_X11_next_b14 N n) r τ Q hQ ih) x1 x2 x3 (Int32.ofInt (-1)) q2.2 h)
      · have h := (if_neg hc).symm.trans h
        show Wp (WpD (e + 13)) hcX11_next Q (44, [some (.inr (.inr (0, 0))), some (.inl x1), some (.inl x2), some (.inl x3), some (.inl q2.1), none], []) q2.2
        refine Wp.run (WpD.mono _) 2 (q := ((50, [some (.inr (.inr (0, 0))), some (.inl x1), some (.inl x2), some (.inl x3), some (.inl q2.1), none], [.inl q2.1, .inr (.inr (8, 0))]), q2.2)) rfl ?_
        obtain ⟨q3, hb, h⟩ := bind_some h
        refine Wp.call (WpD.mono _) rfl (T_X6_leastWorth (e + 0) N q2.1 q2.2 _ _ _ hb ?_)
        show Wp (WpD (e + 13)) hcX11_next Q (53, [some (.inr (.inr (0, 0))), some (.inl x1), some (.inl x2), some (.inl x3), some (.inl q2.1), none], [.inl q3.1]) q3.2
        exact Wp.jump (WpD.mono _) rfl ((T_X11_next_b53 e N (F_X11_next_b14 N n) r τ Q hQ ih) x1 x2 x3 q3.1 q3.2 h)

set_option maxRecDepth 100000 in
set_option maxHeartbeats 4000000 in
theorem T_X11_next (e N : Nat)   (σ : Mem) (r : Int32) (τ : Mem) (Q : Pst) (h : F_X11_next N  σ = some (r, τ)) (hQ : Q (some (.inl r)) τ) : WpD (e + 14) mX11_next [.inr (.inr (0, 0))] σ Q := by
  refine WpD.of (d := e + 13) (Nat.le_of_ble_eq_true rfl) (Nat.le_of_ble_eq_true rfl) ?_
  show Wp (WpD (e + 13)) hcX11_next Q (0, [some (.inr (.inr (0, 0))), none, none, none, none, none], []) σ
  unfold F_X11_next at h
  refine Wp.run (WpD.mono _) 3 (q := ((6, [some (.inr (.inr (0, 0))), some (.inl (Int32.ofInt (-1))), none, none, none, none], [.inr (.inr (1, 0))]), σ)) rfl ?_
  obtain ⟨q1, hb, h⟩ := bind_some h
  refine Wp.call (WpD.mono _) rfl (T_X2_worth (e + 12) N σ _ _ _ hb ?_)
  show Wp (WpD (e + 13)) hcX11_next Q (9, [some (.inr (.inr (0, 0))), some (.inl (Int32.ofInt (-1))), none, none, none, none], [.inl q1.1]) q1.2
  refine Wp.run (WpD.mono _) 4 (q := ((14, [some (.inr (.inr (0, 0))), some (.inl (Int32.ofInt (-1))), some (.inl (q1.1 + (1 : Int32))), some (.inl (0 : Int32)), none, none], []), q1.2)) rfl ?_
  exact Wp.jump (WpD.mono _) rfl ((T_X11_next_b14 e N  r τ Q hQ  N) (Int32.ofInt (-1)) (q1.1 + (1 : Int32)) (0 : Int32) q1.2 h)

set_option maxRecDepth 100000 in
set_option maxHeartbeats 4000000 in
theorem T_X7_found_t69_b16 (e N : Nat)   (r : Int32) (τ : Mem) (Q : Pst) (hQ : Q (some (.inl r)) τ) : ∀ n, ∀ (x1 : Nat) (x2 : Int32) (x3 : Int32) (x4 : Int32) (σ : Mem), F_X7_found_t69_b16 N n x1 x2 x3 x4 σ = some (r, τ) → Wp (WpD (e + 0)) hcX7_found Q (16, [some (.inr (.inr (4, 0))), some (.inr (.inr (69, x1))), some (.inl x2), some (.inl x3), some (.inl x4)], []) σ := by
  intro n
  induction n with
  | zero => intro x1 x2 x3 x4 σ h; cases h
  | succ n ih =>
    intro x1 x2 x3 x4 σ h
    unfold F_X7_found_t69_b16 at h
    refine Wp.run (WpD.mono _) 1 (q := ((19, [some (.inr (.inr (4, 0))), some (.inr (.inr (69, x1))), some (.inl x2), some (.inl x3), some (.inl x4)], [.inl x2, .inl x4]), σ)) rfl ?_
    refine Wp.if2_ge (WpD.mono _) rfl rfl (fun hc => ?_) (fun hc => ?_)
    · have h := (if_pos hc).symm.trans h
      show Wp (WpD (e + 0)) hcX7_found Q (48, [some (.inr (.inr (4, 0))), some (.inr (.inr (69, x1))), some (.inl x2), some (.inl x3), some (.inl x4)], []) σ
      refine Wp.run (WpD.mono _) 5 (q := ((56, [some (.inr (.inr (4, 0))), none, none, some (.inl x3), none], [.inl x3]), ((hwU2 σ.1 4 5 (x3 + (1 : Int32))), σ.2.1, σ.2.2.1, σ.2.2.2.1, σ.2.2.2.2))) rfl ?_
      obtain ⟨rfl, rfl⟩ := ret_inj h
      exact Wp.ret (WpD.mono _) rfl hQ
    · have h := (if_neg hc).symm.trans h
      show Wp (WpD (e + 0)) hcX7_found Q (22, [some (.inr (.inr (4, 0))), some (.inr (.inr (69, x1))), some (.inl x2), some (.inl x3), some (.inl x4)], []) σ
      refine Wp.run (WpD.mono _) 2 (q := ((26, [some (.inr (.inr (4, 0))), some (.inr (.inr (69, x1))), some (.inl x2), some (.inl x3), some (.inl x4)], [.inl (40 : Int32), .inl x4]), σ)) rfl ?_
      refine Wp.if2_ge (WpD.mono _) rfl rfl (fun hc => ?_) (fun hc => ?_)
      · have h := (if_pos hc).symm.trans h
        show Wp (WpD (e + 0)) hcX7_found Q (48, [some (.inr (.inr (4, 0))), some (.inr (.inr (69, x1))), some (.inl x2), some (.inl x3), some (.inl x4)], []) σ
        refine Wp.run (WpD.mono _) 5 (q := ((56, [some (.inr (.inr (4, 0))), none, none, some (.inl x3), none], [.inl x3]), ((hwU2 σ.1 4 5 (x3 + (1 : Int32))), σ.2.1, σ.2.2.1, σ.2.2.2.1, σ.2.2.2.2))) rfl ?_
        obtain ⟨rfl, rfl⟩ := ret_inj h
        exact Wp.ret (WpD.mono _) rfl hQ
      · have h := (if_neg hc).symm.trans h
        show Wp (WpD (e + 0)) hcX7_found Q (29, [some (.inr (.inr (4, 0))), some (.inr (.inr (69, x1))), some (.inl x2), some (.inl x3), some (.inl x4)], []) σ
        refine Wp.run (WpD.mono _) 2 (q := ((34, [some (.inr (.inr (4, 0))), some (.inr (.inr (69, x1))), some (.inl x2), some (.inl x3), some (.inl x4)], [.inl x3, .inr (.inr (54, 0))]), σ)) rfl ?_
        obtain ⟨hc, h⟩ := ite_nn h
        refine Wp.X_rld4 (WpD.mono _) rfl rfl hc ?_
        show Wp (WpD (e + 0)) hcX7_found Q (35, [some (.inr (.inr (4, 0))), some (.inr (.inr (69, x1))), some (.inl x2), some (.inl x3), some (.inl x4)], [.inr (.inr (55, (x3).toNatClampNeg))]) σ
        refine Wp.run (WpD.mono _) 2 (q := ((40, [some (.inr (.inr (4, 0))), some (.inr (.inr (69, x1))), some (.inl x2), some (.inl x3), some (.inl x4)], [.inl x4, .inr (.inr (69, x1)), .inl x4, .inr (.inr (55, (x3).toNatClampNeg))]), σ)) rfl ?_
        obtain ⟨hc, h⟩ := ite_nn h
        refine Wp.X_ild1 (WpD.mono _) rfl rfl hc ?_
        show Wp (WpD (e + 0)) hcX7_found Q (41, [some (.inr (.inr (4, 0))), some (.inr (.inr (69, x1))), some (.inl x2), some (.inl x3), some (.inl x4)], [.inl (σ.2.2.1 69 x1 (x4).toNatClampNeg), .inl x4, .inr (.inr (55, (x3).toNatClampNeg))]) σ
        obtain ⟨hc, h⟩ := ite_nn h
        refine Wp.X_ist (WpD.mono _) rfl rfl hc ?_
        show Wp (WpD (e + 0)) hcX7_found Q (42, [some (.inr (.inr (4, 0))), some (.inr (.inr (69, x1))), some (.inl x2), some (.inl x3), some (.inl x4)], []) (σ.1, σ.2.1, (hwU3 σ.2.2.1 55 (x3).toNatClampNeg (x4).toNatClampNeg (σ.2.2.1 69 x1 (x4).toNatClampNeg)), σ.2.2.2.1, σ.2.2.2.2)
        refine Wp.run (WpD.mono _) 1 (q := ((16, [some (.inr (.inr (4, 0))), some (.inr (.inr (69, x1))), some (.inl x2), some (.inl x3), some (.inl (x4 + (1 : Int32)))], []), (σ.1, σ.2.1, (hwU3 σ.2.2.1 55 (x3).toNatClampNeg (x4).toNatClampNeg (σ.2.2.1 69 x1 (x4).toNatClampNeg)), σ.2.2.2.1, σ.2.2.2.2))) rfl ?_
        exact Wp.jump (WpD.mono _) rfl (ih x1 x2 x3 (x4 + (1 : Int32)) (σ.1, σ.2.1, (hwU3 σ.2.2.1 55 (x3).toNatClampNeg (x4).toNatClampNeg (σ.2.2.1 69 x1 (x4).toNatClampNeg)), σ.2.2.2.1, σ.2.2.2.2) h)

set_option maxRecDepth 100000 in
set_option maxHeartbeats 4000000 in
theorem T_X7_found_t69 (e N : Nat)  (a1 : Nat) (a2 : Int32) (σ : Mem) (r : Int32) (τ : Mem) (Q : Pst) (h : F_X7_found_t69 N a1 a2 σ = some (r, τ)) (hQ : Q (some (.inl r)) τ) : WpD (e + 1) mX7_found [.inr (.inr (4, 0)), .inr (.inr (69, a1)), .inl a2] σ Q := by
  refine WpD.of (d := e + 0) (Nat.le_of_ble_eq_true rfl) (Nat.le_of_ble_eq_true rfl) ?_
  show Wp (WpD (e + 0)) hcX7_found Q (0, [some (.inr (.inr (4, 0))), some (.inr (.inr (69, a1))), some (.inl a2), none, none], []) σ
  unfold F_X7_found_t69 at h
  refine Wp.run (WpD.mono _) 4 (q := ((7, [some (.inr (.inr (4, 0))), some (.inr (.inr (69, a1))), some (.inl a2), some (.inl (σ.1 4 5)), none], [.inl (4 : Int32), .inl (σ.1 4 5)]), σ)) rfl ?_
  refine Wp.if2_lt (WpD.mono _) rfl rfl (fun hc => ?_) (fun hc => ?_)
  · have h := (if_pos hc).symm.trans h
    show Wp (WpD (e + 0)) hcX7_found Q (13, [some (.inr (.inr (4, 0))), some (.inr (.inr (69, a1))), some (.inl a2), some (.inl (σ.1 4 5)), none], []) σ
    refine Wp.run (WpD.mono _) 1 (q := ((16, [some (.inr (.inr (4, 0))), some (.inr (.inr (69, a1))), some (.inl a2), some (.inl (σ.1 4 5)), some (.inl (0 : Int32))], []), σ)) rfl ?_
    exact Wp.jump (WpD.mono _) rfl ((T_X7_found_t69_b16 e N  r τ Q hQ  N) a1 a2 (σ.1 4 5) (0 : Int32) σ h)
  · have h := (if_neg hc).symm.trans h
    show Wp (WpD (e + 0)) hcX7_found Q (10, [some (.inr (.inr (4, 0))), some (.inr (.inr (69, a1))), some (.inl a2), some (.inl (σ.1 4 5)), none], []) σ
    refine Wp.run (WpD.mono _) 0 (q := ((12, [some (.inr (.inr (4, 0))), some (.inr (.inr (69, a1))), some (.inl a2), some (.inl (σ.1 4 5)), none], [.inl (Int32.ofInt (-4))]), σ)) rfl ?_
    obtain ⟨rfl, rfl⟩ := ret_inj h
    exact Wp.ret (WpD.mono _) rfl hQ

set_option maxRecDepth 100000 in
set_option maxHeartbeats 4000000 in
theorem T_X11_place (e N : Nat)  (a1 : Int32) (σ : Mem) (r : Int32) (τ : Mem) (Q : Pst) (h : F_X11_place N a1 σ = some (r, τ)) (hQ : Q (some (.inl r)) τ) : WpD (e + 3) mX11_place [.inr (.inr (0, 0)), .inl a1] σ Q := by
  refine WpD.of (d := e + 2) (Nat.le_of_ble_eq_true rfl) (Nat.le_of_ble_eq_true rfl) ?_
  show Wp (WpD (e + 2)) hcX11_place Q (0, [some (.inr (.inr (0, 0))), some (.inl a1)], []) σ
  unfold F_X11_place at h
  refine Wp.run (WpD.mono _) 0 (q := ((1, [some (.inr (.inr (0, 0))), some (.inl a1)], [.inl a1]), σ)) rfl ?_
  obtain ⟨q1, hb, h⟩ := bind_some h
  refine Wp.call (WpD.mono _) rfl (T_X11_isSheet (e + 0) N a1 σ _ _ _ hb ?_)
  show Wp (WpD (e + 2)) hcX11_place Q (4, [some (.inr (.inr (0, 0))), some (.inl a1)], [.inl q1.1]) q1.2
  refine Wp.if0_ne (WpD.mono _) rfl rfl (fun hc => ?_) (fun hc => ?_)
  · have h := (if_pos hc).symm.trans h
    show Wp (WpD (e + 2)) hcX11_place Q (7, [some (.inr (.inr (0, 0))), some (.inl a1)], []) q1.2
    refine Wp.run (WpD.mono _) 0 (q := ((9, [some (.inr (.inr (0, 0))), some (.inl a1)], [.inl (Int32.ofInt (-2))]), q1.2)) rfl ?_
    obtain ⟨rfl, rfl⟩ := ret_inj h
    exact Wp.ret (WpD.mono _) rfl hQ
  · have h := (if_neg hc).symm.trans h
    show Wp (WpD (e + 2)) hcX11_place Q (10, [some (.inr (.inr (0, 0))), some (.inl a1)], []) q1.2
    refine Wp.run (WpD.mono _) 2 (q := ((15, [some (.inr (.inr (0, 0))), some (.inl a1)], [.inl a1, .inr (.inr (5, 0))]), q1.2)) rfl ?_
    obtain ⟨q2, hb, h⟩ := bind_some h
    refine Wp.call (WpD.mono _) rfl (T_X10_isMissing (e + 1) N a1 q1.2 _ _ _ hb ?_)
    show Wp (WpD (e + 2)) hcX11_place Q (18, [some (.inr (.inr (0, 0))), some (.inl a1)], [.inl q2.1]) q2.2
    refine Wp.if0_eq (WpD.mono _) rfl rfl (fun hc => ?_) (fun hc => ?_)
    · have h := (if_pos hc).symm.trans h
      show Wp (WpD (e + 2)) hcX11_place Q (24, [some (.inr (.inr (0, 0))), some (.inl a1)], []) q2.2
      refine Wp.run (WpD.mono _) 2 (q := ((31, [some (.inr (.inr (0, 0))), some (.inl a1)], [.inl (q2.2.1 1 6)]), q2.2)) rfl ?_
      refine Wp.if0_eq (WpD.mono _) rfl rfl (fun hc => ?_) (fun hc => ?_)
      · have h := (if_pos hc).symm.trans h
        show Wp (WpD (e + 2)) hcX11_place Q (67, [some (.inr (.inr (0, 0))), some (.inl a1)], []) q2.2
        refine Wp.run (WpD.mono _) 0 (q := ((69, [none, none], [.inl (Int32.ofInt (-2))]), q2.2)) rfl ?_
        obtain ⟨rfl, rfl⟩ := ret_inj h
        exact Wp.ret (WpD.mono _) rfl hQ
      · have h := (if_neg hc).symm.trans h
        show Wp (WpD (e + 2)) hcX11_place Q (34, [some (.inr (.inr (0, 0))), some (.inl a1)], []) q2.2
        refine Wp.run (WpD.mono _) 3 (q := ((42, [some (.inr (.inr (0, 0))), some (.inl a1)], [.inl a1, .inr (.inr (71, 0))]), q2.2)) rfl ?_
        obtain ⟨hc, h⟩ := ite_nn h
        refine Wp.X_ild1 (WpD.mono _) rfl rfl hc ?_
        show Wp (WpD (e + 2)) hcX11_place Q (43, [some (.inr (.inr (0, 0))), some (.inl a1)], [.inl (q2.2.2.2.1 71 0 (a1).toNatClampNeg)]) q2.2
        refine Wp.run (WpD.mono _) 2 (q := ((50, [some (.inr (.inr (0, 0))), some (.inl a1)], [.inl (q2.2.1 1 6), .inl (q2.2.2.2.1 71 0 (a1).toNatClampNeg)]), q2.2)) rfl ?_
        refine Wp.if2_ne (WpD.mono _) rfl rfl (fun hc => ?_) (fun hc => ?_)
        · have h := (if_pos hc).symm.trans h
          show Wp (WpD (e + 2)) hcX11_place Q (53, [some (.inr (.inr (0, 0))), some (.inl a1)], []) q2.2
          refine Wp.run (WpD.mono _) 4 (q := ((61, [some (.inr (.inr (0, 0))), some (.inl a1)], [.inl (99 : Int32), .inl (0 : Int32), .inl a1, .inr (.inr (5, 0))]), q2.2)) rfl ?_
          obtain ⟨q3, hb, h⟩ := bind_some h
          refine Wp.call (WpD.mono _) rfl (T_X10_allWithin (e + 0) N a1 (0 : Int32) (99 : Int32) q2.2 _ _ _ hb ?_)
          show Wp (WpD (e + 2)) hcX11_place Q (64, [some (.inr (.inr (0, 0))), some (.inl a1)], [.inl q3.1]) q3.2
          refine Wp.if0_ne (WpD.mono _) rfl rfl (fun hc => ?_) (fun hc => ?_)
          · have h := (if_pos hc).symm.trans h
            show Wp (WpD (e + 2)) hcX11_place Q (67, [some (.inr (.inr (0, 0))), some (.inl a1)], []) q3.2
            refine Wp.run (WpD.mono _) 0 (q := ((69, [none, none], [.inl (Int32.ofInt (-2))]), q3.2)) rfl ?_
            obtain ⟨rfl, rfl⟩ := ret_inj h
            exact Wp.ret (WpD.mono _) rfl hQ
          · have h := (if_neg hc).symm.trans h
            show Wp (WpD (e + 2)) hcX11_place Q (70, [some (.inr (.inr (0, 0))), some (.inl a1)], []) q3.2
            refine Wp.run (WpD.mono _) 5 (q := ((82, [some (.inr (.inr (0, 0))), some (.inl a1)], [.inl a1, .inr (.inr (68, 0)), .inr (.inr (4, 0))]), q3.2)) rfl ?_
            obtain ⟨hc, h⟩ := ite_nn h
            refine Wp.X_rld4 (WpD.mono _) rfl rfl hc ?_
            show Wp (WpD (e + 2)) hcX11_place Q (83, [some (.inr (.inr (0, 0))), some (.inl a1)], [.inr (.inr (69, (a1).toNatClampNeg)), .inr (.inr (4, 0))]) q3.2
            refine Wp.run (WpD.mono _) 2 (q := ((90, [some (.inr (.inr (0, 0))), some (.inl a1)], [.inl (q3.2.1 1 6), .inr (.inr (69, (a1).toNatClampNeg)), .inr (.inr (4, 0))]), q3.2)) rfl ?_
            obtain ⟨q4, hb, h⟩ := bind_some h
            refine Wp.call (WpD.mono _) rfl (T_X7_found_t69 (e + 1) N (a1).toNatClampNeg (q3.2.1 1 6) q3.2 _ _ _ hb ?_)
            show Wp (WpD (e + 2)) hcX11_place Q (93, [some (.inr (.inr (0, 0))), some (.inl a1)], [.inl q4.1]) q4.2
            obtain ⟨rfl, rfl⟩ := ret_inj h
            exact Wp.ret (WpD.mono _) rfl hQ
        · have h := (if_neg hc).symm.trans h
          show Wp (WpD (e + 2)) hcX11_place Q (67, [some (.inr (.inr (0, 0))), some (.inl a1)], []) q2.2
          refine Wp.run (WpD.mono _) 0 (q := ((69, [none, none], [.inl (Int32.ofInt (-2))]), q2.2)) rfl ?_
          obtain ⟨rfl, rfl⟩ := ret_inj h
          exact Wp.ret (WpD.mono _) rfl hQ
    · have h := (if_neg hc).symm.trans h
      show Wp (WpD (e + 2)) hcX11_place Q (21, [some (.inr (.inr (0, 0))), some (.inl a1)], []) q2.2
      refine Wp.run (WpD.mono _) 0 (q := ((23, [some (.inr (.inr (0, 0))), some (.inl a1)], [.inl (Int32.ofInt (-11))]), q2.2)) rfl ?_
      obtain ⟨rfl, rfl⟩ := ret_inj h
      exact Wp.ret (WpD.mono _) rfl hQ

set_option maxRecDepth 100000 in
set_option maxHeartbeats 4000000 in
theorem T_X11_right_b18 (e N : Nat)   (r : Int32) (τ : Mem) (Q : Pst) (hQ : Q (some (.inl r)) τ) : ∀ n, ∀ (x1 : Int32) (x2 : Int32) (x3 : Int64) (x5 : Int32) (σ : Mem), F_X11_right_b18 N n x1 x2 x3 x5 σ = some (r, τ) → Wp (WpD (e + 24)) hcX11_right Q (18, [some (.inr (.inr (0, 0))), some (.inl x1), some (.inl x2), some (.inr (.inl x3)), none, some (.inl x5), none, none], []) σ := by
  intro n
  induction n with
  | zero => intro x1 x2 x3 x5 σ h; cases h
  | succ n ih =>
    intro x1 x2 x3 x5 σ h
    unfold F_X11_right_b18 at h
    refine Wp.run (WpD.mono _) 3 (q := ((27, [some (.inr (.inr (0, 0))), some (.inl x1), some (.inl x2), some (.inr (.inl x3)), none, some (.inl x5), none, none], [.inl (σ.1 6 4), .inl x5]), σ)) rfl ?_
    refine Wp.if2_ge (WpD.mono _) rfl rfl (fun hc => ?_) (fun hc => ?_)
    · have h := (if_pos hc).symm.trans h
      show Wp (WpD (e + 24)) hcX11_right Q (80, [some (.inr (.inr (0, 0))), some (.inl x1), some (.inl x2), some (.inr (.inl x3)), none, some (.inl x5), none, none], []) σ
      refine Wp.run (WpD.mono _) 0 (q := ((81, [some (.inr (.inr (0, 0))), some (.inl x1), some (.inl x2), some (.inr (.inl x3)), none, some (.inl x5), none, none], [.inl x2]), σ)) rfl ?_
      obtain ⟨rfl, rfl⟩ := ret_inj h
      exact Wp.ret (WpD.mono _) rfl hQ
    · have h := (if_neg hc).symm.trans h
      show Wp (WpD (e + 24)) hcX11_right Q (30, [some (.inr (.inr (0, 0))), some (.inl x1), some (.inl x2), some (.inr (.inl x3)), none, some (.inl x5), none, none], []) σ
      refine Wp.run (WpD.mono _) 3 (q := ((37, [some (.inr (.inr (0, 0))), some (.inl x1), some (.inl x2), some (.inr (.inl x3)), none, some (.inl x5), none, none], [.inl x1, .inl x5, .inr (.inr (9, 0))]), σ)) rfl ?_
      obtain ⟨q2, hb, h⟩ := bind_some h
      refine Wp.call (WpD.mono _) rfl (T_X5_reckon (e + 0) N x5 x1 σ _ _ _ hb ?_)
      show Wp (WpD (e + 24)) hcX11_right Q (40, [some (.inr (.inr (0, 0))), some (.inl x1), some (.inl x2), some (.inr (.inl x3)), none, some (.inl x5), none, none], []) q2.2
      refine Wp.run (WpD.mono _) 8 (q := ((58, [some (.inr (.inr (0, 0))), some (.inl x1), some (.inl x2), some (.inr (.inl x3)), none, some (.inl x5), some (.inr (.inl ((q2.2.2.1 9 6) - (q2.2.2.1 9 3)))), none], [.inl x2]), q2.2)) rfl ?_
      refine Wp.if0_lt (WpD.mono _) rfl rfl (fun hc => ?_) (fun hc => ?_)
      · have h := (if_pos hc).symm.trans h
        show Wp (WpD (e + 24)) hcX11_right Q (68, [some (.inr (.inr (0, 0))), some (.inl x1), some (.inl x2), some (.inr (.inl x3)), none, some (.inl x5), some (.inr (.inl ((q2.2.2.1 9 6) - (q2.2.2.1 9 3)))), none], []) q2.2
        refine Wp.run (WpD.mono _) 5 (q := ((18, [some (.inr (.inr (0, 0))), some (.inl x1), some (.inl x5), some (.inr (.inl ((q2.2.2.1 9 6) - (q2.2.2.1 9 3)))), none, some (.inl (x5 + (1 : Int32))), none, none], []), q2.2)) rfl ?_
        exact Wp.jump (WpD.mono _) rfl (ih x1 x5 ((q2.2.2.1 9 6) - (q2.2.2.1 9 3)) (x5 + (1 : Int32)) q2.2 h)
      · have h := (if_neg hc).symm.trans h
        show Wp (WpD (e + 24)) hcX11_right Q (61, [some (.inr (.inr (0, 0))), some (.inl x1), some (.inl x2), some (.inr (.inl x3)), none, some (.inl x5), some (.inr (.inl ((q2.2.2.1 9 6) - (q2.2.2.1 9 3)))), none], []) q2.2
        refine Wp.run (WpD.mono _) 2 (q := ((65, [some (.inr (.inr (0, 0))), some (.inl x1), some (.inl x2), some (.inr (.inl x3)), none, some (.inl x5), some (.inr (.inl ((q2.2.2.1 9 6) - (q2.2.2.1 9 3)))), none], [.inl (lg_cmp ((q2.2.2.1 9 6) - (q2.2.2.1 9 3)) x3)]), q2.2)) rfl ?_
        refine Wp.if0_le (WpD.mono _) rfl rfl (fun hc => ?_) (fun hc => ?_)
        · have h := (if_pos hc).symm.trans h
          show Wp (WpD (e + 24)) hcX11_right Q (74, [some (.inr (.inr (0, 0))), some (.inl x1), some (.inl x2), some (.inr (.inl x3)), none, some (.inl x5), some (.inr (.inl ((q2.2.2.1 9 6) - (q2.2.2.1 9 3)))), none], []) q2.2
          refine Wp.run (WpD.mono _) 1 (q := ((18, [some (.inr (.inr (0, 0))), some (.inl x1), some (.inl x2), some (.inr (.inl x3)), none, some (.inl (x5 + (1 : Int32))), none, none], []), q2.2)) rfl ?_
          exact Wp.jump (WpD.mono _) rfl (ih x1 x2 x3 (x5 + (1 : Int32)) q2.2 h)
        · have h := (if_neg hc).symm.trans h
          show Wp (WpD (e + 24)) hcX11_right Q (68, [some (.inr (.inr (0, 0))), some (.inl x1), some (.inl x2), some (.inr (.inl x3)), none, some (.inl x5), some (.inr (.inl ((q2.2.2.1 9 6) - (q2.2.2.1 9 3)))), none], []) q2.2
          refine Wp.run (WpD.mono _) 5 (q := ((18, [some (.inr (.inr (0, 0))), some (.inl x1), some (.inl x5), some (.inr (.inl ((q2.2.2.1 9 6) - (q2.2.2.1 9 3)))), none, some (.inl (x5 + (1 : Int32))), none, none], []), q2.2)) rfl ?_
          exact Wp.jump (WpD.mono _) rfl (ih x1 x5 ((q2.2.2.1 9 6) - (q2.2.2.1 9 3)) (x5 + (1 : Int32)) q2.2 h)

set_option maxRecDepth 100000 in
set_option maxHeartbeats 4000000 in
theorem T_X11_right (e N : Nat)  (a1 : Int32) (σ : Mem) (r : Int32) (τ : Mem) (Q : Pst) (h : F_X11_right N a1 σ = some (r, τ)) (hQ : Q (some (.inl r)) τ) : WpD (e + 25) mX11_right [.inr (.inr (0, 0)), .inl a1] σ Q := by
  refine WpD.of (d := e + 24) (Nat.le_of_ble_eq_true rfl) (Nat.le_of_ble_eq_true rfl) ?_
  show Wp (WpD (e + 24)) hcX11_right Q (0, [some (.inr (.inr (0, 0))), some (.inl a1), none, none, none, none, none, none], []) σ
  unfold F_X11_right at h
  refine Wp.run (WpD.mono _) 1 (q := ((2, [some (.inr (.inr (0, 0))), some (.inl a1), none, none, none, none, none, none], [.inl a1, .inr (.inr (0, 0))]), σ)) rfl ?_
  obtain ⟨q1, hb, h⟩ := bind_some h
  refine Wp.call (WpD.mono _) rfl (T_X11_isPlace (e + 22) N a1 σ _ _ _ hb ?_)
  show Wp (WpD (e + 24)) hcX11_right Q (5, [some (.inr (.inr (0, 0))), some (.inl a1), none, none, none, none, none, none], [.inl q1.1]) q1.2
  refine Wp.if0_ne (WpD.mono _) rfl rfl (fun hc => ?_) (fun hc => ?_)
  · have h := (if_pos hc).symm.trans h
    show Wp (WpD (e + 24)) hcX11_right Q (8, [some (.inr (.inr (0, 0))), some (.inl a1), none, none, none, none, none, none], []) q1.2
    refine Wp.run (WpD.mono _) 0 (q := ((10, [some (.inr (.inr (0, 0))), some (.inl a1), none, none, none, none, none, none], [.inl (Int32.ofInt (-5))]), q1.2)) rfl ?_
    obtain ⟨rfl, rfl⟩ := ret_inj h
    exact Wp.ret (WpD.mono _) rfl hQ
  · have h := (if_neg hc).symm.trans h
    show Wp (WpD (e + 24)) hcX11_right Q (11, [some (.inr (.inr (0, 0))), some (.inl a1), none, none, none, none, none, none], []) q1.2
    refine Wp.run (WpD.mono _) 5 (q := ((18, [some (.inr (.inr (0, 0))), some (.inl a1), some (.inl (Int32.ofInt (-1))), some (.inr (.inl (0 : Int64))), none, some (.inl (0 : Int32)), none, none], []), q1.2)) rfl ?_
    exact Wp.jump (WpD.mono _) rfl ((T_X11_right_b18 e N  r τ Q hQ  N) a1 (Int32.ofInt (-1)) (0 : Int64) (0 : Int32) q1.2 h)

set_option maxRecDepth 100000 in
set_option maxHeartbeats 4000000 in
theorem T_X6_chanceOf_t69_b53 (e N : Nat)  (k13 : Nat → Int32 → Int64 → Int32 → Mem → Option (Int64 × Mem)) (r : Int64) (τ : Mem) (Q : Pst) (hQ : Q (some (.inr (.inl r))) τ) (hk13 : ∀ (x2 : Nat) (x3 : Int32) (x4 : Int64) (x6 : Int32) (σ : Mem), k13 x2 x3 x4 x6 σ = some (r, τ) → Wp (WpD (e + 2)) hcX6_chanceOf Q (13, [some (.inr (.inr (8, 0))), none, some (.inr (.inr (69, x2))), some (.inl x3), some (.inr (.inl x4)), none, some (.inl x6), none, none], []) σ) : ∀ (x2 : Nat) (x3 : Int32) (x4 : Int64) (x6 : Int32) (s0 : Int64) (σ : Mem), F_X6_chanceOf_t69_b53 N k13 x2 x3 x4 x6 s0 σ = some (r, τ) → Wp (WpD (e + 2)) hcX6_chanceOf Q (53, [some (.inr (.inr (8, 0))), none, some (.inr (.inr (69, x2))), some (.inl x3), some (.inr (.inl x4)), none, some (.inl x6), none, none], [.inr (.inl s0)]) σ := by
  intro x2 x3 x4 x6 s0 σ h
  unfold F_X6_chanceOf_t69_b53 at h
  refine Wp.run (WpD.mono _) 3 (q := ((59, [some (.inr (.inr (8, 0))), none, some (.inr (.inr (69, x2))), some (.inl x3), some (.inr (.inl x4)), none, some (.inl x6), some (.inr (.inl s0)), none], [.inl (lg_cmp s0 (0 : Int64))]), σ)) rfl ?_
  refine Wp.if0_ne (WpD.mono _) rfl rfl (fun hc => ?_) (fun hc => ?_)
  · have h := (if_pos hc).symm.trans h
    show Wp (WpD (e + 2)) hcX6_chanceOf Q (62, [some (.inr (.inr (8, 0))), none, some (.inr (.inr (69, x2))), some (.inl x3), some (.inr (.inl x4)), none, some (.inl x6), some (.inr (.inl s0)), none], []) σ
    refine Wp.run (WpD.mono _) 0 (q := ((63, [some (.inr (.inr (8, 0))), none, some (.inr (.inr (69, x2))), some (.inl x3), some (.inr (.inl x4)), none, some (.inl x6), some (.inr (.inl s0)), none], [.inr (.inl (0 : Int64))]), σ)) rfl ?_
    obtain ⟨rfl, rfl⟩ := ret_inj h
    exact Wp.ret (WpD.mono _) rfl hQ
  · have h := (if_neg hc).symm.trans h
    show Wp (WpD (e + 2)) hcX6_chanceOf Q (64, [some (.inr (.inr (8, 0))), none, some (.inr (.inr (69, x2))), some (.inl x3), some (.inr (.inl x4)), none, some (.inl x6), some (.inr (.inl s0)), none], []) σ
    refine Wp.run (WpD.mono _) 7 (q := ((13, [some (.inr (.inr (8, 0))), none, some (.inr (.inr (69, x2))), some (.inl x3), some (.inr (.inl ((x4 * s0) / (1000000 : Int64)))), none, some (.inl (x6 + (1 : Int32))), some (.inr (.inl s0)), none], []), σ)) rfl ?_
    exact Wp.jump (WpD.mono _) rfl (hk13 x2 x3 ((x4 * s0) / (1000000 : Int64)) (x6 + (1 : Int32)) σ h)

set_option maxRecDepth 100000 in
set_option maxHeartbeats 4000000 in
theorem T_X6_chanceOf_t69_b13 (e N : Nat)   (r : Int64) (τ : Mem) (Q : Pst) (hQ : Q (some (.inr (.inl r))) τ) : ∀ n, ∀ (x2 : Nat) (x3 : Int32) (x4 : Int64) (x6 : Int32) (σ : Mem), F_X6_chanceOf_t69_b13 N n x2 x3 x4 x6 σ = some (r, τ) → Wp (WpD (e + 2)) hcX6_chanceOf Q (13, [some (.inr (.inr (8, 0))), none, some (.inr (.inr (69, x2))), some (.inl x3), some (.inr (.inl x4)), none, some (.inl x6), none, none], []) σ := by
  intro n
  induction n with
  | zero => intro x2 x3 x4 x6 σ h; cases h
  | succ n ih =>
    intro x2 x3 x4 x6 σ h
    unfold F_X6_chanceOf_t69_b13 at h
    refine Wp.run (WpD.mono _) 1 (q := ((16, [some (.inr (.inr (8, 0))), none, some (.inr (.inr (69, x2))), some (.inl x3), some (.inr (.inl x4)), none, some (.inl x6), none, none], [.inl x3, .inl x6]), σ)) rfl ?_
    refine Wp.if2_ge (WpD.mono _) rfl rfl (fun hc => ?_) (fun hc => ?_)
    · have h := (if_pos hc).symm.trans h
      show Wp (WpD (e + 2)) hcX6_chanceOf Q (81, [some (.inr (.inr (8, 0))), none, some (.inr (.inr (69, x2))), some (.inl x3), some (.inr (.inl x4)), none, some (.inl x6), none, none], []) σ
      refine Wp.run (WpD.mono _) 0 (q := ((83, [none, none, none, none, some (.inr (.inl x4)), none, none, none, none], [.inr (.inl x4)]), σ)) rfl ?_
      obtain ⟨rfl, rfl⟩ := ret_inj h
      exact Wp.ret (WpD.mono _) rfl hQ
    · have h := (if_neg hc).symm.trans h
      show Wp (WpD (e + 2)) hcX6_chanceOf Q (19, [some (.inr (.inr (8, 0))), none, some (.inr (.inr (69, x2))), some (.inl x3), some (.inr (.inl x4)), none, some (.inl x6), none, none], []) σ
      refine Wp.run (WpD.mono _) 1 (q := ((22, [some (.inr (.inr (8, 0))), none, some (.inr (.inr (69, x2))), some (.inl x3), some (.inr (.inl x4)), none, some (.inl x6), none, none], [.inl (5 : Int32), .inl x6]), σ)) rfl ?_
      refine Wp.if2_ge (WpD.mono _) rfl rfl (fun hc => ?_) (fun hc => ?_)
      · have h := (if_pos hc).symm.trans h
        show Wp (WpD (e + 2)) hcX6_chanceOf Q (81, [some (.inr (.inr (8, 0))), none, some (.inr (.inr (69, x2))), some (.inl x3), some (.inr (.inl x4)), none, some (.inl x6), none, none], []) σ
        refine Wp.run (WpD.mono _) 0 (q := ((83, [none, none, none, none, some (.inr (.inl x4)), none, none, none, none], [.inr (.inl x4)]), σ)) rfl ?_
        obtain ⟨rfl, rfl⟩ := ret_inj h
        exact Wp.ret (WpD.mono _) rfl hQ
      · have h := (if_neg hc).symm.trans h
        show Wp (WpD (e + 2)) hcX6_chanceOf Q (25, [some (.inr (.inr (8, 0))), none, some (.inr (.inr (69, x2))), some (.inl x3), some (.inr (.inl x4)), none, some (.inl x6), none, none], []) σ
        refine Wp.run (WpD.mono _) 1 (q := ((28, [some (.inr (.inr (8, 0))), none, some (.inr (.inr (69, x2))), some (.inl x3), some (.inr (.inl x4)), none, some (.inl x6), none, none], [.inl x6, .inr (.inr (69, x2))]), σ)) rfl ?_
        obtain ⟨hc, h⟩ := ite_nn h
        refine Wp.X_ild1 (WpD.mono _) rfl rfl hc ?_
        show Wp (WpD (e + 2)) hcX6_chanceOf Q (29, [some (.inr (.inr (8, 0))), none, some (.inr (.inr (69, x2))), some (.inl x3), some (.inr (.inl x4)), none, some (.inl x6), none, none], [.inl (σ.2.2.1 69 x2 (x6).toNatClampNeg)]) σ
        refine Wp.run (WpD.mono _) 1 (q := ((31, [some (.inr (.inr (8, 0))), none, some (.inr (.inr (69, x2))), some (.inl x3), some (.inr (.inl x4)), none, some (.inl x6), none, none], [.inl (2 : Int32), .inl (0 : Int32), .inl (σ.2.2.1 69 x2 (x6).toNatClampNeg)]), σ)) rfl ?_
        obtain ⟨q2, hb, h⟩ := bind_some h
        refine Wp.call (WpD.mono _) rfl (T_X11_within (e + 1) N (σ.2.2.1 69 x2 (x6).toNatClampNeg) (0 : Int32) (2 : Int32) σ _ _ _ hb ?_)
        show Wp (WpD (e + 2)) hcX6_chanceOf Q (34, [some (.inr (.inr (8, 0))), none, some (.inr (.inr (69, x2))), some (.inl x3), some (.inr (.inl x4)), none, some (.inl x6), none, none], [.inl q2.1]) q2.2
        refine Wp.if0_eq (WpD.mono _) rfl rfl (fun hc => ?_) (fun hc => ?_)
        · have h := (if_pos hc).symm.trans h
          show Wp (WpD (e + 2)) hcX6_chanceOf Q (52, [some (.inr (.inr (8, 0))), none, some (.inr (.inr (69, x2))), some (.inl x3), some (.inr (.inl x4)), none, some (.inl x6), none, none], []) q2.2
          refine Wp.run (WpD.mono _) 0 (q := ((53, [some (.inr (.inr (8, 0))), none, some (.inr (.inr (69, x2))), some (.inl x3), some (.inr (.inl x4)), none, some (.inl x6), none, none], [.inr (.inl (0 : Int64))]), q2.2)) rfl ?_
          exact Wp.jump (WpD.mono _) rfl ((T_X6_chanceOf_t69_b53 e N (F_X6_chanceOf_t69_b13 N n) r τ Q hQ ih) x2 x3 x4 x6 (0 : Int64) q2.2 h)
        · have h := (if_neg hc).symm.trans h
          show Wp (WpD (e + 2)) hcX6_chanceOf Q (37, [some (.inr (.inr (8, 0))), none, some (.inr (.inr (69, x2))), some (.inl x3), some (.inr (.inl x4)), none, some (.inl x6), none, none], []) q2.2
          refine Wp.run (WpD.mono _) 5 (q := ((45, [some (.inr (.inr (8, 0))), none, some (.inr (.inr (69, x2))), some (.inl x3), some (.inr (.inl x4)), none, some (.inl x6), none, none], [.inl x6, .inr (.inr (69, x2)), .inl (x6 + (1 : Int32)), .inr (.inr (8, 0))]), q2.2)) rfl ?_
          obtain ⟨hc, h⟩ := ite_nn h
          refine Wp.X_ild1 (WpD.mono _) rfl rfl hc ?_
          show Wp (WpD (e + 2)) hcX6_chanceOf Q (46, [some (.inr (.inr (8, 0))), none, some (.inr (.inr (69, x2))), some (.inl x3), some (.inr (.inl x4)), none, some (.inl x6), none, none], [.inl (q2.2.2.2.1 69 x2 (x6).toNatClampNeg), .inl (x6 + (1 : Int32)), .inr (.inr (8, 0))]) q2.2
          obtain ⟨q3, hb, h⟩ := bind_some h
          refine Wp.call (WpD.mono _) rfl (T_X6_pass (e + 0) N (x6 + (1 : Int32)) (q2.2.2.2.1 69 x2 (x6).toNatClampNeg) q2.2 _ _ _ hb ?_)
          show Wp (WpD (e + 2)) hcX6_chanceOf Q (49, [some (.inr (.inr (8, 0))), none, some (.inr (.inr (69, x2))), some (.inl x3), some (.inr (.inl x4)), none, some (.inl x6), none, none], [.inr (.inl q3.1)]) q3.2
          refine Wp.run (WpD.mono _) 0 (q := ((53, [some (.inr (.inr (8, 0))), none, some (.inr (.inr (69, x2))), some (.inl x3), some (.inr (.inl x4)), none, some (.inl x6), none, none], [.inr (.inl q3.1)]), q3.2)) rfl ?_
          exact Wp.jump (WpD.mono _) rfl ((T_X6_chanceOf_t69_b53 e N (F_X6_chanceOf_t69_b13 N n) r τ Q hQ ih) x2 x3 x4 x6 q3.1 q3.2 h)

set_option maxRecDepth 100000 in
set_option maxHeartbeats 4000000 in
theorem T_X6_chanceOf_t69 (e N : Nat)  (a1 : Int32) (a2 : Nat) (a3 : Int32) (σ : Mem) (r : Int64) (τ : Mem) (Q : Pst) (h : F_X6_chanceOf_t69 N a1 a2 a3 σ = some (r, τ)) (hQ : Q (some (.inr (.inl r))) τ) : WpD (e + 3) mX6_chanceOf [.inr (.inr (8, 0)), .inl a1, .inr (.inr (69, a2)), .inl a3] σ Q := by
  refine WpD.of (d := e + 2) (Nat.le_of_ble_eq_true rfl) (Nat.le_of_ble_eq_true rfl) ?_
  show Wp (WpD (e + 2)) hcX6_chanceOf Q (0, [some (.inr (.inr (8, 0))), some (.inl a1), some (.inr (.inr (69, a2))), some (.inl a3), none, none, none, none, none], []) σ
  unfold F_X6_chanceOf_t69 at h
  refine Wp.run (WpD.mono _) 1 (q := ((2, [some (.inr (.inr (8, 0))), some (.inl a1), some (.inr (.inr (69, a2))), some (.inl a3), none, none, none, none, none], [.inl a1, .inr (.inr (8, 0))]), σ)) rfl ?_
  obtain ⟨q1, hb, h⟩ := bind_some h
  refine Wp.call (WpD.mono _) rfl (T_X6_begin (e + 0) N a1 σ _ _ _ hb ?_)
  show Wp (WpD (e + 2)) hcX6_chanceOf Q (5, [some (.inr (.inr (8, 0))), some (.inl a1), some (.inr (.inr (69, a2))), some (.inl a3), none, none, none, none, none], []) q1.2
  refine Wp.run (WpD.mono _) 3 (q := ((13, [some (.inr (.inr (8, 0))), some (.inl a1), some (.inr (.inr (69, a2))), some (.inl a3), some (.inr (.inl (1000000 : Int64))), none, some (.inl (0 : Int32)), none, none], []), q1.2)) rfl ?_
  exact Wp.jump (WpD.mono _) rfl ((T_X6_chanceOf_t69_b13 e N  r τ Q hQ  N) a2 a3 (1000000 : Int64) (0 : Int32) q1.2 h)

set_option maxRecDepth 100000 in
set_option maxHeartbeats 4000000 in
theorem T_X11_row (e N : Nat)  (a1 : Int32) (a2 : Int32) (σ : Mem) (r : Int64) (τ : Mem) (Q : Pst) (h : F_X11_row N a1 a2 σ = some (r, τ)) (hQ : Q (some (.inr (.inl r))) τ) : WpD (e + 4) mX11_row [.inr (.inr (0, 0)), .inl a1, .inl a2] σ Q := by
  refine WpD.of (d := e + 3) (Nat.le_of_ble_eq_true rfl) (Nat.le_of_ble_eq_true rfl) ?_
  show Wp (WpD (e + 3)) hcX11_row Q (0, [some (.inr (.inr (0, 0))), some (.inl a1), some (.inl a2)], []) σ
  unfold F_X11_row at h
  refine Wp.run (WpD.mono _) 1 (q := ((2, [some (.inr (.inr (0, 0))), some (.inl a1), some (.inl a2)], [.inl a1, .inr (.inr (0, 0))]), σ)) rfl ?_
  obtain ⟨q1, hb, h⟩ := bind_some h
  refine Wp.call (WpD.mono _) rfl (T_X11_isPlace (e + 1) N a1 σ _ _ _ hb ?_)
  show Wp (WpD (e + 3)) hcX11_row Q (5, [some (.inr (.inr (0, 0))), some (.inl a1), some (.inl a2)], [.inl q1.1]) q1.2
  refine Wp.if0_eq (WpD.mono _) rfl rfl (fun hc => ?_) (fun hc => ?_)
  · have h := (if_pos hc).symm.trans h
    show Wp (WpD (e + 3)) hcX11_row Q (26, [some (.inr (.inr (0, 0))), some (.inl a1), some (.inl a2)], []) q1.2
    refine Wp.run (WpD.mono _) 0 (q := ((29, [none, none, none], [.inr (.inl (Int64.ofInt (-4611686018427387904)))]), q1.2)) rfl ?_
    obtain ⟨rfl, rfl⟩ := ret_inj h
    exact Wp.ret (WpD.mono _) rfl hQ
  · have h := (if_neg hc).symm.trans h
    show Wp (WpD (e + 3)) hcX11_row Q (8, [some (.inr (.inr (0, 0))), some (.inl a1), some (.inl a2)], []) q1.2
    refine Wp.run (WpD.mono _) 0 (q := ((9, [some (.inr (.inr (0, 0))), some (.inl a1), some (.inl a2)], [.inl a2]), q1.2)) rfl ?_
    obtain ⟨q2, hb, h⟩ := bind_some h
    refine Wp.call (WpD.mono _) rfl (T_X11_isSheet (e + 1) N a2 q1.2 _ _ _ hb ?_)
    show Wp (WpD (e + 3)) hcX11_row Q (12, [some (.inr (.inr (0, 0))), some (.inl a1), some (.inl a2)], [.inl q2.1]) q2.2
    refine Wp.if0_eq (WpD.mono _) rfl rfl (fun hc => ?_) (fun hc => ?_)
    · have h := (if_pos hc).symm.trans h
      show Wp (WpD (e + 3)) hcX11_row Q (26, [some (.inr (.inr (0, 0))), some (.inl a1), some (.inl a2)], []) q2.2
      refine Wp.run (WpD.mono _) 0 (q := ((29, [none, none, none], [.inr (.inl (Int64.ofInt (-4611686018427387904)))]), q2.2)) rfl ?_
      obtain ⟨rfl, rfl⟩ := ret_inj h
      exact Wp.ret (WpD.mono _) rfl hQ
    · have h := (if_neg hc).symm.trans h
      show Wp (WpD (e + 3)) hcX11_row Q (15, [some (.inr (.inr (0, 0))), some (.inl a1), some (.inl a2)], []) q2.2
      refine Wp.run (WpD.mono _) 2 (q := ((20, [some (.inr (.inr (0, 0))), some (.inl a1), some (.inl a2)], [.inl a2, .inr (.inr (5, 0))]), q2.2)) rfl ?_
      obtain ⟨q3, hb, h⟩ := bind_some h
      refine Wp.call (WpD.mono _) rfl (T_X10_isMissing (e + 2) N a2 q2.2 _ _ _ hb ?_)
      show Wp (WpD (e + 3)) hcX11_row Q (23, [some (.inr (.inr (0, 0))), some (.inl a1), some (.inl a2)], [.inl q3.1]) q3.2
      refine Wp.if0_eq (WpD.mono _) rfl rfl (fun hc => ?_) (fun hc => ?_)
      · have h := (if_pos hc).symm.trans h
        show Wp (WpD (e + 3)) hcX11_row Q (30, [some (.inr (.inr (0, 0))), some (.inl a1), some (.inl a2)], []) q3.2
        refine Wp.run (WpD.mono _) 3 (q := ((38, [some (.inr (.inr (0, 0))), some (.inl a1), some (.inl a2)], [.inl a2, .inr (.inr (71, 0))]), q3.2)) rfl ?_
        obtain ⟨hc, h⟩ := ite_nn h
        refine Wp.X_ild1 (WpD.mono _) rfl rfl hc ?_
        show Wp (WpD (e + 3)) hcX11_row Q (39, [some (.inr (.inr (0, 0))), some (.inl a1), some (.inl a2)], [.inl (q3.2.2.2.1 71 0 (a2).toNatClampNeg)]) q3.2
        refine Wp.run (WpD.mono _) 1 (q := ((43, [some (.inr (.inr (0, 0))), some (.inl a1), some (.inl a2)], [.inr (.inr (1, 0)), .inl (q3.2.2.2.1 71 0 (a2).toNatClampNeg)]), q3.2)) rfl ?_
        obtain ⟨q4, hb, h⟩ := bind_some h
        refine Wp.call (WpD.mono _) rfl (T_X2_deepest (e + 2) N q3.2 _ _ _ hb ?_)
        show Wp (WpD (e + 3)) hcX11_row Q (46, [some (.inr (.inr (0, 0))), some (.inl a1), some (.inl a2)], [.inl q4.1, .inl (q3.2.2.2.1 71 0 (a2).toNatClampNeg)]) q4.2
        refine Wp.if2_le (WpD.mono _) rfl rfl (fun hc => ?_) (fun hc => ?_)
        · have h := (if_pos hc).symm.trans h
          show Wp (WpD (e + 3)) hcX11_row Q (53, [some (.inr (.inr (0, 0))), some (.inl a1), some (.inl a2)], []) q4.2
          refine Wp.run (WpD.mono _) 6 (q := ((66, [some (.inr (.inr (0, 0))), some (.inl a1), some (.inl a2)], [.inl a2, .inr (.inr (68, 0)), .inl a1, .inr (.inr (8, 0))]), q4.2)) rfl ?_
          obtain ⟨hc, h⟩ := ite_nn h
          refine Wp.X_rld4 (WpD.mono _) rfl rfl hc ?_
          show Wp (WpD (e + 3)) hcX11_row Q (67, [some (.inr (.inr (0, 0))), some (.inl a1), some (.inl a2)], [.inr (.inr (69, (a2).toNatClampNeg)), .inl a1, .inr (.inr (8, 0))]) q4.2
          refine Wp.run (WpD.mono _) 3 (q := ((75, [some (.inr (.inr (0, 0))), some (.inl a1), some (.inl a2)], [.inl a2, .inr (.inr (71, 0)), .inr (.inr (69, (a2).toNatClampNeg)), .inl a1, .inr (.inr (8, 0))]), q4.2)) rfl ?_
          obtain ⟨hc, h⟩ := ite_nn h
          refine Wp.X_ild1 (WpD.mono _) rfl rfl hc ?_
          show Wp (WpD (e + 3)) hcX11_row Q (76, [some (.inr (.inr (0, 0))), some (.inl a1), some (.inl a2)], [.inl (q4.2.2.2.1 71 0 (a2).toNatClampNeg), .inr (.inr (69, (a2).toNatClampNeg)), .inl a1, .inr (.inr (8, 0))]) q4.2
          obtain ⟨q5, hb, h⟩ := bind_some h
          refine Wp.call (WpD.mono _) rfl (T_X6_chanceOf_t69 (e + 0) N a1 (a2).toNatClampNeg (q4.2.2.2.1 71 0 (a2).toNatClampNeg) q4.2 _ _ _ hb ?_)
          show Wp (WpD (e + 3)) hcX11_row Q (79, [some (.inr (.inr (0, 0))), some (.inl a1), some (.inl a2)], [.inr (.inl q5.1)]) q5.2
          obtain ⟨rfl, rfl⟩ := ret_inj h
          exact Wp.ret (WpD.mono _) rfl hQ
        · have h := (if_neg hc).symm.trans h
          show Wp (WpD (e + 3)) hcX11_row Q (49, [some (.inr (.inr (0, 0))), some (.inl a1), some (.inl a2)], []) q4.2
          refine Wp.run (WpD.mono _) 0 (q := ((52, [some (.inr (.inr (0, 0))), some (.inl a1), some (.inl a2)], [.inr (.inl (Int64.ofInt (-4611686018427387904)))]), q4.2)) rfl ?_
          obtain ⟨rfl, rfl⟩ := ret_inj h
          exact Wp.ret (WpD.mono _) rfl hQ
      · have h := (if_neg hc).symm.trans h
        show Wp (WpD (e + 3)) hcX11_row Q (26, [some (.inr (.inr (0, 0))), some (.inl a1), some (.inl a2)], []) q3.2
        refine Wp.run (WpD.mono _) 0 (q := ((29, [none, none, none], [.inr (.inl (Int64.ofInt (-4611686018427387904)))]), q3.2)) rfl ?_
        obtain ⟨rfl, rfl⟩ := ret_inj h
        exact Wp.ret (WpD.mono _) rfl hQ

set_option maxRecDepth 100000 in
set_option maxHeartbeats 4000000 in
theorem T_X9_make (e N : Nat)  (a1 : Int32) (a2 : Int32) (a3 : Int32) (σ : Mem) (r : Int32) (τ : Mem) (Q : Pst) (h : F_X9_make N a1 a2 a3 σ = some (r, τ)) (hQ : Q (some (.inl r)) τ) : WpD (e + 1) mX9_make [.inr (.inr (6, 0)), .inl a1, .inl a2, .inl a3] σ Q := by
  refine WpD.of (d := e + 0) (Nat.le_of_ble_eq_true rfl) (Nat.le_of_ble_eq_true rfl) ?_
  show Wp (WpD (e + 0)) hcX9_make Q (0, [some (.inr (.inr (6, 0))), some (.inl a1), some (.inl a2), some (.inl a3), none], []) σ
  unfold F_X9_make at h
  refine Wp.run (WpD.mono _) 4 (q := ((10, [some (.inr (.inr (6, 0))), some (.inl a1), some (.inl a2), some (.inl a3), some (.inl (σ.1 6 4))], [.inl (8 : Int32), .inl (σ.1 6 4)]), σ)) rfl ?_
  refine Wp.if2_lt (WpD.mono _) rfl rfl (fun hc => ?_) (fun hc => ?_)
  · have h := (if_pos hc).symm.trans h
    show Wp (WpD (e + 0)) hcX9_make Q (16, [some (.inr (.inr (6, 0))), some (.inl a1), some (.inl a2), some (.inl a3), some (.inl (σ.1 6 4))], []) σ
    refine Wp.run (WpD.mono _) 3 (q := ((23, [some (.inr (.inr (6, 0))), some (.inl a1), some (.inl a2), some (.inl a3), some (.inl (σ.1 6 4))], [.inl a1, .inl (σ.1 6 4), .inr (.inr (65, 0))]), σ)) rfl ?_
    obtain ⟨hc, h⟩ := ite_nn h
    refine Wp.X_ist (WpD.mono _) rfl rfl hc ?_
    show Wp (WpD (e + 0)) hcX9_make Q (24, [some (.inr (.inr (6, 0))), some (.inl a1), some (.inl a2), some (.inl a3), some (.inl (σ.1 6 4))], []) (σ.1, σ.2.1, (hwU3 σ.2.2.1 65 0 ((σ.1 6 4)).toNatClampNeg a1), σ.2.2.2.1, σ.2.2.2.2)
    refine Wp.run (WpD.mono _) 3 (q := ((31, [some (.inr (.inr (6, 0))), some (.inl a1), some (.inl a2), some (.inl a3), some (.inl (σ.1 6 4))], [.inl a2, .inl (σ.1 6 4), .inr (.inr (66, 0))]), (σ.1, σ.2.1, (hwU3 σ.2.2.1 65 0 ((σ.1 6 4)).toNatClampNeg a1), σ.2.2.2.1, σ.2.2.2.2))) rfl ?_
    obtain ⟨hc, h⟩ := ite_nn h
    refine Wp.X_ist (WpD.mono _) rfl rfl hc ?_
    show Wp (WpD (e + 0)) hcX9_make Q (32, [some (.inr (.inr (6, 0))), some (.inl a1), some (.inl a2), some (.inl a3), some (.inl (σ.1 6 4))], []) (σ.1, σ.2.1, (hwU3 (hwU3 σ.2.2.1 65 0 ((σ.1 6 4)).toNatClampNeg a1) 66 0 ((σ.1 6 4)).toNatClampNeg a2), σ.2.2.2.1, σ.2.2.2.2)
    refine Wp.run (WpD.mono _) 3 (q := ((39, [some (.inr (.inr (6, 0))), some (.inl a1), some (.inl a2), some (.inl a3), some (.inl (σ.1 6 4))], [.inl a3, .inl (σ.1 6 4), .inr (.inr (67, 0))]), (σ.1, σ.2.1, (hwU3 (hwU3 σ.2.2.1 65 0 ((σ.1 6 4)).toNatClampNeg a1) 66 0 ((σ.1 6 4)).toNatClampNeg a2), σ.2.2.2.1, σ.2.2.2.2))) rfl ?_
    obtain ⟨hc, h⟩ := ite_nn h
    refine Wp.X_ist (WpD.mono _) rfl rfl hc ?_
    show Wp (WpD (e + 0)) hcX9_make Q (40, [some (.inr (.inr (6, 0))), some (.inl a1), some (.inl a2), some (.inl a3), some (.inl (σ.1 6 4))], []) (σ.1, σ.2.1, (hwU3 (hwU3 (hwU3 σ.2.2.1 65 0 ((σ.1 6 4)).toNatClampNeg a1) 66 0 ((σ.1 6 4)).toNatClampNeg a2) 67 0 ((σ.1 6 4)).toNatClampNeg a3), σ.2.2.2.1, σ.2.2.2.2)
    refine Wp.run (WpD.mono _) 5 (q := ((50, [some (.inr (.inr (6, 0))), some (.inl a1), some (.inl a2), some (.inl a3), some (.inl (σ.1 6 4))], [.inl (σ.1 6 4)]), ((hwU2 σ.1 6 4 ((σ.1 6 4) + (1 : Int32))), σ.2.1, (hwU3 (hwU3 (hwU3 σ.2.2.1 65 0 ((σ.1 6 4)).toNatClampNeg a1) 66 0 ((σ.1 6 4)).toNatClampNeg a2) 67 0 ((σ.1 6 4)).toNatClampNeg a3), σ.2.2.2.1, σ.2.2.2.2))) rfl ?_
    obtain ⟨rfl, rfl⟩ := ret_inj h
    exact Wp.ret (WpD.mono _) rfl hQ
  · have h := (if_neg hc).symm.trans h
    show Wp (WpD (e + 0)) hcX9_make Q (13, [some (.inr (.inr (6, 0))), some (.inl a1), some (.inl a2), some (.inl a3), some (.inl (σ.1 6 4))], []) σ
    refine Wp.run (WpD.mono _) 0 (q := ((15, [some (.inr (.inr (6, 0))), some (.inl a1), some (.inl a2), some (.inl a3), some (.inl (σ.1 6 4))], [.inl (Int32.ofInt (-4))]), σ)) rfl ?_
    obtain ⟨rfl, rfl⟩ := ret_inj h
    exact Wp.ret (WpD.mono _) rfl hQ

set_option maxRecDepth 100000 in
set_option maxHeartbeats 4000000 in
theorem T_X11_rule (e N : Nat)  (a1 : Int32) (a2 : Int32) (a3 : Int32) (σ : Mem) (r : Int32) (τ : Mem) (Q : Pst) (h : F_X11_rule N a1 a2 a3 σ = some (r, τ)) (hQ : Q (some (.inl r)) τ) : WpD (e + 2) mX11_rule [.inr (.inr (0, 0)), .inl a1, .inl a2, .inl a3] σ Q := by
  refine WpD.of (d := e + 1) (Nat.le_of_ble_eq_true rfl) (Nat.le_of_ble_eq_true rfl) ?_
  show Wp (WpD (e + 1)) hcX11_rule Q (0, [some (.inr (.inr (0, 0))), some (.inl a1), some (.inl a2), some (.inl a3)], []) σ
  unfold F_X11_rule at h
  refine Wp.run (WpD.mono _) 2 (q := ((3, [some (.inr (.inr (0, 0))), some (.inl a1), some (.inl a2), some (.inl a3)], [.inl (5 : Int32), .inl (0 : Int32), .inl a1]), σ)) rfl ?_
  obtain ⟨q1, hb, h⟩ := bind_some h
  refine Wp.call (WpD.mono _) rfl (T_X11_within (e + 0) N a1 (0 : Int32) (5 : Int32) σ _ _ _ hb ?_)
  show Wp (WpD (e + 1)) hcX11_rule Q (6, [some (.inr (.inr (0, 0))), some (.inl a1), some (.inl a2), some (.inl a3)], [.inl q1.1]) q1.2
  refine Wp.if0_eq (WpD.mono _) rfl rfl (fun hc => ?_) (fun hc => ?_)
  · have h := (if_pos hc).symm.trans h
    show Wp (WpD (e + 1)) hcX11_rule Q (28, [some (.inr (.inr (0, 0))), some (.inl a1), some (.inl a2), some (.inl a3)], []) q1.2
    refine Wp.run (WpD.mono _) 0 (q := ((30, [none, none, none, none], [.inl (Int32.ofInt (-2))]), q1.2)) rfl ?_
    obtain ⟨rfl, rfl⟩ := ret_inj h
    exact Wp.ret (WpD.mono _) rfl hQ
  · have h := (if_neg hc).symm.trans h
    show Wp (WpD (e + 1)) hcX11_rule Q (9, [some (.inr (.inr (0, 0))), some (.inl a1), some (.inl a2), some (.inl a3)], []) q1.2
    refine Wp.run (WpD.mono _) 2 (q := ((12, [some (.inr (.inr (0, 0))), some (.inl a1), some (.inl a2), some (.inl a3)], [.inl (5 : Int32), .inl (0 : Int32), .inl a2]), q1.2)) rfl ?_
    obtain ⟨q2, hb, h⟩ := bind_some h
    refine Wp.call (WpD.mono _) rfl (T_X11_within (e + 0) N a2 (0 : Int32) (5 : Int32) q1.2 _ _ _ hb ?_)
    show Wp (WpD (e + 1)) hcX11_rule Q (15, [some (.inr (.inr (0, 0))), some (.inl a1), some (.inl a2), some (.inl a3)], [.inl q2.1]) q2.2
    refine Wp.if0_eq (WpD.mono _) rfl rfl (fun hc => ?_) (fun hc => ?_)
    · have h := (if_pos hc).symm.trans h
      show Wp (WpD (e + 1)) hcX11_rule Q (28, [some (.inr (.inr (0, 0))), some (.inl a1), some (.inl a2), some (.inl a3)], []) q2.2
      refine Wp.run (WpD.mono _) 0 (q := ((30, [none, none, none, none], [.inl (Int32.ofInt (-2))]), q2.2)) rfl ?_
      obtain ⟨rfl, rfl⟩ := ret_inj h
      exact Wp.ret (WpD.mono _) rfl hQ
    · have h := (if_neg hc).symm.trans h
      show Wp (WpD (e + 1)) hcX11_rule Q (18, [some (.inr (.inr (0, 0))), some (.inl a1), some (.inl a2), some (.inl a3)], []) q2.2
      refine Wp.run (WpD.mono _) 2 (q := ((22, [some (.inr (.inr (0, 0))), some (.inl a1), some (.inl a2), some (.inl a3)], [.inl (7 : Int32), .inl (0 : Int32), .inl a3]), q2.2)) rfl ?_
      obtain ⟨q3, hb, h⟩ := bind_some h
      refine Wp.call (WpD.mono _) rfl (T_X11_within (e + 0) N a3 (0 : Int32) (7 : Int32) q2.2 _ _ _ hb ?_)
      show Wp (WpD (e + 1)) hcX11_rule Q (25, [some (.inr (.inr (0, 0))), some (.inl a1), some (.inl a2), some (.inl a3)], [.inl q3.1]) q3.2
      refine Wp.if0_ne (WpD.mono _) rfl rfl (fun hc => ?_) (fun hc => ?_)
      · have h := (if_pos hc).symm.trans h
        show Wp (WpD (e + 1)) hcX11_rule Q (28, [some (.inr (.inr (0, 0))), some (.inl a1), some (.inl a2), some (.inl a3)], []) q3.2
        refine Wp.run (WpD.mono _) 0 (q := ((30, [none, none, none, none], [.inl (Int32.ofInt (-2))]), q3.2)) rfl ?_
        obtain ⟨rfl, rfl⟩ := ret_inj h
        exact Wp.ret (WpD.mono _) rfl hQ
      · have h := (if_neg hc).symm.trans h
        show Wp (WpD (e + 1)) hcX11_rule Q (31, [some (.inr (.inr (0, 0))), some (.inl a1), some (.inl a2), some (.inl a3)], []) q3.2
        refine Wp.run (WpD.mono _) 4 (q := ((38, [some (.inr (.inr (0, 0))), some (.inl a1), some (.inl a2), some (.inl a3)], [.inl a3, .inl a2, .inl a1, .inr (.inr (6, 0))]), q3.2)) rfl ?_
        obtain ⟨q4, hb, h⟩ := bind_some h
        refine Wp.call (WpD.mono _) rfl (T_X9_make (e + 0) N a1 a2 a3 q3.2 _ _ _ hb ?_)
        show Wp (WpD (e + 1)) hcX11_rule Q (41, [some (.inr (.inr (0, 0))), some (.inl a1), some (.inl a2), some (.inl a3)], [.inl q4.1]) q4.2
        obtain ⟨rfl, rfl⟩ := ret_inj h
        exact Wp.ret (WpD.mono _) rfl hQ

set_option maxRecDepth 100000 in
set_option maxHeartbeats 4000000 in
theorem T_X11_ruleTold (e N : Nat)  (a1 : Int32) (a2 : Int32) (σ : Mem) (r : Int32) (τ : Mem) (Q : Pst) (h : F_X11_ruleTold N a1 a2 σ = some (r, τ)) (hQ : Q (some (.inl r)) τ) : WpD (e + 3) mX11_ruleTold [.inr (.inr (0, 0)), .inl a1, .inl a2] σ Q := by
  refine WpD.of (d := e + 2) (Nat.le_of_ble_eq_true rfl) (Nat.le_of_ble_eq_true rfl) ?_
  show Wp (WpD (e + 2)) hcX11_ruleTold Q (0, [some (.inr (.inr (0, 0))), some (.inl a1), some (.inl a2)], []) σ
  unfold F_X11_ruleTold at h
  refine Wp.run (WpD.mono _) 1 (q := ((2, [some (.inr (.inr (0, 0))), some (.inl a1), some (.inl a2)], [.inl a1, .inr (.inr (0, 0))]), σ)) rfl ?_
  obtain ⟨q1, hb, h⟩ := bind_some h
  refine Wp.call (WpD.mono _) rfl (T_X11_isRule (e + 0) N a1 σ _ _ _ hb ?_)
  show Wp (WpD (e + 2)) hcX11_ruleTold Q (5, [some (.inr (.inr (0, 0))), some (.inl a1), some (.inl a2)], [.inl q1.1]) q1.2
  refine Wp.if0_ne (WpD.mono _) rfl rfl (fun hc => ?_) (fun hc => ?_)
  · have h := (if_pos hc).symm.trans h
    show Wp (WpD (e + 2)) hcX11_ruleTold Q (8, [some (.inr (.inr (0, 0))), some (.inl a1), some (.inl a2)], []) q1.2
    refine Wp.run (WpD.mono _) 0 (q := ((10, [some (.inr (.inr (0, 0))), some (.inl a1), some (.inl a2)], [.inl (Int32.ofInt (-5))]), q1.2)) rfl ?_
    obtain ⟨rfl, rfl⟩ := ret_inj h
    exact Wp.ret (WpD.mono _) rfl hQ
  · have h := (if_neg hc).symm.trans h
    show Wp (WpD (e + 2)) hcX11_ruleTold Q (11, [some (.inr (.inr (0, 0))), some (.inl a1), some (.inl a2)], []) q1.2
    refine Wp.run (WpD.mono _) 0 (q := ((12, [some (.inr (.inr (0, 0))), some (.inl a1), some (.inl a2)], [.inl a2]), q1.2)) rfl ?_
    by_cases hs0 : a2 = 0
    · have h := (if_pos hs0).symm.trans h
      refine Wp.swIn (WpD.mono _) (q := ((40, [some (.inr (.inr (0, 0))), some (.inl a1), some (.inl a2)], []), q1.2)) hs0 rfl ?_
      refine Wp.run (WpD.mono _) 3 (q := ((48, [some (.inr (.inr (0, 0))), some (.inl a1), some (.inl a2)], [.inl a1, .inr (.inr (65, 0))]), q1.2)) rfl ?_
      obtain ⟨hc, h⟩ := ite_nn h
      refine Wp.X_ild1 (WpD.mono _) rfl rfl hc ?_
      show Wp (WpD (e + 2)) hcX11_ruleTold Q (49, [some (.inr (.inr (0, 0))), some (.inl a1), some (.inl a2)], [.inl (q1.2.2.2.1 65 0 (a1).toNatClampNeg)]) q1.2
      obtain ⟨rfl, rfl⟩ := ret_inj h
      exact Wp.ret (WpD.mono _) rfl hQ
    have h := (if_neg hs0).symm.trans h
    by_cases hs1 : a2 = 1
    · have h := (if_pos hs1).symm.trans h
      refine Wp.swIn (WpD.mono _) (q := ((50, [some (.inr (.inr (0, 0))), some (.inl a1), some (.inl a2)], []), q1.2)) hs1 rfl ?_
      refine Wp.run (WpD.mono _) 3 (q := ((58, [some (.inr (.inr (0, 0))), some (.inl a1), some (.inl a2)], [.inl a1, .inr (.inr (66, 0))]), q1.2)) rfl ?_
      obtain ⟨hc, h⟩ := ite_nn h
      refine Wp.X_ild1 (WpD.mono _) rfl rfl hc ?_
      show Wp (WpD (e + 2)) hcX11_ruleTold Q (59, [some (.inr (.inr (0, 0))), some (.inl a1), some (.inl a2)], [.inl (q1.2.2.2.1 66 0 (a1).toNatClampNeg)]) q1.2
      obtain ⟨rfl, rfl⟩ := ret_inj h
      exact Wp.ret (WpD.mono _) rfl hQ
    have h := (if_neg hs1).symm.trans h
    by_cases hs2 : a2 = 2
    · have h := (if_pos hs2).symm.trans h
      refine Wp.swIn (WpD.mono _) (q := ((60, [some (.inr (.inr (0, 0))), some (.inl a1), some (.inl a2)], []), q1.2)) hs2 rfl ?_
      refine Wp.run (WpD.mono _) 3 (q := ((68, [some (.inr (.inr (0, 0))), some (.inl a1), some (.inl a2)], [.inl a1, .inr (.inr (67, 0))]), q1.2)) rfl ?_
      obtain ⟨hc, h⟩ := ite_nn h
      refine Wp.X_ild1 (WpD.mono _) rfl rfl hc ?_
      show Wp (WpD (e + 2)) hcX11_ruleTold Q (69, [some (.inr (.inr (0, 0))), some (.inl a1), some (.inl a2)], [.inl (q1.2.2.2.1 67 0 (a1).toNatClampNeg)]) q1.2
      obtain ⟨rfl, rfl⟩ := ret_inj h
      exact Wp.ret (WpD.mono _) rfl hQ
    have h := (if_neg hs2).symm.trans h
    have ehs0 : ¬ (a2).toInt = 0 := fun z => hs0 (Int32.toInt_inj.mp z)
    have ehs1 : ¬ (a2).toInt = 1 := fun z => hs1 (Int32.toInt_inj.mp z)
    have ehs2 : ¬ (a2).toInt = 2 := fun z => hs2 (Int32.toInt_inj.mp z)
    refine Wp.swOut (WpD.mono _) (q := ((70, [some (.inr (.inr (0, 0))), some (.inl a1), some (.inl a2)], []), q1.2)) (o := if (a2).toInt < 0 ∨ 2 < (a2).toInt then some (58) else #[28, 38, 48][((a2).toInt - 0).toNat]?) (o' := some (58)) rfl (if_pos (by omega)) rfl ?_
    refine Wp.run (WpD.mono _) 0 (q := ((72, [some (.inr (.inr (0, 0))), some (.inl a1), some (.inl a2)], [.inl (Int32.ofInt (-7))]), q1.2)) rfl ?_
    obtain ⟨rfl, rfl⟩ := ret_inj h
    exact Wp.ret (WpD.mono _) rfl hQ

set_option maxRecDepth 100000 in
set_option maxHeartbeats 4000000 in
theorem T_X11_set (e N : Nat)  (a1 : Int32) (a2 : Int32) (σ : Mem) (r : Int32) (τ : Mem) (Q : Pst) (h : F_X11_set N a1 a2 σ = some (r, τ)) (hQ : Q (some (.inl r)) τ) : WpD (e + 7) mX11_set [.inr (.inr (0, 0)), .inl a1, .inl a2] σ Q := by
  refine WpD.of (d := e + 6) (Nat.le_of_ble_eq_true rfl) (Nat.le_of_ble_eq_true rfl) ?_
  show Wp (WpD (e + 6)) hcX11_set Q (0, [some (.inr (.inr (0, 0))), some (.inl a1), some (.inl a2), none], []) σ
  unfold F_X11_set at h
  refine Wp.run (WpD.mono _) 2 (q := ((3, [some (.inr (.inr (0, 0))), some (.inl a1), some (.inl a2), none], [.inl (4 : Int32), .inl (0 : Int32), .inl a1]), σ)) rfl ?_
  obtain ⟨q1, hb, h⟩ := bind_some h
  refine Wp.call (WpD.mono _) rfl (T_X11_within (e + 5) N a1 (0 : Int32) (4 : Int32) σ _ _ _ hb ?_)
  show Wp (WpD (e + 6)) hcX11_set Q (6, [some (.inr (.inr (0, 0))), some (.inl a1), some (.inl a2), none], [.inl q1.1]) q1.2
  refine Wp.if0_ne (WpD.mono _) rfl rfl (fun hc => ?_) (fun hc => ?_)
  · have h := (if_pos hc).symm.trans h
    show Wp (WpD (e + 6)) hcX11_set Q (9, [some (.inr (.inr (0, 0))), some (.inl a1), some (.inl a2), none], []) q1.2
    refine Wp.run (WpD.mono _) 0 (q := ((10, [some (.inr (.inr (0, 0))), some (.inl a1), some (.inl a2), none], [.inl (Int32.ofInt (-1))]), q1.2)) rfl ?_
    obtain ⟨rfl, rfl⟩ := ret_inj h
    exact Wp.ret (WpD.mono _) rfl hQ
  · have h := (if_neg hc).symm.trans h
    show Wp (WpD (e + 6)) hcX11_set Q (11, [some (.inr (.inr (0, 0))), some (.inl a1), some (.inl a2), none], []) q1.2
    refine Wp.run (WpD.mono _) 2 (q := ((16, [some (.inr (.inr (0, 0))), some (.inl a1), some (.inl a2), none], [.inl a1, .inr (.inr (201, 0)), .inl a2]), q1.2)) rfl ?_
    obtain ⟨hc, h⟩ := ite_nn h
    refine Wp.X_ild7 (WpD.mono _) rfl rfl hc ?_
    show Wp (WpD (e + 6)) hcX11_set Q (17, [some (.inr (.inr (0, 0))), some (.inl a1), some (.inl a2), none], [.inl (ntD 0 [1, 0, 0, 0, 0] (a1).toNatClampNeg), .inl a2]) q1.2
    refine Wp.run (WpD.mono _) 1 (q := ((21, [some (.inr (.inr (0, 0))), some (.inl a1), some (.inl a2), none], [.inl a1, .inr (.inr (202, 0)), .inl (ntD 0 [1, 0, 0, 0, 0] (a1).toNatClampNeg), .inl a2]), q1.2)) rfl ?_
    obtain ⟨hc, h⟩ := ite_nn h
    refine Wp.X_ild7 (WpD.mono _) rfl rfl hc ?_
    show Wp (WpD (e + 6)) hcX11_set Q (22, [some (.inr (.inr (0, 0))), some (.inl a1), some (.inl a2), none], [.inl (ntD 0 [5, 9999, 9, 9999, 9999] (a1).toNatClampNeg), .inl (ntD 0 [1, 0, 0, 0, 0] (a1).toNatClampNeg), .inl a2]) q1.2
    obtain ⟨q2, hb, h⟩ := bind_some h
    refine Wp.call (WpD.mono _) rfl (T_X11_within (e + 5) N a2 (ntD 0 [1, 0, 0, 0, 0] (a1).toNatClampNeg) (ntD 0 [5, 9999, 9, 9999, 9999] (a1).toNatClampNeg) q1.2 _ _ _ hb ?_)
    show Wp (WpD (e + 6)) hcX11_set Q (25, [some (.inr (.inr (0, 0))), some (.inl a1), some (.inl a2), none], [.inl q2.1]) q2.2
    refine Wp.if0_ne (WpD.mono _) rfl rfl (fun hc => ?_) (fun hc => ?_)
    · have h := (if_pos hc).symm.trans h
      show Wp (WpD (e + 6)) hcX11_set Q (28, [some (.inr (.inr (0, 0))), some (.inl a1), some (.inl a2), none], []) q2.2
      refine Wp.run (WpD.mono _) 0 (q := ((30, [some (.inr (.inr (0, 0))), some (.inl a1), some (.inl a2), none], [.inl (Int32.ofInt (-2))]), q2.2)) rfl ?_
      obtain ⟨rfl, rfl⟩ := ret_inj h
      exact Wp.ret (WpD.mono _) rfl hQ
    · have h := (if_neg hc).symm.trans h
      show Wp (WpD (e + 6)) hcX11_set Q (31, [some (.inr (.inr (0, 0))), some (.inl a1), some (.inl a2), none], []) q2.2
      refine Wp.run (WpD.mono _) 3 (q := ((39, [some (.inr (.inr (0, 0))), some (.inl a1), some (.inl a2), none], [.inl a1, .inr (.inr (28, 0))]), q2.2)) rfl ?_
      obtain ⟨hc, h⟩ := ite_nn h
      refine Wp.X_ild1 (WpD.mono _) rfl rfl hc ?_
      show Wp (WpD (e + 6)) hcX11_set Q (40, [some (.inr (.inr (0, 0))), some (.inl a1), some (.inl a2), none], [.inl (q2.2.2.2.1 28 0 (a1).toNatClampNeg)]) q2.2
      refine Wp.run (WpD.mono _) 5 (q := ((50, [some (.inr (.inr (0, 0))), some (.inl a1), some (.inl a2), some (.inl (q2.2.2.2.1 28 0 (a1).toNatClampNeg))], [.inl a2, .inl a1, .inr (.inr (28, 0))]), q2.2)) rfl ?_
      obtain ⟨hc, h⟩ := ite_nn h
      refine Wp.X_ist (WpD.mono _) rfl rfl hc ?_
      show Wp (WpD (e + 6)) hcX11_set Q (51, [some (.inr (.inr (0, 0))), some (.inl a1), some (.inl a2), some (.inl (q2.2.2.2.1 28 0 (a1).toNatClampNeg))], []) (q2.2.1, q2.2.2.1, (hwU3 q2.2.2.2.1 28 0 (a1).toNatClampNeg a2), q2.2.2.2.2.1, q2.2.2.2.2.2)
      refine Wp.run (WpD.mono _) 1 (q := ((53, [some (.inr (.inr (0, 0))), some (.inl a1), some (.inl a2), some (.inl (q2.2.2.2.1 28 0 (a1).toNatClampNeg))], [.inl (2 : Int32), .inl a1]), (q2.2.1, q2.2.2.1, (hwU3 q2.2.2.2.1 28 0 (a1).toNatClampNeg a2), q2.2.2.2.2.1, q2.2.2.2.2.2))) rfl ?_
      refine Wp.if2_ne (WpD.mono _) rfl rfl (fun hc => ?_) (fun hc => ?_)
      · have h := (if_pos hc).symm.trans h
        show Wp (WpD (e + 6)) hcX11_set Q (56, [some (.inr (.inr (0, 0))), some (.inl a1), some (.inl a2), some (.inl (q2.2.2.2.1 28 0 (a1).toNatClampNeg))], []) (q2.2.1, q2.2.2.1, (hwU3 q2.2.2.2.1 28 0 (a1).toNatClampNeg a2), q2.2.2.2.2.1, q2.2.2.2.2.2)
        refine Wp.run (WpD.mono _) 1 (q := ((60, [some (.inr (.inr (0, 0))), some (.inl a1), some (.inl a2), some (.inl (q2.2.2.2.1 28 0 (a1).toNatClampNeg))], [.inr (.inr (2, 0))]), (q2.2.1, q2.2.2.1, (hwU3 q2.2.2.2.1 28 0 (a1).toNatClampNeg a2), q2.2.2.2.2.1, q2.2.2.2.2.2))) rfl ?_
        obtain ⟨q3, hb, h⟩ := bind_some h
        refine Wp.call (WpD.mono _) rfl (T_X4_weigh (e + 0) N (q2.2.1, q2.2.2.1, (hwU3 q2.2.2.2.1 28 0 (a1).toNatClampNeg a2), q2.2.2.2.2.1, q2.2.2.2.2.2) _ _ _ hb ?_)
        show Wp (WpD (e + 6)) hcX11_set Q (63, [some (.inr (.inr (0, 0))), some (.inl a1), some (.inl a2), some (.inl (q2.2.2.2.1 28 0 (a1).toNatClampNeg))], []) q3.2
        refine Wp.run (WpD.mono _) 0 (q := ((64, [none, none, none, some (.inl (q2.2.2.2.1 28 0 (a1).toNatClampNeg))], [.inl (q2.2.2.2.1 28 0 (a1).toNatClampNeg)]), q3.2)) rfl ?_
        obtain ⟨rfl, rfl⟩ := ret_inj h
        exact Wp.ret (WpD.mono _) rfl hQ
      · have h := (if_neg hc).symm.trans h
        show Wp (WpD (e + 6)) hcX11_set Q (63, [some (.inr (.inr (0, 0))), some (.inl a1), some (.inl a2), some (.inl (q2.2.2.2.1 28 0 (a1).toNatClampNeg))], []) (q2.2.1, q2.2.2.1, (hwU3 q2.2.2.2.1 28 0 (a1).toNatClampNeg a2), q2.2.2.2.2.1, q2.2.2.2.2.2)
        refine Wp.run (WpD.mono _) 0 (q := ((64, [none, none, none, some (.inl (q2.2.2.2.1 28 0 (a1).toNatClampNeg))], [.inl (q2.2.2.2.1 28 0 (a1).toNatClampNeg)]), (q2.2.1, q2.2.2.1, (hwU3 q2.2.2.2.1 28 0 (a1).toNatClampNeg a2), q2.2.2.2.2.1, q2.2.2.2.2.2))) rfl ?_
        obtain ⟨rfl, rfl⟩ := ret_inj h
        exact Wp.ret (WpD.mono _) rfl hQ

set_option maxRecDepth 100000 in
set_option maxHeartbeats 4000000 in
theorem T_X11_share (e N : Nat)  (a1 : Int32) (a2 : Int32) (σ : Mem) (r : Int32) (τ : Mem) (Q : Pst) (h : F_X11_share N a1 a2 σ = some (r, τ)) (hQ : Q (some (.inl r)) τ) : WpD (e + 4) mX11_share [.inr (.inr (0, 0)), .inl a1, .inl a2] σ Q := by
  refine WpD.of (d := e + 3) (Nat.le_of_ble_eq_true rfl) (Nat.le_of_ble_eq_true rfl) ?_
  show Wp (WpD (e + 3)) hcX11_share Q (0, [some (.inr (.inr (0, 0))), some (.inl a1), some (.inl a2), none], []) σ
  unfold F_X11_share at h
  refine Wp.run (WpD.mono _) 3 (q := ((6, [some (.inr (.inr (0, 0))), some (.inl a1), some (.inl a2), none], [.inr (.inr (7, 0)), .inl (1 : Int32), .inl a1]), σ)) rfl ?_
  obtain ⟨q1, hb, h⟩ := bind_some h
  refine Wp.call (WpD.mono _) rfl (T_X1_all (e + 2) N σ _ _ _ hb ?_)
  show Wp (WpD (e + 3)) hcX11_share Q (9, [some (.inr (.inr (0, 0))), some (.inl a1), some (.inl a2), none], [.inl q1.1, .inl (1 : Int32), .inl a1]) q1.2
  obtain ⟨q2, hb, h⟩ := bind_some h
  refine Wp.call (WpD.mono _) rfl (T_X11_within (e + 2) N a1 (1 : Int32) q1.1 q1.2 _ _ _ hb ?_)
  show Wp (WpD (e + 3)) hcX11_share Q (12, [some (.inr (.inr (0, 0))), some (.inl a1), some (.inl a2), none], [.inl q2.1]) q2.2
  refine Wp.if0_eq (WpD.mono _) rfl rfl (fun hc => ?_) (fun hc => ?_)
  · have h := (if_pos hc).symm.trans h
    show Wp (WpD (e + 3)) hcX11_share Q (24, [some (.inr (.inr (0, 0))), some (.inl a1), some (.inl a2), none], []) q2.2
    refine Wp.run (WpD.mono _) 0 (q := ((26, [none, none, none, none], [.inl (Int32.ofInt (-2))]), q2.2)) rfl ?_
    obtain ⟨rfl, rfl⟩ := ret_inj h
    exact Wp.ret (WpD.mono _) rfl hQ
  · have h := (if_neg hc).symm.trans h
    show Wp (WpD (e + 3)) hcX11_share Q (15, [some (.inr (.inr (0, 0))), some (.inl a1), some (.inl a2), none], []) q2.2
    refine Wp.run (WpD.mono _) 2 (q := ((18, [some (.inr (.inr (0, 0))), some (.inl a1), some (.inl a2), none], [.inl (1 : Int32), .inl (0 : Int32), .inl a2]), q2.2)) rfl ?_
    obtain ⟨q3, hb, h⟩ := bind_some h
    refine Wp.call (WpD.mono _) rfl (T_X11_within (e + 2) N a2 (0 : Int32) (1 : Int32) q2.2 _ _ _ hb ?_)
    show Wp (WpD (e + 3)) hcX11_share Q (21, [some (.inr (.inr (0, 0))), some (.inl a1), some (.inl a2), none], [.inl q3.1]) q3.2
    refine Wp.if0_ne (WpD.mono _) rfl rfl (fun hc => ?_) (fun hc => ?_)
    · have h := (if_pos hc).symm.trans h
      show Wp (WpD (e + 3)) hcX11_share Q (24, [some (.inr (.inr (0, 0))), some (.inl a1), some (.inl a2), none], []) q3.2
      refine Wp.run (WpD.mono _) 0 (q := ((26, [none, none, none, none], [.inl (Int32.ofInt (-2))]), q3.2)) rfl ?_
      obtain ⟨rfl, rfl⟩ := ret_inj h
      exact Wp.ret (WpD.mono _) rfl hQ
    · have h := (if_neg hc).symm.trans h
      show Wp (WpD (e + 3)) hcX11_share Q (27, [some (.inr (.inr (0, 0))), some (.inl a1), some (.inl a2), none], []) q3.2
      refine Wp.run (WpD.mono _) 2 (q := ((32, [some (.inr (.inr (0, 0))), some (.inl a1), some (.inl a2), none], [.inl a1, .inr (.inr (7, 0))]), q3.2)) rfl ?_
      obtain ⟨q4, hb, h⟩ := bind_some h
      refine Wp.call (WpD.mono _) rfl (T_X1_wellOf (e + 0) N a1 q3.2 _ _ _ hb ?_)
      show Wp (WpD (e + 3)) hcX11_share Q (35, [some (.inr (.inr (0, 0))), some (.inl a1), some (.inl a2), none], [.inl q4.1]) q4.2
      refine Wp.run (WpD.mono _) 1 (q := ((37, [some (.inr (.inr (0, 0))), some (.inl a1), some (.inl a2), some (.inl q4.1)], [.inl a2]), q4.2)) rfl ?_
      refine Wp.if0_ne (WpD.mono _) rfl rfl (fun hc => ?_) (fun hc => ?_)
      · have h := (if_pos hc).symm.trans h
        show Wp (WpD (e + 3)) hcX11_share Q (40, [some (.inr (.inr (0, 0))), some (.inl a1), some (.inl a2), some (.inl q4.1)], []) q4.2
        refine Wp.run (WpD.mono _) 1 (q := ((53, [some (.inr (.inr (0, 0))), some (.inl a1), some (.inl a2), some (.inl q4.1)], [.inl q4.1]), q4.2)) rfl ?_
        obtain ⟨rfl, rfl⟩ := ret_inj h
        exact Wp.ret (WpD.mono _) rfl hQ
      · have h := (if_neg hc).symm.trans h
        show Wp (WpD (e + 3)) hcX11_share Q (44, [some (.inr (.inr (0, 0))), some (.inl a1), some (.inl a2), some (.inl q4.1)], []) q4.2
        refine Wp.run (WpD.mono _) 3 (q := ((50, [some (.inr (.inr (0, 0))), some (.inl a1), some (.inl a2), some (.inl q4.1)], [.inl q4.1, .inl a1, .inr (.inr (7, 0))]), q4.2)) rfl ?_
        obtain ⟨q5, hb, h⟩ := bind_some h
        refine Wp.call (WpD.mono _) rfl (T_X1_walk (e + 1) N a1 q4.1 q4.2 _ _ _ hb ?_)
        show Wp (WpD (e + 3)) hcX11_share Q (53, [some (.inr (.inr (0, 0))), some (.inl a1), some (.inl a2), some (.inl q4.1)], [.inl q5.1]) q5.2
        obtain ⟨rfl, rfl⟩ := ret_inj h
        exact Wp.ret (WpD.mono _) rfl hQ

set_option maxRecDepth 100000 in
set_option maxHeartbeats 4000000 in
theorem T_X11_sheet_b58 (e N : Nat)   (r : Int32) (τ : Mem) (Q : Pst) (hQ : Q (some (.inl r)) τ) : ∀ (s0 : Int32) (s1 : Int32) (s2 : Int32) (σ : Mem), F_X11_sheet_b58 N s0 s1 s2 σ = some (r, τ) → Wp (WpD (e + 2)) hcX11_sheet Q (58, [none, none, none, none], [.inl s0, .inl s1, .inl s2, .inr (.inr (5, 0))]) σ := by
  intro s0 s1 s2 σ h
  unfold F_X11_sheet_b58 at h
  obtain ⟨q3, hb, h⟩ := bind_some h
  refine Wp.call (WpD.mono _) rfl (T_X10_lay (e + 1) N s2 s1 s0 σ _ _ _ hb ?_)
  show Wp (WpD (e + 2)) hcX11_sheet Q (61, [none, none, none, none], []) q3.2
  refine Wp.run (WpD.mono _) 0 (q := ((62, [none, none, none, none], [.inl (1 : Int32)]), q3.2)) rfl ?_
  obtain ⟨rfl, rfl⟩ := ret_inj h
  exact Wp.ret (WpD.mono _) rfl hQ

set_option maxRecDepth 100000 in
set_option maxHeartbeats 4000000 in
theorem T_X11_sheet_b43 (e N : Nat)   (r : Int32) (τ : Mem) (Q : Pst) (hQ : Q (some (.inl r)) τ) : ∀ (x1 : Int32) (x2 : Int32) (x3 : Int32) (σ : Mem), F_X11_sheet_b43 N x1 x2 x3 σ = some (r, τ) → Wp (WpD (e + 2)) hcX11_sheet Q (43, [some (.inr (.inr (0, 0))), some (.inl x1), some (.inl x2), some (.inl x3)], []) σ := by
  intro x1 x2 x3 σ h
  unfold F_X11_sheet_b43 at h
  refine Wp.run (WpD.mono _) 4 (q := ((50, [some (.inr (.inr (0, 0))), some (.inl x1), some (.inl x2), some (.inl x3)], [.inl x2, .inl x2, .inl x1, .inr (.inr (5, 0))]), σ)) rfl ?_
  refine Wp.if0_ge (WpD.mono _) rfl rfl (fun hc => ?_) (fun hc => ?_)
  · have h := (if_pos hc).symm.trans h
    show Wp (WpD (e + 2)) hcX11_sheet Q (57, [some (.inr (.inr (0, 0))), some (.inl x1), some (.inl x2), some (.inl x3)], [.inl x2, .inl x1, .inr (.inr (5, 0))]) σ
    refine Wp.run (WpD.mono _) 0 (q := ((58, [some (.inr (.inr (0, 0))), some (.inl x1), some (.inl x2), some (.inl x3)], [.inl x3, .inl x2, .inl x1, .inr (.inr (5, 0))]), σ)) rfl ?_
    exact Wp.jump (WpD.mono _) rfl ((T_X11_sheet_b58 e N  r τ Q hQ ) x3 x2 x1 σ h)
  · have h := (if_neg hc).symm.trans h
    show Wp (WpD (e + 2)) hcX11_sheet Q (53, [some (.inr (.inr (0, 0))), some (.inl x1), some (.inl x2), some (.inl x3)], [.inl x2, .inl x1, .inr (.inr (5, 0))]) σ
    refine Wp.run (WpD.mono _) 1 (q := ((58, [some (.inr (.inr (0, 0))), some (.inl x1), some (.inl x2), some (.inl x3)], [.inl (0 : Int32), .inl x2, .inl x1, .inr (.inr (5, 0))]), σ)) rfl ?_
    exact Wp.jump (WpD.mono _) rfl ((T_X11_sheet_b58 e N  r τ Q hQ ) (0 : Int32) x2 x1 σ h)

set_option maxRecDepth 100000 in
set_option maxHeartbeats 4000000 in
theorem T_X11_sheet_b32 (e N : Nat)   (r : Int32) (τ : Mem) (Q : Pst) (hQ : Q (some (.inl r)) τ) : ∀ (x1 : Int32) (x2 : Int32) (x3 : Int32) (σ : Mem), F_X11_sheet_b32 N x1 x2 x3 σ = some (r, τ) → Wp (WpD (e + 2)) hcX11_sheet Q (32, [some (.inr (.inr (0, 0))), some (.inl x1), some (.inl x2), some (.inl x3)], []) σ := by
  intro x1 x2 x3 σ h
  unfold F_X11_sheet_b32 at h
  refine Wp.run (WpD.mono _) 0 (q := ((33, [some (.inr (.inr (0, 0))), some (.inl x1), some (.inl x2), some (.inl x3)], [.inl x2]), σ)) rfl ?_
  refine Wp.if0_lt (WpD.mono _) rfl rfl (fun hc => ?_) (fun hc => ?_)
  · have h := (if_pos hc).symm.trans h
    show Wp (WpD (e + 2)) hcX11_sheet Q (43, [some (.inr (.inr (0, 0))), some (.inl x1), some (.inl x2), some (.inl x3)], []) σ
    exact Wp.jump (WpD.mono _) rfl ((T_X11_sheet_b43 e N  r τ Q hQ ) x1 x2 x3 σ h)
  · have h := (if_neg hc).symm.trans h
    show Wp (WpD (e + 2)) hcX11_sheet Q (36, [some (.inr (.inr (0, 0))), some (.inl x1), some (.inl x2), some (.inl x3)], []) σ
    refine Wp.run (WpD.mono _) 0 (q := ((37, [some (.inr (.inr (0, 0))), some (.inl x1), some (.inl x2), some (.inl x3)], [.inl x3]), σ)) rfl ?_
    refine Wp.if0_ge (WpD.mono _) rfl rfl (fun hc => ?_) (fun hc => ?_)
    · have h := (if_pos hc).symm.trans h
      show Wp (WpD (e + 2)) hcX11_sheet Q (43, [some (.inr (.inr (0, 0))), some (.inl x1), some (.inl x2), some (.inl x3)], []) σ
      exact Wp.jump (WpD.mono _) rfl ((T_X11_sheet_b43 e N  r τ Q hQ ) x1 x2 x3 σ h)
    · have h := (if_neg hc).symm.trans h
      show Wp (WpD (e + 2)) hcX11_sheet Q (40, [some (.inr (.inr (0, 0))), some (.inl x1), some (.inl x2), some (.inl x3)], []) σ
      refine Wp.run (WpD.mono _) 0 (q := ((42, [some (.inr (.inr (0, 0))), some (.inl x1), some (.inl x2), some (.inl x3)], [.inl (Int32.ofInt (-14))]), σ)) rfl ?_
      obtain ⟨rfl, rfl⟩ := ret_inj h
      exact Wp.ret (WpD.mono _) rfl hQ

set_option maxRecDepth 100000 in
set_option maxHeartbeats 4000000 in
theorem T_X11_sheet (e N : Nat)  (a1 : Int32) (a2 : Int32) (a3 : Int32) (σ : Mem) (r : Int32) (τ : Mem) (Q : Pst) (h : F_X11_sheet N a1 a2 a3 σ = some (r, τ)) (hQ : Q (some (.inl r)) τ) : WpD (e + 3) mX11_sheet [.inr (.inr (0, 0)), .inl a1, .inl a2, .inl a3] σ Q := by
  refine WpD.of (d := e + 2) (Nat.le_of_ble_eq_true rfl) (Nat.le_of_ble_eq_true rfl) ?_
  show Wp (WpD (e + 2)) hcX11_sheet Q (0, [some (.inr (.inr (0, 0))), some (.inl a1), some (.inl a2), some (.inl a3)], []) σ
  unfold F_X11_sheet at h
  refine Wp.run (WpD.mono _) 0 (q := ((1, [some (.inr (.inr (0, 0))), some (.inl a1), some (.inl a2), some (.inl a3)], [.inl a1]), σ)) rfl ?_
  obtain ⟨q1, hb, h⟩ := bind_some h
  refine Wp.call (WpD.mono _) rfl (T_X11_isSheet (e + 0) N a1 σ _ _ _ hb ?_)
  show Wp (WpD (e + 2)) hcX11_sheet Q (4, [some (.inr (.inr (0, 0))), some (.inl a1), some (.inl a2), some (.inl a3)], [.inl q1.1]) q1.2
  refine Wp.if0_eq (WpD.mono _) rfl rfl (fun hc => ?_) (fun hc => ?_)
  · have h := (if_pos hc).symm.trans h
    show Wp (WpD (e + 2)) hcX11_sheet Q (16, [some (.inr (.inr (0, 0))), some (.inl a1), some (.inl a2), some (.inl a3)], []) q1.2
    refine Wp.run (WpD.mono _) 0 (q := ((18, [none, none, none, none], [.inl (Int32.ofInt (-2))]), q1.2)) rfl ?_
    obtain ⟨rfl, rfl⟩ := ret_inj h
    exact Wp.ret (WpD.mono _) rfl hQ
  · have h := (if_neg hc).symm.trans h
    show Wp (WpD (e + 2)) hcX11_sheet Q (7, [some (.inr (.inr (0, 0))), some (.inl a1), some (.inl a2), some (.inl a3)], []) q1.2
    refine Wp.run (WpD.mono _) 2 (q := ((10, [some (.inr (.inr (0, 0))), some (.inl a1), some (.inl a2), some (.inl a3)], [.inl (2 : Int32), .inl (Int32.ofInt (-1)), .inl a2]), q1.2)) rfl ?_
    obtain ⟨q2, hb, h⟩ := bind_some h
    refine Wp.call (WpD.mono _) rfl (T_X11_within (e + 1) N a2 (Int32.ofInt (-1)) (2 : Int32) q1.2 _ _ _ hb ?_)
    show Wp (WpD (e + 2)) hcX11_sheet Q (13, [some (.inr (.inr (0, 0))), some (.inl a1), some (.inl a2), some (.inl a3)], [.inl q2.1]) q2.2
    refine Wp.if0_ne (WpD.mono _) rfl rfl (fun hc => ?_) (fun hc => ?_)
    · have h := (if_pos hc).symm.trans h
      show Wp (WpD (e + 2)) hcX11_sheet Q (16, [some (.inr (.inr (0, 0))), some (.inl a1), some (.inl a2), some (.inl a3)], []) q2.2
      refine Wp.run (WpD.mono _) 0 (q := ((18, [none, none, none, none], [.inl (Int32.ofInt (-2))]), q2.2)) rfl ?_
      obtain ⟨rfl, rfl⟩ := ret_inj h
      exact Wp.ret (WpD.mono _) rfl hQ
    · have h := (if_neg hc).symm.trans h
      show Wp (WpD (e + 2)) hcX11_sheet Q (19, [some (.inr (.inr (0, 0))), some (.inl a1), some (.inl a2), some (.inl a3)], []) q2.2
      refine Wp.run (WpD.mono _) 0 (q := ((20, [some (.inr (.inr (0, 0))), some (.inl a1), some (.inl a2), some (.inl a3)], [.inl a2]), q2.2)) rfl ?_
      refine Wp.if0_lt (WpD.mono _) rfl rfl (fun hc => ?_) (fun hc => ?_)
      · have h := (if_pos hc).symm.trans h
        show Wp (WpD (e + 2)) hcX11_sheet Q (32, [some (.inr (.inr (0, 0))), some (.inl a1), some (.inl a2), some (.inl a3)], []) q2.2
        exact Wp.jump (WpD.mono _) rfl ((T_X11_sheet_b32 e N  r τ Q hQ ) a1 a2 a3 q2.2 h)
      · have h := (if_neg hc).symm.trans h
        show Wp (WpD (e + 2)) hcX11_sheet Q (23, [some (.inr (.inr (0, 0))), some (.inl a1), some (.inl a2), some (.inl a3)], []) q2.2
        refine Wp.run (WpD.mono _) 1 (q := ((26, [some (.inr (.inr (0, 0))), some (.inl a1), some (.inl a2), some (.inl a3)], [.inl (40 : Int32), .inl a3]), q2.2)) rfl ?_
        refine Wp.if2_le (WpD.mono _) rfl rfl (fun hc => ?_) (fun hc => ?_)
        · have h := (if_pos hc).symm.trans h
          show Wp (WpD (e + 2)) hcX11_sheet Q (32, [some (.inr (.inr (0, 0))), some (.inl a1), some (.inl a2), some (.inl a3)], []) q2.2
          exact Wp.jump (WpD.mono _) rfl ((T_X11_sheet_b32 e N  r τ Q hQ ) a1 a2 a3 q2.2 h)
        · have h := (if_neg hc).symm.trans h
          show Wp (WpD (e + 2)) hcX11_sheet Q (29, [some (.inr (.inr (0, 0))), some (.inl a1), some (.inl a2), some (.inl a3)], []) q2.2
          refine Wp.run (WpD.mono _) 0 (q := ((31, [some (.inr (.inr (0, 0))), some (.inl a1), some (.inl a2), some (.inl a3)], [.inl (Int32.ofInt (-2))]), q2.2)) rfl ?_
          obtain ⟨rfl, rfl⟩ := ret_inj h
          exact Wp.ret (WpD.mono _) rfl hQ

set_option maxRecDepth 100000 in
set_option maxHeartbeats 4000000 in
theorem T_X9_isOne_b10 (e N : Nat)   (r : Int32) (τ : Mem) (Q : Pst) (hQ : Q (some (.inl r)) τ) : ∀ n, ∀ (x2 : Int32) (x3 : Int32) (x4 : Int32) (σ : Mem), F_X9_isOne_b10 N n x2 x3 x4 σ = some (r, τ) → Wp (WpD (e + 0)) hcX9_isOne Q (10, [none, none, some (.inl x2), some (.inl x3), some (.inl x4)], []) σ := by
  intro n
  induction n with
  | zero => intro x2 x3 x4 σ h; cases h
  | succ n ih =>
    intro x2 x3 x4 σ h
    unfold F_X9_isOne_b10 at h
    refine Wp.run (WpD.mono _) 2 (q := ((16, [none, none, some (.inl x2), some (.inl x3), some (.inl x4)], [.inl (6 : Int32), .inl x4]), σ)) rfl ?_
    refine Wp.if2_ge (WpD.mono _) rfl rfl (fun hc => ?_) (fun hc => ?_)
    · have h := (if_pos hc).symm.trans h
      show Wp (WpD (e + 0)) hcX9_isOne Q (50, [none, none, some (.inl x2), some (.inl x3), some (.inl x4)], []) σ
      refine Wp.run (WpD.mono _) 0 (q := ((51, [none, none, none, none, none], [.inl (0 : Int32)]), σ)) rfl ?_
      obtain ⟨rfl, rfl⟩ := ret_inj h
      exact Wp.ret (WpD.mono _) rfl hQ
    · have h := (if_neg hc).symm.trans h
      show Wp (WpD (e + 0)) hcX9_isOne Q (19, [none, none, some (.inl x2), some (.inl x3), some (.inl x4)], []) σ
      refine Wp.run (WpD.mono _) 0 (q := ((20, [none, none, some (.inl x2), some (.inl x3), some (.inl x4)], [.inl x3]), σ)) rfl ?_
      refine Wp.if0_lt (WpD.mono _) rfl rfl (fun hc => ?_) (fun hc => ?_)
      · have h := (if_pos hc).symm.trans h
        show Wp (WpD (e + 0)) hcX9_isOne Q (50, [none, none, some (.inl x2), some (.inl x3), some (.inl x4)], []) σ
        refine Wp.run (WpD.mono _) 0 (q := ((51, [none, none, none, none, none], [.inl (0 : Int32)]), σ)) rfl ?_
        obtain ⟨rfl, rfl⟩ := ret_inj h
        exact Wp.ret (WpD.mono _) rfl hQ
      · have h := (if_neg hc).symm.trans h
        show Wp (WpD (e + 0)) hcX9_isOne Q (23, [none, none, some (.inl x2), some (.inl x3), some (.inl x4)], []) σ
        refine Wp.run (WpD.mono _) 2 (q := ((28, [none, none, some (.inl x2), some (.inl x3), some (.inl x4)], [.inl (6 : Int32), .inl x3]), σ)) rfl ?_
        refine Wp.if2_ge (WpD.mono _) rfl rfl (fun hc => ?_) (fun hc => ?_)
        · have h := (if_pos hc).symm.trans h
          show Wp (WpD (e + 0)) hcX9_isOne Q (50, [none, none, some (.inl x2), some (.inl x3), some (.inl x4)], []) σ
          refine Wp.run (WpD.mono _) 0 (q := ((51, [none, none, none, none, none], [.inl (0 : Int32)]), σ)) rfl ?_
          obtain ⟨rfl, rfl⟩ := ret_inj h
          exact Wp.ret (WpD.mono _) rfl hQ
        · have h := (if_neg hc).symm.trans h
          show Wp (WpD (e + 0)) hcX9_isOne Q (31, [none, none, some (.inl x2), some (.inl x3), some (.inl x4)], []) σ
          refine Wp.run (WpD.mono _) 1 (q := ((33, [none, none, some (.inl x2), some (.inl x3), some (.inl x4)], [.inl x2, .inl x3]), σ)) rfl ?_
          refine Wp.if2_ne (WpD.mono _) rfl rfl (fun hc => ?_) (fun hc => ?_)
          · have h := (if_pos hc).symm.trans h
            show Wp (WpD (e + 0)) hcX9_isOne Q (36, [none, none, some (.inl x2), some (.inl x3), some (.inl x4)], []) σ
            refine Wp.run (WpD.mono _) 0 (q := ((37, [none, none, some (.inl x2), some (.inl x3), some (.inl x4)], [.inl (1 : Int32)]), σ)) rfl ?_
            obtain ⟨rfl, rfl⟩ := ret_inj h
            exact Wp.ret (WpD.mono _) rfl hQ
          · have h := (if_neg hc).symm.trans h
            show Wp (WpD (e + 0)) hcX9_isOne Q (38, [none, none, some (.inl x2), some (.inl x3), some (.inl x4)], []) σ
            refine Wp.run (WpD.mono _) 1 (q := ((42, [none, none, some (.inl x2), some (.inl x3), some (.inl x4)], [.inl x3, .inr (.inr (203, 0))]), σ)) rfl ?_
            obtain ⟨hc, h⟩ := ite_nn h
            refine Wp.X_ild7 (WpD.mono _) rfl rfl hc ?_
            show Wp (WpD (e + 0)) hcX9_isOne Q (43, [none, none, some (.inl x2), some (.inl x3), some (.inl x4)], [.inl (ntD 0 [-1, 0, 1, 0, 1, 2] (x3).toNatClampNeg)]) σ
            refine Wp.run (WpD.mono _) 2 (q := ((10, [none, none, some (.inl x2), some (.inl (ntD 0 [-1, 0, 1, 0, 1, 2] (x3).toNatClampNeg)), some (.inl (x4 + (1 : Int32)))], []), σ)) rfl ?_
            exact Wp.jump (WpD.mono _) rfl (ih x2 (ntD 0 [-1, 0, 1, 0, 1, 2] (x3).toNatClampNeg) (x4 + (1 : Int32)) σ h)

set_option maxRecDepth 100000 in
set_option maxHeartbeats 4000000 in
theorem T_X9_isOne (e N : Nat)  (a1 : Int32) (a2 : Int32) (σ : Mem) (r : Int32) (τ : Mem) (Q : Pst) (h : F_X9_isOne N a1 a2 σ = some (r, τ)) (hQ : Q (some (.inl r)) τ) : WpD (e + 1) mX9_isOne [.inr (.inr (6, 0)), .inl a1, .inl a2] σ Q := by
  refine WpD.of (d := e + 0) (Nat.le_of_ble_eq_true rfl) (Nat.le_of_ble_eq_true rfl) ?_
  show Wp (WpD (e + 0)) hcX9_isOne Q (0, [some (.inr (.inr (6, 0))), some (.inl a1), some (.inl a2), none, none], []) σ
  unfold F_X9_isOne at h
  refine Wp.run (WpD.mono _) 2 (q := ((5, [some (.inr (.inr (6, 0))), some (.inl a1), some (.inl a2), none, none], [.inl a1, .inr (.inr (65, 0))]), σ)) rfl ?_
  obtain ⟨hc, h⟩ := ite_nn h
  refine Wp.X_ild1 (WpD.mono _) rfl rfl hc ?_
  show Wp (WpD (e + 0)) hcX9_isOne Q (6, [some (.inr (.inr (6, 0))), some (.inl a1), some (.inl a2), none, none], [.inl (σ.2.2.1 65 0 (a1).toNatClampNeg)]) σ
  refine Wp.run (WpD.mono _) 2 (q := ((10, [some (.inr (.inr (6, 0))), some (.inl a1), some (.inl a2), some (.inl (σ.2.2.1 65 0 (a1).toNatClampNeg)), some (.inl (0 : Int32))], []), σ)) rfl ?_
  exact Wp.jump (WpD.mono _) rfl ((T_X9_isOne_b10 e N  r τ Q hQ  N) a2 (σ.2.2.1 65 0 (a1).toNatClampNeg) (0 : Int32) σ h)

set_option maxRecDepth 100000 in
set_option maxHeartbeats 4000000 in
theorem T_X11_taken_b56 (e N : Nat)   (r : Int32) (τ : Mem) (Q : Pst) (hQ : Q (some (.inl r)) τ) : ∀ (x1 : Int32) (x2 : Int32) (x3 : Int32) (σ : Mem), F_X11_taken_b56 N x1 x2 x3 σ = some (r, τ) → Wp (WpD (e + 2)) hcX11_taken Q (56, [some (.inr (.inr (0, 0))), some (.inl x1), some (.inl x2), some (.inl x3)], []) σ := by
  intro x1 x2 x3 σ h
  unfold F_X11_taken_b56 at h
  refine Wp.run (WpD.mono _) 0 (q := ((57, [some (.inr (.inr (0, 0))), some (.inl x1), some (.inl x2), some (.inl x3)], [.inl x3]), σ)) rfl ?_
  refine Wp.if0_ge (WpD.mono _) rfl rfl (fun hc => ?_) (fun hc => ?_)
  · have h := (if_pos hc).symm.trans h
    show Wp (WpD (e + 2)) hcX11_taken Q (80, [some (.inr (.inr (0, 0))), some (.inl x1), some (.inl x2), some (.inl x3)], []) σ
    refine Wp.run (WpD.mono _) 1 (q := ((82, [some (.inr (.inr (0, 0))), some (.inl x1), some (.inl x2), some (.inl x3)], [.inl (5 : Int32), .inl x2]), σ)) rfl ?_
    refine Wp.if2_gt (WpD.mono _) rfl rfl (fun hc => ?_) (fun hc => ?_)
    · have h := (if_pos hc).symm.trans h
      show Wp (WpD (e + 2)) hcX11_taken Q (101, [some (.inr (.inr (0, 0))), some (.inl x1), some (.inl x2), some (.inl x3)], []) σ
      refine Wp.run (WpD.mono _) 0 (q := ((103, [none, none, none, none], [.inl (Int32.ofInt (-13))]), σ)) rfl ?_
      obtain ⟨rfl, rfl⟩ := ret_inj h
      exact Wp.ret (WpD.mono _) rfl hQ
    · have h := (if_neg hc).symm.trans h
      show Wp (WpD (e + 2)) hcX11_taken Q (85, [some (.inr (.inr (0, 0))), some (.inl x1), some (.inl x2), some (.inl x3)], []) σ
      refine Wp.run (WpD.mono _) 3 (q := ((91, [some (.inr (.inr (0, 0))), some (.inl x1), some (.inl x2), some (.inl x3)], [.inl x2, .inl x3, .inr (.inr (6, 0))]), σ)) rfl ?_
      obtain ⟨q5, hb, h⟩ := bind_some h
      refine Wp.call (WpD.mono _) rfl (T_X9_isOne (e + 1) N x3 x2 σ _ _ _ hb ?_)
      show Wp (WpD (e + 2)) hcX11_taken Q (94, [some (.inr (.inr (0, 0))), some (.inl x1), some (.inl x2), some (.inl x3)], [.inl q5.1]) q5.2
      refine Wp.if0_eq (WpD.mono _) rfl rfl (fun hc => ?_) (fun hc => ?_)
      · have h := (if_pos hc).symm.trans h
        show Wp (WpD (e + 2)) hcX11_taken Q (101, [some (.inr (.inr (0, 0))), some (.inl x1), some (.inl x2), some (.inl x3)], []) q5.2
        refine Wp.run (WpD.mono _) 0 (q := ((103, [none, none, none, none], [.inl (Int32.ofInt (-13))]), q5.2)) rfl ?_
        obtain ⟨rfl, rfl⟩ := ret_inj h
        exact Wp.ret (WpD.mono _) rfl hQ
      · have h := (if_neg hc).symm.trans h
        show Wp (WpD (e + 2)) hcX11_taken Q (97, [some (.inr (.inr (0, 0))), some (.inl x1), some (.inl x2), some (.inl x3)], []) q5.2
        refine Wp.run (WpD.mono _) 1 (q := ((103, [some (.inr (.inr (0, 0))), some (.inl x1), some (.inl x2), some (.inl x3)], [.inl x3]), q5.2)) rfl ?_
        obtain ⟨rfl, rfl⟩ := ret_inj h
        exact Wp.ret (WpD.mono _) rfl hQ
  · have h := (if_neg hc).symm.trans h
    show Wp (WpD (e + 2)) hcX11_taken Q (60, [some (.inr (.inr (0, 0))), some (.inl x1), some (.inl x2), some (.inl x3)], []) σ
    refine Wp.run (WpD.mono _) 1 (q := ((62, [some (.inr (.inr (0, 0))), some (.inl x1), some (.inl x2), some (.inl x3)], [.inl (5 : Int32), .inl x2]), σ)) rfl ?_
    refine Wp.if2_le (WpD.mono _) rfl rfl (fun hc => ?_) (fun hc => ?_)
    · have h := (if_pos hc).symm.trans h
      show Wp (WpD (e + 2)) hcX11_taken Q (77, [some (.inr (.inr (0, 0))), some (.inl x1), some (.inl x2), some (.inl x3)], []) σ
      refine Wp.run (WpD.mono _) 0 (q := ((79, [some (.inr (.inr (0, 0))), some (.inl x1), some (.inl x2), some (.inl x3)], [.inl (Int32.ofInt (-13))]), σ)) rfl ?_
      obtain ⟨rfl, rfl⟩ := ret_inj h
      exact Wp.ret (WpD.mono _) rfl hQ
    · have h := (if_neg hc).symm.trans h
      show Wp (WpD (e + 2)) hcX11_taken Q (65, [some (.inr (.inr (0, 0))), some (.inl x1), some (.inl x2), some (.inl x3)], []) σ
      refine Wp.run (WpD.mono _) 3 (q := ((73, [some (.inr (.inr (0, 0))), some (.inl x1), some (.inl x2), some (.inl x3)], [.inl x1, .inr (.inr (22, 0))]), σ)) rfl ?_
      obtain ⟨hc, h⟩ := ite_nn h
      refine Wp.X_ild1 (WpD.mono _) rfl rfl hc ?_
      show Wp (WpD (e + 2)) hcX11_taken Q (74, [some (.inr (.inr (0, 0))), some (.inl x1), some (.inl x2), some (.inl x3)], [.inl (σ.2.2.1 22 0 (x1).toNatClampNeg)]) σ
      refine Wp.run (WpD.mono _) 0 (q := ((79, [some (.inr (.inr (0, 0))), some (.inl x1), some (.inl x2), some (.inl x3)], [.inl (σ.2.2.1 22 0 (x1).toNatClampNeg)]), σ)) rfl ?_
      obtain ⟨rfl, rfl⟩ := ret_inj h
      exact Wp.ret (WpD.mono _) rfl hQ

set_option maxRecDepth 100000 in
set_option maxHeartbeats 4000000 in
theorem T_X11_taken (e N : Nat)  (a1 : Int32) (a2 : Int32) (σ : Mem) (r : Int32) (τ : Mem) (Q : Pst) (h : F_X11_taken N a1 a2 σ = some (r, τ)) (hQ : Q (some (.inl r)) τ) : WpD (e + 3) mX11_taken [.inr (.inr (0, 0)), .inl a1, .inl a2] σ Q := by
  refine WpD.of (d := e + 2) (Nat.le_of_ble_eq_true rfl) (Nat.le_of_ble_eq_true rfl) ?_
  show Wp (WpD (e + 2)) hcX11_taken Q (0, [some (.inr (.inr (0, 0))), some (.inl a1), some (.inl a2), none], []) σ
  unfold F_X11_taken at h
  refine Wp.run (WpD.mono _) 2 (q := ((4, [some (.inr (.inr (0, 0))), some (.inl a1), some (.inl a2), none], [.inl (6 : Int32), .inl (0 : Int32), .inl a2]), σ)) rfl ?_
  obtain ⟨q1, hb, h⟩ := bind_some h
  refine Wp.call (WpD.mono _) rfl (T_X11_within (e + 1) N a2 (0 : Int32) (6 : Int32) σ _ _ _ hb ?_)
  show Wp (WpD (e + 2)) hcX11_taken Q (7, [some (.inr (.inr (0, 0))), some (.inl a1), some (.inl a2), none], [.inl q1.1]) q1.2
  refine Wp.if0_ne (WpD.mono _) rfl rfl (fun hc => ?_) (fun hc => ?_)
  · have h := (if_pos hc).symm.trans h
    show Wp (WpD (e + 2)) hcX11_taken Q (10, [some (.inr (.inr (0, 0))), some (.inl a1), some (.inl a2), none], []) q1.2
    refine Wp.run (WpD.mono _) 0 (q := ((12, [some (.inr (.inr (0, 0))), some (.inl a1), some (.inl a2), none], [.inl (Int32.ofInt (-2))]), q1.2)) rfl ?_
    obtain ⟨rfl, rfl⟩ := ret_inj h
    exact Wp.ret (WpD.mono _) rfl hQ
  · have h := (if_neg hc).symm.trans h
    show Wp (WpD (e + 2)) hcX11_taken Q (13, [some (.inr (.inr (0, 0))), some (.inl a1), some (.inl a2), none], []) q1.2
    refine Wp.run (WpD.mono _) 2 (q := ((17, [some (.inr (.inr (0, 0))), some (.inl a1), some (.inl a2), none], [.inl (12 : Int32), .inl (0 : Int32), .inl a1]), q1.2)) rfl ?_
    obtain ⟨q2, hb, h⟩ := bind_some h
    refine Wp.call (WpD.mono _) rfl (T_X11_within (e + 1) N a1 (0 : Int32) (12 : Int32) q1.2 _ _ _ hb ?_)
    show Wp (WpD (e + 2)) hcX11_taken Q (20, [some (.inr (.inr (0, 0))), some (.inl a1), some (.inl a2), none], [.inl q2.1]) q2.2
    refine Wp.if0_ne (WpD.mono _) rfl rfl (fun hc => ?_) (fun hc => ?_)
    · have h := (if_pos hc).symm.trans h
      show Wp (WpD (e + 2)) hcX11_taken Q (23, [some (.inr (.inr (0, 0))), some (.inl a1), some (.inl a2), none], []) q2.2
      refine Wp.run (WpD.mono _) 0 (q := ((25, [some (.inr (.inr (0, 0))), some (.inl a1), some (.inl a2), none], [.inl (Int32.ofInt (-12))]), q2.2)) rfl ?_
      obtain ⟨rfl, rfl⟩ := ret_inj h
      exact Wp.ret (WpD.mono _) rfl hQ
    · have h := (if_neg hc).symm.trans h
      show Wp (WpD (e + 2)) hcX11_taken Q (26, [some (.inr (.inr (0, 0))), some (.inl a1), some (.inl a2), none], []) q2.2
      refine Wp.run (WpD.mono _) 4 (q := ((31, [some (.inr (.inr (0, 0))), some (.inl a1), some (.inl a2), some (.inl (a1 - (5 : Int32)))], [.inl (a1 - (5 : Int32))]), q2.2)) rfl ?_
      refine Wp.if0_ge (WpD.mono _) rfl rfl (fun hc => ?_) (fun hc => ?_)
      · have h := (if_pos hc).symm.trans h
        show Wp (WpD (e + 2)) hcX11_taken Q (45, [some (.inr (.inr (0, 0))), some (.inl a1), some (.inl a2), some (.inl (a1 - (5 : Int32)))], []) q2.2
        refine Wp.run (WpD.mono _) 1 (q := ((47, [some (.inr (.inr (0, 0))), some (.inl a1), some (.inl a2), some (.inl (a1 - (5 : Int32)))], [.inl (a1 - (5 : Int32)), .inr (.inr (0, 0))]), q2.2)) rfl ?_
        obtain ⟨q3, hb, h⟩ := bind_some h
        refine Wp.call (WpD.mono _) rfl (T_X11_isRule (e + 0) N (a1 - (5 : Int32)) q2.2 _ _ _ hb ?_)
        show Wp (WpD (e + 2)) hcX11_taken Q (50, [some (.inr (.inr (0, 0))), some (.inl a1), some (.inl a2), some (.inl (a1 - (5 : Int32)))], [.inl q3.1]) q3.2
        refine Wp.if0_ne (WpD.mono _) rfl rfl (fun hc => ?_) (fun hc => ?_)
        · have h := (if_pos hc).symm.trans h
          show Wp (WpD (e + 2)) hcX11_taken Q (53, [some (.inr (.inr (0, 0))), some (.inl a1), some (.inl a2), some (.inl (a1 - (5 : Int32)))], []) q3.2
          refine Wp.run (WpD.mono _) 0 (q := ((55, [none, none, none, none], [.inl (Int32.ofInt (-11))]), q3.2)) rfl ?_
          obtain ⟨rfl, rfl⟩ := ret_inj h
          exact Wp.ret (WpD.mono _) rfl hQ
        · have h := (if_neg hc).symm.trans h
          show Wp (WpD (e + 2)) hcX11_taken Q (56, [some (.inr (.inr (0, 0))), some (.inl a1), some (.inl a2), some (.inl (a1 - (5 : Int32)))], []) q3.2
          exact Wp.jump (WpD.mono _) rfl ((T_X11_taken_b56 e N  r τ Q hQ ) a1 a2 (a1 - (5 : Int32)) q3.2 h)
      · have h := (if_neg hc).symm.trans h
        show Wp (WpD (e + 2)) hcX11_taken Q (34, [some (.inr (.inr (0, 0))), some (.inl a1), some (.inl a2), some (.inl (a1 - (5 : Int32)))], []) q2.2
        refine Wp.run (WpD.mono _) 1 (q := ((36, [some (.inr (.inr (0, 0))), some (.inl a1), some (.inl a2), some (.inl (a1 - (5 : Int32)))], [.inl a1, .inr (.inr (0, 0))]), q2.2)) rfl ?_
        obtain ⟨q4, hb, h⟩ := bind_some h
        refine Wp.call (WpD.mono _) rfl (T_X11_isLayer (e + 0) N a1 q2.2 _ _ _ hb ?_)
        show Wp (WpD (e + 2)) hcX11_taken Q (39, [some (.inr (.inr (0, 0))), some (.inl a1), some (.inl a2), some (.inl (a1 - (5 : Int32)))], [.inl q4.1]) q4.2
        refine Wp.if0_ne (WpD.mono _) rfl rfl (fun hc => ?_) (fun hc => ?_)
        · have h := (if_pos hc).symm.trans h
          show Wp (WpD (e + 2)) hcX11_taken Q (42, [some (.inr (.inr (0, 0))), some (.inl a1), some (.inl a2), some (.inl (a1 - (5 : Int32)))], []) q4.2
          refine Wp.run (WpD.mono _) 1 (q := ((55, [none, none, none, none], [.inl (Int32.ofInt (-11))]), q4.2)) rfl ?_
          obtain ⟨rfl, rfl⟩ := ret_inj h
          exact Wp.ret (WpD.mono _) rfl hQ
        · have h := (if_neg hc).symm.trans h
          show Wp (WpD (e + 2)) hcX11_taken Q (56, [some (.inr (.inr (0, 0))), some (.inl a1), some (.inl a2), some (.inl (a1 - (5 : Int32)))], []) q4.2
          exact Wp.jump (WpD.mono _) rfl ((T_X11_taken_b56 e N  r τ Q hQ ) a1 a2 (a1 - (5 : Int32)) q4.2 h)

set_option maxRecDepth 100000 in
set_option maxHeartbeats 4000000 in
theorem T_X8_emit (e N : Nat)  (a1 : Int32) (σ : Mem) (r : Unit) (τ : Mem) (Q : Pst) (h : F_X8_emit N a1 σ = some (r, τ)) (hQ : Q (none) τ) : WpD (e + 1) mX8_emit [.inr (.inr (3, 0)), .inl a1] σ Q := by
  refine WpD.of (d := e + 0) (Nat.le_of_ble_eq_true rfl) (Nat.le_of_ble_eq_true rfl) ?_
  show Wp (WpD (e + 0)) hcX8_emit Q (0, [some (.inr (.inr (3, 0))), some (.inl a1)], []) σ
  unfold F_X8_emit at h
  refine Wp.run (WpD.mono _) 4 (q := ((9, [some (.inr (.inr (3, 0))), some (.inl a1)], [.inl (160 : Int32), .inl (σ.1 3 4)]), σ)) rfl ?_
  refine Wp.if2_ge (WpD.mono _) rfl rfl (fun hc => ?_) (fun hc => ?_)
  · have h := (if_pos hc).symm.trans h
    show Wp (WpD (e + 0)) hcX8_emit Q (32, [some (.inr (.inr (3, 0))), some (.inl a1)], []) σ
    obtain ⟨rfl, rfl⟩ := ret_inj h
    exact Wp.ret (WpD.mono _) rfl hQ
  · have h := (if_neg hc).symm.trans h
    show Wp (WpD (e + 0)) hcX8_emit Q (12, [some (.inr (.inr (3, 0))), some (.inl a1)], []) σ
    refine Wp.run (WpD.mono _) 4 (q := ((21, [some (.inr (.inr (3, 0))), some (.inl a1)], [.inl a1, .inl (σ.1 3 4), .inr (.inr (63, 0))]), σ)) rfl ?_
    obtain ⟨hc, h⟩ := ite_nn h
    refine Wp.X_ist (WpD.mono _) rfl rfl hc ?_
    show Wp (WpD (e + 0)) hcX8_emit Q (22, [some (.inr (.inr (3, 0))), some (.inl a1)], []) (σ.1, σ.2.1, (hwU3 σ.2.2.1 63 0 ((σ.1 3 4)).toNatClampNeg a1), σ.2.2.2.1, σ.2.2.2.2)
    refine Wp.run (WpD.mono _) 5 (q := ((32, [some (.inr (.inr (3, 0))), some (.inl a1)], []), ((hwU2 σ.1 3 4 ((σ.1 3 4) + (1 : Int32))), σ.2.1, (hwU3 σ.2.2.1 63 0 ((σ.1 3 4)).toNatClampNeg a1), σ.2.2.2.1, σ.2.2.2.2))) rfl ?_
    obtain ⟨rfl, rfl⟩ := ret_inj h
    exact Wp.ret (WpD.mono _) rfl hQ

set_option maxRecDepth 100000 in
set_option maxHeartbeats 4000000 in
theorem T_X8_joins (e N : Nat)  (a1 : Int32) (σ : Mem) (r : Int32) (τ : Mem) (Q : Pst) (h : F_X8_joins N a1 σ = some (r, τ)) (hQ : Q (some (.inl r)) τ) : WpD (e + 1) mX8_joins [.inr (.inr (3, 0)), .inl a1] σ Q := by
  refine WpD.of (d := e + 0) (Nat.le_of_ble_eq_true rfl) (Nat.le_of_ble_eq_true rfl) ?_
  show Wp (WpD (e + 0)) hcX8_joins Q (0, [some (.inr (.inr (3, 0))), some (.inl a1)], []) σ
  unfold F_X8_joins at h
  refine Wp.run (WpD.mono _) 0 (q := ((1, [some (.inr (.inr (3, 0))), some (.inl a1)], [.inl a1]), σ)) rfl ?_
  by_cases hs0 : a1 = 0
  · have h := (if_pos hs0).symm.trans h
    refine Wp.swIn (WpD.mono _) (q := ((28, [some (.inr (.inr (3, 0))), some (.inl a1)], []), σ)) hs0 rfl ?_
    refine Wp.run (WpD.mono _) 2 (q := ((34, [some (.inr (.inr (3, 0))), some (.inl a1)], [.inl (7 : Int32), .inl (σ.1 3 7)]), σ)) rfl ?_
    refine Wp.if2_ne (WpD.mono _) rfl rfl (fun hc => ?_) (fun hc => ?_)
    · have h := (if_pos hc).symm.trans h
      show Wp (WpD (e + 0)) hcX8_joins Q (37, [some (.inr (.inr (3, 0))), some (.inl a1)], []) σ
      refine Wp.run (WpD.mono _) 1 (q := ((42, [some (.inr (.inr (3, 0))), some (.inl a1)], [.inl (1 : Int32)]), σ)) rfl ?_
      obtain ⟨rfl, rfl⟩ := ret_inj h
      exact Wp.ret (WpD.mono _) rfl hQ
    · have h := (if_neg hc).symm.trans h
      show Wp (WpD (e + 0)) hcX8_joins Q (41, [some (.inr (.inr (3, 0))), some (.inl a1)], []) σ
      refine Wp.run (WpD.mono _) 0 (q := ((42, [some (.inr (.inr (3, 0))), some (.inl a1)], [.inl (0 : Int32)]), σ)) rfl ?_
      obtain ⟨rfl, rfl⟩ := ret_inj h
      exact Wp.ret (WpD.mono _) rfl hQ
  have h := (if_neg hs0).symm.trans h
  by_cases hs1 : a1 = 1
  · have h := (if_pos hs1).symm.trans h
    refine Wp.swIn (WpD.mono _) (q := ((43, [some (.inr (.inr (3, 0))), some (.inl a1)], []), σ)) hs1 rfl ?_
    refine Wp.run (WpD.mono _) 2 (q := ((49, [some (.inr (.inr (3, 0))), some (.inl a1)], [.inl (8 : Int32), .inl (σ.1 3 7)]), σ)) rfl ?_
    refine Wp.if2_ne (WpD.mono _) rfl rfl (fun hc => ?_) (fun hc => ?_)
    · have h := (if_pos hc).symm.trans h
      show Wp (WpD (e + 0)) hcX8_joins Q (52, [some (.inr (.inr (3, 0))), some (.inl a1)], []) σ
      refine Wp.run (WpD.mono _) 1 (q := ((57, [some (.inr (.inr (3, 0))), some (.inl a1)], [.inl (1 : Int32)]), σ)) rfl ?_
      obtain ⟨rfl, rfl⟩ := ret_inj h
      exact Wp.ret (WpD.mono _) rfl hQ
    · have h := (if_neg hc).symm.trans h
      show Wp (WpD (e + 0)) hcX8_joins Q (56, [some (.inr (.inr (3, 0))), some (.inl a1)], []) σ
      refine Wp.run (WpD.mono _) 0 (q := ((57, [some (.inr (.inr (3, 0))), some (.inl a1)], [.inl (0 : Int32)]), σ)) rfl ?_
      obtain ⟨rfl, rfl⟩ := ret_inj h
      exact Wp.ret (WpD.mono _) rfl hQ
  have h := (if_neg hs1).symm.trans h
  by_cases hs2 : a1 = 2
  · have h := (if_pos hs2).symm.trans h
    refine Wp.swIn (WpD.mono _) (q := ((58, [some (.inr (.inr (3, 0))), some (.inl a1)], []), σ)) hs2 rfl ?_
    refine Wp.run (WpD.mono _) 2 (q := ((64, [some (.inr (.inr (3, 0))), some (.inl a1)], [.inl (43 : Int32), .inl (σ.1 3 7)]), σ)) rfl ?_
    refine Wp.if2_eq (WpD.mono _) rfl rfl (fun hc => ?_) (fun hc => ?_)
    · have h := (if_pos hc).symm.trans h
      show Wp (WpD (e + 0)) hcX8_joins Q (76, [some (.inr (.inr (3, 0))), some (.inl a1)], []) σ
      refine Wp.run (WpD.mono _) 1 (q := ((81, [none, none], [.inl (1 : Int32)]), σ)) rfl ?_
      obtain ⟨rfl, rfl⟩ := ret_inj h
      exact Wp.ret (WpD.mono _) rfl hQ
    · have h := (if_neg hc).symm.trans h
      show Wp (WpD (e + 0)) hcX8_joins Q (67, [some (.inr (.inr (3, 0))), some (.inl a1)], []) σ
      refine Wp.run (WpD.mono _) 2 (q := ((73, [some (.inr (.inr (3, 0))), some (.inl a1)], [.inl (45 : Int32), .inl (σ.1 3 7)]), σ)) rfl ?_
      refine Wp.if2_ne (WpD.mono _) rfl rfl (fun hc => ?_) (fun hc => ?_)
      · have h := (if_pos hc).symm.trans h
        show Wp (WpD (e + 0)) hcX8_joins Q (76, [some (.inr (.inr (3, 0))), some (.inl a1)], []) σ
        refine Wp.run (WpD.mono _) 1 (q := ((81, [none, none], [.inl (1 : Int32)]), σ)) rfl ?_
        obtain ⟨rfl, rfl⟩ := ret_inj h
        exact Wp.ret (WpD.mono _) rfl hQ
      · have h := (if_neg hc).symm.trans h
        show Wp (WpD (e + 0)) hcX8_joins Q (80, [some (.inr (.inr (3, 0))), some (.inl a1)], []) σ
        refine Wp.run (WpD.mono _) 0 (q := ((81, [some (.inr (.inr (3, 0))), some (.inl a1)], [.inl (0 : Int32)]), σ)) rfl ?_
        obtain ⟨rfl, rfl⟩ := ret_inj h
        exact Wp.ret (WpD.mono _) rfl hQ
  have h := (if_neg hs2).symm.trans h
  have ehs0 : ¬ (a1).toInt = 0 := fun z => hs0 (Int32.toInt_inj.mp z)
  have ehs1 : ¬ (a1).toInt = 1 := fun z => hs1 (Int32.toInt_inj.mp z)
  have ehs2 : ¬ (a1).toInt = 2 := fun z => hs2 (Int32.toInt_inj.mp z)
  refine Wp.swOut (WpD.mono _) (q := ((82, [some (.inr (.inr (3, 0))), some (.inl a1)], []), σ)) (o := if (a1).toInt < 0 ∨ 2 < (a1).toInt then some (81) else #[27, 42, 57][((a1).toInt - 0).toNat]?) (o' := some (81)) rfl (if_pos (by omega)) rfl ?_
  refine Wp.run (WpD.mono _) 2 (q := ((88, [some (.inr (.inr (3, 0))), some (.inl a1)], [.inl (42 : Int32), .inl (σ.1 3 7)]), σ)) rfl ?_
  refine Wp.if2_ne (WpD.mono _) rfl rfl (fun hc => ?_) (fun hc => ?_)
  · have h := (if_pos hc).symm.trans h
    show Wp (WpD (e + 0)) hcX8_joins Q (91, [some (.inr (.inr (3, 0))), some (.inl a1)], []) σ
    refine Wp.run (WpD.mono _) 1 (q := ((96, [some (.inr (.inr (3, 0))), some (.inl a1)], [.inl (1 : Int32)]), σ)) rfl ?_
    obtain ⟨rfl, rfl⟩ := ret_inj h
    exact Wp.ret (WpD.mono _) rfl hQ
  · have h := (if_neg hc).symm.trans h
    show Wp (WpD (e + 0)) hcX8_joins Q (95, [some (.inr (.inr (3, 0))), some (.inl a1)], []) σ
    refine Wp.run (WpD.mono _) 0 (q := ((96, [some (.inr (.inr (3, 0))), some (.inl a1)], [.inl (0 : Int32)]), σ)) rfl ?_
    obtain ⟨rfl, rfl⟩ := ret_inj h
    exact Wp.ret (WpD.mono _) rfl hQ

set_option maxRecDepth 100000 in
set_option maxHeartbeats 4000000 in
theorem T_X8_isDigit (e N : Nat)  (a1 : Int32) (σ : Mem) (r : Int32) (τ : Mem) (Q : Pst) (h : F_X8_isDigit N a1 σ = some (r, τ)) (hQ : Q (some (.inl r)) τ) : WpD (e + 1) mX8_isDigit [.inl a1] σ Q := by
  refine WpD.of (d := e + 0) (Nat.le_of_ble_eq_true rfl) (Nat.le_of_ble_eq_true rfl) ?_
  show Wp (WpD (e + 0)) hcX8_isDigit Q (0, [some (.inl a1)], []) σ
  unfold F_X8_isDigit at h
  refine Wp.run (WpD.mono _) 1 (q := ((3, [some (.inl a1)], [.inl (48 : Int32), .inl a1]), σ)) rfl ?_
  refine Wp.if2_lt (WpD.mono _) rfl rfl (fun hc => ?_) (fun hc => ?_)
  · have h := (if_pos hc).symm.trans h
    show Wp (WpD (e + 0)) hcX8_isDigit Q (16, [some (.inl a1)], []) σ
    refine Wp.run (WpD.mono _) 0 (q := ((17, [none], [.inl (0 : Int32)]), σ)) rfl ?_
    obtain ⟨rfl, rfl⟩ := ret_inj h
    exact Wp.ret (WpD.mono _) rfl hQ
  · have h := (if_neg hc).symm.trans h
    show Wp (WpD (e + 0)) hcX8_isDigit Q (6, [some (.inl a1)], []) σ
    refine Wp.run (WpD.mono _) 1 (q := ((9, [some (.inl a1)], [.inl (57 : Int32), .inl a1]), σ)) rfl ?_
    refine Wp.if2_gt (WpD.mono _) rfl rfl (fun hc => ?_) (fun hc => ?_)
    · have h := (if_pos hc).symm.trans h
      show Wp (WpD (e + 0)) hcX8_isDigit Q (16, [some (.inl a1)], []) σ
      refine Wp.run (WpD.mono _) 0 (q := ((17, [none], [.inl (0 : Int32)]), σ)) rfl ?_
      obtain ⟨rfl, rfl⟩ := ret_inj h
      exact Wp.ret (WpD.mono _) rfl hQ
    · have h := (if_neg hc).symm.trans h
      show Wp (WpD (e + 0)) hcX8_isDigit Q (12, [some (.inl a1)], []) σ
      refine Wp.run (WpD.mono _) 1 (q := ((17, [some (.inl a1)], [.inl (1 : Int32)]), σ)) rfl ?_
      obtain ⟨rfl, rfl⟩ := ret_inj h
      exact Wp.ret (WpD.mono _) rfl hQ

set_option maxRecDepth 100000 in
set_option maxHeartbeats 4000000 in
theorem T_X8_isLetter (e N : Nat)  (a1 : Int32) (σ : Mem) (r : Int32) (τ : Mem) (Q : Pst) (h : F_X8_isLetter N a1 σ = some (r, τ)) (hQ : Q (some (.inl r)) τ) : WpD (e + 1) mX8_isLetter [.inl a1] σ Q := by
  refine WpD.of (d := e + 0) (Nat.le_of_ble_eq_true rfl) (Nat.le_of_ble_eq_true rfl) ?_
  show Wp (WpD (e + 0)) hcX8_isLetter Q (0, [some (.inl a1)], []) σ
  unfold F_X8_isLetter at h
  refine Wp.run (WpD.mono _) 1 (q := ((3, [some (.inl a1)], [.inl (97 : Int32), .inl a1]), σ)) rfl ?_
  refine Wp.if2_lt (WpD.mono _) rfl rfl (fun hc => ?_) (fun hc => ?_)
  · have h := (if_pos hc).symm.trans h
    show Wp (WpD (e + 0)) hcX8_isLetter Q (16, [some (.inl a1)], []) σ
    refine Wp.run (WpD.mono _) 0 (q := ((17, [none], [.inl (0 : Int32)]), σ)) rfl ?_
    obtain ⟨rfl, rfl⟩ := ret_inj h
    exact Wp.ret (WpD.mono _) rfl hQ
  · have h := (if_neg hc).symm.trans h
    show Wp (WpD (e + 0)) hcX8_isLetter Q (6, [some (.inl a1)], []) σ
    refine Wp.run (WpD.mono _) 1 (q := ((9, [some (.inl a1)], [.inl (122 : Int32), .inl a1]), σ)) rfl ?_
    refine Wp.if2_gt (WpD.mono _) rfl rfl (fun hc => ?_) (fun hc => ?_)
    · have h := (if_pos hc).symm.trans h
      show Wp (WpD (e + 0)) hcX8_isLetter Q (16, [some (.inl a1)], []) σ
      refine Wp.run (WpD.mono _) 0 (q := ((17, [none], [.inl (0 : Int32)]), σ)) rfl ?_
      obtain ⟨rfl, rfl⟩ := ret_inj h
      exact Wp.ret (WpD.mono _) rfl hQ
    · have h := (if_neg hc).symm.trans h
      show Wp (WpD (e + 0)) hcX8_isLetter Q (12, [some (.inl a1)], []) σ
      refine Wp.run (WpD.mono _) 1 (q := ((17, [some (.inl a1)], [.inl (1 : Int32)]), σ)) rfl ?_
      obtain ⟨rfl, rfl⟩ := ret_inj h
      exact Wp.ret (WpD.mono _) rfl hQ

set_option maxRecDepth 100000 in
set_option maxHeartbeats 4000000 in
theorem T_X8_readNumber_b81 (e N : Nat)   (r : Unit) (τ : Mem) (Q : Pst) (hQ : Q (none) τ) : ∀  (σ : Mem), F_X8_readNumber_b81 N  σ = some (r, τ) → Wp (WpD (e + 1)) hcX8_readNumber Q (81, [some (.inr (.inr (3, 0)))], []) σ := by
  intro  σ h
  unfold F_X8_readNumber_b81 at h
  refine Wp.run (WpD.mono _) 6 (q := ((92, [some (.inr (.inr (3, 0)))], [.inl (4 : Int32), .inl ((σ.1 3 5) - (σ.1 3 6)), .inr (.inr (3, 0))]), σ)) rfl ?_
  refine Wp.if2_le (WpD.mono _) rfl rfl (fun hc => ?_) (fun hc => ?_)
  · have h := (if_pos hc).symm.trans h
    show Wp (WpD (e + 1)) hcX8_readNumber Q (99, [some (.inr (.inr (3, 0)))], [.inr (.inr (3, 0))]) σ
    refine Wp.run (WpD.mono _) 1 (q := ((103, [none], []), ((hwU2 σ.1 3 7 (2 : Int32)), σ.2.1, σ.2.2.1, σ.2.2.2.1, σ.2.2.2.2))) rfl ?_
    obtain ⟨rfl, rfl⟩ := ret_inj h
    exact Wp.ret (WpD.mono _) rfl hQ
  · have h := (if_neg hc).symm.trans h
    show Wp (WpD (e + 1)) hcX8_readNumber Q (95, [some (.inr (.inr (3, 0)))], [.inr (.inr (3, 0))]) σ
    refine Wp.run (WpD.mono _) 2 (q := ((103, [none], []), ((hwU2 σ.1 3 7 (1 : Int32)), σ.2.1, σ.2.2.1, σ.2.2.2.1, σ.2.2.2.2))) rfl ?_
    obtain ⟨rfl, rfl⟩ := ret_inj h
    exact Wp.ret (WpD.mono _) rfl hQ

set_option maxRecDepth 100000 in
set_option maxHeartbeats 4000000 in
theorem T_X8_readNumber_b5 (e N : Nat)   (r : Unit) (τ : Mem) (Q : Pst) (hQ : Q (none) τ) : ∀ n, ∀  (σ : Mem), F_X8_readNumber_b5 N n  σ = some (r, τ) → Wp (WpD (e + 1)) hcX8_readNumber Q (5, [some (.inr (.inr (3, 0)))], []) σ := by
  intro n
  induction n with
  | zero => intro  σ h; cases h
  | succ n ih =>
    intro  σ h
    unfold F_X8_readNumber_b5 at h
    refine Wp.run (WpD.mono _) 3 (q := ((13, [some (.inr (.inr (3, 0)))], [.inl (σ.1 3 3), .inl (σ.1 3 5)]), σ)) rfl ?_
    refine Wp.if2_ge (WpD.mono _) rfl rfl (fun hc => ?_) (fun hc => ?_)
    · have h := (if_pos hc).symm.trans h
      show Wp (WpD (e + 1)) hcX8_readNumber Q (81, [some (.inr (.inr (3, 0)))], []) σ
      exact Wp.jump (WpD.mono _) rfl ((T_X8_readNumber_b81 e N  r τ Q hQ ) σ h)
    · have h := (if_neg hc).symm.trans h
      show Wp (WpD (e + 1)) hcX8_readNumber Q (16, [some (.inr (.inr (3, 0)))], []) σ
      refine Wp.run (WpD.mono _) 3 (q := ((24, [some (.inr (.inr (3, 0)))], [.inl (σ.1 3 5), .inr (.inr (62, 0))]), σ)) rfl ?_
      obtain ⟨hc, h⟩ := ite_nn h
      refine Wp.X_ild1 (WpD.mono _) rfl rfl hc ?_
      show Wp (WpD (e + 1)) hcX8_readNumber Q (25, [some (.inr (.inr (3, 0)))], [.inl (σ.2.2.1 62 0 ((σ.1 3 5)).toNatClampNeg)]) σ
      obtain ⟨q1, hb, h⟩ := bind_some h
      refine Wp.call (WpD.mono _) rfl (T_X8_isDigit (e + 0) N (σ.2.2.1 62 0 ((σ.1 3 5)).toNatClampNeg) σ _ _ _ hb ?_)
      show Wp (WpD (e + 1)) hcX8_readNumber Q (28, [some (.inr (.inr (3, 0)))], [.inl q1.1]) q1.2
      refine Wp.if0_eq (WpD.mono _) rfl rfl (fun hc => ?_) (fun hc => ?_)
      · have h := (if_pos hc).symm.trans h
        show Wp (WpD (e + 1)) hcX8_readNumber Q (81, [some (.inr (.inr (3, 0)))], []) q1.2
        exact Wp.jump (WpD.mono _) rfl ((T_X8_readNumber_b81 e N  r τ Q hQ ) q1.2 h)
      · have h := (if_neg hc).symm.trans h
        show Wp (WpD (e + 1)) hcX8_readNumber Q (31, [some (.inr (.inr (3, 0)))], []) q1.2
        refine Wp.run (WpD.mono _) 5 (q := ((41, [some (.inr (.inr (3, 0)))], [.inl (4 : Int32), .inl ((q1.2.1 3 5) - (q1.2.1 3 6))]), q1.2)) rfl ?_
        refine Wp.if2_ge (WpD.mono _) rfl rfl (fun hc => ?_) (fun hc => ?_)
        · have h := (if_pos hc).symm.trans h
          show Wp (WpD (e + 1)) hcX8_readNumber Q (68, [some (.inr (.inr (3, 0)))], []) q1.2
          refine Wp.run (WpD.mono _) 6 (q := ((5, [some (.inr (.inr (3, 0)))], []), ((hwU2 q1.2.1 3 5 ((q1.2.1 3 5) + (1 : Int32))), q1.2.2.1, q1.2.2.2.1, q1.2.2.2.2.1, q1.2.2.2.2.2))) rfl ?_
          exact Wp.jump (WpD.mono _) rfl (ih ((hwU2 q1.2.1 3 5 ((q1.2.1 3 5) + (1 : Int32))), q1.2.2.1, q1.2.2.2.1, q1.2.2.2.2.1, q1.2.2.2.2.2) h)
        · have h := (if_neg hc).symm.trans h
          show Wp (WpD (e + 1)) hcX8_readNumber Q (44, [some (.inr (.inr (3, 0)))], []) q1.2
          refine Wp.run (WpD.mono _) 8 (q := ((60, [some (.inr (.inr (3, 0)))], [.inl (q1.2.1 3 5), .inr (.inr (62, 0)), .inl ((q1.2.1 3 8) * (10 : Int32)), .inr (.inr (3, 0))]), q1.2)) rfl ?_
          obtain ⟨hc, h⟩ := ite_nn h
          refine Wp.X_ild1 (WpD.mono _) rfl rfl hc ?_
          show Wp (WpD (e + 1)) hcX8_readNumber Q (61, [some (.inr (.inr (3, 0)))], [.inl (q1.2.2.2.1 62 0 ((q1.2.1 3 5)).toNatClampNeg), .inl ((q1.2.1 3 8) * (10 : Int32)), .inr (.inr (3, 0))]) q1.2
          refine Wp.run (WpD.mono _) 10 (q := ((5, [some (.inr (.inr (3, 0)))], []), ((hwU2 (hwU2 q1.2.1 3 8 ((((q1.2.1 3 8) * (10 : Int32)) + (q1.2.2.2.1 62 0 ((q1.2.1 3 5)).toNatClampNeg)) - (48 : Int32))) 3 5 ((q1.2.1 3 5) + (1 : Int32))), q1.2.2.1, q1.2.2.2.1, q1.2.2.2.2.1, q1.2.2.2.2.2))) rfl ?_
          exact Wp.jump (WpD.mono _) rfl (ih ((hwU2 (hwU2 q1.2.1 3 8 ((((q1.2.1 3 8) * (10 : Int32)) + (q1.2.2.2.1 62 0 ((q1.2.1 3 5)).toNatClampNeg)) - (48 : Int32))) 3 5 ((q1.2.1 3 5) + (1 : Int32))), q1.2.2.1, q1.2.2.2.1, q1.2.2.2.2.1, q1.2.2.2.2.2) h)

set_option maxRecDepth 100000 in
set_option maxHeartbeats 4000000 in
theorem T_X8_readNumber (e N : Nat)   (σ : Mem) (r : Unit) (τ : Mem) (Q : Pst) (h : F_X8_readNumber N  σ = some (r, τ)) (hQ : Q (none) τ) : WpD (e + 2) mX8_readNumber [.inr (.inr (3, 0))] σ Q := by
  refine WpD.of (d := e + 1) (Nat.le_of_ble_eq_true rfl) (Nat.le_of_ble_eq_true rfl) ?_
  show Wp (WpD (e + 1)) hcX8_readNumber Q (0, [some (.inr (.inr (3, 0)))], []) σ
  unfold F_X8_readNumber at h
  refine Wp.run (WpD.mono _) 2 (q := ((5, [some (.inr (.inr (3, 0)))], []), ((hwU2 σ.1 3 8 (0 : Int32)), σ.2.1, σ.2.2.1, σ.2.2.2.1, σ.2.2.2.2))) rfl ?_
  exact Wp.jump (WpD.mono _) rfl ((T_X8_readNumber_b5 e N  r τ Q hQ  N) ((hwU2 σ.1 3 8 (0 : Int32)), σ.2.1, σ.2.2.1, σ.2.2.2.1, σ.2.2.2.2) h)

set_option maxRecDepth 100000 in
set_option maxHeartbeats 4000000 in
theorem T_X8_isWord_b47 (e N : Nat)  (k20 : Int32 → Int32 → Int32 → Mem → Option (Int32 × Mem)) (r : Int32) (τ : Mem) (Q : Pst) (hQ : Q (some (.inl r)) τ) (hk20 : ∀ (x1 : Int32) (x2 : Int32) (x3 : Int32) (σ : Mem), k20 x1 x2 x3 σ = some (r, τ) → Wp (WpD (e + 0)) hcX8_isWord Q (20, [some (.inr (.inr (3, 0))), some (.inl x1), some (.inl x2), some (.inl x3), none], []) σ) : ∀ (x1 : Int32) (x2 : Int32) (x3 : Int32) (s0 : Int32) (σ : Mem), F_X8_isWord_b47 N k20 x1 x2 x3 s0 σ = some (r, τ) → Wp (WpD (e + 0)) hcX8_isWord Q (47, [some (.inr (.inr (3, 0))), some (.inl x1), some (.inl x2), some (.inl x3), none], [.inl s0]) σ := by
  intro x1 x2 x3 s0 σ h
  unfold F_X8_isWord_b47 at h
  refine Wp.run (WpD.mono _) 7 (q := ((59, [some (.inr (.inr (3, 0))), some (.inl x1), some (.inl x2), some (.inl x3), some (.inl s0)], [.inl ((x1 * (6 : Int32)) + x3), .inr (.inr (212, 0)), .inl s0]), σ)) rfl ?_
  obtain ⟨hc, h⟩ := ite_nn h
  refine Wp.X_chr (WpD.mono _) rfl rfl rfl hc ?_
  show Wp (WpD (e + 0)) hcX8_isWord Q (62, [some (.inr (.inr (3, 0))), some (.inl x1), some (.inl x2), some (.inl x3), some (.inl s0)], [.inl (nI (ntD 0 (ntD [] hwST 2) (((x1 * (6 : Int32)) + x3)).toNatClampNeg)), .inl s0]) σ
  refine Wp.if2_eq (WpD.mono _) rfl rfl (fun hc => ?_) (fun hc => ?_)
  · have h := (if_pos hc).symm.trans h
    show Wp (WpD (e + 0)) hcX8_isWord Q (67, [some (.inr (.inr (3, 0))), some (.inl x1), some (.inl x2), some (.inl x3), some (.inl s0)], []) σ
    refine Wp.run (WpD.mono _) 1 (q := ((20, [some (.inr (.inr (3, 0))), some (.inl x1), some (.inl x2), some (.inl (x3 + (1 : Int32))), some (.inl s0)], []), σ)) rfl ?_
    exact Wp.jump (WpD.mono _) rfl (hk20 x1 x2 (x3 + (1 : Int32)) σ h)
  · have h := (if_neg hc).symm.trans h
    show Wp (WpD (e + 0)) hcX8_isWord Q (65, [some (.inr (.inr (3, 0))), some (.inl x1), some (.inl x2), some (.inl x3), some (.inl s0)], []) σ
    refine Wp.run (WpD.mono _) 0 (q := ((66, [some (.inr (.inr (3, 0))), some (.inl x1), some (.inl x2), some (.inl x3), some (.inl s0)], [.inl (0 : Int32)]), σ)) rfl ?_
    obtain ⟨rfl, rfl⟩ := ret_inj h
    exact Wp.ret (WpD.mono _) rfl hQ

set_option maxRecDepth 100000 in
set_option maxHeartbeats 4000000 in
theorem T_X8_isWord_b20 (e N : Nat)   (r : Int32) (τ : Mem) (Q : Pst) (hQ : Q (some (.inl r)) τ) : ∀ n, ∀ (x1 : Int32) (x2 : Int32) (x3 : Int32) (σ : Mem), F_X8_isWord_b20 N n x1 x2 x3 σ = some (r, τ) → Wp (WpD (e + 0)) hcX8_isWord Q (20, [some (.inr (.inr (3, 0))), some (.inl x1), some (.inl x2), some (.inl x3), none], []) σ := by
  intro n
  induction n with
  | zero => intro x1 x2 x3 σ h; cases h
  | succ n ih =>
    intro x1 x2 x3 σ h
    unfold F_X8_isWord_b20 at h
    refine Wp.run (WpD.mono _) 1 (q := ((23, [some (.inr (.inr (3, 0))), some (.inl x1), some (.inl x2), some (.inl x3), none], [.inl (6 : Int32), .inl x3]), σ)) rfl ?_
    refine Wp.if2_ge (WpD.mono _) rfl rfl (fun hc => ?_) (fun hc => ?_)
    · have h := (if_pos hc).symm.trans h
      show Wp (WpD (e + 0)) hcX8_isWord Q (73, [some (.inr (.inr (3, 0))), some (.inl x1), some (.inl x2), some (.inl x3), none], []) σ
      refine Wp.run (WpD.mono _) 0 (q := ((74, [some (.inr (.inr (3, 0))), some (.inl x1), some (.inl x2), some (.inl x3), none], [.inl (1 : Int32)]), σ)) rfl ?_
      obtain ⟨rfl, rfl⟩ := ret_inj h
      exact Wp.ret (WpD.mono _) rfl hQ
    · have h := (if_neg hc).symm.trans h
      show Wp (WpD (e + 0)) hcX8_isWord Q (26, [some (.inr (.inr (3, 0))), some (.inl x1), some (.inl x2), some (.inl x3), none], []) σ
      refine Wp.run (WpD.mono _) 1 (q := ((28, [some (.inr (.inr (3, 0))), some (.inl x1), some (.inl x2), some (.inl x3), none], [.inl x2, .inl x3]), σ)) rfl ?_
      refine Wp.if2_ge (WpD.mono _) rfl rfl (fun hc => ?_) (fun hc => ?_)
      · have h := (if_pos hc).symm.trans h
        show Wp (WpD (e + 0)) hcX8_isWord Q (45, [some (.inr (.inr (3, 0))), some (.inl x1), some (.inl x2), some (.inl x3), none], []) σ
        refine Wp.run (WpD.mono _) 0 (q := ((47, [some (.inr (.inr (3, 0))), some (.inl x1), some (.inl x2), some (.inl x3), none], [.inl (32 : Int32)]), σ)) rfl ?_
        exact Wp.jump (WpD.mono _) rfl ((T_X8_isWord_b47 e N (F_X8_isWord_b20 N n) r τ Q hQ ih) x1 x2 x3 (32 : Int32) σ h)
      · have h := (if_neg hc).symm.trans h
        show Wp (WpD (e + 0)) hcX8_isWord Q (31, [some (.inr (.inr (3, 0))), some (.inl x1), some (.inl x2), some (.inl x3), none], []) σ
        refine Wp.run (WpD.mono _) 5 (q := ((41, [some (.inr (.inr (3, 0))), some (.inl x1), some (.inl x2), some (.inl x3), none], [.inl ((σ.1 3 6) + x3), .inr (.inr (62, 0))]), σ)) rfl ?_
        obtain ⟨hc, h⟩ := ite_nn h
        refine Wp.X_ild1 (WpD.mono _) rfl rfl hc ?_
        show Wp (WpD (e + 0)) hcX8_isWord Q (42, [some (.inr (.inr (3, 0))), some (.inl x1), some (.inl x2), some (.inl x3), none], [.inl (σ.2.2.1 62 0 (((σ.1 3 6) + x3)).toNatClampNeg)]) σ
        refine Wp.run (WpD.mono _) 0 (q := ((47, [some (.inr (.inr (3, 0))), some (.inl x1), some (.inl x2), some (.inl x3), none], [.inl (σ.2.2.1 62 0 (((σ.1 3 6) + x3)).toNatClampNeg)]), σ)) rfl ?_
        exact Wp.jump (WpD.mono _) rfl ((T_X8_isWord_b47 e N (F_X8_isWord_b20 N n) r τ Q hQ ih) x1 x2 x3 (σ.2.2.1 62 0 (((σ.1 3 6) + x3)).toNatClampNeg) σ h)

set_option maxRecDepth 100000 in
set_option maxHeartbeats 4000000 in
theorem T_X8_isWord (e N : Nat)  (a1 : Int32) (σ : Mem) (r : Int32) (τ : Mem) (Q : Pst) (h : F_X8_isWord N a1 σ = some (r, τ)) (hQ : Q (some (.inl r)) τ) : WpD (e + 1) mX8_isWord [.inr (.inr (3, 0)), .inl a1] σ Q := by
  refine WpD.of (d := e + 0) (Nat.le_of_ble_eq_true rfl) (Nat.le_of_ble_eq_true rfl) ?_
  show Wp (WpD (e + 0)) hcX8_isWord Q (0, [some (.inr (.inr (3, 0))), some (.inl a1), none, none, none], []) σ
  unfold F_X8_isWord at h
  refine Wp.run (WpD.mono _) 7 (q := ((13, [some (.inr (.inr (3, 0))), some (.inl a1), some (.inl ((σ.1 3 5) - (σ.1 3 6))), none, none], [.inl (6 : Int32), .inl ((σ.1 3 5) - (σ.1 3 6))]), σ)) rfl ?_
  refine Wp.if2_le (WpD.mono _) rfl rfl (fun hc => ?_) (fun hc => ?_)
  · have h := (if_pos hc).symm.trans h
    show Wp (WpD (e + 0)) hcX8_isWord Q (18, [some (.inr (.inr (3, 0))), some (.inl a1), some (.inl ((σ.1 3 5) - (σ.1 3 6))), none, none], []) σ
    refine Wp.run (WpD.mono _) 1 (q := ((20, [some (.inr (.inr (3, 0))), some (.inl a1), some (.inl ((σ.1 3 5) - (σ.1 3 6))), some (.inl (0 : Int32)), none], []), σ)) rfl ?_
    exact Wp.jump (WpD.mono _) rfl ((T_X8_isWord_b20 e N  r τ Q hQ  N) a1 ((σ.1 3 5) - (σ.1 3 6)) (0 : Int32) σ h)
  · have h := (if_neg hc).symm.trans h
    show Wp (WpD (e + 0)) hcX8_isWord Q (16, [some (.inr (.inr (3, 0))), some (.inl a1), some (.inl ((σ.1 3 5) - (σ.1 3 6))), none, none], []) σ
    refine Wp.run (WpD.mono _) 0 (q := ((17, [some (.inr (.inr (3, 0))), some (.inl a1), some (.inl ((σ.1 3 5) - (σ.1 3 6))), none, none], [.inl (0 : Int32)]), σ)) rfl ?_
    obtain ⟨rfl, rfl⟩ := ret_inj h
    exact Wp.ret (WpD.mono _) rfl hQ

set_option maxRecDepth 100000 in
set_option maxHeartbeats 4000000 in
theorem T_X8_readWord_b46 (e N : Nat)   (r : Unit) (τ : Mem) (Q : Pst) (hQ : Q (none) τ) : ∀ n, ∀ (x1 : Int32) (σ : Mem), F_X8_readWord_b46 N n x1 σ = some (r, τ) → Wp (WpD (e + 1)) hcX8_readWord Q (46, [some (.inr (.inr (3, 0))), some (.inl x1)], []) σ := by
  intro n
  induction n with
  | zero => intro x1 σ h; cases h
  | succ n ih =>
    intro x1 σ h
    unfold F_X8_readWord_b46 at h
    refine Wp.run (WpD.mono _) 1 (q := ((49, [some (.inr (.inr (3, 0))), some (.inl x1)], [.inl (12 : Int32), .inl x1]), σ)) rfl ?_
    refine Wp.if2_ge (WpD.mono _) rfl rfl (fun hc => ?_) (fun hc => ?_)
    · have h := (if_pos hc).symm.trans h
      show Wp (WpD (e + 1)) hcX8_readWord Q (91, [some (.inr (.inr (3, 0))), some (.inl x1)], []) σ
      obtain ⟨rfl, rfl⟩ := ret_inj h
      exact Wp.ret (WpD.mono _) rfl hQ
    · have h := (if_neg hc).symm.trans h
      show Wp (WpD (e + 1)) hcX8_readWord Q (52, [some (.inr (.inr (3, 0))), some (.inl x1)], []) σ
      refine Wp.run (WpD.mono _) 1 (q := ((54, [some (.inr (.inr (3, 0))), some (.inl x1)], [.inl x1, .inr (.inr (3, 0))]), σ)) rfl ?_
      obtain ⟨q2, hb, h⟩ := bind_some h
      refine Wp.call (WpD.mono _) rfl (T_X8_isWord (e + 0) N x1 σ _ _ _ hb ?_)
      show Wp (WpD (e + 1)) hcX8_readWord Q (57, [some (.inr (.inr (3, 0))), some (.inl x1)], [.inl q2.1]) q2.2
      refine Wp.if0_eq (WpD.mono _) rfl rfl (fun hc => ?_) (fun hc => ?_)
      · have h := (if_pos hc).symm.trans h
        show Wp (WpD (e + 1)) hcX8_readWord Q (85, [some (.inr (.inr (3, 0))), some (.inl x1)], []) q2.2
        refine Wp.run (WpD.mono _) 1 (q := ((46, [some (.inr (.inr (3, 0))), some (.inl (x1 + (1 : Int32)))], []), q2.2)) rfl ?_
        exact Wp.jump (WpD.mono _) rfl (ih (x1 + (1 : Int32)) q2.2 h)
      · have h := (if_neg hc).symm.trans h
        show Wp (WpD (e + 1)) hcX8_readWord Q (60, [some (.inr (.inr (3, 0))), some (.inl x1)], []) q2.2
        refine Wp.run (WpD.mono _) 2 (q := ((64, [some (.inr (.inr (3, 0))), some (.inl x1)], [.inl (6 : Int32), .inl x1, .inr (.inr (3, 0))]), q2.2)) rfl ?_
        refine Wp.if2_ge (WpD.mono _) rfl rfl (fun hc => ?_) (fun hc => ?_)
        · have h := (if_pos hc).symm.trans h
          show Wp (WpD (e + 1)) hcX8_readWord Q (73, [some (.inr (.inr (3, 0))), some (.inl x1)], [.inr (.inr (3, 0))]) q2.2
          refine Wp.run (WpD.mono _) 8 (q := ((46, [some (.inr (.inr (3, 0))), some (.inl (x1 + (1 : Int32)))], []), ((hwU2 (hwU2 q2.2.1 3 7 (3 : Int32)) 3 8 (x1 - (6 : Int32))), q2.2.2.1, q2.2.2.2.1, q2.2.2.2.2.1, q2.2.2.2.2.2))) rfl ?_
          exact Wp.jump (WpD.mono _) rfl (ih (x1 + (1 : Int32)) ((hwU2 (hwU2 q2.2.1 3 7 (3 : Int32)) 3 8 (x1 - (6 : Int32))), q2.2.2.1, q2.2.2.2.1, q2.2.2.2.2.1, q2.2.2.2.2.2) h)
        · have h := (if_neg hc).symm.trans h
          show Wp (WpD (e + 1)) hcX8_readWord Q (67, [some (.inr (.inr (3, 0))), some (.inl x1)], [.inr (.inr (3, 0))]) q2.2
          refine Wp.run (WpD.mono _) 11 (q := ((46, [some (.inr (.inr (3, 0))), some (.inl (x1 + (1 : Int32)))], []), ((hwU2 (hwU2 q2.2.1 3 7 ((4 : Int32) + x1)) 3 8 (x1 - (6 : Int32))), q2.2.2.1, q2.2.2.2.1, q2.2.2.2.2.1, q2.2.2.2.2.2))) rfl ?_
          exact Wp.jump (WpD.mono _) rfl (ih (x1 + (1 : Int32)) ((hwU2 (hwU2 q2.2.1 3 7 ((4 : Int32) + x1)) 3 8 (x1 - (6 : Int32))), q2.2.2.1, q2.2.2.2.1, q2.2.2.2.2.1, q2.2.2.2.2.2) h)

set_option maxRecDepth 100000 in
set_option maxHeartbeats 4000000 in
theorem T_X8_readWord_b0 (e N : Nat)   (r : Unit) (τ : Mem) (Q : Pst) (hQ : Q (none) τ) : ∀ n, ∀  (σ : Mem), F_X8_readWord_b0 N n  σ = some (r, τ) → Wp (WpD (e + 1)) hcX8_readWord Q (0, [some (.inr (.inr (3, 0))), none], []) σ := by
  intro n
  induction n with
  | zero => intro  σ h; cases h
  | succ n ih =>
    intro  σ h
    unfold F_X8_readWord_b0 at h
    refine Wp.run (WpD.mono _) 3 (q := ((8, [some (.inr (.inr (3, 0))), none], [.inl (σ.1 3 3), .inl (σ.1 3 5)]), σ)) rfl ?_
    refine Wp.if2_ge (WpD.mono _) rfl rfl (fun hc => ?_) (fun hc => ?_)
    · have h := (if_pos hc).symm.trans h
      show Wp (WpD (e + 1)) hcX8_readWord Q (39, [some (.inr (.inr (3, 0))), none], []) σ
      refine Wp.run (WpD.mono _) 4 (q := ((46, [some (.inr (.inr (3, 0))), some (.inl (0 : Int32))], []), ((hwU2 σ.1 3 7 (1 : Int32)), σ.2.1, σ.2.2.1, σ.2.2.2.1, σ.2.2.2.2))) rfl ?_
      exact Wp.jump (WpD.mono _) rfl ((T_X8_readWord_b46 e N  r τ Q hQ  N) (0 : Int32) ((hwU2 σ.1 3 7 (1 : Int32)), σ.2.1, σ.2.2.1, σ.2.2.2.1, σ.2.2.2.2) h)
    · have h := (if_neg hc).symm.trans h
      show Wp (WpD (e + 1)) hcX8_readWord Q (11, [some (.inr (.inr (3, 0))), none], []) σ
      refine Wp.run (WpD.mono _) 3 (q := ((19, [some (.inr (.inr (3, 0))), none], [.inl (σ.1 3 5), .inr (.inr (62, 0))]), σ)) rfl ?_
      obtain ⟨hc, h⟩ := ite_nn h
      refine Wp.X_ild1 (WpD.mono _) rfl rfl hc ?_
      show Wp (WpD (e + 1)) hcX8_readWord Q (20, [some (.inr (.inr (3, 0))), none], [.inl (σ.2.2.1 62 0 ((σ.1 3 5)).toNatClampNeg)]) σ
      obtain ⟨q1, hb, h⟩ := bind_some h
      refine Wp.call (WpD.mono _) rfl (T_X8_isLetter (e + 0) N (σ.2.2.1 62 0 ((σ.1 3 5)).toNatClampNeg) σ _ _ _ hb ?_)
      show Wp (WpD (e + 1)) hcX8_readWord Q (23, [some (.inr (.inr (3, 0))), none], [.inl q1.1]) q1.2
      refine Wp.if0_eq (WpD.mono _) rfl rfl (fun hc => ?_) (fun hc => ?_)
      · have h := (if_pos hc).symm.trans h
        show Wp (WpD (e + 1)) hcX8_readWord Q (39, [some (.inr (.inr (3, 0))), none], []) q1.2
        refine Wp.run (WpD.mono _) 4 (q := ((46, [some (.inr (.inr (3, 0))), some (.inl (0 : Int32))], []), ((hwU2 q1.2.1 3 7 (1 : Int32)), q1.2.2.1, q1.2.2.2.1, q1.2.2.2.2.1, q1.2.2.2.2.2))) rfl ?_
        exact Wp.jump (WpD.mono _) rfl ((T_X8_readWord_b46 e N  r τ Q hQ  N) (0 : Int32) ((hwU2 q1.2.1 3 7 (1 : Int32)), q1.2.2.1, q1.2.2.2.1, q1.2.2.2.2.1, q1.2.2.2.2.2) h)
      · have h := (if_neg hc).symm.trans h
        show Wp (WpD (e + 1)) hcX8_readWord Q (26, [some (.inr (.inr (3, 0))), none], []) q1.2
        refine Wp.run (WpD.mono _) 6 (q := ((0, [some (.inr (.inr (3, 0))), none], []), ((hwU2 q1.2.1 3 5 ((q1.2.1 3 5) + (1 : Int32))), q1.2.2.1, q1.2.2.2.1, q1.2.2.2.2.1, q1.2.2.2.2.2))) rfl ?_
        exact Wp.jump (WpD.mono _) rfl (ih ((hwU2 q1.2.1 3 5 ((q1.2.1 3 5) + (1 : Int32))), q1.2.2.1, q1.2.2.2.1, q1.2.2.2.2.1, q1.2.2.2.2.2) h)


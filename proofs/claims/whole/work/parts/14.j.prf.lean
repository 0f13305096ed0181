set_option maxRecDepth 100000 in
set_option maxHeartbeats 4000000 in
theorem T_X12_text_b26 (e N : Nat)   (r : Int32) (τ : Mem) (Q : Pst) (hQ : Q (some (.inl r)) τ) : ∀ n, ∀ (x1 : Int32) (x2 : Int32) (σ : Mem), F_X12_text_b26 N n x1 x2 σ = some (r, τ) → Wp (WpD (e + 4)) hcX12_text Q (26, [some (.inr (.inr (12, 0))), some (.inl x1), some (.inl x2)], []) σ := by
  intro n
  induction n with
  | zero => intro x1 x2 σ h; cases h
  | succ n ih =>
    intro x1 x2 σ h
    unfold F_X12_text_b26 at h
    refine Wp.run (WpD.mono _) 1 (q := ((28, [some (.inr (.inr (12, 0))), some (.inl x1), some (.inl x2)], [.inl (3 : Int32), .inl x2]), σ)) rfl ?_
    refine Wp.if2_ge (WpD.mono _) rfl rfl (fun hc => ?_) (fun hc => ?_)
    · have h := (if_pos hc).symm.trans h
      show Wp (WpD (e + 4)) hcX12_text Q (101, [some (.inr (.inr (12, 0))), some (.inl x1), some (.inl x2)], []) σ
      exact Wp.jump (WpD.mono _) rfl ((T_X12_text_b101 e N  r τ Q hQ ) x1 σ h)
    · have h := (if_neg hc).symm.trans h
      show Wp (WpD (e + 4)) hcX12_text Q (31, [some (.inr (.inr (12, 0))), some (.inl x1), some (.inl x2)], []) σ
      refine Wp.run (WpD.mono _) 0 (q := ((32, [some (.inr (.inr (12, 0))), some (.inl x1), some (.inl x2)], [.inl x1]), σ)) rfl ?_
      refine Wp.if0_eq (WpD.mono _) rfl rfl (fun hc => ?_) (fun hc => ?_)
      · have h := (if_pos hc).symm.trans h
        show Wp (WpD (e + 4)) hcX12_text Q (101, [some (.inr (.inr (12, 0))), some (.inl x1), some (.inl x2)], []) σ
        exact Wp.jump (WpD.mono _) rfl ((T_X12_text_b101 e N  r τ Q hQ ) x1 σ h)
      · have h := (if_neg hc).symm.trans h
        show Wp (WpD (e + 4)) hcX12_text Q (35, [some (.inr (.inr (12, 0))), some (.inl x1), some (.inl x2)], []) σ
        refine Wp.run (WpD.mono _) 0 (q := ((36, [some (.inr (.inr (12, 0))), some (.inl x1), some (.inl x2)], [.inr (.inr (12, 0))]), σ)) rfl ?_
        obtain ⟨q1, hb, h⟩ := bind_some h
        refine Wp.call (WpD.mono _) rfl (T_X12_nextToken (e + 1) N σ _ _ _ hb ?_)
        show Wp (WpD (e + 4)) hcX12_text Q (39, [some (.inr (.inr (12, 0))), some (.inl x1), some (.inl x2)], []) q1.2
        refine Wp.run (WpD.mono _) 2 (q := ((44, [some (.inr (.inr (12, 0))), some (.inl x1), some (.inl x2)], [.inl (3 : Int32), .inl (q1.2.1 12 44)]), q1.2)) rfl ?_
        refine Wp.if2_ne (WpD.mono _) rfl rfl (fun hc => ?_) (fun hc => ?_)
        · have h := (if_pos hc).symm.trans h
          show Wp (WpD (e + 4)) hcX12_text Q (47, [some (.inr (.inr (12, 0))), some (.inl x1), some (.inl x2)], []) q1.2
          refine Wp.run (WpD.mono _) 2 (q := ((52, [some (.inr (.inr (12, 0))), some (.inl x1), some (.inl x2)], [.inl x2, .inl (q1.2.1 12 45)]), q1.2)) rfl ?_
          refine Wp.if2_ne (WpD.mono _) rfl rfl (fun hc => ?_) (fun hc => ?_)
          · have h := (if_pos hc).symm.trans h
            show Wp (WpD (e + 4)) hcX12_text Q (55, [some (.inr (.inr (12, 0))), some (.inl x1), some (.inl x2)], []) q1.2
            refine Wp.run (WpD.mono _) 1 (q := ((60, [some (.inr (.inr (12, 0))), some (.inl x1), some (.inl x2)], [.inl (1 : Int32)]), q1.2)) rfl ?_
            exact Wp.jump (WpD.mono _) rfl ((T_X12_text_b60 e N (F_X12_text_b26 N n) r τ Q hQ ih) x2 (1 : Int32) q1.2 h)
          · have h := (if_neg hc).symm.trans h
            show Wp (WpD (e + 4)) hcX12_text Q (59, [some (.inr (.inr (12, 0))), some (.inl x1), some (.inl x2)], []) q1.2
            exact Wp.jump (WpD.mono _) rfl ((T_X12_text_b59 e N (F_X12_text_b60 N (F_X12_text_b26 N n)) r τ Q hQ (T_X12_text_b60 e N (F_X12_text_b26 N n) r τ Q hQ ih)) x2 q1.2 h)
        · have h := (if_neg hc).symm.trans h
          show Wp (WpD (e + 4)) hcX12_text Q (59, [some (.inr (.inr (12, 0))), some (.inl x1), some (.inl x2)], []) q1.2
          exact Wp.jump (WpD.mono _) rfl ((T_X12_text_b59 e N (F_X12_text_b60 N (F_X12_text_b26 N n)) r τ Q hQ (T_X12_text_b60 e N (F_X12_text_b26 N n) r τ Q hQ ih)) x2 q1.2 h)

set_option maxRecDepth 100000 in
set_option maxHeartbeats 4000000 in
theorem T_X12_text (e N : Nat)   (σ : Mem) (r : Int32) (τ : Mem) (Q : Pst) (h : F_X12_text N  σ = some (r, τ)) (hQ : Q (some (.inl r)) τ) : WpD (e + 5) mX12_text [.inr (.inr (12, 0))] σ Q := by
  refine WpD.of (d := e + 4) (Nat.le_of_ble_eq_true rfl) (Nat.le_of_ble_eq_true rfl) ?_
  show Wp (WpD (e + 4)) hcX12_text Q (0, [some (.inr (.inr (12, 0))), none, none], []) σ
  unfold F_X12_text at h
  refine Wp.run (WpD.mono _) 2 (q := ((6, [some (.inr (.inr (12, 0))), none, none], [.inl (6 : Int32), .inl (σ.1 12 27)]), σ)) rfl ?_
  refine Wp.if2_ne (WpD.mono _) rfl rfl (fun hc => ?_) (fun hc => ?_)
  · have h := (if_pos hc).symm.trans h
    show Wp (WpD (e + 4)) hcX12_text Q (9, [some (.inr (.inr (12, 0))), none, none], []) σ
    refine Wp.run (WpD.mono _) 0 (q := ((11, [some (.inr (.inr (12, 0))), none, none], [.inl (Int32.ofInt (-4))]), σ)) rfl ?_
    obtain ⟨rfl, rfl⟩ := ret_inj h
    exact Wp.ret (WpD.mono _) rfl hQ
  · have h := (if_neg hc).symm.trans h
    show Wp (WpD (e + 4)) hcX12_text Q (12, [some (.inr (.inr (12, 0))), none, none], []) σ
    refine Wp.run (WpD.mono _) 9 (q := ((26, [some (.inr (.inr (12, 0))), some (.inl (1 : Int32)), some (.inl (0 : Int32))], []), ((hwU2 (hwU2 σ.1 12 42 (0 : Int32)) 12 50 (0 : Int32)), σ.2.1, σ.2.2.1, σ.2.2.2.1, σ.2.2.2.2))) rfl ?_
    exact Wp.jump (WpD.mono _) rfl ((T_X12_text_b26 e N  r τ Q hQ  N) (1 : Int32) (0 : Int32) ((hwU2 (hwU2 σ.1 12 42 (0 : Int32)) 12 50 (0 : Int32)), σ.2.1, σ.2.2.1, σ.2.2.2.1, σ.2.2.2.2) h)

set_option maxRecDepth 100000 in
set_option maxHeartbeats 4000000 in
theorem T_X12_think (e N : Nat)  (a1 : Int32) (a2 : Int32) (σ : Mem) (r : Int64) (τ : Mem) (Q : Pst) (h : F_X12_think N a1 a2 σ = some (r, τ)) (hQ : Q (some (.inr (.inl r))) τ) : WpD (e + 6) mX12_think [.inr (.inr (12, 0)), .inl a1, .inl a2] σ Q := by
  refine WpD.of (d := e + 5) (Nat.le_of_ble_eq_true rfl) (Nat.le_of_ble_eq_true rfl) ?_
  show Wp (WpD (e + 5)) hcX12_think Q (0, [some (.inr (.inr (12, 0))), some (.inl a1), some (.inl a2)], []) σ
  unfold F_X12_think at h
  refine Wp.run (WpD.mono _) 1 (q := ((2, [some (.inr (.inr (12, 0))), some (.inl a1), some (.inl a2)], [.inl a1, .inr (.inr (12, 0))]), σ)) rfl ?_
  obtain ⟨q1, hb, h⟩ := bind_some h
  refine Wp.call (WpD.mono _) rfl (T_X12_isPlace (e + 3) N a1 σ _ _ _ hb ?_)
  show Wp (WpD (e + 5)) hcX12_think Q (5, [some (.inr (.inr (12, 0))), some (.inl a1), some (.inl a2)], [.inl q1.1]) q1.2
  refine Wp.if0_eq (WpD.mono _) rfl rfl (fun hc => ?_) (fun hc => ?_)
  · have h := (if_pos hc).symm.trans h
    show Wp (WpD (e + 5)) hcX12_think Q (16, [some (.inr (.inr (12, 0))), some (.inl a1), some (.inl a2)], []) q1.2
    refine Wp.run (WpD.mono _) 0 (q := ((19, [none, none, none], [.inr (.inl (Int64.ofInt (-4611686018427387904)))]), q1.2)) rfl ?_
    obtain ⟨rfl, rfl⟩ := ret_inj h
    exact Wp.ret (WpD.mono _) rfl hQ
  · have h := (if_neg hc).symm.trans h
    show Wp (WpD (e + 5)) hcX12_think Q (8, [some (.inr (.inr (12, 0))), some (.inl a1), some (.inl a2)], []) q1.2
    refine Wp.run (WpD.mono _) 1 (q := ((10, [some (.inr (.inr (12, 0))), some (.inl a1), some (.inl a2)], [.inl a2, .inr (.inr (12, 0))]), q1.2)) rfl ?_
    obtain ⟨q2, hb, h⟩ := bind_some h
    refine Wp.call (WpD.mono _) rfl (T_X12_isLayer (e + 3) N a2 q1.2 _ _ _ hb ?_)
    show Wp (WpD (e + 5)) hcX12_think Q (13, [some (.inr (.inr (12, 0))), some (.inl a1), some (.inl a2)], [.inl q2.1]) q2.2
    refine Wp.if0_ne (WpD.mono _) rfl rfl (fun hc => ?_) (fun hc => ?_)
    · have h := (if_pos hc).symm.trans h
      show Wp (WpD (e + 5)) hcX12_think Q (16, [some (.inr (.inr (12, 0))), some (.inl a1), some (.inl a2)], []) q2.2
      refine Wp.run (WpD.mono _) 0 (q := ((19, [none, none, none], [.inr (.inl (Int64.ofInt (-4611686018427387904)))]), q2.2)) rfl ?_
      obtain ⟨rfl, rfl⟩ := ret_inj h
      exact Wp.ret (WpD.mono _) rfl hQ
    · have h := (if_neg hc).symm.trans h
      show Wp (WpD (e + 5)) hcX12_think Q (20, [some (.inr (.inr (12, 0))), some (.inl a1), some (.inl a2)], []) q2.2
      refine Wp.run (WpD.mono _) 1 (q := ((22, [some (.inr (.inr (12, 0))), some (.inl a1), some (.inl a2)], [.inl a1, .inr (.inr (12, 0))]), q2.2)) rfl ?_
      obtain ⟨q3, hb, h⟩ := bind_some h
      refine Wp.call (WpD.mono _) rfl (T_X12_thinks (e + 0) N a1 q2.2 _ _ _ hb ?_)
      show Wp (WpD (e + 5)) hcX12_think Q (25, [some (.inr (.inr (12, 0))), some (.inl a1), some (.inl a2)], [.inl q3.1]) q3.2
      refine Wp.if0_eq (WpD.mono _) rfl rfl (fun hc => ?_) (fun hc => ?_)
      · have h := (if_pos hc).symm.trans h
        show Wp (WpD (e + 5)) hcX12_think Q (37, [some (.inr (.inr (12, 0))), some (.inl a1), some (.inl a2)], []) q3.2
        refine Wp.run (WpD.mono _) 0 (q := ((40, [some (.inr (.inr (12, 0))), some (.inl a1), some (.inl a2)], [.inr (.inl (Int64.ofInt (-3)))]), q3.2)) rfl ?_
        obtain ⟨rfl, rfl⟩ := ret_inj h
        exact Wp.ret (WpD.mono _) rfl hQ
      · have h := (if_neg hc).symm.trans h
        show Wp (WpD (e + 5)) hcX12_think Q (28, [some (.inr (.inr (12, 0))), some (.inl a1), some (.inl a2)], []) q3.2
        refine Wp.run (WpD.mono _) 2 (q := ((33, [some (.inr (.inr (12, 0))), some (.inl a1), some (.inl a2)], [.inl a2, .inr (.inr (102, 0))]), q3.2)) rfl ?_
        obtain ⟨hc, h⟩ := ite_nn h
        refine Wp.X_lld (WpD.mono _) rfl rfl hc ?_
        show Wp (WpD (e + 5)) hcX12_think Q (34, [some (.inr (.inr (12, 0))), some (.inl a1), some (.inl a2)], [.inr (.inl (q3.2.2.2.2.1 102 0 (a2).toNatClampNeg))]) q3.2
        refine Wp.run (WpD.mono _) 0 (q := ((40, [some (.inr (.inr (12, 0))), some (.inl a1), some (.inl a2)], [.inr (.inl (q3.2.2.2.2.1 102 0 (a2).toNatClampNeg))]), q3.2)) rfl ?_
        obtain ⟨rfl, rfl⟩ := ret_inj h
        exact Wp.ret (WpD.mono _) rfl hQ

set_option maxRecDepth 100000 in
set_option maxHeartbeats 4000000 in
theorem T_X12_ties (e N : Nat)  (a1 : Int32) (a2 : Int32) (a3 : Int32) (σ : Mem) (r : Int32) (τ : Mem) (Q : Pst) (h : F_X12_ties N a1 a2 a3 σ = some (r, τ)) (hQ : Q (some (.inl r)) τ) : WpD (e + 3) mX12_ties [.inr (.inr (12, 0)), .inl a1, .inl a2, .inl a3] σ Q := by
  refine WpD.of (d := e + 2) (Nat.le_of_ble_eq_true rfl) (Nat.le_of_ble_eq_true rfl) ?_
  show Wp (WpD (e + 2)) hcX12_ties Q (0, [some (.inr (.inr (12, 0))), some (.inl a1), some (.inl a2), some (.inl a3), none], []) σ
  unfold F_X12_ties at h
  refine Wp.run (WpD.mono _) 1 (q := ((2, [some (.inr (.inr (12, 0))), some (.inl a1), some (.inl a2), some (.inl a3), none], [.inl a1, .inr (.inr (12, 0))]), σ)) rfl ?_
  obtain ⟨q1, hb, h⟩ := bind_some h
  refine Wp.call (WpD.mono _) rfl (T_X12_isPlace (e + 0) N a1 σ _ _ _ hb ?_)
  show Wp (WpD (e + 2)) hcX12_ties Q (5, [some (.inr (.inr (12, 0))), some (.inl a1), some (.inl a2), some (.inl a3), none], [.inl q1.1]) q1.2
  refine Wp.if0_eq (WpD.mono _) rfl rfl (fun hc => ?_) (fun hc => ?_)
  · have h := (if_pos hc).symm.trans h
    show Wp (WpD (e + 2)) hcX12_ties Q (21, [some (.inr (.inr (12, 0))), some (.inl a1), some (.inl a2), some (.inl a3), none], []) q1.2
    refine Wp.run (WpD.mono _) 0 (q := ((22, [none, none, none, none, none], [.inl (Int32.ofInt (-1))]), q1.2)) rfl ?_
    obtain ⟨rfl, rfl⟩ := ret_inj h
    exact Wp.ret (WpD.mono _) rfl hQ
  · have h := (if_neg hc).symm.trans h
    show Wp (WpD (e + 2)) hcX12_ties Q (8, [some (.inr (.inr (12, 0))), some (.inl a1), some (.inl a2), some (.inl a3), none], []) q1.2
    refine Wp.run (WpD.mono _) 1 (q := ((10, [some (.inr (.inr (12, 0))), some (.inl a1), some (.inl a2), some (.inl a3), none], [.inl a2, .inr (.inr (12, 0))]), q1.2)) rfl ?_
    obtain ⟨q2, hb, h⟩ := bind_some h
    refine Wp.call (WpD.mono _) rfl (T_X12_isPlace (e + 0) N a2 q1.2 _ _ _ hb ?_)
    show Wp (WpD (e + 2)) hcX12_ties Q (13, [some (.inr (.inr (12, 0))), some (.inl a1), some (.inl a2), some (.inl a3), none], [.inl q2.1]) q2.2
    refine Wp.if0_eq (WpD.mono _) rfl rfl (fun hc => ?_) (fun hc => ?_)
    · have h := (if_pos hc).symm.trans h
      show Wp (WpD (e + 2)) hcX12_ties Q (21, [some (.inr (.inr (12, 0))), some (.inl a1), some (.inl a2), some (.inl a3), none], []) q2.2
      refine Wp.run (WpD.mono _) 0 (q := ((22, [none, none, none, none, none], [.inl (Int32.ofInt (-1))]), q2.2)) rfl ?_
      obtain ⟨rfl, rfl⟩ := ret_inj h
      exact Wp.ret (WpD.mono _) rfl hQ
    · have h := (if_neg hc).symm.trans h
      show Wp (WpD (e + 2)) hcX12_ties Q (16, [some (.inr (.inr (12, 0))), some (.inl a1), some (.inl a2), some (.inl a3), none], []) q2.2
      refine Wp.run (WpD.mono _) 1 (q := ((18, [some (.inr (.inr (12, 0))), some (.inl a1), some (.inl a2), some (.inl a3), none], [.inl a2, .inl a1]), q2.2)) rfl ?_
      refine Wp.if2_ne (WpD.mono _) rfl rfl (fun hc => ?_) (fun hc => ?_)
      · have h := (if_pos hc).symm.trans h
        show Wp (WpD (e + 2)) hcX12_ties Q (21, [some (.inr (.inr (12, 0))), some (.inl a1), some (.inl a2), some (.inl a3), none], []) q2.2
        refine Wp.run (WpD.mono _) 0 (q := ((22, [none, none, none, none, none], [.inl (Int32.ofInt (-1))]), q2.2)) rfl ?_
        obtain ⟨rfl, rfl⟩ := ret_inj h
        exact Wp.ret (WpD.mono _) rfl hQ
      · have h := (if_neg hc).symm.trans h
        show Wp (WpD (e + 2)) hcX12_ties Q (23, [some (.inr (.inr (12, 0))), some (.inl a1), some (.inl a2), some (.inl a3), none], []) q2.2
        refine Wp.run (WpD.mono _) 2 (q := ((27, [some (.inr (.inr (12, 0))), some (.inl a1), some (.inl a2), some (.inl a3), none], [.inl (100 : Int32), .inl (0 : Int32), .inl a3]), q2.2)) rfl ?_
        obtain ⟨q3, hb, h⟩ := bind_some h
        refine Wp.call (WpD.mono _) rfl (T_X12_in (e + 1) N a3 (0 : Int32) (100 : Int32) q2.2 _ _ _ hb ?_)
        show Wp (WpD (e + 2)) hcX12_ties Q (30, [some (.inr (.inr (12, 0))), some (.inl a1), some (.inl a2), some (.inl a3), none], [.inl q3.1]) q3.2
        refine Wp.if0_ne (WpD.mono _) rfl rfl (fun hc => ?_) (fun hc => ?_)
        · have h := (if_pos hc).symm.trans h
          show Wp (WpD (e + 2)) hcX12_ties Q (33, [some (.inr (.inr (12, 0))), some (.inl a1), some (.inl a2), some (.inl a3), none], []) q3.2
          refine Wp.run (WpD.mono _) 0 (q := ((35, [some (.inr (.inr (12, 0))), some (.inl a1), some (.inl a2), some (.inl a3), none], [.inl (Int32.ofInt (-2))]), q3.2)) rfl ?_
          obtain ⟨rfl, rfl⟩ := ret_inj h
          exact Wp.ret (WpD.mono _) rfl hQ
        · have h := (if_neg hc).symm.trans h
          show Wp (WpD (e + 2)) hcX12_ties Q (36, [some (.inr (.inr (12, 0))), some (.inl a1), some (.inl a2), some (.inl a3), none], []) q3.2
          refine Wp.run (WpD.mono _) 6 (q := ((45, [some (.inr (.inr (12, 0))), some (.inl a1), some (.inl a2), some (.inl a3), none], [.inl (((4 : Int32) * a1) + a2), .inr (.inr (80, 0))]), q3.2)) rfl ?_
          obtain ⟨hc, h⟩ := ite_nn h
          refine Wp.X_ild1 (WpD.mono _) rfl rfl hc ?_
          show Wp (WpD (e + 2)) hcX12_ties Q (46, [some (.inr (.inr (12, 0))), some (.inl a1), some (.inl a2), some (.inl a3), none], [.inl (q3.2.2.2.1 80 0 ((((4 : Int32) * a1) + a2)).toNatClampNeg)]) q3.2
          refine Wp.run (WpD.mono _) 8 (q := ((58, [some (.inr (.inr (12, 0))), some (.inl a1), some (.inl a2), some (.inl a3), some (.inl (q3.2.2.2.1 80 0 ((((4 : Int32) * a1) + a2)).toNatClampNeg))], [.inl a3, .inl (((4 : Int32) * a1) + a2), .inr (.inr (80, 0))]), q3.2)) rfl ?_
          obtain ⟨hc, h⟩ := ite_nn h
          refine Wp.X_ist (WpD.mono _) rfl rfl hc ?_
          show Wp (WpD (e + 2)) hcX12_ties Q (59, [some (.inr (.inr (12, 0))), some (.inl a1), some (.inl a2), some (.inl a3), some (.inl (q3.2.2.2.1 80 0 ((((4 : Int32) * a1) + a2)).toNatClampNeg))], []) (q3.2.1, q3.2.2.1, (hwU3 q3.2.2.2.1 80 0 ((((4 : Int32) * a1) + a2)).toNatClampNeg a3), q3.2.2.2.2.1, q3.2.2.2.2.2)
          refine Wp.run (WpD.mono _) 7 (q := ((69, [some (.inr (.inr (12, 0))), some (.inl a1), some (.inl a2), some (.inl a3), some (.inl (q3.2.2.2.1 80 0 ((((4 : Int32) * a1) + a2)).toNatClampNeg))], [.inl a3, .inl (((4 : Int32) * a2) + a1), .inr (.inr (80, 0))]), (q3.2.1, q3.2.2.1, (hwU3 q3.2.2.2.1 80 0 ((((4 : Int32) * a1) + a2)).toNatClampNeg a3), q3.2.2.2.2.1, q3.2.2.2.2.2))) rfl ?_
          obtain ⟨hc, h⟩ := ite_nn h
          refine Wp.X_ist (WpD.mono _) rfl rfl hc ?_
          show Wp (WpD (e + 2)) hcX12_ties Q (70, [some (.inr (.inr (12, 0))), some (.inl a1), some (.inl a2), some (.inl a3), some (.inl (q3.2.2.2.1 80 0 ((((4 : Int32) * a1) + a2)).toNatClampNeg))], []) (q3.2.1, q3.2.2.1, (hwU3 (hwU3 q3.2.2.2.1 80 0 ((((4 : Int32) * a1) + a2)).toNatClampNeg a3) 80 0 ((((4 : Int32) * a2) + a1)).toNatClampNeg a3), q3.2.2.2.2.1, q3.2.2.2.2.2)
          refine Wp.run (WpD.mono _) 0 (q := ((72, [some (.inr (.inr (12, 0))), some (.inl a1), some (.inl a2), some (.inl a3), some (.inl (q3.2.2.2.1 80 0 ((((4 : Int32) * a1) + a2)).toNatClampNeg))], [.inl (q3.2.2.2.1 80 0 ((((4 : Int32) * a1) + a2)).toNatClampNeg)]), (q3.2.1, q3.2.2.1, (hwU3 (hwU3 q3.2.2.2.1 80 0 ((((4 : Int32) * a1) + a2)).toNatClampNeg a3) 80 0 ((((4 : Int32) * a2) + a1)).toNatClampNeg a3), q3.2.2.2.2.1, q3.2.2.2.2.2))) rfl ?_
          obtain ⟨rfl, rfl⟩ := ret_inj h
          exact Wp.ret (WpD.mono _) rfl hQ

set_option maxRecDepth 100000 in
set_option maxHeartbeats 4000000 in
theorem T_X12_told (e N : Nat)  (a1 : Int32) (a2 : Int32) (σ : Mem) (r : Int32) (τ : Mem) (Q : Pst) (h : F_X12_told N a1 a2 σ = some (r, τ)) (hQ : Q (some (.inl r)) τ) : WpD (e + 3) mX12_told [.inr (.inr (12, 0)), .inl a1, .inl a2] σ Q := by
  refine WpD.of (d := e + 2) (Nat.le_of_ble_eq_true rfl) (Nat.le_of_ble_eq_true rfl) ?_
  show Wp (WpD (e + 2)) hcX12_told Q (0, [some (.inr (.inr (12, 0))), some (.inl a1), some (.inl a2)], []) σ
  unfold F_X12_told at h
  refine Wp.run (WpD.mono _) 1 (q := ((2, [some (.inr (.inr (12, 0))), some (.inl a1), some (.inl a2)], [.inl a1, .inr (.inr (12, 0))]), σ)) rfl ?_
  obtain ⟨q1, hb, h⟩ := bind_some h
  refine Wp.call (WpD.mono _) rfl (T_X12_isPlace (e + 0) N a1 σ _ _ _ hb ?_)
  show Wp (WpD (e + 2)) hcX12_told Q (5, [some (.inr (.inr (12, 0))), some (.inl a1), some (.inl a2)], [.inl q1.1]) q1.2
  refine Wp.if0_ne (WpD.mono _) rfl rfl (fun hc => ?_) (fun hc => ?_)
  · have h := (if_pos hc).symm.trans h
    show Wp (WpD (e + 2)) hcX12_told Q (8, [some (.inr (.inr (12, 0))), some (.inl a1), some (.inl a2)], []) q1.2
    refine Wp.run (WpD.mono _) 0 (q := ((10, [some (.inr (.inr (12, 0))), some (.inl a1), some (.inl a2)], [.inl (Int32.ofInt (-5))]), q1.2)) rfl ?_
    obtain ⟨rfl, rfl⟩ := ret_inj h
    exact Wp.ret (WpD.mono _) rfl hQ
  · have h := (if_neg hc).symm.trans h
    show Wp (WpD (e + 2)) hcX12_told Q (11, [some (.inr (.inr (12, 0))), some (.inl a1), some (.inl a2)], []) q1.2
    refine Wp.run (WpD.mono _) 0 (q := ((12, [some (.inr (.inr (12, 0))), some (.inl a1), some (.inl a2)], [.inl a2]), q1.2)) rfl ?_
    refine Wp.if0_ne (WpD.mono _) rfl rfl (fun hc => ?_) (fun hc => ?_)
    · have h := (if_pos hc).symm.trans h
      show Wp (WpD (e + 2)) hcX12_told Q (15, [some (.inr (.inr (12, 0))), some (.inl a1), some (.inl a2)], []) q1.2
      refine Wp.run (WpD.mono _) 2 (q := ((20, [some (.inr (.inr (12, 0))), some (.inl a1), some (.inl a2)], [.inl a1, .inr (.inr (77, 0))]), q1.2)) rfl ?_
      obtain ⟨hc, h⟩ := ite_nn h
      refine Wp.X_ild1 (WpD.mono _) rfl rfl hc ?_
      show Wp (WpD (e + 2)) hcX12_told Q (21, [some (.inr (.inr (12, 0))), some (.inl a1), some (.inl a2)], [.inl (q1.2.2.2.1 77 0 (a1).toNatClampNeg)]) q1.2
      obtain ⟨rfl, rfl⟩ := ret_inj h
      exact Wp.ret (WpD.mono _) rfl hQ
    · have h := (if_neg hc).symm.trans h
      show Wp (WpD (e + 2)) hcX12_told Q (22, [some (.inr (.inr (12, 0))), some (.inl a1), some (.inl a2)], []) q1.2
      refine Wp.run (WpD.mono _) 1 (q := ((24, [some (.inr (.inr (12, 0))), some (.inl a1), some (.inl a2)], [.inl (1 : Int32), .inl a2]), q1.2)) rfl ?_
      refine Wp.if2_ne (WpD.mono _) rfl rfl (fun hc => ?_) (fun hc => ?_)
      · have h := (if_pos hc).symm.trans h
        show Wp (WpD (e + 2)) hcX12_told Q (27, [some (.inr (.inr (12, 0))), some (.inl a1), some (.inl a2)], []) q1.2
        refine Wp.run (WpD.mono _) 2 (q := ((32, [some (.inr (.inr (12, 0))), some (.inl a1), some (.inl a2)], [.inl a1, .inr (.inr (78, 0))]), q1.2)) rfl ?_
        obtain ⟨hc, h⟩ := ite_nn h
        refine Wp.X_ild1 (WpD.mono _) rfl rfl hc ?_
        show Wp (WpD (e + 2)) hcX12_told Q (33, [some (.inr (.inr (12, 0))), some (.inl a1), some (.inl a2)], [.inl (q1.2.2.2.1 78 0 (a1).toNatClampNeg)]) q1.2
        obtain ⟨rfl, rfl⟩ := ret_inj h
        exact Wp.ret (WpD.mono _) rfl hQ
      · have h := (if_neg hc).symm.trans h
        show Wp (WpD (e + 2)) hcX12_told Q (34, [some (.inr (.inr (12, 0))), some (.inl a1), some (.inl a2)], []) q1.2
        refine Wp.run (WpD.mono _) 2 (q := ((38, [some (.inr (.inr (12, 0))), some (.inl a1), some (.inl a2)], [.inl (6 : Int32), .inl (2 : Int32), .inl a2]), q1.2)) rfl ?_
        obtain ⟨q2, hb, h⟩ := bind_some h
        refine Wp.call (WpD.mono _) rfl (T_X12_in (e + 1) N a2 (2 : Int32) (6 : Int32) q1.2 _ _ _ hb ?_)
        show Wp (WpD (e + 2)) hcX12_told Q (41, [some (.inr (.inr (12, 0))), some (.inl a1), some (.inl a2)], [.inl q2.1]) q2.2
        refine Wp.if0_eq (WpD.mono _) rfl rfl (fun hc => ?_) (fun hc => ?_)
        · have h := (if_pos hc).symm.trans h
          show Wp (WpD (e + 2)) hcX12_told Q (73, [some (.inr (.inr (12, 0))), some (.inl a1), some (.inl a2)], []) q2.2
          refine Wp.run (WpD.mono _) 2 (q := ((78, [some (.inr (.inr (12, 0))), some (.inl a1), some (.inl a2)], [.inl (11 : Int32), .inl (7 : Int32), .inl a2]), q2.2)) rfl ?_
          obtain ⟨q3, hb, h⟩ := bind_some h
          refine Wp.call (WpD.mono _) rfl (T_X12_in (e + 1) N a2 (7 : Int32) (11 : Int32) q2.2 _ _ _ hb ?_)
          show Wp (WpD (e + 2)) hcX12_told Q (81, [some (.inr (.inr (12, 0))), some (.inl a1), some (.inl a2)], [.inl q3.1]) q3.2
          refine Wp.if0_eq (WpD.mono _) rfl rfl (fun hc => ?_) (fun hc => ?_)
          · have h := (if_pos hc).symm.trans h
            show Wp (WpD (e + 2)) hcX12_told Q (100, [some (.inr (.inr (12, 0))), some (.inl a1), some (.inl a2)], []) q3.2
            refine Wp.run (WpD.mono _) 0 (q := ((102, [some (.inr (.inr (12, 0))), some (.inl a1), some (.inl a2)], [.inl (Int32.ofInt (-7))]), q3.2)) rfl ?_
            obtain ⟨rfl, rfl⟩ := ret_inj h
            exact Wp.ret (WpD.mono _) rfl hQ
          · have h := (if_neg hc).symm.trans h
            show Wp (WpD (e + 2)) hcX12_told Q (84, [some (.inr (.inr (12, 0))), some (.inl a1), some (.inl a2)], []) q3.2
            refine Wp.run (WpD.mono _) 8 (q := ((96, [some (.inr (.inr (12, 0))), some (.inl a1), some (.inl a2)], [.inl ((((5 : Int32) * a1) + a2) - (7 : Int32)), .inr (.inr (76, 0))]), q3.2)) rfl ?_
            obtain ⟨hc, h⟩ := ite_nn h
            refine Wp.X_ild1 (WpD.mono _) rfl rfl hc ?_
            show Wp (WpD (e + 2)) hcX12_told Q (97, [some (.inr (.inr (12, 0))), some (.inl a1), some (.inl a2)], [.inl (q3.2.2.2.1 76 0 (((((5 : Int32) * a1) + a2) - (7 : Int32))).toNatClampNeg)]) q3.2
            refine Wp.run (WpD.mono _) 0 (q := ((102, [some (.inr (.inr (12, 0))), some (.inl a1), some (.inl a2)], [.inl (q3.2.2.2.1 76 0 (((((5 : Int32) * a1) + a2) - (7 : Int32))).toNatClampNeg)]), q3.2)) rfl ?_
            obtain ⟨rfl, rfl⟩ := ret_inj h
            exact Wp.ret (WpD.mono _) rfl hQ
        · have h := (if_neg hc).symm.trans h
          show Wp (WpD (e + 2)) hcX12_told Q (44, [some (.inr (.inr (12, 0))), some (.inl a1), some (.inl a2)], []) q2.2
          refine Wp.run (WpD.mono _) 5 (q := ((52, [some (.inr (.inr (12, 0))), some (.inl a1), some (.inl a2)], [.inl a1, .inr (.inr (77, 0)), .inl (a2 - (2 : Int32))]), q2.2)) rfl ?_
          obtain ⟨hc, h⟩ := ite_nn h
          refine Wp.X_ild1 (WpD.mono _) rfl rfl hc ?_
          show Wp (WpD (e + 2)) hcX12_told Q (53, [some (.inr (.inr (12, 0))), some (.inl a1), some (.inl a2)], [.inl (q2.2.2.2.1 77 0 (a1).toNatClampNeg), .inl (a2 - (2 : Int32))]) q2.2
          refine Wp.if2_ge (WpD.mono _) rfl rfl (fun hc => ?_) (fun hc => ?_)
          · have h := (if_pos hc).symm.trans h
            show Wp (WpD (e + 2)) hcX12_told Q (71, [some (.inr (.inr (12, 0))), some (.inl a1), some (.inl a2)], []) q2.2
            refine Wp.run (WpD.mono _) 0 (q := ((72, [some (.inr (.inr (12, 0))), some (.inl a1), some (.inl a2)], [.inl (Int32.ofInt (-1))]), q2.2)) rfl ?_
            obtain ⟨rfl, rfl⟩ := ret_inj h
            exact Wp.ret (WpD.mono _) rfl hQ
          · have h := (if_neg hc).symm.trans h
            show Wp (WpD (e + 2)) hcX12_told Q (56, [some (.inr (.inr (12, 0))), some (.inl a1), some (.inl a2)], []) q2.2
            refine Wp.run (WpD.mono _) 8 (q := ((67, [some (.inr (.inr (12, 0))), some (.inl a1), some (.inl a2)], [.inl ((((5 : Int32) * a1) + a2) - (2 : Int32)), .inr (.inr (79, 0))]), q2.2)) rfl ?_
            obtain ⟨hc, h⟩ := ite_nn h
            refine Wp.X_ild1 (WpD.mono _) rfl rfl hc ?_
            show Wp (WpD (e + 2)) hcX12_told Q (68, [some (.inr (.inr (12, 0))), some (.inl a1), some (.inl a2)], [.inl (q2.2.2.2.1 79 0 (((((5 : Int32) * a1) + a2) - (2 : Int32))).toNatClampNeg)]) q2.2
            refine Wp.run (WpD.mono _) 0 (q := ((72, [some (.inr (.inr (12, 0))), some (.inl a1), some (.inl a2)], [.inl (q2.2.2.2.1 79 0 (((((5 : Int32) * a1) + a2) - (2 : Int32))).toNatClampNeg)]), q2.2)) rfl ?_
            obtain ⟨rfl, rfl⟩ := ret_inj h
            exact Wp.ret (WpD.mono _) rfl hQ

set_option maxRecDepth 100000 in
set_option maxHeartbeats 4000000 in
theorem T_X12_undo_b90 (e N : Nat)  (k44 : Int32 → Mem → Option (Int32 × Mem)) (r : Int32) (τ : Mem) (Q : Pst) (hQ : Q (some (.inl r)) τ) (hk44 : ∀ (x1 : Int32) (σ : Mem), k44 x1 σ = some (r, τ) → Wp (WpD (e + 1)) hcX12_undo Q (44, [some (.inr (.inr (12, 0))), some (.inl x1), none], []) σ) : ∀ (x1 : Int32) (s0 : Int32) (s1 : Int32) (σ : Mem), F_X12_undo_b90 N k44 x1 s0 s1 σ = some (r, τ) → Wp (WpD (e + 1)) hcX12_undo Q (90, [some (.inr (.inr (12, 0))), some (.inl x1), none], [.inl s0, .inl s1, .inr (.inr (75, 0))]) σ := by
  intro x1 s0 s1 σ h
  unfold F_X12_undo_b90 at h
  obtain ⟨hc, h⟩ := ite_nn h
  refine Wp.X_ist (WpD.mono _) rfl rfl hc ?_
  show Wp (WpD (e + 1)) hcX12_undo Q (91, [some (.inr (.inr (12, 0))), some (.inl x1), none], []) (σ.1, σ.2.1, (hwU3 σ.2.2.1 75 0 (s1).toNatClampNeg s0), σ.2.2.2.1, σ.2.2.2.2)
  refine Wp.run (WpD.mono _) 1 (q := ((44, [some (.inr (.inr (12, 0))), some (.inl (x1 + (1 : Int32))), none], []), (σ.1, σ.2.1, (hwU3 σ.2.2.1 75 0 (s1).toNatClampNeg s0), σ.2.2.2.1, σ.2.2.2.2))) rfl ?_
  exact Wp.jump (WpD.mono _) rfl (hk44 (x1 + (1 : Int32)) (σ.1, σ.2.1, (hwU3 σ.2.2.1 75 0 (s1).toNatClampNeg s0), σ.2.2.2.1, σ.2.2.2.2) h)

set_option maxRecDepth 100000 in
set_option maxHeartbeats 4000000 in
theorem T_X12_undo_b84 (e N : Nat)  (k90 : Int32 → Int32 → Int32 → Mem → Option (Int32 × Mem)) (r : Int32) (τ : Mem) (Q : Pst) (hQ : Q (some (.inl r)) τ) (hk90 : ∀ (x1 : Int32) (s0 : Int32) (s1 : Int32) (σ : Mem), k90 x1 s0 s1 σ = some (r, τ) → Wp (WpD (e + 1)) hcX12_undo Q (90, [some (.inr (.inr (12, 0))), some (.inl x1), none], [.inl s0, .inl s1, .inr (.inr (75, 0))]) σ) : ∀ (x1 : Int32) (s0 : Int32) (σ : Mem), F_X12_undo_b84 N k90 x1 s0 σ = some (r, τ) → Wp (WpD (e + 1)) hcX12_undo Q (84, [some (.inr (.inr (12, 0))), some (.inl x1), none], [.inl s0, .inr (.inr (75, 0))]) σ := by
  intro x1 s0 σ h
  unfold F_X12_undo_b84 at h
  refine Wp.run (WpD.mono _) 2 (q := ((89, [some (.inr (.inr (12, 0))), some (.inl x1), none], [.inl x1, .inr (.inr (75, 0)), .inl s0, .inr (.inr (75, 0))]), σ)) rfl ?_
  obtain ⟨hc, h⟩ := ite_nn h
  refine Wp.X_ild1 (WpD.mono _) rfl rfl hc ?_
  show Wp (WpD (e + 1)) hcX12_undo Q (90, [some (.inr (.inr (12, 0))), some (.inl x1), none], [.inl (σ.2.2.1 75 0 (x1).toNatClampNeg), .inl s0, .inr (.inr (75, 0))]) σ
  exact Wp.jump (WpD.mono _) rfl (hk90 x1 (σ.2.2.1 75 0 (x1).toNatClampNeg) s0 σ h)

set_option maxRecDepth 100000 in
set_option maxHeartbeats 4000000 in
theorem T_X12_undo_b166 (e N : Nat)  (k99 : Int32 → Mem → Option (Int32 × Mem)) (r : Int32) (τ : Mem) (Q : Pst) (hQ : Q (some (.inl r)) τ) (hk99 : ∀ (x1 : Int32) (σ : Mem), k99 x1 σ = some (r, τ) → Wp (WpD (e + 1)) hcX12_undo Q (99, [some (.inr (.inr (12, 0))), some (.inl x1), none], []) σ) : ∀ n, ∀ (x1 : Int32) (x2 : Int32) (σ : Mem), F_X12_undo_b166 N k99 n x1 x2 σ = some (r, τ) → Wp (WpD (e + 1)) hcX12_undo Q (166, [some (.inr (.inr (12, 0))), some (.inl x1), some (.inl x2)], []) σ := by
  intro n
  induction n with
  | zero => intro x1 x2 σ h; cases h
  | succ n ih =>
    intro x1 x2 σ h
    unfold F_X12_undo_b166 at h
    refine Wp.run (WpD.mono _) 2 (q := ((171, [some (.inr (.inr (12, 0))), some (.inl x1), some (.inl x2)], [.inl (σ.1 12 30), .inl x2]), σ)) rfl ?_
    refine Wp.if2_ge (WpD.mono _) rfl rfl (fun hc => ?_) (fun hc => ?_)
    · have h := (if_pos hc).symm.trans h
      show Wp (WpD (e + 1)) hcX12_undo Q (200, [some (.inr (.inr (12, 0))), some (.inl x1), some (.inl x2)], []) σ
      refine Wp.run (WpD.mono _) 1 (q := ((99, [some (.inr (.inr (12, 0))), some (.inl (x1 + (1 : Int32))), some (.inl x2)], []), σ)) rfl ?_
      exact Wp.jump (WpD.mono _) rfl (hk99 (x1 + (1 : Int32)) σ h)
    · have h := (if_neg hc).symm.trans h
      show Wp (WpD (e + 1)) hcX12_undo Q (174, [some (.inr (.inr (12, 0))), some (.inl x1), some (.inl x2)], []) σ
      refine Wp.run (WpD.mono _) 13 (q := ((192, [some (.inr (.inr (12, 0))), some (.inl x1), some (.inl x2)], [.inl (((4 : Int32) * x1) + x2), .inr (.inr (94, 0)), .inl (((4 : Int32) * x1) + x2), .inr (.inr (80, 0))]), σ)) rfl ?_
      obtain ⟨hc, h⟩ := ite_nn h
      refine Wp.X_ild1 (WpD.mono _) rfl rfl hc ?_
      show Wp (WpD (e + 1)) hcX12_undo Q (193, [some (.inr (.inr (12, 0))), some (.inl x1), some (.inl x2)], [.inl (σ.2.2.1 94 0 ((((4 : Int32) * x1) + x2)).toNatClampNeg), .inl (((4 : Int32) * x1) + x2), .inr (.inr (80, 0))]) σ
      obtain ⟨hc, h⟩ := ite_nn h
      refine Wp.X_ist (WpD.mono _) rfl rfl hc ?_
      show Wp (WpD (e + 1)) hcX12_undo Q (194, [some (.inr (.inr (12, 0))), some (.inl x1), some (.inl x2)], []) (σ.1, σ.2.1, (hwU3 σ.2.2.1 80 0 ((((4 : Int32) * x1) + x2)).toNatClampNeg (σ.2.2.1 94 0 ((((4 : Int32) * x1) + x2)).toNatClampNeg)), σ.2.2.2.1, σ.2.2.2.2)
      refine Wp.run (WpD.mono _) 1 (q := ((166, [some (.inr (.inr (12, 0))), some (.inl x1), some (.inl (x2 + (1 : Int32)))], []), (σ.1, σ.2.1, (hwU3 σ.2.2.1 80 0 ((((4 : Int32) * x1) + x2)).toNatClampNeg (σ.2.2.1 94 0 ((((4 : Int32) * x1) + x2)).toNatClampNeg)), σ.2.2.2.1, σ.2.2.2.2))) rfl ?_
      exact Wp.jump (WpD.mono _) rfl (ih x1 (x2 + (1 : Int32)) (σ.1, σ.2.1, (hwU3 σ.2.2.1 80 0 ((((4 : Int32) * x1) + x2)).toNatClampNeg (σ.2.2.1 94 0 ((((4 : Int32) * x1) + x2)).toNatClampNeg)), σ.2.2.2.1, σ.2.2.2.2) h)

set_option maxRecDepth 100000 in
set_option maxHeartbeats 4000000 in
theorem T_X12_undo_b133 (e N : Nat)  (k99 : Int32 → Mem → Option (Int32 × Mem)) (r : Int32) (τ : Mem) (Q : Pst) (hQ : Q (some (.inl r)) τ) (hk99 : ∀ (x1 : Int32) (σ : Mem), k99 x1 σ = some (r, τ) → Wp (WpD (e + 1)) hcX12_undo Q (99, [some (.inr (.inr (12, 0))), some (.inl x1), none], []) σ) : ∀ n, ∀ (x1 : Int32) (x2 : Int32) (σ : Mem), F_X12_undo_b133 N k99 n x1 x2 σ = some (r, τ) → Wp (WpD (e + 1)) hcX12_undo Q (133, [some (.inr (.inr (12, 0))), some (.inl x1), some (.inl x2)], []) σ := by
  intro n
  induction n with
  | zero => intro x1 x2 σ h; cases h
  | succ n ih =>
    intro x1 x2 σ h
    unfold F_X12_undo_b133 at h
    refine Wp.run (WpD.mono _) 1 (q := ((135, [some (.inr (.inr (12, 0))), some (.inl x1), some (.inl x2)], [.inl (5 : Int32), .inl x2]), σ)) rfl ?_
    refine Wp.if2_ge (WpD.mono _) rfl rfl (fun hc => ?_) (fun hc => ?_)
    · have h := (if_pos hc).symm.trans h
      show Wp (WpD (e + 1)) hcX12_undo Q (164, [some (.inr (.inr (12, 0))), some (.inl x1), some (.inl x2)], []) σ
      refine Wp.run (WpD.mono _) 1 (q := ((166, [some (.inr (.inr (12, 0))), some (.inl x1), some (.inl (0 : Int32))], []), σ)) rfl ?_
      exact Wp.jump (WpD.mono _) rfl ((T_X12_undo_b166 e N k99 r τ Q hQ hk99 N) x1 (0 : Int32) σ h)
    · have h := (if_neg hc).symm.trans h
      show Wp (WpD (e + 1)) hcX12_undo Q (138, [some (.inr (.inr (12, 0))), some (.inl x1), some (.inl x2)], []) σ
      refine Wp.run (WpD.mono _) 13 (q := ((156, [some (.inr (.inr (12, 0))), some (.inl x1), some (.inl x2)], [.inl (((5 : Int32) * x1) + x2), .inr (.inr (93, 0)), .inl (((5 : Int32) * x1) + x2), .inr (.inr (79, 0))]), σ)) rfl ?_
      obtain ⟨hc, h⟩ := ite_nn h
      refine Wp.X_ild1 (WpD.mono _) rfl rfl hc ?_
      show Wp (WpD (e + 1)) hcX12_undo Q (157, [some (.inr (.inr (12, 0))), some (.inl x1), some (.inl x2)], [.inl (σ.2.2.1 93 0 ((((5 : Int32) * x1) + x2)).toNatClampNeg), .inl (((5 : Int32) * x1) + x2), .inr (.inr (79, 0))]) σ
      obtain ⟨hc, h⟩ := ite_nn h
      refine Wp.X_ist (WpD.mono _) rfl rfl hc ?_
      show Wp (WpD (e + 1)) hcX12_undo Q (158, [some (.inr (.inr (12, 0))), some (.inl x1), some (.inl x2)], []) (σ.1, σ.2.1, (hwU3 σ.2.2.1 79 0 ((((5 : Int32) * x1) + x2)).toNatClampNeg (σ.2.2.1 93 0 ((((5 : Int32) * x1) + x2)).toNatClampNeg)), σ.2.2.2.1, σ.2.2.2.2)
      refine Wp.run (WpD.mono _) 1 (q := ((133, [some (.inr (.inr (12, 0))), some (.inl x1), some (.inl (x2 + (1 : Int32)))], []), (σ.1, σ.2.1, (hwU3 σ.2.2.1 79 0 ((((5 : Int32) * x1) + x2)).toNatClampNeg (σ.2.2.1 93 0 ((((5 : Int32) * x1) + x2)).toNatClampNeg)), σ.2.2.2.1, σ.2.2.2.2))) rfl ?_
      exact Wp.jump (WpD.mono _) rfl (ih x1 (x2 + (1 : Int32)) (σ.1, σ.2.1, (hwU3 σ.2.2.1 79 0 ((((5 : Int32) * x1) + x2)).toNatClampNeg (σ.2.2.1 93 0 ((((5 : Int32) * x1) + x2)).toNatClampNeg)), σ.2.2.2.1, σ.2.2.2.2) h)

set_option maxRecDepth 100000 in
set_option maxHeartbeats 4000000 in
theorem T_X12_undo_b99 (e N : Nat)   (r : Int32) (τ : Mem) (Q : Pst) (hQ : Q (some (.inl r)) τ) : ∀ n, ∀ (x1 : Int32) (σ : Mem), F_X12_undo_b99 N n x1 σ = some (r, τ) → Wp (WpD (e + 1)) hcX12_undo Q (99, [some (.inr (.inr (12, 0))), some (.inl x1), none], []) σ := by
  intro n
  induction n with
  | zero => intro x1 σ h; cases h
  | succ n ih =>
    intro x1 σ h
    unfold F_X12_undo_b99 at h
    refine Wp.run (WpD.mono _) 2 (q := ((104, [some (.inr (.inr (12, 0))), some (.inl x1), none], [.inl (σ.1 12 30), .inl x1]), σ)) rfl ?_
    refine Wp.if2_ge (WpD.mono _) rfl rfl (fun hc => ?_) (fun hc => ?_)
    · have h := (if_pos hc).symm.trans h
      show Wp (WpD (e + 1)) hcX12_undo Q (206, [some (.inr (.inr (12, 0))), some (.inl x1), none], []) σ
      refine Wp.run (WpD.mono _) 1 (q := ((210, [some (.inr (.inr (12, 0))), some (.inl x1), none], [.inl (σ.1 12 10)]), σ)) rfl ?_
      obtain ⟨rfl, rfl⟩ := ret_inj h
      exact Wp.ret (WpD.mono _) rfl hQ
    · have h := (if_neg hc).symm.trans h
      show Wp (WpD (e + 1)) hcX12_undo Q (107, [some (.inr (.inr (12, 0))), some (.inl x1), none], []) σ
      refine Wp.run (WpD.mono _) 5 (q := ((117, [some (.inr (.inr (12, 0))), some (.inl x1), none], [.inl x1, .inr (.inr (91, 0)), .inl x1, .inr (.inr (77, 0))]), σ)) rfl ?_
      obtain ⟨hc, h⟩ := ite_nn h
      refine Wp.X_ild1 (WpD.mono _) rfl rfl hc ?_
      show Wp (WpD (e + 1)) hcX12_undo Q (118, [some (.inr (.inr (12, 0))), some (.inl x1), none], [.inl (σ.2.2.1 91 0 (x1).toNatClampNeg), .inl x1, .inr (.inr (77, 0))]) σ
      obtain ⟨hc, h⟩ := ite_nn h
      refine Wp.X_ist (WpD.mono _) rfl rfl hc ?_
      show Wp (WpD (e + 1)) hcX12_undo Q (119, [some (.inr (.inr (12, 0))), some (.inl x1), none], []) (σ.1, σ.2.1, (hwU3 σ.2.2.1 77 0 (x1).toNatClampNeg (σ.2.2.1 91 0 (x1).toNatClampNeg)), σ.2.2.2.1, σ.2.2.2.2)
      refine Wp.run (WpD.mono _) 5 (q := ((129, [some (.inr (.inr (12, 0))), some (.inl x1), none], [.inl x1, .inr (.inr (92, 0)), .inl x1, .inr (.inr (78, 0))]), (σ.1, σ.2.1, (hwU3 σ.2.2.1 77 0 (x1).toNatClampNeg (σ.2.2.1 91 0 (x1).toNatClampNeg)), σ.2.2.2.1, σ.2.2.2.2))) rfl ?_
      obtain ⟨hc, h⟩ := ite_nn h
      refine Wp.X_ild1 (WpD.mono _) rfl rfl hc ?_
      show Wp (WpD (e + 1)) hcX12_undo Q (130, [some (.inr (.inr (12, 0))), some (.inl x1), none], [.inl (σ.2.2.1 92 0 (x1).toNatClampNeg), .inl x1, .inr (.inr (78, 0))]) (σ.1, σ.2.1, (hwU3 σ.2.2.1 77 0 (x1).toNatClampNeg (σ.2.2.1 91 0 (x1).toNatClampNeg)), σ.2.2.2.1, σ.2.2.2.2)
      obtain ⟨hc, h⟩ := ite_nn h
      refine Wp.X_ist (WpD.mono _) rfl rfl hc ?_
      show Wp (WpD (e + 1)) hcX12_undo Q (131, [some (.inr (.inr (12, 0))), some (.inl x1), none], []) (σ.1, σ.2.1, (hwU3 (hwU3 σ.2.2.1 77 0 (x1).toNatClampNeg (σ.2.2.1 91 0 (x1).toNatClampNeg)) 78 0 (x1).toNatClampNeg (σ.2.2.1 92 0 (x1).toNatClampNeg)), σ.2.2.2.1, σ.2.2.2.2)
      refine Wp.run (WpD.mono _) 1 (q := ((133, [some (.inr (.inr (12, 0))), some (.inl x1), some (.inl (0 : Int32))], []), (σ.1, σ.2.1, (hwU3 (hwU3 σ.2.2.1 77 0 (x1).toNatClampNeg (σ.2.2.1 91 0 (x1).toNatClampNeg)) 78 0 (x1).toNatClampNeg (σ.2.2.1 92 0 (x1).toNatClampNeg)), σ.2.2.2.1, σ.2.2.2.2))) rfl ?_
      exact Wp.jump (WpD.mono _) rfl ((T_X12_undo_b133 e N (F_X12_undo_b99 N n) r τ Q hQ ih N) x1 (0 : Int32) (σ.1, σ.2.1, (hwU3 (hwU3 σ.2.2.1 77 0 (x1).toNatClampNeg (σ.2.2.1 91 0 (x1).toNatClampNeg)) 78 0 (x1).toNatClampNeg (σ.2.2.1 92 0 (x1).toNatClampNeg)), σ.2.2.2.1, σ.2.2.2.2) h)

set_option maxRecDepth 100000 in
set_option maxHeartbeats 4000000 in
theorem T_X12_undo_b44 (e N : Nat)   (r : Int32) (τ : Mem) (Q : Pst) (hQ : Q (some (.inl r)) τ) : ∀ n, ∀ (x1 : Int32) (σ : Mem), F_X12_undo_b44 N n x1 σ = some (r, τ) → Wp (WpD (e + 1)) hcX12_undo Q (44, [some (.inr (.inr (12, 0))), some (.inl x1), none], []) σ := by
  intro n
  induction n with
  | zero => intro x1 σ h; cases h
  | succ n ih =>
    intro x1 σ h
    unfold F_X12_undo_b44 at h
    refine Wp.run (WpD.mono _) 1 (q := ((47, [some (.inr (.inr (12, 0))), some (.inl x1), none], [.inl (25 : Int32), .inl x1]), σ)) rfl ?_
    refine Wp.if2_ge (WpD.mono _) rfl rfl (fun hc => ?_) (fun hc => ?_)
    · have h := (if_pos hc).symm.trans h
      show Wp (WpD (e + 1)) hcX12_undo Q (97, [some (.inr (.inr (12, 0))), some (.inl x1), none], []) σ
      refine Wp.run (WpD.mono _) 1 (q := ((99, [some (.inr (.inr (12, 0))), some (.inl (0 : Int32)), none], []), σ)) rfl ?_
      exact Wp.jump (WpD.mono _) rfl ((T_X12_undo_b99 e N  r τ Q hQ  N) (0 : Int32) σ h)
    · have h := (if_neg hc).symm.trans h
      show Wp (WpD (e + 1)) hcX12_undo Q (50, [some (.inr (.inr (12, 0))), some (.inl x1), none], []) σ
      refine Wp.run (WpD.mono _) 7 (q := ((62, [some (.inr (.inr (12, 0))), some (.inl x1), none], [.inl (σ.1 12 34), .inl (x1 / (5 : Int32)), .inl x1, .inr (.inr (75, 0))]), σ)) rfl ?_
      refine Wp.if2_ge (WpD.mono _) rfl rfl (fun hc => ?_) (fun hc => ?_)
      · have h := (if_pos hc).symm.trans h
        show Wp (WpD (e + 1)) hcX12_undo Q (84, [some (.inr (.inr (12, 0))), some (.inl x1), none], [.inl x1, .inr (.inr (75, 0))]) σ
        exact Wp.jump (WpD.mono _) rfl ((T_X12_undo_b84 e N (F_X12_undo_b90 N (F_X12_undo_b44 N n)) r τ Q hQ (T_X12_undo_b90 e N (F_X12_undo_b44 N n) r τ Q hQ ih)) x1 x1 σ h)
      · have h := (if_neg hc).symm.trans h
        show Wp (WpD (e + 1)) hcX12_undo Q (65, [some (.inr (.inr (12, 0))), some (.inl x1), none], [.inl x1, .inr (.inr (75, 0))]) σ
        refine Wp.run (WpD.mono _) 4 (q := ((72, [some (.inr (.inr (12, 0))), some (.inl x1), none], [.inl (σ.1 12 34), .inl (x1 - x1 / (5 : Int32) * (5 : Int32)), .inl x1, .inr (.inr (75, 0))]), σ)) rfl ?_
        refine Wp.if2_ge (WpD.mono _) rfl rfl (fun hc => ?_) (fun hc => ?_)
        · have h := (if_pos hc).symm.trans h
          show Wp (WpD (e + 1)) hcX12_undo Q (84, [some (.inr (.inr (12, 0))), some (.inl x1), none], [.inl x1, .inr (.inr (75, 0))]) σ
          exact Wp.jump (WpD.mono _) rfl ((T_X12_undo_b84 e N (F_X12_undo_b90 N (F_X12_undo_b44 N n)) r τ Q hQ (T_X12_undo_b90 e N (F_X12_undo_b44 N n) r τ Q hQ ih)) x1 x1 σ h)
        · have h := (if_neg hc).symm.trans h
          show Wp (WpD (e + 1)) hcX12_undo Q (75, [some (.inr (.inr (12, 0))), some (.inl x1), none], [.inl x1, .inr (.inr (75, 0))]) σ
          refine Wp.run (WpD.mono _) 2 (q := ((80, [some (.inr (.inr (12, 0))), some (.inl x1), none], [.inl x1, .inr (.inr (90, 0)), .inl x1, .inr (.inr (75, 0))]), σ)) rfl ?_
          obtain ⟨hc, h⟩ := ite_nn h
          refine Wp.X_ild1 (WpD.mono _) rfl rfl hc ?_
          show Wp (WpD (e + 1)) hcX12_undo Q (81, [some (.inr (.inr (12, 0))), some (.inl x1), none], [.inl (σ.2.2.1 90 0 (x1).toNatClampNeg), .inl x1, .inr (.inr (75, 0))]) σ
          refine Wp.run (WpD.mono _) 0 (q := ((90, [some (.inr (.inr (12, 0))), some (.inl x1), none], [.inl (σ.2.2.1 90 0 (x1).toNatClampNeg), .inl x1, .inr (.inr (75, 0))]), σ)) rfl ?_
          exact Wp.jump (WpD.mono _) rfl ((T_X12_undo_b90 e N (F_X12_undo_b44 N n) r τ Q hQ ih) x1 (σ.2.2.1 90 0 (x1).toNatClampNeg) x1 σ h)

set_option maxRecDepth 100000 in
set_option maxHeartbeats 4000000 in
theorem T_X12_undo_b20 (e N : Nat)   (r : Int32) (τ : Mem) (Q : Pst) (hQ : Q (some (.inl r)) τ) : ∀ n, ∀ (x1 : Int32) (σ : Mem), F_X12_undo_b20 N n x1 σ = some (r, τ) → Wp (WpD (e + 1)) hcX12_undo Q (20, [some (.inr (.inr (12, 0))), some (.inl x1), none], []) σ := by
  intro n
  induction n with
  | zero => intro x1 σ h; cases h
  | succ n ih =>
    intro x1 σ h
    unfold F_X12_undo_b20 at h
    refine Wp.run (WpD.mono _) 1 (q := ((22, [some (.inr (.inr (12, 0))), some (.inl x1), none], [.inl (5 : Int32), .inl x1]), σ)) rfl ?_
    refine Wp.if2_ge (WpD.mono _) rfl rfl (fun hc => ?_) (fun hc => ?_)
    · have h := (if_pos hc).symm.trans h
      show Wp (WpD (e + 1)) hcX12_undo Q (42, [some (.inr (.inr (12, 0))), some (.inl x1), none], []) σ
      refine Wp.run (WpD.mono _) 1 (q := ((44, [some (.inr (.inr (12, 0))), some (.inl (0 : Int32)), none], []), σ)) rfl ?_
      exact Wp.jump (WpD.mono _) rfl ((T_X12_undo_b44 e N  r τ Q hQ  N) (0 : Int32) σ h)
    · have h := (if_neg hc).symm.trans h
      show Wp (WpD (e + 1)) hcX12_undo Q (25, [some (.inr (.inr (12, 0))), some (.inl x1), none], []) σ
      refine Wp.run (WpD.mono _) 4 (q := ((32, [some (.inr (.inr (12, 0))), some (.inl x1), none], [.inl x1, .inr (.inr (89, 0)), .inl x1, .inr (.inr (12, 0))]), σ)) rfl ?_
      obtain ⟨hc, h⟩ := ite_nn h
      refine Wp.X_ild1 (WpD.mono _) rfl rfl hc ?_
      show Wp (WpD (e + 1)) hcX12_undo Q (33, [some (.inr (.inr (12, 0))), some (.inl x1), none], [.inl (σ.2.2.1 89 0 (x1).toNatClampNeg), .inl x1, .inr (.inr (12, 0))]) σ
      obtain ⟨q1, hb, h⟩ := bind_some h
      refine Wp.call (WpD.mono _) rfl (T_X12_holds (e + 0) N x1 (σ.2.2.1 89 0 (x1).toNatClampNeg) σ _ _ _ hb ?_)
      show Wp (WpD (e + 1)) hcX12_undo Q (36, [some (.inr (.inr (12, 0))), some (.inl x1), none], []) q1.2
      refine Wp.run (WpD.mono _) 1 (q := ((20, [some (.inr (.inr (12, 0))), some (.inl (x1 + (1 : Int32))), none], []), q1.2)) rfl ?_
      exact Wp.jump (WpD.mono _) rfl (ih (x1 + (1 : Int32)) q1.2 h)

set_option maxRecDepth 100000 in
set_option maxHeartbeats 4000000 in
theorem T_X12_undo (e N : Nat)   (σ : Mem) (r : Int32) (τ : Mem) (Q : Pst) (h : F_X12_undo N  σ = some (r, τ)) (hQ : Q (some (.inl r)) τ) : WpD (e + 2) mX12_undo [.inr (.inr (12, 0))] σ Q := by
  refine WpD.of (d := e + 1) (Nat.le_of_ble_eq_true rfl) (Nat.le_of_ble_eq_true rfl) ?_
  show Wp (WpD (e + 1)) hcX12_undo Q (0, [some (.inr (.inr (12, 0))), none, none], []) σ
  unfold F_X12_undo at h
  refine Wp.run (WpD.mono _) 1 (q := ((4, [some (.inr (.inr (12, 0))), none, none], [.inl (σ.1 12 29)]), σ)) rfl ?_
  refine Wp.if0_ne (WpD.mono _) rfl rfl (fun hc => ?_) (fun hc => ?_)
  · have h := (if_pos hc).symm.trans h
    show Wp (WpD (e + 1)) hcX12_undo Q (7, [some (.inr (.inr (12, 0))), none, none], []) σ
    refine Wp.run (WpD.mono _) 0 (q := ((9, [some (.inr (.inr (12, 0))), none, none], [.inl (Int32.ofInt (-3))]), σ)) rfl ?_
    obtain ⟨rfl, rfl⟩ := ret_inj h
    exact Wp.ret (WpD.mono _) rfl hQ
  · have h := (if_neg hc).symm.trans h
    show Wp (WpD (e + 1)) hcX12_undo Q (10, [some (.inr (.inr (12, 0))), none, none], []) σ
    refine Wp.run (WpD.mono _) 5 (q := ((20, [some (.inr (.inr (12, 0))), some (.inl (0 : Int32)), none], []), ((hwU2 σ.1 12 28 (σ.1 12 31)), σ.2.1, σ.2.2.1, σ.2.2.2.1, σ.2.2.2.2))) rfl ?_
    exact Wp.jump (WpD.mono _) rfl ((T_X12_undo_b20 e N  r τ Q hQ  N) (0 : Int32) ((hwU2 σ.1 12 28 (σ.1 12 31)), σ.2.1, σ.2.2.1, σ.2.2.2.1, σ.2.2.2.2) h)


set_option maxRecDepth 100000 in
set_option maxHeartbeats 4000000 in
theorem T_X12_judge_b107 (e N : Nat)  (k60 : Int32 → Int32 → Mem → Option (Int32 × Mem)) (r : Int32) (τ : Mem) (Q : Pst) (hQ : Q (some (.inl r)) τ) (hk60 : ∀ (x2 : Int32) (x3 : Int32) (σ : Mem), k60 x2 x3 σ = some (r, τ) → Wp (WpD (e + 4)) hcX12_judge Q (60, [some (.inr (.inr (12, 0))), none, some (.inl x2), some (.inl x3), none, none, none, none], []) σ) : ∀ (x2 : Int32) (x3 : Int32) (s0 : Int64) (σ : Mem), F_X12_judge_b107 N k60 x2 x3 s0 σ = some (r, τ) → Wp (WpD (e + 4)) hcX12_judge Q (107, [some (.inr (.inr (12, 0))), none, some (.inl x2), some (.inl x3), none, none, none, none], [.inr (.inl s0)]) σ := by
  intro x2 x3 s0 σ h
  unfold F_X12_judge_b107 at h
  refine Wp.run (WpD.mono _) 3 (q := ((113, [some (.inr (.inr (12, 0))), none, some (.inl x2), some (.inl x3), none, some (.inr (.inl s0)), none, none], [.inl (lg_cmp s0 (0 : Int64))]), σ)) rfl ?_
  refine Wp.if0_ne (WpD.mono _) rfl rfl (fun hc => ?_) (fun hc => ?_)
  · have h := (if_pos hc).symm.trans h
    show Wp (WpD (e + 4)) hcX12_judge Q (116, [some (.inr (.inr (12, 0))), none, some (.inl x2), some (.inl x3), none, some (.inr (.inl s0)), none, none], []) σ
    refine Wp.run (WpD.mono _) 0 (q := ((117, [some (.inr (.inr (12, 0))), none, some (.inl x2), some (.inl x3), none, some (.inr (.inl s0)), none, none], [.inl x3]), σ)) rfl ?_
    obtain ⟨rfl, rfl⟩ := ret_inj h
    exact Wp.ret (WpD.mono _) rfl hQ
  · have h := (if_neg hc).symm.trans h
    show Wp (WpD (e + 4)) hcX12_judge Q (118, [some (.inr (.inr (12, 0))), none, some (.inl x2), some (.inl x3), none, some (.inr (.inl s0)), none, none], []) σ
    refine Wp.run (WpD.mono _) 2 (q := ((122, [some (.inr (.inr (12, 0))), none, some (.inl x2), some (.inl x3), none, some (.inr (.inl s0)), none, none], [.inr (.inl s0), .inl (0 : Int32), .inr (.inr (12, 0))]), σ)) rfl ?_
    obtain ⟨q6, hb, h⟩ := bind_some h
    refine Wp.call (WpD.mono _) rfl (T_X12_below (e + 2) N (0 : Int32) s0 σ _ _ _ hb ?_)
    show Wp (WpD (e + 4)) hcX12_judge Q (125, [some (.inr (.inr (12, 0))), none, some (.inl x2), some (.inl x3), none, some (.inr (.inl s0)), none, none], []) q6.2
    refine Wp.run (WpD.mono _) 1 (q := ((128, [some (.inr (.inr (12, 0))), none, some (.inl x2), some (.inl x3), none, some (.inr (.inl s0)), none, some (.inl (0 : Int32))], []), q6.2)) rfl ?_
    exact Wp.jump (WpD.mono _) rfl ((T_X12_judge_b128 e N k60 r τ Q hQ hk60 N) x2 x3 (0 : Int32) q6.2 h)

set_option maxRecDepth 100000 in
set_option maxHeartbeats 4000000 in
theorem T_X12_judge_b60 (e N : Nat)   (r : Int32) (τ : Mem) (Q : Pst) (hQ : Q (some (.inl r)) τ) : ∀ n, ∀ (x2 : Int32) (x3 : Int32) (σ : Mem), F_X12_judge_b60 N n x2 x3 σ = some (r, τ) → Wp (WpD (e + 4)) hcX12_judge Q (60, [some (.inr (.inr (12, 0))), none, some (.inl x2), some (.inl x3), none, none, none, none], []) σ := by
  intro n
  induction n with
  | zero => intro x2 x3 σ h; cases h
  | succ n ih =>
    intro x2 x3 σ h
    unfold F_X12_judge_b60 at h
    refine Wp.run (WpD.mono _) 3 (q := ((66, [some (.inr (.inr (12, 0))), none, some (.inl x2), some (.inl x3), none, none, none, none], [.inl x2, .inr (.inr (96, 0)), .inl x3]), σ)) rfl ?_
    obtain ⟨hc, h⟩ := ite_nn h
    refine Wp.X_ild1 (WpD.mono _) rfl rfl hc ?_
    show Wp (WpD (e + 4)) hcX12_judge Q (67, [some (.inr (.inr (12, 0))), none, some (.inl x2), some (.inl x3), none, none, none, none], [.inl (σ.2.2.1 96 0 (x2).toNatClampNeg), .inl x3]) σ
    refine Wp.if2_ge (WpD.mono _) rfl rfl (fun hc => ?_) (fun hc => ?_)
    · have h := (if_pos hc).symm.trans h
      show Wp (WpD (e + 4)) hcX12_judge Q (165, [some (.inr (.inr (12, 0))), none, some (.inl x2), some (.inl x3), none, none, none, none], []) σ
      refine Wp.run (WpD.mono _) 0 (q := ((166, [some (.inr (.inr (12, 0))), none, some (.inl x2), some (.inl x3), none, none, none, none], [.inl (Int32.ofInt (-1))]), σ)) rfl ?_
      obtain ⟨rfl, rfl⟩ := ret_inj h
      exact Wp.ret (WpD.mono _) rfl hQ
    · have h := (if_neg hc).symm.trans h
      show Wp (WpD (e + 4)) hcX12_judge Q (70, [some (.inr (.inr (12, 0))), none, some (.inl x2), some (.inl x3), none, none, none, none], []) σ
      refine Wp.run (WpD.mono _) 6 (q := ((80, [some (.inr (.inr (12, 0))), none, some (.inl x2), some (.inl x3), none, none, none, none], [.inl (((40 : Int32) * x2) + x3), .inr (.inr (97, 0))]), σ)) rfl ?_
      obtain ⟨hc, h⟩ := ite_nn h
      refine Wp.X_ild1 (WpD.mono _) rfl rfl hc ?_
      show Wp (WpD (e + 4)) hcX12_judge Q (81, [some (.inr (.inr (12, 0))), none, some (.inl x2), some (.inl x3), none, none, none, none], [.inl (σ.2.2.1 97 0 ((((40 : Int32) * x2) + x3)).toNatClampNeg)]) σ
      refine Wp.run (WpD.mono _) 3 (q := ((87, [some (.inr (.inr (12, 0))), none, some (.inl x2), some (.inl x3), some (.inl (σ.2.2.1 97 0 ((((40 : Int32) * x2) + x3)).toNatClampNeg)), none, none, none], [.inl (2 : Int32), .inl (0 : Int32), .inl (σ.2.2.1 97 0 ((((40 : Int32) * x2) + x3)).toNatClampNeg)]), σ)) rfl ?_
      obtain ⟨q4, hb, h⟩ := bind_some h
      refine Wp.call (WpD.mono _) rfl (T_X12_in (e + 3) N (σ.2.2.1 97 0 ((((40 : Int32) * x2) + x3)).toNatClampNeg) (0 : Int32) (2 : Int32) σ _ _ _ hb ?_)
      show Wp (WpD (e + 4)) hcX12_judge Q (90, [some (.inr (.inr (12, 0))), none, some (.inl x2), some (.inl x3), some (.inl (σ.2.2.1 97 0 ((((40 : Int32) * x2) + x3)).toNatClampNeg)), none, none, none], [.inl q4.1]) q4.2
      refine Wp.if0_eq (WpD.mono _) rfl rfl (fun hc => ?_) (fun hc => ?_)
      · have h := (if_pos hc).symm.trans h
        show Wp (WpD (e + 4)) hcX12_judge Q (106, [some (.inr (.inr (12, 0))), none, some (.inl x2), some (.inl x3), some (.inl (σ.2.2.1 97 0 ((((40 : Int32) * x2) + x3)).toNatClampNeg)), none, none, none], []) q4.2
        refine Wp.run (WpD.mono _) 0 (q := ((107, [some (.inr (.inr (12, 0))), none, some (.inl x2), some (.inl x3), some (.inl (σ.2.2.1 97 0 ((((40 : Int32) * x2) + x3)).toNatClampNeg)), none, none, none], [.inr (.inl (0 : Int64))]), q4.2)) rfl ?_
        exact Wp.jump (WpD.mono _) rfl ((T_X12_judge_b107 e N (F_X12_judge_b60 N n) r τ Q hQ ih) x2 x3 (0 : Int64) q4.2 h)
      · have h := (if_neg hc).symm.trans h
        show Wp (WpD (e + 4)) hcX12_judge Q (93, [some (.inr (.inr (12, 0))), none, some (.inl x2), some (.inl x3), some (.inl (σ.2.2.1 97 0 ((((40 : Int32) * x2) + x3)).toNatClampNeg)), none, none, none], []) q4.2
        refine Wp.run (WpD.mono _) 5 (q := ((100, [some (.inr (.inr (12, 0))), none, some (.inl x2), some (.inl x3), some (.inl (σ.2.2.1 97 0 ((((40 : Int32) * x2) + x3)).toNatClampNeg)), none, none, none], [.inl (σ.2.2.1 97 0 ((((40 : Int32) * x2) + x3)).toNatClampNeg), .inl (x3 + (1 : Int32)), .inl (0 : Int32), .inr (.inr (12, 0))]), q4.2)) rfl ?_
        obtain ⟨q5, hb, h⟩ := bind_some h
        refine Wp.call (WpD.mono _) rfl (T_X12_dries (e + 0) N (0 : Int32) (x3 + (1 : Int32)) (σ.2.2.1 97 0 ((((40 : Int32) * x2) + x3)).toNatClampNeg) q4.2 _ _ _ hb ?_)
        show Wp (WpD (e + 4)) hcX12_judge Q (103, [some (.inr (.inr (12, 0))), none, some (.inl x2), some (.inl x3), some (.inl (σ.2.2.1 97 0 ((((40 : Int32) * x2) + x3)).toNatClampNeg)), none, none, none], [.inr (.inl q5.1)]) q5.2
        refine Wp.run (WpD.mono _) 0 (q := ((107, [some (.inr (.inr (12, 0))), none, some (.inl x2), some (.inl x3), some (.inl (σ.2.2.1 97 0 ((((40 : Int32) * x2) + x3)).toNatClampNeg)), none, none, none], [.inr (.inl q5.1)]), q5.2)) rfl ?_
        exact Wp.jump (WpD.mono _) rfl ((T_X12_judge_b107 e N (F_X12_judge_b60 N n) r τ Q hQ ih) x2 x3 q5.1 q5.2 h)

set_option maxRecDepth 100000 in
set_option maxHeartbeats 4000000 in
theorem T_X12_judge (e N : Nat)  (a1 : Int32) (a2 : Int32) (σ : Mem) (r : Int32) (τ : Mem) (Q : Pst) (h : F_X12_judge N a1 a2 σ = some (r, τ)) (hQ : Q (some (.inl r)) τ) : WpD (e + 5) mX12_judge [.inr (.inr (12, 0)), .inl a1, .inl a2] σ Q := by
  refine WpD.of (d := e + 4) (Nat.le_of_ble_eq_true rfl) (Nat.le_of_ble_eq_true rfl) ?_
  show Wp (WpD (e + 4)) hcX12_judge Q (0, [some (.inr (.inr (12, 0))), some (.inl a1), some (.inl a2), none, none, none, none, none], []) σ
  unfold F_X12_judge at h
  refine Wp.run (WpD.mono _) 1 (q := ((2, [some (.inr (.inr (12, 0))), some (.inl a1), some (.inl a2), none, none, none, none, none], [.inl a1, .inr (.inr (12, 0))]), σ)) rfl ?_
  obtain ⟨q1, hb, h⟩ := bind_some h
  refine Wp.call (WpD.mono _) rfl (T_X12_isPlace (e + 2) N a1 σ _ _ _ hb ?_)
  show Wp (WpD (e + 4)) hcX12_judge Q (5, [some (.inr (.inr (12, 0))), some (.inl a1), some (.inl a2), none, none, none, none, none], [.inl q1.1]) q1.2
  refine Wp.if0_ne (WpD.mono _) rfl rfl (fun hc => ?_) (fun hc => ?_)
  · have h := (if_pos hc).symm.trans h
    show Wp (WpD (e + 4)) hcX12_judge Q (8, [some (.inr (.inr (12, 0))), some (.inl a1), some (.inl a2), none, none, none, none, none], []) q1.2
    refine Wp.run (WpD.mono _) 0 (q := ((10, [some (.inr (.inr (12, 0))), some (.inl a1), some (.inl a2), none, none, none, none, none], [.inl (Int32.ofInt (-5))]), q1.2)) rfl ?_
    obtain ⟨rfl, rfl⟩ := ret_inj h
    exact Wp.ret (WpD.mono _) rfl hQ
  · have h := (if_neg hc).symm.trans h
    show Wp (WpD (e + 4)) hcX12_judge Q (11, [some (.inr (.inr (12, 0))), some (.inl a1), some (.inl a2), none, none, none, none, none], []) q1.2
    refine Wp.run (WpD.mono _) 2 (q := ((14, [some (.inr (.inr (12, 0))), some (.inl a1), some (.inl a2), none, none, none, none, none], [.inl (3 : Int32), .inl (0 : Int32), .inl a2]), q1.2)) rfl ?_
    obtain ⟨q2, hb, h⟩ := bind_some h
    refine Wp.call (WpD.mono _) rfl (T_X12_in (e + 3) N a2 (0 : Int32) (3 : Int32) q1.2 _ _ _ hb ?_)
    show Wp (WpD (e + 4)) hcX12_judge Q (17, [some (.inr (.inr (12, 0))), some (.inl a1), some (.inl a2), none, none, none, none, none], [.inl q2.1]) q2.2
    refine Wp.if0_ne (WpD.mono _) rfl rfl (fun hc => ?_) (fun hc => ?_)
    · have h := (if_pos hc).symm.trans h
      show Wp (WpD (e + 4)) hcX12_judge Q (20, [some (.inr (.inr (12, 0))), some (.inl a1), some (.inl a2), none, none, none, none, none], []) q2.2
      refine Wp.run (WpD.mono _) 0 (q := ((22, [some (.inr (.inr (12, 0))), some (.inl a1), some (.inl a2), none, none, none, none, none], [.inl (Int32.ofInt (-2))]), q2.2)) rfl ?_
      obtain ⟨rfl, rfl⟩ := ret_inj h
      exact Wp.ret (WpD.mono _) rfl hQ
    · have h := (if_neg hc).symm.trans h
      show Wp (WpD (e + 4)) hcX12_judge Q (23, [some (.inr (.inr (12, 0))), some (.inl a1), some (.inl a2), none, none, none, none, none], []) q2.2
      refine Wp.run (WpD.mono _) 2 (q := ((28, [some (.inr (.inr (12, 0))), some (.inl a1), some (.inl a2), none, none, none, none, none], [.inl a2, .inr (.inr (95, 0))]), q2.2)) rfl ?_
      obtain ⟨hc, h⟩ := ite_nn h
      refine Wp.X_ild1 (WpD.mono _) rfl rfl hc ?_
      show Wp (WpD (e + 4)) hcX12_judge Q (29, [some (.inr (.inr (12, 0))), some (.inl a1), some (.inl a2), none, none, none, none, none], [.inl (q2.2.2.2.1 95 0 (a2).toNatClampNeg)]) q2.2
      refine Wp.run (WpD.mono _) 0 (q := ((30, [some (.inr (.inr (12, 0))), some (.inl a1), some (.inl a2), none, none, none, none, none], [.inl (Int32.ofInt (-1)), .inl (q2.2.2.2.1 95 0 (a2).toNatClampNeg)]), q2.2)) rfl ?_
      refine Wp.if2_ne (WpD.mono _) rfl rfl (fun hc => ?_) (fun hc => ?_)
      · have h := (if_pos hc).symm.trans h
        show Wp (WpD (e + 4)) hcX12_judge Q (33, [some (.inr (.inr (12, 0))), some (.inl a1), some (.inl a2), none, none, none, none, none], []) q2.2
        refine Wp.run (WpD.mono _) 0 (q := ((35, [some (.inr (.inr (12, 0))), some (.inl a1), some (.inl a2), none, none, none, none, none], [.inl (Int32.ofInt (-11))]), q2.2)) rfl ?_
        obtain ⟨rfl, rfl⟩ := ret_inj h
        exact Wp.ret (WpD.mono _) rfl hQ
      · have h := (if_neg hc).symm.trans h
        show Wp (WpD (e + 4)) hcX12_judge Q (36, [some (.inr (.inr (12, 0))), some (.inl a1), some (.inl a2), none, none, none, none, none], []) q2.2
        refine Wp.run (WpD.mono _) 2 (q := ((41, [some (.inr (.inr (12, 0))), some (.inl a1), some (.inl a2), none, none, none, none, none], [.inl a2, .inr (.inr (96, 0))]), q2.2)) rfl ?_
        obtain ⟨hc, h⟩ := ite_nn h
        refine Wp.X_ild1 (WpD.mono _) rfl rfl hc ?_
        show Wp (WpD (e + 4)) hcX12_judge Q (42, [some (.inr (.inr (12, 0))), some (.inl a1), some (.inl a2), none, none, none, none, none], [.inl (q2.2.2.2.1 96 0 (a2).toNatClampNeg)]) q2.2
        refine Wp.run (WpD.mono _) 1 (q := ((46, [some (.inr (.inr (12, 0))), some (.inl a1), some (.inl a2), none, none, none, none, none], [.inl (q2.2.1 12 0), .inl (q2.2.2.2.1 96 0 (a2).toNatClampNeg)]), q2.2)) rfl ?_
        refine Wp.if2_le (WpD.mono _) rfl rfl (fun hc => ?_) (fun hc => ?_)
        · have h := (if_pos hc).symm.trans h
          show Wp (WpD (e + 4)) hcX12_judge Q (52, [some (.inr (.inr (12, 0))), some (.inl a1), some (.inl a2), none, none, none, none, none], []) q2.2
          refine Wp.run (WpD.mono _) 2 (q := ((55, [some (.inr (.inr (12, 0))), some (.inl a1), some (.inl a2), none, none, none, none, none], [.inl (0 : Int32), .inl a1, .inr (.inr (12, 0))]), q2.2)) rfl ?_
          obtain ⟨q3, hb, h⟩ := bind_some h
          refine Wp.call (WpD.mono _) rfl (T_X12_begins (e + 3) N a1 (0 : Int32) q2.2 _ _ _ hb ?_)
          show Wp (WpD (e + 4)) hcX12_judge Q (58, [some (.inr (.inr (12, 0))), some (.inl a1), some (.inl a2), none, none, none, none, none], []) q3.2
          refine Wp.run (WpD.mono _) 1 (q := ((60, [some (.inr (.inr (12, 0))), some (.inl a1), some (.inl a2), some (.inl (0 : Int32)), none, none, none, none], []), q3.2)) rfl ?_
          exact Wp.jump (WpD.mono _) rfl ((T_X12_judge_b60 e N  r τ Q hQ  N) a2 (0 : Int32) q3.2 h)
        · have h := (if_neg hc).symm.trans h
          show Wp (WpD (e + 4)) hcX12_judge Q (49, [some (.inr (.inr (12, 0))), some (.inl a1), some (.inl a2), none, none, none, none, none], []) q2.2
          refine Wp.run (WpD.mono _) 0 (q := ((51, [some (.inr (.inr (12, 0))), some (.inl a1), some (.inl a2), none, none, none, none, none], [.inl (Int32.ofInt (-2))]), q2.2)) rfl ?_
          obtain ⟨rfl, rfl⟩ := ret_inj h
          exact Wp.ret (WpD.mono _) rfl hQ

set_option maxRecDepth 100000 in
set_option maxHeartbeats 4000000 in
theorem T_X12_layer (e N : Nat)  (a1 : Int32) (a2 : Int32) (a3 : Int32) (σ : Mem) (r : Int32) (τ : Mem) (Q : Pst) (h : F_X12_layer N a1 a2 a3 σ = some (r, τ)) (hQ : Q (some (.inl r)) τ) : WpD (e + 2) mX12_layer [.inr (.inr (12, 0)), .inl a1, .inl a2, .inl a3] σ Q := by
  refine WpD.of (d := e + 1) (Nat.le_of_ble_eq_true rfl) (Nat.le_of_ble_eq_true rfl) ?_
  show Wp (WpD (e + 1)) hcX12_layer Q (0, [some (.inr (.inr (12, 0))), some (.inl a1), some (.inl a2), some (.inl a3)], []) σ
  unfold F_X12_layer at h
  refine Wp.run (WpD.mono _) 2 (q := ((4, [some (.inr (.inr (12, 0))), some (.inl a1), some (.inl a2), some (.inl a3)], [.inl (100 : Int32), .inl (0 : Int32), .inl a1]), σ)) rfl ?_
  obtain ⟨q1, hb, h⟩ := bind_some h
  refine Wp.call (WpD.mono _) rfl (T_X12_in (e + 0) N a1 (0 : Int32) (100 : Int32) σ _ _ _ hb ?_)
  show Wp (WpD (e + 1)) hcX12_layer Q (7, [some (.inr (.inr (12, 0))), some (.inl a1), some (.inl a2), some (.inl a3)], [.inl q1.1]) q1.2
  refine Wp.if0_eq (WpD.mono _) rfl rfl (fun hc => ?_) (fun hc => ?_)
  · have h := (if_pos hc).symm.trans h
    show Wp (WpD (e + 1)) hcX12_layer Q (29, [some (.inr (.inr (12, 0))), some (.inl a1), some (.inl a2), some (.inl a3)], []) q1.2
    refine Wp.run (WpD.mono _) 0 (q := ((31, [none, none, none, none], [.inl (Int32.ofInt (-2))]), q1.2)) rfl ?_
    obtain ⟨rfl, rfl⟩ := ret_inj h
    exact Wp.ret (WpD.mono _) rfl hQ
  · have h := (if_neg hc).symm.trans h
    show Wp (WpD (e + 1)) hcX12_layer Q (10, [some (.inr (.inr (12, 0))), some (.inl a1), some (.inl a2), some (.inl a3)], []) q1.2
    refine Wp.run (WpD.mono _) 2 (q := ((14, [some (.inr (.inr (12, 0))), some (.inl a1), some (.inl a2), some (.inl a3)], [.inl (9 : Int32), .inl (0 : Int32), .inl a2]), q1.2)) rfl ?_
    obtain ⟨q2, hb, h⟩ := bind_some h
    refine Wp.call (WpD.mono _) rfl (T_X12_in (e + 0) N a2 (0 : Int32) (9 : Int32) q1.2 _ _ _ hb ?_)
    show Wp (WpD (e + 1)) hcX12_layer Q (17, [some (.inr (.inr (12, 0))), some (.inl a1), some (.inl a2), some (.inl a3)], [.inl q2.1]) q2.2
    refine Wp.if0_eq (WpD.mono _) rfl rfl (fun hc => ?_) (fun hc => ?_)
    · have h := (if_pos hc).symm.trans h
      show Wp (WpD (e + 1)) hcX12_layer Q (29, [some (.inr (.inr (12, 0))), some (.inl a1), some (.inl a2), some (.inl a3)], []) q2.2
      refine Wp.run (WpD.mono _) 0 (q := ((31, [none, none, none, none], [.inl (Int32.ofInt (-2))]), q2.2)) rfl ?_
      obtain ⟨rfl, rfl⟩ := ret_inj h
      exact Wp.ret (WpD.mono _) rfl hQ
    · have h := (if_neg hc).symm.trans h
      show Wp (WpD (e + 1)) hcX12_layer Q (20, [some (.inr (.inr (12, 0))), some (.inl a1), some (.inl a2), some (.inl a3)], []) q2.2
      refine Wp.run (WpD.mono _) 2 (q := ((23, [some (.inr (.inr (12, 0))), some (.inl a1), some (.inl a2), some (.inl a3)], [.inl (2 : Int32), .inl (0 : Int32), .inl a3]), q2.2)) rfl ?_
      obtain ⟨q3, hb, h⟩ := bind_some h
      refine Wp.call (WpD.mono _) rfl (T_X12_in (e + 0) N a3 (0 : Int32) (2 : Int32) q2.2 _ _ _ hb ?_)
      show Wp (WpD (e + 1)) hcX12_layer Q (26, [some (.inr (.inr (12, 0))), some (.inl a1), some (.inl a2), some (.inl a3)], [.inl q3.1]) q3.2
      refine Wp.if0_ne (WpD.mono _) rfl rfl (fun hc => ?_) (fun hc => ?_)
      · have h := (if_pos hc).symm.trans h
        show Wp (WpD (e + 1)) hcX12_layer Q (29, [some (.inr (.inr (12, 0))), some (.inl a1), some (.inl a2), some (.inl a3)], []) q3.2
        refine Wp.run (WpD.mono _) 0 (q := ((31, [none, none, none, none], [.inl (Int32.ofInt (-2))]), q3.2)) rfl ?_
        obtain ⟨rfl, rfl⟩ := ret_inj h
        exact Wp.ret (WpD.mono _) rfl hQ
      · have h := (if_neg hc).symm.trans h
        show Wp (WpD (e + 1)) hcX12_layer Q (32, [some (.inr (.inr (12, 0))), some (.inl a1), some (.inl a2), some (.inl a3)], []) q3.2
        refine Wp.run (WpD.mono _) 2 (q := ((37, [some (.inr (.inr (12, 0))), some (.inl a1), some (.inl a2), some (.inl a3)], [.inl (5 : Int32), .inl (q3.2.1 12 5)]), q3.2)) rfl ?_
        refine Wp.if2_ne (WpD.mono _) rfl rfl (fun hc => ?_) (fun hc => ?_)
        · have h := (if_pos hc).symm.trans h
          show Wp (WpD (e + 1)) hcX12_layer Q (40, [some (.inr (.inr (12, 0))), some (.inl a1), some (.inl a2), some (.inl a3)], []) q3.2
          refine Wp.run (WpD.mono _) 0 (q := ((42, [some (.inr (.inr (12, 0))), some (.inl a1), some (.inl a2), some (.inl a3)], [.inl (Int32.ofInt (-4))]), q3.2)) rfl ?_
          obtain ⟨rfl, rfl⟩ := ret_inj h
          exact Wp.ret (WpD.mono _) rfl hQ
        · have h := (if_neg hc).symm.trans h
          show Wp (WpD (e + 1)) hcX12_layer Q (43, [some (.inr (.inr (12, 0))), some (.inl a1), some (.inl a2), some (.inl a3)], []) q3.2
          refine Wp.run (WpD.mono _) 1 (q := ((47, [some (.inr (.inr (12, 0))), some (.inl a1), some (.inl a2), some (.inl a3)], [.inl (q3.2.1 12 10)]), q3.2)) rfl ?_
          refine Wp.if0_le (WpD.mono _) rfl rfl (fun hc => ?_) (fun hc => ?_)
          · have h := (if_pos hc).symm.trans h
            show Wp (WpD (e + 1)) hcX12_layer Q (53, [some (.inr (.inr (12, 0))), some (.inl a1), some (.inl a2), some (.inl a3)], []) q3.2
            refine Wp.run (WpD.mono _) 4 (q := ((62, [some (.inr (.inr (12, 0))), some (.inl a1), some (.inl a2), some (.inl a3)], [.inl a1, .inl (q3.2.1 12 5), .inr (.inr (72, 0))]), q3.2)) rfl ?_
            obtain ⟨hc, h⟩ := ite_nn h
            refine Wp.X_ist (WpD.mono _) rfl rfl hc ?_
            show Wp (WpD (e + 1)) hcX12_layer Q (63, [some (.inr (.inr (12, 0))), some (.inl a1), some (.inl a2), some (.inl a3)], []) (q3.2.1, q3.2.2.1, (hwU3 q3.2.2.2.1 72 0 ((q3.2.1 12 5)).toNatClampNeg a1), q3.2.2.2.2.1, q3.2.2.2.2.2)
            refine Wp.run (WpD.mono _) 4 (q := ((72, [some (.inr (.inr (12, 0))), some (.inl a1), some (.inl a2), some (.inl a3)], [.inl a2, .inl (q3.2.1 12 5), .inr (.inr (73, 0))]), (q3.2.1, q3.2.2.1, (hwU3 q3.2.2.2.1 72 0 ((q3.2.1 12 5)).toNatClampNeg a1), q3.2.2.2.2.1, q3.2.2.2.2.2))) rfl ?_
            obtain ⟨hc, h⟩ := ite_nn h
            refine Wp.X_ist (WpD.mono _) rfl rfl hc ?_
            show Wp (WpD (e + 1)) hcX12_layer Q (73, [some (.inr (.inr (12, 0))), some (.inl a1), some (.inl a2), some (.inl a3)], []) (q3.2.1, q3.2.2.1, (hwU3 (hwU3 q3.2.2.2.1 72 0 ((q3.2.1 12 5)).toNatClampNeg a1) 73 0 ((q3.2.1 12 5)).toNatClampNeg a2), q3.2.2.2.2.1, q3.2.2.2.2.2)
            refine Wp.run (WpD.mono _) 4 (q := ((82, [some (.inr (.inr (12, 0))), some (.inl a1), some (.inl a2), some (.inl a3)], [.inl a3, .inl (q3.2.1 12 5), .inr (.inr (74, 0))]), (q3.2.1, q3.2.2.1, (hwU3 (hwU3 q3.2.2.2.1 72 0 ((q3.2.1 12 5)).toNatClampNeg a1) 73 0 ((q3.2.1 12 5)).toNatClampNeg a2), q3.2.2.2.2.1, q3.2.2.2.2.2))) rfl ?_
            obtain ⟨hc, h⟩ := ite_nn h
            refine Wp.X_ist (WpD.mono _) rfl rfl hc ?_
            show Wp (WpD (e + 1)) hcX12_layer Q (83, [some (.inr (.inr (12, 0))), some (.inl a1), some (.inl a2), some (.inl a3)], []) (q3.2.1, q3.2.2.1, (hwU3 (hwU3 (hwU3 q3.2.2.2.1 72 0 ((q3.2.1 12 5)).toNatClampNeg a1) 73 0 ((q3.2.1 12 5)).toNatClampNeg a2) 74 0 ((q3.2.1 12 5)).toNatClampNeg a3), q3.2.2.2.2.1, q3.2.2.2.2.2)
            refine Wp.run (WpD.mono _) 9 (q := ((99, [some (.inr (.inr (12, 0))), some (.inl a1), some (.inl a2), some (.inl a3)], [.inl (((q3.2.1 12 5) + (1 : Int32)) - (1 : Int32))]), ((hwU2 q3.2.1 12 5 ((q3.2.1 12 5) + (1 : Int32))), q3.2.2.1, (hwU3 (hwU3 (hwU3 q3.2.2.2.1 72 0 ((q3.2.1 12 5)).toNatClampNeg a1) 73 0 ((q3.2.1 12 5)).toNatClampNeg a2) 74 0 ((q3.2.1 12 5)).toNatClampNeg a3), q3.2.2.2.2.1, q3.2.2.2.2.2))) rfl ?_
            obtain ⟨rfl, rfl⟩ := ret_inj h
            exact Wp.ret (WpD.mono _) rfl hQ
          · have h := (if_neg hc).symm.trans h
            show Wp (WpD (e + 1)) hcX12_layer Q (50, [some (.inr (.inr (12, 0))), some (.inl a1), some (.inl a2), some (.inl a3)], []) q3.2
            refine Wp.run (WpD.mono _) 0 (q := ((52, [some (.inr (.inr (12, 0))), some (.inl a1), some (.inl a2), some (.inl a3)], [.inl (Int32.ofInt (-3))]), q3.2)) rfl ?_
            obtain ⟨rfl, rfl⟩ := ret_inj h
            exact Wp.ret (WpD.mono _) rfl hQ

set_option maxRecDepth 100000 in
set_option maxHeartbeats 4000000 in
theorem T_X12_layersBy_b63 (e N : Nat)   (r : Int32) (τ : Mem) (Q : Pst) (hQ : Q (some (.inl r)) τ) : ∀ n, ∀ (x1 : Int32) (x3 : Int32) (x4 : Int32) (x5 : Int32) (x6 : Int32) (σ : Mem), F_X12_layersBy_b63 N n x1 x3 x4 x5 x6 σ = some (r, τ) → Wp (WpD (e + 2)) hcX12_layersBy Q (63, [some (.inr (.inr (12, 0))), some (.inl x1), none, some (.inl x3), some (.inl x4), some (.inl x5), some (.inl x6), none, none], []) σ := by
  intro n
  induction n with
  | zero => intro x1 x3 x4 x5 x6 σ h; cases h
  | succ n ih =>
    intro x1 x3 x4 x5 x6 σ h
    unfold F_X12_layersBy_b63 at h
    refine Wp.run (WpD.mono _) 1 (q := ((67, [some (.inr (.inr (12, 0))), some (.inl x1), none, some (.inl x3), some (.inl x4), some (.inl x5), some (.inl x6), none, none], [.inl x4, .inl x6]), σ)) rfl ?_
    refine Wp.if2_ge (WpD.mono _) rfl rfl (fun hc => ?_) (fun hc => ?_)
    · have h := (if_pos hc).symm.trans h
      show Wp (WpD (e + 2)) hcX12_layersBy Q (161, [some (.inr (.inr (12, 0))), some (.inl x1), none, some (.inl x3), some (.inl x4), some (.inl x5), some (.inl x6), none, none], []) σ
      refine Wp.run (WpD.mono _) 0 (q := ((163, [some (.inr (.inr (12, 0))), some (.inl x1), none, some (.inl x3), some (.inl x4), some (.inl x5), some (.inl x6), none, none], [.inl x5]), σ)) rfl ?_
      obtain ⟨rfl, rfl⟩ := ret_inj h
      exact Wp.ret (WpD.mono _) rfl hQ
    · have h := (if_neg hc).symm.trans h
      show Wp (WpD (e + 2)) hcX12_layersBy Q (70, [some (.inr (.inr (12, 0))), some (.inl x1), none, some (.inl x3), some (.inl x4), some (.inl x5), some (.inl x6), none, none], []) σ
      refine Wp.run (WpD.mono _) 6 (q := ((79, [some (.inr (.inr (12, 0))), some (.inl x1), none, some (.inl x3), some (.inl x4), some (.inl x5), some (.inl x6), some (.inl (x3 + ((3 : Int32) * x6))), none], [.inl x3]), σ)) rfl ?_
      refine Wp.if0_lt (WpD.mono _) rfl rfl (fun hc => ?_) (fun hc => ?_)
      · have h := (if_pos hc).symm.trans h
        show Wp (WpD (e + 2)) hcX12_layersBy Q (101, [some (.inr (.inr (12, 0))), some (.inl x1), none, some (.inl x3), some (.inl x4), some (.inl x5), some (.inl x6), some (.inl (x3 + ((3 : Int32) * x6))), none], []) σ
        refine Wp.run (WpD.mono _) 0 (q := ((103, [none, none, none, none, none, none, none, none, none], [.inl (Int32.ofInt (-12))]), σ)) rfl ?_
        obtain ⟨rfl, rfl⟩ := ret_inj h
        exact Wp.ret (WpD.mono _) rfl hQ
      · have h := (if_neg hc).symm.trans h
        show Wp (WpD (e + 2)) hcX12_layersBy Q (82, [some (.inr (.inr (12, 0))), some (.inl x1), none, some (.inl x3), some (.inl x4), some (.inl x5), some (.inl x6), some (.inl (x3 + ((3 : Int32) * x6))), none], []) σ
        refine Wp.run (WpD.mono _) 1 (q := ((85, [some (.inr (.inr (12, 0))), some (.inl x1), none, some (.inl x3), some (.inl x4), some (.inl x5), some (.inl x6), some (.inl (x3 + ((3 : Int32) * x6))), none], [.inl x3, .inl (x3 + ((3 : Int32) * x6))]), σ)) rfl ?_
        refine Wp.if2_lt (WpD.mono _) rfl rfl (fun hc => ?_) (fun hc => ?_)
        · have h := (if_pos hc).symm.trans h
          show Wp (WpD (e + 2)) hcX12_layersBy Q (101, [some (.inr (.inr (12, 0))), some (.inl x1), none, some (.inl x3), some (.inl x4), some (.inl x5), some (.inl x6), some (.inl (x3 + ((3 : Int32) * x6))), none], []) σ
          refine Wp.run (WpD.mono _) 0 (q := ((103, [none, none, none, none, none, none, none, none, none], [.inl (Int32.ofInt (-12))]), σ)) rfl ?_
          obtain ⟨rfl, rfl⟩ := ret_inj h
          exact Wp.ret (WpD.mono _) rfl hQ
        · have h := (if_neg hc).symm.trans h
          show Wp (WpD (e + 2)) hcX12_layersBy Q (88, [some (.inr (.inr (12, 0))), some (.inl x1), none, some (.inl x3), some (.inl x4), some (.inl x5), some (.inl x6), some (.inl (x3 + ((3 : Int32) * x6))), none], []) σ
          refine Wp.run (WpD.mono _) 3 (q := ((95, [some (.inr (.inr (12, 0))), some (.inl x1), none, some (.inl x3), some (.inl x4), some (.inl x5), some (.inl x6), some (.inl (x3 + ((3 : Int32) * x6))), none], [.inl x1, .inr (.inr (96, 0)), .inl (x3 + ((3 : Int32) * x6))]), σ)) rfl ?_
          obtain ⟨hc, h⟩ := ite_nn h
          refine Wp.X_ild1 (WpD.mono _) rfl rfl hc ?_
          show Wp (WpD (e + 2)) hcX12_layersBy Q (96, [some (.inr (.inr (12, 0))), some (.inl x1), none, some (.inl x3), some (.inl x4), some (.inl x5), some (.inl x6), some (.inl (x3 + ((3 : Int32) * x6))), none], [.inl (σ.2.2.1 96 0 (x1).toNatClampNeg), .inl (x3 + ((3 : Int32) * x6))]) σ
          refine Wp.run (WpD.mono _) 1 (q := ((98, [some (.inr (.inr (12, 0))), some (.inl x1), none, some (.inl x3), some (.inl x4), some (.inl x5), some (.inl x6), some (.inl (x3 + ((3 : Int32) * x6))), none], [.inl ((σ.2.2.1 96 0 (x1).toNatClampNeg) - (3 : Int32)), .inl (x3 + ((3 : Int32) * x6))]), σ)) rfl ?_
          refine Wp.if2_le (WpD.mono _) rfl rfl (fun hc => ?_) (fun hc => ?_)
          · have h := (if_pos hc).symm.trans h
            show Wp (WpD (e + 2)) hcX12_layersBy Q (104, [some (.inr (.inr (12, 0))), some (.inl x1), none, some (.inl x3), some (.inl x4), some (.inl x5), some (.inl x6), some (.inl (x3 + ((3 : Int32) * x6))), none], []) σ
            refine Wp.run (WpD.mono _) 10 (q := ((122, [some (.inr (.inr (12, 0))), some (.inl x1), none, some (.inl x3), some (.inl x4), some (.inl x5), some (.inl x6), some (.inl (x3 + ((3 : Int32) * x6))), some (.inl (((40 : Int32) * x1) + (x3 + ((3 : Int32) * x6))))], [.inl (((40 : Int32) * x1) + (x3 + ((3 : Int32) * x6))), .inr (.inr (97, 0)), .inr (.inr (12, 0)), .inl x5]), σ)) rfl ?_
            obtain ⟨hc, h⟩ := ite_nn h
            refine Wp.X_ild1 (WpD.mono _) rfl rfl hc ?_
            show Wp (WpD (e + 2)) hcX12_layersBy Q (123, [some (.inr (.inr (12, 0))), some (.inl x1), none, some (.inl x3), some (.inl x4), some (.inl x5), some (.inl x6), some (.inl (x3 + ((3 : Int32) * x6))), some (.inl (((40 : Int32) * x1) + (x3 + ((3 : Int32) * x6))))], [.inl (σ.2.2.1 97 0 ((((40 : Int32) * x1) + (x3 + ((3 : Int32) * x6)))).toNatClampNeg), .inr (.inr (12, 0)), .inl x5]) σ
            refine Wp.run (WpD.mono _) 4 (q := ((131, [some (.inr (.inr (12, 0))), some (.inl x1), none, some (.inl x3), some (.inl x4), some (.inl x5), some (.inl x6), some (.inl (x3 + ((3 : Int32) * x6))), some (.inl (((40 : Int32) * x1) + (x3 + ((3 : Int32) * x6))))], [.inl ((((40 : Int32) * x1) + (x3 + ((3 : Int32) * x6))) + (1 : Int32)), .inr (.inr (97, 0)), .inl (σ.2.2.1 97 0 ((((40 : Int32) * x1) + (x3 + ((3 : Int32) * x6)))).toNatClampNeg), .inr (.inr (12, 0)), .inl x5]), σ)) rfl ?_
            obtain ⟨hc, h⟩ := ite_nn h
            refine Wp.X_ild1 (WpD.mono _) rfl rfl hc ?_
            show Wp (WpD (e + 2)) hcX12_layersBy Q (132, [some (.inr (.inr (12, 0))), some (.inl x1), none, some (.inl x3), some (.inl x4), some (.inl x5), some (.inl x6), some (.inl (x3 + ((3 : Int32) * x6))), some (.inl (((40 : Int32) * x1) + (x3 + ((3 : Int32) * x6))))], [.inl (σ.2.2.1 97 0 (((((40 : Int32) * x1) + (x3 + ((3 : Int32) * x6))) + (1 : Int32))).toNatClampNeg), .inl (σ.2.2.1 97 0 ((((40 : Int32) * x1) + (x3 + ((3 : Int32) * x6)))).toNatClampNeg), .inr (.inr (12, 0)), .inl x5]) σ
            refine Wp.run (WpD.mono _) 4 (q := ((140, [some (.inr (.inr (12, 0))), some (.inl x1), none, some (.inl x3), some (.inl x4), some (.inl x5), some (.inl x6), some (.inl (x3 + ((3 : Int32) * x6))), some (.inl (((40 : Int32) * x1) + (x3 + ((3 : Int32) * x6))))], [.inl ((((40 : Int32) * x1) + (x3 + ((3 : Int32) * x6))) + (2 : Int32)), .inr (.inr (97, 0)), .inl (σ.2.2.1 97 0 (((((40 : Int32) * x1) + (x3 + ((3 : Int32) * x6))) + (1 : Int32))).toNatClampNeg), .inl (σ.2.2.1 97 0 ((((40 : Int32) * x1) + (x3 + ((3 : Int32) * x6)))).toNatClampNeg), .inr (.inr (12, 0)), .inl x5]), σ)) rfl ?_
            obtain ⟨hc, h⟩ := ite_nn h
            refine Wp.X_ild1 (WpD.mono _) rfl rfl hc ?_
            show Wp (WpD (e + 2)) hcX12_layersBy Q (141, [some (.inr (.inr (12, 0))), some (.inl x1), none, some (.inl x3), some (.inl x4), some (.inl x5), some (.inl x6), some (.inl (x3 + ((3 : Int32) * x6))), some (.inl (((40 : Int32) * x1) + (x3 + ((3 : Int32) * x6))))], [.inl (σ.2.2.1 97 0 (((((40 : Int32) * x1) + (x3 + ((3 : Int32) * x6))) + (2 : Int32))).toNatClampNeg), .inl (σ.2.2.1 97 0 (((((40 : Int32) * x1) + (x3 + ((3 : Int32) * x6))) + (1 : Int32))).toNatClampNeg), .inl (σ.2.2.1 97 0 ((((40 : Int32) * x1) + (x3 + ((3 : Int32) * x6)))).toNatClampNeg), .inr (.inr (12, 0)), .inl x5]) σ
            obtain ⟨q4, hb, h⟩ := bind_some h
            refine Wp.call (WpD.mono _) rfl (T_X12_layer (e + 0) N (σ.2.2.1 97 0 ((((40 : Int32) * x1) + (x3 + ((3 : Int32) * x6)))).toNatClampNeg) (σ.2.2.1 97 0 (((((40 : Int32) * x1) + (x3 + ((3 : Int32) * x6))) + (1 : Int32))).toNatClampNeg) (σ.2.2.1 97 0 (((((40 : Int32) * x1) + (x3 + ((3 : Int32) * x6))) + (2 : Int32))).toNatClampNeg) σ _ _ _ hb ?_)
            show Wp (WpD (e + 2)) hcX12_layersBy Q (144, [some (.inr (.inr (12, 0))), some (.inl x1), none, some (.inl x3), some (.inl x4), some (.inl x5), some (.inl x6), some (.inl (x3 + ((3 : Int32) * x6))), some (.inl (((40 : Int32) * x1) + (x3 + ((3 : Int32) * x6))))], [.inl q4.1, .inl x5]) q4.2
            refine Wp.if0_lt (WpD.mono _) rfl rfl (fun hc => ?_) (fun hc => ?_)
            · have h := (if_pos hc).symm.trans h
              show Wp (WpD (e + 2)) hcX12_layersBy Q (151, [some (.inr (.inr (12, 0))), some (.inl x1), none, some (.inl x3), some (.inl x4), some (.inl x5), some (.inl x6), some (.inl (x3 + ((3 : Int32) * x6))), some (.inl (((40 : Int32) * x1) + (x3 + ((3 : Int32) * x6))))], [.inl x5]) q4.2
              refine Wp.run (WpD.mono _) 4 (q := ((63, [some (.inr (.inr (12, 0))), some (.inl x1), none, some (.inl x3), some (.inl x4), some (.inl (x5 + (0 : Int32))), some (.inl (x6 + (1 : Int32))), none, none], []), q4.2)) rfl ?_
              exact Wp.jump (WpD.mono _) rfl (ih x1 x3 x4 (x5 + (0 : Int32)) (x6 + (1 : Int32)) q4.2 h)
            · have h := (if_neg hc).symm.trans h
              show Wp (WpD (e + 2)) hcX12_layersBy Q (147, [some (.inr (.inr (12, 0))), some (.inl x1), none, some (.inl x3), some (.inl x4), some (.inl x5), some (.inl x6), some (.inl (x3 + ((3 : Int32) * x6))), some (.inl (((40 : Int32) * x1) + (x3 + ((3 : Int32) * x6))))], [.inl x5]) q4.2
              refine Wp.run (WpD.mono _) 5 (q := ((63, [some (.inr (.inr (12, 0))), some (.inl x1), none, some (.inl x3), some (.inl x4), some (.inl (x5 + (1 : Int32))), some (.inl (x6 + (1 : Int32))), none, none], []), q4.2)) rfl ?_
              exact Wp.jump (WpD.mono _) rfl (ih x1 x3 x4 (x5 + (1 : Int32)) (x6 + (1 : Int32)) q4.2 h)
          · have h := (if_neg hc).symm.trans h
            show Wp (WpD (e + 2)) hcX12_layersBy Q (101, [some (.inr (.inr (12, 0))), some (.inl x1), none, some (.inl x3), some (.inl x4), some (.inl x5), some (.inl x6), some (.inl (x3 + ((3 : Int32) * x6))), none], []) σ
            refine Wp.run (WpD.mono _) 0 (q := ((103, [none, none, none, none, none, none, none, none, none], [.inl (Int32.ofInt (-12))]), σ)) rfl ?_
            obtain ⟨rfl, rfl⟩ := ret_inj h
            exact Wp.ret (WpD.mono _) rfl hQ

set_option maxRecDepth 100000 in
set_option maxHeartbeats 4000000 in
theorem T_X12_layersBy (e N : Nat)  (a1 : Int32) (a2 : Int32) (a3 : Int32) (a4 : Int32) (σ : Mem) (r : Int32) (τ : Mem) (Q : Pst) (h : F_X12_layersBy N a1 a2 a3 a4 σ = some (r, τ)) (hQ : Q (some (.inl r)) τ) : WpD (e + 3) mX12_layersBy [.inr (.inr (12, 0)), .inl a1, .inl a2, .inl a3, .inl a4] σ Q := by
  refine WpD.of (d := e + 2) (Nat.le_of_ble_eq_true rfl) (Nat.le_of_ble_eq_true rfl) ?_
  show Wp (WpD (e + 2)) hcX12_layersBy Q (0, [some (.inr (.inr (12, 0))), some (.inl a1), some (.inl a2), some (.inl a3), some (.inl a4), none, none, none, none], []) σ
  unfold F_X12_layersBy at h
  refine Wp.run (WpD.mono _) 2 (q := ((3, [some (.inr (.inr (12, 0))), some (.inl a1), some (.inl a2), some (.inl a3), some (.inl a4), none, none, none, none], [.inl (3 : Int32), .inl (0 : Int32), .inl a1]), σ)) rfl ?_
  obtain ⟨q1, hb, h⟩ := bind_some h
  refine Wp.call (WpD.mono _) rfl (T_X12_in (e + 1) N a1 (0 : Int32) (3 : Int32) σ _ _ _ hb ?_)
  show Wp (WpD (e + 2)) hcX12_layersBy Q (6, [some (.inr (.inr (12, 0))), some (.inl a1), some (.inl a2), some (.inl a3), some (.inl a4), none, none, none, none], [.inl q1.1]) q1.2
  refine Wp.if0_eq (WpD.mono _) rfl rfl (fun hc => ?_) (fun hc => ?_)
  · have h := (if_pos hc).symm.trans h
    show Wp (WpD (e + 2)) hcX12_layersBy Q (28, [some (.inr (.inr (12, 0))), some (.inl a1), some (.inl a2), some (.inl a3), some (.inl a4), none, none, none, none], []) q1.2
    refine Wp.run (WpD.mono _) 0 (q := ((30, [none, none, none, none, none, none, none, none, none], [.inl (Int32.ofInt (-2))]), q1.2)) rfl ?_
    obtain ⟨rfl, rfl⟩ := ret_inj h
    exact Wp.ret (WpD.mono _) rfl hQ
  · have h := (if_neg hc).symm.trans h
    show Wp (WpD (e + 2)) hcX12_layersBy Q (9, [some (.inr (.inr (12, 0))), some (.inl a1), some (.inl a2), some (.inl a3), some (.inl a4), none, none, none, none], []) q1.2
    refine Wp.run (WpD.mono _) 2 (q := ((12, [some (.inr (.inr (12, 0))), some (.inl a1), some (.inl a2), some (.inl a3), some (.inl a4), none, none, none, none], [.inl (2 : Int32), .inl (0 : Int32), .inl a2]), q1.2)) rfl ?_
    obtain ⟨q2, hb, h⟩ := bind_some h
    refine Wp.call (WpD.mono _) rfl (T_X12_in (e + 1) N a2 (0 : Int32) (2 : Int32) q1.2 _ _ _ hb ?_)
    show Wp (WpD (e + 2)) hcX12_layersBy Q (15, [some (.inr (.inr (12, 0))), some (.inl a1), some (.inl a2), some (.inl a3), some (.inl a4), none, none, none, none], [.inl q2.1]) q2.2
    refine Wp.if0_eq (WpD.mono _) rfl rfl (fun hc => ?_) (fun hc => ?_)
    · have h := (if_pos hc).symm.trans h
      show Wp (WpD (e + 2)) hcX12_layersBy Q (28, [some (.inr (.inr (12, 0))), some (.inl a1), some (.inl a2), some (.inl a3), some (.inl a4), none, none, none, none], []) q2.2
      refine Wp.run (WpD.mono _) 0 (q := ((30, [none, none, none, none, none, none, none, none, none], [.inl (Int32.ofInt (-2))]), q2.2)) rfl ?_
      obtain ⟨rfl, rfl⟩ := ret_inj h
      exact Wp.ret (WpD.mono _) rfl hQ
    · have h := (if_neg hc).symm.trans h
      show Wp (WpD (e + 2)) hcX12_layersBy Q (18, [some (.inr (.inr (12, 0))), some (.inl a1), some (.inl a2), some (.inl a3), some (.inl a4), none, none, none, none], []) q2.2
      refine Wp.run (WpD.mono _) 2 (q := ((22, [some (.inr (.inr (12, 0))), some (.inl a1), some (.inl a2), some (.inl a3), some (.inl a4), none, none, none, none], [.inl (5 : Int32), .inl (0 : Int32), .inl a4]), q2.2)) rfl ?_
      obtain ⟨q3, hb, h⟩ := bind_some h
      refine Wp.call (WpD.mono _) rfl (T_X12_in (e + 1) N a4 (0 : Int32) (5 : Int32) q2.2 _ _ _ hb ?_)
      show Wp (WpD (e + 2)) hcX12_layersBy Q (25, [some (.inr (.inr (12, 0))), some (.inl a1), some (.inl a2), some (.inl a3), some (.inl a4), none, none, none, none], [.inl q3.1]) q3.2
      refine Wp.if0_ne (WpD.mono _) rfl rfl (fun hc => ?_) (fun hc => ?_)
      · have h := (if_pos hc).symm.trans h
        show Wp (WpD (e + 2)) hcX12_layersBy Q (28, [some (.inr (.inr (12, 0))), some (.inl a1), some (.inl a2), some (.inl a3), some (.inl a4), none, none, none, none], []) q3.2
        refine Wp.run (WpD.mono _) 0 (q := ((30, [none, none, none, none, none, none, none, none, none], [.inl (Int32.ofInt (-2))]), q3.2)) rfl ?_
        obtain ⟨rfl, rfl⟩ := ret_inj h
        exact Wp.ret (WpD.mono _) rfl hQ
      · have h := (if_neg hc).symm.trans h
        show Wp (WpD (e + 2)) hcX12_layersBy Q (31, [some (.inr (.inr (12, 0))), some (.inl a1), some (.inl a2), some (.inl a3), some (.inl a4), none, none, none, none], []) q3.2
        refine Wp.run (WpD.mono _) 2 (q := ((36, [some (.inr (.inr (12, 0))), some (.inl a1), some (.inl a2), some (.inl a3), some (.inl a4), none, none, none, none], [.inl a1, .inr (.inr (95, 0))]), q3.2)) rfl ?_
        obtain ⟨hc, h⟩ := ite_nn h
        refine Wp.X_ild1 (WpD.mono _) rfl rfl hc ?_
        show Wp (WpD (e + 2)) hcX12_layersBy Q (37, [some (.inr (.inr (12, 0))), some (.inl a1), some (.inl a2), some (.inl a3), some (.inl a4), none, none, none, none], [.inl (q3.2.2.2.1 95 0 (a1).toNatClampNeg)]) q3.2
        refine Wp.run (WpD.mono _) 0 (q := ((38, [some (.inr (.inr (12, 0))), some (.inl a1), some (.inl a2), some (.inl a3), some (.inl a4), none, none, none, none], [.inl (Int32.ofInt (-1)), .inl (q3.2.2.2.1 95 0 (a1).toNatClampNeg)]), q3.2)) rfl ?_
        refine Wp.if2_ne (WpD.mono _) rfl rfl (fun hc => ?_) (fun hc => ?_)
        · have h := (if_pos hc).symm.trans h
          show Wp (WpD (e + 2)) hcX12_layersBy Q (41, [some (.inr (.inr (12, 0))), some (.inl a1), some (.inl a2), some (.inl a3), some (.inl a4), none, none, none, none], []) q3.2
          refine Wp.run (WpD.mono _) 0 (q := ((43, [some (.inr (.inr (12, 0))), some (.inl a1), some (.inl a2), some (.inl a3), some (.inl a4), none, none, none, none], [.inl (Int32.ofInt (-11))]), q3.2)) rfl ?_
          obtain ⟨rfl, rfl⟩ := ret_inj h
          exact Wp.ret (WpD.mono _) rfl hQ
        · have h := (if_neg hc).symm.trans h
          show Wp (WpD (e + 2)) hcX12_layersBy Q (44, [some (.inr (.inr (12, 0))), some (.inl a1), some (.inl a2), some (.inl a3), some (.inl a4), none, none, none, none], []) q3.2
          refine Wp.run (WpD.mono _) 2 (q := ((49, [some (.inr (.inr (12, 0))), some (.inl a1), some (.inl a2), some (.inl a3), some (.inl a4), none, none, none, none], [.inl a1, .inr (.inr (95, 0))]), q3.2)) rfl ?_
          obtain ⟨hc, h⟩ := ite_nn h
          refine Wp.X_ild1 (WpD.mono _) rfl rfl hc ?_
          show Wp (WpD (e + 2)) hcX12_layersBy Q (50, [some (.inr (.inr (12, 0))), some (.inl a1), some (.inl a2), some (.inl a3), some (.inl a4), none, none, none, none], [.inl (q3.2.2.2.1 95 0 (a1).toNatClampNeg)]) q3.2
          refine Wp.run (WpD.mono _) 0 (q := ((51, [some (.inr (.inr (12, 0))), some (.inl a1), some (.inl a2), some (.inl a3), some (.inl a4), none, none, none, none], [.inl a2, .inl (q3.2.2.2.1 95 0 (a1).toNatClampNeg)]), q3.2)) rfl ?_
          refine Wp.if2_eq (WpD.mono _) rfl rfl (fun hc => ?_) (fun hc => ?_)
          · have h := (if_pos hc).symm.trans h
            show Wp (WpD (e + 2)) hcX12_layersBy Q (57, [some (.inr (.inr (12, 0))), some (.inl a1), some (.inl a2), some (.inl a3), some (.inl a4), none, none, none, none], []) q3.2
            refine Wp.run (WpD.mono _) 3 (q := ((63, [some (.inr (.inr (12, 0))), some (.inl a1), some (.inl a2), some (.inl a3), some (.inl a4), some (.inl (0 : Int32)), some (.inl (0 : Int32)), none, none], []), q3.2)) rfl ?_
            exact Wp.jump (WpD.mono _) rfl ((T_X12_layersBy_b63 e N  r τ Q hQ  N) a1 a3 a4 (0 : Int32) (0 : Int32) q3.2 h)
          · have h := (if_neg hc).symm.trans h
            show Wp (WpD (e + 2)) hcX12_layersBy Q (54, [some (.inr (.inr (12, 0))), some (.inl a1), some (.inl a2), some (.inl a3), some (.inl a4), none, none, none, none], []) q3.2
            refine Wp.run (WpD.mono _) 0 (q := ((56, [some (.inr (.inr (12, 0))), some (.inl a1), some (.inl a2), some (.inl a3), some (.inl a4), none, none, none, none], [.inl (Int32.ofInt (-13))]), q3.2)) rfl ?_
            obtain ⟨rfl, rfl⟩ := ret_inj h
            exact Wp.ret (WpD.mono _) rfl hQ

set_option maxRecDepth 100000 in
set_option maxHeartbeats 4000000 in
theorem T_X12_learn (e N : Nat)  (a1 : Int32) (σ : Mem) (r : Int64) (τ : Mem) (Q : Pst) (h : F_X12_learn N a1 σ = some (r, τ)) (hQ : Q (some (.inr (.inl r))) τ) : WpD (e + 26) mX12_learn [.inr (.inr (12, 0)), .inl a1] σ Q := by
  refine WpD.of (d := e + 25) (Nat.le_of_ble_eq_true rfl) (Nat.le_of_ble_eq_true rfl) ?_
  show Wp (WpD (e + 25)) hcX12_learn Q (0, [some (.inr (.inr (12, 0))), some (.inl a1)], []) σ
  unfold F_X12_learn at h
  refine Wp.run (WpD.mono _) 1 (q := ((2, [some (.inr (.inr (12, 0))), some (.inl a1)], [.inl a1, .inr (.inr (12, 0))]), σ)) rfl ?_
  obtain ⟨q1, hb, h⟩ := bind_some h
  refine Wp.call (WpD.mono _) rfl (T_X12_isPlace (e + 23) N a1 σ _ _ _ hb ?_)
  show Wp (WpD (e + 25)) hcX12_learn Q (5, [some (.inr (.inr (12, 0))), some (.inl a1)], [.inl q1.1]) q1.2
  refine Wp.if0_eq (WpD.mono _) rfl rfl (fun hc => ?_) (fun hc => ?_)
  · have h := (if_pos hc).symm.trans h
    show Wp (WpD (e + 25)) hcX12_learn Q (16, [some (.inr (.inr (12, 0))), some (.inl a1)], []) q1.2
    refine Wp.run (WpD.mono _) 0 (q := ((19, [some (.inr (.inr (12, 0))), some (.inl a1)], [.inr (.inl (Int64.ofInt (-4611686018427387904)))]), q1.2)) rfl ?_
    obtain ⟨rfl, rfl⟩ := ret_inj h
    exact Wp.ret (WpD.mono _) rfl hQ
  · have h := (if_neg hc).symm.trans h
    show Wp (WpD (e + 25)) hcX12_learn Q (8, [some (.inr (.inr (12, 0))), some (.inl a1)], []) q1.2
    refine Wp.run (WpD.mono _) 1 (q := ((10, [some (.inr (.inr (12, 0))), some (.inl a1)], [.inl a1, .inr (.inr (12, 0))]), q1.2)) rfl ?_
    obtain ⟨q2, hb, h⟩ := bind_some h
    refine Wp.call (WpD.mono _) rfl (T_X12_learns (e + 0) N a1 q1.2 _ _ _ hb ?_)
    show Wp (WpD (e + 25)) hcX12_learn Q (13, [some (.inr (.inr (12, 0))), some (.inl a1)], [.inr (.inl q2.1)]) q2.2
    refine Wp.run (WpD.mono _) 0 (q := ((19, [some (.inr (.inr (12, 0))), some (.inl a1)], [.inr (.inl q2.1)]), q2.2)) rfl ?_
    obtain ⟨rfl, rfl⟩ := ret_inj h
    exact Wp.ret (WpD.mono _) rfl hQ

set_option maxRecDepth 100000 in
set_option maxHeartbeats 4000000 in
theorem T_X12_likely (e N : Nat)  (a1 : Int32) (σ : Mem) (r : Int64) (τ : Mem) (Q : Pst) (h : F_X12_likely N a1 σ = some (r, τ)) (hQ : Q (some (.inr (.inl r))) τ) : WpD (e + 6) mX12_likely [.inr (.inr (12, 0)), .inl a1] σ Q := by
  refine WpD.of (d := e + 5) (Nat.le_of_ble_eq_true rfl) (Nat.le_of_ble_eq_true rfl) ?_
  show Wp (WpD (e + 5)) hcX12_likely Q (0, [some (.inr (.inr (12, 0))), some (.inl a1)], []) σ
  unfold F_X12_likely at h
  refine Wp.run (WpD.mono _) 1 (q := ((2, [some (.inr (.inr (12, 0))), some (.inl a1)], [.inl a1, .inr (.inr (12, 0))]), σ)) rfl ?_
  obtain ⟨q1, hb, h⟩ := bind_some h
  refine Wp.call (WpD.mono _) rfl (T_X12_isPlace (e + 3) N a1 σ _ _ _ hb ?_)
  show Wp (WpD (e + 5)) hcX12_likely Q (5, [some (.inr (.inr (12, 0))), some (.inl a1)], [.inl q1.1]) q1.2
  refine Wp.if0_ne (WpD.mono _) rfl rfl (fun hc => ?_) (fun hc => ?_)
  · have h := (if_pos hc).symm.trans h
    show Wp (WpD (e + 5)) hcX12_likely Q (8, [some (.inr (.inr (12, 0))), some (.inl a1)], []) q1.2
    refine Wp.run (WpD.mono _) 0 (q := ((11, [some (.inr (.inr (12, 0))), some (.inl a1)], [.inr (.inl (Int64.ofInt (-4611686018427387904)))]), q1.2)) rfl ?_
    obtain ⟨rfl, rfl⟩ := ret_inj h
    exact Wp.ret (WpD.mono _) rfl hQ
  · have h := (if_neg hc).symm.trans h
    show Wp (WpD (e + 5)) hcX12_likely Q (12, [some (.inr (.inr (12, 0))), some (.inl a1)], []) q1.2
    refine Wp.run (WpD.mono _) 1 (q := ((14, [some (.inr (.inr (12, 0))), some (.inl a1)], [.inl a1, .inr (.inr (12, 0))]), q1.2)) rfl ?_
    obtain ⟨q2, hb, h⟩ := bind_some h
    refine Wp.call (WpD.mono _) rfl (T_X12_thinks (e + 0) N a1 q1.2 _ _ _ hb ?_)
    show Wp (WpD (e + 5)) hcX12_likely Q (17, [some (.inr (.inr (12, 0))), some (.inl a1)], [.inl q2.1]) q2.2
    refine Wp.if0_ne (WpD.mono _) rfl rfl (fun hc => ?_) (fun hc => ?_)
    · have h := (if_pos hc).symm.trans h
      show Wp (WpD (e + 5)) hcX12_likely Q (20, [some (.inr (.inr (12, 0))), some (.inl a1)], []) q2.2
      refine Wp.run (WpD.mono _) 0 (q := ((23, [some (.inr (.inr (12, 0))), some (.inl a1)], [.inr (.inl (Int64.ofInt (-3)))]), q2.2)) rfl ?_
      obtain ⟨rfl, rfl⟩ := ret_inj h
      exact Wp.ret (WpD.mono _) rfl hQ
    · have h := (if_neg hc).symm.trans h
      show Wp (WpD (e + 5)) hcX12_likely Q (24, [some (.inr (.inr (12, 0))), some (.inl a1)], []) q2.2
      refine Wp.run (WpD.mono _) 2 (q := ((29, [some (.inr (.inr (12, 0))), some (.inl a1)], [.inl a1, .inr (.inr (77, 0))]), q2.2)) rfl ?_
      obtain ⟨hc, h⟩ := ite_nn h
      refine Wp.X_ild1 (WpD.mono _) rfl rfl hc ?_
      show Wp (WpD (e + 5)) hcX12_likely Q (30, [some (.inr (.inr (12, 0))), some (.inl a1)], [.inl (q2.2.2.2.1 77 0 (a1).toNatClampNeg)]) q2.2
      refine Wp.run (WpD.mono _) 1 (q := ((34, [some (.inr (.inr (12, 0))), some (.inl a1)], [.inl (q2.2.1 12 0), .inl (q2.2.2.2.1 77 0 (a1).toNatClampNeg)]), q2.2)) rfl ?_
      refine Wp.if2_lt (WpD.mono _) rfl rfl (fun hc => ?_) (fun hc => ?_)
      · have h := (if_pos hc).symm.trans h
        show Wp (WpD (e + 5)) hcX12_likely Q (41, [some (.inr (.inr (12, 0))), some (.inl a1)], []) q2.2
        refine Wp.run (WpD.mono _) 4 (q := ((48, [some (.inr (.inr (12, 0))), some (.inl a1)], [.inl a1, .inr (.inr (77, 0)), .inl (0 : Int32), .inr (.inr (12, 0))]), q2.2)) rfl ?_
        obtain ⟨hc, h⟩ := ite_nn h
        refine Wp.X_ild1 (WpD.mono _) rfl rfl hc ?_
        show Wp (WpD (e + 5)) hcX12_likely Q (49, [some (.inr (.inr (12, 0))), some (.inl a1)], [.inl (q2.2.2.2.1 77 0 (a1).toNatClampNeg), .inl (0 : Int32), .inr (.inr (12, 0))]) q2.2
        refine Wp.run (WpD.mono _) 1 (q := ((51, [some (.inr (.inr (12, 0))), some (.inl a1)], [.inl ((q2.2.2.2.1 77 0 (a1).toNatClampNeg) + (1 : Int32)), .inl (0 : Int32), .inr (.inr (12, 0))]), q2.2)) rfl ?_
        obtain ⟨q3, hb, h⟩ := bind_some h
        refine Wp.call (WpD.mono _) rfl (T_X12_wetOf (e + 1) N (0 : Int32) ((q2.2.2.2.1 77 0 (a1).toNatClampNeg) + (1 : Int32)) q2.2 _ _ _ hb ?_)
        show Wp (WpD (e + 5)) hcX12_likely Q (54, [some (.inr (.inr (12, 0))), some (.inl a1)], [.inr (.inl q3.1)]) q3.2
        obtain ⟨rfl, rfl⟩ := ret_inj h
        exact Wp.ret (WpD.mono _) rfl hQ
      · have h := (if_neg hc).symm.trans h
        show Wp (WpD (e + 5)) hcX12_likely Q (37, [some (.inr (.inr (12, 0))), some (.inl a1)], []) q2.2
        refine Wp.run (WpD.mono _) 1 (q := ((54, [some (.inr (.inr (12, 0))), some (.inl a1)], [.inr (.inl (0 : Int64))]), q2.2)) rfl ?_
        obtain ⟨rfl, rfl⟩ := ret_inj h
        exact Wp.ret (WpD.mono _) rfl hQ

set_option maxRecDepth 100000 in
set_option maxHeartbeats 4000000 in
theorem T_X12_line_b19 (e N : Nat)   (r : Int32) (τ : Mem) (Q : Pst) (hQ : Q (some (.inl r)) τ) : ∀ n, ∀ (x1 : Int32) (x2 : Int32) (x3 : Int64) (x5 : Int32) (σ : Mem), F_X12_line_b19 N n x1 x2 x3 x5 σ = some (r, τ) → Wp (WpD (e + 4)) hcX12_line Q (19, [some (.inr (.inr (12, 0))), some (.inl x1), some (.inl x2), some (.inr (.inl x3)), none, some (.inl x5), none, none], []) σ := by
  intro n
  induction n with
  | zero => intro x1 x2 x3 x5 σ h; cases h
  | succ n ih =>
    intro x1 x2 x3 x5 σ h
    unfold F_X12_line_b19 at h
    refine Wp.run (WpD.mono _) 1 (q := ((22, [some (.inr (.inr (12, 0))), some (.inl x1), some (.inl x2), some (.inr (.inl x3)), none, some (.inl x5), none, none], [.inl x1, .inl x5]), σ)) rfl ?_
    refine Wp.if2_gt (WpD.mono _) rfl rfl (fun hc => ?_) (fun hc => ?_)
    · have h := (if_pos hc).symm.trans h
      show Wp (WpD (e + 4)) hcX12_line Q (81, [some (.inr (.inr (12, 0))), some (.inl x1), some (.inl x2), some (.inr (.inl x3)), none, some (.inl x5), none, none], []) σ
      refine Wp.run (WpD.mono _) 0 (q := ((82, [some (.inr (.inr (12, 0))), some (.inl x1), some (.inl x2), some (.inr (.inl x3)), none, some (.inl x5), none, none], [.inl x2]), σ)) rfl ?_
      obtain ⟨rfl, rfl⟩ := ret_inj h
      exact Wp.ret (WpD.mono _) rfl hQ
    · have h := (if_neg hc).symm.trans h
      show Wp (WpD (e + 4)) hcX12_line Q (25, [some (.inr (.inr (12, 0))), some (.inl x1), some (.inl x2), some (.inr (.inl x3)), none, some (.inl x5), none, none], []) σ
      refine Wp.run (WpD.mono _) 2 (q := ((29, [some (.inr (.inr (12, 0))), some (.inl x1), some (.inl x2), some (.inr (.inl x3)), none, some (.inl x5), none, none], [.inl x5, .inl x1, .inr (.inr (12, 0))]), σ)) rfl ?_
      obtain ⟨q2, hb, h⟩ := bind_some h
      refine Wp.call (WpD.mono _) rfl (T_X12_fallen (e + 0) N x1 x5 σ _ _ _ hb ?_)
      show Wp (WpD (e + 4)) hcX12_line Q (32, [some (.inr (.inr (12, 0))), some (.inl x1), some (.inl x2), some (.inr (.inl x3)), none, some (.inl x5), none, none], [.inr (.inl q2.1)]) q2.2
      refine Wp.run (WpD.mono _) 1 (q := ((34, [some (.inr (.inr (12, 0))), some (.inl x1), some (.inl x2), some (.inr (.inl x3)), none, some (.inl x5), none, none], [.inl x1, .inr (.inr (12, 0)), .inr (.inl q2.1)]), q2.2)) rfl ?_
      obtain ⟨q3, hb, h⟩ := bind_some h
      refine Wp.call (WpD.mono _) rfl (T_X12_costsTo (e + 0) N x1 q2.2 _ _ _ hb ?_)
      show Wp (WpD (e + 4)) hcX12_line Q (37, [some (.inr (.inr (12, 0))), some (.inl x1), some (.inl x2), some (.inr (.inl x3)), none, some (.inl x5), none, none], [.inl q3.1, .inr (.inl q2.1)]) q3.2
      refine Wp.run (WpD.mono _) 14 (q := ((59, [some (.inr (.inr (12, 0))), some (.inl x1), some (.inl x2), some (.inr (.inl x3)), none, some (.inl x5), some (.inr (.inl ((q2.1 * q3.1.toInt64) + (((1000000 : Int64) * (q3.2.1 12 4).toInt64) * (x1 - x5).toInt64)))), none], [.inl x5]), q3.2)) rfl ?_
      refine Wp.if0_eq (WpD.mono _) rfl rfl (fun hc => ?_) (fun hc => ?_)
      · have h := (if_pos hc).symm.trans h
        show Wp (WpD (e + 4)) hcX12_line Q (69, [some (.inr (.inr (12, 0))), some (.inl x1), some (.inl x2), some (.inr (.inl x3)), none, some (.inl x5), some (.inr (.inl ((q2.1 * q3.1.toInt64) + (((1000000 : Int64) * (q3.2.1 12 4).toInt64) * (x1 - x5).toInt64)))), none], []) q3.2
        refine Wp.run (WpD.mono _) 5 (q := ((19, [some (.inr (.inr (12, 0))), some (.inl x1), some (.inl x5), some (.inr (.inl ((q2.1 * q3.1.toInt64) + (((1000000 : Int64) * (q3.2.1 12 4).toInt64) * (x1 - x5).toInt64)))), none, some (.inl (x5 + (1 : Int32))), none, none], []), q3.2)) rfl ?_
        exact Wp.jump (WpD.mono _) rfl (ih x1 x5 ((q2.1 * q3.1.toInt64) + (((1000000 : Int64) * (q3.2.1 12 4).toInt64) * (x1 - x5).toInt64)) (x5 + (1 : Int32)) q3.2 h)
      · have h := (if_neg hc).symm.trans h
        show Wp (WpD (e + 4)) hcX12_line Q (62, [some (.inr (.inr (12, 0))), some (.inl x1), some (.inl x2), some (.inr (.inl x3)), none, some (.inl x5), some (.inr (.inl ((q2.1 * q3.1.toInt64) + (((1000000 : Int64) * (q3.2.1 12 4).toInt64) * (x1 - x5).toInt64)))), none], []) q3.2
        refine Wp.run (WpD.mono _) 2 (q := ((66, [some (.inr (.inr (12, 0))), some (.inl x1), some (.inl x2), some (.inr (.inl x3)), none, some (.inl x5), some (.inr (.inl ((q2.1 * q3.1.toInt64) + (((1000000 : Int64) * (q3.2.1 12 4).toInt64) * (x1 - x5).toInt64)))), none], [.inl (lg_cmp ((q2.1 * q3.1.toInt64) + (((1000000 : Int64) * (q3.2.1 12 4).toInt64) * (x1 - x5).toInt64)) x3)]), q3.2)) rfl ?_
        refine Wp.if0_ge (WpD.mono _) rfl rfl (fun hc => ?_) (fun hc => ?_)
        · have h := (if_pos hc).symm.trans h
          show Wp (WpD (e + 4)) hcX12_line Q (75, [some (.inr (.inr (12, 0))), some (.inl x1), some (.inl x2), some (.inr (.inl x3)), none, some (.inl x5), some (.inr (.inl ((q2.1 * q3.1.toInt64) + (((1000000 : Int64) * (q3.2.1 12 4).toInt64) * (x1 - x5).toInt64)))), none], []) q3.2
          refine Wp.run (WpD.mono _) 1 (q := ((19, [some (.inr (.inr (12, 0))), some (.inl x1), some (.inl x2), some (.inr (.inl x3)), none, some (.inl (x5 + (1 : Int32))), none, none], []), q3.2)) rfl ?_
          exact Wp.jump (WpD.mono _) rfl (ih x1 x2 x3 (x5 + (1 : Int32)) q3.2 h)
        · have h := (if_neg hc).symm.trans h
          show Wp (WpD (e + 4)) hcX12_line Q (69, [some (.inr (.inr (12, 0))), some (.inl x1), some (.inl x2), some (.inr (.inl x3)), none, some (.inl x5), some (.inr (.inl ((q2.1 * q3.1.toInt64) + (((1000000 : Int64) * (q3.2.1 12 4).toInt64) * (x1 - x5).toInt64)))), none], []) q3.2
          refine Wp.run (WpD.mono _) 5 (q := ((19, [some (.inr (.inr (12, 0))), some (.inl x1), some (.inl x5), some (.inr (.inl ((q2.1 * q3.1.toInt64) + (((1000000 : Int64) * (q3.2.1 12 4).toInt64) * (x1 - x5).toInt64)))), none, some (.inl (x5 + (1 : Int32))), none, none], []), q3.2)) rfl ?_
          exact Wp.jump (WpD.mono _) rfl (ih x1 x5 ((q2.1 * q3.1.toInt64) + (((1000000 : Int64) * (q3.2.1 12 4).toInt64) * (x1 - x5).toInt64)) (x5 + (1 : Int32)) q3.2 h)

set_option maxRecDepth 100000 in
set_option maxHeartbeats 4000000 in
theorem T_X12_line (e N : Nat)  (a1 : Int32) (σ : Mem) (r : Int32) (τ : Mem) (Q : Pst) (h : F_X12_line N a1 σ = some (r, τ)) (hQ : Q (some (.inl r)) τ) : WpD (e + 5) mX12_line [.inr (.inr (12, 0)), .inl a1] σ Q := by
  refine WpD.of (d := e + 4) (Nat.le_of_ble_eq_true rfl) (Nat.le_of_ble_eq_true rfl) ?_
  show Wp (WpD (e + 4)) hcX12_line Q (0, [some (.inr (.inr (12, 0))), some (.inl a1), none, none, none, none, none, none], []) σ
  unfold F_X12_line at h
  refine Wp.run (WpD.mono _) 2 (q := ((3, [some (.inr (.inr (12, 0))), some (.inl a1), none, none, none, none, none, none], [.inl (5 : Int32), .inl (0 : Int32), .inl a1]), σ)) rfl ?_
  obtain ⟨q1, hb, h⟩ := bind_some h
  refine Wp.call (WpD.mono _) rfl (T_X12_in (e + 3) N a1 (0 : Int32) (5 : Int32) σ _ _ _ hb ?_)
  show Wp (WpD (e + 4)) hcX12_line Q (6, [some (.inr (.inr (12, 0))), some (.inl a1), none, none, none, none, none, none], [.inl q1.1]) q1.2
  refine Wp.if0_ne (WpD.mono _) rfl rfl (fun hc => ?_) (fun hc => ?_)
  · have h := (if_pos hc).symm.trans h
    show Wp (WpD (e + 4)) hcX12_line Q (9, [some (.inr (.inr (12, 0))), some (.inl a1), none, none, none, none, none, none], []) q1.2
    refine Wp.run (WpD.mono _) 0 (q := ((11, [some (.inr (.inr (12, 0))), some (.inl a1), none, none, none, none, none, none], [.inl (Int32.ofInt (-2))]), q1.2)) rfl ?_
    obtain ⟨rfl, rfl⟩ := ret_inj h
    exact Wp.ret (WpD.mono _) rfl hQ
  · have h := (if_neg hc).symm.trans h
    show Wp (WpD (e + 4)) hcX12_line Q (12, [some (.inr (.inr (12, 0))), some (.inl a1), none, none, none, none, none, none], []) q1.2
    refine Wp.run (WpD.mono _) 5 (q := ((19, [some (.inr (.inr (12, 0))), some (.inl a1), some (.inl (0 : Int32)), some (.inr (.inl (0 : Int64))), none, some (.inl (0 : Int32)), none, none], []), q1.2)) rfl ?_
    exact Wp.jump (WpD.mono _) rfl ((T_X12_line_b19 e N  r τ Q hQ  N) a1 (0 : Int32) (0 : Int64) (0 : Int32) q1.2 h)

set_option maxRecDepth 100000 in
set_option maxHeartbeats 4000000 in
theorem T_X12_means (e N : Nat)  (a1 : Int32) (a2 : Int32) (σ : Mem) (r : Unit) (τ : Mem) (Q : Pst) (h : F_X12_means N a1 a2 σ = some (r, τ)) (hQ : Q (none) τ) : WpD (e + 36) mX12_means [.inr (.inr (12, 0)), .inl a1, .inl a2] σ Q := by
  refine WpD.of (d := e + 35) (Nat.le_of_ble_eq_true rfl) (Nat.le_of_ble_eq_true rfl) ?_
  show Wp (WpD (e + 35)) hcX12_means Q (0, [some (.inr (.inr (12, 0))), some (.inl a1), some (.inl a2)], []) σ
  unfold F_X12_means at h
  refine Wp.run (WpD.mono _) 14 (q := ((23, [some (.inr (.inr (12, 0))), some (.inl a1), some (.inl a2)], [.inl (0 : Int32), .inl a2, .inr (.inr (12, 0))]), (σ.1, (hwU2 (hwU2 (hwU2 (hwU2 σ.2.1 12 55 (0 : Int64)) 12 56 (0 : Int64)) 12 57 (0 : Int64)) 12 58 (0 : Int64)), σ.2.2.1, σ.2.2.2.1, σ.2.2.2.2))) rfl ?_
  obtain ⟨q1, hb, h⟩ := bind_some h
  refine Wp.call (WpD.mono _) rfl (T_X12_begins (e + 34) N a2 (0 : Int32) (σ.1, (hwU2 (hwU2 (hwU2 (hwU2 σ.2.1 12 55 (0 : Int64)) 12 56 (0 : Int64)) 12 57 (0 : Int64)) 12 58 (0 : Int64)), σ.2.2.1, σ.2.2.2.1, σ.2.2.2.2) _ _ _ hb ?_)
  show Wp (WpD (e + 35)) hcX12_means Q (26, [some (.inr (.inr (12, 0))), some (.inl a1), some (.inl a2)], []) q1.2
  refine Wp.run (WpD.mono _) 6 (q := ((35, [some (.inr (.inr (12, 0))), some (.inl a1), some (.inl a2)], [.inl (0 : Int32), .inr (.inl (1000000 : Int64)), .inl (0 : Int32), .inl (Int32.ofInt (-1)), .inl (0 : Int32), .inl a1, .inr (.inr (12, 0))]), q1.2)) rfl ?_
  obtain ⟨q2, hb, h⟩ := bind_some h
  refine Wp.call (WpD.mono _) rfl (T_X12_digs (e + 0) N a1 (0 : Int32) (Int32.ofInt (-1)) (0 : Int32) (1000000 : Int64) (0 : Int32) q1.2 _ _ _ hb ?_)
  show Wp (WpD (e + 35)) hcX12_means Q (38, [some (.inr (.inr (12, 0))), some (.inl a1), some (.inl a2)], []) q2.2
  obtain ⟨rfl, rfl⟩ := ret_inj h
  exact Wp.ret (WpD.mono _) rfl hQ

set_option maxRecDepth 100000 in
set_option maxHeartbeats 4000000 in
theorem T_X12_mean (e N : Nat)  (a1 : Int32) (a2 : Int32) (a3 : Int32) (σ : Mem) (r : Int64) (τ : Mem) (Q : Pst) (h : F_X12_mean N a1 a2 a3 σ = some (r, τ)) (hQ : Q (some (.inr (.inl r))) τ) : WpD (e + 37) mX12_mean [.inr (.inr (12, 0)), .inl a1, .inl a2, .inl a3] σ Q := by
  refine WpD.of (d := e + 36) (Nat.le_of_ble_eq_true rfl) (Nat.le_of_ble_eq_true rfl) ?_
  show Wp (WpD (e + 36)) hcX12_mean Q (0, [some (.inr (.inr (12, 0))), some (.inl a1), some (.inl a2), some (.inl a3)], []) σ
  unfold F_X12_mean at h
  refine Wp.run (WpD.mono _) 1 (q := ((2, [some (.inr (.inr (12, 0))), some (.inl a1), some (.inl a2), some (.inl a3)], [.inl a1, .inr (.inr (12, 0))]), σ)) rfl ?_
  obtain ⟨q1, hb, h⟩ := bind_some h
  refine Wp.call (WpD.mono _) rfl (T_X12_isRule (e + 34) N a1 σ _ _ _ hb ?_)
  show Wp (WpD (e + 36)) hcX12_mean Q (5, [some (.inr (.inr (12, 0))), some (.inl a1), some (.inl a2), some (.inl a3)], [.inl q1.1]) q1.2
  refine Wp.if0_eq (WpD.mono _) rfl rfl (fun hc => ?_) (fun hc => ?_)
  · have h := (if_pos hc).symm.trans h
    show Wp (WpD (e + 36)) hcX12_mean Q (25, [some (.inr (.inr (12, 0))), some (.inl a1), some (.inl a2), some (.inl a3)], []) q1.2
    refine Wp.run (WpD.mono _) 0 (q := ((28, [none, none, none, none], [.inr (.inl (Int64.ofInt (-4611686018427387904)))]), q1.2)) rfl ?_
    obtain ⟨rfl, rfl⟩ := ret_inj h
    exact Wp.ret (WpD.mono _) rfl hQ
  · have h := (if_neg hc).symm.trans h
    show Wp (WpD (e + 36)) hcX12_mean Q (8, [some (.inr (.inr (12, 0))), some (.inl a1), some (.inl a2), some (.inl a3)], []) q1.2
    refine Wp.run (WpD.mono _) 1 (q := ((10, [some (.inr (.inr (12, 0))), some (.inl a1), some (.inl a2), some (.inl a3)], [.inl a2, .inr (.inr (12, 0))]), q1.2)) rfl ?_
    obtain ⟨q2, hb, h⟩ := bind_some h
    refine Wp.call (WpD.mono _) rfl (T_X12_isPlace (e + 34) N a2 q1.2 _ _ _ hb ?_)
    show Wp (WpD (e + 36)) hcX12_mean Q (13, [some (.inr (.inr (12, 0))), some (.inl a1), some (.inl a2), some (.inl a3)], [.inl q2.1]) q2.2
    refine Wp.if0_eq (WpD.mono _) rfl rfl (fun hc => ?_) (fun hc => ?_)
    · have h := (if_pos hc).symm.trans h
      show Wp (WpD (e + 36)) hcX12_mean Q (25, [some (.inr (.inr (12, 0))), some (.inl a1), some (.inl a2), some (.inl a3)], []) q2.2
      refine Wp.run (WpD.mono _) 0 (q := ((28, [none, none, none, none], [.inr (.inl (Int64.ofInt (-4611686018427387904)))]), q2.2)) rfl ?_
      obtain ⟨rfl, rfl⟩ := ret_inj h
      exact Wp.ret (WpD.mono _) rfl hQ
    · have h := (if_neg hc).symm.trans h
      show Wp (WpD (e + 36)) hcX12_mean Q (16, [some (.inr (.inr (12, 0))), some (.inl a1), some (.inl a2), some (.inl a3)], []) q2.2
      refine Wp.run (WpD.mono _) 2 (q := ((19, [some (.inr (.inr (12, 0))), some (.inl a1), some (.inl a2), some (.inl a3)], [.inl (3 : Int32), .inl (0 : Int32), .inl a3]), q2.2)) rfl ?_
      obtain ⟨q3, hb, h⟩ := bind_some h
      refine Wp.call (WpD.mono _) rfl (T_X12_in (e + 35) N a3 (0 : Int32) (3 : Int32) q2.2 _ _ _ hb ?_)
      show Wp (WpD (e + 36)) hcX12_mean Q (22, [some (.inr (.inr (12, 0))), some (.inl a1), some (.inl a2), some (.inl a3)], [.inl q3.1]) q3.2
      refine Wp.if0_ne (WpD.mono _) rfl rfl (fun hc => ?_) (fun hc => ?_)
      · have h := (if_pos hc).symm.trans h
        show Wp (WpD (e + 36)) hcX12_mean Q (25, [some (.inr (.inr (12, 0))), some (.inl a1), some (.inl a2), some (.inl a3)], []) q3.2
        refine Wp.run (WpD.mono _) 0 (q := ((28, [none, none, none, none], [.inr (.inl (Int64.ofInt (-4611686018427387904)))]), q3.2)) rfl ?_
        obtain ⟨rfl, rfl⟩ := ret_inj h
        exact Wp.ret (WpD.mono _) rfl hQ
      · have h := (if_neg hc).symm.trans h
        show Wp (WpD (e + 36)) hcX12_mean Q (29, [some (.inr (.inr (12, 0))), some (.inl a1), some (.inl a2), some (.inl a3)], []) q3.2
        refine Wp.run (WpD.mono _) 2 (q := ((32, [some (.inr (.inr (12, 0))), some (.inl a1), some (.inl a2), some (.inl a3)], [.inl a2, .inl a1, .inr (.inr (12, 0))]), q3.2)) rfl ?_
        obtain ⟨q4, hb, h⟩ := bind_some h
        refine Wp.call (WpD.mono _) rfl (T_X12_means (e + 0) N a1 a2 q3.2 _ _ _ hb ?_)
        show Wp (WpD (e + 36)) hcX12_mean Q (35, [some (.inr (.inr (12, 0))), some (.inl a1), some (.inl a2), some (.inl a3)], []) q4.2
        refine Wp.run (WpD.mono _) 0 (q := ((36, [some (.inr (.inr (12, 0))), some (.inl a1), some (.inl a2), some (.inl a3)], [.inl a3]), q4.2)) rfl ?_
        refine Wp.if0_ne (WpD.mono _) rfl rfl (fun hc => ?_) (fun hc => ?_)
        · have h := (if_pos hc).symm.trans h
          show Wp (WpD (e + 36)) hcX12_mean Q (39, [some (.inr (.inr (12, 0))), some (.inl a1), some (.inl a2), some (.inl a3)], []) q4.2
          refine Wp.run (WpD.mono _) 2 (q := ((74, [some (.inr (.inr (12, 0))), some (.inl a1), some (.inl a2), some (.inl a3)], [.inr (.inl (q4.2.2.1 12 55))]), q4.2)) rfl ?_
          obtain ⟨rfl, rfl⟩ := ret_inj h
          exact Wp.ret (WpD.mono _) rfl hQ
        · have h := (if_neg hc).symm.trans h
          show Wp (WpD (e + 36)) hcX12_mean Q (46, [some (.inr (.inr (12, 0))), some (.inl a1), some (.inl a2), some (.inl a3)], []) q4.2
          refine Wp.run (WpD.mono _) 1 (q := ((48, [some (.inr (.inr (12, 0))), some (.inl a1), some (.inl a2), some (.inl a3)], [.inl (1 : Int32), .inl a3]), q4.2)) rfl ?_
          refine Wp.if2_ne (WpD.mono _) rfl rfl (fun hc => ?_) (fun hc => ?_)
          · have h := (if_pos hc).symm.trans h
            show Wp (WpD (e + 36)) hcX12_mean Q (51, [some (.inr (.inr (12, 0))), some (.inl a1), some (.inl a2), some (.inl a3)], []) q4.2
            refine Wp.run (WpD.mono _) 2 (q := ((74, [some (.inr (.inr (12, 0))), some (.inl a1), some (.inl a2), some (.inl a3)], [.inr (.inl (q4.2.2.1 12 56))]), q4.2)) rfl ?_
            obtain ⟨rfl, rfl⟩ := ret_inj h
            exact Wp.ret (WpD.mono _) rfl hQ
          · have h := (if_neg hc).symm.trans h
            show Wp (WpD (e + 36)) hcX12_mean Q (58, [some (.inr (.inr (12, 0))), some (.inl a1), some (.inl a2), some (.inl a3)], []) q4.2
            refine Wp.run (WpD.mono _) 1 (q := ((60, [some (.inr (.inr (12, 0))), some (.inl a1), some (.inl a2), some (.inl a3)], [.inl (2 : Int32), .inl a3]), q4.2)) rfl ?_
            refine Wp.if2_ne (WpD.mono _) rfl rfl (fun hc => ?_) (fun hc => ?_)
            · have h := (if_pos hc).symm.trans h
              show Wp (WpD (e + 36)) hcX12_mean Q (63, [some (.inr (.inr (12, 0))), some (.inl a1), some (.inl a2), some (.inl a3)], []) q4.2
              refine Wp.run (WpD.mono _) 2 (q := ((74, [some (.inr (.inr (12, 0))), some (.inl a1), some (.inl a2), some (.inl a3)], [.inr (.inl (q4.2.2.1 12 57))]), q4.2)) rfl ?_
              obtain ⟨rfl, rfl⟩ := ret_inj h
              exact Wp.ret (WpD.mono _) rfl hQ
            · have h := (if_neg hc).symm.trans h
              show Wp (WpD (e + 36)) hcX12_mean Q (70, [some (.inr (.inr (12, 0))), some (.inl a1), some (.inl a2), some (.inl a3)], []) q4.2
              refine Wp.run (WpD.mono _) 1 (q := ((74, [some (.inr (.inr (12, 0))), some (.inl a1), some (.inl a2), some (.inl a3)], [.inr (.inl (q4.2.2.1 12 58))]), q4.2)) rfl ?_
              obtain ⟨rfl, rfl⟩ := ret_inj h
              exact Wp.ret (WpD.mono _) rfl hQ

set_option maxRecDepth 100000 in
set_option maxHeartbeats 4000000 in
theorem T_X12_next_b31 (e N : Nat)  (k6 : Int32 → Int32 → Int32 → Mem → Option (Int32 × Mem)) (r : Int32) (τ : Mem) (Q : Pst) (hQ : Q (some (.inl r)) τ) (hk6 : ∀ (x1 : Int32) (x2 : Int32) (x3 : Int32) (σ : Mem), k6 x1 x2 x3 σ = some (r, τ) → Wp (WpD (e + 25)) hcX12_next Q (6, [some (.inr (.inr (12, 0))), some (.inl x1), some (.inl x2), some (.inl x3), none], []) σ) : ∀ (x1 : Int32) (x2 : Int32) (x3 : Int32) (s0 : Int32) (σ : Mem), F_X12_next_b31 N k6 x1 x2 x3 s0 σ = some (r, τ) → Wp (WpD (e + 25)) hcX12_next Q (31, [some (.inr (.inr (12, 0))), some (.inl x1), some (.inl x2), some (.inl x3), none], [.inl s0]) σ := by
  intro x1 x2 x3 s0 σ h
  unfold F_X12_next_b31 at h
  refine Wp.run (WpD.mono _) 1 (q := ((35, [some (.inr (.inr (12, 0))), some (.inl x1), some (.inl x2), some (.inl x3), some (.inl s0)], [.inl s0]), σ)) rfl ?_
  refine Wp.if0_lt (WpD.mono _) rfl rfl (fun hc => ?_) (fun hc => ?_)
  · have h := (if_pos hc).symm.trans h
    show Wp (WpD (e + 25)) hcX12_next Q (63, [some (.inr (.inr (12, 0))), some (.inl x1), some (.inl x2), some (.inl x3), some (.inl s0)], []) σ
    refine Wp.run (WpD.mono _) 1 (q := ((6, [some (.inr (.inr (12, 0))), some (.inl x1), some (.inl x2), some (.inl (x3 + (1 : Int32))), none], []), σ)) rfl ?_
    exact Wp.jump (WpD.mono _) rfl (hk6 x1 x2 (x3 + (1 : Int32)) σ h)
  · have h := (if_neg hc).symm.trans h
    show Wp (WpD (e + 25)) hcX12_next Q (38, [some (.inr (.inr (12, 0))), some (.inl x1), some (.inl x2), some (.inl x3), some (.inl s0)], []) σ
    refine Wp.run (WpD.mono _) 2 (q := ((44, [some (.inr (.inr (12, 0))), some (.inl x1), some (.inl x2), some (.inl x3), some (.inl s0)], [.inl (σ.1 12 1), .inl s0]), σ)) rfl ?_
    refine Wp.if2_gt (WpD.mono _) rfl rfl (fun hc => ?_) (fun hc => ?_)
    · have h := (if_pos hc).symm.trans h
      show Wp (WpD (e + 25)) hcX12_next Q (63, [some (.inr (.inr (12, 0))), some (.inl x1), some (.inl x2), some (.inl x3), some (.inl s0)], []) σ
      refine Wp.run (WpD.mono _) 1 (q := ((6, [some (.inr (.inr (12, 0))), some (.inl x1), some (.inl x2), some (.inl (x3 + (1 : Int32))), none], []), σ)) rfl ?_
      exact Wp.jump (WpD.mono _) rfl (hk6 x1 x2 (x3 + (1 : Int32)) σ h)
    · have h := (if_neg hc).symm.trans h
      show Wp (WpD (e + 25)) hcX12_next Q (47, [some (.inr (.inr (12, 0))), some (.inl x1), some (.inl x2), some (.inl x3), some (.inl s0)], []) σ
      refine Wp.run (WpD.mono _) 1 (q := ((49, [some (.inr (.inr (12, 0))), some (.inl x1), some (.inl x2), some (.inl x3), some (.inl s0)], [.inl (Int32.ofInt (-1)), .inl x1]), σ)) rfl ?_
      refine Wp.if2_eq (WpD.mono _) rfl rfl (fun hc => ?_) (fun hc => ?_)
      · have h := (if_pos hc).symm.trans h
        show Wp (WpD (e + 25)) hcX12_next Q (58, [some (.inr (.inr (12, 0))), some (.inl x1), some (.inl x2), some (.inl x3), some (.inl s0)], []) σ
        refine Wp.run (WpD.mono _) 5 (q := ((6, [some (.inr (.inr (12, 0))), some (.inl x3), some (.inl s0), some (.inl (x3 + (1 : Int32))), none], []), σ)) rfl ?_
        exact Wp.jump (WpD.mono _) rfl (hk6 x3 s0 (x3 + (1 : Int32)) σ h)
      · have h := (if_neg hc).symm.trans h
        show Wp (WpD (e + 25)) hcX12_next Q (52, [some (.inr (.inr (12, 0))), some (.inl x1), some (.inl x2), some (.inl x3), some (.inl s0)], []) σ
        refine Wp.run (WpD.mono _) 1 (q := ((55, [some (.inr (.inr (12, 0))), some (.inl x1), some (.inl x2), some (.inl x3), some (.inl s0)], [.inl x2, .inl s0]), σ)) rfl ?_
        refine Wp.if2_ge (WpD.mono _) rfl rfl (fun hc => ?_) (fun hc => ?_)
        · have h := (if_pos hc).symm.trans h
          show Wp (WpD (e + 25)) hcX12_next Q (63, [some (.inr (.inr (12, 0))), some (.inl x1), some (.inl x2), some (.inl x3), some (.inl s0)], []) σ
          refine Wp.run (WpD.mono _) 1 (q := ((6, [some (.inr (.inr (12, 0))), some (.inl x1), some (.inl x2), some (.inl (x3 + (1 : Int32))), none], []), σ)) rfl ?_
          exact Wp.jump (WpD.mono _) rfl (hk6 x1 x2 (x3 + (1 : Int32)) σ h)
        · have h := (if_neg hc).symm.trans h
          show Wp (WpD (e + 25)) hcX12_next Q (58, [some (.inr (.inr (12, 0))), some (.inl x1), some (.inl x2), some (.inl x3), some (.inl s0)], []) σ
          refine Wp.run (WpD.mono _) 5 (q := ((6, [some (.inr (.inr (12, 0))), some (.inl x3), some (.inl s0), some (.inl (x3 + (1 : Int32))), none], []), σ)) rfl ?_
          exact Wp.jump (WpD.mono _) rfl (hk6 x3 s0 (x3 + (1 : Int32)) σ h)

set_option maxRecDepth 100000 in
set_option maxHeartbeats 4000000 in
theorem T_X12_next_b6 (e N : Nat)   (r : Int32) (τ : Mem) (Q : Pst) (hQ : Q (some (.inl r)) τ) : ∀ n, ∀ (x1 : Int32) (x2 : Int32) (x3 : Int32) (σ : Mem), F_X12_next_b6 N n x1 x2 x3 σ = some (r, τ) → Wp (WpD (e + 25)) hcX12_next Q (6, [some (.inr (.inr (12, 0))), some (.inl x1), some (.inl x2), some (.inl x3), none], []) σ := by
  intro n
  induction n with
  | zero => intro x1 x2 x3 σ h; cases h
  | succ n ih =>
    intro x1 x2 x3 σ h
    unfold F_X12_next_b6 at h
    refine Wp.run (WpD.mono _) 2 (q := ((11, [some (.inr (.inr (12, 0))), some (.inl x1), some (.inl x2), some (.inl x3), none], [.inl (σ.1 12 10), .inl x3]), σ)) rfl ?_
    refine Wp.if2_ge (WpD.mono _) rfl rfl (fun hc => ?_) (fun hc => ?_)
    · have h := (if_pos hc).symm.trans h
      show Wp (WpD (e + 25)) hcX12_next Q (69, [some (.inr (.inr (12, 0))), some (.inl x1), some (.inl x2), some (.inl x3), none], []) σ
      refine Wp.run (WpD.mono _) 0 (q := ((70, [some (.inr (.inr (12, 0))), some (.inl x1), some (.inl x2), some (.inl x3), none], [.inl x1]), σ)) rfl ?_
      obtain ⟨rfl, rfl⟩ := ret_inj h
      exact Wp.ret (WpD.mono _) rfl hQ
    · have h := (if_neg hc).symm.trans h
      show Wp (WpD (e + 25)) hcX12_next Q (14, [some (.inr (.inr (12, 0))), some (.inl x1), some (.inl x2), some (.inl x3), none], []) σ
      refine Wp.run (WpD.mono _) 1 (q := ((16, [some (.inr (.inr (12, 0))), some (.inl x1), some (.inl x2), some (.inl x3), none], [.inl x3, .inr (.inr (12, 0))]), σ)) rfl ?_
      obtain ⟨q1, hb, h⟩ := bind_some h
      refine Wp.call (WpD.mono _) rfl (T_X12_goesHere (e + 19) N x3 σ _ _ _ hb ?_)
      show Wp (WpD (e + 25)) hcX12_next Q (19, [some (.inr (.inr (12, 0))), some (.inl x1), some (.inl x2), some (.inl x3), none], [.inl q1.1]) q1.2
      refine Wp.if0_eq (WpD.mono _) rfl rfl (fun hc => ?_) (fun hc => ?_)
      · have h := (if_pos hc).symm.trans h
        show Wp (WpD (e + 25)) hcX12_next Q (30, [some (.inr (.inr (12, 0))), some (.inl x1), some (.inl x2), some (.inl x3), none], []) q1.2
        refine Wp.run (WpD.mono _) 0 (q := ((31, [some (.inr (.inr (12, 0))), some (.inl x1), some (.inl x2), some (.inl x3), none], [.inl (Int32.ofInt (-1))]), q1.2)) rfl ?_
        exact Wp.jump (WpD.mono _) rfl ((T_X12_next_b31 e N (F_X12_next_b6 N n) r τ Q hQ ih) x1 x2 x3 (Int32.ofInt (-1)) q1.2 h)
      · have h := (if_neg hc).symm.trans h
        show Wp (WpD (e + 25)) hcX12_next Q (22, [some (.inr (.inr (12, 0))), some (.inl x1), some (.inl x2), some (.inl x3), none], []) q1.2
        refine Wp.run (WpD.mono _) 1 (q := ((24, [some (.inr (.inr (12, 0))), some (.inl x1), some (.inl x2), some (.inl x3), none], [.inl x3, .inr (.inr (12, 0))]), q1.2)) rfl ?_
        obtain ⟨q2, hb, h⟩ := bind_some h
        refine Wp.call (WpD.mono _) rfl (T_X12_indexOf (e + 0) N x3 q1.2 _ _ _ hb ?_)
        show Wp (WpD (e + 25)) hcX12_next Q (27, [some (.inr (.inr (12, 0))), some (.inl x1), some (.inl x2), some (.inl x3), none], [.inl q2.1]) q2.2
        refine Wp.run (WpD.mono _) 0 (q := ((31, [some (.inr (.inr (12, 0))), some (.inl x1), some (.inl x2), some (.inl x3), none], [.inl q2.1]), q2.2)) rfl ?_
        exact Wp.jump (WpD.mono _) rfl ((T_X12_next_b31 e N (F_X12_next_b6 N n) r τ Q hQ ih) x1 x2 x3 q2.1 q2.2 h)

set_option maxRecDepth 100000 in
set_option maxHeartbeats 4000000 in
theorem T_X12_next (e N : Nat)   (σ : Mem) (r : Int32) (τ : Mem) (Q : Pst) (h : F_X12_next N  σ = some (r, τ)) (hQ : Q (some (.inl r)) τ) : WpD (e + 26) mX12_next [.inr (.inr (12, 0))] σ Q := by
  refine WpD.of (d := e + 25) (Nat.le_of_ble_eq_true rfl) (Nat.le_of_ble_eq_true rfl) ?_
  show Wp (WpD (e + 25)) hcX12_next Q (0, [some (.inr (.inr (12, 0))), none, none, none, none], []) σ
  unfold F_X12_next at h
  refine Wp.run (WpD.mono _) 5 (q := ((6, [some (.inr (.inr (12, 0))), some (.inl (Int32.ofInt (-1))), some (.inl (0 : Int32)), some (.inl (0 : Int32)), none], []), σ)) rfl ?_
  exact Wp.jump (WpD.mono _) rfl ((T_X12_next_b6 e N  r τ Q hQ  N) (Int32.ofInt (-1)) (0 : Int32) (0 : Int32) σ h)

set_option maxRecDepth 100000 in
set_option maxHeartbeats 4000000 in
theorem T_X12_place_b109 (e N : Nat)   (r : Int32) (τ : Mem) (Q : Pst) (hQ : Q (some (.inl r)) τ) : ∀ n, ∀ (x1 : Int32) (x3 : Int32) (σ : Mem), F_X12_place_b109 N n x1 x3 σ = some (r, τ) → Wp (WpD (e + 1)) hcX12_place Q (109, [some (.inr (.inr (12, 0))), some (.inl x1), none, some (.inl x3)], []) σ := by
  intro n
  induction n with
  | zero => intro x1 x3 σ h; cases h
  | succ n ih =>
    intro x1 x3 σ h
    unfold F_X12_place_b109 at h
    refine Wp.run (WpD.mono _) 2 (q := ((114, [some (.inr (.inr (12, 0))), some (.inl x1), none, some (.inl x3)], [.inl (σ.1 12 5), .inl x3]), σ)) rfl ?_
    refine Wp.if2_ge (WpD.mono _) rfl rfl (fun hc => ?_) (fun hc => ?_)
    · have h := (if_pos hc).symm.trans h
      show Wp (WpD (e + 1)) hcX12_place Q (147, [some (.inr (.inr (12, 0))), some (.inl x1), none, some (.inl x3)], []) σ
      refine Wp.run (WpD.mono _) 9 (q := ((163, [some (.inr (.inr (12, 0))), some (.inl x1), none, some (.inl x3)], [.inl (((σ.1 12 10) + (1 : Int32)) - (1 : Int32))]), ((hwU2 σ.1 12 10 ((σ.1 12 10) + (1 : Int32))), σ.2.1, σ.2.2.1, σ.2.2.2.1, σ.2.2.2.2))) rfl ?_
      obtain ⟨rfl, rfl⟩ := ret_inj h
      exact Wp.ret (WpD.mono _) rfl hQ
    · have h := (if_neg hc).symm.trans h
      show Wp (WpD (e + 1)) hcX12_place Q (117, [some (.inr (.inr (12, 0))), some (.inl x1), none, some (.inl x3)], []) σ
      refine Wp.run (WpD.mono _) 14 (q := ((139, [some (.inr (.inr (12, 0))), some (.inl x1), none, some (.inl x3)], [.inl (((40 : Int32) * x1) + x3), .inr (.inr (97, 0)), .inl (((5 : Int32) * (σ.1 12 10)) + x3), .inr (.inr (76, 0))]), σ)) rfl ?_
      obtain ⟨hc, h⟩ := ite_nn h
      refine Wp.X_ild1 (WpD.mono _) rfl rfl hc ?_
      show Wp (WpD (e + 1)) hcX12_place Q (140, [some (.inr (.inr (12, 0))), some (.inl x1), none, some (.inl x3)], [.inl (σ.2.2.1 97 0 ((((40 : Int32) * x1) + x3)).toNatClampNeg), .inl (((5 : Int32) * (σ.1 12 10)) + x3), .inr (.inr (76, 0))]) σ
      obtain ⟨hc, h⟩ := ite_nn h
      refine Wp.X_ist (WpD.mono _) rfl rfl hc ?_
      show Wp (WpD (e + 1)) hcX12_place Q (141, [some (.inr (.inr (12, 0))), some (.inl x1), none, some (.inl x3)], []) (σ.1, σ.2.1, (hwU3 σ.2.2.1 76 0 ((((5 : Int32) * (σ.1 12 10)) + x3)).toNatClampNeg (σ.2.2.1 97 0 ((((40 : Int32) * x1) + x3)).toNatClampNeg)), σ.2.2.2.1, σ.2.2.2.2)
      refine Wp.run (WpD.mono _) 1 (q := ((109, [some (.inr (.inr (12, 0))), some (.inl x1), none, some (.inl (x3 + (1 : Int32)))], []), (σ.1, σ.2.1, (hwU3 σ.2.2.1 76 0 ((((5 : Int32) * (σ.1 12 10)) + x3)).toNatClampNeg (σ.2.2.1 97 0 ((((40 : Int32) * x1) + x3)).toNatClampNeg)), σ.2.2.2.1, σ.2.2.2.2))) rfl ?_
      exact Wp.jump (WpD.mono _) rfl (ih x1 (x3 + (1 : Int32)) (σ.1, σ.2.1, (hwU3 σ.2.2.1 76 0 ((((5 : Int32) * (σ.1 12 10)) + x3)).toNatClampNeg (σ.2.2.1 97 0 ((((40 : Int32) * x1) + x3)).toNatClampNeg)), σ.2.2.2.1, σ.2.2.2.2) h)

set_option maxRecDepth 100000 in
set_option maxHeartbeats 4000000 in
theorem T_X12_place_b89 (e N : Nat)   (r : Int32) (τ : Mem) (Q : Pst) (hQ : Q (some (.inl r)) τ) : ∀ (x1 : Int32) (x2 : Int32) (σ : Mem), F_X12_place_b89 N x1 x2 σ = some (r, τ) → Wp (WpD (e + 1)) hcX12_place Q (89, [some (.inr (.inr (12, 0))), some (.inl x1), some (.inl x2), none], []) σ := by
  intro x1 x2 σ h
  unfold F_X12_place_b89 at h
  refine Wp.run (WpD.mono _) 0 (q := ((90, [some (.inr (.inr (12, 0))), some (.inl x1), some (.inl x2), none], [.inl x2]), σ)) rfl ?_
  refine Wp.if0_ne (WpD.mono _) rfl rfl (fun hc => ?_) (fun hc => ?_)
  · have h := (if_pos hc).symm.trans h
    show Wp (WpD (e + 1)) hcX12_place Q (93, [some (.inr (.inr (12, 0))), some (.inl x1), some (.inl x2), none], []) σ
    refine Wp.run (WpD.mono _) 0 (q := ((95, [some (.inr (.inr (12, 0))), some (.inl x1), some (.inl x2), none], [.inl (Int32.ofInt (-2))]), σ)) rfl ?_
    obtain ⟨rfl, rfl⟩ := ret_inj h
    exact Wp.ret (WpD.mono _) rfl hQ
  · have h := (if_neg hc).symm.trans h
    show Wp (WpD (e + 1)) hcX12_place Q (96, [some (.inr (.inr (12, 0))), some (.inl x1), some (.inl x2), none], []) σ
    refine Wp.run (WpD.mono _) 2 (q := ((101, [some (.inr (.inr (12, 0))), some (.inl x1), some (.inl x2), none], [.inl (4 : Int32), .inl (σ.1 12 10)]), σ)) rfl ?_
    refine Wp.if2_ne (WpD.mono _) rfl rfl (fun hc => ?_) (fun hc => ?_)
    · have h := (if_pos hc).symm.trans h
      show Wp (WpD (e + 1)) hcX12_place Q (104, [some (.inr (.inr (12, 0))), some (.inl x1), some (.inl x2), none], []) σ
      refine Wp.run (WpD.mono _) 0 (q := ((106, [some (.inr (.inr (12, 0))), some (.inl x1), some (.inl x2), none], [.inl (Int32.ofInt (-4))]), σ)) rfl ?_
      obtain ⟨rfl, rfl⟩ := ret_inj h
      exact Wp.ret (WpD.mono _) rfl hQ
    · have h := (if_neg hc).symm.trans h
      show Wp (WpD (e + 1)) hcX12_place Q (107, [some (.inr (.inr (12, 0))), some (.inl x1), some (.inl x2), none], []) σ
      refine Wp.run (WpD.mono _) 1 (q := ((109, [some (.inr (.inr (12, 0))), some (.inl x1), some (.inl x2), some (.inl (0 : Int32))], []), σ)) rfl ?_
      exact Wp.jump (WpD.mono _) rfl ((T_X12_place_b109 e N  r τ Q hQ  N) x1 (0 : Int32) σ h)

set_option maxRecDepth 100000 in
set_option maxHeartbeats 4000000 in
theorem T_X12_place_b53 (e N : Nat)   (r : Int32) (τ : Mem) (Q : Pst) (hQ : Q (some (.inl r)) τ) : ∀ n, ∀ (x1 : Int32) (x2 : Int32) (x3 : Int32) (σ : Mem), F_X12_place_b53 N n x1 x2 x3 σ = some (r, τ) → Wp (WpD (e + 1)) hcX12_place Q (53, [some (.inr (.inr (12, 0))), some (.inl x1), some (.inl x2), some (.inl x3)], []) σ := by
  intro n
  induction n with
  | zero => intro x1 x2 x3 σ h; cases h
  | succ n ih =>
    intro x1 x2 x3 σ h
    unfold F_X12_place_b53 at h
    refine Wp.run (WpD.mono _) 2 (q := ((58, [some (.inr (.inr (12, 0))), some (.inl x1), some (.inl x2), some (.inl x3)], [.inl (σ.1 12 5), .inl x3]), σ)) rfl ?_
    refine Wp.if2_ge (WpD.mono _) rfl rfl (fun hc => ?_) (fun hc => ?_)
    · have h := (if_pos hc).symm.trans h
      show Wp (WpD (e + 1)) hcX12_place Q (89, [some (.inr (.inr (12, 0))), some (.inl x1), some (.inl x2), some (.inl x3)], []) σ
      exact Wp.jump (WpD.mono _) rfl ((T_X12_place_b89 e N  r τ Q hQ ) x1 x2 σ h)
    · have h := (if_neg hc).symm.trans h
      show Wp (WpD (e + 1)) hcX12_place Q (61, [some (.inr (.inr (12, 0))), some (.inl x1), some (.inl x2), some (.inl x3)], []) σ
      refine Wp.run (WpD.mono _) 0 (q := ((62, [some (.inr (.inr (12, 0))), some (.inl x1), some (.inl x2), some (.inl x3)], [.inl x2]), σ)) rfl ?_
      refine Wp.if0_eq (WpD.mono _) rfl rfl (fun hc => ?_) (fun hc => ?_)
      · have h := (if_pos hc).symm.trans h
        show Wp (WpD (e + 1)) hcX12_place Q (89, [some (.inr (.inr (12, 0))), some (.inl x1), some (.inl x2), some (.inl x3)], []) σ
        exact Wp.jump (WpD.mono _) rfl ((T_X12_place_b89 e N  r τ Q hQ ) x1 x2 σ h)
      · have h := (if_neg hc).symm.trans h
        show Wp (WpD (e + 1)) hcX12_place Q (65, [some (.inr (.inr (12, 0))), some (.inl x1), some (.inl x2), some (.inl x3)], []) σ
        refine Wp.run (WpD.mono _) 6 (q := ((75, [some (.inr (.inr (12, 0))), some (.inl x1), some (.inl x2), some (.inl x3)], [.inl (((40 : Int32) * x1) + x3), .inr (.inr (97, 0))]), σ)) rfl ?_
        obtain ⟨hc, h⟩ := ite_nn h
        refine Wp.X_ild1 (WpD.mono _) rfl rfl hc ?_
        show Wp (WpD (e + 1)) hcX12_place Q (76, [some (.inr (.inr (12, 0))), some (.inl x1), some (.inl x2), some (.inl x3)], [.inl (σ.2.2.1 97 0 ((((40 : Int32) * x1) + x3)).toNatClampNeg)]) σ
        refine Wp.run (WpD.mono _) 1 (q := ((79, [some (.inr (.inr (12, 0))), some (.inl x1), some (.inl x2), some (.inl x3)], [.inl (99 : Int32), .inl (0 : Int32), .inl (σ.2.2.1 97 0 ((((40 : Int32) * x1) + x3)).toNatClampNeg)]), σ)) rfl ?_
        obtain ⟨q2, hb, h⟩ := bind_some h
        refine Wp.call (WpD.mono _) rfl (T_X12_in (e + 0) N (σ.2.2.1 97 0 ((((40 : Int32) * x1) + x3)).toNatClampNeg) (0 : Int32) (99 : Int32) σ _ _ _ hb ?_)
        show Wp (WpD (e + 1)) hcX12_place Q (82, [some (.inr (.inr (12, 0))), some (.inl x1), some (.inl x2), some (.inl x3)], [.inl q2.1]) q2.2
        refine Wp.run (WpD.mono _) 2 (q := ((53, [some (.inr (.inr (12, 0))), some (.inl x1), some (.inl q2.1), some (.inl (x3 + (1 : Int32)))], []), q2.2)) rfl ?_
        exact Wp.jump (WpD.mono _) rfl (ih x1 q2.1 (x3 + (1 : Int32)) q2.2 h)

set_option maxRecDepth 100000 in
set_option maxHeartbeats 4000000 in
theorem T_X12_place (e N : Nat)  (a1 : Int32) (σ : Mem) (r : Int32) (τ : Mem) (Q : Pst) (h : F_X12_place N a1 σ = some (r, τ)) (hQ : Q (some (.inl r)) τ) : WpD (e + 2) mX12_place [.inr (.inr (12, 0)), .inl a1] σ Q := by
  refine WpD.of (d := e + 1) (Nat.le_of_ble_eq_true rfl) (Nat.le_of_ble_eq_true rfl) ?_
  show Wp (WpD (e + 1)) hcX12_place Q (0, [some (.inr (.inr (12, 0))), some (.inl a1), none, none], []) σ
  unfold F_X12_place at h
  refine Wp.run (WpD.mono _) 2 (q := ((3, [some (.inr (.inr (12, 0))), some (.inl a1), none, none], [.inl (3 : Int32), .inl (0 : Int32), .inl a1]), σ)) rfl ?_
  obtain ⟨q1, hb, h⟩ := bind_some h
  refine Wp.call (WpD.mono _) rfl (T_X12_in (e + 0) N a1 (0 : Int32) (3 : Int32) σ _ _ _ hb ?_)
  show Wp (WpD (e + 1)) hcX12_place Q (6, [some (.inr (.inr (12, 0))), some (.inl a1), none, none], [.inl q1.1]) q1.2
  refine Wp.if0_ne (WpD.mono _) rfl rfl (fun hc => ?_) (fun hc => ?_)
  · have h := (if_pos hc).symm.trans h
    show Wp (WpD (e + 1)) hcX12_place Q (9, [some (.inr (.inr (12, 0))), some (.inl a1), none, none], []) q1.2
    refine Wp.run (WpD.mono _) 0 (q := ((11, [some (.inr (.inr (12, 0))), some (.inl a1), none, none], [.inl (Int32.ofInt (-2))]), q1.2)) rfl ?_
    obtain ⟨rfl, rfl⟩ := ret_inj h
    exact Wp.ret (WpD.mono _) rfl hQ
  · have h := (if_neg hc).symm.trans h
    show Wp (WpD (e + 1)) hcX12_place Q (12, [some (.inr (.inr (12, 0))), some (.inl a1), none, none], []) q1.2
    refine Wp.run (WpD.mono _) 2 (q := ((17, [some (.inr (.inr (12, 0))), some (.inl a1), none, none], [.inl a1, .inr (.inr (95, 0))]), q1.2)) rfl ?_
    obtain ⟨hc, h⟩ := ite_nn h
    refine Wp.X_ild1 (WpD.mono _) rfl rfl hc ?_
    show Wp (WpD (e + 1)) hcX12_place Q (18, [some (.inr (.inr (12, 0))), some (.inl a1), none, none], [.inl (q1.2.2.2.1 95 0 (a1).toNatClampNeg)]) q1.2
    refine Wp.run (WpD.mono _) 0 (q := ((19, [some (.inr (.inr (12, 0))), some (.inl a1), none, none], [.inl (Int32.ofInt (-1)), .inl (q1.2.2.2.1 95 0 (a1).toNatClampNeg)]), q1.2)) rfl ?_
    refine Wp.if2_ne (WpD.mono _) rfl rfl (fun hc => ?_) (fun hc => ?_)
    · have h := (if_pos hc).symm.trans h
      show Wp (WpD (e + 1)) hcX12_place Q (22, [some (.inr (.inr (12, 0))), some (.inl a1), none, none], []) q1.2
      refine Wp.run (WpD.mono _) 0 (q := ((24, [some (.inr (.inr (12, 0))), some (.inl a1), none, none], [.inl (Int32.ofInt (-11))]), q1.2)) rfl ?_
      obtain ⟨rfl, rfl⟩ := ret_inj h
      exact Wp.ret (WpD.mono _) rfl hQ
    · have h := (if_neg hc).symm.trans h
      show Wp (WpD (e + 1)) hcX12_place Q (25, [some (.inr (.inr (12, 0))), some (.inl a1), none, none], []) q1.2
      refine Wp.run (WpD.mono _) 2 (q := ((30, [some (.inr (.inr (12, 0))), some (.inl a1), none, none], [.inl a1, .inr (.inr (96, 0))]), q1.2)) rfl ?_
      obtain ⟨hc, h⟩ := ite_nn h
      refine Wp.X_ild1 (WpD.mono _) rfl rfl hc ?_
      show Wp (WpD (e + 1)) hcX12_place Q (31, [some (.inr (.inr (12, 0))), some (.inl a1), none, none], [.inl (q1.2.2.2.1 96 0 (a1).toNatClampNeg)]) q1.2
      refine Wp.run (WpD.mono _) 1 (q := ((35, [some (.inr (.inr (12, 0))), some (.inl a1), none, none], [.inl (q1.2.1 12 5), .inl (q1.2.2.2.1 96 0 (a1).toNatClampNeg)]), q1.2)) rfl ?_
      refine Wp.if2_ne (WpD.mono _) rfl rfl (fun hc => ?_) (fun hc => ?_)
      · have h := (if_pos hc).symm.trans h
        show Wp (WpD (e + 1)) hcX12_place Q (38, [some (.inr (.inr (12, 0))), some (.inl a1), none, none], []) q1.2
        refine Wp.run (WpD.mono _) 1 (q := ((42, [some (.inr (.inr (12, 0))), some (.inl a1), none, none], [.inl (q1.2.1 12 5)]), q1.2)) rfl ?_
        refine Wp.if0_le (WpD.mono _) rfl rfl (fun hc => ?_) (fun hc => ?_)
        · have h := (if_pos hc).symm.trans h
          show Wp (WpD (e + 1)) hcX12_place Q (49, [some (.inr (.inr (12, 0))), some (.inl a1), none, none], []) q1.2
          refine Wp.run (WpD.mono _) 3 (q := ((53, [some (.inr (.inr (12, 0))), some (.inl a1), some (.inl (0 : Int32)), some (.inl (0 : Int32))], []), q1.2)) rfl ?_
          exact Wp.jump (WpD.mono _) rfl ((T_X12_place_b53 e N  r τ Q hQ  N) a1 (0 : Int32) (0 : Int32) q1.2 h)
        · have h := (if_neg hc).symm.trans h
          show Wp (WpD (e + 1)) hcX12_place Q (45, [some (.inr (.inr (12, 0))), some (.inl a1), none, none], []) q1.2
          refine Wp.run (WpD.mono _) 4 (q := ((53, [some (.inr (.inr (12, 0))), some (.inl a1), some (.inl (1 : Int32)), some (.inl (0 : Int32))], []), q1.2)) rfl ?_
          exact Wp.jump (WpD.mono _) rfl ((T_X12_place_b53 e N  r τ Q hQ  N) a1 (1 : Int32) (0 : Int32) q1.2 h)
      · have h := (if_neg hc).symm.trans h
        show Wp (WpD (e + 1)) hcX12_place Q (49, [some (.inr (.inr (12, 0))), some (.inl a1), none, none], []) q1.2
        refine Wp.run (WpD.mono _) 3 (q := ((53, [some (.inr (.inr (12, 0))), some (.inl a1), some (.inl (0 : Int32)), some (.inl (0 : Int32))], []), q1.2)) rfl ?_
        exact Wp.jump (WpD.mono _) rfl ((T_X12_place_b53 e N  r τ Q hQ  N) a1 (0 : Int32) (0 : Int32) q1.2 h)

set_option maxRecDepth 100000 in
set_option maxHeartbeats 4000000 in
theorem T_X12_right_b53 (e N : Nat)  (k18 : Int32 → Int32 → Int64 → Int32 → Mem → Option (Int32 × Mem)) (r : Int32) (τ : Mem) (Q : Pst) (hQ : Q (some (.inl r)) τ) (hk18 : ∀ (x1 : Int32) (x2 : Int32) (x3 : Int64) (x5 : Int32) (σ : Mem), k18 x1 x2 x3 x5 σ = some (r, τ) → Wp (WpD (e + 36)) hcX12_right Q (18, [some (.inr (.inr (12, 0))), some (.inl x1), some (.inl x2), some (.inr (.inl x3)), none, some (.inl x5)], []) σ) : ∀ (x1 : Int32) (x5 : Int32) (σ : Mem), F_X12_right_b53 N k18 x1 x5 σ = some (r, τ) → Wp (WpD (e + 36)) hcX12_right Q (53, [some (.inr (.inr (12, 0))), some (.inl x1), none, none, none, some (.inl x5)], []) σ := by
  intro x1 x5 σ h
  unfold F_X12_right_b53 at h
  refine Wp.run (WpD.mono _) 9 (q := ((18, [some (.inr (.inr (12, 0))), some (.inl x1), some (.inl x5), some (.inr (.inl ((σ.2.1 12 58) - (σ.2.1 12 55)))), none, some (.inl (x5 + (1 : Int32)))], []), σ)) rfl ?_
  exact Wp.jump (WpD.mono _) rfl (hk18 x1 x5 ((σ.2.1 12 58) - (σ.2.1 12 55)) (x5 + (1 : Int32)) σ h)

set_option maxRecDepth 100000 in
set_option maxHeartbeats 4000000 in
theorem T_X12_right_b18 (e N : Nat)   (r : Int32) (τ : Mem) (Q : Pst) (hQ : Q (some (.inl r)) τ) : ∀ n, ∀ (x1 : Int32) (x2 : Int32) (x3 : Int64) (x5 : Int32) (σ : Mem), F_X12_right_b18 N n x1 x2 x3 x5 σ = some (r, τ) → Wp (WpD (e + 36)) hcX12_right Q (18, [some (.inr (.inr (12, 0))), some (.inl x1), some (.inl x2), some (.inr (.inl x3)), none, some (.inl x5)], []) σ := by
  intro n
  induction n with
  | zero => intro x1 x2 x3 x5 σ h; cases h
  | succ n ih =>
    intro x1 x2 x3 x5 σ h
    unfold F_X12_right_b18 at h
    refine Wp.run (WpD.mono _) 2 (q := ((24, [some (.inr (.inr (12, 0))), some (.inl x1), some (.inl x2), some (.inr (.inl x3)), none, some (.inl x5)], [.inl (σ.1 12 16), .inl x5]), σ)) rfl ?_
    refine Wp.if2_ge (WpD.mono _) rfl rfl (fun hc => ?_) (fun hc => ?_)
    · have h := (if_pos hc).symm.trans h
      show Wp (WpD (e + 36)) hcX12_right Q (72, [some (.inr (.inr (12, 0))), some (.inl x1), some (.inl x2), some (.inr (.inl x3)), none, some (.inl x5)], []) σ
      refine Wp.run (WpD.mono _) 0 (q := ((73, [some (.inr (.inr (12, 0))), some (.inl x1), some (.inl x2), some (.inr (.inl x3)), none, some (.inl x5)], [.inl x2]), σ)) rfl ?_
      obtain ⟨rfl, rfl⟩ := ret_inj h
      exact Wp.ret (WpD.mono _) rfl hQ
    · have h := (if_neg hc).symm.trans h
      show Wp (WpD (e + 36)) hcX12_right Q (27, [some (.inr (.inr (12, 0))), some (.inl x1), some (.inl x2), some (.inr (.inl x3)), none, some (.inl x5)], []) σ
      refine Wp.run (WpD.mono _) 2 (q := ((31, [some (.inr (.inr (12, 0))), some (.inl x1), some (.inl x2), some (.inr (.inl x3)), none, some (.inl x5)], [.inl x1, .inl x5, .inr (.inr (12, 0))]), σ)) rfl ?_
      obtain ⟨q2, hb, h⟩ := bind_some h
      refine Wp.call (WpD.mono _) rfl (T_X12_means (e + 0) N x5 x1 σ _ _ _ hb ?_)
      show Wp (WpD (e + 36)) hcX12_right Q (34, [some (.inr (.inr (12, 0))), some (.inl x1), some (.inl x2), some (.inr (.inl x3)), none, some (.inl x5)], []) q2.2
      refine Wp.run (WpD.mono _) 1 (q := ((36, [some (.inr (.inr (12, 0))), some (.inl x1), some (.inl x2), some (.inr (.inl x3)), none, some (.inl x5)], [.inl (Int32.ofInt (-1)), .inl x2]), q2.2)) rfl ?_
      refine Wp.if2_eq (WpD.mono _) rfl rfl (fun hc => ?_) (fun hc => ?_)
      · have h := (if_pos hc).symm.trans h
        show Wp (WpD (e + 36)) hcX12_right Q (53, [some (.inr (.inr (12, 0))), some (.inl x1), some (.inl x2), some (.inr (.inl x3)), none, some (.inl x5)], []) q2.2
        exact Wp.jump (WpD.mono _) rfl ((T_X12_right_b53 e N (F_X12_right_b18 N n) r τ Q hQ ih) x1 x5 q2.2 h)
      · have h := (if_neg hc).symm.trans h
        show Wp (WpD (e + 36)) hcX12_right Q (39, [some (.inr (.inr (12, 0))), some (.inl x1), some (.inl x2), some (.inr (.inl x3)), none, some (.inl x5)], []) q2.2
        refine Wp.run (WpD.mono _) 6 (q := ((50, [some (.inr (.inr (12, 0))), some (.inl x1), some (.inl x2), some (.inr (.inl x3)), none, some (.inl x5)], [.inl (lg_cmp ((q2.2.2.1 12 58) - (q2.2.2.1 12 55)) x3)]), q2.2)) rfl ?_
        refine Wp.if0_le (WpD.mono _) rfl rfl (fun hc => ?_) (fun hc => ?_)
        · have h := (if_pos hc).symm.trans h
          show Wp (WpD (e + 36)) hcX12_right Q (66, [some (.inr (.inr (12, 0))), some (.inl x1), some (.inl x2), some (.inr (.inl x3)), none, some (.inl x5)], []) q2.2
          refine Wp.run (WpD.mono _) 1 (q := ((18, [some (.inr (.inr (12, 0))), some (.inl x1), some (.inl x2), some (.inr (.inl x3)), none, some (.inl (x5 + (1 : Int32)))], []), q2.2)) rfl ?_
          exact Wp.jump (WpD.mono _) rfl (ih x1 x2 x3 (x5 + (1 : Int32)) q2.2 h)
        · have h := (if_neg hc).symm.trans h
          show Wp (WpD (e + 36)) hcX12_right Q (53, [some (.inr (.inr (12, 0))), some (.inl x1), some (.inl x2), some (.inr (.inl x3)), none, some (.inl x5)], []) q2.2
          exact Wp.jump (WpD.mono _) rfl ((T_X12_right_b53 e N (F_X12_right_b18 N n) r τ Q hQ ih) x1 x5 q2.2 h)

set_option maxRecDepth 100000 in
set_option maxHeartbeats 4000000 in
theorem T_X12_right (e N : Nat)  (a1 : Int32) (σ : Mem) (r : Int32) (τ : Mem) (Q : Pst) (h : F_X12_right N a1 σ = some (r, τ)) (hQ : Q (some (.inl r)) τ) : WpD (e + 37) mX12_right [.inr (.inr (12, 0)), .inl a1] σ Q := by
  refine WpD.of (d := e + 36) (Nat.le_of_ble_eq_true rfl) (Nat.le_of_ble_eq_true rfl) ?_
  show Wp (WpD (e + 36)) hcX12_right Q (0, [some (.inr (.inr (12, 0))), some (.inl a1), none, none, none, none], []) σ
  unfold F_X12_right at h
  refine Wp.run (WpD.mono _) 1 (q := ((2, [some (.inr (.inr (12, 0))), some (.inl a1), none, none, none, none], [.inl a1, .inr (.inr (12, 0))]), σ)) rfl ?_
  obtain ⟨q1, hb, h⟩ := bind_some h
  refine Wp.call (WpD.mono _) rfl (T_X12_isPlace (e + 34) N a1 σ _ _ _ hb ?_)
  show Wp (WpD (e + 36)) hcX12_right Q (5, [some (.inr (.inr (12, 0))), some (.inl a1), none, none, none, none], [.inl q1.1]) q1.2
  refine Wp.if0_ne (WpD.mono _) rfl rfl (fun hc => ?_) (fun hc => ?_)
  · have h := (if_pos hc).symm.trans h
    show Wp (WpD (e + 36)) hcX12_right Q (8, [some (.inr (.inr (12, 0))), some (.inl a1), none, none, none, none], []) q1.2
    refine Wp.run (WpD.mono _) 0 (q := ((10, [some (.inr (.inr (12, 0))), some (.inl a1), none, none, none, none], [.inl (Int32.ofInt (-5))]), q1.2)) rfl ?_
    obtain ⟨rfl, rfl⟩ := ret_inj h
    exact Wp.ret (WpD.mono _) rfl hQ
  · have h := (if_neg hc).symm.trans h
    show Wp (WpD (e + 36)) hcX12_right Q (11, [some (.inr (.inr (12, 0))), some (.inl a1), none, none, none, none], []) q1.2
    refine Wp.run (WpD.mono _) 5 (q := ((18, [some (.inr (.inr (12, 0))), some (.inl a1), some (.inl (Int32.ofInt (-1))), some (.inr (.inl (0 : Int64))), none, some (.inl (0 : Int32))], []), q1.2)) rfl ?_
    exact Wp.jump (WpD.mono _) rfl ((T_X12_right_b18 e N  r τ Q hQ  N) a1 (Int32.ofInt (-1)) (0 : Int64) (0 : Int32) q1.2 h)

set_option maxRecDepth 100000 in
set_option maxHeartbeats 4000000 in
theorem T_X12_row_b163 (e N : Nat)  (k83 : Int32 → Int64 → Int32 → Mem → Option (Int64 × Mem)) (r : Int64) (τ : Mem) (Q : Pst) (hQ : Q (some (.inr (.inl r))) τ) (hk83 : ∀ (x2 : Int32) (x3 : Int64) (x5 : Int32) (σ : Mem), k83 x2 x3 x5 σ = some (r, τ) → Wp (WpD (e + 4)) hcX12_row Q (83, [some (.inr (.inr (12, 0))), none, some (.inl x2), some (.inr (.inl x3)), none, some (.inl x5), none, none, none, none], []) σ) : ∀ n, ∀ (x2 : Int32) (x3 : Int64) (x5 : Int32) (x9 : Int32) (σ : Mem), F_X12_row_b163 N k83 n x2 x3 x5 x9 σ = some (r, τ) → Wp (WpD (e + 4)) hcX12_row Q (163, [some (.inr (.inr (12, 0))), none, some (.inl x2), some (.inr (.inl x3)), none, some (.inl x5), none, none, none, some (.inl x9)], []) σ := by
  intro n
  induction n with
  | zero => intro x2 x3 x5 x9 σ h; cases h
  | succ n ih =>
    intro x2 x3 x5 x9 σ h
    unfold F_X12_row_b163 at h
    refine Wp.run (WpD.mono _) 2 (q := ((169, [some (.inr (.inr (12, 0))), none, some (.inl x2), some (.inr (.inl x3)), none, some (.inl x5), none, none, none, some (.inl x9)], [.inl (σ.1 12 5), .inl x9]), σ)) rfl ?_
    refine Wp.if2_ge (WpD.mono _) rfl rfl (fun hc => ?_) (fun hc => ?_)
    · have h := (if_pos hc).symm.trans h
      show Wp (WpD (e + 4)) hcX12_row Q (194, [some (.inr (.inr (12, 0))), none, some (.inl x2), some (.inr (.inl x3)), none, some (.inl x5), none, none, none, some (.inl x9)], []) σ
      refine Wp.run (WpD.mono _) 1 (q := ((83, [some (.inr (.inr (12, 0))), none, some (.inl x2), some (.inr (.inl x3)), none, some (.inl (x5 + (1 : Int32))), none, none, none, some (.inl x9)], []), σ)) rfl ?_
      exact Wp.jump (WpD.mono _) rfl (hk83 x2 x3 (x5 + (1 : Int32)) σ h)
    · have h := (if_neg hc).symm.trans h
      show Wp (WpD (e + 4)) hcX12_row Q (172, [some (.inr (.inr (12, 0))), none, some (.inl x2), some (.inr (.inl x3)), none, some (.inl x5), none, none, none, some (.inl x9)], []) σ
      refine Wp.run (WpD.mono _) 7 (q := ((186, [some (.inr (.inr (12, 0))), none, some (.inl x2), some (.inr (.inl x3)), none, some (.inl x5), none, none, none, some (.inl x9)], [.inl ((5 : Int32) + x9), .inr (.inr (102, 0)), .inl x9, .inr (.inr (102, 0))]), σ)) rfl ?_
      obtain ⟨hc, h⟩ := ite_nn h
      refine Wp.X_lld (WpD.mono _) rfl rfl hc ?_
      show Wp (WpD (e + 4)) hcX12_row Q (187, [some (.inr (.inr (12, 0))), none, some (.inl x2), some (.inr (.inl x3)), none, some (.inl x5), none, none, none, some (.inl x9)], [.inr (.inl (σ.2.2.2.1 102 0 (((5 : Int32) + x9)).toNatClampNeg)), .inl x9, .inr (.inr (102, 0))]) σ
      obtain ⟨hc, h⟩ := ite_nn h
      refine Wp.X_lst (WpD.mono _) rfl rfl hc ?_
      show Wp (WpD (e + 4)) hcX12_row Q (188, [some (.inr (.inr (12, 0))), none, some (.inl x2), some (.inr (.inl x3)), none, some (.inl x5), none, none, none, some (.inl x9)], []) (σ.1, σ.2.1, σ.2.2.1, (hwU3 σ.2.2.2.1 102 0 (x9).toNatClampNeg (σ.2.2.2.1 102 0 (((5 : Int32) + x9)).toNatClampNeg)), σ.2.2.2.2)
      refine Wp.run (WpD.mono _) 1 (q := ((163, [some (.inr (.inr (12, 0))), none, some (.inl x2), some (.inr (.inl x3)), none, some (.inl x5), none, none, none, some (.inl (x9 + (1 : Int32)))], []), (σ.1, σ.2.1, σ.2.2.1, (hwU3 σ.2.2.2.1 102 0 (x9).toNatClampNeg (σ.2.2.2.1 102 0 (((5 : Int32) + x9)).toNatClampNeg)), σ.2.2.2.2))) rfl ?_
      exact Wp.jump (WpD.mono _) rfl (ih x2 x3 x5 (x9 + (1 : Int32)) (σ.1, σ.2.1, σ.2.2.1, (hwU3 σ.2.2.2.1 102 0 (x9).toNatClampNeg (σ.2.2.2.1 102 0 (((5 : Int32) + x9)).toNatClampNeg)), σ.2.2.2.2) h)

set_option maxRecDepth 100000 in
set_option maxHeartbeats 4000000 in
theorem T_X12_row_b133 (e N : Nat)  (k83 : Int32 → Int64 → Int32 → Mem → Option (Int64 × Mem)) (r : Int64) (τ : Mem) (Q : Pst) (hQ : Q (some (.inr (.inl r))) τ) (hk83 : ∀ (x2 : Int32) (x3 : Int64) (x5 : Int32) (σ : Mem), k83 x2 x3 x5 σ = some (r, τ) → Wp (WpD (e + 4)) hcX12_row Q (83, [some (.inr (.inr (12, 0))), none, some (.inl x2), some (.inr (.inl x3)), none, some (.inl x5), none, none, none, none], []) σ) : ∀ (x2 : Int32) (x3 : Int64) (x5 : Int32) (s0 : Int64) (σ : Mem), F_X12_row_b133 N k83 x2 x3 x5 s0 σ = some (r, τ) → Wp (WpD (e + 4)) hcX12_row Q (133, [some (.inr (.inr (12, 0))), none, some (.inl x2), some (.inr (.inl x3)), none, some (.inl x5), none, none, none, none], [.inr (.inl s0)]) σ := by
  intro x2 x3 x5 s0 σ h
  unfold F_X12_row_b133 at h
  refine Wp.run (WpD.mono _) 3 (q := ((139, [some (.inr (.inr (12, 0))), none, some (.inl x2), some (.inr (.inl x3)), none, some (.inl x5), none, some (.inr (.inl s0)), none, none], [.inl (lg_cmp s0 (0 : Int64))]), σ)) rfl ?_
  refine Wp.if0_ne (WpD.mono _) rfl rfl (fun hc => ?_) (fun hc => ?_)
  · have h := (if_pos hc).symm.trans h
    show Wp (WpD (e + 4)) hcX12_row Q (142, [some (.inr (.inr (12, 0))), none, some (.inl x2), some (.inr (.inl x3)), none, some (.inl x5), none, some (.inr (.inl s0)), none, none], []) σ
    refine Wp.run (WpD.mono _) 0 (q := ((143, [some (.inr (.inr (12, 0))), none, some (.inl x2), some (.inr (.inl x3)), none, some (.inl x5), none, some (.inr (.inl s0)), none, none], [.inr (.inl (0 : Int64))]), σ)) rfl ?_
    obtain ⟨rfl, rfl⟩ := ret_inj h
    exact Wp.ret (WpD.mono _) rfl hQ
  · have h := (if_neg hc).symm.trans h
    show Wp (WpD (e + 4)) hcX12_row Q (144, [some (.inr (.inr (12, 0))), none, some (.inl x2), some (.inr (.inl x3)), none, some (.inl x5), none, some (.inr (.inl s0)), none, none], []) σ
    refine Wp.run (WpD.mono _) 8 (q := ((157, [some (.inr (.inr (12, 0))), none, some (.inl x2), some (.inr (.inl ((x3 * s0) / (1000000 : Int64)))), none, some (.inl x5), none, some (.inr (.inl s0)), none, none], [.inr (.inl s0), .inl (0 : Int32), .inr (.inr (12, 0))]), σ)) rfl ?_
    obtain ⟨q8, hb, h⟩ := bind_some h
    refine Wp.call (WpD.mono _) rfl (T_X12_below (e + 2) N (0 : Int32) s0 σ _ _ _ hb ?_)
    show Wp (WpD (e + 4)) hcX12_row Q (160, [some (.inr (.inr (12, 0))), none, some (.inl x2), some (.inr (.inl ((x3 * s0) / (1000000 : Int64)))), none, some (.inl x5), none, some (.inr (.inl s0)), none, none], []) q8.2
    refine Wp.run (WpD.mono _) 1 (q := ((163, [some (.inr (.inr (12, 0))), none, some (.inl x2), some (.inr (.inl ((x3 * s0) / (1000000 : Int64)))), none, some (.inl x5), none, some (.inr (.inl s0)), none, some (.inl (0 : Int32))], []), q8.2)) rfl ?_
    exact Wp.jump (WpD.mono _) rfl ((T_X12_row_b163 e N k83 r τ Q hQ hk83 N) x2 ((x3 * s0) / (1000000 : Int64)) x5 (0 : Int32) q8.2 h)

set_option maxRecDepth 100000 in
set_option maxHeartbeats 4000000 in
theorem T_X12_row_b83 (e N : Nat)   (r : Int64) (τ : Mem) (Q : Pst) (hQ : Q (some (.inr (.inl r))) τ) : ∀ n, ∀ (x2 : Int32) (x3 : Int64) (x5 : Int32) (σ : Mem), F_X12_row_b83 N n x2 x3 x5 σ = some (r, τ) → Wp (WpD (e + 4)) hcX12_row Q (83, [some (.inr (.inr (12, 0))), none, some (.inl x2), some (.inr (.inl x3)), none, some (.inl x5), none, none, none, none], []) σ := by
  intro n
  induction n with
  | zero => intro x2 x3 x5 σ h; cases h
  | succ n ih =>
    intro x2 x3 x5 σ h
    unfold F_X12_row_b83 at h
    refine Wp.run (WpD.mono _) 3 (q := ((90, [some (.inr (.inr (12, 0))), none, some (.inl x2), some (.inr (.inl x3)), none, some (.inl x5), none, none, none, none], [.inl x2, .inr (.inr (96, 0)), .inl x5]), σ)) rfl ?_
    obtain ⟨hc, h⟩ := ite_nn h
    refine Wp.X_ild1 (WpD.mono _) rfl rfl hc ?_
    show Wp (WpD (e + 4)) hcX12_row Q (91, [some (.inr (.inr (12, 0))), none, some (.inl x2), some (.inr (.inl x3)), none, some (.inl x5), none, none, none, none], [.inl (σ.2.2.1 96 0 (x2).toNatClampNeg), .inl x5]) σ
    refine Wp.if2_ge (WpD.mono _) rfl rfl (fun hc => ?_) (fun hc => ?_)
    · have h := (if_pos hc).symm.trans h
      show Wp (WpD (e + 4)) hcX12_row Q (200, [some (.inr (.inr (12, 0))), none, some (.inl x2), some (.inr (.inl x3)), none, some (.inl x5), none, none, none, none], []) σ
      refine Wp.run (WpD.mono _) 0 (q := ((201, [some (.inr (.inr (12, 0))), none, some (.inl x2), some (.inr (.inl x3)), none, some (.inl x5), none, none, none, none], [.inr (.inl x3)]), σ)) rfl ?_
      obtain ⟨rfl, rfl⟩ := ret_inj h
      exact Wp.ret (WpD.mono _) rfl hQ
    · have h := (if_neg hc).symm.trans h
      show Wp (WpD (e + 4)) hcX12_row Q (94, [some (.inr (.inr (12, 0))), none, some (.inl x2), some (.inr (.inl x3)), none, some (.inl x5), none, none, none, none], []) σ
      refine Wp.run (WpD.mono _) 6 (q := ((105, [some (.inr (.inr (12, 0))), none, some (.inl x2), some (.inr (.inl x3)), none, some (.inl x5), none, none, none, none], [.inl (((40 : Int32) * x2) + x5), .inr (.inr (97, 0))]), σ)) rfl ?_
      obtain ⟨hc, h⟩ := ite_nn h
      refine Wp.X_ild1 (WpD.mono _) rfl rfl hc ?_
      show Wp (WpD (e + 4)) hcX12_row Q (106, [some (.inr (.inr (12, 0))), none, some (.inl x2), some (.inr (.inl x3)), none, some (.inl x5), none, none, none, none], [.inl (σ.2.2.1 97 0 ((((40 : Int32) * x2) + x5)).toNatClampNeg)]) σ
      refine Wp.run (WpD.mono _) 3 (q := ((112, [some (.inr (.inr (12, 0))), none, some (.inl x2), some (.inr (.inl x3)), none, some (.inl x5), some (.inl (σ.2.2.1 97 0 ((((40 : Int32) * x2) + x5)).toNatClampNeg)), none, none, none], [.inl (2 : Int32), .inl (0 : Int32), .inl (σ.2.2.1 97 0 ((((40 : Int32) * x2) + x5)).toNatClampNeg)]), σ)) rfl ?_
      obtain ⟨q6, hb, h⟩ := bind_some h
      refine Wp.call (WpD.mono _) rfl (T_X12_in (e + 3) N (σ.2.2.1 97 0 ((((40 : Int32) * x2) + x5)).toNatClampNeg) (0 : Int32) (2 : Int32) σ _ _ _ hb ?_)
      show Wp (WpD (e + 4)) hcX12_row Q (115, [some (.inr (.inr (12, 0))), none, some (.inl x2), some (.inr (.inl x3)), none, some (.inl x5), some (.inl (σ.2.2.1 97 0 ((((40 : Int32) * x2) + x5)).toNatClampNeg)), none, none, none], [.inl q6.1]) q6.2
      refine Wp.if0_eq (WpD.mono _) rfl rfl (fun hc => ?_) (fun hc => ?_)
      · have h := (if_pos hc).symm.trans h
        show Wp (WpD (e + 4)) hcX12_row Q (132, [some (.inr (.inr (12, 0))), none, some (.inl x2), some (.inr (.inl x3)), none, some (.inl x5), some (.inl (σ.2.2.1 97 0 ((((40 : Int32) * x2) + x5)).toNatClampNeg)), none, none, none], []) q6.2
        refine Wp.run (WpD.mono _) 0 (q := ((133, [some (.inr (.inr (12, 0))), none, some (.inl x2), some (.inr (.inl x3)), none, some (.inl x5), some (.inl (σ.2.2.1 97 0 ((((40 : Int32) * x2) + x5)).toNatClampNeg)), none, none, none], [.inr (.inl (0 : Int64))]), q6.2)) rfl ?_
        exact Wp.jump (WpD.mono _) rfl ((T_X12_row_b133 e N (F_X12_row_b83 N n) r τ Q hQ ih) x2 x3 x5 (0 : Int64) q6.2 h)
      · have h := (if_neg hc).symm.trans h
        show Wp (WpD (e + 4)) hcX12_row Q (118, [some (.inr (.inr (12, 0))), none, some (.inl x2), some (.inr (.inl x3)), none, some (.inl x5), some (.inl (σ.2.2.1 97 0 ((((40 : Int32) * x2) + x5)).toNatClampNeg)), none, none, none], []) q6.2
        refine Wp.run (WpD.mono _) 5 (q := ((126, [some (.inr (.inr (12, 0))), none, some (.inl x2), some (.inr (.inl x3)), none, some (.inl x5), some (.inl (σ.2.2.1 97 0 ((((40 : Int32) * x2) + x5)).toNatClampNeg)), none, none, none], [.inl (σ.2.2.1 97 0 ((((40 : Int32) * x2) + x5)).toNatClampNeg), .inl (x5 + (1 : Int32)), .inl (0 : Int32), .inr (.inr (12, 0))]), q6.2)) rfl ?_
        obtain ⟨q7, hb, h⟩ := bind_some h
        refine Wp.call (WpD.mono _) rfl (T_X12_dries (e + 0) N (0 : Int32) (x5 + (1 : Int32)) (σ.2.2.1 97 0 ((((40 : Int32) * x2) + x5)).toNatClampNeg) q6.2 _ _ _ hb ?_)
        show Wp (WpD (e + 4)) hcX12_row Q (129, [some (.inr (.inr (12, 0))), none, some (.inl x2), some (.inr (.inl x3)), none, some (.inl x5), some (.inl (σ.2.2.1 97 0 ((((40 : Int32) * x2) + x5)).toNatClampNeg)), none, none, none], [.inr (.inl q7.1)]) q7.2
        refine Wp.run (WpD.mono _) 0 (q := ((133, [some (.inr (.inr (12, 0))), none, some (.inl x2), some (.inr (.inl x3)), none, some (.inl x5), some (.inl (σ.2.2.1 97 0 ((((40 : Int32) * x2) + x5)).toNatClampNeg)), none, none, none], [.inr (.inl q7.1)]), q7.2)) rfl ?_
        exact Wp.jump (WpD.mono _) rfl ((T_X12_row_b133 e N (F_X12_row_b83 N n) r τ Q hQ ih) x2 x3 x5 q7.1 q7.2 h)

set_option maxRecDepth 100000 in
set_option maxHeartbeats 4000000 in
theorem T_X12_row_b58 (e N : Nat)   (r : Int64) (τ : Mem) (Q : Pst) (hQ : Q (some (.inr (.inl r))) τ) : ∀ (x1 : Int32) (x2 : Int32) (s0 : Int32) (σ : Mem), F_X12_row_b58 N x1 x2 s0 σ = some (r, τ) → Wp (WpD (e + 4)) hcX12_row Q (58, [some (.inr (.inr (12, 0))), some (.inl x1), some (.inl x2), none, none, none, none, none, none, none], [.inl s0, .inr (.inr (96, 0))]) σ := by
  intro x1 x2 s0 σ h
  unfold F_X12_row_b58 at h
  obtain ⟨hc, h⟩ := ite_nn h
  refine Wp.X_ild1 (WpD.mono _) rfl rfl hc ?_
  show Wp (WpD (e + 4)) hcX12_row Q (59, [some (.inr (.inr (12, 0))), some (.inl x1), some (.inl x2), none, none, none, none, none, none, none], [.inl (σ.2.2.1 96 0 (s0).toNatClampNeg)]) σ
  refine Wp.run (WpD.mono _) 1 (q := ((63, [some (.inr (.inr (12, 0))), some (.inl x1), some (.inl x2), none, none, none, none, none, none, none], [.inl (σ.1 12 0), .inl (σ.2.2.1 96 0 (s0).toNatClampNeg)]), σ)) rfl ?_
  refine Wp.if2_le (WpD.mono _) rfl rfl (fun hc => ?_) (fun hc => ?_)
  · have h := (if_pos hc).symm.trans h
    show Wp (WpD (e + 4)) hcX12_row Q (70, [some (.inr (.inr (12, 0))), some (.inl x1), some (.inl x2), none, none, none, none, none, none, none], []) σ
    refine Wp.run (WpD.mono _) 2 (q := ((73, [some (.inr (.inr (12, 0))), some (.inl x1), some (.inl x2), none, none, none, none, none, none, none], [.inl (0 : Int32), .inl x1, .inr (.inr (12, 0))]), σ)) rfl ?_
    obtain ⟨q5, hb, h⟩ := bind_some h
    refine Wp.call (WpD.mono _) rfl (T_X12_begins (e + 3) N x1 (0 : Int32) σ _ _ _ hb ?_)
    show Wp (WpD (e + 4)) hcX12_row Q (76, [some (.inr (.inr (12, 0))), some (.inl x1), some (.inl x2), none, none, none, none, none, none, none], []) q5.2
    refine Wp.run (WpD.mono _) 3 (q := ((83, [some (.inr (.inr (12, 0))), some (.inl x1), some (.inl x2), some (.inr (.inl (1000000 : Int64))), none, some (.inl (0 : Int32)), none, none, none, none], []), q5.2)) rfl ?_
    exact Wp.jump (WpD.mono _) rfl ((T_X12_row_b83 e N  r τ Q hQ  N) x2 (1000000 : Int64) (0 : Int32) q5.2 h)
  · have h := (if_neg hc).symm.trans h
    show Wp (WpD (e + 4)) hcX12_row Q (66, [some (.inr (.inr (12, 0))), some (.inl x1), some (.inl x2), none, none, none, none, none, none, none], []) σ
    refine Wp.run (WpD.mono _) 0 (q := ((69, [none, none, none, none, none, none, none, none, none, none], [.inr (.inl (Int64.ofInt (-4611686018427387904)))]), σ)) rfl ?_
    obtain ⟨rfl, rfl⟩ := ret_inj h
    exact Wp.ret (WpD.mono _) rfl hQ

set_option maxRecDepth 100000 in
set_option maxHeartbeats 4000000 in
theorem T_X12_row_b35 (e N : Nat)   (r : Int64) (τ : Mem) (Q : Pst) (hQ : Q (some (.inr (.inl r))) τ) : ∀ (x1 : Int32) (x2 : Int32) (s0 : Int32) (σ : Mem), F_X12_row_b35 N x1 x2 s0 σ = some (r, τ) → Wp (WpD (e + 4)) hcX12_row Q (35, [some (.inr (.inr (12, 0))), some (.inl x1), some (.inl x2), none, none, none, none, none, none, none], [.inl s0, .inr (.inr (95, 0))]) σ := by
  intro x1 x2 s0 σ h
  unfold F_X12_row_b35 at h
  obtain ⟨hc, h⟩ := ite_nn h
  refine Wp.X_ild1 (WpD.mono _) rfl rfl hc ?_
  show Wp (WpD (e + 4)) hcX12_row Q (36, [some (.inr (.inr (12, 0))), some (.inl x1), some (.inl x2), none, none, none, none, none, none, none], [.inl (σ.2.2.1 95 0 (s0).toNatClampNeg)]) σ
  refine Wp.run (WpD.mono _) 0 (q := ((37, [some (.inr (.inr (12, 0))), some (.inl x1), some (.inl x2), none, none, none, none, none, none, none], [.inl (Int32.ofInt (-1)), .inl (σ.2.2.1 95 0 (s0).toNatClampNeg)]), σ)) rfl ?_
  refine Wp.if2_eq (WpD.mono _) rfl rfl (fun hc => ?_) (fun hc => ?_)
  · have h := (if_pos hc).symm.trans h
    show Wp (WpD (e + 4)) hcX12_row Q (66, [some (.inr (.inr (12, 0))), some (.inl x1), some (.inl x2), none, none, none, none, none, none, none], []) σ
    refine Wp.run (WpD.mono _) 0 (q := ((69, [none, none, none, none, none, none, none, none, none, none], [.inr (.inl (Int64.ofInt (-4611686018427387904)))]), σ)) rfl ?_
    obtain ⟨rfl, rfl⟩ := ret_inj h
    exact Wp.ret (WpD.mono _) rfl hQ
  · have h := (if_neg hc).symm.trans h
    show Wp (WpD (e + 4)) hcX12_row Q (40, [some (.inr (.inr (12, 0))), some (.inl x1), some (.inl x2), none, none, none, none, none, none, none], []) σ
    refine Wp.run (WpD.mono _) 4 (q := ((47, [some (.inr (.inr (12, 0))), some (.inl x1), some (.inl x2), none, none, none, none, none, none, none], [.inl (3 : Int32), .inl (0 : Int32), .inl x2, .inr (.inr (96, 0))]), σ)) rfl ?_
    obtain ⟨q4, hb, h⟩ := bind_some h
    refine Wp.call (WpD.mono _) rfl (T_X12_in (e + 3) N x2 (0 : Int32) (3 : Int32) σ _ _ _ hb ?_)
    show Wp (WpD (e + 4)) hcX12_row Q (50, [some (.inr (.inr (12, 0))), some (.inl x1), some (.inl x2), none, none, none, none, none, none, none], [.inl q4.1, .inr (.inr (96, 0))]) q4.2
    refine Wp.if0_eq (WpD.mono _) rfl rfl (fun hc => ?_) (fun hc => ?_)
    · have h := (if_pos hc).symm.trans h
      show Wp (WpD (e + 4)) hcX12_row Q (57, [some (.inr (.inr (12, 0))), some (.inl x1), some (.inl x2), none, none, none, none, none, none, none], [.inr (.inr (96, 0))]) q4.2
      refine Wp.run (WpD.mono _) 0 (q := ((58, [some (.inr (.inr (12, 0))), some (.inl x1), some (.inl x2), none, none, none, none, none, none, none], [.inl (0 : Int32), .inr (.inr (96, 0))]), q4.2)) rfl ?_
      exact Wp.jump (WpD.mono _) rfl ((T_X12_row_b58 e N  r τ Q hQ ) x1 x2 (0 : Int32) q4.2 h)
    · have h := (if_neg hc).symm.trans h
      show Wp (WpD (e + 4)) hcX12_row Q (53, [some (.inr (.inr (12, 0))), some (.inl x1), some (.inl x2), none, none, none, none, none, none, none], [.inr (.inr (96, 0))]) q4.2
      refine Wp.run (WpD.mono _) 1 (q := ((58, [some (.inr (.inr (12, 0))), some (.inl x1), some (.inl x2), none, none, none, none, none, none, none], [.inl x2, .inr (.inr (96, 0))]), q4.2)) rfl ?_
      exact Wp.jump (WpD.mono _) rfl ((T_X12_row_b58 e N  r τ Q hQ ) x1 x2 x2 q4.2 h)

set_option maxRecDepth 100000 in
set_option maxHeartbeats 4000000 in
theorem T_X12_row (e N : Nat)  (a1 : Int32) (a2 : Int32) (σ : Mem) (r : Int64) (τ : Mem) (Q : Pst) (h : F_X12_row N a1 a2 σ = some (r, τ)) (hQ : Q (some (.inr (.inl r))) τ) : WpD (e + 5) mX12_row [.inr (.inr (12, 0)), .inl a1, .inl a2] σ Q := by
  refine WpD.of (d := e + 4) (Nat.le_of_ble_eq_true rfl) (Nat.le_of_ble_eq_true rfl) ?_
  show Wp (WpD (e + 4)) hcX12_row Q (0, [some (.inr (.inr (12, 0))), some (.inl a1), some (.inl a2), none, none, none, none, none, none, none], []) σ
  unfold F_X12_row at h
  refine Wp.run (WpD.mono _) 1 (q := ((2, [some (.inr (.inr (12, 0))), some (.inl a1), some (.inl a2), none, none, none, none, none, none, none], [.inl a1, .inr (.inr (12, 0))]), σ)) rfl ?_
  obtain ⟨q1, hb, h⟩ := bind_some h
  refine Wp.call (WpD.mono _) rfl (T_X12_isPlace (e + 2) N a1 σ _ _ _ hb ?_)
  show Wp (WpD (e + 4)) hcX12_row Q (5, [some (.inr (.inr (12, 0))), some (.inl a1), some (.inl a2), none, none, none, none, none, none, none], [.inl q1.1]) q1.2
  refine Wp.if0_eq (WpD.mono _) rfl rfl (fun hc => ?_) (fun hc => ?_)
  · have h := (if_pos hc).symm.trans h
    show Wp (WpD (e + 4)) hcX12_row Q (66, [some (.inr (.inr (12, 0))), some (.inl a1), some (.inl a2), none, none, none, none, none, none, none], []) q1.2
    refine Wp.run (WpD.mono _) 0 (q := ((69, [none, none, none, none, none, none, none, none, none, none], [.inr (.inl (Int64.ofInt (-4611686018427387904)))]), q1.2)) rfl ?_
    obtain ⟨rfl, rfl⟩ := ret_inj h
    exact Wp.ret (WpD.mono _) rfl hQ
  · have h := (if_neg hc).symm.trans h
    show Wp (WpD (e + 4)) hcX12_row Q (8, [some (.inr (.inr (12, 0))), some (.inl a1), some (.inl a2), none, none, none, none, none, none, none], []) q1.2
    refine Wp.run (WpD.mono _) 2 (q := ((11, [some (.inr (.inr (12, 0))), some (.inl a1), some (.inl a2), none, none, none, none, none, none, none], [.inl (3 : Int32), .inl (0 : Int32), .inl a2]), q1.2)) rfl ?_
    obtain ⟨q2, hb, h⟩ := bind_some h
    refine Wp.call (WpD.mono _) rfl (T_X12_in (e + 3) N a2 (0 : Int32) (3 : Int32) q1.2 _ _ _ hb ?_)
    show Wp (WpD (e + 4)) hcX12_row Q (14, [some (.inr (.inr (12, 0))), some (.inl a1), some (.inl a2), none, none, none, none, none, none, none], [.inl q2.1]) q2.2
    refine Wp.if0_eq (WpD.mono _) rfl rfl (fun hc => ?_) (fun hc => ?_)
    · have h := (if_pos hc).symm.trans h
      show Wp (WpD (e + 4)) hcX12_row Q (66, [some (.inr (.inr (12, 0))), some (.inl a1), some (.inl a2), none, none, none, none, none, none, none], []) q2.2
      refine Wp.run (WpD.mono _) 0 (q := ((69, [none, none, none, none, none, none, none, none, none, none], [.inr (.inl (Int64.ofInt (-4611686018427387904)))]), q2.2)) rfl ?_
      obtain ⟨rfl, rfl⟩ := ret_inj h
      exact Wp.ret (WpD.mono _) rfl hQ
    · have h := (if_neg hc).symm.trans h
      show Wp (WpD (e + 4)) hcX12_row Q (17, [some (.inr (.inr (12, 0))), some (.inl a1), some (.inl a2), none, none, none, none, none, none, none], []) q2.2
      refine Wp.run (WpD.mono _) 4 (q := ((24, [some (.inr (.inr (12, 0))), some (.inl a1), some (.inl a2), none, none, none, none, none, none, none], [.inl (3 : Int32), .inl (0 : Int32), .inl a2, .inr (.inr (95, 0))]), q2.2)) rfl ?_
      obtain ⟨q3, hb, h⟩ := bind_some h
      refine Wp.call (WpD.mono _) rfl (T_X12_in (e + 3) N a2 (0 : Int32) (3 : Int32) q2.2 _ _ _ hb ?_)
      show Wp (WpD (e + 4)) hcX12_row Q (27, [some (.inr (.inr (12, 0))), some (.inl a1), some (.inl a2), none, none, none, none, none, none, none], [.inl q3.1, .inr (.inr (95, 0))]) q3.2
      refine Wp.if0_eq (WpD.mono _) rfl rfl (fun hc => ?_) (fun hc => ?_)
      · have h := (if_pos hc).symm.trans h
        show Wp (WpD (e + 4)) hcX12_row Q (34, [some (.inr (.inr (12, 0))), some (.inl a1), some (.inl a2), none, none, none, none, none, none, none], [.inr (.inr (95, 0))]) q3.2
        refine Wp.run (WpD.mono _) 0 (q := ((35, [some (.inr (.inr (12, 0))), some (.inl a1), some (.inl a2), none, none, none, none, none, none, none], [.inl (0 : Int32), .inr (.inr (95, 0))]), q3.2)) rfl ?_
        exact Wp.jump (WpD.mono _) rfl ((T_X12_row_b35 e N  r τ Q hQ ) a1 a2 (0 : Int32) q3.2 h)
      · have h := (if_neg hc).symm.trans h
        show Wp (WpD (e + 4)) hcX12_row Q (30, [some (.inr (.inr (12, 0))), some (.inl a1), some (.inl a2), none, none, none, none, none, none, none], [.inr (.inr (95, 0))]) q3.2
        refine Wp.run (WpD.mono _) 1 (q := ((35, [some (.inr (.inr (12, 0))), some (.inl a1), some (.inl a2), none, none, none, none, none, none, none], [.inl a2, .inr (.inr (95, 0))]), q3.2)) rfl ?_
        exact Wp.jump (WpD.mono _) rfl ((T_X12_row_b35 e N  r τ Q hQ ) a1 a2 a2 q3.2 h)

set_option maxRecDepth 100000 in
set_option maxHeartbeats 4000000 in
theorem T_X12_rule (e N : Nat)  (a1 : Int32) (a2 : Int32) (a3 : Int32) (σ : Mem) (r : Int32) (τ : Mem) (Q : Pst) (h : F_X12_rule N a1 a2 a3 σ = some (r, τ)) (hQ : Q (some (.inl r)) τ) : WpD (e + 2) mX12_rule [.inr (.inr (12, 0)), .inl a1, .inl a2, .inl a3] σ Q := by
  refine WpD.of (d := e + 1) (Nat.le_of_ble_eq_true rfl) (Nat.le_of_ble_eq_true rfl) ?_
  show Wp (WpD (e + 1)) hcX12_rule Q (0, [some (.inr (.inr (12, 0))), some (.inl a1), some (.inl a2), some (.inl a3)], []) σ
  unfold F_X12_rule at h
  refine Wp.run (WpD.mono _) 2 (q := ((3, [some (.inr (.inr (12, 0))), some (.inl a1), some (.inl a2), some (.inl a3)], [.inl (5 : Int32), .inl (0 : Int32), .inl a1]), σ)) rfl ?_
  obtain ⟨q1, hb, h⟩ := bind_some h
  refine Wp.call (WpD.mono _) rfl (T_X12_in (e + 0) N a1 (0 : Int32) (5 : Int32) σ _ _ _ hb ?_)
  show Wp (WpD (e + 1)) hcX12_rule Q (6, [some (.inr (.inr (12, 0))), some (.inl a1), some (.inl a2), some (.inl a3)], [.inl q1.1]) q1.2
  refine Wp.if0_eq (WpD.mono _) rfl rfl (fun hc => ?_) (fun hc => ?_)
  · have h := (if_pos hc).symm.trans h
    show Wp (WpD (e + 1)) hcX12_rule Q (28, [some (.inr (.inr (12, 0))), some (.inl a1), some (.inl a2), some (.inl a3)], []) q1.2
    refine Wp.run (WpD.mono _) 0 (q := ((30, [none, none, none, none], [.inl (Int32.ofInt (-2))]), q1.2)) rfl ?_
    obtain ⟨rfl, rfl⟩ := ret_inj h
    exact Wp.ret (WpD.mono _) rfl hQ
  · have h := (if_neg hc).symm.trans h
    show Wp (WpD (e + 1)) hcX12_rule Q (9, [some (.inr (.inr (12, 0))), some (.inl a1), some (.inl a2), some (.inl a3)], []) q1.2
    refine Wp.run (WpD.mono _) 2 (q := ((12, [some (.inr (.inr (12, 0))), some (.inl a1), some (.inl a2), some (.inl a3)], [.inl (5 : Int32), .inl (0 : Int32), .inl a2]), q1.2)) rfl ?_
    obtain ⟨q2, hb, h⟩ := bind_some h
    refine Wp.call (WpD.mono _) rfl (T_X12_in (e + 0) N a2 (0 : Int32) (5 : Int32) q1.2 _ _ _ hb ?_)
    show Wp (WpD (e + 1)) hcX12_rule Q (15, [some (.inr (.inr (12, 0))), some (.inl a1), some (.inl a2), some (.inl a3)], [.inl q2.1]) q2.2
    refine Wp.if0_eq (WpD.mono _) rfl rfl (fun hc => ?_) (fun hc => ?_)
    · have h := (if_pos hc).symm.trans h
      show Wp (WpD (e + 1)) hcX12_rule Q (28, [some (.inr (.inr (12, 0))), some (.inl a1), some (.inl a2), some (.inl a3)], []) q2.2
      refine Wp.run (WpD.mono _) 0 (q := ((30, [none, none, none, none], [.inl (Int32.ofInt (-2))]), q2.2)) rfl ?_
      obtain ⟨rfl, rfl⟩ := ret_inj h
      exact Wp.ret (WpD.mono _) rfl hQ
    · have h := (if_neg hc).symm.trans h
      show Wp (WpD (e + 1)) hcX12_rule Q (18, [some (.inr (.inr (12, 0))), some (.inl a1), some (.inl a2), some (.inl a3)], []) q2.2
      refine Wp.run (WpD.mono _) 2 (q := ((22, [some (.inr (.inr (12, 0))), some (.inl a1), some (.inl a2), some (.inl a3)], [.inl (7 : Int32), .inl (0 : Int32), .inl a3]), q2.2)) rfl ?_
      obtain ⟨q3, hb, h⟩ := bind_some h
      refine Wp.call (WpD.mono _) rfl (T_X12_in (e + 0) N a3 (0 : Int32) (7 : Int32) q2.2 _ _ _ hb ?_)
      show Wp (WpD (e + 1)) hcX12_rule Q (25, [some (.inr (.inr (12, 0))), some (.inl a1), some (.inl a2), some (.inl a3)], [.inl q3.1]) q3.2
      refine Wp.if0_ne (WpD.mono _) rfl rfl (fun hc => ?_) (fun hc => ?_)
      · have h := (if_pos hc).symm.trans h
        show Wp (WpD (e + 1)) hcX12_rule Q (28, [some (.inr (.inr (12, 0))), some (.inl a1), some (.inl a2), some (.inl a3)], []) q3.2
        refine Wp.run (WpD.mono _) 0 (q := ((30, [none, none, none, none], [.inl (Int32.ofInt (-2))]), q3.2)) rfl ?_
        obtain ⟨rfl, rfl⟩ := ret_inj h
        exact Wp.ret (WpD.mono _) rfl hQ
      · have h := (if_neg hc).symm.trans h
        show Wp (WpD (e + 1)) hcX12_rule Q (31, [some (.inr (.inr (12, 0))), some (.inl a1), some (.inl a2), some (.inl a3)], []) q3.2
        refine Wp.run (WpD.mono _) 2 (q := ((37, [some (.inr (.inr (12, 0))), some (.inl a1), some (.inl a2), some (.inl a3)], [.inl (8 : Int32), .inl (q3.2.1 12 16)]), q3.2)) rfl ?_
        refine Wp.if2_ne (WpD.mono _) rfl rfl (fun hc => ?_) (fun hc => ?_)
        · have h := (if_pos hc).symm.trans h
          show Wp (WpD (e + 1)) hcX12_rule Q (40, [some (.inr (.inr (12, 0))), some (.inl a1), some (.inl a2), some (.inl a3)], []) q3.2
          refine Wp.run (WpD.mono _) 0 (q := ((42, [some (.inr (.inr (12, 0))), some (.inl a1), some (.inl a2), some (.inl a3)], [.inl (Int32.ofInt (-4))]), q3.2)) rfl ?_
          obtain ⟨rfl, rfl⟩ := ret_inj h
          exact Wp.ret (WpD.mono _) rfl hQ
        · have h := (if_neg hc).symm.trans h
          show Wp (WpD (e + 1)) hcX12_rule Q (43, [some (.inr (.inr (12, 0))), some (.inl a1), some (.inl a2), some (.inl a3)], []) q3.2
          refine Wp.run (WpD.mono _) 4 (q := ((52, [some (.inr (.inr (12, 0))), some (.inl a1), some (.inl a2), some (.inl a3)], [.inl a1, .inl (q3.2.1 12 16), .inr (.inr (81, 0))]), q3.2)) rfl ?_
          obtain ⟨hc, h⟩ := ite_nn h
          refine Wp.X_ist (WpD.mono _) rfl rfl hc ?_
          show Wp (WpD (e + 1)) hcX12_rule Q (53, [some (.inr (.inr (12, 0))), some (.inl a1), some (.inl a2), some (.inl a3)], []) (q3.2.1, q3.2.2.1, (hwU3 q3.2.2.2.1 81 0 ((q3.2.1 12 16)).toNatClampNeg a1), q3.2.2.2.2.1, q3.2.2.2.2.2)
          refine Wp.run (WpD.mono _) 4 (q := ((62, [some (.inr (.inr (12, 0))), some (.inl a1), some (.inl a2), some (.inl a3)], [.inl a2, .inl (q3.2.1 12 16), .inr (.inr (82, 0))]), (q3.2.1, q3.2.2.1, (hwU3 q3.2.2.2.1 81 0 ((q3.2.1 12 16)).toNatClampNeg a1), q3.2.2.2.2.1, q3.2.2.2.2.2))) rfl ?_
          obtain ⟨hc, h⟩ := ite_nn h
          refine Wp.X_ist (WpD.mono _) rfl rfl hc ?_
          show Wp (WpD (e + 1)) hcX12_rule Q (63, [some (.inr (.inr (12, 0))), some (.inl a1), some (.inl a2), some (.inl a3)], []) (q3.2.1, q3.2.2.1, (hwU3 (hwU3 q3.2.2.2.1 81 0 ((q3.2.1 12 16)).toNatClampNeg a1) 82 0 ((q3.2.1 12 16)).toNatClampNeg a2), q3.2.2.2.2.1, q3.2.2.2.2.2)
          refine Wp.run (WpD.mono _) 4 (q := ((72, [some (.inr (.inr (12, 0))), some (.inl a1), some (.inl a2), some (.inl a3)], [.inl a3, .inl (q3.2.1 12 16), .inr (.inr (83, 0))]), (q3.2.1, q3.2.2.1, (hwU3 (hwU3 q3.2.2.2.1 81 0 ((q3.2.1 12 16)).toNatClampNeg a1) 82 0 ((q3.2.1 12 16)).toNatClampNeg a2), q3.2.2.2.2.1, q3.2.2.2.2.2))) rfl ?_
          obtain ⟨hc, h⟩ := ite_nn h
          refine Wp.X_ist (WpD.mono _) rfl rfl hc ?_
          show Wp (WpD (e + 1)) hcX12_rule Q (73, [some (.inr (.inr (12, 0))), some (.inl a1), some (.inl a2), some (.inl a3)], []) (q3.2.1, q3.2.2.1, (hwU3 (hwU3 (hwU3 q3.2.2.2.1 81 0 ((q3.2.1 12 16)).toNatClampNeg a1) 82 0 ((q3.2.1 12 16)).toNatClampNeg a2) 83 0 ((q3.2.1 12 16)).toNatClampNeg a3), q3.2.2.2.2.1, q3.2.2.2.2.2)
          refine Wp.run (WpD.mono _) 9 (q := ((89, [some (.inr (.inr (12, 0))), some (.inl a1), some (.inl a2), some (.inl a3)], [.inl (((q3.2.1 12 16) + (1 : Int32)) - (1 : Int32))]), ((hwU2 q3.2.1 12 16 ((q3.2.1 12 16) + (1 : Int32))), q3.2.2.1, (hwU3 (hwU3 (hwU3 q3.2.2.2.1 81 0 ((q3.2.1 12 16)).toNatClampNeg a1) 82 0 ((q3.2.1 12 16)).toNatClampNeg a2) 83 0 ((q3.2.1 12 16)).toNatClampNeg a3), q3.2.2.2.2.1, q3.2.2.2.2.2))) rfl ?_
          obtain ⟨rfl, rfl⟩ := ret_inj h
          exact Wp.ret (WpD.mono _) rfl hQ

set_option maxRecDepth 100000 in
set_option maxHeartbeats 4000000 in
theorem T_X12_ruleTold (e N : Nat)  (a1 : Int32) (a2 : Int32) (σ : Mem) (r : Int32) (τ : Mem) (Q : Pst) (h : F_X12_ruleTold N a1 a2 σ = some (r, τ)) (hQ : Q (some (.inl r)) τ) : WpD (e + 3) mX12_ruleTold [.inr (.inr (12, 0)), .inl a1, .inl a2] σ Q := by
  refine WpD.of (d := e + 2) (Nat.le_of_ble_eq_true rfl) (Nat.le_of_ble_eq_true rfl) ?_
  show Wp (WpD (e + 2)) hcX12_ruleTold Q (0, [some (.inr (.inr (12, 0))), some (.inl a1), some (.inl a2)], []) σ
  unfold F_X12_ruleTold at h
  refine Wp.run (WpD.mono _) 1 (q := ((2, [some (.inr (.inr (12, 0))), some (.inl a1), some (.inl a2)], [.inl a1, .inr (.inr (12, 0))]), σ)) rfl ?_
  obtain ⟨q1, hb, h⟩ := bind_some h
  refine Wp.call (WpD.mono _) rfl (T_X12_isRule (e + 0) N a1 σ _ _ _ hb ?_)
  show Wp (WpD (e + 2)) hcX12_ruleTold Q (5, [some (.inr (.inr (12, 0))), some (.inl a1), some (.inl a2)], [.inl q1.1]) q1.2
  refine Wp.if0_ne (WpD.mono _) rfl rfl (fun hc => ?_) (fun hc => ?_)
  · have h := (if_pos hc).symm.trans h
    show Wp (WpD (e + 2)) hcX12_ruleTold Q (8, [some (.inr (.inr (12, 0))), some (.inl a1), some (.inl a2)], []) q1.2
    refine Wp.run (WpD.mono _) 0 (q := ((10, [some (.inr (.inr (12, 0))), some (.inl a1), some (.inl a2)], [.inl (Int32.ofInt (-5))]), q1.2)) rfl ?_
    obtain ⟨rfl, rfl⟩ := ret_inj h
    exact Wp.ret (WpD.mono _) rfl hQ
  · have h := (if_neg hc).symm.trans h
    show Wp (WpD (e + 2)) hcX12_ruleTold Q (11, [some (.inr (.inr (12, 0))), some (.inl a1), some (.inl a2)], []) q1.2
    refine Wp.run (WpD.mono _) 0 (q := ((12, [some (.inr (.inr (12, 0))), some (.inl a1), some (.inl a2)], [.inl a2]), q1.2)) rfl ?_
    refine Wp.if0_ne (WpD.mono _) rfl rfl (fun hc => ?_) (fun hc => ?_)
    · have h := (if_pos hc).symm.trans h
      show Wp (WpD (e + 2)) hcX12_ruleTold Q (15, [some (.inr (.inr (12, 0))), some (.inl a1), some (.inl a2)], []) q1.2
      refine Wp.run (WpD.mono _) 2 (q := ((20, [some (.inr (.inr (12, 0))), some (.inl a1), some (.inl a2)], [.inl a1, .inr (.inr (81, 0))]), q1.2)) rfl ?_
      obtain ⟨hc, h⟩ := ite_nn h
      refine Wp.X_ild1 (WpD.mono _) rfl rfl hc ?_
      show Wp (WpD (e + 2)) hcX12_ruleTold Q (21, [some (.inr (.inr (12, 0))), some (.inl a1), some (.inl a2)], [.inl (q1.2.2.2.1 81 0 (a1).toNatClampNeg)]) q1.2
      refine Wp.run (WpD.mono _) 0 (q := ((54, [some (.inr (.inr (12, 0))), some (.inl a1), some (.inl a2)], [.inl (q1.2.2.2.1 81 0 (a1).toNatClampNeg)]), q1.2)) rfl ?_
      obtain ⟨rfl, rfl⟩ := ret_inj h
      exact Wp.ret (WpD.mono _) rfl hQ
    · have h := (if_neg hc).symm.trans h
      show Wp (WpD (e + 2)) hcX12_ruleTold Q (24, [some (.inr (.inr (12, 0))), some (.inl a1), some (.inl a2)], []) q1.2
      refine Wp.run (WpD.mono _) 1 (q := ((26, [some (.inr (.inr (12, 0))), some (.inl a1), some (.inl a2)], [.inl (1 : Int32), .inl a2]), q1.2)) rfl ?_
      refine Wp.if2_ne (WpD.mono _) rfl rfl (fun hc => ?_) (fun hc => ?_)
      · have h := (if_pos hc).symm.trans h
        show Wp (WpD (e + 2)) hcX12_ruleTold Q (29, [some (.inr (.inr (12, 0))), some (.inl a1), some (.inl a2)], []) q1.2
        refine Wp.run (WpD.mono _) 2 (q := ((34, [some (.inr (.inr (12, 0))), some (.inl a1), some (.inl a2)], [.inl a1, .inr (.inr (82, 0))]), q1.2)) rfl ?_
        obtain ⟨hc, h⟩ := ite_nn h
        refine Wp.X_ild1 (WpD.mono _) rfl rfl hc ?_
        show Wp (WpD (e + 2)) hcX12_ruleTold Q (35, [some (.inr (.inr (12, 0))), some (.inl a1), some (.inl a2)], [.inl (q1.2.2.2.1 82 0 (a1).toNatClampNeg)]) q1.2
        refine Wp.run (WpD.mono _) 0 (q := ((54, [some (.inr (.inr (12, 0))), some (.inl a1), some (.inl a2)], [.inl (q1.2.2.2.1 82 0 (a1).toNatClampNeg)]), q1.2)) rfl ?_
        obtain ⟨rfl, rfl⟩ := ret_inj h
        exact Wp.ret (WpD.mono _) rfl hQ
      · have h := (if_neg hc).symm.trans h
        show Wp (WpD (e + 2)) hcX12_ruleTold Q (38, [some (.inr (.inr (12, 0))), some (.inl a1), some (.inl a2)], []) q1.2
        refine Wp.run (WpD.mono _) 1 (q := ((40, [some (.inr (.inr (12, 0))), some (.inl a1), some (.inl a2)], [.inl (2 : Int32), .inl a2]), q1.2)) rfl ?_
        refine Wp.if2_ne (WpD.mono _) rfl rfl (fun hc => ?_) (fun hc => ?_)
        · have h := (if_pos hc).symm.trans h
          show Wp (WpD (e + 2)) hcX12_ruleTold Q (43, [some (.inr (.inr (12, 0))), some (.inl a1), some (.inl a2)], []) q1.2
          refine Wp.run (WpD.mono _) 2 (q := ((48, [some (.inr (.inr (12, 0))), some (.inl a1), some (.inl a2)], [.inl a1, .inr (.inr (83, 0))]), q1.2)) rfl ?_
          obtain ⟨hc, h⟩ := ite_nn h
          refine Wp.X_ild1 (WpD.mono _) rfl rfl hc ?_
          show Wp (WpD (e + 2)) hcX12_ruleTold Q (49, [some (.inr (.inr (12, 0))), some (.inl a1), some (.inl a2)], [.inl (q1.2.2.2.1 83 0 (a1).toNatClampNeg)]) q1.2
          refine Wp.run (WpD.mono _) 0 (q := ((54, [some (.inr (.inr (12, 0))), some (.inl a1), some (.inl a2)], [.inl (q1.2.2.2.1 83 0 (a1).toNatClampNeg)]), q1.2)) rfl ?_
          obtain ⟨rfl, rfl⟩ := ret_inj h
          exact Wp.ret (WpD.mono _) rfl hQ
        · have h := (if_neg hc).symm.trans h
          show Wp (WpD (e + 2)) hcX12_ruleTold Q (52, [some (.inr (.inr (12, 0))), some (.inl a1), some (.inl a2)], []) q1.2
          refine Wp.run (WpD.mono _) 0 (q := ((54, [some (.inr (.inr (12, 0))), some (.inl a1), some (.inl a2)], [.inl (Int32.ofInt (-7))]), q1.2)) rfl ?_
          obtain ⟨rfl, rfl⟩ := ret_inj h
          exact Wp.ret (WpD.mono _) rfl hQ

set_option maxRecDepth 100000 in
set_option maxHeartbeats 4000000 in
theorem T_X12_set_b42 (e N : Nat)   (r : Int32) (τ : Mem) (Q : Pst) (hQ : Q (some (.inl r)) τ) : ∀ (x1 : Int32) (x2 : Int32) (s0 : Int32) (s1 : Int32) (s2 : Int32) (σ : Mem), F_X12_set_b42 N x1 x2 s0 s1 s2 σ = some (r, τ) → Wp (WpD (e + 1)) hcX12_set Q (42, [some (.inr (.inr (12, 0))), some (.inl x1), some (.inl x2), none], [.inl s0, .inl s1, .inl s2]) σ := by
  intro x1 x2 s0 s1 s2 σ h
  unfold F_X12_set_b42 at h
  obtain ⟨q2, hb, h⟩ := bind_some h
  refine Wp.call (WpD.mono _) rfl (T_X12_in (e + 0) N s2 s1 s0 σ _ _ _ hb ?_)
  show Wp (WpD (e + 1)) hcX12_set Q (45, [some (.inr (.inr (12, 0))), some (.inl x1), some (.inl x2), none], [.inl q2.1]) q2.2
  refine Wp.if0_ne (WpD.mono _) rfl rfl (fun hc => ?_) (fun hc => ?_)
  · have h := (if_pos hc).symm.trans h
    show Wp (WpD (e + 1)) hcX12_set Q (48, [some (.inr (.inr (12, 0))), some (.inl x1), some (.inl x2), none], []) q2.2
    refine Wp.run (WpD.mono _) 0 (q := ((50, [some (.inr (.inr (12, 0))), some (.inl x1), some (.inl x2), none], [.inl (Int32.ofInt (-2))]), q2.2)) rfl ?_
    obtain ⟨rfl, rfl⟩ := ret_inj h
    exact Wp.ret (WpD.mono _) rfl hQ
  · have h := (if_neg hc).symm.trans h
    show Wp (WpD (e + 1)) hcX12_set Q (51, [some (.inr (.inr (12, 0))), some (.inl x1), some (.inl x2), none], []) q2.2
    refine Wp.run (WpD.mono _) 1 (q := ((53, [some (.inr (.inr (12, 0))), some (.inl x1), some (.inl x2), none], [.inl x1, .inr (.inr (12, 0))]), q2.2)) rfl ?_
    obtain ⟨q3, hb, h⟩ := bind_some h
    refine Wp.call (WpD.mono _) rfl (T_X12_count (e + 0) N x1 q2.2 _ _ _ hb ?_)
    show Wp (WpD (e + 1)) hcX12_set Q (56, [some (.inr (.inr (12, 0))), some (.inl x1), some (.inl x2), none], [.inl q3.1]) q3.2
    refine Wp.run (WpD.mono _) 3 (q := ((60, [some (.inr (.inr (12, 0))), some (.inl x1), some (.inl x2), some (.inl q3.1)], [.inl x2, .inl x1, .inr (.inr (12, 0))]), q3.2)) rfl ?_
    obtain ⟨q4, hb, h⟩ := bind_some h
    refine Wp.call (WpD.mono _) rfl (T_X12_holds (e + 0) N x1 x2 q3.2 _ _ _ hb ?_)
    show Wp (WpD (e + 1)) hcX12_set Q (63, [some (.inr (.inr (12, 0))), some (.inl x1), some (.inl x2), some (.inl q3.1)], []) q4.2
    refine Wp.run (WpD.mono _) 0 (q := ((64, [some (.inr (.inr (12, 0))), some (.inl x1), some (.inl x2), some (.inl q3.1)], [.inl q3.1]), q4.2)) rfl ?_
    obtain ⟨rfl, rfl⟩ := ret_inj h
    exact Wp.ret (WpD.mono _) rfl hQ

set_option maxRecDepth 100000 in
set_option maxHeartbeats 4000000 in
theorem T_X12_set_b21 (e N : Nat)   (r : Int32) (τ : Mem) (Q : Pst) (hQ : Q (some (.inl r)) τ) : ∀ (x1 : Int32) (x2 : Int32) (s0 : Int32) (s1 : Int32) (σ : Mem), F_X12_set_b21 N x1 x2 s0 s1 σ = some (r, τ) → Wp (WpD (e + 1)) hcX12_set Q (21, [some (.inr (.inr (12, 0))), some (.inl x1), some (.inl x2), none], [.inl s0, .inl s1]) σ := by
  intro x1 x2 s0 s1 σ h
  unfold F_X12_set_b21 at h
  refine Wp.run (WpD.mono _) 0 (q := ((22, [some (.inr (.inr (12, 0))), some (.inl x1), some (.inl x2), none], [.inl x1, .inl s0, .inl s1]), σ)) rfl ?_
  refine Wp.if0_ne (WpD.mono _) rfl rfl (fun hc => ?_) (fun hc => ?_)
  · have h := (if_pos hc).symm.trans h
    show Wp (WpD (e + 1)) hcX12_set Q (25, [some (.inr (.inr (12, 0))), some (.inl x1), some (.inl x2), none], [.inl s0, .inl s1]) σ
    refine Wp.run (WpD.mono _) 1 (q := ((42, [some (.inr (.inr (12, 0))), some (.inl x1), some (.inl x2), none], [.inl (5 : Int32), .inl s0, .inl s1]), σ)) rfl ?_
    exact Wp.jump (WpD.mono _) rfl ((T_X12_set_b42 e N  r τ Q hQ ) x1 x2 (5 : Int32) s0 s1 σ h)
  · have h := (if_neg hc).symm.trans h
    show Wp (WpD (e + 1)) hcX12_set Q (29, [some (.inr (.inr (12, 0))), some (.inl x1), some (.inl x2), none], [.inl s0, .inl s1]) σ
    refine Wp.run (WpD.mono _) 1 (q := ((31, [some (.inr (.inr (12, 0))), some (.inl x1), some (.inl x2), none], [.inl (2 : Int32), .inl x1, .inl s0, .inl s1]), σ)) rfl ?_
    refine Wp.if2_ne (WpD.mono _) rfl rfl (fun hc => ?_) (fun hc => ?_)
    · have h := (if_pos hc).symm.trans h
      show Wp (WpD (e + 1)) hcX12_set Q (34, [some (.inr (.inr (12, 0))), some (.inl x1), some (.inl x2), none], [.inl s0, .inl s1]) σ
      refine Wp.run (WpD.mono _) 1 (q := ((42, [some (.inr (.inr (12, 0))), some (.inl x1), some (.inl x2), none], [.inl (9 : Int32), .inl s0, .inl s1]), σ)) rfl ?_
      exact Wp.jump (WpD.mono _) rfl ((T_X12_set_b42 e N  r τ Q hQ ) x1 x2 (9 : Int32) s0 s1 σ h)
    · have h := (if_neg hc).symm.trans h
      show Wp (WpD (e + 1)) hcX12_set Q (39, [some (.inr (.inr (12, 0))), some (.inl x1), some (.inl x2), none], [.inl s0, .inl s1]) σ
      refine Wp.run (WpD.mono _) 0 (q := ((42, [some (.inr (.inr (12, 0))), some (.inl x1), some (.inl x2), none], [.inl (9999 : Int32), .inl s0, .inl s1]), σ)) rfl ?_
      exact Wp.jump (WpD.mono _) rfl ((T_X12_set_b42 e N  r τ Q hQ ) x1 x2 (9999 : Int32) s0 s1 σ h)

set_option maxRecDepth 100000 in
set_option maxHeartbeats 4000000 in
theorem T_X12_set (e N : Nat)  (a1 : Int32) (a2 : Int32) (σ : Mem) (r : Int32) (τ : Mem) (Q : Pst) (h : F_X12_set N a1 a2 σ = some (r, τ)) (hQ : Q (some (.inl r)) τ) : WpD (e + 2) mX12_set [.inr (.inr (12, 0)), .inl a1, .inl a2] σ Q := by
  refine WpD.of (d := e + 1) (Nat.le_of_ble_eq_true rfl) (Nat.le_of_ble_eq_true rfl) ?_
  show Wp (WpD (e + 1)) hcX12_set Q (0, [some (.inr (.inr (12, 0))), some (.inl a1), some (.inl a2), none], []) σ
  unfold F_X12_set at h
  refine Wp.run (WpD.mono _) 2 (q := ((3, [some (.inr (.inr (12, 0))), some (.inl a1), some (.inl a2), none], [.inl (4 : Int32), .inl (0 : Int32), .inl a1]), σ)) rfl ?_
  obtain ⟨q1, hb, h⟩ := bind_some h
  refine Wp.call (WpD.mono _) rfl (T_X12_in (e + 0) N a1 (0 : Int32) (4 : Int32) σ _ _ _ hb ?_)
  show Wp (WpD (e + 1)) hcX12_set Q (6, [some (.inr (.inr (12, 0))), some (.inl a1), some (.inl a2), none], [.inl q1.1]) q1.2
  refine Wp.if0_ne (WpD.mono _) rfl rfl (fun hc => ?_) (fun hc => ?_)
  · have h := (if_pos hc).symm.trans h
    show Wp (WpD (e + 1)) hcX12_set Q (9, [some (.inr (.inr (12, 0))), some (.inl a1), some (.inl a2), none], []) q1.2
    refine Wp.run (WpD.mono _) 0 (q := ((10, [some (.inr (.inr (12, 0))), some (.inl a1), some (.inl a2), none], [.inl (Int32.ofInt (-1))]), q1.2)) rfl ?_
    obtain ⟨rfl, rfl⟩ := ret_inj h
    exact Wp.ret (WpD.mono _) rfl hQ
  · have h := (if_neg hc).symm.trans h
    show Wp (WpD (e + 1)) hcX12_set Q (11, [some (.inr (.inr (12, 0))), some (.inl a1), some (.inl a2), none], []) q1.2
    refine Wp.run (WpD.mono _) 1 (q := ((13, [some (.inr (.inr (12, 0))), some (.inl a1), some (.inl a2), none], [.inl a1, .inl a2]), q1.2)) rfl ?_
    refine Wp.if0_ne (WpD.mono _) rfl rfl (fun hc => ?_) (fun hc => ?_)
    · have h := (if_pos hc).symm.trans h
      show Wp (WpD (e + 1)) hcX12_set Q (16, [some (.inr (.inr (12, 0))), some (.inl a1), some (.inl a2), none], [.inl a2]) q1.2
      refine Wp.run (WpD.mono _) 1 (q := ((21, [some (.inr (.inr (12, 0))), some (.inl a1), some (.inl a2), none], [.inl (1 : Int32), .inl a2]), q1.2)) rfl ?_
      exact Wp.jump (WpD.mono _) rfl ((T_X12_set_b21 e N  r τ Q hQ ) a1 a2 (1 : Int32) a2 q1.2 h)
    · have h := (if_neg hc).symm.trans h
      show Wp (WpD (e + 1)) hcX12_set Q (20, [some (.inr (.inr (12, 0))), some (.inl a1), some (.inl a2), none], [.inl a2]) q1.2
      refine Wp.run (WpD.mono _) 0 (q := ((21, [some (.inr (.inr (12, 0))), some (.inl a1), some (.inl a2), none], [.inl (0 : Int32), .inl a2]), q1.2)) rfl ?_
      exact Wp.jump (WpD.mono _) rfl ((T_X12_set_b21 e N  r τ Q hQ ) a1 a2 (0 : Int32) a2 q1.2 h)

set_option maxRecDepth 100000 in
set_option maxHeartbeats 4000000 in
theorem T_X12_share (e N : Nat)  (a1 : Int32) (a2 : Int32) (σ : Mem) (r : Int32) (τ : Mem) (Q : Pst) (h : F_X12_share N a1 a2 σ = some (r, τ)) (hQ : Q (some (.inl r)) τ) : WpD (e + 2) mX12_share [.inr (.inr (12, 0)), .inl a1, .inl a2] σ Q := by
  refine WpD.of (d := e + 1) (Nat.le_of_ble_eq_true rfl) (Nat.le_of_ble_eq_true rfl) ?_
  show Wp (WpD (e + 1)) hcX12_share Q (0, [some (.inr (.inr (12, 0))), some (.inl a1), some (.inl a2)], []) σ
  unfold F_X12_share at h
  refine Wp.run (WpD.mono _) 7 (q := ((10, [some (.inr (.inr (12, 0))), some (.inl a1), some (.inl a2)], [.inl (((1 : Int32) <<< ((σ.1 12 20) &&& 31)) - (1 : Int32)), .inl (1 : Int32), .inl a1]), σ)) rfl ?_
  obtain ⟨q1, hb, h⟩ := bind_some h
  refine Wp.call (WpD.mono _) rfl (T_X12_in (e + 0) N a1 (1 : Int32) (((1 : Int32) <<< ((σ.1 12 20) &&& 31)) - (1 : Int32)) σ _ _ _ hb ?_)
  show Wp (WpD (e + 1)) hcX12_share Q (13, [some (.inr (.inr (12, 0))), some (.inl a1), some (.inl a2)], [.inl q1.1]) q1.2
  refine Wp.if0_eq (WpD.mono _) rfl rfl (fun hc => ?_) (fun hc => ?_)
  · have h := (if_pos hc).symm.trans h
    show Wp (WpD (e + 1)) hcX12_share Q (25, [some (.inr (.inr (12, 0))), some (.inl a1), some (.inl a2)], []) q1.2
    refine Wp.run (WpD.mono _) 0 (q := ((27, [none, none, none], [.inl (Int32.ofInt (-2))]), q1.2)) rfl ?_
    obtain ⟨rfl, rfl⟩ := ret_inj h
    exact Wp.ret (WpD.mono _) rfl hQ
  · have h := (if_neg hc).symm.trans h
    show Wp (WpD (e + 1)) hcX12_share Q (16, [some (.inr (.inr (12, 0))), some (.inl a1), some (.inl a2)], []) q1.2
    refine Wp.run (WpD.mono _) 2 (q := ((19, [some (.inr (.inr (12, 0))), some (.inl a1), some (.inl a2)], [.inl (1 : Int32), .inl (0 : Int32), .inl a2]), q1.2)) rfl ?_
    obtain ⟨q2, hb, h⟩ := bind_some h
    refine Wp.call (WpD.mono _) rfl (T_X12_in (e + 0) N a2 (0 : Int32) (1 : Int32) q1.2 _ _ _ hb ?_)
    show Wp (WpD (e + 1)) hcX12_share Q (22, [some (.inr (.inr (12, 0))), some (.inl a1), some (.inl a2)], [.inl q2.1]) q2.2
    refine Wp.if0_ne (WpD.mono _) rfl rfl (fun hc => ?_) (fun hc => ?_)
    · have h := (if_pos hc).symm.trans h
      show Wp (WpD (e + 1)) hcX12_share Q (25, [some (.inr (.inr (12, 0))), some (.inl a1), some (.inl a2)], []) q2.2
      refine Wp.run (WpD.mono _) 0 (q := ((27, [none, none, none], [.inl (Int32.ofInt (-2))]), q2.2)) rfl ?_
      obtain ⟨rfl, rfl⟩ := ret_inj h
      exact Wp.ret (WpD.mono _) rfl hQ
    · have h := (if_neg hc).symm.trans h
      show Wp (WpD (e + 1)) hcX12_share Q (28, [some (.inr (.inr (12, 0))), some (.inl a1), some (.inl a2)], []) q2.2
      refine Wp.run (WpD.mono _) 1 (q := ((30, [some (.inr (.inr (12, 0))), some (.inl a1), some (.inl a2)], [.inl a1, .inr (.inr (12, 0))]), q2.2)) rfl ?_
      obtain ⟨q3, hb, h⟩ := bind_some h
      refine Wp.call (WpD.mono _) rfl (T_X12_findsWell (e + 0) N a1 q2.2 _ _ _ hb ?_)
      show Wp (WpD (e + 1)) hcX12_share Q (33, [some (.inr (.inr (12, 0))), some (.inl a1), some (.inl a2)], []) q3.2
      refine Wp.run (WpD.mono _) 0 (q := ((34, [some (.inr (.inr (12, 0))), some (.inl a1), some (.inl a2)], [.inl a2]), q3.2)) rfl ?_
      refine Wp.if0_ne (WpD.mono _) rfl rfl (fun hc => ?_) (fun hc => ?_)
      · have h := (if_pos hc).symm.trans h
        show Wp (WpD (e + 1)) hcX12_share Q (37, [some (.inr (.inr (12, 0))), some (.inl a1), some (.inl a2)], []) q3.2
        refine Wp.run (WpD.mono _) 2 (q := ((48, [some (.inr (.inr (12, 0))), some (.inl a1), some (.inl a2)], [.inl (q3.2.1 12 59)]), q3.2)) rfl ?_
        obtain ⟨rfl, rfl⟩ := ret_inj h
        exact Wp.ret (WpD.mono _) rfl hQ
      · have h := (if_neg hc).symm.trans h
        show Wp (WpD (e + 1)) hcX12_share Q (44, [some (.inr (.inr (12, 0))), some (.inl a1), some (.inl a2)], []) q3.2
        refine Wp.run (WpD.mono _) 1 (q := ((48, [some (.inr (.inr (12, 0))), some (.inl a1), some (.inl a2)], [.inl (q3.2.1 12 60)]), q3.2)) rfl ?_
        obtain ⟨rfl, rfl⟩ := ret_inj h
        exact Wp.ret (WpD.mono _) rfl hQ

set_option maxRecDepth 100000 in
set_option maxHeartbeats 4000000 in
theorem T_X12_sheet_b70 (e N : Nat)   (r : Int32) (τ : Mem) (Q : Pst) (hQ : Q (some (.inl r)) τ) : ∀ n, ∀ (x1 : Int32) (x4 : Int32) (σ : Mem), F_X12_sheet_b70 N n x1 x4 σ = some (r, τ) → Wp (WpD (e + 1)) hcX12_sheet Q (70, [some (.inr (.inr (12, 0))), some (.inl x1), none, none, some (.inl x4)], []) σ := by
  intro n
  induction n with
  | zero => intro x1 x4 σ h; cases h
  | succ n ih =>
    intro x1 x4 σ h
    unfold F_X12_sheet_b70 at h
    refine Wp.run (WpD.mono _) 1 (q := ((74, [some (.inr (.inr (12, 0))), some (.inl x1), none, none, some (.inl x4)], [.inl (40 : Int32), .inl x4]), σ)) rfl ?_
    refine Wp.if2_ge (WpD.mono _) rfl rfl (fun hc => ?_) (fun hc => ?_)
    · have h := (if_pos hc).symm.trans h
      show Wp (WpD (e + 1)) hcX12_sheet Q (96, [some (.inr (.inr (12, 0))), some (.inl x1), none, none, some (.inl x4)], []) σ
      refine Wp.run (WpD.mono _) 0 (q := ((97, [some (.inr (.inr (12, 0))), some (.inl x1), none, none, some (.inl x4)], [.inl (1 : Int32)]), σ)) rfl ?_
      obtain ⟨rfl, rfl⟩ := ret_inj h
      exact Wp.ret (WpD.mono _) rfl hQ
    · have h := (if_neg hc).symm.trans h
      show Wp (WpD (e + 1)) hcX12_sheet Q (77, [some (.inr (.inr (12, 0))), some (.inl x1), none, none, some (.inl x4)], []) σ
      refine Wp.run (WpD.mono _) 7 (q := ((89, [some (.inr (.inr (12, 0))), some (.inl x1), none, none, some (.inl x4)], [.inl (0 : Int32), .inl (((40 : Int32) * x1) + x4), .inr (.inr (97, 0))]), σ)) rfl ?_
      obtain ⟨hc, h⟩ := ite_nn h
      refine Wp.X_ist (WpD.mono _) rfl rfl hc ?_
      show Wp (WpD (e + 1)) hcX12_sheet Q (90, [some (.inr (.inr (12, 0))), some (.inl x1), none, none, some (.inl x4)], []) (σ.1, σ.2.1, (hwU3 σ.2.2.1 97 0 ((((40 : Int32) * x1) + x4)).toNatClampNeg (0 : Int32)), σ.2.2.2.1, σ.2.2.2.2)
      refine Wp.run (WpD.mono _) 1 (q := ((70, [some (.inr (.inr (12, 0))), some (.inl x1), none, none, some (.inl (x4 + (1 : Int32)))], []), (σ.1, σ.2.1, (hwU3 σ.2.2.1 97 0 ((((40 : Int32) * x1) + x4)).toNatClampNeg (0 : Int32)), σ.2.2.2.1, σ.2.2.2.2))) rfl ?_
      exact Wp.jump (WpD.mono _) rfl (ih x1 (x4 + (1 : Int32)) (σ.1, σ.2.1, (hwU3 σ.2.2.1 97 0 ((((40 : Int32) * x1) + x4)).toNatClampNeg (0 : Int32)), σ.2.2.2.1, σ.2.2.2.2) h)

set_option maxRecDepth 100000 in
set_option maxHeartbeats 4000000 in
theorem T_X12_sheet_b66 (e N : Nat)   (r : Int32) (τ : Mem) (Q : Pst) (hQ : Q (some (.inl r)) τ) : ∀ (x1 : Int32) (s0 : Int32) (s1 : Int32) (σ : Mem), F_X12_sheet_b66 N x1 s0 s1 σ = some (r, τ) → Wp (WpD (e + 1)) hcX12_sheet Q (66, [some (.inr (.inr (12, 0))), some (.inl x1), none, none, none], [.inl s0, .inl s1, .inr (.inr (96, 0))]) σ := by
  intro x1 s0 s1 σ h
  unfold F_X12_sheet_b66 at h
  obtain ⟨hc, h⟩ := ite_nn h
  refine Wp.X_ist (WpD.mono _) rfl rfl hc ?_
  show Wp (WpD (e + 1)) hcX12_sheet Q (67, [some (.inr (.inr (12, 0))), some (.inl x1), none, none, none], []) (σ.1, σ.2.1, (hwU3 σ.2.2.1 96 0 (s1).toNatClampNeg s0), σ.2.2.2.1, σ.2.2.2.2)
  refine Wp.run (WpD.mono _) 1 (q := ((70, [some (.inr (.inr (12, 0))), some (.inl x1), none, none, some (.inl (0 : Int32))], []), (σ.1, σ.2.1, (hwU3 σ.2.2.1 96 0 (s1).toNatClampNeg s0), σ.2.2.2.1, σ.2.2.2.2))) rfl ?_
  exact Wp.jump (WpD.mono _) rfl ((T_X12_sheet_b70 e N  r τ Q hQ  N) x1 (0 : Int32) (σ.1, σ.2.1, (hwU3 σ.2.2.1 96 0 (s1).toNatClampNeg s0), σ.2.2.2.1, σ.2.2.2.2) h)

set_option maxRecDepth 100000 in
set_option maxHeartbeats 4000000 in
theorem T_X12_sheet_b44 (e N : Nat)   (r : Int32) (τ : Mem) (Q : Pst) (hQ : Q (some (.inl r)) τ) : ∀ (x1 : Int32) (x2 : Int32) (x3 : Int32) (σ : Mem), F_X12_sheet_b44 N x1 x2 x3 σ = some (r, τ) → Wp (WpD (e + 1)) hcX12_sheet Q (44, [some (.inr (.inr (12, 0))), some (.inl x1), some (.inl x2), some (.inl x3), none], []) σ := by
  intro x1 x2 x3 σ h
  unfold F_X12_sheet_b44 at h
  refine Wp.run (WpD.mono _) 3 (q := ((50, [some (.inr (.inr (12, 0))), some (.inl x1), some (.inl x2), some (.inl x3), none], [.inl x2, .inl x1, .inr (.inr (95, 0))]), σ)) rfl ?_
  obtain ⟨hc, h⟩ := ite_nn h
  refine Wp.X_ist (WpD.mono _) rfl rfl hc ?_
  show Wp (WpD (e + 1)) hcX12_sheet Q (51, [some (.inr (.inr (12, 0))), some (.inl x1), some (.inl x2), some (.inl x3), none], []) (σ.1, σ.2.1, (hwU3 σ.2.2.1 95 0 (x1).toNatClampNeg x2), σ.2.2.2.1, σ.2.2.2.2)
  refine Wp.run (WpD.mono _) 4 (q := ((58, [some (.inr (.inr (12, 0))), some (.inl x1), some (.inl x2), some (.inl x3), none], [.inl (Int32.ofInt (-1)), .inl x2, .inl x1, .inr (.inr (96, 0))]), (σ.1, σ.2.1, (hwU3 σ.2.2.1 95 0 (x1).toNatClampNeg x2), σ.2.2.2.1, σ.2.2.2.2))) rfl ?_
  refine Wp.if2_ne (WpD.mono _) rfl rfl (fun hc => ?_) (fun hc => ?_)
  · have h := (if_pos hc).symm.trans h
    show Wp (WpD (e + 1)) hcX12_sheet Q (61, [some (.inr (.inr (12, 0))), some (.inl x1), some (.inl x2), some (.inl x3), none], [.inl x1, .inr (.inr (96, 0))]) (σ.1, σ.2.1, (hwU3 σ.2.2.1 95 0 (x1).toNatClampNeg x2), σ.2.2.2.1, σ.2.2.2.2)
    refine Wp.run (WpD.mono _) 1 (q := ((66, [some (.inr (.inr (12, 0))), some (.inl x1), some (.inl x2), some (.inl x3), none], [.inl (0 : Int32), .inl x1, .inr (.inr (96, 0))]), (σ.1, σ.2.1, (hwU3 σ.2.2.1 95 0 (x1).toNatClampNeg x2), σ.2.2.2.1, σ.2.2.2.2))) rfl ?_
    exact Wp.jump (WpD.mono _) rfl ((T_X12_sheet_b66 e N  r τ Q hQ ) x1 (0 : Int32) x1 (σ.1, σ.2.1, (hwU3 σ.2.2.1 95 0 (x1).toNatClampNeg x2), σ.2.2.2.1, σ.2.2.2.2) h)
  · have h := (if_neg hc).symm.trans h
    show Wp (WpD (e + 1)) hcX12_sheet Q (65, [some (.inr (.inr (12, 0))), some (.inl x1), some (.inl x2), some (.inl x3), none], [.inl x1, .inr (.inr (96, 0))]) (σ.1, σ.2.1, (hwU3 σ.2.2.1 95 0 (x1).toNatClampNeg x2), σ.2.2.2.1, σ.2.2.2.2)
    refine Wp.run (WpD.mono _) 0 (q := ((66, [some (.inr (.inr (12, 0))), some (.inl x1), some (.inl x2), some (.inl x3), none], [.inl x3, .inl x1, .inr (.inr (96, 0))]), (σ.1, σ.2.1, (hwU3 σ.2.2.1 95 0 (x1).toNatClampNeg x2), σ.2.2.2.1, σ.2.2.2.2))) rfl ?_
    exact Wp.jump (WpD.mono _) rfl ((T_X12_sheet_b66 e N  r τ Q hQ ) x1 x3 x1 (σ.1, σ.2.1, (hwU3 σ.2.2.1 95 0 (x1).toNatClampNeg x2), σ.2.2.2.1, σ.2.2.2.2) h)

set_option maxRecDepth 100000 in
set_option maxHeartbeats 4000000 in
theorem T_X12_sheet_b32 (e N : Nat)   (r : Int32) (τ : Mem) (Q : Pst) (hQ : Q (some (.inl r)) τ) : ∀ (x1 : Int32) (x2 : Int32) (x3 : Int32) (σ : Mem), F_X12_sheet_b32 N x1 x2 x3 σ = some (r, τ) → Wp (WpD (e + 1)) hcX12_sheet Q (32, [some (.inr (.inr (12, 0))), some (.inl x1), some (.inl x2), some (.inl x3), none], []) σ := by
  intro x1 x2 x3 σ h
  unfold F_X12_sheet_b32 at h
  refine Wp.run (WpD.mono _) 1 (q := ((34, [some (.inr (.inr (12, 0))), some (.inl x1), some (.inl x2), some (.inl x3), none], [.inl (Int32.ofInt (-1)), .inl x2]), σ)) rfl ?_
  refine Wp.if2_eq (WpD.mono _) rfl rfl (fun hc => ?_) (fun hc => ?_)
  · have h := (if_pos hc).symm.trans h
    show Wp (WpD (e + 1)) hcX12_sheet Q (44, [some (.inr (.inr (12, 0))), some (.inl x1), some (.inl x2), some (.inl x3), none], []) σ
    exact Wp.jump (WpD.mono _) rfl ((T_X12_sheet_b44 e N  r τ Q hQ ) x1 x2 x3 σ h)
  · have h := (if_neg hc).symm.trans h
    show Wp (WpD (e + 1)) hcX12_sheet Q (37, [some (.inr (.inr (12, 0))), some (.inl x1), some (.inl x2), some (.inl x3), none], []) σ
    refine Wp.run (WpD.mono _) 0 (q := ((38, [some (.inr (.inr (12, 0))), some (.inl x1), some (.inl x2), some (.inl x3), none], [.inl x3]), σ)) rfl ?_
    refine Wp.if0_ge (WpD.mono _) rfl rfl (fun hc => ?_) (fun hc => ?_)
    · have h := (if_pos hc).symm.trans h
      show Wp (WpD (e + 1)) hcX12_sheet Q (44, [some (.inr (.inr (12, 0))), some (.inl x1), some (.inl x2), some (.inl x3), none], []) σ
      exact Wp.jump (WpD.mono _) rfl ((T_X12_sheet_b44 e N  r τ Q hQ ) x1 x2 x3 σ h)
    · have h := (if_neg hc).symm.trans h
      show Wp (WpD (e + 1)) hcX12_sheet Q (41, [some (.inr (.inr (12, 0))), some (.inl x1), some (.inl x2), some (.inl x3), none], []) σ
      refine Wp.run (WpD.mono _) 0 (q := ((43, [some (.inr (.inr (12, 0))), some (.inl x1), some (.inl x2), some (.inl x3), none], [.inl (Int32.ofInt (-14))]), σ)) rfl ?_
      obtain ⟨rfl, rfl⟩ := ret_inj h
      exact Wp.ret (WpD.mono _) rfl hQ

set_option maxRecDepth 100000 in
set_option maxHeartbeats 4000000 in
theorem T_X12_sheet (e N : Nat)  (a1 : Int32) (a2 : Int32) (a3 : Int32) (σ : Mem) (r : Int32) (τ : Mem) (Q : Pst) (h : F_X12_sheet N a1 a2 a3 σ = some (r, τ)) (hQ : Q (some (.inl r)) τ) : WpD (e + 2) mX12_sheet [.inr (.inr (12, 0)), .inl a1, .inl a2, .inl a3] σ Q := by
  refine WpD.of (d := e + 1) (Nat.le_of_ble_eq_true rfl) (Nat.le_of_ble_eq_true rfl) ?_
  show Wp (WpD (e + 1)) hcX12_sheet Q (0, [some (.inr (.inr (12, 0))), some (.inl a1), some (.inl a2), some (.inl a3), none], []) σ
  unfold F_X12_sheet at h
  refine Wp.run (WpD.mono _) 2 (q := ((3, [some (.inr (.inr (12, 0))), some (.inl a1), some (.inl a2), some (.inl a3), none], [.inl (3 : Int32), .inl (0 : Int32), .inl a1]), σ)) rfl ?_
  obtain ⟨q1, hb, h⟩ := bind_some h
  refine Wp.call (WpD.mono _) rfl (T_X12_in (e + 0) N a1 (0 : Int32) (3 : Int32) σ _ _ _ hb ?_)
  show Wp (WpD (e + 1)) hcX12_sheet Q (6, [some (.inr (.inr (12, 0))), some (.inl a1), some (.inl a2), some (.inl a3), none], [.inl q1.1]) q1.2
  refine Wp.if0_eq (WpD.mono _) rfl rfl (fun hc => ?_) (fun hc => ?_)
  · have h := (if_pos hc).symm.trans h
    show Wp (WpD (e + 1)) hcX12_sheet Q (29, [some (.inr (.inr (12, 0))), some (.inl a1), some (.inl a2), some (.inl a3), none], []) q1.2
    refine Wp.run (WpD.mono _) 0 (q := ((31, [none, none, none, none, none], [.inl (Int32.ofInt (-2))]), q1.2)) rfl ?_
    obtain ⟨rfl, rfl⟩ := ret_inj h
    exact Wp.ret (WpD.mono _) rfl hQ
  · have h := (if_neg hc).symm.trans h
    show Wp (WpD (e + 1)) hcX12_sheet Q (9, [some (.inr (.inr (12, 0))), some (.inl a1), some (.inl a2), some (.inl a3), none], []) q1.2
    refine Wp.run (WpD.mono _) 2 (q := ((12, [some (.inr (.inr (12, 0))), some (.inl a1), some (.inl a2), some (.inl a3), none], [.inl (2 : Int32), .inl (Int32.ofInt (-1)), .inl a2]), q1.2)) rfl ?_
    obtain ⟨q2, hb, h⟩ := bind_some h
    refine Wp.call (WpD.mono _) rfl (T_X12_in (e + 0) N a2 (Int32.ofInt (-1)) (2 : Int32) q1.2 _ _ _ hb ?_)
    show Wp (WpD (e + 1)) hcX12_sheet Q (15, [some (.inr (.inr (12, 0))), some (.inl a1), some (.inl a2), some (.inl a3), none], [.inl q2.1]) q2.2
    refine Wp.if0_eq (WpD.mono _) rfl rfl (fun hc => ?_) (fun hc => ?_)
    · have h := (if_pos hc).symm.trans h
      show Wp (WpD (e + 1)) hcX12_sheet Q (29, [some (.inr (.inr (12, 0))), some (.inl a1), some (.inl a2), some (.inl a3), none], []) q2.2
      refine Wp.run (WpD.mono _) 0 (q := ((31, [none, none, none, none, none], [.inl (Int32.ofInt (-2))]), q2.2)) rfl ?_
      obtain ⟨rfl, rfl⟩ := ret_inj h
      exact Wp.ret (WpD.mono _) rfl hQ
    · have h := (if_neg hc).symm.trans h
      show Wp (WpD (e + 1)) hcX12_sheet Q (18, [some (.inr (.inr (12, 0))), some (.inl a1), some (.inl a2), some (.inl a3), none], []) q2.2
      refine Wp.run (WpD.mono _) 1 (q := ((20, [some (.inr (.inr (12, 0))), some (.inl a1), some (.inl a2), some (.inl a3), none], [.inl (Int32.ofInt (-1)), .inl a2]), q2.2)) rfl ?_
      refine Wp.if2_eq (WpD.mono _) rfl rfl (fun hc => ?_) (fun hc => ?_)
      · have h := (if_pos hc).symm.trans h
        show Wp (WpD (e + 1)) hcX12_sheet Q (32, [some (.inr (.inr (12, 0))), some (.inl a1), some (.inl a2), some (.inl a3), none], []) q2.2
        exact Wp.jump (WpD.mono _) rfl ((T_X12_sheet_b32 e N  r τ Q hQ ) a1 a2 a3 q2.2 h)
      · have h := (if_neg hc).symm.trans h
        show Wp (WpD (e + 1)) hcX12_sheet Q (23, [some (.inr (.inr (12, 0))), some (.inl a1), some (.inl a2), some (.inl a3), none], []) q2.2
        refine Wp.run (WpD.mono _) 1 (q := ((26, [some (.inr (.inr (12, 0))), some (.inl a1), some (.inl a2), some (.inl a3), none], [.inl (40 : Int32), .inl a3]), q2.2)) rfl ?_
        refine Wp.if2_le (WpD.mono _) rfl rfl (fun hc => ?_) (fun hc => ?_)
        · have h := (if_pos hc).symm.trans h
          show Wp (WpD (e + 1)) hcX12_sheet Q (32, [some (.inr (.inr (12, 0))), some (.inl a1), some (.inl a2), some (.inl a3), none], []) q2.2
          exact Wp.jump (WpD.mono _) rfl ((T_X12_sheet_b32 e N  r τ Q hQ ) a1 a2 a3 q2.2 h)
        · have h := (if_neg hc).symm.trans h
          show Wp (WpD (e + 1)) hcX12_sheet Q (29, [some (.inr (.inr (12, 0))), some (.inl a1), some (.inl a2), some (.inl a3), none], []) q2.2
          refine Wp.run (WpD.mono _) 0 (q := ((31, [none, none, none, none, none], [.inl (Int32.ofInt (-2))]), q2.2)) rfl ?_
          obtain ⟨rfl, rfl⟩ := ret_inj h
          exact Wp.ret (WpD.mono _) rfl hQ

set_option maxRecDepth 100000 in
set_option maxHeartbeats 4000000 in
theorem T_X12_taken (e N : Nat)  (a1 : Int32) (a2 : Int32) (σ : Mem) (r : Int32) (τ : Mem) (Q : Pst) (h : F_X12_taken N a1 a2 σ = some (r, τ)) (hQ : Q (some (.inl r)) τ) : WpD (e + 2) mX12_taken [.inr (.inr (12, 0)), .inl a1, .inl a2] σ Q := by
  refine WpD.of (d := e + 1) (Nat.le_of_ble_eq_true rfl) (Nat.le_of_ble_eq_true rfl) ?_
  show Wp (WpD (e + 1)) hcX12_taken Q (0, [some (.inr (.inr (12, 0))), some (.inl a1), some (.inl a2)], []) σ
  unfold F_X12_taken at h
  refine Wp.run (WpD.mono _) 2 (q := ((4, [some (.inr (.inr (12, 0))), some (.inl a1), some (.inl a2)], [.inl (6 : Int32), .inl (0 : Int32), .inl a2]), σ)) rfl ?_
  obtain ⟨q1, hb, h⟩ := bind_some h
  refine Wp.call (WpD.mono _) rfl (T_X12_in (e + 0) N a2 (0 : Int32) (6 : Int32) σ _ _ _ hb ?_)
  show Wp (WpD (e + 1)) hcX12_taken Q (7, [some (.inr (.inr (12, 0))), some (.inl a1), some (.inl a2)], [.inl q1.1]) q1.2
  refine Wp.if0_ne (WpD.mono _) rfl rfl (fun hc => ?_) (fun hc => ?_)
  · have h := (if_pos hc).symm.trans h
    show Wp (WpD (e + 1)) hcX12_taken Q (10, [some (.inr (.inr (12, 0))), some (.inl a1), some (.inl a2)], []) q1.2
    refine Wp.run (WpD.mono _) 0 (q := ((12, [some (.inr (.inr (12, 0))), some (.inl a1), some (.inl a2)], [.inl (Int32.ofInt (-2))]), q1.2)) rfl ?_
    obtain ⟨rfl, rfl⟩ := ret_inj h
    exact Wp.ret (WpD.mono _) rfl hQ
  · have h := (if_neg hc).symm.trans h
    show Wp (WpD (e + 1)) hcX12_taken Q (13, [some (.inr (.inr (12, 0))), some (.inl a1), some (.inl a2)], []) q1.2
    refine Wp.run (WpD.mono _) 2 (q := ((17, [some (.inr (.inr (12, 0))), some (.inl a1), some (.inl a2)], [.inl (12 : Int32), .inl (0 : Int32), .inl a1]), q1.2)) rfl ?_
    obtain ⟨q2, hb, h⟩ := bind_some h
    refine Wp.call (WpD.mono _) rfl (T_X12_in (e + 0) N a1 (0 : Int32) (12 : Int32) q1.2 _ _ _ hb ?_)
    show Wp (WpD (e + 1)) hcX12_taken Q (20, [some (.inr (.inr (12, 0))), some (.inl a1), some (.inl a2)], [.inl q2.1]) q2.2
    refine Wp.if0_ne (WpD.mono _) rfl rfl (fun hc => ?_) (fun hc => ?_)
    · have h := (if_pos hc).symm.trans h
      show Wp (WpD (e + 1)) hcX12_taken Q (23, [some (.inr (.inr (12, 0))), some (.inl a1), some (.inl a2)], []) q2.2
      refine Wp.run (WpD.mono _) 0 (q := ((25, [some (.inr (.inr (12, 0))), some (.inl a1), some (.inl a2)], [.inl (Int32.ofInt (-12))]), q2.2)) rfl ?_
      obtain ⟨rfl, rfl⟩ := ret_inj h
      exact Wp.ret (WpD.mono _) rfl hQ
    · have h := (if_neg hc).symm.trans h
      show Wp (WpD (e + 1)) hcX12_taken Q (26, [some (.inr (.inr (12, 0))), some (.inl a1), some (.inl a2)], []) q2.2
      refine Wp.run (WpD.mono _) 1 (q := ((28, [some (.inr (.inr (12, 0))), some (.inl a1), some (.inl a2)], [.inl (5 : Int32), .inl a1]), q2.2)) rfl ?_
      refine Wp.if2_ge (WpD.mono _) rfl rfl (fun hc => ?_) (fun hc => ?_)
      · have h := (if_pos hc).symm.trans h
        show Wp (WpD (e + 1)) hcX12_taken Q (62, [some (.inr (.inr (12, 0))), some (.inl a1), some (.inl a2)], []) q2.2
        refine Wp.run (WpD.mono _) 4 (q := ((69, [some (.inr (.inr (12, 0))), some (.inl a1), some (.inl a2)], [.inl (q2.2.1 12 16), .inl (a1 - (5 : Int32))]), q2.2)) rfl ?_
        refine Wp.if2_lt (WpD.mono _) rfl rfl (fun hc => ?_) (fun hc => ?_)
        · have h := (if_pos hc).symm.trans h
          show Wp (WpD (e + 1)) hcX12_taken Q (77, [some (.inr (.inr (12, 0))), some (.inl a1), some (.inl a2)], []) q2.2
          refine Wp.run (WpD.mono _) 1 (q := ((80, [some (.inr (.inr (12, 0))), some (.inl a1), some (.inl a2)], [.inl (6 : Int32), .inl a2]), q2.2)) rfl ?_
          refine Wp.if2_ge (WpD.mono _) rfl rfl (fun hc => ?_) (fun hc => ?_)
          · have h := (if_pos hc).symm.trans h
            show Wp (WpD (e + 1)) hcX12_taken Q (104, [some (.inr (.inr (12, 0))), some (.inl a1), some (.inl a2)], []) q2.2
            refine Wp.run (WpD.mono _) 0 (q := ((106, [none, none, none], [.inl (Int32.ofInt (-13))]), q2.2)) rfl ?_
            obtain ⟨rfl, rfl⟩ := ret_inj h
            exact Wp.ret (WpD.mono _) rfl hQ
          · have h := (if_neg hc).symm.trans h
            show Wp (WpD (e + 1)) hcX12_taken Q (83, [some (.inr (.inr (12, 0))), some (.inl a1), some (.inl a2)], []) q2.2
            refine Wp.run (WpD.mono _) 4 (q := ((90, [some (.inr (.inr (12, 0))), some (.inl a1), some (.inl a2)], [.inl (a1 - (5 : Int32)), .inr (.inr (81, 0))]), q2.2)) rfl ?_
            obtain ⟨hc, h⟩ := ite_nn h
            refine Wp.X_ild1 (WpD.mono _) rfl rfl hc ?_
            show Wp (WpD (e + 1)) hcX12_taken Q (91, [some (.inr (.inr (12, 0))), some (.inl a1), some (.inl a2)], [.inl (q2.2.2.2.1 81 0 ((a1 - (5 : Int32))).toNatClampNeg)]) q2.2
            refine Wp.run (WpD.mono _) 0 (q := ((92, [some (.inr (.inr (12, 0))), some (.inl a1), some (.inl a2)], [.inl a2, .inl (q2.2.2.2.1 81 0 ((a1 - (5 : Int32))).toNatClampNeg)]), q2.2)) rfl ?_
            obtain ⟨q3, hb, h⟩ := bind_some h
            refine Wp.call (WpD.mono _) rfl (T_X12_isUnder (e + 0) N (q2.2.2.2.1 81 0 ((a1 - (5 : Int32))).toNatClampNeg) a2 q2.2 _ _ _ hb ?_)
            show Wp (WpD (e + 1)) hcX12_taken Q (95, [some (.inr (.inr (12, 0))), some (.inl a1), some (.inl a2)], [.inl q3.1]) q3.2
            refine Wp.if0_eq (WpD.mono _) rfl rfl (fun hc => ?_) (fun hc => ?_)
            · have h := (if_pos hc).symm.trans h
              show Wp (WpD (e + 1)) hcX12_taken Q (104, [some (.inr (.inr (12, 0))), some (.inl a1), some (.inl a2)], []) q3.2
              refine Wp.run (WpD.mono _) 0 (q := ((106, [none, none, none], [.inl (Int32.ofInt (-13))]), q3.2)) rfl ?_
              obtain ⟨rfl, rfl⟩ := ret_inj h
              exact Wp.ret (WpD.mono _) rfl hQ
            · have h := (if_neg hc).symm.trans h
              show Wp (WpD (e + 1)) hcX12_taken Q (98, [some (.inr (.inr (12, 0))), some (.inl a1), some (.inl a2)], []) q3.2
              refine Wp.run (WpD.mono _) 3 (q := ((106, [some (.inr (.inr (12, 0))), some (.inl a1), some (.inl a2)], [.inl (a1 - (5 : Int32))]), q3.2)) rfl ?_
              obtain ⟨rfl, rfl⟩ := ret_inj h
              exact Wp.ret (WpD.mono _) rfl hQ
        · have h := (if_neg hc).symm.trans h
          show Wp (WpD (e + 1)) hcX12_taken Q (72, [some (.inr (.inr (12, 0))), some (.inl a1), some (.inl a2)], []) q2.2
          refine Wp.run (WpD.mono _) 1 (q := ((106, [some (.inr (.inr (12, 0))), some (.inl a1), some (.inl a2)], [.inl (Int32.ofInt (-11))]), q2.2)) rfl ?_
          obtain ⟨rfl, rfl⟩ := ret_inj h
          exact Wp.ret (WpD.mono _) rfl hQ
      · have h := (if_neg hc).symm.trans h
        show Wp (WpD (e + 1)) hcX12_taken Q (31, [some (.inr (.inr (12, 0))), some (.inl a1), some (.inl a2)], []) q2.2
        refine Wp.run (WpD.mono _) 2 (q := ((36, [some (.inr (.inr (12, 0))), some (.inl a1), some (.inl a2)], [.inl (q2.2.1 12 5), .inl a1]), q2.2)) rfl ?_
        refine Wp.if2_lt (WpD.mono _) rfl rfl (fun hc => ?_) (fun hc => ?_)
        · have h := (if_pos hc).symm.trans h
          show Wp (WpD (e + 1)) hcX12_taken Q (44, [some (.inr (.inr (12, 0))), some (.inl a1), some (.inl a2)], []) q2.2
          refine Wp.run (WpD.mono _) 1 (q := ((47, [some (.inr (.inr (12, 0))), some (.inl a1), some (.inl a2)], [.inl (6 : Int32), .inl a2]), q2.2)) rfl ?_
          refine Wp.if2_ne (WpD.mono _) rfl rfl (fun hc => ?_) (fun hc => ?_)
          · have h := (if_pos hc).symm.trans h
            show Wp (WpD (e + 1)) hcX12_taken Q (50, [some (.inr (.inr (12, 0))), some (.inl a1), some (.inl a2)], []) q2.2
            refine Wp.run (WpD.mono _) 2 (q := ((55, [some (.inr (.inr (12, 0))), some (.inl a1), some (.inl a2)], [.inl a1, .inr (.inr (72, 0))]), q2.2)) rfl ?_
            obtain ⟨hc, h⟩ := ite_nn h
            refine Wp.X_ild1 (WpD.mono _) rfl rfl hc ?_
            show Wp (WpD (e + 1)) hcX12_taken Q (56, [some (.inr (.inr (12, 0))), some (.inl a1), some (.inl a2)], [.inl (q2.2.2.2.1 72 0 (a1).toNatClampNeg)]) q2.2
            refine Wp.run (WpD.mono _) 0 (q := ((61, [some (.inr (.inr (12, 0))), some (.inl a1), some (.inl a2)], [.inl (q2.2.2.2.1 72 0 (a1).toNatClampNeg)]), q2.2)) rfl ?_
            obtain ⟨rfl, rfl⟩ := ret_inj h
            exact Wp.ret (WpD.mono _) rfl hQ
          · have h := (if_neg hc).symm.trans h
            show Wp (WpD (e + 1)) hcX12_taken Q (59, [some (.inr (.inr (12, 0))), some (.inl a1), some (.inl a2)], []) q2.2
            refine Wp.run (WpD.mono _) 0 (q := ((61, [some (.inr (.inr (12, 0))), some (.inl a1), some (.inl a2)], [.inl (Int32.ofInt (-13))]), q2.2)) rfl ?_
            obtain ⟨rfl, rfl⟩ := ret_inj h
            exact Wp.ret (WpD.mono _) rfl hQ
        · have h := (if_neg hc).symm.trans h
          show Wp (WpD (e + 1)) hcX12_taken Q (39, [some (.inr (.inr (12, 0))), some (.inl a1), some (.inl a2)], []) q2.2
          refine Wp.run (WpD.mono _) 1 (q := ((61, [some (.inr (.inr (12, 0))), some (.inl a1), some (.inl a2)], [.inl (Int32.ofInt (-11))]), q2.2)) rfl ?_
          obtain ⟨rfl, rfl⟩ := ret_inj h
          exact Wp.ret (WpD.mono _) rfl hQ

set_option maxRecDepth 100000 in
set_option maxHeartbeats 4000000 in
theorem T_X12_text_b59 (e N : Nat)  (k60 : Int32 → Int32 → Mem → Option (Int32 × Mem)) (r : Int32) (τ : Mem) (Q : Pst) (hQ : Q (some (.inl r)) τ) (hk60 : ∀ (x2 : Int32) (s0 : Int32) (σ : Mem), k60 x2 s0 σ = some (r, τ) → Wp (WpD (e + 4)) hcX12_text Q (60, [some (.inr (.inr (12, 0))), none, some (.inl x2)], [.inl s0]) σ) : ∀ (x2 : Int32) (σ : Mem), F_X12_text_b59 N k60 x2 σ = some (r, τ) → Wp (WpD (e + 4)) hcX12_text Q (59, [some (.inr (.inr (12, 0))), none, some (.inl x2)], []) σ := by
  intro x2 σ h
  unfold F_X12_text_b59 at h
  refine Wp.run (WpD.mono _) 0 (q := ((60, [some (.inr (.inr (12, 0))), none, some (.inl x2)], [.inl (0 : Int32)]), σ)) rfl ?_
  exact Wp.jump (WpD.mono _) rfl (hk60 x2 (0 : Int32) σ h)

set_option maxRecDepth 100000 in
set_option maxHeartbeats 4000000 in
theorem T_X12_text_b60 (e N : Nat)  (k26 : Int32 → Int32 → Mem → Option (Int32 × Mem)) (r : Int32) (τ : Mem) (Q : Pst) (hQ : Q (some (.inl r)) τ) (hk26 : ∀ (x1 : Int32) (x2 : Int32) (σ : Mem), k26 x1 x2 σ = some (r, τ) → Wp (WpD (e + 4)) hcX12_text Q (26, [some (.inr (.inr (12, 0))), some (.inl x1), some (.inl x2)], []) σ) : ∀ (x2 : Int32) (s0 : Int32) (σ : Mem), F_X12_text_b60 N k26 x2 s0 σ = some (r, τ) → Wp (WpD (e + 4)) hcX12_text Q (60, [some (.inr (.inr (12, 0))), none, some (.inl x2)], [.inl s0]) σ := by
  intro x2 s0 σ h
  unfold F_X12_text_b60 at h
  refine Wp.run (WpD.mono _) 10 (q := ((77, [some (.inr (.inr (12, 0))), some (.inl s0), some (.inl x2)], [.inl (σ.1 12 50), .inl (((4 : Int32) * (σ.1 12 27)) + x2), .inr (.inr (88, 0))]), σ)) rfl ?_
  obtain ⟨hc, h⟩ := ite_nn h
  refine Wp.X_ist (WpD.mono _) rfl rfl hc ?_
  show Wp (WpD (e + 4)) hcX12_text Q (78, [some (.inr (.inr (12, 0))), some (.inl s0), some (.inl x2)], []) (σ.1, σ.2.1, (hwU3 σ.2.2.1 88 0 ((((4 : Int32) * (σ.1 12 27)) + x2)).toNatClampNeg (σ.1 12 50)), σ.2.2.2.1, σ.2.2.2.2)
  refine Wp.run (WpD.mono _) 0 (q := ((79, [some (.inr (.inr (12, 0))), some (.inl s0), some (.inl x2)], [.inl s0]), (σ.1, σ.2.1, (hwU3 σ.2.2.1 88 0 ((((4 : Int32) * (σ.1 12 27)) + x2)).toNatClampNeg (σ.1 12 50)), σ.2.2.2.1, σ.2.2.2.2))) rfl ?_
  refine Wp.if0_eq (WpD.mono _) rfl rfl (fun hc => ?_) (fun hc => ?_)
  · have h := (if_pos hc).symm.trans h
    show Wp (WpD (e + 4)) hcX12_text Q (93, [some (.inr (.inr (12, 0))), some (.inl s0), some (.inl x2)], []) (σ.1, σ.2.1, (hwU3 σ.2.2.1 88 0 ((((4 : Int32) * (σ.1 12 27)) + x2)).toNatClampNeg (σ.1 12 50)), σ.2.2.2.1, σ.2.2.2.2)
    refine Wp.run (WpD.mono _) 3 (q := ((26, [some (.inr (.inr (12, 0))), some (.inl (0 : Int32)), some (.inl (x2 + (1 : Int32)))], []), (σ.1, σ.2.1, (hwU3 σ.2.2.1 88 0 ((((4 : Int32) * (σ.1 12 27)) + x2)).toNatClampNeg (σ.1 12 50)), σ.2.2.2.1, σ.2.2.2.2))) rfl ?_
    exact Wp.jump (WpD.mono _) rfl (hk26 (0 : Int32) (x2 + (1 : Int32)) (σ.1, σ.2.1, (hwU3 σ.2.2.1 88 0 ((((4 : Int32) * (σ.1 12 27)) + x2)).toNatClampNeg (σ.1 12 50)), σ.2.2.2.1, σ.2.2.2.2) h)
  · have h := (if_neg hc).symm.trans h
    show Wp (WpD (e + 4)) hcX12_text Q (82, [some (.inr (.inr (12, 0))), some (.inl s0), some (.inl x2)], []) (σ.1, σ.2.1, (hwU3 σ.2.2.1 88 0 ((((4 : Int32) * (σ.1 12 27)) + x2)).toNatClampNeg (σ.1 12 50)), σ.2.2.2.1, σ.2.2.2.2)
    refine Wp.run (WpD.mono _) 0 (q := ((83, [some (.inr (.inr (12, 0))), some (.inl s0), some (.inl x2)], [.inr (.inr (12, 0))]), (σ.1, σ.2.1, (hwU3 σ.2.2.1 88 0 ((((4 : Int32) * (σ.1 12 27)) + x2)).toNatClampNeg (σ.1 12 50)), σ.2.2.2.1, σ.2.2.2.2))) rfl ?_
    obtain ⟨q2, hb, h⟩ := bind_some h
    refine Wp.call (WpD.mono _) rfl (T_X12_eRead (e + 0) N (σ.1, σ.2.1, (hwU3 σ.2.2.1 88 0 ((((4 : Int32) * (σ.1 12 27)) + x2)).toNatClampNeg (σ.1 12 50)), σ.2.2.2.1, σ.2.2.2.2) _ _ _ hb ?_)
    show Wp (WpD (e + 4)) hcX12_text Q (86, [some (.inr (.inr (12, 0))), some (.inl s0), some (.inl x2)], [.inl q2.1]) q2.2
    refine Wp.if0_eq (WpD.mono _) rfl rfl (fun hc => ?_) (fun hc => ?_)
    · have h := (if_pos hc).symm.trans h
      show Wp (WpD (e + 4)) hcX12_text Q (93, [some (.inr (.inr (12, 0))), some (.inl s0), some (.inl x2)], []) q2.2
      refine Wp.run (WpD.mono _) 3 (q := ((26, [some (.inr (.inr (12, 0))), some (.inl (0 : Int32)), some (.inl (x2 + (1 : Int32)))], []), q2.2)) rfl ?_
      exact Wp.jump (WpD.mono _) rfl (hk26 (0 : Int32) (x2 + (1 : Int32)) q2.2 h)
    · have h := (if_neg hc).symm.trans h
      show Wp (WpD (e + 4)) hcX12_text Q (89, [some (.inr (.inr (12, 0))), some (.inl s0), some (.inl x2)], []) q2.2
      refine Wp.run (WpD.mono _) 4 (q := ((26, [some (.inr (.inr (12, 0))), some (.inl (1 : Int32)), some (.inl (x2 + (1 : Int32)))], []), q2.2)) rfl ?_
      exact Wp.jump (WpD.mono _) rfl (hk26 (1 : Int32) (x2 + (1 : Int32)) q2.2 h)

set_option maxRecDepth 100000 in
set_option maxHeartbeats 4000000 in
theorem T_X12_text_b121 (e N : Nat)  (k122 : Int32 → Mem → Option (Int32 × Mem)) (r : Int32) (τ : Mem) (Q : Pst) (hQ : Q (some (.inl r)) τ) (hk122 : ∀ (x1 : Int32) (σ : Mem), k122 x1 σ = some (r, τ) → Wp (WpD (e + 4)) hcX12_text Q (122, [some (.inr (.inr (12, 0))), some (.inl x1), none], []) σ) : ∀ (s0 : Int32) (σ : Mem), F_X12_text_b121 N k122 s0 σ = some (r, τ) → Wp (WpD (e + 4)) hcX12_text Q (121, [some (.inr (.inr (12, 0))), none, none], [.inl s0]) σ := by
  intro s0 σ h
  unfold F_X12_text_b121 at h
  refine Wp.run (WpD.mono _) 0 (q := ((122, [some (.inr (.inr (12, 0))), some (.inl s0), none], []), σ)) rfl ?_
  exact Wp.jump (WpD.mono _) rfl (hk122 s0 σ h)

set_option maxRecDepth 100000 in
set_option maxHeartbeats 4000000 in
theorem T_X12_text_b122 (e N : Nat)   (r : Int32) (τ : Mem) (Q : Pst) (hQ : Q (some (.inl r)) τ) : ∀ (x1 : Int32) (σ : Mem), F_X12_text_b122 N x1 σ = some (r, τ) → Wp (WpD (e + 4)) hcX12_text Q (122, [some (.inr (.inr (12, 0))), some (.inl x1), none], []) σ := by
  intro x1 σ h
  unfold F_X12_text_b122 at h
  refine Wp.run (WpD.mono _) 9 (q := ((138, [some (.inr (.inr (12, 0))), some (.inl x1), none], [.inl (σ.1 12 50), .inl (((4 : Int32) * (σ.1 12 27)) + (3 : Int32)), .inr (.inr (88, 0))]), σ)) rfl ?_
  obtain ⟨hc, h⟩ := ite_nn h
  refine Wp.X_ist (WpD.mono _) rfl rfl hc ?_
  show Wp (WpD (e + 4)) hcX12_text Q (139, [some (.inr (.inr (12, 0))), some (.inl x1), none], []) (σ.1, σ.2.1, (hwU3 σ.2.2.1 88 0 ((((4 : Int32) * (σ.1 12 27)) + (3 : Int32))).toNatClampNeg (σ.1 12 50)), σ.2.2.2.1, σ.2.2.2.2)
  refine Wp.run (WpD.mono _) 3 (q := ((145, [some (.inr (.inr (12, 0))), some (.inl x1), none], [.inl x1]), ((hwU2 σ.1 12 24 (0 : Int32)), σ.2.1, (hwU3 σ.2.2.1 88 0 ((((4 : Int32) * (σ.1 12 27)) + (3 : Int32))).toNatClampNeg (σ.1 12 50)), σ.2.2.2.1, σ.2.2.2.2))) rfl ?_
  refine Wp.if0_ne (WpD.mono _) rfl rfl (fun hc => ?_) (fun hc => ?_)
  · have h := (if_pos hc).symm.trans h
    show Wp (WpD (e + 4)) hcX12_text Q (148, [some (.inr (.inr (12, 0))), some (.inl x1), none], []) ((hwU2 σ.1 12 24 (0 : Int32)), σ.2.1, (hwU3 σ.2.2.1 88 0 ((((4 : Int32) * (σ.1 12 27)) + (3 : Int32))).toNatClampNeg (σ.1 12 50)), σ.2.2.2.1, σ.2.2.2.2)
    refine Wp.run (WpD.mono _) 3 (q := ((155, [some (.inr (.inr (12, 0))), some (.inl x1), none], [.inl ((Int32.ofInt (-100)) - (σ.1 12 43))]), ((hwU2 σ.1 12 24 (0 : Int32)), σ.2.1, (hwU3 σ.2.2.1 88 0 ((((4 : Int32) * (σ.1 12 27)) + (3 : Int32))).toNatClampNeg (σ.1 12 50)), σ.2.2.2.1, σ.2.2.2.2))) rfl ?_
    obtain ⟨rfl, rfl⟩ := ret_inj h
    exact Wp.ret (WpD.mono _) rfl hQ
  · have h := (if_neg hc).symm.trans h
    show Wp (WpD (e + 4)) hcX12_text Q (156, [some (.inr (.inr (12, 0))), some (.inl x1), none], []) ((hwU2 σ.1 12 24 (0 : Int32)), σ.2.1, (hwU3 σ.2.2.1 88 0 ((((4 : Int32) * (σ.1 12 27)) + (3 : Int32))).toNatClampNeg (σ.1 12 50)), σ.2.2.2.1, σ.2.2.2.2)
    refine Wp.run (WpD.mono _) 9 (q := ((172, [some (.inr (.inr (12, 0))), some (.inl x1), none], [.inl (((σ.1 12 27) + (1 : Int32)) - (1 : Int32))]), ((hwU2 (hwU2 σ.1 12 24 (0 : Int32)) 12 27 ((σ.1 12 27) + (1 : Int32))), σ.2.1, (hwU3 σ.2.2.1 88 0 ((((4 : Int32) * (σ.1 12 27)) + (3 : Int32))).toNatClampNeg (σ.1 12 50)), σ.2.2.2.1, σ.2.2.2.2))) rfl ?_
    obtain ⟨rfl, rfl⟩ := ret_inj h
    exact Wp.ret (WpD.mono _) rfl hQ

set_option maxRecDepth 100000 in
set_option maxHeartbeats 4000000 in
theorem T_X12_text_b101 (e N : Nat)   (r : Int32) (τ : Mem) (Q : Pst) (hQ : Q (some (.inl r)) τ) : ∀ (x1 : Int32) (σ : Mem), F_X12_text_b101 N x1 σ = some (r, τ) → Wp (WpD (e + 4)) hcX12_text Q (101, [some (.inr (.inr (12, 0))), some (.inl x1), none], []) σ := by
  intro x1 σ h
  unfold F_X12_text_b101 at h
  refine Wp.run (WpD.mono _) 0 (q := ((102, [some (.inr (.inr (12, 0))), some (.inl x1), none], [.inl x1]), σ)) rfl ?_
  refine Wp.if0_eq (WpD.mono _) rfl rfl (fun hc => ?_) (fun hc => ?_)
  · have h := (if_pos hc).symm.trans h
    show Wp (WpD (e + 4)) hcX12_text Q (122, [some (.inr (.inr (12, 0))), some (.inl x1), none], []) σ
    exact Wp.jump (WpD.mono _) rfl ((T_X12_text_b122 e N  r τ Q hQ ) x1 σ h)
  · have h := (if_neg hc).symm.trans h
    show Wp (WpD (e + 4)) hcX12_text Q (105, [some (.inr (.inr (12, 0))), some (.inl x1), none], []) σ
    refine Wp.run (WpD.mono _) 0 (q := ((106, [some (.inr (.inr (12, 0))), some (.inl x1), none], [.inr (.inr (12, 0))]), σ)) rfl ?_
    obtain ⟨q3, hb, h⟩ := bind_some h
    refine Wp.call (WpD.mono _) rfl (T_X12_nextToken (e + 1) N σ _ _ _ hb ?_)
    show Wp (WpD (e + 4)) hcX12_text Q (109, [some (.inr (.inr (12, 0))), some (.inl x1), none], []) q3.2
    refine Wp.run (WpD.mono _) 1 (q := ((113, [some (.inr (.inr (12, 0))), some (.inl x1), none], [.inl (q3.2.1 12 44)]), q3.2)) rfl ?_
    refine Wp.if0_ne (WpD.mono _) rfl rfl (fun hc => ?_) (fun hc => ?_)
    · have h := (if_pos hc).symm.trans h
      show Wp (WpD (e + 4)) hcX12_text Q (116, [some (.inr (.inr (12, 0))), some (.inl x1), none], []) q3.2
      refine Wp.run (WpD.mono _) 1 (q := ((121, [some (.inr (.inr (12, 0))), some (.inl x1), none], [.inl (1 : Int32)]), q3.2)) rfl ?_
      exact Wp.jump (WpD.mono _) rfl ((T_X12_text_b121 e N (F_X12_text_b122 N) r τ Q hQ (T_X12_text_b122 e N  r τ Q hQ )) (1 : Int32) q3.2 h)
    · have h := (if_neg hc).symm.trans h
      show Wp (WpD (e + 4)) hcX12_text Q (120, [some (.inr (.inr (12, 0))), some (.inl x1), none], []) q3.2
      refine Wp.run (WpD.mono _) 0 (q := ((121, [some (.inr (.inr (12, 0))), some (.inl x1), none], [.inl (0 : Int32)]), q3.2)) rfl ?_
      exact Wp.jump (WpD.mono _) rfl ((T_X12_text_b121 e N (F_X12_text_b122 N) r τ Q hQ (T_X12_text_b122 e N  r τ Q hQ )) (0 : Int32) q3.2 h)


set_option maxRecDepth 100000 in
set_option maxHeartbeats 4000000 in
theorem T_X0_lots (e N : Nat)   (σ : Mem) (r : Int64) (τ : Mem) (Q : Pst) (h : F_X0_lots N  σ = some (r, τ)) (hQ : Q (some (.inr (.inl r))) τ) : WpD (e + 1) mX0_lots [.inr (.inr (10, 0))] σ Q := by
  refine WpD.of (d := e + 0) (Nat.le_of_ble_eq_true rfl) (Nat.le_of_ble_eq_true rfl) ?_
  show Wp (WpD (e + 0)) hcX0_lots Q (0, [some (.inr (.inr (10, 0)))], []) σ
  unfold F_X0_lots at h
  refine Wp.run (WpD.mono _) 9 (q := ((20, [some (.inr (.inr (10, 0)))], [.inr (.inl (((σ.2.1 10 2) * (48271 : Int64)) - ((σ.2.1 10 2) * (48271 : Int64)) / (2147483647 : Int64) * (2147483647 : Int64)))]), (σ.1, (hwU2 σ.2.1 10 2 (((σ.2.1 10 2) * (48271 : Int64)) - ((σ.2.1 10 2) * (48271 : Int64)) / (2147483647 : Int64) * (2147483647 : Int64))), σ.2.2.1, σ.2.2.2.1, σ.2.2.2.2))) rfl ?_
  obtain ⟨rfl, rfl⟩ := ret_inj h
  exact Wp.ret (WpD.mono _) rfl hQ

set_option maxRecDepth 100000 in
set_option maxHeartbeats 4000000 in
theorem T_X0_pick_t26_b21 (e N : Nat)   (r : Int32) (τ : Mem) (Q : Pst) (hQ : Q (some (.inl r)) τ) : ∀ n, ∀ (x1 : Nat) (x3 : Int32) (x4 : Int64) (x6 : Int64) (x8 : Int32) (σ : Mem), F_X0_pick_t26_b21 N n x1 x3 x4 x6 x8 σ = some (r, τ) → Wp (WpD (e + 1)) hcX0_pick Q (21, [some (.inr (.inr (10, 0))), some (.inr (.inr (26, x1))), none, some (.inl x3), some (.inr (.inl x4)), none, some (.inr (.inl x6)), none, some (.inl x8)], []) σ := by
  intro n
  induction n with
  | zero => intro x1 x3 x4 x6 x8 σ h; cases h
  | succ n ih =>
    intro x1 x3 x4 x6 x8 σ h
    unfold F_X0_pick_t26_b21 at h
    refine Wp.run (WpD.mono _) 4 (q := ((33, [some (.inr (.inr (10, 0))), some (.inr (.inr (26, x1))), none, some (.inl x3), some (.inr (.inl x4)), none, some (.inr (.inl x6)), none, some (.inl x8)], [.inl (σ.1 1 6), .inl x8]), σ)) rfl ?_
    refine Wp.if2_ge (WpD.mono _) rfl rfl (fun hc => ?_) (fun hc => ?_)
    · have h := (if_pos hc).symm.trans h
      show Wp (WpD (e + 1)) hcX0_pick Q (70, [some (.inr (.inr (10, 0))), some (.inr (.inr (26, x1))), none, some (.inl x3), some (.inr (.inl x4)), none, some (.inr (.inl x6)), none, some (.inl x8)], []) σ
      refine Wp.run (WpD.mono _) 0 (q := ((71, [none, none, none, some (.inl x3), none, none, none, none, none], [.inl x3]), σ)) rfl ?_
      obtain ⟨rfl, rfl⟩ := ret_inj h
      exact Wp.ret (WpD.mono _) rfl hQ
    · have h := (if_neg hc).symm.trans h
      show Wp (WpD (e + 1)) hcX0_pick Q (36, [some (.inr (.inr (10, 0))), some (.inr (.inr (26, x1))), none, some (.inl x3), some (.inr (.inl x4)), none, some (.inr (.inl x6)), none, some (.inl x8)], []) σ
      refine Wp.run (WpD.mono _) 2 (q := ((40, [some (.inr (.inr (10, 0))), some (.inr (.inr (26, x1))), none, some (.inl x3), some (.inr (.inl x4)), none, some (.inr (.inl x6)), none, some (.inl x8)], [.inl (5 : Int32), .inl x8]), σ)) rfl ?_
      refine Wp.if2_ge (WpD.mono _) rfl rfl (fun hc => ?_) (fun hc => ?_)
      · have h := (if_pos hc).symm.trans h
        show Wp (WpD (e + 1)) hcX0_pick Q (70, [some (.inr (.inr (10, 0))), some (.inr (.inr (26, x1))), none, some (.inl x3), some (.inr (.inl x4)), none, some (.inr (.inl x6)), none, some (.inl x8)], []) σ
        refine Wp.run (WpD.mono _) 0 (q := ((71, [none, none, none, some (.inl x3), none, none, none, none, none], [.inl x3]), σ)) rfl ?_
        obtain ⟨rfl, rfl⟩ := ret_inj h
        exact Wp.ret (WpD.mono _) rfl hQ
      · have h := (if_neg hc).symm.trans h
        show Wp (WpD (e + 1)) hcX0_pick Q (43, [some (.inr (.inr (10, 0))), some (.inr (.inr (26, x1))), none, some (.inl x3), some (.inr (.inl x4)), none, some (.inr (.inl x6)), none, some (.inl x8)], []) σ
        refine Wp.run (WpD.mono _) 2 (q := ((48, [some (.inr (.inr (10, 0))), some (.inr (.inr (26, x1))), none, some (.inl x3), some (.inr (.inl x4)), none, some (.inr (.inl x6)), none, some (.inl x8)], [.inl x8, .inr (.inr (26, x1)), .inr (.inl x6)]), σ)) rfl ?_
        obtain ⟨hc, h⟩ := ite_nn h
        refine Wp.X_ild1 (WpD.mono _) rfl rfl hc ?_
        show Wp (WpD (e + 1)) hcX0_pick Q (49, [some (.inr (.inr (10, 0))), some (.inr (.inr (26, x1))), none, some (.inl x3), some (.inr (.inl x4)), none, some (.inr (.inl x6)), none, some (.inl x8)], [.inl (σ.2.2.1 26 x1 (x8).toNatClampNeg), .inr (.inl x6)]) σ
        refine Wp.run (WpD.mono _) 5 (q := ((58, [some (.inr (.inr (10, 0))), some (.inr (.inr (26, x1))), none, some (.inl x3), some (.inr (.inl x4)), none, some (.inr (.inl (x6 + (σ.2.2.1 26 x1 (x8).toNatClampNeg).toInt64))), none, some (.inl x8)], [.inl (lg_cmp (x6 + (σ.2.2.1 26 x1 (x8).toNatClampNeg).toInt64) x4)]), σ)) rfl ?_
        refine Wp.if0_le (WpD.mono _) rfl rfl (fun hc => ?_) (fun hc => ?_)
        · have h := (if_pos hc).symm.trans h
          show Wp (WpD (e + 1)) hcX0_pick Q (64, [some (.inr (.inr (10, 0))), some (.inr (.inr (26, x1))), none, some (.inl x3), some (.inr (.inl x4)), none, some (.inr (.inl (x6 + (σ.2.2.1 26 x1 (x8).toNatClampNeg).toInt64))), none, some (.inl x8)], []) σ
          refine Wp.run (WpD.mono _) 1 (q := ((21, [some (.inr (.inr (10, 0))), some (.inr (.inr (26, x1))), none, some (.inl x3), some (.inr (.inl x4)), none, some (.inr (.inl (x6 + (σ.2.2.1 26 x1 (x8).toNatClampNeg).toInt64))), none, some (.inl (x8 + (1 : Int32)))], []), σ)) rfl ?_
          exact Wp.jump (WpD.mono _) rfl (ih x1 x3 x4 (x6 + (σ.2.2.1 26 x1 (x8).toNatClampNeg).toInt64) (x8 + (1 : Int32)) σ h)
        · have h := (if_neg hc).symm.trans h
          show Wp (WpD (e + 1)) hcX0_pick Q (61, [some (.inr (.inr (10, 0))), some (.inr (.inr (26, x1))), none, some (.inl x3), some (.inr (.inl x4)), none, some (.inr (.inl (x6 + (σ.2.2.1 26 x1 (x8).toNatClampNeg).toInt64))), none, some (.inl x8)], []) σ
          refine Wp.run (WpD.mono _) 0 (q := ((63, [some (.inr (.inr (10, 0))), some (.inr (.inr (26, x1))), none, some (.inl x3), some (.inr (.inl x4)), none, some (.inr (.inl (x6 + (σ.2.2.1 26 x1 (x8).toNatClampNeg).toInt64))), none, some (.inl x8)], [.inl x8]), σ)) rfl ?_
          obtain ⟨rfl, rfl⟩ := ret_inj h
          exact Wp.ret (WpD.mono _) rfl hQ

set_option maxRecDepth 100000 in
set_option maxHeartbeats 4000000 in
theorem T_X0_pick_t26 (e N : Nat)  (a1 : Nat) (a2 : Int32) (a3 : Int32) (σ : Mem) (r : Int32) (τ : Mem) (Q : Pst) (h : F_X0_pick_t26 N a1 a2 a3 σ = some (r, τ)) (hQ : Q (some (.inl r)) τ) : WpD (e + 2) mX0_pick [.inr (.inr (10, 0)), .inr (.inr (26, a1)), .inl a2, .inl a3] σ Q := by
  refine WpD.of (d := e + 1) (Nat.le_of_ble_eq_true rfl) (Nat.le_of_ble_eq_true rfl) ?_
  show Wp (WpD (e + 1)) hcX0_pick Q (0, [some (.inr (.inr (10, 0))), some (.inr (.inr (26, a1))), some (.inl a2), some (.inl a3), none, none, none, none, none], []) σ
  unfold F_X0_pick_t26 at h
  refine Wp.run (WpD.mono _) 0 (q := ((1, [some (.inr (.inr (10, 0))), some (.inr (.inr (26, a1))), some (.inl a2), some (.inl a3), none, none, none, none, none], [.inl a2]), σ)) rfl ?_
  refine Wp.if0_gt (WpD.mono _) rfl rfl (fun hc => ?_) (fun hc => ?_)
  · have h := (if_pos hc).symm.trans h
    show Wp (WpD (e + 1)) hcX0_pick Q (6, [some (.inr (.inr (10, 0))), some (.inr (.inr (26, a1))), some (.inl a2), some (.inl a3), none, none, none, none, none], []) σ
    refine Wp.run (WpD.mono _) 0 (q := ((7, [some (.inr (.inr (10, 0))), some (.inr (.inr (26, a1))), some (.inl a2), some (.inl a3), none, none, none, none, none], [.inr (.inr (10, 0))]), σ)) rfl ?_
    obtain ⟨q1, hb, h⟩ := bind_some h
    refine Wp.call (WpD.mono _) rfl (T_X0_lots (e + 0) N σ _ _ _ hb ?_)
    show Wp (WpD (e + 1)) hcX0_pick Q (10, [some (.inr (.inr (10, 0))), some (.inr (.inr (26, a1))), some (.inl a2), some (.inl a3), none, none, none, none, none], [.inr (.inl q1.1)]) q1.2
    refine Wp.run (WpD.mono _) 1 (q := ((12, [some (.inr (.inr (10, 0))), some (.inr (.inr (26, a1))), some (.inl a2), some (.inl a3), none, none, none, none, none], [.inr (.inl a2.toInt64), .inr (.inl q1.1)]), q1.2)) rfl ?_
    obtain ⟨hc, h⟩ := ite_nn h
    refine Wp.X_lrem (WpD.mono _) rfl hc ?_
    show Wp (WpD (e + 1)) hcX0_pick Q (13, [some (.inr (.inr (10, 0))), some (.inr (.inr (26, a1))), some (.inl a2), some (.inl a3), none, none, none, none, none], [.inr (.inl (q1.1 - q1.1 / a2.toInt64 * a2.toInt64))]) q1.2
    refine Wp.run (WpD.mono _) 4 (q := ((21, [some (.inr (.inr (10, 0))), some (.inr (.inr (26, a1))), some (.inl a2), some (.inl a3), some (.inr (.inl (q1.1 - q1.1 / a2.toInt64 * a2.toInt64))), none, some (.inr (.inl (0 : Int64))), none, some (.inl (0 : Int32))], []), q1.2)) rfl ?_
    exact Wp.jump (WpD.mono _) rfl ((T_X0_pick_t26_b21 e N  r τ Q hQ  N) a1 a3 (q1.1 - q1.1 / a2.toInt64 * a2.toInt64) (0 : Int64) (0 : Int32) q1.2 h)
  · have h := (if_neg hc).symm.trans h
    show Wp (WpD (e + 1)) hcX0_pick Q (4, [some (.inr (.inr (10, 0))), some (.inr (.inr (26, a1))), some (.inl a2), some (.inl a3), none, none, none, none, none], []) σ
    refine Wp.run (WpD.mono _) 0 (q := ((5, [some (.inr (.inr (10, 0))), some (.inr (.inr (26, a1))), some (.inl a2), some (.inl a3), none, none, none, none, none], [.inl a3]), σ)) rfl ?_
    obtain ⟨rfl, rfl⟩ := ret_inj h
    exact Wp.ret (WpD.mono _) rfl hQ

set_option maxRecDepth 100000 in
set_option maxHeartbeats 4000000 in
theorem T_X0_pick_t55_b21 (e N : Nat)   (r : Int32) (τ : Mem) (Q : Pst) (hQ : Q (some (.inl r)) τ) : ∀ n, ∀ (x1 : Nat) (x3 : Int32) (x4 : Int64) (x6 : Int64) (x8 : Int32) (σ : Mem), F_X0_pick_t55_b21 N n x1 x3 x4 x6 x8 σ = some (r, τ) → Wp (WpD (e + 1)) hcX0_pick Q (21, [some (.inr (.inr (10, 0))), some (.inr (.inr (55, x1))), none, some (.inl x3), some (.inr (.inl x4)), none, some (.inr (.inl x6)), none, some (.inl x8)], []) σ := by
  intro n
  induction n with
  | zero => intro x1 x3 x4 x6 x8 σ h; cases h
  | succ n ih =>
    intro x1 x3 x4 x6 x8 σ h
    unfold F_X0_pick_t55_b21 at h
    refine Wp.run (WpD.mono _) 4 (q := ((33, [some (.inr (.inr (10, 0))), some (.inr (.inr (55, x1))), none, some (.inl x3), some (.inr (.inl x4)), none, some (.inr (.inl x6)), none, some (.inl x8)], [.inl (σ.1 1 6), .inl x8]), σ)) rfl ?_
    refine Wp.if2_ge (WpD.mono _) rfl rfl (fun hc => ?_) (fun hc => ?_)
    · have h := (if_pos hc).symm.trans h
      show Wp (WpD (e + 1)) hcX0_pick Q (70, [some (.inr (.inr (10, 0))), some (.inr (.inr (55, x1))), none, some (.inl x3), some (.inr (.inl x4)), none, some (.inr (.inl x6)), none, some (.inl x8)], []) σ
      refine Wp.run (WpD.mono _) 0 (q := ((71, [none, none, none, some (.inl x3), none, none, none, none, none], [.inl x3]), σ)) rfl ?_
      obtain ⟨rfl, rfl⟩ := ret_inj h
      exact Wp.ret (WpD.mono _) rfl hQ
    · have h := (if_neg hc).symm.trans h
      show Wp (WpD (e + 1)) hcX0_pick Q (36, [some (.inr (.inr (10, 0))), some (.inr (.inr (55, x1))), none, some (.inl x3), some (.inr (.inl x4)), none, some (.inr (.inl x6)), none, some (.inl x8)], []) σ
      refine Wp.run (WpD.mono _) 2 (q := ((40, [some (.inr (.inr (10, 0))), some (.inr (.inr (55, x1))), none, some (.inl x3), some (.inr (.inl x4)), none, some (.inr (.inl x6)), none, some (.inl x8)], [.inl (5 : Int32), .inl x8]), σ)) rfl ?_
      refine Wp.if2_ge (WpD.mono _) rfl rfl (fun hc => ?_) (fun hc => ?_)
      · have h := (if_pos hc).symm.trans h
        show Wp (WpD (e + 1)) hcX0_pick Q (70, [some (.inr (.inr (10, 0))), some (.inr (.inr (55, x1))), none, some (.inl x3), some (.inr (.inl x4)), none, some (.inr (.inl x6)), none, some (.inl x8)], []) σ
        refine Wp.run (WpD.mono _) 0 (q := ((71, [none, none, none, some (.inl x3), none, none, none, none, none], [.inl x3]), σ)) rfl ?_
        obtain ⟨rfl, rfl⟩ := ret_inj h
        exact Wp.ret (WpD.mono _) rfl hQ
      · have h := (if_neg hc).symm.trans h
        show Wp (WpD (e + 1)) hcX0_pick Q (43, [some (.inr (.inr (10, 0))), some (.inr (.inr (55, x1))), none, some (.inl x3), some (.inr (.inl x4)), none, some (.inr (.inl x6)), none, some (.inl x8)], []) σ
        refine Wp.run (WpD.mono _) 2 (q := ((48, [some (.inr (.inr (10, 0))), some (.inr (.inr (55, x1))), none, some (.inl x3), some (.inr (.inl x4)), none, some (.inr (.inl x6)), none, some (.inl x8)], [.inl x8, .inr (.inr (55, x1)), .inr (.inl x6)]), σ)) rfl ?_
        obtain ⟨hc, h⟩ := ite_nn h
        refine Wp.X_ild1 (WpD.mono _) rfl rfl hc ?_
        show Wp (WpD (e + 1)) hcX0_pick Q (49, [some (.inr (.inr (10, 0))), some (.inr (.inr (55, x1))), none, some (.inl x3), some (.inr (.inl x4)), none, some (.inr (.inl x6)), none, some (.inl x8)], [.inl (σ.2.2.1 55 x1 (x8).toNatClampNeg), .inr (.inl x6)]) σ
        refine Wp.run (WpD.mono _) 5 (q := ((58, [some (.inr (.inr (10, 0))), some (.inr (.inr (55, x1))), none, some (.inl x3), some (.inr (.inl x4)), none, some (.inr (.inl (x6 + (σ.2.2.1 55 x1 (x8).toNatClampNeg).toInt64))), none, some (.inl x8)], [.inl (lg_cmp (x6 + (σ.2.2.1 55 x1 (x8).toNatClampNeg).toInt64) x4)]), σ)) rfl ?_
        refine Wp.if0_le (WpD.mono _) rfl rfl (fun hc => ?_) (fun hc => ?_)
        · have h := (if_pos hc).symm.trans h
          show Wp (WpD (e + 1)) hcX0_pick Q (64, [some (.inr (.inr (10, 0))), some (.inr (.inr (55, x1))), none, some (.inl x3), some (.inr (.inl x4)), none, some (.inr (.inl (x6 + (σ.2.2.1 55 x1 (x8).toNatClampNeg).toInt64))), none, some (.inl x8)], []) σ
          refine Wp.run (WpD.mono _) 1 (q := ((21, [some (.inr (.inr (10, 0))), some (.inr (.inr (55, x1))), none, some (.inl x3), some (.inr (.inl x4)), none, some (.inr (.inl (x6 + (σ.2.2.1 55 x1 (x8).toNatClampNeg).toInt64))), none, some (.inl (x8 + (1 : Int32)))], []), σ)) rfl ?_
          exact Wp.jump (WpD.mono _) rfl (ih x1 x3 x4 (x6 + (σ.2.2.1 55 x1 (x8).toNatClampNeg).toInt64) (x8 + (1 : Int32)) σ h)
        · have h := (if_neg hc).symm.trans h
          show Wp (WpD (e + 1)) hcX0_pick Q (61, [some (.inr (.inr (10, 0))), some (.inr (.inr (55, x1))), none, some (.inl x3), some (.inr (.inl x4)), none, some (.inr (.inl (x6 + (σ.2.2.1 55 x1 (x8).toNatClampNeg).toInt64))), none, some (.inl x8)], []) σ
          refine Wp.run (WpD.mono _) 0 (q := ((63, [some (.inr (.inr (10, 0))), some (.inr (.inr (55, x1))), none, some (.inl x3), some (.inr (.inl x4)), none, some (.inr (.inl (x6 + (σ.2.2.1 55 x1 (x8).toNatClampNeg).toInt64))), none, some (.inl x8)], [.inl x8]), σ)) rfl ?_
          obtain ⟨rfl, rfl⟩ := ret_inj h
          exact Wp.ret (WpD.mono _) rfl hQ

set_option maxRecDepth 100000 in
set_option maxHeartbeats 4000000 in
theorem T_X0_pick_t55 (e N : Nat)  (a1 : Nat) (a2 : Int32) (a3 : Int32) (σ : Mem) (r : Int32) (τ : Mem) (Q : Pst) (h : F_X0_pick_t55 N a1 a2 a3 σ = some (r, τ)) (hQ : Q (some (.inl r)) τ) : WpD (e + 2) mX0_pick [.inr (.inr (10, 0)), .inr (.inr (55, a1)), .inl a2, .inl a3] σ Q := by
  refine WpD.of (d := e + 1) (Nat.le_of_ble_eq_true rfl) (Nat.le_of_ble_eq_true rfl) ?_
  show Wp (WpD (e + 1)) hcX0_pick Q (0, [some (.inr (.inr (10, 0))), some (.inr (.inr (55, a1))), some (.inl a2), some (.inl a3), none, none, none, none, none], []) σ
  unfold F_X0_pick_t55 at h
  refine Wp.run (WpD.mono _) 0 (q := ((1, [some (.inr (.inr (10, 0))), some (.inr (.inr (55, a1))), some (.inl a2), some (.inl a3), none, none, none, none, none], [.inl a2]), σ)) rfl ?_
  refine Wp.if0_gt (WpD.mono _) rfl rfl (fun hc => ?_) (fun hc => ?_)
  · have h := (if_pos hc).symm.trans h
    show Wp (WpD (e + 1)) hcX0_pick Q (6, [some (.inr (.inr (10, 0))), some (.inr (.inr (55, a1))), some (.inl a2), some (.inl a3), none, none, none, none, none], []) σ
    refine Wp.run (WpD.mono _) 0 (q := ((7, [some (.inr (.inr (10, 0))), some (.inr (.inr (55, a1))), some (.inl a2), some (.inl a3), none, none, none, none, none], [.inr (.inr (10, 0))]), σ)) rfl ?_
    obtain ⟨q1, hb, h⟩ := bind_some h
    refine Wp.call (WpD.mono _) rfl (T_X0_lots (e + 0) N σ _ _ _ hb ?_)
    show Wp (WpD (e + 1)) hcX0_pick Q (10, [some (.inr (.inr (10, 0))), some (.inr (.inr (55, a1))), some (.inl a2), some (.inl a3), none, none, none, none, none], [.inr (.inl q1.1)]) q1.2
    refine Wp.run (WpD.mono _) 1 (q := ((12, [some (.inr (.inr (10, 0))), some (.inr (.inr (55, a1))), some (.inl a2), some (.inl a3), none, none, none, none, none], [.inr (.inl a2.toInt64), .inr (.inl q1.1)]), q1.2)) rfl ?_
    obtain ⟨hc, h⟩ := ite_nn h
    refine Wp.X_lrem (WpD.mono _) rfl hc ?_
    show Wp (WpD (e + 1)) hcX0_pick Q (13, [some (.inr (.inr (10, 0))), some (.inr (.inr (55, a1))), some (.inl a2), some (.inl a3), none, none, none, none, none], [.inr (.inl (q1.1 - q1.1 / a2.toInt64 * a2.toInt64))]) q1.2
    refine Wp.run (WpD.mono _) 4 (q := ((21, [some (.inr (.inr (10, 0))), some (.inr (.inr (55, a1))), some (.inl a2), some (.inl a3), some (.inr (.inl (q1.1 - q1.1 / a2.toInt64 * a2.toInt64))), none, some (.inr (.inl (0 : Int64))), none, some (.inl (0 : Int32))], []), q1.2)) rfl ?_
    exact Wp.jump (WpD.mono _) rfl ((T_X0_pick_t55_b21 e N  r τ Q hQ  N) a1 a3 (q1.1 - q1.1 / a2.toInt64 * a2.toInt64) (0 : Int64) (0 : Int32) q1.2 h)
  · have h := (if_neg hc).symm.trans h
    show Wp (WpD (e + 1)) hcX0_pick Q (4, [some (.inr (.inr (10, 0))), some (.inr (.inr (55, a1))), some (.inl a2), some (.inl a3), none, none, none, none, none], []) σ
    refine Wp.run (WpD.mono _) 0 (q := ((5, [some (.inr (.inr (10, 0))), some (.inr (.inr (55, a1))), some (.inl a2), some (.inl a3), none, none, none, none, none], [.inl a3]), σ)) rfl ?_
    obtain ⟨rfl, rfl⟩ := ret_inj h
    exact Wp.ret (WpD.mono _) rfl hQ

set_option maxRecDepth 100000 in
set_option maxHeartbeats 4000000 in
theorem T_X7_allFirst_b4 (e N : Nat)   (r : Int32) (τ : Mem) (Q : Pst) (hQ : Q (some (.inl r)) τ) : ∀ n, ∀ (x1 : Int32) (x2 : Int32) (x3 : Int32) (σ : Mem), F_X7_allFirst_b4 N n x1 x2 x3 σ = some (r, τ) → Wp (WpD (e + 0)) hcX7_allFirst Q (4, [some (.inr (.inr (4, 0))), some (.inl x1), some (.inl x2), some (.inl x3)], []) σ := by
  intro n
  induction n with
  | zero => intro x1 x2 x3 σ h; cases h
  | succ n ih =>
    intro x1 x2 x3 σ h
    unfold F_X7_allFirst_b4 at h
    refine Wp.run (WpD.mono _) 1 (q := ((6, [some (.inr (.inr (4, 0))), some (.inl x1), some (.inl x2), some (.inl x3)], [.inl (5 : Int32), .inl x3]), σ)) rfl ?_
    refine Wp.if2_ge (WpD.mono _) rfl rfl (fun hc => ?_) (fun hc => ?_)
    · have h := (if_pos hc).symm.trans h
      show Wp (WpD (e + 0)) hcX7_allFirst Q (26, [some (.inr (.inr (4, 0))), some (.inl x1), some (.inl x2), some (.inl x3)], []) σ
      refine Wp.run (WpD.mono _) 0 (q := ((27, [some (.inr (.inr (4, 0))), some (.inl x1), some (.inl x2), some (.inl x3)], [.inl x2]), σ)) rfl ?_
      obtain ⟨rfl, rfl⟩ := ret_inj h
      exact Wp.ret (WpD.mono _) rfl hQ
    · have h := (if_neg hc).symm.trans h
      show Wp (WpD (e + 0)) hcX7_allFirst Q (9, [some (.inr (.inr (4, 0))), some (.inl x1), some (.inl x2), some (.inl x3)], []) σ
      refine Wp.run (WpD.mono _) 3 (q := ((15, [some (.inr (.inr (4, 0))), some (.inl x1), some (.inl x2), some (.inl x3)], [.inl x1, .inr (.inr (54, 0)), .inl x2]), σ)) rfl ?_
      obtain ⟨hc, h⟩ := ite_nn h
      refine Wp.X_rld4 (WpD.mono _) rfl rfl hc ?_
      show Wp (WpD (e + 0)) hcX7_allFirst Q (16, [some (.inr (.inr (4, 0))), some (.inl x1), some (.inl x2), some (.inl x3)], [.inr (.inr (55, (x1).toNatClampNeg)), .inl x2]) σ
      refine Wp.run (WpD.mono _) 0 (q := ((17, [some (.inr (.inr (4, 0))), some (.inl x1), some (.inl x2), some (.inl x3)], [.inl x3, .inr (.inr (55, (x1).toNatClampNeg)), .inl x2]), σ)) rfl ?_
      obtain ⟨hc, h⟩ := ite_nn h
      refine Wp.X_ild1 (WpD.mono _) rfl rfl hc ?_
      show Wp (WpD (e + 0)) hcX7_allFirst Q (18, [some (.inr (.inr (4, 0))), some (.inl x1), some (.inl x2), some (.inl x3)], [.inl (σ.2.2.1 55 (x1).toNatClampNeg (x3).toNatClampNeg), .inl x2]) σ
      refine Wp.run (WpD.mono _) 3 (q := ((4, [some (.inr (.inr (4, 0))), some (.inl x1), some (.inl (x2 + (σ.2.2.1 55 (x1).toNatClampNeg (x3).toNatClampNeg))), some (.inl (x3 + (1 : Int32)))], []), σ)) rfl ?_
      exact Wp.jump (WpD.mono _) rfl (ih x1 (x2 + (σ.2.2.1 55 (x1).toNatClampNeg (x3).toNatClampNeg)) (x3 + (1 : Int32)) σ h)

set_option maxRecDepth 100000 in
set_option maxHeartbeats 4000000 in
theorem T_X7_allFirst (e N : Nat)  (a1 : Int32) (σ : Mem) (r : Int32) (τ : Mem) (Q : Pst) (h : F_X7_allFirst N a1 σ = some (r, τ)) (hQ : Q (some (.inl r)) τ) : WpD (e + 1) mX7_allFirst [.inr (.inr (4, 0)), .inl a1] σ Q := by
  refine WpD.of (d := e + 0) (Nat.le_of_ble_eq_true rfl) (Nat.le_of_ble_eq_true rfl) ?_
  show Wp (WpD (e + 0)) hcX7_allFirst Q (0, [some (.inr (.inr (4, 0))), some (.inl a1), none, none], []) σ
  unfold F_X7_allFirst at h
  refine Wp.run (WpD.mono _) 3 (q := ((4, [some (.inr (.inr (4, 0))), some (.inl a1), some (.inl (0 : Int32)), some (.inl (0 : Int32))], []), σ)) rfl ?_
  exact Wp.jump (WpD.mono _) rfl ((T_X7_allFirst_b4 e N  r τ Q hQ  N) a1 (0 : Int32) (0 : Int32) σ h)

set_option maxRecDepth 100000 in
set_option maxHeartbeats 4000000 in
theorem T_X6_begin_b67 (e N : Nat)  (k11 : Int32 → Int32 → Int32 → Mem → Option (Unit × Mem)) (r : Unit) (τ : Mem) (Q : Pst) (hQ : Q (none) τ) (hk11 : ∀ (x1 : Int32) (x2 : Int32) (x3 : Int32) (σ : Mem), k11 x1 x2 x3 σ = some (r, τ) → Wp (WpD (e + 1)) hcX6_begin Q (11, [some (.inr (.inr (8, 0))), some (.inl x1), some (.inl x2), some (.inl x3)], []) σ) : ∀ (x1 : Int32) (x2 : Int32) (x3 : Int32) (s0 : Int64) (s1 : Int32) (s2 : Nat) (σ : Mem), F_X6_begin_b67 N k11 x1 x2 x3 s0 s1 s2 σ = some (r, τ) → Wp (WpD (e + 1)) hcX6_begin Q (67, [some (.inr (.inr (8, 0))), some (.inl x1), some (.inl x2), some (.inl x3)], [.inr (.inl s0), .inl s1, .inr (.inr (50, s2))]) σ := by
  intro x1 x2 x3 s0 s1 s2 σ h
  unfold F_X6_begin_b67 at h
  obtain ⟨hc, h⟩ := ite_nn h
  refine Wp.X_lst (WpD.mono _) rfl rfl hc ?_
  show Wp (WpD (e + 1)) hcX6_begin Q (68, [some (.inr (.inr (8, 0))), some (.inl x1), some (.inl x2), some (.inl x3)], []) (σ.1, σ.2.1, σ.2.2.1, (hwU3 σ.2.2.2.1 50 s2 (s1).toNatClampNeg s0), σ.2.2.2.2)
  refine Wp.run (WpD.mono _) 1 (q := ((11, [some (.inr (.inr (8, 0))), some (.inl x1), some (.inl x2), some (.inl (x3 + (1 : Int32)))], []), (σ.1, σ.2.1, σ.2.2.1, (hwU3 σ.2.2.2.1 50 s2 (s1).toNatClampNeg s0), σ.2.2.2.2))) rfl ?_
  exact Wp.jump (WpD.mono _) rfl (hk11 x1 x2 (x3 + (1 : Int32)) (σ.1, σ.2.1, σ.2.2.1, (hwU3 σ.2.2.2.1 50 s2 (s1).toNatClampNeg s0), σ.2.2.2.2) h)

set_option maxRecDepth 100000 in
set_option maxHeartbeats 4000000 in
theorem T_X6_begin_b11 (e N : Nat)   (r : Unit) (τ : Mem) (Q : Pst) (hQ : Q (none) τ) : ∀ n, ∀ (x1 : Int32) (x2 : Int32) (x3 : Int32) (σ : Mem), F_X6_begin_b11 N n x1 x2 x3 σ = some (r, τ) → Wp (WpD (e + 1)) hcX6_begin Q (11, [some (.inr (.inr (8, 0))), some (.inl x1), some (.inl x2), some (.inl x3)], []) σ := by
  intro n
  induction n with
  | zero => intro x1 x2 x3 σ h; cases h
  | succ n ih =>
    intro x1 x2 x3 σ h
    unfold F_X6_begin_b11 at h
    refine Wp.run (WpD.mono _) 3 (q := ((19, [some (.inr (.inr (8, 0))), some (.inl x1), some (.inl x2), some (.inl x3)], [.inl (σ.1 1 6), .inl x3]), σ)) rfl ?_
    refine Wp.if2_ge (WpD.mono _) rfl rfl (fun hc => ?_) (fun hc => ?_)
    · have h := (if_pos hc).symm.trans h
      show Wp (WpD (e + 1)) hcX6_begin Q (74, [some (.inr (.inr (8, 0))), some (.inl x1), some (.inl x2), some (.inl x3)], []) σ
      obtain ⟨rfl, rfl⟩ := ret_inj h
      exact Wp.ret (WpD.mono _) rfl hQ
    · have h := (if_neg hc).symm.trans h
      show Wp (WpD (e + 1)) hcX6_begin Q (22, [some (.inr (.inr (8, 0))), some (.inl x1), some (.inl x2), some (.inl x3)], []) σ
      refine Wp.run (WpD.mono _) 5 (q := ((30, [some (.inr (.inr (8, 0))), some (.inl x1), some (.inl x2), some (.inl x3)], [.inl x2, .inl x3, .inr (.inr (50, 1))]), σ)) rfl ?_
      refine Wp.if0_le (WpD.mono _) rfl rfl (fun hc => ?_) (fun hc => ?_)
      · have h := (if_pos hc).symm.trans h
        show Wp (WpD (e + 1)) hcX6_begin Q (55, [some (.inr (.inr (8, 0))), some (.inl x1), some (.inl x2), some (.inl x3)], [.inl x3, .inr (.inr (50, 1))]) σ
        refine Wp.run (WpD.mono _) 4 (q := ((66, [some (.inr (.inr (8, 0))), some (.inl x1), some (.inl x2), some (.inl x3)], [.inr (.inl (σ.1 1 6).toInt64), .inr (.inl (1000000 : Int64)), .inl x3, .inr (.inr (50, 1))]), σ)) rfl ?_
        obtain ⟨hc, h⟩ := ite_nn h
        refine Wp.X_ldiv (WpD.mono _) rfl hc ?_
        show Wp (WpD (e + 1)) hcX6_begin Q (67, [some (.inr (.inr (8, 0))), some (.inl x1), some (.inl x2), some (.inl x3)], [.inr (.inl ((1000000 : Int64) / (σ.1 1 6).toInt64)), .inl x3, .inr (.inr (50, 1))]) σ
        exact Wp.jump (WpD.mono _) rfl ((T_X6_begin_b67 e N (F_X6_begin_b11 N n) r τ Q hQ ih) x1 x2 x3 ((1000000 : Int64) / (σ.1 1 6).toInt64) x3 1 σ h)
      · have h := (if_neg hc).symm.trans h
        show Wp (WpD (e + 1)) hcX6_begin Q (33, [some (.inr (.inr (8, 0))), some (.inl x1), some (.inl x2), some (.inl x3)], [.inl x3, .inr (.inr (50, 1))]) σ
        refine Wp.run (WpD.mono _) 3 (q := ((41, [some (.inr (.inr (8, 0))), some (.inl x1), some (.inl x2), some (.inl x3)], [.inl x1, .inr (.inr (54, 0)), .inl x3, .inr (.inr (50, 1))]), σ)) rfl ?_
        obtain ⟨hc, h⟩ := ite_nn h
        refine Wp.X_rld4 (WpD.mono _) rfl rfl hc ?_
        show Wp (WpD (e + 1)) hcX6_begin Q (42, [some (.inr (.inr (8, 0))), some (.inl x1), some (.inl x2), some (.inl x3)], [.inr (.inr (55, (x1).toNatClampNeg)), .inl x3, .inr (.inr (50, 1))]) σ
        refine Wp.run (WpD.mono _) 0 (q := ((43, [some (.inr (.inr (8, 0))), some (.inl x1), some (.inl x2), some (.inl x3)], [.inl x3, .inr (.inr (55, (x1).toNatClampNeg)), .inl x3, .inr (.inr (50, 1))]), σ)) rfl ?_
        obtain ⟨hc, h⟩ := ite_nn h
        refine Wp.X_ild1 (WpD.mono _) rfl rfl hc ?_
        show Wp (WpD (e + 1)) hcX6_begin Q (44, [some (.inr (.inr (8, 0))), some (.inl x1), some (.inl x2), some (.inl x3)], [.inl (σ.2.2.1 55 (x1).toNatClampNeg (x3).toNatClampNeg), .inl x3, .inr (.inr (50, 1))]) σ
        refine Wp.run (WpD.mono _) 4 (q := ((51, [some (.inr (.inr (8, 0))), some (.inl x1), some (.inl x2), some (.inl x3)], [.inr (.inl x2.toInt64), .inr (.inl ((σ.2.2.1 55 (x1).toNatClampNeg (x3).toNatClampNeg).toInt64 * (1000000 : Int64))), .inl x3, .inr (.inr (50, 1))]), σ)) rfl ?_
        obtain ⟨hc, h⟩ := ite_nn h
        refine Wp.X_ldiv (WpD.mono _) rfl hc ?_
        show Wp (WpD (e + 1)) hcX6_begin Q (52, [some (.inr (.inr (8, 0))), some (.inl x1), some (.inl x2), some (.inl x3)], [.inr (.inl (((σ.2.2.1 55 (x1).toNatClampNeg (x3).toNatClampNeg).toInt64 * (1000000 : Int64)) / x2.toInt64)), .inl x3, .inr (.inr (50, 1))]) σ
        refine Wp.run (WpD.mono _) 0 (q := ((67, [some (.inr (.inr (8, 0))), some (.inl x1), some (.inl x2), some (.inl x3)], [.inr (.inl (((σ.2.2.1 55 (x1).toNatClampNeg (x3).toNatClampNeg).toInt64 * (1000000 : Int64)) / x2.toInt64)), .inl x3, .inr (.inr (50, 1))]), σ)) rfl ?_
        exact Wp.jump (WpD.mono _) rfl ((T_X6_begin_b67 e N (F_X6_begin_b11 N n) r τ Q hQ ih) x1 x2 x3 (((σ.2.2.1 55 (x1).toNatClampNeg (x3).toNatClampNeg).toInt64 * (1000000 : Int64)) / x2.toInt64) x3 1 σ h)

set_option maxRecDepth 100000 in
set_option maxHeartbeats 4000000 in
theorem T_X6_begin (e N : Nat)  (a1 : Int32) (σ : Mem) (r : Unit) (τ : Mem) (Q : Pst) (h : F_X6_begin N a1 σ = some (r, τ)) (hQ : Q (none) τ) : WpD (e + 2) mX6_begin [.inr (.inr (8, 0)), .inl a1] σ Q := by
  refine WpD.of (d := e + 1) (Nat.le_of_ble_eq_true rfl) (Nat.le_of_ble_eq_true rfl) ?_
  show Wp (WpD (e + 1)) hcX6_begin Q (0, [some (.inr (.inr (8, 0))), some (.inl a1), none, none], []) σ
  unfold F_X6_begin at h
  refine Wp.run (WpD.mono _) 2 (q := ((5, [some (.inr (.inr (8, 0))), some (.inl a1), none, none], [.inl a1, .inr (.inr (4, 0))]), σ)) rfl ?_
  obtain ⟨q1, hb, h⟩ := bind_some h
  refine Wp.call (WpD.mono _) rfl (T_X7_allFirst (e + 0) N a1 σ _ _ _ hb ?_)
  show Wp (WpD (e + 1)) hcX6_begin Q (8, [some (.inr (.inr (8, 0))), some (.inl a1), none, none], [.inl q1.1]) q1.2
  refine Wp.run (WpD.mono _) 2 (q := ((11, [some (.inr (.inr (8, 0))), some (.inl a1), some (.inl q1.1), some (.inl (0 : Int32))], []), q1.2)) rfl ?_
  exact Wp.jump (WpD.mono _) rfl ((T_X6_begin_b11 e N  r τ Q hQ  N) a1 q1.1 (0 : Int32) q1.2 h)

set_option maxRecDepth 100000 in
set_option maxHeartbeats 4000000 in
theorem T_X6_dryWith_t50_b73 (e N : Nat)  (k17 : Nat → Int32 → Nat → Int64 → Int32 → Mem → Option (Int64 × Mem)) (r : Int64) (τ : Mem) (Q : Pst) (hQ : Q (some (.inr (.inl r))) τ) (hk17 : ∀ (x1 : Nat) (x3 : Int32) (x4 : Nat) (x5 : Int64) (x7 : Int32) (σ : Mem), k17 x1 x3 x4 x5 x7 σ = some (r, τ) → Wp (WpD (e + 0)) hcX6_dryWith Q (17, [some (.inr (.inr (8, 0))), some (.inr (.inr (50, x1))), none, some (.inl x3), some (.inr (.inr (44, x4))), some (.inr (.inl x5)), none, some (.inl x7)], []) σ) : ∀ (x1 : Nat) (x3 : Int32) (x4 : Nat) (x5 : Int64) (x7 : Int32) (s0 : Int64) (s1 : Int32) (σ : Mem), F_X6_dryWith_t50_b73 N k17 x1 x3 x4 x5 x7 s0 s1 σ = some (r, τ) → Wp (WpD (e + 0)) hcX6_dryWith Q (73, [some (.inr (.inr (8, 0))), some (.inr (.inr (50, x1))), none, some (.inl x3), some (.inr (.inr (44, x4))), some (.inr (.inl x5)), none, some (.inl x7)], [.inr (.inl s0), .inl s1, .inr (.inr (51, 0))]) σ := by
  intro x1 x3 x4 x5 x7 s0 s1 σ h
  unfold F_X6_dryWith_t50_b73 at h
  obtain ⟨hc, h⟩ := ite_nn h
  refine Wp.X_lst (WpD.mono _) rfl rfl hc ?_
  show Wp (WpD (e + 0)) hcX6_dryWith Q (74, [some (.inr (.inr (8, 0))), some (.inr (.inr (50, x1))), none, some (.inl x3), some (.inr (.inr (44, x4))), some (.inr (.inl x5)), none, some (.inl x7)], []) (σ.1, σ.2.1, σ.2.2.1, (hwU3 σ.2.2.2.1 51 0 (s1).toNatClampNeg s0), σ.2.2.2.2)
  refine Wp.run (WpD.mono _) 3 (q := ((82, [some (.inr (.inr (8, 0))), some (.inr (.inr (50, x1))), none, some (.inl x3), some (.inr (.inr (44, x4))), some (.inr (.inl x5)), none, some (.inl x7)], [.inl x7, .inr (.inr (51, 0)), .inr (.inl x5)]), (σ.1, σ.2.1, σ.2.2.1, (hwU3 σ.2.2.2.1 51 0 (s1).toNatClampNeg s0), σ.2.2.2.2))) rfl ?_
  obtain ⟨hc, h⟩ := ite_nn h
  refine Wp.X_lld (WpD.mono _) rfl rfl hc ?_
  show Wp (WpD (e + 0)) hcX6_dryWith Q (83, [some (.inr (.inr (8, 0))), some (.inr (.inr (50, x1))), none, some (.inl x3), some (.inr (.inr (44, x4))), some (.inr (.inl x5)), none, some (.inl x7)], [.inr (.inl ((hwU3 σ.2.2.2.1 51 0 (s1).toNatClampNeg s0) 51 0 (x7).toNatClampNeg)), .inr (.inl x5)]) (σ.1, σ.2.1, σ.2.2.1, (hwU3 σ.2.2.2.1 51 0 (s1).toNatClampNeg s0), σ.2.2.2.2)
  refine Wp.run (WpD.mono _) 3 (q := ((17, [some (.inr (.inr (8, 0))), some (.inr (.inr (50, x1))), none, some (.inl x3), some (.inr (.inr (44, x4))), some (.inr (.inl (x5 + ((hwU3 σ.2.2.2.1 51 0 (s1).toNatClampNeg s0) 51 0 (x7).toNatClampNeg)))), none, some (.inl (x7 + (1 : Int32)))], []), (σ.1, σ.2.1, σ.2.2.1, (hwU3 σ.2.2.2.1 51 0 (s1).toNatClampNeg s0), σ.2.2.2.2))) rfl ?_
  exact Wp.jump (WpD.mono _) rfl (hk17 x1 x3 x4 (x5 + ((hwU3 σ.2.2.2.1 51 0 (s1).toNatClampNeg s0) 51 0 (x7).toNatClampNeg)) (x7 + (1 : Int32)) (σ.1, σ.2.1, σ.2.2.1, (hwU3 σ.2.2.2.1 51 0 (s1).toNatClampNeg s0), σ.2.2.2.2) h)

set_option maxRecDepth 100000 in
set_option maxHeartbeats 4000000 in
theorem T_X6_dryWith_t50_b104 (e N : Nat)   (r : Int64) (τ : Mem) (Q : Pst) (hQ : Q (some (.inr (.inl r))) τ) : ∀ n, ∀ (x5 : Int64) (x7 : Int32) (σ : Mem), F_X6_dryWith_t50_b104 N n x5 x7 σ = some (r, τ) → Wp (WpD (e + 0)) hcX6_dryWith Q (104, [some (.inr (.inr (8, 0))), none, none, none, none, some (.inr (.inl x5)), none, some (.inl x7)], []) σ := by
  intro n
  induction n with
  | zero => intro x5 x7 σ h; cases h
  | succ n ih =>
    intro x5 x7 σ h
    unfold F_X6_dryWith_t50_b104 at h
    refine Wp.run (WpD.mono _) 3 (q := ((113, [some (.inr (.inr (8, 0))), none, none, none, none, some (.inr (.inl x5)), none, some (.inl x7)], [.inl (σ.1 1 6), .inl x7]), σ)) rfl ?_
    refine Wp.if2_ge (WpD.mono _) rfl rfl (fun hc => ?_) (fun hc => ?_)
    · have h := (if_pos hc).symm.trans h
      show Wp (WpD (e + 0)) hcX6_dryWith Q (143, [some (.inr (.inr (8, 0))), none, none, none, none, some (.inr (.inl x5)), none, some (.inl x7)], []) σ
      refine Wp.run (WpD.mono _) 0 (q := ((145, [some (.inr (.inr (8, 0))), none, none, none, none, some (.inr (.inl x5)), none, some (.inl x7)], [.inr (.inl x5)]), σ)) rfl ?_
      obtain ⟨rfl, rfl⟩ := ret_inj h
      exact Wp.ret (WpD.mono _) rfl hQ
    · have h := (if_neg hc).symm.trans h
      show Wp (WpD (e + 0)) hcX6_dryWith Q (116, [some (.inr (.inr (8, 0))), none, none, none, none, some (.inr (.inl x5)), none, some (.inl x7)], []) σ
      refine Wp.run (WpD.mono _) 5 (q := ((128, [some (.inr (.inr (8, 0))), none, none, none, none, some (.inr (.inl x5)), none, some (.inl x7)], [.inl x7, .inr (.inr (51, 0)), .inl x7, .inr (.inr (51, 0))]), σ)) rfl ?_
      obtain ⟨hc, h⟩ := ite_nn h
      refine Wp.X_lld (WpD.mono _) rfl rfl hc ?_
      show Wp (WpD (e + 0)) hcX6_dryWith Q (129, [some (.inr (.inr (8, 0))), none, none, none, none, some (.inr (.inl x5)), none, some (.inl x7)], [.inr (.inl (σ.2.2.2.1 51 0 (x7).toNatClampNeg)), .inl x7, .inr (.inr (51, 0))]) σ
      refine Wp.run (WpD.mono _) 2 (q := ((135, [some (.inr (.inr (8, 0))), none, none, none, none, some (.inr (.inl x5)), none, some (.inl x7)], [.inr (.inl x5), .inr (.inl ((σ.2.2.2.1 51 0 (x7).toNatClampNeg) * (1000000 : Int64))), .inl x7, .inr (.inr (51, 0))]), σ)) rfl ?_
      obtain ⟨hc, h⟩ := ite_nn h
      refine Wp.X_ldiv (WpD.mono _) rfl hc ?_
      show Wp (WpD (e + 0)) hcX6_dryWith Q (136, [some (.inr (.inr (8, 0))), none, none, none, none, some (.inr (.inl x5)), none, some (.inl x7)], [.inr (.inl (((σ.2.2.2.1 51 0 (x7).toNatClampNeg) * (1000000 : Int64)) / x5)), .inl x7, .inr (.inr (51, 0))]) σ
      obtain ⟨hc, h⟩ := ite_nn h
      refine Wp.X_lst (WpD.mono _) rfl rfl hc ?_
      show Wp (WpD (e + 0)) hcX6_dryWith Q (137, [some (.inr (.inr (8, 0))), none, none, none, none, some (.inr (.inl x5)), none, some (.inl x7)], []) (σ.1, σ.2.1, σ.2.2.1, (hwU3 σ.2.2.2.1 51 0 (x7).toNatClampNeg (((σ.2.2.2.1 51 0 (x7).toNatClampNeg) * (1000000 : Int64)) / x5)), σ.2.2.2.2)
      refine Wp.run (WpD.mono _) 1 (q := ((104, [some (.inr (.inr (8, 0))), none, none, none, none, some (.inr (.inl x5)), none, some (.inl (x7 + (1 : Int32)))], []), (σ.1, σ.2.1, σ.2.2.1, (hwU3 σ.2.2.2.1 51 0 (x7).toNatClampNeg (((σ.2.2.2.1 51 0 (x7).toNatClampNeg) * (1000000 : Int64)) / x5)), σ.2.2.2.2))) rfl ?_
      exact Wp.jump (WpD.mono _) rfl (ih x5 (x7 + (1 : Int32)) (σ.1, σ.2.1, σ.2.2.1, (hwU3 σ.2.2.2.1 51 0 (x7).toNatClampNeg (((σ.2.2.2.1 51 0 (x7).toNatClampNeg) * (1000000 : Int64)) / x5)), σ.2.2.2.2) h)

set_option maxRecDepth 100000 in
set_option maxHeartbeats 4000000 in
theorem T_X6_dryWith_t50_b17 (e N : Nat)   (r : Int64) (τ : Mem) (Q : Pst) (hQ : Q (some (.inr (.inl r))) τ) : ∀ n, ∀ (x1 : Nat) (x3 : Int32) (x4 : Nat) (x5 : Int64) (x7 : Int32) (σ : Mem), F_X6_dryWith_t50_b17 N n x1 x3 x4 x5 x7 σ = some (r, τ) → Wp (WpD (e + 0)) hcX6_dryWith Q (17, [some (.inr (.inr (8, 0))), some (.inr (.inr (50, x1))), none, some (.inl x3), some (.inr (.inr (44, x4))), some (.inr (.inl x5)), none, some (.inl x7)], []) σ := by
  intro n
  induction n with
  | zero => intro x1 x3 x4 x5 x7 σ h; cases h
  | succ n ih =>
    intro x1 x3 x4 x5 x7 σ h
    unfold F_X6_dryWith_t50_b17 at h
    refine Wp.run (WpD.mono _) 3 (q := ((26, [some (.inr (.inr (8, 0))), some (.inr (.inr (50, x1))), none, some (.inl x3), some (.inr (.inr (44, x4))), some (.inr (.inl x5)), none, some (.inl x7)], [.inl (σ.1 1 6), .inl x7]), σ)) rfl ?_
    refine Wp.if2_ge (WpD.mono _) rfl rfl (fun hc => ?_) (fun hc => ?_)
    · have h := (if_pos hc).symm.trans h
      show Wp (WpD (e + 0)) hcX6_dryWith Q (92, [some (.inr (.inr (8, 0))), some (.inr (.inr (50, x1))), none, some (.inl x3), some (.inr (.inr (44, x4))), some (.inr (.inl x5)), none, some (.inl x7)], []) σ
      refine Wp.run (WpD.mono _) 2 (q := ((96, [some (.inr (.inr (8, 0))), some (.inr (.inr (50, x1))), none, some (.inl x3), some (.inr (.inr (44, x4))), some (.inr (.inl x5)), none, some (.inl x7)], [.inl (lg_cmp x5 (0 : Int64))]), σ)) rfl ?_
      refine Wp.if0_gt (WpD.mono _) rfl rfl (fun hc => ?_) (fun hc => ?_)
      · have h := (if_pos hc).symm.trans h
        show Wp (WpD (e + 0)) hcX6_dryWith Q (101, [some (.inr (.inr (8, 0))), some (.inr (.inr (50, x1))), none, some (.inl x3), some (.inr (.inr (44, x4))), some (.inr (.inl x5)), none, some (.inl x7)], []) σ
        refine Wp.run (WpD.mono _) 1 (q := ((104, [some (.inr (.inr (8, 0))), some (.inr (.inr (50, x1))), none, some (.inl x3), some (.inr (.inr (44, x4))), some (.inr (.inl x5)), none, some (.inl (0 : Int32))], []), σ)) rfl ?_
        exact Wp.jump (WpD.mono _) rfl ((T_X6_dryWith_t50_b104 e N  r τ Q hQ  N) x5 (0 : Int32) σ h)
      · have h := (if_neg hc).symm.trans h
        show Wp (WpD (e + 0)) hcX6_dryWith Q (99, [some (.inr (.inr (8, 0))), some (.inr (.inr (50, x1))), none, some (.inl x3), some (.inr (.inr (44, x4))), some (.inr (.inl x5)), none, some (.inl x7)], []) σ
        refine Wp.run (WpD.mono _) 0 (q := ((100, [some (.inr (.inr (8, 0))), some (.inr (.inr (50, x1))), none, some (.inl x3), some (.inr (.inr (44, x4))), some (.inr (.inl x5)), none, some (.inl x7)], [.inr (.inl (0 : Int64))]), σ)) rfl ?_
        obtain ⟨rfl, rfl⟩ := ret_inj h
        exact Wp.ret (WpD.mono _) rfl hQ
    · have h := (if_neg hc).symm.trans h
      show Wp (WpD (e + 0)) hcX6_dryWith Q (29, [some (.inr (.inr (8, 0))), some (.inr (.inr (50, x1))), none, some (.inl x3), some (.inr (.inr (44, x4))), some (.inr (.inl x5)), none, some (.inl x7)], []) σ
      refine Wp.run (WpD.mono _) 6 (q := ((44, [some (.inr (.inr (8, 0))), some (.inr (.inr (50, x1))), none, some (.inl x3), some (.inr (.inr (44, x4))), some (.inr (.inl x5)), none, some (.inl x7)], [.inl x7, .inr (.inr (24, 0)), .inl x7, .inr (.inr (51, 0))]), σ)) rfl ?_
      obtain ⟨hc, h⟩ := ite_nn h
      refine Wp.X_ild1 (WpD.mono _) rfl rfl hc ?_
      show Wp (WpD (e + 0)) hcX6_dryWith Q (45, [some (.inr (.inr (8, 0))), some (.inr (.inr (50, x1))), none, some (.inl x3), some (.inr (.inr (44, x4))), some (.inr (.inl x5)), none, some (.inl x7)], [.inl (σ.2.2.1 24 0 (x7).toNatClampNeg), .inl x7, .inr (.inr (51, 0))]) σ
      refine Wp.run (WpD.mono _) 0 (q := ((46, [some (.inr (.inr (8, 0))), some (.inr (.inr (50, x1))), none, some (.inl x3), some (.inr (.inr (44, x4))), some (.inr (.inl x5)), none, some (.inl x7)], [.inl x3, .inl (σ.2.2.1 24 0 (x7).toNatClampNeg), .inl x7, .inr (.inr (51, 0))]), σ)) rfl ?_
      refine Wp.if2_ne (WpD.mono _) rfl rfl (fun hc => ?_) (fun hc => ?_)
      · have h := (if_pos hc).symm.trans h
        show Wp (WpD (e + 0)) hcX6_dryWith Q (49, [some (.inr (.inr (8, 0))), some (.inr (.inr (50, x1))), none, some (.inl x3), some (.inr (.inr (44, x4))), some (.inr (.inl x5)), none, some (.inl x7)], [.inl x7, .inr (.inr (51, 0))]) σ
        refine Wp.run (WpD.mono _) 1 (q := ((52, [some (.inr (.inr (8, 0))), some (.inr (.inr (50, x1))), none, some (.inl x3), some (.inr (.inr (44, x4))), some (.inr (.inl x5)), none, some (.inl x7)], [.inl x7, .inr (.inr (50, x1)), .inl x7, .inr (.inr (51, 0))]), σ)) rfl ?_
        obtain ⟨hc, h⟩ := ite_nn h
        refine Wp.X_lld (WpD.mono _) rfl rfl hc ?_
        show Wp (WpD (e + 0)) hcX6_dryWith Q (53, [some (.inr (.inr (8, 0))), some (.inr (.inr (50, x1))), none, some (.inl x3), some (.inr (.inr (44, x4))), some (.inr (.inl x5)), none, some (.inl x7)], [.inr (.inl (σ.2.2.2.1 50 x1 (x7).toNatClampNeg)), .inl x7, .inr (.inr (51, 0))]) σ
        refine Wp.run (WpD.mono _) 1 (q := ((56, [some (.inr (.inr (8, 0))), some (.inr (.inr (50, x1))), none, some (.inl x3), some (.inr (.inr (44, x4))), some (.inr (.inl x5)), none, some (.inl x7)], [.inl x7, .inr (.inr (50, x1)), .inr (.inl (σ.2.2.2.1 50 x1 (x7).toNatClampNeg)), .inl x7, .inr (.inr (51, 0))]), σ)) rfl ?_
        obtain ⟨hc, h⟩ := ite_nn h
        refine Wp.X_lld (WpD.mono _) rfl rfl hc ?_
        show Wp (WpD (e + 0)) hcX6_dryWith Q (57, [some (.inr (.inr (8, 0))), some (.inr (.inr (50, x1))), none, some (.inl x3), some (.inr (.inr (44, x4))), some (.inr (.inl x5)), none, some (.inl x7)], [.inr (.inl (σ.2.2.2.1 50 x1 (x7).toNatClampNeg)), .inr (.inl (σ.2.2.2.1 50 x1 (x7).toNatClampNeg)), .inl x7, .inr (.inr (51, 0))]) σ
        refine Wp.run (WpD.mono _) 1 (q := ((61, [some (.inr (.inr (8, 0))), some (.inr (.inr (50, x1))), none, some (.inl x3), some (.inr (.inr (44, x4))), some (.inr (.inl x5)), none, some (.inl x7)], [.inl x7, .inr (.inr (44, x4)), .inr (.inl (σ.2.2.2.1 50 x1 (x7).toNatClampNeg)), .inr (.inl (σ.2.2.2.1 50 x1 (x7).toNatClampNeg)), .inl x7, .inr (.inr (51, 0))]), σ)) rfl ?_
        obtain ⟨hc, h⟩ := ite_nn h
        refine Wp.X_ild1 (WpD.mono _) rfl rfl hc ?_
        show Wp (WpD (e + 0)) hcX6_dryWith Q (62, [some (.inr (.inr (8, 0))), some (.inr (.inr (50, x1))), none, some (.inl x3), some (.inr (.inr (44, x4))), some (.inr (.inl x5)), none, some (.inl x7)], [.inl (σ.2.2.1 44 x4 (x7).toNatClampNeg), .inr (.inl (σ.2.2.2.1 50 x1 (x7).toNatClampNeg)), .inr (.inl (σ.2.2.2.1 50 x1 (x7).toNatClampNeg)), .inl x7, .inr (.inr (51, 0))]) σ
        refine Wp.run (WpD.mono _) 5 (q := ((73, [some (.inr (.inr (8, 0))), some (.inr (.inr (50, x1))), none, some (.inl x3), some (.inr (.inr (44, x4))), some (.inr (.inl x5)), none, some (.inl x7)], [.inr (.inl ((σ.2.2.2.1 50 x1 (x7).toNatClampNeg) - (((σ.2.2.2.1 50 x1 (x7).toNatClampNeg) * (σ.2.2.1 44 x4 (x7).toNatClampNeg).toInt64) / (100 : Int64)))), .inl x7, .inr (.inr (51, 0))]), σ)) rfl ?_
        exact Wp.jump (WpD.mono _) rfl ((T_X6_dryWith_t50_b73 e N (F_X6_dryWith_t50_b17 N n) r τ Q hQ ih) x1 x3 x4 x5 x7 ((σ.2.2.2.1 50 x1 (x7).toNatClampNeg) - (((σ.2.2.2.1 50 x1 (x7).toNatClampNeg) * (σ.2.2.1 44 x4 (x7).toNatClampNeg).toInt64) / (100 : Int64))) x7 σ h)
      · have h := (if_neg hc).symm.trans h
        show Wp (WpD (e + 0)) hcX6_dryWith Q (72, [some (.inr (.inr (8, 0))), some (.inr (.inr (50, x1))), none, some (.inl x3), some (.inr (.inr (44, x4))), some (.inr (.inl x5)), none, some (.inl x7)], [.inl x7, .inr (.inr (51, 0))]) σ
        refine Wp.run (WpD.mono _) 0 (q := ((73, [some (.inr (.inr (8, 0))), some (.inr (.inr (50, x1))), none, some (.inl x3), some (.inr (.inr (44, x4))), some (.inr (.inl x5)), none, some (.inl x7)], [.inr (.inl (0 : Int64)), .inl x7, .inr (.inr (51, 0))]), σ)) rfl ?_
        exact Wp.jump (WpD.mono _) rfl ((T_X6_dryWith_t50_b73 e N (F_X6_dryWith_t50_b17 N n) r τ Q hQ ih) x1 x3 x4 x5 x7 (0 : Int64) x7 σ h)

set_option maxRecDepth 100000 in
set_option maxHeartbeats 4000000 in
theorem T_X6_dryWith_t50 (e N : Nat)  (a1 : Nat) (a2 : Int32) (a3 : Int32) (σ : Mem) (r : Int64) (τ : Mem) (Q : Pst) (h : F_X6_dryWith_t50 N a1 a2 a3 σ = some (r, τ)) (hQ : Q (some (.inr (.inl r))) τ) : WpD (e + 1) mX6_dryWith [.inr (.inr (8, 0)), .inr (.inr (50, a1)), .inl a2, .inl a3] σ Q := by
  refine WpD.of (d := e + 0) (Nat.le_of_ble_eq_true rfl) (Nat.le_of_ble_eq_true rfl) ?_
  show Wp (WpD (e + 0)) hcX6_dryWith Q (0, [some (.inr (.inr (8, 0))), some (.inr (.inr (50, a1))), some (.inl a2), some (.inl a3), none, none, none, none], []) σ
  unfold F_X6_dryWith_t50 at h
  refine Wp.run (WpD.mono _) 3 (q := ((8, [some (.inr (.inr (8, 0))), some (.inr (.inr (50, a1))), some (.inl a2), some (.inl a3), none, none, none, none], [.inl a2, .inr (.inr (43, 0))]), σ)) rfl ?_
  obtain ⟨hc, h⟩ := ite_nn h
  refine Wp.X_rld4 (WpD.mono _) rfl rfl hc ?_
  show Wp (WpD (e + 0)) hcX6_dryWith Q (9, [some (.inr (.inr (8, 0))), some (.inr (.inr (50, a1))), some (.inl a2), some (.inl a3), none, none, none, none], [.inr (.inr (44, (a2).toNatClampNeg))]) σ
  refine Wp.run (WpD.mono _) 4 (q := ((17, [some (.inr (.inr (8, 0))), some (.inr (.inr (50, a1))), some (.inl a2), some (.inl a3), some (.inr (.inr (44, (a2).toNatClampNeg))), some (.inr (.inl (0 : Int64))), none, some (.inl (0 : Int32))], []), σ)) rfl ?_
  exact Wp.jump (WpD.mono _) rfl ((T_X6_dryWith_t50_b17 e N  r τ Q hQ  N) a1 a3 (a2).toNatClampNeg (0 : Int64) (0 : Int32) σ h)

set_option maxRecDepth 100000 in
set_option maxHeartbeats 4000000 in
theorem T_X6_sink_t50_b68 (e N : Nat)  (k25 : Nat → Int32 → Mem → Option (Unit × Mem)) (r : Unit) (τ : Mem) (Q : Pst) (hQ : Q (none) τ) (hk25 : ∀ (x1 : Nat) (x2 : Int32) (σ : Mem), k25 x1 x2 σ = some (r, τ) → Wp (WpD (e + 0)) hcX6_sink Q (25, [some (.inr (.inr (8, 0))), some (.inr (.inr (50, x1))), some (.inl x2), none, none], []) σ) : ∀ n, ∀ (x1 : Nat) (x2 : Int32) (x3 : Int32) (x4 : Int32) (σ : Mem), F_X6_sink_t50_b68 N k25 n x1 x2 x3 x4 σ = some (r, τ) → Wp (WpD (e + 0)) hcX6_sink Q (68, [some (.inr (.inr (8, 0))), some (.inr (.inr (50, x1))), some (.inl x2), some (.inl x3), some (.inl x4)], []) σ := by
  intro n
  induction n with
  | zero => intro x1 x2 x3 x4 σ h; cases h
  | succ n ih =>
    intro x1 x2 x3 x4 σ h
    unfold F_X6_sink_t50_b68 at h
    refine Wp.run (WpD.mono _) 3 (q := ((77, [some (.inr (.inr (8, 0))), some (.inr (.inr (50, x1))), some (.inl x2), some (.inl x3), some (.inl x4)], [.inl (σ.1 1 6), .inl x4]), σ)) rfl ?_
    refine Wp.if2_ge (WpD.mono _) rfl rfl (fun hc => ?_) (fun hc => ?_)
    · have h := (if_pos hc).symm.trans h
      show Wp (WpD (e + 0)) hcX6_sink Q (116, [some (.inr (.inr (8, 0))), some (.inr (.inr (50, x1))), some (.inl x2), some (.inl x3), some (.inl x4)], []) σ
      refine Wp.run (WpD.mono _) 1 (q := ((25, [some (.inr (.inr (8, 0))), some (.inr (.inr (50, x1))), some (.inl (x2 + (1 : Int32))), none, none], []), σ)) rfl ?_
      exact Wp.jump (WpD.mono _) rfl (hk25 x1 (x2 + (1 : Int32)) σ h)
    · have h := (if_neg hc).symm.trans h
      show Wp (WpD (e + 0)) hcX6_sink Q (80, [some (.inr (.inr (8, 0))), some (.inr (.inr (50, x1))), some (.inl x2), some (.inl x3), some (.inl x4)], []) σ
      refine Wp.run (WpD.mono _) 2 (q := ((84, [some (.inr (.inr (8, 0))), some (.inr (.inr (50, x1))), some (.inl x2), some (.inl x3), some (.inl x4)], [.inl x4, .inr (.inr (50, x1)), .inl x4, .inr (.inr (50, x1))]), σ)) rfl ?_
      obtain ⟨hc, h⟩ := ite_nn h
      refine Wp.X_lld (WpD.mono _) rfl rfl hc ?_
      show Wp (WpD (e + 0)) hcX6_sink Q (85, [some (.inr (.inr (8, 0))), some (.inr (.inr (50, x1))), some (.inl x2), some (.inl x3), some (.inl x4)], [.inr (.inl (σ.2.2.2.1 50 x1 (x4).toNatClampNeg)), .inl x4, .inr (.inr (50, x1))]) σ
      refine Wp.run (WpD.mono _) 2 (q := ((90, [some (.inr (.inr (8, 0))), some (.inr (.inr (50, x1))), some (.inl x2), some (.inl x3), some (.inl x4)], [.inl x2, .inr (.inr (51, 0)), .inr (.inl (σ.2.2.2.1 50 x1 (x4).toNatClampNeg)), .inl x4, .inr (.inr (50, x1))]), σ)) rfl ?_
      obtain ⟨hc, h⟩ := ite_nn h
      refine Wp.X_lld (WpD.mono _) rfl rfl hc ?_
      show Wp (WpD (e + 0)) hcX6_sink Q (91, [some (.inr (.inr (8, 0))), some (.inr (.inr (50, x1))), some (.inl x2), some (.inl x3), some (.inl x4)], [.inr (.inl (σ.2.2.2.1 51 0 (x2).toNatClampNeg)), .inr (.inl (σ.2.2.2.1 50 x1 (x4).toNatClampNeg)), .inl x4, .inr (.inr (50, x1))]) σ
      refine Wp.run (WpD.mono _) 3 (q := ((99, [some (.inr (.inr (8, 0))), some (.inr (.inr (50, x1))), some (.inl x2), some (.inl x3), some (.inl x4)], [.inl x2, .inr (.inr (25, 0)), .inr (.inl (σ.2.2.2.1 51 0 (x2).toNatClampNeg)), .inr (.inl (σ.2.2.2.1 50 x1 (x4).toNatClampNeg)), .inl x4, .inr (.inr (50, x1))]), σ)) rfl ?_
      obtain ⟨hc, h⟩ := ite_nn h
      refine Wp.X_rld4 (WpD.mono _) rfl rfl hc ?_
      show Wp (WpD (e + 0)) hcX6_sink Q (100, [some (.inr (.inr (8, 0))), some (.inr (.inr (50, x1))), some (.inl x2), some (.inl x3), some (.inl x4)], [.inr (.inr (26, (x2).toNatClampNeg)), .inr (.inl (σ.2.2.2.1 51 0 (x2).toNatClampNeg)), .inr (.inl (σ.2.2.2.1 50 x1 (x4).toNatClampNeg)), .inl x4, .inr (.inr (50, x1))]) σ
      refine Wp.run (WpD.mono _) 0 (q := ((102, [some (.inr (.inr (8, 0))), some (.inr (.inr (50, x1))), some (.inl x2), some (.inl x3), some (.inl x4)], [.inl x4, .inr (.inr (26, (x2).toNatClampNeg)), .inr (.inl (σ.2.2.2.1 51 0 (x2).toNatClampNeg)), .inr (.inl (σ.2.2.2.1 50 x1 (x4).toNatClampNeg)), .inl x4, .inr (.inr (50, x1))]), σ)) rfl ?_
      obtain ⟨hc, h⟩ := ite_nn h
      refine Wp.X_ild1 (WpD.mono _) rfl rfl hc ?_
      show Wp (WpD (e + 0)) hcX6_sink Q (103, [some (.inr (.inr (8, 0))), some (.inr (.inr (50, x1))), some (.inl x2), some (.inl x3), some (.inl x4)], [.inl (σ.2.2.1 26 (x2).toNatClampNeg (x4).toNatClampNeg), .inr (.inl (σ.2.2.2.1 51 0 (x2).toNatClampNeg)), .inr (.inl (σ.2.2.2.1 50 x1 (x4).toNatClampNeg)), .inl x4, .inr (.inr (50, x1))]) σ
      refine Wp.run (WpD.mono _) 3 (q := ((107, [some (.inr (.inr (8, 0))), some (.inr (.inr (50, x1))), some (.inl x2), some (.inl x3), some (.inl x4)], [.inr (.inl x3.toInt64), .inr (.inl ((σ.2.2.2.1 51 0 (x2).toNatClampNeg) * (σ.2.2.1 26 (x2).toNatClampNeg (x4).toNatClampNeg).toInt64)), .inr (.inl (σ.2.2.2.1 50 x1 (x4).toNatClampNeg)), .inl x4, .inr (.inr (50, x1))]), σ)) rfl ?_
      obtain ⟨hc, h⟩ := ite_nn h
      refine Wp.X_ldiv (WpD.mono _) rfl hc ?_
      show Wp (WpD (e + 0)) hcX6_sink Q (108, [some (.inr (.inr (8, 0))), some (.inr (.inr (50, x1))), some (.inl x2), some (.inl x3), some (.inl x4)], [.inr (.inl (((σ.2.2.2.1 51 0 (x2).toNatClampNeg) * (σ.2.2.1 26 (x2).toNatClampNeg (x4).toNatClampNeg).toInt64) / x3.toInt64)), .inr (.inl (σ.2.2.2.1 50 x1 (x4).toNatClampNeg)), .inl x4, .inr (.inr (50, x1))]) σ
      refine Wp.run (WpD.mono _) 0 (q := ((109, [some (.inr (.inr (8, 0))), some (.inr (.inr (50, x1))), some (.inl x2), some (.inl x3), some (.inl x4)], [.inr (.inl ((σ.2.2.2.1 50 x1 (x4).toNatClampNeg) + (((σ.2.2.2.1 51 0 (x2).toNatClampNeg) * (σ.2.2.1 26 (x2).toNatClampNeg (x4).toNatClampNeg).toInt64) / x3.toInt64))), .inl x4, .inr (.inr (50, x1))]), σ)) rfl ?_
      obtain ⟨hc, h⟩ := ite_nn h
      refine Wp.X_lst (WpD.mono _) rfl rfl hc ?_
      show Wp (WpD (e + 0)) hcX6_sink Q (110, [some (.inr (.inr (8, 0))), some (.inr (.inr (50, x1))), some (.inl x2), some (.inl x3), some (.inl x4)], []) (σ.1, σ.2.1, σ.2.2.1, (hwU3 σ.2.2.2.1 50 x1 (x4).toNatClampNeg ((σ.2.2.2.1 50 x1 (x4).toNatClampNeg) + (((σ.2.2.2.1 51 0 (x2).toNatClampNeg) * (σ.2.2.1 26 (x2).toNatClampNeg (x4).toNatClampNeg).toInt64) / x3.toInt64))), σ.2.2.2.2)
      refine Wp.run (WpD.mono _) 1 (q := ((68, [some (.inr (.inr (8, 0))), some (.inr (.inr (50, x1))), some (.inl x2), some (.inl x3), some (.inl (x4 + (1 : Int32)))], []), (σ.1, σ.2.1, σ.2.2.1, (hwU3 σ.2.2.2.1 50 x1 (x4).toNatClampNeg ((σ.2.2.2.1 50 x1 (x4).toNatClampNeg) + (((σ.2.2.2.1 51 0 (x2).toNatClampNeg) * (σ.2.2.1 26 (x2).toNatClampNeg (x4).toNatClampNeg).toInt64) / x3.toInt64))), σ.2.2.2.2))) rfl ?_
      exact Wp.jump (WpD.mono _) rfl (ih x1 x2 x3 (x4 + (1 : Int32)) (σ.1, σ.2.1, σ.2.2.1, (hwU3 σ.2.2.2.1 50 x1 (x4).toNatClampNeg ((σ.2.2.2.1 50 x1 (x4).toNatClampNeg) + (((σ.2.2.2.1 51 0 (x2).toNatClampNeg) * (σ.2.2.1 26 (x2).toNatClampNeg (x4).toNatClampNeg).toInt64) / x3.toInt64))), σ.2.2.2.2) h)

set_option maxRecDepth 100000 in
set_option maxHeartbeats 4000000 in
theorem T_X6_sink_t50_b25 (e N : Nat)   (r : Unit) (τ : Mem) (Q : Pst) (hQ : Q (none) τ) : ∀ n, ∀ (x1 : Nat) (x2 : Int32) (σ : Mem), F_X6_sink_t50_b25 N n x1 x2 σ = some (r, τ) → Wp (WpD (e + 0)) hcX6_sink Q (25, [some (.inr (.inr (8, 0))), some (.inr (.inr (50, x1))), some (.inl x2), none, none], []) σ := by
  intro n
  induction n with
  | zero => intro x1 x2 σ h; cases h
  | succ n ih =>
    intro x1 x2 σ h
    unfold F_X6_sink_t50_b25 at h
    refine Wp.run (WpD.mono _) 3 (q := ((33, [some (.inr (.inr (8, 0))), some (.inr (.inr (50, x1))), some (.inl x2), none, none], [.inl (σ.1 1 6), .inl x2]), σ)) rfl ?_
    refine Wp.if2_ge (WpD.mono _) rfl rfl (fun hc => ?_) (fun hc => ?_)
    · have h := (if_pos hc).symm.trans h
      show Wp (WpD (e + 0)) hcX6_sink Q (122, [some (.inr (.inr (8, 0))), some (.inr (.inr (50, x1))), some (.inl x2), none, none], []) σ
      obtain ⟨rfl, rfl⟩ := ret_inj h
      exact Wp.ret (WpD.mono _) rfl hQ
    · have h := (if_neg hc).symm.trans h
      show Wp (WpD (e + 0)) hcX6_sink Q (36, [some (.inr (.inr (8, 0))), some (.inr (.inr (50, x1))), some (.inl x2), none, none], []) σ
      refine Wp.run (WpD.mono _) 3 (q := ((44, [some (.inr (.inr (8, 0))), some (.inr (.inr (50, x1))), some (.inl x2), none, none], [.inl x2, .inr (.inr (27, 0))]), σ)) rfl ?_
      obtain ⟨hc, h⟩ := ite_nn h
      refine Wp.X_ild1 (WpD.mono _) rfl rfl hc ?_
      show Wp (WpD (e + 0)) hcX6_sink Q (45, [some (.inr (.inr (8, 0))), some (.inr (.inr (50, x1))), some (.inl x2), none, none], [.inl (σ.2.2.1 27 0 (x2).toNatClampNeg)]) σ
      refine Wp.run (WpD.mono _) 1 (q := ((47, [some (.inr (.inr (8, 0))), some (.inr (.inr (50, x1))), some (.inl x2), some (.inl (σ.2.2.1 27 0 (x2).toNatClampNeg)), none], [.inl (σ.2.2.1 27 0 (x2).toNatClampNeg)]), σ)) rfl ?_
      refine Wp.if0_gt (WpD.mono _) rfl rfl (fun hc => ?_) (fun hc => ?_)
      · have h := (if_pos hc).symm.trans h
        show Wp (WpD (e + 0)) hcX6_sink Q (65, [some (.inr (.inr (8, 0))), some (.inr (.inr (50, x1))), some (.inl x2), some (.inl (σ.2.2.1 27 0 (x2).toNatClampNeg)), none], []) σ
        refine Wp.run (WpD.mono _) 1 (q := ((68, [some (.inr (.inr (8, 0))), some (.inr (.inr (50, x1))), some (.inl x2), some (.inl (σ.2.2.1 27 0 (x2).toNatClampNeg)), some (.inl (0 : Int32))], []), σ)) rfl ?_
        exact Wp.jump (WpD.mono _) rfl ((T_X6_sink_t50_b68 e N (F_X6_sink_t50_b25 N n) r τ Q hQ ih N) x1 x2 (σ.2.2.1 27 0 (x2).toNatClampNeg) (0 : Int32) σ h)
      · have h := (if_neg hc).symm.trans h
        show Wp (WpD (e + 0)) hcX6_sink Q (50, [some (.inr (.inr (8, 0))), some (.inr (.inr (50, x1))), some (.inl x2), some (.inl (σ.2.2.1 27 0 (x2).toNatClampNeg)), none], []) σ
        refine Wp.run (WpD.mono _) 2 (q := ((53, [some (.inr (.inr (8, 0))), some (.inr (.inr (50, x1))), some (.inl x2), some (.inl (σ.2.2.1 27 0 (x2).toNatClampNeg)), none], [.inl x2, .inr (.inr (50, x1)), .inl x2, .inr (.inr (50, x1))]), σ)) rfl ?_
        obtain ⟨hc, h⟩ := ite_nn h
        refine Wp.X_lld (WpD.mono _) rfl rfl hc ?_
        show Wp (WpD (e + 0)) hcX6_sink Q (54, [some (.inr (.inr (8, 0))), some (.inr (.inr (50, x1))), some (.inl x2), some (.inl (σ.2.2.1 27 0 (x2).toNatClampNeg)), none], [.inr (.inl (σ.2.2.2.1 50 x1 (x2).toNatClampNeg)), .inl x2, .inr (.inr (50, x1))]) σ
        refine Wp.run (WpD.mono _) 2 (q := ((59, [some (.inr (.inr (8, 0))), some (.inr (.inr (50, x1))), some (.inl x2), some (.inl (σ.2.2.1 27 0 (x2).toNatClampNeg)), none], [.inl x2, .inr (.inr (51, 0)), .inr (.inl (σ.2.2.2.1 50 x1 (x2).toNatClampNeg)), .inl x2, .inr (.inr (50, x1))]), σ)) rfl ?_
        obtain ⟨hc, h⟩ := ite_nn h
        refine Wp.X_lld (WpD.mono _) rfl rfl hc ?_
        show Wp (WpD (e + 0)) hcX6_sink Q (60, [some (.inr (.inr (8, 0))), some (.inr (.inr (50, x1))), some (.inl x2), some (.inl (σ.2.2.1 27 0 (x2).toNatClampNeg)), none], [.inr (.inl (σ.2.2.2.1 51 0 (x2).toNatClampNeg)), .inr (.inl (σ.2.2.2.1 50 x1 (x2).toNatClampNeg)), .inl x2, .inr (.inr (50, x1))]) σ
        refine Wp.run (WpD.mono _) 0 (q := ((61, [some (.inr (.inr (8, 0))), some (.inr (.inr (50, x1))), some (.inl x2), some (.inl (σ.2.2.1 27 0 (x2).toNatClampNeg)), none], [.inr (.inl ((σ.2.2.2.1 50 x1 (x2).toNatClampNeg) + (σ.2.2.2.1 51 0 (x2).toNatClampNeg))), .inl x2, .inr (.inr (50, x1))]), σ)) rfl ?_
        obtain ⟨hc, h⟩ := ite_nn h
        refine Wp.X_lst (WpD.mono _) rfl rfl hc ?_
        show Wp (WpD (e + 0)) hcX6_sink Q (62, [some (.inr (.inr (8, 0))), some (.inr (.inr (50, x1))), some (.inl x2), some (.inl (σ.2.2.1 27 0 (x2).toNatClampNeg)), none], []) (σ.1, σ.2.1, σ.2.2.1, (hwU3 σ.2.2.2.1 50 x1 (x2).toNatClampNeg ((σ.2.2.2.1 50 x1 (x2).toNatClampNeg) + (σ.2.2.2.1 51 0 (x2).toNatClampNeg))), σ.2.2.2.2)
        refine Wp.run (WpD.mono _) 2 (q := ((25, [some (.inr (.inr (8, 0))), some (.inr (.inr (50, x1))), some (.inl (x2 + (1 : Int32))), none, none], []), (σ.1, σ.2.1, σ.2.2.1, (hwU3 σ.2.2.2.1 50 x1 (x2).toNatClampNeg ((σ.2.2.2.1 50 x1 (x2).toNatClampNeg) + (σ.2.2.2.1 51 0 (x2).toNatClampNeg))), σ.2.2.2.2))) rfl ?_
        exact Wp.jump (WpD.mono _) rfl (ih x1 (x2 + (1 : Int32)) (σ.1, σ.2.1, σ.2.2.1, (hwU3 σ.2.2.2.1 50 x1 (x2).toNatClampNeg ((σ.2.2.2.1 50 x1 (x2).toNatClampNeg) + (σ.2.2.2.1 51 0 (x2).toNatClampNeg))), σ.2.2.2.2) h)

set_option maxRecDepth 100000 in
set_option maxHeartbeats 4000000 in
theorem T_X6_sink_t50_b2 (e N : Nat)   (r : Unit) (τ : Mem) (Q : Pst) (hQ : Q (none) τ) : ∀ n, ∀ (x1 : Nat) (x2 : Int32) (σ : Mem), F_X6_sink_t50_b2 N n x1 x2 σ = some (r, τ) → Wp (WpD (e + 0)) hcX6_sink Q (2, [some (.inr (.inr (8, 0))), some (.inr (.inr (50, x1))), some (.inl x2), none, none], []) σ := by
  intro n
  induction n with
  | zero => intro x1 x2 σ h; cases h
  | succ n ih =>
    intro x1 x2 σ h
    unfold F_X6_sink_t50_b2 at h
    refine Wp.run (WpD.mono _) 3 (q := ((10, [some (.inr (.inr (8, 0))), some (.inr (.inr (50, x1))), some (.inl x2), none, none], [.inl (σ.1 1 6), .inl x2]), σ)) rfl ?_
    refine Wp.if2_ge (WpD.mono _) rfl rfl (fun hc => ?_) (fun hc => ?_)
    · have h := (if_pos hc).symm.trans h
      show Wp (WpD (e + 0)) hcX6_sink Q (23, [some (.inr (.inr (8, 0))), some (.inr (.inr (50, x1))), some (.inl x2), none, none], []) σ
      refine Wp.run (WpD.mono _) 1 (q := ((25, [some (.inr (.inr (8, 0))), some (.inr (.inr (50, x1))), some (.inl (0 : Int32)), none, none], []), σ)) rfl ?_
      exact Wp.jump (WpD.mono _) rfl ((T_X6_sink_t50_b25 e N  r τ Q hQ  N) x1 (0 : Int32) σ h)
    · have h := (if_neg hc).symm.trans h
      show Wp (WpD (e + 0)) hcX6_sink Q (13, [some (.inr (.inr (8, 0))), some (.inr (.inr (50, x1))), some (.inl x2), none, none], []) σ
      refine Wp.run (WpD.mono _) 2 (q := ((16, [some (.inr (.inr (8, 0))), some (.inr (.inr (50, x1))), some (.inl x2), none, none], [.inr (.inl (0 : Int64)), .inl x2, .inr (.inr (50, x1))]), σ)) rfl ?_
      obtain ⟨hc, h⟩ := ite_nn h
      refine Wp.X_lst (WpD.mono _) rfl rfl hc ?_
      show Wp (WpD (e + 0)) hcX6_sink Q (17, [some (.inr (.inr (8, 0))), some (.inr (.inr (50, x1))), some (.inl x2), none, none], []) (σ.1, σ.2.1, σ.2.2.1, (hwU3 σ.2.2.2.1 50 x1 (x2).toNatClampNeg (0 : Int64)), σ.2.2.2.2)
      refine Wp.run (WpD.mono _) 1 (q := ((2, [some (.inr (.inr (8, 0))), some (.inr (.inr (50, x1))), some (.inl (x2 + (1 : Int32))), none, none], []), (σ.1, σ.2.1, σ.2.2.1, (hwU3 σ.2.2.2.1 50 x1 (x2).toNatClampNeg (0 : Int64)), σ.2.2.2.2))) rfl ?_
      exact Wp.jump (WpD.mono _) rfl (ih x1 (x2 + (1 : Int32)) (σ.1, σ.2.1, σ.2.2.1, (hwU3 σ.2.2.2.1 50 x1 (x2).toNatClampNeg (0 : Int64)), σ.2.2.2.2) h)

set_option maxRecDepth 100000 in
set_option maxHeartbeats 4000000 in
theorem T_X6_sink_t50 (e N : Nat)  (a1 : Nat) (σ : Mem) (r : Unit) (τ : Mem) (Q : Pst) (h : F_X6_sink_t50 N a1 σ = some (r, τ)) (hQ : Q (none) τ) : WpD (e + 1) mX6_sink [.inr (.inr (8, 0)), .inr (.inr (50, a1))] σ Q := by
  refine WpD.of (d := e + 0) (Nat.le_of_ble_eq_true rfl) (Nat.le_of_ble_eq_true rfl) ?_
  show Wp (WpD (e + 0)) hcX6_sink Q (0, [some (.inr (.inr (8, 0))), some (.inr (.inr (50, a1))), none, none, none], []) σ
  unfold F_X6_sink_t50 at h
  refine Wp.run (WpD.mono _) 1 (q := ((2, [some (.inr (.inr (8, 0))), some (.inr (.inr (50, a1))), some (.inl (0 : Int32)), none, none], []), σ)) rfl ?_
  exact Wp.jump (WpD.mono _) rfl ((T_X6_sink_t50_b2 e N  r τ Q hQ  N) a1 (0 : Int32) σ h)

set_option maxRecDepth 100000 in
set_option maxHeartbeats 4000000 in
theorem T_X6_pass (e N : Nat)  (a1 : Int32) (a2 : Int32) (σ : Mem) (r : Int64) (τ : Mem) (Q : Pst) (h : F_X6_pass N a1 a2 σ = some (r, τ)) (hQ : Q (some (.inr (.inl r))) τ) : WpD (e + 2) mX6_pass [.inr (.inr (8, 0)), .inl a1, .inl a2] σ Q := by
  refine WpD.of (d := e + 1) (Nat.le_of_ble_eq_true rfl) (Nat.le_of_ble_eq_true rfl) ?_
  show Wp (WpD (e + 1)) hcX6_pass Q (0, [some (.inr (.inr (8, 0))), some (.inl a1), some (.inl a2), none, none], []) σ
  unfold F_X6_pass at h
  refine Wp.run (WpD.mono _) 1 (q := ((2, [some (.inr (.inr (8, 0))), some (.inl a1), some (.inl a2), none, none], [.inl (1 : Int32), .inl a1]), σ)) rfl ?_
  refine Wp.if2_lt (WpD.mono _) rfl rfl (fun hc => ?_) (fun hc => ?_)
  · have h := (if_pos hc).symm.trans h
    show Wp (WpD (e + 1)) hcX6_pass Q (10, [some (.inr (.inr (8, 0))), some (.inl a1), some (.inl a2), none, none], []) σ
    refine Wp.run (WpD.mono _) 0 (q := ((11, [none, none, none, none, none], [.inr (.inl (0 : Int64))]), σ)) rfl ?_
    obtain ⟨rfl, rfl⟩ := ret_inj h
    exact Wp.ret (WpD.mono _) rfl hQ
  · have h := (if_neg hc).symm.trans h
    show Wp (WpD (e + 1)) hcX6_pass Q (5, [some (.inr (.inr (8, 0))), some (.inl a1), some (.inl a2), none, none], []) σ
    refine Wp.run (WpD.mono _) 1 (q := ((7, [some (.inr (.inr (8, 0))), some (.inl a1), some (.inl a2), none, none], [.inl (5 : Int32), .inl a1]), σ)) rfl ?_
    refine Wp.if2_le (WpD.mono _) rfl rfl (fun hc => ?_) (fun hc => ?_)
    · have h := (if_pos hc).symm.trans h
      show Wp (WpD (e + 1)) hcX6_pass Q (12, [some (.inr (.inr (8, 0))), some (.inl a1), some (.inl a2), none, none], []) σ
      refine Wp.run (WpD.mono _) 3 (q := ((18, [some (.inr (.inr (8, 0))), some (.inl a1), some (.inl a2), none, none], [.inl a1, .inr (.inr (49, 0)), .inr (.inr (8, 0))]), σ)) rfl ?_
      obtain ⟨hc, h⟩ := ite_nn h
      refine Wp.X_rld5 (WpD.mono _) rfl rfl hc ?_
      show Wp (WpD (e + 1)) hcX6_pass Q (19, [some (.inr (.inr (8, 0))), some (.inl a1), some (.inl a2), none, none], [.inr (.inr (50, (a1).toNatClampNeg)), .inr (.inr (8, 0))]) σ
      refine Wp.run (WpD.mono _) 1 (q := ((21, [some (.inr (.inr (8, 0))), some (.inl a1), some (.inl a2), none, none], [.inl a2, .inl a1, .inr (.inr (50, (a1).toNatClampNeg)), .inr (.inr (8, 0))]), σ)) rfl ?_
      obtain ⟨q1, hb, h⟩ := bind_some h
      refine Wp.call (WpD.mono _) rfl (T_X6_dryWith_t50 (e + 0) N (a1).toNatClampNeg a1 a2 σ _ _ _ hb ?_)
      show Wp (WpD (e + 1)) hcX6_pass Q (24, [some (.inr (.inr (8, 0))), some (.inl a1), some (.inl a2), none, none], [.inr (.inl q1.1)]) q1.2
      refine Wp.run (WpD.mono _) 3 (q := ((28, [some (.inr (.inr (8, 0))), some (.inl a1), some (.inl a2), some (.inr (.inl q1.1)), none], [.inl (lg_cmp q1.1 (0 : Int64))]), q1.2)) rfl ?_
      refine Wp.if0_le (WpD.mono _) rfl rfl (fun hc => ?_) (fun hc => ?_)
      · have h := (if_pos hc).symm.trans h
        show Wp (WpD (e + 1)) hcX6_pass Q (43, [some (.inr (.inr (8, 0))), some (.inl a1), some (.inl a2), some (.inr (.inl q1.1)), none], []) q1.2
        refine Wp.run (WpD.mono _) 0 (q := ((44, [none, none, none, some (.inr (.inl q1.1)), none], [.inr (.inl q1.1)]), q1.2)) rfl ?_
        obtain ⟨rfl, rfl⟩ := ret_inj h
        exact Wp.ret (WpD.mono _) rfl hQ
      · have h := (if_neg hc).symm.trans h
        show Wp (WpD (e + 1)) hcX6_pass Q (31, [some (.inr (.inr (8, 0))), some (.inl a1), some (.inl a2), some (.inr (.inl q1.1)), none], []) q1.2
        refine Wp.run (WpD.mono _) 5 (q := ((39, [some (.inr (.inr (8, 0))), some (.inl a1), some (.inl a2), some (.inr (.inl q1.1)), none], [.inl (a1 + (1 : Int32)), .inr (.inr (49, 0)), .inr (.inr (8, 0))]), q1.2)) rfl ?_
        obtain ⟨hc, h⟩ := ite_nn h
        refine Wp.X_rld5 (WpD.mono _) rfl rfl hc ?_
        show Wp (WpD (e + 1)) hcX6_pass Q (40, [some (.inr (.inr (8, 0))), some (.inl a1), some (.inl a2), some (.inr (.inl q1.1)), none], [.inr (.inr (50, ((a1 + (1 : Int32))).toNatClampNeg)), .inr (.inr (8, 0))]) q1.2
        obtain ⟨q2, hb, h⟩ := bind_some h
        refine Wp.call (WpD.mono _) rfl (T_X6_sink_t50 (e + 0) N ((a1 + (1 : Int32))).toNatClampNeg q1.2 _ _ _ hb ?_)
        show Wp (WpD (e + 1)) hcX6_pass Q (43, [some (.inr (.inr (8, 0))), some (.inl a1), some (.inl a2), some (.inr (.inl q1.1)), none], []) q2.2
        refine Wp.run (WpD.mono _) 0 (q := ((44, [none, none, none, some (.inr (.inl q1.1)), none], [.inr (.inl q1.1)]), q2.2)) rfl ?_
        obtain ⟨rfl, rfl⟩ := ret_inj h
        exact Wp.ret (WpD.mono _) rfl hQ
    · have h := (if_neg hc).symm.trans h
      show Wp (WpD (e + 1)) hcX6_pass Q (10, [some (.inr (.inr (8, 0))), some (.inl a1), some (.inl a2), none, none], []) σ
      refine Wp.run (WpD.mono _) 0 (q := ((11, [none, none, none, none, none], [.inr (.inl (0 : Int64))]), σ)) rfl ?_
      obtain ⟨rfl, rfl⟩ := ret_inj h
      exact Wp.ret (WpD.mono _) rfl hQ

set_option maxRecDepth 100000 in
set_option maxHeartbeats 4000000 in
theorem T_X2_deepest (e N : Nat)   (σ : Mem) (r : Int32) (τ : Mem) (Q : Pst) (h : F_X2_deepest N  σ = some (r, τ)) (hQ : Q (some (.inl r)) τ) : WpD (e + 1) mX2_deepest [.inr (.inr (1, 0))] σ Q := by
  refine WpD.of (d := e + 0) (Nat.le_of_ble_eq_true rfl) (Nat.le_of_ble_eq_true rfl) ?_
  show Wp (WpD (e + 0)) hcX2_deepest Q (0, [some (.inr (.inr (1, 0)))], []) σ
  unfold F_X2_deepest at h
  refine Wp.run (WpD.mono _) 3 (q := ((6, [some (.inr (.inr (1, 0)))], [.inl (σ.2.2.1 28 0 0)]), σ)) rfl ?_
  obtain ⟨rfl, rfl⟩ := ret_inj h
  exact Wp.ret (WpD.mono _) rfl hQ

set_option maxRecDepth 100000 in
set_option maxHeartbeats 4000000 in
theorem T_X2_worth (e N : Nat)   (σ : Mem) (r : Int32) (τ : Mem) (Q : Pst) (h : F_X2_worth N  σ = some (r, τ)) (hQ : Q (some (.inl r)) τ) : WpD (e + 1) mX2_worth [.inr (.inr (1, 0))] σ Q := by
  refine WpD.of (d := e + 0) (Nat.le_of_ble_eq_true rfl) (Nat.le_of_ble_eq_true rfl) ?_
  show Wp (WpD (e + 0)) hcX2_worth Q (0, [some (.inr (.inr (1, 0)))], []) σ
  unfold F_X2_worth at h
  refine Wp.run (WpD.mono _) 3 (q := ((6, [some (.inr (.inr (1, 0)))], [.inl (σ.2.2.1 28 0 1)]), σ)) rfl ?_
  obtain ⟨rfl, rfl⟩ := ret_inj h
  exact Wp.ret (WpD.mono _) rfl hQ

set_option maxRecDepth 100000 in
set_option maxHeartbeats 4000000 in
theorem T_X6_wetOf (e N : Nat)  (a1 : Int32) (a2 : Int32) (σ : Mem) (r : Int64) (τ : Mem) (Q : Pst) (h : F_X6_wetOf N a1 a2 σ = some (r, τ)) (hQ : Q (some (.inr (.inl r))) τ) : WpD (e + 1) mX6_wetOf [.inr (.inr (8, 0)), .inl a1, .inl a2] σ Q := by
  refine WpD.of (d := e + 0) (Nat.le_of_ble_eq_true rfl) (Nat.le_of_ble_eq_true rfl) ?_
  show Wp (WpD (e + 0)) hcX6_wetOf Q (0, [some (.inr (.inr (8, 0))), some (.inl a1), some (.inl a2)], []) σ
  unfold F_X6_wetOf at h
  refine Wp.run (WpD.mono _) 1 (q := ((2, [some (.inr (.inr (8, 0))), some (.inl a1), some (.inl a2)], [.inl (1 : Int32), .inl a1]), σ)) rfl ?_
  refine Wp.if2_lt (WpD.mono _) rfl rfl (fun hc => ?_) (fun hc => ?_)
  · have h := (if_pos hc).symm.trans h
    show Wp (WpD (e + 0)) hcX6_wetOf Q (10, [some (.inr (.inr (8, 0))), some (.inl a1), some (.inl a2)], []) σ
    refine Wp.run (WpD.mono _) 1 (q := ((39, [none, none, none], [.inr (.inl (0 : Int64))]), σ)) rfl ?_
    obtain ⟨rfl, rfl⟩ := ret_inj h
    exact Wp.ret (WpD.mono _) rfl hQ
  · have h := (if_neg hc).symm.trans h
    show Wp (WpD (e + 0)) hcX6_wetOf Q (5, [some (.inr (.inr (8, 0))), some (.inl a1), some (.inl a2)], []) σ
    refine Wp.run (WpD.mono _) 1 (q := ((7, [some (.inr (.inr (8, 0))), some (.inl a1), some (.inl a2)], [.inl (5 : Int32), .inl a1]), σ)) rfl ?_
    refine Wp.if2_le (WpD.mono _) rfl rfl (fun hc => ?_) (fun hc => ?_)
    · have h := (if_pos hc).symm.trans h
      show Wp (WpD (e + 0)) hcX6_wetOf Q (14, [some (.inr (.inr (8, 0))), some (.inl a1), some (.inl a2)], []) σ
      refine Wp.run (WpD.mono _) 2 (q := ((19, [some (.inr (.inr (8, 0))), some (.inl a1), some (.inl a2)], [.inl a1, .inr (.inr (49, 0))]), σ)) rfl ?_
      obtain ⟨hc, h⟩ := ite_nn h
      refine Wp.X_rld5 (WpD.mono _) rfl rfl hc ?_
      show Wp (WpD (e + 0)) hcX6_wetOf Q (20, [some (.inr (.inr (8, 0))), some (.inl a1), some (.inl a2)], [.inr (.inr (50, (a1).toNatClampNeg))]) σ
      refine Wp.run (WpD.mono _) 0 (q := ((21, [some (.inr (.inr (8, 0))), some (.inl a1), some (.inl a2)], [.inl a2, .inr (.inr (50, (a1).toNatClampNeg))]), σ)) rfl ?_
      obtain ⟨hc, h⟩ := ite_nn h
      refine Wp.X_lld (WpD.mono _) rfl rfl hc ?_
      show Wp (WpD (e + 0)) hcX6_wetOf Q (22, [some (.inr (.inr (8, 0))), some (.inl a1), some (.inl a2)], [.inr (.inl (σ.2.2.2.1 50 (a1).toNatClampNeg (a2).toNatClampNeg))]) σ
      refine Wp.run (WpD.mono _) 3 (q := ((30, [some (.inr (.inr (8, 0))), some (.inl a1), some (.inl a2)], [.inl a1, .inr (.inr (43, 0)), .inr (.inl (σ.2.2.2.1 50 (a1).toNatClampNeg (a2).toNatClampNeg))]), σ)) rfl ?_
      obtain ⟨hc, h⟩ := ite_nn h
      refine Wp.X_rld4 (WpD.mono _) rfl rfl hc ?_
      show Wp (WpD (e + 0)) hcX6_wetOf Q (31, [some (.inr (.inr (8, 0))), some (.inl a1), some (.inl a2)], [.inr (.inr (44, (a1).toNatClampNeg)), .inr (.inl (σ.2.2.2.1 50 (a1).toNatClampNeg (a2).toNatClampNeg))]) σ
      refine Wp.run (WpD.mono _) 0 (q := ((32, [some (.inr (.inr (8, 0))), some (.inl a1), some (.inl a2)], [.inl a2, .inr (.inr (44, (a1).toNatClampNeg)), .inr (.inl (σ.2.2.2.1 50 (a1).toNatClampNeg (a2).toNatClampNeg))]), σ)) rfl ?_
      obtain ⟨hc, h⟩ := ite_nn h
      refine Wp.X_ild1 (WpD.mono _) rfl rfl hc ?_
      show Wp (WpD (e + 0)) hcX6_wetOf Q (33, [some (.inr (.inr (8, 0))), some (.inl a1), some (.inl a2)], [.inl (σ.2.2.1 44 (a1).toNatClampNeg (a2).toNatClampNeg), .inr (.inl (σ.2.2.2.1 50 (a1).toNatClampNeg (a2).toNatClampNeg))]) σ
      refine Wp.run (WpD.mono _) 3 (q := ((39, [some (.inr (.inr (8, 0))), some (.inl a1), some (.inl a2)], [.inr (.inl (((σ.2.2.2.1 50 (a1).toNatClampNeg (a2).toNatClampNeg) * (σ.2.2.1 44 (a1).toNatClampNeg (a2).toNatClampNeg).toInt64) / (100 : Int64)))]), σ)) rfl ?_
      obtain ⟨rfl, rfl⟩ := ret_inj h
      exact Wp.ret (WpD.mono _) rfl hQ
    · have h := (if_neg hc).symm.trans h
      show Wp (WpD (e + 0)) hcX6_wetOf Q (10, [some (.inr (.inr (8, 0))), some (.inl a1), some (.inl a2)], []) σ
      refine Wp.run (WpD.mono _) 1 (q := ((39, [none, none, none], [.inr (.inl (0 : Int64))]), σ)) rfl ?_
      obtain ⟨rfl, rfl⟩ := ret_inj h
      exact Wp.ret (WpD.mono _) rfl hQ

set_option maxRecDepth 100000 in
set_option maxHeartbeats 4000000 in
theorem T_X6_gain_b6 (e N : Nat)   (r : Int64) (τ : Mem) (Q : Pst) (hQ : Q (some (.inr (.inl r))) τ) : ∀ n, ∀ (x1 : Int32) (x2 : Int32) (x3 : Int32) (x4 : Int64) (x6 : Int32) (σ : Mem), F_X6_gain_b6 N n x1 x2 x3 x4 x6 σ = some (r, τ) → Wp (WpD (e + 1)) hcX6_gain Q (6, [some (.inr (.inr (8, 0))), some (.inl x1), some (.inl x2), some (.inl x3), some (.inr (.inl x4)), none, some (.inl x6)], []) σ := by
  intro n
  induction n with
  | zero => intro x1 x2 x3 x4 x6 σ h; cases h
  | succ n ih =>
    intro x1 x2 x3 x4 x6 σ h
    unfold F_X6_gain_b6 at h
    refine Wp.run (WpD.mono _) 3 (q := ((15, [some (.inr (.inr (8, 0))), some (.inl x1), some (.inl x2), some (.inl x3), some (.inr (.inl x4)), none, some (.inl x6)], [.inl (σ.1 1 6), .inl x6]), σ)) rfl ?_
    refine Wp.if2_ge (WpD.mono _) rfl rfl (fun hc => ?_) (fun hc => ?_)
    · have h := (if_pos hc).symm.trans h
      show Wp (WpD (e + 1)) hcX6_gain Q (56, [some (.inr (.inr (8, 0))), some (.inl x1), some (.inl x2), some (.inl x3), some (.inr (.inl x4)), none, some (.inl x6)], []) σ
      refine Wp.run (WpD.mono _) 0 (q := ((58, [some (.inr (.inr (8, 0))), some (.inl x1), some (.inl x2), some (.inl x3), some (.inr (.inl x4)), none, some (.inl x6)], [.inr (.inl x4)]), σ)) rfl ?_
      obtain ⟨rfl, rfl⟩ := ret_inj h
      exact Wp.ret (WpD.mono _) rfl hQ
    · have h := (if_neg hc).symm.trans h
      show Wp (WpD (e + 1)) hcX6_gain Q (18, [some (.inr (.inr (8, 0))), some (.inl x1), some (.inl x2), some (.inl x3), some (.inr (.inl x4)), none, some (.inl x6)], []) σ
      refine Wp.run (WpD.mono _) 3 (q := ((24, [some (.inr (.inr (8, 0))), some (.inl x1), some (.inl x2), some (.inl x3), some (.inr (.inl x4)), none, some (.inl x6)], [.inl x6, .inl x1, .inr (.inr (8, 0)), .inr (.inl x4)]), σ)) rfl ?_
      obtain ⟨q1, hb, h⟩ := bind_some h
      refine Wp.call (WpD.mono _) rfl (T_X6_wetOf (e + 0) N x1 x6 σ _ _ _ hb ?_)
      show Wp (WpD (e + 1)) hcX6_gain Q (27, [some (.inr (.inr (8, 0))), some (.inl x1), some (.inl x2), some (.inl x3), some (.inr (.inl x4)), none, some (.inl x6)], [.inr (.inl q1.1), .inr (.inl x4)]) q1.2
      refine Wp.run (WpD.mono _) 5 (q := ((38, [some (.inr (.inr (8, 0))), some (.inl x1), some (.inl x2), some (.inl x3), some (.inr (.inl x4)), none, some (.inl x6)], [.inl x6, .inr (.inr (23, 0)), .inl x2, .inl (0 : Int32), .inr (.inl q1.1), .inr (.inl x4)]), q1.2)) rfl ?_
      obtain ⟨hc, h⟩ := ite_nn h
      refine Wp.X_ild1 (WpD.mono _) rfl rfl hc ?_
      show Wp (WpD (e + 1)) hcX6_gain Q (39, [some (.inr (.inr (8, 0))), some (.inl x1), some (.inl x2), some (.inl x3), some (.inr (.inl x4)), none, some (.inl x6)], [.inl (q1.2.2.2.1 23 0 (x6).toNatClampNeg), .inl x2, .inl (0 : Int32), .inr (.inl q1.1), .inr (.inl x4)]) q1.2
      refine Wp.run (WpD.mono _) 9 (q := ((6, [some (.inr (.inr (8, 0))), some (.inl x1), some (.inl x2), some (.inl x3), some (.inr (.inl (x4 + (q1.1 * (if (0 : Int32) < ((x2 - (q1.2.2.2.1 23 0 (x6).toNatClampNeg)) - x3) then ((x2 - (q1.2.2.2.1 23 0 (x6).toNatClampNeg)) - x3) else (0 : Int32)).toInt64)))), none, some (.inl (x6 + (1 : Int32)))], []), q1.2)) rfl ?_
      exact Wp.jump (WpD.mono _) rfl (ih x1 x2 x3 (x4 + (q1.1 * (if (0 : Int32) < ((x2 - (q1.2.2.2.1 23 0 (x6).toNatClampNeg)) - x3) then ((x2 - (q1.2.2.2.1 23 0 (x6).toNatClampNeg)) - x3) else (0 : Int32)).toInt64)) (x6 + (1 : Int32)) q1.2 h)

set_option maxRecDepth 100000 in
set_option maxHeartbeats 4000000 in
theorem T_X6_gain (e N : Nat)  (a1 : Int32) (a2 : Int32) (a3 : Int32) (σ : Mem) (r : Int64) (τ : Mem) (Q : Pst) (h : F_X6_gain N a1 a2 a3 σ = some (r, τ)) (hQ : Q (some (.inr (.inl r))) τ) : WpD (e + 2) mX6_gain [.inr (.inr (8, 0)), .inl a1, .inl a2, .inl a3] σ Q := by
  refine WpD.of (d := e + 1) (Nat.le_of_ble_eq_true rfl) (Nat.le_of_ble_eq_true rfl) ?_
  show Wp (WpD (e + 1)) hcX6_gain Q (0, [some (.inr (.inr (8, 0))), some (.inl a1), some (.inl a2), some (.inl a3), none, none, none], []) σ
  unfold F_X6_gain at h
  refine Wp.run (WpD.mono _) 3 (q := ((6, [some (.inr (.inr (8, 0))), some (.inl a1), some (.inl a2), some (.inl a3), some (.inr (.inl (0 : Int64))), none, some (.inl (0 : Int32))], []), σ)) rfl ?_
  exact Wp.jump (WpD.mono _) rfl ((T_X6_gain_b6 e N  r τ Q hQ  N) a1 a2 a3 (0 : Int64) (0 : Int32) σ h)

set_option maxRecDepth 100000 in
set_option maxHeartbeats 4000000 in
theorem T_X6_goingOn_b44 (e N : Nat) (g0 : Int32 → Int32 → Mem → Option (Int64 × Mem)) (hg0 : ∀ (a1 : Int32) (a2 : Int32) (σ : Mem) (r : Int64) (τ : Mem) (Q : Pst), g0 a1 a2 σ = some (r, τ) → Q (some (.inr (.inl r))) τ → WpD (e + 2) mX6_goingOn [.inr (.inr (8, 0)), .inl a1, .inl a2] σ Q)  (r : Int64) (τ : Mem) (Q : Pst) (hQ : Q (some (.inr (.inl r))) τ) : ∀ n, ∀ (x1 : Int32) (x2 : Int32) (x3 : Int64) (x5 : Int32) (σ : Mem), F_X6_goingOn_b44 N g0 n x1 x2 x3 x5 σ = some (r, τ) → Wp (WpD (e + 2)) hcX6_goingOn Q (44, [some (.inr (.inr (8, 0))), some (.inl x1), some (.inl x2), some (.inr (.inl x3)), none, some (.inl x5), none, none], []) σ := by
  intro n
  induction n with
  | zero => intro x1 x2 x3 x5 σ h; cases h
  | succ n ih =>
    intro x1 x2 x3 x5 σ h
    unfold F_X6_goingOn_b44 at h
    refine Wp.run (WpD.mono _) 1 (q := ((47, [some (.inr (.inr (8, 0))), some (.inl x1), some (.inl x2), some (.inr (.inl x3)), none, some (.inl x5), none, none], [.inl (3 : Int32), .inl x5]), σ)) rfl ?_
    refine Wp.if2_ge (WpD.mono _) rfl rfl (fun hc => ?_) (fun hc => ?_)
    · have h := (if_pos hc).symm.trans h
      show Wp (WpD (e + 2)) hcX6_goingOn Q (105, [some (.inr (.inr (8, 0))), some (.inl x1), some (.inl x2), some (.inr (.inl x3)), none, some (.inl x5), none, none], []) σ
      refine Wp.run (WpD.mono _) 0 (q := ((106, [none, none, none, some (.inr (.inl x3)), none, none, none, none], [.inr (.inl x3)]), σ)) rfl ?_
      obtain ⟨rfl, rfl⟩ := ret_inj h
      exact Wp.ret (WpD.mono _) rfl hQ
    · have h := (if_neg hc).symm.trans h
      show Wp (WpD (e + 2)) hcX6_goingOn Q (50, [some (.inr (.inr (8, 0))), some (.inl x1), some (.inl x2), some (.inr (.inl x3)), none, some (.inl x5), none, none], []) σ
      refine Wp.run (WpD.mono _) 2 (q := ((55, [some (.inr (.inr (8, 0))), some (.inl x1), some (.inl x2), some (.inr (.inl x3)), none, some (.inl x5), none, none], [.inr (.inr (1, 0)), .inl x1]), σ)) rfl ?_
      obtain ⟨q3, hb, h⟩ := bind_some h
      refine Wp.call (WpD.mono _) rfl (T_X2_deepest (e + 1) N σ _ _ _ hb ?_)
      show Wp (WpD (e + 2)) hcX6_goingOn Q (58, [some (.inr (.inr (8, 0))), some (.inl x1), some (.inl x2), some (.inr (.inl x3)), none, some (.inl x5), none, none], [.inl q3.1, .inl x1]) q3.2
      refine Wp.if2_ge (WpD.mono _) rfl rfl (fun hc => ?_) (fun hc => ?_)
      · have h := (if_pos hc).symm.trans h
        show Wp (WpD (e + 2)) hcX6_goingOn Q (105, [some (.inr (.inr (8, 0))), some (.inl x1), some (.inl x2), some (.inr (.inl x3)), none, some (.inl x5), none, none], []) q3.2
        refine Wp.run (WpD.mono _) 0 (q := ((106, [none, none, none, some (.inr (.inl x3)), none, none, none, none], [.inr (.inl x3)]), q3.2)) rfl ?_
        obtain ⟨rfl, rfl⟩ := ret_inj h
        exact Wp.ret (WpD.mono _) rfl hQ
      · have h := (if_neg hc).symm.trans h
        show Wp (WpD (e + 2)) hcX6_goingOn Q (61, [some (.inr (.inr (8, 0))), some (.inl x1), some (.inl x2), some (.inr (.inl x3)), none, some (.inl x5), none, none], []) q3.2
        refine Wp.run (WpD.mono _) 2 (q := ((65, [some (.inr (.inr (8, 0))), some (.inl x1), some (.inl x2), some (.inr (.inl x3)), none, some (.inl x5), none, none], [.inl x5, .inl x1, .inr (.inr (8, 0))]), q3.2)) rfl ?_
        obtain ⟨q4, hb, h⟩ := bind_some h
        refine Wp.call (WpD.mono _) rfl (T_X6_pass (e + 0) N x1 x5 q3.2 _ _ _ hb ?_)
        show Wp (WpD (e + 2)) hcX6_goingOn Q (68, [some (.inr (.inr (8, 0))), some (.inl x1), some (.inl x2), some (.inr (.inl x3)), none, some (.inl x5), none, none], [.inr (.inl q4.1)]) q4.2
        refine Wp.run (WpD.mono _) 3 (q := ((74, [some (.inr (.inr (8, 0))), some (.inl x1), some (.inl x2), some (.inr (.inl x3)), none, some (.inl x5), some (.inr (.inl q4.1)), none], [.inl (lg_cmp q4.1 (0 : Int64))]), q4.2)) rfl ?_
        refine Wp.if0_le (WpD.mono _) rfl rfl (fun hc => ?_) (fun hc => ?_)
        · have h := (if_pos hc).symm.trans h
          show Wp (WpD (e + 2)) hcX6_goingOn Q (99, [some (.inr (.inr (8, 0))), some (.inl x1), some (.inl x2), some (.inr (.inl x3)), none, some (.inl x5), some (.inr (.inl q4.1)), none], []) q4.2
          refine Wp.run (WpD.mono _) 1 (q := ((44, [some (.inr (.inr (8, 0))), some (.inl x1), some (.inl x2), some (.inr (.inl x3)), none, some (.inl (x5 + (1 : Int32))), none, none], []), q4.2)) rfl ?_
          exact Wp.jump (WpD.mono _) rfl (ih x1 x2 x3 (x5 + (1 : Int32)) q4.2 h)
        · have h := (if_neg hc).symm.trans h
          show Wp (WpD (e + 2)) hcX6_goingOn Q (77, [some (.inr (.inr (8, 0))), some (.inl x1), some (.inl x2), some (.inr (.inl x3)), none, some (.inl x5), some (.inr (.inl q4.1)), none], []) q4.2
          refine Wp.run (WpD.mono _) 7 (q := ((86, [some (.inr (.inr (8, 0))), some (.inl x1), some (.inl x2), some (.inr (.inl x3)), none, some (.inl x5), some (.inr (.inl q4.1)), none], [.inl x2, .inl (x1 + (1 : Int32)), .inr (.inr (8, 0)), .inr (.inl (0 : Int64)), .inr (.inl q4.1), .inr (.inl x3)]), q4.2)) rfl ?_
          obtain ⟨q5, hb, h⟩ := bind_some h
          refine Wp.call (WpD.mono _) rfl (hg0 (x1 + (1 : Int32)) x2 q4.2 _ _ _ hb ?_)
          show Wp (WpD (e + 2)) hcX6_goingOn Q (89, [some (.inr (.inr (8, 0))), some (.inl x1), some (.inl x2), some (.inr (.inl x3)), none, some (.inl x5), some (.inr (.inl q4.1)), none], [.inr (.inl q5.1), .inr (.inl (0 : Int64)), .inr (.inl q4.1), .inr (.inl x3)]) q5.2
          refine Wp.run (WpD.mono _) 7 (q := ((44, [some (.inr (.inr (8, 0))), some (.inl x1), some (.inl x2), some (.inr (.inl (x3 + ((q4.1 * (if q5.1 < (0 : Int64) then (0 : Int64) else q5.1)) / (1000000 : Int64))))), none, some (.inl (x5 + (1 : Int32))), none, none], []), q5.2)) rfl ?_
          exact Wp.jump (WpD.mono _) rfl (ih x1 x2 (x3 + ((q4.1 * (if q5.1 < (0 : Int64) then (0 : Int64) else q5.1)) / (1000000 : Int64))) (x5 + (1 : Int32)) q5.2 h)

set_option maxRecDepth 100000 in
set_option maxHeartbeats 4000000 in
theorem TB_X6_goingOn (e N : Nat) (g0 : Int32 → Int32 → Mem → Option (Int64 × Mem)) (hg0 : ∀ (a1 : Int32) (a2 : Int32) (σ : Mem) (r : Int64) (τ : Mem) (Q : Pst), g0 a1 a2 σ = some (r, τ) → Q (some (.inr (.inl r))) τ → WpD (e + 2) mX6_goingOn [.inr (.inr (8, 0)), .inl a1, .inl a2] σ Q) (a1 : Int32) (a2 : Int32) (σ : Mem) (r : Int64) (τ : Mem) (Q : Pst) (h : B_X6_goingOn N g0 a1 a2 σ = some (r, τ)) (hQ : Q (some (.inr (.inl r))) τ) : WpD (e + 1 + 2) mX6_goingOn [.inr (.inr (8, 0)), .inl a1, .inl a2] σ Q := by
  refine WpD.of (d := e + 2) (Nat.le_of_ble_eq_true rfl) (Nat.le_of_ble_eq_true rfl) ?_
  show Wp (WpD (e + 2)) hcX6_goingOn Q (0, [some (.inr (.inr (8, 0))), some (.inl a1), some (.inl a2), none, none, none, none, none], []) σ
  unfold B_X6_goingOn at h
  refine Wp.run (WpD.mono _) 1 (q := ((2, [some (.inr (.inr (8, 0))), some (.inl a1), some (.inl a2), none, none, none, none, none], [.inl (1 : Int32), .inl a1]), σ)) rfl ?_
  refine Wp.if2_lt (WpD.mono _) rfl rfl (fun hc => ?_) (fun hc => ?_)
  · have h := (if_pos hc).symm.trans h
    show Wp (WpD (e + 2)) hcX6_goingOn Q (16, [some (.inr (.inr (8, 0))), some (.inl a1), some (.inl a2), none, none, none, none, none], []) σ
    refine Wp.run (WpD.mono _) 0 (q := ((17, [none, none, none, none, none, none, none, none], [.inr (.inl (0 : Int64))]), σ)) rfl ?_
    obtain ⟨rfl, rfl⟩ := ret_inj h
    exact Wp.ret (WpD.mono _) rfl hQ
  · have h := (if_neg hc).symm.trans h
    show Wp (WpD (e + 2)) hcX6_goingOn Q (5, [some (.inr (.inr (8, 0))), some (.inl a1), some (.inl a2), none, none, none, none, none], []) σ
    refine Wp.run (WpD.mono _) 2 (q := ((10, [some (.inr (.inr (8, 0))), some (.inl a1), some (.inl a2), none, none, none, none, none], [.inr (.inr (1, 0)), .inl a1]), σ)) rfl ?_
    obtain ⟨q1, hb, h⟩ := bind_some h
    refine Wp.call (WpD.mono _) rfl (T_X2_deepest (e + 1) N σ _ _ _ hb ?_)
    show Wp (WpD (e + 2)) hcX6_goingOn Q (13, [some (.inr (.inr (8, 0))), some (.inl a1), some (.inl a2), none, none, none, none, none], [.inl q1.1, .inl a1]) q1.2
    refine Wp.if2_le (WpD.mono _) rfl rfl (fun hc => ?_) (fun hc => ?_)
    · have h := (if_pos hc).symm.trans h
      show Wp (WpD (e + 2)) hcX6_goingOn Q (18, [some (.inr (.inr (8, 0))), some (.inl a1), some (.inl a2), none, none, none, none, none], []) q1.2
      refine Wp.run (WpD.mono _) 3 (q := ((22, [some (.inr (.inr (8, 0))), some (.inl a1), some (.inl a2), none, none, none, none, none], [.inl (0 : Int32), .inl a2, .inl a1, .inr (.inr (8, 0))]), q1.2)) rfl ?_
      obtain ⟨q2, hb, h⟩ := bind_some h
      refine Wp.call (WpD.mono _) rfl (T_X6_gain (e + 0) N a1 a2 (0 : Int32) q1.2 _ _ _ hb ?_)
      show Wp (WpD (e + 2)) hcX6_goingOn Q (25, [some (.inr (.inr (8, 0))), some (.inl a1), some (.inl a2), none, none, none, none, none], [.inr (.inl q2.1)]) q2.2
      refine Wp.run (WpD.mono _) 4 (q := ((36, [some (.inr (.inr (8, 0))), some (.inl a1), some (.inl a2), none, none, none, none, none], [.inl a1, .inr (.inr (42, 0)), .inr (.inl (1000000 : Int64)), .inr (.inl q2.1)]), q2.2)) rfl ?_
      obtain ⟨hc, h⟩ := ite_nn h
      refine Wp.X_ild1 (WpD.mono _) rfl rfl hc ?_
      show Wp (WpD (e + 2)) hcX6_goingOn Q (37, [some (.inr (.inr (8, 0))), some (.inl a1), some (.inl a2), none, none, none, none, none], [.inl (q2.2.2.2.1 42 0 (a1).toNatClampNeg), .inr (.inl (1000000 : Int64)), .inr (.inl q2.1)]) q2.2
      refine Wp.run (WpD.mono _) 5 (q := ((44, [some (.inr (.inr (8, 0))), some (.inl a1), some (.inl a2), some (.inr (.inl (q2.1 - ((1000000 : Int64) * (q2.2.2.2.1 42 0 (a1).toNatClampNeg).toInt64)))), none, some (.inl (0 : Int32)), none, none], []), q2.2)) rfl ?_
      exact Wp.jump (WpD.mono _) rfl ((T_X6_goingOn_b44 e N g0 hg0 r τ Q hQ  N) a1 a2 (q2.1 - ((1000000 : Int64) * (q2.2.2.2.1 42 0 (a1).toNatClampNeg).toInt64)) (0 : Int32) q2.2 h)
    · have h := (if_neg hc).symm.trans h
      show Wp (WpD (e + 2)) hcX6_goingOn Q (16, [some (.inr (.inr (8, 0))), some (.inl a1), some (.inl a2), none, none, none, none, none], []) q1.2
      refine Wp.run (WpD.mono _) 0 (q := ((17, [none, none, none, none, none, none, none, none], [.inr (.inl (0 : Int64))]), q1.2)) rfl ?_
      obtain ⟨rfl, rfl⟩ := ret_inj h
      exact Wp.ret (WpD.mono _) rfl hQ

set_option maxRecDepth 100000 in
theorem TG_X6_goingOn (e N : Nat) : ∀ d : Nat, (∀ (a1 : Int32) (a2 : Int32) (σ : Mem) (r : Int64) (τ : Mem) (Q : Pst), (G_X6_goingOn N d) a1 a2 σ = some (r, τ) → Q (some (.inr (.inl r))) τ → WpD (e + d + 2) mX6_goingOn [.inr (.inr (8, 0)), .inl a1, .inl a2] σ Q) := by
  intro d
  induction d with
  | zero =>
    exact fun _ _ _ _ _ _ h => (nomatch h)
  | succ d ih =>
    exact (fun a1 a2 σ r τ Q h hQ => TB_X6_goingOn (e + d) N (G_X6_goingOn N d) ih a1 a2 σ r τ Q h hQ)

theorem T_X6_goingOn (e N : Nat) (a1 : Int32) (a2 : Int32) (σ : Mem) (r : Int64) (τ : Mem) (Q : Pst) (h : F_X6_goingOn N a1 a2 σ = some (r, τ)) (hQ : Q (some (.inr (.inl r))) τ) : WpD (e + 12) mX6_goingOn [.inr (.inr (8, 0)), .inl a1, .inl a2] σ Q := (TG_X6_goingOn e N 10) a1 a2 σ r τ Q h hQ
set_option maxRecDepth 100000 in
set_option maxHeartbeats 4000000 in
theorem T_X6_wet_b5 (e N : Nat)   (r : Int64) (τ : Mem) (Q : Pst) (hQ : Q (some (.inr (.inl r))) τ) : ∀ n, ∀ (x1 : Int32) (x2 : Int64) (x4 : Int32) (σ : Mem), F_X6_wet_b5 N n x1 x2 x4 σ = some (r, τ) → Wp (WpD (e + 1)) hcX6_wet Q (5, [some (.inr (.inr (8, 0))), some (.inl x1), some (.inr (.inl x2)), none, some (.inl x4)], []) σ := by
  intro n
  induction n with
  | zero => intro x1 x2 x4 σ h; cases h
  | succ n ih =>
    intro x1 x2 x4 σ h
    unfold F_X6_wet_b5 at h
    refine Wp.run (WpD.mono _) 3 (q := ((14, [some (.inr (.inr (8, 0))), some (.inl x1), some (.inr (.inl x2)), none, some (.inl x4)], [.inl (σ.1 1 6), .inl x4]), σ)) rfl ?_
    refine Wp.if2_ge (WpD.mono _) rfl rfl (fun hc => ?_) (fun hc => ?_)
    · have h := (if_pos hc).symm.trans h
      show Wp (WpD (e + 1)) hcX6_wet Q (33, [some (.inr (.inr (8, 0))), some (.inl x1), some (.inr (.inl x2)), none, some (.inl x4)], []) σ
      refine Wp.run (WpD.mono _) 0 (q := ((34, [some (.inr (.inr (8, 0))), some (.inl x1), some (.inr (.inl x2)), none, some (.inl x4)], [.inr (.inl x2)]), σ)) rfl ?_
      obtain ⟨rfl, rfl⟩ := ret_inj h
      exact Wp.ret (WpD.mono _) rfl hQ
    · have h := (if_neg hc).symm.trans h
      show Wp (WpD (e + 1)) hcX6_wet Q (17, [some (.inr (.inr (8, 0))), some (.inl x1), some (.inr (.inl x2)), none, some (.inl x4)], []) σ
      refine Wp.run (WpD.mono _) 3 (q := ((22, [some (.inr (.inr (8, 0))), some (.inl x1), some (.inr (.inl x2)), none, some (.inl x4)], [.inl x4, .inl x1, .inr (.inr (8, 0)), .inr (.inl x2)]), σ)) rfl ?_
      obtain ⟨q1, hb, h⟩ := bind_some h
      refine Wp.call (WpD.mono _) rfl (T_X6_wetOf (e + 0) N x1 x4 σ _ _ _ hb ?_)
      show Wp (WpD (e + 1)) hcX6_wet Q (25, [some (.inr (.inr (8, 0))), some (.inl x1), some (.inr (.inl x2)), none, some (.inl x4)], [.inr (.inl q1.1), .inr (.inl x2)]) q1.2
      refine Wp.run (WpD.mono _) 3 (q := ((5, [some (.inr (.inr (8, 0))), some (.inl x1), some (.inr (.inl (x2 + q1.1))), none, some (.inl (x4 + (1 : Int32)))], []), q1.2)) rfl ?_
      exact Wp.jump (WpD.mono _) rfl (ih x1 (x2 + q1.1) (x4 + (1 : Int32)) q1.2 h)

set_option maxRecDepth 100000 in
set_option maxHeartbeats 4000000 in
theorem T_X6_wet (e N : Nat)  (a1 : Int32) (σ : Mem) (r : Int64) (τ : Mem) (Q : Pst) (h : F_X6_wet N a1 σ = some (r, τ)) (hQ : Q (some (.inr (.inl r))) τ) : WpD (e + 2) mX6_wet [.inr (.inr (8, 0)), .inl a1] σ Q := by
  refine WpD.of (d := e + 1) (Nat.le_of_ble_eq_true rfl) (Nat.le_of_ble_eq_true rfl) ?_
  show Wp (WpD (e + 1)) hcX6_wet Q (0, [some (.inr (.inr (8, 0))), some (.inl a1), none, none, none], []) σ
  unfold F_X6_wet at h
  refine Wp.run (WpD.mono _) 3 (q := ((5, [some (.inr (.inr (8, 0))), some (.inl a1), some (.inr (.inl (0 : Int64))), none, some (.inl (0 : Int32))], []), σ)) rfl ?_
  exact Wp.jump (WpD.mono _) rfl ((T_X6_wet_b5 e N  r τ Q hQ  N) a1 (0 : Int64) (0 : Int32) σ h)

set_option maxRecDepth 100000 in
set_option maxHeartbeats 4000000 in
theorem T_X9_goesOn_b56 (e N : Nat)   (r : Int32) (τ : Mem) (Q : Pst) (hQ : Q (some (.inl r)) τ) : ∀ (x1 : Int32) (x2 : Int32) (x4 : Int32) (s0 : Int32) (σ : Mem), F_X9_goesOn_b56 N x1 x2 x4 s0 σ = some (r, τ) → Wp (WpD (e + 12)) hcX9_goesOn Q (56, [some (.inr (.inr (6, 0))), some (.inl x1), some (.inl x2), none, some (.inl x4), none], [.inl s0]) σ := by
  intro x1 x2 x4 s0 σ h
  unfold F_X9_goesOn_b56 at h
  refine Wp.run (WpD.mono _) 3 (q := ((63, [some (.inr (.inr (6, 0))), some (.inl x1), some (.inl x2), none, some (.inl x4), some (.inl s0)], [.inl x1, .inr (.inr (65, 0))]), σ)) rfl ?_
  obtain ⟨hc, h⟩ := ite_nn h
  refine Wp.X_ild1 (WpD.mono _) rfl rfl hc ?_
  show Wp (WpD (e + 12)) hcX9_goesOn Q (64, [some (.inr (.inr (6, 0))), some (.inl x1), some (.inl x2), none, some (.inl x4), some (.inl s0)], [.inl (σ.2.2.1 65 0 (x1).toNatClampNeg)]) σ
  by_cases hs0 : (σ.2.2.1 65 0 (x1).toNatClampNeg) = 1
  · have h := (if_pos hs0).symm.trans h
    refine Wp.swIn (WpD.mono _) (q := ((100, [some (.inr (.inr (6, 0))), some (.inl x1), some (.inl x2), none, some (.inl x4), some (.inl s0)], []), σ)) hs0 rfl ?_
    refine Wp.run (WpD.mono _) 0 (q := ((102, [some (.inr (.inr (6, 0))), some (.inl x1), some (.inl x2), none, some (.inl x4), some (.inl s0)], [.inl x4]), σ)) rfl ?_
    obtain ⟨hc, h⟩ := ite_yy h
    obtain ⟨rfl, rfl⟩ := ret_inj h
    exact Wp.retZ (WpD.mono _) rfl hc hQ
  have h := (if_neg hs0).symm.trans h
  by_cases hs1 : (σ.2.2.1 65 0 (x1).toNatClampNeg) = 2
  · have h := (if_pos hs1).symm.trans h
    refine Wp.swIn (WpD.mono _) (q := ((103, [some (.inr (.inr (6, 0))), some (.inl x1), some (.inl x2), none, some (.inl x4), some (.inl s0)], []), σ)) hs1 rfl ?_
    refine Wp.run (WpD.mono _) 0 (q := ((105, [some (.inr (.inr (6, 0))), some (.inl x1), some (.inl x2), none, some (.inl x4), some (.inl s0)], [.inl x4]), σ)) rfl ?_
    refine Wp.if0_eq (WpD.mono _) rfl rfl (fun hc => ?_) (fun hc => ?_)
    · have h := (if_pos hc).symm.trans h
      show Wp (WpD (e + 12)) hcX9_goesOn Q (117, [some (.inr (.inr (6, 0))), some (.inl x1), some (.inl x2), none, some (.inl x4), some (.inl s0)], []) σ
      refine Wp.run (WpD.mono _) 0 (q := ((118, [none, none, none, none, none, none], [.inl (0 : Int32)]), σ)) rfl ?_
      obtain ⟨rfl, rfl⟩ := ret_inj h
      exact Wp.ret (WpD.mono _) rfl hQ
    · have h := (if_neg hc).symm.trans h
      show Wp (WpD (e + 12)) hcX9_goesOn Q (108, [some (.inr (.inr (6, 0))), some (.inl x1), some (.inl x2), none, some (.inl x4), some (.inl s0)], []) σ
      refine Wp.run (WpD.mono _) 0 (q := ((110, [some (.inr (.inr (6, 0))), some (.inl x1), some (.inl x2), none, some (.inl x4), some (.inl s0)], [.inl s0]), σ)) rfl ?_
      refine Wp.if0_ne (WpD.mono _) rfl rfl (fun hc => ?_) (fun hc => ?_)
      · have h := (if_pos hc).symm.trans h
        show Wp (WpD (e + 12)) hcX9_goesOn Q (113, [some (.inr (.inr (6, 0))), some (.inl x1), some (.inl x2), none, some (.inl x4), some (.inl s0)], []) σ
        refine Wp.run (WpD.mono _) 1 (q := ((118, [some (.inr (.inr (6, 0))), some (.inl x1), some (.inl x2), none, some (.inl x4), some (.inl s0)], [.inl (1 : Int32)]), σ)) rfl ?_
        obtain ⟨rfl, rfl⟩ := ret_inj h
        exact Wp.ret (WpD.mono _) rfl hQ
      · have h := (if_neg hc).symm.trans h
        show Wp (WpD (e + 12)) hcX9_goesOn Q (117, [some (.inr (.inr (6, 0))), some (.inl x1), some (.inl x2), none, some (.inl x4), some (.inl s0)], []) σ
        refine Wp.run (WpD.mono _) 0 (q := ((118, [none, none, none, none, none, none], [.inl (0 : Int32)]), σ)) rfl ?_
        obtain ⟨rfl, rfl⟩ := ret_inj h
        exact Wp.ret (WpD.mono _) rfl hQ
  have h := (if_neg hs1).symm.trans h
  by_cases hs2 : (σ.2.2.1 65 0 (x1).toNatClampNeg) = 3
  · have h := (if_pos hs2).symm.trans h
    refine Wp.swIn (WpD.mono _) (q := ((119, [some (.inr (.inr (6, 0))), some (.inl x1), some (.inl x2), none, some (.inl x4), some (.inl s0)], []), σ)) hs2 rfl ?_
    refine Wp.run (WpD.mono _) 7 (q := ((133, [some (.inr (.inr (6, 0))), some (.inl x1), some (.inl x2), none, some (.inl x4), some (.inl s0)], [.inr (.inr (1, 0)), .inl (x2 + (1 : Int32)), .inr (.inr (8, 0))]), σ)) rfl ?_
    obtain ⟨q2, hb, h⟩ := bind_some h
    refine Wp.call (WpD.mono _) rfl (T_X2_worth (e + 11) N σ _ _ _ hb ?_)
    show Wp (WpD (e + 12)) hcX9_goesOn Q (136, [some (.inr (.inr (6, 0))), some (.inl x1), some (.inl x2), none, some (.inl x4), some (.inl s0)], [.inl q2.1, .inl (x2 + (1 : Int32)), .inr (.inr (8, 0))]) q2.2
    obtain ⟨q3, hb, h⟩ := bind_some h
    refine Wp.call (WpD.mono _) rfl (T_X6_goingOn (e + 0) N (x2 + (1 : Int32)) q2.1 q2.2 _ _ _ hb ?_)
    show Wp (WpD (e + 12)) hcX9_goesOn Q (139, [some (.inr (.inr (6, 0))), some (.inl x1), some (.inl x2), none, some (.inl x4), some (.inl s0)], [.inr (.inl q3.1)]) q3.2
    refine Wp.run (WpD.mono _) 1 (q := ((141, [some (.inr (.inr (6, 0))), some (.inl x1), some (.inl x2), none, some (.inl x4), some (.inl s0)], [.inl (lg_cmp q3.1 (0 : Int64))]), q3.2)) rfl ?_
    refine Wp.if0_le (WpD.mono _) rfl rfl (fun hc => ?_) (fun hc => ?_)
    · have h := (if_pos hc).symm.trans h
      show Wp (WpD (e + 12)) hcX9_goesOn Q (148, [some (.inr (.inr (6, 0))), some (.inl x1), some (.inl x2), none, some (.inl x4), some (.inl s0)], []) q3.2
      refine Wp.run (WpD.mono _) 0 (q := ((149, [some (.inr (.inr (6, 0))), some (.inl x1), some (.inl x2), none, some (.inl x4), some (.inl s0)], [.inl (0 : Int32)]), q3.2)) rfl ?_
      obtain ⟨rfl, rfl⟩ := ret_inj h
      exact Wp.ret (WpD.mono _) rfl hQ
    · have h := (if_neg hc).symm.trans h
      show Wp (WpD (e + 12)) hcX9_goesOn Q (144, [some (.inr (.inr (6, 0))), some (.inl x1), some (.inl x2), none, some (.inl x4), some (.inl s0)], []) q3.2
      refine Wp.run (WpD.mono _) 1 (q := ((149, [some (.inr (.inr (6, 0))), some (.inl x1), some (.inl x2), none, some (.inl x4), some (.inl s0)], [.inl (1 : Int32)]), q3.2)) rfl ?_
      obtain ⟨rfl, rfl⟩ := ret_inj h
      exact Wp.ret (WpD.mono _) rfl hQ
  have h := (if_neg hs2).symm.trans h
  by_cases hs3 : (σ.2.2.1 65 0 (x1).toNatClampNeg) = 4
  · have h := (if_pos hs3).symm.trans h
    refine Wp.swIn (WpD.mono _) (q := ((150, [some (.inr (.inr (6, 0))), some (.inl x1), some (.inl x2), none, some (.inl x4), some (.inl s0)], []), σ)) hs3 rfl ?_
    refine Wp.run (WpD.mono _) 0 (q := ((152, [some (.inr (.inr (6, 0))), some (.inl x1), some (.inl x2), none, some (.inl x4), some (.inl s0)], [.inl x4]), σ)) rfl ?_
    refine Wp.if0_eq (WpD.mono _) rfl rfl (fun hc => ?_) (fun hc => ?_)
    · have h := (if_pos hc).symm.trans h
      show Wp (WpD (e + 12)) hcX9_goesOn Q (183, [some (.inr (.inr (6, 0))), some (.inl x1), some (.inl x2), none, some (.inl x4), some (.inl s0)], []) σ
      refine Wp.run (WpD.mono _) 0 (q := ((184, [none, none, none, none, none, none], [.inl (0 : Int32)]), σ)) rfl ?_
      obtain ⟨rfl, rfl⟩ := ret_inj h
      exact Wp.ret (WpD.mono _) rfl hQ
    · have h := (if_neg hc).symm.trans h
      show Wp (WpD (e + 12)) hcX9_goesOn Q (155, [some (.inr (.inr (6, 0))), some (.inl x1), some (.inl x2), none, some (.inl x4), some (.inl s0)], []) σ
      refine Wp.run (WpD.mono _) 4 (q := ((162, [some (.inr (.inr (6, 0))), some (.inl x1), some (.inl x2), none, some (.inl x4), some (.inl s0)], [.inl (x2 + (1 : Int32)), .inr (.inr (8, 0))]), σ)) rfl ?_
      obtain ⟨q4, hb, h⟩ := bind_some h
      refine Wp.call (WpD.mono _) rfl (T_X6_wet (e + 10) N (x2 + (1 : Int32)) σ _ _ _ hb ?_)
      show Wp (WpD (e + 12)) hcX9_goesOn Q (165, [some (.inr (.inr (6, 0))), some (.inl x1), some (.inl x2), none, some (.inl x4), some (.inl s0)], [.inr (.inl q4.1)]) q4.2
      refine Wp.run (WpD.mono _) 3 (q := ((172, [some (.inr (.inr (6, 0))), some (.inl x1), some (.inl x2), none, some (.inl x4), some (.inl s0)], [.inl x1, .inr (.inr (67, 0)), .inl (100000 : Int32), .inr (.inl q4.1)]), q4.2)) rfl ?_
      obtain ⟨hc, h⟩ := ite_nn h
      refine Wp.X_ild1 (WpD.mono _) rfl rfl hc ?_
      show Wp (WpD (e + 12)) hcX9_goesOn Q (173, [some (.inr (.inr (6, 0))), some (.inl x1), some (.inl x2), none, some (.inl x4), some (.inl s0)], [.inl (q4.2.2.2.1 67 0 (x1).toNatClampNeg), .inl (100000 : Int32), .inr (.inl q4.1)]) q4.2
      refine Wp.run (WpD.mono _) 2 (q := ((176, [some (.inr (.inr (6, 0))), some (.inl x1), some (.inl x2), none, some (.inl x4), some (.inl s0)], [.inl (lg_cmp q4.1 ((100000 : Int32) * (q4.2.2.2.1 67 0 (x1).toNatClampNeg)).toInt64)]), q4.2)) rfl ?_
      refine Wp.if0_lt (WpD.mono _) rfl rfl (fun hc => ?_) (fun hc => ?_)
      · have h := (if_pos hc).symm.trans h
        show Wp (WpD (e + 12)) hcX9_goesOn Q (183, [some (.inr (.inr (6, 0))), some (.inl x1), some (.inl x2), none, some (.inl x4), some (.inl s0)], []) q4.2
        refine Wp.run (WpD.mono _) 0 (q := ((184, [none, none, none, none, none, none], [.inl (0 : Int32)]), q4.2)) rfl ?_
        obtain ⟨rfl, rfl⟩ := ret_inj h
        exact Wp.ret (WpD.mono _) rfl hQ
      · have h := (if_neg hc).symm.trans h
        show Wp (WpD (e + 12)) hcX9_goesOn Q (179, [some (.inr (.inr (6, 0))), some (.inl x1), some (.inl x2), none, some (.inl x4), some (.inl s0)], []) q4.2
        refine Wp.run (WpD.mono _) 1 (q := ((184, [some (.inr (.inr (6, 0))), some (.inl x1), some (.inl x2), none, some (.inl x4), some (.inl s0)], [.inl (1 : Int32)]), q4.2)) rfl ?_
        obtain ⟨rfl, rfl⟩ := ret_inj h
        exact Wp.ret (WpD.mono _) rfl hQ
  have h := (if_neg hs3).symm.trans h
  by_cases hs4 : (σ.2.2.1 65 0 (x1).toNatClampNeg) = 5
  · have h := (if_pos hs4).symm.trans h
    refine Wp.swIn (WpD.mono _) (q := ((185, [some (.inr (.inr (6, 0))), some (.inl x1), some (.inl x2), none, some (.inl x4), some (.inl s0)], []), σ)) hs4 rfl ?_
    refine Wp.run (WpD.mono _) 1 (q := ((187, [some (.inr (.inr (6, 0))), some (.inl x1), some (.inl x2), none, some (.inl x4), some (.inl s0)], [.inl (1 : Int32), .inl x2]), σ)) rfl ?_
    refine Wp.if2_eq (WpD.mono _) rfl rfl (fun hc => ?_) (fun hc => ?_)
    · have h := (if_pos hc).symm.trans h
      show Wp (WpD (e + 12)) hcX9_goesOn Q (200, [some (.inr (.inr (6, 0))), some (.inl x1), some (.inl x2), none, some (.inl x4), some (.inl s0)], []) σ
      refine Wp.run (WpD.mono _) 1 (q := ((205, [none, none, none, none, none, none], [.inl (1 : Int32)]), σ)) rfl ?_
      obtain ⟨rfl, rfl⟩ := ret_inj h
      exact Wp.ret (WpD.mono _) rfl hQ
    · have h := (if_neg hc).symm.trans h
      show Wp (WpD (e + 12)) hcX9_goesOn Q (190, [some (.inr (.inr (6, 0))), some (.inl x1), some (.inl x2), none, some (.inl x4), some (.inl s0)], []) σ
      refine Wp.run (WpD.mono _) 0 (q := ((192, [some (.inr (.inr (6, 0))), some (.inl x1), some (.inl x2), none, some (.inl x4), some (.inl s0)], [.inl x4]), σ)) rfl ?_
      refine Wp.if0_eq (WpD.mono _) rfl rfl (fun hc => ?_) (fun hc => ?_)
      · have h := (if_pos hc).symm.trans h
        show Wp (WpD (e + 12)) hcX9_goesOn Q (204, [some (.inr (.inr (6, 0))), some (.inl x1), some (.inl x2), none, some (.inl x4), some (.inl s0)], []) σ
        refine Wp.run (WpD.mono _) 0 (q := ((205, [none, none, none, none, none, none], [.inl (0 : Int32)]), σ)) rfl ?_
        obtain ⟨rfl, rfl⟩ := ret_inj h
        exact Wp.ret (WpD.mono _) rfl hQ
      · have h := (if_neg hc).symm.trans h
        show Wp (WpD (e + 12)) hcX9_goesOn Q (195, [some (.inr (.inr (6, 0))), some (.inl x1), some (.inl x2), none, some (.inl x4), some (.inl s0)], []) σ
        refine Wp.run (WpD.mono _) 0 (q := ((197, [some (.inr (.inr (6, 0))), some (.inl x1), some (.inl x2), none, some (.inl x4), some (.inl s0)], [.inl s0]), σ)) rfl ?_
        refine Wp.if0_ne (WpD.mono _) rfl rfl (fun hc => ?_) (fun hc => ?_)
        · have h := (if_pos hc).symm.trans h
          show Wp (WpD (e + 12)) hcX9_goesOn Q (200, [some (.inr (.inr (6, 0))), some (.inl x1), some (.inl x2), none, some (.inl x4), some (.inl s0)], []) σ
          refine Wp.run (WpD.mono _) 1 (q := ((205, [none, none, none, none, none, none], [.inl (1 : Int32)]), σ)) rfl ?_
          obtain ⟨rfl, rfl⟩ := ret_inj h
          exact Wp.ret (WpD.mono _) rfl hQ
        · have h := (if_neg hc).symm.trans h
          show Wp (WpD (e + 12)) hcX9_goesOn Q (204, [some (.inr (.inr (6, 0))), some (.inl x1), some (.inl x2), none, some (.inl x4), some (.inl s0)], []) σ
          refine Wp.run (WpD.mono _) 0 (q := ((205, [none, none, none, none, none, none], [.inl (0 : Int32)]), σ)) rfl ?_
          obtain ⟨rfl, rfl⟩ := ret_inj h
          exact Wp.ret (WpD.mono _) rfl hQ
  have h := (if_neg hs4).symm.trans h
  have ehs0 : ¬ ((σ.2.2.1 65 0 (x1).toNatClampNeg)).toInt = 1 := fun z => hs0 (Int32.toInt_inj.mp z)
  have ehs1 : ¬ ((σ.2.2.1 65 0 (x1).toNatClampNeg)).toInt = 2 := fun z => hs1 (Int32.toInt_inj.mp z)
  have ehs2 : ¬ ((σ.2.2.1 65 0 (x1).toNatClampNeg)).toInt = 3 := fun z => hs2 (Int32.toInt_inj.mp z)
  have ehs3 : ¬ ((σ.2.2.1 65 0 (x1).toNatClampNeg)).toInt = 4 := fun z => hs3 (Int32.toInt_inj.mp z)
  have ehs4 : ¬ ((σ.2.2.1 65 0 (x1).toNatClampNeg)).toInt = 5 := fun z => hs4 (Int32.toInt_inj.mp z)
  refine Wp.swOut (WpD.mono _) (q := ((206, [some (.inr (.inr (6, 0))), some (.inl x1), some (.inl x2), none, some (.inl x4), some (.inl s0)], []), σ)) (o := if ((σ.2.2.1 65 0 (x1).toNatClampNeg)).toInt < 1 ∨ 5 < ((σ.2.2.1 65 0 (x1).toNatClampNeg)).toInt then some (142) else #[36, 39, 55, 86, 121][(((σ.2.2.1 65 0 (x1).toNatClampNeg)).toInt - 1).toNat]?) (o' := some (142)) rfl (if_pos (by omega)) rfl ?_
  refine Wp.run (WpD.mono _) 0 (q := ((207, [some (.inr (.inr (6, 0))), some (.inl x1), some (.inl x2), none, some (.inl x4), some (.inl s0)], [.inl (0 : Int32)]), σ)) rfl ?_
  obtain ⟨rfl, rfl⟩ := ret_inj h
  exact Wp.ret (WpD.mono _) rfl hQ

set_option maxRecDepth 100000 in
set_option maxHeartbeats 4000000 in
theorem T_X9_goesOn_b55 (e N : Nat)  (k56 : Int32 → Int32 → Int32 → Int32 → Mem → Option (Int32 × Mem)) (r : Int32) (τ : Mem) (Q : Pst) (hQ : Q (some (.inl r)) τ) (hk56 : ∀ (x1 : Int32) (x2 : Int32) (x4 : Int32) (s0 : Int32) (σ : Mem), k56 x1 x2 x4 s0 σ = some (r, τ) → Wp (WpD (e + 12)) hcX9_goesOn Q (56, [some (.inr (.inr (6, 0))), some (.inl x1), some (.inl x2), none, some (.inl x4), none], [.inl s0]) σ) : ∀ (x1 : Int32) (x2 : Int32) (x4 : Int32) (σ : Mem), F_X9_goesOn_b55 N k56 x1 x2 x4 σ = some (r, τ) → Wp (WpD (e + 12)) hcX9_goesOn Q (55, [some (.inr (.inr (6, 0))), some (.inl x1), some (.inl x2), none, some (.inl x4), none], []) σ := by
  intro x1 x2 x4 σ h
  unfold F_X9_goesOn_b55 at h
  refine Wp.run (WpD.mono _) 0 (q := ((56, [some (.inr (.inr (6, 0))), some (.inl x1), some (.inl x2), none, some (.inl x4), none], [.inl (0 : Int32)]), σ)) rfl ?_
  exact Wp.jump (WpD.mono _) rfl (hk56 x1 x2 x4 (0 : Int32) σ h)

set_option maxRecDepth 100000 in
set_option maxHeartbeats 4000000 in
theorem T_X9_goesOn_b31 (e N : Nat)   (r : Int32) (τ : Mem) (Q : Pst) (hQ : Q (some (.inl r)) τ) : ∀ (x1 : Int32) (x2 : Int32) (x3 : Int32) (s0 : Int32) (σ : Mem), F_X9_goesOn_b31 N x1 x2 x3 s0 σ = some (r, τ) → Wp (WpD (e + 12)) hcX9_goesOn Q (31, [some (.inr (.inr (6, 0))), some (.inl x1), some (.inl x2), some (.inl x3), none, none], [.inl s0]) σ := by
  intro x1 x2 x3 s0 σ h
  unfold F_X9_goesOn_b31 at h
  refine Wp.run (WpD.mono _) 1 (q := ((34, [some (.inr (.inr (6, 0))), some (.inl x1), some (.inl x2), some (.inl x3), some (.inl s0), none], [.inl x3]), σ)) rfl ?_
  refine Wp.if0_lt (WpD.mono _) rfl rfl (fun hc => ?_) (fun hc => ?_)
  · have h := (if_pos hc).symm.trans h
    show Wp (WpD (e + 12)) hcX9_goesOn Q (55, [some (.inr (.inr (6, 0))), some (.inl x1), some (.inl x2), some (.inl x3), some (.inl s0), none], []) σ
    exact Wp.jump (WpD.mono _) rfl ((T_X9_goesOn_b55 e N (F_X9_goesOn_b56 N) r τ Q hQ (T_X9_goesOn_b56 e N  r τ Q hQ )) x1 x2 s0 σ h)
  · have h := (if_neg hc).symm.trans h
    show Wp (WpD (e + 12)) hcX9_goesOn Q (37, [some (.inr (.inr (6, 0))), some (.inl x1), some (.inl x2), some (.inl x3), some (.inl s0), none], []) σ
    refine Wp.run (WpD.mono _) 2 (q := ((42, [some (.inr (.inr (6, 0))), some (.inl x1), some (.inl x2), some (.inl x3), some (.inl s0), none], [.inl x1, .inr (.inr (67, 0))]), σ)) rfl ?_
    obtain ⟨hc, h⟩ := ite_nn h
    refine Wp.X_ild1 (WpD.mono _) rfl rfl hc ?_
    show Wp (WpD (e + 12)) hcX9_goesOn Q (43, [some (.inr (.inr (6, 0))), some (.inl x1), some (.inl x2), some (.inl x3), some (.inl s0), none], [.inl (σ.2.2.1 67 0 (x1).toNatClampNeg)]) σ
    refine Wp.run (WpD.mono _) 4 (q := ((48, [some (.inr (.inr (6, 0))), some (.inl x1), some (.inl x2), some (.inl x3), some (.inl s0), none], [.inl (1 : Int32), .inl (((σ.2.2.1 67 0 (x1).toNatClampNeg) >>> (x3 &&& 31)) &&& (1 : Int32))]), σ)) rfl ?_
    refine Wp.if2_ne (WpD.mono _) rfl rfl (fun hc => ?_) (fun hc => ?_)
    · have h := (if_pos hc).symm.trans h
      show Wp (WpD (e + 12)) hcX9_goesOn Q (51, [some (.inr (.inr (6, 0))), some (.inl x1), some (.inl x2), some (.inl x3), some (.inl s0), none], []) σ
      refine Wp.run (WpD.mono _) 1 (q := ((56, [some (.inr (.inr (6, 0))), some (.inl x1), some (.inl x2), some (.inl x3), some (.inl s0), none], [.inl (1 : Int32)]), σ)) rfl ?_
      exact Wp.jump (WpD.mono _) rfl ((T_X9_goesOn_b56 e N  r τ Q hQ ) x1 x2 s0 (1 : Int32) σ h)
    · have h := (if_neg hc).symm.trans h
      show Wp (WpD (e + 12)) hcX9_goesOn Q (55, [some (.inr (.inr (6, 0))), some (.inl x1), some (.inl x2), some (.inl x3), some (.inl s0), none], []) σ
      exact Wp.jump (WpD.mono _) rfl ((T_X9_goesOn_b55 e N (F_X9_goesOn_b56 N) r τ Q hQ (T_X9_goesOn_b56 e N  r τ Q hQ )) x1 x2 s0 σ h)

set_option maxRecDepth 100000 in
set_option maxHeartbeats 4000000 in
theorem T_X9_goesOn (e N : Nat)  (a1 : Int32) (a2 : Int32) (a3 : Int32) (σ : Mem) (r : Int32) (τ : Mem) (Q : Pst) (h : F_X9_goesOn N a1 a2 a3 σ = some (r, τ)) (hQ : Q (some (.inl r)) τ) : WpD (e + 13) mX9_goesOn [.inr (.inr (6, 0)), .inl a1, .inl a2, .inl a3] σ Q := by
  refine WpD.of (d := e + 12) (Nat.le_of_ble_eq_true rfl) (Nat.le_of_ble_eq_true rfl) ?_
  show Wp (WpD (e + 12)) hcX9_goesOn Q (0, [some (.inr (.inr (6, 0))), some (.inl a1), some (.inl a2), some (.inl a3), none, none], []) σ
  unfold F_X9_goesOn at h
  refine Wp.run (WpD.mono _) 3 (q := ((8, [some (.inr (.inr (6, 0))), some (.inl a1), some (.inl a2), some (.inl a3), none, none], [.inr (.inr (1, 0)), .inl a2]), σ)) rfl ?_
  obtain ⟨q1, hb, h⟩ := bind_some h
  refine Wp.call (WpD.mono _) rfl (T_X2_deepest (e + 11) N σ _ _ _ hb ?_)
  show Wp (WpD (e + 12)) hcX9_goesOn Q (11, [some (.inr (.inr (6, 0))), some (.inl a1), some (.inl a2), some (.inl a3), none, none], [.inl q1.1, .inl a2]) q1.2
  refine Wp.if2_lt (WpD.mono _) rfl rfl (fun hc => ?_) (fun hc => ?_)
  · have h := (if_pos hc).symm.trans h
    show Wp (WpD (e + 12)) hcX9_goesOn Q (16, [some (.inr (.inr (6, 0))), some (.inl a1), some (.inl a2), some (.inl a3), none, none], []) q1.2
    refine Wp.run (WpD.mono _) 3 (q := ((22, [some (.inr (.inr (6, 0))), some (.inl a1), some (.inl a2), some (.inl a3), none, none], [.inl a1, .inr (.inr (66, 0)), .inl a2]), q1.2)) rfl ?_
    obtain ⟨hc, h⟩ := ite_nn h
    refine Wp.X_ild1 (WpD.mono _) rfl rfl hc ?_
    show Wp (WpD (e + 12)) hcX9_goesOn Q (23, [some (.inr (.inr (6, 0))), some (.inl a1), some (.inl a2), some (.inl a3), none, none], [.inl (q1.2.2.2.1 66 0 (a1).toNatClampNeg), .inl a2]) q1.2
    refine Wp.if2_ge (WpD.mono _) rfl rfl (fun hc => ?_) (fun hc => ?_)
    · have h := (if_pos hc).symm.trans h
      show Wp (WpD (e + 12)) hcX9_goesOn Q (30, [some (.inr (.inr (6, 0))), some (.inl a1), some (.inl a2), some (.inl a3), none, none], []) q1.2
      refine Wp.run (WpD.mono _) 0 (q := ((31, [some (.inr (.inr (6, 0))), some (.inl a1), some (.inl a2), some (.inl a3), none, none], [.inl (0 : Int32)]), q1.2)) rfl ?_
      exact Wp.jump (WpD.mono _) rfl ((T_X9_goesOn_b31 e N  r τ Q hQ ) a1 a2 a3 (0 : Int32) q1.2 h)
    · have h := (if_neg hc).symm.trans h
      show Wp (WpD (e + 12)) hcX9_goesOn Q (26, [some (.inr (.inr (6, 0))), some (.inl a1), some (.inl a2), some (.inl a3), none, none], []) q1.2
      refine Wp.run (WpD.mono _) 1 (q := ((31, [some (.inr (.inr (6, 0))), some (.inl a1), some (.inl a2), some (.inl a3), none, none], [.inl (1 : Int32)]), q1.2)) rfl ?_
      exact Wp.jump (WpD.mono _) rfl ((T_X9_goesOn_b31 e N  r τ Q hQ ) a1 a2 a3 (1 : Int32) q1.2 h)
  · have h := (if_neg hc).symm.trans h
    show Wp (WpD (e + 12)) hcX9_goesOn Q (14, [some (.inr (.inr (6, 0))), some (.inl a1), some (.inl a2), some (.inl a3), none, none], []) q1.2
    refine Wp.run (WpD.mono _) 0 (q := ((15, [some (.inr (.inr (6, 0))), some (.inl a1), some (.inl a2), some (.inl a3), none, none], [.inl (0 : Int32)]), q1.2)) rfl ?_
    obtain ⟨rfl, rfl⟩ := ret_inj h
    exact Wp.ret (WpD.mono _) rfl hQ

set_option maxRecDepth 100000 in
set_option maxHeartbeats 4000000 in
theorem T_X0_work_b76 (e N : Nat)   (r : Unit) (τ : Mem) (Q : Pst) (hQ : Q (none) τ) : ∀ n, ∀ (x1 : Int32) (x5 : Int32) (x6 : Int32) (x7 : Int32) (σ : Mem), F_X0_work_b76 N n x1 x5 x6 x7 σ = some (r, τ) → Wp (WpD (e + 13)) hcX0_work Q (76, [some (.inr (.inr (10, 0))), some (.inl x1), none, none, some (.inr (.inr (1, 0))), some (.inl x5), some (.inl x6), some (.inl x7)], []) σ := by
  intro n
  induction n with
  | zero => intro x1 x5 x6 x7 σ h; cases h
  | succ n ih =>
    intro x1 x5 x6 x7 σ h
    unfold F_X0_work_b76 at h
    refine Wp.run (WpD.mono _) 1 (q := ((79, [some (.inr (.inr (10, 0))), some (.inl x1), none, none, some (.inr (.inr (1, 0))), some (.inl x5), some (.inl x6), some (.inl x7)], [.inl (5 : Int32), .inl x7]), σ)) rfl ?_
    refine Wp.if2_gt (WpD.mono _) rfl rfl (fun hc => ?_) (fun hc => ?_)
    · have h := (if_pos hc).symm.trans h
      show Wp (WpD (e + 13)) hcX0_work Q (220, [some (.inr (.inr (10, 0))), some (.inl x1), none, none, some (.inr (.inr (1, 0))), some (.inl x5), some (.inl x6), some (.inl x7)], []) σ
      obtain ⟨rfl, rfl⟩ := ret_inj h
      exact Wp.ret (WpD.mono _) rfl hQ
    · have h := (if_neg hc).symm.trans h
      show Wp (WpD (e + 13)) hcX0_work Q (82, [some (.inr (.inr (10, 0))), some (.inl x1), none, none, some (.inr (.inr (1, 0))), some (.inl x5), some (.inl x6), some (.inl x7)], []) σ
      refine Wp.run (WpD.mono _) 5 (q := ((93, [some (.inr (.inr (10, 0))), some (.inl x1), none, none, some (.inr (.inr (1, 0))), some (.inl x5), some (.inl x6), some (.inl x7)], [.inl x6, .inl (σ.1 10 5), .inl x1, .inr (.inr (6, 0))]), σ)) rfl ?_
      obtain ⟨q4, hb, h⟩ := bind_some h
      refine Wp.call (WpD.mono _) rfl (T_X9_goesOn (e + 0) N x1 (σ.1 10 5) x6 σ _ _ _ hb ?_)
      show Wp (WpD (e + 13)) hcX0_work Q (96, [some (.inr (.inr (10, 0))), some (.inl x1), none, none, some (.inr (.inr (1, 0))), some (.inl x5), some (.inl x6), some (.inl x7)], [.inl q4.1]) q4.2
      refine Wp.if0_eq (WpD.mono _) rfl rfl (fun hc => ?_) (fun hc => ?_)
      · have h := (if_pos hc).symm.trans h
        show Wp (WpD (e + 13)) hcX0_work Q (220, [some (.inr (.inr (10, 0))), some (.inl x1), none, none, some (.inr (.inr (1, 0))), some (.inl x5), some (.inl x6), some (.inl x7)], []) q4.2
        obtain ⟨rfl, rfl⟩ := ret_inj h
        exact Wp.ret (WpD.mono _) rfl hQ
      · have h := (if_neg hc).symm.trans h
        show Wp (WpD (e + 13)) hcX0_work Q (99, [some (.inr (.inr (10, 0))), some (.inl x1), none, none, some (.inr (.inr (1, 0))), some (.inl x5), some (.inl x6), some (.inl x7)], []) q4.2
        refine Wp.run (WpD.mono _) 7 (q := ((116, [some (.inr (.inr (10, 0))), some (.inl x1), none, none, some (.inr (.inr (1, 0))), some (.inl x5), some (.inl x6), some (.inl x7)], [.inl x7, .inr (.inr (42, 0)), .inl (q4.2.1 10 3), .inr (.inr (10, 0))]), q4.2)) rfl ?_
        obtain ⟨hc, h⟩ := ite_nn h
        refine Wp.X_ild1 (WpD.mono _) rfl rfl hc ?_
        show Wp (WpD (e + 13)) hcX0_work Q (117, [some (.inr (.inr (10, 0))), some (.inl x1), none, none, some (.inr (.inr (1, 0))), some (.inl x5), some (.inl x6), some (.inl x7)], [.inl (q4.2.2.2.1 42 0 (x7).toNatClampNeg), .inl (q4.2.1 10 3), .inr (.inr (10, 0))]) q4.2
        refine Wp.run (WpD.mono _) 5 (q := ((128, [some (.inr (.inr (10, 0))), some (.inl x1), none, none, some (.inr (.inr (1, 0))), some (.inl x5), some (.inl x6), some (.inl x7)], [.inr (.inr (10, 0))]), ((hwU2 (hwU2 q4.2.1 10 3 ((q4.2.1 10 3) + (q4.2.2.2.1 42 0 (x7).toNatClampNeg))) 10 5 x7), q4.2.2.1, q4.2.2.2.1, q4.2.2.2.2.1, q4.2.2.2.2.2))) rfl ?_
        obtain ⟨q5, hb, h⟩ := bind_some h
        refine Wp.call (WpD.mono _) rfl (T_X0_lots (e + 12) N ((hwU2 (hwU2 q4.2.1 10 3 ((q4.2.1 10 3) + (q4.2.2.2.1 42 0 (x7).toNatClampNeg))) 10 5 x7), q4.2.2.1, q4.2.2.2.1, q4.2.2.2.2.1, q4.2.2.2.2.2) _ _ _ hb ?_)
        show Wp (WpD (e + 13)) hcX0_work Q (131, [some (.inr (.inr (10, 0))), some (.inl x1), none, none, some (.inr (.inr (1, 0))), some (.inl x5), some (.inl x6), some (.inl x7)], [.inr (.inl q5.1)]) q5.2
        refine Wp.run (WpD.mono _) 6 (q := ((147, [some (.inr (.inr (10, 0))), some (.inl x1), none, none, some (.inr (.inr (1, 0))), some (.inl x5), some (.inl x6), some (.inl x7)], [.inl x7, .inr (.inr (43, 0)), .inr (.inl (q5.1 - q5.1 / (100 : Int64) * (100 : Int64)))]), q5.2)) rfl ?_
        obtain ⟨hc, h⟩ := ite_nn h
        refine Wp.X_rld4 (WpD.mono _) rfl rfl hc ?_
        show Wp (WpD (e + 13)) hcX0_work Q (148, [some (.inr (.inr (10, 0))), some (.inl x1), none, none, some (.inr (.inr (1, 0))), some (.inl x5), some (.inl x6), some (.inl x7)], [.inr (.inr (44, (x7).toNatClampNeg)), .inr (.inl (q5.1 - q5.1 / (100 : Int64) * (100 : Int64)))]) q5.2
        refine Wp.run (WpD.mono _) 0 (q := ((150, [some (.inr (.inr (10, 0))), some (.inl x1), none, none, some (.inr (.inr (1, 0))), some (.inl x5), some (.inl x6), some (.inl x7)], [.inl x5, .inr (.inr (44, (x7).toNatClampNeg)), .inr (.inl (q5.1 - q5.1 / (100 : Int64) * (100 : Int64)))]), q5.2)) rfl ?_
        obtain ⟨hc, h⟩ := ite_nn h
        refine Wp.X_ild1 (WpD.mono _) rfl rfl hc ?_
        show Wp (WpD (e + 13)) hcX0_work Q (151, [some (.inr (.inr (10, 0))), some (.inl x1), none, none, some (.inr (.inr (1, 0))), some (.inl x5), some (.inl x6), some (.inl x7)], [.inl (q5.2.2.2.1 44 (x7).toNatClampNeg (x5).toNatClampNeg), .inr (.inl (q5.1 - q5.1 / (100 : Int64) * (100 : Int64)))]) q5.2
        refine Wp.run (WpD.mono _) 1 (q := ((153, [some (.inr (.inr (10, 0))), some (.inl x1), none, none, some (.inr (.inr (1, 0))), some (.inl x5), some (.inl x6), some (.inl x7)], [.inl (lg_cmp (q5.1 - q5.1 / (100 : Int64) * (100 : Int64)) (q5.2.2.2.1 44 (x7).toNatClampNeg (x5).toNatClampNeg).toInt64)]), q5.2)) rfl ?_
        refine Wp.if0_ge (WpD.mono _) rfl rfl (fun hc => ?_) (fun hc => ?_)
        · have h := (if_pos hc).symm.trans h
          show Wp (WpD (e + 13)) hcX0_work Q (163, [some (.inr (.inr (10, 0))), some (.inl x1), none, none, some (.inr (.inr (1, 0))), some (.inl x5), some (.inl x6), some (.inl x7)], []) q5.2
          refine Wp.run (WpD.mono _) 2 (q := ((170, [some (.inr (.inr (10, 0))), some (.inl x1), none, none, some (.inr (.inr (1, 0))), some (.inl x5), some (.inl x6), some (.inl x7)], [.inl x5, .inr (.inr (24, 0))]), q5.2)) rfl ?_
          obtain ⟨hc, h⟩ := ite_nn h
          refine Wp.X_ild1 (WpD.mono _) rfl rfl hc ?_
          show Wp (WpD (e + 13)) hcX0_work Q (171, [some (.inr (.inr (10, 0))), some (.inl x1), none, none, some (.inr (.inr (1, 0))), some (.inl x5), some (.inl x6), some (.inl x7)], [.inl (q5.2.2.2.1 24 0 (x5).toNatClampNeg)]) q5.2
          refine Wp.run (WpD.mono _) 4 (q := ((181, [some (.inr (.inr (10, 0))), some (.inl x1), none, none, some (.inr (.inr (1, 0))), some (.inl x5), some (.inl (q5.2.2.2.1 24 0 (x5).toNatClampNeg)), some (.inl x7)], [.inl (q5.2.2.2.1 24 0 (x5).toNatClampNeg), .inl x7, .inr (.inr (8, 0))]), q5.2)) rfl ?_
          obtain ⟨q6, hb, h⟩ := bind_some h
          refine Wp.call (WpD.mono _) rfl (T_X6_pass (e + 11) N x7 (q5.2.2.2.1 24 0 (x5).toNatClampNeg) q5.2 _ _ _ hb ?_)
          show Wp (WpD (e + 13)) hcX0_work Q (184, [some (.inr (.inr (10, 0))), some (.inl x1), none, none, some (.inr (.inr (1, 0))), some (.inl x5), some (.inl (q5.2.2.2.1 24 0 (x5).toNatClampNeg)), some (.inl x7)], [.inr (.inl q6.1)]) q6.2
          refine Wp.run (WpD.mono _) 1 (q := ((186, [some (.inr (.inr (10, 0))), some (.inl x1), none, none, some (.inr (.inr (1, 0))), some (.inl x5), some (.inl (q5.2.2.2.1 24 0 (x5).toNatClampNeg)), some (.inl x7)], [.inl (lg_cmp q6.1 (0 : Int64))]), q6.2)) rfl ?_
          refine Wp.if0_ne (WpD.mono _) rfl rfl (fun hc => ?_) (fun hc => ?_)
          · have h := (if_pos hc).symm.trans h
            show Wp (WpD (e + 13)) hcX0_work Q (189, [some (.inr (.inr (10, 0))), some (.inl x1), none, none, some (.inr (.inr (1, 0))), some (.inl x5), some (.inl (q5.2.2.2.1 24 0 (x5).toNatClampNeg)), some (.inl x7)], []) q6.2
            obtain ⟨rfl, rfl⟩ := ret_inj h
            exact Wp.ret (WpD.mono _) rfl hQ
          · have h := (if_neg hc).symm.trans h
            show Wp (WpD (e + 13)) hcX0_work Q (190, [some (.inr (.inr (10, 0))), some (.inl x1), none, none, some (.inr (.inr (1, 0))), some (.inl x5), some (.inl (q5.2.2.2.1 24 0 (x5).toNatClampNeg)), some (.inl x7)], []) q6.2
            refine Wp.run (WpD.mono _) 3 (q := ((198, [some (.inr (.inr (10, 0))), some (.inl x1), none, none, some (.inr (.inr (1, 0))), some (.inl x5), some (.inl (q5.2.2.2.1 24 0 (x5).toNatClampNeg)), some (.inl x7)], [.inl x5, .inr (.inr (25, 0)), .inr (.inr (10, 0))]), q6.2)) rfl ?_
            obtain ⟨hc, h⟩ := ite_nn h
            refine Wp.X_rld4 (WpD.mono _) rfl rfl hc ?_
            show Wp (WpD (e + 13)) hcX0_work Q (199, [some (.inr (.inr (10, 0))), some (.inl x1), none, none, some (.inr (.inr (1, 0))), some (.inl x5), some (.inl (q5.2.2.2.1 24 0 (x5).toNatClampNeg)), some (.inl x7)], [.inr (.inr (26, (x5).toNatClampNeg)), .inr (.inr (10, 0))]) q6.2
            refine Wp.run (WpD.mono _) 2 (q := ((206, [some (.inr (.inr (10, 0))), some (.inl x1), none, none, some (.inr (.inr (1, 0))), some (.inl x5), some (.inl (q5.2.2.2.1 24 0 (x5).toNatClampNeg)), some (.inl x7)], [.inl x5, .inr (.inr (27, 0)), .inr (.inr (26, (x5).toNatClampNeg)), .inr (.inr (10, 0))]), q6.2)) rfl ?_
            obtain ⟨hc, h⟩ := ite_nn h
            refine Wp.X_ild1 (WpD.mono _) rfl rfl hc ?_
            show Wp (WpD (e + 13)) hcX0_work Q (207, [some (.inr (.inr (10, 0))), some (.inl x1), none, none, some (.inr (.inr (1, 0))), some (.inl x5), some (.inl (q5.2.2.2.1 24 0 (x5).toNatClampNeg)), some (.inl x7)], [.inl (q6.2.2.2.1 27 0 (x5).toNatClampNeg), .inr (.inr (26, (x5).toNatClampNeg)), .inr (.inr (10, 0))]) q6.2
            refine Wp.run (WpD.mono _) 0 (q := ((209, [some (.inr (.inr (10, 0))), some (.inl x1), none, none, some (.inr (.inr (1, 0))), some (.inl x5), some (.inl (q5.2.2.2.1 24 0 (x5).toNatClampNeg)), some (.inl x7)], [.inl x5, .inl (q6.2.2.2.1 27 0 (x5).toNatClampNeg), .inr (.inr (26, (x5).toNatClampNeg)), .inr (.inr (10, 0))]), q6.2)) rfl ?_
            obtain ⟨q7, hb, h⟩ := bind_some h
            refine Wp.call (WpD.mono _) rfl (T_X0_pick_t26 (e + 11) N (x5).toNatClampNeg (q6.2.2.2.1 27 0 (x5).toNatClampNeg) x5 q6.2 _ _ _ hb ?_)
            show Wp (WpD (e + 13)) hcX0_work Q (212, [some (.inr (.inr (10, 0))), some (.inl x1), none, none, some (.inr (.inr (1, 0))), some (.inl x5), some (.inl (q5.2.2.2.1 24 0 (x5).toNatClampNeg)), some (.inl x7)], [.inl q7.1]) q7.2
            refine Wp.run (WpD.mono _) 2 (q := ((76, [some (.inr (.inr (10, 0))), some (.inl x1), none, none, some (.inr (.inr (1, 0))), some (.inl q7.1), some (.inl (q5.2.2.2.1 24 0 (x5).toNatClampNeg)), some (.inl (x7 + (1 : Int32)))], []), q7.2)) rfl ?_
            exact Wp.jump (WpD.mono _) rfl (ih x1 q7.1 (q5.2.2.2.1 24 0 (x5).toNatClampNeg) (x7 + (1 : Int32)) q7.2 h)
        · have h := (if_neg hc).symm.trans h
          show Wp (WpD (e + 13)) hcX0_work Q (156, [some (.inr (.inr (10, 0))), some (.inl x1), none, none, some (.inr (.inr (1, 0))), some (.inl x5), some (.inl x6), some (.inl x7)], []) q5.2
          refine Wp.run (WpD.mono _) 2 (q := ((162, [some (.inr (.inr (10, 0))), some (.inl x1), none, none, some (.inr (.inr (1, 0))), some (.inl x5), some (.inl x6), some (.inl x7)], []), ((hwU2 q5.2.1 10 4 x7), q5.2.2.1, q5.2.2.2.1, q5.2.2.2.2.1, q5.2.2.2.2.2))) rfl ?_
          obtain ⟨rfl, rfl⟩ := ret_inj h
          exact Wp.ret (WpD.mono _) rfl hQ

set_option maxRecDepth 100000 in
set_option maxHeartbeats 4000000 in
theorem T_X0_work (e N : Nat)  (a1 : Int32) (a2 : Int32) (a3 : Int32) (σ : Mem) (r : Unit) (τ : Mem) (Q : Pst) (h : F_X0_work N a1 a2 a3 σ = some (r, τ)) (hQ : Q (none) τ) : WpD (e + 14) mX0_work [.inr (.inr (10, 0)), .inl a1, .inl a2, .inl a3] σ Q := by
  refine WpD.of (d := e + 13) (Nat.le_of_ble_eq_true rfl) (Nat.le_of_ble_eq_true rfl) ?_
  show Wp (WpD (e + 13)) hcX0_work Q (0, [some (.inr (.inr (10, 0))), some (.inl a1), some (.inl a2), some (.inl a3), none, none, none, none], []) σ
  unfold F_X0_work at h
  refine Wp.run (WpD.mono _) 21 (q := ((37, [some (.inr (.inr (10, 0))), some (.inl a1), some (.inl a2), some (.inl a3), some (.inr (.inr (1, 0))), none, none, none], [.inl a2, .inr (.inr (8, 0))]), ((hwU2 (hwU2 (hwU2 σ.1 10 3 (0 : Int32)) 10 4 (Int32.ofInt (-1))) 10 5 (0 : Int32)), (hwU2 σ.2.1 10 2 (a3 + (1 : Int32)).toInt64), σ.2.2.1, σ.2.2.2.1, σ.2.2.2.2))) rfl ?_
  obtain ⟨q1, hb, h⟩ := bind_some h
  refine Wp.call (WpD.mono _) rfl (T_X6_begin (e + 11) N a2 ((hwU2 (hwU2 (hwU2 σ.1 10 3 (0 : Int32)) 10 4 (Int32.ofInt (-1))) 10 5 (0 : Int32)), (hwU2 σ.2.1 10 2 (a3 + (1 : Int32)).toInt64), σ.2.2.1, σ.2.2.2.1, σ.2.2.2.2) _ _ _ hb ?_)
  show Wp (WpD (e + 13)) hcX0_work Q (40, [some (.inr (.inr (10, 0))), some (.inl a1), some (.inl a2), some (.inl a3), some (.inr (.inr (1, 0))), none, none, none], []) q1.2
  refine Wp.run (WpD.mono _) 5 (q := ((52, [some (.inr (.inr (10, 0))), some (.inl a1), some (.inl a2), some (.inl a3), some (.inr (.inr (1, 0))), none, none, none], [.inl a2, .inr (.inr (54, 0)), .inr (.inr (10, 0))]), q1.2)) rfl ?_
  obtain ⟨hc, h⟩ := ite_nn h
  refine Wp.X_rld4 (WpD.mono _) rfl rfl hc ?_
  show Wp (WpD (e + 13)) hcX0_work Q (53, [some (.inr (.inr (10, 0))), some (.inl a1), some (.inl a2), some (.inl a3), some (.inr (.inr (1, 0))), none, none, none], [.inr (.inr (55, (a2).toNatClampNeg)), .inr (.inr (10, 0))]) q1.2
  refine Wp.run (WpD.mono _) 3 (q := ((61, [some (.inr (.inr (10, 0))), some (.inl a1), some (.inl a2), some (.inl a3), some (.inr (.inr (1, 0))), none, none, none], [.inl a2, .inr (.inr (4, 0)), .inr (.inr (55, (a2).toNatClampNeg)), .inr (.inr (10, 0))]), q1.2)) rfl ?_
  obtain ⟨q2, hb, h⟩ := bind_some h
  refine Wp.call (WpD.mono _) rfl (T_X7_allFirst (e + 12) N a2 q1.2 _ _ _ hb ?_)
  show Wp (WpD (e + 13)) hcX0_work Q (64, [some (.inr (.inr (10, 0))), some (.inl a1), some (.inl a2), some (.inl a3), some (.inr (.inr (1, 0))), none, none, none], [.inl q2.1, .inr (.inr (55, (a2).toNatClampNeg)), .inr (.inr (10, 0))]) q2.2
  refine Wp.run (WpD.mono _) 0 (q := ((65, [some (.inr (.inr (10, 0))), some (.inl a1), some (.inl a2), some (.inl a3), some (.inr (.inr (1, 0))), none, none, none], [.inl (0 : Int32), .inl q2.1, .inr (.inr (55, (a2).toNatClampNeg)), .inr (.inr (10, 0))]), q2.2)) rfl ?_
  obtain ⟨q3, hb, h⟩ := bind_some h
  refine Wp.call (WpD.mono _) rfl (T_X0_pick_t55 (e + 11) N (a2).toNatClampNeg q2.1 (0 : Int32) q2.2 _ _ _ hb ?_)
  show Wp (WpD (e + 13)) hcX0_work Q (68, [some (.inr (.inr (10, 0))), some (.inl a1), some (.inl a2), some (.inl a3), some (.inr (.inr (1, 0))), none, none, none], [.inl q3.1]) q3.2
  refine Wp.run (WpD.mono _) 4 (q := ((76, [some (.inr (.inr (10, 0))), some (.inl a1), some (.inl a2), some (.inl a3), some (.inr (.inr (1, 0))), some (.inl q3.1), some (.inl (Int32.ofInt (-1))), some (.inl (1 : Int32))], []), q3.2)) rfl ?_
  exact Wp.jump (WpD.mono _) rfl ((T_X0_work_b76 e N  r τ Q hQ  N) a1 q3.1 (Int32.ofInt (-1)) (1 : Int32) q3.2 h)

set_option maxRecDepth 100000 in
set_option maxHeartbeats 4000000 in
theorem T_X11_within (e N : Nat)  (a1 : Int32) (a2 : Int32) (a3 : Int32) (σ : Mem) (r : Int32) (τ : Mem) (Q : Pst) (h : F_X11_within N a1 a2 a3 σ = some (r, τ)) (hQ : Q (some (.inl r)) τ) : WpD (e + 1) mX11_within [.inl a1, .inl a2, .inl a3] σ Q := by
  refine WpD.of (d := e + 0) (Nat.le_of_ble_eq_true rfl) (Nat.le_of_ble_eq_true rfl) ?_
  show Wp (WpD (e + 0)) hcX11_within Q (0, [some (.inl a1), some (.inl a2), some (.inl a3)], []) σ
  unfold F_X11_within at h
  refine Wp.run (WpD.mono _) 1 (q := ((2, [some (.inl a1), some (.inl a2), some (.inl a3)], [.inl a2, .inl a1]), σ)) rfl ?_
  refine Wp.if2_lt (WpD.mono _) rfl rfl (fun hc => ?_) (fun hc => ?_)
  · have h := (if_pos hc).symm.trans h
    show Wp (WpD (e + 0)) hcX11_within Q (14, [some (.inl a1), some (.inl a2), some (.inl a3)], []) σ
    refine Wp.run (WpD.mono _) 0 (q := ((15, [none, none, none], [.inl (0 : Int32)]), σ)) rfl ?_
    obtain ⟨rfl, rfl⟩ := ret_inj h
    exact Wp.ret (WpD.mono _) rfl hQ
  · have h := (if_neg hc).symm.trans h
    show Wp (WpD (e + 0)) hcX11_within Q (5, [some (.inl a1), some (.inl a2), some (.inl a3)], []) σ
    refine Wp.run (WpD.mono _) 1 (q := ((7, [some (.inl a1), some (.inl a2), some (.inl a3)], [.inl a3, .inl a1]), σ)) rfl ?_
    refine Wp.if2_gt (WpD.mono _) rfl rfl (fun hc => ?_) (fun hc => ?_)
    · have h := (if_pos hc).symm.trans h
      show Wp (WpD (e + 0)) hcX11_within Q (14, [some (.inl a1), some (.inl a2), some (.inl a3)], []) σ
      refine Wp.run (WpD.mono _) 0 (q := ((15, [none, none, none], [.inl (0 : Int32)]), σ)) rfl ?_
      obtain ⟨rfl, rfl⟩ := ret_inj h
      exact Wp.ret (WpD.mono _) rfl hQ
    · have h := (if_neg hc).symm.trans h
      show Wp (WpD (e + 0)) hcX11_within Q (10, [some (.inl a1), some (.inl a2), some (.inl a3)], []) σ
      refine Wp.run (WpD.mono _) 1 (q := ((15, [some (.inl a1), some (.inl a2), some (.inl a3)], [.inl (1 : Int32)]), σ)) rfl ?_
      obtain ⟨rfl, rfl⟩ := ret_inj h
      exact Wp.ret (WpD.mono _) rfl hQ

set_option maxRecDepth 100000 in
set_option maxHeartbeats 4000000 in
theorem T_X10_allWithin_b3 (e N : Nat)   (r : Int32) (τ : Mem) (Q : Pst) (hQ : Q (some (.inl r)) τ) : ∀ n, ∀ (x1 : Int32) (x2 : Int32) (x3 : Int32) (x4 : Int32) (σ : Mem), F_X10_allWithin_b3 N n x1 x2 x3 x4 σ = some (r, τ) → Wp (WpD (e + 1)) hcX10_allWithin Q (3, [some (.inr (.inr (5, 0))), some (.inl x1), some (.inl x2), some (.inl x3), some (.inl x4)], []) σ := by
  intro n
  induction n with
  | zero => intro x1 x2 x3 x4 σ h; cases h
  | succ n ih =>
    intro x1 x2 x3 x4 σ h
    unfold F_X10_allWithin_b3 at h
    refine Wp.run (WpD.mono _) 3 (q := ((10, [some (.inr (.inr (5, 0))), some (.inl x1), some (.inl x2), some (.inl x3), some (.inl x4)], [.inl x1, .inr (.inr (71, 0)), .inl x4]), σ)) rfl ?_
    obtain ⟨hc, h⟩ := ite_nn h
    refine Wp.X_ild1 (WpD.mono _) rfl rfl hc ?_
    show Wp (WpD (e + 1)) hcX10_allWithin Q (11, [some (.inr (.inr (5, 0))), some (.inl x1), some (.inl x2), some (.inl x3), some (.inl x4)], [.inl (σ.2.2.1 71 0 (x1).toNatClampNeg), .inl x4]) σ
    refine Wp.if2_ge (WpD.mono _) rfl rfl (fun hc => ?_) (fun hc => ?_)
    · have h := (if_pos hc).symm.trans h
      show Wp (WpD (e + 1)) hcX10_allWithin Q (39, [some (.inr (.inr (5, 0))), some (.inl x1), some (.inl x2), some (.inl x3), some (.inl x4)], []) σ
      refine Wp.run (WpD.mono _) 0 (q := ((40, [some (.inr (.inr (5, 0))), some (.inl x1), some (.inl x2), some (.inl x3), some (.inl x4)], [.inl (1 : Int32)]), σ)) rfl ?_
      obtain ⟨rfl, rfl⟩ := ret_inj h
      exact Wp.ret (WpD.mono _) rfl hQ
    · have h := (if_neg hc).symm.trans h
      show Wp (WpD (e + 1)) hcX10_allWithin Q (14, [some (.inr (.inr (5, 0))), some (.inl x1), some (.inl x2), some (.inl x3), some (.inl x4)], []) σ
      refine Wp.run (WpD.mono _) 2 (q := ((19, [some (.inr (.inr (5, 0))), some (.inl x1), some (.inl x2), some (.inl x3), some (.inl x4)], [.inl x1, .inr (.inr (68, 0))]), σ)) rfl ?_
      obtain ⟨hc, h⟩ := ite_nn h
      refine Wp.X_rld4 (WpD.mono _) rfl rfl hc ?_
      show Wp (WpD (e + 1)) hcX10_allWithin Q (20, [some (.inr (.inr (5, 0))), some (.inl x1), some (.inl x2), some (.inl x3), some (.inl x4)], [.inr (.inr (69, (x1).toNatClampNeg))]) σ
      refine Wp.run (WpD.mono _) 0 (q := ((22, [some (.inr (.inr (5, 0))), some (.inl x1), some (.inl x2), some (.inl x3), some (.inl x4)], [.inl x4, .inr (.inr (69, (x1).toNatClampNeg))]), σ)) rfl ?_
      obtain ⟨hc, h⟩ := ite_nn h
      refine Wp.X_ild1 (WpD.mono _) rfl rfl hc ?_
      show Wp (WpD (e + 1)) hcX10_allWithin Q (23, [some (.inr (.inr (5, 0))), some (.inl x1), some (.inl x2), some (.inl x3), some (.inl x4)], [.inl (σ.2.2.1 69 (x1).toNatClampNeg (x4).toNatClampNeg)]) σ
      refine Wp.run (WpD.mono _) 1 (q := ((25, [some (.inr (.inr (5, 0))), some (.inl x1), some (.inl x2), some (.inl x3), some (.inl x4)], [.inl x3, .inl x2, .inl (σ.2.2.1 69 (x1).toNatClampNeg (x4).toNatClampNeg)]), σ)) rfl ?_
      obtain ⟨q1, hb, h⟩ := bind_some h
      refine Wp.call (WpD.mono _) rfl (T_X11_within (e + 0) N (σ.2.2.1 69 (x1).toNatClampNeg (x4).toNatClampNeg) x2 x3 σ _ _ _ hb ?_)
      show Wp (WpD (e + 1)) hcX10_allWithin Q (28, [some (.inr (.inr (5, 0))), some (.inl x1), some (.inl x2), some (.inl x3), some (.inl x4)], [.inl q1.1]) q1.2
      refine Wp.if0_ne (WpD.mono _) rfl rfl (fun hc => ?_) (fun hc => ?_)
      · have h := (if_pos hc).symm.trans h
        show Wp (WpD (e + 1)) hcX10_allWithin Q (31, [some (.inr (.inr (5, 0))), some (.inl x1), some (.inl x2), some (.inl x3), some (.inl x4)], []) q1.2
        refine Wp.run (WpD.mono _) 0 (q := ((32, [some (.inr (.inr (5, 0))), some (.inl x1), some (.inl x2), some (.inl x3), some (.inl x4)], [.inl (0 : Int32)]), q1.2)) rfl ?_
        obtain ⟨rfl, rfl⟩ := ret_inj h
        exact Wp.ret (WpD.mono _) rfl hQ
      · have h := (if_neg hc).symm.trans h
        show Wp (WpD (e + 1)) hcX10_allWithin Q (33, [some (.inr (.inr (5, 0))), some (.inl x1), some (.inl x2), some (.inl x3), some (.inl x4)], []) q1.2
        refine Wp.run (WpD.mono _) 1 (q := ((3, [some (.inr (.inr (5, 0))), some (.inl x1), some (.inl x2), some (.inl x3), some (.inl (x4 + (1 : Int32)))], []), q1.2)) rfl ?_
        exact Wp.jump (WpD.mono _) rfl (ih x1 x2 x3 (x4 + (1 : Int32)) q1.2 h)

set_option maxRecDepth 100000 in
set_option maxHeartbeats 4000000 in
theorem T_X10_allWithin (e N : Nat)  (a1 : Int32) (a2 : Int32) (a3 : Int32) (σ : Mem) (r : Int32) (τ : Mem) (Q : Pst) (h : F_X10_allWithin N a1 a2 a3 σ = some (r, τ)) (hQ : Q (some (.inl r)) τ) : WpD (e + 2) mX10_allWithin [.inr (.inr (5, 0)), .inl a1, .inl a2, .inl a3] σ Q := by
  refine WpD.of (d := e + 1) (Nat.le_of_ble_eq_true rfl) (Nat.le_of_ble_eq_true rfl) ?_
  show Wp (WpD (e + 1)) hcX10_allWithin Q (0, [some (.inr (.inr (5, 0))), some (.inl a1), some (.inl a2), some (.inl a3), none], []) σ
  unfold F_X10_allWithin at h
  refine Wp.run (WpD.mono _) 1 (q := ((3, [some (.inr (.inr (5, 0))), some (.inl a1), some (.inl a2), some (.inl a3), some (.inl (0 : Int32))], []), σ)) rfl ?_
  exact Wp.jump (WpD.mono _) rfl ((T_X10_allWithin_b3 e N  r τ Q hQ  N) a1 a2 a3 (0 : Int32) σ h)

set_option maxRecDepth 100000 in
set_option maxHeartbeats 4000000 in
theorem T_X10_has (e N : Nat)  (a1 : Int32) (a2 : Int32) (σ : Mem) (r : Int32) (τ : Mem) (Q : Pst) (h : F_X10_has N a1 a2 σ = some (r, τ)) (hQ : Q (some (.inl r)) τ) : WpD (e + 1) mX10_has [.inr (.inr (5, 0)), .inl a1, .inl a2] σ Q := by
  refine WpD.of (d := e + 0) (Nat.le_of_ble_eq_true rfl) (Nat.le_of_ble_eq_true rfl) ?_
  show Wp (WpD (e + 0)) hcX10_has Q (0, [some (.inr (.inr (5, 0))), some (.inl a1), some (.inl a2)], []) σ
  unfold F_X10_has at h
  refine Wp.run (WpD.mono _) 0 (q := ((1, [some (.inr (.inr (5, 0))), some (.inl a1), some (.inl a2)], [.inl a2]), σ)) rfl ?_
  refine Wp.if0_lt (WpD.mono _) rfl rfl (fun hc => ?_) (fun hc => ?_)
  · have h := (if_pos hc).symm.trans h
    show Wp (WpD (e + 0)) hcX10_has Q (18, [some (.inr (.inr (5, 0))), some (.inl a1), some (.inl a2)], []) σ
    refine Wp.run (WpD.mono _) 0 (q := ((19, [none, none, none], [.inl (0 : Int32)]), σ)) rfl ?_
    obtain ⟨rfl, rfl⟩ := ret_inj h
    exact Wp.ret (WpD.mono _) rfl hQ
  · have h := (if_neg hc).symm.trans h
    show Wp (WpD (e + 0)) hcX10_has Q (4, [some (.inr (.inr (5, 0))), some (.inl a1), some (.inl a2)], []) σ
    refine Wp.run (WpD.mono _) 3 (q := ((10, [some (.inr (.inr (5, 0))), some (.inl a1), some (.inl a2)], [.inl a1, .inr (.inr (71, 0)), .inl a2]), σ)) rfl ?_
    obtain ⟨hc, h⟩ := ite_nn h
    refine Wp.X_ild1 (WpD.mono _) rfl rfl hc ?_
    show Wp (WpD (e + 0)) hcX10_has Q (11, [some (.inr (.inr (5, 0))), some (.inl a1), some (.inl a2)], [.inl (σ.2.2.1 71 0 (a1).toNatClampNeg), .inl a2]) σ
    refine Wp.if2_ge (WpD.mono _) rfl rfl (fun hc => ?_) (fun hc => ?_)
    · have h := (if_pos hc).symm.trans h
      show Wp (WpD (e + 0)) hcX10_has Q (18, [some (.inr (.inr (5, 0))), some (.inl a1), some (.inl a2)], []) σ
      refine Wp.run (WpD.mono _) 0 (q := ((19, [none, none, none], [.inl (0 : Int32)]), σ)) rfl ?_
      obtain ⟨rfl, rfl⟩ := ret_inj h
      exact Wp.ret (WpD.mono _) rfl hQ
    · have h := (if_neg hc).symm.trans h
      show Wp (WpD (e + 0)) hcX10_has Q (14, [some (.inr (.inr (5, 0))), some (.inl a1), some (.inl a2)], []) σ
      refine Wp.run (WpD.mono _) 1 (q := ((19, [some (.inr (.inr (5, 0))), some (.inl a1), some (.inl a2)], [.inl (1 : Int32)]), σ)) rfl ?_
      obtain ⟨rfl, rfl⟩ := ret_inj h
      exact Wp.ret (WpD.mono _) rfl hQ

set_option maxRecDepth 100000 in
set_option maxHeartbeats 4000000 in
theorem T_X10_holds (e N : Nat)  (a1 : Int32) (a2 : Int32) (a3 : Int32) (σ : Mem) (r : Int32) (τ : Mem) (Q : Pst) (h : F_X10_holds N a1 a2 a3 σ = some (r, τ)) (hQ : Q (some (.inl r)) τ) : WpD (e + 1) mX10_holds [.inr (.inr (5, 0)), .inl a1, .inl a2, .inl a3] σ Q := by
  refine WpD.of (d := e + 0) (Nat.le_of_ble_eq_true rfl) (Nat.le_of_ble_eq_true rfl) ?_
  show Wp (WpD (e + 0)) hcX10_holds Q (0, [some (.inr (.inr (5, 0))), some (.inl a1), some (.inl a2), some (.inl a3)], []) σ
  unfold F_X10_holds at h
  refine Wp.run (WpD.mono _) 0 (q := ((1, [some (.inr (.inr (5, 0))), some (.inl a1), some (.inl a2), some (.inl a3)], [.inl a2]), σ)) rfl ?_
  refine Wp.if0_lt (WpD.mono _) rfl rfl (fun hc => ?_) (fun hc => ?_)
  · have h := (if_pos hc).symm.trans h
    show Wp (WpD (e + 0)) hcX10_holds Q (34, [some (.inr (.inr (5, 0))), some (.inl a1), some (.inl a2), some (.inl a3)], []) σ
    refine Wp.run (WpD.mono _) 0 (q := ((35, [none, none, none, none], [.inl (0 : Int32)]), σ)) rfl ?_
    obtain ⟨rfl, rfl⟩ := ret_inj h
    exact Wp.ret (WpD.mono _) rfl hQ
  · have h := (if_neg hc).symm.trans h
    show Wp (WpD (e + 0)) hcX10_holds Q (4, [some (.inr (.inr (5, 0))), some (.inl a1), some (.inl a2), some (.inl a3)], []) σ
    refine Wp.run (WpD.mono _) 0 (q := ((5, [some (.inr (.inr (5, 0))), some (.inl a1), some (.inl a2), some (.inl a3)], [.inl a3]), σ)) rfl ?_
    refine Wp.if0_lt (WpD.mono _) rfl rfl (fun hc => ?_) (fun hc => ?_)
    · have h := (if_pos hc).symm.trans h
      show Wp (WpD (e + 0)) hcX10_holds Q (34, [some (.inr (.inr (5, 0))), some (.inl a1), some (.inl a2), some (.inl a3)], []) σ
      refine Wp.run (WpD.mono _) 0 (q := ((35, [none, none, none, none], [.inl (0 : Int32)]), σ)) rfl ?_
      obtain ⟨rfl, rfl⟩ := ret_inj h
      exact Wp.ret (WpD.mono _) rfl hQ
    · have h := (if_neg hc).symm.trans h
      show Wp (WpD (e + 0)) hcX10_holds Q (8, [some (.inr (.inr (5, 0))), some (.inl a1), some (.inl a2), some (.inl a3)], []) σ
      refine Wp.run (WpD.mono _) 3 (q := ((14, [some (.inr (.inr (5, 0))), some (.inl a1), some (.inl a2), some (.inl a3)], [.inl a1, .inr (.inr (71, 0)), .inl a2]), σ)) rfl ?_
      obtain ⟨hc, h⟩ := ite_nn h
      refine Wp.X_ild1 (WpD.mono _) rfl rfl hc ?_
      show Wp (WpD (e + 0)) hcX10_holds Q (15, [some (.inr (.inr (5, 0))), some (.inl a1), some (.inl a2), some (.inl a3)], [.inl (σ.2.2.1 71 0 (a1).toNatClampNeg), .inl a2]) σ
      refine Wp.if2_gt (WpD.mono _) rfl rfl (fun hc => ?_) (fun hc => ?_)
      · have h := (if_pos hc).symm.trans h
        show Wp (WpD (e + 0)) hcX10_holds Q (34, [some (.inr (.inr (5, 0))), some (.inl a1), some (.inl a2), some (.inl a3)], []) σ
        refine Wp.run (WpD.mono _) 0 (q := ((35, [none, none, none, none], [.inl (0 : Int32)]), σ)) rfl ?_
        obtain ⟨rfl, rfl⟩ := ret_inj h
        exact Wp.ret (WpD.mono _) rfl hQ
      · have h := (if_neg hc).symm.trans h
        show Wp (WpD (e + 0)) hcX10_holds Q (18, [some (.inr (.inr (5, 0))), some (.inl a1), some (.inl a2), some (.inl a3)], []) σ
        refine Wp.run (WpD.mono _) 3 (q := ((24, [some (.inr (.inr (5, 0))), some (.inl a1), some (.inl a2), some (.inl a3)], [.inl a1, .inr (.inr (71, 0)), .inl a3]), σ)) rfl ?_
        obtain ⟨hc, h⟩ := ite_nn h
        refine Wp.X_ild1 (WpD.mono _) rfl rfl hc ?_
        show Wp (WpD (e + 0)) hcX10_holds Q (25, [some (.inr (.inr (5, 0))), some (.inl a1), some (.inl a2), some (.inl a3)], [.inl (σ.2.2.1 71 0 (a1).toNatClampNeg), .inl a3]) σ
        refine Wp.run (WpD.mono _) 1 (q := ((27, [some (.inr (.inr (5, 0))), some (.inl a1), some (.inl a2), some (.inl a3)], [.inl ((σ.2.2.1 71 0 (a1).toNatClampNeg) - a2), .inl a3]), σ)) rfl ?_
        refine Wp.if2_gt (WpD.mono _) rfl rfl (fun hc => ?_) (fun hc => ?_)
        · have h := (if_pos hc).symm.trans h
          show Wp (WpD (e + 0)) hcX10_holds Q (34, [some (.inr (.inr (5, 0))), some (.inl a1), some (.inl a2), some (.inl a3)], []) σ
          refine Wp.run (WpD.mono _) 0 (q := ((35, [none, none, none, none], [.inl (0 : Int32)]), σ)) rfl ?_
          obtain ⟨rfl, rfl⟩ := ret_inj h
          exact Wp.ret (WpD.mono _) rfl hQ
        · have h := (if_neg hc).symm.trans h
          show Wp (WpD (e + 0)) hcX10_holds Q (30, [some (.inr (.inr (5, 0))), some (.inl a1), some (.inl a2), some (.inl a3)], []) σ
          refine Wp.run (WpD.mono _) 1 (q := ((35, [some (.inr (.inr (5, 0))), some (.inl a1), some (.inl a2), some (.inl a3)], [.inl (1 : Int32)]), σ)) rfl ?_
          obtain ⟨rfl, rfl⟩ := ret_inj h
          exact Wp.ret (WpD.mono _) rfl hQ

set_option maxRecDepth 100000 in
set_option maxHeartbeats 4000000 in
theorem T_X10_isMissing (e N : Nat)  (a1 : Int32) (σ : Mem) (r : Int32) (τ : Mem) (Q : Pst) (h : F_X10_isMissing N a1 σ = some (r, τ)) (hQ : Q (some (.inl r)) τ) : WpD (e + 1) mX10_isMissing [.inr (.inr (5, 0)), .inl a1] σ Q := by
  refine WpD.of (d := e + 0) (Nat.le_of_ble_eq_true rfl) (Nat.le_of_ble_eq_true rfl) ?_
  show Wp (WpD (e + 0)) hcX10_isMissing Q (0, [some (.inr (.inr (5, 0))), some (.inl a1)], []) σ
  unfold F_X10_isMissing at h
  refine Wp.run (WpD.mono _) 2 (q := ((5, [some (.inr (.inr (5, 0))), some (.inl a1)], [.inl a1, .inr (.inr (70, 0))]), σ)) rfl ?_
  obtain ⟨hc, h⟩ := ite_nn h
  refine Wp.X_ild1 (WpD.mono _) rfl rfl hc ?_
  show Wp (WpD (e + 0)) hcX10_isMissing Q (6, [some (.inr (.inr (5, 0))), some (.inl a1)], [.inl (σ.2.2.1 70 0 (a1).toNatClampNeg)]) σ
  refine Wp.if0_ge (WpD.mono _) rfl rfl (fun hc => ?_) (fun hc => ?_)
  · have h := (if_pos hc).symm.trans h
    show Wp (WpD (e + 0)) hcX10_isMissing Q (13, [some (.inr (.inr (5, 0))), some (.inl a1)], []) σ
    refine Wp.run (WpD.mono _) 0 (q := ((14, [some (.inr (.inr (5, 0))), some (.inl a1)], [.inl (0 : Int32)]), σ)) rfl ?_
    obtain ⟨rfl, rfl⟩ := ret_inj h
    exact Wp.ret (WpD.mono _) rfl hQ
  · have h := (if_neg hc).symm.trans h
    show Wp (WpD (e + 0)) hcX10_isMissing Q (9, [some (.inr (.inr (5, 0))), some (.inl a1)], []) σ
    refine Wp.run (WpD.mono _) 1 (q := ((14, [some (.inr (.inr (5, 0))), some (.inl a1)], [.inl (1 : Int32)]), σ)) rfl ?_
    obtain ⟨rfl, rfl⟩ := ret_inj h
    exact Wp.ret (WpD.mono _) rfl hQ

set_option maxRecDepth 100000 in
set_option maxHeartbeats 4000000 in
theorem T_X10_lay_b17 (e N : Nat)   (r : Unit) (τ : Mem) (Q : Pst) (hQ : Q (none) τ) : ∀ n, ∀ (x1 : Int32) (x4 : Int32) (σ : Mem), F_X10_lay_b17 N n x1 x4 σ = some (r, τ) → Wp (WpD (e + 0)) hcX10_lay Q (17, [some (.inr (.inr (5, 0))), some (.inl x1), none, none, some (.inl x4)], []) σ := by
  intro n
  induction n with
  | zero => intro x1 x4 σ h; cases h
  | succ n ih =>
    intro x1 x4 σ h
    unfold F_X10_lay_b17 at h
    refine Wp.run (WpD.mono _) 1 (q := ((21, [some (.inr (.inr (5, 0))), some (.inl x1), none, none, some (.inl x4)], [.inl (40 : Int32), .inl x4]), σ)) rfl ?_
    refine Wp.if2_ge (WpD.mono _) rfl rfl (fun hc => ?_) (fun hc => ?_)
    · have h := (if_pos hc).symm.trans h
      show Wp (WpD (e + 0)) hcX10_lay Q (40, [some (.inr (.inr (5, 0))), some (.inl x1), none, none, some (.inl x4)], []) σ
      obtain ⟨rfl, rfl⟩ := ret_inj h
      exact Wp.ret (WpD.mono _) rfl hQ
    · have h := (if_neg hc).symm.trans h
      show Wp (WpD (e + 0)) hcX10_lay Q (24, [some (.inr (.inr (5, 0))), some (.inl x1), none, none, some (.inl x4)], []) σ
      refine Wp.run (WpD.mono _) 2 (q := ((29, [some (.inr (.inr (5, 0))), some (.inl x1), none, none, some (.inl x4)], [.inl x1, .inr (.inr (68, 0))]), σ)) rfl ?_
      obtain ⟨hc, h⟩ := ite_nn h
      refine Wp.X_rld4 (WpD.mono _) rfl rfl hc ?_
      show Wp (WpD (e + 0)) hcX10_lay Q (30, [some (.inr (.inr (5, 0))), some (.inl x1), none, none, some (.inl x4)], [.inr (.inr (69, (x1).toNatClampNeg))]) σ
      refine Wp.run (WpD.mono _) 1 (q := ((33, [some (.inr (.inr (5, 0))), some (.inl x1), none, none, some (.inl x4)], [.inl (0 : Int32), .inl x4, .inr (.inr (69, (x1).toNatClampNeg))]), σ)) rfl ?_
      obtain ⟨hc, h⟩ := ite_nn h
      refine Wp.X_ist (WpD.mono _) rfl rfl hc ?_
      show Wp (WpD (e + 0)) hcX10_lay Q (34, [some (.inr (.inr (5, 0))), some (.inl x1), none, none, some (.inl x4)], []) (σ.1, σ.2.1, (hwU3 σ.2.2.1 69 (x1).toNatClampNeg (x4).toNatClampNeg (0 : Int32)), σ.2.2.2.1, σ.2.2.2.2)
      refine Wp.run (WpD.mono _) 1 (q := ((17, [some (.inr (.inr (5, 0))), some (.inl x1), none, none, some (.inl (x4 + (1 : Int32)))], []), (σ.1, σ.2.1, (hwU3 σ.2.2.1 69 (x1).toNatClampNeg (x4).toNatClampNeg (0 : Int32)), σ.2.2.2.1, σ.2.2.2.2))) rfl ?_
      exact Wp.jump (WpD.mono _) rfl (ih x1 (x4 + (1 : Int32)) (σ.1, σ.2.1, (hwU3 σ.2.2.1 69 (x1).toNatClampNeg (x4).toNatClampNeg (0 : Int32)), σ.2.2.2.1, σ.2.2.2.2) h)

set_option maxRecDepth 100000 in
set_option maxHeartbeats 4000000 in
theorem T_X10_lay (e N : Nat)  (a1 : Int32) (a2 : Int32) (a3 : Int32) (σ : Mem) (r : Unit) (τ : Mem) (Q : Pst) (h : F_X10_lay N a1 a2 a3 σ = some (r, τ)) (hQ : Q (none) τ) : WpD (e + 1) mX10_lay [.inr (.inr (5, 0)), .inl a1, .inl a2, .inl a3] σ Q := by
  refine WpD.of (d := e + 0) (Nat.le_of_ble_eq_true rfl) (Nat.le_of_ble_eq_true rfl) ?_
  show Wp (WpD (e + 0)) hcX10_lay Q (0, [some (.inr (.inr (5, 0))), some (.inl a1), some (.inl a2), some (.inl a3), none], []) σ
  unfold F_X10_lay at h
  refine Wp.run (WpD.mono _) 3 (q := ((6, [some (.inr (.inr (5, 0))), some (.inl a1), some (.inl a2), some (.inl a3), none], [.inl a2, .inl a1, .inr (.inr (70, 0))]), σ)) rfl ?_
  obtain ⟨hc, h⟩ := ite_nn h
  refine Wp.X_ist (WpD.mono _) rfl rfl hc ?_
  show Wp (WpD (e + 0)) hcX10_lay Q (7, [some (.inr (.inr (5, 0))), some (.inl a1), some (.inl a2), some (.inl a3), none], []) (σ.1, σ.2.1, (hwU3 σ.2.2.1 70 0 (a1).toNatClampNeg a2), σ.2.2.2.1, σ.2.2.2.2)
  refine Wp.run (WpD.mono _) 3 (q := ((13, [some (.inr (.inr (5, 0))), some (.inl a1), some (.inl a2), some (.inl a3), none], [.inl a3, .inl a1, .inr (.inr (71, 0))]), (σ.1, σ.2.1, (hwU3 σ.2.2.1 70 0 (a1).toNatClampNeg a2), σ.2.2.2.1, σ.2.2.2.2))) rfl ?_
  obtain ⟨hc, h⟩ := ite_nn h
  refine Wp.X_ist (WpD.mono _) rfl rfl hc ?_
  show Wp (WpD (e + 0)) hcX10_lay Q (14, [some (.inr (.inr (5, 0))), some (.inl a1), some (.inl a2), some (.inl a3), none], []) (σ.1, σ.2.1, (hwU3 (hwU3 σ.2.2.1 70 0 (a1).toNatClampNeg a2) 71 0 (a1).toNatClampNeg a3), σ.2.2.2.1, σ.2.2.2.2)
  refine Wp.run (WpD.mono _) 1 (q := ((17, [some (.inr (.inr (5, 0))), some (.inl a1), some (.inl a2), some (.inl a3), some (.inl (0 : Int32))], []), (σ.1, σ.2.1, (hwU3 (hwU3 σ.2.2.1 70 0 (a1).toNatClampNeg a2) 71 0 (a1).toNatClampNeg a3), σ.2.2.2.1, σ.2.2.2.2))) rfl ?_
  exact Wp.jump (WpD.mono _) rfl ((T_X10_lay_b17 e N  r τ Q hQ  N) a1 (0 : Int32) (σ.1, σ.2.1, (hwU3 (hwU3 σ.2.2.1 70 0 (a1).toNatClampNeg a2) 71 0 (a1).toNatClampNeg a3), σ.2.2.2.1, σ.2.2.2.2) h)

set_option maxRecDepth 100000 in
set_option maxHeartbeats 4000000 in
theorem T_X10_write (e N : Nat)  (a1 : Int32) (a2 : Int32) (a3 : Int32) (σ : Mem) (r : Unit) (τ : Mem) (Q : Pst) (h : F_X10_write N a1 a2 a3 σ = some (r, τ)) (hQ : Q (none) τ) : WpD (e + 1) mX10_write [.inr (.inr (5, 0)), .inl a1, .inl a2, .inl a3] σ Q := by
  refine WpD.of (d := e + 0) (Nat.le_of_ble_eq_true rfl) (Nat.le_of_ble_eq_true rfl) ?_
  show Wp (WpD (e + 0)) hcX10_write Q (0, [some (.inr (.inr (5, 0))), some (.inl a1), some (.inl a2), some (.inl a3)], []) σ
  unfold F_X10_write at h
  refine Wp.run (WpD.mono _) 2 (q := ((5, [some (.inr (.inr (5, 0))), some (.inl a1), some (.inl a2), some (.inl a3)], [.inl a1, .inr (.inr (70, 0))]), σ)) rfl ?_
  obtain ⟨hc, h⟩ := ite_nn h
  refine Wp.X_ild1 (WpD.mono _) rfl rfl hc ?_
  show Wp (WpD (e + 0)) hcX10_write Q (6, [some (.inr (.inr (5, 0))), some (.inl a1), some (.inl a2), some (.inl a3)], [.inl (σ.2.2.1 70 0 (a1).toNatClampNeg)]) σ
  by_cases hs0 : (σ.2.2.1 70 0 (a1).toNatClampNeg) = 0
  · have h := (if_pos hs0).symm.trans h
    refine Wp.swIn (WpD.mono _) (q := ((32, [some (.inr (.inr (5, 0))), some (.inl a1), some (.inl a2), some (.inl a3)], []), σ)) hs0 rfl ?_
    refine Wp.run (WpD.mono _) 2 (q := ((37, [some (.inr (.inr (5, 0))), some (.inl a1), some (.inl a2), some (.inl a3)], [.inl a1, .inr (.inr (68, 0))]), σ)) rfl ?_
    obtain ⟨hc, h⟩ := ite_nn h
    refine Wp.X_rld4 (WpD.mono _) rfl rfl hc ?_
    show Wp (WpD (e + 0)) hcX10_write Q (38, [some (.inr (.inr (5, 0))), some (.inl a1), some (.inl a2), some (.inl a3)], [.inr (.inr (69, (a1).toNatClampNeg))]) σ
    refine Wp.run (WpD.mono _) 2 (q := ((41, [some (.inr (.inr (5, 0))), some (.inl a1), some (.inl a2), some (.inl a3)], [.inl a3.toInt8.toInt32, .inl a2, .inr (.inr (69, (a1).toNatClampNeg))]), σ)) rfl ?_
    obtain ⟨hc, h⟩ := ite_nn h
    refine Wp.X_ist (WpD.mono _) rfl rfl hc ?_
    show Wp (WpD (e + 0)) hcX10_write Q (42, [some (.inr (.inr (5, 0))), some (.inl a1), some (.inl a2), some (.inl a3)], []) (σ.1, σ.2.1, (hwU3 σ.2.2.1 69 (a1).toNatClampNeg (a2).toNatClampNeg a3.toInt8.toInt32), σ.2.2.2.1, σ.2.2.2.2)
    refine Wp.run (WpD.mono _) 0 (q := ((67, [some (.inr (.inr (5, 0))), some (.inl a1), some (.inl a2), some (.inl a3)], []), (σ.1, σ.2.1, (hwU3 σ.2.2.1 69 (a1).toNatClampNeg (a2).toNatClampNeg a3.toInt8.toInt32), σ.2.2.2.1, σ.2.2.2.2))) rfl ?_
    obtain ⟨rfl, rfl⟩ := ret_inj h
    exact Wp.ret (WpD.mono _) rfl hQ
  have h := (if_neg hs0).symm.trans h
  by_cases hs1 : (σ.2.2.1 70 0 (a1).toNatClampNeg) = 1
  · have h := (if_pos hs1).symm.trans h
    refine Wp.swIn (WpD.mono _) (q := ((45, [some (.inr (.inr (5, 0))), some (.inl a1), some (.inl a2), some (.inl a3)], []), σ)) hs1 rfl ?_
    refine Wp.run (WpD.mono _) 2 (q := ((50, [some (.inr (.inr (5, 0))), some (.inl a1), some (.inl a2), some (.inl a3)], [.inl a1, .inr (.inr (68, 0))]), σ)) rfl ?_
    obtain ⟨hc, h⟩ := ite_nn h
    refine Wp.X_rld4 (WpD.mono _) rfl rfl hc ?_
    show Wp (WpD (e + 0)) hcX10_write Q (51, [some (.inr (.inr (5, 0))), some (.inl a1), some (.inl a2), some (.inl a3)], [.inr (.inr (69, (a1).toNatClampNeg))]) σ
    refine Wp.run (WpD.mono _) 2 (q := ((54, [some (.inr (.inr (5, 0))), some (.inl a1), some (.inl a2), some (.inl a3)], [.inl a3.toInt16.toInt32, .inl a2, .inr (.inr (69, (a1).toNatClampNeg))]), σ)) rfl ?_
    obtain ⟨hc, h⟩ := ite_nn h
    refine Wp.X_ist (WpD.mono _) rfl rfl hc ?_
    show Wp (WpD (e + 0)) hcX10_write Q (55, [some (.inr (.inr (5, 0))), some (.inl a1), some (.inl a2), some (.inl a3)], []) (σ.1, σ.2.1, (hwU3 σ.2.2.1 69 (a1).toNatClampNeg (a2).toNatClampNeg a3.toInt16.toInt32), σ.2.2.2.1, σ.2.2.2.2)
    refine Wp.run (WpD.mono _) 0 (q := ((67, [some (.inr (.inr (5, 0))), some (.inl a1), some (.inl a2), some (.inl a3)], []), (σ.1, σ.2.1, (hwU3 σ.2.2.1 69 (a1).toNatClampNeg (a2).toNatClampNeg a3.toInt16.toInt32), σ.2.2.2.1, σ.2.2.2.2))) rfl ?_
    obtain ⟨rfl, rfl⟩ := ret_inj h
    exact Wp.ret (WpD.mono _) rfl hQ
  have h := (if_neg hs1).symm.trans h
  have ehs0 : ¬ 0 = ((σ.2.2.1 70 0 (a1).toNatClampNeg)).toInt := fun z => hs0 (Int32.toInt_inj.mp z.symm)
  have ehs1 : ¬ 1 = ((σ.2.2.1 70 0 (a1).toNatClampNeg)).toInt := fun z => hs1 (Int32.toInt_inj.mp z.symm)
  refine Wp.swOut (WpD.mono _) (q := ((58, [some (.inr (.inr (5, 0))), some (.inl a1), some (.inl a2), some (.inl a3)], []), σ)) (o := some (Op.lookupswitch.offset [(0, 26), (1, 39)] 52 ((σ.2.2.1 70 0 (a1).toNatClampNeg)).toInt)) (o' := some (52)) rfl (by simp [Op.lookupswitch.offset, ehs0, ehs1]) rfl ?_
  refine Wp.run (WpD.mono _) 2 (q := ((63, [some (.inr (.inr (5, 0))), some (.inl a1), some (.inl a2), some (.inl a3)], [.inl a1, .inr (.inr (68, 0))]), σ)) rfl ?_
  obtain ⟨hc, h⟩ := ite_nn h
  refine Wp.X_rld4 (WpD.mono _) rfl rfl hc ?_
  show Wp (WpD (e + 0)) hcX10_write Q (64, [some (.inr (.inr (5, 0))), some (.inl a1), some (.inl a2), some (.inl a3)], [.inr (.inr (69, (a1).toNatClampNeg))]) σ
  refine Wp.run (WpD.mono _) 1 (q := ((66, [some (.inr (.inr (5, 0))), some (.inl a1), some (.inl a2), some (.inl a3)], [.inl a3, .inl a2, .inr (.inr (69, (a1).toNatClampNeg))]), σ)) rfl ?_
  obtain ⟨hc, h⟩ := ite_nn h
  refine Wp.X_ist (WpD.mono _) rfl rfl hc ?_
  show Wp (WpD (e + 0)) hcX10_write Q (67, [some (.inr (.inr (5, 0))), some (.inl a1), some (.inl a2), some (.inl a3)], []) (σ.1, σ.2.1, (hwU3 σ.2.2.1 69 (a1).toNatClampNeg (a2).toNatClampNeg a3), σ.2.2.2.1, σ.2.2.2.2)
  obtain ⟨rfl, rfl⟩ := ret_inj h
  exact Wp.ret (WpD.mono _) rfl hQ

set_option maxRecDepth 100000 in
set_option maxHeartbeats 4000000 in
theorem T_X11_isLayer (e N : Nat)  (a1 : Int32) (σ : Mem) (r : Int32) (τ : Mem) (Q : Pst) (h : F_X11_isLayer N a1 σ = some (r, τ)) (hQ : Q (some (.inl r)) τ) : WpD (e + 2) mX11_isLayer [.inr (.inr (0, 0)), .inl a1] σ Q := by
  refine WpD.of (d := e + 1) (Nat.le_of_ble_eq_true rfl) (Nat.le_of_ble_eq_true rfl) ?_
  show Wp (WpD (e + 1)) hcX11_isLayer Q (0, [some (.inr (.inr (0, 0))), some (.inl a1)], []) σ
  unfold F_X11_isLayer at h
  refine Wp.run (WpD.mono _) 6 (q := ((11, [some (.inr (.inr (0, 0))), some (.inl a1)], [.inl ((σ.1 1 6) - (1 : Int32)), .inl (0 : Int32), .inl a1]), σ)) rfl ?_
  obtain ⟨q1, hb, h⟩ := bind_some h
  refine Wp.call (WpD.mono _) rfl (T_X11_within (e + 0) N a1 (0 : Int32) ((σ.1 1 6) - (1 : Int32)) σ _ _ _ hb ?_)
  show Wp (WpD (e + 1)) hcX11_isLayer Q (14, [some (.inr (.inr (0, 0))), some (.inl a1)], [.inl q1.1]) q1.2
  obtain ⟨hc, h⟩ := ite_yy h
  obtain ⟨rfl, rfl⟩ := ret_inj h
  exact Wp.retZ (WpD.mono _) rfl hc hQ

set_option maxRecDepth 100000 in
set_option maxHeartbeats 4000000 in
theorem T_X11_asks (e N : Nat)  (a1 : Int32) (a2 : Int32) (a3 : Int32) (a4 : Int32) (σ : Mem) (r : Int32) (τ : Mem) (Q : Pst) (h : F_X11_asks N a1 a2 a3 a4 σ = some (r, τ)) (hQ : Q (some (.inl r)) τ) : WpD (e + 3) mX11_asks [.inr (.inr (0, 0)), .inl a1, .inl a2, .inl a3, .inl a4] σ Q := by
  refine WpD.of (d := e + 2) (Nat.le_of_ble_eq_true rfl) (Nat.le_of_ble_eq_true rfl) ?_
  show Wp (WpD (e + 2)) hcX11_asks Q (0, [some (.inr (.inr (0, 0))), some (.inl a1), some (.inl a2), some (.inl a3), some (.inl a4)], []) σ
  unfold F_X11_asks at h
  refine Wp.run (WpD.mono _) 2 (q := ((3, [some (.inr (.inr (0, 0))), some (.inl a1), some (.inl a2), some (.inl a3), some (.inl a4)], [.inl (2 : Int32), .inl (0 : Int32), .inl a1]), σ)) rfl ?_
  obtain ⟨q1, hb, h⟩ := bind_some h
  refine Wp.call (WpD.mono _) rfl (T_X11_within (e + 1) N a1 (0 : Int32) (2 : Int32) σ _ _ _ hb ?_)
  show Wp (WpD (e + 2)) hcX11_asks Q (6, [some (.inr (.inr (0, 0))), some (.inl a1), some (.inl a2), some (.inl a3), some (.inl a4)], [.inl q1.1]) q1.2
  refine Wp.if0_eq (WpD.mono _) rfl rfl (fun hc => ?_) (fun hc => ?_)
  · have h := (if_pos hc).symm.trans h
    show Wp (WpD (e + 2)) hcX11_asks Q (28, [some (.inr (.inr (0, 0))), some (.inl a1), some (.inl a2), some (.inl a3), some (.inl a4)], []) q1.2
    refine Wp.run (WpD.mono _) 0 (q := ((30, [none, none, none, none, none], [.inl (Int32.ofInt (-2))]), q1.2)) rfl ?_
    obtain ⟨rfl, rfl⟩ := ret_inj h
    exact Wp.ret (WpD.mono _) rfl hQ
  · have h := (if_neg hc).symm.trans h
    show Wp (WpD (e + 2)) hcX11_asks Q (9, [some (.inr (.inr (0, 0))), some (.inl a1), some (.inl a2), some (.inl a3), some (.inl a4)], []) q1.2
    refine Wp.run (WpD.mono _) 2 (q := ((12, [some (.inr (.inr (0, 0))), some (.inl a1), some (.inl a2), some (.inl a3), some (.inl a4)], [.inl (5 : Int32), .inl (1 : Int32), .inl a2]), q1.2)) rfl ?_
    obtain ⟨q2, hb, h⟩ := bind_some h
    refine Wp.call (WpD.mono _) rfl (T_X11_within (e + 1) N a2 (1 : Int32) (5 : Int32) q1.2 _ _ _ hb ?_)
    show Wp (WpD (e + 2)) hcX11_asks Q (15, [some (.inr (.inr (0, 0))), some (.inl a1), some (.inl a2), some (.inl a3), some (.inl a4)], [.inl q2.1]) q2.2
    refine Wp.if0_eq (WpD.mono _) rfl rfl (fun hc => ?_) (fun hc => ?_)
    · have h := (if_pos hc).symm.trans h
      show Wp (WpD (e + 2)) hcX11_asks Q (28, [some (.inr (.inr (0, 0))), some (.inl a1), some (.inl a2), some (.inl a3), some (.inl a4)], []) q2.2
      refine Wp.run (WpD.mono _) 0 (q := ((30, [none, none, none, none, none], [.inl (Int32.ofInt (-2))]), q2.2)) rfl ?_
      obtain ⟨rfl, rfl⟩ := ret_inj h
      exact Wp.ret (WpD.mono _) rfl hQ
    · have h := (if_neg hc).symm.trans h
      show Wp (WpD (e + 2)) hcX11_asks Q (18, [some (.inr (.inr (0, 0))), some (.inl a1), some (.inl a2), some (.inl a3), some (.inl a4)], []) q2.2
      refine Wp.run (WpD.mono _) 2 (q := ((22, [some (.inr (.inr (0, 0))), some (.inl a1), some (.inl a2), some (.inl a3), some (.inl a4)], [.inl (1 : Int32), .inl (0 : Int32), .inl a4]), q2.2)) rfl ?_
      obtain ⟨q3, hb, h⟩ := bind_some h
      refine Wp.call (WpD.mono _) rfl (T_X11_within (e + 1) N a4 (0 : Int32) (1 : Int32) q2.2 _ _ _ hb ?_)
      show Wp (WpD (e + 2)) hcX11_asks Q (25, [some (.inr (.inr (0, 0))), some (.inl a1), some (.inl a2), some (.inl a3), some (.inl a4)], [.inl q3.1]) q3.2
      refine Wp.if0_ne (WpD.mono _) rfl rfl (fun hc => ?_) (fun hc => ?_)
      · have h := (if_pos hc).symm.trans h
        show Wp (WpD (e + 2)) hcX11_asks Q (28, [some (.inr (.inr (0, 0))), some (.inl a1), some (.inl a2), some (.inl a3), some (.inl a4)], []) q3.2
        refine Wp.run (WpD.mono _) 0 (q := ((30, [none, none, none, none, none], [.inl (Int32.ofInt (-2))]), q3.2)) rfl ?_
        obtain ⟨rfl, rfl⟩ := ret_inj h
        exact Wp.ret (WpD.mono _) rfl hQ
      · have h := (if_neg hc).symm.trans h
        show Wp (WpD (e + 2)) hcX11_asks Q (31, [some (.inr (.inr (0, 0))), some (.inl a1), some (.inl a2), some (.inl a3), some (.inl a4)], []) q3.2
        refine Wp.run (WpD.mono _) 0 (q := ((32, [some (.inr (.inr (0, 0))), some (.inl a1), some (.inl a2), some (.inl a3), some (.inl a4)], [.inl a1]), q3.2)) rfl ?_
        refine Wp.if0_ne (WpD.mono _) rfl rfl (fun hc => ?_) (fun hc => ?_)
        · have h := (if_pos hc).symm.trans h
          show Wp (WpD (e + 2)) hcX11_asks Q (35, [some (.inr (.inr (0, 0))), some (.inl a1), some (.inl a2), some (.inl a3), some (.inl a4)], []) q3.2
          refine Wp.run (WpD.mono _) 3 (q := ((43, [some (.inr (.inr (0, 0))), some (.inl a1), some (.inl a2), some (.inl a3), some (.inl a4)], [.inl a2, .inr (.inr (42, 0))]), q3.2)) rfl ?_
          obtain ⟨hc, h⟩ := ite_nn h
          refine Wp.X_ild1 (WpD.mono _) rfl rfl hc ?_
          show Wp (WpD (e + 2)) hcX11_asks Q (44, [some (.inr (.inr (0, 0))), some (.inl a1), some (.inl a2), some (.inl a3), some (.inl a4)], [.inl (q3.2.2.2.1 42 0 (a2).toNatClampNeg)]) q3.2
          obtain ⟨rfl, rfl⟩ := ret_inj h
          exact Wp.ret (WpD.mono _) rfl hQ
        · have h := (if_neg hc).symm.trans h
          show Wp (WpD (e + 2)) hcX11_asks Q (45, [some (.inr (.inr (0, 0))), some (.inl a1), some (.inl a2), some (.inl a3), some (.inl a4)], []) q3.2
          refine Wp.run (WpD.mono _) 1 (q := ((47, [some (.inr (.inr (0, 0))), some (.inl a1), some (.inl a2), some (.inl a3), some (.inl a4)], [.inl (2 : Int32), .inl a1]), q3.2)) rfl ?_
          refine Wp.if2_ne (WpD.mono _) rfl rfl (fun hc => ?_) (fun hc => ?_)
          · have h := (if_pos hc).symm.trans h
            show Wp (WpD (e + 2)) hcX11_asks Q (50, [some (.inr (.inr (0, 0))), some (.inl a1), some (.inl a2), some (.inl a3), some (.inl a4)], []) q3.2
            refine Wp.run (WpD.mono _) 3 (q := ((59, [some (.inr (.inr (0, 0))), some (.inl a1), some (.inl a2), some (.inl a3), some (.inl a4)], [.inl a4, .inr (.inr (45, 0))]), q3.2)) rfl ?_
            obtain ⟨hc, h⟩ := ite_nn h
            refine Wp.X_rld4 (WpD.mono _) rfl rfl hc ?_
            show Wp (WpD (e + 2)) hcX11_asks Q (60, [some (.inr (.inr (0, 0))), some (.inl a1), some (.inl a2), some (.inl a3), some (.inl a4)], [.inr (.inr (46, (a4).toNatClampNeg))]) q3.2
            refine Wp.run (WpD.mono _) 0 (q := ((61, [some (.inr (.inr (0, 0))), some (.inl a1), some (.inl a2), some (.inl a3), some (.inl a4)], [.inl a2, .inr (.inr (46, (a4).toNatClampNeg))]), q3.2)) rfl ?_
            obtain ⟨hc, h⟩ := ite_nn h
            refine Wp.X_ild1 (WpD.mono _) rfl rfl hc ?_
            show Wp (WpD (e + 2)) hcX11_asks Q (62, [some (.inr (.inr (0, 0))), some (.inl a1), some (.inl a2), some (.inl a3), some (.inl a4)], [.inl (q3.2.2.2.1 46 (a4).toNatClampNeg (a2).toNatClampNeg)]) q3.2
            obtain ⟨rfl, rfl⟩ := ret_inj h
            exact Wp.ret (WpD.mono _) rfl hQ
          · have h := (if_neg hc).symm.trans h
            show Wp (WpD (e + 2)) hcX11_asks Q (63, [some (.inr (.inr (0, 0))), some (.inl a1), some (.inl a2), some (.inl a3), some (.inl a4)], []) q3.2
            refine Wp.run (WpD.mono _) 1 (q := ((65, [some (.inr (.inr (0, 0))), some (.inl a1), some (.inl a2), some (.inl a3), some (.inl a4)], [.inl a3, .inr (.inr (0, 0))]), q3.2)) rfl ?_
            obtain ⟨q4, hb, h⟩ := bind_some h
            refine Wp.call (WpD.mono _) rfl (T_X11_isLayer (e + 0) N a3 q3.2 _ _ _ hb ?_)
            show Wp (WpD (e + 2)) hcX11_asks Q (68, [some (.inr (.inr (0, 0))), some (.inl a1), some (.inl a2), some (.inl a3), some (.inl a4)], [.inl q4.1]) q4.2
            refine Wp.if0_eq (WpD.mono _) rfl rfl (fun hc => ?_) (fun hc => ?_)
            · have h := (if_pos hc).symm.trans h
              show Wp (WpD (e + 2)) hcX11_asks Q (85, [some (.inr (.inr (0, 0))), some (.inl a1), some (.inl a2), some (.inl a3), some (.inl a4)], []) q4.2
              refine Wp.run (WpD.mono _) 0 (q := ((87, [some (.inr (.inr (0, 0))), some (.inl a1), some (.inl a2), some (.inl a3), some (.inl a4)], [.inl (Int32.ofInt (-5))]), q4.2)) rfl ?_
              obtain ⟨rfl, rfl⟩ := ret_inj h
              exact Wp.ret (WpD.mono _) rfl hQ
            · have h := (if_neg hc).symm.trans h
              show Wp (WpD (e + 2)) hcX11_asks Q (71, [some (.inr (.inr (0, 0))), some (.inl a1), some (.inl a2), some (.inl a3), some (.inl a4)], []) q4.2
              refine Wp.run (WpD.mono _) 3 (q := ((79, [some (.inr (.inr (0, 0))), some (.inl a1), some (.inl a2), some (.inl a3), some (.inl a4)], [.inl a2, .inr (.inr (43, 0))]), q4.2)) rfl ?_
              obtain ⟨hc, h⟩ := ite_nn h
              refine Wp.X_rld4 (WpD.mono _) rfl rfl hc ?_
              show Wp (WpD (e + 2)) hcX11_asks Q (80, [some (.inr (.inr (0, 0))), some (.inl a1), some (.inl a2), some (.inl a3), some (.inl a4)], [.inr (.inr (44, (a2).toNatClampNeg))]) q4.2
              refine Wp.run (WpD.mono _) 0 (q := ((81, [some (.inr (.inr (0, 0))), some (.inl a1), some (.inl a2), some (.inl a3), some (.inl a4)], [.inl a3, .inr (.inr (44, (a2).toNatClampNeg))]), q4.2)) rfl ?_
              obtain ⟨hc, h⟩ := ite_nn h
              refine Wp.X_ild1 (WpD.mono _) rfl rfl hc ?_
              show Wp (WpD (e + 2)) hcX11_asks Q (82, [some (.inr (.inr (0, 0))), some (.inl a1), some (.inl a2), some (.inl a3), some (.inl a4)], [.inl (q4.2.2.2.1 44 (a2).toNatClampNeg (a3).toNatClampNeg)]) q4.2
              refine Wp.run (WpD.mono _) 0 (q := ((87, [some (.inr (.inr (0, 0))), some (.inl a1), some (.inl a2), some (.inl a3), some (.inl a4)], [.inl (q4.2.2.2.1 44 (a2).toNatClampNeg (a3).toNatClampNeg)]), q4.2)) rfl ?_
              obtain ⟨rfl, rfl⟩ := ret_inj h
              exact Wp.ret (WpD.mono _) rfl hQ

set_option maxRecDepth 100000 in
set_option maxHeartbeats 4000000 in
theorem T_X11_isPlace (e N : Nat)  (a1 : Int32) (σ : Mem) (r : Int32) (τ : Mem) (Q : Pst) (h : F_X11_isPlace N a1 σ = some (r, τ)) (hQ : Q (some (.inl r)) τ) : WpD (e + 2) mX11_isPlace [.inr (.inr (0, 0)), .inl a1] σ Q := by
  refine WpD.of (d := e + 1) (Nat.le_of_ble_eq_true rfl) (Nat.le_of_ble_eq_true rfl) ?_
  show Wp (WpD (e + 1)) hcX11_isPlace Q (0, [some (.inr (.inr (0, 0))), some (.inl a1)], []) σ
  unfold F_X11_isPlace at h
  refine Wp.run (WpD.mono _) 6 (q := ((11, [some (.inr (.inr (0, 0))), some (.inl a1)], [.inl ((σ.1 4 5) - (1 : Int32)), .inl (0 : Int32), .inl a1]), σ)) rfl ?_
  obtain ⟨q1, hb, h⟩ := bind_some h
  refine Wp.call (WpD.mono _) rfl (T_X11_within (e + 0) N a1 (0 : Int32) ((σ.1 4 5) - (1 : Int32)) σ _ _ _ hb ?_)
  show Wp (WpD (e + 1)) hcX11_isPlace Q (14, [some (.inr (.inr (0, 0))), some (.inl a1)], [.inl q1.1]) q1.2
  obtain ⟨hc, h⟩ := ite_yy h
  obtain ⟨rfl, rfl⟩ := ret_inj h
  exact Wp.retZ (WpD.mono _) rfl hc hQ

set_option maxRecDepth 100000 in
set_option maxHeartbeats 4000000 in
theorem T_X7_signOf (e N : Nat)  (a1 : Int32) (a2 : Int32) (σ : Mem) (r : Int32) (τ : Mem) (Q : Pst) (h : F_X7_signOf N a1 a2 σ = some (r, τ)) (hQ : Q (some (.inl r)) τ) : WpD (e + 1) mX7_signOf [.inr (.inr (4, 0)), .inl a1, .inl a2] σ Q := by
  refine WpD.of (d := e + 0) (Nat.le_of_ble_eq_true rfl) (Nat.le_of_ble_eq_true rfl) ?_
  show Wp (WpD (e + 0)) hcX7_signOf Q (0, [some (.inr (.inr (4, 0))), some (.inl a1), some (.inl a2)], []) σ
  unfold F_X7_signOf at h
  refine Wp.run (WpD.mono _) 1 (q := ((2, [some (.inr (.inr (4, 0))), some (.inl a1), some (.inl a2)], [.inl (1 : Int32), .inl a2]), σ)) rfl ?_
  refine Wp.if2_lt (WpD.mono _) rfl rfl (fun hc => ?_) (fun hc => ?_)
  · have h := (if_pos hc).symm.trans h
    show Wp (WpD (e + 0)) hcX7_signOf Q (28, [some (.inr (.inr (4, 0))), some (.inl a1), some (.inl a2)], []) σ
    refine Wp.run (WpD.mono _) 0 (q := ((29, [none, none, none], [.inl (Int32.ofInt (-1))]), σ)) rfl ?_
    obtain ⟨rfl, rfl⟩ := ret_inj h
    exact Wp.ret (WpD.mono _) rfl hQ
  · have h := (if_neg hc).symm.trans h
    show Wp (WpD (e + 0)) hcX7_signOf Q (5, [some (.inr (.inr (4, 0))), some (.inl a1), some (.inl a2)], []) σ
    refine Wp.run (WpD.mono _) 3 (q := ((11, [some (.inr (.inr (4, 0))), some (.inl a1), some (.inl a2)], [.inl a1, .inr (.inr (58, 0)), .inl a2]), σ)) rfl ?_
    obtain ⟨hc, h⟩ := ite_nn h
    refine Wp.X_ild1 (WpD.mono _) rfl rfl hc ?_
    show Wp (WpD (e + 0)) hcX7_signOf Q (12, [some (.inr (.inr (4, 0))), some (.inl a1), some (.inl a2)], [.inl (σ.2.2.1 58 0 (a1).toNatClampNeg), .inl a2]) σ
    refine Wp.if2_gt (WpD.mono _) rfl rfl (fun hc => ?_) (fun hc => ?_)
    · have h := (if_pos hc).symm.trans h
      show Wp (WpD (e + 0)) hcX7_signOf Q (28, [some (.inr (.inr (4, 0))), some (.inl a1), some (.inl a2)], []) σ
      refine Wp.run (WpD.mono _) 0 (q := ((29, [none, none, none], [.inl (Int32.ofInt (-1))]), σ)) rfl ?_
      obtain ⟨rfl, rfl⟩ := ret_inj h
      exact Wp.ret (WpD.mono _) rfl hQ
    · have h := (if_neg hc).symm.trans h
      show Wp (WpD (e + 0)) hcX7_signOf Q (15, [some (.inr (.inr (4, 0))), some (.inl a1), some (.inl a2)], []) σ
      refine Wp.run (WpD.mono _) 2 (q := ((20, [some (.inr (.inr (4, 0))), some (.inl a1), some (.inl a2)], [.inl a1, .inr (.inr (56, 0))]), σ)) rfl ?_
      obtain ⟨hc, h⟩ := ite_nn h
      refine Wp.X_rld4 (WpD.mono _) rfl rfl hc ?_
      show Wp (WpD (e + 0)) hcX7_signOf Q (21, [some (.inr (.inr (4, 0))), some (.inl a1), some (.inl a2)], [.inr (.inr (57, (a1).toNatClampNeg))]) σ
      refine Wp.run (WpD.mono _) 2 (q := ((24, [some (.inr (.inr (4, 0))), some (.inl a1), some (.inl a2)], [.inl (a2 - (1 : Int32)), .inr (.inr (57, (a1).toNatClampNeg))]), σ)) rfl ?_
      obtain ⟨hc, h⟩ := ite_nn h
      refine Wp.X_ild1 (WpD.mono _) rfl rfl hc ?_
      show Wp (WpD (e + 0)) hcX7_signOf Q (25, [some (.inr (.inr (4, 0))), some (.inl a1), some (.inl a2)], [.inl (σ.2.2.1 57 (a1).toNatClampNeg ((a2 - (1 : Int32))).toNatClampNeg)]) σ
      refine Wp.run (WpD.mono _) 0 (q := ((29, [some (.inr (.inr (4, 0))), some (.inl a1), some (.inl a2)], [.inl (σ.2.2.1 57 (a1).toNatClampNeg ((a2 - (1 : Int32))).toNatClampNeg)]), σ)) rfl ?_
      obtain ⟨rfl, rfl⟩ := ret_inj h
      exact Wp.ret (WpD.mono _) rfl hQ

set_option maxRecDepth 100000 in
set_option maxHeartbeats 4000000 in
theorem T_X6_nextYard_b7 (e N : Nat)   (r : Int32) (τ : Mem) (Q : Pst) (hQ : Q (some (.inl r)) τ) : ∀ n, ∀ (x1 : Int32) (x2 : Int32) (σ : Mem), F_X6_nextYard_b7 N n x1 x2 σ = some (r, τ) → Wp (WpD (e + 2)) hcX6_nextYard Q (7, [some (.inr (.inr (8, 0))), some (.inl x1), some (.inl x2)], []) σ := by
  intro n
  induction n with
  | zero => intro x1 x2 σ h; cases h
  | succ n ih =>
    intro x1 x2 σ h
    unfold F_X6_nextYard_b7 at h
    refine Wp.run (WpD.mono _) 4 (q := ((16, [some (.inr (.inr (8, 0))), some (.inl x1), some (.inl x2)], [.inl x1, .inr (.inr (58, 0)), .inl x2]), σ)) rfl ?_
    obtain ⟨hc, h⟩ := ite_nn h
    refine Wp.X_ild1 (WpD.mono _) rfl rfl hc ?_
    show Wp (WpD (e + 2)) hcX6_nextYard Q (17, [some (.inr (.inr (8, 0))), some (.inl x1), some (.inl x2)], [.inl (σ.2.2.1 58 0 (x1).toNatClampNeg), .inl x2]) σ
    refine Wp.if2_gt (WpD.mono _) rfl rfl (fun hc => ?_) (fun hc => ?_)
    · have h := (if_pos hc).symm.trans h
      show Wp (WpD (e + 2)) hcX6_nextYard Q (47, [some (.inr (.inr (8, 0))), some (.inl x1), some (.inl x2)], []) σ
      refine Wp.run (WpD.mono _) 3 (q := ((55, [some (.inr (.inr (8, 0))), some (.inl x1), some (.inl x2)], [.inl x1, .inr (.inr (58, 0))]), σ)) rfl ?_
      obtain ⟨hc, h⟩ := ite_nn h
      refine Wp.X_ild1 (WpD.mono _) rfl rfl hc ?_
      show Wp (WpD (e + 2)) hcX6_nextYard Q (56, [some (.inr (.inr (8, 0))), some (.inl x1), some (.inl x2)], [.inl (σ.2.2.1 58 0 (x1).toNatClampNeg)]) σ
      refine Wp.run (WpD.mono _) 1 (q := ((58, [some (.inr (.inr (8, 0))), some (.inl x1), some (.inl x2)], [.inl ((σ.2.2.1 58 0 (x1).toNatClampNeg) + (1 : Int32))]), σ)) rfl ?_
      obtain ⟨rfl, rfl⟩ := ret_inj h
      exact Wp.ret (WpD.mono _) rfl hQ
    · have h := (if_neg hc).symm.trans h
      show Wp (WpD (e + 2)) hcX6_nextYard Q (20, [some (.inr (.inr (8, 0))), some (.inl x1), some (.inl x2)], []) σ
      refine Wp.run (WpD.mono _) 5 (q := ((28, [some (.inr (.inr (8, 0))), some (.inl x1), some (.inl x2)], [.inl x2, .inl x1, .inr (.inr (4, 0)), .inl x2, .inr (.inr (8, 0))]), σ)) rfl ?_
      obtain ⟨q2, hb, h⟩ := bind_some h
      refine Wp.call (WpD.mono _) rfl (T_X7_signOf (e + 1) N x1 x2 σ _ _ _ hb ?_)
      show Wp (WpD (e + 2)) hcX6_nextYard Q (31, [some (.inr (.inr (8, 0))), some (.inl x1), some (.inl x2)], [.inl q2.1, .inl x2, .inr (.inr (8, 0))]) q2.2
      obtain ⟨q3, hb, h⟩ := bind_some h
      refine Wp.call (WpD.mono _) rfl (T_X6_pass (e + 0) N x2 q2.1 q2.2 _ _ _ hb ?_)
      show Wp (WpD (e + 2)) hcX6_nextYard Q (34, [some (.inr (.inr (8, 0))), some (.inl x1), some (.inl x2)], [.inr (.inl q3.1)]) q3.2
      refine Wp.run (WpD.mono _) 1 (q := ((36, [some (.inr (.inr (8, 0))), some (.inl x1), some (.inl x2)], [.inl (lg_cmp q3.1 (0 : Int64))]), q3.2)) rfl ?_
      refine Wp.if0_ne (WpD.mono _) rfl rfl (fun hc => ?_) (fun hc => ?_)
      · have h := (if_pos hc).symm.trans h
        show Wp (WpD (e + 2)) hcX6_nextYard Q (39, [some (.inr (.inr (8, 0))), some (.inl x1), some (.inl x2)], []) q3.2
        refine Wp.run (WpD.mono _) 0 (q := ((40, [some (.inr (.inr (8, 0))), some (.inl x1), some (.inl x2)], [.inl (0 : Int32)]), q3.2)) rfl ?_
        obtain ⟨rfl, rfl⟩ := ret_inj h
        exact Wp.ret (WpD.mono _) rfl hQ
      · have h := (if_neg hc).symm.trans h
        show Wp (WpD (e + 2)) hcX6_nextYard Q (41, [some (.inr (.inr (8, 0))), some (.inl x1), some (.inl x2)], []) q3.2
        refine Wp.run (WpD.mono _) 1 (q := ((7, [some (.inr (.inr (8, 0))), some (.inl x1), some (.inl (x2 + (1 : Int32)))], []), q3.2)) rfl ?_
        exact Wp.jump (WpD.mono _) rfl (ih x1 (x2 + (1 : Int32)) q3.2 h)

set_option maxRecDepth 100000 in
set_option maxHeartbeats 4000000 in
theorem T_X6_nextYard (e N : Nat)  (a1 : Int32) (σ : Mem) (r : Int32) (τ : Mem) (Q : Pst) (h : F_X6_nextYard N a1 σ = some (r, τ)) (hQ : Q (some (.inl r)) τ) : WpD (e + 3) mX6_nextYard [.inr (.inr (8, 0)), .inl a1] σ Q := by
  refine WpD.of (d := e + 2) (Nat.le_of_ble_eq_true rfl) (Nat.le_of_ble_eq_true rfl) ?_
  show Wp (WpD (e + 2)) hcX6_nextYard Q (0, [some (.inr (.inr (8, 0))), some (.inl a1), none], []) σ
  unfold F_X6_nextYard at h
  refine Wp.run (WpD.mono _) 1 (q := ((2, [some (.inr (.inr (8, 0))), some (.inl a1), none], [.inl a1, .inr (.inr (8, 0))]), σ)) rfl ?_
  obtain ⟨q1, hb, h⟩ := bind_some h
  refine Wp.call (WpD.mono _) rfl (T_X6_begin (e + 0) N a1 σ _ _ _ hb ?_)
  show Wp (WpD (e + 2)) hcX6_nextYard Q (5, [some (.inr (.inr (8, 0))), some (.inl a1), none], []) q1.2
  refine Wp.run (WpD.mono _) 1 (q := ((7, [some (.inr (.inr (8, 0))), some (.inl a1), some (.inl (1 : Int32))], []), q1.2)) rfl ?_
  exact Wp.jump (WpD.mono _) rfl ((T_X6_nextYard_b7 e N  r τ Q hQ  N) a1 (1 : Int32) q1.2 h)

set_option maxRecDepth 100000 in
set_option maxHeartbeats 4000000 in
theorem T_X6_openYard (e N : Nat)  (a1 : Int32) (σ : Mem) (r : Int32) (τ : Mem) (Q : Pst) (h : F_X6_openYard N a1 σ = some (r, τ)) (hQ : Q (some (.inl r)) τ) : WpD (e + 4) mX6_openYard [.inr (.inr (8, 0)), .inl a1] σ Q := by
  refine WpD.of (d := e + 3) (Nat.le_of_ble_eq_true rfl) (Nat.le_of_ble_eq_true rfl) ?_
  show Wp (WpD (e + 3)) hcX6_openYard Q (0, [some (.inr (.inr (8, 0))), some (.inl a1)], []) σ
  unfold F_X6_openYard at h
  refine Wp.run (WpD.mono _) 3 (q := ((8, [some (.inr (.inr (8, 0))), some (.inl a1)], [.inl a1, .inr (.inr (59, 0))]), σ)) rfl ?_
  obtain ⟨hc, h⟩ := ite_nn h
  refine Wp.X_zld (WpD.mono _) rfl rfl hc ?_
  show Wp (WpD (e + 3)) hcX6_openYard Q (9, [some (.inr (.inr (8, 0))), some (.inl a1)], [.inl (σ.2.2.1 59 0 (a1).toNatClampNeg)]) σ
  refine Wp.if0_eq (WpD.mono _) rfl rfl (fun hc => ?_) (fun hc => ?_)
  · have h := (if_pos hc).symm.trans h
    show Wp (WpD (e + 3)) hcX6_openYard Q (16, [some (.inr (.inr (8, 0))), some (.inl a1)], []) σ
    refine Wp.run (WpD.mono _) 1 (q := ((18, [some (.inr (.inr (8, 0))), some (.inl a1)], [.inl a1, .inr (.inr (8, 0))]), σ)) rfl ?_
    obtain ⟨q1, hb, h⟩ := bind_some h
    refine Wp.call (WpD.mono _) rfl (T_X6_nextYard (e + 0) N a1 σ _ _ _ hb ?_)
    show Wp (WpD (e + 3)) hcX6_openYard Q (21, [some (.inr (.inr (8, 0))), some (.inl a1)], [.inl q1.1]) q1.2
    obtain ⟨rfl, rfl⟩ := ret_inj h
    exact Wp.ret (WpD.mono _) rfl hQ
  · have h := (if_neg hc).symm.trans h
    show Wp (WpD (e + 3)) hcX6_openYard Q (12, [some (.inr (.inr (8, 0))), some (.inl a1)], []) σ
    refine Wp.run (WpD.mono _) 1 (q := ((21, [some (.inr (.inr (8, 0))), some (.inl a1)], [.inl (0 : Int32)]), σ)) rfl ?_
    obtain ⟨rfl, rfl⟩ := ret_inj h
    exact Wp.ret (WpD.mono _) rfl hQ

set_option maxRecDepth 100000 in
set_option maxHeartbeats 4000000 in
theorem T_X11_back (e N : Nat)  (a1 : Int32) (σ : Mem) (r : Int32) (τ : Mem) (Q : Pst) (h : F_X11_back N a1 σ = some (r, τ)) (hQ : Q (some (.inl r)) τ) : WpD (e + 13) mX11_back [.inr (.inr (0, 0)), .inl a1] σ Q := by
  refine WpD.of (d := e + 12) (Nat.le_of_ble_eq_true rfl) (Nat.le_of_ble_eq_true rfl) ?_
  show Wp (WpD (e + 12)) hcX11_back Q (0, [some (.inr (.inr (0, 0))), some (.inl a1), none], []) σ
  unfold F_X11_back at h
  refine Wp.run (WpD.mono _) 1 (q := ((2, [some (.inr (.inr (0, 0))), some (.inl a1), none], [.inl a1, .inr (.inr (0, 0))]), σ)) rfl ?_
  obtain ⟨q1, hb, h⟩ := bind_some h
  refine Wp.call (WpD.mono _) rfl (T_X11_isPlace (e + 10) N a1 σ _ _ _ hb ?_)
  show Wp (WpD (e + 12)) hcX11_back Q (5, [some (.inr (.inr (0, 0))), some (.inl a1), none], [.inl q1.1]) q1.2
  refine Wp.if0_ne (WpD.mono _) rfl rfl (fun hc => ?_) (fun hc => ?_)
  · have h := (if_pos hc).symm.trans h
    show Wp (WpD (e + 12)) hcX11_back Q (8, [some (.inr (.inr (0, 0))), some (.inl a1), none], []) q1.2
    refine Wp.run (WpD.mono _) 0 (q := ((9, [some (.inr (.inr (0, 0))), some (.inl a1), none], [.inl (Int32.ofInt (-1))]), q1.2)) rfl ?_
    obtain ⟨rfl, rfl⟩ := ret_inj h
    exact Wp.ret (WpD.mono _) rfl hQ
  · have h := (if_neg hc).symm.trans h
    show Wp (WpD (e + 12)) hcX11_back Q (10, [some (.inr (.inr (0, 0))), some (.inl a1), none], []) q1.2
    refine Wp.run (WpD.mono _) 2 (q := ((15, [some (.inr (.inr (0, 0))), some (.inl a1), none], [.inl a1, .inr (.inr (8, 0))]), q1.2)) rfl ?_
    obtain ⟨q2, hb, h⟩ := bind_some h
    refine Wp.call (WpD.mono _) rfl (T_X6_openYard (e + 8) N a1 q1.2 _ _ _ hb ?_)
    show Wp (WpD (e + 12)) hcX11_back Q (18, [some (.inr (.inr (0, 0))), some (.inl a1), none], [.inl q2.1]) q2.2
    refine Wp.run (WpD.mono _) 1 (q := ((20, [some (.inr (.inr (0, 0))), some (.inl a1), some (.inl q2.1)], [.inl q2.1]), q2.2)) rfl ?_
    refine Wp.if0_ne (WpD.mono _) rfl rfl (fun hc => ?_) (fun hc => ?_)
    · have h := (if_pos hc).symm.trans h
      show Wp (WpD (e + 12)) hcX11_back Q (23, [some (.inr (.inr (0, 0))), some (.inl a1), some (.inl q2.1)], []) q2.2
      refine Wp.run (WpD.mono _) 0 (q := ((25, [some (.inr (.inr (0, 0))), some (.inl a1), some (.inl q2.1)], [.inl (Int32.ofInt (-3))]), q2.2)) rfl ?_
      obtain ⟨rfl, rfl⟩ := ret_inj h
      exact Wp.ret (WpD.mono _) rfl hQ
    · have h := (if_neg hc).symm.trans h
      show Wp (WpD (e + 12)) hcX11_back Q (26, [some (.inr (.inr (0, 0))), some (.inl a1), some (.inl q2.1)], []) q2.2
      refine Wp.run (WpD.mono _) 4 (q := ((35, [some (.inr (.inr (0, 0))), some (.inl a1), some (.inl q2.1)], [.inr (.inr (1, 0)), .inl q2.1, .inr (.inr (8, 0))]), q2.2)) rfl ?_
      obtain ⟨q3, hb, h⟩ := bind_some h
      refine Wp.call (WpD.mono _) rfl (T_X2_worth (e + 11) N q2.2 _ _ _ hb ?_)
      show Wp (WpD (e + 12)) hcX11_back Q (38, [some (.inr (.inr (0, 0))), some (.inl a1), some (.inl q2.1)], [.inl q3.1, .inl q2.1, .inr (.inr (8, 0))]) q3.2
      obtain ⟨q4, hb, h⟩ := bind_some h
      refine Wp.call (WpD.mono _) rfl (T_X6_goingOn (e + 0) N q2.1 q3.1 q3.2 _ _ _ hb ?_)
      show Wp (WpD (e + 12)) hcX11_back Q (41, [some (.inr (.inr (0, 0))), some (.inl a1), some (.inl q2.1)], [.inr (.inl q4.1)]) q4.2
      refine Wp.run (WpD.mono _) 1 (q := ((43, [some (.inr (.inr (0, 0))), some (.inl a1), some (.inl q2.1)], [.inl (lg_cmp q4.1 (0 : Int64))]), q4.2)) rfl ?_
      refine Wp.if0_le (WpD.mono _) rfl rfl (fun hc => ?_) (fun hc => ?_)
      · have h := (if_pos hc).symm.trans h
        show Wp (WpD (e + 12)) hcX11_back Q (50, [some (.inr (.inr (0, 0))), some (.inl a1), some (.inl q2.1)], []) q4.2
        refine Wp.run (WpD.mono _) 0 (q := ((51, [some (.inr (.inr (0, 0))), some (.inl a1), some (.inl q2.1)], [.inl (0 : Int32)]), q4.2)) rfl ?_
        obtain ⟨rfl, rfl⟩ := ret_inj h
        exact Wp.ret (WpD.mono _) rfl hQ
      · have h := (if_neg hc).symm.trans h
        show Wp (WpD (e + 12)) hcX11_back Q (46, [some (.inr (.inr (0, 0))), some (.inl a1), some (.inl q2.1)], []) q4.2
        refine Wp.run (WpD.mono _) 1 (q := ((51, [some (.inr (.inr (0, 0))), some (.inl a1), some (.inl q2.1)], [.inl (1 : Int32)]), q4.2)) rfl ?_
        obtain ⟨rfl, rfl⟩ := ret_inj h
        exact Wp.ret (WpD.mono _) rfl hQ


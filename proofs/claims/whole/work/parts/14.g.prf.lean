set_option maxRecDepth 100000 in
set_option maxHeartbeats 4000000 in
theorem T_X12_costsTo_b4 (e N : Nat)   (r : Int32) (τ : Mem) (Q : Pst) (hQ : Q (some (.inl r)) τ) : ∀ n, ∀ (x1 : Int32) (x2 : Int32) (x3 : Int32) (σ : Mem), F_X12_costsTo_b4 N n x1 x2 x3 σ = some (r, τ) → Wp (WpD (e + 3)) hcX12_costsTo Q (4, [some (.inr (.inr (12, 0))), some (.inl x1), some (.inl x2), some (.inl x3)], []) σ := by
  intro n
  induction n with
  | zero => intro x1 x2 x3 σ h; cases h
  | succ n ih =>
    intro x1 x2 x3 σ h
    unfold F_X12_costsTo_b4 at h
    refine Wp.run (WpD.mono _) 1 (q := ((6, [some (.inr (.inr (12, 0))), some (.inl x1), some (.inl x2), some (.inl x3)], [.inl x1, .inl x3]), σ)) rfl ?_
    refine Wp.if2_gt (WpD.mono _) rfl rfl (fun hc => ?_) (fun hc => ?_)
    · have h := (if_pos hc).symm.trans h
      show Wp (WpD (e + 3)) hcX12_costsTo Q (23, [some (.inr (.inr (12, 0))), some (.inl x1), some (.inl x2), some (.inl x3)], []) σ
      refine Wp.run (WpD.mono _) 0 (q := ((24, [some (.inr (.inr (12, 0))), some (.inl x1), some (.inl x2), some (.inl x3)], [.inl x2]), σ)) rfl ?_
      obtain ⟨rfl, rfl⟩ := ret_inj h
      exact Wp.ret (WpD.mono _) rfl hQ
    · have h := (if_neg hc).symm.trans h
      show Wp (WpD (e + 3)) hcX12_costsTo Q (9, [some (.inr (.inr (12, 0))), some (.inl x1), some (.inl x2), some (.inl x3)], []) σ
      refine Wp.run (WpD.mono _) 2 (q := ((12, [some (.inr (.inr (12, 0))), some (.inl x1), some (.inl x2), some (.inl x3)], [.inl x3, .inr (.inr (12, 0)), .inl x2]), σ)) rfl ?_
      obtain ⟨q1, hb, h⟩ := bind_some h
      refine Wp.call (WpD.mono _) rfl (T_X12_costOf (e + 0) N x3 σ _ _ _ hb ?_)
      show Wp (WpD (e + 3)) hcX12_costsTo Q (15, [some (.inr (.inr (12, 0))), some (.inl x1), some (.inl x2), some (.inl x3)], [.inl q1.1, .inl x2]) q1.2
      refine Wp.run (WpD.mono _) 3 (q := ((4, [some (.inr (.inr (12, 0))), some (.inl x1), some (.inl (x2 + q1.1)), some (.inl (x3 + (1 : Int32)))], []), q1.2)) rfl ?_
      exact Wp.jump (WpD.mono _) rfl (ih x1 (x2 + q1.1) (x3 + (1 : Int32)) q1.2 h)

set_option maxRecDepth 100000 in
set_option maxHeartbeats 4000000 in
theorem T_X12_costsTo (e N : Nat)  (a1 : Int32) (σ : Mem) (r : Int32) (τ : Mem) (Q : Pst) (h : F_X12_costsTo N a1 σ = some (r, τ)) (hQ : Q (some (.inl r)) τ) : WpD (e + 4) mX12_costsTo [.inr (.inr (12, 0)), .inl a1] σ Q := by
  refine WpD.of (d := e + 3) (Nat.le_of_ble_eq_true rfl) (Nat.le_of_ble_eq_true rfl) ?_
  show Wp (WpD (e + 3)) hcX12_costsTo Q (0, [some (.inr (.inr (12, 0))), some (.inl a1), none, none], []) σ
  unfold F_X12_costsTo at h
  refine Wp.run (WpD.mono _) 3 (q := ((4, [some (.inr (.inr (12, 0))), some (.inl a1), some (.inl (0 : Int32)), some (.inl (1 : Int32))], []), σ)) rfl ?_
  exact Wp.jump (WpD.mono _) rfl ((T_X12_costsTo_b4 e N  r τ Q hQ  N) a1 (0 : Int32) (1 : Int32) σ h)

set_option maxRecDepth 100000 in
set_option maxHeartbeats 4000000 in
theorem T_X12_count (e N : Nat)  (a1 : Int32) (σ : Mem) (r : Int32) (τ : Mem) (Q : Pst) (h : F_X12_count N a1 σ = some (r, τ)) (hQ : Q (some (.inl r)) τ) : WpD (e + 1) mX12_count [.inr (.inr (12, 0)), .inl a1] σ Q := by
  refine WpD.of (d := e + 0) (Nat.le_of_ble_eq_true rfl) (Nat.le_of_ble_eq_true rfl) ?_
  show Wp (WpD (e + 0)) hcX12_count Q (0, [some (.inr (.inr (12, 0))), some (.inl a1)], []) σ
  unfold F_X12_count at h
  refine Wp.run (WpD.mono _) 0 (q := ((1, [some (.inr (.inr (12, 0))), some (.inl a1)], [.inl a1]), σ)) rfl ?_
  by_cases hs0 : a1 = 0
  · have h := (if_pos hs0).symm.trans h
    refine Wp.swIn (WpD.mono _) (q := ((64, [some (.inr (.inr (12, 0))), some (.inl a1)], []), σ)) hs0 rfl ?_
    refine Wp.run (WpD.mono _) 1 (q := ((68, [some (.inr (.inr (12, 0))), some (.inl a1)], [.inl (σ.1 12 0)]), σ)) rfl ?_
    obtain ⟨rfl, rfl⟩ := ret_inj h
    exact Wp.ret (WpD.mono _) rfl hQ
  have h := (if_neg hs0).symm.trans h
  by_cases hs1 : a1 = 1
  · have h := (if_pos hs1).symm.trans h
    refine Wp.swIn (WpD.mono _) (q := ((69, [some (.inr (.inr (12, 0))), some (.inl a1)], []), σ)) hs1 rfl ?_
    refine Wp.run (WpD.mono _) 1 (q := ((73, [some (.inr (.inr (12, 0))), some (.inl a1)], [.inl (σ.1 12 1)]), σ)) rfl ?_
    obtain ⟨rfl, rfl⟩ := ret_inj h
    exact Wp.ret (WpD.mono _) rfl hQ
  have h := (if_neg hs1).symm.trans h
  by_cases hs2 : a1 = 2
  · have h := (if_pos hs2).symm.trans h
    refine Wp.swIn (WpD.mono _) (q := ((74, [some (.inr (.inr (12, 0))), some (.inl a1)], []), σ)) hs2 rfl ?_
    refine Wp.run (WpD.mono _) 1 (q := ((78, [some (.inr (.inr (12, 0))), some (.inl a1)], [.inl (σ.1 12 2)]), σ)) rfl ?_
    obtain ⟨rfl, rfl⟩ := ret_inj h
    exact Wp.ret (WpD.mono _) rfl hQ
  have h := (if_neg hs2).symm.trans h
  by_cases hs3 : a1 = 3
  · have h := (if_pos hs3).symm.trans h
    refine Wp.swIn (WpD.mono _) (q := ((79, [some (.inr (.inr (12, 0))), some (.inl a1)], []), σ)) hs3 rfl ?_
    refine Wp.run (WpD.mono _) 1 (q := ((83, [some (.inr (.inr (12, 0))), some (.inl a1)], [.inl (σ.1 12 3)]), σ)) rfl ?_
    obtain ⟨rfl, rfl⟩ := ret_inj h
    exact Wp.ret (WpD.mono _) rfl hQ
  have h := (if_neg hs3).symm.trans h
  by_cases hs4 : a1 = 4
  · have h := (if_pos hs4).symm.trans h
    refine Wp.swIn (WpD.mono _) (q := ((84, [some (.inr (.inr (12, 0))), some (.inl a1)], []), σ)) hs4 rfl ?_
    refine Wp.run (WpD.mono _) 1 (q := ((88, [some (.inr (.inr (12, 0))), some (.inl a1)], [.inl (σ.1 12 4)]), σ)) rfl ?_
    obtain ⟨rfl, rfl⟩ := ret_inj h
    exact Wp.ret (WpD.mono _) rfl hQ
  have h := (if_neg hs4).symm.trans h
  by_cases hs5 : a1 = 5
  · have h := (if_pos hs5).symm.trans h
    refine Wp.swIn (WpD.mono _) (q := ((89, [some (.inr (.inr (12, 0))), some (.inl a1)], []), σ)) hs5 rfl ?_
    refine Wp.run (WpD.mono _) 1 (q := ((93, [some (.inr (.inr (12, 0))), some (.inl a1)], [.inl (σ.1 12 5)]), σ)) rfl ?_
    obtain ⟨rfl, rfl⟩ := ret_inj h
    exact Wp.ret (WpD.mono _) rfl hQ
  have h := (if_neg hs5).symm.trans h
  by_cases hs6 : a1 = 6
  · have h := (if_pos hs6).symm.trans h
    refine Wp.swIn (WpD.mono _) (q := ((94, [some (.inr (.inr (12, 0))), some (.inl a1)], []), σ)) hs6 rfl ?_
    refine Wp.run (WpD.mono _) 1 (q := ((98, [some (.inr (.inr (12, 0))), some (.inl a1)], [.inl (σ.1 12 10)]), σ)) rfl ?_
    obtain ⟨rfl, rfl⟩ := ret_inj h
    exact Wp.ret (WpD.mono _) rfl hQ
  have h := (if_neg hs6).symm.trans h
  by_cases hs7 : a1 = 7
  · have h := (if_pos hs7).symm.trans h
    refine Wp.swIn (WpD.mono _) (q := ((99, [some (.inr (.inr (12, 0))), some (.inl a1)], []), σ)) hs7 rfl ?_
    refine Wp.run (WpD.mono _) 1 (q := ((103, [some (.inr (.inr (12, 0))), some (.inl a1)], [.inl (σ.1 12 16)]), σ)) rfl ?_
    obtain ⟨rfl, rfl⟩ := ret_inj h
    exact Wp.ret (WpD.mono _) rfl hQ
  have h := (if_neg hs7).symm.trans h
  by_cases hs8 : a1 = 8
  · have h := (if_pos hs8).symm.trans h
    refine Wp.swIn (WpD.mono _) (q := ((104, [some (.inr (.inr (12, 0))), some (.inl a1)], []), σ)) hs8 rfl ?_
    refine Wp.run (WpD.mono _) 1 (q := ((108, [some (.inr (.inr (12, 0))), some (.inl a1)], [.inl (σ.1 12 20)]), σ)) rfl ?_
    obtain ⟨rfl, rfl⟩ := ret_inj h
    exact Wp.ret (WpD.mono _) rfl hQ
  have h := (if_neg hs8).symm.trans h
  by_cases hs9 : a1 = 9
  · have h := (if_pos hs9).symm.trans h
    refine Wp.swIn (WpD.mono _) (q := ((109, [some (.inr (.inr (12, 0))), some (.inl a1)], []), σ)) hs9 rfl ?_
    refine Wp.run (WpD.mono _) 1 (q := ((113, [some (.inr (.inr (12, 0))), some (.inl a1)], [.inl (σ.1 12 27)]), σ)) rfl ?_
    obtain ⟨rfl, rfl⟩ := ret_inj h
    exact Wp.ret (WpD.mono _) rfl hQ
  have h := (if_neg hs9).symm.trans h
  by_cases hs10 : a1 = 10
  · have h := (if_pos hs10).symm.trans h
    refine Wp.swIn (WpD.mono _) (q := ((114, [some (.inr (.inr (12, 0))), some (.inl a1)], []), σ)) hs10 rfl ?_
    refine Wp.run (WpD.mono _) 1 (q := ((118, [some (.inr (.inr (12, 0))), some (.inl a1)], [.inl (σ.1 12 28)]), σ)) rfl ?_
    obtain ⟨rfl, rfl⟩ := ret_inj h
    exact Wp.ret (WpD.mono _) rfl hQ
  have h := (if_neg hs10).symm.trans h
  by_cases hs11 : a1 = 11
  · have h := (if_pos hs11).symm.trans h
    refine Wp.swIn (WpD.mono _) (q := ((119, [some (.inr (.inr (12, 0))), some (.inl a1)], []), σ)) hs11 rfl ?_
    refine Wp.run (WpD.mono _) 1 (q := ((123, [some (.inr (.inr (12, 0))), some (.inl a1)], [.inl (σ.1 12 24)]), σ)) rfl ?_
    obtain ⟨rfl, rfl⟩ := ret_inj h
    exact Wp.ret (WpD.mono _) rfl hQ
  have h := (if_neg hs11).symm.trans h
  have ehs0 : ¬ (a1).toInt = 0 := fun z => hs0 (Int32.toInt_inj.mp z)
  have ehs1 : ¬ (a1).toInt = 1 := fun z => hs1 (Int32.toInt_inj.mp z)
  have ehs2 : ¬ (a1).toInt = 2 := fun z => hs2 (Int32.toInt_inj.mp z)
  have ehs3 : ¬ (a1).toInt = 3 := fun z => hs3 (Int32.toInt_inj.mp z)
  have ehs4 : ¬ (a1).toInt = 4 := fun z => hs4 (Int32.toInt_inj.mp z)
  have ehs5 : ¬ (a1).toInt = 5 := fun z => hs5 (Int32.toInt_inj.mp z)
  have ehs6 : ¬ (a1).toInt = 6 := fun z => hs6 (Int32.toInt_inj.mp z)
  have ehs7 : ¬ (a1).toInt = 7 := fun z => hs7 (Int32.toInt_inj.mp z)
  have ehs8 : ¬ (a1).toInt = 8 := fun z => hs8 (Int32.toInt_inj.mp z)
  have ehs9 : ¬ (a1).toInt = 9 := fun z => hs9 (Int32.toInt_inj.mp z)
  have ehs10 : ¬ (a1).toInt = 10 := fun z => hs10 (Int32.toInt_inj.mp z)
  have ehs11 : ¬ (a1).toInt = 11 := fun z => hs11 (Int32.toInt_inj.mp z)
  refine Wp.swOut (WpD.mono _) (q := ((124, [some (.inr (.inr (12, 0))), some (.inl a1)], []), σ)) (o := if (a1).toInt < 0 ∨ 11 < (a1).toInt then some (123) else #[63, 68, 73, 78, 83, 88, 93, 98, 103, 108, 113, 118][((a1).toInt - 0).toNat]?) (o' := some (123)) rfl (if_pos (by omega)) rfl ?_
  refine Wp.run (WpD.mono _) 0 (q := ((126, [some (.inr (.inr (12, 0))), some (.inl a1)], [.inl (Int32.ofInt (-2))]), σ)) rfl ?_
  obtain ⟨rfl, rfl⟩ := ret_inj h
  exact Wp.ret (WpD.mono _) rfl hQ

set_option maxRecDepth 100000 in
set_option maxHeartbeats 4000000 in
theorem T_X12_dig_b89 (e N : Nat)   (r : Int32) (τ : Mem) (Q : Pst) (hQ : Q (some (.inl r)) τ) : ∀ (x1 : Int32) (σ : Mem), F_X12_dig_b89 N x1 σ = some (r, τ) → Wp (WpD (e + 2)) hcX12_dig Q (89, [some (.inr (.inr (12, 0))), some (.inl x1), none], []) σ := by
  intro x1 σ h
  unfold F_X12_dig_b89 at h
  refine Wp.run (WpD.mono _) 2 (q := ((94, [some (.inr (.inr (12, 0))), some (.inl x1), none], [.inl x1, .inr (.inr (77, 0))]), σ)) rfl ?_
  obtain ⟨hc, h⟩ := ite_nn h
  refine Wp.X_ild1 (WpD.mono _) rfl rfl hc ?_
  show Wp (WpD (e + 2)) hcX12_dig Q (95, [some (.inr (.inr (12, 0))), some (.inl x1), none], [.inl (σ.2.2.1 77 0 (x1).toNatClampNeg)]) σ
  obtain ⟨rfl, rfl⟩ := ret_inj h
  exact Wp.ret (WpD.mono _) rfl hQ

set_option maxRecDepth 100000 in
set_option maxHeartbeats 4000000 in
theorem T_X12_dig (e N : Nat)  (a1 : Int32) (a2 : Int32) (σ : Mem) (r : Int32) (τ : Mem) (Q : Pst) (h : F_X12_dig N a1 a2 σ = some (r, τ)) (hQ : Q (some (.inl r)) τ) : WpD (e + 3) mX12_dig [.inr (.inr (12, 0)), .inl a1, .inl a2] σ Q := by
  refine WpD.of (d := e + 2) (Nat.le_of_ble_eq_true rfl) (Nat.le_of_ble_eq_true rfl) ?_
  show Wp (WpD (e + 2)) hcX12_dig Q (0, [some (.inr (.inr (12, 0))), some (.inl a1), some (.inl a2)], []) σ
  unfold F_X12_dig at h
  refine Wp.run (WpD.mono _) 1 (q := ((2, [some (.inr (.inr (12, 0))), some (.inl a1), some (.inl a2)], [.inl a1, .inr (.inr (12, 0))]), σ)) rfl ?_
  obtain ⟨q1, hb, h⟩ := bind_some h
  refine Wp.call (WpD.mono _) rfl (T_X12_isPlace (e + 0) N a1 σ _ _ _ hb ?_)
  show Wp (WpD (e + 2)) hcX12_dig Q (5, [some (.inr (.inr (12, 0))), some (.inl a1), some (.inl a2)], [.inl q1.1]) q1.2
  refine Wp.if0_ne (WpD.mono _) rfl rfl (fun hc => ?_) (fun hc => ?_)
  · have h := (if_pos hc).symm.trans h
    show Wp (WpD (e + 2)) hcX12_dig Q (8, [some (.inr (.inr (12, 0))), some (.inl a1), some (.inl a2)], []) q1.2
    refine Wp.run (WpD.mono _) 0 (q := ((9, [some (.inr (.inr (12, 0))), some (.inl a1), some (.inl a2)], [.inl (Int32.ofInt (-1))]), q1.2)) rfl ?_
    obtain ⟨rfl, rfl⟩ := ret_inj h
    exact Wp.ret (WpD.mono _) rfl hQ
  · have h := (if_neg hc).symm.trans h
    show Wp (WpD (e + 2)) hcX12_dig Q (10, [some (.inr (.inr (12, 0))), some (.inl a1), some (.inl a2)], []) q1.2
    refine Wp.run (WpD.mono _) 2 (q := ((13, [some (.inr (.inr (12, 0))), some (.inl a1), some (.inl a2)], [.inl (3 : Int32), .inl (0 : Int32), .inl a2]), q1.2)) rfl ?_
    obtain ⟨q2, hb, h⟩ := bind_some h
    refine Wp.call (WpD.mono _) rfl (T_X12_in (e + 1) N a2 (0 : Int32) (3 : Int32) q1.2 _ _ _ hb ?_)
    show Wp (WpD (e + 2)) hcX12_dig Q (16, [some (.inr (.inr (12, 0))), some (.inl a1), some (.inl a2)], [.inl q2.1]) q2.2
    refine Wp.if0_ne (WpD.mono _) rfl rfl (fun hc => ?_) (fun hc => ?_)
    · have h := (if_pos hc).symm.trans h
      show Wp (WpD (e + 2)) hcX12_dig Q (19, [some (.inr (.inr (12, 0))), some (.inl a1), some (.inl a2)], []) q2.2
      refine Wp.run (WpD.mono _) 0 (q := ((21, [some (.inr (.inr (12, 0))), some (.inl a1), some (.inl a2)], [.inl (Int32.ofInt (-2))]), q2.2)) rfl ?_
      obtain ⟨rfl, rfl⟩ := ret_inj h
      exact Wp.ret (WpD.mono _) rfl hQ
    · have h := (if_neg hc).symm.trans h
      show Wp (WpD (e + 2)) hcX12_dig Q (22, [some (.inr (.inr (12, 0))), some (.inl a1), some (.inl a2)], []) q2.2
      refine Wp.run (WpD.mono _) 2 (q := ((27, [some (.inr (.inr (12, 0))), some (.inl a1), some (.inl a2)], [.inl a1, .inr (.inr (78, 0))]), q2.2)) rfl ?_
      obtain ⟨hc, h⟩ := ite_nn h
      refine Wp.X_ild1 (WpD.mono _) rfl rfl hc ?_
      show Wp (WpD (e + 2)) hcX12_dig Q (28, [some (.inr (.inr (12, 0))), some (.inl a1), some (.inl a2)], [.inl (q2.2.2.2.1 78 0 (a1).toNatClampNeg)]) q2.2
      refine Wp.run (WpD.mono _) 0 (q := ((29, [some (.inr (.inr (12, 0))), some (.inl a1), some (.inl a2)], [.inl (1 : Int32), .inl (q2.2.2.2.1 78 0 (a1).toNatClampNeg)]), q2.2)) rfl ?_
      refine Wp.if2_eq (WpD.mono _) rfl rfl (fun hc => ?_) (fun hc => ?_)
      · have h := (if_pos hc).symm.trans h
        show Wp (WpD (e + 2)) hcX12_dig Q (45, [some (.inr (.inr (12, 0))), some (.inl a1), some (.inl a2)], []) q2.2
        refine Wp.run (WpD.mono _) 0 (q := ((47, [none, none, none], [.inl (Int32.ofInt (-3))]), q2.2)) rfl ?_
        obtain ⟨rfl, rfl⟩ := ret_inj h
        exact Wp.ret (WpD.mono _) rfl hQ
      · have h := (if_neg hc).symm.trans h
        show Wp (WpD (e + 2)) hcX12_dig Q (32, [some (.inr (.inr (12, 0))), some (.inl a1), some (.inl a2)], []) q2.2
        refine Wp.run (WpD.mono _) 2 (q := ((37, [some (.inr (.inr (12, 0))), some (.inl a1), some (.inl a2)], [.inl a1, .inr (.inr (77, 0))]), q2.2)) rfl ?_
        obtain ⟨hc, h⟩ := ite_nn h
        refine Wp.X_ild1 (WpD.mono _) rfl rfl hc ?_
        show Wp (WpD (e + 2)) hcX12_dig Q (38, [some (.inr (.inr (12, 0))), some (.inl a1), some (.inl a2)], [.inl (q2.2.2.2.1 77 0 (a1).toNatClampNeg)]) q2.2
        refine Wp.run (WpD.mono _) 1 (q := ((42, [some (.inr (.inr (12, 0))), some (.inl a1), some (.inl a2)], [.inl (q2.2.1 12 0), .inl (q2.2.2.2.1 77 0 (a1).toNatClampNeg)]), q2.2)) rfl ?_
        refine Wp.if2_lt (WpD.mono _) rfl rfl (fun hc => ?_) (fun hc => ?_)
        · have h := (if_pos hc).symm.trans h
          show Wp (WpD (e + 2)) hcX12_dig Q (48, [some (.inr (.inr (12, 0))), some (.inl a1), some (.inl a2)], []) q2.2
          refine Wp.run (WpD.mono _) 1 (q := ((50, [some (.inr (.inr (12, 0))), some (.inl a1), some (.inl a2)], [.inl (3 : Int32), .inl a2]), q2.2)) rfl ?_
          refine Wp.if2_ne (WpD.mono _) rfl rfl (fun hc => ?_) (fun hc => ?_)
          · have h := (if_pos hc).symm.trans h
            show Wp (WpD (e + 2)) hcX12_dig Q (53, [some (.inr (.inr (12, 0))), some (.inl a1), some (.inl a2)], []) q2.2
            refine Wp.run (WpD.mono _) 3 (q := ((59, [some (.inr (.inr (12, 0))), some (.inl a1), some (.inl a2)], [.inl (1 : Int32), .inl a1, .inr (.inr (78, 0))]), q2.2)) rfl ?_
            obtain ⟨hc, h⟩ := ite_nn h
            refine Wp.X_ist (WpD.mono _) rfl rfl hc ?_
            show Wp (WpD (e + 2)) hcX12_dig Q (60, [some (.inr (.inr (12, 0))), some (.inl a1), some (.inl a2)], []) (q2.2.1, q2.2.2.1, (hwU3 q2.2.2.2.1 78 0 (a1).toNatClampNeg (1 : Int32)), q2.2.2.2.2.1, q2.2.2.2.2.2)
            refine Wp.run (WpD.mono _) 0 (q := ((89, [some (.inr (.inr (12, 0))), some (.inl a1), some (.inl a2)], []), (q2.2.1, q2.2.2.1, (hwU3 q2.2.2.2.1 78 0 (a1).toNatClampNeg (1 : Int32)), q2.2.2.2.2.1, q2.2.2.2.2.2))) rfl ?_
            exact Wp.jump (WpD.mono _) rfl ((T_X12_dig_b89 e N  r τ Q hQ ) a1 (q2.2.1, q2.2.2.1, (hwU3 q2.2.2.2.1 78 0 (a1).toNatClampNeg (1 : Int32)), q2.2.2.2.2.1, q2.2.2.2.2.2) h)
          · have h := (if_neg hc).symm.trans h
            show Wp (WpD (e + 2)) hcX12_dig Q (63, [some (.inr (.inr (12, 0))), some (.inl a1), some (.inl a2)], []) q2.2
            refine Wp.run (WpD.mono _) 7 (q := ((75, [some (.inr (.inr (12, 0))), some (.inl a1), some (.inl a2)], [.inl a1, .inr (.inr (77, 0)), .inl ((5 : Int32) * a1), .inr (.inr (79, 0))]), q2.2)) rfl ?_
            obtain ⟨hc, h⟩ := ite_nn h
            refine Wp.X_ild1 (WpD.mono _) rfl rfl hc ?_
            show Wp (WpD (e + 2)) hcX12_dig Q (76, [some (.inr (.inr (12, 0))), some (.inl a1), some (.inl a2)], [.inl (q2.2.2.2.1 77 0 (a1).toNatClampNeg), .inl ((5 : Int32) * a1), .inr (.inr (79, 0))]) q2.2
            refine Wp.run (WpD.mono _) 1 (q := ((78, [some (.inr (.inr (12, 0))), some (.inl a1), some (.inl a2)], [.inl a2, .inl (((5 : Int32) * a1) + (q2.2.2.2.1 77 0 (a1).toNatClampNeg)), .inr (.inr (79, 0))]), q2.2)) rfl ?_
            obtain ⟨hc, h⟩ := ite_nn h
            refine Wp.X_ist (WpD.mono _) rfl rfl hc ?_
            show Wp (WpD (e + 2)) hcX12_dig Q (79, [some (.inr (.inr (12, 0))), some (.inl a1), some (.inl a2)], []) (q2.2.1, q2.2.2.1, (hwU3 q2.2.2.2.1 79 0 ((((5 : Int32) * a1) + (q2.2.2.2.1 77 0 (a1).toNatClampNeg))).toNatClampNeg a2), q2.2.2.2.2.1, q2.2.2.2.2.2)
            refine Wp.run (WpD.mono _) 3 (q := ((85, [some (.inr (.inr (12, 0))), some (.inl a1), some (.inl a2)], [.inl a1, .inr (.inr (77, 0)), .inl a1, .inr (.inr (77, 0))]), (q2.2.1, q2.2.2.1, (hwU3 q2.2.2.2.1 79 0 ((((5 : Int32) * a1) + (q2.2.2.2.1 77 0 (a1).toNatClampNeg))).toNatClampNeg a2), q2.2.2.2.2.1, q2.2.2.2.2.2))) rfl ?_
            obtain ⟨hc, h⟩ := ite_nn h
            refine Wp.X_ild1 (WpD.mono _) rfl rfl hc ?_
            show Wp (WpD (e + 2)) hcX12_dig Q (86, [some (.inr (.inr (12, 0))), some (.inl a1), some (.inl a2)], [.inl (q2.2.2.2.1 77 0 (a1).toNatClampNeg), .inl a1, .inr (.inr (77, 0))]) (q2.2.1, q2.2.2.1, (hwU3 q2.2.2.2.1 79 0 ((((5 : Int32) * a1) + (q2.2.2.2.1 77 0 (a1).toNatClampNeg))).toNatClampNeg a2), q2.2.2.2.2.1, q2.2.2.2.2.2)
            refine Wp.run (WpD.mono _) 1 (q := ((88, [some (.inr (.inr (12, 0))), some (.inl a1), some (.inl a2)], [.inl ((q2.2.2.2.1 77 0 (a1).toNatClampNeg) + (1 : Int32)), .inl a1, .inr (.inr (77, 0))]), (q2.2.1, q2.2.2.1, (hwU3 q2.2.2.2.1 79 0 ((((5 : Int32) * a1) + (q2.2.2.2.1 77 0 (a1).toNatClampNeg))).toNatClampNeg a2), q2.2.2.2.2.1, q2.2.2.2.2.2))) rfl ?_
            obtain ⟨hc, h⟩ := ite_nn h
            refine Wp.X_ist (WpD.mono _) rfl rfl hc ?_
            show Wp (WpD (e + 2)) hcX12_dig Q (89, [some (.inr (.inr (12, 0))), some (.inl a1), some (.inl a2)], []) (q2.2.1, q2.2.2.1, (hwU3 (hwU3 q2.2.2.2.1 79 0 ((((5 : Int32) * a1) + (q2.2.2.2.1 77 0 (a1).toNatClampNeg))).toNatClampNeg a2) 77 0 (a1).toNatClampNeg ((q2.2.2.2.1 77 0 (a1).toNatClampNeg) + (1 : Int32))), q2.2.2.2.2.1, q2.2.2.2.2.2)
            exact Wp.jump (WpD.mono _) rfl ((T_X12_dig_b89 e N  r τ Q hQ ) a1 (q2.2.1, q2.2.2.1, (hwU3 (hwU3 q2.2.2.2.1 79 0 ((((5 : Int32) * a1) + (q2.2.2.2.1 77 0 (a1).toNatClampNeg))).toNatClampNeg a2) 77 0 (a1).toNatClampNeg ((q2.2.2.2.1 77 0 (a1).toNatClampNeg) + (1 : Int32))), q2.2.2.2.2.1, q2.2.2.2.2.2) h)
        · have h := (if_neg hc).symm.trans h
          show Wp (WpD (e + 2)) hcX12_dig Q (45, [some (.inr (.inr (12, 0))), some (.inl a1), some (.inl a2)], []) q2.2
          refine Wp.run (WpD.mono _) 0 (q := ((47, [none, none, none], [.inl (Int32.ofInt (-3))]), q2.2)) rfl ?_
          obtain ⟨rfl, rfl⟩ := ret_inj h
          exact Wp.ret (WpD.mono _) rfl hQ

set_option maxRecDepth 100000 in
set_option maxHeartbeats 4000000 in
theorem T_X12_doesDig_b50 (e N : Nat)  (k55 : Int32 → Int32 → Int32 → Int32 → Int32 → Mem → Option (Int32 × Mem)) (r : Int32) (τ : Mem) (Q : Pst) (hQ : Q (some (.inl r)) τ) (hk55 : ∀ (x1 : Int32) (x2 : Int32) (x4 : Int32) (x5 : Int32) (s0 : Int32) (σ : Mem), k55 x1 x2 x4 x5 s0 σ = some (r, τ) → Wp (WpD (e + 24)) hcX12_doesDig Q (55, [some (.inr (.inr (12, 0))), some (.inl x1), some (.inl x2), none, some (.inl x4), some (.inl x5), none], [.inl s0]) σ) : ∀ (x1 : Int32) (x2 : Int32) (x4 : Int32) (x5 : Int32) (σ : Mem), F_X12_doesDig_b50 N k55 x1 x2 x4 x5 σ = some (r, τ) → Wp (WpD (e + 24)) hcX12_doesDig Q (50, [some (.inr (.inr (12, 0))), some (.inl x1), some (.inl x2), none, some (.inl x4), some (.inl x5), none], []) σ := by
  intro x1 x2 x4 x5 σ h
  unfold F_X12_doesDig_b50 at h
  refine Wp.run (WpD.mono _) 1 (q := ((55, [some (.inr (.inr (12, 0))), some (.inl x1), some (.inl x2), none, some (.inl x4), some (.inl x5), none], [.inl (1 : Int32)]), σ)) rfl ?_
  exact Wp.jump (WpD.mono _) rfl (hk55 x1 x2 x4 x5 (1 : Int32) σ h)

set_option maxRecDepth 100000 in
set_option maxHeartbeats 4000000 in
theorem T_X12_doesDig_b55 (e N : Nat)   (r : Int32) (τ : Mem) (Q : Pst) (hQ : Q (some (.inl r)) τ) : ∀ (x1 : Int32) (x2 : Int32) (x4 : Int32) (x5 : Int32) (s0 : Int32) (σ : Mem), F_X12_doesDig_b55 N x1 x2 x4 x5 s0 σ = some (r, τ) → Wp (WpD (e + 24)) hcX12_doesDig Q (55, [some (.inr (.inr (12, 0))), some (.inl x1), some (.inl x2), none, some (.inl x4), some (.inl x5), none], [.inl s0]) σ := by
  intro x1 x2 x4 x5 s0 σ h
  unfold F_X12_doesDig_b55 at h
  refine Wp.run (WpD.mono _) 3 (q := ((62, [some (.inr (.inr (12, 0))), some (.inl x1), some (.inl x2), none, some (.inl x4), some (.inl x5), some (.inl s0)], [.inl x1, .inr (.inr (81, 0))]), σ)) rfl ?_
  obtain ⟨hc, h⟩ := ite_nn h
  refine Wp.X_ild1 (WpD.mono _) rfl rfl hc ?_
  show Wp (WpD (e + 24)) hcX12_doesDig Q (63, [some (.inr (.inr (12, 0))), some (.inl x1), some (.inl x2), none, some (.inl x4), some (.inl x5), some (.inl s0)], [.inl (σ.2.2.1 81 0 (x1).toNatClampNeg)]) σ
  by_cases hs0 : (σ.2.2.1 81 0 (x1).toNatClampNeg) = 1
  · have h := (if_pos hs0).symm.trans h
    refine Wp.swIn (WpD.mono _) (q := ((96, [some (.inr (.inr (12, 0))), some (.inl x1), some (.inl x2), none, some (.inl x4), some (.inl x5), some (.inl s0)], []), σ)) hs0 rfl ?_
    refine Wp.run (WpD.mono _) 0 (q := ((98, [some (.inr (.inr (12, 0))), some (.inl x1), some (.inl x2), none, some (.inl x4), some (.inl x5), some (.inl s0)], [.inl x5]), σ)) rfl ?_
    obtain ⟨hc, h⟩ := ite_yy h
    obtain ⟨rfl, rfl⟩ := ret_inj h
    exact Wp.retZ (WpD.mono _) rfl hc hQ
  have h := (if_neg hs0).symm.trans h
  by_cases hs1 : (σ.2.2.1 81 0 (x1).toNatClampNeg) = 2
  · have h := (if_pos hs1).symm.trans h
    refine Wp.swIn (WpD.mono _) (q := ((99, [some (.inr (.inr (12, 0))), some (.inl x1), some (.inl x2), none, some (.inl x4), some (.inl x5), some (.inl s0)], []), σ)) hs1 rfl ?_
    refine Wp.run (WpD.mono _) 0 (q := ((101, [some (.inr (.inr (12, 0))), some (.inl x1), some (.inl x2), none, some (.inl x4), some (.inl x5), some (.inl s0)], [.inl s0]), σ)) rfl ?_
    obtain ⟨hc, h⟩ := ite_yy h
    obtain ⟨rfl, rfl⟩ := ret_inj h
    exact Wp.retZ (WpD.mono _) rfl hc hQ
  have h := (if_neg hs1).symm.trans h
  by_cases hs2 : (σ.2.2.1 81 0 (x1).toNatClampNeg) = 3
  · have h := (if_pos hs2).symm.trans h
    refine Wp.swIn (WpD.mono _) (q := ((102, [some (.inr (.inr (12, 0))), some (.inl x1), some (.inl x2), none, some (.inl x4), some (.inl x5), some (.inl s0)], []), σ)) hs2 rfl ?_
    refine Wp.run (WpD.mono _) 4 (q := ((108, [some (.inr (.inr (12, 0))), some (.inl x1), some (.inl x2), none, some (.inl x4), some (.inl x5), some (.inl s0)], [.inl x4, .inl (x2 + (1 : Int32)), .inr (.inr (12, 0))]), σ)) rfl ?_
    obtain ⟨q1, hb, h⟩ := bind_some h
    refine Wp.call (WpD.mono _) rfl (T_X12_goesOn (e + 0) N (x2 + (1 : Int32)) x4 σ _ _ _ hb ?_)
    show Wp (WpD (e + 24)) hcX12_doesDig Q (111, [some (.inr (.inr (12, 0))), some (.inl x1), some (.inl x2), none, some (.inl x4), some (.inl x5), some (.inl s0)], [.inr (.inl q1.1)]) q1.2
    refine Wp.run (WpD.mono _) 1 (q := ((113, [some (.inr (.inr (12, 0))), some (.inl x1), some (.inl x2), none, some (.inl x4), some (.inl x5), some (.inl s0)], [.inl (lg_cmp q1.1 (0 : Int64))]), q1.2)) rfl ?_
    refine Wp.if0_le (WpD.mono _) rfl rfl (fun hc => ?_) (fun hc => ?_)
    · have h := (if_pos hc).symm.trans h
      show Wp (WpD (e + 24)) hcX12_doesDig Q (120, [some (.inr (.inr (12, 0))), some (.inl x1), some (.inl x2), none, some (.inl x4), some (.inl x5), some (.inl s0)], []) q1.2
      refine Wp.run (WpD.mono _) 0 (q := ((121, [some (.inr (.inr (12, 0))), some (.inl x1), some (.inl x2), none, some (.inl x4), some (.inl x5), some (.inl s0)], [.inl (0 : Int32)]), q1.2)) rfl ?_
      obtain ⟨rfl, rfl⟩ := ret_inj h
      exact Wp.ret (WpD.mono _) rfl hQ
    · have h := (if_neg hc).symm.trans h
      show Wp (WpD (e + 24)) hcX12_doesDig Q (116, [some (.inr (.inr (12, 0))), some (.inl x1), some (.inl x2), none, some (.inl x4), some (.inl x5), some (.inl s0)], []) q1.2
      refine Wp.run (WpD.mono _) 1 (q := ((121, [some (.inr (.inr (12, 0))), some (.inl x1), some (.inl x2), none, some (.inl x4), some (.inl x5), some (.inl s0)], [.inl (1 : Int32)]), q1.2)) rfl ?_
      obtain ⟨rfl, rfl⟩ := ret_inj h
      exact Wp.ret (WpD.mono _) rfl hQ
  have h := (if_neg hs2).symm.trans h
  by_cases hs3 : (σ.2.2.1 81 0 (x1).toNatClampNeg) = 4
  · have h := (if_pos hs3).symm.trans h
    refine Wp.swIn (WpD.mono _) (q := ((122, [some (.inr (.inr (12, 0))), some (.inl x1), some (.inl x2), none, some (.inl x4), some (.inl x5), some (.inl s0)], []), σ)) hs3 rfl ?_
    refine Wp.run (WpD.mono _) 0 (q := ((124, [some (.inr (.inr (12, 0))), some (.inl x1), some (.inl x2), none, some (.inl x4), some (.inl x5), some (.inl s0)], [.inl x5]), σ)) rfl ?_
    refine Wp.if0_eq (WpD.mono _) rfl rfl (fun hc => ?_) (fun hc => ?_)
    · have h := (if_pos hc).symm.trans h
      show Wp (WpD (e + 24)) hcX12_doesDig Q (155, [some (.inr (.inr (12, 0))), some (.inl x1), some (.inl x2), none, some (.inl x4), some (.inl x5), some (.inl s0)], []) σ
      refine Wp.run (WpD.mono _) 0 (q := ((156, [none, none, none, none, none, none, none], [.inl (0 : Int32)]), σ)) rfl ?_
      obtain ⟨rfl, rfl⟩ := ret_inj h
      exact Wp.ret (WpD.mono _) rfl hQ
    · have h := (if_neg hc).symm.trans h
      show Wp (WpD (e + 24)) hcX12_doesDig Q (127, [some (.inr (.inr (12, 0))), some (.inl x1), some (.inl x2), none, some (.inl x4), some (.inl x5), some (.inl s0)], []) σ
      refine Wp.run (WpD.mono _) 4 (q := ((133, [some (.inr (.inr (12, 0))), some (.inl x1), some (.inl x2), none, some (.inl x4), some (.inl x5), some (.inl s0)], [.inl (x2 + (1 : Int32)), .inl x4, .inr (.inr (12, 0))]), σ)) rfl ?_
      obtain ⟨q2, hb, h⟩ := bind_some h
      refine Wp.call (WpD.mono _) rfl (T_X12_wetOf (e + 20) N x4 (x2 + (1 : Int32)) σ _ _ _ hb ?_)
      show Wp (WpD (e + 24)) hcX12_doesDig Q (136, [some (.inr (.inr (12, 0))), some (.inl x1), some (.inl x2), none, some (.inl x4), some (.inl x5), some (.inl s0)], [.inr (.inl q2.1)]) q2.2
      refine Wp.run (WpD.mono _) 3 (q := ((144, [some (.inr (.inr (12, 0))), some (.inl x1), some (.inl x2), none, some (.inl x4), some (.inl x5), some (.inl s0)], [.inl x1, .inr (.inr (83, 0)), .inr (.inl (100000 : Int64)), .inr (.inl q2.1)]), q2.2)) rfl ?_
      obtain ⟨hc, h⟩ := ite_nn h
      refine Wp.X_ild1 (WpD.mono _) rfl rfl hc ?_
      show Wp (WpD (e + 24)) hcX12_doesDig Q (145, [some (.inr (.inr (12, 0))), some (.inl x1), some (.inl x2), none, some (.inl x4), some (.inl x5), some (.inl s0)], [.inl (q2.2.2.2.1 83 0 (x1).toNatClampNeg), .inr (.inl (100000 : Int64)), .inr (.inl q2.1)]) q2.2
      refine Wp.run (WpD.mono _) 2 (q := ((148, [some (.inr (.inr (12, 0))), some (.inl x1), some (.inl x2), none, some (.inl x4), some (.inl x5), some (.inl s0)], [.inl (lg_cmp q2.1 ((100000 : Int64) * (q2.2.2.2.1 83 0 (x1).toNatClampNeg).toInt64))]), q2.2)) rfl ?_
      refine Wp.if0_lt (WpD.mono _) rfl rfl (fun hc => ?_) (fun hc => ?_)
      · have h := (if_pos hc).symm.trans h
        show Wp (WpD (e + 24)) hcX12_doesDig Q (155, [some (.inr (.inr (12, 0))), some (.inl x1), some (.inl x2), none, some (.inl x4), some (.inl x5), some (.inl s0)], []) q2.2
        refine Wp.run (WpD.mono _) 0 (q := ((156, [none, none, none, none, none, none, none], [.inl (0 : Int32)]), q2.2)) rfl ?_
        obtain ⟨rfl, rfl⟩ := ret_inj h
        exact Wp.ret (WpD.mono _) rfl hQ
      · have h := (if_neg hc).symm.trans h
        show Wp (WpD (e + 24)) hcX12_doesDig Q (151, [some (.inr (.inr (12, 0))), some (.inl x1), some (.inl x2), none, some (.inl x4), some (.inl x5), some (.inl s0)], []) q2.2
        refine Wp.run (WpD.mono _) 1 (q := ((156, [some (.inr (.inr (12, 0))), some (.inl x1), some (.inl x2), none, some (.inl x4), some (.inl x5), some (.inl s0)], [.inl (1 : Int32)]), q2.2)) rfl ?_
        obtain ⟨rfl, rfl⟩ := ret_inj h
        exact Wp.ret (WpD.mono _) rfl hQ
  have h := (if_neg hs3).symm.trans h
  by_cases hs4 : (σ.2.2.1 81 0 (x1).toNatClampNeg) = 5
  · have h := (if_pos hs4).symm.trans h
    refine Wp.swIn (WpD.mono _) (q := ((157, [some (.inr (.inr (12, 0))), some (.inl x1), some (.inl x2), none, some (.inl x4), some (.inl x5), some (.inl s0)], []), σ)) hs4 rfl ?_
    refine Wp.run (WpD.mono _) 0 (q := ((159, [some (.inr (.inr (12, 0))), some (.inl x1), some (.inl x2), none, some (.inl x4), some (.inl x5), some (.inl s0)], [.inl s0]), σ)) rfl ?_
    refine Wp.if0_ne (WpD.mono _) rfl rfl (fun hc => ?_) (fun hc => ?_)
    · have h := (if_pos hc).symm.trans h
      show Wp (WpD (e + 24)) hcX12_doesDig Q (162, [some (.inr (.inr (12, 0))), some (.inl x1), some (.inl x2), none, some (.inl x4), some (.inl x5), some (.inl s0)], []) σ
      refine Wp.run (WpD.mono _) 1 (q := ((164, [some (.inr (.inr (12, 0))), some (.inl x1), some (.inl x2), none, some (.inl x4), some (.inl x5), some (.inl s0)], [.inl (1 : Int32), .inl x2]), σ)) rfl ?_
      refine Wp.if2_ne (WpD.mono _) rfl rfl (fun hc => ?_) (fun hc => ?_)
      · have h := (if_pos hc).symm.trans h
        show Wp (WpD (e + 24)) hcX12_doesDig Q (167, [some (.inr (.inr (12, 0))), some (.inl x1), some (.inl x2), none, some (.inl x4), some (.inl x5), some (.inl s0)], []) σ
        refine Wp.run (WpD.mono _) 1 (q := ((172, [none, none, none, none, none, none, none], [.inl (1 : Int32)]), σ)) rfl ?_
        obtain ⟨rfl, rfl⟩ := ret_inj h
        exact Wp.ret (WpD.mono _) rfl hQ
      · have h := (if_neg hc).symm.trans h
        show Wp (WpD (e + 24)) hcX12_doesDig Q (171, [some (.inr (.inr (12, 0))), some (.inl x1), some (.inl x2), none, some (.inl x4), some (.inl x5), some (.inl s0)], []) σ
        refine Wp.run (WpD.mono _) 0 (q := ((172, [some (.inr (.inr (12, 0))), some (.inl x1), some (.inl x2), none, some (.inl x4), some (.inl x5), some (.inl s0)], [.inl (0 : Int32)]), σ)) rfl ?_
        obtain ⟨rfl, rfl⟩ := ret_inj h
        exact Wp.ret (WpD.mono _) rfl hQ
    · have h := (if_neg hc).symm.trans h
      show Wp (WpD (e + 24)) hcX12_doesDig Q (167, [some (.inr (.inr (12, 0))), some (.inl x1), some (.inl x2), none, some (.inl x4), some (.inl x5), some (.inl s0)], []) σ
      refine Wp.run (WpD.mono _) 1 (q := ((172, [none, none, none, none, none, none, none], [.inl (1 : Int32)]), σ)) rfl ?_
      obtain ⟨rfl, rfl⟩ := ret_inj h
      exact Wp.ret (WpD.mono _) rfl hQ
  have h := (if_neg hs4).symm.trans h
  have ehs0 : ¬ ((σ.2.2.1 81 0 (x1).toNatClampNeg)).toInt = 1 := fun z => hs0 (Int32.toInt_inj.mp z)
  have ehs1 : ¬ ((σ.2.2.1 81 0 (x1).toNatClampNeg)).toInt = 2 := fun z => hs1 (Int32.toInt_inj.mp z)
  have ehs2 : ¬ ((σ.2.2.1 81 0 (x1).toNatClampNeg)).toInt = 3 := fun z => hs2 (Int32.toInt_inj.mp z)
  have ehs3 : ¬ ((σ.2.2.1 81 0 (x1).toNatClampNeg)).toInt = 4 := fun z => hs3 (Int32.toInt_inj.mp z)
  have ehs4 : ¬ ((σ.2.2.1 81 0 (x1).toNatClampNeg)).toInt = 5 := fun z => hs4 (Int32.toInt_inj.mp z)
  refine Wp.swOut (WpD.mono _) (q := ((173, [some (.inr (.inr (12, 0))), some (.inl x1), some (.inl x2), none, some (.inl x4), some (.inl x5), some (.inl s0)], []), σ)) (o := if ((σ.2.2.1 81 0 (x1).toNatClampNeg)).toInt < 1 ∨ 5 < ((σ.2.2.1 81 0 (x1).toNatClampNeg)).toInt then some (110) else #[33, 36, 39, 59, 94][(((σ.2.2.1 81 0 (x1).toNatClampNeg)).toInt - 1).toNat]?) (o' := some (110)) rfl (if_pos (by omega)) rfl ?_
  refine Wp.run (WpD.mono _) 0 (q := ((174, [some (.inr (.inr (12, 0))), some (.inl x1), some (.inl x2), none, some (.inl x4), some (.inl x5), some (.inl s0)], [.inl (0 : Int32)]), σ)) rfl ?_
  obtain ⟨rfl, rfl⟩ := ret_inj h
  exact Wp.ret (WpD.mono _) rfl hQ

set_option maxRecDepth 100000 in
set_option maxHeartbeats 4000000 in
theorem T_X12_doesDig_b54 (e N : Nat)  (k55 : Int32 → Int32 → Int32 → Int32 → Int32 → Mem → Option (Int32 × Mem)) (r : Int32) (τ : Mem) (Q : Pst) (hQ : Q (some (.inl r)) τ) (hk55 : ∀ (x1 : Int32) (x2 : Int32) (x4 : Int32) (x5 : Int32) (s0 : Int32) (σ : Mem), k55 x1 x2 x4 x5 s0 σ = some (r, τ) → Wp (WpD (e + 24)) hcX12_doesDig Q (55, [some (.inr (.inr (12, 0))), some (.inl x1), some (.inl x2), none, some (.inl x4), some (.inl x5), none], [.inl s0]) σ) : ∀ (x1 : Int32) (x2 : Int32) (x4 : Int32) (x5 : Int32) (σ : Mem), F_X12_doesDig_b54 N k55 x1 x2 x4 x5 σ = some (r, τ) → Wp (WpD (e + 24)) hcX12_doesDig Q (54, [some (.inr (.inr (12, 0))), some (.inl x1), some (.inl x2), none, some (.inl x4), some (.inl x5), none], []) σ := by
  intro x1 x2 x4 x5 σ h
  unfold F_X12_doesDig_b54 at h
  refine Wp.run (WpD.mono _) 0 (q := ((55, [some (.inr (.inr (12, 0))), some (.inl x1), some (.inl x2), none, some (.inl x4), some (.inl x5), none], [.inl (0 : Int32)]), σ)) rfl ?_
  exact Wp.jump (WpD.mono _) rfl (hk55 x1 x2 x4 x5 (0 : Int32) σ h)

set_option maxRecDepth 100000 in
set_option maxHeartbeats 4000000 in
theorem T_X12_doesDig_b25 (e N : Nat)   (r : Int32) (τ : Mem) (Q : Pst) (hQ : Q (some (.inl r)) τ) : ∀ (x1 : Int32) (x2 : Int32) (x3 : Int32) (x4 : Int32) (s0 : Int32) (σ : Mem), F_X12_doesDig_b25 N x1 x2 x3 x4 s0 σ = some (r, τ) → Wp (WpD (e + 24)) hcX12_doesDig Q (25, [some (.inr (.inr (12, 0))), some (.inl x1), some (.inl x2), some (.inl x3), some (.inl x4), none, none], [.inl s0]) σ := by
  intro x1 x2 x3 x4 s0 σ h
  unfold F_X12_doesDig_b25 at h
  refine Wp.run (WpD.mono _) 1 (q := ((29, [some (.inr (.inr (12, 0))), some (.inl x1), some (.inl x2), some (.inl x3), some (.inl x4), some (.inl s0), none], [.inl s0]), σ)) rfl ?_
  refine Wp.if0_eq (WpD.mono _) rfl rfl (fun hc => ?_) (fun hc => ?_)
  · have h := (if_pos hc).symm.trans h
    show Wp (WpD (e + 24)) hcX12_doesDig Q (54, [some (.inr (.inr (12, 0))), some (.inl x1), some (.inl x2), some (.inl x3), some (.inl x4), some (.inl s0), none], []) σ
    exact Wp.jump (WpD.mono _) rfl ((T_X12_doesDig_b54 e N (F_X12_doesDig_b55 N) r τ Q hQ (T_X12_doesDig_b55 e N  r τ Q hQ )) x1 x2 x4 s0 σ h)
  · have h := (if_neg hc).symm.trans h
    show Wp (WpD (e + 24)) hcX12_doesDig Q (32, [some (.inr (.inr (12, 0))), some (.inl x1), some (.inl x2), some (.inl x3), some (.inl x4), some (.inl s0), none], []) σ
    refine Wp.run (WpD.mono _) 1 (q := ((34, [some (.inr (.inr (12, 0))), some (.inl x1), some (.inl x2), some (.inl x3), some (.inl x4), some (.inl s0), none], [.inl (Int32.ofInt (-1)), .inl x3]), σ)) rfl ?_
    refine Wp.if2_eq (WpD.mono _) rfl rfl (fun hc => ?_) (fun hc => ?_)
    · have h := (if_pos hc).symm.trans h
      show Wp (WpD (e + 24)) hcX12_doesDig Q (50, [some (.inr (.inr (12, 0))), some (.inl x1), some (.inl x2), some (.inl x3), some (.inl x4), some (.inl s0), none], []) σ
      exact Wp.jump (WpD.mono _) rfl ((T_X12_doesDig_b50 e N (F_X12_doesDig_b55 N) r τ Q hQ (T_X12_doesDig_b55 e N  r τ Q hQ )) x1 x2 x4 s0 σ h)
    · have h := (if_neg hc).symm.trans h
      show Wp (WpD (e + 24)) hcX12_doesDig Q (37, [some (.inr (.inr (12, 0))), some (.inl x1), some (.inl x2), some (.inl x3), some (.inl x4), some (.inl s0), none], []) σ
      refine Wp.run (WpD.mono _) 2 (q := ((42, [some (.inr (.inr (12, 0))), some (.inl x1), some (.inl x2), some (.inl x3), some (.inl x4), some (.inl s0), none], [.inl x1, .inr (.inr (83, 0))]), σ)) rfl ?_
      obtain ⟨hc, h⟩ := ite_nn h
      refine Wp.X_ild1 (WpD.mono _) rfl rfl hc ?_
      show Wp (WpD (e + 24)) hcX12_doesDig Q (43, [some (.inr (.inr (12, 0))), some (.inl x1), some (.inl x2), some (.inl x3), some (.inl x4), some (.inl s0), none], [.inl (σ.2.2.1 83 0 (x1).toNatClampNeg)]) σ
      refine Wp.run (WpD.mono _) 3 (q := ((47, [some (.inr (.inr (12, 0))), some (.inl x1), some (.inl x2), some (.inl x3), some (.inl x4), some (.inl s0), none], [.inl (((σ.2.2.1 83 0 (x1).toNatClampNeg) >>> (x3 &&& 31)) &&& (1 : Int32))]), σ)) rfl ?_
      refine Wp.if0_ne (WpD.mono _) rfl rfl (fun hc => ?_) (fun hc => ?_)
      · have h := (if_pos hc).symm.trans h
        show Wp (WpD (e + 24)) hcX12_doesDig Q (50, [some (.inr (.inr (12, 0))), some (.inl x1), some (.inl x2), some (.inl x3), some (.inl x4), some (.inl s0), none], []) σ
        exact Wp.jump (WpD.mono _) rfl ((T_X12_doesDig_b50 e N (F_X12_doesDig_b55 N) r τ Q hQ (T_X12_doesDig_b55 e N  r τ Q hQ )) x1 x2 x4 s0 σ h)
      · have h := (if_neg hc).symm.trans h
        show Wp (WpD (e + 24)) hcX12_doesDig Q (54, [some (.inr (.inr (12, 0))), some (.inl x1), some (.inl x2), some (.inl x3), some (.inl x4), some (.inl s0), none], []) σ
        exact Wp.jump (WpD.mono _) rfl ((T_X12_doesDig_b54 e N (F_X12_doesDig_b55 N) r τ Q hQ (T_X12_doesDig_b55 e N  r τ Q hQ )) x1 x2 x4 s0 σ h)

set_option maxRecDepth 100000 in
set_option maxHeartbeats 4000000 in
theorem T_X12_doesDig (e N : Nat)  (a1 : Int32) (a2 : Int32) (a3 : Int32) (a4 : Int32) (σ : Mem) (r : Int32) (τ : Mem) (Q : Pst) (h : F_X12_doesDig N a1 a2 a3 a4 σ = some (r, τ)) (hQ : Q (some (.inl r)) τ) : WpD (e + 25) mX12_doesDig [.inr (.inr (12, 0)), .inl a1, .inl a2, .inl a3, .inl a4] σ Q := by
  refine WpD.of (d := e + 24) (Nat.le_of_ble_eq_true rfl) (Nat.le_of_ble_eq_true rfl) ?_
  show Wp (WpD (e + 24)) hcX12_doesDig Q (0, [some (.inr (.inr (12, 0))), some (.inl a1), some (.inl a2), some (.inl a3), some (.inl a4), none, none], []) σ
  unfold F_X12_doesDig at h
  refine Wp.run (WpD.mono _) 2 (q := ((5, [some (.inr (.inr (12, 0))), some (.inl a1), some (.inl a2), some (.inl a3), some (.inl a4), none, none], [.inl (σ.1 12 0), .inl a2]), σ)) rfl ?_
  refine Wp.if2_lt (WpD.mono _) rfl rfl (fun hc => ?_) (fun hc => ?_)
  · have h := (if_pos hc).symm.trans h
    show Wp (WpD (e + 24)) hcX12_doesDig Q (10, [some (.inr (.inr (12, 0))), some (.inl a1), some (.inl a2), some (.inl a3), some (.inl a4), none, none], []) σ
    refine Wp.run (WpD.mono _) 3 (q := ((16, [some (.inr (.inr (12, 0))), some (.inl a1), some (.inl a2), some (.inl a3), some (.inl a4), none, none], [.inl a1, .inr (.inr (82, 0)), .inl a2]), σ)) rfl ?_
    obtain ⟨hc, h⟩ := ite_nn h
    refine Wp.X_ild1 (WpD.mono _) rfl rfl hc ?_
    show Wp (WpD (e + 24)) hcX12_doesDig Q (17, [some (.inr (.inr (12, 0))), some (.inl a1), some (.inl a2), some (.inl a3), some (.inl a4), none, none], [.inl (σ.2.2.1 82 0 (a1).toNatClampNeg), .inl a2]) σ
    refine Wp.if2_ge (WpD.mono _) rfl rfl (fun hc => ?_) (fun hc => ?_)
    · have h := (if_pos hc).symm.trans h
      show Wp (WpD (e + 24)) hcX12_doesDig Q (24, [some (.inr (.inr (12, 0))), some (.inl a1), some (.inl a2), some (.inl a3), some (.inl a4), none, none], []) σ
      refine Wp.run (WpD.mono _) 0 (q := ((25, [some (.inr (.inr (12, 0))), some (.inl a1), some (.inl a2), some (.inl a3), some (.inl a4), none, none], [.inl (0 : Int32)]), σ)) rfl ?_
      exact Wp.jump (WpD.mono _) rfl ((T_X12_doesDig_b25 e N  r τ Q hQ ) a1 a2 a3 a4 (0 : Int32) σ h)
    · have h := (if_neg hc).symm.trans h
      show Wp (WpD (e + 24)) hcX12_doesDig Q (20, [some (.inr (.inr (12, 0))), some (.inl a1), some (.inl a2), some (.inl a3), some (.inl a4), none, none], []) σ
      refine Wp.run (WpD.mono _) 1 (q := ((25, [some (.inr (.inr (12, 0))), some (.inl a1), some (.inl a2), some (.inl a3), some (.inl a4), none, none], [.inl (1 : Int32)]), σ)) rfl ?_
      exact Wp.jump (WpD.mono _) rfl ((T_X12_doesDig_b25 e N  r τ Q hQ ) a1 a2 a3 a4 (1 : Int32) σ h)
  · have h := (if_neg hc).symm.trans h
    show Wp (WpD (e + 24)) hcX12_doesDig Q (8, [some (.inr (.inr (12, 0))), some (.inl a1), some (.inl a2), some (.inl a3), some (.inl a4), none, none], []) σ
    refine Wp.run (WpD.mono _) 0 (q := ((9, [some (.inr (.inr (12, 0))), some (.inl a1), some (.inl a2), some (.inl a3), some (.inl a4), none, none], [.inl (0 : Int32)]), σ)) rfl ?_
    obtain ⟨rfl, rfl⟩ := ret_inj h
    exact Wp.ret (WpD.mono _) rfl hQ

set_option maxRecDepth 100000 in
set_option maxHeartbeats 4000000 in
theorem T_X12_digs_b165 (e N : Nat) (g0 : Int32 → Int32 → Int32 → Int32 → Int64 → Int32 → Mem → Option (Unit × Mem)) (hg0 : ∀ (a1 : Int32) (a2 : Int32) (a3 : Int32) (a4 : Int32) (a5 : Int64) (a6 : Int32) (σ : Mem) (r : Unit) (τ : Mem) (Q : Pst), g0 a1 a2 a3 a4 a5 a6 σ = some (r, τ) → Q (none) τ → WpD (e + 25) mX12_digs [.inr (.inr (12, 0)), .inl a1, .inl a2, .inl a3, .inl a4, .inr (.inl a5), .inl a6] σ Q)  (r : Unit) (τ : Mem) (Q : Pst) (hQ : Q (none) τ) : ∀ n, ∀ (x1 : Int32) (x2 : Int32) (x4 : Int32) (x5 : Int64) (x8 : Int32) (x9 : Int32) (σ : Mem), F_X12_digs_b165 N g0 n x1 x2 x4 x5 x8 x9 σ = some (r, τ) → Wp (WpD (e + 25)) hcX12_digs Q (165, [some (.inr (.inr (12, 0))), some (.inl x1), some (.inl x2), none, some (.inl x4), some (.inr (.inl x5)), none, none, some (.inl x8), some (.inl x9), none, none], []) σ := by
  intro n
  induction n with
  | zero => intro x1 x2 x4 x5 x8 x9 σ h; cases h
  | succ n ih =>
    intro x1 x2 x4 x5 x8 x9 σ h
    unfold F_X12_digs_b165 at h
    refine Wp.run (WpD.mono _) 1 (q := ((168, [some (.inr (.inr (12, 0))), some (.inl x1), some (.inl x2), none, some (.inl x4), some (.inr (.inl x5)), none, none, some (.inl x8), some (.inl x9), none, none], [.inl (3 : Int32), .inl x9]), σ)) rfl ?_
    refine Wp.if2_ge (WpD.mono _) rfl rfl (fun hc => ?_) (fun hc => ?_)
    · have h := (if_pos hc).symm.trans h
      show Wp (WpD (e + 25)) hcX12_digs Q (230, [some (.inr (.inr (12, 0))), some (.inl x1), some (.inl x2), none, some (.inl x4), some (.inr (.inl x5)), none, none, some (.inl x8), some (.inl x9), none, none], []) σ
      obtain ⟨rfl, rfl⟩ := ret_inj h
      exact Wp.ret (WpD.mono _) rfl hQ
    · have h := (if_neg hc).symm.trans h
      show Wp (WpD (e + 25)) hcX12_digs Q (171, [some (.inr (.inr (12, 0))), some (.inl x1), some (.inl x2), none, some (.inl x4), some (.inr (.inl x5)), none, none, some (.inl x8), some (.inl x9), none, none], []) σ
      refine Wp.run (WpD.mono _) 5 (q := ((179, [some (.inr (.inr (12, 0))), some (.inl x1), some (.inl x2), none, some (.inl x4), some (.inr (.inl x5)), none, none, some (.inl x8), some (.inl x9), none, none], [.inl x9, .inl (x2 + (1 : Int32)), .inl x4, .inr (.inr (12, 0))]), σ)) rfl ?_
      obtain ⟨q5, hb, h⟩ := bind_some h
      refine Wp.call (WpD.mono _) rfl (T_X12_dries (e + 21) N x4 (x2 + (1 : Int32)) x9 σ _ _ _ hb ?_)
      show Wp (WpD (e + 25)) hcX12_digs Q (182, [some (.inr (.inr (12, 0))), some (.inl x1), some (.inl x2), none, some (.inl x4), some (.inr (.inl x5)), none, none, some (.inl x8), some (.inl x9), none, none], [.inr (.inl q5.1)]) q5.2
      refine Wp.run (WpD.mono _) 3 (q := ((188, [some (.inr (.inr (12, 0))), some (.inl x1), some (.inl x2), none, some (.inl x4), some (.inr (.inl x5)), none, none, some (.inl x8), some (.inl x9), some (.inr (.inl q5.1)), none], [.inl (lg_cmp q5.1 (0 : Int64))]), q5.2)) rfl ?_
      refine Wp.if0_le (WpD.mono _) rfl rfl (fun hc => ?_) (fun hc => ?_)
      · have h := (if_pos hc).symm.trans h
        show Wp (WpD (e + 25)) hcX12_digs Q (224, [some (.inr (.inr (12, 0))), some (.inl x1), some (.inl x2), none, some (.inl x4), some (.inr (.inl x5)), none, none, some (.inl x8), some (.inl x9), some (.inr (.inl q5.1)), none], []) q5.2
        refine Wp.run (WpD.mono _) 1 (q := ((165, [some (.inr (.inr (12, 0))), some (.inl x1), some (.inl x2), none, some (.inl x4), some (.inr (.inl x5)), none, none, some (.inl x8), some (.inl (x9 + (1 : Int32))), none, none], []), q5.2)) rfl ?_
        exact Wp.jump (WpD.mono _) rfl (ih x1 x2 x4 x5 x8 (x9 + (1 : Int32)) q5.2 h)
      · have h := (if_neg hc).symm.trans h
        show Wp (WpD (e + 25)) hcX12_digs Q (191, [some (.inr (.inr (12, 0))), some (.inl x1), some (.inl x2), none, some (.inl x4), some (.inr (.inl x5)), none, none, some (.inl x8), some (.inl x9), some (.inr (.inl q5.1)), none], []) q5.2
        refine Wp.run (WpD.mono _) 2 (q := ((196, [some (.inr (.inr (12, 0))), some (.inl x1), some (.inl x2), none, some (.inl x4), some (.inr (.inl x5)), none, none, some (.inl x8), some (.inl x9), some (.inr (.inl q5.1)), none], [.inr (.inl q5.1), .inl x4, .inr (.inr (12, 0))]), q5.2)) rfl ?_
        obtain ⟨q6, hb, h⟩ := bind_some h
        refine Wp.call (WpD.mono _) rfl (T_X12_below (e + 23) N x4 q5.1 q5.2 _ _ _ hb ?_)
        show Wp (WpD (e + 25)) hcX12_digs Q (199, [some (.inr (.inr (12, 0))), some (.inl x1), some (.inl x2), none, some (.inl x4), some (.inr (.inl x5)), none, none, some (.inl x8), some (.inl x9), some (.inr (.inl q5.1)), none], []) q6.2
        refine Wp.run (WpD.mono _) 14 (q := ((221, [some (.inr (.inr (12, 0))), some (.inl x1), some (.inl x2), none, some (.inl x4), some (.inr (.inl x5)), none, none, some (.inl x8), some (.inl x9), some (.inr (.inl q5.1)), none], [.inl x8, .inr (.inl ((x5 * q5.1) / (1000000 : Int64))), .inl (x4 + (1 : Int32)), .inl x9, .inl (x2 + (1 : Int32)), .inl x1, .inr (.inr (12, 0))]), q6.2)) rfl ?_
        obtain ⟨q7, hb, h⟩ := bind_some h
        refine Wp.call (WpD.mono _) rfl (hg0 x1 (x2 + (1 : Int32)) x9 (x4 + (1 : Int32)) ((x5 * q5.1) / (1000000 : Int64)) x8 q6.2 _ _ _ hb ?_)
        show Wp (WpD (e + 25)) hcX12_digs Q (224, [some (.inr (.inr (12, 0))), some (.inl x1), some (.inl x2), none, some (.inl x4), some (.inr (.inl x5)), none, none, some (.inl x8), some (.inl x9), some (.inr (.inl q5.1)), none], []) q7.2
        refine Wp.run (WpD.mono _) 1 (q := ((165, [some (.inr (.inr (12, 0))), some (.inl x1), some (.inl x2), none, some (.inl x4), some (.inr (.inl x5)), none, none, some (.inl x8), some (.inl (x9 + (1 : Int32))), none, none], []), q7.2)) rfl ?_
        exact Wp.jump (WpD.mono _) rfl (ih x1 x2 x4 x5 x8 (x9 + (1 : Int32)) q7.2 h)

set_option maxRecDepth 100000 in
set_option maxHeartbeats 4000000 in
theorem T_X12_digs_b67 (e N : Nat) (g0 : Int32 → Int32 → Int32 → Int32 → Int64 → Int32 → Mem → Option (Unit × Mem)) (hg0 : ∀ (a1 : Int32) (a2 : Int32) (a3 : Int32) (a4 : Int32) (a5 : Int64) (a6 : Int32) (σ : Mem) (r : Unit) (τ : Mem) (Q : Pst), g0 a1 a2 a3 a4 a5 a6 σ = some (r, τ) → Q (none) τ → WpD (e + 25) mX12_digs [.inr (.inr (12, 0)), .inl a1, .inl a2, .inl a3, .inl a4, .inr (.inl a5), .inl a6] σ Q)  (r : Unit) (τ : Mem) (Q : Pst) (hQ : Q (none) τ) : ∀ n, ∀ (x1 : Int32) (x2 : Int32) (x4 : Int32) (x5 : Int64) (x8 : Int32) (x9 : Int32) (σ : Mem), F_X12_digs_b67 N g0 n x1 x2 x4 x5 x8 x9 σ = some (r, τ) → Wp (WpD (e + 25)) hcX12_digs Q (67, [some (.inr (.inr (12, 0))), some (.inl x1), some (.inl x2), none, some (.inl x4), some (.inr (.inl x5)), none, none, some (.inl x8), some (.inl x9), none, none], []) σ := by
  intro n
  induction n with
  | zero => intro x1 x2 x4 x5 x8 x9 σ h; cases h
  | succ n ih =>
    intro x1 x2 x4 x5 x8 x9 σ h
    unfold F_X12_digs_b67 at h
    refine Wp.run (WpD.mono _) 2 (q := ((73, [some (.inr (.inr (12, 0))), some (.inl x1), some (.inl x2), none, some (.inl x4), some (.inr (.inl x5)), none, none, some (.inl x8), some (.inl x9), none, none], [.inl (σ.1 12 5), .inl x9]), σ)) rfl ?_
    refine Wp.if2_ge (WpD.mono _) rfl rfl (fun hc => ?_) (fun hc => ?_)
    · have h := (if_pos hc).symm.trans h
      show Wp (WpD (e + 25)) hcX12_digs Q (162, [some (.inr (.inr (12, 0))), some (.inl x1), some (.inl x2), none, some (.inl x4), some (.inr (.inl x5)), none, none, some (.inl x8), some (.inl x9), none, none], []) σ
      refine Wp.run (WpD.mono _) 1 (q := ((165, [some (.inr (.inr (12, 0))), some (.inl x1), some (.inl x2), none, some (.inl x4), some (.inr (.inl x5)), none, none, some (.inl x8), some (.inl (0 : Int32)), none, none], []), σ)) rfl ?_
      exact Wp.jump (WpD.mono _) rfl ((T_X12_digs_b165 e N g0 hg0 r τ Q hQ  N) x1 x2 x4 x5 x8 (0 : Int32) σ h)
    · have h := (if_neg hc).symm.trans h
      show Wp (WpD (e + 25)) hcX12_digs Q (76, [some (.inr (.inr (12, 0))), some (.inl x1), some (.inl x2), none, some (.inl x4), some (.inr (.inl x5)), none, none, some (.inl x8), some (.inl x9), none, none], []) σ
      refine Wp.run (WpD.mono _) 6 (q := ((87, [some (.inr (.inr (12, 0))), some (.inl x1), some (.inl x2), none, some (.inl x4), some (.inr (.inl x5)), none, none, some (.inl x8), some (.inl x9), none, none], [.inl (((5 : Int32) * x4) + x9), .inr (.inr (102, 0))]), σ)) rfl ?_
      obtain ⟨hc, h⟩ := ite_nn h
      refine Wp.X_lld (WpD.mono _) rfl rfl hc ?_
      show Wp (WpD (e + 25)) hcX12_digs Q (88, [some (.inr (.inr (12, 0))), some (.inl x1), some (.inl x2), none, some (.inl x4), some (.inr (.inl x5)), none, none, some (.inl x8), some (.inl x9), none, none], [.inr (.inl (σ.2.2.2.1 102 0 ((((5 : Int32) * x4) + x9)).toNatClampNeg))]) σ
      refine Wp.run (WpD.mono _) 4 (q := ((94, [some (.inr (.inr (12, 0))), some (.inl x1), some (.inl x2), none, some (.inl x4), some (.inr (.inl x5)), none, none, some (.inl x8), some (.inl x9), none, none], [.inl x9, .inl (x2 + (1 : Int32)), .inr (.inr (12, 0)), .inr (.inl (σ.2.2.2.1 102 0 ((((5 : Int32) * x4) + x9)).toNatClampNeg))]), σ)) rfl ?_
      obtain ⟨q3, hb, h⟩ := bind_some h
      refine Wp.call (WpD.mono _) rfl (T_X12_waterOf (e + 22) N (x2 + (1 : Int32)) x9 σ _ _ _ hb ?_)
      show Wp (WpD (e + 25)) hcX12_digs Q (97, [some (.inr (.inr (12, 0))), some (.inl x1), some (.inl x2), none, some (.inl x4), some (.inr (.inl x5)), none, none, some (.inl x8), some (.inl x9), none, none], [.inl q3.1, .inr (.inl (σ.2.2.2.1 102 0 ((((5 : Int32) * x4) + x9)).toNatClampNeg))]) q3.2
      refine Wp.run (WpD.mono _) 29 (q := ((148, [some (.inr (.inr (12, 0))), some (.inl x1), some (.inl x2), none, some (.inl x4), some (.inr (.inl x5)), none, none, some (.inl x8), some (.inl x9), some (.inr (.inl (((((σ.2.2.2.1 102 0 ((((5 : Int32) * x4) + x9)).toNatClampNeg) * q3.1.toInt64) / (100 : Int64)) * x5) / (1000000 : Int64)))), none], [.inl x9, .inr (.inr (12, 0)), .inr (.inl (((((σ.2.2.2.1 102 0 ((((5 : Int32) * x4) + x9)).toNatClampNeg) * q3.1.toInt64) / (100 : Int64)) * x5) / (1000000 : Int64))), .inr (.inl (q3.2.2.1 12 58)), .inr (.inr (12, 0))]), (q3.2.1, (hwU2 (hwU2 q3.2.2.1 12 56 ((q3.2.2.1 12 56) + (((((σ.2.2.2.1 102 0 ((((5 : Int32) * x4) + x9)).toNatClampNeg) * q3.1.toInt64) / (100 : Int64)) * x5) / (1000000 : Int64)))) 12 55 ((q3.2.2.1 12 55) + ((((((σ.2.2.2.1 102 0 ((((5 : Int32) * x4) + x9)).toNatClampNeg) * q3.1.toInt64) / (100 : Int64)) * x5) / (1000000 : Int64)) * x8.toInt64))), q3.2.2.2.1, q3.2.2.2.2.1, q3.2.2.2.2.2))) rfl ?_
      obtain ⟨q4, hb, h⟩ := bind_some h
      refine Wp.call (WpD.mono _) rfl (T_X12_worthOf (e + 24) N x9 (q3.2.1, (hwU2 (hwU2 q3.2.2.1 12 56 ((q3.2.2.1 12 56) + (((((σ.2.2.2.1 102 0 ((((5 : Int32) * x4) + x9)).toNatClampNeg) * q3.1.toInt64) / (100 : Int64)) * x5) / (1000000 : Int64)))) 12 55 ((q3.2.2.1 12 55) + ((((((σ.2.2.2.1 102 0 ((((5 : Int32) * x4) + x9)).toNatClampNeg) * q3.1.toInt64) / (100 : Int64)) * x5) / (1000000 : Int64)) * x8.toInt64))), q3.2.2.2.1, q3.2.2.2.2.1, q3.2.2.2.2.2) _ _ _ hb ?_)
      show Wp (WpD (e + 25)) hcX12_digs Q (151, [some (.inr (.inr (12, 0))), some (.inl x1), some (.inl x2), none, some (.inl x4), some (.inr (.inl x5)), none, none, some (.inl x8), some (.inl x9), some (.inr (.inl (((((σ.2.2.2.1 102 0 ((((5 : Int32) * x4) + x9)).toNatClampNeg) * q3.1.toInt64) / (100 : Int64)) * x5) / (1000000 : Int64)))), none], [.inr (.inl q4.1), .inr (.inl (((((σ.2.2.2.1 102 0 ((((5 : Int32) * x4) + x9)).toNatClampNeg) * q3.1.toInt64) / (100 : Int64)) * x5) / (1000000 : Int64))), .inr (.inl (q3.2.2.1 12 58)), .inr (.inr (12, 0))]) q4.2
      refine Wp.run (WpD.mono _) 4 (q := ((67, [some (.inr (.inr (12, 0))), some (.inl x1), some (.inl x2), none, some (.inl x4), some (.inr (.inl x5)), none, none, some (.inl x8), some (.inl (x9 + (1 : Int32))), some (.inr (.inl (((((σ.2.2.2.1 102 0 ((((5 : Int32) * x4) + x9)).toNatClampNeg) * q3.1.toInt64) / (100 : Int64)) * x5) / (1000000 : Int64)))), none], []), (q4.2.1, (hwU2 q4.2.2.1 12 58 ((q3.2.2.1 12 58) + ((((((σ.2.2.2.1 102 0 ((((5 : Int32) * x4) + x9)).toNatClampNeg) * q3.1.toInt64) / (100 : Int64)) * x5) / (1000000 : Int64)) * q4.1))), q4.2.2.2.1, q4.2.2.2.2.1, q4.2.2.2.2.2))) rfl ?_
      exact Wp.jump (WpD.mono _) rfl (ih x1 x2 x4 x5 x8 (x9 + (1 : Int32)) (q4.2.1, (hwU2 q4.2.2.1 12 58 ((q3.2.2.1 12 58) + ((((((σ.2.2.2.1 102 0 ((((5 : Int32) * x4) + x9)).toNatClampNeg) * q3.1.toInt64) / (100 : Int64)) * x5) / (1000000 : Int64)) * q4.1))), q4.2.2.2.1, q4.2.2.2.2.1, q4.2.2.2.2.2) h)

set_option maxRecDepth 100000 in
set_option maxHeartbeats 4000000 in
theorem TB_X12_digs (e N : Nat) (g0 : Int32 → Int32 → Int32 → Int32 → Int64 → Int32 → Mem → Option (Unit × Mem)) (hg0 : ∀ (a1 : Int32) (a2 : Int32) (a3 : Int32) (a4 : Int32) (a5 : Int64) (a6 : Int32) (σ : Mem) (r : Unit) (τ : Mem) (Q : Pst), g0 a1 a2 a3 a4 a5 a6 σ = some (r, τ) → Q (none) τ → WpD (e + 25) mX12_digs [.inr (.inr (12, 0)), .inl a1, .inl a2, .inl a3, .inl a4, .inr (.inl a5), .inl a6] σ Q) (a1 : Int32) (a2 : Int32) (a3 : Int32) (a4 : Int32) (a5 : Int64) (a6 : Int32) (σ : Mem) (r : Unit) (τ : Mem) (Q : Pst) (h : B_X12_digs N g0 a1 a2 a3 a4 a5 a6 σ = some (r, τ)) (hQ : Q (none) τ) : WpD (e + 1 + 25) mX12_digs [.inr (.inr (12, 0)), .inl a1, .inl a2, .inl a3, .inl a4, .inr (.inl a5), .inl a6] σ Q := by
  refine WpD.of (d := e + 25) (Nat.le_of_ble_eq_true rfl) (Nat.le_of_ble_eq_true rfl) ?_
  show Wp (WpD (e + 25)) hcX12_digs Q (0, [some (.inr (.inr (12, 0))), some (.inl a1), some (.inl a2), some (.inl a3), some (.inl a4), some (.inr (.inl a5)), none, some (.inl a6), none, none, none, none], []) σ
  unfold B_X12_digs at h
  refine Wp.run (WpD.mono _) 4 (q := ((6, [some (.inr (.inr (12, 0))), some (.inl a1), some (.inl a2), some (.inl a3), some (.inl a4), some (.inr (.inl a5)), none, some (.inl a6), none, none, none, none], [.inl a4, .inl a3, .inl a2, .inl a1, .inr (.inr (12, 0))]), σ)) rfl ?_
  obtain ⟨q1, hb, h⟩ := bind_some h
  refine Wp.call (WpD.mono _) rfl (T_X12_doesDig (e + 0) N a1 a2 a3 a4 σ _ _ _ hb ?_)
  show Wp (WpD (e + 25)) hcX12_digs Q (9, [some (.inr (.inr (12, 0))), some (.inl a1), some (.inl a2), some (.inl a3), some (.inl a4), some (.inr (.inl a5)), none, some (.inl a6), none, none, none, none], [.inl q1.1]) q1.2
  refine Wp.if0_ne (WpD.mono _) rfl rfl (fun hc => ?_) (fun hc => ?_)
  · have h := (if_pos hc).symm.trans h
    show Wp (WpD (e + 25)) hcX12_digs Q (12, [some (.inr (.inr (12, 0))), some (.inl a1), some (.inl a2), some (.inl a3), some (.inl a4), some (.inr (.inl a5)), none, some (.inl a6), none, none, none, none], []) q1.2
    refine Wp.run (WpD.mono _) 14 (q := ((38, [some (.inr (.inr (12, 0))), some (.inl a1), some (.inl a2), some (.inl a3), some (.inl a4), some (.inr (.inl a5)), none, some (.inl a6), none, none, none, none], [.inl (q1.2.1 12 3), .inl a6, .inr (.inl (q1.2.2.1 12 57)), .inr (.inr (12, 0))]), (q1.2.1, (hwU2 q1.2.2.1 12 55 ((q1.2.2.1 12 55) + (a5 * a6.toInt64))), q1.2.2.2.1, q1.2.2.2.2.1, q1.2.2.2.2.2))) rfl ?_
    refine Wp.if2_le (WpD.mono _) rfl rfl (fun hc => ?_) (fun hc => ?_)
    · have h := (if_pos hc).symm.trans h
      show Wp (WpD (e + 25)) hcX12_digs Q (46, [some (.inr (.inr (12, 0))), some (.inl a1), some (.inl a2), some (.inl a3), some (.inl a4), some (.inr (.inl a5)), none, some (.inl a6), none, none, none, none], [.inr (.inl (q1.2.2.1 12 57)), .inr (.inr (12, 0))]) (q1.2.1, (hwU2 q1.2.2.1 12 55 ((q1.2.2.1 12 55) + (a5 * a6.toInt64))), q1.2.2.2.1, q1.2.2.2.2.1, q1.2.2.2.2.2)
      refine Wp.run (WpD.mono _) 2 (q := ((51, [none, none, none, none, none, none, none, none, none, none, none, none], []), (q1.2.1, (hwU2 (hwU2 q1.2.2.1 12 55 ((q1.2.2.1 12 55) + (a5 * a6.toInt64))) 12 57 ((q1.2.2.1 12 57) + (0 : Int64))), q1.2.2.2.1, q1.2.2.2.2.1, q1.2.2.2.2.2))) rfl ?_
      obtain ⟨rfl, rfl⟩ := ret_inj h
      exact Wp.ret (WpD.mono _) rfl hQ
    · have h := (if_neg hc).symm.trans h
      show Wp (WpD (e + 25)) hcX12_digs Q (41, [some (.inr (.inr (12, 0))), some (.inl a1), some (.inl a2), some (.inl a3), some (.inl a4), some (.inr (.inl a5)), none, some (.inl a6), none, none, none, none], [.inr (.inl (q1.2.2.1 12 57)), .inr (.inr (12, 0))]) (q1.2.1, (hwU2 q1.2.2.1 12 55 ((q1.2.2.1 12 55) + (a5 * a6.toInt64))), q1.2.2.2.1, q1.2.2.2.2.1, q1.2.2.2.2.2)
      refine Wp.run (WpD.mono _) 3 (q := ((51, [none, none, none, none, none, none, none, none, none, none, none, none], []), (q1.2.1, (hwU2 (hwU2 q1.2.2.1 12 55 ((q1.2.2.1 12 55) + (a5 * a6.toInt64))) 12 57 ((q1.2.2.1 12 57) + a5)), q1.2.2.2.1, q1.2.2.2.2.1, q1.2.2.2.2.2))) rfl ?_
      obtain ⟨rfl, rfl⟩ := ret_inj h
      exact Wp.ret (WpD.mono _) rfl hQ
  · have h := (if_neg hc).symm.trans h
    show Wp (WpD (e + 25)) hcX12_digs Q (52, [some (.inr (.inr (12, 0))), some (.inl a1), some (.inl a2), some (.inl a3), some (.inl a4), some (.inr (.inl a5)), none, some (.inl a6), none, none, none, none], []) q1.2
    refine Wp.run (WpD.mono _) 4 (q := ((58, [some (.inr (.inr (12, 0))), some (.inl a1), some (.inl a2), some (.inl a3), some (.inl a4), some (.inr (.inl a5)), none, some (.inl a6), none, none, none, none], [.inl (a2 + (1 : Int32)), .inr (.inr (12, 0)), .inl a6]), q1.2)) rfl ?_
    obtain ⟨q2, hb, h⟩ := bind_some h
    refine Wp.call (WpD.mono _) rfl (T_X12_costOf (e + 22) N (a2 + (1 : Int32)) q1.2 _ _ _ hb ?_)
    show Wp (WpD (e + 25)) hcX12_digs Q (61, [some (.inr (.inr (12, 0))), some (.inl a1), some (.inl a2), some (.inl a3), some (.inl a4), some (.inr (.inl a5)), none, some (.inl a6), none, none, none, none], [.inl q2.1, .inl a6]) q2.2
    refine Wp.run (WpD.mono _) 3 (q := ((67, [some (.inr (.inr (12, 0))), some (.inl a1), some (.inl a2), some (.inl a3), some (.inl a4), some (.inr (.inl a5)), none, some (.inl a6), some (.inl (a6 + q2.1)), some (.inl (0 : Int32)), none, none], []), q2.2)) rfl ?_
    exact Wp.jump (WpD.mono _) rfl ((T_X12_digs_b67 e N g0 hg0 r τ Q hQ  N) a1 a2 a4 a5 (a6 + q2.1) (0 : Int32) q2.2 h)

set_option maxRecDepth 100000 in
theorem TG_X12_digs (e N : Nat) : ∀ d : Nat, (∀ (a1 : Int32) (a2 : Int32) (a3 : Int32) (a4 : Int32) (a5 : Int64) (a6 : Int32) (σ : Mem) (r : Unit) (τ : Mem) (Q : Pst), (G_X12_digs N d) a1 a2 a3 a4 a5 a6 σ = some (r, τ) → Q (none) τ → WpD (e + d + 25) mX12_digs [.inr (.inr (12, 0)), .inl a1, .inl a2, .inl a3, .inl a4, .inr (.inl a5), .inl a6] σ Q) := by
  intro d
  induction d with
  | zero =>
    exact fun _ _ _ _ _ _ _ _ _ _ h => (nomatch h)
  | succ d ih =>
    exact (fun a1 a2 a3 a4 a5 a6 σ r τ Q h hQ => TB_X12_digs (e + d) N (G_X12_digs N d) ih a1 a2 a3 a4 a5 a6 σ r τ Q h hQ)

theorem T_X12_digs (e N : Nat) (a1 : Int32) (a2 : Int32) (a3 : Int32) (a4 : Int32) (a5 : Int64) (a6 : Int32) (σ : Mem) (r : Unit) (τ : Mem) (Q : Pst) (h : F_X12_digs N a1 a2 a3 a4 a5 a6 σ = some (r, τ)) (hQ : Q (none) τ) : WpD (e + 35) mX12_digs [.inr (.inr (12, 0)), .inl a1, .inl a2, .inl a3, .inl a4, .inr (.inl a5), .inl a6] σ Q := (TG_X12_digs e N 10) a1 a2 a3 a4 a5 a6 σ r τ Q h hQ
set_option maxRecDepth 100000 in
set_option maxHeartbeats 4000000 in
theorem T_X12_diviner (e N : Nat)  (a1 : Int32) (a2 : Int32) (σ : Mem) (r : Int64) (τ : Mem) (Q : Pst) (h : F_X12_diviner N a1 a2 σ = some (r, τ)) (hQ : Q (some (.inr (.inl r))) τ) : WpD (e + 26) mX12_diviner [.inr (.inr (12, 0)), .inl a1, .inl a2] σ Q := by
  refine WpD.of (d := e + 25) (Nat.le_of_ble_eq_true rfl) (Nat.le_of_ble_eq_true rfl) ?_
  show Wp (WpD (e + 25)) hcX12_diviner Q (0, [some (.inr (.inr (12, 0))), some (.inl a1), some (.inl a2)], []) σ
  unfold F_X12_diviner at h
  refine Wp.run (WpD.mono _) 1 (q := ((2, [some (.inr (.inr (12, 0))), some (.inl a1), some (.inl a2)], [.inl a1, .inr (.inr (12, 0))]), σ)) rfl ?_
  obtain ⟨q1, hb, h⟩ := bind_some h
  refine Wp.call (WpD.mono _) rfl (T_X12_isPlace (e + 23) N a1 σ _ _ _ hb ?_)
  show Wp (WpD (e + 25)) hcX12_diviner Q (5, [some (.inr (.inr (12, 0))), some (.inl a1), some (.inl a2)], [.inl q1.1]) q1.2
  refine Wp.if0_eq (WpD.mono _) rfl rfl (fun hc => ?_) (fun hc => ?_)
  · have h := (if_pos hc).symm.trans h
    show Wp (WpD (e + 25)) hcX12_diviner Q (18, [some (.inr (.inr (12, 0))), some (.inl a1), some (.inl a2)], []) q1.2
    refine Wp.run (WpD.mono _) 0 (q := ((21, [none, none, none], [.inr (.inl (Int64.ofInt (-4611686018427387904)))]), q1.2)) rfl ?_
    obtain ⟨rfl, rfl⟩ := ret_inj h
    exact Wp.ret (WpD.mono _) rfl hQ
  · have h := (if_neg hc).symm.trans h
    show Wp (WpD (e + 25)) hcX12_diviner Q (8, [some (.inr (.inr (12, 0))), some (.inl a1), some (.inl a2)], []) q1.2
    refine Wp.run (WpD.mono _) 2 (q := ((12, [some (.inr (.inr (12, 0))), some (.inl a1), some (.inl a2)], [.inl (100 : Int32), .inl (0 : Int32), .inl a2]), q1.2)) rfl ?_
    obtain ⟨q2, hb, h⟩ := bind_some h
    refine Wp.call (WpD.mono _) rfl (T_X12_in (e + 24) N a2 (0 : Int32) (100 : Int32) q1.2 _ _ _ hb ?_)
    show Wp (WpD (e + 25)) hcX12_diviner Q (15, [some (.inr (.inr (12, 0))), some (.inl a1), some (.inl a2)], [.inl q2.1]) q2.2
    refine Wp.if0_ne (WpD.mono _) rfl rfl (fun hc => ?_) (fun hc => ?_)
    · have h := (if_pos hc).symm.trans h
      show Wp (WpD (e + 25)) hcX12_diviner Q (18, [some (.inr (.inr (12, 0))), some (.inl a1), some (.inl a2)], []) q2.2
      refine Wp.run (WpD.mono _) 0 (q := ((21, [none, none, none], [.inr (.inl (Int64.ofInt (-4611686018427387904)))]), q2.2)) rfl ?_
      obtain ⟨rfl, rfl⟩ := ret_inj h
      exact Wp.ret (WpD.mono _) rfl hQ
    · have h := (if_neg hc).symm.trans h
      show Wp (WpD (e + 25)) hcX12_diviner Q (22, [some (.inr (.inr (12, 0))), some (.inl a1), some (.inl a2)], []) q2.2
      refine Wp.run (WpD.mono _) 1 (q := ((24, [some (.inr (.inr (12, 0))), some (.inl a1), some (.inl a2)], [.inl a1, .inr (.inr (12, 0))]), q2.2)) rfl ?_
      obtain ⟨q3, hb, h⟩ := bind_some h
      refine Wp.call (WpD.mono _) rfl (T_X12_goesHere (e + 19) N a1 q2.2 _ _ _ hb ?_)
      show Wp (WpD (e + 25)) hcX12_diviner Q (27, [some (.inr (.inr (12, 0))), some (.inl a1), some (.inl a2)], [.inl q3.1]) q3.2
      refine Wp.if0_eq (WpD.mono _) rfl rfl (fun hc => ?_) (fun hc => ?_)
      · have h := (if_pos hc).symm.trans h
        show Wp (WpD (e + 25)) hcX12_diviner Q (39, [some (.inr (.inr (12, 0))), some (.inl a1), some (.inl a2)], []) q3.2
        refine Wp.run (WpD.mono _) 0 (q := ((42, [some (.inr (.inr (12, 0))), some (.inl a1), some (.inl a2)], [.inr (.inl (Int64.ofInt (-3)))]), q3.2)) rfl ?_
        obtain ⟨rfl, rfl⟩ := ret_inj h
        exact Wp.ret (WpD.mono _) rfl hQ
      · have h := (if_neg hc).symm.trans h
        show Wp (WpD (e + 25)) hcX12_diviner Q (30, [some (.inr (.inr (12, 0))), some (.inl a1), some (.inl a2)], []) q3.2
        refine Wp.run (WpD.mono _) 2 (q := ((33, [some (.inr (.inr (12, 0))), some (.inl a1), some (.inl a2)], [.inl a2, .inl a1, .inr (.inr (12, 0))]), q3.2)) rfl ?_
        obtain ⟨q4, hb, h⟩ := bind_some h
        refine Wp.call (WpD.mono _) rfl (T_X12_divines (e + 0) N a1 a2 q3.2 _ _ _ hb ?_)
        show Wp (WpD (e + 25)) hcX12_diviner Q (36, [some (.inr (.inr (12, 0))), some (.inl a1), some (.inl a2)], [.inr (.inl q4.1)]) q4.2
        refine Wp.run (WpD.mono _) 0 (q := ((42, [some (.inr (.inr (12, 0))), some (.inl a1), some (.inl a2)], [.inr (.inl q4.1)]), q4.2)) rfl ?_
        obtain ⟨rfl, rfl⟩ := ret_inj h
        exact Wp.ret (WpD.mono _) rfl hQ

set_option maxRecDepth 100000 in
set_option maxHeartbeats 4000000 in
theorem T_X12_draws (e N : Nat)  (a1 : Int32) (σ : Mem) (r : Int32) (τ : Mem) (Q : Pst) (h : F_X12_draws N a1 σ = some (r, τ)) (hQ : Q (some (.inl r)) τ) : WpD (e + 1) mX12_draws [.inr (.inr (12, 0)), .inl a1] σ Q := by
  refine WpD.of (d := e + 0) (Nat.le_of_ble_eq_true rfl) (Nat.le_of_ble_eq_true rfl) ?_
  show Wp (WpD (e + 0)) hcX12_draws Q (0, [some (.inr (.inr (12, 0))), some (.inl a1)], []) σ
  unfold F_X12_draws at h
  refine Wp.run (WpD.mono _) 11 (q := ((22, [some (.inr (.inr (12, 0))), some (.inl a1)], [.inr (.inl a1.toInt64), .inr (.inl (((σ.2.1 12 61) * (48271 : Int64)) - ((σ.2.1 12 61) * (48271 : Int64)) / (2147483647 : Int64) * (2147483647 : Int64)))]), (σ.1, (hwU2 σ.2.1 12 61 (((σ.2.1 12 61) * (48271 : Int64)) - ((σ.2.1 12 61) * (48271 : Int64)) / (2147483647 : Int64) * (2147483647 : Int64))), σ.2.2.1, σ.2.2.2.1, σ.2.2.2.2))) rfl ?_
  obtain ⟨hc, h⟩ := ite_nn h
  refine Wp.X_lrem (WpD.mono _) rfl hc ?_
  show Wp (WpD (e + 0)) hcX12_draws Q (23, [some (.inr (.inr (12, 0))), some (.inl a1)], [.inr (.inl ((((σ.2.1 12 61) * (48271 : Int64)) - ((σ.2.1 12 61) * (48271 : Int64)) / (2147483647 : Int64) * (2147483647 : Int64)) - (((σ.2.1 12 61) * (48271 : Int64)) - ((σ.2.1 12 61) * (48271 : Int64)) / (2147483647 : Int64) * (2147483647 : Int64)) / a1.toInt64 * a1.toInt64))]) (σ.1, (hwU2 σ.2.1 12 61 (((σ.2.1 12 61) * (48271 : Int64)) - ((σ.2.1 12 61) * (48271 : Int64)) / (2147483647 : Int64) * (2147483647 : Int64))), σ.2.2.1, σ.2.2.2.1, σ.2.2.2.2)
  refine Wp.run (WpD.mono _) 0 (q := ((24, [some (.inr (.inr (12, 0))), some (.inl a1)], [.inl ((((σ.2.1 12 61) * (48271 : Int64)) - ((σ.2.1 12 61) * (48271 : Int64)) / (2147483647 : Int64) * (2147483647 : Int64)) - (((σ.2.1 12 61) * (48271 : Int64)) - ((σ.2.1 12 61) * (48271 : Int64)) / (2147483647 : Int64) * (2147483647 : Int64)) / a1.toInt64 * a1.toInt64).toInt32]), (σ.1, (hwU2 σ.2.1 12 61 (((σ.2.1 12 61) * (48271 : Int64)) - ((σ.2.1 12 61) * (48271 : Int64)) / (2147483647 : Int64) * (2147483647 : Int64))), σ.2.2.1, σ.2.2.2.1, σ.2.2.2.2))) rfl ?_
  obtain ⟨rfl, rfl⟩ := ret_inj h
  exact Wp.ret (WpD.mono _) rfl hQ

set_option maxRecDepth 100000 in
set_option maxHeartbeats 4000000 in
theorem T_X12_drawsLayer_b36 (e N : Nat)   (r : Int32) (τ : Mem) (Q : Pst) (hQ : Q (some (.inl r)) τ) : ∀ n, ∀ (x1 : Int32) (x2 : Int32) (x4 : Int32) (x5 : Int32) (x6 : Int32) (σ : Mem), F_X12_drawsLayer_b36 N n x1 x2 x4 x5 x6 σ = some (r, τ) → Wp (WpD (e + 1)) hcX12_drawsLayer Q (36, [some (.inr (.inr (12, 0))), some (.inl x1), some (.inl x2), none, some (.inl x4), some (.inl x5), some (.inl x6)], []) σ := by
  intro n
  induction n with
  | zero => intro x1 x2 x4 x5 x6 σ h; cases h
  | succ n ih =>
    intro x1 x2 x4 x5 x6 σ h
    unfold F_X12_drawsLayer_b36 at h
    refine Wp.run (WpD.mono _) 1 (q := ((40, [some (.inr (.inr (12, 0))), some (.inl x1), some (.inl x2), none, some (.inl x4), some (.inl x5), some (.inl x6)], [.inl x4, .inl x6]), σ)) rfl ?_
    refine Wp.if2_gt (WpD.mono _) rfl rfl (fun hc => ?_) (fun hc => ?_)
    · have h := (if_pos hc).symm.trans h
      show Wp (WpD (e + 1)) hcX12_drawsLayer Q (84, [some (.inr (.inr (12, 0))), some (.inl x1), some (.inl x2), none, some (.inl x4), some (.inl x5), some (.inl x6)], []) σ
      refine Wp.run (WpD.mono _) 0 (q := ((86, [some (.inr (.inr (12, 0))), some (.inl x1), some (.inl x2), none, some (.inl x4), some (.inl x5), some (.inl x6)], [.inl x5]), σ)) rfl ?_
      obtain ⟨rfl, rfl⟩ := ret_inj h
      exact Wp.ret (WpD.mono _) rfl hQ
    · have h := (if_neg hc).symm.trans h
      show Wp (WpD (e + 1)) hcX12_drawsLayer Q (43, [some (.inr (.inr (12, 0))), some (.inl x1), some (.inl x2), none, some (.inl x4), some (.inl x5), some (.inl x6)], []) σ
      refine Wp.run (WpD.mono _) 3 (q := ((50, [some (.inr (.inr (12, 0))), some (.inl x1), some (.inl x2), none, some (.inl x4), some (.inl (x5 + (1 : Int32))), some (.inl x6)], [.inl (Int32.ofInt (-1)), .inl x2, .inl x6]), σ)) rfl ?_
      refine Wp.if2_ne (WpD.mono _) rfl rfl (fun hc => ?_) (fun hc => ?_)
      · have h := (if_pos hc).symm.trans h
        show Wp (WpD (e + 1)) hcX12_drawsLayer Q (53, [some (.inr (.inr (12, 0))), some (.inl x1), some (.inl x2), none, some (.inl x4), some (.inl (x5 + (1 : Int32))), some (.inl x6)], [.inl x6]) σ
        refine Wp.run (WpD.mono _) 6 (q := ((63, [some (.inr (.inr (12, 0))), some (.inl x1), some (.inl x2), none, some (.inl x4), some (.inl (x5 + (1 : Int32))), some (.inl x6)], [.inl (((5 : Int32) * x1) + (x5 + (1 : Int32))), .inr (.inr (76, 0)), .inl x6]), σ)) rfl ?_
        obtain ⟨hc, h⟩ := ite_nn h
        refine Wp.X_ild1 (WpD.mono _) rfl rfl hc ?_
        show Wp (WpD (e + 1)) hcX12_drawsLayer Q (64, [some (.inr (.inr (12, 0))), some (.inl x1), some (.inl x2), none, some (.inl x4), some (.inl (x5 + (1 : Int32))), some (.inl x6)], [.inl (σ.2.2.1 76 0 ((((5 : Int32) * x1) + (x5 + (1 : Int32)))).toNatClampNeg), .inl x6]) σ
        refine Wp.run (WpD.mono _) 3 (q := ((36, [some (.inr (.inr (12, 0))), some (.inl x1), some (.inl x2), none, some (.inl x4), some (.inl (x5 + (1 : Int32))), some (.inl (x6 + (σ.2.2.1 76 0 ((((5 : Int32) * x1) + (x5 + (1 : Int32)))).toNatClampNeg)))], []), σ)) rfl ?_
        exact Wp.jump (WpD.mono _) rfl (ih x1 x2 x4 (x5 + (1 : Int32)) (x6 + (σ.2.2.1 76 0 ((((5 : Int32) * x1) + (x5 + (1 : Int32)))).toNatClampNeg)) σ h)
      · have h := (if_neg hc).symm.trans h
        show Wp (WpD (e + 1)) hcX12_drawsLayer Q (67, [some (.inr (.inr (12, 0))), some (.inl x1), some (.inl x2), none, some (.inl x4), some (.inl (x5 + (1 : Int32))), some (.inl x6)], [.inl x6]) σ
        refine Wp.run (WpD.mono _) 6 (q := ((77, [some (.inr (.inr (12, 0))), some (.inl x1), some (.inl x2), none, some (.inl x4), some (.inl (x5 + (1 : Int32))), some (.inl x6)], [.inl (((5 : Int32) * x2) + (x5 + (1 : Int32))), .inr (.inr (75, 0)), .inl x6]), σ)) rfl ?_
        obtain ⟨hc, h⟩ := ite_nn h
        refine Wp.X_ild1 (WpD.mono _) rfl rfl hc ?_
        show Wp (WpD (e + 1)) hcX12_drawsLayer Q (78, [some (.inr (.inr (12, 0))), some (.inl x1), some (.inl x2), none, some (.inl x4), some (.inl (x5 + (1 : Int32))), some (.inl x6)], [.inl (σ.2.2.1 75 0 ((((5 : Int32) * x2) + (x5 + (1 : Int32)))).toNatClampNeg), .inl x6]) σ
        refine Wp.run (WpD.mono _) 2 (q := ((36, [some (.inr (.inr (12, 0))), some (.inl x1), some (.inl x2), none, some (.inl x4), some (.inl (x5 + (1 : Int32))), some (.inl (x6 + (σ.2.2.1 75 0 ((((5 : Int32) * x2) + (x5 + (1 : Int32)))).toNatClampNeg)))], []), σ)) rfl ?_
        exact Wp.jump (WpD.mono _) rfl (ih x1 x2 x4 (x5 + (1 : Int32)) (x6 + (σ.2.2.1 75 0 ((((5 : Int32) * x2) + (x5 + (1 : Int32)))).toNatClampNeg)) σ h)

set_option maxRecDepth 100000 in
set_option maxHeartbeats 4000000 in
theorem T_X12_drawsLayer (e N : Nat)  (a1 : Int32) (a2 : Int32) (a3 : Int32) (σ : Mem) (r : Int32) (τ : Mem) (Q : Pst) (h : F_X12_drawsLayer N a1 a2 a3 σ = some (r, τ)) (hQ : Q (some (.inl r)) τ) : WpD (e + 2) mX12_drawsLayer [.inr (.inr (12, 0)), .inl a1, .inl a2, .inl a3] σ Q := by
  refine WpD.of (d := e + 1) (Nat.le_of_ble_eq_true rfl) (Nat.le_of_ble_eq_true rfl) ?_
  show Wp (WpD (e + 1)) hcX12_drawsLayer Q (0, [some (.inr (.inr (12, 0))), some (.inl a1), some (.inl a2), some (.inl a3), none, none, none], []) σ
  unfold F_X12_drawsLayer at h
  refine Wp.run (WpD.mono _) 1 (q := ((2, [some (.inr (.inr (12, 0))), some (.inl a1), some (.inl a2), some (.inl a3), none, none, none], [.inl a3, .inr (.inr (12, 0))]), σ)) rfl ?_
  obtain ⟨q1, hb, h⟩ := bind_some h
  refine Wp.call (WpD.mono _) rfl (T_X12_draws (e + 0) N a3 σ _ _ _ hb ?_)
  show Wp (WpD (e + 1)) hcX12_drawsLayer Q (5, [some (.inr (.inr (12, 0))), some (.inl a1), some (.inl a2), some (.inl a3), none, none, none], [.inl q1.1]) q1.2
  refine Wp.run (WpD.mono _) 4 (q := ((12, [some (.inr (.inr (12, 0))), some (.inl a1), some (.inl a2), some (.inl a3), some (.inl q1.1), some (.inl (0 : Int32)), none], [.inl (Int32.ofInt (-1)), .inl a2]), q1.2)) rfl ?_
  refine Wp.if2_ne (WpD.mono _) rfl rfl (fun hc => ?_) (fun hc => ?_)
  · have h := (if_pos hc).symm.trans h
    show Wp (WpD (e + 1)) hcX12_drawsLayer Q (15, [some (.inr (.inr (12, 0))), some (.inl a1), some (.inl a2), some (.inl a3), some (.inl q1.1), some (.inl (0 : Int32)), none], []) q1.2
    refine Wp.run (WpD.mono _) 4 (q := ((22, [some (.inr (.inr (12, 0))), some (.inl a1), some (.inl a2), some (.inl a3), some (.inl q1.1), some (.inl (0 : Int32)), none], [.inl ((5 : Int32) * a1), .inr (.inr (76, 0))]), q1.2)) rfl ?_
    obtain ⟨hc, h⟩ := ite_nn h
    refine Wp.X_ild1 (WpD.mono _) rfl rfl hc ?_
    show Wp (WpD (e + 1)) hcX12_drawsLayer Q (23, [some (.inr (.inr (12, 0))), some (.inl a1), some (.inl a2), some (.inl a3), some (.inl q1.1), some (.inl (0 : Int32)), none], [.inl (q1.2.2.2.1 76 0 (((5 : Int32) * a1)).toNatClampNeg)]) q1.2
    refine Wp.run (WpD.mono _) 1 (q := ((36, [some (.inr (.inr (12, 0))), some (.inl a1), some (.inl a2), none, some (.inl q1.1), some (.inl (0 : Int32)), some (.inl (q1.2.2.2.1 76 0 (((5 : Int32) * a1)).toNatClampNeg))], []), q1.2)) rfl ?_
    exact Wp.jump (WpD.mono _) rfl ((T_X12_drawsLayer_b36 e N  r τ Q hQ  N) a1 a2 q1.1 (0 : Int32) (q1.2.2.2.1 76 0 (((5 : Int32) * a1)).toNatClampNeg) q1.2 h)
  · have h := (if_neg hc).symm.trans h
    show Wp (WpD (e + 1)) hcX12_drawsLayer Q (26, [some (.inr (.inr (12, 0))), some (.inl a1), some (.inl a2), some (.inl a3), some (.inl q1.1), some (.inl (0 : Int32)), none], []) q1.2
    refine Wp.run (WpD.mono _) 4 (q := ((33, [some (.inr (.inr (12, 0))), some (.inl a1), some (.inl a2), some (.inl a3), some (.inl q1.1), some (.inl (0 : Int32)), none], [.inl ((5 : Int32) * a2), .inr (.inr (75, 0))]), q1.2)) rfl ?_
    obtain ⟨hc, h⟩ := ite_nn h
    refine Wp.X_ild1 (WpD.mono _) rfl rfl hc ?_
    show Wp (WpD (e + 1)) hcX12_drawsLayer Q (34, [some (.inr (.inr (12, 0))), some (.inl a1), some (.inl a2), some (.inl a3), some (.inl q1.1), some (.inl (0 : Int32)), none], [.inl (q1.2.2.2.1 75 0 (((5 : Int32) * a2)).toNatClampNeg)]) q1.2
    refine Wp.run (WpD.mono _) 0 (q := ((36, [some (.inr (.inr (12, 0))), some (.inl a1), some (.inl a2), none, some (.inl q1.1), some (.inl (0 : Int32)), some (.inl (q1.2.2.2.1 75 0 (((5 : Int32) * a2)).toNatClampNeg))], []), q1.2)) rfl ?_
    exact Wp.jump (WpD.mono _) rfl ((T_X12_drawsLayer_b36 e N  r τ Q hQ  N) a1 a2 q1.1 (0 : Int32) (q1.2.2.2.1 75 0 (((5 : Int32) * a2)).toNatClampNeg) q1.2 h)

set_option maxRecDepth 100000 in
set_option maxHeartbeats 4000000 in
theorem T_X12_isRule (e N : Nat)  (a1 : Int32) (σ : Mem) (r : Int32) (τ : Mem) (Q : Pst) (h : F_X12_isRule N a1 σ = some (r, τ)) (hQ : Q (some (.inl r)) τ) : WpD (e + 2) mX12_isRule [.inr (.inr (12, 0)), .inl a1] σ Q := by
  refine WpD.of (d := e + 1) (Nat.le_of_ble_eq_true rfl) (Nat.le_of_ble_eq_true rfl) ?_
  show Wp (WpD (e + 1)) hcX12_isRule Q (0, [some (.inr (.inr (12, 0))), some (.inl a1)], []) σ
  unfold F_X12_isRule at h
  refine Wp.run (WpD.mono _) 5 (q := ((8, [some (.inr (.inr (12, 0))), some (.inl a1)], [.inl ((σ.1 12 16) - (1 : Int32)), .inl (0 : Int32), .inl a1]), σ)) rfl ?_
  obtain ⟨q1, hb, h⟩ := bind_some h
  refine Wp.call (WpD.mono _) rfl (T_X12_in (e + 0) N a1 (0 : Int32) ((σ.1 12 16) - (1 : Int32)) σ _ _ _ hb ?_)
  show Wp (WpD (e + 1)) hcX12_isRule Q (11, [some (.inr (.inr (12, 0))), some (.inl a1)], [.inl q1.1]) q1.2
  obtain ⟨hc, h⟩ := ite_yy h
  obtain ⟨rfl, rfl⟩ := ret_inj h
  exact Wp.retZ (WpD.mono _) rfl hc hQ

set_option maxRecDepth 100000 in
set_option maxHeartbeats 4000000 in
theorem T_X12_drawn_b239 (e N : Nat)  (k128 : Int32 → Int32 → Int32 → Int32 → Int32 → Int32 → Int32 → Int32 → Int32 → Mem → Option (Int32 × Mem)) (r : Int32) (τ : Mem) (Q : Pst) (hQ : Q (some (.inl r)) τ) (hk128 : ∀ (x1 : Int32) (x2 : Int32) (x4 : Int32) (x6 : Int32) (x7 : Int32) (x8 : Int32) (x9 : Int32) (x10 : Int32) (x11 : Int32) (σ : Mem), k128 x1 x2 x4 x6 x7 x8 x9 x10 x11 σ = some (r, τ) → Wp (WpD (e + 25)) hcX12_drawn Q (128, [some (.inr (.inr (12, 0))), some (.inl x1), some (.inl x2), none, some (.inl x4), none, some (.inl x6), some (.inl x7), some (.inl x8), some (.inl x9), some (.inl x10), some (.inl x11), none, none, none], []) σ) : ∀ n, ∀ (x1 : Int32) (x2 : Int32) (x4 : Int32) (x6 : Int32) (x7 : Int32) (x8 : Int32) (x9 : Int32) (x10 : Int32) (x11 : Int32) (x14 : Int32) (σ : Mem), F_X12_drawn_b239 N k128 n x1 x2 x4 x6 x7 x8 x9 x10 x11 x14 σ = some (r, τ) → Wp (WpD (e + 25)) hcX12_drawn Q (239, [some (.inr (.inr (12, 0))), some (.inl x1), some (.inl x2), none, some (.inl x4), none, some (.inl x6), some (.inl x7), some (.inl x8), some (.inl x9), some (.inl x10), some (.inl x11), none, none, some (.inl x14)], []) σ := by
  intro n
  induction n with
  | zero => intro x1 x2 x4 x6 x7 x8 x9 x10 x11 x14 σ h; cases h
  | succ n ih =>
    intro x1 x2 x4 x6 x7 x8 x9 x10 x11 x14 σ h
    unfold F_X12_drawn_b239 at h
    refine Wp.run (WpD.mono _) 2 (q := ((245, [some (.inr (.inr (12, 0))), some (.inl x1), some (.inl x2), none, some (.inl x4), none, some (.inl x6), some (.inl x7), some (.inl x8), some (.inl x9), some (.inl x10), some (.inl x11), none, none, some (.inl x14)], [.inl (σ.1 12 5), .inl x14]), σ)) rfl ?_
    refine Wp.if2_ge (WpD.mono _) rfl rfl (fun hc => ?_) (fun hc => ?_)
    · have h := (if_pos hc).symm.trans h
      show Wp (WpD (e + 25)) hcX12_drawn Q (270, [some (.inr (.inr (12, 0))), some (.inl x1), some (.inl x2), none, some (.inl x4), none, some (.inl x6), some (.inl x7), some (.inl x8), some (.inl x9), some (.inl x10), some (.inl x11), none, none, some (.inl x14)], []) σ
      refine Wp.run (WpD.mono _) 1 (q := ((273, [some (.inr (.inr (12, 0))), some (.inl x1), some (.inl x2), none, some (.inl x4), none, some (.inl x6), some (.inl x7), some (.inl x8), some (.inl x9), some (.inl x10), some (.inl x11), none, none, some (.inl x14)], [.inl x6, .inr (.inr (12, 0))]), σ)) rfl ?_
      obtain ⟨q13, hb, h⟩ := bind_some h
      refine Wp.call (WpD.mono _) rfl (T_X12_allBelow (e + 24) N x6 σ _ _ _ hb ?_)
      show Wp (WpD (e + 25)) hcX12_drawn Q (276, [some (.inr (.inr (12, 0))), some (.inl x1), some (.inl x2), none, some (.inl x4), none, some (.inl x6), some (.inl x7), some (.inl x8), some (.inl x9), some (.inl x10), some (.inl x11), none, none, some (.inl x14)], [.inl q13.1]) q13.2
      refine Wp.run (WpD.mono _) 1 (q := ((280, [some (.inr (.inr (12, 0))), some (.inl x1), some (.inl x2), none, some (.inl x4), none, some (.inl x6), some (.inl x7), some (.inl x8), some (.inl x9), some (.inl x10), some (.inl x11), none, none, some (.inl q13.1)], [.inl q13.1]), q13.2)) rfl ?_
      refine Wp.if0_ne (WpD.mono _) rfl rfl (fun hc => ?_) (fun hc => ?_)
      · have h := (if_pos hc).symm.trans h
        show Wp (WpD (e + 25)) hcX12_drawn Q (283, [some (.inr (.inr (12, 0))), some (.inl x1), some (.inl x2), none, some (.inl x4), none, some (.inl x6), some (.inl x7), some (.inl x8), some (.inl x9), some (.inl x10), some (.inl x11), none, none, some (.inl q13.1)], []) q13.2
        refine Wp.run (WpD.mono _) 3 (q := ((128, [some (.inr (.inr (12, 0))), some (.inl x1), some (.inl x2), none, some (.inl x4), none, some (.inl x6), some (.inl x7), some (.inl x8), some (.inl x9), some (.inl x10), some (.inl x11), none, none, none], []), q13.2)) rfl ?_
        exact Wp.jump (WpD.mono _) rfl (hk128 x1 x2 x4 x6 x7 x8 x9 x10 x11 q13.2 h)
      · have h := (if_neg hc).symm.trans h
        show Wp (WpD (e + 25)) hcX12_drawn Q (288, [some (.inr (.inr (12, 0))), some (.inl x1), some (.inl x2), none, some (.inl x4), none, some (.inl x6), some (.inl x7), some (.inl x8), some (.inl x9), some (.inl x10), some (.inl x11), none, none, some (.inl q13.1)], []) q13.2
        refine Wp.run (WpD.mono _) 3 (q := ((294, [some (.inr (.inr (12, 0))), some (.inl x1), some (.inl x2), none, some (.inl x4), none, some (.inl x6), some (.inl x7), some (.inl x8), some (.inl x9), some (.inl x10), some (.inl x11), none, none, some (.inl q13.1)], [.inl q13.1, .inl x6, .inl x2, .inr (.inr (12, 0))]), q13.2)) rfl ?_
        obtain ⟨q14, hb, h⟩ := bind_some h
        refine Wp.call (WpD.mono _) rfl (T_X12_drawsLayer (e + 23) N x2 x6 q13.1 q13.2 _ _ _ hb ?_)
        show Wp (WpD (e + 25)) hcX12_drawn Q (297, [some (.inr (.inr (12, 0))), some (.inl x1), some (.inl x2), none, some (.inl x4), none, some (.inl x6), some (.inl x7), some (.inl x8), some (.inl x9), some (.inl x10), some (.inl x11), none, none, some (.inl q13.1)], [.inl q14.1]) q14.2
        refine Wp.run (WpD.mono _) 1 (q := ((128, [some (.inr (.inr (12, 0))), some (.inl x1), some (.inl x2), none, some (.inl x4), none, some (.inl q14.1), some (.inl x7), some (.inl x8), some (.inl x9), some (.inl x10), some (.inl x11), none, none, none], []), q14.2)) rfl ?_
        exact Wp.jump (WpD.mono _) rfl (hk128 x1 x2 x4 q14.1 x7 x8 x9 x10 x11 q14.2 h)
    · have h := (if_neg hc).symm.trans h
      show Wp (WpD (e + 25)) hcX12_drawn Q (248, [some (.inr (.inr (12, 0))), some (.inl x1), some (.inl x2), none, some (.inl x4), none, some (.inl x6), some (.inl x7), some (.inl x8), some (.inl x9), some (.inl x10), some (.inl x11), none, none, some (.inl x14)], []) σ
      refine Wp.run (WpD.mono _) 7 (q := ((262, [some (.inr (.inr (12, 0))), some (.inl x1), some (.inl x2), none, some (.inl x4), none, some (.inl x6), some (.inl x7), some (.inl x8), some (.inl x9), some (.inl x10), some (.inl x11), none, none, some (.inl x14)], [.inl ((5 : Int32) + x14), .inr (.inr (102, 0)), .inl x14, .inr (.inr (102, 0))]), σ)) rfl ?_
      obtain ⟨hc, h⟩ := ite_nn h
      refine Wp.X_lld (WpD.mono _) rfl rfl hc ?_
      show Wp (WpD (e + 25)) hcX12_drawn Q (263, [some (.inr (.inr (12, 0))), some (.inl x1), some (.inl x2), none, some (.inl x4), none, some (.inl x6), some (.inl x7), some (.inl x8), some (.inl x9), some (.inl x10), some (.inl x11), none, none, some (.inl x14)], [.inr (.inl (σ.2.2.2.1 102 0 (((5 : Int32) + x14)).toNatClampNeg)), .inl x14, .inr (.inr (102, 0))]) σ
      obtain ⟨hc, h⟩ := ite_nn h
      refine Wp.X_lst (WpD.mono _) rfl rfl hc ?_
      show Wp (WpD (e + 25)) hcX12_drawn Q (264, [some (.inr (.inr (12, 0))), some (.inl x1), some (.inl x2), none, some (.inl x4), none, some (.inl x6), some (.inl x7), some (.inl x8), some (.inl x9), some (.inl x10), some (.inl x11), none, none, some (.inl x14)], []) (σ.1, σ.2.1, σ.2.2.1, (hwU3 σ.2.2.2.1 102 0 (x14).toNatClampNeg (σ.2.2.2.1 102 0 (((5 : Int32) + x14)).toNatClampNeg)), σ.2.2.2.2)
      refine Wp.run (WpD.mono _) 1 (q := ((239, [some (.inr (.inr (12, 0))), some (.inl x1), some (.inl x2), none, some (.inl x4), none, some (.inl x6), some (.inl x7), some (.inl x8), some (.inl x9), some (.inl x10), some (.inl x11), none, none, some (.inl (x14 + (1 : Int32)))], []), (σ.1, σ.2.1, σ.2.2.1, (hwU3 σ.2.2.2.1 102 0 (x14).toNatClampNeg (σ.2.2.2.1 102 0 (((5 : Int32) + x14)).toNatClampNeg)), σ.2.2.2.2))) rfl ?_
      exact Wp.jump (WpD.mono _) rfl (ih x1 x2 x4 x6 x7 x8 x9 x10 x11 (x14 + (1 : Int32)) (σ.1, σ.2.1, σ.2.2.1, (hwU3 σ.2.2.2.1 102 0 (x14).toNatClampNeg (σ.2.2.2.1 102 0 (((5 : Int32) + x14)).toNatClampNeg)), σ.2.2.2.2) h)

set_option maxRecDepth 100000 in
set_option maxHeartbeats 4000000 in
theorem T_X12_drawn_b222 (e N : Nat)  (k128 : Int32 → Int32 → Int32 → Int32 → Int32 → Int32 → Int32 → Int32 → Int32 → Mem → Option (Int32 × Mem)) (r : Int32) (τ : Mem) (Q : Pst) (hQ : Q (some (.inl r)) τ) (hk128 : ∀ (x1 : Int32) (x2 : Int32) (x4 : Int32) (x6 : Int32) (x7 : Int32) (x8 : Int32) (x9 : Int32) (x10 : Int32) (x11 : Int32) (σ : Mem), k128 x1 x2 x4 x6 x7 x8 x9 x10 x11 σ = some (r, τ) → Wp (WpD (e + 25)) hcX12_drawn Q (128, [some (.inr (.inr (12, 0))), some (.inl x1), some (.inl x2), none, some (.inl x4), none, some (.inl x6), some (.inl x7), some (.inl x8), some (.inl x9), some (.inl x10), some (.inl x11), none, none, none], []) σ) : ∀ (x1 : Int32) (x2 : Int32) (x4 : Int32) (x6 : Int32) (x7 : Int32) (x8 : Int32) (x9 : Int32) (x10 : Int32) (x12 : Int64) (s0 : Int32) (σ : Mem), F_X12_drawn_b222 N k128 x1 x2 x4 x6 x7 x8 x9 x10 x12 s0 σ = some (r, τ) → Wp (WpD (e + 25)) hcX12_drawn Q (222, [some (.inr (.inr (12, 0))), some (.inl x1), some (.inl x2), none, some (.inl x4), none, some (.inl x6), some (.inl x7), some (.inl x8), some (.inl x9), some (.inl x10), none, some (.inr (.inl x12)), none, none], [.inl s0]) σ := by
  intro x1 x2 x4 x6 x7 x8 x9 x10 x12 s0 σ h
  unfold F_X12_drawn_b222 at h
  refine Wp.run (WpD.mono _) 1 (q := ((226, [some (.inr (.inr (12, 0))), some (.inl x1), some (.inl x2), none, some (.inl x4), none, some (.inl x6), some (.inl x7), some (.inl x8), some (.inl x9), some (.inl x10), some (.inl s0), some (.inr (.inl x12)), none, none], [.inl s0]), σ)) rfl ?_
  refine Wp.if0_eq (WpD.mono _) rfl rfl (fun hc => ?_) (fun hc => ?_)
  · have h := (if_pos hc).symm.trans h
    show Wp (WpD (e + 25)) hcX12_drawn Q (299, [some (.inr (.inr (12, 0))), some (.inl x1), some (.inl x2), none, some (.inl x4), none, some (.inl x6), some (.inl x7), some (.inl x8), some (.inl x9), some (.inl x10), some (.inl s0), some (.inr (.inl x12)), none, none], []) σ
    refine Wp.run (WpD.mono _) 0 (q := ((128, [some (.inr (.inr (12, 0))), some (.inl x1), some (.inl x2), none, some (.inl x4), none, some (.inl x6), some (.inl x7), some (.inl x8), some (.inl x9), some (.inl x10), some (.inl s0), none, none, none], []), σ)) rfl ?_
    exact Wp.jump (WpD.mono _) rfl (hk128 x1 x2 x4 x6 x7 x8 x9 x10 s0 σ h)
  · have h := (if_neg hc).symm.trans h
    show Wp (WpD (e + 25)) hcX12_drawn Q (229, [some (.inr (.inr (12, 0))), some (.inl x1), some (.inl x2), none, some (.inl x4), none, some (.inl x6), some (.inl x7), some (.inl x8), some (.inl x9), some (.inl x10), some (.inl s0), some (.inr (.inl x12)), none, none], []) σ
    refine Wp.run (WpD.mono _) 2 (q := ((233, [some (.inr (.inr (12, 0))), some (.inl x1), some (.inl x2), none, some (.inl x4), none, some (.inl x6), some (.inl x7), some (.inl x8), some (.inl x9), some (.inl x10), some (.inl s0), some (.inr (.inl x12)), none, none], [.inr (.inl x12), .inl (0 : Int32), .inr (.inr (12, 0))]), σ)) rfl ?_
    obtain ⟨q12, hb, h⟩ := bind_some h
    refine Wp.call (WpD.mono _) rfl (T_X12_below (e + 23) N (0 : Int32) x12 σ _ _ _ hb ?_)
    show Wp (WpD (e + 25)) hcX12_drawn Q (236, [some (.inr (.inr (12, 0))), some (.inl x1), some (.inl x2), none, some (.inl x4), none, some (.inl x6), some (.inl x7), some (.inl x8), some (.inl x9), some (.inl x10), some (.inl s0), some (.inr (.inl x12)), none, none], []) q12.2
    refine Wp.run (WpD.mono _) 1 (q := ((239, [some (.inr (.inr (12, 0))), some (.inl x1), some (.inl x2), none, some (.inl x4), none, some (.inl x6), some (.inl x7), some (.inl x8), some (.inl x9), some (.inl x10), some (.inl s0), some (.inr (.inl x12)), none, some (.inl (0 : Int32))], []), q12.2)) rfl ?_
    exact Wp.jump (WpD.mono _) rfl ((T_X12_drawn_b239 e N k128 r τ Q hQ hk128 N) x1 x2 x4 x6 x7 x8 x9 x10 s0 (0 : Int32) q12.2 h)

set_option maxRecDepth 100000 in
set_option maxHeartbeats 4000000 in
theorem T_X12_drawn_b302 (e N : Nat)   (r : Int32) (τ : Mem) (Q : Pst) (hQ : Q (some (.inl r)) τ) : ∀ (x4 : Int32) (x7 : Int32) (x8 : Int32) (x10 : Int32) (σ : Mem), F_X12_drawn_b302 N x4 x7 x8 x10 σ = some (r, τ) → Wp (WpD (e + 25)) hcX12_drawn Q (302, [none, none, none, none, some (.inl x4), none, none, some (.inl x7), some (.inl x8), none, some (.inl x10), none, none, none, none], []) σ := by
  intro x4 x7 x8 x10 σ h
  unfold F_X12_drawn_b302 at h
  refine Wp.run (WpD.mono _) 0 (q := ((304, [none, none, none, none, some (.inl x4), none, none, some (.inl x7), some (.inl x8), none, some (.inl x10), none, none, none, none], [.inl x4]), σ)) rfl ?_
  refine Wp.if0_ne (WpD.mono _) rfl rfl (fun hc => ?_) (fun hc => ?_)
  · have h := (if_pos hc).symm.trans h
    show Wp (WpD (e + 25)) hcX12_drawn Q (307, [none, none, none, none, some (.inl x4), none, none, some (.inl x7), some (.inl x8), none, some (.inl x10), none, none, none, none], []) σ
    refine Wp.run (WpD.mono _) 1 (q := ((325, [none, none, none, none, some (.inl x4), none, none, some (.inl x7), some (.inl x8), none, some (.inl x10), none, none, none, none], [.inl x8]), σ)) rfl ?_
    obtain ⟨rfl, rfl⟩ := ret_inj h
    exact Wp.ret (WpD.mono _) rfl hQ
  · have h := (if_neg hc).symm.trans h
    show Wp (WpD (e + 25)) hcX12_drawn Q (312, [none, none, none, none, some (.inl x4), none, none, some (.inl x7), some (.inl x8), none, some (.inl x10), none, none, none, none], []) σ
    refine Wp.run (WpD.mono _) 1 (q := ((315, [none, none, none, none, some (.inl x4), none, none, some (.inl x7), some (.inl x8), none, some (.inl x10), none, none, none, none], [.inl (1 : Int32), .inl x4]), σ)) rfl ?_
    refine Wp.if2_ne (WpD.mono _) rfl rfl (fun hc => ?_) (fun hc => ?_)
    · have h := (if_pos hc).symm.trans h
      show Wp (WpD (e + 25)) hcX12_drawn Q (318, [none, none, none, none, some (.inl x4), none, none, some (.inl x7), some (.inl x8), none, some (.inl x10), none, none, none, none], []) σ
      refine Wp.run (WpD.mono _) 1 (q := ((325, [none, none, none, none, some (.inl x4), none, none, some (.inl x7), some (.inl x8), none, some (.inl x10), none, none, none, none], [.inl x10]), σ)) rfl ?_
      obtain ⟨rfl, rfl⟩ := ret_inj h
      exact Wp.ret (WpD.mono _) rfl hQ
    · have h := (if_neg hc).symm.trans h
      show Wp (WpD (e + 25)) hcX12_drawn Q (323, [none, none, none, none, some (.inl x4), none, none, some (.inl x7), some (.inl x8), none, some (.inl x10), none, none, none, none], []) σ
      refine Wp.run (WpD.mono _) 0 (q := ((325, [none, none, none, none, some (.inl x4), none, none, some (.inl x7), some (.inl x8), none, some (.inl x10), none, none, none, none], [.inl x7]), σ)) rfl ?_
      obtain ⟨rfl, rfl⟩ := ret_inj h
      exact Wp.ret (WpD.mono _) rfl hQ

set_option maxRecDepth 100000 in
set_option maxHeartbeats 4000000 in
theorem T_X12_drawn_b128 (e N : Nat)   (r : Int32) (τ : Mem) (Q : Pst) (hQ : Q (some (.inl r)) τ) : ∀ n, ∀ (x1 : Int32) (x2 : Int32) (x4 : Int32) (x6 : Int32) (x7 : Int32) (x8 : Int32) (x9 : Int32) (x10 : Int32) (x11 : Int32) (σ : Mem), F_X12_drawn_b128 N n x1 x2 x4 x6 x7 x8 x9 x10 x11 σ = some (r, τ) → Wp (WpD (e + 25)) hcX12_drawn Q (128, [some (.inr (.inr (12, 0))), some (.inl x1), some (.inl x2), none, some (.inl x4), none, some (.inl x6), some (.inl x7), some (.inl x8), some (.inl x9), some (.inl x10), some (.inl x11), none, none, none], []) σ := by
  intro n
  induction n with
  | zero => intro x1 x2 x4 x6 x7 x8 x9 x10 x11 σ h; cases h
  | succ n ih =>
    intro x1 x2 x4 x6 x7 x8 x9 x10 x11 σ h
    unfold F_X12_drawn_b128 at h
    refine Wp.run (WpD.mono _) 0 (q := ((130, [some (.inr (.inr (12, 0))), some (.inl x1), some (.inl x2), none, some (.inl x4), none, some (.inl x6), some (.inl x7), some (.inl x8), some (.inl x9), some (.inl x10), some (.inl x11), none, none, none], [.inl x11]), σ)) rfl ?_
    refine Wp.if0_eq (WpD.mono _) rfl rfl (fun hc => ?_) (fun hc => ?_)
    · have h := (if_pos hc).symm.trans h
      show Wp (WpD (e + 25)) hcX12_drawn Q (302, [some (.inr (.inr (12, 0))), some (.inl x1), some (.inl x2), none, some (.inl x4), none, some (.inl x6), some (.inl x7), some (.inl x8), some (.inl x9), some (.inl x10), some (.inl x11), none, none, none], []) σ
      exact Wp.jump (WpD.mono _) rfl ((T_X12_drawn_b302 e N  r τ Q hQ ) x4 x7 x8 x10 σ h)
    · have h := (if_neg hc).symm.trans h
      show Wp (WpD (e + 25)) hcX12_drawn Q (133, [some (.inr (.inr (12, 0))), some (.inl x1), some (.inl x2), none, some (.inl x4), none, some (.inl x6), some (.inl x7), some (.inl x8), some (.inl x9), some (.inl x10), some (.inl x11), none, none, none], []) σ
      refine Wp.run (WpD.mono _) 1 (q := ((136, [some (.inr (.inr (12, 0))), some (.inl x1), some (.inl x2), none, some (.inl x4), none, some (.inl x6), some (.inl x7), some (.inl x8), some (.inl x9), some (.inl x10), some (.inl x11), none, none, none], [.inl (Int32.ofInt (-1)), .inl x10]), σ)) rfl ?_
      refine Wp.if2_ne (WpD.mono _) rfl rfl (fun hc => ?_) (fun hc => ?_)
      · have h := (if_pos hc).symm.trans h
        show Wp (WpD (e + 25)) hcX12_drawn Q (139, [some (.inr (.inr (12, 0))), some (.inl x1), some (.inl x2), none, some (.inl x4), none, some (.inl x6), some (.inl x7), some (.inl x8), some (.inl x9), some (.inl x10), some (.inl x11), none, none, none], []) σ
        refine Wp.run (WpD.mono _) 4 (q := ((146, [some (.inr (.inr (12, 0))), some (.inl x1), some (.inl x2), none, some (.inl x4), none, some (.inl x6), some (.inl x7), some (.inl x8), some (.inl x9), some (.inl x10), some (.inl x11), none, none, none], [.inl (0 : Int32), .inl x9, .inl x7, .inl x1, .inr (.inr (12, 0))]), σ)) rfl ?_
        obtain ⟨q7, hb, h⟩ := bind_some h
        refine Wp.call (WpD.mono _) rfl (T_X12_doesDig (e + 0) N x1 x7 x9 (0 : Int32) σ _ _ _ hb ?_)
        show Wp (WpD (e + 25)) hcX12_drawn Q (149, [some (.inr (.inr (12, 0))), some (.inl x1), some (.inl x2), none, some (.inl x4), none, some (.inl x6), some (.inl x7), some (.inl x8), some (.inl x9), some (.inl x10), some (.inl x11), none, none, none], [.inl q7.1]) q7.2
        refine Wp.if0_eq (WpD.mono _) rfl rfl (fun hc => ?_) (fun hc => ?_)
        · have h := (if_pos hc).symm.trans h
          show Wp (WpD (e + 25)) hcX12_drawn Q (302, [some (.inr (.inr (12, 0))), some (.inl x1), some (.inl x2), none, some (.inl x4), none, some (.inl x6), some (.inl x7), some (.inl x8), some (.inl x9), some (.inl x10), some (.inl x11), none, none, none], []) q7.2
          exact Wp.jump (WpD.mono _) rfl ((T_X12_drawn_b302 e N  r τ Q hQ ) x4 x7 x8 x10 q7.2 h)
        · have h := (if_neg hc).symm.trans h
          show Wp (WpD (e + 25)) hcX12_drawn Q (152, [some (.inr (.inr (12, 0))), some (.inl x1), some (.inl x2), none, some (.inl x4), none, some (.inl x6), some (.inl x7), some (.inl x8), some (.inl x9), some (.inl x10), some (.inl x11), none, none, none], []) q7.2
          refine Wp.run (WpD.mono _) 3 (q := ((160, [some (.inr (.inr (12, 0))), some (.inl x1), some (.inl x2), none, some (.inl x4), none, some (.inl x6), some (.inl (x7 + (1 : Int32))), some (.inl x8), some (.inl x9), some (.inl x10), some (.inl x11), none, none, none], [.inl (x7 + (1 : Int32)), .inr (.inr (12, 0)), .inl x8]), q7.2)) rfl ?_
          obtain ⟨q8, hb, h⟩ := bind_some h
          refine Wp.call (WpD.mono _) rfl (T_X12_costOf (e + 22) N (x7 + (1 : Int32)) q7.2 _ _ _ hb ?_)
          show Wp (WpD (e + 25)) hcX12_drawn Q (163, [some (.inr (.inr (12, 0))), some (.inl x1), some (.inl x2), none, some (.inl x4), none, some (.inl x6), some (.inl (x7 + (1 : Int32))), some (.inl x8), some (.inl x9), some (.inl x10), some (.inl x11), none, none, none], [.inl q8.1, .inl x8]) q8.2
          refine Wp.run (WpD.mono _) 3 (q := ((169, [some (.inr (.inr (12, 0))), some (.inl x1), some (.inl x2), none, some (.inl x4), none, some (.inl x6), some (.inl (x7 + (1 : Int32))), some (.inl (x8 + q8.1)), some (.inl x9), some (.inl x10), some (.inl x11), none, none, none], [.inl (100 : Int32), .inr (.inr (12, 0))]), q8.2)) rfl ?_
          obtain ⟨q9, hb, h⟩ := bind_some h
          refine Wp.call (WpD.mono _) rfl (T_X12_draws (e + 24) N (100 : Int32) q8.2 _ _ _ hb ?_)
          show Wp (WpD (e + 25)) hcX12_drawn Q (172, [some (.inr (.inr (12, 0))), some (.inl x1), some (.inl x2), none, some (.inl x4), none, some (.inl x6), some (.inl (x7 + (1 : Int32))), some (.inl (x8 + q8.1)), some (.inl x9), some (.inl x10), some (.inl x11), none, none, none], [.inl q9.1]) q9.2
          refine Wp.run (WpD.mono _) 2 (q := ((177, [some (.inr (.inr (12, 0))), some (.inl x1), some (.inl x2), none, some (.inl x4), none, some (.inl x6), some (.inl (x7 + (1 : Int32))), some (.inl (x8 + q8.1)), some (.inl x9), some (.inl x10), some (.inl x11), none, none, none], [.inl x6, .inl (x7 + (1 : Int32)), .inr (.inr (12, 0)), .inl q9.1]), q9.2)) rfl ?_
          obtain ⟨q10, hb, h⟩ := bind_some h
          refine Wp.call (WpD.mono _) rfl (T_X12_waterOf (e + 22) N (x7 + (1 : Int32)) x6 q9.2 _ _ _ hb ?_)
          show Wp (WpD (e + 25)) hcX12_drawn Q (180, [some (.inr (.inr (12, 0))), some (.inl x1), some (.inl x2), none, some (.inl x4), none, some (.inl x6), some (.inl (x7 + (1 : Int32))), some (.inl (x8 + q8.1)), some (.inl x9), some (.inl x10), some (.inl x11), none, none, none], [.inl q10.1, .inl q9.1]) q10.2
          refine Wp.if2_ge (WpD.mono _) rfl rfl (fun hc => ?_) (fun hc => ?_)
          · have h := (if_pos hc).symm.trans h
            show Wp (WpD (e + 25)) hcX12_drawn Q (190, [some (.inr (.inr (12, 0))), some (.inl x1), some (.inl x2), none, some (.inl x4), none, some (.inl x6), some (.inl (x7 + (1 : Int32))), some (.inl (x8 + q8.1)), some (.inl x9), some (.inl x10), some (.inl x11), none, none, none], []) q10.2
            refine Wp.run (WpD.mono _) 2 (q := ((196, [some (.inr (.inr (12, 0))), some (.inl x1), some (.inl x2), none, some (.inl x4), none, some (.inl x6), some (.inl (x7 + (1 : Int32))), some (.inl (x8 + q8.1)), some (.inl x9), some (.inl x10), some (.inl x11), none, none, none], [.inl x6, .inr (.inr (74, 0))]), q10.2)) rfl ?_
            obtain ⟨hc, h⟩ := ite_nn h
            refine Wp.X_ild1 (WpD.mono _) rfl rfl hc ?_
            show Wp (WpD (e + 25)) hcX12_drawn Q (197, [some (.inr (.inr (12, 0))), some (.inl x1), some (.inl x2), none, some (.inl x4), none, some (.inl x6), some (.inl (x7 + (1 : Int32))), some (.inl (x8 + q8.1)), some (.inl x9), some (.inl x10), some (.inl x11), none, none, none], [.inl (q10.2.2.2.1 74 0 (x6).toNatClampNeg)]) q10.2
            refine Wp.run (WpD.mono _) 4 (q := ((205, [some (.inr (.inr (12, 0))), some (.inl x1), some (.inl x2), none, some (.inl x4), none, some (.inl x6), some (.inl (x7 + (1 : Int32))), some (.inl (x8 + q8.1)), some (.inl (q10.2.2.2.1 74 0 (x6).toNatClampNeg)), some (.inl x10), some (.inl x11), none, none, none], [.inl (q10.2.2.2.1 74 0 (x6).toNatClampNeg), .inl (x7 + (1 : Int32)), .inl (0 : Int32), .inr (.inr (12, 0))]), q10.2)) rfl ?_
            obtain ⟨q11, hb, h⟩ := bind_some h
            refine Wp.call (WpD.mono _) rfl (T_X12_dries (e + 21) N (0 : Int32) (x7 + (1 : Int32)) (q10.2.2.2.1 74 0 (x6).toNatClampNeg) q10.2 _ _ _ hb ?_)
            show Wp (WpD (e + 25)) hcX12_drawn Q (208, [some (.inr (.inr (12, 0))), some (.inl x1), some (.inl x2), none, some (.inl x4), none, some (.inl x6), some (.inl (x7 + (1 : Int32))), some (.inl (x8 + q8.1)), some (.inl (q10.2.2.2.1 74 0 (x6).toNatClampNeg)), some (.inl x10), some (.inl x11), none, none, none], [.inr (.inl q11.1)]) q11.2
            refine Wp.run (WpD.mono _) 3 (q := ((214, [some (.inr (.inr (12, 0))), some (.inl x1), some (.inl x2), none, some (.inl x4), none, some (.inl x6), some (.inl (x7 + (1 : Int32))), some (.inl (x8 + q8.1)), some (.inl (q10.2.2.2.1 74 0 (x6).toNatClampNeg)), some (.inl x10), some (.inl x11), some (.inr (.inl q11.1)), none, none], [.inl (lg_cmp q11.1 (0 : Int64))]), q11.2)) rfl ?_
            refine Wp.if0_le (WpD.mono _) rfl rfl (fun hc => ?_) (fun hc => ?_)
            · have h := (if_pos hc).symm.trans h
              show Wp (WpD (e + 25)) hcX12_drawn Q (221, [some (.inr (.inr (12, 0))), some (.inl x1), some (.inl x2), none, some (.inl x4), none, some (.inl x6), some (.inl (x7 + (1 : Int32))), some (.inl (x8 + q8.1)), some (.inl (q10.2.2.2.1 74 0 (x6).toNatClampNeg)), some (.inl x10), some (.inl x11), some (.inr (.inl q11.1)), none, none], []) q11.2
              refine Wp.run (WpD.mono _) 0 (q := ((222, [some (.inr (.inr (12, 0))), some (.inl x1), some (.inl x2), none, some (.inl x4), none, some (.inl x6), some (.inl (x7 + (1 : Int32))), some (.inl (x8 + q8.1)), some (.inl (q10.2.2.2.1 74 0 (x6).toNatClampNeg)), some (.inl x10), some (.inl x11), some (.inr (.inl q11.1)), none, none], [.inl (0 : Int32)]), q11.2)) rfl ?_
              exact Wp.jump (WpD.mono _) rfl ((T_X12_drawn_b222 e N (F_X12_drawn_b128 N n) r τ Q hQ ih) x1 x2 x4 x6 (x7 + (1 : Int32)) (x8 + q8.1) (q10.2.2.2.1 74 0 (x6).toNatClampNeg) x10 q11.1 (0 : Int32) q11.2 h)
            · have h := (if_neg hc).symm.trans h
              show Wp (WpD (e + 25)) hcX12_drawn Q (217, [some (.inr (.inr (12, 0))), some (.inl x1), some (.inl x2), none, some (.inl x4), none, some (.inl x6), some (.inl (x7 + (1 : Int32))), some (.inl (x8 + q8.1)), some (.inl (q10.2.2.2.1 74 0 (x6).toNatClampNeg)), some (.inl x10), some (.inl x11), some (.inr (.inl q11.1)), none, none], []) q11.2
              refine Wp.run (WpD.mono _) 1 (q := ((222, [some (.inr (.inr (12, 0))), some (.inl x1), some (.inl x2), none, some (.inl x4), none, some (.inl x6), some (.inl (x7 + (1 : Int32))), some (.inl (x8 + q8.1)), some (.inl (q10.2.2.2.1 74 0 (x6).toNatClampNeg)), some (.inl x10), some (.inl x11), some (.inr (.inl q11.1)), none, none], [.inl (1 : Int32)]), q11.2)) rfl ?_
              exact Wp.jump (WpD.mono _) rfl ((T_X12_drawn_b222 e N (F_X12_drawn_b128 N n) r τ Q hQ ih) x1 x2 x4 x6 (x7 + (1 : Int32)) (x8 + q8.1) (q10.2.2.2.1 74 0 (x6).toNatClampNeg) x10 q11.1 (1 : Int32) q11.2 h)
          · have h := (if_neg hc).symm.trans h
            show Wp (WpD (e + 25)) hcX12_drawn Q (183, [some (.inr (.inr (12, 0))), some (.inl x1), some (.inl x2), none, some (.inl x4), none, some (.inl x6), some (.inl (x7 + (1 : Int32))), some (.inl (x8 + q8.1)), some (.inl x9), some (.inl x10), some (.inl x11), none, none, none], []) q10.2
            refine Wp.run (WpD.mono _) 2 (q := ((128, [some (.inr (.inr (12, 0))), some (.inl x1), some (.inl x2), none, some (.inl x4), none, some (.inl x6), some (.inl (x7 + (1 : Int32))), some (.inl (x8 + q8.1)), some (.inl x9), some (.inl (x7 + (1 : Int32))), some (.inl x11), none, none, none], []), q10.2)) rfl ?_
            exact Wp.jump (WpD.mono _) rfl (ih x1 x2 x4 x6 (x7 + (1 : Int32)) (x8 + q8.1) x9 (x7 + (1 : Int32)) x11 q10.2 h)
      · have h := (if_neg hc).symm.trans h
        show Wp (WpD (e + 25)) hcX12_drawn Q (302, [some (.inr (.inr (12, 0))), some (.inl x1), some (.inl x2), none, some (.inl x4), none, some (.inl x6), some (.inl x7), some (.inl x8), some (.inl x9), some (.inl x10), some (.inl x11), none, none, none], []) σ
        exact Wp.jump (WpD.mono _) rfl ((T_X12_drawn_b302 e N  r τ Q hQ ) x4 x7 x8 x10 σ h)

set_option maxRecDepth 100000 in
set_option maxHeartbeats 4000000 in
theorem T_X12_drawn_b105 (e N : Nat)   (r : Int32) (τ : Mem) (Q : Pst) (hQ : Q (some (.inl r)) τ) : ∀ (x1 : Int32) (x2 : Int32) (x4 : Int32) (s0 : Int32) (σ : Mem), F_X12_drawn_b105 N x1 x2 x4 s0 σ = some (r, τ) → Wp (WpD (e + 25)) hcX12_drawn Q (105, [some (.inr (.inr (12, 0))), some (.inl x1), some (.inl x2), none, some (.inl x4), none, none, none, none, none, none, none, none, none, none], [.inl s0]) σ := by
  intro x1 x2 x4 s0 σ h
  unfold F_X12_drawn_b105 at h
  refine Wp.run (WpD.mono _) 3 (q := ((110, [some (.inr (.inr (12, 0))), some (.inl x1), some (.inl x2), none, some (.inl x4), none, some (.inl s0), none, none, none, none, none, none, none, none], [.inl (0 : Int32), .inl x2, .inr (.inr (12, 0))]), σ)) rfl ?_
  obtain ⟨q6, hb, h⟩ := bind_some h
  refine Wp.call (WpD.mono _) rfl (T_X12_begins (e + 24) N x2 (0 : Int32) σ _ _ _ hb ?_)
  show Wp (WpD (e + 25)) hcX12_drawn Q (113, [some (.inr (.inr (12, 0))), some (.inl x1), some (.inl x2), none, some (.inl x4), none, some (.inl s0), none, none, none, none, none, none, none, none], []) q6.2
  refine Wp.run (WpD.mono _) 9 (q := ((128, [some (.inr (.inr (12, 0))), some (.inl x1), some (.inl x2), none, some (.inl x4), none, some (.inl s0), some (.inl (0 : Int32)), some (.inl (0 : Int32)), some (.inl (Int32.ofInt (-1))), some (.inl (Int32.ofInt (-1))), some (.inl (1 : Int32)), none, none, none], []), q6.2)) rfl ?_
  exact Wp.jump (WpD.mono _) rfl ((T_X12_drawn_b128 e N  r τ Q hQ  N) x1 x2 x4 s0 (0 : Int32) (0 : Int32) (Int32.ofInt (-1)) (Int32.ofInt (-1)) (1 : Int32) q6.2 h)

set_option maxRecDepth 100000 in
set_option maxHeartbeats 4000000 in
theorem T_X12_drawn_b57 (e N : Nat)   (r : Int32) (τ : Mem) (Q : Pst) (hQ : Q (some (.inl r)) τ) : ∀ n, ∀ (x1 : Int32) (x2 : Int32) (x4 : Int32) (x5 : Int32) (x6 : Int32) (σ : Mem), F_X12_drawn_b57 N n x1 x2 x4 x5 x6 σ = some (r, τ) → Wp (WpD (e + 25)) hcX12_drawn Q (57, [some (.inr (.inr (12, 0))), some (.inl x1), some (.inl x2), none, some (.inl x4), some (.inl x5), some (.inl x6), none, none, none, none, none, none, none, none], []) σ := by
  intro n
  induction n with
  | zero => intro x1 x2 x4 x5 x6 σ h; cases h
  | succ n ih =>
    intro x1 x2 x4 x5 x6 σ h
    unfold F_X12_drawn_b57 at h
    refine Wp.run (WpD.mono _) 2 (q := ((63, [some (.inr (.inr (12, 0))), some (.inl x1), some (.inl x2), none, some (.inl x4), some (.inl x5), some (.inl x6), none, none, none, none, none, none, none, none], [.inl (σ.1 12 5), .inl x6]), σ)) rfl ?_
    refine Wp.if2_ge (WpD.mono _) rfl rfl (fun hc => ?_) (fun hc => ?_)
    · have h := (if_pos hc).symm.trans h
      show Wp (WpD (e + 25)) hcX12_drawn Q (88, [some (.inr (.inr (12, 0))), some (.inl x1), some (.inl x2), none, some (.inl x4), some (.inl x5), some (.inl x6), none, none, none, none, none, none, none, none], []) σ
      refine Wp.run (WpD.mono _) 0 (q := ((90, [some (.inr (.inr (12, 0))), some (.inl x1), some (.inl x2), none, some (.inl x4), some (.inl x5), some (.inl x6), none, none, none, none, none, none, none, none], [.inl x5]), σ)) rfl ?_
      refine Wp.if0_ne (WpD.mono _) rfl rfl (fun hc => ?_) (fun hc => ?_)
      · have h := (if_pos hc).symm.trans h
        show Wp (WpD (e + 25)) hcX12_drawn Q (93, [some (.inr (.inr (12, 0))), some (.inl x1), some (.inl x2), none, some (.inl x4), some (.inl x5), some (.inl x6), none, none, none, none, none, none, none, none], []) σ
        refine Wp.run (WpD.mono _) 1 (q := ((105, [some (.inr (.inr (12, 0))), some (.inl x1), some (.inl x2), none, some (.inl x4), some (.inl x5), some (.inl x6), none, none, none, none, none, none, none, none], [.inl (0 : Int32)]), σ)) rfl ?_
        exact Wp.jump (WpD.mono _) rfl ((T_X12_drawn_b105 e N  r τ Q hQ ) x1 x2 x4 (0 : Int32) σ h)
      · have h := (if_neg hc).symm.trans h
        show Wp (WpD (e + 25)) hcX12_drawn Q (97, [some (.inr (.inr (12, 0))), some (.inl x1), some (.inl x2), none, some (.inl x4), some (.inl x5), some (.inl x6), none, none, none, none, none, none, none, none], []) σ
        refine Wp.run (WpD.mono _) 3 (q := ((102, [some (.inr (.inr (12, 0))), some (.inl x1), some (.inl x2), none, some (.inl x4), some (.inl x5), some (.inl x6), none, none, none, none, none, none, none, none], [.inl x5, .inl (Int32.ofInt (-1)), .inl x2, .inr (.inr (12, 0))]), σ)) rfl ?_
        obtain ⟨q5, hb, h⟩ := bind_some h
        refine Wp.call (WpD.mono _) rfl (T_X12_drawsLayer (e + 23) N x2 (Int32.ofInt (-1)) x5 σ _ _ _ hb ?_)
        show Wp (WpD (e + 25)) hcX12_drawn Q (105, [some (.inr (.inr (12, 0))), some (.inl x1), some (.inl x2), none, some (.inl x4), some (.inl x5), some (.inl x6), none, none, none, none, none, none, none, none], [.inl q5.1]) q5.2
        exact Wp.jump (WpD.mono _) rfl ((T_X12_drawn_b105 e N  r τ Q hQ ) x1 x2 x4 q5.1 q5.2 h)
    · have h := (if_neg hc).symm.trans h
      show Wp (WpD (e + 25)) hcX12_drawn Q (66, [some (.inr (.inr (12, 0))), some (.inl x1), some (.inl x2), none, some (.inl x4), some (.inl x5), some (.inl x6), none, none, none, none, none, none, none, none], []) σ
      refine Wp.run (WpD.mono _) 7 (q := ((78, [some (.inr (.inr (12, 0))), some (.inl x1), some (.inl x2), none, some (.inl x4), some (.inl x5), some (.inl x6), none, none, none, none, none, none, none, none], [.inl (((5 : Int32) * x2) + x6), .inr (.inr (76, 0)), .inl x5]), σ)) rfl ?_
      obtain ⟨hc, h⟩ := ite_nn h
      refine Wp.X_ild1 (WpD.mono _) rfl rfl hc ?_
      show Wp (WpD (e + 25)) hcX12_drawn Q (79, [some (.inr (.inr (12, 0))), some (.inl x1), some (.inl x2), none, some (.inl x4), some (.inl x5), some (.inl x6), none, none, none, none, none, none, none, none], [.inl (σ.2.2.1 76 0 ((((5 : Int32) * x2) + x6)).toNatClampNeg), .inl x5]) σ
      refine Wp.run (WpD.mono _) 3 (q := ((57, [some (.inr (.inr (12, 0))), some (.inl x1), some (.inl x2), none, some (.inl x4), some (.inl (x5 + (σ.2.2.1 76 0 ((((5 : Int32) * x2) + x6)).toNatClampNeg))), some (.inl (x6 + (1 : Int32))), none, none, none, none, none, none, none, none], []), σ)) rfl ?_
      exact Wp.jump (WpD.mono _) rfl (ih x1 x2 x4 (x5 + (σ.2.2.1 76 0 ((((5 : Int32) * x2) + x6)).toNatClampNeg)) (x6 + (1 : Int32)) σ h)

set_option maxRecDepth 100000 in
set_option maxHeartbeats 4000000 in
theorem T_X12_drawn (e N : Nat)  (a1 : Int32) (a2 : Int32) (a3 : Int32) (a4 : Int32) (σ : Mem) (r : Int32) (τ : Mem) (Q : Pst) (h : F_X12_drawn N a1 a2 a3 a4 σ = some (r, τ)) (hQ : Q (some (.inl r)) τ) : WpD (e + 26) mX12_drawn [.inr (.inr (12, 0)), .inl a1, .inl a2, .inl a3, .inl a4] σ Q := by
  refine WpD.of (d := e + 25) (Nat.le_of_ble_eq_true rfl) (Nat.le_of_ble_eq_true rfl) ?_
  show Wp (WpD (e + 25)) hcX12_drawn Q (0, [some (.inr (.inr (12, 0))), some (.inl a1), some (.inl a2), some (.inl a3), some (.inl a4), none, none, none, none, none, none, none, none, none, none], []) σ
  unfold F_X12_drawn at h
  refine Wp.run (WpD.mono _) 1 (q := ((2, [some (.inr (.inr (12, 0))), some (.inl a1), some (.inl a2), some (.inl a3), some (.inl a4), none, none, none, none, none, none, none, none, none, none], [.inl a1, .inr (.inr (12, 0))]), σ)) rfl ?_
  obtain ⟨q1, hb, h⟩ := bind_some h
  refine Wp.call (WpD.mono _) rfl (T_X12_isRule (e + 23) N a1 σ _ _ _ hb ?_)
  show Wp (WpD (e + 25)) hcX12_drawn Q (5, [some (.inr (.inr (12, 0))), some (.inl a1), some (.inl a2), some (.inl a3), some (.inl a4), none, none, none, none, none, none, none, none, none, none], [.inl q1.1]) q1.2
  refine Wp.if0_eq (WpD.mono _) rfl rfl (fun hc => ?_) (fun hc => ?_)
  · have h := (if_pos hc).symm.trans h
    show Wp (WpD (e + 25)) hcX12_drawn Q (16, [some (.inr (.inr (12, 0))), some (.inl a1), some (.inl a2), some (.inl a3), some (.inl a4), none, none, none, none, none, none, none, none, none, none], []) q1.2
    refine Wp.run (WpD.mono _) 0 (q := ((18, [none, none, none, none, none, none, none, none, none, none, none, none, none, none, none], [.inl (Int32.ofInt (-5))]), q1.2)) rfl ?_
    obtain ⟨rfl, rfl⟩ := ret_inj h
    exact Wp.ret (WpD.mono _) rfl hQ
  · have h := (if_neg hc).symm.trans h
    show Wp (WpD (e + 25)) hcX12_drawn Q (8, [some (.inr (.inr (12, 0))), some (.inl a1), some (.inl a2), some (.inl a3), some (.inl a4), none, none, none, none, none, none, none, none, none, none], []) q1.2
    refine Wp.run (WpD.mono _) 1 (q := ((10, [some (.inr (.inr (12, 0))), some (.inl a1), some (.inl a2), some (.inl a3), some (.inl a4), none, none, none, none, none, none, none, none, none, none], [.inl a2, .inr (.inr (12, 0))]), q1.2)) rfl ?_
    obtain ⟨q2, hb, h⟩ := bind_some h
    refine Wp.call (WpD.mono _) rfl (T_X12_isPlace (e + 23) N a2 q1.2 _ _ _ hb ?_)
    show Wp (WpD (e + 25)) hcX12_drawn Q (13, [some (.inr (.inr (12, 0))), some (.inl a1), some (.inl a2), some (.inl a3), some (.inl a4), none, none, none, none, none, none, none, none, none, none], [.inl q2.1]) q2.2
    refine Wp.if0_ne (WpD.mono _) rfl rfl (fun hc => ?_) (fun hc => ?_)
    · have h := (if_pos hc).symm.trans h
      show Wp (WpD (e + 25)) hcX12_drawn Q (16, [some (.inr (.inr (12, 0))), some (.inl a1), some (.inl a2), some (.inl a3), some (.inl a4), none, none, none, none, none, none, none, none, none, none], []) q2.2
      refine Wp.run (WpD.mono _) 0 (q := ((18, [none, none, none, none, none, none, none, none, none, none, none, none, none, none, none], [.inl (Int32.ofInt (-5))]), q2.2)) rfl ?_
      obtain ⟨rfl, rfl⟩ := ret_inj h
      exact Wp.ret (WpD.mono _) rfl hQ
    · have h := (if_neg hc).symm.trans h
      show Wp (WpD (e + 25)) hcX12_drawn Q (19, [some (.inr (.inr (12, 0))), some (.inl a1), some (.inl a2), some (.inl a3), some (.inl a4), none, none, none, none, none, none, none, none, none, none], []) q2.2
      refine Wp.run (WpD.mono _) 2 (q := ((24, [some (.inr (.inr (12, 0))), some (.inl a1), some (.inl a2), some (.inl a3), some (.inl a4), none, none, none, none, none, none, none, none, none, none], [.inl (99999 : Int32), .inl (0 : Int32), .inl a3]), q2.2)) rfl ?_
      obtain ⟨q3, hb, h⟩ := bind_some h
      refine Wp.call (WpD.mono _) rfl (T_X12_in (e + 24) N a3 (0 : Int32) (99999 : Int32) q2.2 _ _ _ hb ?_)
      show Wp (WpD (e + 25)) hcX12_drawn Q (27, [some (.inr (.inr (12, 0))), some (.inl a1), some (.inl a2), some (.inl a3), some (.inl a4), none, none, none, none, none, none, none, none, none, none], [.inl q3.1]) q3.2
      refine Wp.if0_eq (WpD.mono _) rfl rfl (fun hc => ?_) (fun hc => ?_)
      · have h := (if_pos hc).symm.trans h
        show Wp (WpD (e + 25)) hcX12_drawn Q (40, [some (.inr (.inr (12, 0))), some (.inl a1), some (.inl a2), some (.inl a3), some (.inl a4), none, none, none, none, none, none, none, none, none, none], []) q3.2
        refine Wp.run (WpD.mono _) 0 (q := ((42, [none, none, none, none, none, none, none, none, none, none, none, none, none, none, none], [.inl (Int32.ofInt (-7))]), q3.2)) rfl ?_
        obtain ⟨rfl, rfl⟩ := ret_inj h
        exact Wp.ret (WpD.mono _) rfl hQ
      · have h := (if_neg hc).symm.trans h
        show Wp (WpD (e + 25)) hcX12_drawn Q (30, [some (.inr (.inr (12, 0))), some (.inl a1), some (.inl a2), some (.inl a3), some (.inl a4), none, none, none, none, none, none, none, none, none, none], []) q3.2
        refine Wp.run (WpD.mono _) 2 (q := ((34, [some (.inr (.inr (12, 0))), some (.inl a1), some (.inl a2), some (.inl a3), some (.inl a4), none, none, none, none, none, none, none, none, none, none], [.inl (2 : Int32), .inl (0 : Int32), .inl a4]), q3.2)) rfl ?_
        obtain ⟨q4, hb, h⟩ := bind_some h
        refine Wp.call (WpD.mono _) rfl (T_X12_in (e + 24) N a4 (0 : Int32) (2 : Int32) q3.2 _ _ _ hb ?_)
        show Wp (WpD (e + 25)) hcX12_drawn Q (37, [some (.inr (.inr (12, 0))), some (.inl a1), some (.inl a2), some (.inl a3), some (.inl a4), none, none, none, none, none, none, none, none, none, none], [.inl q4.1]) q4.2
        refine Wp.if0_ne (WpD.mono _) rfl rfl (fun hc => ?_) (fun hc => ?_)
        · have h := (if_pos hc).symm.trans h
          show Wp (WpD (e + 25)) hcX12_drawn Q (40, [some (.inr (.inr (12, 0))), some (.inl a1), some (.inl a2), some (.inl a3), some (.inl a4), none, none, none, none, none, none, none, none, none, none], []) q4.2
          refine Wp.run (WpD.mono _) 0 (q := ((42, [none, none, none, none, none, none, none, none, none, none, none, none, none, none, none], [.inl (Int32.ofInt (-7))]), q4.2)) rfl ?_
          obtain ⟨rfl, rfl⟩ := ret_inj h
          exact Wp.ret (WpD.mono _) rfl hQ
        · have h := (if_neg hc).symm.trans h
          show Wp (WpD (e + 25)) hcX12_drawn Q (43, [some (.inr (.inr (12, 0))), some (.inl a1), some (.inl a2), some (.inl a3), some (.inl a4), none, none, none, none, none, none, none, none, none, none], []) q4.2
          refine Wp.run (WpD.mono _) 9 (q := ((57, [some (.inr (.inr (12, 0))), some (.inl a1), some (.inl a2), some (.inl a3), some (.inl a4), some (.inl (0 : Int32)), some (.inl (0 : Int32)), none, none, none, none, none, none, none, none], []), (q4.2.1, (hwU2 q4.2.2.1 12 61 (a3.toInt64 + (1 : Int64))), q4.2.2.2.1, q4.2.2.2.2.1, q4.2.2.2.2.2))) rfl ?_
          exact Wp.jump (WpD.mono _) rfl ((T_X12_drawn_b57 e N  r τ Q hQ  N) a1 a2 a4 (0 : Int32) (0 : Int32) (q4.2.1, (hwU2 q4.2.2.1 12 61 (a3.toInt64 + (1 : Int64))), q4.2.2.2.1, q4.2.2.2.2.1, q4.2.2.2.2.2) h)

set_option maxRecDepth 100000 in
set_option maxHeartbeats 4000000 in
theorem T_X12_letters_b59 (e N : Nat)  (k4 : Int64 → Int32 → Mem → Option (Int64 × Mem)) (r : Int64) (τ : Mem) (Q : Pst) (hQ : Q (some (.inr (.inl r))) τ) (hk4 : ∀ (x1 : Int64) (x3 : Int32) (σ : Mem), k4 x1 x3 σ = some (r, τ) → Wp (WpD (e + 1)) hcX12_letters Q (4, [some (.inr (.inr (12, 0))), some (.inr (.inl x1)), none, some (.inl x3)], []) σ) : ∀ (x3 : Int32) (s0 : Int64) (σ : Mem), F_X12_letters_b59 N k4 x3 s0 σ = some (r, τ) → Wp (WpD (e + 1)) hcX12_letters Q (59, [some (.inr (.inr (12, 0))), none, none, some (.inl x3)], [.inr (.inl s0)]) σ := by
  intro x3 s0 σ h
  unfold F_X12_letters_b59 at h
  refine Wp.run (WpD.mono _) 8 (q := ((4, [some (.inr (.inr (12, 0))), some (.inr (.inl s0)), none, some (.inl (x3 + (1 : Int32)))], []), ((hwU2 σ.1 12 42 ((σ.1 12 42) + (1 : Int32))), σ.2.1, σ.2.2.1, σ.2.2.2.1, σ.2.2.2.2))) rfl ?_
  exact Wp.jump (WpD.mono _) rfl (hk4 s0 (x3 + (1 : Int32)) ((hwU2 σ.1 12 42 ((σ.1 12 42) + (1 : Int32))), σ.2.1, σ.2.2.1, σ.2.2.2.1, σ.2.2.2.2) h)

set_option maxRecDepth 100000 in
set_option maxHeartbeats 4000000 in
theorem T_X12_letters_b76 (e N : Nat)   (r : Int64) (τ : Mem) (Q : Pst) (hQ : Q (some (.inr (.inl r))) τ) : ∀ (x1 : Int64) (x3 : Int32) (σ : Mem), F_X12_letters_b76 N x1 x3 σ = some (r, τ) → Wp (WpD (e + 1)) hcX12_letters Q (76, [none, some (.inr (.inl x1)), none, some (.inl x3)], []) σ := by
  intro x1 x3 σ h
  unfold F_X12_letters_b76 at h
  refine Wp.run (WpD.mono _) 1 (q := ((79, [none, some (.inr (.inl x1)), none, some (.inl x3)], [.inl (6 : Int32), .inl x3]), σ)) rfl ?_
  refine Wp.if2_le (WpD.mono _) rfl rfl (fun hc => ?_) (fun hc => ?_)
  · have h := (if_pos hc).symm.trans h
    show Wp (WpD (e + 1)) hcX12_letters Q (86, [none, some (.inr (.inl x1)), none, some (.inl x3)], []) σ
    refine Wp.run (WpD.mono _) 0 (q := ((87, [none, some (.inr (.inl x1)), none, some (.inl x3)], [.inr (.inl x1)]), σ)) rfl ?_
    obtain ⟨rfl, rfl⟩ := ret_inj h
    exact Wp.ret (WpD.mono _) rfl hQ
  · have h := (if_neg hc).symm.trans h
    show Wp (WpD (e + 1)) hcX12_letters Q (82, [none, some (.inr (.inl x1)), none, some (.inl x3)], []) σ
    refine Wp.run (WpD.mono _) 1 (q := ((87, [none, some (.inr (.inl x1)), none, some (.inl x3)], [.inr (.inl (0 : Int64))]), σ)) rfl ?_
    obtain ⟨rfl, rfl⟩ := ret_inj h
    exact Wp.ret (WpD.mono _) rfl hQ

set_option maxRecDepth 100000 in
set_option maxHeartbeats 4000000 in
theorem T_X12_letters_b4 (e N : Nat)   (r : Int64) (τ : Mem) (Q : Pst) (hQ : Q (some (.inr (.inl r))) τ) : ∀ n, ∀ (x1 : Int64) (x3 : Int32) (σ : Mem), F_X12_letters_b4 N n x1 x3 σ = some (r, τ) → Wp (WpD (e + 1)) hcX12_letters Q (4, [some (.inr (.inr (12, 0))), some (.inr (.inl x1)), none, some (.inl x3)], []) σ := by
  intro n
  induction n with
  | zero => intro x1 x3 σ h; cases h
  | succ n ih =>
    intro x1 x3 σ h
    unfold F_X12_letters_b4 at h
    refine Wp.run (WpD.mono _) 3 (q := ((12, [some (.inr (.inr (12, 0))), some (.inr (.inl x1)), none, some (.inl x3)], [.inl (σ.1 12 24), .inl (σ.1 12 42)]), σ)) rfl ?_
    refine Wp.if2_ge (WpD.mono _) rfl rfl (fun hc => ?_) (fun hc => ?_)
    · have h := (if_pos hc).symm.trans h
      show Wp (WpD (e + 1)) hcX12_letters Q (76, [some (.inr (.inr (12, 0))), some (.inr (.inl x1)), none, some (.inl x3)], []) σ
      exact Wp.jump (WpD.mono _) rfl ((T_X12_letters_b76 e N  r τ Q hQ ) x1 x3 σ h)
    · have h := (if_neg hc).symm.trans h
      show Wp (WpD (e + 1)) hcX12_letters Q (15, [some (.inr (.inr (12, 0))), some (.inr (.inl x1)), none, some (.inl x3)], []) σ
      refine Wp.run (WpD.mono _) 3 (q := ((23, [some (.inr (.inr (12, 0))), some (.inr (.inl x1)), none, some (.inl x3)], [.inl (σ.1 12 42), .inr (.inr (86, 0))]), σ)) rfl ?_
      obtain ⟨hc, h⟩ := ite_nn h
      refine Wp.X_ild1 (WpD.mono _) rfl rfl hc ?_
      show Wp (WpD (e + 1)) hcX12_letters Q (24, [some (.inr (.inr (12, 0))), some (.inr (.inl x1)), none, some (.inl x3)], [.inl (σ.2.2.1 86 0 ((σ.1 12 42)).toNatClampNeg)]) σ
      refine Wp.run (WpD.mono _) 1 (q := ((28, [some (.inr (.inr (12, 0))), some (.inr (.inl x1)), none, some (.inl x3)], [.inl (122 : Int32), .inl (97 : Int32), .inl (σ.2.2.1 86 0 ((σ.1 12 42)).toNatClampNeg)]), σ)) rfl ?_
      obtain ⟨q1, hb, h⟩ := bind_some h
      refine Wp.call (WpD.mono _) rfl (T_X12_in (e + 0) N (σ.2.2.1 86 0 ((σ.1 12 42)).toNatClampNeg) (97 : Int32) (122 : Int32) σ _ _ _ hb ?_)
      show Wp (WpD (e + 1)) hcX12_letters Q (31, [some (.inr (.inr (12, 0))), some (.inr (.inl x1)), none, some (.inl x3)], [.inl q1.1]) q1.2
      refine Wp.if0_eq (WpD.mono _) rfl rfl (fun hc => ?_) (fun hc => ?_)
      · have h := (if_pos hc).symm.trans h
        show Wp (WpD (e + 1)) hcX12_letters Q (76, [some (.inr (.inr (12, 0))), some (.inr (.inl x1)), none, some (.inl x3)], []) q1.2
        exact Wp.jump (WpD.mono _) rfl ((T_X12_letters_b76 e N  r τ Q hQ ) x1 x3 q1.2 h)
      · have h := (if_neg hc).symm.trans h
        show Wp (WpD (e + 1)) hcX12_letters Q (34, [some (.inr (.inr (12, 0))), some (.inr (.inl x1)), none, some (.inl x3)], []) q1.2
        refine Wp.run (WpD.mono _) 1 (q := ((37, [some (.inr (.inr (12, 0))), some (.inr (.inl x1)), none, some (.inl x3)], [.inl (8 : Int32), .inl x3]), q1.2)) rfl ?_
        refine Wp.if2_ge (WpD.mono _) rfl rfl (fun hc => ?_) (fun hc => ?_)
        · have h := (if_pos hc).symm.trans h
          show Wp (WpD (e + 1)) hcX12_letters Q (58, [some (.inr (.inr (12, 0))), some (.inr (.inl x1)), none, some (.inl x3)], []) q1.2
          refine Wp.run (WpD.mono _) 0 (q := ((59, [some (.inr (.inr (12, 0))), some (.inr (.inl x1)), none, some (.inl x3)], [.inr (.inl x1)]), q1.2)) rfl ?_
          exact Wp.jump (WpD.mono _) rfl ((T_X12_letters_b59 e N (F_X12_letters_b4 N n) r τ Q hQ ih) x3 x1 q1.2 h)
        · have h := (if_neg hc).symm.trans h
          show Wp (WpD (e + 1)) hcX12_letters Q (40, [some (.inr (.inr (12, 0))), some (.inr (.inl x1)), none, some (.inl x3)], []) q1.2
          refine Wp.run (WpD.mono _) 6 (q := ((52, [some (.inr (.inr (12, 0))), some (.inr (.inl x1)), none, some (.inl x3)], [.inl (q1.2.1 12 42), .inr (.inr (86, 0)), .inr (.inl (x1 <<< (((8 : Int32)).toInt64 &&& 63)))]), q1.2)) rfl ?_
          obtain ⟨hc, h⟩ := ite_nn h
          refine Wp.X_ild1 (WpD.mono _) rfl rfl hc ?_
          show Wp (WpD (e + 1)) hcX12_letters Q (53, [some (.inr (.inr (12, 0))), some (.inr (.inl x1)), none, some (.inl x3)], [.inl (q1.2.2.2.1 86 0 ((q1.2.1 12 42)).toNatClampNeg), .inr (.inl (x1 <<< (((8 : Int32)).toInt64 &&& 63)))]) q1.2
          refine Wp.run (WpD.mono _) 2 (q := ((59, [some (.inr (.inr (12, 0))), some (.inr (.inl x1)), none, some (.inl x3)], [.inr (.inl ((x1 <<< (((8 : Int32)).toInt64 &&& 63)) ||| (q1.2.2.2.1 86 0 ((q1.2.1 12 42)).toNatClampNeg).toInt64))]), q1.2)) rfl ?_
          exact Wp.jump (WpD.mono _) rfl ((T_X12_letters_b59 e N (F_X12_letters_b4 N n) r τ Q hQ ih) x3 ((x1 <<< (((8 : Int32)).toInt64 &&& 63)) ||| (q1.2.2.2.1 86 0 ((q1.2.1 12 42)).toNatClampNeg).toInt64) q1.2 h)

set_option maxRecDepth 100000 in
set_option maxHeartbeats 4000000 in
theorem T_X12_letters (e N : Nat)   (σ : Mem) (r : Int64) (τ : Mem) (Q : Pst) (h : F_X12_letters N  σ = some (r, τ)) (hQ : Q (some (.inr (.inl r))) τ) : WpD (e + 2) mX12_letters [.inr (.inr (12, 0))] σ Q := by
  refine WpD.of (d := e + 1) (Nat.le_of_ble_eq_true rfl) (Nat.le_of_ble_eq_true rfl) ?_
  show Wp (WpD (e + 1)) hcX12_letters Q (0, [some (.inr (.inr (12, 0))), none, none, none], []) σ
  unfold F_X12_letters at h
  refine Wp.run (WpD.mono _) 3 (q := ((4, [some (.inr (.inr (12, 0))), some (.inr (.inl (0 : Int64))), none, some (.inl (0 : Int32))], []), σ)) rfl ?_
  exact Wp.jump (WpD.mono _) rfl ((T_X12_letters_b4 e N  r τ Q hQ  N) (0 : Int64) (0 : Int32) σ h)

set_option maxRecDepth 100000 in
set_option maxHeartbeats 4000000 in
theorem T_X12_nextToken_b176 (e N : Nat)   (r : Unit) (τ : Mem) (Q : Pst) (hQ : Q (none) τ) : ∀ (x4 : Int32) (s0 : Int32) (σ : Mem), F_X12_nextToken_b176 N x4 s0 σ = some (r, τ) → Wp (WpD (e + 2)) hcX12_nextToken Q (176, [some (.inr (.inr (12, 0))), none, none, none, some (.inl x4)], [.inl s0, .inr (.inr (12, 0))]) σ := by
  intro x4 s0 σ h
  unfold F_X12_nextToken_b176 at h
  refine Wp.run (WpD.mono _) 3 (q := ((183, [some (.inr (.inr (12, 0))), none, none, none, some (.inl x4)], [.inl (3 : Int32), .inl x4, .inr (.inr (12, 0))]), ((hwU2 σ.1 12 44 s0), σ.2.1, σ.2.2.1, σ.2.2.2.1, σ.2.2.2.2))) rfl ?_
  refine Wp.if2_ge (WpD.mono _) rfl rfl (fun hc => ?_) (fun hc => ?_)
  · have h := (if_pos hc).symm.trans h
    show Wp (WpD (e + 2)) hcX12_nextToken Q (191, [some (.inr (.inr (12, 0))), none, none, none, some (.inl x4)], [.inr (.inr (12, 0))]) ((hwU2 σ.1 12 44 s0), σ.2.1, σ.2.2.1, σ.2.2.2.1, σ.2.2.2.2)
    refine Wp.run (WpD.mono _) 4 (q := ((387, [none, none, none, none, none], []), ((hwU2 (hwU2 σ.1 12 44 s0) 12 45 (x4 - (3 : Int32))), σ.2.1, σ.2.2.1, σ.2.2.2.1, σ.2.2.2.2))) rfl ?_
    obtain ⟨rfl, rfl⟩ := ret_inj h
    exact Wp.ret (WpD.mono _) rfl hQ
  · have h := (if_neg hc).symm.trans h
    show Wp (WpD (e + 2)) hcX12_nextToken Q (186, [some (.inr (.inr (12, 0))), none, none, none, some (.inl x4)], [.inr (.inr (12, 0))]) ((hwU2 σ.1 12 44 s0), σ.2.1, σ.2.2.1, σ.2.2.2.1, σ.2.2.2.2)
    refine Wp.run (WpD.mono _) 3 (q := ((387, [none, none, none, none, none], []), ((hwU2 (hwU2 σ.1 12 44 s0) 12 45 x4), σ.2.1, σ.2.2.1, σ.2.2.2.1, σ.2.2.2.2))) rfl ?_
    obtain ⟨rfl, rfl⟩ := ret_inj h
    exact Wp.ret (WpD.mono _) rfl hQ

set_option maxRecDepth 100000 in
set_option maxHeartbeats 4000000 in
theorem T_X12_nextToken_b136 (e N : Nat)   (r : Unit) (τ : Mem) (Q : Pst) (hQ : Q (none) τ) : ∀ (x4 : Int32) (σ : Mem), F_X12_nextToken_b136 N x4 σ = some (r, τ) → Wp (WpD (e + 2)) hcX12_nextToken Q (136, [some (.inr (.inr (12, 0))), none, none, none, some (.inl x4)], []) σ := by
  intro x4 σ h
  unfold F_X12_nextToken_b136 at h
  refine Wp.run (WpD.mono _) 2 (q := ((140, [some (.inr (.inr (12, 0))), none, none, none, some (.inl x4)], [.inl (3 : Int32), .inl x4, .inr (.inr (12, 0))]), σ)) rfl ?_
  refine Wp.if2_ge (WpD.mono _) rfl rfl (fun hc => ?_) (fun hc => ?_)
  · have h := (if_pos hc).symm.trans h
    show Wp (WpD (e + 2)) hcX12_nextToken Q (147, [some (.inr (.inr (12, 0))), none, none, none, some (.inl x4)], [.inr (.inr (12, 0))]) σ
    refine Wp.run (WpD.mono _) 1 (q := ((151, [some (.inr (.inr (12, 0))), none, none, none, some (.inl x4)], [.inl (9 : Int32), .inl x4, .inr (.inr (12, 0))]), σ)) rfl ?_
    refine Wp.if2_ge (WpD.mono _) rfl rfl (fun hc => ?_) (fun hc => ?_)
    · have h := (if_pos hc).symm.trans h
      show Wp (WpD (e + 2)) hcX12_nextToken Q (158, [some (.inr (.inr (12, 0))), none, none, none, some (.inl x4)], [.inr (.inr (12, 0))]) σ
      refine Wp.run (WpD.mono _) 1 (q := ((162, [some (.inr (.inr (12, 0))), none, none, none, some (.inl x4)], [.inl (12 : Int32), .inl x4, .inr (.inr (12, 0))]), σ)) rfl ?_
      refine Wp.if2_ne (WpD.mono _) rfl rfl (fun hc => ?_) (fun hc => ?_)
      · have h := (if_pos hc).symm.trans h
        show Wp (WpD (e + 2)) hcX12_nextToken Q (165, [some (.inr (.inr (12, 0))), none, none, none, some (.inl x4)], [.inr (.inr (12, 0))]) σ
        refine Wp.run (WpD.mono _) 1 (q := ((176, [some (.inr (.inr (12, 0))), none, none, none, some (.inl x4)], [.inl (Int32.ofInt (-1)), .inr (.inr (12, 0))]), σ)) rfl ?_
        exact Wp.jump (WpD.mono _) rfl ((T_X12_nextToken_b176 e N  r τ Q hQ ) x4 (Int32.ofInt (-1)) σ h)
      · have h := (if_neg hc).symm.trans h
        show Wp (WpD (e + 2)) hcX12_nextToken Q (169, [some (.inr (.inr (12, 0))), none, none, none, some (.inl x4)], [.inr (.inr (12, 0))]) σ
        refine Wp.run (WpD.mono _) 4 (q := ((176, [some (.inr (.inr (12, 0))), none, none, none, some (.inl x4)], [.inl (((4 : Int32) + x4) - (9 : Int32)), .inr (.inr (12, 0))]), σ)) rfl ?_
        exact Wp.jump (WpD.mono _) rfl ((T_X12_nextToken_b176 e N  r τ Q hQ ) x4 (((4 : Int32) + x4) - (9 : Int32)) σ h)
    · have h := (if_neg hc).symm.trans h
      show Wp (WpD (e + 2)) hcX12_nextToken Q (154, [some (.inr (.inr (12, 0))), none, none, none, some (.inl x4)], [.inr (.inr (12, 0))]) σ
      refine Wp.run (WpD.mono _) 1 (q := ((176, [some (.inr (.inr (12, 0))), none, none, none, some (.inl x4)], [.inl (2 : Int32), .inr (.inr (12, 0))]), σ)) rfl ?_
      exact Wp.jump (WpD.mono _) rfl ((T_X12_nextToken_b176 e N  r τ Q hQ ) x4 (2 : Int32) σ h)
  · have h := (if_neg hc).symm.trans h
    show Wp (WpD (e + 2)) hcX12_nextToken Q (143, [some (.inr (.inr (12, 0))), none, none, none, some (.inl x4)], [.inr (.inr (12, 0))]) σ
    refine Wp.run (WpD.mono _) 1 (q := ((176, [some (.inr (.inr (12, 0))), none, none, none, some (.inl x4)], [.inl (3 : Int32), .inr (.inr (12, 0))]), σ)) rfl ?_
    exact Wp.jump (WpD.mono _) rfl ((T_X12_nextToken_b176 e N  r τ Q hQ ) x4 (3 : Int32) σ h)

set_option maxRecDepth 100000 in
set_option maxHeartbeats 4000000 in
theorem T_X12_nextToken_b111 (e N : Nat)   (r : Unit) (τ : Mem) (Q : Pst) (hQ : Q (none) τ) : ∀ n, ∀ (x2 : Int64) (x4 : Int32) (σ : Mem), F_X12_nextToken_b111 N n x2 x4 σ = some (r, τ) → Wp (WpD (e + 2)) hcX12_nextToken Q (111, [some (.inr (.inr (12, 0))), none, some (.inr (.inl x2)), none, some (.inl x4)], []) σ := by
  intro n
  induction n with
  | zero => intro x2 x4 σ h; cases h
  | succ n ih =>
    intro x2 x4 σ h
    unfold F_X12_nextToken_b111 at h
    refine Wp.run (WpD.mono _) 1 (q := ((115, [some (.inr (.inr (12, 0))), none, some (.inr (.inl x2)), none, some (.inl x4)], [.inl (12 : Int32), .inl x4]), σ)) rfl ?_
    refine Wp.if2_ge (WpD.mono _) rfl rfl (fun hc => ?_) (fun hc => ?_)
    · have h := (if_pos hc).symm.trans h
      show Wp (WpD (e + 2)) hcX12_nextToken Q (136, [some (.inr (.inr (12, 0))), none, some (.inr (.inl x2)), none, some (.inl x4)], []) σ
      exact Wp.jump (WpD.mono _) rfl ((T_X12_nextToken_b136 e N  r τ Q hQ ) x4 σ h)
    · have h := (if_neg hc).symm.trans h
      show Wp (WpD (e + 2)) hcX12_nextToken Q (118, [some (.inr (.inr (12, 0))), none, some (.inr (.inl x2)), none, some (.inl x4)], []) σ
      refine Wp.run (WpD.mono _) 2 (q := ((124, [some (.inr (.inr (12, 0))), none, some (.inr (.inl x2)), none, some (.inl x4)], [.inl x4, .inr (.inr (98, 0))]), σ)) rfl ?_
      obtain ⟨hc, h⟩ := ite_nn h
      refine Wp.X_lld (WpD.mono _) rfl rfl hc ?_
      show Wp (WpD (e + 2)) hcX12_nextToken Q (125, [some (.inr (.inr (12, 0))), none, some (.inr (.inl x2)), none, some (.inl x4)], [.inr (.inl (σ.2.2.2.1 98 0 (x4).toNatClampNeg))]) σ
      refine Wp.run (WpD.mono _) 1 (q := ((127, [some (.inr (.inr (12, 0))), none, some (.inr (.inl x2)), none, some (.inl x4)], [.inl (lg_cmp (σ.2.2.2.1 98 0 (x4).toNatClampNeg) x2)]), σ)) rfl ?_
      refine Wp.if0_eq (WpD.mono _) rfl rfl (fun hc => ?_) (fun hc => ?_)
      · have h := (if_pos hc).symm.trans h
        show Wp (WpD (e + 2)) hcX12_nextToken Q (136, [some (.inr (.inr (12, 0))), none, some (.inr (.inl x2)), none, some (.inl x4)], []) σ
        exact Wp.jump (WpD.mono _) rfl ((T_X12_nextToken_b136 e N  r τ Q hQ ) x4 σ h)
      · have h := (if_neg hc).symm.trans h
        show Wp (WpD (e + 2)) hcX12_nextToken Q (130, [some (.inr (.inr (12, 0))), none, some (.inr (.inl x2)), none, some (.inl x4)], []) σ
        refine Wp.run (WpD.mono _) 1 (q := ((111, [some (.inr (.inr (12, 0))), none, some (.inr (.inl x2)), none, some (.inl (x4 + (1 : Int32)))], []), σ)) rfl ?_
        exact Wp.jump (WpD.mono _) rfl (ih x2 (x4 + (1 : Int32)) σ h)

set_option maxRecDepth 100000 in
set_option maxHeartbeats 4000000 in
theorem T_X12_nextToken_b274 (e N : Nat)  (k214 : Int32 → Mem → Option (Unit × Mem)) (r : Unit) (τ : Mem) (Q : Pst) (hQ : Q (none) τ) (hk214 : ∀ (x2 : Int32) (σ : Mem), k214 x2 σ = some (r, τ) → Wp (WpD (e + 2)) hcX12_nextToken Q (214, [some (.inr (.inr (12, 0))), none, some (.inl x2), none, none], []) σ) : ∀ (x2 : Int32) (s0 : Int32) (σ : Mem), F_X12_nextToken_b274 N k214 x2 s0 σ = some (r, τ) → Wp (WpD (e + 2)) hcX12_nextToken Q (274, [some (.inr (.inr (12, 0))), none, some (.inl x2), none, none], [.inl s0, .inr (.inr (12, 0))]) σ := by
  intro x2 s0 σ h
  unfold F_X12_nextToken_b274 at h
  refine Wp.run (WpD.mono _) 8 (q := ((214, [some (.inr (.inr (12, 0))), none, some (.inl (x2 + (1 : Int32))), none, none], []), ((hwU2 (hwU2 σ.1 12 45 s0) 12 42 ((σ.1 12 42) + (1 : Int32))), σ.2.1, σ.2.2.1, σ.2.2.2.1, σ.2.2.2.2))) rfl ?_
  exact Wp.jump (WpD.mono _) rfl (hk214 (x2 + (1 : Int32)) ((hwU2 (hwU2 σ.1 12 45 s0) 12 42 ((σ.1 12 42) + (1 : Int32))), σ.2.1, σ.2.2.1, σ.2.2.2.1, σ.2.2.2.2) h)

set_option maxRecDepth 100000 in
set_option maxHeartbeats 4000000 in
theorem T_X12_nextToken_b293 (e N : Nat)   (r : Unit) (τ : Mem) (Q : Pst) (hQ : Q (none) τ) : ∀ (x2 : Int32) (σ : Mem), F_X12_nextToken_b293 N x2 σ = some (r, τ) → Wp (WpD (e + 2)) hcX12_nextToken Q (293, [some (.inr (.inr (12, 0))), none, some (.inl x2), none, none], []) σ := by
  intro x2 σ h
  unfold F_X12_nextToken_b293 at h
  refine Wp.run (WpD.mono _) 2 (q := ((296, [some (.inr (.inr (12, 0))), none, some (.inl x2), none, none], [.inl (4 : Int32), .inl x2, .inr (.inr (12, 0))]), σ)) rfl ?_
  refine Wp.if2_le (WpD.mono _) rfl rfl (fun hc => ?_) (fun hc => ?_)
  · have h := (if_pos hc).symm.trans h
    show Wp (WpD (e + 2)) hcX12_nextToken Q (303, [some (.inr (.inr (12, 0))), none, some (.inl x2), none, none], [.inr (.inr (12, 0))]) σ
    refine Wp.run (WpD.mono _) 2 (q := ((387, [none, none, none, none, none], []), ((hwU2 σ.1 12 44 (1 : Int32)), σ.2.1, σ.2.2.1, σ.2.2.2.1, σ.2.2.2.2))) rfl ?_
    obtain ⟨rfl, rfl⟩ := ret_inj h
    exact Wp.ret (WpD.mono _) rfl hQ
  · have h := (if_neg hc).symm.trans h
    show Wp (WpD (e + 2)) hcX12_nextToken Q (299, [some (.inr (.inr (12, 0))), none, some (.inl x2), none, none], [.inr (.inr (12, 0))]) σ
    refine Wp.run (WpD.mono _) 3 (q := ((387, [none, none, none, none, none], []), ((hwU2 σ.1 12 44 (Int32.ofInt (-1))), σ.2.1, σ.2.2.1, σ.2.2.2.1, σ.2.2.2.2))) rfl ?_
    obtain ⟨rfl, rfl⟩ := ret_inj h
    exact Wp.ret (WpD.mono _) rfl hQ

set_option maxRecDepth 100000 in
set_option maxHeartbeats 4000000 in
theorem T_X12_nextToken_b214 (e N : Nat)   (r : Unit) (τ : Mem) (Q : Pst) (hQ : Q (none) τ) : ∀ n, ∀ (x2 : Int32) (σ : Mem), F_X12_nextToken_b214 N n x2 σ = some (r, τ) → Wp (WpD (e + 2)) hcX12_nextToken Q (214, [some (.inr (.inr (12, 0))), none, some (.inl x2), none, none], []) σ := by
  intro n
  induction n with
  | zero => intro x2 σ h; cases h
  | succ n ih =>
    intro x2 σ h
    unfold F_X12_nextToken_b214 at h
    refine Wp.run (WpD.mono _) 3 (q := ((222, [some (.inr (.inr (12, 0))), none, some (.inl x2), none, none], [.inl (σ.1 12 24), .inl (σ.1 12 42)]), σ)) rfl ?_
    refine Wp.if2_ge (WpD.mono _) rfl rfl (fun hc => ?_) (fun hc => ?_)
    · have h := (if_pos hc).symm.trans h
      show Wp (WpD (e + 2)) hcX12_nextToken Q (293, [some (.inr (.inr (12, 0))), none, some (.inl x2), none, none], []) σ
      exact Wp.jump (WpD.mono _) rfl ((T_X12_nextToken_b293 e N  r τ Q hQ ) x2 σ h)
    · have h := (if_neg hc).symm.trans h
      show Wp (WpD (e + 2)) hcX12_nextToken Q (225, [some (.inr (.inr (12, 0))), none, some (.inl x2), none, none], []) σ
      refine Wp.run (WpD.mono _) 3 (q := ((233, [some (.inr (.inr (12, 0))), none, some (.inl x2), none, none], [.inl (σ.1 12 42), .inr (.inr (86, 0))]), σ)) rfl ?_
      obtain ⟨hc, h⟩ := ite_nn h
      refine Wp.X_ild1 (WpD.mono _) rfl rfl hc ?_
      show Wp (WpD (e + 2)) hcX12_nextToken Q (234, [some (.inr (.inr (12, 0))), none, some (.inl x2), none, none], [.inl (σ.2.2.1 86 0 ((σ.1 12 42)).toNatClampNeg)]) σ
      refine Wp.run (WpD.mono _) 1 (q := ((238, [some (.inr (.inr (12, 0))), none, some (.inl x2), none, none], [.inl (57 : Int32), .inl (48 : Int32), .inl (σ.2.2.1 86 0 ((σ.1 12 42)).toNatClampNeg)]), σ)) rfl ?_
      obtain ⟨q4, hb, h⟩ := bind_some h
      refine Wp.call (WpD.mono _) rfl (T_X12_in (e + 1) N (σ.2.2.1 86 0 ((σ.1 12 42)).toNatClampNeg) (48 : Int32) (57 : Int32) σ _ _ _ hb ?_)
      show Wp (WpD (e + 2)) hcX12_nextToken Q (241, [some (.inr (.inr (12, 0))), none, some (.inl x2), none, none], [.inl q4.1]) q4.2
      refine Wp.if0_eq (WpD.mono _) rfl rfl (fun hc => ?_) (fun hc => ?_)
      · have h := (if_pos hc).symm.trans h
        show Wp (WpD (e + 2)) hcX12_nextToken Q (293, [some (.inr (.inr (12, 0))), none, some (.inl x2), none, none], []) q4.2
        exact Wp.jump (WpD.mono _) rfl ((T_X12_nextToken_b293 e N  r τ Q hQ ) x2 q4.2 h)
      · have h := (if_neg hc).symm.trans h
        show Wp (WpD (e + 2)) hcX12_nextToken Q (244, [some (.inr (.inr (12, 0))), none, some (.inl x2), none, none], []) q4.2
        refine Wp.run (WpD.mono _) 2 (q := ((247, [some (.inr (.inr (12, 0))), none, some (.inl x2), none, none], [.inl (4 : Int32), .inl x2, .inr (.inr (12, 0))]), q4.2)) rfl ?_
        refine Wp.if2_ge (WpD.mono _) rfl rfl (fun hc => ?_) (fun hc => ?_)
        · have h := (if_pos hc).symm.trans h
          show Wp (WpD (e + 2)) hcX12_nextToken Q (273, [some (.inr (.inr (12, 0))), none, some (.inl x2), none, none], [.inr (.inr (12, 0))]) q4.2
          refine Wp.run (WpD.mono _) 0 (q := ((274, [some (.inr (.inr (12, 0))), none, some (.inl x2), none, none], [.inl (0 : Int32), .inr (.inr (12, 0))]), q4.2)) rfl ?_
          exact Wp.jump (WpD.mono _) rfl ((T_X12_nextToken_b274 e N (F_X12_nextToken_b214 N n) r τ Q hQ ih) x2 (0 : Int32) q4.2 h)
        · have h := (if_neg hc).symm.trans h
          show Wp (WpD (e + 2)) hcX12_nextToken Q (250, [some (.inr (.inr (12, 0))), none, some (.inl x2), none, none], [.inr (.inr (12, 0))]) q4.2
          refine Wp.run (WpD.mono _) 7 (q := ((265, [some (.inr (.inr (12, 0))), none, some (.inl x2), none, none], [.inl (q4.2.1 12 42), .inr (.inr (86, 0)), .inl ((10 : Int32) * (q4.2.1 12 45)), .inr (.inr (12, 0))]), q4.2)) rfl ?_
          obtain ⟨hc, h⟩ := ite_nn h
          refine Wp.X_ild1 (WpD.mono _) rfl rfl hc ?_
          show Wp (WpD (e + 2)) hcX12_nextToken Q (266, [some (.inr (.inr (12, 0))), none, some (.inl x2), none, none], [.inl (q4.2.2.2.1 86 0 ((q4.2.1 12 42)).toNatClampNeg), .inl ((10 : Int32) * (q4.2.1 12 45)), .inr (.inr (12, 0))]) q4.2
          refine Wp.run (WpD.mono _) 3 (q := ((274, [some (.inr (.inr (12, 0))), none, some (.inl x2), none, none], [.inl ((((10 : Int32) * (q4.2.1 12 45)) + (q4.2.2.2.1 86 0 ((q4.2.1 12 42)).toNatClampNeg)) - (48 : Int32)), .inr (.inr (12, 0))]), q4.2)) rfl ?_
          exact Wp.jump (WpD.mono _) rfl ((T_X12_nextToken_b274 e N (F_X12_nextToken_b214 N n) r τ Q hQ ih) x2 ((((10 : Int32) * (q4.2.1 12 45)) + (q4.2.2.2.1 86 0 ((q4.2.1 12 42)).toNatClampNeg)) - (48 : Int32)) q4.2 h)

set_option maxRecDepth 100000 in
set_option maxHeartbeats 4000000 in
theorem T_X12_nextToken_b363 (e N : Nat)   (r : Unit) (τ : Mem) (Q : Pst) (hQ : Q (none) τ) : ∀ (x1 : Int32) (s0 : Int32) (σ : Mem), F_X12_nextToken_b363 N x1 s0 σ = some (r, τ) → Wp (WpD (e + 2)) hcX12_nextToken Q (363, [some (.inr (.inr (12, 0))), some (.inl x1), none, none, none], [.inl s0]) σ := by
  intro x1 s0 σ h
  unfold F_X12_nextToken_b363 at h
  refine Wp.run (WpD.mono _) 2 (q := ((366, [some (.inr (.inr (12, 0))), some (.inl x1), some (.inl s0), none, none], [.inl s0, .inr (.inr (12, 0))]), σ)) rfl ?_
  refine Wp.if0_eq (WpD.mono _) rfl rfl (fun hc => ?_) (fun hc => ?_)
  · have h := (if_pos hc).symm.trans h
    show Wp (WpD (e + 2)) hcX12_nextToken Q (373, [some (.inr (.inr (12, 0))), some (.inl x1), some (.inl s0), none, none], [.inr (.inr (12, 0))]) σ
    refine Wp.run (WpD.mono _) 7 (q := ((387, [some (.inr (.inr (12, 0))), none, none, none, none], []), ((hwU2 (hwU2 σ.1 12 44 (Int32.ofInt (-1))) 12 42 ((σ.1 12 42) + (1 : Int32))), σ.2.1, σ.2.2.1, σ.2.2.2.1, σ.2.2.2.2))) rfl ?_
    obtain ⟨rfl, rfl⟩ := ret_inj h
    exact Wp.ret (WpD.mono _) rfl hQ
  · have h := (if_neg hc).symm.trans h
    show Wp (WpD (e + 2)) hcX12_nextToken Q (369, [some (.inr (.inr (12, 0))), some (.inl x1), some (.inl s0), none, none], [.inr (.inr (12, 0))]) σ
    refine Wp.run (WpD.mono _) 8 (q := ((387, [some (.inr (.inr (12, 0))), none, none, none, none], []), ((hwU2 (hwU2 σ.1 12 44 x1) 12 42 ((σ.1 12 42) + (1 : Int32))), σ.2.1, σ.2.2.1, σ.2.2.2.1, σ.2.2.2.2))) rfl ?_
    obtain ⟨rfl, rfl⟩ := ret_inj h
    exact Wp.ret (WpD.mono _) rfl hQ

set_option maxRecDepth 100000 in
set_option maxHeartbeats 4000000 in
theorem T_X12_nextToken_b358 (e N : Nat)  (k363 : Int32 → Int32 → Mem → Option (Unit × Mem)) (r : Unit) (τ : Mem) (Q : Pst) (hQ : Q (none) τ) (hk363 : ∀ (x1 : Int32) (s0 : Int32) (σ : Mem), k363 x1 s0 σ = some (r, τ) → Wp (WpD (e + 2)) hcX12_nextToken Q (363, [some (.inr (.inr (12, 0))), some (.inl x1), none, none, none], [.inl s0]) σ) : ∀ (x1 : Int32) (σ : Mem), F_X12_nextToken_b358 N k363 x1 σ = some (r, τ) → Wp (WpD (e + 2)) hcX12_nextToken Q (358, [some (.inr (.inr (12, 0))), some (.inl x1), none, none, none], []) σ := by
  intro x1 σ h
  unfold F_X12_nextToken_b358 at h
  refine Wp.run (WpD.mono _) 1 (q := ((363, [some (.inr (.inr (12, 0))), some (.inl x1), none, none, none], [.inl (1 : Int32)]), σ)) rfl ?_
  exact Wp.jump (WpD.mono _) rfl (hk363 x1 (1 : Int32) σ h)

set_option maxRecDepth 100000 in
set_option maxHeartbeats 4000000 in
theorem T_X12_nextToken_b52 (e N : Nat)   (r : Unit) (τ : Mem) (Q : Pst) (hQ : Q (none) τ) : ∀  (σ : Mem), F_X12_nextToken_b52 N  σ = some (r, τ) → Wp (WpD (e + 2)) hcX12_nextToken Q (52, [some (.inr (.inr (12, 0))), none, none, none, none], []) σ := by
  intro  σ h
  unfold F_X12_nextToken_b52 at h
  refine Wp.run (WpD.mono _) 13 (q := ((78, [some (.inr (.inr (12, 0))), none, none, none, none], [.inl (σ.1 12 24), .inl (σ.1 12 42)]), ((hwU2 (hwU2 (hwU2 σ.1 12 43 (σ.1 12 42)) 12 44 (0 : Int32)) 12 45 (0 : Int32)), σ.2.1, σ.2.2.1, σ.2.2.2.1, σ.2.2.2.2))) rfl ?_
  refine Wp.if2_ne (WpD.mono _) rfl rfl (fun hc => ?_) (fun hc => ?_)
  · have h := (if_pos hc).symm.trans h
    show Wp (WpD (e + 2)) hcX12_nextToken Q (81, [some (.inr (.inr (12, 0))), none, none, none, none], []) ((hwU2 (hwU2 (hwU2 σ.1 12 43 (σ.1 12 42)) 12 44 (0 : Int32)) 12 45 (0 : Int32)), σ.2.1, σ.2.2.1, σ.2.2.2.1, σ.2.2.2.2)
    obtain ⟨rfl, rfl⟩ := ret_inj h
    exact Wp.ret (WpD.mono _) rfl hQ
  · have h := (if_neg hc).symm.trans h
    show Wp (WpD (e + 2)) hcX12_nextToken Q (82, [some (.inr (.inr (12, 0))), none, none, none, none], []) ((hwU2 (hwU2 (hwU2 σ.1 12 43 (σ.1 12 42)) 12 44 (0 : Int32)) 12 45 (0 : Int32)), σ.2.1, σ.2.2.1, σ.2.2.2.1, σ.2.2.2.2)
    refine Wp.run (WpD.mono _) 3 (q := ((90, [some (.inr (.inr (12, 0))), none, none, none, none], [.inl (σ.1 12 42), .inr (.inr (86, 0))]), ((hwU2 (hwU2 (hwU2 σ.1 12 43 (σ.1 12 42)) 12 44 (0 : Int32)) 12 45 (0 : Int32)), σ.2.1, σ.2.2.1, σ.2.2.2.1, σ.2.2.2.2))) rfl ?_
    obtain ⟨hc, h⟩ := ite_nn h
    refine Wp.X_ild1 (WpD.mono _) rfl rfl hc ?_
    show Wp (WpD (e + 2)) hcX12_nextToken Q (91, [some (.inr (.inr (12, 0))), none, none, none, none], [.inl (σ.2.2.1 86 0 ((σ.1 12 42)).toNatClampNeg)]) ((hwU2 (hwU2 (hwU2 σ.1 12 43 (σ.1 12 42)) 12 44 (0 : Int32)) 12 45 (0 : Int32)), σ.2.1, σ.2.2.1, σ.2.2.2.1, σ.2.2.2.2)
    refine Wp.run (WpD.mono _) 3 (q := ((97, [some (.inr (.inr (12, 0))), some (.inl (σ.2.2.1 86 0 ((σ.1 12 42)).toNatClampNeg)), none, none, none], [.inl (122 : Int32), .inl (97 : Int32), .inl (σ.2.2.1 86 0 ((σ.1 12 42)).toNatClampNeg)]), ((hwU2 (hwU2 (hwU2 σ.1 12 43 (σ.1 12 42)) 12 44 (0 : Int32)) 12 45 (0 : Int32)), σ.2.1, σ.2.2.1, σ.2.2.2.1, σ.2.2.2.2))) rfl ?_
    obtain ⟨q1, hb, h⟩ := bind_some h
    refine Wp.call (WpD.mono _) rfl (T_X12_in (e + 1) N (σ.2.2.1 86 0 ((σ.1 12 42)).toNatClampNeg) (97 : Int32) (122 : Int32) ((hwU2 (hwU2 (hwU2 σ.1 12 43 (σ.1 12 42)) 12 44 (0 : Int32)) 12 45 (0 : Int32)), σ.2.1, σ.2.2.1, σ.2.2.2.1, σ.2.2.2.2) _ _ _ hb ?_)
    show Wp (WpD (e + 2)) hcX12_nextToken Q (100, [some (.inr (.inr (12, 0))), some (.inl (σ.2.2.1 86 0 ((σ.1 12 42)).toNatClampNeg)), none, none, none], [.inl q1.1]) q1.2
    refine Wp.if0_eq (WpD.mono _) rfl rfl (fun hc => ?_) (fun hc => ?_)
    · have h := (if_pos hc).symm.trans h
      show Wp (WpD (e + 2)) hcX12_nextToken Q (201, [some (.inr (.inr (12, 0))), some (.inl (σ.2.2.1 86 0 ((σ.1 12 42)).toNatClampNeg)), none, none, none], []) q1.2
      refine Wp.run (WpD.mono _) 2 (q := ((206, [some (.inr (.inr (12, 0))), some (.inl (σ.2.2.1 86 0 ((σ.1 12 42)).toNatClampNeg)), none, none, none], [.inl (57 : Int32), .inl (48 : Int32), .inl (σ.2.2.1 86 0 ((σ.1 12 42)).toNatClampNeg)]), q1.2)) rfl ?_
      obtain ⟨q2, hb, h⟩ := bind_some h
      refine Wp.call (WpD.mono _) rfl (T_X12_in (e + 1) N (σ.2.2.1 86 0 ((σ.1 12 42)).toNatClampNeg) (48 : Int32) (57 : Int32) q1.2 _ _ _ hb ?_)
      show Wp (WpD (e + 2)) hcX12_nextToken Q (209, [some (.inr (.inr (12, 0))), some (.inl (σ.2.2.1 86 0 ((σ.1 12 42)).toNatClampNeg)), none, none, none], [.inl q2.1]) q2.2
      refine Wp.if0_eq (WpD.mono _) rfl rfl (fun hc => ?_) (fun hc => ?_)
      · have h := (if_pos hc).symm.trans h
        show Wp (WpD (e + 2)) hcX12_nextToken Q (310, [some (.inr (.inr (12, 0))), some (.inl (σ.2.2.1 86 0 ((σ.1 12 42)).toNatClampNeg)), none, none, none], []) q2.2
        refine Wp.run (WpD.mono _) 1 (q := ((313, [some (.inr (.inr (12, 0))), some (.inl (σ.2.2.1 86 0 ((σ.1 12 42)).toNatClampNeg)), none, none, none], [.inl (40 : Int32), .inl (σ.2.2.1 86 0 ((σ.1 12 42)).toNatClampNeg)]), q2.2)) rfl ?_
        refine Wp.if2_eq (WpD.mono _) rfl rfl (fun hc => ?_) (fun hc => ?_)
        · have h := (if_pos hc).symm.trans h
          show Wp (WpD (e + 2)) hcX12_nextToken Q (358, [some (.inr (.inr (12, 0))), some (.inl (σ.2.2.1 86 0 ((σ.1 12 42)).toNatClampNeg)), none, none, none], []) q2.2
          exact Wp.jump (WpD.mono _) rfl ((T_X12_nextToken_b358 e N (F_X12_nextToken_b363 N) r τ Q hQ (T_X12_nextToken_b363 e N  r τ Q hQ )) (σ.2.2.1 86 0 ((σ.1 12 42)).toNatClampNeg) q2.2 h)
        · have h := (if_neg hc).symm.trans h
          show Wp (WpD (e + 2)) hcX12_nextToken Q (316, [some (.inr (.inr (12, 0))), some (.inl (σ.2.2.1 86 0 ((σ.1 12 42)).toNatClampNeg)), none, none, none], []) q2.2
          refine Wp.run (WpD.mono _) 1 (q := ((319, [some (.inr (.inr (12, 0))), some (.inl (σ.2.2.1 86 0 ((σ.1 12 42)).toNatClampNeg)), none, none, none], [.inl (41 : Int32), .inl (σ.2.2.1 86 0 ((σ.1 12 42)).toNatClampNeg)]), q2.2)) rfl ?_
          refine Wp.if2_eq (WpD.mono _) rfl rfl (fun hc => ?_) (fun hc => ?_)
          · have h := (if_pos hc).symm.trans h
            show Wp (WpD (e + 2)) hcX12_nextToken Q (358, [some (.inr (.inr (12, 0))), some (.inl (σ.2.2.1 86 0 ((σ.1 12 42)).toNatClampNeg)), none, none, none], []) q2.2
            exact Wp.jump (WpD.mono _) rfl ((T_X12_nextToken_b358 e N (F_X12_nextToken_b363 N) r τ Q hQ (T_X12_nextToken_b363 e N  r τ Q hQ )) (σ.2.2.1 86 0 ((σ.1 12 42)).toNatClampNeg) q2.2 h)
          · have h := (if_neg hc).symm.trans h
            show Wp (WpD (e + 2)) hcX12_nextToken Q (322, [some (.inr (.inr (12, 0))), some (.inl (σ.2.2.1 86 0 ((σ.1 12 42)).toNatClampNeg)), none, none, none], []) q2.2
            refine Wp.run (WpD.mono _) 1 (q := ((325, [some (.inr (.inr (12, 0))), some (.inl (σ.2.2.1 86 0 ((σ.1 12 42)).toNatClampNeg)), none, none, none], [.inl (59 : Int32), .inl (σ.2.2.1 86 0 ((σ.1 12 42)).toNatClampNeg)]), q2.2)) rfl ?_
            refine Wp.if2_eq (WpD.mono _) rfl rfl (fun hc => ?_) (fun hc => ?_)
            · have h := (if_pos hc).symm.trans h
              show Wp (WpD (e + 2)) hcX12_nextToken Q (358, [some (.inr (.inr (12, 0))), some (.inl (σ.2.2.1 86 0 ((σ.1 12 42)).toNatClampNeg)), none, none, none], []) q2.2
              exact Wp.jump (WpD.mono _) rfl ((T_X12_nextToken_b358 e N (F_X12_nextToken_b363 N) r τ Q hQ (T_X12_nextToken_b363 e N  r τ Q hQ )) (σ.2.2.1 86 0 ((σ.1 12 42)).toNatClampNeg) q2.2 h)
            · have h := (if_neg hc).symm.trans h
              show Wp (WpD (e + 2)) hcX12_nextToken Q (328, [some (.inr (.inr (12, 0))), some (.inl (σ.2.2.1 86 0 ((σ.1 12 42)).toNatClampNeg)), none, none, none], []) q2.2
              refine Wp.run (WpD.mono _) 1 (q := ((331, [some (.inr (.inr (12, 0))), some (.inl (σ.2.2.1 86 0 ((σ.1 12 42)).toNatClampNeg)), none, none, none], [.inl (43 : Int32), .inl (σ.2.2.1 86 0 ((σ.1 12 42)).toNatClampNeg)]), q2.2)) rfl ?_
              refine Wp.if2_eq (WpD.mono _) rfl rfl (fun hc => ?_) (fun hc => ?_)
              · have h := (if_pos hc).symm.trans h
                show Wp (WpD (e + 2)) hcX12_nextToken Q (358, [some (.inr (.inr (12, 0))), some (.inl (σ.2.2.1 86 0 ((σ.1 12 42)).toNatClampNeg)), none, none, none], []) q2.2
                exact Wp.jump (WpD.mono _) rfl ((T_X12_nextToken_b358 e N (F_X12_nextToken_b363 N) r τ Q hQ (T_X12_nextToken_b363 e N  r τ Q hQ )) (σ.2.2.1 86 0 ((σ.1 12 42)).toNatClampNeg) q2.2 h)
              · have h := (if_neg hc).symm.trans h
                show Wp (WpD (e + 2)) hcX12_nextToken Q (334, [some (.inr (.inr (12, 0))), some (.inl (σ.2.2.1 86 0 ((σ.1 12 42)).toNatClampNeg)), none, none, none], []) q2.2
                refine Wp.run (WpD.mono _) 1 (q := ((337, [some (.inr (.inr (12, 0))), some (.inl (σ.2.2.1 86 0 ((σ.1 12 42)).toNatClampNeg)), none, none, none], [.inl (45 : Int32), .inl (σ.2.2.1 86 0 ((σ.1 12 42)).toNatClampNeg)]), q2.2)) rfl ?_
                refine Wp.if2_eq (WpD.mono _) rfl rfl (fun hc => ?_) (fun hc => ?_)
                · have h := (if_pos hc).symm.trans h
                  show Wp (WpD (e + 2)) hcX12_nextToken Q (358, [some (.inr (.inr (12, 0))), some (.inl (σ.2.2.1 86 0 ((σ.1 12 42)).toNatClampNeg)), none, none, none], []) q2.2
                  exact Wp.jump (WpD.mono _) rfl ((T_X12_nextToken_b358 e N (F_X12_nextToken_b363 N) r τ Q hQ (T_X12_nextToken_b363 e N  r τ Q hQ )) (σ.2.2.1 86 0 ((σ.1 12 42)).toNatClampNeg) q2.2 h)
                · have h := (if_neg hc).symm.trans h
                  show Wp (WpD (e + 2)) hcX12_nextToken Q (340, [some (.inr (.inr (12, 0))), some (.inl (σ.2.2.1 86 0 ((σ.1 12 42)).toNatClampNeg)), none, none, none], []) q2.2
                  refine Wp.run (WpD.mono _) 1 (q := ((343, [some (.inr (.inr (12, 0))), some (.inl (σ.2.2.1 86 0 ((σ.1 12 42)).toNatClampNeg)), none, none, none], [.inl (42 : Int32), .inl (σ.2.2.1 86 0 ((σ.1 12 42)).toNatClampNeg)]), q2.2)) rfl ?_
                  refine Wp.if2_eq (WpD.mono _) rfl rfl (fun hc => ?_) (fun hc => ?_)
                  · have h := (if_pos hc).symm.trans h
                    show Wp (WpD (e + 2)) hcX12_nextToken Q (358, [some (.inr (.inr (12, 0))), some (.inl (σ.2.2.1 86 0 ((σ.1 12 42)).toNatClampNeg)), none, none, none], []) q2.2
                    exact Wp.jump (WpD.mono _) rfl ((T_X12_nextToken_b358 e N (F_X12_nextToken_b363 N) r τ Q hQ (T_X12_nextToken_b363 e N  r τ Q hQ )) (σ.2.2.1 86 0 ((σ.1 12 42)).toNatClampNeg) q2.2 h)
                  · have h := (if_neg hc).symm.trans h
                    show Wp (WpD (e + 2)) hcX12_nextToken Q (346, [some (.inr (.inr (12, 0))), some (.inl (σ.2.2.1 86 0 ((σ.1 12 42)).toNatClampNeg)), none, none, none], []) q2.2
                    refine Wp.run (WpD.mono _) 1 (q := ((349, [some (.inr (.inr (12, 0))), some (.inl (σ.2.2.1 86 0 ((σ.1 12 42)).toNatClampNeg)), none, none, none], [.inl (60 : Int32), .inl (σ.2.2.1 86 0 ((σ.1 12 42)).toNatClampNeg)]), q2.2)) rfl ?_
                    refine Wp.if2_eq (WpD.mono _) rfl rfl (fun hc => ?_) (fun hc => ?_)
                    · have h := (if_pos hc).symm.trans h
                      show Wp (WpD (e + 2)) hcX12_nextToken Q (358, [some (.inr (.inr (12, 0))), some (.inl (σ.2.2.1 86 0 ((σ.1 12 42)).toNatClampNeg)), none, none, none], []) q2.2
                      exact Wp.jump (WpD.mono _) rfl ((T_X12_nextToken_b358 e N (F_X12_nextToken_b363 N) r τ Q hQ (T_X12_nextToken_b363 e N  r τ Q hQ )) (σ.2.2.1 86 0 ((σ.1 12 42)).toNatClampNeg) q2.2 h)
                    · have h := (if_neg hc).symm.trans h
                      show Wp (WpD (e + 2)) hcX12_nextToken Q (352, [some (.inr (.inr (12, 0))), some (.inl (σ.2.2.1 86 0 ((σ.1 12 42)).toNatClampNeg)), none, none, none], []) q2.2
                      refine Wp.run (WpD.mono _) 1 (q := ((355, [some (.inr (.inr (12, 0))), some (.inl (σ.2.2.1 86 0 ((σ.1 12 42)).toNatClampNeg)), none, none, none], [.inl (61 : Int32), .inl (σ.2.2.1 86 0 ((σ.1 12 42)).toNatClampNeg)]), q2.2)) rfl ?_
                      refine Wp.if2_ne (WpD.mono _) rfl rfl (fun hc => ?_) (fun hc => ?_)
                      · have h := (if_pos hc).symm.trans h
                        show Wp (WpD (e + 2)) hcX12_nextToken Q (358, [some (.inr (.inr (12, 0))), some (.inl (σ.2.2.1 86 0 ((σ.1 12 42)).toNatClampNeg)), none, none, none], []) q2.2
                        exact Wp.jump (WpD.mono _) rfl ((T_X12_nextToken_b358 e N (F_X12_nextToken_b363 N) r τ Q hQ (T_X12_nextToken_b363 e N  r τ Q hQ )) (σ.2.2.1 86 0 ((σ.1 12 42)).toNatClampNeg) q2.2 h)
                      · have h := (if_neg hc).symm.trans h
                        show Wp (WpD (e + 2)) hcX12_nextToken Q (362, [some (.inr (.inr (12, 0))), some (.inl (σ.2.2.1 86 0 ((σ.1 12 42)).toNatClampNeg)), none, none, none], []) q2.2
                        refine Wp.run (WpD.mono _) 0 (q := ((363, [some (.inr (.inr (12, 0))), some (.inl (σ.2.2.1 86 0 ((σ.1 12 42)).toNatClampNeg)), none, none, none], [.inl (0 : Int32)]), q2.2)) rfl ?_
                        exact Wp.jump (WpD.mono _) rfl ((T_X12_nextToken_b363 e N  r τ Q hQ ) (σ.2.2.1 86 0 ((σ.1 12 42)).toNatClampNeg) (0 : Int32) q2.2 h)
      · have h := (if_neg hc).symm.trans h
        show Wp (WpD (e + 2)) hcX12_nextToken Q (212, [some (.inr (.inr (12, 0))), some (.inl (σ.2.2.1 86 0 ((σ.1 12 42)).toNatClampNeg)), none, none, none], []) q2.2
        refine Wp.run (WpD.mono _) 1 (q := ((214, [some (.inr (.inr (12, 0))), some (.inl (σ.2.2.1 86 0 ((σ.1 12 42)).toNatClampNeg)), some (.inl (0 : Int32)), none, none], []), q2.2)) rfl ?_
        exact Wp.jump (WpD.mono _) rfl ((T_X12_nextToken_b214 e N  r τ Q hQ  N) (0 : Int32) q2.2 h)
    · have h := (if_neg hc).symm.trans h
      show Wp (WpD (e + 2)) hcX12_nextToken Q (103, [some (.inr (.inr (12, 0))), some (.inl (σ.2.2.1 86 0 ((σ.1 12 42)).toNatClampNeg)), none, none, none], []) q1.2
      refine Wp.run (WpD.mono _) 0 (q := ((104, [some (.inr (.inr (12, 0))), some (.inl (σ.2.2.1 86 0 ((σ.1 12 42)).toNatClampNeg)), none, none, none], [.inr (.inr (12, 0))]), q1.2)) rfl ?_
      obtain ⟨q3, hb, h⟩ := bind_some h
      refine Wp.call (WpD.mono _) rfl (T_X12_letters (e + 0) N q1.2 _ _ _ hb ?_)
      show Wp (WpD (e + 2)) hcX12_nextToken Q (107, [some (.inr (.inr (12, 0))), some (.inl (σ.2.2.1 86 0 ((σ.1 12 42)).toNatClampNeg)), none, none, none], [.inr (.inl q3.1)]) q3.2
      refine Wp.run (WpD.mono _) 2 (q := ((111, [some (.inr (.inr (12, 0))), some (.inl (σ.2.2.1 86 0 ((σ.1 12 42)).toNatClampNeg)), some (.inr (.inl q3.1)), none, some (.inl (0 : Int32))], []), q3.2)) rfl ?_
      exact Wp.jump (WpD.mono _) rfl ((T_X12_nextToken_b111 e N  r τ Q hQ  N) q3.1 (0 : Int32) q3.2 h)

set_option maxRecDepth 100000 in
set_option maxHeartbeats 4000000 in
theorem T_X12_nextToken_b0 (e N : Nat)   (r : Unit) (τ : Mem) (Q : Pst) (hQ : Q (none) τ) : ∀ n, ∀  (σ : Mem), F_X12_nextToken_b0 N n  σ = some (r, τ) → Wp (WpD (e + 2)) hcX12_nextToken Q (0, [some (.inr (.inr (12, 0))), none, none, none, none], []) σ := by
  intro n
  induction n with
  | zero => intro  σ h; cases h
  | succ n ih =>
    intro  σ h
    unfold F_X12_nextToken_b0 at h
    refine Wp.run (WpD.mono _) 3 (q := ((8, [some (.inr (.inr (12, 0))), none, none, none, none], [.inl (σ.1 12 24), .inl (σ.1 12 42)]), σ)) rfl ?_
    refine Wp.if2_ge (WpD.mono _) rfl rfl (fun hc => ?_) (fun hc => ?_)
    · have h := (if_pos hc).symm.trans h
      show Wp (WpD (e + 2)) hcX12_nextToken Q (52, [some (.inr (.inr (12, 0))), none, none, none, none], []) σ
      exact Wp.jump (WpD.mono _) rfl ((T_X12_nextToken_b52 e N  r τ Q hQ ) σ h)
    · have h := (if_neg hc).symm.trans h
      show Wp (WpD (e + 2)) hcX12_nextToken Q (11, [some (.inr (.inr (12, 0))), none, none, none, none], []) σ
      refine Wp.run (WpD.mono _) 3 (q := ((19, [some (.inr (.inr (12, 0))), none, none, none, none], [.inl (σ.1 12 42), .inr (.inr (86, 0))]), σ)) rfl ?_
      obtain ⟨hc, h⟩ := ite_nn h
      refine Wp.X_ild1 (WpD.mono _) rfl rfl hc ?_
      show Wp (WpD (e + 2)) hcX12_nextToken Q (20, [some (.inr (.inr (12, 0))), none, none, none, none], [.inl (σ.2.2.1 86 0 ((σ.1 12 42)).toNatClampNeg)]) σ
      refine Wp.run (WpD.mono _) 0 (q := ((22, [some (.inr (.inr (12, 0))), none, none, none, none], [.inl (32 : Int32), .inl (σ.2.2.1 86 0 ((σ.1 12 42)).toNatClampNeg)]), σ)) rfl ?_
      refine Wp.if2_eq (WpD.mono _) rfl rfl (fun hc => ?_) (fun hc => ?_)
      · have h := (if_pos hc).symm.trans h
        show Wp (WpD (e + 2)) hcX12_nextToken Q (39, [some (.inr (.inr (12, 0))), none, none, none, none], []) σ
        refine Wp.run (WpD.mono _) 6 (q := ((0, [some (.inr (.inr (12, 0))), none, none, none, none], []), ((hwU2 σ.1 12 42 ((σ.1 12 42) + (1 : Int32))), σ.2.1, σ.2.2.1, σ.2.2.2.1, σ.2.2.2.2))) rfl ?_
        exact Wp.jump (WpD.mono _) rfl (ih ((hwU2 σ.1 12 42 ((σ.1 12 42) + (1 : Int32))), σ.2.1, σ.2.2.1, σ.2.2.2.1, σ.2.2.2.2) h)
      · have h := (if_neg hc).symm.trans h
        show Wp (WpD (e + 2)) hcX12_nextToken Q (25, [some (.inr (.inr (12, 0))), none, none, none, none], []) σ
        refine Wp.run (WpD.mono _) 3 (q := ((33, [some (.inr (.inr (12, 0))), none, none, none, none], [.inl (σ.1 12 42), .inr (.inr (86, 0))]), σ)) rfl ?_
        obtain ⟨hc, h⟩ := ite_nn h
        refine Wp.X_ild1 (WpD.mono _) rfl rfl hc ?_
        show Wp (WpD (e + 2)) hcX12_nextToken Q (34, [some (.inr (.inr (12, 0))), none, none, none, none], [.inl (σ.2.2.1 86 0 ((σ.1 12 42)).toNatClampNeg)]) σ
        refine Wp.run (WpD.mono _) 0 (q := ((36, [some (.inr (.inr (12, 0))), none, none, none, none], [.inl (10 : Int32), .inl (σ.2.2.1 86 0 ((σ.1 12 42)).toNatClampNeg)]), σ)) rfl ?_
        refine Wp.if2_ne (WpD.mono _) rfl rfl (fun hc => ?_) (fun hc => ?_)
        · have h := (if_pos hc).symm.trans h
          show Wp (WpD (e + 2)) hcX12_nextToken Q (39, [some (.inr (.inr (12, 0))), none, none, none, none], []) σ
          refine Wp.run (WpD.mono _) 6 (q := ((0, [some (.inr (.inr (12, 0))), none, none, none, none], []), ((hwU2 σ.1 12 42 ((σ.1 12 42) + (1 : Int32))), σ.2.1, σ.2.2.1, σ.2.2.2.1, σ.2.2.2.2))) rfl ?_
          exact Wp.jump (WpD.mono _) rfl (ih ((hwU2 σ.1 12 42 ((σ.1 12 42) + (1 : Int32))), σ.2.1, σ.2.2.1, σ.2.2.2.1, σ.2.2.2.2) h)
        · have h := (if_neg hc).symm.trans h
          show Wp (WpD (e + 2)) hcX12_nextToken Q (52, [some (.inr (.inr (12, 0))), none, none, none, none], []) σ
          exact Wp.jump (WpD.mono _) rfl ((T_X12_nextToken_b52 e N  r τ Q hQ ) σ h)

set_option maxRecDepth 100000 in
set_option maxHeartbeats 4000000 in
theorem T_X12_nextToken (e N : Nat)   (σ : Mem) (r : Unit) (τ : Mem) (Q : Pst) (h : F_X12_nextToken N  σ = some (r, τ)) (hQ : Q (none) τ) : WpD (e + 3) mX12_nextToken [.inr (.inr (12, 0))] σ Q := by
  refine WpD.of (d := e + 2) (Nat.le_of_ble_eq_true rfl) (Nat.le_of_ble_eq_true rfl) ?_
  show Wp (WpD (e + 2)) hcX12_nextToken Q (0, [some (.inr (.inr (12, 0))), none, none, none, none], []) σ
  unfold F_X12_nextToken at h
  exact Wp.jump (WpD.mono _) rfl ((T_X12_nextToken_b0 e N  r τ Q hQ  N) σ h)

set_option maxRecDepth 100000 in
set_option maxHeartbeats 4000000 in
theorem T_X12_opensOne (e N : Nat)  (a1 : Int32) (σ : Mem) (r : Int32) (τ : Mem) (Q : Pst) (h : F_X12_opensOne N a1 σ = some (r, τ)) (hQ : Q (some (.inl r)) τ) : WpD (e + 2) mX12_opensOne [.inr (.inr (12, 0)), .inl a1] σ Q := by
  refine WpD.of (d := e + 1) (Nat.le_of_ble_eq_true rfl) (Nat.le_of_ble_eq_true rfl) ?_
  show Wp (WpD (e + 1)) hcX12_opensOne Q (0, [some (.inr (.inr (12, 0))), some (.inl a1)], []) σ
  unfold F_X12_opensOne at h
  refine Wp.run (WpD.mono _) 2 (q := ((5, [some (.inr (.inr (12, 0))), some (.inl a1)], [.inl (5 : Int32), .inl (σ.1 12 49)]), σ)) rfl ?_
  refine Wp.if2_ne (WpD.mono _) rfl rfl (fun hc => ?_) (fun hc => ?_)
  · have h := (if_pos hc).symm.trans h
    show Wp (WpD (e + 1)) hcX12_opensOne Q (8, [some (.inr (.inr (12, 0))), some (.inl a1)], []) σ
    refine Wp.run (WpD.mono _) 0 (q := ((9, [some (.inr (.inr (12, 0))), some (.inl a1)], [.inl (0 : Int32)]), σ)) rfl ?_
    obtain ⟨rfl, rfl⟩ := ret_inj h
    exact Wp.ret (WpD.mono _) rfl hQ
  · have h := (if_neg hc).symm.trans h
    show Wp (WpD (e + 1)) hcX12_opensOne Q (10, [some (.inr (.inr (12, 0))), some (.inl a1)], []) σ
    refine Wp.run (WpD.mono _) 7 (q := ((22, [some (.inr (.inr (12, 0))), some (.inl a1)], [.inl a1, .inr (.inr (12, 0))]), ((hwU2 σ.1 12 49 ((σ.1 12 49) + (1 : Int32))), σ.2.1, σ.2.2.1, σ.2.2.2.1, σ.2.2.2.2))) rfl ?_
    obtain ⟨q1, hb, h⟩ := bind_some h
    refine Wp.call (WpD.mono _) rfl (T_X12_holds_ (e + 0) N a1 ((hwU2 σ.1 12 49 ((σ.1 12 49) + (1 : Int32))), σ.2.1, σ.2.2.1, σ.2.2.2.1, σ.2.2.2.2) _ _ _ hb ?_)
    show Wp (WpD (e + 1)) hcX12_opensOne Q (25, [some (.inr (.inr (12, 0))), some (.inl a1)], []) q1.2
    refine Wp.run (WpD.mono _) 0 (q := ((26, [some (.inr (.inr (12, 0))), some (.inl a1)], [.inl (1 : Int32)]), q1.2)) rfl ?_
    obtain ⟨rfl, rfl⟩ := ret_inj h
    exact Wp.ret (WpD.mono _) rfl hQ

set_option maxRecDepth 100000 in
set_option maxHeartbeats 4000000 in
theorem T_X12_signOf (e N : Nat)   (σ : Mem) (r : Int32) (τ : Mem) (Q : Pst) (h : F_X12_signOf N  σ = some (r, τ)) (hQ : Q (some (.inl r)) τ) : WpD (e + 1) mX12_signOf [.inr (.inr (12, 0))] σ Q := by
  refine WpD.of (d := e + 0) (Nat.le_of_ble_eq_true rfl) (Nat.le_of_ble_eq_true rfl) ?_
  show Wp (WpD (e + 0)) hcX12_signOf Q (0, [some (.inr (.inr (12, 0)))], []) σ
  unfold F_X12_signOf at h
  refine Wp.run (WpD.mono _) 2 (q := ((5, [some (.inr (.inr (12, 0)))], [.inl (4 : Int32), .inl (σ.1 12 44)]), σ)) rfl ?_
  refine Wp.if2_ne (WpD.mono _) rfl rfl (fun hc => ?_) (fun hc => ?_)
  · have h := (if_pos hc).symm.trans h
    show Wp (WpD (e + 0)) hcX12_signOf Q (8, [some (.inr (.inr (12, 0)))], []) σ
    refine Wp.run (WpD.mono _) 1 (q := ((97, [some (.inr (.inr (12, 0)))], [.inl (11 : Int32)]), σ)) rfl ?_
    obtain ⟨rfl, rfl⟩ := ret_inj h
    exact Wp.ret (WpD.mono _) rfl hQ
  · have h := (if_neg hc).symm.trans h
    show Wp (WpD (e + 0)) hcX12_signOf Q (13, [some (.inr (.inr (12, 0)))], []) σ
    refine Wp.run (WpD.mono _) 2 (q := ((18, [some (.inr (.inr (12, 0)))], [.inl (5 : Int32), .inl (σ.1 12 44)]), σ)) rfl ?_
    refine Wp.if2_ne (WpD.mono _) rfl rfl (fun hc => ?_) (fun hc => ?_)
    · have h := (if_pos hc).symm.trans h
      show Wp (WpD (e + 0)) hcX12_signOf Q (21, [some (.inr (.inr (12, 0)))], []) σ
      refine Wp.run (WpD.mono _) 1 (q := ((97, [some (.inr (.inr (12, 0)))], [.inl (12 : Int32)]), σ)) rfl ?_
      obtain ⟨rfl, rfl⟩ := ret_inj h
      exact Wp.ret (WpD.mono _) rfl hQ
    · have h := (if_neg hc).symm.trans h
      show Wp (WpD (e + 0)) hcX12_signOf Q (26, [some (.inr (.inr (12, 0)))], []) σ
      refine Wp.run (WpD.mono _) 2 (q := ((32, [some (.inr (.inr (12, 0)))], [.inl (60 : Int32), .inl (σ.1 12 44)]), σ)) rfl ?_
      refine Wp.if2_ne (WpD.mono _) rfl rfl (fun hc => ?_) (fun hc => ?_)
      · have h := (if_pos hc).symm.trans h
        show Wp (WpD (e + 0)) hcX12_signOf Q (35, [some (.inr (.inr (12, 0)))], []) σ
        refine Wp.run (WpD.mono _) 1 (q := ((97, [some (.inr (.inr (12, 0)))], [.inl (14 : Int32)]), σ)) rfl ?_
        obtain ⟨rfl, rfl⟩ := ret_inj h
        exact Wp.ret (WpD.mono _) rfl hQ
      · have h := (if_neg hc).symm.trans h
        show Wp (WpD (e + 0)) hcX12_signOf Q (40, [some (.inr (.inr (12, 0)))], []) σ
        refine Wp.run (WpD.mono _) 2 (q := ((46, [some (.inr (.inr (12, 0)))], [.inl (61 : Int32), .inl (σ.1 12 44)]), σ)) rfl ?_
        refine Wp.if2_ne (WpD.mono _) rfl rfl (fun hc => ?_) (fun hc => ?_)
        · have h := (if_pos hc).symm.trans h
          show Wp (WpD (e + 0)) hcX12_signOf Q (49, [some (.inr (.inr (12, 0)))], []) σ
          refine Wp.run (WpD.mono _) 1 (q := ((97, [some (.inr (.inr (12, 0)))], [.inl (15 : Int32)]), σ)) rfl ?_
          obtain ⟨rfl, rfl⟩ := ret_inj h
          exact Wp.ret (WpD.mono _) rfl hQ
        · have h := (if_neg hc).symm.trans h
          show Wp (WpD (e + 0)) hcX12_signOf Q (54, [some (.inr (.inr (12, 0)))], []) σ
          refine Wp.run (WpD.mono _) 2 (q := ((60, [some (.inr (.inr (12, 0)))], [.inl (43 : Int32), .inl (σ.1 12 44)]), σ)) rfl ?_
          refine Wp.if2_ne (WpD.mono _) rfl rfl (fun hc => ?_) (fun hc => ?_)
          · have h := (if_pos hc).symm.trans h
            show Wp (WpD (e + 0)) hcX12_signOf Q (63, [some (.inr (.inr (12, 0)))], []) σ
            refine Wp.run (WpD.mono _) 1 (q := ((97, [some (.inr (.inr (12, 0)))], [.inl (16 : Int32)]), σ)) rfl ?_
            obtain ⟨rfl, rfl⟩ := ret_inj h
            exact Wp.ret (WpD.mono _) rfl hQ
          · have h := (if_neg hc).symm.trans h
            show Wp (WpD (e + 0)) hcX12_signOf Q (68, [some (.inr (.inr (12, 0)))], []) σ
            refine Wp.run (WpD.mono _) 2 (q := ((74, [some (.inr (.inr (12, 0)))], [.inl (45 : Int32), .inl (σ.1 12 44)]), σ)) rfl ?_
            refine Wp.if2_ne (WpD.mono _) rfl rfl (fun hc => ?_) (fun hc => ?_)
            · have h := (if_pos hc).symm.trans h
              show Wp (WpD (e + 0)) hcX12_signOf Q (77, [some (.inr (.inr (12, 0)))], []) σ
              refine Wp.run (WpD.mono _) 1 (q := ((97, [some (.inr (.inr (12, 0)))], [.inl (17 : Int32)]), σ)) rfl ?_
              obtain ⟨rfl, rfl⟩ := ret_inj h
              exact Wp.ret (WpD.mono _) rfl hQ
            · have h := (if_neg hc).symm.trans h
              show Wp (WpD (e + 0)) hcX12_signOf Q (82, [some (.inr (.inr (12, 0)))], []) σ
              refine Wp.run (WpD.mono _) 2 (q := ((88, [some (.inr (.inr (12, 0)))], [.inl (42 : Int32), .inl (σ.1 12 44)]), σ)) rfl ?_
              refine Wp.if2_ne (WpD.mono _) rfl rfl (fun hc => ?_) (fun hc => ?_)
              · have h := (if_pos hc).symm.trans h
                show Wp (WpD (e + 0)) hcX12_signOf Q (91, [some (.inr (.inr (12, 0)))], []) σ
                refine Wp.run (WpD.mono _) 1 (q := ((97, [some (.inr (.inr (12, 0)))], [.inl (18 : Int32)]), σ)) rfl ?_
                obtain ⟨rfl, rfl⟩ := ret_inj h
                exact Wp.ret (WpD.mono _) rfl hQ
              · have h := (if_neg hc).symm.trans h
                show Wp (WpD (e + 0)) hcX12_signOf Q (96, [some (.inr (.inr (12, 0)))], []) σ
                refine Wp.run (WpD.mono _) 0 (q := ((97, [some (.inr (.inr (12, 0)))], [.inl (Int32.ofInt (-1))]), σ)) rfl ?_
                obtain ⟨rfl, rfl⟩ := ret_inj h
                exact Wp.ret (WpD.mono _) rfl hQ

set_option maxRecDepth 100000 in
set_option maxHeartbeats 4000000 in
theorem T_X12_eRead_b99 (e N : Nat)  (k14 : Int32 → Int32 → Mem → Option (Int32 × Mem)) (r : Int32) (τ : Mem) (Q : Pst) (hQ : Q (some (.inl r)) τ) (hk14 : ∀ (x1 : Int32) (x2 : Int32) (σ : Mem), k14 x1 x2 σ = some (r, τ) → Wp (WpD (e + 3)) hcX12_eRead Q (14, [some (.inr (.inr (12, 0))), some (.inl x1), some (.inl x2), none], []) σ) : ∀ (x1 : Int32) (σ : Mem), F_X12_eRead_b99 N k14 x1 σ = some (r, τ) → Wp (WpD (e + 3)) hcX12_eRead Q (99, [some (.inr (.inr (12, 0))), some (.inl x1), none, none], []) σ := by
  intro x1 σ h
  unfold F_X12_eRead_b99 at h
  refine Wp.run (WpD.mono _) 2 (q := ((105, [some (.inr (.inr (12, 0))), some (.inl x1), none, none], [.inl (45 : Int32), .inl (σ.1 12 44)]), σ)) rfl ?_
  refine Wp.if2_ne (WpD.mono _) rfl rfl (fun hc => ?_) (fun hc => ?_)
  · have h := (if_pos hc).symm.trans h
    show Wp (WpD (e + 3)) hcX12_eRead Q (108, [some (.inr (.inr (12, 0))), some (.inl x1), none, none], []) σ
    refine Wp.run (WpD.mono _) 1 (q := ((111, [some (.inr (.inr (12, 0))), some (.inl x1), none, none], [.inl (19 : Int32), .inr (.inr (12, 0))]), σ)) rfl ?_
    obtain ⟨q8, hb, h⟩ := bind_some h
    refine Wp.call (WpD.mono _) rfl (T_X12_opensOne (e + 1) N (19 : Int32) σ _ _ _ hb ?_)
    show Wp (WpD (e + 3)) hcX12_eRead Q (114, [some (.inr (.inr (12, 0))), some (.inl x1), none, none], [.inl q8.1]) q8.2
    refine Wp.if0_ne (WpD.mono _) rfl rfl (fun hc => ?_) (fun hc => ?_)
    · have h := (if_pos hc).symm.trans h
      show Wp (WpD (e + 3)) hcX12_eRead Q (117, [some (.inr (.inr (12, 0))), some (.inl x1), none, none], []) q8.2
      refine Wp.run (WpD.mono _) 0 (q := ((118, [some (.inr (.inr (12, 0))), some (.inl x1), none, none], [.inl (0 : Int32)]), q8.2)) rfl ?_
      obtain ⟨rfl, rfl⟩ := ret_inj h
      exact Wp.ret (WpD.mono _) rfl hQ
    · have h := (if_neg hc).symm.trans h
      show Wp (WpD (e + 3)) hcX12_eRead Q (119, [some (.inr (.inr (12, 0))), some (.inl x1), none, none], []) q8.2
      refine Wp.run (WpD.mono _) 2 (q := ((14, [some (.inr (.inr (12, 0))), some (.inl x1), some (.inl (0 : Int32)), none], []), q8.2)) rfl ?_
      exact Wp.jump (WpD.mono _) rfl (hk14 x1 (0 : Int32) q8.2 h)
  · have h := (if_neg hc).symm.trans h
    show Wp (WpD (e + 3)) hcX12_eRead Q (124, [some (.inr (.inr (12, 0))), some (.inl x1), none, none], []) σ
    refine Wp.run (WpD.mono _) 2 (q := ((130, [some (.inr (.inr (12, 0))), some (.inl x1), none, none], [.inl (40 : Int32), .inl (σ.1 12 44)]), σ)) rfl ?_
    refine Wp.if2_ne (WpD.mono _) rfl rfl (fun hc => ?_) (fun hc => ?_)
    · have h := (if_pos hc).symm.trans h
      show Wp (WpD (e + 3)) hcX12_eRead Q (133, [some (.inr (.inr (12, 0))), some (.inl x1), none, none], []) σ
      refine Wp.run (WpD.mono _) 1 (q := ((135, [some (.inr (.inr (12, 0))), some (.inl x1), none, none], [.inl (0 : Int32), .inr (.inr (12, 0))]), σ)) rfl ?_
      obtain ⟨q9, hb, h⟩ := bind_some h
      refine Wp.call (WpD.mono _) rfl (T_X12_opensOne (e + 1) N (0 : Int32) σ _ _ _ hb ?_)
      show Wp (WpD (e + 3)) hcX12_eRead Q (138, [some (.inr (.inr (12, 0))), some (.inl x1), none, none], [.inl q9.1]) q9.2
      refine Wp.if0_ne (WpD.mono _) rfl rfl (fun hc => ?_) (fun hc => ?_)
      · have h := (if_pos hc).symm.trans h
        show Wp (WpD (e + 3)) hcX12_eRead Q (141, [some (.inr (.inr (12, 0))), some (.inl x1), none, none], []) q9.2
        refine Wp.run (WpD.mono _) 0 (q := ((142, [some (.inr (.inr (12, 0))), some (.inl x1), none, none], [.inl (0 : Int32)]), q9.2)) rfl ?_
        obtain ⟨rfl, rfl⟩ := ret_inj h
        exact Wp.ret (WpD.mono _) rfl hQ
      · have h := (if_neg hc).symm.trans h
        show Wp (WpD (e + 3)) hcX12_eRead Q (143, [some (.inr (.inr (12, 0))), some (.inl x1), none, none], []) q9.2
        refine Wp.run (WpD.mono _) 2 (q := ((14, [some (.inr (.inr (12, 0))), some (.inl x1), some (.inl (1 : Int32)), none], []), q9.2)) rfl ?_
        exact Wp.jump (WpD.mono _) rfl (hk14 x1 (1 : Int32) q9.2 h)
    · have h := (if_neg hc).symm.trans h
      show Wp (WpD (e + 3)) hcX12_eRead Q (148, [some (.inr (.inr (12, 0))), some (.inl x1), none, none], []) σ
      refine Wp.run (WpD.mono _) 0 (q := ((149, [some (.inr (.inr (12, 0))), some (.inl x1), none, none], [.inl (0 : Int32)]), σ)) rfl ?_
      obtain ⟨rfl, rfl⟩ := ret_inj h
      exact Wp.ret (WpD.mono _) rfl hQ

set_option maxRecDepth 100000 in
set_option maxHeartbeats 4000000 in
theorem T_X12_eRead_b61 (e N : Nat)  (k14 : Int32 → Int32 → Mem → Option (Int32 × Mem)) (r : Int32) (τ : Mem) (Q : Pst) (hQ : Q (some (.inl r)) τ) (hk14 : ∀ (x1 : Int32) (x2 : Int32) (σ : Mem), k14 x1 x2 σ = some (r, τ) → Wp (WpD (e + 3)) hcX12_eRead Q (14, [some (.inr (.inr (12, 0))), some (.inl x1), some (.inl x2), none], []) σ) : ∀ (x2 : Int32) (s0 : Int32) (σ : Mem), F_X12_eRead_b61 N k14 x2 s0 σ = some (r, τ) → Wp (WpD (e + 3)) hcX12_eRead Q (61, [some (.inr (.inr (12, 0))), none, some (.inl x2), none], [.inl s0, .inr (.inr (12, 0))]) σ := by
  intro x2 s0 σ h
  unfold F_X12_eRead_b61 at h
  obtain ⟨q10, hb, h⟩ := bind_some h
  refine Wp.call (WpD.mono _) rfl (T_X12_puts (e + 2) N s0 σ _ _ _ hb ?_)
  show Wp (WpD (e + 3)) hcX12_eRead Q (64, [some (.inr (.inr (12, 0))), none, some (.inl x2), none], []) q10.2
  refine Wp.run (WpD.mono _) 1 (q := ((67, [some (.inr (.inr (12, 0))), none, some (.inl x2), none], [.inl (7 : Int32), .inr (.inr (12, 0))]), q10.2)) rfl ?_
  obtain ⟨q11, hb, h⟩ := bind_some h
  refine Wp.call (WpD.mono _) rfl (T_X12_unwinds (e + 1) N (7 : Int32) q10.2 _ _ _ hb ?_)
  show Wp (WpD (e + 3)) hcX12_eRead Q (70, [some (.inr (.inr (12, 0))), none, some (.inl x2), none], []) q11.2
  refine Wp.run (WpD.mono _) 2 (q := ((14, [some (.inr (.inr (12, 0))), some (.inl (0 : Int32)), some (.inl x2), none], []), q11.2)) rfl ?_
  exact Wp.jump (WpD.mono _) rfl (hk14 (0 : Int32) x2 q11.2 h)


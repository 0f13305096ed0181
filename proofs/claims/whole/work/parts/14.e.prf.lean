set_option maxRecDepth 100000 in
set_option maxHeartbeats 4000000 in
theorem T_X8_readWord (e N : Nat)   (σ : Mem) (r : Unit) (τ : Mem) (Q : Pst) (h : F_X8_readWord N  σ = some (r, τ)) (hQ : Q (none) τ) : WpD (e + 2) mX8_readWord [.inr (.inr (3, 0))] σ Q := by
  refine WpD.of (d := e + 1) (Nat.le_of_ble_eq_true rfl) (Nat.le_of_ble_eq_true rfl) ?_
  show Wp (WpD (e + 1)) hcX8_readWord Q (0, [some (.inr (.inr (3, 0))), none], []) σ
  unfold F_X8_readWord at h
  exact Wp.jump (WpD.mono _) rfl ((T_X8_readWord_b0 e N  r τ Q hQ  N) σ h)

set_option maxRecDepth 100000 in
set_option maxHeartbeats 4000000 in
theorem T_X8_step_b52 (e N : Nat)   (r : Unit) (τ : Mem) (Q : Pst) (hQ : Q (none) τ) : ∀  (σ : Mem), F_X8_step_b52 N  σ = some (r, τ) → Wp (WpD (e + 2)) hcX8_step Q (52, [some (.inr (.inr (3, 0)))], []) σ := by
  intro  σ h
  unfold F_X8_step_b52 at h
  refine Wp.run (WpD.mono _) 7 (q := ((68, [some (.inr (.inr (3, 0)))], [.inl (σ.1 3 3), .inl (σ.1 3 5)]), ((hwU2 σ.1 3 6 (σ.1 3 5)), σ.2.1, σ.2.2.1, σ.2.2.2.1, σ.2.2.2.2))) rfl ?_
  refine Wp.if2_lt (WpD.mono _) rfl rfl (fun hc => ?_) (fun hc => ?_)
  · have h := (if_pos hc).symm.trans h
    show Wp (WpD (e + 2)) hcX8_step Q (79, [some (.inr (.inr (3, 0)))], []) ((hwU2 σ.1 3 6 (σ.1 3 5)), σ.2.1, σ.2.2.1, σ.2.2.2.1, σ.2.2.2.2)
    refine Wp.run (WpD.mono _) 3 (q := ((87, [some (.inr (.inr (3, 0)))], [.inl (σ.1 3 5), .inr (.inr (62, 0))]), ((hwU2 σ.1 3 6 (σ.1 3 5)), σ.2.1, σ.2.2.1, σ.2.2.2.1, σ.2.2.2.2))) rfl ?_
    obtain ⟨hc, h⟩ := ite_nn h
    refine Wp.X_ild1 (WpD.mono _) rfl rfl hc ?_
    show Wp (WpD (e + 2)) hcX8_step Q (88, [some (.inr (.inr (3, 0)))], [.inl (σ.2.2.1 62 0 ((σ.1 3 5)).toNatClampNeg)]) ((hwU2 σ.1 3 6 (σ.1 3 5)), σ.2.1, σ.2.2.1, σ.2.2.2.1, σ.2.2.2.2)
    obtain ⟨q1, hb, h⟩ := bind_some h
    refine Wp.call (WpD.mono _) rfl (T_X8_isLetter (e + 1) N (σ.2.2.1 62 0 ((σ.1 3 5)).toNatClampNeg) ((hwU2 σ.1 3 6 (σ.1 3 5)), σ.2.1, σ.2.2.1, σ.2.2.2.1, σ.2.2.2.2) _ _ _ hb ?_)
    show Wp (WpD (e + 2)) hcX8_step Q (91, [some (.inr (.inr (3, 0)))], [.inl q1.1]) q1.2
    refine Wp.if0_eq (WpD.mono _) rfl rfl (fun hc => ?_) (fun hc => ?_)
    · have h := (if_pos hc).symm.trans h
      show Wp (WpD (e + 2)) hcX8_step Q (101, [some (.inr (.inr (3, 0)))], []) q1.2
      refine Wp.run (WpD.mono _) 3 (q := ((109, [some (.inr (.inr (3, 0)))], [.inl (q1.2.1 3 5), .inr (.inr (62, 0))]), q1.2)) rfl ?_
      obtain ⟨hc, h⟩ := ite_nn h
      refine Wp.X_ild1 (WpD.mono _) rfl rfl hc ?_
      show Wp (WpD (e + 2)) hcX8_step Q (110, [some (.inr (.inr (3, 0)))], [.inl (q1.2.2.2.1 62 0 ((q1.2.1 3 5)).toNatClampNeg)]) q1.2
      obtain ⟨q2, hb, h⟩ := bind_some h
      refine Wp.call (WpD.mono _) rfl (T_X8_isDigit (e + 1) N (q1.2.2.2.1 62 0 ((q1.2.1 3 5)).toNatClampNeg) q1.2 _ _ _ hb ?_)
      show Wp (WpD (e + 2)) hcX8_step Q (113, [some (.inr (.inr (3, 0)))], [.inl q2.1]) q2.2
      refine Wp.if0_eq (WpD.mono _) rfl rfl (fun hc => ?_) (fun hc => ?_)
      · have h := (if_pos hc).symm.trans h
        show Wp (WpD (e + 2)) hcX8_step Q (123, [some (.inr (.inr (3, 0)))], []) q2.2
        refine Wp.run (WpD.mono _) 5 (q := ((134, [some (.inr (.inr (3, 0)))], [.inl (q2.2.1 3 5), .inr (.inr (62, 0)), .inr (.inr (211, 0)), .inr (.inr (3, 0))]), q2.2)) rfl ?_
        obtain ⟨hc, h⟩ := ite_nn h
        refine Wp.X_ild1 (WpD.mono _) rfl rfl hc ?_
        show Wp (WpD (e + 2)) hcX8_step Q (135, [some (.inr (.inr (3, 0)))], [.inl (q2.2.2.2.1 62 0 ((q2.2.1 3 5)).toNatClampNeg), .inr (.inr (211, 0)), .inr (.inr (3, 0))]) q2.2
        refine Wp.run (WpD.mono _) 1 (q := ((139, [some (.inr (.inr (3, 0)))], [.inl (hwIx 1 ((q2.2.2.2.1 62 0 ((q2.2.1 3 5)).toNatClampNeg).toUInt32 % 65536).toInt32), .inr (.inr (3, 0))]), q2.2)) rfl ?_
        refine Wp.if0_lt (WpD.mono _) rfl rfl (fun hc => ?_) (fun hc => ?_)
        · have h := (if_pos hc).symm.trans h
          show Wp (WpD (e + 2)) hcX8_step Q (154, [some (.inr (.inr (3, 0)))], [.inr (.inr (3, 0))]) q2.2
          refine Wp.run (WpD.mono _) 7 (q := ((168, [some (.inr (.inr (3, 0)))], []), ((hwU2 (hwU2 q2.2.1 3 7 (1 : Int32)) 3 5 ((q2.2.1 3 5) + (1 : Int32))), q2.2.2.1, q2.2.2.2.1, q2.2.2.2.2.1, q2.2.2.2.2.2))) rfl ?_
          obtain ⟨rfl, rfl⟩ := ret_inj h
          exact Wp.ret (WpD.mono _) rfl hQ
        · have h := (if_neg hc).symm.trans h
          show Wp (WpD (e + 2)) hcX8_step Q (142, [some (.inr (.inr (3, 0)))], [.inr (.inr (3, 0))]) q2.2
          refine Wp.run (WpD.mono _) 3 (q := ((150, [some (.inr (.inr (3, 0)))], [.inl (q2.2.1 3 5), .inr (.inr (62, 0)), .inr (.inr (3, 0))]), q2.2)) rfl ?_
          obtain ⟨hc, h⟩ := ite_nn h
          refine Wp.X_ild1 (WpD.mono _) rfl rfl hc ?_
          show Wp (WpD (e + 2)) hcX8_step Q (151, [some (.inr (.inr (3, 0)))], [.inl (q2.2.2.2.1 62 0 ((q2.2.1 3 5)).toNatClampNeg), .inr (.inr (3, 0))]) q2.2
          refine Wp.run (WpD.mono _) 7 (q := ((168, [some (.inr (.inr (3, 0)))], []), ((hwU2 (hwU2 q2.2.1 3 7 (q2.2.2.2.1 62 0 ((q2.2.1 3 5)).toNatClampNeg)) 3 5 ((q2.2.1 3 5) + (1 : Int32))), q2.2.2.1, q2.2.2.2.1, q2.2.2.2.2.1, q2.2.2.2.2.2))) rfl ?_
          obtain ⟨rfl, rfl⟩ := ret_inj h
          exact Wp.ret (WpD.mono _) rfl hQ
      · have h := (if_neg hc).symm.trans h
        show Wp (WpD (e + 2)) hcX8_step Q (116, [some (.inr (.inr (3, 0)))], []) q2.2
        refine Wp.run (WpD.mono _) 0 (q := ((117, [some (.inr (.inr (3, 0)))], [.inr (.inr (3, 0))]), q2.2)) rfl ?_
        obtain ⟨q3, hb, h⟩ := bind_some h
        refine Wp.call (WpD.mono _) rfl (T_X8_readNumber (e + 0) N q2.2 _ _ _ hb ?_)
        show Wp (WpD (e + 2)) hcX8_step Q (120, [some (.inr (.inr (3, 0)))], []) q3.2
        refine Wp.run (WpD.mono _) 0 (q := ((168, [some (.inr (.inr (3, 0)))], []), q3.2)) rfl ?_
        obtain ⟨rfl, rfl⟩ := ret_inj h
        exact Wp.ret (WpD.mono _) rfl hQ
    · have h := (if_neg hc).symm.trans h
      show Wp (WpD (e + 2)) hcX8_step Q (94, [some (.inr (.inr (3, 0)))], []) q1.2
      refine Wp.run (WpD.mono _) 0 (q := ((95, [some (.inr (.inr (3, 0)))], [.inr (.inr (3, 0))]), q1.2)) rfl ?_
      obtain ⟨q4, hb, h⟩ := bind_some h
      refine Wp.call (WpD.mono _) rfl (T_X8_readWord (e + 0) N q1.2 _ _ _ hb ?_)
      show Wp (WpD (e + 2)) hcX8_step Q (98, [some (.inr (.inr (3, 0)))], []) q4.2
      refine Wp.run (WpD.mono _) 0 (q := ((168, [some (.inr (.inr (3, 0)))], []), q4.2)) rfl ?_
      obtain ⟨rfl, rfl⟩ := ret_inj h
      exact Wp.ret (WpD.mono _) rfl hQ
  · have h := (if_neg hc).symm.trans h
    show Wp (WpD (e + 2)) hcX8_step Q (71, [some (.inr (.inr (3, 0)))], []) ((hwU2 σ.1 3 6 (σ.1 3 5)), σ.2.1, σ.2.2.1, σ.2.2.2.1, σ.2.2.2.2)
    refine Wp.run (WpD.mono _) 3 (q := ((168, [some (.inr (.inr (3, 0)))], []), ((hwU2 (hwU2 σ.1 3 6 (σ.1 3 5)) 3 7 (0 : Int32)), σ.2.1, σ.2.2.1, σ.2.2.2.1, σ.2.2.2.2))) rfl ?_
    obtain ⟨rfl, rfl⟩ := ret_inj h
    exact Wp.ret (WpD.mono _) rfl hQ

set_option maxRecDepth 100000 in
set_option maxHeartbeats 4000000 in
theorem T_X8_step_b0 (e N : Nat)   (r : Unit) (τ : Mem) (Q : Pst) (hQ : Q (none) τ) : ∀ n, ∀  (σ : Mem), F_X8_step_b0 N n  σ = some (r, τ) → Wp (WpD (e + 2)) hcX8_step Q (0, [some (.inr (.inr (3, 0)))], []) σ := by
  intro n
  induction n with
  | zero => intro  σ h; cases h
  | succ n ih =>
    intro  σ h
    unfold F_X8_step_b0 at h
    refine Wp.run (WpD.mono _) 3 (q := ((8, [some (.inr (.inr (3, 0)))], [.inl (σ.1 3 3), .inl (σ.1 3 5)]), σ)) rfl ?_
    refine Wp.if2_ge (WpD.mono _) rfl rfl (fun hc => ?_) (fun hc => ?_)
    · have h := (if_pos hc).symm.trans h
      show Wp (WpD (e + 2)) hcX8_step Q (52, [some (.inr (.inr (3, 0)))], []) σ
      exact Wp.jump (WpD.mono _) rfl ((T_X8_step_b52 e N  r τ Q hQ ) σ h)
    · have h := (if_neg hc).symm.trans h
      show Wp (WpD (e + 2)) hcX8_step Q (11, [some (.inr (.inr (3, 0)))], []) σ
      refine Wp.run (WpD.mono _) 3 (q := ((19, [some (.inr (.inr (3, 0)))], [.inl (σ.1 3 5), .inr (.inr (62, 0))]), σ)) rfl ?_
      obtain ⟨hc, h⟩ := ite_nn h
      refine Wp.X_ild1 (WpD.mono _) rfl rfl hc ?_
      show Wp (WpD (e + 2)) hcX8_step Q (20, [some (.inr (.inr (3, 0)))], [.inl (σ.2.2.1 62 0 ((σ.1 3 5)).toNatClampNeg)]) σ
      refine Wp.run (WpD.mono _) 0 (q := ((22, [some (.inr (.inr (3, 0)))], [.inl (32 : Int32), .inl (σ.2.2.1 62 0 ((σ.1 3 5)).toNatClampNeg)]), σ)) rfl ?_
      refine Wp.if2_eq (WpD.mono _) rfl rfl (fun hc => ?_) (fun hc => ?_)
      · have h := (if_pos hc).symm.trans h
        show Wp (WpD (e + 2)) hcX8_step Q (39, [some (.inr (.inr (3, 0)))], []) σ
        refine Wp.run (WpD.mono _) 6 (q := ((0, [some (.inr (.inr (3, 0)))], []), ((hwU2 σ.1 3 5 ((σ.1 3 5) + (1 : Int32))), σ.2.1, σ.2.2.1, σ.2.2.2.1, σ.2.2.2.2))) rfl ?_
        exact Wp.jump (WpD.mono _) rfl (ih ((hwU2 σ.1 3 5 ((σ.1 3 5) + (1 : Int32))), σ.2.1, σ.2.2.1, σ.2.2.2.1, σ.2.2.2.2) h)
      · have h := (if_neg hc).symm.trans h
        show Wp (WpD (e + 2)) hcX8_step Q (25, [some (.inr (.inr (3, 0)))], []) σ
        refine Wp.run (WpD.mono _) 3 (q := ((33, [some (.inr (.inr (3, 0)))], [.inl (σ.1 3 5), .inr (.inr (62, 0))]), σ)) rfl ?_
        obtain ⟨hc, h⟩ := ite_nn h
        refine Wp.X_ild1 (WpD.mono _) rfl rfl hc ?_
        show Wp (WpD (e + 2)) hcX8_step Q (34, [some (.inr (.inr (3, 0)))], [.inl (σ.2.2.1 62 0 ((σ.1 3 5)).toNatClampNeg)]) σ
        refine Wp.run (WpD.mono _) 0 (q := ((36, [some (.inr (.inr (3, 0)))], [.inl (10 : Int32), .inl (σ.2.2.1 62 0 ((σ.1 3 5)).toNatClampNeg)]), σ)) rfl ?_
        refine Wp.if2_ne (WpD.mono _) rfl rfl (fun hc => ?_) (fun hc => ?_)
        · have h := (if_pos hc).symm.trans h
          show Wp (WpD (e + 2)) hcX8_step Q (39, [some (.inr (.inr (3, 0)))], []) σ
          refine Wp.run (WpD.mono _) 6 (q := ((0, [some (.inr (.inr (3, 0)))], []), ((hwU2 σ.1 3 5 ((σ.1 3 5) + (1 : Int32))), σ.2.1, σ.2.2.1, σ.2.2.2.1, σ.2.2.2.2))) rfl ?_
          exact Wp.jump (WpD.mono _) rfl (ih ((hwU2 σ.1 3 5 ((σ.1 3 5) + (1 : Int32))), σ.2.1, σ.2.2.1, σ.2.2.2.1, σ.2.2.2.2) h)
        · have h := (if_neg hc).symm.trans h
          show Wp (WpD (e + 2)) hcX8_step Q (52, [some (.inr (.inr (3, 0)))], []) σ
          exact Wp.jump (WpD.mono _) rfl ((T_X8_step_b52 e N  r τ Q hQ ) σ h)

set_option maxRecDepth 100000 in
set_option maxHeartbeats 4000000 in
theorem T_X8_step (e N : Nat)   (σ : Mem) (r : Unit) (τ : Mem) (Q : Pst) (h : F_X8_step N  σ = some (r, τ)) (hQ : Q (none) τ) : WpD (e + 3) mX8_step [.inr (.inr (3, 0))] σ Q := by
  refine WpD.of (d := e + 2) (Nat.le_of_ble_eq_true rfl) (Nat.le_of_ble_eq_true rfl) ?_
  show Wp (WpD (e + 2)) hcX8_step Q (0, [some (.inr (.inr (3, 0)))], []) σ
  unfold F_X8_step at h
  exact Wp.jump (WpD.mono _) rfl ((T_X8_step_b0 e N  r τ Q hQ  N) σ h)

set_option maxRecDepth 100000 in
set_option maxHeartbeats 4000000 in
theorem T_X8_reads_b13 (e N : Nat) (g0 : Int32 → Int32 → Mem → Option (Int32 × Mem)) (g1 : Int32 → Mem → Option (Int32 × Mem)) (g2 : Int32 → Mem → Option (Int32 × Mem)) (g3 : Int32 → Int32 → Mem → Option (Int32 × Mem)) (hg0 : ∀ (a1 : Int32) (a2 : Int32) (σ : Mem) (r : Int32) (τ : Mem) (Q : Pst), g0 a1 a2 σ = some (r, τ) → Q (some (.inl r)) τ → WpD (e + 3) mX8_reads [.inr (.inr (3, 0)), .inl a1, .inl a2] σ Q) (hg1 : ∀ (a1 : Int32) (σ : Mem) (r : Int32) (τ : Mem) (Q : Pst), g1 a1 σ = some (r, τ) → Q (some (.inl r)) τ → WpD (e + 3) mX8_readsNot [.inr (.inr (3, 0)), .inl a1] σ Q) (hg2 : ∀ (a1 : Int32) (σ : Mem) (r : Int32) (τ : Mem) (Q : Pst), g2 a1 σ = some (r, τ) → Q (some (.inl r)) τ → WpD (e + 3) mX8_readsOne [.inr (.inr (3, 0)), .inl a1] σ Q) (hg3 : ∀ (a1 : Int32) (a2 : Int32) (σ : Mem) (r : Int32) (τ : Mem) (Q : Pst), g3 a1 a2 σ = some (r, τ) → Q (some (.inl r)) τ → WpD (e + 3) mX8_readsPart [.inr (.inr (3, 0)), .inl a1, .inl a2] σ Q)  (r : Int32) (τ : Mem) (Q : Pst) (hQ : Q (some (.inl r)) τ) : ∀ n, ∀ (x1 : Int32) (x2 : Int32) (x3 : Int32) (σ : Mem), F_X8_reads_b13 N g0 g1 g2 g3 n x1 x2 x3 σ = some (r, τ) → Wp (WpD (e + 3)) hcX8_reads Q (13, [some (.inr (.inr (3, 0))), some (.inl x1), some (.inl x2), some (.inl x3), none], []) σ := by
  intro n
  induction n with
  | zero => intro x1 x2 x3 σ h; cases h
  | succ n ih =>
    intro x1 x2 x3 σ h
    unfold F_X8_reads_b13 at h
    refine Wp.run (WpD.mono _) 1 (q := ((17, [some (.inr (.inr (3, 0))), some (.inl x1), some (.inl x2), some (.inl x3), none], [.inl (160 : Int32), .inl x3]), σ)) rfl ?_
    refine Wp.if2_ge (WpD.mono _) rfl rfl (fun hc => ?_) (fun hc => ?_)
    · have h := (if_pos hc).symm.trans h
      show Wp (WpD (e + 3)) hcX8_reads Q (65, [some (.inr (.inr (3, 0))), some (.inl x1), some (.inl x2), some (.inl x3), none], []) σ
      refine Wp.run (WpD.mono _) 0 (q := ((66, [none, none, none, none, none], [.inl (1 : Int32)]), σ)) rfl ?_
      obtain ⟨rfl, rfl⟩ := ret_inj h
      exact Wp.ret (WpD.mono _) rfl hQ
    · have h := (if_neg hc).symm.trans h
      show Wp (WpD (e + 3)) hcX8_reads Q (20, [some (.inr (.inr (3, 0))), some (.inl x1), some (.inl x2), some (.inl x3), none], []) σ
      refine Wp.run (WpD.mono _) 1 (q := ((22, [some (.inr (.inr (3, 0))), some (.inl x1), some (.inl x2), some (.inl x3), none], [.inl x1, .inr (.inr (3, 0))]), σ)) rfl ?_
      obtain ⟨q2, hb, h⟩ := bind_some h
      refine Wp.call (WpD.mono _) rfl (T_X8_joins (e + 2) N x1 σ _ _ _ hb ?_)
      show Wp (WpD (e + 3)) hcX8_reads Q (25, [some (.inr (.inr (3, 0))), some (.inl x1), some (.inl x2), some (.inl x3), none], [.inl q2.1]) q2.2
      refine Wp.if0_eq (WpD.mono _) rfl rfl (fun hc => ?_) (fun hc => ?_)
      · have h := (if_pos hc).symm.trans h
        show Wp (WpD (e + 3)) hcX8_reads Q (65, [some (.inr (.inr (3, 0))), some (.inl x1), some (.inl x2), some (.inl x3), none], []) q2.2
        refine Wp.run (WpD.mono _) 0 (q := ((66, [none, none, none, none, none], [.inl (1 : Int32)]), q2.2)) rfl ?_
        obtain ⟨rfl, rfl⟩ := ret_inj h
        exact Wp.ret (WpD.mono _) rfl hQ
      · have h := (if_neg hc).symm.trans h
        show Wp (WpD (e + 3)) hcX8_reads Q (28, [some (.inr (.inr (3, 0))), some (.inl x1), some (.inl x2), some (.inl x3), none], []) q2.2
        refine Wp.run (WpD.mono _) 3 (q := ((35, [some (.inr (.inr (3, 0))), some (.inl x1), some (.inl x2), some (.inl x3), some (.inl (q2.2.1 3 7))], [.inr (.inr (3, 0))]), q2.2)) rfl ?_
        obtain ⟨q3, hb, h⟩ := bind_some h
        refine Wp.call (WpD.mono _) rfl (T_X8_step (e + 0) N q2.2 _ _ _ hb ?_)
        show Wp (WpD (e + 3)) hcX8_reads Q (38, [some (.inr (.inr (3, 0))), some (.inl x1), some (.inl x2), some (.inl x3), some (.inl (q2.2.1 3 7))], []) q3.2
        refine Wp.run (WpD.mono _) 2 (q := ((41, [some (.inr (.inr (3, 0))), some (.inl x1), some (.inl x2), some (.inl x3), some (.inl (q2.2.1 3 7))], [.inl x2, .inl x1, .inr (.inr (3, 0))]), q3.2)) rfl ?_
        obtain ⟨q4, hb, h⟩ := bind_some h
        refine Wp.call (WpD.mono _) rfl (hg3 x1 x2 q3.2 _ _ _ hb ?_)
        show Wp (WpD (e + 3)) hcX8_reads Q (44, [some (.inr (.inr (3, 0))), some (.inl x1), some (.inl x2), some (.inl x3), some (.inl (q2.2.1 3 7))], [.inl q4.1]) q4.2
        refine Wp.if0_ne (WpD.mono _) rfl rfl (fun hc => ?_) (fun hc => ?_)
        · have h := (if_pos hc).symm.trans h
          show Wp (WpD (e + 3)) hcX8_reads Q (47, [some (.inr (.inr (3, 0))), some (.inl x1), some (.inl x2), some (.inl x3), some (.inl (q2.2.1 3 7))], []) q4.2
          refine Wp.run (WpD.mono _) 0 (q := ((48, [some (.inr (.inr (3, 0))), some (.inl x1), some (.inl x2), some (.inl x3), some (.inl (q2.2.1 3 7))], [.inl (0 : Int32)]), q4.2)) rfl ?_
          obtain ⟨rfl, rfl⟩ := ret_inj h
          exact Wp.ret (WpD.mono _) rfl hQ
        · have h := (if_neg hc).symm.trans h
          show Wp (WpD (e + 3)) hcX8_reads Q (49, [some (.inr (.inr (3, 0))), some (.inl x1), some (.inl x2), some (.inl x3), some (.inl (q2.2.1 3 7))], []) q4.2
          refine Wp.run (WpD.mono _) 3 (q := ((56, [some (.inr (.inr (3, 0))), some (.inl x1), some (.inl x2), some (.inl x3), some (.inl (q2.2.1 3 7))], [.inl ((20000 : Int32) + (q2.2.1 3 7)), .inr (.inr (3, 0))]), q4.2)) rfl ?_
          obtain ⟨q5, hb, h⟩ := bind_some h
          refine Wp.call (WpD.mono _) rfl (T_X8_emit (e + 2) N ((20000 : Int32) + (q2.2.1 3 7)) q4.2 _ _ _ hb ?_)
          show Wp (WpD (e + 3)) hcX8_reads Q (59, [some (.inr (.inr (3, 0))), some (.inl x1), some (.inl x2), some (.inl x3), some (.inl (q2.2.1 3 7))], []) q5.2
          refine Wp.run (WpD.mono _) 1 (q := ((13, [some (.inr (.inr (3, 0))), some (.inl x1), some (.inl x2), some (.inl (x3 + (1 : Int32))), some (.inl (q2.2.1 3 7))], []), q5.2)) rfl ?_
          exact Wp.jump (WpD.mono _) rfl (ih x1 x2 (x3 + (1 : Int32)) q5.2 h)

set_option maxRecDepth 100000 in
set_option maxHeartbeats 4000000 in
theorem TB_X8_reads (e N : Nat) (g0 : Int32 → Int32 → Mem → Option (Int32 × Mem)) (g1 : Int32 → Mem → Option (Int32 × Mem)) (g2 : Int32 → Mem → Option (Int32 × Mem)) (g3 : Int32 → Int32 → Mem → Option (Int32 × Mem)) (hg0 : ∀ (a1 : Int32) (a2 : Int32) (σ : Mem) (r : Int32) (τ : Mem) (Q : Pst), g0 a1 a2 σ = some (r, τ) → Q (some (.inl r)) τ → WpD (e + 3) mX8_reads [.inr (.inr (3, 0)), .inl a1, .inl a2] σ Q) (hg1 : ∀ (a1 : Int32) (σ : Mem) (r : Int32) (τ : Mem) (Q : Pst), g1 a1 σ = some (r, τ) → Q (some (.inl r)) τ → WpD (e + 3) mX8_readsNot [.inr (.inr (3, 0)), .inl a1] σ Q) (hg2 : ∀ (a1 : Int32) (σ : Mem) (r : Int32) (τ : Mem) (Q : Pst), g2 a1 σ = some (r, τ) → Q (some (.inl r)) τ → WpD (e + 3) mX8_readsOne [.inr (.inr (3, 0)), .inl a1] σ Q) (hg3 : ∀ (a1 : Int32) (a2 : Int32) (σ : Mem) (r : Int32) (τ : Mem) (Q : Pst), g3 a1 a2 σ = some (r, τ) → Q (some (.inl r)) τ → WpD (e + 3) mX8_readsPart [.inr (.inr (3, 0)), .inl a1, .inl a2] σ Q) (a1 : Int32) (a2 : Int32) (σ : Mem) (r : Int32) (τ : Mem) (Q : Pst) (h : B_X8_reads N g0 g1 g2 g3 a1 a2 σ = some (r, τ)) (hQ : Q (some (.inl r)) τ) : WpD (e + 1 + 3) mX8_reads [.inr (.inr (3, 0)), .inl a1, .inl a2] σ Q := by
  refine WpD.of (d := e + 3) (Nat.le_of_ble_eq_true rfl) (Nat.le_of_ble_eq_true rfl) ?_
  show Wp (WpD (e + 3)) hcX8_reads Q (0, [some (.inr (.inr (3, 0))), some (.inl a1), some (.inl a2), none, none], []) σ
  unfold B_X8_reads at h
  refine Wp.run (WpD.mono _) 2 (q := ((3, [some (.inr (.inr (3, 0))), some (.inl a1), some (.inl a2), none, none], [.inl a2, .inl a1, .inr (.inr (3, 0))]), σ)) rfl ?_
  obtain ⟨q1, hb, h⟩ := bind_some h
  refine Wp.call (WpD.mono _) rfl (hg3 a1 a2 σ _ _ _ hb ?_)
  show Wp (WpD (e + 3)) hcX8_reads Q (6, [some (.inr (.inr (3, 0))), some (.inl a1), some (.inl a2), none, none], [.inl q1.1]) q1.2
  refine Wp.if0_ne (WpD.mono _) rfl rfl (fun hc => ?_) (fun hc => ?_)
  · have h := (if_pos hc).symm.trans h
    show Wp (WpD (e + 3)) hcX8_reads Q (9, [some (.inr (.inr (3, 0))), some (.inl a1), some (.inl a2), none, none], []) q1.2
    refine Wp.run (WpD.mono _) 0 (q := ((10, [some (.inr (.inr (3, 0))), some (.inl a1), some (.inl a2), none, none], [.inl (0 : Int32)]), q1.2)) rfl ?_
    obtain ⟨rfl, rfl⟩ := ret_inj h
    exact Wp.ret (WpD.mono _) rfl hQ
  · have h := (if_neg hc).symm.trans h
    show Wp (WpD (e + 3)) hcX8_reads Q (11, [some (.inr (.inr (3, 0))), some (.inl a1), some (.inl a2), none, none], []) q1.2
    refine Wp.run (WpD.mono _) 1 (q := ((13, [some (.inr (.inr (3, 0))), some (.inl a1), some (.inl a2), some (.inl (0 : Int32)), none], []), q1.2)) rfl ?_
    exact Wp.jump (WpD.mono _) rfl ((T_X8_reads_b13 e N g0 g1 g2 g3 hg0 hg1 hg2 hg3 r τ Q hQ  N) a1 a2 (0 : Int32) q1.2 h)

set_option maxRecDepth 100000 in
set_option maxHeartbeats 4000000 in
theorem T_X8_readsNot_b72 (e N : Nat) (g0 : Int32 → Int32 → Mem → Option (Int32 × Mem)) (g1 : Int32 → Mem → Option (Int32 × Mem)) (g2 : Int32 → Mem → Option (Int32 × Mem)) (g3 : Int32 → Int32 → Mem → Option (Int32 × Mem)) (hg0 : ∀ (a1 : Int32) (a2 : Int32) (σ : Mem) (r : Int32) (τ : Mem) (Q : Pst), g0 a1 a2 σ = some (r, τ) → Q (some (.inl r)) τ → WpD (e + 3) mX8_reads [.inr (.inr (3, 0)), .inl a1, .inl a2] σ Q) (hg1 : ∀ (a1 : Int32) (σ : Mem) (r : Int32) (τ : Mem) (Q : Pst), g1 a1 σ = some (r, τ) → Q (some (.inl r)) τ → WpD (e + 3) mX8_readsNot [.inr (.inr (3, 0)), .inl a1] σ Q) (hg2 : ∀ (a1 : Int32) (σ : Mem) (r : Int32) (τ : Mem) (Q : Pst), g2 a1 σ = some (r, τ) → Q (some (.inl r)) τ → WpD (e + 3) mX8_readsOne [.inr (.inr (3, 0)), .inl a1] σ Q) (hg3 : ∀ (a1 : Int32) (a2 : Int32) (σ : Mem) (r : Int32) (τ : Mem) (Q : Pst), g3 a1 a2 σ = some (r, τ) → Q (some (.inl r)) τ → WpD (e + 3) mX8_readsPart [.inr (.inr (3, 0)), .inl a1, .inl a2] σ Q)  (r : Int32) (τ : Mem) (Q : Pst) (hQ : Q (some (.inl r)) τ) : ∀ (x1 : Int32) (σ : Mem), F_X8_readsNot_b72 N g0 g1 g2 g3 x1 σ = some (r, τ) → Wp (WpD (e + 3)) hcX8_readsNot Q (72, [some (.inr (.inr (3, 0))), some (.inl x1), none], []) σ := by
  intro x1 σ h
  unfold F_X8_readsNot_b72 at h
  refine Wp.run (WpD.mono _) 3 (q := ((78, [some (.inr (.inr (3, 0))), some (.inl x1), some (.inl (σ.1 3 7))], [.inr (.inr (3, 0))]), σ)) rfl ?_
  obtain ⟨q5, hb, h⟩ := bind_some h
  refine Wp.call (WpD.mono _) rfl (T_X8_step (e + 0) N σ _ _ _ hb ?_)
  show Wp (WpD (e + 3)) hcX8_readsNot Q (81, [some (.inr (.inr (3, 0))), some (.inl x1), some (.inl (σ.1 3 7))], []) q5.2
  refine Wp.run (WpD.mono _) 2 (q := ((84, [some (.inr (.inr (3, 0))), some (.inl x1), some (.inl (σ.1 3 7))], [.inl x1, .inl (2 : Int32), .inr (.inr (3, 0))]), q5.2)) rfl ?_
  obtain ⟨q6, hb, h⟩ := bind_some h
  refine Wp.call (WpD.mono _) rfl (hg0 (2 : Int32) x1 q5.2 _ _ _ hb ?_)
  show Wp (WpD (e + 3)) hcX8_readsNot Q (87, [some (.inr (.inr (3, 0))), some (.inl x1), some (.inl (σ.1 3 7))], [.inl q6.1]) q6.2
  refine Wp.if0_ne (WpD.mono _) rfl rfl (fun hc => ?_) (fun hc => ?_)
  · have h := (if_pos hc).symm.trans h
    show Wp (WpD (e + 3)) hcX8_readsNot Q (90, [some (.inr (.inr (3, 0))), some (.inl x1), some (.inl (σ.1 3 7))], []) q6.2
    refine Wp.run (WpD.mono _) 0 (q := ((91, [some (.inr (.inr (3, 0))), some (.inl x1), some (.inl (σ.1 3 7))], [.inl (0 : Int32)]), q6.2)) rfl ?_
    obtain ⟨rfl, rfl⟩ := ret_inj h
    exact Wp.ret (WpD.mono _) rfl hQ
  · have h := (if_neg hc).symm.trans h
    show Wp (WpD (e + 3)) hcX8_readsNot Q (92, [some (.inr (.inr (3, 0))), some (.inl x1), some (.inl (σ.1 3 7))], []) q6.2
    refine Wp.run (WpD.mono _) 3 (q := ((98, [some (.inr (.inr (3, 0))), some (.inl x1), some (.inl (σ.1 3 7))], [.inl ((20000 : Int32) + (σ.1 3 7)), .inr (.inr (3, 0))]), q6.2)) rfl ?_
    obtain ⟨q7, hb, h⟩ := bind_some h
    refine Wp.call (WpD.mono _) rfl (T_X8_emit (e + 2) N ((20000 : Int32) + (σ.1 3 7)) q6.2 _ _ _ hb ?_)
    show Wp (WpD (e + 3)) hcX8_readsNot Q (101, [some (.inr (.inr (3, 0))), some (.inl x1), some (.inl (σ.1 3 7))], []) q7.2
    refine Wp.run (WpD.mono _) 0 (q := ((102, [some (.inr (.inr (3, 0))), some (.inl x1), some (.inl (σ.1 3 7))], [.inl (1 : Int32)]), q7.2)) rfl ?_
    obtain ⟨rfl, rfl⟩ := ret_inj h
    exact Wp.ret (WpD.mono _) rfl hQ

set_option maxRecDepth 100000 in
set_option maxHeartbeats 4000000 in
theorem TB_X8_readsNot (e N : Nat) (g0 : Int32 → Int32 → Mem → Option (Int32 × Mem)) (g1 : Int32 → Mem → Option (Int32 × Mem)) (g2 : Int32 → Mem → Option (Int32 × Mem)) (g3 : Int32 → Int32 → Mem → Option (Int32 × Mem)) (hg0 : ∀ (a1 : Int32) (a2 : Int32) (σ : Mem) (r : Int32) (τ : Mem) (Q : Pst), g0 a1 a2 σ = some (r, τ) → Q (some (.inl r)) τ → WpD (e + 3) mX8_reads [.inr (.inr (3, 0)), .inl a1, .inl a2] σ Q) (hg1 : ∀ (a1 : Int32) (σ : Mem) (r : Int32) (τ : Mem) (Q : Pst), g1 a1 σ = some (r, τ) → Q (some (.inl r)) τ → WpD (e + 3) mX8_readsNot [.inr (.inr (3, 0)), .inl a1] σ Q) (hg2 : ∀ (a1 : Int32) (σ : Mem) (r : Int32) (τ : Mem) (Q : Pst), g2 a1 σ = some (r, τ) → Q (some (.inl r)) τ → WpD (e + 3) mX8_readsOne [.inr (.inr (3, 0)), .inl a1] σ Q) (hg3 : ∀ (a1 : Int32) (a2 : Int32) (σ : Mem) (r : Int32) (τ : Mem) (Q : Pst), g3 a1 a2 σ = some (r, τ) → Q (some (.inl r)) τ → WpD (e + 3) mX8_readsPart [.inr (.inr (3, 0)), .inl a1, .inl a2] σ Q) (a1 : Int32) (σ : Mem) (r : Int32) (τ : Mem) (Q : Pst) (h : B_X8_readsNot N g0 g1 g2 g3 a1 σ = some (r, τ)) (hQ : Q (some (.inl r)) τ) : WpD (e + 1 + 3) mX8_readsNot [.inr (.inr (3, 0)), .inl a1] σ Q := by
  refine WpD.of (d := e + 3) (Nat.le_of_ble_eq_true rfl) (Nat.le_of_ble_eq_true rfl) ?_
  show Wp (WpD (e + 3)) hcX8_readsNot Q (0, [some (.inr (.inr (3, 0))), some (.inl a1), none], []) σ
  unfold B_X8_readsNot at h
  refine Wp.run (WpD.mono _) 2 (q := ((6, [some (.inr (.inr (3, 0))), some (.inl a1), none], [.inl (9 : Int32), .inl (σ.1 3 7)]), σ)) rfl ?_
  refine Wp.if2_ne (WpD.mono _) rfl rfl (fun hc => ?_) (fun hc => ?_)
  · have h := (if_pos hc).symm.trans h
    show Wp (WpD (e + 3)) hcX8_readsNot Q (9, [some (.inr (.inr (3, 0))), some (.inl a1), none], []) σ
    refine Wp.run (WpD.mono _) 1 (q := ((11, [some (.inr (.inr (3, 0))), some (.inl a1), none], [.inl (5 : Int32), .inl a1]), σ)) rfl ?_
    refine Wp.if2_lt (WpD.mono _) rfl rfl (fun hc => ?_) (fun hc => ?_)
    · have h := (if_pos hc).symm.trans h
      show Wp (WpD (e + 3)) hcX8_readsNot Q (16, [some (.inr (.inr (3, 0))), some (.inl a1), none], []) σ
      refine Wp.run (WpD.mono _) 0 (q := ((17, [some (.inr (.inr (3, 0))), some (.inl a1), none], [.inr (.inr (3, 0))]), σ)) rfl ?_
      obtain ⟨q1, hb, h⟩ := bind_some h
      refine Wp.call (WpD.mono _) rfl (T_X8_step (e + 0) N σ _ _ _ hb ?_)
      show Wp (WpD (e + 3)) hcX8_readsNot Q (20, [some (.inr (.inr (3, 0))), some (.inl a1), none], []) q1.2
      refine Wp.run (WpD.mono _) 3 (q := ((24, [some (.inr (.inr (3, 0))), some (.inl a1), none], [.inl (a1 + (1 : Int32)), .inr (.inr (3, 0))]), q1.2)) rfl ?_
      obtain ⟨q2, hb, h⟩ := bind_some h
      refine Wp.call (WpD.mono _) rfl (hg1 (a1 + (1 : Int32)) q1.2 _ _ _ hb ?_)
      show Wp (WpD (e + 3)) hcX8_readsNot Q (27, [some (.inr (.inr (3, 0))), some (.inl a1), none], [.inl q2.1]) q2.2
      refine Wp.if0_ne (WpD.mono _) rfl rfl (fun hc => ?_) (fun hc => ?_)
      · have h := (if_pos hc).symm.trans h
        show Wp (WpD (e + 3)) hcX8_readsNot Q (30, [some (.inr (.inr (3, 0))), some (.inl a1), none], []) q2.2
        refine Wp.run (WpD.mono _) 0 (q := ((31, [some (.inr (.inr (3, 0))), some (.inl a1), none], [.inl (0 : Int32)]), q2.2)) rfl ?_
        obtain ⟨rfl, rfl⟩ := ret_inj h
        exact Wp.ret (WpD.mono _) rfl hQ
      · have h := (if_neg hc).symm.trans h
        show Wp (WpD (e + 3)) hcX8_readsNot Q (32, [some (.inr (.inr (3, 0))), some (.inl a1), none], []) q2.2
        refine Wp.run (WpD.mono _) 1 (q := ((36, [some (.inr (.inr (3, 0))), some (.inl a1), none], [.inl (30009 : Int32), .inr (.inr (3, 0))]), q2.2)) rfl ?_
        obtain ⟨q3, hb, h⟩ := bind_some h
        refine Wp.call (WpD.mono _) rfl (T_X8_emit (e + 2) N (30009 : Int32) q2.2 _ _ _ hb ?_)
        show Wp (WpD (e + 3)) hcX8_readsNot Q (39, [some (.inr (.inr (3, 0))), some (.inl a1), none], []) q3.2
        refine Wp.run (WpD.mono _) 0 (q := ((40, [some (.inr (.inr (3, 0))), some (.inl a1), none], [.inl (1 : Int32)]), q3.2)) rfl ?_
        obtain ⟨rfl, rfl⟩ := ret_inj h
        exact Wp.ret (WpD.mono _) rfl hQ
    · have h := (if_neg hc).symm.trans h
      show Wp (WpD (e + 3)) hcX8_readsNot Q (14, [some (.inr (.inr (3, 0))), some (.inl a1), none], []) σ
      refine Wp.run (WpD.mono _) 0 (q := ((15, [some (.inr (.inr (3, 0))), some (.inl a1), none], [.inl (0 : Int32)]), σ)) rfl ?_
      obtain ⟨rfl, rfl⟩ := ret_inj h
      exact Wp.ret (WpD.mono _) rfl hQ
  · have h := (if_neg hc).symm.trans h
    show Wp (WpD (e + 3)) hcX8_readsNot Q (41, [some (.inr (.inr (3, 0))), some (.inl a1), none], []) σ
    refine Wp.run (WpD.mono _) 2 (q := ((44, [some (.inr (.inr (3, 0))), some (.inl a1), none], [.inl a1, .inl (2 : Int32), .inr (.inr (3, 0))]), σ)) rfl ?_
    obtain ⟨q4, hb, h⟩ := bind_some h
    refine Wp.call (WpD.mono _) rfl (hg0 (2 : Int32) a1 σ _ _ _ hb ?_)
    show Wp (WpD (e + 3)) hcX8_readsNot Q (47, [some (.inr (.inr (3, 0))), some (.inl a1), none], [.inl q4.1]) q4.2
    refine Wp.if0_ne (WpD.mono _) rfl rfl (fun hc => ?_) (fun hc => ?_)
    · have h := (if_pos hc).symm.trans h
      show Wp (WpD (e + 3)) hcX8_readsNot Q (50, [some (.inr (.inr (3, 0))), some (.inl a1), none], []) q4.2
      refine Wp.run (WpD.mono _) 0 (q := ((51, [some (.inr (.inr (3, 0))), some (.inl a1), none], [.inl (0 : Int32)]), q4.2)) rfl ?_
      obtain ⟨rfl, rfl⟩ := ret_inj h
      exact Wp.ret (WpD.mono _) rfl hQ
    · have h := (if_neg hc).symm.trans h
      show Wp (WpD (e + 3)) hcX8_readsNot Q (52, [some (.inr (.inr (3, 0))), some (.inl a1), none], []) q4.2
      refine Wp.run (WpD.mono _) 2 (q := ((58, [some (.inr (.inr (3, 0))), some (.inl a1), none], [.inl (60 : Int32), .inl (q4.2.1 3 7)]), q4.2)) rfl ?_
      refine Wp.if2_eq (WpD.mono _) rfl rfl (fun hc => ?_) (fun hc => ?_)
      · have h := (if_pos hc).symm.trans h
        show Wp (WpD (e + 3)) hcX8_readsNot Q (72, [some (.inr (.inr (3, 0))), some (.inl a1), none], []) q4.2
        exact Wp.jump (WpD.mono _) rfl ((T_X8_readsNot_b72 e N g0 g1 g2 g3 hg0 hg1 hg2 hg3 r τ Q hQ ) a1 q4.2 h)
      · have h := (if_neg hc).symm.trans h
        show Wp (WpD (e + 3)) hcX8_readsNot Q (61, [some (.inr (.inr (3, 0))), some (.inl a1), none], []) q4.2
        refine Wp.run (WpD.mono _) 2 (q := ((67, [some (.inr (.inr (3, 0))), some (.inl a1), none], [.inl (61 : Int32), .inl (q4.2.1 3 7)]), q4.2)) rfl ?_
        refine Wp.if2_eq (WpD.mono _) rfl rfl (fun hc => ?_) (fun hc => ?_)
        · have h := (if_pos hc).symm.trans h
          show Wp (WpD (e + 3)) hcX8_readsNot Q (72, [some (.inr (.inr (3, 0))), some (.inl a1), none], []) q4.2
          exact Wp.jump (WpD.mono _) rfl ((T_X8_readsNot_b72 e N g0 g1 g2 g3 hg0 hg1 hg2 hg3 r τ Q hQ ) a1 q4.2 h)
        · have h := (if_neg hc).symm.trans h
          show Wp (WpD (e + 3)) hcX8_readsNot Q (70, [some (.inr (.inr (3, 0))), some (.inl a1), none], []) q4.2
          refine Wp.run (WpD.mono _) 0 (q := ((71, [some (.inr (.inr (3, 0))), some (.inl a1), none], [.inl (1 : Int32)]), q4.2)) rfl ?_
          obtain ⟨rfl, rfl⟩ := ret_inj h
          exact Wp.ret (WpD.mono _) rfl hQ

set_option maxRecDepth 100000 in
set_option maxHeartbeats 4000000 in
theorem T_X8_readsOne_b88 (e N : Nat) (g0 : Int32 → Int32 → Mem → Option (Int32 × Mem)) (g1 : Int32 → Mem → Option (Int32 × Mem)) (g2 : Int32 → Mem → Option (Int32 × Mem)) (g3 : Int32 → Int32 → Mem → Option (Int32 × Mem)) (hg0 : ∀ (a1 : Int32) (a2 : Int32) (σ : Mem) (r : Int32) (τ : Mem) (Q : Pst), g0 a1 a2 σ = some (r, τ) → Q (some (.inl r)) τ → WpD (e + 3) mX8_reads [.inr (.inr (3, 0)), .inl a1, .inl a2] σ Q) (hg1 : ∀ (a1 : Int32) (σ : Mem) (r : Int32) (τ : Mem) (Q : Pst), g1 a1 σ = some (r, τ) → Q (some (.inl r)) τ → WpD (e + 3) mX8_readsNot [.inr (.inr (3, 0)), .inl a1] σ Q) (hg2 : ∀ (a1 : Int32) (σ : Mem) (r : Int32) (τ : Mem) (Q : Pst), g2 a1 σ = some (r, τ) → Q (some (.inl r)) τ → WpD (e + 3) mX8_readsOne [.inr (.inr (3, 0)), .inl a1] σ Q) (hg3 : ∀ (a1 : Int32) (a2 : Int32) (σ : Mem) (r : Int32) (τ : Mem) (Q : Pst), g3 a1 a2 σ = some (r, τ) → Q (some (.inl r)) τ → WpD (e + 3) mX8_readsPart [.inr (.inr (3, 0)), .inl a1, .inl a2] σ Q)  (r : Int32) (τ : Mem) (Q : Pst) (hQ : Q (some (.inl r)) τ) : ∀ (x1 : Int32) (s0 : Int32) (σ : Mem), F_X8_readsOne_b88 N g0 g1 g2 g3 x1 s0 σ = some (r, τ) → Wp (WpD (e + 3)) hcX8_readsOne Q (88, [some (.inr (.inr (3, 0))), some (.inl x1), none], [.inl s0]) σ := by
  intro x1 s0 σ h
  unfold F_X8_readsOne_b88 at h
  refine Wp.run (WpD.mono _) 1 (q := ((90, [some (.inr (.inr (3, 0))), some (.inl x1), some (.inl s0)], [.inr (.inr (3, 0))]), σ)) rfl ?_
  obtain ⟨q1, hb, h⟩ := bind_some h
  refine Wp.call (WpD.mono _) rfl (T_X8_step (e + 0) N σ _ _ _ hb ?_)
  show Wp (WpD (e + 3)) hcX8_readsOne Q (93, [some (.inr (.inr (3, 0))), some (.inl x1), some (.inl s0)], []) q1.2
  refine Wp.run (WpD.mono _) 0 (q := ((94, [some (.inr (.inr (3, 0))), some (.inl x1), some (.inl s0)], [.inl s0]), q1.2)) rfl ?_
  refine Wp.if0_eq (WpD.mono _) rfl rfl (fun hc => ?_) (fun hc => ?_)
  · have h := (if_pos hc).symm.trans h
    show Wp (WpD (e + 3)) hcX8_readsOne Q (118, [some (.inr (.inr (3, 0))), some (.inl x1), some (.inl s0)], []) q1.2
    refine Wp.run (WpD.mono _) 4 (q := ((123, [some (.inr (.inr (3, 0))), some (.inl x1), some (.inl s0)], [.inl (x1 + (1 : Int32)), .inl (0 : Int32), .inr (.inr (3, 0))]), q1.2)) rfl ?_
    obtain ⟨q2, hb, h⟩ := bind_some h
    refine Wp.call (WpD.mono _) rfl (hg0 (0 : Int32) (x1 + (1 : Int32)) q1.2 _ _ _ hb ?_)
    show Wp (WpD (e + 3)) hcX8_readsOne Q (126, [some (.inr (.inr (3, 0))), some (.inl x1), some (.inl s0)], [.inl q2.1]) q2.2
    refine Wp.if0_eq (WpD.mono _) rfl rfl (fun hc => ?_) (fun hc => ?_)
    · have h := (if_pos hc).symm.trans h
      show Wp (WpD (e + 3)) hcX8_readsOne Q (138, [some (.inr (.inr (3, 0))), some (.inl x1), some (.inl s0)], []) q2.2
      refine Wp.run (WpD.mono _) 0 (q := ((139, [none, none, none], [.inl (0 : Int32)]), q2.2)) rfl ?_
      obtain ⟨rfl, rfl⟩ := ret_inj h
      exact Wp.ret (WpD.mono _) rfl hQ
    · have h := (if_neg hc).symm.trans h
      show Wp (WpD (e + 3)) hcX8_readsOne Q (129, [some (.inr (.inr (3, 0))), some (.inl x1), some (.inl s0)], []) q2.2
      refine Wp.run (WpD.mono _) 2 (q := ((135, [some (.inr (.inr (3, 0))), some (.inl x1), some (.inl s0)], [.inl (41 : Int32), .inl (q2.2.1 3 7)]), q2.2)) rfl ?_
      refine Wp.if2_eq (WpD.mono _) rfl rfl (fun hc => ?_) (fun hc => ?_)
      · have h := (if_pos hc).symm.trans h
        show Wp (WpD (e + 3)) hcX8_readsOne Q (140, [some (.inr (.inr (3, 0))), some (.inl x1), some (.inl s0)], []) q2.2
        refine Wp.run (WpD.mono _) 0 (q := ((141, [some (.inr (.inr (3, 0))), some (.inl x1), some (.inl s0)], [.inr (.inr (3, 0))]), q2.2)) rfl ?_
        obtain ⟨q3, hb, h⟩ := bind_some h
        refine Wp.call (WpD.mono _) rfl (T_X8_step (e + 0) N q2.2 _ _ _ hb ?_)
        show Wp (WpD (e + 3)) hcX8_readsOne Q (144, [some (.inr (.inr (3, 0))), some (.inl x1), some (.inl s0)], []) q3.2
        refine Wp.run (WpD.mono _) 0 (q := ((145, [some (.inr (.inr (3, 0))), some (.inl x1), some (.inl s0)], [.inl (1 : Int32)]), q3.2)) rfl ?_
        obtain ⟨rfl, rfl⟩ := ret_inj h
        exact Wp.ret (WpD.mono _) rfl hQ
      · have h := (if_neg hc).symm.trans h
        show Wp (WpD (e + 3)) hcX8_readsOne Q (138, [some (.inr (.inr (3, 0))), some (.inl x1), some (.inl s0)], []) q2.2
        refine Wp.run (WpD.mono _) 0 (q := ((139, [none, none, none], [.inl (0 : Int32)]), q2.2)) rfl ?_
        obtain ⟨rfl, rfl⟩ := ret_inj h
        exact Wp.ret (WpD.mono _) rfl hQ
  · have h := (if_neg hc).symm.trans h
    show Wp (WpD (e + 3)) hcX8_readsOne Q (97, [some (.inr (.inr (3, 0))), some (.inl x1), some (.inl s0)], []) q1.2
    refine Wp.run (WpD.mono _) 3 (q := ((101, [some (.inr (.inr (3, 0))), some (.inl x1), some (.inl s0)], [.inl (x1 + (1 : Int32)), .inr (.inr (3, 0))]), q1.2)) rfl ?_
    obtain ⟨q4, hb, h⟩ := bind_some h
    refine Wp.call (WpD.mono _) rfl (hg2 (x1 + (1 : Int32)) q1.2 _ _ _ hb ?_)
    show Wp (WpD (e + 3)) hcX8_readsOne Q (104, [some (.inr (.inr (3, 0))), some (.inl x1), some (.inl s0)], [.inl q4.1]) q4.2
    refine Wp.if0_ne (WpD.mono _) rfl rfl (fun hc => ?_) (fun hc => ?_)
    · have h := (if_pos hc).symm.trans h
      show Wp (WpD (e + 3)) hcX8_readsOne Q (107, [some (.inr (.inr (3, 0))), some (.inl x1), some (.inl s0)], []) q4.2
      refine Wp.run (WpD.mono _) 0 (q := ((108, [some (.inr (.inr (3, 0))), some (.inl x1), some (.inl s0)], [.inl (0 : Int32)]), q4.2)) rfl ?_
      obtain ⟨rfl, rfl⟩ := ret_inj h
      exact Wp.ret (WpD.mono _) rfl hQ
    · have h := (if_neg hc).symm.trans h
      show Wp (WpD (e + 3)) hcX8_readsOne Q (109, [some (.inr (.inr (3, 0))), some (.inl x1), some (.inl s0)], []) q4.2
      refine Wp.run (WpD.mono _) 1 (q := ((113, [some (.inr (.inr (3, 0))), some (.inl x1), some (.inl s0)], [.inl (30045 : Int32), .inr (.inr (3, 0))]), q4.2)) rfl ?_
      obtain ⟨q5, hb, h⟩ := bind_some h
      refine Wp.call (WpD.mono _) rfl (T_X8_emit (e + 2) N (30045 : Int32) q4.2 _ _ _ hb ?_)
      show Wp (WpD (e + 3)) hcX8_readsOne Q (116, [some (.inr (.inr (3, 0))), some (.inl x1), some (.inl s0)], []) q5.2
      refine Wp.run (WpD.mono _) 0 (q := ((117, [some (.inr (.inr (3, 0))), some (.inl x1), some (.inl s0)], [.inl (1 : Int32)]), q5.2)) rfl ?_
      obtain ⟨rfl, rfl⟩ := ret_inj h
      exact Wp.ret (WpD.mono _) rfl hQ

set_option maxRecDepth 100000 in
set_option maxHeartbeats 4000000 in
theorem T_X8_readsOne_b74 (e N : Nat) (g0 : Int32 → Int32 → Mem → Option (Int32 × Mem)) (g1 : Int32 → Mem → Option (Int32 × Mem)) (g2 : Int32 → Mem → Option (Int32 × Mem)) (g3 : Int32 → Int32 → Mem → Option (Int32 × Mem)) (hg0 : ∀ (a1 : Int32) (a2 : Int32) (σ : Mem) (r : Int32) (τ : Mem) (Q : Pst), g0 a1 a2 σ = some (r, τ) → Q (some (.inl r)) τ → WpD (e + 3) mX8_reads [.inr (.inr (3, 0)), .inl a1, .inl a2] σ Q) (hg1 : ∀ (a1 : Int32) (σ : Mem) (r : Int32) (τ : Mem) (Q : Pst), g1 a1 σ = some (r, τ) → Q (some (.inl r)) τ → WpD (e + 3) mX8_readsNot [.inr (.inr (3, 0)), .inl a1] σ Q) (hg2 : ∀ (a1 : Int32) (σ : Mem) (r : Int32) (τ : Mem) (Q : Pst), g2 a1 σ = some (r, τ) → Q (some (.inl r)) τ → WpD (e + 3) mX8_readsOne [.inr (.inr (3, 0)), .inl a1] σ Q) (hg3 : ∀ (a1 : Int32) (a2 : Int32) (σ : Mem) (r : Int32) (τ : Mem) (Q : Pst), g3 a1 a2 σ = some (r, τ) → Q (some (.inl r)) τ → WpD (e + 3) mX8_readsPart [.inr (.inr (3, 0)), .inl a1, .inl a2] σ Q)  (r : Int32) (τ : Mem) (Q : Pst) (hQ : Q (some (.inl r)) τ) : ∀ (x1 : Int32) (σ : Mem), F_X8_readsOne_b74 N g0 g1 g2 g3 x1 σ = some (r, τ) → Wp (WpD (e + 3)) hcX8_readsOne Q (74, [some (.inr (.inr (3, 0))), some (.inl x1), none], []) σ := by
  intro x1 σ h
  unfold F_X8_readsOne_b74 at h
  refine Wp.run (WpD.mono _) 2 (q := ((80, [some (.inr (.inr (3, 0))), some (.inl x1), none], [.inl (45 : Int32), .inl (σ.1 3 7)]), σ)) rfl ?_
  refine Wp.if2_ne (WpD.mono _) rfl rfl (fun hc => ?_) (fun hc => ?_)
  · have h := (if_pos hc).symm.trans h
    show Wp (WpD (e + 3)) hcX8_readsOne Q (83, [some (.inr (.inr (3, 0))), some (.inl x1), none], []) σ
    refine Wp.run (WpD.mono _) 1 (q := ((88, [some (.inr (.inr (3, 0))), some (.inl x1), none], [.inl (1 : Int32)]), σ)) rfl ?_
    exact Wp.jump (WpD.mono _) rfl ((T_X8_readsOne_b88 e N g0 g1 g2 g3 hg0 hg1 hg2 hg3 r τ Q hQ ) x1 (1 : Int32) σ h)
  · have h := (if_neg hc).symm.trans h
    show Wp (WpD (e + 3)) hcX8_readsOne Q (87, [some (.inr (.inr (3, 0))), some (.inl x1), none], []) σ
    refine Wp.run (WpD.mono _) 0 (q := ((88, [some (.inr (.inr (3, 0))), some (.inl x1), none], [.inl (0 : Int32)]), σ)) rfl ?_
    exact Wp.jump (WpD.mono _) rfl ((T_X8_readsOne_b88 e N g0 g1 g2 g3 hg0 hg1 hg2 hg3 r τ Q hQ ) x1 (0 : Int32) σ h)

set_option maxRecDepth 100000 in
set_option maxHeartbeats 4000000 in
theorem T_X8_readsOne_b40 (e N : Nat) (g0 : Int32 → Int32 → Mem → Option (Int32 × Mem)) (g1 : Int32 → Mem → Option (Int32 × Mem)) (g2 : Int32 → Mem → Option (Int32 × Mem)) (g3 : Int32 → Int32 → Mem → Option (Int32 × Mem)) (hg0 : ∀ (a1 : Int32) (a2 : Int32) (σ : Mem) (r : Int32) (τ : Mem) (Q : Pst), g0 a1 a2 σ = some (r, τ) → Q (some (.inl r)) τ → WpD (e + 3) mX8_reads [.inr (.inr (3, 0)), .inl a1, .inl a2] σ Q) (hg1 : ∀ (a1 : Int32) (σ : Mem) (r : Int32) (τ : Mem) (Q : Pst), g1 a1 σ = some (r, τ) → Q (some (.inl r)) τ → WpD (e + 3) mX8_readsNot [.inr (.inr (3, 0)), .inl a1] σ Q) (hg2 : ∀ (a1 : Int32) (σ : Mem) (r : Int32) (τ : Mem) (Q : Pst), g2 a1 σ = some (r, τ) → Q (some (.inl r)) τ → WpD (e + 3) mX8_readsOne [.inr (.inr (3, 0)), .inl a1] σ Q) (hg3 : ∀ (a1 : Int32) (a2 : Int32) (σ : Mem) (r : Int32) (τ : Mem) (Q : Pst), g3 a1 a2 σ = some (r, τ) → Q (some (.inl r)) τ → WpD (e + 3) mX8_readsPart [.inr (.inr (3, 0)), .inl a1, .inl a2] σ Q)  (r : Int32) (τ : Mem) (Q : Pst) (hQ : Q (some (.inl r)) τ) : ∀ (s0 : Int32) (σ : Mem), F_X8_readsOne_b40 N g0 g1 g2 g3 s0 σ = some (r, τ) → Wp (WpD (e + 3)) hcX8_readsOne Q (40, [some (.inr (.inr (3, 0))), none, none], [.inl s0, .inr (.inr (3, 0))]) σ := by
  intro s0 σ h
  unfold F_X8_readsOne_b40 at h
  obtain ⟨q6, hb, h⟩ := bind_some h
  refine Wp.call (WpD.mono _) rfl (T_X8_emit (e + 2) N s0 σ _ _ _ hb ?_)
  show Wp (WpD (e + 3)) hcX8_readsOne Q (43, [some (.inr (.inr (3, 0))), none, none], []) q6.2
  refine Wp.run (WpD.mono _) 0 (q := ((44, [some (.inr (.inr (3, 0))), none, none], [.inr (.inr (3, 0))]), q6.2)) rfl ?_
  obtain ⟨q7, hb, h⟩ := bind_some h
  refine Wp.call (WpD.mono _) rfl (T_X8_step (e + 0) N q6.2 _ _ _ hb ?_)
  show Wp (WpD (e + 3)) hcX8_readsOne Q (47, [some (.inr (.inr (3, 0))), none, none], []) q7.2
  refine Wp.run (WpD.mono _) 0 (q := ((48, [some (.inr (.inr (3, 0))), none, none], [.inl (1 : Int32)]), q7.2)) rfl ?_
  obtain ⟨rfl, rfl⟩ := ret_inj h
  exact Wp.ret (WpD.mono _) rfl hQ

set_option maxRecDepth 100000 in
set_option maxHeartbeats 4000000 in
theorem T_X8_readsOne_b16 (e N : Nat) (g0 : Int32 → Int32 → Mem → Option (Int32 × Mem)) (g1 : Int32 → Mem → Option (Int32 × Mem)) (g2 : Int32 → Mem → Option (Int32 × Mem)) (g3 : Int32 → Int32 → Mem → Option (Int32 × Mem)) (hg0 : ∀ (a1 : Int32) (a2 : Int32) (σ : Mem) (r : Int32) (τ : Mem) (Q : Pst), g0 a1 a2 σ = some (r, τ) → Q (some (.inl r)) τ → WpD (e + 3) mX8_reads [.inr (.inr (3, 0)), .inl a1, .inl a2] σ Q) (hg1 : ∀ (a1 : Int32) (σ : Mem) (r : Int32) (τ : Mem) (Q : Pst), g1 a1 σ = some (r, τ) → Q (some (.inl r)) τ → WpD (e + 3) mX8_readsNot [.inr (.inr (3, 0)), .inl a1] σ Q) (hg2 : ∀ (a1 : Int32) (σ : Mem) (r : Int32) (τ : Mem) (Q : Pst), g2 a1 σ = some (r, τ) → Q (some (.inl r)) τ → WpD (e + 3) mX8_readsOne [.inr (.inr (3, 0)), .inl a1] σ Q) (hg3 : ∀ (a1 : Int32) (a2 : Int32) (σ : Mem) (r : Int32) (τ : Mem) (Q : Pst), g3 a1 a2 σ = some (r, τ) → Q (some (.inl r)) τ → WpD (e + 3) mX8_readsPart [.inr (.inr (3, 0)), .inl a1, .inl a2] σ Q)  (r : Int32) (τ : Mem) (Q : Pst) (hQ : Q (some (.inl r)) τ) : ∀  (σ : Mem), F_X8_readsOne_b16 N g0 g1 g2 g3  σ = some (r, τ) → Wp (WpD (e + 3)) hcX8_readsOne Q (16, [some (.inr (.inr (3, 0))), none, none], []) σ := by
  intro  σ h
  unfold F_X8_readsOne_b16 at h
  refine Wp.run (WpD.mono _) 3 (q := ((22, [some (.inr (.inr (3, 0))), none, none], [.inl (3 : Int32), .inl (σ.1 3 7), .inr (.inr (3, 0))]), σ)) rfl ?_
  refine Wp.if2_ne (WpD.mono _) rfl rfl (fun hc => ?_) (fun hc => ?_)
  · have h := (if_pos hc).symm.trans h
    show Wp (WpD (e + 3)) hcX8_readsOne Q (25, [some (.inr (.inr (3, 0))), none, none], [.inr (.inr (3, 0))]) σ
    refine Wp.run (WpD.mono _) 4 (q := ((40, [some (.inr (.inr (3, 0))), none, none], [.inl ((10000 : Int32) + (σ.1 3 8)), .inr (.inr (3, 0))]), σ)) rfl ?_
    exact Wp.jump (WpD.mono _) rfl ((T_X8_readsOne_b40 e N g0 g1 g2 g3 hg0 hg1 hg2 hg3 r τ Q hQ ) ((10000 : Int32) + (σ.1 3 8)) σ h)
  · have h := (if_neg hc).symm.trans h
    show Wp (WpD (e + 3)) hcX8_readsOne Q (36, [some (.inr (.inr (3, 0))), none, none], [.inr (.inr (3, 0))]) σ
    refine Wp.run (WpD.mono _) 1 (q := ((40, [some (.inr (.inr (3, 0))), none, none], [.inl (σ.1 3 8), .inr (.inr (3, 0))]), σ)) rfl ?_
    exact Wp.jump (WpD.mono _) rfl ((T_X8_readsOne_b40 e N g0 g1 g2 g3 hg0 hg1 hg2 hg3 r τ Q hQ ) (σ.1 3 8) σ h)

set_option maxRecDepth 100000 in
set_option maxHeartbeats 4000000 in
theorem TB_X8_readsOne (e N : Nat) (g0 : Int32 → Int32 → Mem → Option (Int32 × Mem)) (g1 : Int32 → Mem → Option (Int32 × Mem)) (g2 : Int32 → Mem → Option (Int32 × Mem)) (g3 : Int32 → Int32 → Mem → Option (Int32 × Mem)) (hg0 : ∀ (a1 : Int32) (a2 : Int32) (σ : Mem) (r : Int32) (τ : Mem) (Q : Pst), g0 a1 a2 σ = some (r, τ) → Q (some (.inl r)) τ → WpD (e + 3) mX8_reads [.inr (.inr (3, 0)), .inl a1, .inl a2] σ Q) (hg1 : ∀ (a1 : Int32) (σ : Mem) (r : Int32) (τ : Mem) (Q : Pst), g1 a1 σ = some (r, τ) → Q (some (.inl r)) τ → WpD (e + 3) mX8_readsNot [.inr (.inr (3, 0)), .inl a1] σ Q) (hg2 : ∀ (a1 : Int32) (σ : Mem) (r : Int32) (τ : Mem) (Q : Pst), g2 a1 σ = some (r, τ) → Q (some (.inl r)) τ → WpD (e + 3) mX8_readsOne [.inr (.inr (3, 0)), .inl a1] σ Q) (hg3 : ∀ (a1 : Int32) (a2 : Int32) (σ : Mem) (r : Int32) (τ : Mem) (Q : Pst), g3 a1 a2 σ = some (r, τ) → Q (some (.inl r)) τ → WpD (e + 3) mX8_readsPart [.inr (.inr (3, 0)), .inl a1, .inl a2] σ Q) (a1 : Int32) (σ : Mem) (r : Int32) (τ : Mem) (Q : Pst) (h : B_X8_readsOne N g0 g1 g2 g3 a1 σ = some (r, τ)) (hQ : Q (some (.inl r)) τ) : WpD (e + 1 + 3) mX8_readsOne [.inr (.inr (3, 0)), .inl a1] σ Q := by
  refine WpD.of (d := e + 3) (Nat.le_of_ble_eq_true rfl) (Nat.le_of_ble_eq_true rfl) ?_
  show Wp (WpD (e + 3)) hcX8_readsOne Q (0, [some (.inr (.inr (3, 0))), some (.inl a1), none], []) σ
  unfold B_X8_readsOne at h
  refine Wp.run (WpD.mono _) 2 (q := ((5, [some (.inr (.inr (3, 0))), some (.inl a1), none], [.inl (2 : Int32), .inl (σ.1 3 7)]), σ)) rfl ?_
  refine Wp.if2_eq (WpD.mono _) rfl rfl (fun hc => ?_) (fun hc => ?_)
  · have h := (if_pos hc).symm.trans h
    show Wp (WpD (e + 3)) hcX8_readsOne Q (16, [some (.inr (.inr (3, 0))), some (.inl a1), none], []) σ
    exact Wp.jump (WpD.mono _) rfl ((T_X8_readsOne_b16 e N g0 g1 g2 g3 hg0 hg1 hg2 hg3 r τ Q hQ ) σ h)
  · have h := (if_neg hc).symm.trans h
    show Wp (WpD (e + 3)) hcX8_readsOne Q (8, [some (.inr (.inr (3, 0))), some (.inl a1), none], []) σ
    refine Wp.run (WpD.mono _) 2 (q := ((13, [some (.inr (.inr (3, 0))), some (.inl a1), none], [.inl (3 : Int32), .inl (σ.1 3 7)]), σ)) rfl ?_
    refine Wp.if2_ne (WpD.mono _) rfl rfl (fun hc => ?_) (fun hc => ?_)
    · have h := (if_pos hc).symm.trans h
      show Wp (WpD (e + 3)) hcX8_readsOne Q (16, [some (.inr (.inr (3, 0))), some (.inl a1), none], []) σ
      exact Wp.jump (WpD.mono _) rfl ((T_X8_readsOne_b16 e N g0 g1 g2 g3 hg0 hg1 hg2 hg3 r τ Q hQ ) σ h)
    · have h := (if_neg hc).symm.trans h
      show Wp (WpD (e + 3)) hcX8_readsOne Q (49, [some (.inr (.inr (3, 0))), some (.inl a1), none], []) σ
      refine Wp.run (WpD.mono _) 1 (q := ((51, [some (.inr (.inr (3, 0))), some (.inl a1), none], [.inl (5 : Int32), .inl a1]), σ)) rfl ?_
      refine Wp.if2_ge (WpD.mono _) rfl rfl (fun hc => ?_) (fun hc => ?_)
      · have h := (if_pos hc).symm.trans h
        show Wp (WpD (e + 3)) hcX8_readsOne Q (72, [some (.inr (.inr (3, 0))), some (.inl a1), none], []) σ
        refine Wp.run (WpD.mono _) 0 (q := ((73, [none, none, none], [.inl (0 : Int32)]), σ)) rfl ?_
        obtain ⟨rfl, rfl⟩ := ret_inj h
        exact Wp.ret (WpD.mono _) rfl hQ
      · have h := (if_neg hc).symm.trans h
        show Wp (WpD (e + 3)) hcX8_readsOne Q (54, [some (.inr (.inr (3, 0))), some (.inl a1), none], []) σ
        refine Wp.run (WpD.mono _) 2 (q := ((60, [some (.inr (.inr (3, 0))), some (.inl a1), none], [.inl (45 : Int32), .inl (σ.1 3 7)]), σ)) rfl ?_
        refine Wp.if2_eq (WpD.mono _) rfl rfl (fun hc => ?_) (fun hc => ?_)
        · have h := (if_pos hc).symm.trans h
          show Wp (WpD (e + 3)) hcX8_readsOne Q (74, [some (.inr (.inr (3, 0))), some (.inl a1), none], []) σ
          exact Wp.jump (WpD.mono _) rfl ((T_X8_readsOne_b74 e N g0 g1 g2 g3 hg0 hg1 hg2 hg3 r τ Q hQ ) a1 σ h)
        · have h := (if_neg hc).symm.trans h
          show Wp (WpD (e + 3)) hcX8_readsOne Q (63, [some (.inr (.inr (3, 0))), some (.inl a1), none], []) σ
          refine Wp.run (WpD.mono _) 2 (q := ((69, [some (.inr (.inr (3, 0))), some (.inl a1), none], [.inl (40 : Int32), .inl (σ.1 3 7)]), σ)) rfl ?_
          refine Wp.if2_eq (WpD.mono _) rfl rfl (fun hc => ?_) (fun hc => ?_)
          · have h := (if_pos hc).symm.trans h
            show Wp (WpD (e + 3)) hcX8_readsOne Q (74, [some (.inr (.inr (3, 0))), some (.inl a1), none], []) σ
            exact Wp.jump (WpD.mono _) rfl ((T_X8_readsOne_b74 e N g0 g1 g2 g3 hg0 hg1 hg2 hg3 r τ Q hQ ) a1 σ h)
          · have h := (if_neg hc).symm.trans h
            show Wp (WpD (e + 3)) hcX8_readsOne Q (72, [some (.inr (.inr (3, 0))), some (.inl a1), none], []) σ
            refine Wp.run (WpD.mono _) 0 (q := ((73, [none, none, none], [.inl (0 : Int32)]), σ)) rfl ?_
            obtain ⟨rfl, rfl⟩ := ret_inj h
            exact Wp.ret (WpD.mono _) rfl hQ

set_option maxRecDepth 100000 in
set_option maxHeartbeats 4000000 in
theorem TB_X8_readsPart (e N : Nat) (g0 : Int32 → Int32 → Mem → Option (Int32 × Mem)) (g1 : Int32 → Mem → Option (Int32 × Mem)) (g2 : Int32 → Mem → Option (Int32 × Mem)) (g3 : Int32 → Int32 → Mem → Option (Int32 × Mem)) (hg0 : ∀ (a1 : Int32) (a2 : Int32) (σ : Mem) (r : Int32) (τ : Mem) (Q : Pst), g0 a1 a2 σ = some (r, τ) → Q (some (.inl r)) τ → WpD (e + 3) mX8_reads [.inr (.inr (3, 0)), .inl a1, .inl a2] σ Q) (hg1 : ∀ (a1 : Int32) (σ : Mem) (r : Int32) (τ : Mem) (Q : Pst), g1 a1 σ = some (r, τ) → Q (some (.inl r)) τ → WpD (e + 3) mX8_readsNot [.inr (.inr (3, 0)), .inl a1] σ Q) (hg2 : ∀ (a1 : Int32) (σ : Mem) (r : Int32) (τ : Mem) (Q : Pst), g2 a1 σ = some (r, τ) → Q (some (.inl r)) τ → WpD (e + 3) mX8_readsOne [.inr (.inr (3, 0)), .inl a1] σ Q) (hg3 : ∀ (a1 : Int32) (a2 : Int32) (σ : Mem) (r : Int32) (τ : Mem) (Q : Pst), g3 a1 a2 σ = some (r, τ) → Q (some (.inl r)) τ → WpD (e + 3) mX8_readsPart [.inr (.inr (3, 0)), .inl a1, .inl a2] σ Q) (a1 : Int32) (a2 : Int32) (σ : Mem) (r : Int32) (τ : Mem) (Q : Pst) (h : B_X8_readsPart N g0 g1 g2 g3 a1 a2 σ = some (r, τ)) (hQ : Q (some (.inl r)) τ) : WpD (e + 1 + 3) mX8_readsPart [.inr (.inr (3, 0)), .inl a1, .inl a2] σ Q := by
  refine WpD.of (d := e + 3) (Nat.le_of_ble_eq_true rfl) (Nat.le_of_ble_eq_true rfl) ?_
  show Wp (WpD (e + 3)) hcX8_readsPart Q (0, [some (.inr (.inr (3, 0))), some (.inl a1), some (.inl a2)], []) σ
  unfold B_X8_readsPart at h
  refine Wp.run (WpD.mono _) 0 (q := ((1, [some (.inr (.inr (3, 0))), some (.inl a1), some (.inl a2)], [.inl a1]), σ)) rfl ?_
  by_cases hs0 : a1 = 0
  · have h := (if_pos hs0).symm.trans h
    refine Wp.swIn (WpD.mono _) (q := ((28, [some (.inr (.inr (3, 0))), some (.inl a1), some (.inl a2)], []), σ)) hs0 rfl ?_
    refine Wp.run (WpD.mono _) 2 (q := ((31, [some (.inr (.inr (3, 0))), some (.inl a1), some (.inl a2)], [.inl a2, .inl (1 : Int32), .inr (.inr (3, 0))]), σ)) rfl ?_
    obtain ⟨q1, hb, h⟩ := bind_some h
    refine Wp.call (WpD.mono _) rfl (hg0 (1 : Int32) a2 σ _ _ _ hb ?_)
    show Wp (WpD (e + 3)) hcX8_readsPart Q (34, [some (.inr (.inr (3, 0))), some (.inl a1), some (.inl a2)], [.inl q1.1]) q1.2
    obtain ⟨hc, h⟩ := ite_yy h
    obtain ⟨rfl, rfl⟩ := ret_inj h
    exact Wp.retZ (WpD.mono _) rfl hc hQ
  have h := (if_neg hs0).symm.trans h
  by_cases hs1 : a1 = 1
  · have h := (if_pos hs1).symm.trans h
    refine Wp.swIn (WpD.mono _) (q := ((35, [some (.inr (.inr (3, 0))), some (.inl a1), some (.inl a2)], []), σ)) hs1 rfl ?_
    refine Wp.run (WpD.mono _) 1 (q := ((37, [some (.inr (.inr (3, 0))), some (.inl a1), some (.inl a2)], [.inl a2, .inr (.inr (3, 0))]), σ)) rfl ?_
    obtain ⟨q2, hb, h⟩ := bind_some h
    refine Wp.call (WpD.mono _) rfl (hg1 a2 σ _ _ _ hb ?_)
    show Wp (WpD (e + 3)) hcX8_readsPart Q (40, [some (.inr (.inr (3, 0))), some (.inl a1), some (.inl a2)], [.inl q2.1]) q2.2
    obtain ⟨hc, h⟩ := ite_yy h
    obtain ⟨rfl, rfl⟩ := ret_inj h
    exact Wp.retZ (WpD.mono _) rfl hc hQ
  have h := (if_neg hs1).symm.trans h
  by_cases hs2 : a1 = 2
  · have h := (if_pos hs2).symm.trans h
    refine Wp.swIn (WpD.mono _) (q := ((41, [some (.inr (.inr (3, 0))), some (.inl a1), some (.inl a2)], []), σ)) hs2 rfl ?_
    refine Wp.run (WpD.mono _) 2 (q := ((44, [some (.inr (.inr (3, 0))), some (.inl a1), some (.inl a2)], [.inl a2, .inl (3 : Int32), .inr (.inr (3, 0))]), σ)) rfl ?_
    obtain ⟨q3, hb, h⟩ := bind_some h
    refine Wp.call (WpD.mono _) rfl (hg0 (3 : Int32) a2 σ _ _ _ hb ?_)
    show Wp (WpD (e + 3)) hcX8_readsPart Q (47, [some (.inr (.inr (3, 0))), some (.inl a1), some (.inl a2)], [.inl q3.1]) q3.2
    obtain ⟨hc, h⟩ := ite_yy h
    obtain ⟨rfl, rfl⟩ := ret_inj h
    exact Wp.retZ (WpD.mono _) rfl hc hQ
  have h := (if_neg hs2).symm.trans h
  have ehs0 : ¬ (a1).toInt = 0 := fun z => hs0 (Int32.toInt_inj.mp z)
  have ehs1 : ¬ (a1).toInt = 1 := fun z => hs1 (Int32.toInt_inj.mp z)
  have ehs2 : ¬ (a1).toInt = 2 := fun z => hs2 (Int32.toInt_inj.mp z)
  refine Wp.swOut (WpD.mono _) (q := ((48, [some (.inr (.inr (3, 0))), some (.inl a1), some (.inl a2)], []), σ)) (o := if (a1).toInt < 0 ∨ 2 < (a1).toInt then some (47) else #[27, 34, 40][((a1).toInt - 0).toNat]?) (o' := some (47)) rfl (if_pos (by omega)) rfl ?_
  refine Wp.run (WpD.mono _) 1 (q := ((50, [some (.inr (.inr (3, 0))), some (.inl a1), some (.inl a2)], [.inl a2, .inr (.inr (3, 0))]), σ)) rfl ?_
  obtain ⟨q4, hb, h⟩ := bind_some h
  refine Wp.call (WpD.mono _) rfl (hg2 a2 σ _ _ _ hb ?_)
  show Wp (WpD (e + 3)) hcX8_readsPart Q (53, [some (.inr (.inr (3, 0))), some (.inl a1), some (.inl a2)], [.inl q4.1]) q4.2
  obtain ⟨hc, h⟩ := ite_yy h
  obtain ⟨rfl, rfl⟩ := ret_inj h
  exact Wp.retZ (WpD.mono _) rfl hc hQ

set_option maxRecDepth 100000 in
theorem TG_X8_reads (e N : Nat) : ∀ d : Nat, (∀ (a1 : Int32) (a2 : Int32) (σ : Mem) (r : Int32) (τ : Mem) (Q : Pst), (G_X8_reads N d).1 a1 a2 σ = some (r, τ) → Q (some (.inl r)) τ → WpD (e + d + 3) mX8_reads [.inr (.inr (3, 0)), .inl a1, .inl a2] σ Q) ∧ (∀ (a1 : Int32) (σ : Mem) (r : Int32) (τ : Mem) (Q : Pst), (G_X8_reads N d).2.1 a1 σ = some (r, τ) → Q (some (.inl r)) τ → WpD (e + d + 3) mX8_readsNot [.inr (.inr (3, 0)), .inl a1] σ Q) ∧ (∀ (a1 : Int32) (σ : Mem) (r : Int32) (τ : Mem) (Q : Pst), (G_X8_reads N d).2.2.1 a1 σ = some (r, τ) → Q (some (.inl r)) τ → WpD (e + d + 3) mX8_readsOne [.inr (.inr (3, 0)), .inl a1] σ Q) ∧ (∀ (a1 : Int32) (a2 : Int32) (σ : Mem) (r : Int32) (τ : Mem) (Q : Pst), (G_X8_reads N d).2.2.2 a1 a2 σ = some (r, τ) → Q (some (.inl r)) τ → WpD (e + d + 3) mX8_readsPart [.inr (.inr (3, 0)), .inl a1, .inl a2] σ Q) := by
  intro d
  induction d with
  | zero =>
    exact ⟨(fun _ _ _ _ _ _ h => (nomatch h)), (fun _ _ _ _ _ h => (nomatch h)), (fun _ _ _ _ _ h => (nomatch h)), (fun _ _ _ _ _ _ h => (nomatch h))⟩
  | succ d ih =>
    exact ⟨(fun a1 a2 σ r τ Q h hQ => TB_X8_reads (e + d) N (G_X8_reads N d).1 (G_X8_reads N d).2.1 (G_X8_reads N d).2.2.1 (G_X8_reads N d).2.2.2 ih.1 ih.2.1 ih.2.2.1 ih.2.2.2 a1 a2 σ r τ Q h hQ), (fun a1 σ r τ Q h hQ => TB_X8_readsNot (e + d) N (G_X8_reads N d).1 (G_X8_reads N d).2.1 (G_X8_reads N d).2.2.1 (G_X8_reads N d).2.2.2 ih.1 ih.2.1 ih.2.2.1 ih.2.2.2 a1 σ r τ Q h hQ), (fun a1 σ r τ Q h hQ => TB_X8_readsOne (e + d) N (G_X8_reads N d).1 (G_X8_reads N d).2.1 (G_X8_reads N d).2.2.1 (G_X8_reads N d).2.2.2 ih.1 ih.2.1 ih.2.2.1 ih.2.2.2 a1 σ r τ Q h hQ), (fun a1 a2 σ r τ Q h hQ => TB_X8_readsPart (e + d) N (G_X8_reads N d).1 (G_X8_reads N d).2.1 (G_X8_reads N d).2.2.1 (G_X8_reads N d).2.2.2 ih.1 ih.2.1 ih.2.2.1 ih.2.2.2 a1 a2 σ r τ Q h hQ)⟩

theorem T_X8_reads (e N : Nat) (a1 : Int32) (a2 : Int32) (σ : Mem) (r : Int32) (τ : Mem) (Q : Pst) (h : F_X8_reads N a1 a2 σ = some (r, τ)) (hQ : Q (some (.inl r)) τ) : WpD (e + 93) mX8_reads [.inr (.inr (3, 0)), .inl a1, .inl a2] σ Q := (TG_X8_reads e N 90).1 a1 a2 σ r τ Q h hQ
theorem T_X8_readsNot (e N : Nat) (a1 : Int32) (σ : Mem) (r : Int32) (τ : Mem) (Q : Pst) (h : F_X8_readsNot N a1 σ = some (r, τ)) (hQ : Q (some (.inl r)) τ) : WpD (e + 93) mX8_readsNot [.inr (.inr (3, 0)), .inl a1] σ Q := (TG_X8_reads e N 90).2.1 a1 σ r τ Q h hQ
theorem T_X8_readsOne (e N : Nat) (a1 : Int32) (σ : Mem) (r : Int32) (τ : Mem) (Q : Pst) (h : F_X8_readsOne N a1 σ = some (r, τ)) (hQ : Q (some (.inl r)) τ) : WpD (e + 93) mX8_readsOne [.inr (.inr (3, 0)), .inl a1] σ Q := (TG_X8_reads e N 90).2.2.1 a1 σ r τ Q h hQ
theorem T_X8_readsPart (e N : Nat) (a1 : Int32) (a2 : Int32) (σ : Mem) (r : Int32) (τ : Mem) (Q : Pst) (h : F_X8_readsPart N a1 a2 σ = some (r, τ)) (hQ : Q (some (.inl r)) τ) : WpD (e + 93) mX8_readsPart [.inr (.inr (3, 0)), .inl a1, .inl a2] σ Q := (TG_X8_reads e N 90).2.2.2 a1 a2 σ r τ Q h hQ
set_option maxRecDepth 100000 in
set_option maxHeartbeats 4000000 in
theorem T_X8_readsText_b16 (e N : Nat)   (r : Int32) (τ : Mem) (Q : Pst) (hQ : Q (some (.inl r)) τ) : ∀ n, ∀ (x1 : Int32) (σ : Mem), F_X8_readsText_b16 N n x1 σ = some (r, τ) → Wp (WpD (e + 93)) hcX8_readsText Q (16, [some (.inr (.inr (3, 0))), some (.inl x1)], []) σ := by
  intro n
  induction n with
  | zero => intro x1 σ h; cases h
  | succ n ih =>
    intro x1 σ h
    unfold F_X8_readsText_b16 at h
    refine Wp.run (WpD.mono _) 1 (q := ((18, [some (.inr (.inr (3, 0))), some (.inl x1)], [.inl (3 : Int32), .inl x1]), σ)) rfl ?_
    refine Wp.if2_ge (WpD.mono _) rfl rfl (fun hc => ?_) (fun hc => ?_)
    · have h := (if_pos hc).symm.trans h
      show Wp (WpD (e + 93)) hcX8_readsText Q (83, [some (.inr (.inr (3, 0))), some (.inl x1)], []) σ
      refine Wp.run (WpD.mono _) 1 (q := ((87, [some (.inr (.inr (3, 0))), some (.inl x1)], [.inl (σ.1 3 7)]), σ)) rfl ?_
      refine Wp.if0_ne (WpD.mono _) rfl rfl (fun hc => ?_) (fun hc => ?_)
      · have h := (if_pos hc).symm.trans h
        show Wp (WpD (e + 93)) hcX8_readsText Q (90, [some (.inr (.inr (3, 0))), some (.inl x1)], []) σ
        refine Wp.run (WpD.mono _) 1 (q := ((95, [some (.inr (.inr (3, 0))), some (.inl x1)], [.inl (1 : Int32)]), σ)) rfl ?_
        obtain ⟨rfl, rfl⟩ := ret_inj h
        exact Wp.ret (WpD.mono _) rfl hQ
      · have h := (if_neg hc).symm.trans h
        show Wp (WpD (e + 93)) hcX8_readsText Q (94, [some (.inr (.inr (3, 0))), some (.inl x1)], []) σ
        refine Wp.run (WpD.mono _) 0 (q := ((95, [some (.inr (.inr (3, 0))), some (.inl x1)], [.inl (0 : Int32)]), σ)) rfl ?_
        obtain ⟨rfl, rfl⟩ := ret_inj h
        exact Wp.ret (WpD.mono _) rfl hQ
    · have h := (if_neg hc).symm.trans h
      show Wp (WpD (e + 93)) hcX8_readsText Q (21, [some (.inr (.inr (3, 0))), some (.inl x1)], []) σ
      refine Wp.run (WpD.mono _) 4 (q := ((28, [some (.inr (.inr (3, 0))), some (.inl x1)], [.inl ((4 : Int32) + x1), .inl (σ.1 3 7)]), σ)) rfl ?_
      refine Wp.if2_eq (WpD.mono _) rfl rfl (fun hc => ?_) (fun hc => ?_)
      · have h := (if_pos hc).symm.trans h
        show Wp (WpD (e + 93)) hcX8_readsText Q (33, [some (.inr (.inr (3, 0))), some (.inl x1)], []) σ
        refine Wp.run (WpD.mono _) 4 (q := ((42, [some (.inr (.inr (3, 0))), some (.inl x1)], [.inl (σ.1 3 4), .inl x1, .inr (.inr (64, 0))]), σ)) rfl ?_
        obtain ⟨hc, h⟩ := ite_nn h
        refine Wp.X_ist (WpD.mono _) rfl rfl hc ?_
        show Wp (WpD (e + 93)) hcX8_readsText Q (43, [some (.inr (.inr (3, 0))), some (.inl x1)], []) (σ.1, σ.2.1, (hwU3 σ.2.2.1 64 0 (x1).toNatClampNeg (σ.1 3 4)), σ.2.2.2.1, σ.2.2.2.2)
        refine Wp.run (WpD.mono _) 0 (q := ((44, [some (.inr (.inr (3, 0))), some (.inl x1)], [.inr (.inr (3, 0))]), (σ.1, σ.2.1, (hwU3 σ.2.2.1 64 0 (x1).toNatClampNeg (σ.1 3 4)), σ.2.2.2.1, σ.2.2.2.2))) rfl ?_
        obtain ⟨q2, hb, h⟩ := bind_some h
        refine Wp.call (WpD.mono _) rfl (T_X8_step (e + 90) N (σ.1, σ.2.1, (hwU3 σ.2.2.1 64 0 (x1).toNatClampNeg (σ.1 3 4)), σ.2.2.2.1, σ.2.2.2.2) _ _ _ hb ?_)
        show Wp (WpD (e + 93)) hcX8_readsText Q (47, [some (.inr (.inr (3, 0))), some (.inl x1)], []) q2.2
        refine Wp.run (WpD.mono _) 2 (q := ((50, [some (.inr (.inr (3, 0))), some (.inl x1)], [.inl (0 : Int32), .inl (0 : Int32), .inr (.inr (3, 0))]), q2.2)) rfl ?_
        obtain ⟨q3, hb, h⟩ := bind_some h
        refine Wp.call (WpD.mono _) rfl (T_X8_reads (e + 0) N (0 : Int32) (0 : Int32) q2.2 _ _ _ hb ?_)
        show Wp (WpD (e + 93)) hcX8_readsText Q (53, [some (.inr (.inr (3, 0))), some (.inl x1)], [.inl q3.1]) q3.2
        refine Wp.if0_eq (WpD.mono _) rfl rfl (fun hc => ?_) (fun hc => ?_)
        · have h := (if_pos hc).symm.trans h
          show Wp (WpD (e + 93)) hcX8_readsText Q (65, [some (.inr (.inr (3, 0))), some (.inl x1)], []) q3.2
          refine Wp.run (WpD.mono _) 0 (q := ((66, [none, none], [.inl (0 : Int32)]), q3.2)) rfl ?_
          obtain ⟨rfl, rfl⟩ := ret_inj h
          exact Wp.ret (WpD.mono _) rfl hQ
        · have h := (if_neg hc).symm.trans h
          show Wp (WpD (e + 93)) hcX8_readsText Q (56, [some (.inr (.inr (3, 0))), some (.inl x1)], []) q3.2
          refine Wp.run (WpD.mono _) 2 (q := ((62, [some (.inr (.inr (3, 0))), some (.inl x1)], [.inl (59 : Int32), .inl (q3.2.1 3 7)]), q3.2)) rfl ?_
          refine Wp.if2_eq (WpD.mono _) rfl rfl (fun hc => ?_) (fun hc => ?_)
          · have h := (if_pos hc).symm.trans h
            show Wp (WpD (e + 93)) hcX8_readsText Q (67, [some (.inr (.inr (3, 0))), some (.inl x1)], []) q3.2
            refine Wp.run (WpD.mono _) 1 (q := ((70, [some (.inr (.inr (3, 0))), some (.inl x1)], [.inl (40000 : Int32), .inr (.inr (3, 0))]), q3.2)) rfl ?_
            obtain ⟨q4, hb, h⟩ := bind_some h
            refine Wp.call (WpD.mono _) rfl (T_X8_emit (e + 92) N (40000 : Int32) q3.2 _ _ _ hb ?_)
            show Wp (WpD (e + 93)) hcX8_readsText Q (73, [some (.inr (.inr (3, 0))), some (.inl x1)], []) q4.2
            refine Wp.run (WpD.mono _) 0 (q := ((74, [some (.inr (.inr (3, 0))), some (.inl x1)], [.inr (.inr (3, 0))]), q4.2)) rfl ?_
            obtain ⟨q5, hb, h⟩ := bind_some h
            refine Wp.call (WpD.mono _) rfl (T_X8_step (e + 90) N q4.2 _ _ _ hb ?_)
            show Wp (WpD (e + 93)) hcX8_readsText Q (77, [some (.inr (.inr (3, 0))), some (.inl x1)], []) q5.2
            refine Wp.run (WpD.mono _) 1 (q := ((16, [some (.inr (.inr (3, 0))), some (.inl (x1 + (1 : Int32)))], []), q5.2)) rfl ?_
            exact Wp.jump (WpD.mono _) rfl (ih (x1 + (1 : Int32)) q5.2 h)
          · have h := (if_neg hc).symm.trans h
            show Wp (WpD (e + 93)) hcX8_readsText Q (65, [some (.inr (.inr (3, 0))), some (.inl x1)], []) q3.2
            refine Wp.run (WpD.mono _) 0 (q := ((66, [none, none], [.inl (0 : Int32)]), q3.2)) rfl ?_
            obtain ⟨rfl, rfl⟩ := ret_inj h
            exact Wp.ret (WpD.mono _) rfl hQ
      · have h := (if_neg hc).symm.trans h
        show Wp (WpD (e + 93)) hcX8_readsText Q (31, [some (.inr (.inr (3, 0))), some (.inl x1)], []) σ
        refine Wp.run (WpD.mono _) 0 (q := ((32, [some (.inr (.inr (3, 0))), some (.inl x1)], [.inl (0 : Int32)]), σ)) rfl ?_
        obtain ⟨rfl, rfl⟩ := ret_inj h
        exact Wp.ret (WpD.mono _) rfl hQ

set_option maxRecDepth 100000 in
set_option maxHeartbeats 4000000 in
theorem T_X8_readsText (e N : Nat)   (σ : Mem) (r : Int32) (τ : Mem) (Q : Pst) (h : F_X8_readsText N  σ = some (r, τ)) (hQ : Q (some (.inl r)) τ) : WpD (e + 94) mX8_readsText [.inr (.inr (3, 0))] σ Q := by
  refine WpD.of (d := e + 93) (Nat.le_of_ble_eq_true rfl) (Nat.le_of_ble_eq_true rfl) ?_
  show Wp (WpD (e + 93)) hcX8_readsText Q (0, [some (.inr (.inr (3, 0))), none], []) σ
  unfold F_X8_readsText at h
  refine Wp.run (WpD.mono _) 6 (q := ((11, [some (.inr (.inr (3, 0))), none], [.inr (.inr (3, 0))]), ((hwU2 (hwU2 σ.1 3 5 (0 : Int32)) 3 4 (0 : Int32)), σ.2.1, σ.2.2.1, σ.2.2.2.1, σ.2.2.2.2))) rfl ?_
  obtain ⟨q1, hb, h⟩ := bind_some h
  refine Wp.call (WpD.mono _) rfl (T_X8_step (e + 90) N ((hwU2 (hwU2 σ.1 3 5 (0 : Int32)) 3 4 (0 : Int32)), σ.2.1, σ.2.2.1, σ.2.2.2.1, σ.2.2.2.2) _ _ _ hb ?_)
  show Wp (WpD (e + 93)) hcX8_readsText Q (14, [some (.inr (.inr (3, 0))), none], []) q1.2
  refine Wp.run (WpD.mono _) 1 (q := ((16, [some (.inr (.inr (3, 0))), some (.inl (0 : Int32))], []), q1.2)) rfl ?_
  exact Wp.jump (WpD.mono _) rfl ((T_X8_readsText_b16 e N  r τ Q hQ  N) (0 : Int32) q1.2 h)

set_option maxRecDepth 100000 in
set_option maxHeartbeats 4000000 in
theorem T_X4_readTape (e N : Nat)   (σ : Mem) (r : Int32) (τ : Mem) (Q : Pst) (h : F_X4_readTape N  σ = some (r, τ)) (hQ : Q (some (.inl r)) τ) : WpD (e + 95) mX4_readTape [.inr (.inr (2, 0))] σ Q := by
  refine WpD.of (d := e + 94) (Nat.le_of_ble_eq_true rfl) (Nat.le_of_ble_eq_true rfl) ?_
  show Wp (WpD (e + 94)) hcX4_readTape Q (0, [some (.inr (.inr (2, 0))), none, none], []) σ
  unfold F_X4_readTape at h
  refine Wp.run (WpD.mono _) 4 (q := ((8, [some (.inr (.inr (2, 0))), some (.inl (σ.1 2 9)), none], [.inl (6 : Int32), .inl (σ.1 2 9)]), σ)) rfl ?_
  refine Wp.if2_lt (WpD.mono _) rfl rfl (fun hc => ?_) (fun hc => ?_)
  · have h := (if_pos hc).symm.trans h
    show Wp (WpD (e + 94)) hcX4_readTape Q (14, [some (.inr (.inr (2, 0))), some (.inl (σ.1 2 9)), none], []) σ
    refine Wp.run (WpD.mono _) 1 (q := ((18, [some (.inr (.inr (2, 0))), some (.inl (σ.1 2 9)), none], [.inr (.inr (3, 0))]), σ)) rfl ?_
    obtain ⟨q1, hb, h⟩ := bind_some h
    refine Wp.call (WpD.mono _) rfl (T_X8_readsText (e + 0) N σ _ _ _ hb ?_)
    show Wp (WpD (e + 94)) hcX4_readTape Q (21, [some (.inr (.inr (2, 0))), some (.inl (σ.1 2 9)), none], [.inl q1.1]) q1.2
    refine Wp.run (WpD.mono _) 5 (q := ((31, [some (.inr (.inr (2, 0))), some (.inl (σ.1 2 9)), some (.inl q1.1)], [.inl q1.1]), ((hwU2 q1.2.1 3 3 (0 : Int32)), q1.2.2.1, q1.2.2.2.1, q1.2.2.2.2.1, q1.2.2.2.2.2))) rfl ?_
    refine Wp.if0_ne (WpD.mono _) rfl rfl (fun hc => ?_) (fun hc => ?_)
    · have h := (if_pos hc).symm.trans h
      show Wp (WpD (e + 94)) hcX4_readTape Q (34, [some (.inr (.inr (2, 0))), some (.inl (σ.1 2 9)), some (.inl q1.1)], []) ((hwU2 q1.2.1 3 3 (0 : Int32)), q1.2.2.1, q1.2.2.2.1, q1.2.2.2.2.1, q1.2.2.2.2.2)
      refine Wp.run (WpD.mono _) 4 (q := ((44, [some (.inr (.inr (2, 0))), some (.inl (σ.1 2 9)), some (.inl q1.1)], [.inl ((Int32.ofInt (-100)) - (q1.2.1 3 6))]), ((hwU2 q1.2.1 3 3 (0 : Int32)), q1.2.2.1, q1.2.2.2.1, q1.2.2.2.2.1, q1.2.2.2.2.2))) rfl ?_
      obtain ⟨rfl, rfl⟩ := ret_inj h
      exact Wp.ret (WpD.mono _) rfl hQ
    · have h := (if_neg hc).symm.trans h
      show Wp (WpD (e + 94)) hcX4_readTape Q (45, [some (.inr (.inr (2, 0))), some (.inl (σ.1 2 9)), some (.inl q1.1)], []) ((hwU2 q1.2.1 3 3 (0 : Int32)), q1.2.2.1, q1.2.2.2.1, q1.2.2.2.2.1, q1.2.2.2.2.2)
      refine Wp.run (WpD.mono _) 6 (q := ((58, [some (.inr (.inr (2, 0))), some (.inl (σ.1 2 9)), some (.inl q1.1)], [.inl (σ.1 2 9), .inr (.inr (38, 0)), .inl (0 : Int32), .inr (.inr (63, 0))]), ((hwU2 q1.2.1 3 3 (0 : Int32)), q1.2.2.1, q1.2.2.2.1, q1.2.2.2.2.1, q1.2.2.2.2.2))) rfl ?_
      obtain ⟨hc, h⟩ := ite_nn h
      refine Wp.X_rld4 (WpD.mono _) rfl rfl hc ?_
      show Wp (WpD (e + 94)) hcX4_readTape Q (59, [some (.inr (.inr (2, 0))), some (.inl (σ.1 2 9)), some (.inl q1.1)], [.inr (.inr (39, ((σ.1 2 9)).toNatClampNeg)), .inl (0 : Int32), .inr (.inr (63, 0))]) ((hwU2 q1.2.1 3 3 (0 : Int32)), q1.2.2.1, q1.2.2.2.1, q1.2.2.2.2.1, q1.2.2.2.2.2)
      refine Wp.run (WpD.mono _) 9 (q := ((79, [some (.inr (.inr (2, 0))), some (.inl (σ.1 2 9)), some (.inl q1.1)], [.inl (σ.1 2 9), .inr (.inr (40, 0)), .inl (0 : Int32), .inr (.inr (64, 0))]), ((hwU2 q1.2.1 3 3 (0 : Int32)), q1.2.2.1, (hwR3 q1.2.2.2.1 39 ((σ.1 2 9)).toNatClampNeg (va_cpy (q1.2.2.2.1 63 0) (q1.2.2.2.1 39 ((σ.1 2 9)).toNatClampNeg) 0 0 160)), q1.2.2.2.2.1, q1.2.2.2.2.2))) rfl ?_
      obtain ⟨hc, h⟩ := ite_nn h
      refine Wp.X_rld4 (WpD.mono _) rfl rfl hc ?_
      show Wp (WpD (e + 94)) hcX4_readTape Q (80, [some (.inr (.inr (2, 0))), some (.inl (σ.1 2 9)), some (.inl q1.1)], [.inr (.inr (41, ((σ.1 2 9)).toNatClampNeg)), .inl (0 : Int32), .inr (.inr (64, 0))]) ((hwU2 q1.2.1 3 3 (0 : Int32)), q1.2.2.1, (hwR3 q1.2.2.2.1 39 ((σ.1 2 9)).toNatClampNeg (va_cpy (q1.2.2.2.1 63 0) (q1.2.2.2.1 39 ((σ.1 2 9)).toNatClampNeg) 0 0 160)), q1.2.2.2.2.1, q1.2.2.2.2.2)
      refine Wp.run (WpD.mono _) 8 (q := ((93, [some (.inr (.inr (2, 0))), some (.inl (σ.1 2 9)), some (.inl q1.1)], [.inl (σ.1 2 9)]), ((hwU2 (hwU2 q1.2.1 3 3 (0 : Int32)) 2 9 ((σ.1 2 9) + (1 : Int32))), q1.2.2.1, (hwR3 (hwR3 q1.2.2.2.1 39 ((σ.1 2 9)).toNatClampNeg (va_cpy (q1.2.2.2.1 63 0) (q1.2.2.2.1 39 ((σ.1 2 9)).toNatClampNeg) 0 0 160)) 41 ((σ.1 2 9)).toNatClampNeg (va_cpy ((hwR3 q1.2.2.2.1 39 ((σ.1 2 9)).toNatClampNeg (va_cpy (q1.2.2.2.1 63 0) (q1.2.2.2.1 39 ((σ.1 2 9)).toNatClampNeg) 0 0 160)) 64 0) ((hwR3 q1.2.2.2.1 39 ((σ.1 2 9)).toNatClampNeg (va_cpy (q1.2.2.2.1 63 0) (q1.2.2.2.1 39 ((σ.1 2 9)).toNatClampNeg) 0 0 160)) 41 ((σ.1 2 9)).toNatClampNeg) 0 0 3)), q1.2.2.2.2.1, q1.2.2.2.2.2))) rfl ?_
      obtain ⟨rfl, rfl⟩ := ret_inj h
      exact Wp.ret (WpD.mono _) rfl hQ
  · have h := (if_neg hc).symm.trans h
    show Wp (WpD (e + 94)) hcX4_readTape Q (11, [some (.inr (.inr (2, 0))), some (.inl (σ.1 2 9)), none], []) σ
    refine Wp.run (WpD.mono _) 0 (q := ((13, [some (.inr (.inr (2, 0))), some (.inl (σ.1 2 9)), none], [.inl (Int32.ofInt (-4))]), σ)) rfl ?_
    obtain ⟨rfl, rfl⟩ := ret_inj h
    exact Wp.ret (WpD.mono _) rfl hQ

set_option maxRecDepth 100000 in
set_option maxHeartbeats 4000000 in
theorem T_X11_text (e N : Nat)   (σ : Mem) (r : Int32) (τ : Mem) (Q : Pst) (h : F_X11_text N  σ = some (r, τ)) (hQ : Q (some (.inl r)) τ) : WpD (e + 96) mX11_text [.inr (.inr (0, 0))] σ Q := by
  refine WpD.of (d := e + 95) (Nat.le_of_ble_eq_true rfl) (Nat.le_of_ble_eq_true rfl) ?_
  show Wp (WpD (e + 95)) hcX11_text Q (0, [some (.inr (.inr (0, 0)))], []) σ
  unfold F_X11_text at h
  refine Wp.run (WpD.mono _) 1 (q := ((4, [some (.inr (.inr (0, 0)))], [.inr (.inr (2, 0))]), σ)) rfl ?_
  obtain ⟨q1, hb, h⟩ := bind_some h
  refine Wp.call (WpD.mono _) rfl (T_X4_readTape (e + 0) N σ _ _ _ hb ?_)
  show Wp (WpD (e + 95)) hcX11_text Q (7, [some (.inr (.inr (0, 0)))], [.inl q1.1]) q1.2
  obtain ⟨rfl, rfl⟩ := ret_inj h
  exact Wp.ret (WpD.mono _) rfl hQ

set_option maxRecDepth 100000 in
set_option maxHeartbeats 4000000 in
theorem T_X11_think (e N : Nat)  (a1 : Int32) (a2 : Int32) (σ : Mem) (r : Int64) (τ : Mem) (Q : Pst) (h : F_X11_think N a1 a2 σ = some (r, τ)) (hQ : Q (some (.inr (.inl r))) τ) : WpD (e + 4) mX11_think [.inr (.inr (0, 0)), .inl a1, .inl a2] σ Q := by
  refine WpD.of (d := e + 3) (Nat.le_of_ble_eq_true rfl) (Nat.le_of_ble_eq_true rfl) ?_
  show Wp (WpD (e + 3)) hcX11_think Q (0, [some (.inr (.inr (0, 0))), some (.inl a1), some (.inl a2), none], []) σ
  unfold F_X11_think at h
  refine Wp.run (WpD.mono _) 1 (q := ((2, [some (.inr (.inr (0, 0))), some (.inl a1), some (.inl a2), none], [.inl a1, .inr (.inr (0, 0))]), σ)) rfl ?_
  obtain ⟨q1, hb, h⟩ := bind_some h
  refine Wp.call (WpD.mono _) rfl (T_X11_isPlace (e + 1) N a1 σ _ _ _ hb ?_)
  show Wp (WpD (e + 3)) hcX11_think Q (5, [some (.inr (.inr (0, 0))), some (.inl a1), some (.inl a2), none], [.inl q1.1]) q1.2
  refine Wp.if0_eq (WpD.mono _) rfl rfl (fun hc => ?_) (fun hc => ?_)
  · have h := (if_pos hc).symm.trans h
    show Wp (WpD (e + 3)) hcX11_think Q (16, [some (.inr (.inr (0, 0))), some (.inl a1), some (.inl a2), none], []) q1.2
    refine Wp.run (WpD.mono _) 0 (q := ((19, [none, none, none, none], [.inr (.inl (Int64.ofInt (-4611686018427387904)))]), q1.2)) rfl ?_
    obtain ⟨rfl, rfl⟩ := ret_inj h
    exact Wp.ret (WpD.mono _) rfl hQ
  · have h := (if_neg hc).symm.trans h
    show Wp (WpD (e + 3)) hcX11_think Q (8, [some (.inr (.inr (0, 0))), some (.inl a1), some (.inl a2), none], []) q1.2
    refine Wp.run (WpD.mono _) 1 (q := ((10, [some (.inr (.inr (0, 0))), some (.inl a1), some (.inl a2), none], [.inl a2, .inr (.inr (0, 0))]), q1.2)) rfl ?_
    obtain ⟨q2, hb, h⟩ := bind_some h
    refine Wp.call (WpD.mono _) rfl (T_X11_isLayer (e + 1) N a2 q1.2 _ _ _ hb ?_)
    show Wp (WpD (e + 3)) hcX11_think Q (13, [some (.inr (.inr (0, 0))), some (.inl a1), some (.inl a2), none], [.inl q2.1]) q2.2
    refine Wp.if0_ne (WpD.mono _) rfl rfl (fun hc => ?_) (fun hc => ?_)
    · have h := (if_pos hc).symm.trans h
      show Wp (WpD (e + 3)) hcX11_think Q (16, [some (.inr (.inr (0, 0))), some (.inl a1), some (.inl a2), none], []) q2.2
      refine Wp.run (WpD.mono _) 0 (q := ((19, [none, none, none, none], [.inr (.inl (Int64.ofInt (-4611686018427387904)))]), q2.2)) rfl ?_
      obtain ⟨rfl, rfl⟩ := ret_inj h
      exact Wp.ret (WpD.mono _) rfl hQ
    · have h := (if_neg hc).symm.trans h
      show Wp (WpD (e + 3)) hcX11_think Q (20, [some (.inr (.inr (0, 0))), some (.inl a1), some (.inl a2), none], []) q2.2
      refine Wp.run (WpD.mono _) 2 (q := ((25, [some (.inr (.inr (0, 0))), some (.inl a1), some (.inl a2), none], [.inl a1, .inr (.inr (8, 0))]), q2.2)) rfl ?_
      obtain ⟨q3, hb, h⟩ := bind_some h
      refine Wp.call (WpD.mono _) rfl (T_X6_nextYard (e + 0) N a1 q2.2 _ _ _ hb ?_)
      show Wp (WpD (e + 3)) hcX11_think Q (28, [some (.inr (.inr (0, 0))), some (.inl a1), some (.inl a2), none], [.inl q3.1]) q3.2
      refine Wp.run (WpD.mono _) 1 (q := ((30, [some (.inr (.inr (0, 0))), some (.inl a1), some (.inl a2), some (.inl q3.1)], [.inl q3.1]), q3.2)) rfl ?_
      refine Wp.if0_ne (WpD.mono _) rfl rfl (fun hc => ?_) (fun hc => ?_)
      · have h := (if_pos hc).symm.trans h
        show Wp (WpD (e + 3)) hcX11_think Q (33, [some (.inr (.inr (0, 0))), some (.inl a1), some (.inl a2), some (.inl q3.1)], []) q3.2
        refine Wp.run (WpD.mono _) 1 (q := ((50, [some (.inr (.inr (0, 0))), some (.inl a1), some (.inl a2), some (.inl q3.1)], [.inr (.inl (Int64.ofInt (-3)))]), q3.2)) rfl ?_
        obtain ⟨rfl, rfl⟩ := ret_inj h
        exact Wp.ret (WpD.mono _) rfl hQ
      · have h := (if_neg hc).symm.trans h
        show Wp (WpD (e + 3)) hcX11_think Q (39, [some (.inr (.inr (0, 0))), some (.inl a1), some (.inl a2), some (.inl q3.1)], []) q3.2
        refine Wp.run (WpD.mono _) 3 (q := ((47, [some (.inr (.inr (0, 0))), some (.inl a1), some (.inl a2), some (.inl q3.1)], [.inl q3.1, .inr (.inr (49, 0))]), q3.2)) rfl ?_
        obtain ⟨hc, h⟩ := ite_nn h
        refine Wp.X_rld5 (WpD.mono _) rfl rfl hc ?_
        show Wp (WpD (e + 3)) hcX11_think Q (48, [some (.inr (.inr (0, 0))), some (.inl a1), some (.inl a2), some (.inl q3.1)], [.inr (.inr (50, (q3.1).toNatClampNeg))]) q3.2
        refine Wp.run (WpD.mono _) 0 (q := ((49, [some (.inr (.inr (0, 0))), some (.inl a1), some (.inl a2), some (.inl q3.1)], [.inl a2, .inr (.inr (50, (q3.1).toNatClampNeg))]), q3.2)) rfl ?_
        obtain ⟨hc, h⟩ := ite_nn h
        refine Wp.X_lld (WpD.mono _) rfl rfl hc ?_
        show Wp (WpD (e + 3)) hcX11_think Q (50, [some (.inr (.inr (0, 0))), some (.inl a1), some (.inl a2), some (.inl q3.1)], [.inr (.inl (q3.2.2.2.2.1 50 (q3.1).toNatClampNeg (a2).toNatClampNeg))]) q3.2
        obtain ⟨rfl, rfl⟩ := ret_inj h
        exact Wp.ret (WpD.mono _) rfl hQ

set_option maxRecDepth 100000 in
set_option maxHeartbeats 4000000 in
theorem T_X11_ties (e N : Nat)  (a1 : Int32) (a2 : Int32) (a3 : Int32) (σ : Mem) (r : Int32) (τ : Mem) (Q : Pst) (h : F_X11_ties N a1 a2 a3 σ = some (r, τ)) (hQ : Q (some (.inl r)) τ) : WpD (e + 3) mX11_ties [.inr (.inr (0, 0)), .inl a1, .inl a2, .inl a3] σ Q := by
  refine WpD.of (d := e + 2) (Nat.le_of_ble_eq_true rfl) (Nat.le_of_ble_eq_true rfl) ?_
  show Wp (WpD (e + 2)) hcX11_ties Q (0, [some (.inr (.inr (0, 0))), some (.inl a1), some (.inl a2), some (.inl a3), none], []) σ
  unfold F_X11_ties at h
  refine Wp.run (WpD.mono _) 1 (q := ((2, [some (.inr (.inr (0, 0))), some (.inl a1), some (.inl a2), some (.inl a3), none], [.inl a1, .inr (.inr (0, 0))]), σ)) rfl ?_
  obtain ⟨q1, hb, h⟩ := bind_some h
  refine Wp.call (WpD.mono _) rfl (T_X11_isPlace (e + 0) N a1 σ _ _ _ hb ?_)
  show Wp (WpD (e + 2)) hcX11_ties Q (5, [some (.inr (.inr (0, 0))), some (.inl a1), some (.inl a2), some (.inl a3), none], [.inl q1.1]) q1.2
  refine Wp.if0_eq (WpD.mono _) rfl rfl (fun hc => ?_) (fun hc => ?_)
  · have h := (if_pos hc).symm.trans h
    show Wp (WpD (e + 2)) hcX11_ties Q (21, [some (.inr (.inr (0, 0))), some (.inl a1), some (.inl a2), some (.inl a3), none], []) q1.2
    refine Wp.run (WpD.mono _) 0 (q := ((22, [none, none, none, none, none], [.inl (Int32.ofInt (-1))]), q1.2)) rfl ?_
    obtain ⟨rfl, rfl⟩ := ret_inj h
    exact Wp.ret (WpD.mono _) rfl hQ
  · have h := (if_neg hc).symm.trans h
    show Wp (WpD (e + 2)) hcX11_ties Q (8, [some (.inr (.inr (0, 0))), some (.inl a1), some (.inl a2), some (.inl a3), none], []) q1.2
    refine Wp.run (WpD.mono _) 1 (q := ((10, [some (.inr (.inr (0, 0))), some (.inl a1), some (.inl a2), some (.inl a3), none], [.inl a2, .inr (.inr (0, 0))]), q1.2)) rfl ?_
    obtain ⟨q2, hb, h⟩ := bind_some h
    refine Wp.call (WpD.mono _) rfl (T_X11_isPlace (e + 0) N a2 q1.2 _ _ _ hb ?_)
    show Wp (WpD (e + 2)) hcX11_ties Q (13, [some (.inr (.inr (0, 0))), some (.inl a1), some (.inl a2), some (.inl a3), none], [.inl q2.1]) q2.2
    refine Wp.if0_eq (WpD.mono _) rfl rfl (fun hc => ?_) (fun hc => ?_)
    · have h := (if_pos hc).symm.trans h
      show Wp (WpD (e + 2)) hcX11_ties Q (21, [some (.inr (.inr (0, 0))), some (.inl a1), some (.inl a2), some (.inl a3), none], []) q2.2
      refine Wp.run (WpD.mono _) 0 (q := ((22, [none, none, none, none, none], [.inl (Int32.ofInt (-1))]), q2.2)) rfl ?_
      obtain ⟨rfl, rfl⟩ := ret_inj h
      exact Wp.ret (WpD.mono _) rfl hQ
    · have h := (if_neg hc).symm.trans h
      show Wp (WpD (e + 2)) hcX11_ties Q (16, [some (.inr (.inr (0, 0))), some (.inl a1), some (.inl a2), some (.inl a3), none], []) q2.2
      refine Wp.run (WpD.mono _) 1 (q := ((18, [some (.inr (.inr (0, 0))), some (.inl a1), some (.inl a2), some (.inl a3), none], [.inl a2, .inl a1]), q2.2)) rfl ?_
      refine Wp.if2_ne (WpD.mono _) rfl rfl (fun hc => ?_) (fun hc => ?_)
      · have h := (if_pos hc).symm.trans h
        show Wp (WpD (e + 2)) hcX11_ties Q (21, [some (.inr (.inr (0, 0))), some (.inl a1), some (.inl a2), some (.inl a3), none], []) q2.2
        refine Wp.run (WpD.mono _) 0 (q := ((22, [none, none, none, none, none], [.inl (Int32.ofInt (-1))]), q2.2)) rfl ?_
        obtain ⟨rfl, rfl⟩ := ret_inj h
        exact Wp.ret (WpD.mono _) rfl hQ
      · have h := (if_neg hc).symm.trans h
        show Wp (WpD (e + 2)) hcX11_ties Q (23, [some (.inr (.inr (0, 0))), some (.inl a1), some (.inl a2), some (.inl a3), none], []) q2.2
        refine Wp.run (WpD.mono _) 2 (q := ((27, [some (.inr (.inr (0, 0))), some (.inl a1), some (.inl a2), some (.inl a3), none], [.inl (100 : Int32), .inl (0 : Int32), .inl a3]), q2.2)) rfl ?_
        obtain ⟨q3, hb, h⟩ := bind_some h
        refine Wp.call (WpD.mono _) rfl (T_X11_within (e + 1) N a3 (0 : Int32) (100 : Int32) q2.2 _ _ _ hb ?_)
        show Wp (WpD (e + 2)) hcX11_ties Q (30, [some (.inr (.inr (0, 0))), some (.inl a1), some (.inl a2), some (.inl a3), none], [.inl q3.1]) q3.2
        refine Wp.if0_ne (WpD.mono _) rfl rfl (fun hc => ?_) (fun hc => ?_)
        · have h := (if_pos hc).symm.trans h
          show Wp (WpD (e + 2)) hcX11_ties Q (33, [some (.inr (.inr (0, 0))), some (.inl a1), some (.inl a2), some (.inl a3), none], []) q3.2
          refine Wp.run (WpD.mono _) 0 (q := ((35, [some (.inr (.inr (0, 0))), some (.inl a1), some (.inl a2), some (.inl a3), none], [.inl (Int32.ofInt (-2))]), q3.2)) rfl ?_
          obtain ⟨rfl, rfl⟩ := ret_inj h
          exact Wp.ret (WpD.mono _) rfl hQ
        · have h := (if_neg hc).symm.trans h
          show Wp (WpD (e + 2)) hcX11_ties Q (36, [some (.inr (.inr (0, 0))), some (.inl a1), some (.inl a2), some (.inl a3), none], []) q3.2
          refine Wp.run (WpD.mono _) 3 (q := ((44, [some (.inr (.inr (0, 0))), some (.inl a1), some (.inl a2), some (.inl a3), none], [.inl a1, .inr (.inr (60, 0))]), q3.2)) rfl ?_
          obtain ⟨hc, h⟩ := ite_nn h
          refine Wp.X_rld4 (WpD.mono _) rfl rfl hc ?_
          show Wp (WpD (e + 2)) hcX11_ties Q (45, [some (.inr (.inr (0, 0))), some (.inl a1), some (.inl a2), some (.inl a3), none], [.inr (.inr (61, (a1).toNatClampNeg))]) q3.2
          refine Wp.run (WpD.mono _) 0 (q := ((46, [some (.inr (.inr (0, 0))), some (.inl a1), some (.inl a2), some (.inl a3), none], [.inl a2, .inr (.inr (61, (a1).toNatClampNeg))]), q3.2)) rfl ?_
          obtain ⟨hc, h⟩ := ite_nn h
          refine Wp.X_ild1 (WpD.mono _) rfl rfl hc ?_
          show Wp (WpD (e + 2)) hcX11_ties Q (47, [some (.inr (.inr (0, 0))), some (.inl a1), some (.inl a2), some (.inl a3), none], [.inl (q3.2.2.2.1 61 (a1).toNatClampNeg (a2).toNatClampNeg)]) q3.2
          refine Wp.run (WpD.mono _) 4 (q := ((57, [some (.inr (.inr (0, 0))), some (.inl a1), some (.inl a2), some (.inl a3), some (.inl (q3.2.2.2.1 61 (a1).toNatClampNeg (a2).toNatClampNeg))], [.inl a1, .inr (.inr (60, 0))]), q3.2)) rfl ?_
          obtain ⟨hc, h⟩ := ite_nn h
          refine Wp.X_rld4 (WpD.mono _) rfl rfl hc ?_
          show Wp (WpD (e + 2)) hcX11_ties Q (58, [some (.inr (.inr (0, 0))), some (.inl a1), some (.inl a2), some (.inl a3), some (.inl (q3.2.2.2.1 61 (a1).toNatClampNeg (a2).toNatClampNeg))], [.inr (.inr (61, (a1).toNatClampNeg))]) q3.2
          refine Wp.run (WpD.mono _) 1 (q := ((60, [some (.inr (.inr (0, 0))), some (.inl a1), some (.inl a2), some (.inl a3), some (.inl (q3.2.2.2.1 61 (a1).toNatClampNeg (a2).toNatClampNeg))], [.inl a3, .inl a2, .inr (.inr (61, (a1).toNatClampNeg))]), q3.2)) rfl ?_
          obtain ⟨hc, h⟩ := ite_nn h
          refine Wp.X_ist (WpD.mono _) rfl rfl hc ?_
          show Wp (WpD (e + 2)) hcX11_ties Q (61, [some (.inr (.inr (0, 0))), some (.inl a1), some (.inl a2), some (.inl a3), some (.inl (q3.2.2.2.1 61 (a1).toNatClampNeg (a2).toNatClampNeg))], []) (q3.2.1, q3.2.2.1, (hwU3 q3.2.2.2.1 61 (a1).toNatClampNeg (a2).toNatClampNeg a3), q3.2.2.2.2.1, q3.2.2.2.2.2)
          refine Wp.run (WpD.mono _) 3 (q := ((69, [some (.inr (.inr (0, 0))), some (.inl a1), some (.inl a2), some (.inl a3), some (.inl (q3.2.2.2.1 61 (a1).toNatClampNeg (a2).toNatClampNeg))], [.inl a2, .inr (.inr (60, 0))]), (q3.2.1, q3.2.2.1, (hwU3 q3.2.2.2.1 61 (a1).toNatClampNeg (a2).toNatClampNeg a3), q3.2.2.2.2.1, q3.2.2.2.2.2))) rfl ?_
          obtain ⟨hc, h⟩ := ite_nn h
          refine Wp.X_rld4 (WpD.mono _) rfl rfl hc ?_
          show Wp (WpD (e + 2)) hcX11_ties Q (70, [some (.inr (.inr (0, 0))), some (.inl a1), some (.inl a2), some (.inl a3), some (.inl (q3.2.2.2.1 61 (a1).toNatClampNeg (a2).toNatClampNeg))], [.inr (.inr (61, (a2).toNatClampNeg))]) (q3.2.1, q3.2.2.1, (hwU3 q3.2.2.2.1 61 (a1).toNatClampNeg (a2).toNatClampNeg a3), q3.2.2.2.2.1, q3.2.2.2.2.2)
          refine Wp.run (WpD.mono _) 1 (q := ((72, [some (.inr (.inr (0, 0))), some (.inl a1), some (.inl a2), some (.inl a3), some (.inl (q3.2.2.2.1 61 (a1).toNatClampNeg (a2).toNatClampNeg))], [.inl a3, .inl a1, .inr (.inr (61, (a2).toNatClampNeg))]), (q3.2.1, q3.2.2.1, (hwU3 q3.2.2.2.1 61 (a1).toNatClampNeg (a2).toNatClampNeg a3), q3.2.2.2.2.1, q3.2.2.2.2.2))) rfl ?_
          obtain ⟨hc, h⟩ := ite_nn h
          refine Wp.X_ist (WpD.mono _) rfl rfl hc ?_
          show Wp (WpD (e + 2)) hcX11_ties Q (73, [some (.inr (.inr (0, 0))), some (.inl a1), some (.inl a2), some (.inl a3), some (.inl (q3.2.2.2.1 61 (a1).toNatClampNeg (a2).toNatClampNeg))], []) (q3.2.1, q3.2.2.1, (hwU3 (hwU3 q3.2.2.2.1 61 (a1).toNatClampNeg (a2).toNatClampNeg a3) 61 (a2).toNatClampNeg (a1).toNatClampNeg a3), q3.2.2.2.2.1, q3.2.2.2.2.2)
          refine Wp.run (WpD.mono _) 0 (q := ((75, [some (.inr (.inr (0, 0))), some (.inl a1), some (.inl a2), some (.inl a3), some (.inl (q3.2.2.2.1 61 (a1).toNatClampNeg (a2).toNatClampNeg))], [.inl (q3.2.2.2.1 61 (a1).toNatClampNeg (a2).toNatClampNeg)]), (q3.2.1, q3.2.2.1, (hwU3 (hwU3 q3.2.2.2.1 61 (a1).toNatClampNeg (a2).toNatClampNeg a3) 61 (a2).toNatClampNeg (a1).toNatClampNeg a3), q3.2.2.2.2.1, q3.2.2.2.2.2))) rfl ?_
          obtain ⟨rfl, rfl⟩ := ret_inj h
          exact Wp.ret (WpD.mono _) rfl hQ

set_option maxRecDepth 100000 in
set_option maxHeartbeats 4000000 in
theorem T_X11_told (e N : Nat)  (a1 : Int32) (a2 : Int32) (σ : Mem) (r : Int32) (τ : Mem) (Q : Pst) (h : F_X11_told N a1 a2 σ = some (r, τ)) (hQ : Q (some (.inl r)) τ) : WpD (e + 3) mX11_told [.inr (.inr (0, 0)), .inl a1, .inl a2] σ Q := by
  refine WpD.of (d := e + 2) (Nat.le_of_ble_eq_true rfl) (Nat.le_of_ble_eq_true rfl) ?_
  show Wp (WpD (e + 2)) hcX11_told Q (0, [some (.inr (.inr (0, 0))), some (.inl a1), some (.inl a2)], []) σ
  unfold F_X11_told at h
  refine Wp.run (WpD.mono _) 1 (q := ((2, [some (.inr (.inr (0, 0))), some (.inl a1), some (.inl a2)], [.inl a1, .inr (.inr (0, 0))]), σ)) rfl ?_
  obtain ⟨q1, hb, h⟩ := bind_some h
  refine Wp.call (WpD.mono _) rfl (T_X11_isPlace (e + 0) N a1 σ _ _ _ hb ?_)
  show Wp (WpD (e + 2)) hcX11_told Q (5, [some (.inr (.inr (0, 0))), some (.inl a1), some (.inl a2)], [.inl q1.1]) q1.2
  refine Wp.if0_ne (WpD.mono _) rfl rfl (fun hc => ?_) (fun hc => ?_)
  · have h := (if_pos hc).symm.trans h
    show Wp (WpD (e + 2)) hcX11_told Q (8, [some (.inr (.inr (0, 0))), some (.inl a1), some (.inl a2)], []) q1.2
    refine Wp.run (WpD.mono _) 0 (q := ((10, [some (.inr (.inr (0, 0))), some (.inl a1), some (.inl a2)], [.inl (Int32.ofInt (-5))]), q1.2)) rfl ?_
    obtain ⟨rfl, rfl⟩ := ret_inj h
    exact Wp.ret (WpD.mono _) rfl hQ
  · have h := (if_neg hc).symm.trans h
    show Wp (WpD (e + 2)) hcX11_told Q (11, [some (.inr (.inr (0, 0))), some (.inl a1), some (.inl a2)], []) q1.2
    refine Wp.run (WpD.mono _) 0 (q := ((12, [some (.inr (.inr (0, 0))), some (.inl a1), some (.inl a2)], [.inl a2]), q1.2)) rfl ?_
    refine Wp.if0_ne (WpD.mono _) rfl rfl (fun hc => ?_) (fun hc => ?_)
    · have h := (if_pos hc).symm.trans h
      show Wp (WpD (e + 2)) hcX11_told Q (15, [some (.inr (.inr (0, 0))), some (.inl a1), some (.inl a2)], []) q1.2
      refine Wp.run (WpD.mono _) 3 (q := ((23, [some (.inr (.inr (0, 0))), some (.inl a1), some (.inl a2)], [.inl a1, .inr (.inr (58, 0))]), q1.2)) rfl ?_
      obtain ⟨hc, h⟩ := ite_nn h
      refine Wp.X_ild1 (WpD.mono _) rfl rfl hc ?_
      show Wp (WpD (e + 2)) hcX11_told Q (24, [some (.inr (.inr (0, 0))), some (.inl a1), some (.inl a2)], [.inl (q1.2.2.2.1 58 0 (a1).toNatClampNeg)]) q1.2
      obtain ⟨rfl, rfl⟩ := ret_inj h
      exact Wp.ret (WpD.mono _) rfl hQ
    · have h := (if_neg hc).symm.trans h
      show Wp (WpD (e + 2)) hcX11_told Q (25, [some (.inr (.inr (0, 0))), some (.inl a1), some (.inl a2)], []) q1.2
      refine Wp.run (WpD.mono _) 1 (q := ((27, [some (.inr (.inr (0, 0))), some (.inl a1), some (.inl a2)], [.inl (1 : Int32), .inl a2]), q1.2)) rfl ?_
      refine Wp.if2_ne (WpD.mono _) rfl rfl (fun hc => ?_) (fun hc => ?_)
      · have h := (if_pos hc).symm.trans h
        show Wp (WpD (e + 2)) hcX11_told Q (30, [some (.inr (.inr (0, 0))), some (.inl a1), some (.inl a2)], []) q1.2
        refine Wp.run (WpD.mono _) 3 (q := ((38, [some (.inr (.inr (0, 0))), some (.inl a1), some (.inl a2)], [.inl a1, .inr (.inr (59, 0))]), q1.2)) rfl ?_
        obtain ⟨hc, h⟩ := ite_nn h
        refine Wp.X_zld (WpD.mono _) rfl rfl hc ?_
        show Wp (WpD (e + 2)) hcX11_told Q (39, [some (.inr (.inr (0, 0))), some (.inl a1), some (.inl a2)], [.inl (q1.2.2.2.1 59 0 (a1).toNatClampNeg)]) q1.2
        refine Wp.if0_eq (WpD.mono _) rfl rfl (fun hc => ?_) (fun hc => ?_)
        · have h := (if_pos hc).symm.trans h
          show Wp (WpD (e + 2)) hcX11_told Q (46, [some (.inr (.inr (0, 0))), some (.inl a1), some (.inl a2)], []) q1.2
          refine Wp.run (WpD.mono _) 0 (q := ((47, [some (.inr (.inr (0, 0))), some (.inl a1), some (.inl a2)], [.inl (0 : Int32)]), q1.2)) rfl ?_
          obtain ⟨rfl, rfl⟩ := ret_inj h
          exact Wp.ret (WpD.mono _) rfl hQ
        · have h := (if_neg hc).symm.trans h
          show Wp (WpD (e + 2)) hcX11_told Q (42, [some (.inr (.inr (0, 0))), some (.inl a1), some (.inl a2)], []) q1.2
          refine Wp.run (WpD.mono _) 1 (q := ((47, [some (.inr (.inr (0, 0))), some (.inl a1), some (.inl a2)], [.inl (1 : Int32)]), q1.2)) rfl ?_
          obtain ⟨rfl, rfl⟩ := ret_inj h
          exact Wp.ret (WpD.mono _) rfl hQ
      · have h := (if_neg hc).symm.trans h
        show Wp (WpD (e + 2)) hcX11_told Q (48, [some (.inr (.inr (0, 0))), some (.inl a1), some (.inl a2)], []) q1.2
        refine Wp.run (WpD.mono _) 2 (q := ((52, [some (.inr (.inr (0, 0))), some (.inl a1), some (.inl a2)], [.inl (6 : Int32), .inl (2 : Int32), .inl a2]), q1.2)) rfl ?_
        obtain ⟨q2, hb, h⟩ := bind_some h
        refine Wp.call (WpD.mono _) rfl (T_X11_within (e + 1) N a2 (2 : Int32) (6 : Int32) q1.2 _ _ _ hb ?_)
        show Wp (WpD (e + 2)) hcX11_told Q (55, [some (.inr (.inr (0, 0))), some (.inl a1), some (.inl a2)], [.inl q2.1]) q2.2
        refine Wp.if0_eq (WpD.mono _) rfl rfl (fun hc => ?_) (fun hc => ?_)
        · have h := (if_pos hc).symm.trans h
          show Wp (WpD (e + 2)) hcX11_told Q (70, [some (.inr (.inr (0, 0))), some (.inl a1), some (.inl a2)], []) q2.2
          refine Wp.run (WpD.mono _) 2 (q := ((75, [some (.inr (.inr (0, 0))), some (.inl a1), some (.inl a2)], [.inl (11 : Int32), .inl (7 : Int32), .inl a2]), q2.2)) rfl ?_
          obtain ⟨q3, hb, h⟩ := bind_some h
          refine Wp.call (WpD.mono _) rfl (T_X11_within (e + 1) N a2 (7 : Int32) (11 : Int32) q2.2 _ _ _ hb ?_)
          show Wp (WpD (e + 2)) hcX11_told Q (78, [some (.inr (.inr (0, 0))), some (.inl a1), some (.inl a2)], [.inl q3.1]) q3.2
          refine Wp.if0_eq (WpD.mono _) rfl rfl (fun hc => ?_) (fun hc => ?_)
          · have h := (if_pos hc).symm.trans h
            show Wp (WpD (e + 2)) hcX11_told Q (111, [some (.inr (.inr (0, 0))), some (.inl a1), some (.inl a2)], []) q3.2
            refine Wp.run (WpD.mono _) 0 (q := ((113, [some (.inr (.inr (0, 0))), some (.inl a1), some (.inl a2)], [.inl (Int32.ofInt (-7))]), q3.2)) rfl ?_
            obtain ⟨rfl, rfl⟩ := ret_inj h
            exact Wp.ret (WpD.mono _) rfl hQ
          · have h := (if_neg hc).symm.trans h
            show Wp (WpD (e + 2)) hcX11_told Q (81, [some (.inr (.inr (0, 0))), some (.inl a1), some (.inl a2)], []) q3.2
            refine Wp.run (WpD.mono _) 3 (q := ((86, [some (.inr (.inr (0, 0))), some (.inl a1), some (.inl a2)], [.inl (a2 - (7 : Int32)), .inr (.inr (0, 0))]), q3.2)) rfl ?_
            obtain ⟨q4, hb, h⟩ := bind_some h
            refine Wp.call (WpD.mono _) rfl (T_X11_isLayer (e + 0) N (a2 - (7 : Int32)) q3.2 _ _ _ hb ?_)
            show Wp (WpD (e + 2)) hcX11_told Q (89, [some (.inr (.inr (0, 0))), some (.inl a1), some (.inl a2)], [.inl q4.1]) q4.2
            refine Wp.if0_eq (WpD.mono _) rfl rfl (fun hc => ?_) (fun hc => ?_)
            · have h := (if_pos hc).symm.trans h
              show Wp (WpD (e + 2)) hcX11_told Q (109, [some (.inr (.inr (0, 0))), some (.inl a1), some (.inl a2)], []) q4.2
              refine Wp.run (WpD.mono _) 0 (q := ((110, [some (.inr (.inr (0, 0))), some (.inl a1), some (.inl a2)], [.inl (0 : Int32)]), q4.2)) rfl ?_
              obtain ⟨rfl, rfl⟩ := ret_inj h
              exact Wp.ret (WpD.mono _) rfl hQ
            · have h := (if_neg hc).symm.trans h
              show Wp (WpD (e + 2)) hcX11_told Q (92, [some (.inr (.inr (0, 0))), some (.inl a1), some (.inl a2)], []) q4.2
              refine Wp.run (WpD.mono _) 3 (q := ((100, [some (.inr (.inr (0, 0))), some (.inl a1), some (.inl a2)], [.inl a1, .inr (.inr (54, 0))]), q4.2)) rfl ?_
              obtain ⟨hc, h⟩ := ite_nn h
              refine Wp.X_rld4 (WpD.mono _) rfl rfl hc ?_
              show Wp (WpD (e + 2)) hcX11_told Q (101, [some (.inr (.inr (0, 0))), some (.inl a1), some (.inl a2)], [.inr (.inr (55, (a1).toNatClampNeg))]) q4.2
              refine Wp.run (WpD.mono _) 2 (q := ((105, [some (.inr (.inr (0, 0))), some (.inl a1), some (.inl a2)], [.inl (a2 - (7 : Int32)), .inr (.inr (55, (a1).toNatClampNeg))]), q4.2)) rfl ?_
              obtain ⟨hc, h⟩ := ite_nn h
              refine Wp.X_ild1 (WpD.mono _) rfl rfl hc ?_
              show Wp (WpD (e + 2)) hcX11_told Q (106, [some (.inr (.inr (0, 0))), some (.inl a1), some (.inl a2)], [.inl (q4.2.2.2.1 55 (a1).toNatClampNeg ((a2 - (7 : Int32))).toNatClampNeg)]) q4.2
              refine Wp.run (WpD.mono _) 0 (q := ((110, [some (.inr (.inr (0, 0))), some (.inl a1), some (.inl a2)], [.inl (q4.2.2.2.1 55 (a1).toNatClampNeg ((a2 - (7 : Int32))).toNatClampNeg)]), q4.2)) rfl ?_
              obtain ⟨rfl, rfl⟩ := ret_inj h
              exact Wp.ret (WpD.mono _) rfl hQ
        · have h := (if_neg hc).symm.trans h
          show Wp (WpD (e + 2)) hcX11_told Q (58, [some (.inr (.inr (0, 0))), some (.inl a1), some (.inl a2)], []) q2.2
          refine Wp.run (WpD.mono _) 5 (q := ((66, [some (.inr (.inr (0, 0))), some (.inl a1), some (.inl a2)], [.inl (a2 - (1 : Int32)), .inl a1, .inr (.inr (4, 0))]), q2.2)) rfl ?_
          obtain ⟨q5, hb, h⟩ := bind_some h
          refine Wp.call (WpD.mono _) rfl (T_X7_signOf (e + 1) N a1 (a2 - (1 : Int32)) q2.2 _ _ _ hb ?_)
          show Wp (WpD (e + 2)) hcX11_told Q (69, [some (.inr (.inr (0, 0))), some (.inl a1), some (.inl a2)], [.inl q5.1]) q5.2
          obtain ⟨rfl, rfl⟩ := ret_inj h
          exact Wp.ret (WpD.mono _) rfl hQ

set_option maxRecDepth 100000 in
set_option maxHeartbeats 4000000 in
theorem T_X3_restore_b29 (e N : Nat)  (k19 : Int32 → Mem → Option (Unit × Mem)) (r : Unit) (τ : Mem) (Q : Pst) (hQ : Q (none) τ) (hk19 : ∀ (x1 : Int32) (σ : Mem), k19 x1 σ = some (r, τ) → Wp (WpD (e + 1)) hcX3_restore Q (19, [some (.inr (.inr (11, 0))), some (.inl x1), none], []) σ) : ∀ n, ∀ (x1 : Int32) (x2 : Int32) (σ : Mem), F_X3_restore_b29 N k19 n x1 x2 σ = some (r, τ) → Wp (WpD (e + 1)) hcX3_restore Q (29, [some (.inr (.inr (11, 0))), some (.inl x1), some (.inl x2)], []) σ := by
  intro n
  induction n with
  | zero => intro x1 x2 σ h; cases h
  | succ n ih =>
    intro x1 x2 σ h
    unfold F_X3_restore_b29 at h
    refine Wp.run (WpD.mono _) 2 (q := ((34, [some (.inr (.inr (11, 0))), some (.inl x1), some (.inl x2)], [.inl (σ.1 11 8), .inl x2]), σ)) rfl ?_
    refine Wp.if2_ge (WpD.mono _) rfl rfl (fun hc => ?_) (fun hc => ?_)
    · have h := (if_pos hc).symm.trans h
      show Wp (WpD (e + 1)) hcX3_restore Q (61, [some (.inr (.inr (11, 0))), some (.inl x1), some (.inl x2)], []) σ
      refine Wp.run (WpD.mono _) 1 (q := ((19, [some (.inr (.inr (11, 0))), some (.inl (x1 + (1 : Int32))), some (.inl x2)], []), σ)) rfl ?_
      exact Wp.jump (WpD.mono _) rfl (hk19 (x1 + (1 : Int32)) σ h)
    · have h := (if_neg hc).symm.trans h
      show Wp (WpD (e + 1)) hcX3_restore Q (37, [some (.inr (.inr (11, 0))), some (.inl x1), some (.inl x2)], []) σ
      refine Wp.run (WpD.mono _) 6 (q := ((48, [some (.inr (.inr (11, 0))), some (.inl x1), some (.inl x2)], [.inl x1, .inr (.inr (30, 0)), .inl x2, .inl x1, .inr (.inr (1, 0))]), σ)) rfl ?_
      obtain ⟨hc, h⟩ := ite_nn h
      refine Wp.X_rld4 (WpD.mono _) rfl rfl hc ?_
      show Wp (WpD (e + 1)) hcX3_restore Q (49, [some (.inr (.inr (11, 0))), some (.inl x1), some (.inl x2)], [.inr (.inr (31, (x1).toNatClampNeg)), .inl x2, .inl x1, .inr (.inr (1, 0))]) σ
      refine Wp.run (WpD.mono _) 0 (q := ((50, [some (.inr (.inr (11, 0))), some (.inl x1), some (.inl x2)], [.inl x2, .inr (.inr (31, (x1).toNatClampNeg)), .inl x2, .inl x1, .inr (.inr (1, 0))]), σ)) rfl ?_
      obtain ⟨hc, h⟩ := ite_nn h
      refine Wp.X_ild1 (WpD.mono _) rfl rfl hc ?_
      show Wp (WpD (e + 1)) hcX3_restore Q (51, [some (.inr (.inr (11, 0))), some (.inl x1), some (.inl x2)], [.inl (σ.2.2.1 31 (x1).toNatClampNeg (x2).toNatClampNeg), .inl x2, .inl x1, .inr (.inr (1, 0))]) σ
      obtain ⟨q1, hb, h⟩ := bind_some h
      refine Wp.call (WpD.mono _) rfl (T_X2_reweigh (e + 0) N x1 x2 (σ.2.2.1 31 (x1).toNatClampNeg (x2).toNatClampNeg) σ _ _ _ hb ?_)
      show Wp (WpD (e + 1)) hcX3_restore Q (54, [some (.inr (.inr (11, 0))), some (.inl x1), some (.inl x2)], [.inl q1.1]) q1.2
      refine Wp.run (WpD.mono _) 2 (q := ((29, [some (.inr (.inr (11, 0))), some (.inl x1), some (.inl (x2 + (1 : Int32)))], []), q1.2)) rfl ?_
      exact Wp.jump (WpD.mono _) rfl (ih x1 (x2 + (1 : Int32)) q1.2 h)

set_option maxRecDepth 100000 in
set_option maxHeartbeats 4000000 in
theorem T_X3_restore_b69 (e N : Nat)   (r : Unit) (τ : Mem) (Q : Pst) (hQ : Q (none) τ) : ∀ n, ∀ (x1 : Int32) (σ : Mem), F_X3_restore_b69 N n x1 σ = some (r, τ) → Wp (WpD (e + 1)) hcX3_restore Q (69, [some (.inr (.inr (11, 0))), some (.inl x1), none], []) σ := by
  intro n
  induction n with
  | zero => intro x1 σ h; cases h
  | succ n ih =>
    intro x1 σ h
    unfold F_X3_restore_b69 at h
    refine Wp.run (WpD.mono _) 2 (q := ((74, [some (.inr (.inr (11, 0))), some (.inl x1), none], [.inl (σ.1 11 9), .inl x1]), σ)) rfl ?_
    refine Wp.if2_ge (WpD.mono _) rfl rfl (fun hc => ?_) (fun hc => ?_)
    · have h := (if_pos hc).symm.trans h
      show Wp (WpD (e + 1)) hcX3_restore Q (158, [some (.inr (.inr (11, 0))), some (.inl x1), none], []) σ
      obtain ⟨rfl, rfl⟩ := ret_inj h
      exact Wp.ret (WpD.mono _) rfl hQ
    · have h := (if_neg hc).symm.trans h
      show Wp (WpD (e + 1)) hcX3_restore Q (77, [some (.inr (.inr (11, 0))), some (.inl x1), none], []) σ
      refine Wp.run (WpD.mono _) 2 (q := ((82, [some (.inr (.inr (11, 0))), some (.inl x1), none], [.inl x1, .inr (.inr (32, 0))]), σ)) rfl ?_
      obtain ⟨hc, h⟩ := ite_nn h
      refine Wp.X_rld4 (WpD.mono _) rfl rfl hc ?_
      show Wp (WpD (e + 1)) hcX3_restore Q (83, [some (.inr (.inr (11, 0))), some (.inl x1), none], [.inr (.inr (33, (x1).toNatClampNeg))]) σ
      refine Wp.run (WpD.mono _) 4 (q := ((92, [some (.inr (.inr (11, 0))), some (.inl x1), none], [.inl x1, .inr (.inr (56, 0)), .inl (0 : Int32), .inr (.inr (33, (x1).toNatClampNeg))]), σ)) rfl ?_
      obtain ⟨hc, h⟩ := ite_nn h
      refine Wp.X_rld4 (WpD.mono _) rfl rfl hc ?_
      show Wp (WpD (e + 1)) hcX3_restore Q (93, [some (.inr (.inr (11, 0))), some (.inl x1), none], [.inr (.inr (57, (x1).toNatClampNeg)), .inl (0 : Int32), .inr (.inr (33, (x1).toNatClampNeg))]) σ
      refine Wp.run (WpD.mono _) 5 (q := ((103, [some (.inr (.inr (11, 0))), some (.inl x1), none], [.inl x1, .inr (.inr (36, 0))]), (σ.1, σ.2.1, (hwR3 σ.2.2.1 57 (x1).toNatClampNeg (va_cpy (σ.2.2.1 33 (x1).toNatClampNeg) (σ.2.2.1 57 (x1).toNatClampNeg) 0 0 5)), σ.2.2.2.1, σ.2.2.2.2))) rfl ?_
      obtain ⟨hc, h⟩ := ite_nn h
      refine Wp.X_rld4 (WpD.mono _) rfl rfl hc ?_
      show Wp (WpD (e + 1)) hcX3_restore Q (104, [some (.inr (.inr (11, 0))), some (.inl x1), none], [.inr (.inr (37, (x1).toNatClampNeg))]) (σ.1, σ.2.1, (hwR3 σ.2.2.1 57 (x1).toNatClampNeg (va_cpy (σ.2.2.1 33 (x1).toNatClampNeg) (σ.2.2.1 57 (x1).toNatClampNeg) 0 0 5)), σ.2.2.2.1, σ.2.2.2.2)
      refine Wp.run (WpD.mono _) 4 (q := ((113, [some (.inr (.inr (11, 0))), some (.inl x1), none], [.inl x1, .inr (.inr (60, 0)), .inl (0 : Int32), .inr (.inr (37, (x1).toNatClampNeg))]), (σ.1, σ.2.1, (hwR3 σ.2.2.1 57 (x1).toNatClampNeg (va_cpy (σ.2.2.1 33 (x1).toNatClampNeg) (σ.2.2.1 57 (x1).toNatClampNeg) 0 0 5)), σ.2.2.2.1, σ.2.2.2.2))) rfl ?_
      obtain ⟨hc, h⟩ := ite_nn h
      refine Wp.X_rld4 (WpD.mono _) rfl rfl hc ?_
      show Wp (WpD (e + 1)) hcX3_restore Q (114, [some (.inr (.inr (11, 0))), some (.inl x1), none], [.inr (.inr (61, (x1).toNatClampNeg)), .inl (0 : Int32), .inr (.inr (37, (x1).toNatClampNeg))]) (σ.1, σ.2.1, (hwR3 σ.2.2.1 57 (x1).toNatClampNeg (va_cpy (σ.2.2.1 33 (x1).toNatClampNeg) (σ.2.2.1 57 (x1).toNatClampNeg) 0 0 5)), σ.2.2.2.1, σ.2.2.2.2)
      refine Wp.run (WpD.mono _) 2 (q := ((119, [some (.inr (.inr (11, 0))), some (.inl x1), none], [.inl (σ.1 11 9), .inl (0 : Int32), .inr (.inr (61, (x1).toNatClampNeg)), .inl (0 : Int32), .inr (.inr (37, (x1).toNatClampNeg))]), (σ.1, σ.2.1, (hwR3 σ.2.2.1 57 (x1).toNatClampNeg (va_cpy (σ.2.2.1 33 (x1).toNatClampNeg) (σ.2.2.1 57 (x1).toNatClampNeg) 0 0 5)), σ.2.2.2.1, σ.2.2.2.2))) rfl ?_
      obtain ⟨hc, h⟩ := ite_nn h
      refine Wp.X_cpyI (WpD.mono _) rfl rfl rfl rfl hc ?_
      show Wp (WpD (e + 1)) hcX3_restore Q (122, [some (.inr (.inr (11, 0))), some (.inl x1), none], []) (σ.1, σ.2.1, (hwR3 (hwR3 σ.2.2.1 57 (x1).toNatClampNeg (va_cpy (σ.2.2.1 33 (x1).toNatClampNeg) (σ.2.2.1 57 (x1).toNatClampNeg) 0 0 5)) 61 (x1).toNatClampNeg (va_cpy ((hwR3 σ.2.2.1 57 (x1).toNatClampNeg (va_cpy (σ.2.2.1 33 (x1).toNatClampNeg) (σ.2.2.1 57 (x1).toNatClampNeg) 0 0 5)) 37 (x1).toNatClampNeg) ((hwR3 σ.2.2.1 57 (x1).toNatClampNeg (va_cpy (σ.2.2.1 33 (x1).toNatClampNeg) (σ.2.2.1 57 (x1).toNatClampNeg) 0 0 5)) 61 (x1).toNatClampNeg) 0 0 ((σ.1 11 9)).toNatClampNeg)), σ.2.2.2.1, σ.2.2.2.2)
      refine Wp.run (WpD.mono _) 6 (q := ((135, [some (.inr (.inr (11, 0))), some (.inl x1), none], [.inl x1, .inr (.inr (34, 0)), .inl x1, .inr (.inr (58, 0))]), (σ.1, σ.2.1, (hwR3 (hwR3 σ.2.2.1 57 (x1).toNatClampNeg (va_cpy (σ.2.2.1 33 (x1).toNatClampNeg) (σ.2.2.1 57 (x1).toNatClampNeg) 0 0 5)) 61 (x1).toNatClampNeg (va_cpy ((hwR3 σ.2.2.1 57 (x1).toNatClampNeg (va_cpy (σ.2.2.1 33 (x1).toNatClampNeg) (σ.2.2.1 57 (x1).toNatClampNeg) 0 0 5)) 37 (x1).toNatClampNeg) ((hwR3 σ.2.2.1 57 (x1).toNatClampNeg (va_cpy (σ.2.2.1 33 (x1).toNatClampNeg) (σ.2.2.1 57 (x1).toNatClampNeg) 0 0 5)) 61 (x1).toNatClampNeg) 0 0 ((σ.1 11 9)).toNatClampNeg)), σ.2.2.2.1, σ.2.2.2.2))) rfl ?_
      obtain ⟨hc, h⟩ := ite_nn h
      refine Wp.X_ild1 (WpD.mono _) rfl rfl hc ?_
      show Wp (WpD (e + 1)) hcX3_restore Q (136, [some (.inr (.inr (11, 0))), some (.inl x1), none], [.inl (σ.2.2.1 34 0 (x1).toNatClampNeg), .inl x1, .inr (.inr (58, 0))]) (σ.1, σ.2.1, (hwR3 (hwR3 σ.2.2.1 57 (x1).toNatClampNeg (va_cpy (σ.2.2.1 33 (x1).toNatClampNeg) (σ.2.2.1 57 (x1).toNatClampNeg) 0 0 5)) 61 (x1).toNatClampNeg (va_cpy ((hwR3 σ.2.2.1 57 (x1).toNatClampNeg (va_cpy (σ.2.2.1 33 (x1).toNatClampNeg) (σ.2.2.1 57 (x1).toNatClampNeg) 0 0 5)) 37 (x1).toNatClampNeg) ((hwR3 σ.2.2.1 57 (x1).toNatClampNeg (va_cpy (σ.2.2.1 33 (x1).toNatClampNeg) (σ.2.2.1 57 (x1).toNatClampNeg) 0 0 5)) 61 (x1).toNatClampNeg) 0 0 ((σ.1 11 9)).toNatClampNeg)), σ.2.2.2.1, σ.2.2.2.2)
      obtain ⟨hc, h⟩ := ite_nn h
      refine Wp.X_ist (WpD.mono _) rfl rfl hc ?_
      show Wp (WpD (e + 1)) hcX3_restore Q (137, [some (.inr (.inr (11, 0))), some (.inl x1), none], []) (σ.1, σ.2.1, (hwU3 (hwR3 (hwR3 σ.2.2.1 57 (x1).toNatClampNeg (va_cpy (σ.2.2.1 33 (x1).toNatClampNeg) (σ.2.2.1 57 (x1).toNatClampNeg) 0 0 5)) 61 (x1).toNatClampNeg (va_cpy ((hwR3 σ.2.2.1 57 (x1).toNatClampNeg (va_cpy (σ.2.2.1 33 (x1).toNatClampNeg) (σ.2.2.1 57 (x1).toNatClampNeg) 0 0 5)) 37 (x1).toNatClampNeg) ((hwR3 σ.2.2.1 57 (x1).toNatClampNeg (va_cpy (σ.2.2.1 33 (x1).toNatClampNeg) (σ.2.2.1 57 (x1).toNatClampNeg) 0 0 5)) 61 (x1).toNatClampNeg) 0 0 ((σ.1 11 9)).toNatClampNeg)) 58 0 (x1).toNatClampNeg (σ.2.2.1 34 0 (x1).toNatClampNeg)), σ.2.2.2.1, σ.2.2.2.2)
      refine Wp.run (WpD.mono _) 6 (q := ((150, [some (.inr (.inr (11, 0))), some (.inl x1), none], [.inl x1, .inr (.inr (35, 0)), .inl x1, .inr (.inr (59, 0))]), (σ.1, σ.2.1, (hwU3 (hwR3 (hwR3 σ.2.2.1 57 (x1).toNatClampNeg (va_cpy (σ.2.2.1 33 (x1).toNatClampNeg) (σ.2.2.1 57 (x1).toNatClampNeg) 0 0 5)) 61 (x1).toNatClampNeg (va_cpy ((hwR3 σ.2.2.1 57 (x1).toNatClampNeg (va_cpy (σ.2.2.1 33 (x1).toNatClampNeg) (σ.2.2.1 57 (x1).toNatClampNeg) 0 0 5)) 37 (x1).toNatClampNeg) ((hwR3 σ.2.2.1 57 (x1).toNatClampNeg (va_cpy (σ.2.2.1 33 (x1).toNatClampNeg) (σ.2.2.1 57 (x1).toNatClampNeg) 0 0 5)) 61 (x1).toNatClampNeg) 0 0 ((σ.1 11 9)).toNatClampNeg)) 58 0 (x1).toNatClampNeg (σ.2.2.1 34 0 (x1).toNatClampNeg)), σ.2.2.2.1, σ.2.2.2.2))) rfl ?_
      obtain ⟨hc, h⟩ := ite_nn h
      refine Wp.X_zld (WpD.mono _) rfl rfl hc ?_
      show Wp (WpD (e + 1)) hcX3_restore Q (151, [some (.inr (.inr (11, 0))), some (.inl x1), none], [.inl (σ.2.2.1 35 0 (x1).toNatClampNeg), .inl x1, .inr (.inr (59, 0))]) (σ.1, σ.2.1, (hwU3 (hwR3 (hwR3 σ.2.2.1 57 (x1).toNatClampNeg (va_cpy (σ.2.2.1 33 (x1).toNatClampNeg) (σ.2.2.1 57 (x1).toNatClampNeg) 0 0 5)) 61 (x1).toNatClampNeg (va_cpy ((hwR3 σ.2.2.1 57 (x1).toNatClampNeg (va_cpy (σ.2.2.1 33 (x1).toNatClampNeg) (σ.2.2.1 57 (x1).toNatClampNeg) 0 0 5)) 37 (x1).toNatClampNeg) ((hwR3 σ.2.2.1 57 (x1).toNatClampNeg (va_cpy (σ.2.2.1 33 (x1).toNatClampNeg) (σ.2.2.1 57 (x1).toNatClampNeg) 0 0 5)) 61 (x1).toNatClampNeg) 0 0 ((σ.1 11 9)).toNatClampNeg)) 58 0 (x1).toNatClampNeg (σ.2.2.1 34 0 (x1).toNatClampNeg)), σ.2.2.2.1, σ.2.2.2.2)
      obtain ⟨hc, h⟩ := ite_nn h
      refine Wp.X_zst (WpD.mono _) rfl rfl hc ?_
      show Wp (WpD (e + 1)) hcX3_restore Q (152, [some (.inr (.inr (11, 0))), some (.inl x1), none], []) (σ.1, σ.2.1, (hwU3 (hwU3 (hwR3 (hwR3 σ.2.2.1 57 (x1).toNatClampNeg (va_cpy (σ.2.2.1 33 (x1).toNatClampNeg) (σ.2.2.1 57 (x1).toNatClampNeg) 0 0 5)) 61 (x1).toNatClampNeg (va_cpy ((hwR3 σ.2.2.1 57 (x1).toNatClampNeg (va_cpy (σ.2.2.1 33 (x1).toNatClampNeg) (σ.2.2.1 57 (x1).toNatClampNeg) 0 0 5)) 37 (x1).toNatClampNeg) ((hwR3 σ.2.2.1 57 (x1).toNatClampNeg (va_cpy (σ.2.2.1 33 (x1).toNatClampNeg) (σ.2.2.1 57 (x1).toNatClampNeg) 0 0 5)) 61 (x1).toNatClampNeg) 0 0 ((σ.1 11 9)).toNatClampNeg)) 58 0 (x1).toNatClampNeg (σ.2.2.1 34 0 (x1).toNatClampNeg)) 59 0 (x1).toNatClampNeg (vp_nar .boolean (σ.2.2.1 35 0 (x1).toNatClampNeg))), σ.2.2.2.1, σ.2.2.2.2)
      refine Wp.run (WpD.mono _) 1 (q := ((69, [some (.inr (.inr (11, 0))), some (.inl (x1 + (1 : Int32))), none], []), (σ.1, σ.2.1, (hwU3 (hwU3 (hwR3 (hwR3 σ.2.2.1 57 (x1).toNatClampNeg (va_cpy (σ.2.2.1 33 (x1).toNatClampNeg) (σ.2.2.1 57 (x1).toNatClampNeg) 0 0 5)) 61 (x1).toNatClampNeg (va_cpy ((hwR3 σ.2.2.1 57 (x1).toNatClampNeg (va_cpy (σ.2.2.1 33 (x1).toNatClampNeg) (σ.2.2.1 57 (x1).toNatClampNeg) 0 0 5)) 37 (x1).toNatClampNeg) ((hwR3 σ.2.2.1 57 (x1).toNatClampNeg (va_cpy (σ.2.2.1 33 (x1).toNatClampNeg) (σ.2.2.1 57 (x1).toNatClampNeg) 0 0 5)) 61 (x1).toNatClampNeg) 0 0 ((σ.1 11 9)).toNatClampNeg)) 58 0 (x1).toNatClampNeg (σ.2.2.1 34 0 (x1).toNatClampNeg)) 59 0 (x1).toNatClampNeg (vp_nar .boolean (σ.2.2.1 35 0 (x1).toNatClampNeg))), σ.2.2.2.1, σ.2.2.2.2))) rfl ?_
      exact Wp.jump (WpD.mono _) rfl (ih (x1 + (1 : Int32)) (σ.1, σ.2.1, (hwU3 (hwU3 (hwR3 (hwR3 σ.2.2.1 57 (x1).toNatClampNeg (va_cpy (σ.2.2.1 33 (x1).toNatClampNeg) (σ.2.2.1 57 (x1).toNatClampNeg) 0 0 5)) 61 (x1).toNatClampNeg (va_cpy ((hwR3 σ.2.2.1 57 (x1).toNatClampNeg (va_cpy (σ.2.2.1 33 (x1).toNatClampNeg) (σ.2.2.1 57 (x1).toNatClampNeg) 0 0 5)) 37 (x1).toNatClampNeg) ((hwR3 σ.2.2.1 57 (x1).toNatClampNeg (va_cpy (σ.2.2.1 33 (x1).toNatClampNeg) (σ.2.2.1 57 (x1).toNatClampNeg) 0 0 5)) 61 (x1).toNatClampNeg) 0 0 ((σ.1 11 9)).toNatClampNeg)) 58 0 (x1).toNatClampNeg (σ.2.2.1 34 0 (x1).toNatClampNeg)) 59 0 (x1).toNatClampNeg (vp_nar .boolean (σ.2.2.1 35 0 (x1).toNatClampNeg))), σ.2.2.2.1, σ.2.2.2.2) h)

set_option maxRecDepth 100000 in
set_option maxHeartbeats 4000000 in
theorem T_X3_restore_b19 (e N : Nat)   (r : Unit) (τ : Mem) (Q : Pst) (hQ : Q (none) τ) : ∀ n, ∀ (x1 : Int32) (σ : Mem), F_X3_restore_b19 N n x1 σ = some (r, τ) → Wp (WpD (e + 1)) hcX3_restore Q (19, [some (.inr (.inr (11, 0))), some (.inl x1), none], []) σ := by
  intro n
  induction n with
  | zero => intro x1 σ h; cases h
  | succ n ih =>
    intro x1 σ h
    unfold F_X3_restore_b19 at h
    refine Wp.run (WpD.mono _) 2 (q := ((24, [some (.inr (.inr (11, 0))), some (.inl x1), none], [.inl (σ.1 11 8), .inl x1]), σ)) rfl ?_
    refine Wp.if2_ge (WpD.mono _) rfl rfl (fun hc => ?_) (fun hc => ?_)
    · have h := (if_pos hc).symm.trans h
      show Wp (WpD (e + 1)) hcX3_restore Q (67, [some (.inr (.inr (11, 0))), some (.inl x1), none], []) σ
      refine Wp.run (WpD.mono _) 1 (q := ((69, [some (.inr (.inr (11, 0))), some (.inl (0 : Int32)), none], []), σ)) rfl ?_
      exact Wp.jump (WpD.mono _) rfl ((T_X3_restore_b69 e N  r τ Q hQ  N) (0 : Int32) σ h)
    · have h := (if_neg hc).symm.trans h
      show Wp (WpD (e + 1)) hcX3_restore Q (27, [some (.inr (.inr (11, 0))), some (.inl x1), none], []) σ
      refine Wp.run (WpD.mono _) 1 (q := ((29, [some (.inr (.inr (11, 0))), some (.inl x1), some (.inl (0 : Int32))], []), σ)) rfl ?_
      exact Wp.jump (WpD.mono _) rfl ((T_X3_restore_b29 e N (F_X3_restore_b19 N n) r τ Q hQ ih N) x1 (0 : Int32) σ h)

set_option maxRecDepth 100000 in
set_option maxHeartbeats 4000000 in
theorem T_X3_restore (e N : Nat)   (σ : Mem) (r : Unit) (τ : Mem) (Q : Pst) (h : F_X3_restore N  σ = some (r, τ)) (hQ : Q (none) τ) : WpD (e + 2) mX3_restore [.inr (.inr (11, 0))] σ Q := by
  refine WpD.of (d := e + 1) (Nat.le_of_ble_eq_true rfl) (Nat.le_of_ble_eq_true rfl) ?_
  show Wp (WpD (e + 1)) hcX3_restore Q (0, [some (.inr (.inr (11, 0))), none, none], []) σ
  unfold F_X3_restore at h
  refine Wp.run (WpD.mono _) 10 (q := ((19, [some (.inr (.inr (11, 0))), some (.inl (0 : Int32)), none], []), (σ.1, σ.2.1, (hwR3 σ.2.2.1 28 0 (va_cpy (σ.2.2.1 29 0) (σ.2.2.1 28 0) 0 0 5)), σ.2.2.2.1, σ.2.2.2.2))) rfl ?_
  exact Wp.jump (WpD.mono _) rfl ((T_X3_restore_b19 e N  r τ Q hQ  N) (0 : Int32) (σ.1, σ.2.1, (hwR3 σ.2.2.1 28 0 (va_cpy (σ.2.2.1 29 0) (σ.2.2.1 28 0) 0 0 5)), σ.2.2.2.1, σ.2.2.2.2) h)

set_option maxRecDepth 100000 in
set_option maxHeartbeats 4000000 in
theorem T_X11_undo (e N : Nat)   (σ : Mem) (r : Int32) (τ : Mem) (Q : Pst) (h : F_X11_undo N  σ = some (r, τ)) (hQ : Q (some (.inl r)) τ) : WpD (e + 7) mX11_undo [.inr (.inr (0, 0))] σ Q := by
  refine WpD.of (d := e + 6) (Nat.le_of_ble_eq_true rfl) (Nat.le_of_ble_eq_true rfl) ?_
  show Wp (WpD (e + 6)) hcX11_undo Q (0, [some (.inr (.inr (0, 0)))], []) σ
  unfold F_X11_undo at h
  refine Wp.run (WpD.mono _) 2 (q := ((7, [some (.inr (.inr (0, 0)))], [.inl (σ.1 11 11)]), σ)) rfl ?_
  refine Wp.if0_ne (WpD.mono _) rfl rfl (fun hc => ?_) (fun hc => ?_)
  · have h := (if_pos hc).symm.trans h
    show Wp (WpD (e + 6)) hcX11_undo Q (10, [some (.inr (.inr (0, 0)))], []) σ
    refine Wp.run (WpD.mono _) 0 (q := ((12, [some (.inr (.inr (0, 0)))], [.inl (Int32.ofInt (-3))]), σ)) rfl ?_
    obtain ⟨rfl, rfl⟩ := ret_inj h
    exact Wp.ret (WpD.mono _) rfl hQ
  · have h := (if_neg hc).symm.trans h
    show Wp (WpD (e + 6)) hcX11_undo Q (13, [some (.inr (.inr (0, 0)))], []) σ
    refine Wp.run (WpD.mono _) 1 (q := ((17, [some (.inr (.inr (0, 0)))], [.inr (.inr (11, 0))]), σ)) rfl ?_
    obtain ⟨q1, hb, h⟩ := bind_some h
    refine Wp.call (WpD.mono _) rfl (T_X3_restore (e + 4) N σ _ _ _ hb ?_)
    show Wp (WpD (e + 6)) hcX11_undo Q (20, [some (.inr (.inr (0, 0)))], []) q1.2
    refine Wp.run (WpD.mono _) 7 (q := ((38, [some (.inr (.inr (0, 0)))], [.inr (.inr (2, 0))]), ((hwU2 q1.2.1 2 10 (q1.2.1 11 10)), q1.2.2.1, q1.2.2.2.1, q1.2.2.2.2.1, q1.2.2.2.2.2))) rfl ?_
    obtain ⟨q2, hb, h⟩ := bind_some h
    refine Wp.call (WpD.mono _) rfl (T_X4_weigh (e + 0) N ((hwU2 q1.2.1 2 10 (q1.2.1 11 10)), q1.2.2.1, q1.2.2.2.1, q1.2.2.2.2.1, q1.2.2.2.2.2) _ _ _ hb ?_)
    show Wp (WpD (e + 6)) hcX11_undo Q (41, [some (.inr (.inr (0, 0)))], []) q2.2
    refine Wp.run (WpD.mono _) 2 (q := ((48, [some (.inr (.inr (0, 0)))], [.inl (q2.2.1 4 5)]), q2.2)) rfl ?_
    obtain ⟨rfl, rfl⟩ := ret_inj h
    exact Wp.ret (WpD.mono _) rfl hQ

set_option maxRecDepth 100000 in
set_option maxHeartbeats 4000000 in
theorem T_X12_allBelow_b4 (e N : Nat)   (r : Int32) (τ : Mem) (Q : Pst) (hQ : Q (some (.inl r)) τ) : ∀ n, ∀ (x1 : Int32) (x2 : Int32) (x3 : Int32) (σ : Mem), F_X12_allBelow_b4 N n x1 x2 x3 σ = some (r, τ) → Wp (WpD (e + 0)) hcX12_allBelow Q (4, [some (.inr (.inr (12, 0))), some (.inl x1), some (.inl x2), some (.inl x3)], []) σ := by
  intro n
  induction n with
  | zero => intro x1 x2 x3 σ h; cases h
  | succ n ih =>
    intro x1 x2 x3 σ h
    unfold F_X12_allBelow_b4 at h
    refine Wp.run (WpD.mono _) 2 (q := ((9, [some (.inr (.inr (12, 0))), some (.inl x1), some (.inl x2), some (.inl x3)], [.inl (σ.1 12 5), .inl x3]), σ)) rfl ?_
    refine Wp.if2_ge (WpD.mono _) rfl rfl (fun hc => ?_) (fun hc => ?_)
    · have h := (if_pos hc).symm.trans h
      show Wp (WpD (e + 0)) hcX12_allBelow Q (31, [some (.inr (.inr (12, 0))), some (.inl x1), some (.inl x2), some (.inl x3)], []) σ
      refine Wp.run (WpD.mono _) 0 (q := ((32, [some (.inr (.inr (12, 0))), some (.inl x1), some (.inl x2), some (.inl x3)], [.inl x2]), σ)) rfl ?_
      obtain ⟨rfl, rfl⟩ := ret_inj h
      exact Wp.ret (WpD.mono _) rfl hQ
    · have h := (if_neg hc).symm.trans h
      show Wp (WpD (e + 0)) hcX12_allBelow Q (12, [some (.inr (.inr (12, 0))), some (.inl x1), some (.inl x2), some (.inl x3)], []) σ
      refine Wp.run (WpD.mono _) 7 (q := ((22, [some (.inr (.inr (12, 0))), some (.inl x1), some (.inl x2), some (.inl x3)], [.inl (((5 : Int32) * x1) + x3), .inr (.inr (75, 0)), .inl x2]), σ)) rfl ?_
      obtain ⟨hc, h⟩ := ite_nn h
      refine Wp.X_ild1 (WpD.mono _) rfl rfl hc ?_
      show Wp (WpD (e + 0)) hcX12_allBelow Q (23, [some (.inr (.inr (12, 0))), some (.inl x1), some (.inl x2), some (.inl x3)], [.inl (σ.2.2.1 75 0 ((((5 : Int32) * x1) + x3)).toNatClampNeg), .inl x2]) σ
      refine Wp.run (WpD.mono _) 3 (q := ((4, [some (.inr (.inr (12, 0))), some (.inl x1), some (.inl (x2 + (σ.2.2.1 75 0 ((((5 : Int32) * x1) + x3)).toNatClampNeg))), some (.inl (x3 + (1 : Int32)))], []), σ)) rfl ?_
      exact Wp.jump (WpD.mono _) rfl (ih x1 (x2 + (σ.2.2.1 75 0 ((((5 : Int32) * x1) + x3)).toNatClampNeg)) (x3 + (1 : Int32)) σ h)

set_option maxRecDepth 100000 in
set_option maxHeartbeats 4000000 in
theorem T_X12_allBelow (e N : Nat)  (a1 : Int32) (σ : Mem) (r : Int32) (τ : Mem) (Q : Pst) (h : F_X12_allBelow N a1 σ = some (r, τ)) (hQ : Q (some (.inl r)) τ) : WpD (e + 1) mX12_allBelow [.inr (.inr (12, 0)), .inl a1] σ Q := by
  refine WpD.of (d := e + 0) (Nat.le_of_ble_eq_true rfl) (Nat.le_of_ble_eq_true rfl) ?_
  show Wp (WpD (e + 0)) hcX12_allBelow Q (0, [some (.inr (.inr (12, 0))), some (.inl a1), none, none], []) σ
  unfold F_X12_allBelow at h
  refine Wp.run (WpD.mono _) 3 (q := ((4, [some (.inr (.inr (12, 0))), some (.inl a1), some (.inl (0 : Int32)), some (.inl (0 : Int32))], []), σ)) rfl ?_
  exact Wp.jump (WpD.mono _) rfl ((T_X12_allBelow_b4 e N  r τ Q hQ  N) a1 (0 : Int32) (0 : Int32) σ h)

set_option maxRecDepth 100000 in
set_option maxHeartbeats 4000000 in
theorem T_X12_names (e N : Nat)  (a1 : Int32) (a2 : Int32) (σ : Mem) (r : Unit) (τ : Mem) (Q : Pst) (h : F_X12_names N a1 a2 σ = some (r, τ)) (hQ : Q (none) τ) : WpD (e + 1) mX12_names [.inr (.inr (12, 0)), .inl a1, .inl a2] σ Q := by
  refine WpD.of (d := e + 0) (Nat.le_of_ble_eq_true rfl) (Nat.le_of_ble_eq_true rfl) ?_
  show Wp (WpD (e + 0)) hcX12_names Q (0, [some (.inr (.inr (12, 0))), some (.inl a1), some (.inl a2)], []) σ
  unfold F_X12_names at h
  refine Wp.run (WpD.mono _) 30 (q := ((45, [some (.inr (.inr (12, 0))), some (.inl a1), some (.inl a2)], []), (σ.1, σ.2.1, (hwU3 (hwU3 (hwU3 (hwU3 (hwU3 (hwU3 σ.2.2.1 101 0 0 a1) 101 0 1 (0 : Int32)) 101 0 2 (0 : Int32)) 101 0 3 (0 : Int32)) 101 0 4 (σ.1 12 2)) 101 0 5 a2), σ.2.2.2.1, σ.2.2.2.2))) rfl ?_
  obtain ⟨rfl, rfl⟩ := ret_inj h
  exact Wp.ret (WpD.mono _) rfl hQ

set_option maxRecDepth 100000 in
set_option maxHeartbeats 4000000 in
theorem T_X12_two (e N : Nat)  (a1 : Int32) (a2 : Int32) (a3 : Int32) (σ : Mem) (r : Int32) (τ : Mem) (Q : Pst) (h : F_X12_two N a1 a2 a3 σ = some (r, τ)) (hQ : Q (some (.inl r)) τ) : WpD (e + 1) mX12_two [.inl a1, .inl a2, .inl a3] σ Q := by
  refine WpD.of (d := e + 0) (Nat.le_of_ble_eq_true rfl) (Nat.le_of_ble_eq_true rfl) ?_
  show Wp (WpD (e + 0)) hcX12_two Q (0, [some (.inl a1), some (.inl a2), some (.inl a3)], []) σ
  unfold F_X12_two at h
  refine Wp.run (WpD.mono _) 0 (q := ((1, [some (.inl a1), some (.inl a2), some (.inl a3)], [.inl a1]), σ)) rfl ?_
  by_cases hs0 : a1 = 11
  · have h := (if_pos hs0).symm.trans h
    refine Wp.swIn (WpD.mono _) (q := ((44, [some (.inl a1), some (.inl a2), some (.inl a3)], []), σ)) hs0 rfl ?_
    refine Wp.run (WpD.mono _) 0 (q := ((45, [some (.inl a1), some (.inl a2), some (.inl a3)], [.inl a2]), σ)) rfl ?_
    refine Wp.if0_ne (WpD.mono _) rfl rfl (fun hc => ?_) (fun hc => ?_)
    · have h := (if_pos hc).symm.trans h
      show Wp (WpD (e + 0)) hcX12_two Q (48, [some (.inl a1), some (.inl a2), some (.inl a3)], []) σ
      refine Wp.run (WpD.mono _) 0 (q := ((49, [some (.inl a1), some (.inl a2), some (.inl a3)], [.inl a3]), σ)) rfl ?_
      refine Wp.if0_eq (WpD.mono _) rfl rfl (fun hc => ?_) (fun hc => ?_)
      · have h := (if_pos hc).symm.trans h
        show Wp (WpD (e + 0)) hcX12_two Q (56, [some (.inl a1), some (.inl a2), some (.inl a3)], []) σ
        refine Wp.run (WpD.mono _) 0 (q := ((57, [some (.inl a1), some (.inl a2), some (.inl a3)], [.inl (0 : Int32)]), σ)) rfl ?_
        obtain ⟨rfl, rfl⟩ := ret_inj h
        exact Wp.ret (WpD.mono _) rfl hQ
      · have h := (if_neg hc).symm.trans h
        show Wp (WpD (e + 0)) hcX12_two Q (52, [some (.inl a1), some (.inl a2), some (.inl a3)], []) σ
        refine Wp.run (WpD.mono _) 1 (q := ((57, [none, none, none], [.inl (1 : Int32)]), σ)) rfl ?_
        obtain ⟨rfl, rfl⟩ := ret_inj h
        exact Wp.ret (WpD.mono _) rfl hQ
    · have h := (if_neg hc).symm.trans h
      show Wp (WpD (e + 0)) hcX12_two Q (52, [some (.inl a1), some (.inl a2), some (.inl a3)], []) σ
      refine Wp.run (WpD.mono _) 1 (q := ((57, [none, none, none], [.inl (1 : Int32)]), σ)) rfl ?_
      obtain ⟨rfl, rfl⟩ := ret_inj h
      exact Wp.ret (WpD.mono _) rfl hQ
  have h := (if_neg hs0).symm.trans h
  by_cases hs1 : a1 = 12
  · have h := (if_pos hs1).symm.trans h
    refine Wp.swIn (WpD.mono _) (q := ((58, [some (.inl a1), some (.inl a2), some (.inl a3)], []), σ)) hs1 rfl ?_
    refine Wp.run (WpD.mono _) 0 (q := ((59, [some (.inl a1), some (.inl a2), some (.inl a3)], [.inl a2]), σ)) rfl ?_
    refine Wp.if0_eq (WpD.mono _) rfl rfl (fun hc => ?_) (fun hc => ?_)
    · have h := (if_pos hc).symm.trans h
      show Wp (WpD (e + 0)) hcX12_two Q (70, [some (.inl a1), some (.inl a2), some (.inl a3)], []) σ
      refine Wp.run (WpD.mono _) 0 (q := ((71, [none, none, none], [.inl (0 : Int32)]), σ)) rfl ?_
      obtain ⟨rfl, rfl⟩ := ret_inj h
      exact Wp.ret (WpD.mono _) rfl hQ
    · have h := (if_neg hc).symm.trans h
      show Wp (WpD (e + 0)) hcX12_two Q (62, [some (.inl a1), some (.inl a2), some (.inl a3)], []) σ
      refine Wp.run (WpD.mono _) 0 (q := ((63, [some (.inl a1), some (.inl a2), some (.inl a3)], [.inl a3]), σ)) rfl ?_
      refine Wp.if0_eq (WpD.mono _) rfl rfl (fun hc => ?_) (fun hc => ?_)
      · have h := (if_pos hc).symm.trans h
        show Wp (WpD (e + 0)) hcX12_two Q (70, [some (.inl a1), some (.inl a2), some (.inl a3)], []) σ
        refine Wp.run (WpD.mono _) 0 (q := ((71, [none, none, none], [.inl (0 : Int32)]), σ)) rfl ?_
        obtain ⟨rfl, rfl⟩ := ret_inj h
        exact Wp.ret (WpD.mono _) rfl hQ
      · have h := (if_neg hc).symm.trans h
        show Wp (WpD (e + 0)) hcX12_two Q (66, [some (.inl a1), some (.inl a2), some (.inl a3)], []) σ
        refine Wp.run (WpD.mono _) 1 (q := ((71, [some (.inl a1), some (.inl a2), some (.inl a3)], [.inl (1 : Int32)]), σ)) rfl ?_
        obtain ⟨rfl, rfl⟩ := ret_inj h
        exact Wp.ret (WpD.mono _) rfl hQ
  have h := (if_neg hs1).symm.trans h
  by_cases hs2 : a1 = 13
  · have h := (if_pos hs2).symm.trans h
    refine Wp.swIn (WpD.mono _) (q := ((102, [some (.inl a1), some (.inl a2), some (.inl a3)], []), σ)) hs2 rfl ?_
    refine Wp.run (WpD.mono _) 2 (q := ((105, [some (.inl a1), some (.inl a2), some (.inl a3)], [.inl (a2 * a3)]), σ)) rfl ?_
    obtain ⟨rfl, rfl⟩ := ret_inj h
    exact Wp.ret (WpD.mono _) rfl hQ
  have h := (if_neg hs2).symm.trans h
  by_cases hs3 : a1 = 14
  · have h := (if_pos hs3).symm.trans h
    refine Wp.swIn (WpD.mono _) (q := ((72, [some (.inl a1), some (.inl a2), some (.inl a3)], []), σ)) hs3 rfl ?_
    refine Wp.run (WpD.mono _) 1 (q := ((74, [some (.inl a1), some (.inl a2), some (.inl a3)], [.inl a3, .inl a2]), σ)) rfl ?_
    refine Wp.if2_ge (WpD.mono _) rfl rfl (fun hc => ?_) (fun hc => ?_)
    · have h := (if_pos hc).symm.trans h
      show Wp (WpD (e + 0)) hcX12_two Q (81, [some (.inl a1), some (.inl a2), some (.inl a3)], []) σ
      refine Wp.run (WpD.mono _) 0 (q := ((82, [some (.inl a1), some (.inl a2), some (.inl a3)], [.inl (0 : Int32)]), σ)) rfl ?_
      obtain ⟨rfl, rfl⟩ := ret_inj h
      exact Wp.ret (WpD.mono _) rfl hQ
    · have h := (if_neg hc).symm.trans h
      show Wp (WpD (e + 0)) hcX12_two Q (77, [some (.inl a1), some (.inl a2), some (.inl a3)], []) σ
      refine Wp.run (WpD.mono _) 1 (q := ((82, [some (.inl a1), some (.inl a2), some (.inl a3)], [.inl (1 : Int32)]), σ)) rfl ?_
      obtain ⟨rfl, rfl⟩ := ret_inj h
      exact Wp.ret (WpD.mono _) rfl hQ
  have h := (if_neg hs3).symm.trans h
  by_cases hs4 : a1 = 15
  · have h := (if_pos hs4).symm.trans h
    refine Wp.swIn (WpD.mono _) (q := ((83, [some (.inl a1), some (.inl a2), some (.inl a3)], []), σ)) hs4 rfl ?_
    refine Wp.run (WpD.mono _) 1 (q := ((85, [some (.inl a1), some (.inl a2), some (.inl a3)], [.inl a3, .inl a2]), σ)) rfl ?_
    refine Wp.if2_ne (WpD.mono _) rfl rfl (fun hc => ?_) (fun hc => ?_)
    · have h := (if_pos hc).symm.trans h
      show Wp (WpD (e + 0)) hcX12_two Q (88, [some (.inl a1), some (.inl a2), some (.inl a3)], []) σ
      refine Wp.run (WpD.mono _) 1 (q := ((93, [some (.inl a1), some (.inl a2), some (.inl a3)], [.inl (1 : Int32)]), σ)) rfl ?_
      obtain ⟨rfl, rfl⟩ := ret_inj h
      exact Wp.ret (WpD.mono _) rfl hQ
    · have h := (if_neg hc).symm.trans h
      show Wp (WpD (e + 0)) hcX12_two Q (92, [some (.inl a1), some (.inl a2), some (.inl a3)], []) σ
      refine Wp.run (WpD.mono _) 0 (q := ((93, [some (.inl a1), some (.inl a2), some (.inl a3)], [.inl (0 : Int32)]), σ)) rfl ?_
      obtain ⟨rfl, rfl⟩ := ret_inj h
      exact Wp.ret (WpD.mono _) rfl hQ
  have h := (if_neg hs4).symm.trans h
  by_cases hs5 : a1 = 16
  · have h := (if_pos hs5).symm.trans h
    refine Wp.swIn (WpD.mono _) (q := ((94, [some (.inl a1), some (.inl a2), some (.inl a3)], []), σ)) hs5 rfl ?_
    refine Wp.run (WpD.mono _) 2 (q := ((97, [some (.inl a1), some (.inl a2), some (.inl a3)], [.inl (a2 + a3)]), σ)) rfl ?_
    obtain ⟨rfl, rfl⟩ := ret_inj h
    exact Wp.ret (WpD.mono _) rfl hQ
  have h := (if_neg hs5).symm.trans h
  by_cases hs6 : a1 = 17
  · have h := (if_pos hs6).symm.trans h
    refine Wp.swIn (WpD.mono _) (q := ((98, [some (.inl a1), some (.inl a2), some (.inl a3)], []), σ)) hs6 rfl ?_
    refine Wp.run (WpD.mono _) 2 (q := ((101, [some (.inl a1), some (.inl a2), some (.inl a3)], [.inl (a2 - a3)]), σ)) rfl ?_
    obtain ⟨rfl, rfl⟩ := ret_inj h
    exact Wp.ret (WpD.mono _) rfl hQ
  have h := (if_neg hs6).symm.trans h
  have ehs0 : ¬ (a1).toInt = 11 := fun z => hs0 (Int32.toInt_inj.mp z)
  have ehs1 : ¬ (a1).toInt = 12 := fun z => hs1 (Int32.toInt_inj.mp z)
  have ehs2 : ¬ (a1).toInt = 13 := fun z => hs2 (Int32.toInt_inj.mp z)
  have ehs3 : ¬ (a1).toInt = 14 := fun z => hs3 (Int32.toInt_inj.mp z)
  have ehs4 : ¬ (a1).toInt = 15 := fun z => hs4 (Int32.toInt_inj.mp z)
  have ehs5 : ¬ (a1).toInt = 16 := fun z => hs5 (Int32.toInt_inj.mp z)
  have ehs6 : ¬ (a1).toInt = 17 := fun z => hs6 (Int32.toInt_inj.mp z)
  refine Wp.swOut (WpD.mono _) (q := ((102, [some (.inl a1), some (.inl a2), some (.inl a3)], []), σ)) (o := if (a1).toInt < 11 ∨ 17 < (a1).toInt then some (101) else #[43, 57, 101, 71, 82, 93, 97][((a1).toInt - 11).toNat]?) (o' := some (101)) rfl (if_pos (by omega)) rfl ?_
  refine Wp.run (WpD.mono _) 2 (q := ((105, [some (.inl a1), some (.inl a2), some (.inl a3)], [.inl (a2 * a3)]), σ)) rfl ?_
  obtain ⟨rfl, rfl⟩ := ret_inj h
  exact Wp.ret (WpD.mono _) rfl hQ

set_option maxRecDepth 100000 in
set_option maxHeartbeats 4000000 in
theorem T_X12_worth_b130 (e N : Nat)  (k16 : Int32 → Int32 → Int32 → Mem → Option (Int32 × Mem)) (r : Int32) (τ : Mem) (Q : Pst) (hQ : Q (some (.inl r)) τ) (hk16 : ∀ (x1 : Int32) (x2 : Int32) (x3 : Int32) (σ : Mem), k16 x1 x2 x3 σ = some (r, τ) → Wp (WpD (e + 1)) hcX12_worth Q (16, [some (.inr (.inr (12, 0))), some (.inl x1), some (.inl x2), some (.inl x3), none], []) σ) : ∀ (x1 : Int32) (x2 : Int32) (x3 : Int32) (s0 : Int32) (s1 : Int32) (σ : Mem), F_X12_worth_b130 N k16 x1 x2 x3 s0 s1 σ = some (r, τ) → Wp (WpD (e + 1)) hcX12_worth Q (130, [some (.inr (.inr (12, 0))), some (.inl x1), some (.inl x2), some (.inl x3), none], [.inl s0, .inl s1, .inr (.inr (100, 0))]) σ := by
  intro x1 x2 x3 s0 s1 σ h
  unfold F_X12_worth_b130 at h
  obtain ⟨hc, h⟩ := ite_nn h
  refine Wp.X_ist (WpD.mono _) rfl rfl hc ?_
  show Wp (WpD (e + 1)) hcX12_worth Q (131, [some (.inr (.inr (12, 0))), some (.inl x1), some (.inl x2), some (.inl x3), none], []) (σ.1, σ.2.1, (hwU3 σ.2.2.1 100 0 (s1).toNatClampNeg s0), σ.2.2.2.1, σ.2.2.2.2)
  refine Wp.run (WpD.mono _) 2 (q := ((16, [some (.inr (.inr (12, 0))), some (.inl x1), some (.inl x2), some (.inl (x3 + (1 : Int32))), none], []), (σ.1, σ.2.1, (hwU3 σ.2.2.1 100 0 (s1).toNatClampNeg s0), σ.2.2.2.1, σ.2.2.2.2))) rfl ?_
  exact Wp.jump (WpD.mono _) rfl (hk16 x1 x2 (x3 + (1 : Int32)) (σ.1, σ.2.1, (hwU3 σ.2.2.1 100 0 (s1).toNatClampNeg s0), σ.2.2.2.1, σ.2.2.2.2) h)

set_option maxRecDepth 100000 in
set_option maxHeartbeats 4000000 in
theorem T_X12_worth_b93 (e N : Nat)  (k16 : Int32 → Int32 → Int32 → Mem → Option (Int32 × Mem)) (r : Int32) (τ : Mem) (Q : Pst) (hQ : Q (some (.inl r)) τ) (hk16 : ∀ (x1 : Int32) (x2 : Int32) (x3 : Int32) (σ : Mem), k16 x1 x2 x3 σ = some (r, τ) → Wp (WpD (e + 1)) hcX12_worth Q (16, [some (.inr (.inr (12, 0))), some (.inl x1), some (.inl x2), some (.inl x3), none], []) σ) : ∀ (x1 : Int32) (x2 : Int32) (x3 : Int32) (s0 : Int32) (s1 : Int32) (σ : Mem), F_X12_worth_b93 N k16 x1 x2 x3 s0 s1 σ = some (r, τ) → Wp (WpD (e + 1)) hcX12_worth Q (93, [some (.inr (.inr (12, 0))), some (.inl x1), some (.inl x2), some (.inl x3), none], [.inl s0, .inl s1, .inr (.inr (100, 0))]) σ := by
  intro x1 x2 x3 s0 s1 σ h
  unfold F_X12_worth_b93 at h
  obtain ⟨hc, h⟩ := ite_nn h
  refine Wp.X_ist (WpD.mono _) rfl rfl hc ?_
  show Wp (WpD (e + 1)) hcX12_worth Q (94, [some (.inr (.inr (12, 0))), some (.inl x1), some (.inl x2), some (.inl x3), none], []) (σ.1, σ.2.1, (hwU3 σ.2.2.1 100 0 (s1).toNatClampNeg s0), σ.2.2.2.1, σ.2.2.2.2)
  refine Wp.run (WpD.mono _) 3 (q := ((16, [some (.inr (.inr (12, 0))), some (.inl x1), some (.inl (x2 + (1 : Int32))), some (.inl (x3 + (1 : Int32))), none], []), (σ.1, σ.2.1, (hwU3 σ.2.2.1 100 0 (s1).toNatClampNeg s0), σ.2.2.2.1, σ.2.2.2.2))) rfl ?_
  exact Wp.jump (WpD.mono _) rfl (hk16 x1 (x2 + (1 : Int32)) (x3 + (1 : Int32)) (σ.1, σ.2.1, (hwU3 σ.2.2.1 100 0 (s1).toNatClampNeg s0), σ.2.2.2.1, σ.2.2.2.2) h)

set_option maxRecDepth 100000 in
set_option maxHeartbeats 4000000 in
theorem T_X12_worth_b66 (e N : Nat)  (k16 : Int32 → Int32 → Int32 → Mem → Option (Int32 × Mem)) (r : Int32) (τ : Mem) (Q : Pst) (hQ : Q (some (.inl r)) τ) (hk16 : ∀ (x1 : Int32) (x2 : Int32) (x3 : Int32) (σ : Mem), k16 x1 x2 x3 σ = some (r, τ) → Wp (WpD (e + 1)) hcX12_worth Q (16, [some (.inr (.inr (12, 0))), some (.inl x1), some (.inl x2), some (.inl x3), none], []) σ) : ∀ (x1 : Int32) (x2 : Int32) (x3 : Int32) (x4 : Int32) (σ : Mem), F_X12_worth_b66 N k16 x1 x2 x3 x4 σ = some (r, τ) → Wp (WpD (e + 1)) hcX12_worth Q (66, [some (.inr (.inr (12, 0))), some (.inl x1), some (.inl x2), some (.inl x3), some (.inl x4)], []) σ := by
  intro x1 x2 x3 x4 σ h
  unfold F_X12_worth_b66 at h
  refine Wp.run (WpD.mono _) 4 (q := ((75, [some (.inr (.inr (12, 0))), some (.inl x1), some (.inl x2), some (.inl x3), some (.inl x4)], [.inl (11 : Int32), .inl x4, .inl x2, .inr (.inr (100, 0))]), σ)) rfl ?_
  refine Wp.if2_ge (WpD.mono _) rfl rfl (fun hc => ?_) (fun hc => ?_)
  · have h := (if_pos hc).symm.trans h
    show Wp (WpD (e + 1)) hcX12_worth Q (88, [some (.inr (.inr (12, 0))), some (.inl x1), some (.inl x2), some (.inl x3), some (.inl x4)], [.inl x2, .inr (.inr (100, 0))]) σ
    refine Wp.run (WpD.mono _) 2 (q := ((93, [some (.inr (.inr (12, 0))), some (.inl x1), some (.inl x2), some (.inl x3), some (.inl x4)], [.inl (x4 - (100000 : Int32)), .inl x2, .inr (.inr (100, 0))]), σ)) rfl ?_
    exact Wp.jump (WpD.mono _) rfl ((T_X12_worth_b93 e N k16 r τ Q hQ hk16) x1 x2 x3 (x4 - (100000 : Int32)) x2 σ h)
  · have h := (if_neg hc).symm.trans h
    show Wp (WpD (e + 1)) hcX12_worth Q (78, [some (.inr (.inr (12, 0))), some (.inl x1), some (.inl x2), some (.inl x3), some (.inl x4)], [.inl x2, .inr (.inr (100, 0))]) σ
    refine Wp.run (WpD.mono _) 2 (q := ((84, [some (.inr (.inr (12, 0))), some (.inl x1), some (.inl x2), some (.inl x3), some (.inl x4)], [.inl x4, .inr (.inr (101, 0)), .inl x2, .inr (.inr (100, 0))]), σ)) rfl ?_
    obtain ⟨hc, h⟩ := ite_nn h
    refine Wp.X_ild1 (WpD.mono _) rfl rfl hc ?_
    show Wp (WpD (e + 1)) hcX12_worth Q (85, [some (.inr (.inr (12, 0))), some (.inl x1), some (.inl x2), some (.inl x3), some (.inl x4)], [.inl (σ.2.2.1 101 0 (x4).toNatClampNeg), .inl x2, .inr (.inr (100, 0))]) σ
    refine Wp.run (WpD.mono _) 0 (q := ((93, [some (.inr (.inr (12, 0))), some (.inl x1), some (.inl x2), some (.inl x3), some (.inl x4)], [.inl (σ.2.2.1 101 0 (x4).toNatClampNeg), .inl x2, .inr (.inr (100, 0))]), σ)) rfl ?_
    exact Wp.jump (WpD.mono _) rfl ((T_X12_worth_b93 e N k16 r τ Q hQ hk16) x1 x2 x3 (σ.2.2.1 101 0 (x4).toNatClampNeg) x2 σ h)

set_option maxRecDepth 100000 in
set_option maxHeartbeats 4000000 in
theorem T_X12_worth_b209 (e N : Nat)   (r : Int32) (τ : Mem) (Q : Pst) (hQ : Q (some (.inl r)) τ) : ∀ (s0 : Int32) (σ : Mem), F_X12_worth_b209 N s0 σ = some (r, τ) → Wp (WpD (e + 1)) hcX12_worth Q (209, [some (.inr (.inr (12, 0))), none, none, none, none], [.inl s0]) σ := by
  intro s0 σ h
  unfold F_X12_worth_b209 at h
  refine Wp.run (WpD.mono _) 4 (q := ((216, [some (.inr (.inr (12, 0))), none, none, some (.inl s0), none], [.inl (σ.2.2.1 100 0 0)]), σ)) rfl ?_
  refine Wp.if0_ge (WpD.mono _) rfl rfl (fun hc => ?_) (fun hc => ?_)
  · have h := (if_pos hc).symm.trans h
    show Wp (WpD (e + 1)) hcX12_worth Q (223, [some (.inr (.inr (12, 0))), none, none, some (.inl s0), none], []) σ
    refine Wp.run (WpD.mono _) 4 (q := ((230, [some (.inr (.inr (12, 0))), none, none, some (.inl s0), none], [.inl s0, .inl (σ.2.2.1 100 0 0)]), σ)) rfl ?_
    refine Wp.if2_le (WpD.mono _) rfl rfl (fun hc => ?_) (fun hc => ?_)
    · have h := (if_pos hc).symm.trans h
      show Wp (WpD (e + 1)) hcX12_worth Q (237, [some (.inr (.inr (12, 0))), none, none, some (.inl s0), none], []) σ
      refine Wp.run (WpD.mono _) 3 (q := ((243, [some (.inr (.inr (12, 0))), none, none, some (.inl s0), none], [.inl (σ.2.2.1 100 0 0)]), σ)) rfl ?_
      obtain ⟨rfl, rfl⟩ := ret_inj h
      exact Wp.ret (WpD.mono _) rfl hQ
    · have h := (if_neg hc).symm.trans h
      show Wp (WpD (e + 1)) hcX12_worth Q (233, [some (.inr (.inr (12, 0))), none, none, some (.inl s0), none], []) σ
      refine Wp.run (WpD.mono _) 1 (q := ((243, [some (.inr (.inr (12, 0))), none, none, some (.inl s0), none], [.inl s0]), σ)) rfl ?_
      obtain ⟨rfl, rfl⟩ := ret_inj h
      exact Wp.ret (WpD.mono _) rfl hQ
  · have h := (if_neg hc).symm.trans h
    show Wp (WpD (e + 1)) hcX12_worth Q (219, [some (.inr (.inr (12, 0))), none, none, some (.inl s0), none], []) σ
    refine Wp.run (WpD.mono _) 1 (q := ((243, [some (.inr (.inr (12, 0))), none, none, some (.inl s0), none], [.inl (0 : Int32)]), σ)) rfl ?_
    obtain ⟨rfl, rfl⟩ := ret_inj h
    exact Wp.ret (WpD.mono _) rfl hQ

set_option maxRecDepth 100000 in
set_option maxHeartbeats 4000000 in
theorem T_X12_worth_b16 (e N : Nat)   (r : Int32) (τ : Mem) (Q : Pst) (hQ : Q (some (.inl r)) τ) : ∀ n, ∀ (x1 : Int32) (x2 : Int32) (x3 : Int32) (σ : Mem), F_X12_worth_b16 N n x1 x2 x3 σ = some (r, τ) → Wp (WpD (e + 1)) hcX12_worth Q (16, [some (.inr (.inr (12, 0))), some (.inl x1), some (.inl x2), some (.inl x3), none], []) σ := by
  intro n
  induction n with
  | zero => intro x1 x2 x3 σ h; cases h
  | succ n ih =>
    intro x1 x2 x3 σ h
    unfold F_X12_worth_b16 at h
    refine Wp.run (WpD.mono _) 10 (q := ((31, [some (.inr (.inr (12, 0))), some (.inl x1), some (.inl x2), some (.inl x3), none], [.inl ((((4 : Int32) * (σ.1 12 28)) + x1) + (1 : Int32)), .inr (.inr (88, 0)), .inl x3]), σ)) rfl ?_
    obtain ⟨hc, h⟩ := ite_nn h
    refine Wp.X_ild1 (WpD.mono _) rfl rfl hc ?_
    show Wp (WpD (e + 1)) hcX12_worth Q (32, [some (.inr (.inr (12, 0))), some (.inl x1), some (.inl x2), some (.inl x3), none], [.inl (σ.2.2.1 88 0 (((((4 : Int32) * (σ.1 12 28)) + x1) + (1 : Int32))).toNatClampNeg), .inl x3]) σ
    refine Wp.if2_ge (WpD.mono _) rfl rfl (fun hc => ?_) (fun hc => ?_)
    · have h := (if_pos hc).symm.trans h
      show Wp (WpD (e + 1)) hcX12_worth Q (197, [some (.inr (.inr (12, 0))), some (.inl x1), some (.inl x2), some (.inl x3), none], []) σ
      refine Wp.run (WpD.mono _) 0 (q := ((198, [some (.inr (.inr (12, 0))), some (.inl x1), some (.inl x2), some (.inl x3), none], [.inl x1]), σ)) rfl ?_
      refine Wp.if0_ne (WpD.mono _) rfl rfl (fun hc => ?_) (fun hc => ?_)
      · have h := (if_pos hc).symm.trans h
        show Wp (WpD (e + 1)) hcX12_worth Q (201, [some (.inr (.inr (12, 0))), some (.inl x1), some (.inl x2), some (.inl x3), none], []) σ
        refine Wp.run (WpD.mono _) 1 (q := ((209, [some (.inr (.inr (12, 0))), some (.inl x1), some (.inl x2), some (.inl x3), none], [.inl (999 : Int32)]), σ)) rfl ?_
        exact Wp.jump (WpD.mono _) rfl ((T_X12_worth_b209 e N  r τ Q hQ ) (999 : Int32) σ h)
      · have h := (if_neg hc).symm.trans h
        show Wp (WpD (e + 1)) hcX12_worth Q (207, [some (.inr (.inr (12, 0))), some (.inl x1), some (.inl x2), some (.inl x3), none], []) σ
        refine Wp.run (WpD.mono _) 0 (q := ((209, [some (.inr (.inr (12, 0))), some (.inl x1), some (.inl x2), some (.inl x3), none], [.inl (100 : Int32)]), σ)) rfl ?_
        exact Wp.jump (WpD.mono _) rfl ((T_X12_worth_b209 e N  r τ Q hQ ) (100 : Int32) σ h)
    · have h := (if_neg hc).symm.trans h
      show Wp (WpD (e + 1)) hcX12_worth Q (35, [some (.inr (.inr (12, 0))), some (.inl x1), some (.inl x2), some (.inl x3), none], []) σ
      refine Wp.run (WpD.mono _) 7 (q := ((49, [some (.inr (.inr (12, 0))), some (.inl x1), some (.inl x2), some (.inl x3), none], [.inl (((200 : Int32) * (σ.1 12 28)) + x3), .inr (.inr (87, 0))]), σ)) rfl ?_
      obtain ⟨hc, h⟩ := ite_nn h
      refine Wp.X_ild1 (WpD.mono _) rfl rfl hc ?_
      show Wp (WpD (e + 1)) hcX12_worth Q (50, [some (.inr (.inr (12, 0))), some (.inl x1), some (.inl x2), some (.inl x3), none], [.inl (σ.2.2.1 87 0 ((((200 : Int32) * (σ.1 12 28)) + x3)).toNatClampNeg)]) σ
      refine Wp.run (WpD.mono _) 2 (q := ((56, [some (.inr (.inr (12, 0))), some (.inl x1), some (.inl x2), some (.inl x3), some (.inl (σ.2.2.1 87 0 ((((200 : Int32) * (σ.1 12 28)) + x3)).toNatClampNeg))], [.inl (100000 : Int32), .inl (σ.2.2.1 87 0 ((((200 : Int32) * (σ.1 12 28)) + x3)).toNatClampNeg)]), σ)) rfl ?_
      refine Wp.if2_ge (WpD.mono _) rfl rfl (fun hc => ?_) (fun hc => ?_)
      · have h := (if_pos hc).symm.trans h
        show Wp (WpD (e + 1)) hcX12_worth Q (66, [some (.inr (.inr (12, 0))), some (.inl x1), some (.inl x2), some (.inl x3), some (.inl (σ.2.2.1 87 0 ((((200 : Int32) * (σ.1 12 28)) + x3)).toNatClampNeg))], []) σ
        exact Wp.jump (WpD.mono _) rfl ((T_X12_worth_b66 e N (F_X12_worth_b16 N n) r τ Q hQ ih) x1 x2 x3 (σ.2.2.1 87 0 ((((200 : Int32) * (σ.1 12 28)) + x3)).toNatClampNeg) σ h)
      · have h := (if_neg hc).symm.trans h
        show Wp (WpD (e + 1)) hcX12_worth Q (59, [some (.inr (.inr (12, 0))), some (.inl x1), some (.inl x2), some (.inl x3), some (.inl (σ.2.2.1 87 0 ((((200 : Int32) * (σ.1 12 28)) + x3)).toNatClampNeg))], []) σ
        refine Wp.run (WpD.mono _) 1 (q := ((63, [some (.inr (.inr (12, 0))), some (.inl x1), some (.inl x2), some (.inl x3), some (.inl (σ.2.2.1 87 0 ((((200 : Int32) * (σ.1 12 28)) + x3)).toNatClampNeg))], [.inl (11 : Int32), .inl (σ.2.2.1 87 0 ((((200 : Int32) * (σ.1 12 28)) + x3)).toNatClampNeg)]), σ)) rfl ?_
        refine Wp.if2_ge (WpD.mono _) rfl rfl (fun hc => ?_) (fun hc => ?_)
        · have h := (if_pos hc).symm.trans h
          show Wp (WpD (e + 1)) hcX12_worth Q (100, [some (.inr (.inr (12, 0))), some (.inl x1), some (.inl x2), some (.inl x3), some (.inl (σ.2.2.1 87 0 ((((200 : Int32) * (σ.1 12 28)) + x3)).toNatClampNeg))], []) σ
          refine Wp.run (WpD.mono _) 1 (q := ((104, [some (.inr (.inr (12, 0))), some (.inl x1), some (.inl x2), some (.inl x3), some (.inl (σ.2.2.1 87 0 ((((200 : Int32) * (σ.1 12 28)) + x3)).toNatClampNeg))], [.inl (13 : Int32), .inl (σ.2.2.1 87 0 ((((200 : Int32) * (σ.1 12 28)) + x3)).toNatClampNeg)]), σ)) rfl ?_
          refine Wp.if2_ne (WpD.mono _) rfl rfl (fun hc => ?_) (fun hc => ?_)
          · have h := (if_pos hc).symm.trans h
            show Wp (WpD (e + 1)) hcX12_worth Q (107, [some (.inr (.inr (12, 0))), some (.inl x1), some (.inl x2), some (.inl x3), some (.inl (σ.2.2.1 87 0 ((((200 : Int32) * (σ.1 12 28)) + x3)).toNatClampNeg))], []) σ
            refine Wp.run (WpD.mono _) 9 (q := ((121, [some (.inr (.inr (12, 0))), some (.inl x1), some (.inl x2), some (.inl x3), some (.inl (σ.2.2.1 87 0 ((((200 : Int32) * (σ.1 12 28)) + x3)).toNatClampNeg))], [.inl (x2 - (1 : Int32)), .inr (.inr (100, 0)), .inl (x2 - (1 : Int32)), .inr (.inr (100, 0))]), σ)) rfl ?_
            obtain ⟨hc, h⟩ := ite_nn h
            refine Wp.X_ild1 (WpD.mono _) rfl rfl hc ?_
            show Wp (WpD (e + 1)) hcX12_worth Q (122, [some (.inr (.inr (12, 0))), some (.inl x1), some (.inl x2), some (.inl x3), some (.inl (σ.2.2.1 87 0 ((((200 : Int32) * (σ.1 12 28)) + x3)).toNatClampNeg))], [.inl (σ.2.2.1 100 0 ((x2 - (1 : Int32))).toNatClampNeg), .inl (x2 - (1 : Int32)), .inr (.inr (100, 0))]) σ
            refine Wp.if0_ne (WpD.mono _) rfl rfl (fun hc => ?_) (fun hc => ?_)
            · have h := (if_pos hc).symm.trans h
              show Wp (WpD (e + 1)) hcX12_worth Q (125, [some (.inr (.inr (12, 0))), some (.inl x1), some (.inl x2), some (.inl x3), some (.inl (σ.2.2.1 87 0 ((((200 : Int32) * (σ.1 12 28)) + x3)).toNatClampNeg))], [.inl (x2 - (1 : Int32)), .inr (.inr (100, 0))]) σ
              refine Wp.run (WpD.mono _) 1 (q := ((130, [some (.inr (.inr (12, 0))), some (.inl x1), some (.inl x2), some (.inl x3), some (.inl (σ.2.2.1 87 0 ((((200 : Int32) * (σ.1 12 28)) + x3)).toNatClampNeg))], [.inl (1 : Int32), .inl (x2 - (1 : Int32)), .inr (.inr (100, 0))]), σ)) rfl ?_
              exact Wp.jump (WpD.mono _) rfl ((T_X12_worth_b130 e N (F_X12_worth_b16 N n) r τ Q hQ ih) x1 x2 x3 (1 : Int32) (x2 - (1 : Int32)) σ h)
            · have h := (if_neg hc).symm.trans h
              show Wp (WpD (e + 1)) hcX12_worth Q (129, [some (.inr (.inr (12, 0))), some (.inl x1), some (.inl x2), some (.inl x3), some (.inl (σ.2.2.1 87 0 ((((200 : Int32) * (σ.1 12 28)) + x3)).toNatClampNeg))], [.inl (x2 - (1 : Int32)), .inr (.inr (100, 0))]) σ
              refine Wp.run (WpD.mono _) 0 (q := ((130, [some (.inr (.inr (12, 0))), some (.inl x1), some (.inl x2), some (.inl x3), some (.inl (σ.2.2.1 87 0 ((((200 : Int32) * (σ.1 12 28)) + x3)).toNatClampNeg))], [.inl (0 : Int32), .inl (x2 - (1 : Int32)), .inr (.inr (100, 0))]), σ)) rfl ?_
              exact Wp.jump (WpD.mono _) rfl ((T_X12_worth_b130 e N (F_X12_worth_b16 N n) r τ Q hQ ih) x1 x2 x3 (0 : Int32) (x2 - (1 : Int32)) σ h)
          · have h := (if_neg hc).symm.trans h
            show Wp (WpD (e + 1)) hcX12_worth Q (134, [some (.inr (.inr (12, 0))), some (.inl x1), some (.inl x2), some (.inl x3), some (.inl (σ.2.2.1 87 0 ((((200 : Int32) * (σ.1 12 28)) + x3)).toNatClampNeg))], []) σ
            refine Wp.run (WpD.mono _) 1 (q := ((138, [some (.inr (.inr (12, 0))), some (.inl x1), some (.inl x2), some (.inl x3), some (.inl (σ.2.2.1 87 0 ((((200 : Int32) * (σ.1 12 28)) + x3)).toNatClampNeg))], [.inl (19 : Int32), .inl (σ.2.2.1 87 0 ((((200 : Int32) * (σ.1 12 28)) + x3)).toNatClampNeg)]), σ)) rfl ?_
            refine Wp.if2_ne (WpD.mono _) rfl rfl (fun hc => ?_) (fun hc => ?_)
            · have h := (if_pos hc).symm.trans h
              show Wp (WpD (e + 1)) hcX12_worth Q (141, [some (.inr (.inr (12, 0))), some (.inl x1), some (.inl x2), some (.inl x3), some (.inl (σ.2.2.1 87 0 ((((200 : Int32) * (σ.1 12 28)) + x3)).toNatClampNeg))], []) σ
              refine Wp.run (WpD.mono _) 9 (q := ((155, [some (.inr (.inr (12, 0))), some (.inl x1), some (.inl x2), some (.inl x3), some (.inl (σ.2.2.1 87 0 ((((200 : Int32) * (σ.1 12 28)) + x3)).toNatClampNeg))], [.inl (x2 - (1 : Int32)), .inr (.inr (100, 0)), .inl (x2 - (1 : Int32)), .inr (.inr (100, 0))]), σ)) rfl ?_
              obtain ⟨hc, h⟩ := ite_nn h
              refine Wp.X_ild1 (WpD.mono _) rfl rfl hc ?_
              show Wp (WpD (e + 1)) hcX12_worth Q (156, [some (.inr (.inr (12, 0))), some (.inl x1), some (.inl x2), some (.inl x3), some (.inl (σ.2.2.1 87 0 ((((200 : Int32) * (σ.1 12 28)) + x3)).toNatClampNeg))], [.inl (σ.2.2.1 100 0 ((x2 - (1 : Int32))).toNatClampNeg), .inl (x2 - (1 : Int32)), .inr (.inr (100, 0))]) σ
              refine Wp.run (WpD.mono _) 0 (q := ((157, [some (.inr (.inr (12, 0))), some (.inl x1), some (.inl x2), some (.inl x3), some (.inl (σ.2.2.1 87 0 ((((200 : Int32) * (σ.1 12 28)) + x3)).toNatClampNeg))], [.inl (-(σ.2.2.1 100 0 ((x2 - (1 : Int32))).toNatClampNeg)), .inl (x2 - (1 : Int32)), .inr (.inr (100, 0))]), σ)) rfl ?_
              obtain ⟨hc, h⟩ := ite_nn h
              refine Wp.X_ist (WpD.mono _) rfl rfl hc ?_
              show Wp (WpD (e + 1)) hcX12_worth Q (158, [some (.inr (.inr (12, 0))), some (.inl x1), some (.inl x2), some (.inl x3), some (.inl (σ.2.2.1 87 0 ((((200 : Int32) * (σ.1 12 28)) + x3)).toNatClampNeg))], []) (σ.1, σ.2.1, (hwU3 σ.2.2.1 100 0 ((x2 - (1 : Int32))).toNatClampNeg (-(σ.2.2.1 100 0 ((x2 - (1 : Int32))).toNatClampNeg))), σ.2.2.2.1, σ.2.2.2.2)
              refine Wp.run (WpD.mono _) 2 (q := ((16, [some (.inr (.inr (12, 0))), some (.inl x1), some (.inl x2), some (.inl (x3 + (1 : Int32))), none], []), (σ.1, σ.2.1, (hwU3 σ.2.2.1 100 0 ((x2 - (1 : Int32))).toNatClampNeg (-(σ.2.2.1 100 0 ((x2 - (1 : Int32))).toNatClampNeg))), σ.2.2.2.1, σ.2.2.2.2))) rfl ?_
              exact Wp.jump (WpD.mono _) rfl (ih x1 x2 (x3 + (1 : Int32)) (σ.1, σ.2.1, (hwU3 σ.2.2.1 100 0 ((x2 - (1 : Int32))).toNatClampNeg (-(σ.2.2.1 100 0 ((x2 - (1 : Int32))).toNatClampNeg))), σ.2.2.2.1, σ.2.2.2.2) h)
            · have h := (if_neg hc).symm.trans h
              show Wp (WpD (e + 1)) hcX12_worth Q (161, [some (.inr (.inr (12, 0))), some (.inl x1), some (.inl x2), some (.inl x3), some (.inl (σ.2.2.1 87 0 ((((200 : Int32) * (σ.1 12 28)) + x3)).toNatClampNeg))], []) σ
              refine Wp.run (WpD.mono _) 11 (q := ((180, [some (.inr (.inr (12, 0))), some (.inl x1), some (.inl (x2 + (Int32.ofInt (-1)))), some (.inl x3), some (.inl (σ.2.2.1 87 0 ((((200 : Int32) * (σ.1 12 28)) + x3)).toNatClampNeg))], [.inl ((x2 + (Int32.ofInt (-1))) - (1 : Int32)), .inr (.inr (100, 0)), .inl (σ.2.2.1 87 0 ((((200 : Int32) * (σ.1 12 28)) + x3)).toNatClampNeg), .inl ((x2 + (Int32.ofInt (-1))) - (1 : Int32)), .inr (.inr (100, 0))]), σ)) rfl ?_
              obtain ⟨hc, h⟩ := ite_nn h
              refine Wp.X_ild1 (WpD.mono _) rfl rfl hc ?_
              show Wp (WpD (e + 1)) hcX12_worth Q (181, [some (.inr (.inr (12, 0))), some (.inl x1), some (.inl (x2 + (Int32.ofInt (-1)))), some (.inl x3), some (.inl (σ.2.2.1 87 0 ((((200 : Int32) * (σ.1 12 28)) + x3)).toNatClampNeg))], [.inl (σ.2.2.1 100 0 (((x2 + (Int32.ofInt (-1))) - (1 : Int32))).toNatClampNeg), .inl (σ.2.2.1 87 0 ((((200 : Int32) * (σ.1 12 28)) + x3)).toNatClampNeg), .inl ((x2 + (Int32.ofInt (-1))) - (1 : Int32)), .inr (.inr (100, 0))]) σ
              refine Wp.run (WpD.mono _) 2 (q := ((186, [some (.inr (.inr (12, 0))), some (.inl x1), some (.inl (x2 + (Int32.ofInt (-1)))), some (.inl x3), some (.inl (σ.2.2.1 87 0 ((((200 : Int32) * (σ.1 12 28)) + x3)).toNatClampNeg))], [.inl (x2 + (Int32.ofInt (-1))), .inr (.inr (100, 0)), .inl (σ.2.2.1 100 0 (((x2 + (Int32.ofInt (-1))) - (1 : Int32))).toNatClampNeg), .inl (σ.2.2.1 87 0 ((((200 : Int32) * (σ.1 12 28)) + x3)).toNatClampNeg), .inl ((x2 + (Int32.ofInt (-1))) - (1 : Int32)), .inr (.inr (100, 0))]), σ)) rfl ?_
              obtain ⟨hc, h⟩ := ite_nn h
              refine Wp.X_ild1 (WpD.mono _) rfl rfl hc ?_
              show Wp (WpD (e + 1)) hcX12_worth Q (187, [some (.inr (.inr (12, 0))), some (.inl x1), some (.inl (x2 + (Int32.ofInt (-1)))), some (.inl x3), some (.inl (σ.2.2.1 87 0 ((((200 : Int32) * (σ.1 12 28)) + x3)).toNatClampNeg))], [.inl (σ.2.2.1 100 0 ((x2 + (Int32.ofInt (-1)))).toNatClampNeg), .inl (σ.2.2.1 100 0 (((x2 + (Int32.ofInt (-1))) - (1 : Int32))).toNatClampNeg), .inl (σ.2.2.1 87 0 ((((200 : Int32) * (σ.1 12 28)) + x3)).toNatClampNeg), .inl ((x2 + (Int32.ofInt (-1))) - (1 : Int32)), .inr (.inr (100, 0))]) σ
              obtain ⟨q1, hb, h⟩ := bind_some h
              refine Wp.call (WpD.mono _) rfl (T_X12_two (e + 0) N (σ.2.2.1 87 0 ((((200 : Int32) * (σ.1 12 28)) + x3)).toNatClampNeg) (σ.2.2.1 100 0 (((x2 + (Int32.ofInt (-1))) - (1 : Int32))).toNatClampNeg) (σ.2.2.1 100 0 ((x2 + (Int32.ofInt (-1)))).toNatClampNeg) σ _ _ _ hb ?_)
              show Wp (WpD (e + 1)) hcX12_worth Q (190, [some (.inr (.inr (12, 0))), some (.inl x1), some (.inl (x2 + (Int32.ofInt (-1)))), some (.inl x3), some (.inl (σ.2.2.1 87 0 ((((200 : Int32) * (σ.1 12 28)) + x3)).toNatClampNeg))], [.inl q1.1, .inl ((x2 + (Int32.ofInt (-1))) - (1 : Int32)), .inr (.inr (100, 0))]) q1.2
              obtain ⟨hc, h⟩ := ite_nn h
              refine Wp.X_ist (WpD.mono _) rfl rfl hc ?_
              show Wp (WpD (e + 1)) hcX12_worth Q (191, [some (.inr (.inr (12, 0))), some (.inl x1), some (.inl (x2 + (Int32.ofInt (-1)))), some (.inl x3), some (.inl (σ.2.2.1 87 0 ((((200 : Int32) * (σ.1 12 28)) + x3)).toNatClampNeg))], []) (q1.2.1, q1.2.2.1, (hwU3 q1.2.2.2.1 100 0 (((x2 + (Int32.ofInt (-1))) - (1 : Int32))).toNatClampNeg q1.1), q1.2.2.2.2.1, q1.2.2.2.2.2)
              refine Wp.run (WpD.mono _) 1 (q := ((16, [some (.inr (.inr (12, 0))), some (.inl x1), some (.inl (x2 + (Int32.ofInt (-1)))), some (.inl (x3 + (1 : Int32))), none], []), (q1.2.1, q1.2.2.1, (hwU3 q1.2.2.2.1 100 0 (((x2 + (Int32.ofInt (-1))) - (1 : Int32))).toNatClampNeg q1.1), q1.2.2.2.2.1, q1.2.2.2.2.2))) rfl ?_
              exact Wp.jump (WpD.mono _) rfl (ih x1 (x2 + (Int32.ofInt (-1))) (x3 + (1 : Int32)) (q1.2.1, q1.2.2.1, (hwU3 q1.2.2.2.1 100 0 (((x2 + (Int32.ofInt (-1))) - (1 : Int32))).toNatClampNeg q1.1), q1.2.2.2.2.1, q1.2.2.2.2.2) h)
        · have h := (if_neg hc).symm.trans h
          show Wp (WpD (e + 1)) hcX12_worth Q (66, [some (.inr (.inr (12, 0))), some (.inl x1), some (.inl x2), some (.inl x3), some (.inl (σ.2.2.1 87 0 ((((200 : Int32) * (σ.1 12 28)) + x3)).toNatClampNeg))], []) σ
          exact Wp.jump (WpD.mono _) rfl ((T_X12_worth_b66 e N (F_X12_worth_b16 N n) r τ Q hQ ih) x1 x2 x3 (σ.2.2.1 87 0 ((((200 : Int32) * (σ.1 12 28)) + x3)).toNatClampNeg) σ h)

set_option maxRecDepth 100000 in
set_option maxHeartbeats 4000000 in
theorem T_X12_worth (e N : Nat)  (a1 : Int32) (σ : Mem) (r : Int32) (τ : Mem) (Q : Pst) (h : F_X12_worth N a1 σ = some (r, τ)) (hQ : Q (some (.inl r)) τ) : WpD (e + 2) mX12_worth [.inr (.inr (12, 0)), .inl a1] σ Q := by
  refine WpD.of (d := e + 1) (Nat.le_of_ble_eq_true rfl) (Nat.le_of_ble_eq_true rfl) ?_
  show Wp (WpD (e + 1)) hcX12_worth Q (0, [some (.inr (.inr (12, 0))), some (.inl a1), none, none, none], []) σ
  unfold F_X12_worth at h
  refine Wp.run (WpD.mono _) 9 (q := ((14, [some (.inr (.inr (12, 0))), some (.inl a1), some (.inl (0 : Int32)), none, none], [.inl (((4 : Int32) * (σ.1 12 28)) + a1), .inr (.inr (88, 0))]), σ)) rfl ?_
  obtain ⟨hc, h⟩ := ite_nn h
  refine Wp.X_ild1 (WpD.mono _) rfl rfl hc ?_
  show Wp (WpD (e + 1)) hcX12_worth Q (15, [some (.inr (.inr (12, 0))), some (.inl a1), some (.inl (0 : Int32)), none, none], [.inl (σ.2.2.1 88 0 ((((4 : Int32) * (σ.1 12 28)) + a1)).toNatClampNeg)]) σ
  refine Wp.run (WpD.mono _) 0 (q := ((16, [some (.inr (.inr (12, 0))), some (.inl a1), some (.inl (0 : Int32)), some (.inl (σ.2.2.1 88 0 ((((4 : Int32) * (σ.1 12 28)) + a1)).toNatClampNeg)), none], []), σ)) rfl ?_
  exact Wp.jump (WpD.mono _) rfl ((T_X12_worth_b16 e N  r τ Q hQ  N) a1 (0 : Int32) (σ.2.2.1 88 0 ((((4 : Int32) * (σ.1 12 28)) + a1)).toNatClampNeg) σ h)

set_option maxRecDepth 100000 in
set_option maxHeartbeats 4000000 in
theorem T_X12_costOf (e N : Nat)  (a1 : Int32) (σ : Mem) (r : Int32) (τ : Mem) (Q : Pst) (h : F_X12_costOf N a1 σ = some (r, τ)) (hQ : Q (some (.inl r)) τ) : WpD (e + 3) mX12_costOf [.inr (.inr (12, 0)), .inl a1] σ Q := by
  refine WpD.of (d := e + 2) (Nat.le_of_ble_eq_true rfl) (Nat.le_of_ble_eq_true rfl) ?_
  show Wp (WpD (e + 2)) hcX12_costOf Q (0, [some (.inr (.inr (12, 0))), some (.inl a1)], []) σ
  unfold F_X12_costOf at h
  refine Wp.run (WpD.mono _) 2 (q := ((3, [some (.inr (.inr (12, 0))), some (.inl a1)], [.inl (0 : Int32), .inl a1, .inr (.inr (12, 0))]), σ)) rfl ?_
  obtain ⟨q1, hb, h⟩ := bind_some h
  refine Wp.call (WpD.mono _) rfl (T_X12_names (e + 1) N a1 (0 : Int32) σ _ _ _ hb ?_)
  show Wp (WpD (e + 2)) hcX12_costOf Q (6, [some (.inr (.inr (12, 0))), some (.inl a1)], []) q1.2
  refine Wp.run (WpD.mono _) 1 (q := ((8, [some (.inr (.inr (12, 0))), some (.inl a1)], [.inl (0 : Int32), .inr (.inr (12, 0))]), q1.2)) rfl ?_
  obtain ⟨q2, hb, h⟩ := bind_some h
  refine Wp.call (WpD.mono _) rfl (T_X12_worth (e + 0) N (0 : Int32) q1.2 _ _ _ hb ?_)
  show Wp (WpD (e + 2)) hcX12_costOf Q (11, [some (.inr (.inr (12, 0))), some (.inl a1)], [.inl q2.1]) q2.2
  obtain ⟨rfl, rfl⟩ := ret_inj h
  exact Wp.ret (WpD.mono _) rfl hQ

set_option maxRecDepth 100000 in
set_option maxHeartbeats 4000000 in
theorem T_X12_fallOf (e N : Nat)  (a1 : Int32) (a2 : Int32) (σ : Mem) (r : Int32) (τ : Mem) (Q : Pst) (h : F_X12_fallOf N a1 a2 σ = some (r, τ)) (hQ : Q (some (.inl r)) τ) : WpD (e + 3) mX12_fallOf [.inr (.inr (12, 0)), .inl a1, .inl a2] σ Q := by
  refine WpD.of (d := e + 2) (Nat.le_of_ble_eq_true rfl) (Nat.le_of_ble_eq_true rfl) ?_
  show Wp (WpD (e + 2)) hcX12_fallOf Q (0, [some (.inr (.inr (12, 0))), some (.inl a1), some (.inl a2)], []) σ
  unfold F_X12_fallOf at h
  refine Wp.run (WpD.mono _) 2 (q := ((3, [some (.inr (.inr (12, 0))), some (.inl a1), some (.inl a2)], [.inl a2, .inl a1, .inr (.inr (12, 0))]), σ)) rfl ?_
  obtain ⟨q1, hb, h⟩ := bind_some h
  refine Wp.call (WpD.mono _) rfl (T_X12_names (e + 1) N a1 a2 σ _ _ _ hb ?_)
  show Wp (WpD (e + 2)) hcX12_fallOf Q (6, [some (.inr (.inr (12, 0))), some (.inl a1), some (.inl a2)], []) q1.2
  refine Wp.run (WpD.mono _) 1 (q := ((8, [some (.inr (.inr (12, 0))), some (.inl a1), some (.inl a2)], [.inl (2 : Int32), .inr (.inr (12, 0))]), q1.2)) rfl ?_
  obtain ⟨q2, hb, h⟩ := bind_some h
  refine Wp.call (WpD.mono _) rfl (T_X12_worth (e + 0) N (2 : Int32) q1.2 _ _ _ hb ?_)
  show Wp (WpD (e + 2)) hcX12_fallOf Q (11, [some (.inr (.inr (12, 0))), some (.inl a1), some (.inl a2)], [.inl q2.1]) q2.2
  obtain ⟨rfl, rfl⟩ := ret_inj h
  exact Wp.ret (WpD.mono _) rfl hQ

set_option maxRecDepth 100000 in
set_option maxHeartbeats 4000000 in
theorem T_X12_in (e N : Nat)  (a1 : Int32) (a2 : Int32) (a3 : Int32) (σ : Mem) (r : Int32) (τ : Mem) (Q : Pst) (h : F_X12_in N a1 a2 a3 σ = some (r, τ)) (hQ : Q (some (.inl r)) τ) : WpD (e + 1) mX12_in [.inl a1, .inl a2, .inl a3] σ Q := by
  refine WpD.of (d := e + 0) (Nat.le_of_ble_eq_true rfl) (Nat.le_of_ble_eq_true rfl) ?_
  show Wp (WpD (e + 0)) hcX12_in Q (0, [some (.inl a1), some (.inl a2), some (.inl a3)], []) σ
  unfold F_X12_in at h
  refine Wp.run (WpD.mono _) 1 (q := ((2, [some (.inl a1), some (.inl a2), some (.inl a3)], [.inl a2, .inl a1]), σ)) rfl ?_
  refine Wp.if2_lt (WpD.mono _) rfl rfl (fun hc => ?_) (fun hc => ?_)
  · have h := (if_pos hc).symm.trans h
    show Wp (WpD (e + 0)) hcX12_in Q (14, [some (.inl a1), some (.inl a2), some (.inl a3)], []) σ
    refine Wp.run (WpD.mono _) 0 (q := ((15, [none, none, none], [.inl (0 : Int32)]), σ)) rfl ?_
    obtain ⟨rfl, rfl⟩ := ret_inj h
    exact Wp.ret (WpD.mono _) rfl hQ
  · have h := (if_neg hc).symm.trans h
    show Wp (WpD (e + 0)) hcX12_in Q (5, [some (.inl a1), some (.inl a2), some (.inl a3)], []) σ
    refine Wp.run (WpD.mono _) 1 (q := ((7, [some (.inl a1), some (.inl a2), some (.inl a3)], [.inl a3, .inl a1]), σ)) rfl ?_
    refine Wp.if2_gt (WpD.mono _) rfl rfl (fun hc => ?_) (fun hc => ?_)
    · have h := (if_pos hc).symm.trans h
      show Wp (WpD (e + 0)) hcX12_in Q (14, [some (.inl a1), some (.inl a2), some (.inl a3)], []) σ
      refine Wp.run (WpD.mono _) 0 (q := ((15, [none, none, none], [.inl (0 : Int32)]), σ)) rfl ?_
      obtain ⟨rfl, rfl⟩ := ret_inj h
      exact Wp.ret (WpD.mono _) rfl hQ
    · have h := (if_neg hc).symm.trans h
      show Wp (WpD (e + 0)) hcX12_in Q (10, [some (.inl a1), some (.inl a2), some (.inl a3)], []) σ
      refine Wp.run (WpD.mono _) 1 (q := ((15, [some (.inl a1), some (.inl a2), some (.inl a3)], [.inl (1 : Int32)]), σ)) rfl ?_
      obtain ⟨rfl, rfl⟩ := ret_inj h
      exact Wp.ret (WpD.mono _) rfl hQ

set_option maxRecDepth 100000 in
set_option maxHeartbeats 4000000 in
theorem T_X12_isLayer (e N : Nat)  (a1 : Int32) (σ : Mem) (r : Int32) (τ : Mem) (Q : Pst) (h : F_X12_isLayer N a1 σ = some (r, τ)) (hQ : Q (some (.inl r)) τ) : WpD (e + 2) mX12_isLayer [.inr (.inr (12, 0)), .inl a1] σ Q := by
  refine WpD.of (d := e + 1) (Nat.le_of_ble_eq_true rfl) (Nat.le_of_ble_eq_true rfl) ?_
  show Wp (WpD (e + 1)) hcX12_isLayer Q (0, [some (.inr (.inr (12, 0))), some (.inl a1)], []) σ
  unfold F_X12_isLayer at h
  refine Wp.run (WpD.mono _) 5 (q := ((8, [some (.inr (.inr (12, 0))), some (.inl a1)], [.inl ((σ.1 12 5) - (1 : Int32)), .inl (0 : Int32), .inl a1]), σ)) rfl ?_
  obtain ⟨q1, hb, h⟩ := bind_some h
  refine Wp.call (WpD.mono _) rfl (T_X12_in (e + 0) N a1 (0 : Int32) ((σ.1 12 5) - (1 : Int32)) σ _ _ _ hb ?_)
  show Wp (WpD (e + 1)) hcX12_isLayer Q (11, [some (.inr (.inr (12, 0))), some (.inl a1)], [.inl q1.1]) q1.2
  obtain ⟨hc, h⟩ := ite_yy h
  obtain ⟨rfl, rfl⟩ := ret_inj h
  exact Wp.retZ (WpD.mono _) rfl hc hQ

set_option maxRecDepth 100000 in
set_option maxHeartbeats 4000000 in
theorem T_X12_waterOf (e N : Nat)  (a1 : Int32) (a2 : Int32) (σ : Mem) (r : Int32) (τ : Mem) (Q : Pst) (h : F_X12_waterOf N a1 a2 σ = some (r, τ)) (hQ : Q (some (.inl r)) τ) : WpD (e + 3) mX12_waterOf [.inr (.inr (12, 0)), .inl a1, .inl a2] σ Q := by
  refine WpD.of (d := e + 2) (Nat.le_of_ble_eq_true rfl) (Nat.le_of_ble_eq_true rfl) ?_
  show Wp (WpD (e + 2)) hcX12_waterOf Q (0, [some (.inr (.inr (12, 0))), some (.inl a1), some (.inl a2)], []) σ
  unfold F_X12_waterOf at h
  refine Wp.run (WpD.mono _) 2 (q := ((3, [some (.inr (.inr (12, 0))), some (.inl a1), some (.inl a2)], [.inl (0 : Int32), .inl a1, .inr (.inr (12, 0))]), σ)) rfl ?_
  obtain ⟨q1, hb, h⟩ := bind_some h
  refine Wp.call (WpD.mono _) rfl (T_X12_names (e + 1) N a1 (0 : Int32) σ _ _ _ hb ?_)
  show Wp (WpD (e + 2)) hcX12_waterOf Q (6, [some (.inr (.inr (12, 0))), some (.inl a1), some (.inl a2)], []) q1.2
  refine Wp.run (WpD.mono _) 10 (q := ((23, [some (.inr (.inr (12, 0))), some (.inl a1), some (.inl a2)], [.inl a2, .inr (.inr (72, 0)), .inl (2 : Int32), .inr (.inr (101, 0))]), (q1.2.1, q1.2.2.1, (hwU3 q1.2.2.2.1 101 0 1 a2), q1.2.2.2.2.1, q1.2.2.2.2.2))) rfl ?_
  obtain ⟨hc, h⟩ := ite_nn h
  refine Wp.X_ild1 (WpD.mono _) rfl rfl hc ?_
  show Wp (WpD (e + 2)) hcX12_waterOf Q (24, [some (.inr (.inr (12, 0))), some (.inl a1), some (.inl a2)], [.inl (q1.2.2.2.1 72 0 (a2).toNatClampNeg), .inl (2 : Int32), .inr (.inr (101, 0))]) (q1.2.1, q1.2.2.1, (hwU3 q1.2.2.2.1 101 0 1 a2), q1.2.2.2.2.1, q1.2.2.2.2.2)
  refine Wp.run (WpD.mono _) 6 (q := ((35, [some (.inr (.inr (12, 0))), some (.inl a1), some (.inl a2)], [.inl a2, .inr (.inr (73, 0)), .inl (3 : Int32), .inr (.inr (101, 0))]), (q1.2.1, q1.2.2.1, (hwU3 (hwU3 q1.2.2.2.1 101 0 1 a2) 101 0 2 (q1.2.2.2.1 72 0 (a2).toNatClampNeg)), q1.2.2.2.2.1, q1.2.2.2.2.2))) rfl ?_
  obtain ⟨hc, h⟩ := ite_nn h
  refine Wp.X_ild1 (WpD.mono _) rfl rfl hc ?_
  show Wp (WpD (e + 2)) hcX12_waterOf Q (36, [some (.inr (.inr (12, 0))), some (.inl a1), some (.inl a2)], [.inl (q1.2.2.2.1 73 0 (a2).toNatClampNeg), .inl (3 : Int32), .inr (.inr (101, 0))]) (q1.2.1, q1.2.2.1, (hwU3 (hwU3 q1.2.2.2.1 101 0 1 a2) 101 0 2 (q1.2.2.2.1 72 0 (a2).toNatClampNeg)), q1.2.2.2.2.1, q1.2.2.2.2.2)
  refine Wp.run (WpD.mono _) 2 (q := ((39, [some (.inr (.inr (12, 0))), some (.inl a1), some (.inl a2)], [.inl (1 : Int32), .inr (.inr (12, 0))]), (q1.2.1, q1.2.2.1, (hwU3 (hwU3 (hwU3 q1.2.2.2.1 101 0 1 a2) 101 0 2 (q1.2.2.2.1 72 0 (a2).toNatClampNeg)) 101 0 3 (q1.2.2.2.1 73 0 (a2).toNatClampNeg)), q1.2.2.2.2.1, q1.2.2.2.2.2))) rfl ?_
  obtain ⟨q2, hb, h⟩ := bind_some h
  refine Wp.call (WpD.mono _) rfl (T_X12_worth (e + 0) N (1 : Int32) (q1.2.1, q1.2.2.1, (hwU3 (hwU3 (hwU3 q1.2.2.2.1 101 0 1 a2) 101 0 2 (q1.2.2.2.1 72 0 (a2).toNatClampNeg)) 101 0 3 (q1.2.2.2.1 73 0 (a2).toNatClampNeg)), q1.2.2.2.2.1, q1.2.2.2.2.2) _ _ _ hb ?_)
  show Wp (WpD (e + 2)) hcX12_waterOf Q (42, [some (.inr (.inr (12, 0))), some (.inl a1), some (.inl a2)], [.inl q2.1]) q2.2
  obtain ⟨rfl, rfl⟩ := ret_inj h
  exact Wp.ret (WpD.mono _) rfl hQ

set_option maxRecDepth 100000 in
set_option maxHeartbeats 4000000 in
theorem T_X12_asks_b47 (e N : Nat)   (r : Int32) (τ : Mem) (Q : Pst) (hQ : Q (some (.inl r)) τ) : ∀ (x1 : Int32) (x2 : Int32) (x3 : Int32) (x4 : Int32) (σ : Mem), F_X12_asks_b47 N x1 x2 x3 x4 σ = some (r, τ) → Wp (WpD (e + 3)) hcX12_asks Q (47, [some (.inr (.inr (12, 0))), some (.inl x1), some (.inl x2), some (.inl x3), some (.inl x4)], []) σ := by
  intro x1 x2 x3 x4 σ h
  unfold F_X12_asks_b47 at h
  refine Wp.run (WpD.mono _) 0 (q := ((48, [some (.inr (.inr (12, 0))), some (.inl x1), some (.inl x2), some (.inl x3), some (.inl x4)], [.inl x1]), σ)) rfl ?_
  refine Wp.if0_ne (WpD.mono _) rfl rfl (fun hc => ?_) (fun hc => ?_)
  · have h := (if_pos hc).symm.trans h
    show Wp (WpD (e + 3)) hcX12_asks Q (51, [some (.inr (.inr (12, 0))), some (.inl x1), some (.inl x2), some (.inl x3), some (.inl x4)], []) σ
    refine Wp.run (WpD.mono _) 1 (q := ((53, [some (.inr (.inr (12, 0))), some (.inl x1), some (.inl x2), some (.inl x3), some (.inl x4)], [.inl x2, .inr (.inr (12, 0))]), σ)) rfl ?_
    obtain ⟨q5, hb, h⟩ := bind_some h
    refine Wp.call (WpD.mono _) rfl (T_X12_costOf (e + 0) N x2 σ _ _ _ hb ?_)
    show Wp (WpD (e + 3)) hcX12_asks Q (56, [some (.inr (.inr (12, 0))), some (.inl x1), some (.inl x2), some (.inl x3), some (.inl x4)], [.inl q5.1]) q5.2
    refine Wp.run (WpD.mono _) 0 (q := ((80, [some (.inr (.inr (12, 0))), some (.inl x1), some (.inl x2), some (.inl x3), some (.inl x4)], [.inl q5.1]), q5.2)) rfl ?_
    obtain ⟨rfl, rfl⟩ := ret_inj h
    exact Wp.ret (WpD.mono _) rfl hQ
  · have h := (if_neg hc).symm.trans h
    show Wp (WpD (e + 3)) hcX12_asks Q (59, [some (.inr (.inr (12, 0))), some (.inl x1), some (.inl x2), some (.inl x3), some (.inl x4)], []) σ
    refine Wp.run (WpD.mono _) 1 (q := ((61, [some (.inr (.inr (12, 0))), some (.inl x1), some (.inl x2), some (.inl x3), some (.inl x4)], [.inl (1 : Int32), .inl x1]), σ)) rfl ?_
    refine Wp.if2_ne (WpD.mono _) rfl rfl (fun hc => ?_) (fun hc => ?_)
    · have h := (if_pos hc).symm.trans h
      show Wp (WpD (e + 3)) hcX12_asks Q (64, [some (.inr (.inr (12, 0))), some (.inl x1), some (.inl x2), some (.inl x3), some (.inl x4)], []) σ
      refine Wp.run (WpD.mono _) 2 (q := ((67, [some (.inr (.inr (12, 0))), some (.inl x1), some (.inl x2), some (.inl x3), some (.inl x4)], [.inl x3, .inl x2, .inr (.inr (12, 0))]), σ)) rfl ?_
      obtain ⟨q6, hb, h⟩ := bind_some h
      refine Wp.call (WpD.mono _) rfl (T_X12_waterOf (e + 0) N x2 x3 σ _ _ _ hb ?_)
      show Wp (WpD (e + 3)) hcX12_asks Q (70, [some (.inr (.inr (12, 0))), some (.inl x1), some (.inl x2), some (.inl x3), some (.inl x4)], [.inl q6.1]) q6.2
      refine Wp.run (WpD.mono _) 0 (q := ((80, [some (.inr (.inr (12, 0))), some (.inl x1), some (.inl x2), some (.inl x3), some (.inl x4)], [.inl q6.1]), q6.2)) rfl ?_
      obtain ⟨rfl, rfl⟩ := ret_inj h
      exact Wp.ret (WpD.mono _) rfl hQ
    · have h := (if_neg hc).symm.trans h
      show Wp (WpD (e + 3)) hcX12_asks Q (73, [some (.inr (.inr (12, 0))), some (.inl x1), some (.inl x2), some (.inl x3), some (.inl x4)], []) σ
      refine Wp.run (WpD.mono _) 2 (q := ((77, [some (.inr (.inr (12, 0))), some (.inl x1), some (.inl x2), some (.inl x3), some (.inl x4)], [.inl x4, .inl x2, .inr (.inr (12, 0))]), σ)) rfl ?_
      obtain ⟨q7, hb, h⟩ := bind_some h
      refine Wp.call (WpD.mono _) rfl (T_X12_fallOf (e + 0) N x2 x4 σ _ _ _ hb ?_)
      show Wp (WpD (e + 3)) hcX12_asks Q (80, [some (.inr (.inr (12, 0))), some (.inl x1), some (.inl x2), some (.inl x3), some (.inl x4)], [.inl q7.1]) q7.2
      obtain ⟨rfl, rfl⟩ := ret_inj h
      exact Wp.ret (WpD.mono _) rfl hQ

set_option maxRecDepth 100000 in
set_option maxHeartbeats 4000000 in
theorem T_X12_asks (e N : Nat)  (a1 : Int32) (a2 : Int32) (a3 : Int32) (a4 : Int32) (σ : Mem) (r : Int32) (τ : Mem) (Q : Pst) (h : F_X12_asks N a1 a2 a3 a4 σ = some (r, τ)) (hQ : Q (some (.inl r)) τ) : WpD (e + 4) mX12_asks [.inr (.inr (12, 0)), .inl a1, .inl a2, .inl a3, .inl a4] σ Q := by
  refine WpD.of (d := e + 3) (Nat.le_of_ble_eq_true rfl) (Nat.le_of_ble_eq_true rfl) ?_
  show Wp (WpD (e + 3)) hcX12_asks Q (0, [some (.inr (.inr (12, 0))), some (.inl a1), some (.inl a2), some (.inl a3), some (.inl a4)], []) σ
  unfold F_X12_asks at h
  refine Wp.run (WpD.mono _) 2 (q := ((3, [some (.inr (.inr (12, 0))), some (.inl a1), some (.inl a2), some (.inl a3), some (.inl a4)], [.inl (2 : Int32), .inl (0 : Int32), .inl a1]), σ)) rfl ?_
  obtain ⟨q1, hb, h⟩ := bind_some h
  refine Wp.call (WpD.mono _) rfl (T_X12_in (e + 2) N a1 (0 : Int32) (2 : Int32) σ _ _ _ hb ?_)
  show Wp (WpD (e + 3)) hcX12_asks Q (6, [some (.inr (.inr (12, 0))), some (.inl a1), some (.inl a2), some (.inl a3), some (.inl a4)], [.inl q1.1]) q1.2
  refine Wp.if0_eq (WpD.mono _) rfl rfl (fun hc => ?_) (fun hc => ?_)
  · have h := (if_pos hc).symm.trans h
    show Wp (WpD (e + 3)) hcX12_asks Q (28, [some (.inr (.inr (12, 0))), some (.inl a1), some (.inl a2), some (.inl a3), some (.inl a4)], []) q1.2
    refine Wp.run (WpD.mono _) 0 (q := ((30, [none, none, none, none, none], [.inl (Int32.ofInt (-2))]), q1.2)) rfl ?_
    obtain ⟨rfl, rfl⟩ := ret_inj h
    exact Wp.ret (WpD.mono _) rfl hQ
  · have h := (if_neg hc).symm.trans h
    show Wp (WpD (e + 3)) hcX12_asks Q (9, [some (.inr (.inr (12, 0))), some (.inl a1), some (.inl a2), some (.inl a3), some (.inl a4)], []) q1.2
    refine Wp.run (WpD.mono _) 2 (q := ((12, [some (.inr (.inr (12, 0))), some (.inl a1), some (.inl a2), some (.inl a3), some (.inl a4)], [.inl (5 : Int32), .inl (1 : Int32), .inl a2]), q1.2)) rfl ?_
    obtain ⟨q2, hb, h⟩ := bind_some h
    refine Wp.call (WpD.mono _) rfl (T_X12_in (e + 2) N a2 (1 : Int32) (5 : Int32) q1.2 _ _ _ hb ?_)
    show Wp (WpD (e + 3)) hcX12_asks Q (15, [some (.inr (.inr (12, 0))), some (.inl a1), some (.inl a2), some (.inl a3), some (.inl a4)], [.inl q2.1]) q2.2
    refine Wp.if0_eq (WpD.mono _) rfl rfl (fun hc => ?_) (fun hc => ?_)
    · have h := (if_pos hc).symm.trans h
      show Wp (WpD (e + 3)) hcX12_asks Q (28, [some (.inr (.inr (12, 0))), some (.inl a1), some (.inl a2), some (.inl a3), some (.inl a4)], []) q2.2
      refine Wp.run (WpD.mono _) 0 (q := ((30, [none, none, none, none, none], [.inl (Int32.ofInt (-2))]), q2.2)) rfl ?_
      obtain ⟨rfl, rfl⟩ := ret_inj h
      exact Wp.ret (WpD.mono _) rfl hQ
    · have h := (if_neg hc).symm.trans h
      show Wp (WpD (e + 3)) hcX12_asks Q (18, [some (.inr (.inr (12, 0))), some (.inl a1), some (.inl a2), some (.inl a3), some (.inl a4)], []) q2.2
      refine Wp.run (WpD.mono _) 2 (q := ((22, [some (.inr (.inr (12, 0))), some (.inl a1), some (.inl a2), some (.inl a3), some (.inl a4)], [.inl (1 : Int32), .inl (0 : Int32), .inl a4]), q2.2)) rfl ?_
      obtain ⟨q3, hb, h⟩ := bind_some h
      refine Wp.call (WpD.mono _) rfl (T_X12_in (e + 2) N a4 (0 : Int32) (1 : Int32) q2.2 _ _ _ hb ?_)
      show Wp (WpD (e + 3)) hcX12_asks Q (25, [some (.inr (.inr (12, 0))), some (.inl a1), some (.inl a2), some (.inl a3), some (.inl a4)], [.inl q3.1]) q3.2
      refine Wp.if0_ne (WpD.mono _) rfl rfl (fun hc => ?_) (fun hc => ?_)
      · have h := (if_pos hc).symm.trans h
        show Wp (WpD (e + 3)) hcX12_asks Q (28, [some (.inr (.inr (12, 0))), some (.inl a1), some (.inl a2), some (.inl a3), some (.inl a4)], []) q3.2
        refine Wp.run (WpD.mono _) 0 (q := ((30, [none, none, none, none, none], [.inl (Int32.ofInt (-2))]), q3.2)) rfl ?_
        obtain ⟨rfl, rfl⟩ := ret_inj h
        exact Wp.ret (WpD.mono _) rfl hQ
      · have h := (if_neg hc).symm.trans h
        show Wp (WpD (e + 3)) hcX12_asks Q (31, [some (.inr (.inr (12, 0))), some (.inl a1), some (.inl a2), some (.inl a3), some (.inl a4)], []) q3.2
        refine Wp.run (WpD.mono _) 1 (q := ((33, [some (.inr (.inr (12, 0))), some (.inl a1), some (.inl a2), some (.inl a3), some (.inl a4)], [.inl (1 : Int32), .inl a1]), q3.2)) rfl ?_
        refine Wp.if2_ne (WpD.mono _) rfl rfl (fun hc => ?_) (fun hc => ?_)
        · have h := (if_pos hc).symm.trans h
          show Wp (WpD (e + 3)) hcX12_asks Q (36, [some (.inr (.inr (12, 0))), some (.inl a1), some (.inl a2), some (.inl a3), some (.inl a4)], []) q3.2
          refine Wp.run (WpD.mono _) 1 (q := ((38, [some (.inr (.inr (12, 0))), some (.inl a1), some (.inl a2), some (.inl a3), some (.inl a4)], [.inl a3, .inr (.inr (12, 0))]), q3.2)) rfl ?_
          obtain ⟨q4, hb, h⟩ := bind_some h
          refine Wp.call (WpD.mono _) rfl (T_X12_isLayer (e + 1) N a3 q3.2 _ _ _ hb ?_)
          show Wp (WpD (e + 3)) hcX12_asks Q (41, [some (.inr (.inr (12, 0))), some (.inl a1), some (.inl a2), some (.inl a3), some (.inl a4)], [.inl q4.1]) q4.2
          refine Wp.if0_ne (WpD.mono _) rfl rfl (fun hc => ?_) (fun hc => ?_)
          · have h := (if_pos hc).symm.trans h
            show Wp (WpD (e + 3)) hcX12_asks Q (44, [some (.inr (.inr (12, 0))), some (.inl a1), some (.inl a2), some (.inl a3), some (.inl a4)], []) q4.2
            refine Wp.run (WpD.mono _) 0 (q := ((46, [some (.inr (.inr (12, 0))), some (.inl a1), some (.inl a2), some (.inl a3), some (.inl a4)], [.inl (Int32.ofInt (-5))]), q4.2)) rfl ?_
            obtain ⟨rfl, rfl⟩ := ret_inj h
            exact Wp.ret (WpD.mono _) rfl hQ
          · have h := (if_neg hc).symm.trans h
            show Wp (WpD (e + 3)) hcX12_asks Q (47, [some (.inr (.inr (12, 0))), some (.inl a1), some (.inl a2), some (.inl a3), some (.inl a4)], []) q4.2
            exact Wp.jump (WpD.mono _) rfl ((T_X12_asks_b47 e N  r τ Q hQ ) a1 a2 a3 a4 q4.2 h)
        · have h := (if_neg hc).symm.trans h
          show Wp (WpD (e + 3)) hcX12_asks Q (47, [some (.inr (.inr (12, 0))), some (.inl a1), some (.inl a2), some (.inl a3), some (.inl a4)], []) q3.2
          exact Wp.jump (WpD.mono _) rfl ((T_X12_asks_b47 e N  r τ Q hQ ) a1 a2 a3 a4 q3.2 h)

set_option maxRecDepth 100000 in
set_option maxHeartbeats 4000000 in
theorem T_X12_begins_b93 (e N : Nat)  (k38 : Int32 → Int32 → Int64 → Int32 → Mem → Option (Unit × Mem)) (r : Unit) (τ : Mem) (Q : Pst) (hQ : Q (none) τ) (hk38 : ∀ (x1 : Int32) (x2 : Int32) (x3 : Int64) (x5 : Int32) (σ : Mem), k38 x1 x2 x3 x5 σ = some (r, τ) → Wp (WpD (e + 0)) hcX12_begins Q (38, [some (.inr (.inr (12, 0))), some (.inl x1), some (.inl x2), some (.inr (.inl x3)), none, some (.inl x5)], []) σ) : ∀ (x1 : Int32) (x2 : Int32) (x3 : Int64) (x5 : Int32) (s0 : Int64) (s1 : Int32) (σ : Mem), F_X12_begins_b93 N k38 x1 x2 x3 x5 s0 s1 σ = some (r, τ) → Wp (WpD (e + 0)) hcX12_begins Q (93, [some (.inr (.inr (12, 0))), some (.inl x1), some (.inl x2), some (.inr (.inl x3)), none, some (.inl x5)], [.inr (.inl s0), .inl s1, .inr (.inr (102, 0))]) σ := by
  intro x1 x2 x3 x5 s0 s1 σ h
  unfold F_X12_begins_b93 at h
  obtain ⟨hc, h⟩ := ite_nn h
  refine Wp.X_lst (WpD.mono _) rfl rfl hc ?_
  show Wp (WpD (e + 0)) hcX12_begins Q (94, [some (.inr (.inr (12, 0))), some (.inl x1), some (.inl x2), some (.inr (.inl x3)), none, some (.inl x5)], []) (σ.1, σ.2.1, σ.2.2.1, (hwU3 σ.2.2.2.1 102 0 (s1).toNatClampNeg s0), σ.2.2.2.2)
  refine Wp.run (WpD.mono _) 1 (q := ((38, [some (.inr (.inr (12, 0))), some (.inl x1), some (.inl x2), some (.inr (.inl x3)), none, some (.inl (x5 + (1 : Int32)))], []), (σ.1, σ.2.1, σ.2.2.1, (hwU3 σ.2.2.2.1 102 0 (s1).toNatClampNeg s0), σ.2.2.2.2))) rfl ?_
  exact Wp.jump (WpD.mono _) rfl (hk38 x1 x2 x3 (x5 + (1 : Int32)) (σ.1, σ.2.1, σ.2.2.1, (hwU3 σ.2.2.2.1 102 0 (s1).toNatClampNeg s0), σ.2.2.2.2) h)

set_option maxRecDepth 100000 in
set_option maxHeartbeats 4000000 in
theorem T_X12_begins_b38 (e N : Nat)   (r : Unit) (τ : Mem) (Q : Pst) (hQ : Q (none) τ) : ∀ n, ∀ (x1 : Int32) (x2 : Int32) (x3 : Int64) (x5 : Int32) (σ : Mem), F_X12_begins_b38 N n x1 x2 x3 x5 σ = some (r, τ) → Wp (WpD (e + 0)) hcX12_begins Q (38, [some (.inr (.inr (12, 0))), some (.inl x1), some (.inl x2), some (.inr (.inl x3)), none, some (.inl x5)], []) σ := by
  intro n
  induction n with
  | zero => intro x1 x2 x3 x5 σ h; cases h
  | succ n ih =>
    intro x1 x2 x3 x5 σ h
    unfold F_X12_begins_b38 at h
    refine Wp.run (WpD.mono _) 2 (q := ((44, [some (.inr (.inr (12, 0))), some (.inl x1), some (.inl x2), some (.inr (.inl x3)), none, some (.inl x5)], [.inl (σ.1 12 5), .inl x5]), σ)) rfl ?_
    refine Wp.if2_ge (WpD.mono _) rfl rfl (fun hc => ?_) (fun hc => ?_)
    · have h := (if_pos hc).symm.trans h
      show Wp (WpD (e + 0)) hcX12_begins Q (100, [some (.inr (.inr (12, 0))), some (.inl x1), some (.inl x2), some (.inr (.inl x3)), none, some (.inl x5)], []) σ
      obtain ⟨rfl, rfl⟩ := ret_inj h
      exact Wp.ret (WpD.mono _) rfl hQ
    · have h := (if_neg hc).symm.trans h
      show Wp (WpD (e + 0)) hcX12_begins Q (47, [some (.inr (.inr (12, 0))), some (.inl x1), some (.inl x2), some (.inr (.inl x3)), none, some (.inl x5)], []) σ
      refine Wp.run (WpD.mono _) 9 (q := ((60, [some (.inr (.inr (12, 0))), some (.inl x1), some (.inl x2), some (.inr (.inl x3)), none, some (.inl x5)], [.inl (lg_cmp x3 (0 : Int64)), .inl (((5 : Int32) * x2) + x5), .inr (.inr (102, 0))]), σ)) rfl ?_
      refine Wp.if0_ne (WpD.mono _) rfl rfl (fun hc => ?_) (fun hc => ?_)
      · have h := (if_pos hc).symm.trans h
        show Wp (WpD (e + 0)) hcX12_begins Q (63, [some (.inr (.inr (12, 0))), some (.inl x1), some (.inl x2), some (.inr (.inl x3)), none, some (.inl x5)], [.inl (((5 : Int32) * x2) + x5), .inr (.inr (102, 0))]) σ
        refine Wp.run (WpD.mono _) 3 (q := ((71, [some (.inr (.inr (12, 0))), some (.inl x1), some (.inl x2), some (.inr (.inl x3)), none, some (.inl x5)], [.inr (.inl (σ.1 12 5).toInt64), .inr (.inl (1000000 : Int64)), .inl (((5 : Int32) * x2) + x5), .inr (.inr (102, 0))]), σ)) rfl ?_
        obtain ⟨hc, h⟩ := ite_nn h
        refine Wp.X_ldiv (WpD.mono _) rfl hc ?_
        show Wp (WpD (e + 0)) hcX12_begins Q (72, [some (.inr (.inr (12, 0))), some (.inl x1), some (.inl x2), some (.inr (.inl x3)), none, some (.inl x5)], [.inr (.inl ((1000000 : Int64) / (σ.1 12 5).toInt64)), .inl (((5 : Int32) * x2) + x5), .inr (.inr (102, 0))]) σ
        refine Wp.run (WpD.mono _) 0 (q := ((93, [some (.inr (.inr (12, 0))), some (.inl x1), some (.inl x2), some (.inr (.inl x3)), none, some (.inl x5)], [.inr (.inl ((1000000 : Int64) / (σ.1 12 5).toInt64)), .inl (((5 : Int32) * x2) + x5), .inr (.inr (102, 0))]), σ)) rfl ?_
        exact Wp.jump (WpD.mono _) rfl ((T_X12_begins_b93 e N (F_X12_begins_b38 N n) r τ Q hQ ih) x1 x2 x3 x5 ((1000000 : Int64) / (σ.1 12 5).toInt64) (((5 : Int32) * x2) + x5) σ h)
      · have h := (if_neg hc).symm.trans h
        show Wp (WpD (e + 0)) hcX12_begins Q (75, [some (.inr (.inr (12, 0))), some (.inl x1), some (.inl x2), some (.inr (.inl x3)), none, some (.inl x5)], [.inl (((5 : Int32) * x2) + x5), .inr (.inr (102, 0))]) σ
        refine Wp.run (WpD.mono _) 6 (q := ((85, [some (.inr (.inr (12, 0))), some (.inl x1), some (.inl x2), some (.inr (.inl x3)), none, some (.inl x5)], [.inl (((5 : Int32) * x1) + x5), .inr (.inr (76, 0)), .inl (((5 : Int32) * x2) + x5), .inr (.inr (102, 0))]), σ)) rfl ?_
        obtain ⟨hc, h⟩ := ite_nn h
        refine Wp.X_ild1 (WpD.mono _) rfl rfl hc ?_
        show Wp (WpD (e + 0)) hcX12_begins Q (86, [some (.inr (.inr (12, 0))), some (.inl x1), some (.inl x2), some (.inr (.inl x3)), none, some (.inl x5)], [.inl (σ.2.2.1 76 0 ((((5 : Int32) * x1) + x5)).toNatClampNeg), .inl (((5 : Int32) * x2) + x5), .inr (.inr (102, 0))]) σ
        refine Wp.run (WpD.mono _) 3 (q := ((92, [some (.inr (.inr (12, 0))), some (.inl x1), some (.inl x2), some (.inr (.inl x3)), none, some (.inl x5)], [.inr (.inl x3), .inr (.inl ((σ.2.2.1 76 0 ((((5 : Int32) * x1) + x5)).toNatClampNeg).toInt64 * (1000000 : Int64))), .inl (((5 : Int32) * x2) + x5), .inr (.inr (102, 0))]), σ)) rfl ?_
        obtain ⟨hc, h⟩ := ite_nn h
        refine Wp.X_ldiv (WpD.mono _) rfl hc ?_
        show Wp (WpD (e + 0)) hcX12_begins Q (93, [some (.inr (.inr (12, 0))), some (.inl x1), some (.inl x2), some (.inr (.inl x3)), none, some (.inl x5)], [.inr (.inl (((σ.2.2.1 76 0 ((((5 : Int32) * x1) + x5)).toNatClampNeg).toInt64 * (1000000 : Int64)) / x3)), .inl (((5 : Int32) * x2) + x5), .inr (.inr (102, 0))]) σ
        exact Wp.jump (WpD.mono _) rfl ((T_X12_begins_b93 e N (F_X12_begins_b38 N n) r τ Q hQ ih) x1 x2 x3 x5 (((σ.2.2.1 76 0 ((((5 : Int32) * x1) + x5)).toNatClampNeg).toInt64 * (1000000 : Int64)) / x3) (((5 : Int32) * x2) + x5) σ h)


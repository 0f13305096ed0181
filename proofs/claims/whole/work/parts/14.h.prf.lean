set_option maxRecDepth 100000 in
set_option maxHeartbeats 4000000 in
theorem T_X12_eRead_b38 (e N : Nat)  (k14 : Int32 → Int32 → Mem → Option (Int32 × Mem)) (r : Int32) (τ : Mem) (Q : Pst) (hQ : Q (some (.inl r)) τ) (hk14 : ∀ (x1 : Int32) (x2 : Int32) (σ : Mem), k14 x1 x2 σ = some (r, τ) → Wp (WpD (e + 3)) hcX12_eRead Q (14, [some (.inr (.inr (12, 0))), some (.inl x1), some (.inl x2), none], []) σ) : ∀ (x2 : Int32) (σ : Mem), F_X12_eRead_b38 N k14 x2 σ = some (r, τ) → Wp (WpD (e + 3)) hcX12_eRead Q (38, [some (.inr (.inr (12, 0))), none, some (.inl x2), none], []) σ := by
  intro x2 σ h
  unfold F_X12_eRead_b38 at h
  refine Wp.run (WpD.mono _) 3 (q := ((44, [some (.inr (.inr (12, 0))), none, some (.inl x2), none], [.inl (1 : Int32), .inl (σ.1 12 44), .inr (.inr (12, 0))]), σ)) rfl ?_
  refine Wp.if2_ne (WpD.mono _) rfl rfl (fun hc => ?_) (fun hc => ?_)
  · have h := (if_pos hc).symm.trans h
    show Wp (WpD (e + 3)) hcX12_eRead Q (47, [some (.inr (.inr (12, 0))), none, some (.inl x2), none], [.inr (.inr (12, 0))]) σ
    refine Wp.run (WpD.mono _) 4 (q := ((61, [some (.inr (.inr (12, 0))), none, some (.inl x2), none], [.inl ((100000 : Int32) + (σ.1 12 45)), .inr (.inr (12, 0))]), σ)) rfl ?_
    exact Wp.jump (WpD.mono _) rfl ((T_X12_eRead_b61 e N k14 r τ Q hQ hk14) x2 ((100000 : Int32) + (σ.1 12 45)) σ h)
  · have h := (if_neg hc).symm.trans h
    show Wp (WpD (e + 3)) hcX12_eRead Q (57, [some (.inr (.inr (12, 0))), none, some (.inl x2), none], [.inr (.inr (12, 0))]) σ
    refine Wp.run (WpD.mono _) 1 (q := ((61, [some (.inr (.inr (12, 0))), none, some (.inl x2), none], [.inl (σ.1 12 45), .inr (.inr (12, 0))]), σ)) rfl ?_
    exact Wp.jump (WpD.mono _) rfl ((T_X12_eRead_b61 e N k14 r τ Q hQ hk14) x2 (σ.1 12 45) σ h)

set_option maxRecDepth 100000 in
set_option maxHeartbeats 4000000 in
theorem T_X12_eRead_b14 (e N : Nat)   (r : Int32) (τ : Mem) (Q : Pst) (hQ : Q (some (.inl r)) τ) : ∀ n, ∀ (x1 : Int32) (x2 : Int32) (σ : Mem), F_X12_eRead_b14 N n x1 x2 σ = some (r, τ) → Wp (WpD (e + 3)) hcX12_eRead Q (14, [some (.inr (.inr (12, 0))), some (.inl x1), some (.inl x2), none], []) σ := by
  intro n
  induction n with
  | zero => intro x1 x2 σ h; cases h
  | succ n ih =>
    intro x1 x2 σ h
    unfold F_X12_eRead_b14 at h
    refine Wp.run (WpD.mono _) 0 (q := ((15, [some (.inr (.inr (12, 0))), some (.inl x1), some (.inl x2), none], [.inr (.inr (12, 0))]), σ)) rfl ?_
    obtain ⟨q1, hb, h⟩ := bind_some h
    refine Wp.call (WpD.mono _) rfl (T_X12_nextToken (e + 0) N σ _ _ _ hb ?_)
    show Wp (WpD (e + 3)) hcX12_eRead Q (18, [some (.inr (.inr (12, 0))), some (.inl x1), some (.inl x2), none], []) q1.2
    refine Wp.run (WpD.mono _) 0 (q := ((19, [some (.inr (.inr (12, 0))), some (.inl x1), some (.inl x2), none], [.inl x1]), q1.2)) rfl ?_
    refine Wp.if0_eq (WpD.mono _) rfl rfl (fun hc => ?_) (fun hc => ?_)
    · have h := (if_pos hc).symm.trans h
      show Wp (WpD (e + 3)) hcX12_eRead Q (150, [some (.inr (.inr (12, 0))), some (.inl x1), some (.inl x2), none], []) q1.2
      refine Wp.run (WpD.mono _) 2 (q := ((156, [some (.inr (.inr (12, 0))), some (.inl x1), some (.inl x2), none], [.inl (59 : Int32), .inl (q1.2.1 12 44)]), q1.2)) rfl ?_
      refine Wp.if2_ne (WpD.mono _) rfl rfl (fun hc => ?_) (fun hc => ?_)
      · have h := (if_pos hc).symm.trans h
        show Wp (WpD (e + 3)) hcX12_eRead Q (159, [some (.inr (.inr (12, 0))), some (.inl x1), some (.inl x2), none], []) q1.2
        refine Wp.run (WpD.mono _) 1 (q := ((161, [some (.inr (.inr (12, 0))), some (.inl x1), some (.inl x2), none], [.inl (1 : Int32), .inr (.inr (12, 0))]), q1.2)) rfl ?_
        obtain ⟨q2, hb, h⟩ := bind_some h
        refine Wp.call (WpD.mono _) rfl (T_X12_unwinds (e + 1) N (1 : Int32) q1.2 _ _ _ hb ?_)
        show Wp (WpD (e + 3)) hcX12_eRead Q (164, [some (.inr (.inr (12, 0))), some (.inl x1), some (.inl x2), none], []) q2.2
        refine Wp.run (WpD.mono _) 1 (q := ((168, [some (.inr (.inr (12, 0))), some (.inl x1), some (.inl x2), none], [.inl (q2.2.1 12 48)]), q2.2)) rfl ?_
        refine Wp.if0_ne (WpD.mono _) rfl rfl (fun hc => ?_) (fun hc => ?_)
        · have h := (if_pos hc).symm.trans h
          show Wp (WpD (e + 3)) hcX12_eRead Q (171, [some (.inr (.inr (12, 0))), some (.inl x1), some (.inl x2), none], []) q2.2
          refine Wp.run (WpD.mono _) 1 (q := ((176, [some (.inr (.inr (12, 0))), some (.inl x1), some (.inl x2), none], [.inl (1 : Int32)]), q2.2)) rfl ?_
          obtain ⟨rfl, rfl⟩ := ret_inj h
          exact Wp.ret (WpD.mono _) rfl hQ
        · have h := (if_neg hc).symm.trans h
          show Wp (WpD (e + 3)) hcX12_eRead Q (175, [some (.inr (.inr (12, 0))), some (.inl x1), some (.inl x2), none], []) q2.2
          refine Wp.run (WpD.mono _) 0 (q := ((176, [some (.inr (.inr (12, 0))), some (.inl x1), some (.inl x2), none], [.inl (0 : Int32)]), q2.2)) rfl ?_
          obtain ⟨rfl, rfl⟩ := ret_inj h
          exact Wp.ret (WpD.mono _) rfl hQ
      · have h := (if_neg hc).symm.trans h
        show Wp (WpD (e + 3)) hcX12_eRead Q (177, [some (.inr (.inr (12, 0))), some (.inl x1), some (.inl x2), none], []) q1.2
        refine Wp.run (WpD.mono _) 2 (q := ((183, [some (.inr (.inr (12, 0))), some (.inl x1), some (.inl x2), none], [.inl (41 : Int32), .inl (q1.2.1 12 44)]), q1.2)) rfl ?_
        refine Wp.if2_ne (WpD.mono _) rfl rfl (fun hc => ?_) (fun hc => ?_)
        · have h := (if_pos hc).symm.trans h
          show Wp (WpD (e + 3)) hcX12_eRead Q (186, [some (.inr (.inr (12, 0))), some (.inl x1), some (.inl x2), none], []) q1.2
          refine Wp.run (WpD.mono _) 1 (q := ((188, [some (.inr (.inr (12, 0))), some (.inl x1), some (.inl x2), none], [.inl (1 : Int32), .inr (.inr (12, 0))]), q1.2)) rfl ?_
          obtain ⟨q3, hb, h⟩ := bind_some h
          refine Wp.call (WpD.mono _) rfl (T_X12_unwinds (e + 1) N (1 : Int32) q1.2 _ _ _ hb ?_)
          show Wp (WpD (e + 3)) hcX12_eRead Q (191, [some (.inr (.inr (12, 0))), some (.inl x1), some (.inl x2), none], []) q3.2
          refine Wp.run (WpD.mono _) 1 (q := ((195, [some (.inr (.inr (12, 0))), some (.inl x1), some (.inl x2), none], [.inl (q3.2.1 12 48)]), q3.2)) rfl ?_
          refine Wp.if0_ne (WpD.mono _) rfl rfl (fun hc => ?_) (fun hc => ?_)
          · have h := (if_pos hc).symm.trans h
            show Wp (WpD (e + 3)) hcX12_eRead Q (198, [some (.inr (.inr (12, 0))), some (.inl x1), some (.inl x2), none], []) q3.2
            refine Wp.run (WpD.mono _) 0 (q := ((199, [some (.inr (.inr (12, 0))), some (.inl x1), some (.inl x2), none], [.inl (0 : Int32)]), q3.2)) rfl ?_
            obtain ⟨rfl, rfl⟩ := ret_inj h
            exact Wp.ret (WpD.mono _) rfl hQ
          · have h := (if_neg hc).symm.trans h
            show Wp (WpD (e + 3)) hcX12_eRead Q (200, [some (.inr (.inr (12, 0))), some (.inl x1), some (.inl x2), none], []) q3.2
            refine Wp.run (WpD.mono _) 13 (q := ((223, [some (.inr (.inr (12, 0))), some (.inl x1), some (.inl x2), none], [.inl (7 : Int32), .inr (.inr (12, 0))]), ((hwU2 (hwU2 q3.2.1 12 48 ((q3.2.1 12 48) - (1 : Int32))) 12 49 ((q3.2.1 12 49) - (1 : Int32))), q3.2.2.1, q3.2.2.2.1, q3.2.2.2.2.1, q3.2.2.2.2.2))) rfl ?_
            obtain ⟨q4, hb, h⟩ := bind_some h
            refine Wp.call (WpD.mono _) rfl (T_X12_unwinds (e + 1) N (7 : Int32) ((hwU2 (hwU2 q3.2.1 12 48 ((q3.2.1 12 48) - (1 : Int32))) 12 49 ((q3.2.1 12 49) - (1 : Int32))), q3.2.2.1, q3.2.2.2.1, q3.2.2.2.2.1, q3.2.2.2.2.2) _ _ _ hb ?_)
            show Wp (WpD (e + 3)) hcX12_eRead Q (226, [some (.inr (.inr (12, 0))), some (.inl x1), some (.inl x2), none], []) q4.2
            refine Wp.run (WpD.mono _) 0 (q := ((14, [some (.inr (.inr (12, 0))), some (.inl x1), some (.inl x2), none], []), q4.2)) rfl ?_
            exact Wp.jump (WpD.mono _) rfl (ih x1 x2 q4.2 h)
        · have h := (if_neg hc).symm.trans h
          show Wp (WpD (e + 3)) hcX12_eRead Q (229, [some (.inr (.inr (12, 0))), some (.inl x1), some (.inl x2), none], []) q1.2
          refine Wp.run (WpD.mono _) 0 (q := ((230, [some (.inr (.inr (12, 0))), some (.inl x1), some (.inl x2), none], [.inr (.inr (12, 0))]), q1.2)) rfl ?_
          obtain ⟨q5, hb, h⟩ := bind_some h
          refine Wp.call (WpD.mono _) rfl (T_X12_signOf (e + 2) N q1.2 _ _ _ hb ?_)
          show Wp (WpD (e + 3)) hcX12_eRead Q (233, [some (.inr (.inr (12, 0))), some (.inl x1), some (.inl x2), none], [.inl q5.1]) q5.2
          refine Wp.run (WpD.mono _) 2 (q := ((236, [some (.inr (.inr (12, 0))), some (.inl x1), some (.inl x2), some (.inl q5.1)], [.inl (Int32.ofInt (-1)), .inl q5.1]), q5.2)) rfl ?_
          refine Wp.if2_eq (WpD.mono _) rfl rfl (fun hc => ?_) (fun hc => ?_)
          · have h := (if_pos hc).symm.trans h
            show Wp (WpD (e + 3)) hcX12_eRead Q (247, [some (.inr (.inr (12, 0))), some (.inl x1), some (.inl x2), some (.inl q5.1)], []) q5.2
            refine Wp.run (WpD.mono _) 0 (q := ((248, [none, none, none, none], [.inl (0 : Int32)]), q5.2)) rfl ?_
            obtain ⟨rfl, rfl⟩ := ret_inj h
            exact Wp.ret (WpD.mono _) rfl hQ
          · have h := (if_neg hc).symm.trans h
            show Wp (WpD (e + 3)) hcX12_eRead Q (239, [some (.inr (.inr (12, 0))), some (.inl x1), some (.inl x2), some (.inl q5.1)], []) q5.2
            refine Wp.run (WpD.mono _) 1 (q := ((241, [some (.inr (.inr (12, 0))), some (.inl x1), some (.inl x2), some (.inl q5.1)], [.inl q5.1, .inr (.inr (12, 0))]), q5.2)) rfl ?_
            obtain ⟨q6, hb, h⟩ := bind_some h
            refine Wp.call (WpD.mono _) rfl (T_X12_between (e + 0) N q5.1 q5.2 _ _ _ hb ?_)
            show Wp (WpD (e + 3)) hcX12_eRead Q (244, [some (.inr (.inr (12, 0))), some (.inl x1), some (.inl x2), some (.inl q5.1)], [.inl q6.1]) q6.2
            refine Wp.if0_ne (WpD.mono _) rfl rfl (fun hc => ?_) (fun hc => ?_)
            · have h := (if_pos hc).symm.trans h
              show Wp (WpD (e + 3)) hcX12_eRead Q (247, [some (.inr (.inr (12, 0))), some (.inl x1), some (.inl x2), some (.inl q5.1)], []) q6.2
              refine Wp.run (WpD.mono _) 0 (q := ((248, [none, none, none, none], [.inl (0 : Int32)]), q6.2)) rfl ?_
              obtain ⟨rfl, rfl⟩ := ret_inj h
              exact Wp.ret (WpD.mono _) rfl hQ
            · have h := (if_neg hc).symm.trans h
              show Wp (WpD (e + 3)) hcX12_eRead Q (249, [some (.inr (.inr (12, 0))), some (.inl x1), some (.inl x2), some (.inl q5.1)], []) q6.2
              refine Wp.run (WpD.mono _) 3 (q := ((254, [some (.inr (.inr (12, 0))), some (.inl (1 : Int32)), some (.inl x2), some (.inl q5.1)], [.inl (12 : Int32), .inl q5.1]), q6.2)) rfl ?_
              refine Wp.if2_gt (WpD.mono _) rfl rfl (fun hc => ?_) (fun hc => ?_)
              · have h := (if_pos hc).symm.trans h
                show Wp (WpD (e + 3)) hcX12_eRead Q (261, [some (.inr (.inr (12, 0))), some (.inl (1 : Int32)), some (.inl x2), some (.inl q5.1)], []) q6.2
                refine Wp.run (WpD.mono _) 2 (q := ((14, [some (.inr (.inr (12, 0))), some (.inl (1 : Int32)), some (.inl (0 : Int32)), none], []), q6.2)) rfl ?_
                exact Wp.jump (WpD.mono _) rfl (ih (1 : Int32) (0 : Int32) q6.2 h)
              · have h := (if_neg hc).symm.trans h
                show Wp (WpD (e + 3)) hcX12_eRead Q (257, [some (.inr (.inr (12, 0))), some (.inl (1 : Int32)), some (.inl x2), some (.inl q5.1)], []) q6.2
                refine Wp.run (WpD.mono _) 3 (q := ((14, [some (.inr (.inr (12, 0))), some (.inl (1 : Int32)), some (.inl (1 : Int32)), none], []), q6.2)) rfl ?_
                exact Wp.jump (WpD.mono _) rfl (ih (1 : Int32) (1 : Int32) q6.2 h)
    · have h := (if_neg hc).symm.trans h
      show Wp (WpD (e + 3)) hcX12_eRead Q (22, [some (.inr (.inr (12, 0))), some (.inl x1), some (.inl x2), none], []) q1.2
      refine Wp.run (WpD.mono _) 2 (q := ((27, [some (.inr (.inr (12, 0))), some (.inl x1), some (.inl x2), none], [.inl (1 : Int32), .inl (q1.2.1 12 44)]), q1.2)) rfl ?_
      refine Wp.if2_eq (WpD.mono _) rfl rfl (fun hc => ?_) (fun hc => ?_)
      · have h := (if_pos hc).symm.trans h
        show Wp (WpD (e + 3)) hcX12_eRead Q (38, [some (.inr (.inr (12, 0))), some (.inl x1), some (.inl x2), none], []) q1.2
        exact Wp.jump (WpD.mono _) rfl ((T_X12_eRead_b38 e N (F_X12_eRead_b14 N n) r τ Q hQ ih) x2 q1.2 h)
      · have h := (if_neg hc).symm.trans h
        show Wp (WpD (e + 3)) hcX12_eRead Q (30, [some (.inr (.inr (12, 0))), some (.inl x1), some (.inl x2), none], []) q1.2
        refine Wp.run (WpD.mono _) 2 (q := ((35, [some (.inr (.inr (12, 0))), some (.inl x1), some (.inl x2), none], [.inl (2 : Int32), .inl (q1.2.1 12 44)]), q1.2)) rfl ?_
        refine Wp.if2_ne (WpD.mono _) rfl rfl (fun hc => ?_) (fun hc => ?_)
        · have h := (if_pos hc).symm.trans h
          show Wp (WpD (e + 3)) hcX12_eRead Q (38, [some (.inr (.inr (12, 0))), some (.inl x1), some (.inl x2), none], []) q1.2
          exact Wp.jump (WpD.mono _) rfl ((T_X12_eRead_b38 e N (F_X12_eRead_b14 N n) r τ Q hQ ih) x2 q1.2 h)
        · have h := (if_neg hc).symm.trans h
          show Wp (WpD (e + 3)) hcX12_eRead Q (75, [some (.inr (.inr (12, 0))), some (.inl x1), some (.inl x2), none], []) q1.2
          refine Wp.run (WpD.mono _) 2 (q := ((81, [some (.inr (.inr (12, 0))), some (.inl x1), some (.inl x2), none], [.inl (6 : Int32), .inl (q1.2.1 12 44)]), q1.2)) rfl ?_
          refine Wp.if2_ne (WpD.mono _) rfl rfl (fun hc => ?_) (fun hc => ?_)
          · have h := (if_pos hc).symm.trans h
            show Wp (WpD (e + 3)) hcX12_eRead Q (84, [some (.inr (.inr (12, 0))), some (.inl x1), some (.inl x2), none], []) q1.2
            refine Wp.run (WpD.mono _) 0 (q := ((85, [some (.inr (.inr (12, 0))), some (.inl x1), some (.inl x2), none], [.inl x2]), q1.2)) rfl ?_
            refine Wp.if0_eq (WpD.mono _) rfl rfl (fun hc => ?_) (fun hc => ?_)
            · have h := (if_pos hc).symm.trans h
              show Wp (WpD (e + 3)) hcX12_eRead Q (99, [some (.inr (.inr (12, 0))), some (.inl x1), some (.inl x2), none], []) q1.2
              exact Wp.jump (WpD.mono _) rfl ((T_X12_eRead_b99 e N (F_X12_eRead_b14 N n) r τ Q hQ ih) x1 q1.2 h)
            · have h := (if_neg hc).symm.trans h
              show Wp (WpD (e + 3)) hcX12_eRead Q (88, [some (.inr (.inr (12, 0))), some (.inl x1), some (.inl x2), none], []) q1.2
              refine Wp.run (WpD.mono _) 1 (q := ((91, [some (.inr (.inr (12, 0))), some (.inl x1), some (.inl x2), none], [.inl (13 : Int32), .inr (.inr (12, 0))]), q1.2)) rfl ?_
              obtain ⟨q7, hb, h⟩ := bind_some h
              refine Wp.call (WpD.mono _) rfl (T_X12_opensOne (e + 1) N (13 : Int32) q1.2 _ _ _ hb ?_)
              show Wp (WpD (e + 3)) hcX12_eRead Q (94, [some (.inr (.inr (12, 0))), some (.inl x1), some (.inl x2), none], [.inl q7.1]) q7.2
              refine Wp.if0_ne (WpD.mono _) rfl rfl (fun hc => ?_) (fun hc => ?_)
              · have h := (if_pos hc).symm.trans h
                show Wp (WpD (e + 3)) hcX12_eRead Q (97, [some (.inr (.inr (12, 0))), some (.inl x1), some (.inl x2), none], []) q7.2
                refine Wp.run (WpD.mono _) 0 (q := ((98, [some (.inr (.inr (12, 0))), some (.inl x1), some (.inl x2), none], [.inl (0 : Int32)]), q7.2)) rfl ?_
                obtain ⟨rfl, rfl⟩ := ret_inj h
                exact Wp.ret (WpD.mono _) rfl hQ
              · have h := (if_neg hc).symm.trans h
                show Wp (WpD (e + 3)) hcX12_eRead Q (14, [some (.inr (.inr (12, 0))), some (.inl x1), some (.inl x2), none], []) q7.2
                exact Wp.jump (WpD.mono _) rfl (ih x1 x2 q7.2 h)
          · have h := (if_neg hc).symm.trans h
            show Wp (WpD (e + 3)) hcX12_eRead Q (99, [some (.inr (.inr (12, 0))), some (.inl x1), some (.inl x2), none], []) q1.2
            exact Wp.jump (WpD.mono _) rfl ((T_X12_eRead_b99 e N (F_X12_eRead_b14 N n) r τ Q hQ ih) x1 q1.2 h)

set_option maxRecDepth 100000 in
set_option maxHeartbeats 4000000 in
theorem T_X12_eRead (e N : Nat)   (σ : Mem) (r : Int32) (τ : Mem) (Q : Pst) (h : F_X12_eRead N  σ = some (r, τ)) (hQ : Q (some (.inl r)) τ) : WpD (e + 4) mX12_eRead [.inr (.inr (12, 0))] σ Q := by
  refine WpD.of (d := e + 3) (Nat.le_of_ble_eq_true rfl) (Nat.le_of_ble_eq_true rfl) ?_
  show Wp (WpD (e + 3)) hcX12_eRead Q (0, [some (.inr (.inr (12, 0))), none, none, none], []) σ
  unfold F_X12_eRead at h
  refine Wp.run (WpD.mono _) 9 (q := ((14, [some (.inr (.inr (12, 0))), some (.inl (1 : Int32)), some (.inl (1 : Int32)), none], []), ((hwU2 (hwU2 σ.1 12 48 (0 : Int32)) 12 49 (0 : Int32)), σ.2.1, σ.2.2.1, σ.2.2.2.1, σ.2.2.2.2))) rfl ?_
  exact Wp.jump (WpD.mono _) rfl ((T_X12_eRead_b14 e N  r τ Q hQ  N) (1 : Int32) (1 : Int32) ((hwU2 (hwU2 σ.1 12 48 (0 : Int32)) 12 49 (0 : Int32)), σ.2.1, σ.2.2.1, σ.2.2.2.1, σ.2.2.2.2) h)

set_option maxRecDepth 100000 in
set_option maxHeartbeats 4000000 in
theorem T_X12_fallen_b30 (e N : Nat)  (k7 : Int32 → Int32 → Int64 → Int32 → Mem → Option (Int64 × Mem)) (r : Int64) (τ : Mem) (Q : Pst) (hQ : Q (some (.inr (.inl r))) τ) (hk7 : ∀ (x1 : Int32) (x2 : Int32) (x3 : Int64) (x5 : Int32) (σ : Mem), k7 x1 x2 x3 x5 σ = some (r, τ) → Wp (WpD (e + 3)) hcX12_fallen Q (7, [some (.inr (.inr (12, 0))), some (.inl x1), some (.inl x2), some (.inr (.inl x3)), none, some (.inl x5)], []) σ) : ∀ (x1 : Int32) (x2 : Int32) (x5 : Int32) (s0 : Int32) (s1 : Int32) (s3 : Int32) (s4 : Int64) (σ : Mem), F_X12_fallen_b30 N k7 x1 x2 x5 s0 s1 s3 s4 σ = some (r, τ) → Wp (WpD (e + 3)) hcX12_fallen Q (30, [some (.inr (.inr (12, 0))), some (.inl x1), some (.inl x2), none, none, some (.inl x5)], [.inl s0, .inl s1, .inr (.inr (12, 0)), .inl s3, .inr (.inl s4)]) σ := by
  intro x1 x2 x5 s0 s1 s3 s4 σ h
  unfold F_X12_fallen_b30 at h
  obtain ⟨q1, hb, h⟩ := bind_some h
  refine Wp.call (WpD.mono _) rfl (T_X12_fallOf (e + 0) N s1 s0 σ _ _ _ hb ?_)
  show Wp (WpD (e + 3)) hcX12_fallen Q (33, [some (.inr (.inr (12, 0))), some (.inl x1), some (.inl x2), none, none, some (.inl x5)], [.inl q1.1, .inl s3, .inr (.inl s4)]) q1.2
  refine Wp.run (WpD.mono _) 7 (q := ((7, [some (.inr (.inr (12, 0))), some (.inl x1), some (.inl x2), some (.inr (.inl ((s4 * (s3 - q1.1).toInt64) / (100 : Int64)))), none, some (.inl (x5 + (1 : Int32)))], []), q1.2)) rfl ?_
  exact Wp.jump (WpD.mono _) rfl (hk7 x1 x2 ((s4 * (s3 - q1.1).toInt64) / (100 : Int64)) (x5 + (1 : Int32)) q1.2 h)

set_option maxRecDepth 100000 in
set_option maxHeartbeats 4000000 in
theorem T_X12_fallen_b7 (e N : Nat)   (r : Int64) (τ : Mem) (Q : Pst) (hQ : Q (some (.inr (.inl r))) τ) : ∀ n, ∀ (x1 : Int32) (x2 : Int32) (x3 : Int64) (x5 : Int32) (σ : Mem), F_X12_fallen_b7 N n x1 x2 x3 x5 σ = some (r, τ) → Wp (WpD (e + 3)) hcX12_fallen Q (7, [some (.inr (.inr (12, 0))), some (.inl x1), some (.inl x2), some (.inr (.inl x3)), none, some (.inl x5)], []) σ := by
  intro n
  induction n with
  | zero => intro x1 x2 x3 x5 σ h; cases h
  | succ n ih =>
    intro x1 x2 x3 x5 σ h
    unfold F_X12_fallen_b7 at h
    refine Wp.run (WpD.mono _) 1 (q := ((10, [some (.inr (.inr (12, 0))), some (.inl x1), some (.inl x2), some (.inr (.inl x3)), none, some (.inl x5)], [.inl x1, .inl x5]), σ)) rfl ?_
    refine Wp.if2_gt (WpD.mono _) rfl rfl (fun hc => ?_) (fun hc => ?_)
    · have h := (if_pos hc).symm.trans h
      show Wp (WpD (e + 3)) hcX12_fallen Q (47, [some (.inr (.inr (12, 0))), some (.inl x1), some (.inl x2), some (.inr (.inl x3)), none, some (.inl x5)], []) σ
      refine Wp.run (WpD.mono _) 2 (q := ((52, [some (.inr (.inr (12, 0))), some (.inl x1), some (.inl x2), some (.inr (.inl x3)), none, some (.inl x5)], [.inr (.inl ((1000000 : Int64) - x3))]), σ)) rfl ?_
      obtain ⟨rfl, rfl⟩ := ret_inj h
      exact Wp.ret (WpD.mono _) rfl hQ
    · have h := (if_neg hc).symm.trans h
      show Wp (WpD (e + 3)) hcX12_fallen Q (13, [some (.inr (.inr (12, 0))), some (.inl x1), some (.inl x2), some (.inr (.inl x3)), none, some (.inl x5)], []) σ
      refine Wp.run (WpD.mono _) 5 (q := ((22, [some (.inr (.inr (12, 0))), some (.inl x1), some (.inl x2), some (.inr (.inl x3)), none, some (.inl x5)], [.inl x2, .inl x5, .inl x5, .inr (.inr (12, 0)), .inl (100 : Int32), .inr (.inl x3)]), σ)) rfl ?_
      refine Wp.if2_le (WpD.mono _) rfl rfl (fun hc => ?_) (fun hc => ?_)
      · have h := (if_pos hc).symm.trans h
        show Wp (WpD (e + 3)) hcX12_fallen Q (29, [some (.inr (.inr (12, 0))), some (.inl x1), some (.inl x2), some (.inr (.inl x3)), none, some (.inl x5)], [.inl x5, .inr (.inr (12, 0)), .inl (100 : Int32), .inr (.inl x3)]) σ
        refine Wp.run (WpD.mono _) 0 (q := ((30, [some (.inr (.inr (12, 0))), some (.inl x1), some (.inl x2), some (.inr (.inl x3)), none, some (.inl x5)], [.inl (0 : Int32), .inl x5, .inr (.inr (12, 0)), .inl (100 : Int32), .inr (.inl x3)]), σ)) rfl ?_
        exact Wp.jump (WpD.mono _) rfl ((T_X12_fallen_b30 e N (F_X12_fallen_b7 N n) r τ Q hQ ih) x1 x2 x5 (0 : Int32) x5 (100 : Int32) x3 σ h)
      · have h := (if_neg hc).symm.trans h
        show Wp (WpD (e + 3)) hcX12_fallen Q (25, [some (.inr (.inr (12, 0))), some (.inl x1), some (.inl x2), some (.inr (.inl x3)), none, some (.inl x5)], [.inl x5, .inr (.inr (12, 0)), .inl (100 : Int32), .inr (.inl x3)]) σ
        refine Wp.run (WpD.mono _) 1 (q := ((30, [some (.inr (.inr (12, 0))), some (.inl x1), some (.inl x2), some (.inr (.inl x3)), none, some (.inl x5)], [.inl (1 : Int32), .inl x5, .inr (.inr (12, 0)), .inl (100 : Int32), .inr (.inl x3)]), σ)) rfl ?_
        exact Wp.jump (WpD.mono _) rfl ((T_X12_fallen_b30 e N (F_X12_fallen_b7 N n) r τ Q hQ ih) x1 x2 x5 (1 : Int32) x5 (100 : Int32) x3 σ h)

set_option maxRecDepth 100000 in
set_option maxHeartbeats 4000000 in
theorem T_X12_fallen (e N : Nat)  (a1 : Int32) (a2 : Int32) (σ : Mem) (r : Int64) (τ : Mem) (Q : Pst) (h : F_X12_fallen N a1 a2 σ = some (r, τ)) (hQ : Q (some (.inr (.inl r))) τ) : WpD (e + 4) mX12_fallen [.inr (.inr (12, 0)), .inl a1, .inl a2] σ Q := by
  refine WpD.of (d := e + 3) (Nat.le_of_ble_eq_true rfl) (Nat.le_of_ble_eq_true rfl) ?_
  show Wp (WpD (e + 3)) hcX12_fallen Q (0, [some (.inr (.inr (12, 0))), some (.inl a1), some (.inl a2), none, none, none], []) σ
  unfold F_X12_fallen at h
  refine Wp.run (WpD.mono _) 3 (q := ((7, [some (.inr (.inr (12, 0))), some (.inl a1), some (.inl a2), some (.inr (.inl (1000000 : Int64))), none, some (.inl (1 : Int32))], []), σ)) rfl ?_
  exact Wp.jump (WpD.mono _) rfl ((T_X12_fallen_b7 e N  r τ Q hQ  N) a1 a2 (1000000 : Int64) (1 : Int32) σ h)

set_option maxRecDepth 100000 in
set_option maxHeartbeats 4000000 in
theorem T_X12_fall (e N : Nat)  (a1 : Int32) (a2 : Int32) (σ : Mem) (r : Int64) (τ : Mem) (Q : Pst) (h : F_X12_fall N a1 a2 σ = some (r, τ)) (hQ : Q (some (.inr (.inl r))) τ) : WpD (e + 5) mX12_fall [.inr (.inr (12, 0)), .inl a1, .inl a2] σ Q := by
  refine WpD.of (d := e + 4) (Nat.le_of_ble_eq_true rfl) (Nat.le_of_ble_eq_true rfl) ?_
  show Wp (WpD (e + 4)) hcX12_fall Q (0, [some (.inr (.inr (12, 0))), some (.inl a1), some (.inl a2)], []) σ
  unfold F_X12_fall at h
  refine Wp.run (WpD.mono _) 2 (q := ((3, [some (.inr (.inr (12, 0))), some (.inl a1), some (.inl a2)], [.inl (5 : Int32), .inl (0 : Int32), .inl a1]), σ)) rfl ?_
  obtain ⟨q1, hb, h⟩ := bind_some h
  refine Wp.call (WpD.mono _) rfl (T_X12_in (e + 3) N a1 (0 : Int32) (5 : Int32) σ _ _ _ hb ?_)
  show Wp (WpD (e + 4)) hcX12_fall Q (6, [some (.inr (.inr (12, 0))), some (.inl a1), some (.inl a2)], [.inl q1.1]) q1.2
  refine Wp.if0_eq (WpD.mono _) rfl rfl (fun hc => ?_) (fun hc => ?_)
  · have h := (if_pos hc).symm.trans h
    show Wp (WpD (e + 4)) hcX12_fall Q (27, [some (.inr (.inr (12, 0))), some (.inl a1), some (.inl a2)], []) q1.2
    refine Wp.run (WpD.mono _) 0 (q := ((30, [none, none, none], [.inr (.inl (Int64.ofInt (-4611686018427387904)))]), q1.2)) rfl ?_
    obtain ⟨rfl, rfl⟩ := ret_inj h
    exact Wp.ret (WpD.mono _) rfl hQ
  · have h := (if_neg hc).symm.trans h
    show Wp (WpD (e + 4)) hcX12_fall Q (9, [some (.inr (.inr (12, 0))), some (.inl a1), some (.inl a2)], []) q1.2
    refine Wp.run (WpD.mono _) 2 (q := ((12, [some (.inr (.inr (12, 0))), some (.inl a1), some (.inl a2)], [.inl (5 : Int32), .inl (0 : Int32), .inl a2]), q1.2)) rfl ?_
    obtain ⟨q2, hb, h⟩ := bind_some h
    refine Wp.call (WpD.mono _) rfl (T_X12_in (e + 3) N a2 (0 : Int32) (5 : Int32) q1.2 _ _ _ hb ?_)
    show Wp (WpD (e + 4)) hcX12_fall Q (15, [some (.inr (.inr (12, 0))), some (.inl a1), some (.inl a2)], [.inl q2.1]) q2.2
    refine Wp.if0_eq (WpD.mono _) rfl rfl (fun hc => ?_) (fun hc => ?_)
    · have h := (if_pos hc).symm.trans h
      show Wp (WpD (e + 4)) hcX12_fall Q (27, [some (.inr (.inr (12, 0))), some (.inl a1), some (.inl a2)], []) q2.2
      refine Wp.run (WpD.mono _) 0 (q := ((30, [none, none, none], [.inr (.inl (Int64.ofInt (-4611686018427387904)))]), q2.2)) rfl ?_
      obtain ⟨rfl, rfl⟩ := ret_inj h
      exact Wp.ret (WpD.mono _) rfl hQ
    · have h := (if_neg hc).symm.trans h
      show Wp (WpD (e + 4)) hcX12_fall Q (18, [some (.inr (.inr (12, 0))), some (.inl a1), some (.inl a2)], []) q2.2
      refine Wp.run (WpD.mono _) 2 (q := ((21, [some (.inr (.inr (12, 0))), some (.inl a1), some (.inl a2)], [.inl a2, .inl a1, .inr (.inr (12, 0))]), q2.2)) rfl ?_
      obtain ⟨q3, hb, h⟩ := bind_some h
      refine Wp.call (WpD.mono _) rfl (T_X12_fallen (e + 0) N a1 a2 q2.2 _ _ _ hb ?_)
      show Wp (WpD (e + 4)) hcX12_fall Q (24, [some (.inr (.inr (12, 0))), some (.inl a1), some (.inl a2)], [.inr (.inl q3.1)]) q3.2
      refine Wp.run (WpD.mono _) 0 (q := ((30, [some (.inr (.inr (12, 0))), some (.inl a1), some (.inl a2)], [.inr (.inl q3.1)]), q3.2)) rfl ?_
      obtain ⟨rfl, rfl⟩ := ret_inj h
      exact Wp.ret (WpD.mono _) rfl hQ

set_option maxRecDepth 100000 in
set_option maxHeartbeats 4000000 in
theorem T_X12_far_b44 (e N : Nat)   (r : Int32) (τ : Mem) (Q : Pst) (hQ : Q (some (.inl r)) τ) : ∀ n, ∀ (x1 : Int32) (x2 : Int32) (x3 : Int32) (x4 : Int64) (x6 : Int32) (σ : Mem), F_X12_far_b44 N n x1 x2 x3 x4 x6 σ = some (r, τ) → Wp (WpD (e + 35)) hcX12_far Q (44, [some (.inr (.inr (12, 0))), some (.inl x1), some (.inl x2), some (.inl x3), some (.inr (.inl x4)), none, some (.inl x6), none, none], []) σ := by
  intro n
  induction n with
  | zero => intro x1 x2 x3 x4 x6 σ h; cases h
  | succ n ih =>
    intro x1 x2 x3 x4 x6 σ h
    unfold F_X12_far_b44 at h
    refine Wp.run (WpD.mono _) 1 (q := ((47, [some (.inr (.inr (12, 0))), some (.inl x1), some (.inl x2), some (.inl x3), some (.inr (.inl x4)), none, some (.inl x6), none, none], [.inl (5 : Int32), .inl x6]), σ)) rfl ?_
    refine Wp.if2_gt (WpD.mono _) rfl rfl (fun hc => ?_) (fun hc => ?_)
    · have h := (if_pos hc).symm.trans h
      show Wp (WpD (e + 35)) hcX12_far Q (96, [some (.inr (.inr (12, 0))), some (.inl x1), some (.inl x2), some (.inl x3), some (.inr (.inl x4)), none, some (.inl x6), none, none], []) σ
      refine Wp.run (WpD.mono _) 0 (q := ((97, [some (.inr (.inr (12, 0))), some (.inl x1), some (.inl x2), some (.inl x3), some (.inr (.inl x4)), none, some (.inl x6), none, none], [.inl x3]), σ)) rfl ?_
      obtain ⟨rfl, rfl⟩ := ret_inj h
      exact Wp.ret (WpD.mono _) rfl hQ
    · have h := (if_neg hc).symm.trans h
      show Wp (WpD (e + 35)) hcX12_far Q (50, [some (.inr (.inr (12, 0))), some (.inl x1), some (.inl x2), some (.inl x3), some (.inr (.inl x4)), none, some (.inl x6), none, none], []) σ
      refine Wp.run (WpD.mono _) 2 (q := ((54, [some (.inr (.inr (12, 0))), some (.inl x1), some (.inl x2), some (.inl x3), some (.inr (.inl x4)), none, some (.inl x6), none, none], [.inl x6, .inl x1, .inr (.inr (12, 0))]), σ)) rfl ?_
      obtain ⟨q4, hb, h⟩ := bind_some h
      refine Wp.call (WpD.mono _) rfl (T_X12_boreOf (e + 0) N x1 x6 σ _ _ _ hb ?_)
      show Wp (WpD (e + 35)) hcX12_far Q (57, [some (.inr (.inr (12, 0))), some (.inl x1), some (.inl x2), some (.inl x3), some (.inr (.inl x4)), none, some (.inl x6), none, none], [.inr (.inl q4.1)]) q4.2
      refine Wp.run (WpD.mono _) 9 (q := ((72, [some (.inr (.inr (12, 0))), some (.inl x1), some (.inl x2), some (.inl x3), some (.inr (.inl x4)), none, some (.inl x6), some (.inr (.inl (q4.1 - ((x6.toInt64 * (1000000 : Int64)) * x2.toInt64)))), none], [.inl x6]), q4.2)) rfl ?_
      refine Wp.if0_eq (WpD.mono _) rfl rfl (fun hc => ?_) (fun hc => ?_)
      · have h := (if_pos hc).symm.trans h
        show Wp (WpD (e + 35)) hcX12_far Q (83, [some (.inr (.inr (12, 0))), some (.inl x1), some (.inl x2), some (.inl x3), some (.inr (.inl x4)), none, some (.inl x6), some (.inr (.inl (q4.1 - ((x6.toInt64 * (1000000 : Int64)) * x2.toInt64)))), none], []) q4.2
        refine Wp.run (WpD.mono _) 5 (q := ((44, [some (.inr (.inr (12, 0))), some (.inl x1), some (.inl x2), some (.inl x6), some (.inr (.inl (q4.1 - ((x6.toInt64 * (1000000 : Int64)) * x2.toInt64)))), none, some (.inl (x6 + (1 : Int32))), none, none], []), q4.2)) rfl ?_
        exact Wp.jump (WpD.mono _) rfl (ih x1 x2 x6 (q4.1 - ((x6.toInt64 * (1000000 : Int64)) * x2.toInt64)) (x6 + (1 : Int32)) q4.2 h)
      · have h := (if_neg hc).symm.trans h
        show Wp (WpD (e + 35)) hcX12_far Q (75, [some (.inr (.inr (12, 0))), some (.inl x1), some (.inl x2), some (.inl x3), some (.inr (.inl x4)), none, some (.inl x6), some (.inr (.inl (q4.1 - ((x6.toInt64 * (1000000 : Int64)) * x2.toInt64)))), none], []) q4.2
        refine Wp.run (WpD.mono _) 2 (q := ((80, [some (.inr (.inr (12, 0))), some (.inl x1), some (.inl x2), some (.inl x3), some (.inr (.inl x4)), none, some (.inl x6), some (.inr (.inl (q4.1 - ((x6.toInt64 * (1000000 : Int64)) * x2.toInt64)))), none], [.inl (lg_cmp (q4.1 - ((x6.toInt64 * (1000000 : Int64)) * x2.toInt64)) x4)]), q4.2)) rfl ?_
        refine Wp.if0_le (WpD.mono _) rfl rfl (fun hc => ?_) (fun hc => ?_)
        · have h := (if_pos hc).symm.trans h
          show Wp (WpD (e + 35)) hcX12_far Q (90, [some (.inr (.inr (12, 0))), some (.inl x1), some (.inl x2), some (.inl x3), some (.inr (.inl x4)), none, some (.inl x6), some (.inr (.inl (q4.1 - ((x6.toInt64 * (1000000 : Int64)) * x2.toInt64)))), none], []) q4.2
          refine Wp.run (WpD.mono _) 1 (q := ((44, [some (.inr (.inr (12, 0))), some (.inl x1), some (.inl x2), some (.inl x3), some (.inr (.inl x4)), none, some (.inl (x6 + (1 : Int32))), none, none], []), q4.2)) rfl ?_
          exact Wp.jump (WpD.mono _) rfl (ih x1 x2 x3 x4 (x6 + (1 : Int32)) q4.2 h)
        · have h := (if_neg hc).symm.trans h
          show Wp (WpD (e + 35)) hcX12_far Q (83, [some (.inr (.inr (12, 0))), some (.inl x1), some (.inl x2), some (.inl x3), some (.inr (.inl x4)), none, some (.inl x6), some (.inr (.inl (q4.1 - ((x6.toInt64 * (1000000 : Int64)) * x2.toInt64)))), none], []) q4.2
          refine Wp.run (WpD.mono _) 5 (q := ((44, [some (.inr (.inr (12, 0))), some (.inl x1), some (.inl x2), some (.inl x6), some (.inr (.inl (q4.1 - ((x6.toInt64 * (1000000 : Int64)) * x2.toInt64)))), none, some (.inl (x6 + (1 : Int32))), none, none], []), q4.2)) rfl ?_
          exact Wp.jump (WpD.mono _) rfl (ih x1 x2 x6 (q4.1 - ((x6.toInt64 * (1000000 : Int64)) * x2.toInt64)) (x6 + (1 : Int32)) q4.2 h)

set_option maxRecDepth 100000 in
set_option maxHeartbeats 4000000 in
theorem T_X12_far (e N : Nat)  (a1 : Int32) (a2 : Int32) (σ : Mem) (r : Int32) (τ : Mem) (Q : Pst) (h : F_X12_far N a1 a2 σ = some (r, τ)) (hQ : Q (some (.inl r)) τ) : WpD (e + 36) mX12_far [.inr (.inr (12, 0)), .inl a1, .inl a2] σ Q := by
  refine WpD.of (d := e + 35) (Nat.le_of_ble_eq_true rfl) (Nat.le_of_ble_eq_true rfl) ?_
  show Wp (WpD (e + 35)) hcX12_far Q (0, [some (.inr (.inr (12, 0))), some (.inl a1), some (.inl a2), none, none, none, none, none, none], []) σ
  unfold F_X12_far at h
  refine Wp.run (WpD.mono _) 1 (q := ((2, [some (.inr (.inr (12, 0))), some (.inl a1), some (.inl a2), none, none, none, none, none, none], [.inl a1, .inr (.inr (12, 0))]), σ)) rfl ?_
  obtain ⟨q1, hb, h⟩ := bind_some h
  refine Wp.call (WpD.mono _) rfl (T_X12_isPlace (e + 33) N a1 σ _ _ _ hb ?_)
  show Wp (WpD (e + 35)) hcX12_far Q (5, [some (.inr (.inr (12, 0))), some (.inl a1), some (.inl a2), none, none, none, none, none, none], [.inl q1.1]) q1.2
  refine Wp.if0_ne (WpD.mono _) rfl rfl (fun hc => ?_) (fun hc => ?_)
  · have h := (if_pos hc).symm.trans h
    show Wp (WpD (e + 35)) hcX12_far Q (8, [some (.inr (.inr (12, 0))), some (.inl a1), some (.inl a2), none, none, none, none, none, none], []) q1.2
    refine Wp.run (WpD.mono _) 0 (q := ((10, [some (.inr (.inr (12, 0))), some (.inl a1), some (.inl a2), none, none, none, none, none, none], [.inl (Int32.ofInt (-5))]), q1.2)) rfl ?_
    obtain ⟨rfl, rfl⟩ := ret_inj h
    exact Wp.ret (WpD.mono _) rfl hQ
  · have h := (if_neg hc).symm.trans h
    show Wp (WpD (e + 35)) hcX12_far Q (11, [some (.inr (.inr (12, 0))), some (.inl a1), some (.inl a2), none, none, none, none, none, none], []) q1.2
    refine Wp.run (WpD.mono _) 2 (q := ((16, [some (.inr (.inr (12, 0))), some (.inl a1), some (.inl a2), none, none, none, none, none, none], [.inl (999 : Int32), .inl (0 : Int32), .inl a2]), q1.2)) rfl ?_
    obtain ⟨q2, hb, h⟩ := bind_some h
    refine Wp.call (WpD.mono _) rfl (T_X12_in (e + 34) N a2 (0 : Int32) (999 : Int32) q1.2 _ _ _ hb ?_)
    show Wp (WpD (e + 35)) hcX12_far Q (19, [some (.inr (.inr (12, 0))), some (.inl a1), some (.inl a2), none, none, none, none, none, none], [.inl q2.1]) q2.2
    refine Wp.if0_ne (WpD.mono _) rfl rfl (fun hc => ?_) (fun hc => ?_)
    · have h := (if_pos hc).symm.trans h
      show Wp (WpD (e + 35)) hcX12_far Q (22, [some (.inr (.inr (12, 0))), some (.inl a1), some (.inl a2), none, none, none, none, none, none], []) q2.2
      refine Wp.run (WpD.mono _) 0 (q := ((24, [some (.inr (.inr (12, 0))), some (.inl a1), some (.inl a2), none, none, none, none, none, none], [.inl (Int32.ofInt (-7))]), q2.2)) rfl ?_
      obtain ⟨rfl, rfl⟩ := ret_inj h
      exact Wp.ret (WpD.mono _) rfl hQ
    · have h := (if_neg hc).symm.trans h
      show Wp (WpD (e + 35)) hcX12_far Q (25, [some (.inr (.inr (12, 0))), some (.inl a1), some (.inl a2), none, none, none, none, none, none], []) q2.2
      refine Wp.run (WpD.mono _) 1 (q := ((27, [some (.inr (.inr (12, 0))), some (.inl a1), some (.inl a2), none, none, none, none, none, none], [.inl a1, .inr (.inr (12, 0))]), q2.2)) rfl ?_
      obtain ⟨q3, hb, h⟩ := bind_some h
      refine Wp.call (WpD.mono _) rfl (T_X12_goesHere (e + 29) N a1 q2.2 _ _ _ hb ?_)
      show Wp (WpD (e + 35)) hcX12_far Q (30, [some (.inr (.inr (12, 0))), some (.inl a1), some (.inl a2), none, none, none, none, none, none], [.inl q3.1]) q3.2
      refine Wp.if0_ne (WpD.mono _) rfl rfl (fun hc => ?_) (fun hc => ?_)
      · have h := (if_pos hc).symm.trans h
        show Wp (WpD (e + 35)) hcX12_far Q (33, [some (.inr (.inr (12, 0))), some (.inl a1), some (.inl a2), none, none, none, none, none, none], []) q3.2
        refine Wp.run (WpD.mono _) 0 (q := ((35, [some (.inr (.inr (12, 0))), some (.inl a1), some (.inl a2), none, none, none, none, none, none], [.inl (Int32.ofInt (-3))]), q3.2)) rfl ?_
        obtain ⟨rfl, rfl⟩ := ret_inj h
        exact Wp.ret (WpD.mono _) rfl hQ
      · have h := (if_neg hc).symm.trans h
        show Wp (WpD (e + 35)) hcX12_far Q (36, [some (.inr (.inr (12, 0))), some (.inl a1), some (.inl a2), none, none, none, none, none, none], []) q3.2
        refine Wp.run (WpD.mono _) 5 (q := ((44, [some (.inr (.inr (12, 0))), some (.inl a1), some (.inl a2), some (.inl (0 : Int32)), some (.inr (.inl (0 : Int64))), none, some (.inl (0 : Int32)), none, none], []), q3.2)) rfl ?_
        exact Wp.jump (WpD.mono _) rfl ((T_X12_far_b44 e N  r τ Q hQ  N) a1 a2 (0 : Int32) (0 : Int64) (0 : Int32) q3.2 h)

set_option maxRecDepth 100000 in
set_option maxHeartbeats 4000000 in
theorem T_X12_farm (e N : Nat)  (a1 : Int32) (a2 : Int32) (σ : Mem) (r : Int32) (τ : Mem) (Q : Pst) (h : F_X12_farm N a1 a2 σ = some (r, τ)) (hQ : Q (some (.inl r)) τ) : WpD (e + 2) mX12_farm [.inr (.inr (12, 0)), .inl a1, .inl a2] σ Q := by
  refine WpD.of (d := e + 1) (Nat.le_of_ble_eq_true rfl) (Nat.le_of_ble_eq_true rfl) ?_
  show Wp (WpD (e + 1)) hcX12_farm Q (0, [some (.inr (.inr (12, 0))), some (.inl a1), some (.inl a2)], []) σ
  unfold F_X12_farm at h
  refine Wp.run (WpD.mono _) 2 (q := ((4, [some (.inr (.inr (12, 0))), some (.inl a1), some (.inl a2)], [.inl (99 : Int32), .inl (0 : Int32), .inl a1]), σ)) rfl ?_
  obtain ⟨q1, hb, h⟩ := bind_some h
  refine Wp.call (WpD.mono _) rfl (T_X12_in (e + 0) N a1 (0 : Int32) (99 : Int32) σ _ _ _ hb ?_)
  show Wp (WpD (e + 1)) hcX12_farm Q (7, [some (.inr (.inr (12, 0))), some (.inl a1), some (.inl a2)], [.inl q1.1]) q1.2
  refine Wp.if0_eq (WpD.mono _) rfl rfl (fun hc => ?_) (fun hc => ?_)
  · have h := (if_pos hc).symm.trans h
    show Wp (WpD (e + 1)) hcX12_farm Q (20, [some (.inr (.inr (12, 0))), some (.inl a1), some (.inl a2)], []) q1.2
    refine Wp.run (WpD.mono _) 0 (q := ((22, [none, none, none], [.inl (Int32.ofInt (-2))]), q1.2)) rfl ?_
    obtain ⟨rfl, rfl⟩ := ret_inj h
    exact Wp.ret (WpD.mono _) rfl hQ
  · have h := (if_neg hc).symm.trans h
    show Wp (WpD (e + 1)) hcX12_farm Q (10, [some (.inr (.inr (12, 0))), some (.inl a1), some (.inl a2)], []) q1.2
    refine Wp.run (WpD.mono _) 2 (q := ((14, [some (.inr (.inr (12, 0))), some (.inl a1), some (.inl a2)], [.inl (99 : Int32), .inl (1 : Int32), .inl a2]), q1.2)) rfl ?_
    obtain ⟨q2, hb, h⟩ := bind_some h
    refine Wp.call (WpD.mono _) rfl (T_X12_in (e + 0) N a2 (1 : Int32) (99 : Int32) q1.2 _ _ _ hb ?_)
    show Wp (WpD (e + 1)) hcX12_farm Q (17, [some (.inr (.inr (12, 0))), some (.inl a1), some (.inl a2)], [.inl q2.1]) q2.2
    refine Wp.if0_ne (WpD.mono _) rfl rfl (fun hc => ?_) (fun hc => ?_)
    · have h := (if_pos hc).symm.trans h
      show Wp (WpD (e + 1)) hcX12_farm Q (20, [some (.inr (.inr (12, 0))), some (.inl a1), some (.inl a2)], []) q2.2
      refine Wp.run (WpD.mono _) 0 (q := ((22, [none, none, none], [.inl (Int32.ofInt (-2))]), q2.2)) rfl ?_
      obtain ⟨rfl, rfl⟩ := ret_inj h
      exact Wp.ret (WpD.mono _) rfl hQ
    · have h := (if_neg hc).symm.trans h
      show Wp (WpD (e + 1)) hcX12_farm Q (23, [some (.inr (.inr (12, 0))), some (.inl a1), some (.inl a2)], []) q2.2
      refine Wp.run (WpD.mono _) 2 (q := ((29, [some (.inr (.inr (12, 0))), some (.inl a1), some (.inl a2)], [.inl (6 : Int32), .inl (q2.2.1 12 20)]), q2.2)) rfl ?_
      refine Wp.if2_ne (WpD.mono _) rfl rfl (fun hc => ?_) (fun hc => ?_)
      · have h := (if_pos hc).symm.trans h
        show Wp (WpD (e + 1)) hcX12_farm Q (32, [some (.inr (.inr (12, 0))), some (.inl a1), some (.inl a2)], []) q2.2
        refine Wp.run (WpD.mono _) 0 (q := ((34, [some (.inr (.inr (12, 0))), some (.inl a1), some (.inl a2)], [.inl (Int32.ofInt (-4))]), q2.2)) rfl ?_
        obtain ⟨rfl, rfl⟩ := ret_inj h
        exact Wp.ret (WpD.mono _) rfl hQ
      · have h := (if_neg hc).symm.trans h
        show Wp (WpD (e + 1)) hcX12_farm Q (35, [some (.inr (.inr (12, 0))), some (.inl a1), some (.inl a2)], []) q2.2
        refine Wp.run (WpD.mono _) 4 (q := ((44, [some (.inr (.inr (12, 0))), some (.inl a1), some (.inl a2)], [.inl a1, .inl (q2.2.1 12 20), .inr (.inr (84, 0))]), q2.2)) rfl ?_
        obtain ⟨hc, h⟩ := ite_nn h
        refine Wp.X_ist (WpD.mono _) rfl rfl hc ?_
        show Wp (WpD (e + 1)) hcX12_farm Q (45, [some (.inr (.inr (12, 0))), some (.inl a1), some (.inl a2)], []) (q2.2.1, q2.2.2.1, (hwU3 q2.2.2.2.1 84 0 ((q2.2.1 12 20)).toNatClampNeg a1), q2.2.2.2.2.1, q2.2.2.2.2.2)
        refine Wp.run (WpD.mono _) 4 (q := ((54, [some (.inr (.inr (12, 0))), some (.inl a1), some (.inl a2)], [.inl a2, .inl (q2.2.1 12 20), .inr (.inr (85, 0))]), (q2.2.1, q2.2.2.1, (hwU3 q2.2.2.2.1 84 0 ((q2.2.1 12 20)).toNatClampNeg a1), q2.2.2.2.2.1, q2.2.2.2.2.2))) rfl ?_
        obtain ⟨hc, h⟩ := ite_nn h
        refine Wp.X_ist (WpD.mono _) rfl rfl hc ?_
        show Wp (WpD (e + 1)) hcX12_farm Q (55, [some (.inr (.inr (12, 0))), some (.inl a1), some (.inl a2)], []) (q2.2.1, q2.2.2.1, (hwU3 (hwU3 q2.2.2.2.1 84 0 ((q2.2.1 12 20)).toNatClampNeg a1) 85 0 ((q2.2.1 12 20)).toNatClampNeg a2), q2.2.2.2.2.1, q2.2.2.2.2.2)
        refine Wp.run (WpD.mono _) 9 (q := ((71, [some (.inr (.inr (12, 0))), some (.inl a1), some (.inl a2)], [.inl (((q2.2.1 12 20) + (1 : Int32)) - (1 : Int32))]), ((hwU2 q2.2.1 12 20 ((q2.2.1 12 20) + (1 : Int32))), q2.2.2.1, (hwU3 (hwU3 q2.2.2.2.1 84 0 ((q2.2.1 12 20)).toNatClampNeg a1) 85 0 ((q2.2.1 12 20)).toNatClampNeg a2), q2.2.2.2.2.1, q2.2.2.2.2.2))) rfl ?_
        obtain ⟨rfl, rfl⟩ := ret_inj h
        exact Wp.ret (WpD.mono _) rfl hQ

set_option maxRecDepth 100000 in
set_option maxHeartbeats 4000000 in
theorem T_X12_feed_b33 (e N : Nat)   (r : Int32) (τ : Mem) (Q : Pst) (hQ : Q (some (.inl r)) τ) : ∀ n, ∀ (x1 : Int64) (x4 : Int32) (σ : Mem), F_X12_feed_b33 N n x1 x4 σ = some (r, τ) → Wp (WpD (e + 1)) hcX12_feed Q (33, [some (.inr (.inr (12, 0))), some (.inr (.inl x1)), none, none, some (.inl x4)], []) σ := by
  intro n
  induction n with
  | zero => intro x1 x4 σ h; cases h
  | succ n ih =>
    intro x1 x4 σ h
    unfold F_X12_feed_b33 at h
    refine Wp.run (WpD.mono _) 0 (q := ((35, [some (.inr (.inr (12, 0))), some (.inr (.inl x1)), none, none, some (.inl x4)], [.inl x4]), σ)) rfl ?_
    refine Wp.if0_lt (WpD.mono _) rfl rfl (fun hc => ?_) (fun hc => ?_)
    · have h := (if_pos hc).symm.trans h
      show Wp (WpD (e + 1)) hcX12_feed Q (75, [some (.inr (.inr (12, 0))), some (.inr (.inl x1)), none, none, some (.inl x4)], []) σ
      refine Wp.run (WpD.mono _) 1 (q := ((79, [some (.inr (.inr (12, 0))), some (.inr (.inl x1)), none, none, some (.inl x4)], [.inl (σ.1 12 24)]), σ)) rfl ?_
      obtain ⟨rfl, rfl⟩ := ret_inj h
      exact Wp.ret (WpD.mono _) rfl hQ
    · have h := (if_neg hc).symm.trans h
      show Wp (WpD (e + 1)) hcX12_feed Q (38, [some (.inr (.inr (12, 0))), some (.inr (.inl x1)), none, none, some (.inl x4)], []) σ
      refine Wp.run (WpD.mono _) 11 (q := ((58, [some (.inr (.inr (12, 0))), some (.inr (.inl x1)), none, none, some (.inl x4)], [.inl ((x1 >>> ((((8 : Int32) * x4)).toInt64 &&& 63)) &&& (255 : Int64)).toInt32, .inl (σ.1 12 24), .inr (.inr (86, 0))]), σ)) rfl ?_
      obtain ⟨hc, h⟩ := ite_nn h
      refine Wp.X_ist (WpD.mono _) rfl rfl hc ?_
      show Wp (WpD (e + 1)) hcX12_feed Q (59, [some (.inr (.inr (12, 0))), some (.inr (.inl x1)), none, none, some (.inl x4)], []) (σ.1, σ.2.1, (hwU3 σ.2.2.1 86 0 ((σ.1 12 24)).toNatClampNeg ((x1 >>> ((((8 : Int32) * x4)).toInt64 &&& 63)) &&& (255 : Int64)).toInt32), σ.2.2.2.1, σ.2.2.2.2)
      refine Wp.run (WpD.mono _) 7 (q := ((33, [some (.inr (.inr (12, 0))), some (.inr (.inl x1)), none, none, some (.inl (x4 + (Int32.ofInt (-1))))], []), ((hwU2 σ.1 12 24 ((σ.1 12 24) + (1 : Int32))), σ.2.1, (hwU3 σ.2.2.1 86 0 ((σ.1 12 24)).toNatClampNeg ((x1 >>> ((((8 : Int32) * x4)).toInt64 &&& 63)) &&& (255 : Int64)).toInt32), σ.2.2.2.1, σ.2.2.2.2))) rfl ?_
      exact Wp.jump (WpD.mono _) rfl (ih x1 (x4 + (Int32.ofInt (-1))) ((hwU2 σ.1 12 24 ((σ.1 12 24) + (1 : Int32))), σ.2.1, (hwU3 σ.2.2.1 86 0 ((σ.1 12 24)).toNatClampNeg ((x1 >>> ((((8 : Int32) * x4)).toInt64 &&& 63)) &&& (255 : Int64)).toInt32), σ.2.2.2.1, σ.2.2.2.2) h)

set_option maxRecDepth 100000 in
set_option maxHeartbeats 4000000 in
theorem T_X12_feed (e N : Nat)  (a1 : Int64) (a2 : Int32) (σ : Mem) (r : Int32) (τ : Mem) (Q : Pst) (h : F_X12_feed N a1 a2 σ = some (r, τ)) (hQ : Q (some (.inl r)) τ) : WpD (e + 2) mX12_feed [.inr (.inr (12, 0)), .inr (.inl a1), .inl a2] σ Q := by
  refine WpD.of (d := e + 1) (Nat.le_of_ble_eq_true rfl) (Nat.le_of_ble_eq_true rfl) ?_
  show Wp (WpD (e + 1)) hcX12_feed Q (0, [some (.inr (.inr (12, 0))), some (.inr (.inl a1)), none, some (.inl a2), none], []) σ
  unfold F_X12_feed at h
  refine Wp.run (WpD.mono _) 2 (q := ((4, [some (.inr (.inr (12, 0))), some (.inr (.inl a1)), none, some (.inl a2), none], [.inl (8 : Int32), .inl (1 : Int32), .inl a2]), σ)) rfl ?_
  obtain ⟨q1, hb, h⟩ := bind_some h
  refine Wp.call (WpD.mono _) rfl (T_X12_in (e + 0) N a2 (1 : Int32) (8 : Int32) σ _ _ _ hb ?_)
  show Wp (WpD (e + 1)) hcX12_feed Q (7, [some (.inr (.inr (12, 0))), some (.inr (.inl a1)), none, some (.inl a2), none], [.inl q1.1]) q1.2
  refine Wp.if0_ne (WpD.mono _) rfl rfl (fun hc => ?_) (fun hc => ?_)
  · have h := (if_pos hc).symm.trans h
    show Wp (WpD (e + 1)) hcX12_feed Q (10, [some (.inr (.inr (12, 0))), some (.inr (.inl a1)), none, some (.inl a2), none], []) q1.2
    refine Wp.run (WpD.mono _) 0 (q := ((12, [some (.inr (.inr (12, 0))), some (.inr (.inl a1)), none, some (.inl a2), none], [.inl (Int32.ofInt (-2))]), q1.2)) rfl ?_
    obtain ⟨rfl, rfl⟩ := ret_inj h
    exact Wp.ret (WpD.mono _) rfl hQ
  · have h := (if_neg hc).symm.trans h
    show Wp (WpD (e + 1)) hcX12_feed Q (13, [some (.inr (.inr (12, 0))), some (.inr (.inl a1)), none, some (.inl a2), none], []) q1.2
    refine Wp.run (WpD.mono _) 4 (q := ((22, [some (.inr (.inr (12, 0))), some (.inr (.inl a1)), none, some (.inl a2), none], [.inl (160 : Int32), .inl ((q1.2.1 12 24) + a2)]), q1.2)) rfl ?_
    refine Wp.if2_le (WpD.mono _) rfl rfl (fun hc => ?_) (fun hc => ?_)
    · have h := (if_pos hc).symm.trans h
      show Wp (WpD (e + 1)) hcX12_feed Q (28, [some (.inr (.inr (12, 0))), some (.inr (.inl a1)), none, some (.inl a2), none], []) q1.2
      refine Wp.run (WpD.mono _) 3 (q := ((33, [some (.inr (.inr (12, 0))), some (.inr (.inl a1)), none, some (.inl a2), some (.inl (a2 - (1 : Int32)))], []), q1.2)) rfl ?_
      exact Wp.jump (WpD.mono _) rfl ((T_X12_feed_b33 e N  r τ Q hQ  N) a1 (a2 - (1 : Int32)) q1.2 h)
    · have h := (if_neg hc).symm.trans h
      show Wp (WpD (e + 1)) hcX12_feed Q (25, [some (.inr (.inr (12, 0))), some (.inr (.inl a1)), none, some (.inl a2), none], []) q1.2
      refine Wp.run (WpD.mono _) 0 (q := ((27, [some (.inr (.inr (12, 0))), some (.inr (.inl a1)), none, some (.inl a2), none], [.inl (Int32.ofInt (-4))]), q1.2)) rfl ?_
      obtain ⟨rfl, rfl⟩ := ret_inj h
      exact Wp.ret (WpD.mono _) rfl hQ

set_option maxRecDepth 100000 in
set_option maxHeartbeats 4000000 in
theorem T_X12_fill (e N : Nat)  (a1 : Int32) (σ : Mem) (r : Int32) (τ : Mem) (Q : Pst) (h : F_X12_fill N a1 σ = some (r, τ)) (hQ : Q (some (.inl r)) τ) : WpD (e + 3) mX12_fill [.inr (.inr (12, 0)), .inl a1] σ Q := by
  refine WpD.of (d := e + 2) (Nat.le_of_ble_eq_true rfl) (Nat.le_of_ble_eq_true rfl) ?_
  show Wp (WpD (e + 2)) hcX12_fill Q (0, [some (.inr (.inr (12, 0))), some (.inl a1), none], []) σ
  unfold F_X12_fill at h
  refine Wp.run (WpD.mono _) 1 (q := ((2, [some (.inr (.inr (12, 0))), some (.inl a1), none], [.inl a1, .inr (.inr (12, 0))]), σ)) rfl ?_
  obtain ⟨q1, hb, h⟩ := bind_some h
  refine Wp.call (WpD.mono _) rfl (T_X12_isPlace (e + 0) N a1 σ _ _ _ hb ?_)
  show Wp (WpD (e + 2)) hcX12_fill Q (5, [some (.inr (.inr (12, 0))), some (.inl a1), none], [.inl q1.1]) q1.2
  refine Wp.if0_ne (WpD.mono _) rfl rfl (fun hc => ?_) (fun hc => ?_)
  · have h := (if_pos hc).symm.trans h
    show Wp (WpD (e + 2)) hcX12_fill Q (8, [some (.inr (.inr (12, 0))), some (.inl a1), none], []) q1.2
    refine Wp.run (WpD.mono _) 0 (q := ((9, [some (.inr (.inr (12, 0))), some (.inl a1), none], [.inl (Int32.ofInt (-1))]), q1.2)) rfl ?_
    obtain ⟨rfl, rfl⟩ := ret_inj h
    exact Wp.ret (WpD.mono _) rfl hQ
  · have h := (if_neg hc).symm.trans h
    show Wp (WpD (e + 2)) hcX12_fill Q (10, [some (.inr (.inr (12, 0))), some (.inl a1), none], []) q1.2
    refine Wp.run (WpD.mono _) 2 (q := ((15, [some (.inr (.inr (12, 0))), some (.inl a1), none], [.inl a1, .inr (.inr (77, 0))]), q1.2)) rfl ?_
    obtain ⟨hc, h⟩ := ite_nn h
    refine Wp.X_ild1 (WpD.mono _) rfl rfl hc ?_
    show Wp (WpD (e + 2)) hcX12_fill Q (16, [some (.inr (.inr (12, 0))), some (.inl a1), none], [.inl (q1.2.2.2.1 77 0 (a1).toNatClampNeg)]) q1.2
    refine Wp.run (WpD.mono _) 4 (q := ((23, [some (.inr (.inr (12, 0))), some (.inl a1), some (.inl (q1.2.2.2.1 77 0 (a1).toNatClampNeg))], [.inl (0 : Int32), .inl a1, .inr (.inr (77, 0))]), q1.2)) rfl ?_
    obtain ⟨hc, h⟩ := ite_nn h
    refine Wp.X_ist (WpD.mono _) rfl rfl hc ?_
    show Wp (WpD (e + 2)) hcX12_fill Q (24, [some (.inr (.inr (12, 0))), some (.inl a1), some (.inl (q1.2.2.2.1 77 0 (a1).toNatClampNeg))], []) (q1.2.1, q1.2.2.1, (hwU3 q1.2.2.2.1 77 0 (a1).toNatClampNeg (0 : Int32)), q1.2.2.2.2.1, q1.2.2.2.2.2)
    refine Wp.run (WpD.mono _) 3 (q := ((30, [some (.inr (.inr (12, 0))), some (.inl a1), some (.inl (q1.2.2.2.1 77 0 (a1).toNatClampNeg))], [.inl (0 : Int32), .inl a1, .inr (.inr (78, 0))]), (q1.2.1, q1.2.2.1, (hwU3 q1.2.2.2.1 77 0 (a1).toNatClampNeg (0 : Int32)), q1.2.2.2.2.1, q1.2.2.2.2.2))) rfl ?_
    obtain ⟨hc, h⟩ := ite_nn h
    refine Wp.X_ist (WpD.mono _) rfl rfl hc ?_
    show Wp (WpD (e + 2)) hcX12_fill Q (31, [some (.inr (.inr (12, 0))), some (.inl a1), some (.inl (q1.2.2.2.1 77 0 (a1).toNatClampNeg))], []) (q1.2.1, q1.2.2.1, (hwU3 (hwU3 q1.2.2.2.1 77 0 (a1).toNatClampNeg (0 : Int32)) 78 0 (a1).toNatClampNeg (0 : Int32)), q1.2.2.2.2.1, q1.2.2.2.2.2)
    refine Wp.run (WpD.mono _) 0 (q := ((32, [some (.inr (.inr (12, 0))), some (.inl a1), some (.inl (q1.2.2.2.1 77 0 (a1).toNatClampNeg))], [.inl (q1.2.2.2.1 77 0 (a1).toNatClampNeg)]), (q1.2.1, q1.2.2.1, (hwU3 (hwU3 q1.2.2.2.1 77 0 (a1).toNatClampNeg (0 : Int32)) 78 0 (a1).toNatClampNeg (0 : Int32)), q1.2.2.2.2.1, q1.2.2.2.2.2))) rfl ?_
    obtain ⟨rfl, rfl⟩ := ret_inj h
    exact Wp.ret (WpD.mono _) rfl hQ

set_option maxRecDepth 100000 in
set_option maxHeartbeats 4000000 in
theorem T_X12_findsWell_b23 (e N : Nat)  (k12 : Int32 → Int32 → Mem → Option (Unit × Mem)) (r : Unit) (τ : Mem) (Q : Pst) (hQ : Q (none) τ) (hk12 : ∀ (x1 : Int32) (x2 : Int32) (σ : Mem), k12 x1 x2 σ = some (r, τ) → Wp (WpD (e + 0)) hcX12_findsWell Q (12, [some (.inr (.inr (12, 0))), some (.inl x1), some (.inl x2), none, none], []) σ) : ∀ n, ∀ (x1 : Int32) (x2 : Int32) (x3 : Int32) (x4 : Int32) (σ : Mem), F_X12_findsWell_b23 N k12 n x1 x2 x3 x4 σ = some (r, τ) → Wp (WpD (e + 0)) hcX12_findsWell Q (23, [some (.inr (.inr (12, 0))), some (.inl x1), some (.inl x2), some (.inl x3), some (.inl x4)], []) σ := by
  intro n
  induction n with
  | zero => intro x1 x2 x3 x4 σ h; cases h
  | succ n ih =>
    intro x1 x2 x3 x4 σ h
    unfold F_X12_findsWell_b23 at h
    refine Wp.run (WpD.mono _) 2 (q := ((29, [some (.inr (.inr (12, 0))), some (.inl x1), some (.inl x2), some (.inl x3), some (.inl x4)], [.inl (σ.1 12 20), .inl x4]), σ)) rfl ?_
    refine Wp.if2_ge (WpD.mono _) rfl rfl (fun hc => ?_) (fun hc => ?_)
    · have h := (if_pos hc).symm.trans h
      show Wp (WpD (e + 0)) hcX12_findsWell Q (94, [some (.inr (.inr (12, 0))), some (.inl x1), some (.inl x2), some (.inl x3), some (.inl x4)], []) σ
      refine Wp.run (WpD.mono _) 2 (q := ((99, [some (.inr (.inr (12, 0))), some (.inl x1), some (.inl x2), some (.inl x3), some (.inl x4)], [.inl (Int32.ofInt (-1)), .inl (σ.1 12 59)]), σ)) rfl ?_
      refine Wp.if2_eq (WpD.mono _) rfl rfl (fun hc => ?_) (fun hc => ?_)
      · have h := (if_pos hc).symm.trans h
        show Wp (WpD (e + 0)) hcX12_findsWell Q (110, [some (.inr (.inr (12, 0))), some (.inl x1), some (.inl x2), some (.inl x3), some (.inl x4)], []) σ
        refine Wp.run (WpD.mono _) 7 (q := ((12, [some (.inr (.inr (12, 0))), some (.inl x1), some (.inl (x2 + (1 : Int32))), none, none], []), ((hwU2 (hwU2 σ.1 12 59 x2) 12 60 x3), σ.2.1, σ.2.2.1, σ.2.2.2.1, σ.2.2.2.2))) rfl ?_
        exact Wp.jump (WpD.mono _) rfl (hk12 x1 (x2 + (1 : Int32)) ((hwU2 (hwU2 σ.1 12 59 x2) 12 60 x3), σ.2.1, σ.2.2.1, σ.2.2.2.1, σ.2.2.2.2) h)
      · have h := (if_neg hc).symm.trans h
        show Wp (WpD (e + 0)) hcX12_findsWell Q (102, [some (.inr (.inr (12, 0))), some (.inl x1), some (.inl x2), some (.inl x3), some (.inl x4)], []) σ
        refine Wp.run (WpD.mono _) 2 (q := ((107, [some (.inr (.inr (12, 0))), some (.inl x1), some (.inl x2), some (.inl x3), some (.inl x4)], [.inl (σ.1 12 60), .inl x3]), σ)) rfl ?_
        refine Wp.if2_ge (WpD.mono _) rfl rfl (fun hc => ?_) (fun hc => ?_)
        · have h := (if_pos hc).symm.trans h
          show Wp (WpD (e + 0)) hcX12_findsWell Q (120, [some (.inr (.inr (12, 0))), some (.inl x1), some (.inl x2), some (.inl x3), some (.inl x4)], []) σ
          refine Wp.run (WpD.mono _) 1 (q := ((12, [some (.inr (.inr (12, 0))), some (.inl x1), some (.inl (x2 + (1 : Int32))), none, none], []), σ)) rfl ?_
          exact Wp.jump (WpD.mono _) rfl (hk12 x1 (x2 + (1 : Int32)) σ h)
        · have h := (if_neg hc).symm.trans h
          show Wp (WpD (e + 0)) hcX12_findsWell Q (110, [some (.inr (.inr (12, 0))), some (.inl x1), some (.inl x2), some (.inl x3), some (.inl x4)], []) σ
          refine Wp.run (WpD.mono _) 7 (q := ((12, [some (.inr (.inr (12, 0))), some (.inl x1), some (.inl (x2 + (1 : Int32))), none, none], []), ((hwU2 (hwU2 σ.1 12 59 x2) 12 60 x3), σ.2.1, σ.2.2.1, σ.2.2.2.1, σ.2.2.2.2))) rfl ?_
          exact Wp.jump (WpD.mono _) rfl (hk12 x1 (x2 + (1 : Int32)) ((hwU2 (hwU2 σ.1 12 59 x2) 12 60 x3), σ.2.1, σ.2.2.1, σ.2.2.2.1, σ.2.2.2.2) h)
    · have h := (if_neg hc).symm.trans h
      show Wp (WpD (e + 0)) hcX12_findsWell Q (32, [some (.inr (.inr (12, 0))), some (.inl x1), some (.inl x2), some (.inl x3), some (.inl x4)], []) σ
      refine Wp.run (WpD.mono _) 5 (q := ((39, [some (.inr (.inr (12, 0))), some (.inl x1), some (.inl x2), some (.inl x3), some (.inl x4)], [.inl ((x1 >>> (x4 &&& 31)) &&& (1 : Int32)), .inl x3]), σ)) rfl ?_
      refine Wp.if0_ne (WpD.mono _) rfl rfl (fun hc => ?_) (fun hc => ?_)
      · have h := (if_pos hc).symm.trans h
        show Wp (WpD (e + 0)) hcX12_findsWell Q (42, [some (.inr (.inr (12, 0))), some (.inl x1), some (.inl x2), some (.inl x3), some (.inl x4)], [.inl x3]) σ
        refine Wp.run (WpD.mono _) 5 (q := ((23, [some (.inr (.inr (12, 0))), some (.inl x1), some (.inl x2), some (.inl (x3 + (0 : Int32))), some (.inl (x4 + (1 : Int32)))], []), σ)) rfl ?_
        exact Wp.jump (WpD.mono _) rfl (ih x1 x2 (x3 + (0 : Int32)) (x4 + (1 : Int32)) σ h)
      · have h := (if_neg hc).symm.trans h
        show Wp (WpD (e + 0)) hcX12_findsWell Q (46, [some (.inr (.inr (12, 0))), some (.inl x1), some (.inl x2), some (.inl x3), some (.inl x4)], [.inl x3]) σ
        refine Wp.run (WpD.mono _) 2 (q := ((52, [some (.inr (.inr (12, 0))), some (.inl x1), some (.inl x2), some (.inl x3), some (.inl x4)], [.inl x4, .inr (.inr (85, 0)), .inl x3]), σ)) rfl ?_
        obtain ⟨hc, h⟩ := ite_nn h
        refine Wp.X_ild1 (WpD.mono _) rfl rfl hc ?_
        show Wp (WpD (e + 0)) hcX12_findsWell Q (53, [some (.inr (.inr (12, 0))), some (.inl x1), some (.inl x2), some (.inl x3), some (.inl x4)], [.inl (σ.2.2.1 85 0 (x4).toNatClampNeg), .inl x3]) σ
        refine Wp.run (WpD.mono _) 3 (q := ((60, [some (.inr (.inr (12, 0))), some (.inl x1), some (.inl x2), some (.inl x3), some (.inl x4)], [.inl x4, .inr (.inr (84, 0)), .inl x2, .inl (σ.2.2.1 85 0 (x4).toNatClampNeg), .inl x3]), σ)) rfl ?_
        obtain ⟨hc, h⟩ := ite_nn h
        refine Wp.X_ild1 (WpD.mono _) rfl rfl hc ?_
        show Wp (WpD (e + 0)) hcX12_findsWell Q (61, [some (.inr (.inr (12, 0))), some (.inl x1), some (.inl x2), some (.inl x3), some (.inl x4)], [.inl (σ.2.2.1 84 0 (x4).toNatClampNeg), .inl x2, .inl (σ.2.2.1 85 0 (x4).toNatClampNeg), .inl x3]) σ
        refine Wp.if2_ge (WpD.mono _) rfl rfl (fun hc => ?_) (fun hc => ?_)
        · have h := (if_pos hc).symm.trans h
          show Wp (WpD (e + 0)) hcX12_findsWell Q (76, [some (.inr (.inr (12, 0))), some (.inl x1), some (.inl x2), some (.inl x3), some (.inl x4)], [.inl (σ.2.2.1 85 0 (x4).toNatClampNeg), .inl x3]) σ
          refine Wp.run (WpD.mono _) 3 (q := ((83, [some (.inr (.inr (12, 0))), some (.inl x1), some (.inl x2), some (.inl x3), some (.inl x4)], [.inl x4, .inr (.inr (84, 0)), .inl x2, .inl (σ.2.2.1 85 0 (x4).toNatClampNeg), .inl x3]), σ)) rfl ?_
          obtain ⟨hc, h⟩ := ite_nn h
          refine Wp.X_ild1 (WpD.mono _) rfl rfl hc ?_
          show Wp (WpD (e + 0)) hcX12_findsWell Q (84, [some (.inr (.inr (12, 0))), some (.inl x1), some (.inl x2), some (.inl x3), some (.inl x4)], [.inl (σ.2.2.1 84 0 (x4).toNatClampNeg), .inl x2, .inl (σ.2.2.1 85 0 (x4).toNatClampNeg), .inl x3]) σ
          refine Wp.run (WpD.mono _) 5 (q := ((23, [some (.inr (.inr (12, 0))), some (.inl x1), some (.inl x2), some (.inl (x3 + ((σ.2.2.1 85 0 (x4).toNatClampNeg) * (x2 - (σ.2.2.1 84 0 (x4).toNatClampNeg))))), some (.inl (x4 + (1 : Int32)))], []), σ)) rfl ?_
          exact Wp.jump (WpD.mono _) rfl (ih x1 x2 (x3 + ((σ.2.2.1 85 0 (x4).toNatClampNeg) * (x2 - (σ.2.2.1 84 0 (x4).toNatClampNeg)))) (x4 + (1 : Int32)) σ h)
        · have h := (if_neg hc).symm.trans h
          show Wp (WpD (e + 0)) hcX12_findsWell Q (64, [some (.inr (.inr (12, 0))), some (.inl x1), some (.inl x2), some (.inl x3), some (.inl x4)], [.inl (σ.2.2.1 85 0 (x4).toNatClampNeg), .inl x3]) σ
          refine Wp.run (WpD.mono _) 2 (q := ((70, [some (.inr (.inr (12, 0))), some (.inl x1), some (.inl x2), some (.inl x3), some (.inl x4)], [.inl x4, .inr (.inr (84, 0)), .inl (σ.2.2.1 85 0 (x4).toNatClampNeg), .inl x3]), σ)) rfl ?_
          obtain ⟨hc, h⟩ := ite_nn h
          refine Wp.X_ild1 (WpD.mono _) rfl rfl hc ?_
          show Wp (WpD (e + 0)) hcX12_findsWell Q (71, [some (.inr (.inr (12, 0))), some (.inl x1), some (.inl x2), some (.inl x3), some (.inl x4)], [.inl (σ.2.2.1 84 0 (x4).toNatClampNeg), .inl (σ.2.2.1 85 0 (x4).toNatClampNeg), .inl x3]) σ
          refine Wp.run (WpD.mono _) 7 (q := ((23, [some (.inr (.inr (12, 0))), some (.inl x1), some (.inl x2), some (.inl (x3 + ((σ.2.2.1 85 0 (x4).toNatClampNeg) * ((σ.2.2.1 84 0 (x4).toNatClampNeg) - x2)))), some (.inl (x4 + (1 : Int32)))], []), σ)) rfl ?_
          exact Wp.jump (WpD.mono _) rfl (ih x1 x2 (x3 + ((σ.2.2.1 85 0 (x4).toNatClampNeg) * ((σ.2.2.1 84 0 (x4).toNatClampNeg) - x2))) (x4 + (1 : Int32)) σ h)

set_option maxRecDepth 100000 in
set_option maxHeartbeats 4000000 in
theorem T_X12_findsWell_b12 (e N : Nat)   (r : Unit) (τ : Mem) (Q : Pst) (hQ : Q (none) τ) : ∀ n, ∀ (x1 : Int32) (x2 : Int32) (σ : Mem), F_X12_findsWell_b12 N n x1 x2 σ = some (r, τ) → Wp (WpD (e + 0)) hcX12_findsWell Q (12, [some (.inr (.inr (12, 0))), some (.inl x1), some (.inl x2), none, none], []) σ := by
  intro n
  induction n with
  | zero => intro x1 x2 σ h; cases h
  | succ n ih =>
    intro x1 x2 σ h
    unfold F_X12_findsWell_b12 at h
    refine Wp.run (WpD.mono _) 1 (q := ((15, [some (.inr (.inr (12, 0))), some (.inl x1), some (.inl x2), none, none], [.inl (100 : Int32), .inl x2]), σ)) rfl ?_
    refine Wp.if2_ge (WpD.mono _) rfl rfl (fun hc => ?_) (fun hc => ?_)
    · have h := (if_pos hc).symm.trans h
      show Wp (WpD (e + 0)) hcX12_findsWell Q (126, [some (.inr (.inr (12, 0))), some (.inl x1), some (.inl x2), none, none], []) σ
      obtain ⟨rfl, rfl⟩ := ret_inj h
      exact Wp.ret (WpD.mono _) rfl hQ
    · have h := (if_neg hc).symm.trans h
      show Wp (WpD (e + 0)) hcX12_findsWell Q (18, [some (.inr (.inr (12, 0))), some (.inl x1), some (.inl x2), none, none], []) σ
      refine Wp.run (WpD.mono _) 3 (q := ((23, [some (.inr (.inr (12, 0))), some (.inl x1), some (.inl x2), some (.inl (0 : Int32)), some (.inl (0 : Int32))], []), σ)) rfl ?_
      exact Wp.jump (WpD.mono _) rfl ((T_X12_findsWell_b23 e N (F_X12_findsWell_b12 N n) r τ Q hQ ih N) x1 x2 (0 : Int32) (0 : Int32) σ h)

set_option maxRecDepth 100000 in
set_option maxHeartbeats 4000000 in
theorem T_X12_findsWell (e N : Nat)  (a1 : Int32) (σ : Mem) (r : Unit) (τ : Mem) (Q : Pst) (h : F_X12_findsWell N a1 σ = some (r, τ)) (hQ : Q (none) τ) : WpD (e + 1) mX12_findsWell [.inr (.inr (12, 0)), .inl a1] σ Q := by
  refine WpD.of (d := e + 0) (Nat.le_of_ble_eq_true rfl) (Nat.le_of_ble_eq_true rfl) ?_
  show Wp (WpD (e + 0)) hcX12_findsWell Q (0, [some (.inr (.inr (12, 0))), some (.inl a1), none, none, none], []) σ
  unfold F_X12_findsWell at h
  refine Wp.run (WpD.mono _) 7 (q := ((12, [some (.inr (.inr (12, 0))), some (.inl a1), some (.inl (0 : Int32)), none, none], []), ((hwU2 (hwU2 σ.1 12 59 (Int32.ofInt (-1))) 12 60 (0 : Int32)), σ.2.1, σ.2.2.1, σ.2.2.2.1, σ.2.2.2.2))) rfl ?_
  exact Wp.jump (WpD.mono _) rfl ((T_X12_findsWell_b12 e N  r τ Q hQ  N) a1 (0 : Int32) ((hwU2 (hwU2 σ.1 12 59 (Int32.ofInt (-1))) 12 60 (0 : Int32)), σ.2.1, σ.2.2.1, σ.2.2.2.1, σ.2.2.2.2) h)

set_option maxRecDepth 100000 in
set_option maxHeartbeats 4000000 in
theorem T_X12_first (e N : Nat)  (a1 : Int32) (a2 : Int32) (a3 : Int32) (a4 : Int32) (a5 : Int32) (σ : Mem) (r : Unit) (τ : Mem) (Q : Pst) (h : F_X12_first N a1 a2 a3 a4 a5 σ = some (r, τ)) (hQ : Q (none) τ) : WpD (e + 1) mX12_first [.inr (.inr (12, 0)), .inl a1, .inl a2, .inl a3, .inl a4, .inl a5] σ Q := by
  refine WpD.of (d := e + 0) (Nat.le_of_ble_eq_true rfl) (Nat.le_of_ble_eq_true rfl) ?_
  show Wp (WpD (e + 0)) hcX12_first Q (0, [some (.inr (.inr (12, 0))), some (.inl a1), some (.inl a2), some (.inl a3), some (.inl a4), some (.inl a5)], []) σ
  unfold F_X12_first at h
  refine Wp.run (WpD.mono _) 3 (q := ((6, [some (.inr (.inr (12, 0))), some (.inl a1), some (.inl a2), some (.inl a3), some (.inl a4), some (.inl a5)], [.inl a2, .inl a1, .inr (.inr (87, 0))]), σ)) rfl ?_
  obtain ⟨hc, h⟩ := ite_nn h
  refine Wp.X_ist (WpD.mono _) rfl rfl hc ?_
  show Wp (WpD (e + 0)) hcX12_first Q (7, [some (.inr (.inr (12, 0))), some (.inl a1), some (.inl a2), some (.inl a3), some (.inl a4), some (.inl a5)], []) (σ.1, σ.2.1, (hwU3 σ.2.2.1 87 0 (a1).toNatClampNeg a2), σ.2.2.2.1, σ.2.2.2.2)
  refine Wp.run (WpD.mono _) 5 (q := ((15, [some (.inr (.inr (12, 0))), some (.inl a1), some (.inl a2), some (.inl a3), some (.inl a4), some (.inl a5)], [.inl a3, .inl (a1 + (1 : Int32)), .inr (.inr (87, 0))]), (σ.1, σ.2.1, (hwU3 σ.2.2.1 87 0 (a1).toNatClampNeg a2), σ.2.2.2.1, σ.2.2.2.2))) rfl ?_
  obtain ⟨hc, h⟩ := ite_nn h
  refine Wp.X_ist (WpD.mono _) rfl rfl hc ?_
  show Wp (WpD (e + 0)) hcX12_first Q (16, [some (.inr (.inr (12, 0))), some (.inl a1), some (.inl a2), some (.inl a3), some (.inl a4), some (.inl a5)], []) (σ.1, σ.2.1, (hwU3 (hwU3 σ.2.2.1 87 0 (a1).toNatClampNeg a2) 87 0 ((a1 + (1 : Int32))).toNatClampNeg a3), σ.2.2.2.1, σ.2.2.2.2)
  refine Wp.run (WpD.mono _) 5 (q := ((25, [some (.inr (.inr (12, 0))), some (.inl a1), some (.inl a2), some (.inl a3), some (.inl a4), some (.inl a5)], [.inl a4, .inl (a1 + (2 : Int32)), .inr (.inr (87, 0))]), (σ.1, σ.2.1, (hwU3 (hwU3 σ.2.2.1 87 0 (a1).toNatClampNeg a2) 87 0 ((a1 + (1 : Int32))).toNatClampNeg a3), σ.2.2.2.1, σ.2.2.2.2))) rfl ?_
  obtain ⟨hc, h⟩ := ite_nn h
  refine Wp.X_ist (WpD.mono _) rfl rfl hc ?_
  show Wp (WpD (e + 0)) hcX12_first Q (26, [some (.inr (.inr (12, 0))), some (.inl a1), some (.inl a2), some (.inl a3), some (.inl a4), some (.inl a5)], []) (σ.1, σ.2.1, (hwU3 (hwU3 (hwU3 σ.2.2.1 87 0 (a1).toNatClampNeg a2) 87 0 ((a1 + (1 : Int32))).toNatClampNeg a3) 87 0 ((a1 + (2 : Int32))).toNatClampNeg a4), σ.2.2.2.1, σ.2.2.2.2)
  refine Wp.run (WpD.mono _) 5 (q := ((35, [some (.inr (.inr (12, 0))), some (.inl a1), some (.inl a2), some (.inl a3), some (.inl a4), some (.inl a5)], [.inl a5, .inl (a1 + (3 : Int32)), .inr (.inr (87, 0))]), (σ.1, σ.2.1, (hwU3 (hwU3 (hwU3 σ.2.2.1 87 0 (a1).toNatClampNeg a2) 87 0 ((a1 + (1 : Int32))).toNatClampNeg a3) 87 0 ((a1 + (2 : Int32))).toNatClampNeg a4), σ.2.2.2.1, σ.2.2.2.2))) rfl ?_
  obtain ⟨hc, h⟩ := ite_nn h
  refine Wp.X_ist (WpD.mono _) rfl rfl hc ?_
  show Wp (WpD (e + 0)) hcX12_first Q (36, [some (.inr (.inr (12, 0))), some (.inl a1), some (.inl a2), some (.inl a3), some (.inl a4), some (.inl a5)], []) (σ.1, σ.2.1, (hwU3 (hwU3 (hwU3 (hwU3 σ.2.2.1 87 0 (a1).toNatClampNeg a2) 87 0 ((a1 + (1 : Int32))).toNatClampNeg a3) 87 0 ((a1 + (2 : Int32))).toNatClampNeg a4) 87 0 ((a1 + (3 : Int32))).toNatClampNeg a5), σ.2.2.2.1, σ.2.2.2.2)
  obtain ⟨rfl, rfl⟩ := ret_inj h
  exact Wp.ret (WpD.mono _) rfl hQ

set_option maxRecDepth 100000 in
set_option maxHeartbeats 4000000 in
theorem T_X12_learns_b92 (e N : Nat)  (k17 : Int32 → Int64 → Int32 → Int32 → Mem → Option (Int64 × Mem)) (r : Int64) (τ : Mem) (Q : Pst) (hQ : Q (some (.inr (.inl r))) τ) (hk17 : ∀ (x1 : Int32) (x2 : Int64) (x4 : Int32) (x5 : Int32) (σ : Mem), k17 x1 x2 x4 x5 σ = some (r, τ) → Wp (WpD (e + 24)) hcX12_learns Q (17, [some (.inr (.inr (12, 0))), some (.inl x1), some (.inr (.inl x2)), none, some (.inl x4), some (.inl x5), none, none, none, none, none, none], []) σ) : ∀ n, ∀ (x1 : Int32) (x2 : Int64) (x4 : Int32) (x5 : Int32) (x6 : Int64) (x8 : Int64) (x10 : Int32) (x11 : Int32) (σ : Mem), F_X12_learns_b92 N k17 n x1 x2 x4 x5 x6 x8 x10 x11 σ = some (r, τ) → Wp (WpD (e + 24)) hcX12_learns Q (92, [some (.inr (.inr (12, 0))), some (.inl x1), some (.inr (.inl x2)), none, some (.inl x4), some (.inl x5), some (.inr (.inl x6)), none, some (.inr (.inl x8)), none, some (.inl x10), some (.inl x11)], []) σ := by
  intro n
  induction n with
  | zero => intro x1 x2 x4 x5 x6 x8 x10 x11 σ h; cases h
  | succ n ih =>
    intro x1 x2 x4 x5 x6 x8 x10 x11 σ h
    unfold F_X12_learns_b92 at h
    refine Wp.run (WpD.mono _) 2 (q := ((98, [some (.inr (.inr (12, 0))), some (.inl x1), some (.inr (.inl x2)), none, some (.inl x4), some (.inl x5), some (.inr (.inl x6)), none, some (.inr (.inl x8)), none, some (.inl x10), some (.inl x11)], [.inl (σ.1 12 5), .inl x11]), σ)) rfl ?_
    refine Wp.if2_ge (WpD.mono _) rfl rfl (fun hc => ?_) (fun hc => ?_)
    · have h := (if_pos hc).symm.trans h
      show Wp (WpD (e + 24)) hcX12_learns Q (154, [some (.inr (.inr (12, 0))), some (.inl x1), some (.inr (.inl x2)), none, some (.inl x4), some (.inl x5), some (.inr (.inl x6)), none, some (.inr (.inl x8)), none, some (.inl x10), some (.inl x11)], []) σ
      refine Wp.run (WpD.mono _) 4 (q := ((160, [some (.inr (.inr (12, 0))), some (.inl x1), some (.inr (.inl x2)), none, some (.inl x4), some (.inl x5), some (.inr (.inl x6)), none, some (.inr (.inl x8)), none, some (.inl x10), some (.inl x11)], [.inl (0 : Int32), .inl (1 : Int32), .inr (.inr (12, 0)), .inr (.inl x6), .inr (.inl x2)]), σ)) rfl ?_
      obtain ⟨q6, hb, h⟩ := bind_some h
      refine Wp.call (WpD.mono _) rfl (T_X12_valueOf (e + 0) N (1 : Int32) (0 : Int32) σ _ _ _ hb ?_)
      show Wp (WpD (e + 24)) hcX12_learns Q (163, [some (.inr (.inr (12, 0))), some (.inl x1), some (.inr (.inl x2)), none, some (.inl x4), some (.inl x5), some (.inr (.inl x6)), none, some (.inr (.inl x8)), none, some (.inl x10), some (.inl x11)], [.inr (.inl q6.1), .inr (.inl x6), .inr (.inl x2)]) q6.2
      refine Wp.run (WpD.mono _) 8 (q := ((17, [some (.inr (.inr (12, 0))), some (.inl x1), some (.inr (.inl (x2 + ((x6 * (q6.1 - x8)) / (1000000 : Int64))))), none, some (.inl x4), some (.inl (x5 + (1 : Int32))), none, none, none, none, none, none], []), q6.2)) rfl ?_
      exact Wp.jump (WpD.mono _) rfl (hk17 x1 (x2 + ((x6 * (q6.1 - x8)) / (1000000 : Int64))) x4 (x5 + (1 : Int32)) q6.2 h)
    · have h := (if_neg hc).symm.trans h
      show Wp (WpD (e + 24)) hcX12_learns Q (101, [some (.inr (.inr (12, 0))), some (.inl x1), some (.inr (.inl x2)), none, some (.inl x4), some (.inl x5), some (.inr (.inl x6)), none, some (.inr (.inl x8)), none, some (.inl x10), some (.inl x11)], []) σ
      refine Wp.run (WpD.mono _) 5 (q := ((113, [some (.inr (.inr (12, 0))), some (.inl x1), some (.inr (.inl x2)), none, some (.inl x4), some (.inl x5), some (.inr (.inl x6)), none, some (.inr (.inl x8)), none, some (.inl x10), some (.inl x11)], [.inl x11, .inr (.inr (102, 0)), .inl x11, .inr (.inr (102, 0))]), σ)) rfl ?_
      obtain ⟨hc, h⟩ := ite_nn h
      refine Wp.X_lld (WpD.mono _) rfl rfl hc ?_
      show Wp (WpD (e + 24)) hcX12_learns Q (114, [some (.inr (.inr (12, 0))), some (.inl x1), some (.inr (.inl x2)), none, some (.inl x4), some (.inl x5), some (.inr (.inl x6)), none, some (.inr (.inl x8)), none, some (.inl x10), some (.inl x11)], [.inr (.inl (σ.2.2.2.1 102 0 (x11).toNatClampNeg)), .inl x11, .inr (.inr (102, 0))]) σ
      refine Wp.run (WpD.mono _) 9 (q := ((130, [some (.inr (.inr (12, 0))), some (.inl x1), some (.inr (.inl x2)), none, some (.inl x4), some (.inl x5), some (.inr (.inl x6)), none, some (.inr (.inl x8)), none, some (.inl x10), some (.inl x11)], [.inl ((30 : Int32) + x11), .inr (.inr (103, 0)), .inr (.inl ((σ.2.2.2.1 102 0 (x11).toNatClampNeg) * ((100 : Int32) - x10).toInt64)), .inl x11, .inr (.inr (102, 0))]), σ)) rfl ?_
      obtain ⟨hc, h⟩ := ite_nn h
      refine Wp.X_lld (WpD.mono _) rfl rfl hc ?_
      show Wp (WpD (e + 24)) hcX12_learns Q (131, [some (.inr (.inr (12, 0))), some (.inl x1), some (.inr (.inl x2)), none, some (.inl x4), some (.inl x5), some (.inr (.inl x6)), none, some (.inr (.inl x8)), none, some (.inl x10), some (.inl x11)], [.inr (.inl (σ.2.2.2.1 103 0 (((30 : Int32) + x11)).toNatClampNeg)), .inr (.inl ((σ.2.2.2.1 102 0 (x11).toNatClampNeg) * ((100 : Int32) - x10).toInt64)), .inl x11, .inr (.inr (102, 0))]) σ
      refine Wp.run (WpD.mono _) 2 (q := ((137, [some (.inr (.inr (12, 0))), some (.inl x1), some (.inr (.inl x2)), none, some (.inl x4), some (.inl x5), some (.inr (.inl x6)), none, some (.inr (.inl x8)), none, some (.inl x10), some (.inl x11)], [.inr (.inl x6), .inr (.inl ((σ.2.2.2.1 103 0 (((30 : Int32) + x11)).toNatClampNeg) * (1000000 : Int64))), .inr (.inl ((σ.2.2.2.1 102 0 (x11).toNatClampNeg) * ((100 : Int32) - x10).toInt64)), .inl x11, .inr (.inr (102, 0))]), σ)) rfl ?_
      obtain ⟨hc, h⟩ := ite_nn h
      refine Wp.X_ldiv (WpD.mono _) rfl hc ?_
      show Wp (WpD (e + 24)) hcX12_learns Q (138, [some (.inr (.inr (12, 0))), some (.inl x1), some (.inr (.inl x2)), none, some (.inl x4), some (.inl x5), some (.inr (.inl x6)), none, some (.inr (.inl x8)), none, some (.inl x10), some (.inl x11)], [.inr (.inl (((σ.2.2.2.1 103 0 (((30 : Int32) + x11)).toNatClampNeg) * (1000000 : Int64)) / x6)), .inr (.inl ((σ.2.2.2.1 102 0 (x11).toNatClampNeg) * ((100 : Int32) - x10).toInt64)), .inl x11, .inr (.inr (102, 0))]) σ
      refine Wp.run (WpD.mono _) 5 (q := ((147, [some (.inr (.inr (12, 0))), some (.inl x1), some (.inr (.inl x2)), none, some (.inl x4), some (.inl x5), some (.inr (.inl x6)), none, some (.inr (.inl x8)), none, some (.inl x10), some (.inl x11)], [.inr (.inl ((((σ.2.2.2.1 102 0 (x11).toNatClampNeg) * ((100 : Int32) - x10).toInt64) + ((((σ.2.2.2.1 103 0 (((30 : Int32) + x11)).toNatClampNeg) * (1000000 : Int64)) / x6) * x10.toInt64)) / (100 : Int64))), .inl x11, .inr (.inr (102, 0))]), σ)) rfl ?_
      obtain ⟨hc, h⟩ := ite_nn h
      refine Wp.X_lst (WpD.mono _) rfl rfl hc ?_
      show Wp (WpD (e + 24)) hcX12_learns Q (148, [some (.inr (.inr (12, 0))), some (.inl x1), some (.inr (.inl x2)), none, some (.inl x4), some (.inl x5), some (.inr (.inl x6)), none, some (.inr (.inl x8)), none, some (.inl x10), some (.inl x11)], []) (σ.1, σ.2.1, σ.2.2.1, (hwU3 σ.2.2.2.1 102 0 (x11).toNatClampNeg ((((σ.2.2.2.1 102 0 (x11).toNatClampNeg) * ((100 : Int32) - x10).toInt64) + ((((σ.2.2.2.1 103 0 (((30 : Int32) + x11)).toNatClampNeg) * (1000000 : Int64)) / x6) * x10.toInt64)) / (100 : Int64))), σ.2.2.2.2)
      refine Wp.run (WpD.mono _) 1 (q := ((92, [some (.inr (.inr (12, 0))), some (.inl x1), some (.inr (.inl x2)), none, some (.inl x4), some (.inl x5), some (.inr (.inl x6)), none, some (.inr (.inl x8)), none, some (.inl x10), some (.inl (x11 + (1 : Int32)))], []), (σ.1, σ.2.1, σ.2.2.1, (hwU3 σ.2.2.2.1 102 0 (x11).toNatClampNeg ((((σ.2.2.2.1 102 0 (x11).toNatClampNeg) * ((100 : Int32) - x10).toInt64) + ((((σ.2.2.2.1 103 0 (((30 : Int32) + x11)).toNatClampNeg) * (1000000 : Int64)) / x6) * x10.toInt64)) / (100 : Int64))), σ.2.2.2.2))) rfl ?_
      exact Wp.jump (WpD.mono _) rfl (ih x1 x2 x4 x5 x6 x8 x10 (x11 + (1 : Int32)) (σ.1, σ.2.1, σ.2.2.1, (hwU3 σ.2.2.2.1 102 0 (x11).toNatClampNeg ((((σ.2.2.2.1 102 0 (x11).toNatClampNeg) * ((100 : Int32) - x10).toInt64) + ((((σ.2.2.2.1 103 0 (((30 : Int32) + x11)).toNatClampNeg) * (1000000 : Int64)) / x6) * x10.toInt64)) / (100 : Int64))), σ.2.2.2.2) h)

set_option maxRecDepth 100000 in
set_option maxHeartbeats 4000000 in
theorem T_X12_learns_b17 (e N : Nat)  (k5 : Int32 → Int64 → Int32 → Mem → Option (Int64 × Mem)) (r : Int64) (τ : Mem) (Q : Pst) (hQ : Q (some (.inr (.inl r))) τ) (hk5 : ∀ (x1 : Int32) (x2 : Int64) (x4 : Int32) (σ : Mem), k5 x1 x2 x4 σ = some (r, τ) → Wp (WpD (e + 24)) hcX12_learns Q (5, [some (.inr (.inr (12, 0))), some (.inl x1), some (.inr (.inl x2)), none, some (.inl x4), none, none, none, none, none, none, none], []) σ) : ∀ n, ∀ (x1 : Int32) (x2 : Int64) (x4 : Int32) (x5 : Int32) (σ : Mem), F_X12_learns_b17 N k5 n x1 x2 x4 x5 σ = some (r, τ) → Wp (WpD (e + 24)) hcX12_learns Q (17, [some (.inr (.inr (12, 0))), some (.inl x1), some (.inr (.inl x2)), none, some (.inl x4), some (.inl x5), none, none, none, none, none, none], []) σ := by
  intro n
  induction n with
  | zero => intro x1 x2 x4 x5 σ h; cases h
  | succ n ih =>
    intro x1 x2 x4 x5 σ h
    unfold F_X12_learns_b17 at h
    refine Wp.run (WpD.mono _) 1 (q := ((20, [some (.inr (.inr (12, 0))), some (.inl x1), some (.inr (.inl x2)), none, some (.inl x4), some (.inl x5), none, none, none, none, none, none], [.inl (3 : Int32), .inl x5]), σ)) rfl ?_
    refine Wp.if2_ge (WpD.mono _) rfl rfl (fun hc => ?_) (fun hc => ?_)
    · have h := (if_pos hc).symm.trans h
      show Wp (WpD (e + 24)) hcX12_learns Q (179, [some (.inr (.inr (12, 0))), some (.inl x1), some (.inr (.inl x2)), none, some (.inl x4), some (.inl x5), none, none, none, none, none, none], []) σ
      refine Wp.run (WpD.mono _) 1 (q := ((5, [some (.inr (.inr (12, 0))), some (.inl x1), some (.inr (.inl x2)), none, some (.inl (x4 + (1 : Int32))), none, none, none, none, none, none, none], []), σ)) rfl ?_
      exact Wp.jump (WpD.mono _) rfl (hk5 x1 x2 (x4 + (1 : Int32)) σ h)
    · have h := (if_neg hc).symm.trans h
      show Wp (WpD (e + 24)) hcX12_learns Q (23, [some (.inr (.inr (12, 0))), some (.inl x1), some (.inr (.inl x2)), none, some (.inl x4), some (.inl x5), none, none, none, none, none, none], []) σ
      refine Wp.run (WpD.mono _) 1 (q := ((26, [some (.inr (.inr (12, 0))), some (.inl x1), some (.inr (.inl x2)), none, some (.inl x4), some (.inl x5), none, none, none, none, none, none], [.inl x1, .inl x4]), σ)) rfl ?_
      refine Wp.if2_eq (WpD.mono _) rfl rfl (fun hc => ?_) (fun hc => ?_)
      · have h := (if_pos hc).symm.trans h
        show Wp (WpD (e + 24)) hcX12_learns Q (179, [some (.inr (.inr (12, 0))), some (.inl x1), some (.inr (.inl x2)), none, some (.inl x4), some (.inl x5), none, none, none, none, none, none], []) σ
        refine Wp.run (WpD.mono _) 1 (q := ((5, [some (.inr (.inr (12, 0))), some (.inl x1), some (.inr (.inl x2)), none, some (.inl (x4 + (1 : Int32))), none, none, none, none, none, none, none], []), σ)) rfl ?_
        exact Wp.jump (WpD.mono _) rfl (hk5 x1 x2 (x4 + (1 : Int32)) σ h)
      · have h := (if_neg hc).symm.trans h
        show Wp (WpD (e + 24)) hcX12_learns Q (29, [some (.inr (.inr (12, 0))), some (.inl x1), some (.inr (.inl x2)), none, some (.inl x4), some (.inl x5), none, none, none, none, none, none], []) σ
        refine Wp.run (WpD.mono _) 2 (q := ((33, [some (.inr (.inr (12, 0))), some (.inl x1), some (.inr (.inl x2)), none, some (.inl x4), some (.inl x5), none, none, none, none, none, none], [.inl (6 : Int32), .inl x1, .inr (.inr (12, 0))]), σ)) rfl ?_
        obtain ⟨q1, hb, h⟩ := bind_some h
        refine Wp.call (WpD.mono _) rfl (T_X12_begins (e + 23) N x1 (6 : Int32) σ _ _ _ hb ?_)
        show Wp (WpD (e + 24)) hcX12_learns Q (36, [some (.inr (.inr (12, 0))), some (.inl x1), some (.inr (.inl x2)), none, some (.inl x4), some (.inl x5), none, none, none, none, none, none], []) q1.2
        refine Wp.run (WpD.mono _) 3 (q := ((42, [some (.inr (.inr (12, 0))), some (.inl x1), some (.inr (.inl x2)), none, some (.inl x4), some (.inl x5), none, none, none, none, none, none], [.inl x5, .inl (1 : Int32), .inl (6 : Int32), .inr (.inr (12, 0))]), q1.2)) rfl ?_
        obtain ⟨q2, hb, h⟩ := bind_some h
        refine Wp.call (WpD.mono _) rfl (T_X12_dries (e + 20) N (6 : Int32) (1 : Int32) x5 q1.2 _ _ _ hb ?_)
        show Wp (WpD (e + 24)) hcX12_learns Q (45, [some (.inr (.inr (12, 0))), some (.inl x1), some (.inr (.inl x2)), none, some (.inl x4), some (.inl x5), none, none, none, none, none, none], [.inr (.inl q2.1)]) q2.2
        refine Wp.run (WpD.mono _) 3 (q := ((51, [some (.inr (.inr (12, 0))), some (.inl x1), some (.inr (.inl x2)), none, some (.inl x4), some (.inl x5), some (.inr (.inl q2.1)), none, none, none, none, none], [.inl (lg_cmp q2.1 (0 : Int64))]), q2.2)) rfl ?_
        refine Wp.if0_le (WpD.mono _) rfl rfl (fun hc => ?_) (fun hc => ?_)
        · have h := (if_pos hc).symm.trans h
          show Wp (WpD (e + 24)) hcX12_learns Q (173, [some (.inr (.inr (12, 0))), some (.inl x1), some (.inr (.inl x2)), none, some (.inl x4), some (.inl x5), some (.inr (.inl q2.1)), none, none, none, none, none], []) q2.2
          refine Wp.run (WpD.mono _) 1 (q := ((17, [some (.inr (.inr (12, 0))), some (.inl x1), some (.inr (.inl x2)), none, some (.inl x4), some (.inl (x5 + (1 : Int32))), none, none, none, none, none, none], []), q2.2)) rfl ?_
          exact Wp.jump (WpD.mono _) rfl (ih x1 x2 x4 (x5 + (1 : Int32)) q2.2 h)
        · have h := (if_neg hc).symm.trans h
          show Wp (WpD (e + 24)) hcX12_learns Q (54, [some (.inr (.inr (12, 0))), some (.inl x1), some (.inr (.inl x2)), none, some (.inl x4), some (.inl x5), some (.inr (.inl q2.1)), none, none, none, none, none], []) q2.2
          refine Wp.run (WpD.mono _) 2 (q := ((58, [some (.inr (.inr (12, 0))), some (.inl x1), some (.inr (.inl x2)), none, some (.inl x4), some (.inl x5), some (.inr (.inl q2.1)), none, none, none, none, none], [.inl (0 : Int32), .inl x4, .inr (.inr (12, 0))]), q2.2)) rfl ?_
          obtain ⟨q3, hb, h⟩ := bind_some h
          refine Wp.call (WpD.mono _) rfl (T_X12_begins (e + 23) N x4 (0 : Int32) q2.2 _ _ _ hb ?_)
          show Wp (WpD (e + 24)) hcX12_learns Q (61, [some (.inr (.inr (12, 0))), some (.inl x1), some (.inr (.inl x2)), none, some (.inl x4), some (.inl x5), some (.inr (.inl q2.1)), none, none, none, none, none], []) q3.2
          refine Wp.run (WpD.mono _) 2 (q := ((64, [some (.inr (.inr (12, 0))), some (.inl x1), some (.inr (.inl x2)), none, some (.inl x4), some (.inl x5), some (.inr (.inl q2.1)), none, none, none, none, none], [.inl (0 : Int32), .inl (1 : Int32), .inr (.inr (12, 0))]), q3.2)) rfl ?_
          obtain ⟨q4, hb, h⟩ := bind_some h
          refine Wp.call (WpD.mono _) rfl (T_X12_valueOf (e + 0) N (1 : Int32) (0 : Int32) q3.2 _ _ _ hb ?_)
          show Wp (WpD (e + 24)) hcX12_learns Q (67, [some (.inr (.inr (12, 0))), some (.inl x1), some (.inr (.inl x2)), none, some (.inl x4), some (.inl x5), some (.inr (.inl q2.1)), none, none, none, none, none], [.inr (.inl q4.1)]) q4.2
          refine Wp.run (WpD.mono _) 3 (q := ((73, [some (.inr (.inr (12, 0))), some (.inl x1), some (.inr (.inl x2)), none, some (.inl x4), some (.inl x5), some (.inr (.inl q2.1)), none, some (.inr (.inl q4.1)), none, none, none], [.inl (0 : Int32), .inl x4, .inr (.inr (12, 0))]), q4.2)) rfl ?_
          obtain ⟨q5, hb, h⟩ := bind_some h
          refine Wp.call (WpD.mono _) rfl (T_X12_begins (e + 23) N x4 (0 : Int32) q4.2 _ _ _ hb ?_)
          show Wp (WpD (e + 24)) hcX12_learns Q (76, [some (.inr (.inr (12, 0))), some (.inl x1), some (.inr (.inl x2)), none, some (.inl x4), some (.inl x5), some (.inr (.inl q2.1)), none, some (.inr (.inl q4.1)), none, none, none], []) q5.2
          refine Wp.run (WpD.mono _) 6 (q := ((86, [some (.inr (.inr (12, 0))), some (.inl x1), some (.inr (.inl x2)), none, some (.inl x4), some (.inl x5), some (.inr (.inl q2.1)), none, some (.inr (.inl q4.1)), none, none, none], [.inl (((4 : Int32) * x1) + x4), .inr (.inr (80, 0))]), q5.2)) rfl ?_
          obtain ⟨hc, h⟩ := ite_nn h
          refine Wp.X_ild1 (WpD.mono _) rfl rfl hc ?_
          show Wp (WpD (e + 24)) hcX12_learns Q (87, [some (.inr (.inr (12, 0))), some (.inl x1), some (.inr (.inl x2)), none, some (.inl x4), some (.inl x5), some (.inr (.inl q2.1)), none, some (.inr (.inl q4.1)), none, none, none], [.inl (q5.2.2.2.1 80 0 ((((4 : Int32) * x1) + x4)).toNatClampNeg)]) q5.2
          refine Wp.run (WpD.mono _) 2 (q := ((92, [some (.inr (.inr (12, 0))), some (.inl x1), some (.inr (.inl x2)), none, some (.inl x4), some (.inl x5), some (.inr (.inl q2.1)), none, some (.inr (.inl q4.1)), none, some (.inl (q5.2.2.2.1 80 0 ((((4 : Int32) * x1) + x4)).toNatClampNeg)), some (.inl (0 : Int32))], []), q5.2)) rfl ?_
          exact Wp.jump (WpD.mono _) rfl ((T_X12_learns_b92 e N (F_X12_learns_b17 N k5 n) r τ Q hQ ih N) x1 x2 x4 x5 q2.1 q4.1 (q5.2.2.2.1 80 0 ((((4 : Int32) * x1) + x4)).toNatClampNeg) (0 : Int32) q5.2 h)

set_option maxRecDepth 100000 in
set_option maxHeartbeats 4000000 in
theorem T_X12_learns_b5 (e N : Nat)   (r : Int64) (τ : Mem) (Q : Pst) (hQ : Q (some (.inr (.inl r))) τ) : ∀ n, ∀ (x1 : Int32) (x2 : Int64) (x4 : Int32) (σ : Mem), F_X12_learns_b5 N n x1 x2 x4 σ = some (r, τ) → Wp (WpD (e + 24)) hcX12_learns Q (5, [some (.inr (.inr (12, 0))), some (.inl x1), some (.inr (.inl x2)), none, some (.inl x4), none, none, none, none, none, none, none], []) σ := by
  intro n
  induction n with
  | zero => intro x1 x2 x4 σ h; cases h
  | succ n ih =>
    intro x1 x2 x4 σ h
    unfold F_X12_learns_b5 at h
    refine Wp.run (WpD.mono _) 2 (q := ((11, [some (.inr (.inr (12, 0))), some (.inl x1), some (.inr (.inl x2)), none, some (.inl x4), none, none, none, none, none, none, none], [.inl (σ.1 12 10), .inl x4]), σ)) rfl ?_
    refine Wp.if2_ge (WpD.mono _) rfl rfl (fun hc => ?_) (fun hc => ?_)
    · have h := (if_pos hc).symm.trans h
      show Wp (WpD (e + 24)) hcX12_learns Q (185, [some (.inr (.inr (12, 0))), some (.inl x1), some (.inr (.inl x2)), none, some (.inl x4), none, none, none, none, none, none, none], []) σ
      refine Wp.run (WpD.mono _) 0 (q := ((186, [some (.inr (.inr (12, 0))), some (.inl x1), some (.inr (.inl x2)), none, some (.inl x4), none, none, none, none, none, none, none], [.inr (.inl x2)]), σ)) rfl ?_
      obtain ⟨rfl, rfl⟩ := ret_inj h
      exact Wp.ret (WpD.mono _) rfl hQ
    · have h := (if_neg hc).symm.trans h
      show Wp (WpD (e + 24)) hcX12_learns Q (14, [some (.inr (.inr (12, 0))), some (.inl x1), some (.inr (.inl x2)), none, some (.inl x4), none, none, none, none, none, none, none], []) σ
      refine Wp.run (WpD.mono _) 1 (q := ((17, [some (.inr (.inr (12, 0))), some (.inl x1), some (.inr (.inl x2)), none, some (.inl x4), some (.inl (0 : Int32)), none, none, none, none, none, none], []), σ)) rfl ?_
      exact Wp.jump (WpD.mono _) rfl ((T_X12_learns_b17 e N (F_X12_learns_b5 N n) r τ Q hQ ih N) x1 x2 x4 (0 : Int32) σ h)

set_option maxRecDepth 100000 in
set_option maxHeartbeats 4000000 in
theorem T_X12_learns (e N : Nat)  (a1 : Int32) (σ : Mem) (r : Int64) (τ : Mem) (Q : Pst) (h : F_X12_learns N a1 σ = some (r, τ)) (hQ : Q (some (.inr (.inl r))) τ) : WpD (e + 25) mX12_learns [.inr (.inr (12, 0)), .inl a1] σ Q := by
  refine WpD.of (d := e + 24) (Nat.le_of_ble_eq_true rfl) (Nat.le_of_ble_eq_true rfl) ?_
  show Wp (WpD (e + 24)) hcX12_learns Q (0, [some (.inr (.inr (12, 0))), some (.inl a1), none, none, none, none, none, none, none, none, none, none], []) σ
  unfold F_X12_learns at h
  refine Wp.run (WpD.mono _) 3 (q := ((5, [some (.inr (.inr (12, 0))), some (.inl a1), some (.inr (.inl (0 : Int64))), none, some (.inl (0 : Int32)), none, none, none, none, none, none, none], []), σ)) rfl ?_
  exact Wp.jump (WpD.mono _) rfl ((T_X12_learns_b5 e N  r τ Q hQ  N) a1 (0 : Int64) (0 : Int32) σ h)

set_option maxRecDepth 100000 in
set_option maxHeartbeats 4000000 in
theorem T_X12_first__b7 (e N : Nat)   (r : Int32) (τ : Mem) (Q : Pst) (hQ : Q (some (.inl r)) τ) : ∀ n, ∀ (x1 : Int32) (x2 : Int64) (x4 : Int32) (σ : Mem), F_X12_first__b7 N n x1 x2 x4 σ = some (r, τ) → Wp (WpD (e + 25)) hcX12_first_ Q (7, [some (.inr (.inr (12, 0))), some (.inl x1), some (.inr (.inl x2)), none, some (.inl x4), none, none], []) σ := by
  intro n
  induction n with
  | zero => intro x1 x2 x4 σ h; cases h
  | succ n ih =>
    intro x1 x2 x4 σ h
    unfold F_X12_first__b7 at h
    refine Wp.run (WpD.mono _) 2 (q := ((13, [some (.inr (.inr (12, 0))), some (.inl x1), some (.inr (.inl x2)), none, some (.inl x4), none, none], [.inl (σ.1 12 10), .inl x4]), σ)) rfl ?_
    refine Wp.if2_ge (WpD.mono _) rfl rfl (fun hc => ?_) (fun hc => ?_)
    · have h := (if_pos hc).symm.trans h
      show Wp (WpD (e + 25)) hcX12_first_ Q (66, [some (.inr (.inr (12, 0))), some (.inl x1), some (.inr (.inl x2)), none, some (.inl x4), none, none], []) σ
      refine Wp.run (WpD.mono _) 0 (q := ((67, [some (.inr (.inr (12, 0))), some (.inl x1), some (.inr (.inl x2)), none, some (.inl x4), none, none], [.inl x1]), σ)) rfl ?_
      obtain ⟨rfl, rfl⟩ := ret_inj h
      exact Wp.ret (WpD.mono _) rfl hQ
    · have h := (if_neg hc).symm.trans h
      show Wp (WpD (e + 25)) hcX12_first_ Q (16, [some (.inr (.inr (12, 0))), some (.inl x1), some (.inr (.inl x2)), none, some (.inl x4), none, none], []) σ
      refine Wp.run (WpD.mono _) 1 (q := ((19, [some (.inr (.inr (12, 0))), some (.inl x1), some (.inr (.inl x2)), none, some (.inl x4), none, none], [.inl x4, .inr (.inr (12, 0))]), σ)) rfl ?_
      obtain ⟨q1, hb, h⟩ := bind_some h
      refine Wp.call (WpD.mono _) rfl (T_X12_learns (e + 0) N x4 σ _ _ _ hb ?_)
      show Wp (WpD (e + 25)) hcX12_first_ Q (22, [some (.inr (.inr (12, 0))), some (.inl x1), some (.inr (.inl x2)), none, some (.inl x4), none, none], [.inr (.inl q1.1)]) q1.2
      refine Wp.run (WpD.mono _) 3 (q := ((28, [some (.inr (.inr (12, 0))), some (.inl x1), some (.inr (.inl x2)), none, some (.inl x4), some (.inr (.inl q1.1)), none], [.inl (0 : Int32), .inl x4, .inr (.inr (12, 0))]), q1.2)) rfl ?_
      obtain ⟨q2, hb, h⟩ := bind_some h
      refine Wp.call (WpD.mono _) rfl (T_X12_begins (e + 24) N x4 (0 : Int32) q1.2 _ _ _ hb ?_)
      show Wp (WpD (e + 25)) hcX12_first_ Q (31, [some (.inr (.inr (12, 0))), some (.inl x1), some (.inr (.inl x2)), none, some (.inl x4), some (.inr (.inl q1.1)), none], []) q2.2
      refine Wp.run (WpD.mono _) 3 (q := ((36, [some (.inr (.inr (12, 0))), some (.inl x1), some (.inr (.inl x2)), none, some (.inl x4), some (.inr (.inl q1.1)), none], [.inl (0 : Int32), .inl (1 : Int32), .inr (.inr (12, 0)), .inr (.inl q1.1)]), q2.2)) rfl ?_
      obtain ⟨q3, hb, h⟩ := bind_some h
      refine Wp.call (WpD.mono _) rfl (T_X12_valueOf (e + 1) N (1 : Int32) (0 : Int32) q2.2 _ _ _ hb ?_)
      show Wp (WpD (e + 25)) hcX12_first_ Q (39, [some (.inr (.inr (12, 0))), some (.inl x1), some (.inr (.inl x2)), none, some (.inl x4), some (.inr (.inl q1.1)), none], [.inr (.inl q3.1), .inr (.inl q1.1)]) q3.2
      refine Wp.run (WpD.mono _) 3 (q := ((44, [some (.inr (.inr (12, 0))), some (.inl x1), some (.inr (.inl x2)), none, some (.inl x4), some (.inr (.inl (q1.1 + q3.1))), none], [.inl (Int32.ofInt (-1)), .inl x1]), q3.2)) rfl ?_
      refine Wp.if2_eq (WpD.mono _) rfl rfl (fun hc => ?_) (fun hc => ?_)
      · have h := (if_pos hc).symm.trans h
        show Wp (WpD (e + 25)) hcX12_first_ Q (54, [some (.inr (.inr (12, 0))), some (.inl x1), some (.inr (.inl x2)), none, some (.inl x4), some (.inr (.inl (q1.1 + q3.1))), none], []) q3.2
        refine Wp.run (WpD.mono _) 5 (q := ((7, [some (.inr (.inr (12, 0))), some (.inl x4), some (.inr (.inl (q1.1 + q3.1))), none, some (.inl (x4 + (1 : Int32))), none, none], []), q3.2)) rfl ?_
        exact Wp.jump (WpD.mono _) rfl (ih x4 (q1.1 + q3.1) (x4 + (1 : Int32)) q3.2 h)
      · have h := (if_neg hc).symm.trans h
        show Wp (WpD (e + 25)) hcX12_first_ Q (47, [some (.inr (.inr (12, 0))), some (.inl x1), some (.inr (.inl x2)), none, some (.inl x4), some (.inr (.inl (q1.1 + q3.1))), none], []) q3.2
        refine Wp.run (WpD.mono _) 2 (q := ((51, [some (.inr (.inr (12, 0))), some (.inl x1), some (.inr (.inl x2)), none, some (.inl x4), some (.inr (.inl (q1.1 + q3.1))), none], [.inl (lg_cmp (q1.1 + q3.1) x2)]), q3.2)) rfl ?_
        refine Wp.if0_le (WpD.mono _) rfl rfl (fun hc => ?_) (fun hc => ?_)
        · have h := (if_pos hc).symm.trans h
          show Wp (WpD (e + 25)) hcX12_first_ Q (60, [some (.inr (.inr (12, 0))), some (.inl x1), some (.inr (.inl x2)), none, some (.inl x4), some (.inr (.inl (q1.1 + q3.1))), none], []) q3.2
          refine Wp.run (WpD.mono _) 1 (q := ((7, [some (.inr (.inr (12, 0))), some (.inl x1), some (.inr (.inl x2)), none, some (.inl (x4 + (1 : Int32))), none, none], []), q3.2)) rfl ?_
          exact Wp.jump (WpD.mono _) rfl (ih x1 x2 (x4 + (1 : Int32)) q3.2 h)
        · have h := (if_neg hc).symm.trans h
          show Wp (WpD (e + 25)) hcX12_first_ Q (54, [some (.inr (.inr (12, 0))), some (.inl x1), some (.inr (.inl x2)), none, some (.inl x4), some (.inr (.inl (q1.1 + q3.1))), none], []) q3.2
          refine Wp.run (WpD.mono _) 5 (q := ((7, [some (.inr (.inr (12, 0))), some (.inl x4), some (.inr (.inl (q1.1 + q3.1))), none, some (.inl (x4 + (1 : Int32))), none, none], []), q3.2)) rfl ?_
          exact Wp.jump (WpD.mono _) rfl (ih x4 (q1.1 + q3.1) (x4 + (1 : Int32)) q3.2 h)

set_option maxRecDepth 100000 in
set_option maxHeartbeats 4000000 in
theorem T_X12_first_ (e N : Nat)   (σ : Mem) (r : Int32) (τ : Mem) (Q : Pst) (h : F_X12_first_ N  σ = some (r, τ)) (hQ : Q (some (.inl r)) τ) : WpD (e + 26) mX12_first_ [.inr (.inr (12, 0))] σ Q := by
  refine WpD.of (d := e + 25) (Nat.le_of_ble_eq_true rfl) (Nat.le_of_ble_eq_true rfl) ?_
  show Wp (WpD (e + 25)) hcX12_first_ Q (0, [some (.inr (.inr (12, 0))), none, none, none, none, none, none], []) σ
  unfold F_X12_first_ at h
  refine Wp.run (WpD.mono _) 5 (q := ((7, [some (.inr (.inr (12, 0))), some (.inl (Int32.ofInt (-1))), some (.inr (.inl (0 : Int64))), none, some (.inl (0 : Int32)), none, none], []), σ)) rfl ?_
  exact Wp.jump (WpD.mono _) rfl ((T_X12_first__b7 e N  r τ Q hQ  N) (Int32.ofInt (-1)) (0 : Int64) (0 : Int32) σ h)

set_option maxRecDepth 100000 in
set_option maxHeartbeats 4000000 in
theorem T_X12_follow (e N : Nat)  (a1 : Int32) (a2 : Int32) (a3 : Int32) (σ : Mem) (r : Int32) (τ : Mem) (Q : Pst) (h : F_X12_follow N a1 a2 a3 σ = some (r, τ)) (hQ : Q (some (.inl r)) τ) : WpD (e + 3) mX12_follow [.inr (.inr (12, 0)), .inl a1, .inl a2, .inl a3] σ Q := by
  refine WpD.of (d := e + 2) (Nat.le_of_ble_eq_true rfl) (Nat.le_of_ble_eq_true rfl) ?_
  show Wp (WpD (e + 2)) hcX12_follow Q (0, [some (.inr (.inr (12, 0))), some (.inl a1), some (.inl a2), some (.inl a3), none], []) σ
  unfold F_X12_follow at h
  refine Wp.run (WpD.mono _) 1 (q := ((2, [some (.inr (.inr (12, 0))), some (.inl a1), some (.inl a2), some (.inl a3), none], [.inl a1, .inr (.inr (12, 0))]), σ)) rfl ?_
  obtain ⟨q1, hb, h⟩ := bind_some h
  refine Wp.call (WpD.mono _) rfl (T_X12_isLayer (e + 0) N a1 σ _ _ _ hb ?_)
  show Wp (WpD (e + 2)) hcX12_follow Q (5, [some (.inr (.inr (12, 0))), some (.inl a1), some (.inl a2), some (.inl a3), none], [.inl q1.1]) q1.2
  refine Wp.if0_eq (WpD.mono _) rfl rfl (fun hc => ?_) (fun hc => ?_)
  · have h := (if_pos hc).symm.trans h
    show Wp (WpD (e + 2)) hcX12_follow Q (16, [some (.inr (.inr (12, 0))), some (.inl a1), some (.inl a2), some (.inl a3), none], []) q1.2
    refine Wp.run (WpD.mono _) 0 (q := ((17, [none, none, none, none, none], [.inl (Int32.ofInt (-1))]), q1.2)) rfl ?_
    obtain ⟨rfl, rfl⟩ := ret_inj h
    exact Wp.ret (WpD.mono _) rfl hQ
  · have h := (if_neg hc).symm.trans h
    show Wp (WpD (e + 2)) hcX12_follow Q (8, [some (.inr (.inr (12, 0))), some (.inl a1), some (.inl a2), some (.inl a3), none], []) q1.2
    refine Wp.run (WpD.mono _) 1 (q := ((10, [some (.inr (.inr (12, 0))), some (.inl a1), some (.inl a2), some (.inl a3), none], [.inl a2, .inr (.inr (12, 0))]), q1.2)) rfl ?_
    obtain ⟨q2, hb, h⟩ := bind_some h
    refine Wp.call (WpD.mono _) rfl (T_X12_isLayer (e + 0) N a2 q1.2 _ _ _ hb ?_)
    show Wp (WpD (e + 2)) hcX12_follow Q (13, [some (.inr (.inr (12, 0))), some (.inl a1), some (.inl a2), some (.inl a3), none], [.inl q2.1]) q2.2
    refine Wp.if0_ne (WpD.mono _) rfl rfl (fun hc => ?_) (fun hc => ?_)
    · have h := (if_pos hc).symm.trans h
      show Wp (WpD (e + 2)) hcX12_follow Q (16, [some (.inr (.inr (12, 0))), some (.inl a1), some (.inl a2), some (.inl a3), none], []) q2.2
      refine Wp.run (WpD.mono _) 0 (q := ((17, [none, none, none, none, none], [.inl (Int32.ofInt (-1))]), q2.2)) rfl ?_
      obtain ⟨rfl, rfl⟩ := ret_inj h
      exact Wp.ret (WpD.mono _) rfl hQ
    · have h := (if_neg hc).symm.trans h
      show Wp (WpD (e + 2)) hcX12_follow Q (18, [some (.inr (.inr (12, 0))), some (.inl a1), some (.inl a2), some (.inl a3), none], []) q2.2
      refine Wp.run (WpD.mono _) 2 (q := ((22, [some (.inr (.inr (12, 0))), some (.inl a1), some (.inl a2), some (.inl a3), none], [.inl (9 : Int32), .inl (0 : Int32), .inl a3]), q2.2)) rfl ?_
      obtain ⟨q3, hb, h⟩ := bind_some h
      refine Wp.call (WpD.mono _) rfl (T_X12_in (e + 1) N a3 (0 : Int32) (9 : Int32) q2.2 _ _ _ hb ?_)
      show Wp (WpD (e + 2)) hcX12_follow Q (25, [some (.inr (.inr (12, 0))), some (.inl a1), some (.inl a2), some (.inl a3), none], [.inl q3.1]) q3.2
      refine Wp.if0_ne (WpD.mono _) rfl rfl (fun hc => ?_) (fun hc => ?_)
      · have h := (if_pos hc).symm.trans h
        show Wp (WpD (e + 2)) hcX12_follow Q (28, [some (.inr (.inr (12, 0))), some (.inl a1), some (.inl a2), some (.inl a3), none], []) q3.2
        refine Wp.run (WpD.mono _) 0 (q := ((30, [some (.inr (.inr (12, 0))), some (.inl a1), some (.inl a2), some (.inl a3), none], [.inl (Int32.ofInt (-2))]), q3.2)) rfl ?_
        obtain ⟨rfl, rfl⟩ := ret_inj h
        exact Wp.ret (WpD.mono _) rfl hQ
      · have h := (if_neg hc).symm.trans h
        show Wp (WpD (e + 2)) hcX12_follow Q (31, [some (.inr (.inr (12, 0))), some (.inl a1), some (.inl a2), some (.inl a3), none], []) q3.2
        refine Wp.run (WpD.mono _) 6 (q := ((40, [some (.inr (.inr (12, 0))), some (.inl a1), some (.inl a2), some (.inl a3), none], [.inl (((5 : Int32) * a1) + a2), .inr (.inr (75, 0))]), q3.2)) rfl ?_
        obtain ⟨hc, h⟩ := ite_nn h
        refine Wp.X_ild1 (WpD.mono _) rfl rfl hc ?_
        show Wp (WpD (e + 2)) hcX12_follow Q (41, [some (.inr (.inr (12, 0))), some (.inl a1), some (.inl a2), some (.inl a3), none], [.inl (q3.2.2.2.1 75 0 ((((5 : Int32) * a1) + a2)).toNatClampNeg)]) q3.2
        refine Wp.run (WpD.mono _) 8 (q := ((53, [some (.inr (.inr (12, 0))), some (.inl a1), some (.inl a2), some (.inl a3), some (.inl (q3.2.2.2.1 75 0 ((((5 : Int32) * a1) + a2)).toNatClampNeg))], [.inl a3, .inl (((5 : Int32) * a1) + a2), .inr (.inr (75, 0))]), q3.2)) rfl ?_
        obtain ⟨hc, h⟩ := ite_nn h
        refine Wp.X_ist (WpD.mono _) rfl rfl hc ?_
        show Wp (WpD (e + 2)) hcX12_follow Q (54, [some (.inr (.inr (12, 0))), some (.inl a1), some (.inl a2), some (.inl a3), some (.inl (q3.2.2.2.1 75 0 ((((5 : Int32) * a1) + a2)).toNatClampNeg))], []) (q3.2.1, q3.2.2.1, (hwU3 q3.2.2.2.1 75 0 ((((5 : Int32) * a1) + a2)).toNatClampNeg a3), q3.2.2.2.2.1, q3.2.2.2.2.2)
        refine Wp.run (WpD.mono _) 0 (q := ((56, [some (.inr (.inr (12, 0))), some (.inl a1), some (.inl a2), some (.inl a3), some (.inl (q3.2.2.2.1 75 0 ((((5 : Int32) * a1) + a2)).toNatClampNeg))], [.inl (q3.2.2.2.1 75 0 ((((5 : Int32) * a1) + a2)).toNatClampNeg)]), (q3.2.1, q3.2.2.1, (hwU3 q3.2.2.2.1 75 0 ((((5 : Int32) * a1) + a2)).toNatClampNeg a3), q3.2.2.2.2.1, q3.2.2.2.2.2))) rfl ?_
        obtain ⟨rfl, rfl⟩ := ret_inj h
        exact Wp.ret (WpD.mono _) rfl hQ

set_option maxRecDepth 100000 in
set_option maxHeartbeats 4000000 in
theorem T_X12_force (e N : Nat)  (a1 : Int32) (σ : Mem) (r : Int32) (τ : Mem) (Q : Pst) (h : F_X12_force N a1 σ = some (r, τ)) (hQ : Q (some (.inl r)) τ) : WpD (e + 2) mX12_force [.inr (.inr (12, 0)), .inl a1] σ Q := by
  refine WpD.of (d := e + 1) (Nat.le_of_ble_eq_true rfl) (Nat.le_of_ble_eq_true rfl) ?_
  show Wp (WpD (e + 1)) hcX12_force Q (0, [some (.inr (.inr (12, 0))), some (.inl a1), none], []) σ
  unfold F_X12_force at h
  refine Wp.run (WpD.mono _) 5 (q := ((8, [some (.inr (.inr (12, 0))), some (.inl a1), none], [.inl ((σ.1 12 27) - (1 : Int32)), .inl (0 : Int32), .inl a1]), σ)) rfl ?_
  obtain ⟨q1, hb, h⟩ := bind_some h
  refine Wp.call (WpD.mono _) rfl (T_X12_in (e + 0) N a1 (0 : Int32) ((σ.1 12 27) - (1 : Int32)) σ _ _ _ hb ?_)
  show Wp (WpD (e + 1)) hcX12_force Q (11, [some (.inr (.inr (12, 0))), some (.inl a1), none], [.inl q1.1]) q1.2
  refine Wp.if0_ne (WpD.mono _) rfl rfl (fun hc => ?_) (fun hc => ?_)
  · have h := (if_pos hc).symm.trans h
    show Wp (WpD (e + 1)) hcX12_force Q (14, [some (.inr (.inr (12, 0))), some (.inl a1), none], []) q1.2
    refine Wp.run (WpD.mono _) 0 (q := ((16, [some (.inr (.inr (12, 0))), some (.inl a1), none], [.inl (Int32.ofInt (-2))]), q1.2)) rfl ?_
    obtain ⟨rfl, rfl⟩ := ret_inj h
    exact Wp.ret (WpD.mono _) rfl hQ
  · have h := (if_neg hc).symm.trans h
    show Wp (WpD (e + 1)) hcX12_force Q (17, [some (.inr (.inr (12, 0))), some (.inl a1), none], []) q1.2
    refine Wp.run (WpD.mono _) 6 (q := ((28, [some (.inr (.inr (12, 0))), some (.inl a1), some (.inl (q1.2.1 12 28))], [.inl (q1.2.1 12 28)]), ((hwU2 q1.2.1 12 28 a1), q1.2.2.1, q1.2.2.2.1, q1.2.2.2.2.1, q1.2.2.2.2.2))) rfl ?_
    obtain ⟨rfl, rfl⟩ := ret_inj h
    exact Wp.ret (WpD.mono _) rfl hQ

set_option maxRecDepth 100000 in
set_option maxHeartbeats 4000000 in
theorem T_X12_goesBy_b68 (e N : Nat)   (r : Int32) (τ : Mem) (Q : Pst) (hQ : Q (some (.inl r)) τ) : ∀ (s0 : Int32) (s1 : Int32) (s2 : Int32) (σ : Mem), F_X12_goesBy_b68 N s0 s1 s2 σ = some (r, τ) → Wp (WpD (e + 25)) hcX12_goesBy Q (68, [none, none, none], [.inl s0, .inl s1, .inl s2, .inr (.inr (12, 0))]) σ := by
  intro s0 s1 s2 σ h
  unfold F_X12_goesBy_b68 at h
  refine Wp.run (WpD.mono _) 0 (q := ((69, [none, none, none], [.inl (0 : Int32), .inl s0, .inl s1, .inl s2, .inr (.inr (12, 0))]), σ)) rfl ?_
  obtain ⟨q4, hb, h⟩ := bind_some h
  refine Wp.call (WpD.mono _) rfl (T_X12_doesDig (e + 0) N s2 s1 s0 (0 : Int32) σ _ _ _ hb ?_)
  show Wp (WpD (e + 25)) hcX12_goesBy Q (72, [none, none, none], [.inl q4.1]) q4.2
  refine Wp.if0_eq (WpD.mono _) rfl rfl (fun hc => ?_) (fun hc => ?_)
  · have h := (if_pos hc).symm.trans h
    show Wp (WpD (e + 25)) hcX12_goesBy Q (79, [none, none, none], []) q4.2
    refine Wp.run (WpD.mono _) 0 (q := ((80, [none, none, none], [.inl (0 : Int32)]), q4.2)) rfl ?_
    obtain ⟨rfl, rfl⟩ := ret_inj h
    exact Wp.ret (WpD.mono _) rfl hQ
  · have h := (if_neg hc).symm.trans h
    show Wp (WpD (e + 25)) hcX12_goesBy Q (75, [none, none, none], []) q4.2
    refine Wp.run (WpD.mono _) 1 (q := ((80, [none, none, none], [.inl (1 : Int32)]), q4.2)) rfl ?_
    obtain ⟨rfl, rfl⟩ := ret_inj h
    exact Wp.ret (WpD.mono _) rfl hQ

set_option maxRecDepth 100000 in
set_option maxHeartbeats 4000000 in
theorem T_X12_goesBy (e N : Nat)  (a1 : Int32) (a2 : Int32) (σ : Mem) (r : Int32) (τ : Mem) (Q : Pst) (h : F_X12_goesBy N a1 a2 σ = some (r, τ)) (hQ : Q (some (.inl r)) τ) : WpD (e + 26) mX12_goesBy [.inr (.inr (12, 0)), .inl a1, .inl a2] σ Q := by
  refine WpD.of (d := e + 25) (Nat.le_of_ble_eq_true rfl) (Nat.le_of_ble_eq_true rfl) ?_
  show Wp (WpD (e + 25)) hcX12_goesBy Q (0, [some (.inr (.inr (12, 0))), some (.inl a1), some (.inl a2)], []) σ
  unfold F_X12_goesBy at h
  refine Wp.run (WpD.mono _) 1 (q := ((2, [some (.inr (.inr (12, 0))), some (.inl a1), some (.inl a2)], [.inl a1, .inr (.inr (12, 0))]), σ)) rfl ?_
  obtain ⟨q1, hb, h⟩ := bind_some h
  refine Wp.call (WpD.mono _) rfl (T_X12_isRule (e + 23) N a1 σ _ _ _ hb ?_)
  show Wp (WpD (e + 25)) hcX12_goesBy Q (5, [some (.inr (.inr (12, 0))), some (.inl a1), some (.inl a2)], [.inl q1.1]) q1.2
  refine Wp.if0_eq (WpD.mono _) rfl rfl (fun hc => ?_) (fun hc => ?_)
  · have h := (if_pos hc).symm.trans h
    show Wp (WpD (e + 25)) hcX12_goesBy Q (16, [some (.inr (.inr (12, 0))), some (.inl a1), some (.inl a2)], []) q1.2
    refine Wp.run (WpD.mono _) 0 (q := ((18, [none, none, none], [.inl (Int32.ofInt (-5))]), q1.2)) rfl ?_
    obtain ⟨rfl, rfl⟩ := ret_inj h
    exact Wp.ret (WpD.mono _) rfl hQ
  · have h := (if_neg hc).symm.trans h
    show Wp (WpD (e + 25)) hcX12_goesBy Q (8, [some (.inr (.inr (12, 0))), some (.inl a1), some (.inl a2)], []) q1.2
    refine Wp.run (WpD.mono _) 1 (q := ((10, [some (.inr (.inr (12, 0))), some (.inl a1), some (.inl a2)], [.inl a2, .inr (.inr (12, 0))]), q1.2)) rfl ?_
    obtain ⟨q2, hb, h⟩ := bind_some h
    refine Wp.call (WpD.mono _) rfl (T_X12_isPlace (e + 23) N a2 q1.2 _ _ _ hb ?_)
    show Wp (WpD (e + 25)) hcX12_goesBy Q (13, [some (.inr (.inr (12, 0))), some (.inl a1), some (.inl a2)], [.inl q2.1]) q2.2
    refine Wp.if0_ne (WpD.mono _) rfl rfl (fun hc => ?_) (fun hc => ?_)
    · have h := (if_pos hc).symm.trans h
      show Wp (WpD (e + 25)) hcX12_goesBy Q (16, [some (.inr (.inr (12, 0))), some (.inl a1), some (.inl a2)], []) q2.2
      refine Wp.run (WpD.mono _) 0 (q := ((18, [none, none, none], [.inl (Int32.ofInt (-5))]), q2.2)) rfl ?_
      obtain ⟨rfl, rfl⟩ := ret_inj h
      exact Wp.ret (WpD.mono _) rfl hQ
    · have h := (if_neg hc).symm.trans h
      show Wp (WpD (e + 25)) hcX12_goesBy Q (19, [some (.inr (.inr (12, 0))), some (.inl a1), some (.inl a2)], []) q2.2
      refine Wp.run (WpD.mono _) 1 (q := ((21, [some (.inr (.inr (12, 0))), some (.inl a1), some (.inl a2)], [.inl a2, .inr (.inr (12, 0))]), q2.2)) rfl ?_
      obtain ⟨q3, hb, h⟩ := bind_some h
      refine Wp.call (WpD.mono _) rfl (T_X12_goesHere (e + 19) N a2 q2.2 _ _ _ hb ?_)
      show Wp (WpD (e + 25)) hcX12_goesBy Q (24, [some (.inr (.inr (12, 0))), some (.inl a1), some (.inl a2)], [.inl q3.1]) q3.2
      refine Wp.if0_ne (WpD.mono _) rfl rfl (fun hc => ?_) (fun hc => ?_)
      · have h := (if_pos hc).symm.trans h
        show Wp (WpD (e + 25)) hcX12_goesBy Q (27, [some (.inr (.inr (12, 0))), some (.inl a1), some (.inl a2)], []) q3.2
        refine Wp.run (WpD.mono _) 0 (q := ((29, [some (.inr (.inr (12, 0))), some (.inl a1), some (.inl a2)], [.inl (Int32.ofInt (-3))]), q3.2)) rfl ?_
        obtain ⟨rfl, rfl⟩ := ret_inj h
        exact Wp.ret (WpD.mono _) rfl hQ
      · have h := (if_neg hc).symm.trans h
        show Wp (WpD (e + 25)) hcX12_goesBy Q (30, [some (.inr (.inr (12, 0))), some (.inl a1), some (.inl a2)], []) q3.2
        refine Wp.run (WpD.mono _) 4 (q := ((37, [some (.inr (.inr (12, 0))), some (.inl a1), some (.inl a2)], [.inl a2, .inr (.inr (77, 0)), .inl a1, .inr (.inr (12, 0))]), q3.2)) rfl ?_
        obtain ⟨hc, h⟩ := ite_nn h
        refine Wp.X_ild1 (WpD.mono _) rfl rfl hc ?_
        show Wp (WpD (e + 25)) hcX12_goesBy Q (38, [some (.inr (.inr (12, 0))), some (.inl a1), some (.inl a2)], [.inl (q3.2.2.2.1 77 0 (a2).toNatClampNeg), .inl a1, .inr (.inr (12, 0))]) q3.2
        refine Wp.run (WpD.mono _) 2 (q := ((43, [some (.inr (.inr (12, 0))), some (.inl a1), some (.inl a2)], [.inl a2, .inr (.inr (77, 0)), .inl (q3.2.2.2.1 77 0 (a2).toNatClampNeg), .inl a1, .inr (.inr (12, 0))]), q3.2)) rfl ?_
        obtain ⟨hc, h⟩ := ite_nn h
        refine Wp.X_ild1 (WpD.mono _) rfl rfl hc ?_
        show Wp (WpD (e + 25)) hcX12_goesBy Q (44, [some (.inr (.inr (12, 0))), some (.inl a1), some (.inl a2)], [.inl (q3.2.2.2.1 77 0 (a2).toNatClampNeg), .inl (q3.2.2.2.1 77 0 (a2).toNatClampNeg), .inl a1, .inr (.inr (12, 0))]) q3.2
        refine Wp.if0_ne (WpD.mono _) rfl rfl (fun hc => ?_) (fun hc => ?_)
        · have h := (if_pos hc).symm.trans h
          show Wp (WpD (e + 25)) hcX12_goesBy Q (47, [some (.inr (.inr (12, 0))), some (.inl a1), some (.inl a2)], [.inl (q3.2.2.2.1 77 0 (a2).toNatClampNeg), .inl a1, .inr (.inr (12, 0))]) q3.2
          refine Wp.run (WpD.mono _) 1 (q := ((68, [some (.inr (.inr (12, 0))), some (.inl a1), some (.inl a2)], [.inl (Int32.ofInt (-1)), .inl (q3.2.2.2.1 77 0 (a2).toNatClampNeg), .inl a1, .inr (.inr (12, 0))]), q3.2)) rfl ?_
          exact Wp.jump (WpD.mono _) rfl ((T_X12_goesBy_b68 e N  r τ Q hQ ) (Int32.ofInt (-1)) (q3.2.2.2.1 77 0 (a2).toNatClampNeg) a1 q3.2 h)
        · have h := (if_neg hc).symm.trans h
          show Wp (WpD (e + 25)) hcX12_goesBy Q (51, [some (.inr (.inr (12, 0))), some (.inl a1), some (.inl a2)], [.inl (q3.2.2.2.1 77 0 (a2).toNatClampNeg), .inl a1, .inr (.inr (12, 0))]) q3.2
          refine Wp.run (WpD.mono _) 7 (q := ((63, [some (.inr (.inr (12, 0))), some (.inl a1), some (.inl a2)], [.inl a2, .inr (.inr (77, 0)), .inl ((5 : Int32) * a2), .inr (.inr (79, 0)), .inl (q3.2.2.2.1 77 0 (a2).toNatClampNeg), .inl a1, .inr (.inr (12, 0))]), q3.2)) rfl ?_
          obtain ⟨hc, h⟩ := ite_nn h
          refine Wp.X_ild1 (WpD.mono _) rfl rfl hc ?_
          show Wp (WpD (e + 25)) hcX12_goesBy Q (64, [some (.inr (.inr (12, 0))), some (.inl a1), some (.inl a2)], [.inl (q3.2.2.2.1 77 0 (a2).toNatClampNeg), .inl ((5 : Int32) * a2), .inr (.inr (79, 0)), .inl (q3.2.2.2.1 77 0 (a2).toNatClampNeg), .inl a1, .inr (.inr (12, 0))]) q3.2
          refine Wp.run (WpD.mono _) 2 (q := ((67, [some (.inr (.inr (12, 0))), some (.inl a1), some (.inl a2)], [.inl ((((5 : Int32) * a2) + (q3.2.2.2.1 77 0 (a2).toNatClampNeg)) - (1 : Int32)), .inr (.inr (79, 0)), .inl (q3.2.2.2.1 77 0 (a2).toNatClampNeg), .inl a1, .inr (.inr (12, 0))]), q3.2)) rfl ?_
          obtain ⟨hc, h⟩ := ite_nn h
          refine Wp.X_ild1 (WpD.mono _) rfl rfl hc ?_
          show Wp (WpD (e + 25)) hcX12_goesBy Q (68, [some (.inr (.inr (12, 0))), some (.inl a1), some (.inl a2)], [.inl (q3.2.2.2.1 79 0 (((((5 : Int32) * a2) + (q3.2.2.2.1 77 0 (a2).toNatClampNeg)) - (1 : Int32))).toNatClampNeg), .inl (q3.2.2.2.1 77 0 (a2).toNatClampNeg), .inl a1, .inr (.inr (12, 0))]) q3.2
          exact Wp.jump (WpD.mono _) rfl ((T_X12_goesBy_b68 e N  r τ Q hQ ) (q3.2.2.2.1 79 0 (((((5 : Int32) * a2) + (q3.2.2.2.1 77 0 (a2).toNatClampNeg)) - (1 : Int32))).toNatClampNeg) (q3.2.2.2.1 77 0 (a2).toNatClampNeg) a1 q3.2 h)

set_option maxRecDepth 100000 in
set_option maxHeartbeats 4000000 in
theorem T_X12_holds_b64 (e N : Nat)   (r : Unit) (τ : Mem) (Q : Pst) (hQ : Q (none) τ) : ∀ (x1 : Int32) (x2 : Int32) (s0 : Int32) (σ : Mem), F_X12_holds_b64 N x1 x2 s0 σ = some (r, τ) → Wp (WpD (e + 0)) hcX12_holds Q (64, [some (.inr (.inr (12, 0))), some (.inl x1), some (.inl x2)], [.inl s0, .inr (.inr (12, 0))]) σ := by
  intro x1 x2 s0 σ h
  unfold F_X12_holds_b64 at h
  refine Wp.run (WpD.mono _) 3 (q := ((70, [some (.inr (.inr (12, 0))), some (.inl x1), some (.inl x2)], [.inl (4 : Int32), .inl x1, .inr (.inr (12, 0))]), ((hwU2 σ.1 12 3 s0), σ.2.1, σ.2.2.1, σ.2.2.2.1, σ.2.2.2.2))) rfl ?_
  refine Wp.if2_ne (WpD.mono _) rfl rfl (fun hc => ?_) (fun hc => ?_)
  · have h := (if_pos hc).symm.trans h
    show Wp (WpD (e + 0)) hcX12_holds Q (73, [some (.inr (.inr (12, 0))), some (.inl x1), some (.inl x2)], [.inr (.inr (12, 0))]) ((hwU2 σ.1 12 3 s0), σ.2.1, σ.2.2.1, σ.2.2.2.1, σ.2.2.2.2)
    refine Wp.run (WpD.mono _) 2 (q := ((84, [none, none, none], []), ((hwU2 (hwU2 σ.1 12 3 s0) 12 4 x2), σ.2.1, σ.2.2.1, σ.2.2.2.1, σ.2.2.2.2))) rfl ?_
    obtain ⟨rfl, rfl⟩ := ret_inj h
    exact Wp.ret (WpD.mono _) rfl hQ
  · have h := (if_neg hc).symm.trans h
    show Wp (WpD (e + 0)) hcX12_holds Q (77, [some (.inr (.inr (12, 0))), some (.inl x1), some (.inl x2)], [.inr (.inr (12, 0))]) ((hwU2 σ.1 12 3 s0), σ.2.1, σ.2.2.1, σ.2.2.2.1, σ.2.2.2.2)
    refine Wp.run (WpD.mono _) 2 (q := ((84, [none, none, none], []), ((hwU2 (hwU2 σ.1 12 3 s0) 12 4 (σ.1 12 4)), σ.2.1, σ.2.2.1, σ.2.2.2.1, σ.2.2.2.2))) rfl ?_
    obtain ⟨rfl, rfl⟩ := ret_inj h
    exact Wp.ret (WpD.mono _) rfl hQ

set_option maxRecDepth 100000 in
set_option maxHeartbeats 4000000 in
theorem T_X12_holds_b47 (e N : Nat)   (r : Unit) (τ : Mem) (Q : Pst) (hQ : Q (none) τ) : ∀ (x1 : Int32) (x2 : Int32) (s0 : Int32) (σ : Mem), F_X12_holds_b47 N x1 x2 s0 σ = some (r, τ) → Wp (WpD (e + 0)) hcX12_holds Q (47, [some (.inr (.inr (12, 0))), some (.inl x1), some (.inl x2)], [.inl s0, .inr (.inr (12, 0))]) σ := by
  intro x1 x2 s0 σ h
  unfold F_X12_holds_b47 at h
  refine Wp.run (WpD.mono _) 3 (q := ((53, [some (.inr (.inr (12, 0))), some (.inl x1), some (.inl x2)], [.inl (3 : Int32), .inl x1, .inr (.inr (12, 0))]), ((hwU2 σ.1 12 2 s0), σ.2.1, σ.2.2.1, σ.2.2.2.1, σ.2.2.2.2))) rfl ?_
  refine Wp.if2_ne (WpD.mono _) rfl rfl (fun hc => ?_) (fun hc => ?_)
  · have h := (if_pos hc).symm.trans h
    show Wp (WpD (e + 0)) hcX12_holds Q (56, [some (.inr (.inr (12, 0))), some (.inl x1), some (.inl x2)], [.inr (.inr (12, 0))]) ((hwU2 σ.1 12 2 s0), σ.2.1, σ.2.2.1, σ.2.2.2.1, σ.2.2.2.2)
    refine Wp.run (WpD.mono _) 1 (q := ((64, [some (.inr (.inr (12, 0))), some (.inl x1), some (.inl x2)], [.inl x2, .inr (.inr (12, 0))]), ((hwU2 σ.1 12 2 s0), σ.2.1, σ.2.2.1, σ.2.2.2.1, σ.2.2.2.2))) rfl ?_
    exact Wp.jump (WpD.mono _) rfl ((T_X12_holds_b64 e N  r τ Q hQ ) x1 x2 x2 ((hwU2 σ.1 12 2 s0), σ.2.1, σ.2.2.1, σ.2.2.2.1, σ.2.2.2.2) h)
  · have h := (if_neg hc).symm.trans h
    show Wp (WpD (e + 0)) hcX12_holds Q (60, [some (.inr (.inr (12, 0))), some (.inl x1), some (.inl x2)], [.inr (.inr (12, 0))]) ((hwU2 σ.1 12 2 s0), σ.2.1, σ.2.2.1, σ.2.2.2.1, σ.2.2.2.2)
    refine Wp.run (WpD.mono _) 1 (q := ((64, [some (.inr (.inr (12, 0))), some (.inl x1), some (.inl x2)], [.inl (σ.1 12 3), .inr (.inr (12, 0))]), ((hwU2 σ.1 12 2 s0), σ.2.1, σ.2.2.1, σ.2.2.2.1, σ.2.2.2.2))) rfl ?_
    exact Wp.jump (WpD.mono _) rfl ((T_X12_holds_b64 e N  r τ Q hQ ) x1 x2 (σ.1 12 3) ((hwU2 σ.1 12 2 s0), σ.2.1, σ.2.2.1, σ.2.2.2.1, σ.2.2.2.2) h)

set_option maxRecDepth 100000 in
set_option maxHeartbeats 4000000 in
theorem T_X12_holds_b30 (e N : Nat)   (r : Unit) (τ : Mem) (Q : Pst) (hQ : Q (none) τ) : ∀ (x1 : Int32) (x2 : Int32) (s0 : Int32) (σ : Mem), F_X12_holds_b30 N x1 x2 s0 σ = some (r, τ) → Wp (WpD (e + 0)) hcX12_holds Q (30, [some (.inr (.inr (12, 0))), some (.inl x1), some (.inl x2)], [.inl s0, .inr (.inr (12, 0))]) σ := by
  intro x1 x2 s0 σ h
  unfold F_X12_holds_b30 at h
  refine Wp.run (WpD.mono _) 3 (q := ((36, [some (.inr (.inr (12, 0))), some (.inl x1), some (.inl x2)], [.inl (2 : Int32), .inl x1, .inr (.inr (12, 0))]), ((hwU2 σ.1 12 1 s0), σ.2.1, σ.2.2.1, σ.2.2.2.1, σ.2.2.2.2))) rfl ?_
  refine Wp.if2_ne (WpD.mono _) rfl rfl (fun hc => ?_) (fun hc => ?_)
  · have h := (if_pos hc).symm.trans h
    show Wp (WpD (e + 0)) hcX12_holds Q (39, [some (.inr (.inr (12, 0))), some (.inl x1), some (.inl x2)], [.inr (.inr (12, 0))]) ((hwU2 σ.1 12 1 s0), σ.2.1, σ.2.2.1, σ.2.2.2.1, σ.2.2.2.2)
    refine Wp.run (WpD.mono _) 1 (q := ((47, [some (.inr (.inr (12, 0))), some (.inl x1), some (.inl x2)], [.inl x2, .inr (.inr (12, 0))]), ((hwU2 σ.1 12 1 s0), σ.2.1, σ.2.2.1, σ.2.2.2.1, σ.2.2.2.2))) rfl ?_
    exact Wp.jump (WpD.mono _) rfl ((T_X12_holds_b47 e N  r τ Q hQ ) x1 x2 x2 ((hwU2 σ.1 12 1 s0), σ.2.1, σ.2.2.1, σ.2.2.2.1, σ.2.2.2.2) h)
  · have h := (if_neg hc).symm.trans h
    show Wp (WpD (e + 0)) hcX12_holds Q (43, [some (.inr (.inr (12, 0))), some (.inl x1), some (.inl x2)], [.inr (.inr (12, 0))]) ((hwU2 σ.1 12 1 s0), σ.2.1, σ.2.2.1, σ.2.2.2.1, σ.2.2.2.2)
    refine Wp.run (WpD.mono _) 1 (q := ((47, [some (.inr (.inr (12, 0))), some (.inl x1), some (.inl x2)], [.inl (σ.1 12 2), .inr (.inr (12, 0))]), ((hwU2 σ.1 12 1 s0), σ.2.1, σ.2.2.1, σ.2.2.2.1, σ.2.2.2.2))) rfl ?_
    exact Wp.jump (WpD.mono _) rfl ((T_X12_holds_b47 e N  r τ Q hQ ) x1 x2 (σ.1 12 2) ((hwU2 σ.1 12 1 s0), σ.2.1, σ.2.2.1, σ.2.2.2.1, σ.2.2.2.2) h)

set_option maxRecDepth 100000 in
set_option maxHeartbeats 4000000 in
theorem T_X12_holds_b13 (e N : Nat)   (r : Unit) (τ : Mem) (Q : Pst) (hQ : Q (none) τ) : ∀ (x1 : Int32) (x2 : Int32) (s0 : Int32) (σ : Mem), F_X12_holds_b13 N x1 x2 s0 σ = some (r, τ) → Wp (WpD (e + 0)) hcX12_holds Q (13, [some (.inr (.inr (12, 0))), some (.inl x1), some (.inl x2)], [.inl s0, .inr (.inr (12, 0))]) σ := by
  intro x1 x2 s0 σ h
  unfold F_X12_holds_b13 at h
  refine Wp.run (WpD.mono _) 3 (q := ((19, [some (.inr (.inr (12, 0))), some (.inl x1), some (.inl x2)], [.inl (1 : Int32), .inl x1, .inr (.inr (12, 0))]), ((hwU2 σ.1 12 0 s0), σ.2.1, σ.2.2.1, σ.2.2.2.1, σ.2.2.2.2))) rfl ?_
  refine Wp.if2_ne (WpD.mono _) rfl rfl (fun hc => ?_) (fun hc => ?_)
  · have h := (if_pos hc).symm.trans h
    show Wp (WpD (e + 0)) hcX12_holds Q (22, [some (.inr (.inr (12, 0))), some (.inl x1), some (.inl x2)], [.inr (.inr (12, 0))]) ((hwU2 σ.1 12 0 s0), σ.2.1, σ.2.2.1, σ.2.2.2.1, σ.2.2.2.2)
    refine Wp.run (WpD.mono _) 1 (q := ((30, [some (.inr (.inr (12, 0))), some (.inl x1), some (.inl x2)], [.inl x2, .inr (.inr (12, 0))]), ((hwU2 σ.1 12 0 s0), σ.2.1, σ.2.2.1, σ.2.2.2.1, σ.2.2.2.2))) rfl ?_
    exact Wp.jump (WpD.mono _) rfl ((T_X12_holds_b30 e N  r τ Q hQ ) x1 x2 x2 ((hwU2 σ.1 12 0 s0), σ.2.1, σ.2.2.1, σ.2.2.2.1, σ.2.2.2.2) h)
  · have h := (if_neg hc).symm.trans h
    show Wp (WpD (e + 0)) hcX12_holds Q (26, [some (.inr (.inr (12, 0))), some (.inl x1), some (.inl x2)], [.inr (.inr (12, 0))]) ((hwU2 σ.1 12 0 s0), σ.2.1, σ.2.2.1, σ.2.2.2.1, σ.2.2.2.2)
    refine Wp.run (WpD.mono _) 1 (q := ((30, [some (.inr (.inr (12, 0))), some (.inl x1), some (.inl x2)], [.inl (σ.1 12 1), .inr (.inr (12, 0))]), ((hwU2 σ.1 12 0 s0), σ.2.1, σ.2.2.1, σ.2.2.2.1, σ.2.2.2.2))) rfl ?_
    exact Wp.jump (WpD.mono _) rfl ((T_X12_holds_b30 e N  r τ Q hQ ) x1 x2 (σ.1 12 1) ((hwU2 σ.1 12 0 s0), σ.2.1, σ.2.2.1, σ.2.2.2.1, σ.2.2.2.2) h)

set_option maxRecDepth 100000 in
set_option maxHeartbeats 4000000 in
theorem T_X12_holds (e N : Nat)  (a1 : Int32) (a2 : Int32) (σ : Mem) (r : Unit) (τ : Mem) (Q : Pst) (h : F_X12_holds N a1 a2 σ = some (r, τ)) (hQ : Q (none) τ) : WpD (e + 1) mX12_holds [.inr (.inr (12, 0)), .inl a1, .inl a2] σ Q := by
  refine WpD.of (d := e + 0) (Nat.le_of_ble_eq_true rfl) (Nat.le_of_ble_eq_true rfl) ?_
  show Wp (WpD (e + 0)) hcX12_holds Q (0, [some (.inr (.inr (12, 0))), some (.inl a1), some (.inl a2)], []) σ
  unfold F_X12_holds at h
  refine Wp.run (WpD.mono _) 1 (q := ((2, [some (.inr (.inr (12, 0))), some (.inl a1), some (.inl a2)], [.inl a1, .inr (.inr (12, 0))]), σ)) rfl ?_
  refine Wp.if0_ne (WpD.mono _) rfl rfl (fun hc => ?_) (fun hc => ?_)
  · have h := (if_pos hc).symm.trans h
    show Wp (WpD (e + 0)) hcX12_holds Q (5, [some (.inr (.inr (12, 0))), some (.inl a1), some (.inl a2)], [.inr (.inr (12, 0))]) σ
    refine Wp.run (WpD.mono _) 1 (q := ((13, [some (.inr (.inr (12, 0))), some (.inl a1), some (.inl a2)], [.inl a2, .inr (.inr (12, 0))]), σ)) rfl ?_
    exact Wp.jump (WpD.mono _) rfl ((T_X12_holds_b13 e N  r τ Q hQ ) a1 a2 a2 σ h)
  · have h := (if_neg hc).symm.trans h
    show Wp (WpD (e + 0)) hcX12_holds Q (9, [some (.inr (.inr (12, 0))), some (.inl a1), some (.inl a2)], [.inr (.inr (12, 0))]) σ
    refine Wp.run (WpD.mono _) 1 (q := ((13, [some (.inr (.inr (12, 0))), some (.inl a1), some (.inl a2)], [.inl (σ.1 12 0), .inr (.inr (12, 0))]), σ)) rfl ?_
    exact Wp.jump (WpD.mono _) rfl ((T_X12_holds_b13 e N  r τ Q hQ ) a1 a2 (σ.1 12 0) σ h)

set_option maxRecDepth 100000 in
set_option maxHeartbeats 4000000 in
theorem T_X12_image_b134 (e N : Nat)   (r : Int32) (τ : Mem) (Q : Pst) (hQ : Q (some (.inl r)) τ) : ∀ n, ∀ (x1 : Int32) (σ : Mem), F_X12_image_b134 N n x1 σ = some (r, τ) → Wp (WpD (e + 1)) hcX12_image Q (134, [some (.inr (.inr (12, 0))), some (.inl x1)], []) σ := by
  intro n
  induction n with
  | zero => intro x1 σ h; cases h
  | succ n ih =>
    intro x1 σ h
    unfold F_X12_image_b134 at h
    refine Wp.run (WpD.mono _) 1 (q := ((136, [some (.inr (.inr (12, 0))), some (.inl x1)], [.inl (4 : Int32), .inl x1]), σ)) rfl ?_
    refine Wp.if2_ge (WpD.mono _) rfl rfl (fun hc => ?_) (fun hc => ?_)
    · have h := (if_pos hc).symm.trans h
      show Wp (WpD (e + 1)) hcX12_image Q (169, [some (.inr (.inr (12, 0))), some (.inl x1)], []) σ
      refine Wp.run (WpD.mono _) 1 (q := ((173, [some (.inr (.inr (12, 0))), some (.inl x1)], [.inl (σ.1 12 10)]), σ)) rfl ?_
      obtain ⟨rfl, rfl⟩ := ret_inj h
      exact Wp.ret (WpD.mono _) rfl hQ
    · have h := (if_neg hc).symm.trans h
      show Wp (WpD (e + 1)) hcX12_image Q (139, [some (.inr (.inr (12, 0))), some (.inl x1)], []) σ
      refine Wp.run (WpD.mono _) 5 (q := ((149, [some (.inr (.inr (12, 0))), some (.inl x1)], [.inl x1, .inr (.inr (77, 0)), .inl x1, .inr (.inr (91, 0))]), σ)) rfl ?_
      obtain ⟨hc, h⟩ := ite_nn h
      refine Wp.X_ild1 (WpD.mono _) rfl rfl hc ?_
      show Wp (WpD (e + 1)) hcX12_image Q (150, [some (.inr (.inr (12, 0))), some (.inl x1)], [.inl (σ.2.2.1 77 0 (x1).toNatClampNeg), .inl x1, .inr (.inr (91, 0))]) σ
      obtain ⟨hc, h⟩ := ite_nn h
      refine Wp.X_ist (WpD.mono _) rfl rfl hc ?_
      show Wp (WpD (e + 1)) hcX12_image Q (151, [some (.inr (.inr (12, 0))), some (.inl x1)], []) (σ.1, σ.2.1, (hwU3 σ.2.2.1 91 0 (x1).toNatClampNeg (σ.2.2.1 77 0 (x1).toNatClampNeg)), σ.2.2.2.1, σ.2.2.2.2)
      refine Wp.run (WpD.mono _) 5 (q := ((161, [some (.inr (.inr (12, 0))), some (.inl x1)], [.inl x1, .inr (.inr (78, 0)), .inl x1, .inr (.inr (92, 0))]), (σ.1, σ.2.1, (hwU3 σ.2.2.1 91 0 (x1).toNatClampNeg (σ.2.2.1 77 0 (x1).toNatClampNeg)), σ.2.2.2.1, σ.2.2.2.2))) rfl ?_
      obtain ⟨hc, h⟩ := ite_nn h
      refine Wp.X_ild1 (WpD.mono _) rfl rfl hc ?_
      show Wp (WpD (e + 1)) hcX12_image Q (162, [some (.inr (.inr (12, 0))), some (.inl x1)], [.inl (σ.2.2.1 78 0 (x1).toNatClampNeg), .inl x1, .inr (.inr (92, 0))]) (σ.1, σ.2.1, (hwU3 σ.2.2.1 91 0 (x1).toNatClampNeg (σ.2.2.1 77 0 (x1).toNatClampNeg)), σ.2.2.2.1, σ.2.2.2.2)
      obtain ⟨hc, h⟩ := ite_nn h
      refine Wp.X_ist (WpD.mono _) rfl rfl hc ?_
      show Wp (WpD (e + 1)) hcX12_image Q (163, [some (.inr (.inr (12, 0))), some (.inl x1)], []) (σ.1, σ.2.1, (hwU3 (hwU3 σ.2.2.1 91 0 (x1).toNatClampNeg (σ.2.2.1 77 0 (x1).toNatClampNeg)) 92 0 (x1).toNatClampNeg (σ.2.2.1 78 0 (x1).toNatClampNeg)), σ.2.2.2.1, σ.2.2.2.2)
      refine Wp.run (WpD.mono _) 1 (q := ((134, [some (.inr (.inr (12, 0))), some (.inl (x1 + (1 : Int32)))], []), (σ.1, σ.2.1, (hwU3 (hwU3 σ.2.2.1 91 0 (x1).toNatClampNeg (σ.2.2.1 77 0 (x1).toNatClampNeg)) 92 0 (x1).toNatClampNeg (σ.2.2.1 78 0 (x1).toNatClampNeg)), σ.2.2.2.1, σ.2.2.2.2))) rfl ?_
      exact Wp.jump (WpD.mono _) rfl (ih (x1 + (1 : Int32)) (σ.1, σ.2.1, (hwU3 (hwU3 σ.2.2.1 91 0 (x1).toNatClampNeg (σ.2.2.1 77 0 (x1).toNatClampNeg)) 92 0 (x1).toNatClampNeg (σ.2.2.1 78 0 (x1).toNatClampNeg)), σ.2.2.2.1, σ.2.2.2.2) h)

set_option maxRecDepth 100000 in
set_option maxHeartbeats 4000000 in
theorem T_X12_image_b108 (e N : Nat)   (r : Int32) (τ : Mem) (Q : Pst) (hQ : Q (some (.inl r)) τ) : ∀ n, ∀ (x1 : Int32) (σ : Mem), F_X12_image_b108 N n x1 σ = some (r, τ) → Wp (WpD (e + 1)) hcX12_image Q (108, [some (.inr (.inr (12, 0))), some (.inl x1)], []) σ := by
  intro n
  induction n with
  | zero => intro x1 σ h; cases h
  | succ n ih =>
    intro x1 σ h
    unfold F_X12_image_b108 at h
    refine Wp.run (WpD.mono _) 1 (q := ((111, [some (.inr (.inr (12, 0))), some (.inl x1)], [.inl (16 : Int32), .inl x1]), σ)) rfl ?_
    refine Wp.if2_ge (WpD.mono _) rfl rfl (fun hc => ?_) (fun hc => ?_)
    · have h := (if_pos hc).symm.trans h
      show Wp (WpD (e + 1)) hcX12_image Q (132, [some (.inr (.inr (12, 0))), some (.inl x1)], []) σ
      refine Wp.run (WpD.mono _) 1 (q := ((134, [some (.inr (.inr (12, 0))), some (.inl (0 : Int32))], []), σ)) rfl ?_
      exact Wp.jump (WpD.mono _) rfl ((T_X12_image_b134 e N  r τ Q hQ  N) (0 : Int32) σ h)
    · have h := (if_neg hc).symm.trans h
      show Wp (WpD (e + 1)) hcX12_image Q (114, [some (.inr (.inr (12, 0))), some (.inl x1)], []) σ
      refine Wp.run (WpD.mono _) 5 (q := ((124, [some (.inr (.inr (12, 0))), some (.inl x1)], [.inl x1, .inr (.inr (80, 0)), .inl x1, .inr (.inr (94, 0))]), σ)) rfl ?_
      obtain ⟨hc, h⟩ := ite_nn h
      refine Wp.X_ild1 (WpD.mono _) rfl rfl hc ?_
      show Wp (WpD (e + 1)) hcX12_image Q (125, [some (.inr (.inr (12, 0))), some (.inl x1)], [.inl (σ.2.2.1 80 0 (x1).toNatClampNeg), .inl x1, .inr (.inr (94, 0))]) σ
      obtain ⟨hc, h⟩ := ite_nn h
      refine Wp.X_ist (WpD.mono _) rfl rfl hc ?_
      show Wp (WpD (e + 1)) hcX12_image Q (126, [some (.inr (.inr (12, 0))), some (.inl x1)], []) (σ.1, σ.2.1, (hwU3 σ.2.2.1 94 0 (x1).toNatClampNeg (σ.2.2.1 80 0 (x1).toNatClampNeg)), σ.2.2.2.1, σ.2.2.2.2)
      refine Wp.run (WpD.mono _) 1 (q := ((108, [some (.inr (.inr (12, 0))), some (.inl (x1 + (1 : Int32)))], []), (σ.1, σ.2.1, (hwU3 σ.2.2.1 94 0 (x1).toNatClampNeg (σ.2.2.1 80 0 (x1).toNatClampNeg)), σ.2.2.2.1, σ.2.2.2.2))) rfl ?_
      exact Wp.jump (WpD.mono _) rfl (ih (x1 + (1 : Int32)) (σ.1, σ.2.1, (hwU3 σ.2.2.1 94 0 (x1).toNatClampNeg (σ.2.2.1 80 0 (x1).toNatClampNeg)), σ.2.2.2.1, σ.2.2.2.2) h)

set_option maxRecDepth 100000 in
set_option maxHeartbeats 4000000 in
theorem T_X12_image_b82 (e N : Nat)   (r : Int32) (τ : Mem) (Q : Pst) (hQ : Q (some (.inl r)) τ) : ∀ n, ∀ (x1 : Int32) (σ : Mem), F_X12_image_b82 N n x1 σ = some (r, τ) → Wp (WpD (e + 1)) hcX12_image Q (82, [some (.inr (.inr (12, 0))), some (.inl x1)], []) σ := by
  intro n
  induction n with
  | zero => intro x1 σ h; cases h
  | succ n ih =>
    intro x1 σ h
    unfold F_X12_image_b82 at h
    refine Wp.run (WpD.mono _) 1 (q := ((85, [some (.inr (.inr (12, 0))), some (.inl x1)], [.inl (20 : Int32), .inl x1]), σ)) rfl ?_
    refine Wp.if2_ge (WpD.mono _) rfl rfl (fun hc => ?_) (fun hc => ?_)
    · have h := (if_pos hc).symm.trans h
      show Wp (WpD (e + 1)) hcX12_image Q (106, [some (.inr (.inr (12, 0))), some (.inl x1)], []) σ
      refine Wp.run (WpD.mono _) 1 (q := ((108, [some (.inr (.inr (12, 0))), some (.inl (0 : Int32))], []), σ)) rfl ?_
      exact Wp.jump (WpD.mono _) rfl ((T_X12_image_b108 e N  r τ Q hQ  N) (0 : Int32) σ h)
    · have h := (if_neg hc).symm.trans h
      show Wp (WpD (e + 1)) hcX12_image Q (88, [some (.inr (.inr (12, 0))), some (.inl x1)], []) σ
      refine Wp.run (WpD.mono _) 5 (q := ((98, [some (.inr (.inr (12, 0))), some (.inl x1)], [.inl x1, .inr (.inr (79, 0)), .inl x1, .inr (.inr (93, 0))]), σ)) rfl ?_
      obtain ⟨hc, h⟩ := ite_nn h
      refine Wp.X_ild1 (WpD.mono _) rfl rfl hc ?_
      show Wp (WpD (e + 1)) hcX12_image Q (99, [some (.inr (.inr (12, 0))), some (.inl x1)], [.inl (σ.2.2.1 79 0 (x1).toNatClampNeg), .inl x1, .inr (.inr (93, 0))]) σ
      obtain ⟨hc, h⟩ := ite_nn h
      refine Wp.X_ist (WpD.mono _) rfl rfl hc ?_
      show Wp (WpD (e + 1)) hcX12_image Q (100, [some (.inr (.inr (12, 0))), some (.inl x1)], []) (σ.1, σ.2.1, (hwU3 σ.2.2.1 93 0 (x1).toNatClampNeg (σ.2.2.1 79 0 (x1).toNatClampNeg)), σ.2.2.2.1, σ.2.2.2.2)
      refine Wp.run (WpD.mono _) 1 (q := ((82, [some (.inr (.inr (12, 0))), some (.inl (x1 + (1 : Int32)))], []), (σ.1, σ.2.1, (hwU3 σ.2.2.1 93 0 (x1).toNatClampNeg (σ.2.2.1 79 0 (x1).toNatClampNeg)), σ.2.2.2.1, σ.2.2.2.2))) rfl ?_
      exact Wp.jump (WpD.mono _) rfl (ih (x1 + (1 : Int32)) (σ.1, σ.2.1, (hwU3 σ.2.2.1 93 0 (x1).toNatClampNeg (σ.2.2.1 79 0 (x1).toNatClampNeg)), σ.2.2.2.1, σ.2.2.2.2) h)

set_option maxRecDepth 100000 in
set_option maxHeartbeats 4000000 in
theorem T_X12_image_b56 (e N : Nat)   (r : Int32) (τ : Mem) (Q : Pst) (hQ : Q (some (.inl r)) τ) : ∀ n, ∀ (x1 : Int32) (σ : Mem), F_X12_image_b56 N n x1 σ = some (r, τ) → Wp (WpD (e + 1)) hcX12_image Q (56, [some (.inr (.inr (12, 0))), some (.inl x1)], []) σ := by
  intro n
  induction n with
  | zero => intro x1 σ h; cases h
  | succ n ih =>
    intro x1 σ h
    unfold F_X12_image_b56 at h
    refine Wp.run (WpD.mono _) 1 (q := ((59, [some (.inr (.inr (12, 0))), some (.inl x1)], [.inl (25 : Int32), .inl x1]), σ)) rfl ?_
    refine Wp.if2_ge (WpD.mono _) rfl rfl (fun hc => ?_) (fun hc => ?_)
    · have h := (if_pos hc).symm.trans h
      show Wp (WpD (e + 1)) hcX12_image Q (80, [some (.inr (.inr (12, 0))), some (.inl x1)], []) σ
      refine Wp.run (WpD.mono _) 1 (q := ((82, [some (.inr (.inr (12, 0))), some (.inl (0 : Int32))], []), σ)) rfl ?_
      exact Wp.jump (WpD.mono _) rfl ((T_X12_image_b82 e N  r τ Q hQ  N) (0 : Int32) σ h)
    · have h := (if_neg hc).symm.trans h
      show Wp (WpD (e + 1)) hcX12_image Q (62, [some (.inr (.inr (12, 0))), some (.inl x1)], []) σ
      refine Wp.run (WpD.mono _) 5 (q := ((72, [some (.inr (.inr (12, 0))), some (.inl x1)], [.inl x1, .inr (.inr (75, 0)), .inl x1, .inr (.inr (90, 0))]), σ)) rfl ?_
      obtain ⟨hc, h⟩ := ite_nn h
      refine Wp.X_ild1 (WpD.mono _) rfl rfl hc ?_
      show Wp (WpD (e + 1)) hcX12_image Q (73, [some (.inr (.inr (12, 0))), some (.inl x1)], [.inl (σ.2.2.1 75 0 (x1).toNatClampNeg), .inl x1, .inr (.inr (90, 0))]) σ
      obtain ⟨hc, h⟩ := ite_nn h
      refine Wp.X_ist (WpD.mono _) rfl rfl hc ?_
      show Wp (WpD (e + 1)) hcX12_image Q (74, [some (.inr (.inr (12, 0))), some (.inl x1)], []) (σ.1, σ.2.1, (hwU3 σ.2.2.1 90 0 (x1).toNatClampNeg (σ.2.2.1 75 0 (x1).toNatClampNeg)), σ.2.2.2.1, σ.2.2.2.2)
      refine Wp.run (WpD.mono _) 1 (q := ((56, [some (.inr (.inr (12, 0))), some (.inl (x1 + (1 : Int32)))], []), (σ.1, σ.2.1, (hwU3 σ.2.2.1 90 0 (x1).toNatClampNeg (σ.2.2.1 75 0 (x1).toNatClampNeg)), σ.2.2.2.1, σ.2.2.2.2))) rfl ?_
      exact Wp.jump (WpD.mono _) rfl (ih (x1 + (1 : Int32)) (σ.1, σ.2.1, (hwU3 σ.2.2.1 90 0 (x1).toNatClampNeg (σ.2.2.1 75 0 (x1).toNatClampNeg)), σ.2.2.2.1, σ.2.2.2.2) h)

set_option maxRecDepth 100000 in
set_option maxHeartbeats 4000000 in
theorem T_X12_image_b32 (e N : Nat)   (r : Int32) (τ : Mem) (Q : Pst) (hQ : Q (some (.inl r)) τ) : ∀ n, ∀ (x1 : Int32) (σ : Mem), F_X12_image_b32 N n x1 σ = some (r, τ) → Wp (WpD (e + 1)) hcX12_image Q (32, [some (.inr (.inr (12, 0))), some (.inl x1)], []) σ := by
  intro n
  induction n with
  | zero => intro x1 σ h; cases h
  | succ n ih =>
    intro x1 σ h
    unfold F_X12_image_b32 at h
    refine Wp.run (WpD.mono _) 1 (q := ((34, [some (.inr (.inr (12, 0))), some (.inl x1)], [.inl (5 : Int32), .inl x1]), σ)) rfl ?_
    refine Wp.if2_ge (WpD.mono _) rfl rfl (fun hc => ?_) (fun hc => ?_)
    · have h := (if_pos hc).symm.trans h
      show Wp (WpD (e + 1)) hcX12_image Q (54, [some (.inr (.inr (12, 0))), some (.inl x1)], []) σ
      refine Wp.run (WpD.mono _) 1 (q := ((56, [some (.inr (.inr (12, 0))), some (.inl (0 : Int32))], []), σ)) rfl ?_
      exact Wp.jump (WpD.mono _) rfl ((T_X12_image_b56 e N  r τ Q hQ  N) (0 : Int32) σ h)
    · have h := (if_neg hc).symm.trans h
      show Wp (WpD (e + 1)) hcX12_image Q (37, [some (.inr (.inr (12, 0))), some (.inl x1)], []) σ
      refine Wp.run (WpD.mono _) 4 (q := ((44, [some (.inr (.inr (12, 0))), some (.inl x1)], [.inl x1, .inr (.inr (12, 0)), .inl x1, .inr (.inr (89, 0))]), σ)) rfl ?_
      obtain ⟨q2, hb, h⟩ := bind_some h
      refine Wp.call (WpD.mono _) rfl (T_X12_count (e + 0) N x1 σ _ _ _ hb ?_)
      show Wp (WpD (e + 1)) hcX12_image Q (47, [some (.inr (.inr (12, 0))), some (.inl x1)], [.inl q2.1, .inl x1, .inr (.inr (89, 0))]) q2.2
      obtain ⟨hc, h⟩ := ite_nn h
      refine Wp.X_ist (WpD.mono _) rfl rfl hc ?_
      show Wp (WpD (e + 1)) hcX12_image Q (48, [some (.inr (.inr (12, 0))), some (.inl x1)], []) (q2.2.1, q2.2.2.1, (hwU3 q2.2.2.2.1 89 0 (x1).toNatClampNeg q2.1), q2.2.2.2.2.1, q2.2.2.2.2.2)
      refine Wp.run (WpD.mono _) 1 (q := ((32, [some (.inr (.inr (12, 0))), some (.inl (x1 + (1 : Int32)))], []), (q2.2.1, q2.2.2.1, (hwU3 q2.2.2.2.1 89 0 (x1).toNatClampNeg q2.1), q2.2.2.2.2.1, q2.2.2.2.2.2))) rfl ?_
      exact Wp.jump (WpD.mono _) rfl (ih (x1 + (1 : Int32)) (q2.2.1, q2.2.2.1, (hwU3 q2.2.2.2.1 89 0 (x1).toNatClampNeg q2.1), q2.2.2.2.2.1, q2.2.2.2.2.2) h)

set_option maxRecDepth 100000 in
set_option maxHeartbeats 4000000 in
theorem T_X12_image (e N : Nat)   (σ : Mem) (r : Int32) (τ : Mem) (Q : Pst) (h : F_X12_image N  σ = some (r, τ)) (hQ : Q (some (.inl r)) τ) : WpD (e + 2) mX12_image [.inr (.inr (12, 0))] σ Q := by
  refine WpD.of (d := e + 1) (Nat.le_of_ble_eq_true rfl) (Nat.le_of_ble_eq_true rfl) ?_
  show Wp (WpD (e + 1)) hcX12_image Q (0, [some (.inr (.inr (12, 0))), none], []) σ
  unfold F_X12_image at h
  refine Wp.run (WpD.mono _) 9 (q := ((16, [some (.inr (.inr (12, 0))), none], [.inl (5 : Int32), .inr (.inr (12, 0)), .inr (.inr (12, 0))]), ((hwU2 (hwU2 σ.1 12 29 (1 : Int32)) 12 30 (σ.1 12 10)), σ.2.1, σ.2.2.1, σ.2.2.2.1, σ.2.2.2.2))) rfl ?_
  obtain ⟨q1, hb, h⟩ := bind_some h
  refine Wp.call (WpD.mono _) rfl (T_X12_count (e + 0) N (5 : Int32) ((hwU2 (hwU2 σ.1 12 29 (1 : Int32)) 12 30 (σ.1 12 10)), σ.2.1, σ.2.2.1, σ.2.2.2.1, σ.2.2.2.2) _ _ _ hb ?_)
  show Wp (WpD (e + 1)) hcX12_image Q (19, [some (.inr (.inr (12, 0))), none], [.inl q1.1, .inr (.inr (12, 0))]) q1.2
  refine Wp.run (WpD.mono _) 6 (q := ((32, [some (.inr (.inr (12, 0))), some (.inl (0 : Int32))], []), ((hwU2 (hwU2 q1.2.1 12 34 q1.1) 12 31 (q1.2.1 12 28)), q1.2.2.1, q1.2.2.2.1, q1.2.2.2.2.1, q1.2.2.2.2.2))) rfl ?_
  exact Wp.jump (WpD.mono _) rfl ((T_X12_image_b32 e N  r τ Q hQ  N) (0 : Int32) ((hwU2 (hwU2 q1.2.1 12 34 q1.1) 12 31 (q1.2.1 12 28)), q1.2.2.1, q1.2.2.2.1, q1.2.2.2.2.1, q1.2.2.2.2.2) h)

set_option maxRecDepth 100000 in
set_option maxHeartbeats 4000000 in
theorem T_X12_indexOf_b12 (e N : Nat)   (r : Int32) (τ : Mem) (Q : Pst) (hQ : Q (some (.inl r)) τ) : ∀ n, ∀ (x1 : Int32) (x2 : Int32) (x3 : Int32) (x4 : Int32) (σ : Mem), F_X12_indexOf_b12 N n x1 x2 x3 x4 σ = some (r, τ) → Wp (WpD (e + 24)) hcX12_indexOf Q (12, [some (.inr (.inr (12, 0))), some (.inl x1), some (.inl x2), some (.inl x3), some (.inl x4), none], []) σ := by
  intro n
  induction n with
  | zero => intro x1 x2 x3 x4 σ h; cases h
  | succ n ih =>
    intro x1 x2 x3 x4 σ h
    unfold F_X12_indexOf_b12 at h
    refine Wp.run (WpD.mono _) 1 (q := ((15, [some (.inr (.inr (12, 0))), some (.inl x1), some (.inl x2), some (.inl x3), some (.inl x4), none], [.inl x4, .inl x3]), σ)) rfl ?_
    refine Wp.if2_ge (WpD.mono _) rfl rfl (fun hc => ?_) (fun hc => ?_)
    · have h := (if_pos hc).symm.trans h
      show Wp (WpD (e + 24)) hcX12_indexOf Q (65, [some (.inr (.inr (12, 0))), some (.inl x1), some (.inl x2), some (.inl x3), some (.inl x4), none], []) σ
      refine Wp.run (WpD.mono _) 4 (q := ((74, [some (.inr (.inr (12, 0))), some (.inl x1), some (.inl x2), some (.inl x3), some (.inl x4), none], [.inl (9999 : Int32), .inl x3]), ((hwU2 σ.1 12 1 x2), σ.2.1, σ.2.2.1, σ.2.2.2.1, σ.2.2.2.2))) rfl ?_
      refine Wp.if2_le (WpD.mono _) rfl rfl (fun hc => ?_) (fun hc => ?_)
      · have h := (if_pos hc).symm.trans h
        show Wp (WpD (e + 24)) hcX12_indexOf Q (81, [some (.inr (.inr (12, 0))), some (.inl x1), some (.inl x2), some (.inl x3), some (.inl x4), none], []) ((hwU2 σ.1 12 1 x2), σ.2.1, σ.2.2.1, σ.2.2.2.1, σ.2.2.2.2)
        refine Wp.run (WpD.mono _) 0 (q := ((82, [some (.inr (.inr (12, 0))), some (.inl x1), some (.inl x2), some (.inl x3), some (.inl x4), none], [.inl x3]), ((hwU2 σ.1 12 1 x2), σ.2.1, σ.2.2.1, σ.2.2.2.1, σ.2.2.2.2))) rfl ?_
        obtain ⟨rfl, rfl⟩ := ret_inj h
        exact Wp.ret (WpD.mono _) rfl hQ
      · have h := (if_neg hc).symm.trans h
        show Wp (WpD (e + 24)) hcX12_indexOf Q (77, [some (.inr (.inr (12, 0))), some (.inl x1), some (.inl x2), some (.inl x3), some (.inl x4), none], []) ((hwU2 σ.1 12 1 x2), σ.2.1, σ.2.2.1, σ.2.2.2.1, σ.2.2.2.2)
        refine Wp.run (WpD.mono _) 1 (q := ((82, [some (.inr (.inr (12, 0))), some (.inl x1), some (.inl x2), some (.inl x3), some (.inl x4), none], [.inl (Int32.ofInt (-1))]), ((hwU2 σ.1 12 1 x2), σ.2.1, σ.2.2.1, σ.2.2.2.1, σ.2.2.2.2))) rfl ?_
        obtain ⟨rfl, rfl⟩ := ret_inj h
        exact Wp.ret (WpD.mono _) rfl hQ
    · have h := (if_neg hc).symm.trans h
      show Wp (WpD (e + 24)) hcX12_indexOf Q (18, [some (.inr (.inr (12, 0))), some (.inl x1), some (.inl x2), some (.inl x3), some (.inl x4), none], []) σ
      refine Wp.run (WpD.mono _) 12 (q := ((38, [some (.inr (.inr (12, 0))), some (.inl x1), some (.inl x2), some (.inl x3), some (.inl x4), some (.inl ((x3 + x4) / (2 : Int32)))], [.inl x1, .inr (.inr (77, 0)), .inr (.inr (12, 0))]), ((hwU2 σ.1 12 1 ((x3 + x4) / (2 : Int32))), σ.2.1, σ.2.2.1, σ.2.2.2.1, σ.2.2.2.2))) rfl ?_
      obtain ⟨hc, h⟩ := ite_nn h
      refine Wp.X_ild1 (WpD.mono _) rfl rfl hc ?_
      show Wp (WpD (e + 24)) hcX12_indexOf Q (39, [some (.inr (.inr (12, 0))), some (.inl x1), some (.inl x2), some (.inl x3), some (.inl x4), some (.inl ((x3 + x4) / (2 : Int32)))], [.inl (σ.2.2.1 77 0 (x1).toNatClampNeg), .inr (.inr (12, 0))]) ((hwU2 σ.1 12 1 ((x3 + x4) / (2 : Int32))), σ.2.1, σ.2.2.1, σ.2.2.2.1, σ.2.2.2.2)
      refine Wp.run (WpD.mono _) 2 (q := ((42, [some (.inr (.inr (12, 0))), some (.inl x1), some (.inl x2), some (.inl x3), some (.inl x4), some (.inl ((x3 + x4) / (2 : Int32)))], [.inl (0 : Int32), .inl ((σ.2.2.1 77 0 (x1).toNatClampNeg) + (1 : Int32)), .inr (.inr (12, 0))]), ((hwU2 σ.1 12 1 ((x3 + x4) / (2 : Int32))), σ.2.1, σ.2.2.1, σ.2.2.2.1, σ.2.2.2.2))) rfl ?_
      obtain ⟨q1, hb, h⟩ := bind_some h
      refine Wp.call (WpD.mono _) rfl (T_X12_goesOn (e + 0) N ((σ.2.2.1 77 0 (x1).toNatClampNeg) + (1 : Int32)) (0 : Int32) ((hwU2 σ.1 12 1 ((x3 + x4) / (2 : Int32))), σ.2.1, σ.2.2.1, σ.2.2.2.1, σ.2.2.2.2) _ _ _ hb ?_)
      show Wp (WpD (e + 24)) hcX12_indexOf Q (45, [some (.inr (.inr (12, 0))), some (.inl x1), some (.inl x2), some (.inl x3), some (.inl x4), some (.inl ((x3 + x4) / (2 : Int32)))], [.inr (.inl q1.1)]) q1.2
      refine Wp.run (WpD.mono _) 1 (q := ((47, [some (.inr (.inr (12, 0))), some (.inl x1), some (.inl x2), some (.inl x3), some (.inl x4), some (.inl ((x3 + x4) / (2 : Int32)))], [.inl (lg_cmp q1.1 (0 : Int64))]), q1.2)) rfl ?_
      refine Wp.if0_le (WpD.mono _) rfl rfl (fun hc => ?_) (fun hc => ?_)
      · have h := (if_pos hc).symm.trans h
        show Wp (WpD (e + 24)) hcX12_indexOf Q (57, [some (.inr (.inr (12, 0))), some (.inl x1), some (.inl x2), some (.inl x3), some (.inl x4), some (.inl ((x3 + x4) / (2 : Int32)))], []) q1.2
        refine Wp.run (WpD.mono _) 4 (q := ((12, [some (.inr (.inr (12, 0))), some (.inl x1), some (.inl x2), some (.inl (((x3 + x4) / (2 : Int32)) + (1 : Int32))), some (.inl x4), none], []), q1.2)) rfl ?_
        exact Wp.jump (WpD.mono _) rfl (ih x1 x2 (((x3 + x4) / (2 : Int32)) + (1 : Int32)) x4 q1.2 h)
      · have h := (if_neg hc).symm.trans h
        show Wp (WpD (e + 24)) hcX12_indexOf Q (50, [some (.inr (.inr (12, 0))), some (.inl x1), some (.inl x2), some (.inl x3), some (.inl x4), some (.inl ((x3 + x4) / (2 : Int32)))], []) q1.2
        refine Wp.run (WpD.mono _) 3 (q := ((12, [some (.inr (.inr (12, 0))), some (.inl x1), some (.inl x2), some (.inl x3), some (.inl ((x3 + x4) / (2 : Int32))), none], []), q1.2)) rfl ?_
        exact Wp.jump (WpD.mono _) rfl (ih x1 x2 x3 ((x3 + x4) / (2 : Int32)) q1.2 h)

set_option maxRecDepth 100000 in
set_option maxHeartbeats 4000000 in
theorem T_X12_indexOf (e N : Nat)  (a1 : Int32) (σ : Mem) (r : Int32) (τ : Mem) (Q : Pst) (h : F_X12_indexOf N a1 σ = some (r, τ)) (hQ : Q (some (.inl r)) τ) : WpD (e + 25) mX12_indexOf [.inr (.inr (12, 0)), .inl a1] σ Q := by
  refine WpD.of (d := e + 24) (Nat.le_of_ble_eq_true rfl) (Nat.le_of_ble_eq_true rfl) ?_
  show Wp (WpD (e + 24)) hcX12_indexOf Q (0, [some (.inr (.inr (12, 0))), some (.inl a1), none, none, none, none], []) σ
  unfold F_X12_indexOf at h
  refine Wp.run (WpD.mono _) 6 (q := ((12, [some (.inr (.inr (12, 0))), some (.inl a1), some (.inl (σ.1 12 1)), some (.inl (0 : Int32)), some (.inl (10000 : Int32)), none], []), σ)) rfl ?_
  exact Wp.jump (WpD.mono _) rfl ((T_X12_indexOf_b12 e N  r τ Q hQ  N) a1 (σ.1 12 1) (0 : Int32) (10000 : Int32) σ h)

set_option maxRecDepth 100000 in
set_option maxHeartbeats 4000000 in
theorem T_X12_index (e N : Nat)  (a1 : Int32) (σ : Mem) (r : Int32) (τ : Mem) (Q : Pst) (h : F_X12_index N a1 σ = some (r, τ)) (hQ : Q (some (.inl r)) τ) : WpD (e + 26) mX12_index [.inr (.inr (12, 0)), .inl a1] σ Q := by
  refine WpD.of (d := e + 25) (Nat.le_of_ble_eq_true rfl) (Nat.le_of_ble_eq_true rfl) ?_
  show Wp (WpD (e + 25)) hcX12_index Q (0, [some (.inr (.inr (12, 0))), some (.inl a1)], []) σ
  unfold F_X12_index at h
  refine Wp.run (WpD.mono _) 1 (q := ((2, [some (.inr (.inr (12, 0))), some (.inl a1)], [.inl a1, .inr (.inr (12, 0))]), σ)) rfl ?_
  obtain ⟨q1, hb, h⟩ := bind_some h
  refine Wp.call (WpD.mono _) rfl (T_X12_isPlace (e + 23) N a1 σ _ _ _ hb ?_)
  show Wp (WpD (e + 25)) hcX12_index Q (5, [some (.inr (.inr (12, 0))), some (.inl a1)], [.inl q1.1]) q1.2
  refine Wp.if0_ne (WpD.mono _) rfl rfl (fun hc => ?_) (fun hc => ?_)
  · have h := (if_pos hc).symm.trans h
    show Wp (WpD (e + 25)) hcX12_index Q (8, [some (.inr (.inr (12, 0))), some (.inl a1)], []) q1.2
    refine Wp.run (WpD.mono _) 0 (q := ((10, [some (.inr (.inr (12, 0))), some (.inl a1)], [.inl (Int32.ofInt (-5))]), q1.2)) rfl ?_
    obtain ⟨rfl, rfl⟩ := ret_inj h
    exact Wp.ret (WpD.mono _) rfl hQ
  · have h := (if_neg hc).symm.trans h
    show Wp (WpD (e + 25)) hcX12_index Q (11, [some (.inr (.inr (12, 0))), some (.inl a1)], []) q1.2
    refine Wp.run (WpD.mono _) 1 (q := ((13, [some (.inr (.inr (12, 0))), some (.inl a1)], [.inl a1, .inr (.inr (12, 0))]), q1.2)) rfl ?_
    obtain ⟨q2, hb, h⟩ := bind_some h
    refine Wp.call (WpD.mono _) rfl (T_X12_goesHere (e + 19) N a1 q1.2 _ _ _ hb ?_)
    show Wp (WpD (e + 25)) hcX12_index Q (16, [some (.inr (.inr (12, 0))), some (.inl a1)], [.inl q2.1]) q2.2
    refine Wp.if0_eq (WpD.mono _) rfl rfl (fun hc => ?_) (fun hc => ?_)
    · have h := (if_pos hc).symm.trans h
      show Wp (WpD (e + 25)) hcX12_index Q (27, [some (.inr (.inr (12, 0))), some (.inl a1)], []) q2.2
      refine Wp.run (WpD.mono _) 0 (q := ((29, [some (.inr (.inr (12, 0))), some (.inl a1)], [.inl (Int32.ofInt (-3))]), q2.2)) rfl ?_
      obtain ⟨rfl, rfl⟩ := ret_inj h
      exact Wp.ret (WpD.mono _) rfl hQ
    · have h := (if_neg hc).symm.trans h
      show Wp (WpD (e + 25)) hcX12_index Q (19, [some (.inr (.inr (12, 0))), some (.inl a1)], []) q2.2
      refine Wp.run (WpD.mono _) 1 (q := ((21, [some (.inr (.inr (12, 0))), some (.inl a1)], [.inl a1, .inr (.inr (12, 0))]), q2.2)) rfl ?_
      obtain ⟨q3, hb, h⟩ := bind_some h
      refine Wp.call (WpD.mono _) rfl (T_X12_indexOf (e + 0) N a1 q2.2 _ _ _ hb ?_)
      show Wp (WpD (e + 25)) hcX12_index Q (24, [some (.inr (.inr (12, 0))), some (.inl a1)], [.inl q3.1]) q3.2
      refine Wp.run (WpD.mono _) 0 (q := ((29, [some (.inr (.inr (12, 0))), some (.inl a1)], [.inl q3.1]), q3.2)) rfl ?_
      obtain ⟨rfl, rfl⟩ := ret_inj h
      exact Wp.ret (WpD.mono _) rfl hQ

set_option maxRecDepth 100000 in
set_option maxHeartbeats 4000000 in
theorem T_X12_isUnder_b29 (e N : Nat)   (r : Int32) (τ : Mem) (Q : Pst) (hQ : Q (some (.inl r)) τ) : ∀ (x0 : Int32) (x1 : Int32) (σ : Mem), F_X12_isUnder_b29 N x0 x1 σ = some (r, τ) → Wp (WpD (e + 0)) hcX12_isUnder Q (29, [some (.inl x0), some (.inl x1)], []) σ := by
  intro x0 x1 σ h
  unfold F_X12_isUnder_b29 at h
  refine Wp.run (WpD.mono _) 1 (q := ((31, [some (.inl x0), some (.inl x1)], [.inl (2 : Int32), .inl x1]), σ)) rfl ?_
  refine Wp.if2_ne (WpD.mono _) rfl rfl (fun hc => ?_) (fun hc => ?_)
  · have h := (if_pos hc).symm.trans h
    show Wp (WpD (e + 0)) hcX12_isUnder Q (34, [some (.inl x0), some (.inl x1)], []) σ
    refine Wp.run (WpD.mono _) 1 (q := ((36, [some (.inl x0), some (.inl x1)], [.inl (5 : Int32), .inl x0]), σ)) rfl ?_
    refine Wp.if2_ne (WpD.mono _) rfl rfl (fun hc => ?_) (fun hc => ?_)
    · have h := (if_pos hc).symm.trans h
      show Wp (WpD (e + 0)) hcX12_isUnder Q (39, [some (.inl x0), some (.inl x1)], []) σ
      refine Wp.run (WpD.mono _) 1 (q := ((44, [none, none], [.inl (1 : Int32)]), σ)) rfl ?_
      obtain ⟨rfl, rfl⟩ := ret_inj h
      exact Wp.ret (WpD.mono _) rfl hQ
    · have h := (if_neg hc).symm.trans h
      show Wp (WpD (e + 0)) hcX12_isUnder Q (43, [some (.inl x0), some (.inl x1)], []) σ
      refine Wp.run (WpD.mono _) 0 (q := ((44, [none, none], [.inl (0 : Int32)]), σ)) rfl ?_
      obtain ⟨rfl, rfl⟩ := ret_inj h
      exact Wp.ret (WpD.mono _) rfl hQ
  · have h := (if_neg hc).symm.trans h
    show Wp (WpD (e + 0)) hcX12_isUnder Q (43, [some (.inl x0), some (.inl x1)], []) σ
    refine Wp.run (WpD.mono _) 0 (q := ((44, [none, none], [.inl (0 : Int32)]), σ)) rfl ?_
    obtain ⟨rfl, rfl⟩ := ret_inj h
    exact Wp.ret (WpD.mono _) rfl hQ

set_option maxRecDepth 100000 in
set_option maxHeartbeats 4000000 in
theorem T_X12_isUnder (e N : Nat)  (a1 : Int32) (a2 : Int32) (σ : Mem) (r : Int32) (τ : Mem) (Q : Pst) (h : F_X12_isUnder N a1 a2 σ = some (r, τ)) (hQ : Q (some (.inl r)) τ) : WpD (e + 1) mX12_isUnder [.inl a1, .inl a2] σ Q := by
  refine WpD.of (d := e + 0) (Nat.le_of_ble_eq_true rfl) (Nat.le_of_ble_eq_true rfl) ?_
  show Wp (WpD (e + 0)) hcX12_isUnder Q (0, [some (.inl a1), some (.inl a2)], []) σ
  unfold F_X12_isUnder at h
  refine Wp.run (WpD.mono _) 0 (q := ((1, [some (.inl a1), some (.inl a2)], [.inl a2]), σ)) rfl ?_
  refine Wp.if0_eq (WpD.mono _) rfl rfl (fun hc => ?_) (fun hc => ?_)
  · have h := (if_pos hc).symm.trans h
    show Wp (WpD (e + 0)) hcX12_isUnder Q (39, [some (.inl a1), some (.inl a2)], []) σ
    refine Wp.run (WpD.mono _) 1 (q := ((44, [none, none], [.inl (1 : Int32)]), σ)) rfl ?_
    obtain ⟨rfl, rfl⟩ := ret_inj h
    exact Wp.ret (WpD.mono _) rfl hQ
  · have h := (if_neg hc).symm.trans h
    show Wp (WpD (e + 0)) hcX12_isUnder Q (4, [some (.inl a1), some (.inl a2)], []) σ
    refine Wp.run (WpD.mono _) 1 (q := ((6, [some (.inl a1), some (.inl a2)], [.inl a2, .inl a1]), σ)) rfl ?_
    refine Wp.if2_eq (WpD.mono _) rfl rfl (fun hc => ?_) (fun hc => ?_)
    · have h := (if_pos hc).symm.trans h
      show Wp (WpD (e + 0)) hcX12_isUnder Q (39, [some (.inl a1), some (.inl a2)], []) σ
      refine Wp.run (WpD.mono _) 1 (q := ((44, [none, none], [.inl (1 : Int32)]), σ)) rfl ?_
      obtain ⟨rfl, rfl⟩ := ret_inj h
      exact Wp.ret (WpD.mono _) rfl hQ
    · have h := (if_neg hc).symm.trans h
      show Wp (WpD (e + 0)) hcX12_isUnder Q (9, [some (.inl a1), some (.inl a2)], []) σ
      refine Wp.run (WpD.mono _) 1 (q := ((11, [some (.inl a1), some (.inl a2)], [.inl (1 : Int32), .inl a2]), σ)) rfl ?_
      refine Wp.if2_ne (WpD.mono _) rfl rfl (fun hc => ?_) (fun hc => ?_)
      · have h := (if_pos hc).symm.trans h
        show Wp (WpD (e + 0)) hcX12_isUnder Q (14, [some (.inl a1), some (.inl a2)], []) σ
        refine Wp.run (WpD.mono _) 1 (q := ((16, [some (.inl a1), some (.inl a2)], [.inl (2 : Int32), .inl a1]), σ)) rfl ?_
        refine Wp.if2_eq (WpD.mono _) rfl rfl (fun hc => ?_) (fun hc => ?_)
        · have h := (if_pos hc).symm.trans h
          show Wp (WpD (e + 0)) hcX12_isUnder Q (39, [some (.inl a1), some (.inl a2)], []) σ
          refine Wp.run (WpD.mono _) 1 (q := ((44, [none, none], [.inl (1 : Int32)]), σ)) rfl ?_
          obtain ⟨rfl, rfl⟩ := ret_inj h
          exact Wp.ret (WpD.mono _) rfl hQ
        · have h := (if_neg hc).symm.trans h
          show Wp (WpD (e + 0)) hcX12_isUnder Q (19, [some (.inl a1), some (.inl a2)], []) σ
          refine Wp.run (WpD.mono _) 1 (q := ((21, [some (.inl a1), some (.inl a2)], [.inl (4 : Int32), .inl a1]), σ)) rfl ?_
          refine Wp.if2_eq (WpD.mono _) rfl rfl (fun hc => ?_) (fun hc => ?_)
          · have h := (if_pos hc).symm.trans h
            show Wp (WpD (e + 0)) hcX12_isUnder Q (39, [some (.inl a1), some (.inl a2)], []) σ
            refine Wp.run (WpD.mono _) 1 (q := ((44, [none, none], [.inl (1 : Int32)]), σ)) rfl ?_
            obtain ⟨rfl, rfl⟩ := ret_inj h
            exact Wp.ret (WpD.mono _) rfl hQ
          · have h := (if_neg hc).symm.trans h
            show Wp (WpD (e + 0)) hcX12_isUnder Q (24, [some (.inl a1), some (.inl a2)], []) σ
            refine Wp.run (WpD.mono _) 1 (q := ((26, [some (.inl a1), some (.inl a2)], [.inl (5 : Int32), .inl a1]), σ)) rfl ?_
            refine Wp.if2_eq (WpD.mono _) rfl rfl (fun hc => ?_) (fun hc => ?_)
            · have h := (if_pos hc).symm.trans h
              show Wp (WpD (e + 0)) hcX12_isUnder Q (39, [some (.inl a1), some (.inl a2)], []) σ
              refine Wp.run (WpD.mono _) 1 (q := ((44, [none, none], [.inl (1 : Int32)]), σ)) rfl ?_
              obtain ⟨rfl, rfl⟩ := ret_inj h
              exact Wp.ret (WpD.mono _) rfl hQ
            · have h := (if_neg hc).symm.trans h
              show Wp (WpD (e + 0)) hcX12_isUnder Q (29, [some (.inl a1), some (.inl a2)], []) σ
              exact Wp.jump (WpD.mono _) rfl ((T_X12_isUnder_b29 e N  r τ Q hQ ) a1 a2 σ h)
      · have h := (if_neg hc).symm.trans h
        show Wp (WpD (e + 0)) hcX12_isUnder Q (29, [some (.inl a1), some (.inl a2)], []) σ
        exact Wp.jump (WpD.mono _) rfl ((T_X12_isUnder_b29 e N  r τ Q hQ ) a1 a2 σ h)

set_option maxRecDepth 100000 in
set_option maxHeartbeats 4000000 in
theorem T_X12_partsOf_b5 (e N : Nat)   (r : Int32) (τ : Mem) (Q : Pst) (hQ : Q (some (.inl r)) τ) : ∀ n, ∀ (x1 : Int32) (x2 : Int32) (x3 : Int32) (x4 : Int32) (σ : Mem), F_X12_partsOf_b5 N n x1 x2 x3 x4 σ = some (r, τ) → Wp (WpD (e + 0)) hcX12_partsOf Q (5, [some (.inr (.inr (12, 0))), some (.inl x1), some (.inl x2), some (.inl x3), some (.inl x4)], []) σ := by
  intro n
  induction n with
  | zero => intro x1 x2 x3 x4 σ h; cases h
  | succ n ih =>
    intro x1 x2 x3 x4 σ h
    unfold F_X12_partsOf_b5 at h
    refine Wp.run (WpD.mono _) 2 (q := ((11, [some (.inr (.inr (12, 0))), some (.inl x1), some (.inl x2), some (.inl x3), some (.inl x4)], [.inl (σ.1 12 20), .inl x4]), σ)) rfl ?_
    refine Wp.if2_ge (WpD.mono _) rfl rfl (fun hc => ?_) (fun hc => ?_)
    · have h := (if_pos hc).symm.trans h
      show Wp (WpD (e + 0)) hcX12_partsOf Q (48, [some (.inr (.inr (12, 0))), some (.inl x1), some (.inl x2), some (.inl x3), some (.inl x4)], []) σ
      refine Wp.run (WpD.mono _) 0 (q := ((49, [some (.inr (.inr (12, 0))), some (.inl x1), some (.inl x2), some (.inl x3), some (.inl x4)], [.inl x3]), σ)) rfl ?_
      obtain ⟨rfl, rfl⟩ := ret_inj h
      exact Wp.ret (WpD.mono _) rfl hQ
    · have h := (if_neg hc).symm.trans h
      show Wp (WpD (e + 0)) hcX12_partsOf Q (14, [some (.inr (.inr (12, 0))), some (.inl x1), some (.inl x2), some (.inl x3), some (.inl x4)], []) σ
      refine Wp.run (WpD.mono _) 5 (q := ((21, [some (.inr (.inr (12, 0))), some (.inl x1), some (.inl x2), some (.inl x3), some (.inl x4)], [.inl ((x2 >>> (x4 &&& 31)) &&& (1 : Int32)), .inl x3]), σ)) rfl ?_
      refine Wp.if0_ne (WpD.mono _) rfl rfl (fun hc => ?_) (fun hc => ?_)
      · have h := (if_pos hc).symm.trans h
        show Wp (WpD (e + 0)) hcX12_partsOf Q (24, [some (.inr (.inr (12, 0))), some (.inl x1), some (.inl x2), some (.inl x3), some (.inl x4)], [.inl x3]) σ
        refine Wp.run (WpD.mono _) 5 (q := ((5, [some (.inr (.inr (12, 0))), some (.inl x1), some (.inl x2), some (.inl (x3 + (0 : Int32))), some (.inl (x4 + (1 : Int32)))], []), σ)) rfl ?_
        exact Wp.jump (WpD.mono _) rfl (ih x1 x2 (x3 + (0 : Int32)) (x4 + (1 : Int32)) σ h)
      · have h := (if_neg hc).symm.trans h
        show Wp (WpD (e + 0)) hcX12_partsOf Q (28, [some (.inr (.inr (12, 0))), some (.inl x1), some (.inl x2), some (.inl x3), some (.inl x4)], [.inl x3]) σ
        refine Wp.run (WpD.mono _) 6 (q := ((39, [some (.inr (.inr (12, 0))), some (.inl x1), some (.inl x2), some (.inl x3), some (.inl x4)], [.inl (((40 : Int32) * x1) + x4), .inr (.inr (97, 0)), .inl x3]), σ)) rfl ?_
        obtain ⟨hc, h⟩ := ite_nn h
        refine Wp.X_ild1 (WpD.mono _) rfl rfl hc ?_
        show Wp (WpD (e + 0)) hcX12_partsOf Q (40, [some (.inr (.inr (12, 0))), some (.inl x1), some (.inl x2), some (.inl x3), some (.inl x4)], [.inl (σ.2.2.1 97 0 ((((40 : Int32) * x1) + x4)).toNatClampNeg), .inl x3]) σ
        refine Wp.run (WpD.mono _) 3 (q := ((5, [some (.inr (.inr (12, 0))), some (.inl x1), some (.inl x2), some (.inl (x3 + (σ.2.2.1 97 0 ((((40 : Int32) * x1) + x4)).toNatClampNeg))), some (.inl (x4 + (1 : Int32)))], []), σ)) rfl ?_
        exact Wp.jump (WpD.mono _) rfl (ih x1 x2 (x3 + (σ.2.2.1 97 0 ((((40 : Int32) * x1) + x4)).toNatClampNeg)) (x4 + (1 : Int32)) σ h)

set_option maxRecDepth 100000 in
set_option maxHeartbeats 4000000 in
theorem T_X12_partsOf (e N : Nat)  (a1 : Int32) (a2 : Int32) (σ : Mem) (r : Int32) (τ : Mem) (Q : Pst) (h : F_X12_partsOf N a1 a2 σ = some (r, τ)) (hQ : Q (some (.inl r)) τ) : WpD (e + 1) mX12_partsOf [.inr (.inr (12, 0)), .inl a1, .inl a2] σ Q := by
  refine WpD.of (d := e + 0) (Nat.le_of_ble_eq_true rfl) (Nat.le_of_ble_eq_true rfl) ?_
  show Wp (WpD (e + 0)) hcX12_partsOf Q (0, [some (.inr (.inr (12, 0))), some (.inl a1), some (.inl a2), none, none], []) σ
  unfold F_X12_partsOf at h
  refine Wp.run (WpD.mono _) 3 (q := ((5, [some (.inr (.inr (12, 0))), some (.inl a1), some (.inl a2), some (.inl (0 : Int32)), some (.inl (0 : Int32))], []), σ)) rfl ?_
  exact Wp.jump (WpD.mono _) rfl ((T_X12_partsOf_b5 e N  r τ Q hQ  N) a1 a2 (0 : Int32) (0 : Int32) σ h)

set_option maxRecDepth 100000 in
set_option maxHeartbeats 4000000 in
theorem T_X12_join_b174 (e N : Nat)   (r : Int32) (τ : Mem) (Q : Pst) (hQ : Q (some (.inl r)) τ) : ∀ (x1 : Int32) (x4 : Int32) (x5 : Int32) (σ : Mem), F_X12_join_b174 N x1 x4 x5 σ = some (r, τ) → Wp (WpD (e + 4)) hcX12_join Q (174, [some (.inr (.inr (12, 0))), some (.inl x1), none, none, some (.inl x4), some (.inl x5), none], []) σ := by
  intro x1 x4 x5 σ h
  unfold F_X12_join_b174 at h
  refine Wp.run (WpD.mono _) 1 (q := ((178, [some (.inr (.inr (12, 0))), some (.inl x1), none, none, some (.inl x4), some (.inl x5), none], [.inl (σ.1 12 20)]), σ)) rfl ?_
  refine Wp.if0_le (WpD.mono _) rfl rfl (fun hc => ?_) (fun hc => ?_)
  · have h := (if_pos hc).symm.trans h
    show Wp (WpD (e + 4)) hcX12_join Q (203, [some (.inr (.inr (12, 0))), some (.inl x1), none, none, some (.inl x4), some (.inl x5), none], []) σ
    refine Wp.run (WpD.mono _) 0 (q := ((204, [none, none, none, none, none, none, none], [.inl (Int32.ofInt (-1))]), σ)) rfl ?_
    obtain ⟨rfl, rfl⟩ := ret_inj h
    exact Wp.ret (WpD.mono _) rfl hQ
  · have h := (if_neg hc).symm.trans h
    show Wp (WpD (e + 4)) hcX12_join Q (181, [some (.inr (.inr (12, 0))), some (.inl x1), none, none, some (.inl x4), some (.inl x5), none], []) σ
    refine Wp.run (WpD.mono _) 2 (q := ((185, [some (.inr (.inr (12, 0))), some (.inl x1), none, none, some (.inl x4), some (.inl x5), none], [.inl x5, .inl x1, .inr (.inr (12, 0))]), σ)) rfl ?_
    obtain ⟨q8, hb, h⟩ := bind_some h
    refine Wp.call (WpD.mono _) rfl (T_X12_partsOf (e + 3) N x1 x5 σ _ _ _ hb ?_)
    show Wp (WpD (e + 4)) hcX12_join Q (188, [some (.inr (.inr (12, 0))), some (.inl x1), none, none, some (.inl x4), some (.inl x5), none], [.inl q8.1]) q8.2
    refine Wp.run (WpD.mono _) 3 (q := ((195, [some (.inr (.inr (12, 0))), some (.inl x1), none, none, some (.inl x4), some (.inl x5), none], [.inl ((q8.2.1 12 60) + x4), .inl q8.1]), q8.2)) rfl ?_
    refine Wp.if2_ge (WpD.mono _) rfl rfl (fun hc => ?_) (fun hc => ?_)
    · have h := (if_pos hc).symm.trans h
      show Wp (WpD (e + 4)) hcX12_join Q (203, [some (.inr (.inr (12, 0))), some (.inl x1), none, none, some (.inl x4), some (.inl x5), none], []) q8.2
      refine Wp.run (WpD.mono _) 0 (q := ((204, [none, none, none, none, none, none, none], [.inl (Int32.ofInt (-1))]), q8.2)) rfl ?_
      obtain ⟨rfl, rfl⟩ := ret_inj h
      exact Wp.ret (WpD.mono _) rfl hQ
    · have h := (if_neg hc).symm.trans h
      show Wp (WpD (e + 4)) hcX12_join Q (198, [some (.inr (.inr (12, 0))), some (.inl x1), none, none, some (.inl x4), some (.inl x5), none], []) q8.2
      refine Wp.run (WpD.mono _) 1 (q := ((204, [some (.inr (.inr (12, 0))), some (.inl x1), none, none, some (.inl x4), some (.inl x5), none], [.inl x5]), q8.2)) rfl ?_
      obtain ⟨rfl, rfl⟩ := ret_inj h
      exact Wp.ret (WpD.mono _) rfl hQ

set_option maxRecDepth 100000 in
set_option maxHeartbeats 4000000 in
theorem T_X12_join_b122 (e N : Nat)   (r : Int32) (τ : Mem) (Q : Pst) (hQ : Q (some (.inl r)) τ) : ∀ n, ∀ (x1 : Int32) (x4 : Int32) (x5 : Int32) (x6 : Int32) (σ : Mem), F_X12_join_b122 N n x1 x4 x5 x6 σ = some (r, τ) → Wp (WpD (e + 4)) hcX12_join Q (122, [some (.inr (.inr (12, 0))), some (.inl x1), none, none, some (.inl x4), some (.inl x5), some (.inl x6)], []) σ := by
  intro n
  induction n with
  | zero => intro x1 x4 x5 x6 σ h; cases h
  | succ n ih =>
    intro x1 x4 x5 x6 σ h
    unfold F_X12_join_b122 at h
    refine Wp.run (WpD.mono _) 1 (q := ((126, [some (.inr (.inr (12, 0))), some (.inl x1), none, none, some (.inl x4), some (.inl x5), some (.inl x6)], [.inl x5, .inl x6]), σ)) rfl ?_
    refine Wp.if2_gt (WpD.mono _) rfl rfl (fun hc => ?_) (fun hc => ?_)
    · have h := (if_pos hc).symm.trans h
      show Wp (WpD (e + 4)) hcX12_join Q (161, [some (.inr (.inr (12, 0))), some (.inl x1), none, none, some (.inl x4), some (.inl x5), some (.inl x6)], []) σ
      refine Wp.run (WpD.mono _) 1 (q := ((165, [some (.inr (.inr (12, 0))), some (.inl x1), none, none, some (.inl x4), some (.inl x5), some (.inl x6)], [.inl (σ.1 12 20)]), σ)) rfl ?_
      refine Wp.if0_le (WpD.mono _) rfl rfl (fun hc => ?_) (fun hc => ?_)
      · have h := (if_pos hc).symm.trans h
        show Wp (WpD (e + 4)) hcX12_join Q (174, [some (.inr (.inr (12, 0))), some (.inl x1), none, none, some (.inl x4), some (.inl x5), some (.inl x6)], []) σ
        exact Wp.jump (WpD.mono _) rfl ((T_X12_join_b174 e N  r τ Q hQ ) x1 x4 x5 σ h)
      · have h := (if_neg hc).symm.trans h
        show Wp (WpD (e + 4)) hcX12_join Q (168, [some (.inr (.inr (12, 0))), some (.inl x1), none, none, some (.inl x4), some (.inl x5), some (.inl x6)], []) σ
        refine Wp.run (WpD.mono _) 1 (q := ((171, [some (.inr (.inr (12, 0))), some (.inl x1), none, none, some (.inl x4), some (.inl x5), some (.inl x6)], [.inl x5, .inr (.inr (12, 0))]), σ)) rfl ?_
        obtain ⟨q5, hb, h⟩ := bind_some h
        refine Wp.call (WpD.mono _) rfl (T_X12_findsWell (e + 3) N x5 σ _ _ _ hb ?_)
        show Wp (WpD (e + 4)) hcX12_join Q (174, [some (.inr (.inr (12, 0))), some (.inl x1), none, none, some (.inl x4), some (.inl x5), some (.inl x6)], []) q5.2
        exact Wp.jump (WpD.mono _) rfl ((T_X12_join_b174 e N  r τ Q hQ ) x1 x4 x5 q5.2 h)
    · have h := (if_neg hc).symm.trans h
      show Wp (WpD (e + 4)) hcX12_join Q (129, [some (.inr (.inr (12, 0))), some (.inl x1), none, none, some (.inl x4), some (.inl x5), some (.inl x6)], []) σ
      refine Wp.run (WpD.mono _) 1 (q := ((132, [some (.inr (.inr (12, 0))), some (.inl x1), none, none, some (.inl x4), some (.inl x5), some (.inl x6)], [.inl x6, .inr (.inr (12, 0))]), σ)) rfl ?_
      obtain ⟨q6, hb, h⟩ := bind_some h
      refine Wp.call (WpD.mono _) rfl (T_X12_findsWell (e + 3) N x6 σ _ _ _ hb ?_)
      show Wp (WpD (e + 4)) hcX12_join Q (135, [some (.inr (.inr (12, 0))), some (.inl x1), none, none, some (.inl x4), some (.inl x5), some (.inl x6)], []) q6.2
      refine Wp.run (WpD.mono _) 2 (q := ((139, [some (.inr (.inr (12, 0))), some (.inl x1), none, none, some (.inl x4), some (.inl x5), some (.inl x6)], [.inl x6, .inl x1, .inr (.inr (12, 0))]), q6.2)) rfl ?_
      obtain ⟨q7, hb, h⟩ := bind_some h
      refine Wp.call (WpD.mono _) rfl (T_X12_partsOf (e + 3) N x1 x6 q6.2 _ _ _ hb ?_)
      show Wp (WpD (e + 4)) hcX12_join Q (142, [some (.inr (.inr (12, 0))), some (.inl x1), none, none, some (.inl x4), some (.inl x5), some (.inl x6)], [.inl q7.1]) q7.2
      refine Wp.run (WpD.mono _) 3 (q := ((149, [some (.inr (.inr (12, 0))), some (.inl x1), none, none, some (.inl x4), some (.inl x5), some (.inl x6)], [.inl ((q7.2.1 12 60) + x4), .inl q7.1]), q7.2)) rfl ?_
      refine Wp.if2_le (WpD.mono _) rfl rfl (fun hc => ?_) (fun hc => ?_)
      · have h := (if_pos hc).symm.trans h
        show Wp (WpD (e + 4)) hcX12_join Q (155, [some (.inr (.inr (12, 0))), some (.inl x1), none, none, some (.inl x4), some (.inl x5), some (.inl x6)], []) q7.2
        refine Wp.run (WpD.mono _) 1 (q := ((122, [some (.inr (.inr (12, 0))), some (.inl x1), none, none, some (.inl x4), some (.inl x5), some (.inl (x6 + (1 : Int32)))], []), q7.2)) rfl ?_
        exact Wp.jump (WpD.mono _) rfl (ih x1 x4 x5 (x6 + (1 : Int32)) q7.2 h)
      · have h := (if_neg hc).symm.trans h
        show Wp (WpD (e + 4)) hcX12_join Q (152, [some (.inr (.inr (12, 0))), some (.inl x1), none, none, some (.inl x4), some (.inl x5), some (.inl x6)], []) q7.2
        refine Wp.run (WpD.mono _) 0 (q := ((154, [some (.inr (.inr (12, 0))), some (.inl x1), none, none, some (.inl x4), some (.inl x5), some (.inl x6)], [.inl x6]), q7.2)) rfl ?_
        obtain ⟨rfl, rfl⟩ := ret_inj h
        exact Wp.ret (WpD.mono _) rfl hQ

set_option maxRecDepth 100000 in
set_option maxHeartbeats 4000000 in
theorem T_X12_join_b95 (e N : Nat)   (r : Int32) (τ : Mem) (Q : Pst) (hQ : Q (some (.inl r)) τ) : ∀ (x1 : Int32) (x2 : Int32) (x3 : Int32) (σ : Mem), F_X12_join_b95 N x1 x2 x3 σ = some (r, τ) → Wp (WpD (e + 4)) hcX12_join Q (95, [some (.inr (.inr (12, 0))), some (.inl x1), some (.inl x2), some (.inl x3), none, none, none], []) σ := by
  intro x1 x2 x3 σ h
  unfold F_X12_join_b95 at h
  refine Wp.run (WpD.mono _) 0 (q := ((96, [some (.inr (.inr (12, 0))), some (.inl x1), some (.inl x2), some (.inl x3), none, none, none], [.inl x3]), σ)) rfl ?_
  refine Wp.if0_ne (WpD.mono _) rfl rfl (fun hc => ?_) (fun hc => ?_)
  · have h := (if_pos hc).symm.trans h
    show Wp (WpD (e + 4)) hcX12_join Q (99, [some (.inr (.inr (12, 0))), some (.inl x1), some (.inl x2), some (.inl x3), none, none, none], []) σ
    refine Wp.run (WpD.mono _) 0 (q := ((101, [some (.inr (.inr (12, 0))), some (.inl x1), some (.inl x2), some (.inl x3), none, none, none], [.inl (Int32.ofInt (-2))]), σ)) rfl ?_
    obtain ⟨rfl, rfl⟩ := ret_inj h
    exact Wp.ret (WpD.mono _) rfl hQ
  · have h := (if_neg hc).symm.trans h
    show Wp (WpD (e + 4)) hcX12_join Q (102, [some (.inr (.inr (12, 0))), some (.inl x1), some (.inl x2), some (.inl x3), none, none, none], []) σ
    refine Wp.run (WpD.mono _) 1 (q := ((104, [some (.inr (.inr (12, 0))), some (.inl x1), some (.inl x2), some (.inl x3), none, none, none], [.inl x2, .inr (.inr (12, 0))]), σ)) rfl ?_
    obtain ⟨q4, hb, h⟩ := bind_some h
    refine Wp.call (WpD.mono _) rfl (T_X12_costsTo (e + 0) N x2 σ _ _ _ hb ?_)
    show Wp (WpD (e + 4)) hcX12_join Q (107, [some (.inr (.inr (12, 0))), some (.inl x1), some (.inl x2), some (.inl x3), none, none, none], [.inl q4.1]) q4.2
    refine Wp.run (WpD.mono _) 9 (q := ((122, [some (.inr (.inr (12, 0))), some (.inl x1), some (.inl x2), some (.inl x3), some (.inl q4.1), some (.inl (((1 : Int32) <<< ((q4.2.1 12 20) &&& 31)) - (1 : Int32))), some (.inl (1 : Int32))], []), q4.2)) rfl ?_
    exact Wp.jump (WpD.mono _) rfl ((T_X12_join_b122 e N  r τ Q hQ  N) x1 q4.1 (((1 : Int32) <<< ((q4.2.1 12 20) &&& 31)) - (1 : Int32)) (1 : Int32) q4.2 h)

set_option maxRecDepth 100000 in
set_option maxHeartbeats 4000000 in
theorem T_X12_join_b56 (e N : Nat)   (r : Int32) (τ : Mem) (Q : Pst) (hQ : Q (some (.inl r)) τ) : ∀ n, ∀ (x1 : Int32) (x2 : Int32) (x3 : Int32) (x4 : Int32) (σ : Mem), F_X12_join_b56 N n x1 x2 x3 x4 σ = some (r, τ) → Wp (WpD (e + 4)) hcX12_join Q (56, [some (.inr (.inr (12, 0))), some (.inl x1), some (.inl x2), some (.inl x3), some (.inl x4), none, none], []) σ := by
  intro n
  induction n with
  | zero => intro x1 x2 x3 x4 σ h; cases h
  | succ n ih =>
    intro x1 x2 x3 x4 σ h
    unfold F_X12_join_b56 at h
    refine Wp.run (WpD.mono _) 2 (q := ((62, [some (.inr (.inr (12, 0))), some (.inl x1), some (.inl x2), some (.inl x3), some (.inl x4), none, none], [.inl (σ.1 12 20), .inl x4]), σ)) rfl ?_
    refine Wp.if2_ge (WpD.mono _) rfl rfl (fun hc => ?_) (fun hc => ?_)
    · have h := (if_pos hc).symm.trans h
      show Wp (WpD (e + 4)) hcX12_join Q (95, [some (.inr (.inr (12, 0))), some (.inl x1), some (.inl x2), some (.inl x3), some (.inl x4), none, none], []) σ
      exact Wp.jump (WpD.mono _) rfl ((T_X12_join_b95 e N  r τ Q hQ ) x1 x2 x3 σ h)
    · have h := (if_neg hc).symm.trans h
      show Wp (WpD (e + 4)) hcX12_join Q (65, [some (.inr (.inr (12, 0))), some (.inl x1), some (.inl x2), some (.inl x3), some (.inl x4), none, none], []) σ
      refine Wp.run (WpD.mono _) 0 (q := ((66, [some (.inr (.inr (12, 0))), some (.inl x1), some (.inl x2), some (.inl x3), some (.inl x4), none, none], [.inl x3]), σ)) rfl ?_
      refine Wp.if0_eq (WpD.mono _) rfl rfl (fun hc => ?_) (fun hc => ?_)
      · have h := (if_pos hc).symm.trans h
        show Wp (WpD (e + 4)) hcX12_join Q (95, [some (.inr (.inr (12, 0))), some (.inl x1), some (.inl x2), some (.inl x3), some (.inl x4), none, none], []) σ
        exact Wp.jump (WpD.mono _) rfl ((T_X12_join_b95 e N  r τ Q hQ ) x1 x2 x3 σ h)
      · have h := (if_neg hc).symm.trans h
        show Wp (WpD (e + 4)) hcX12_join Q (69, [some (.inr (.inr (12, 0))), some (.inl x1), some (.inl x2), some (.inl x3), some (.inl x4), none, none], []) σ
        refine Wp.run (WpD.mono _) 6 (q := ((80, [some (.inr (.inr (12, 0))), some (.inl x1), some (.inl x2), some (.inl x3), some (.inl x4), none, none], [.inl (((40 : Int32) * x1) + x4), .inr (.inr (97, 0))]), σ)) rfl ?_
        obtain ⟨hc, h⟩ := ite_nn h
        refine Wp.X_ild1 (WpD.mono _) rfl rfl hc ?_
        show Wp (WpD (e + 4)) hcX12_join Q (81, [some (.inr (.inr (12, 0))), some (.inl x1), some (.inl x2), some (.inl x3), some (.inl x4), none, none], [.inl (σ.2.2.1 97 0 ((((40 : Int32) * x1) + x4)).toNatClampNeg)]) σ
        refine Wp.run (WpD.mono _) 1 (q := ((85, [some (.inr (.inr (12, 0))), some (.inl x1), some (.inl x2), some (.inl x3), some (.inl x4), none, none], [.inl (999999 : Int32), .inl (0 : Int32), .inl (σ.2.2.1 97 0 ((((40 : Int32) * x1) + x4)).toNatClampNeg)]), σ)) rfl ?_
        obtain ⟨q3, hb, h⟩ := bind_some h
        refine Wp.call (WpD.mono _) rfl (T_X12_in (e + 3) N (σ.2.2.1 97 0 ((((40 : Int32) * x1) + x4)).toNatClampNeg) (0 : Int32) (999999 : Int32) σ _ _ _ hb ?_)
        show Wp (WpD (e + 4)) hcX12_join Q (88, [some (.inr (.inr (12, 0))), some (.inl x1), some (.inl x2), some (.inl x3), some (.inl x4), none, none], [.inl q3.1]) q3.2
        refine Wp.run (WpD.mono _) 2 (q := ((56, [some (.inr (.inr (12, 0))), some (.inl x1), some (.inl x2), some (.inl q3.1), some (.inl (x4 + (1 : Int32))), none, none], []), q3.2)) rfl ?_
        exact Wp.jump (WpD.mono _) rfl (ih x1 x2 q3.1 (x4 + (1 : Int32)) q3.2 h)

set_option maxRecDepth 100000 in
set_option maxHeartbeats 4000000 in
theorem T_X12_join (e N : Nat)  (a1 : Int32) (a2 : Int32) (σ : Mem) (r : Int32) (τ : Mem) (Q : Pst) (h : F_X12_join N a1 a2 σ = some (r, τ)) (hQ : Q (some (.inl r)) τ) : WpD (e + 5) mX12_join [.inr (.inr (12, 0)), .inl a1, .inl a2] σ Q := by
  refine WpD.of (d := e + 4) (Nat.le_of_ble_eq_true rfl) (Nat.le_of_ble_eq_true rfl) ?_
  show Wp (WpD (e + 4)) hcX12_join Q (0, [some (.inr (.inr (12, 0))), some (.inl a1), some (.inl a2), none, none, none, none], []) σ
  unfold F_X12_join at h
  refine Wp.run (WpD.mono _) 2 (q := ((3, [some (.inr (.inr (12, 0))), some (.inl a1), some (.inl a2), none, none, none, none], [.inl (3 : Int32), .inl (0 : Int32), .inl a1]), σ)) rfl ?_
  obtain ⟨q1, hb, h⟩ := bind_some h
  refine Wp.call (WpD.mono _) rfl (T_X12_in (e + 3) N a1 (0 : Int32) (3 : Int32) σ _ _ _ hb ?_)
  show Wp (WpD (e + 4)) hcX12_join Q (6, [some (.inr (.inr (12, 0))), some (.inl a1), some (.inl a2), none, none, none, none], [.inl q1.1]) q1.2
  refine Wp.if0_eq (WpD.mono _) rfl rfl (fun hc => ?_) (fun hc => ?_)
  · have h := (if_pos hc).symm.trans h
    show Wp (WpD (e + 4)) hcX12_join Q (18, [some (.inr (.inr (12, 0))), some (.inl a1), some (.inl a2), none, none, none, none], []) q1.2
    refine Wp.run (WpD.mono _) 0 (q := ((20, [none, none, none, none, none, none, none], [.inl (Int32.ofInt (-2))]), q1.2)) rfl ?_
    obtain ⟨rfl, rfl⟩ := ret_inj h
    exact Wp.ret (WpD.mono _) rfl hQ
  · have h := (if_neg hc).symm.trans h
    show Wp (WpD (e + 4)) hcX12_join Q (9, [some (.inr (.inr (12, 0))), some (.inl a1), some (.inl a2), none, none, none, none], []) q1.2
    refine Wp.run (WpD.mono _) 2 (q := ((12, [some (.inr (.inr (12, 0))), some (.inl a1), some (.inl a2), none, none, none, none], [.inl (5 : Int32), .inl (1 : Int32), .inl a2]), q1.2)) rfl ?_
    obtain ⟨q2, hb, h⟩ := bind_some h
    refine Wp.call (WpD.mono _) rfl (T_X12_in (e + 3) N a2 (1 : Int32) (5 : Int32) q1.2 _ _ _ hb ?_)
    show Wp (WpD (e + 4)) hcX12_join Q (15, [some (.inr (.inr (12, 0))), some (.inl a1), some (.inl a2), none, none, none, none], [.inl q2.1]) q2.2
    refine Wp.if0_ne (WpD.mono _) rfl rfl (fun hc => ?_) (fun hc => ?_)
    · have h := (if_pos hc).symm.trans h
      show Wp (WpD (e + 4)) hcX12_join Q (18, [some (.inr (.inr (12, 0))), some (.inl a1), some (.inl a2), none, none, none, none], []) q2.2
      refine Wp.run (WpD.mono _) 0 (q := ((20, [none, none, none, none, none, none, none], [.inl (Int32.ofInt (-2))]), q2.2)) rfl ?_
      obtain ⟨rfl, rfl⟩ := ret_inj h
      exact Wp.ret (WpD.mono _) rfl hQ
    · have h := (if_neg hc).symm.trans h
      show Wp (WpD (e + 4)) hcX12_join Q (21, [some (.inr (.inr (12, 0))), some (.inl a1), some (.inl a2), none, none, none, none], []) q2.2
      refine Wp.run (WpD.mono _) 2 (q := ((26, [some (.inr (.inr (12, 0))), some (.inl a1), some (.inl a2), none, none, none, none], [.inl a1, .inr (.inr (95, 0))]), q2.2)) rfl ?_
      obtain ⟨hc, h⟩ := ite_nn h
      refine Wp.X_ild1 (WpD.mono _) rfl rfl hc ?_
      show Wp (WpD (e + 4)) hcX12_join Q (27, [some (.inr (.inr (12, 0))), some (.inl a1), some (.inl a2), none, none, none, none], [.inl (q2.2.2.2.1 95 0 (a1).toNatClampNeg)]) q2.2
      refine Wp.run (WpD.mono _) 0 (q := ((28, [some (.inr (.inr (12, 0))), some (.inl a1), some (.inl a2), none, none, none, none], [.inl (Int32.ofInt (-1)), .inl (q2.2.2.2.1 95 0 (a1).toNatClampNeg)]), q2.2)) rfl ?_
      refine Wp.if2_ne (WpD.mono _) rfl rfl (fun hc => ?_) (fun hc => ?_)
      · have h := (if_pos hc).symm.trans h
        show Wp (WpD (e + 4)) hcX12_join Q (31, [some (.inr (.inr (12, 0))), some (.inl a1), some (.inl a2), none, none, none, none], []) q2.2
        refine Wp.run (WpD.mono _) 0 (q := ((33, [some (.inr (.inr (12, 0))), some (.inl a1), some (.inl a2), none, none, none, none], [.inl (Int32.ofInt (-11))]), q2.2)) rfl ?_
        obtain ⟨rfl, rfl⟩ := ret_inj h
        exact Wp.ret (WpD.mono _) rfl hQ
      · have h := (if_neg hc).symm.trans h
        show Wp (WpD (e + 4)) hcX12_join Q (34, [some (.inr (.inr (12, 0))), some (.inl a1), some (.inl a2), none, none, none, none], []) q2.2
        refine Wp.run (WpD.mono _) 2 (q := ((39, [some (.inr (.inr (12, 0))), some (.inl a1), some (.inl a2), none, none, none, none], [.inl a1, .inr (.inr (96, 0))]), q2.2)) rfl ?_
        obtain ⟨hc, h⟩ := ite_nn h
        refine Wp.X_ild1 (WpD.mono _) rfl rfl hc ?_
        show Wp (WpD (e + 4)) hcX12_join Q (40, [some (.inr (.inr (12, 0))), some (.inl a1), some (.inl a2), none, none, none, none], [.inl (q2.2.2.2.1 96 0 (a1).toNatClampNeg)]) q2.2
        refine Wp.run (WpD.mono _) 1 (q := ((44, [some (.inr (.inr (12, 0))), some (.inl a1), some (.inl a2), none, none, none, none], [.inl (q2.2.1 12 20), .inl (q2.2.2.2.1 96 0 (a1).toNatClampNeg)]), q2.2)) rfl ?_
        refine Wp.if2_ne (WpD.mono _) rfl rfl (fun hc => ?_) (fun hc => ?_)
        · have h := (if_pos hc).symm.trans h
          show Wp (WpD (e + 4)) hcX12_join Q (47, [some (.inr (.inr (12, 0))), some (.inl a1), some (.inl a2), none, none, none, none], []) q2.2
          refine Wp.run (WpD.mono _) 4 (q := ((56, [some (.inr (.inr (12, 0))), some (.inl a1), some (.inl a2), some (.inl (1 : Int32)), some (.inl (0 : Int32)), none, none], []), q2.2)) rfl ?_
          exact Wp.jump (WpD.mono _) rfl ((T_X12_join_b56 e N  r τ Q hQ  N) a1 a2 (1 : Int32) (0 : Int32) q2.2 h)
        · have h := (if_neg hc).symm.trans h
          show Wp (WpD (e + 4)) hcX12_join Q (51, [some (.inr (.inr (12, 0))), some (.inl a1), some (.inl a2), none, none, none, none], []) q2.2
          refine Wp.run (WpD.mono _) 3 (q := ((56, [some (.inr (.inr (12, 0))), some (.inl a1), some (.inl a2), some (.inl (0 : Int32)), some (.inl (0 : Int32)), none, none], []), q2.2)) rfl ?_
          exact Wp.jump (WpD.mono _) rfl ((T_X12_join_b56 e N  r τ Q hQ  N) a1 a2 (0 : Int32) (0 : Int32) q2.2 h)

set_option maxRecDepth 100000 in
set_option maxHeartbeats 4000000 in
theorem T_X12_judge_b128 (e N : Nat)  (k60 : Int32 → Int32 → Mem → Option (Int32 × Mem)) (r : Int32) (τ : Mem) (Q : Pst) (hQ : Q (some (.inl r)) τ) (hk60 : ∀ (x2 : Int32) (x3 : Int32) (σ : Mem), k60 x2 x3 σ = some (r, τ) → Wp (WpD (e + 4)) hcX12_judge Q (60, [some (.inr (.inr (12, 0))), none, some (.inl x2), some (.inl x3), none, none, none, none], []) σ) : ∀ n, ∀ (x2 : Int32) (x3 : Int32) (x7 : Int32) (σ : Mem), F_X12_judge_b128 N k60 n x2 x3 x7 σ = some (r, τ) → Wp (WpD (e + 4)) hcX12_judge Q (128, [some (.inr (.inr (12, 0))), none, some (.inl x2), some (.inl x3), none, none, none, some (.inl x7)], []) σ := by
  intro n
  induction n with
  | zero => intro x2 x3 x7 σ h; cases h
  | succ n ih =>
    intro x2 x3 x7 σ h
    unfold F_X12_judge_b128 at h
    refine Wp.run (WpD.mono _) 2 (q := ((134, [some (.inr (.inr (12, 0))), none, some (.inl x2), some (.inl x3), none, none, none, some (.inl x7)], [.inl (σ.1 12 5), .inl x7]), σ)) rfl ?_
    refine Wp.if2_ge (WpD.mono _) rfl rfl (fun hc => ?_) (fun hc => ?_)
    · have h := (if_pos hc).symm.trans h
      show Wp (WpD (e + 4)) hcX12_judge Q (159, [some (.inr (.inr (12, 0))), none, some (.inl x2), some (.inl x3), none, none, none, some (.inl x7)], []) σ
      refine Wp.run (WpD.mono _) 1 (q := ((60, [some (.inr (.inr (12, 0))), none, some (.inl x2), some (.inl (x3 + (1 : Int32))), none, none, none, some (.inl x7)], []), σ)) rfl ?_
      exact Wp.jump (WpD.mono _) rfl (hk60 x2 (x3 + (1 : Int32)) σ h)
    · have h := (if_neg hc).symm.trans h
      show Wp (WpD (e + 4)) hcX12_judge Q (137, [some (.inr (.inr (12, 0))), none, some (.inl x2), some (.inl x3), none, none, none, some (.inl x7)], []) σ
      refine Wp.run (WpD.mono _) 7 (q := ((151, [some (.inr (.inr (12, 0))), none, some (.inl x2), some (.inl x3), none, none, none, some (.inl x7)], [.inl ((5 : Int32) + x7), .inr (.inr (102, 0)), .inl x7, .inr (.inr (102, 0))]), σ)) rfl ?_
      obtain ⟨hc, h⟩ := ite_nn h
      refine Wp.X_lld (WpD.mono _) rfl rfl hc ?_
      show Wp (WpD (e + 4)) hcX12_judge Q (152, [some (.inr (.inr (12, 0))), none, some (.inl x2), some (.inl x3), none, none, none, some (.inl x7)], [.inr (.inl (σ.2.2.2.1 102 0 (((5 : Int32) + x7)).toNatClampNeg)), .inl x7, .inr (.inr (102, 0))]) σ
      obtain ⟨hc, h⟩ := ite_nn h
      refine Wp.X_lst (WpD.mono _) rfl rfl hc ?_
      show Wp (WpD (e + 4)) hcX12_judge Q (153, [some (.inr (.inr (12, 0))), none, some (.inl x2), some (.inl x3), none, none, none, some (.inl x7)], []) (σ.1, σ.2.1, σ.2.2.1, (hwU3 σ.2.2.2.1 102 0 (x7).toNatClampNeg (σ.2.2.2.1 102 0 (((5 : Int32) + x7)).toNatClampNeg)), σ.2.2.2.2)
      refine Wp.run (WpD.mono _) 1 (q := ((128, [some (.inr (.inr (12, 0))), none, some (.inl x2), some (.inl x3), none, none, none, some (.inl (x7 + (1 : Int32)))], []), (σ.1, σ.2.1, σ.2.2.1, (hwU3 σ.2.2.2.1 102 0 (x7).toNatClampNeg (σ.2.2.2.1 102 0 (((5 : Int32) + x7)).toNatClampNeg)), σ.2.2.2.2))) rfl ?_
      exact Wp.jump (WpD.mono _) rfl (ih x2 x3 (x7 + (1 : Int32)) (σ.1, σ.2.1, σ.2.2.1, (hwU3 σ.2.2.2.1 102 0 (x7).toNatClampNeg (σ.2.2.2.1 102 0 (((5 : Int32) + x7)).toNatClampNeg)), σ.2.2.2.2) h)


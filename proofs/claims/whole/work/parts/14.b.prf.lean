theorem T_X6_toldBy (e N : Nat) (a1 : Int32) (a2 : Int32) (a3 : Int32) (σ : Mem) (r : Int64) (τ : Mem) (Q : Pst) (h : F_X6_toldBy N a1 a2 a3 σ = some (r, τ)) (hQ : Q (some (.inr (.inl r))) τ) : WpD (e + 23) mX6_toldBy [.inr (.inr (8, 0)), .inl a1, .inl a2, .inl a3] σ Q := (TG_X6_toldBy e N 10) a1 a2 a3 σ r τ Q h hQ
set_option maxRecDepth 100000 in
set_option maxHeartbeats 4000000 in
theorem T_X6_boreWorth (e N : Nat)  (a1 : Int32) (a2 : Int32) (σ : Mem) (r : Int64) (τ : Mem) (Q : Pst) (h : F_X6_boreWorth N a1 a2 σ = some (r, τ)) (hQ : Q (some (.inr (.inl r))) τ) : WpD (e + 24) mX6_boreWorth [.inr (.inr (8, 0)), .inl a1, .inl a2] σ Q := by
  refine WpD.of (d := e + 23) (Nat.le_of_ble_eq_true rfl) (Nat.le_of_ble_eq_true rfl) ?_
  show Wp (WpD (e + 23)) hcX6_boreWorth Q (0, [some (.inr (.inr (8, 0))), some (.inl a1), some (.inl a2)], []) σ
  unfold F_X6_boreWorth at h
  refine Wp.run (WpD.mono _) 3 (q := ((4, [some (.inr (.inr (8, 0))), some (.inl a1), some (.inl a2)], [.inl (0 : Int32), .inl a1, .inl a2, .inr (.inr (8, 0))]), σ)) rfl ?_
  obtain ⟨q1, hb, h⟩ := bind_some h
  refine Wp.call (WpD.mono _) rfl (T_X6_toldBy (e + 0) N a2 a1 (0 : Int32) σ _ _ _ hb ?_)
  show Wp (WpD (e + 23)) hcX6_boreWorth Q (7, [some (.inr (.inr (8, 0))), some (.inl a1), some (.inl a2)], [.inr (.inl q1.1)]) q1.2
  refine Wp.run (WpD.mono _) 1 (q := ((9, [some (.inr (.inr (8, 0))), some (.inl a1), some (.inl a2)], [.inl a1, .inr (.inr (8, 0)), .inr (.inl q1.1)]), q1.2)) rfl ?_
  obtain ⟨q2, hb, h⟩ := bind_some h
  refine Wp.call (WpD.mono _) rfl (T_X6_worthOf (e + 10) N a1 q1.2 _ _ _ hb ?_)
  show Wp (WpD (e + 23)) hcX6_boreWorth Q (12, [some (.inr (.inr (8, 0))), some (.inl a1), some (.inl a2)], [.inr (.inl q2.1), .inr (.inl q1.1)]) q2.2
  refine Wp.run (WpD.mono _) 0 (q := ((13, [some (.inr (.inr (8, 0))), some (.inl a1), some (.inl a2)], [.inr (.inl (q1.1 - q2.1))]), q2.2)) rfl ?_
  cases h
  exact Wp.ret (WpD.mono _) rfl hQ

set_option maxRecDepth 100000 in
set_option maxHeartbeats 4000000 in
theorem T_X11_bore (e N : Nat)  (a1 : Int32) (a2 : Int32) (σ : Mem) (r : Int64) (τ : Mem) (Q : Pst) (h : F_X11_bore N a1 a2 σ = some (r, τ)) (hQ : Q (some (.inr (.inl r))) τ) : WpD (e + 25) mX11_bore [.inr (.inr (0, 0)), .inl a1, .inl a2] σ Q := by
  refine WpD.of (d := e + 24) (Nat.le_of_ble_eq_true rfl) (Nat.le_of_ble_eq_true rfl) ?_
  show Wp (WpD (e + 24)) hcX11_bore Q (0, [some (.inr (.inr (0, 0))), some (.inl a1), some (.inl a2), none], []) σ
  unfold F_X11_bore at h
  refine Wp.run (WpD.mono _) 1 (q := ((2, [some (.inr (.inr (0, 0))), some (.inl a1), some (.inl a2), none], [.inl a1, .inr (.inr (0, 0))]), σ)) rfl ?_
  obtain ⟨q1, hb, h⟩ := bind_some h
  refine Wp.call (WpD.mono _) rfl (T_X11_isPlace (e + 22) N a1 σ _ _ _ hb ?_)
  show Wp (WpD (e + 24)) hcX11_bore Q (5, [some (.inr (.inr (0, 0))), some (.inl a1), some (.inl a2), none], [.inl q1.1]) q1.2
  refine Wp.br (WpD.mono _) 0 (c := q1.1 = 0) (q1 := ((17, [some (.inr (.inr (0, 0))), some (.inl a1), some (.inl a2), none], []), q1.2)) (q2 := ((8, [some (.inr (.inr (0, 0))), some (.inl a1), some (.inl a2), none], []), q1.2)) rfl (fun hc => ?_) (fun hc => ?_)
  · have h := (if_pos hc).symm.trans h
    refine Wp.run (WpD.mono _) 0 (q := ((20, [none, none, none, none], [.inr (.inl (-4611686018427387904 : Int64))]), q1.2)) rfl ?_
    cases h
    exact Wp.ret (WpD.mono _) rfl hQ
  · have h := (if_neg hc).symm.trans h
    refine Wp.run (WpD.mono _) 2 (q := ((11, [some (.inr (.inr (0, 0))), some (.inl a1), some (.inl a2), none], [.inl (5 : Int32), .inl (0 : Int32), .inl a2]), q1.2)) rfl ?_
    obtain ⟨q2, hb, h⟩ := bind_some h
    refine Wp.call (WpD.mono _) rfl (T_X11_within (e + 23) N a2 (0 : Int32) (5 : Int32) q1.2 _ _ _ hb ?_)
    show Wp (WpD (e + 24)) hcX11_bore Q (14, [some (.inr (.inr (0, 0))), some (.inl a1), some (.inl a2), none], [.inl q2.1]) q2.2
    refine Wp.br (WpD.mono _) 0 (c := q2.1 = 0) (q1 := ((17, [some (.inr (.inr (0, 0))), some (.inl a1), some (.inl a2), none], []), q2.2)) (q2 := ((21, [some (.inr (.inr (0, 0))), some (.inl a1), some (.inl a2), none], []), q2.2)) rfl (fun hc => ?_) (fun hc => ?_)
    · have h := (if_pos hc).symm.trans h
      refine Wp.run (WpD.mono _) 0 (q := ((20, [none, none, none, none], [.inr (.inl (-4611686018427387904 : Int64))]), q2.2)) rfl ?_
      cases h
      exact Wp.ret (WpD.mono _) rfl hQ
    · have h := (if_neg hc).symm.trans h
      refine Wp.run (WpD.mono _) 2 (q := ((26, [some (.inr (.inr (0, 0))), some (.inl a1), some (.inl a2), none], [.inl a1, .inr (.inr (8, 0))]), q2.2)) rfl ?_
      obtain ⟨q3, hb, h⟩ := bind_some h
      refine Wp.call (WpD.mono _) rfl (T_X6_openYard (e + 20) N a1 q2.2 _ _ _ hb ?_)
      show Wp (WpD (e + 24)) hcX11_bore Q (29, [some (.inr (.inr (0, 0))), some (.inl a1), some (.inl a2), none], [.inl q3.1]) q3.2
      refine Wp.br (WpD.mono _) 2 (c := q3.1 = 0) (q1 := ((34, [some (.inr (.inr (0, 0))), some (.inl a1), some (.inl a2), some (.inl q3.1)], []), q3.2)) (q2 := ((40, [some (.inr (.inr (0, 0))), some (.inl a1), some (.inl a2), some (.inl q3.1)], []), q3.2)) rfl (fun hc => ?_) (fun hc => ?_)
      · have h := (if_pos hc).symm.trans h
        refine Wp.run (WpD.mono _) 1 (q := ((49, [some (.inr (.inr (0, 0))), some (.inl a1), some (.inl a2), some (.inl q3.1)], [.inr (.inl (-3 : Int64))]), q3.2)) rfl ?_
        cases h
        exact Wp.ret (WpD.mono _) rfl hQ
      · have h := (if_neg hc).symm.trans h
        refine Wp.run (WpD.mono _) 3 (q := ((46, [some (.inr (.inr (0, 0))), some (.inl a1), some (.inl a2), some (.inl q3.1)], [.inl a2, .inl q3.1, .inr (.inr (8, 0))]), q3.2)) rfl ?_
        obtain ⟨q4, hb, h⟩ := bind_some h
        refine Wp.call (WpD.mono _) rfl (T_X6_boreWorth (e + 0) N q3.1 a2 q3.2 _ _ _ hb ?_)
        show Wp (WpD (e + 24)) hcX11_bore Q (49, [some (.inr (.inr (0, 0))), some (.inl a1), some (.inl a2), some (.inl q3.1)], [.inr (.inl q4.1)]) q4.2
        cases h
        exact Wp.ret (WpD.mono _) rfl hQ

set_option maxRecDepth 100000 in
set_option maxHeartbeats 4000000 in
theorem T_X11_isSheet (e N : Nat)  (a1 : Int32) (σ : Mem) (r : Int32) (τ : Mem) (Q : Pst) (h : F_X11_isSheet N a1 σ = some (r, τ)) (hQ : Q (some (.inl r)) τ) : WpD (e + 2) mX11_isSheet [.inl a1] σ Q := by
  refine WpD.of (d := e + 1) (Nat.le_of_ble_eq_true rfl) (Nat.le_of_ble_eq_true rfl) ?_
  show Wp (WpD (e + 1)) hcX11_isSheet Q (0, [some (.inl a1)], []) σ
  unfold F_X11_isSheet at h
  refine Wp.run (WpD.mono _) 2 (q := ((3, [some (.inl a1)], [.inl (3 : Int32), .inl (0 : Int32), .inl a1]), σ)) rfl ?_
  obtain ⟨q1, hb, h⟩ := bind_some h
  refine Wp.call (WpD.mono _) rfl (T_X11_within (e + 0) N a1 (0 : Int32) (3 : Int32) σ _ _ _ hb ?_)
  show Wp (WpD (e + 1)) hcX11_isSheet Q (6, [some (.inl a1)], [.inl q1.1]) q1.2
  obtain ⟨hc, h⟩ := ite_yy h
  cases h
  exact Wp.retZ (WpD.mono _) rfl hc hQ

set_option maxRecDepth 100000 in
set_option maxHeartbeats 4000000 in
theorem T_X11_cell (e N : Nat)  (a1 : Int32) (a2 : Int32) (a3 : Int32) (σ : Mem) (r : Int32) (τ : Mem) (Q : Pst) (h : F_X11_cell N a1 a2 a3 σ = some (r, τ)) (hQ : Q (some (.inl r)) τ) : WpD (e + 3) mX11_cell [.inr (.inr (0, 0)), .inl a1, .inl a2, .inl a3] σ Q := by
  refine WpD.of (d := e + 2) (Nat.le_of_ble_eq_true rfl) (Nat.le_of_ble_eq_true rfl) ?_
  show Wp (WpD (e + 2)) hcX11_cell Q (0, [some (.inr (.inr (0, 0))), some (.inl a1), some (.inl a2), some (.inl a3)], []) σ
  unfold F_X11_cell at h
  refine Wp.run (WpD.mono _) 0 (q := ((1, [some (.inr (.inr (0, 0))), some (.inl a1), some (.inl a2), some (.inl a3)], [.inl a1]), σ)) rfl ?_
  obtain ⟨q1, hb, h⟩ := bind_some h
  refine Wp.call (WpD.mono _) rfl (T_X11_isSheet (e + 0) N a1 σ _ _ _ hb ?_)
  show Wp (WpD (e + 2)) hcX11_cell Q (4, [some (.inr (.inr (0, 0))), some (.inl a1), some (.inl a2), some (.inl a3)], [.inl q1.1]) q1.2
  refine Wp.br (WpD.mono _) 0 (c := q1.1 = 0) (q1 := ((7, [some (.inr (.inr (0, 0))), some (.inl a1), some (.inl a2), some (.inl a3)], []), q1.2)) (q2 := ((10, [some (.inr (.inr (0, 0))), some (.inl a1), some (.inl a2), some (.inl a3)], []), q1.2)) rfl (fun hc => ?_) (fun hc => ?_)
  · have h := (if_pos hc).symm.trans h
    refine Wp.run (WpD.mono _) 0 (q := ((9, [some (.inr (.inr (0, 0))), some (.inl a1), some (.inl a2), some (.inl a3)], [.inl (-2 : Int32)]), q1.2)) rfl ?_
    cases h
    exact Wp.ret (WpD.mono _) rfl hQ
  · have h := (if_neg hc).symm.trans h
    refine Wp.run (WpD.mono _) 2 (q := ((15, [some (.inr (.inr (0, 0))), some (.inl a1), some (.inl a2), some (.inl a3)], [.inl a1, .inr (.inr (5, 0))]), q1.2)) rfl ?_
    obtain ⟨q2, hb, h⟩ := bind_some h
    refine Wp.call (WpD.mono _) rfl (T_X10_isMissing (e + 1) N a1 q1.2 _ _ _ hb ?_)
    show Wp (WpD (e + 2)) hcX11_cell Q (18, [some (.inr (.inr (0, 0))), some (.inl a1), some (.inl a2), some (.inl a3)], [.inl q2.1]) q2.2
    refine Wp.br (WpD.mono _) 0 (c := q2.1 = 0) (q1 := ((24, [some (.inr (.inr (0, 0))), some (.inl a1), some (.inl a2), some (.inl a3)], []), q2.2)) (q2 := ((21, [some (.inr (.inr (0, 0))), some (.inl a1), some (.inl a2), some (.inl a3)], []), q2.2)) rfl (fun hc => ?_) (fun hc => ?_)
    · have h := (if_pos hc).symm.trans h
      refine Wp.run (WpD.mono _) 3 (q := ((30, [some (.inr (.inr (0, 0))), some (.inl a1), some (.inl a2), some (.inl a3)], [.inl a2, .inl a1, .inr (.inr (5, 0))]), q2.2)) rfl ?_
      obtain ⟨q3, hb, h⟩ := bind_some h
      refine Wp.call (WpD.mono _) rfl (T_X10_has (e + 1) N a1 a2 q2.2 _ _ _ hb ?_)
      show Wp (WpD (e + 2)) hcX11_cell Q (33, [some (.inr (.inr (0, 0))), some (.inl a1), some (.inl a2), some (.inl a3)], [.inl q3.1]) q3.2
      refine Wp.br (WpD.mono _) 0 (c := q3.1 = 0) (q1 := ((36, [some (.inr (.inr (0, 0))), some (.inl a1), some (.inl a2), some (.inl a3)], []), q3.2)) (q2 := ((39, [some (.inr (.inr (0, 0))), some (.inl a1), some (.inl a2), some (.inl a3)], []), q3.2)) rfl (fun hc => ?_) (fun hc => ?_)
      · have h := (if_pos hc).symm.trans h
        refine Wp.run (WpD.mono _) 0 (q := ((38, [some (.inr (.inr (0, 0))), some (.inl a1), some (.inl a2), some (.inl a3)], [.inl (-12 : Int32)]), q3.2)) rfl ?_
        cases h
        exact Wp.ret (WpD.mono _) rfl hQ
      · have h := (if_neg hc).symm.trans h
        refine Wp.run (WpD.mono _) 4 (q := ((46, [some (.inr (.inr (0, 0))), some (.inl a1), some (.inl a2), some (.inl a3)], [.inl a3, .inl a2, .inl a1, .inr (.inr (5, 0))]), q3.2)) rfl ?_
        obtain ⟨q4, hb, h⟩ := bind_some h
        refine Wp.call (WpD.mono _) rfl (T_X10_write (e + 1) N a1 a2 a3 q3.2 _ _ _ hb ?_)
        show Wp (WpD (e + 2)) hcX11_cell Q (49, [some (.inr (.inr (0, 0))), some (.inl a1), some (.inl a2), some (.inl a3)], []) q4.2
        refine Wp.run (WpD.mono _) 0 (q := ((50, [some (.inr (.inr (0, 0))), some (.inl a1), some (.inl a2), some (.inl a3)], [.inl (1 : Int32)]), q4.2)) rfl ?_
        cases h
        exact Wp.ret (WpD.mono _) rfl hQ
    · have h := (if_neg hc).symm.trans h
      refine Wp.run (WpD.mono _) 0 (q := ((23, [some (.inr (.inr (0, 0))), some (.inl a1), some (.inl a2), some (.inl a3)], [.inl (-11 : Int32)]), q2.2)) rfl ?_
      cases h
      exact Wp.ret (WpD.mono _) rfl hQ

set_option maxRecDepth 100000 in
set_option maxHeartbeats 4000000 in
theorem T_X11_copy (e N : Nat)  (a1 : Int32) (a2 : Int32) (a3 : Int32) (a4 : Int32) (a5 : Int32) (σ : Mem) (r : Int32) (τ : Mem) (Q : Pst) (h : F_X11_copy N a1 a2 a3 a4 a5 σ = some (r, τ)) (hQ : Q (some (.inl r)) τ) : WpD (e + 3) mX11_copy [.inr (.inr (0, 0)), .inl a1, .inl a2, .inl a3, .inl a4, .inl a5] σ Q := by
  refine WpD.of (d := e + 2) (Nat.le_of_ble_eq_true rfl) (Nat.le_of_ble_eq_true rfl) ?_
  show Wp (WpD (e + 2)) hcX11_copy Q (0, [some (.inr (.inr (0, 0))), some (.inl a1), some (.inl a2), some (.inl a3), some (.inl a4), some (.inl a5)], []) σ
  unfold F_X11_copy at h
  refine Wp.run (WpD.mono _) 0 (q := ((1, [some (.inr (.inr (0, 0))), some (.inl a1), some (.inl a2), some (.inl a3), some (.inl a4), some (.inl a5)], [.inl a1]), σ)) rfl ?_
  obtain ⟨q1, hb, h⟩ := bind_some h
  refine Wp.call (WpD.mono _) rfl (T_X11_isSheet (e + 0) N a1 σ _ _ _ hb ?_)
  show Wp (WpD (e + 2)) hcX11_copy Q (4, [some (.inr (.inr (0, 0))), some (.inl a1), some (.inl a2), some (.inl a3), some (.inl a4), some (.inl a5)], [.inl q1.1]) q1.2
  refine Wp.br (WpD.mono _) 0 (c := q1.1 = 0) (q1 := ((14, [some (.inr (.inr (0, 0))), some (.inl a1), some (.inl a2), some (.inl a3), some (.inl a4), some (.inl a5)], []), q1.2)) (q2 := ((7, [some (.inr (.inr (0, 0))), some (.inl a1), some (.inl a2), some (.inl a3), some (.inl a4), some (.inl a5)], []), q1.2)) rfl (fun hc => ?_) (fun hc => ?_)
  · have h := (if_pos hc).symm.trans h
    refine Wp.run (WpD.mono _) 0 (q := ((16, [none, none, none, none, none, none], [.inl (-2 : Int32)]), q1.2)) rfl ?_
    cases h
    exact Wp.ret (WpD.mono _) rfl hQ
  · have h := (if_neg hc).symm.trans h
    refine Wp.run (WpD.mono _) 0 (q := ((8, [some (.inr (.inr (0, 0))), some (.inl a1), some (.inl a2), some (.inl a3), some (.inl a4), some (.inl a5)], [.inl a3]), q1.2)) rfl ?_
    obtain ⟨q2, hb, h⟩ := bind_some h
    refine Wp.call (WpD.mono _) rfl (T_X11_isSheet (e + 0) N a3 q1.2 _ _ _ hb ?_)
    show Wp (WpD (e + 2)) hcX11_copy Q (11, [some (.inr (.inr (0, 0))), some (.inl a1), some (.inl a2), some (.inl a3), some (.inl a4), some (.inl a5)], [.inl q2.1]) q2.2
    refine Wp.br (WpD.mono _) 0 (c := q2.1 = 0) (q1 := ((14, [some (.inr (.inr (0, 0))), some (.inl a1), some (.inl a2), some (.inl a3), some (.inl a4), some (.inl a5)], []), q2.2)) (q2 := ((17, [some (.inr (.inr (0, 0))), some (.inl a1), some (.inl a2), some (.inl a3), some (.inl a4), some (.inl a5)], []), q2.2)) rfl (fun hc => ?_) (fun hc => ?_)
    · have h := (if_pos hc).symm.trans h
      refine Wp.run (WpD.mono _) 0 (q := ((16, [none, none, none, none, none, none], [.inl (-2 : Int32)]), q2.2)) rfl ?_
      cases h
      exact Wp.ret (WpD.mono _) rfl hQ
    · have h := (if_neg hc).symm.trans h
      refine Wp.run (WpD.mono _) 2 (q := ((22, [some (.inr (.inr (0, 0))), some (.inl a1), some (.inl a2), some (.inl a3), some (.inl a4), some (.inl a5)], [.inl a1, .inr (.inr (5, 0))]), q2.2)) rfl ?_
      obtain ⟨q3, hb, h⟩ := bind_some h
      refine Wp.call (WpD.mono _) rfl (T_X10_isMissing (e + 1) N a1 q2.2 _ _ _ hb ?_)
      show Wp (WpD (e + 2)) hcX11_copy Q (25, [some (.inr (.inr (0, 0))), some (.inl a1), some (.inl a2), some (.inl a3), some (.inl a4), some (.inl a5)], [.inl q3.1]) q3.2
      refine Wp.br (WpD.mono _) 0 (c := q3.1 = 0) (q1 := ((28, [some (.inr (.inr (0, 0))), some (.inl a1), some (.inl a2), some (.inl a3), some (.inl a4), some (.inl a5)], []), q3.2)) (q2 := ((39, [some (.inr (.inr (0, 0))), some (.inl a1), some (.inl a2), some (.inl a3), some (.inl a4), some (.inl a5)], []), q3.2)) rfl (fun hc => ?_) (fun hc => ?_)
      · have h := (if_pos hc).symm.trans h
        refine Wp.run (WpD.mono _) 2 (q := ((33, [some (.inr (.inr (0, 0))), some (.inl a1), some (.inl a2), some (.inl a3), some (.inl a4), some (.inl a5)], [.inl a3, .inr (.inr (5, 0))]), q3.2)) rfl ?_
        obtain ⟨q4, hb, h⟩ := bind_some h
        refine Wp.call (WpD.mono _) rfl (T_X10_isMissing (e + 1) N a3 q3.2 _ _ _ hb ?_)
        show Wp (WpD (e + 2)) hcX11_copy Q (36, [some (.inr (.inr (0, 0))), some (.inl a1), some (.inl a2), some (.inl a3), some (.inl a4), some (.inl a5)], [.inl q4.1]) q4.2
        refine Wp.br (WpD.mono _) 0 (c := q4.1 = 0) (q1 := ((42, [some (.inr (.inr (0, 0))), some (.inl a1), some (.inl a2), some (.inl a3), some (.inl a4), some (.inl a5)], []), q4.2)) (q2 := ((39, [some (.inr (.inr (0, 0))), some (.inl a1), some (.inl a2), some (.inl a3), some (.inl a4), some (.inl a5)], []), q4.2)) rfl (fun hc => ?_) (fun hc => ?_)
        · have h := (if_pos hc).symm.trans h
          obtain ⟨hc, h⟩ := ite_nn h
          refine Wp.no (WpD.mono _) 4 (c := hwOut a1 4) (q := ((51, [some (.inr (.inr (0, 0))), some (.inl a1), some (.inl a2), some (.inl a3), some (.inl a4), some (.inl a5)], [.inl (q4.2.2.2.1 70 0 (a1).toNatClampNeg)]), q4.2)) rfl hc ?_
          obtain ⟨hc, h⟩ := ite_nn h
          refine Wp.no (WpD.mono _) 4 (c := hwOut a3 4) (q := ((60, [some (.inr (.inr (0, 0))), some (.inl a1), some (.inl a2), some (.inl a3), some (.inl a4), some (.inl a5)], [.inl (q4.2.2.2.1 70 0 (a3).toNatClampNeg), .inl (q4.2.2.2.1 70 0 (a1).toNatClampNeg)]), q4.2)) rfl hc ?_
          refine Wp.br (WpD.mono _) 0 (c := (q4.2.2.2.1 70 0 (a1).toNatClampNeg) = (q4.2.2.2.1 70 0 (a3).toNatClampNeg)) (q1 := ((66, [some (.inr (.inr (0, 0))), some (.inl a1), some (.inl a2), some (.inl a3), some (.inl a4), some (.inl a5)], []), q4.2)) (q2 := ((63, [some (.inr (.inr (0, 0))), some (.inl a1), some (.inl a2), some (.inl a3), some (.inl a4), some (.inl a5)], []), q4.2)) rfl (fun hc => ?_) (fun hc => ?_)
          · have h := (if_pos hc).symm.trans h
            refine Wp.run (WpD.mono _) 4 (q := ((74, [some (.inr (.inr (0, 0))), some (.inl a1), some (.inl a2), some (.inl a3), some (.inl a4), some (.inl a5)], [.inl a5, .inl a2, .inl a1, .inr (.inr (5, 0))]), q4.2)) rfl ?_
            obtain ⟨q5, hb, h⟩ := bind_some h
            refine Wp.call (WpD.mono _) rfl (T_X10_holds (e + 1) N a1 a2 a5 q4.2 _ _ _ hb ?_)
            show Wp (WpD (e + 2)) hcX11_copy Q (77, [some (.inr (.inr (0, 0))), some (.inl a1), some (.inl a2), some (.inl a3), some (.inl a4), some (.inl a5)], [.inl q5.1]) q5.2
            refine Wp.br (WpD.mono _) 0 (c := q5.1 = 0) (q1 := ((95, [some (.inr (.inr (0, 0))), some (.inl a1), some (.inl a2), some (.inl a3), some (.inl a4), some (.inl a5)], []), q5.2)) (q2 := ((80, [some (.inr (.inr (0, 0))), some (.inl a1), some (.inl a2), some (.inl a3), some (.inl a4), some (.inl a5)], []), q5.2)) rfl (fun hc => ?_) (fun hc => ?_)
            · have h := (if_pos hc).symm.trans h
              refine Wp.run (WpD.mono _) 0 (q := ((97, [none, none, none, none, none, none], [.inl (-12 : Int32)]), q5.2)) rfl ?_
              cases h
              exact Wp.ret (WpD.mono _) rfl hQ
            · have h := (if_neg hc).symm.trans h
              refine Wp.run (WpD.mono _) 4 (q := ((89, [some (.inr (.inr (0, 0))), some (.inl a1), some (.inl a2), some (.inl a3), some (.inl a4), some (.inl a5)], [.inl a5, .inl a4, .inl a3, .inr (.inr (5, 0))]), q5.2)) rfl ?_
              obtain ⟨q6, hb, h⟩ := bind_some h
              refine Wp.call (WpD.mono _) rfl (T_X10_holds (e + 1) N a3 a4 a5 q5.2 _ _ _ hb ?_)
              show Wp (WpD (e + 2)) hcX11_copy Q (92, [some (.inr (.inr (0, 0))), some (.inl a1), some (.inl a2), some (.inl a3), some (.inl a4), some (.inl a5)], [.inl q6.1]) q6.2
              refine Wp.br (WpD.mono _) 0 (c := q6.1 = 0) (q1 := ((95, [some (.inr (.inr (0, 0))), some (.inl a1), some (.inl a2), some (.inl a3), some (.inl a4), some (.inl a5)], []), q6.2)) (q2 := ((98, [some (.inr (.inr (0, 0))), some (.inl a1), some (.inl a2), some (.inl a3), some (.inl a4), some (.inl a5)], []), q6.2)) rfl (fun hc => ?_) (fun hc => ?_)
              · have h := (if_pos hc).symm.trans h
                refine Wp.run (WpD.mono _) 0 (q := ((97, [none, none, none, none, none, none], [.inl (-12 : Int32)]), q6.2)) rfl ?_
                cases h
                exact Wp.ret (WpD.mono _) rfl hQ
              · have h := (if_neg hc).symm.trans h
                obtain ⟨hc, h⟩ := ite_nn h
                refine Wp.no (WpD.mono _) 4 (c := hwOut a1 4) (q := ((107, [some (.inr (.inr (0, 0))), some (.inl a1), some (.inl a2), some (.inl a3), some (.inl a4), some (.inl a5)], [.inr (.inr (69, (a1).toNatClampNeg))]), q6.2)) rfl hc ?_
                obtain ⟨hc, h⟩ := ite_nn h
                refine Wp.no (WpD.mono _) 5 (c := hwOut a3 4) (q := ((117, [some (.inr (.inr (0, 0))), some (.inl a1), some (.inl a2), some (.inl a3), some (.inl a4), some (.inl a5)], [.inr (.inr (69, (a3).toNatClampNeg)), .inl a2, .inr (.inr (69, (a1).toNatClampNeg))]), q6.2)) rfl hc ?_
                obtain ⟨hc, h⟩ := ite_nn h
                refine Wp.no (WpD.mono _) 2 (c := a2 < 0 ∨ a4 < 0 ∨ a5 < 0 ∨ 40 < (a2).toNatClampNeg + (a5).toNatClampNeg ∨ 40 < (a4).toNatClampNeg + (a5).toNatClampNeg) (q := ((124, [some (.inr (.inr (0, 0))), some (.inl a1), some (.inl a2), some (.inl a3), some (.inl a4), some (.inl a5)], []), (q6.2.1, q6.2.2.1, (hwR3 q6.2.2.2.1 69 (a3).toNatClampNeg (va_cpy (q6.2.2.2.1 69 (a1).toNatClampNeg) (q6.2.2.2.1 69 (a3).toNatClampNeg) (a2).toNatClampNeg (a4).toNatClampNeg (a5).toNatClampNeg)), q6.2.2.2.2.1, q6.2.2.2.2.2))) rfl hc ?_
                refine Wp.run (WpD.mono _) 0 (q := ((126, [some (.inr (.inr (0, 0))), some (.inl a1), some (.inl a2), some (.inl a3), some (.inl a4), some (.inl a5)], [.inl a5]), (q6.2.1, q6.2.2.1, (hwR3 q6.2.2.2.1 69 (a3).toNatClampNeg (va_cpy (q6.2.2.2.1 69 (a1).toNatClampNeg) (q6.2.2.2.1 69 (a3).toNatClampNeg) (a2).toNatClampNeg (a4).toNatClampNeg (a5).toNatClampNeg)), q6.2.2.2.2.1, q6.2.2.2.2.2))) rfl ?_
                cases h
                exact Wp.ret (WpD.mono _) rfl hQ
          · have h := (if_neg hc).symm.trans h
            refine Wp.run (WpD.mono _) 0 (q := ((65, [some (.inr (.inr (0, 0))), some (.inl a1), some (.inl a2), some (.inl a3), some (.inl a4), some (.inl a5)], [.inl (-13 : Int32)]), q4.2)) rfl ?_
            cases h
            exact Wp.ret (WpD.mono _) rfl hQ
        · have h := (if_neg hc).symm.trans h
          refine Wp.run (WpD.mono _) 0 (q := ((41, [none, none, none, none, none, none], [.inl (-11 : Int32)]), q4.2)) rfl ?_
          cases h
          exact Wp.ret (WpD.mono _) rfl hQ
      · have h := (if_neg hc).symm.trans h
        refine Wp.run (WpD.mono _) 0 (q := ((41, [none, none, none, none, none, none], [.inl (-11 : Int32)]), q3.2)) rfl ?_
        cases h
        exact Wp.ret (WpD.mono _) rfl hQ

set_option maxRecDepth 100000 in
set_option maxHeartbeats 4000000 in
theorem T_X11_count (e N : Nat)  (a1 : Int32) (σ : Mem) (r : Int32) (τ : Mem) (Q : Pst) (h : F_X11_count N a1 σ = some (r, τ)) (hQ : Q (some (.inl r)) τ) : WpD (e + 2) mX11_count [.inr (.inr (0, 0)), .inl a1] σ Q := by
  refine WpD.of (d := e + 1) (Nat.le_of_ble_eq_true rfl) (Nat.le_of_ble_eq_true rfl) ?_
  show Wp (WpD (e + 1)) hcX11_count Q (0, [some (.inr (.inr (0, 0))), some (.inl a1)], []) σ
  unfold F_X11_count at h
  refine Wp.run (WpD.mono _) 2 (q := ((3, [some (.inr (.inr (0, 0))), some (.inl a1)], [.inl (4 : Int32), .inl (0 : Int32), .inl a1]), σ)) rfl ?_
  obtain ⟨q1, hb, h⟩ := bind_some h
  refine Wp.call (WpD.mono _) rfl (T_X11_within (e + 0) N a1 (0 : Int32) (4 : Int32) σ _ _ _ hb ?_)
  show Wp (WpD (e + 1)) hcX11_count Q (6, [some (.inr (.inr (0, 0))), some (.inl a1)], [.inl q1.1]) q1.2
  refine Wp.br (WpD.mono _) 0 (c := q1.1 = 0) (q1 := ((19, [some (.inr (.inr (0, 0))), some (.inl a1)], []), q1.2)) (q2 := ((9, [some (.inr (.inr (0, 0))), some (.inl a1)], []), q1.2)) rfl (fun hc => ?_) (fun hc => ?_)
  · have h := (if_pos hc).symm.trans h
    refine Wp.run (WpD.mono _) 0 (q := ((20, [some (.inr (.inr (0, 0))), some (.inl a1)], [.inl a1]), q1.2)) rfl ?_
    by_cases hs0 : a1 = 5
    · have h := (if_pos hs0).symm.trans h
      refine Wp.swIn (WpD.mono _) (q := ((64, [some (.inr (.inr (0, 0))), some (.inl a1)], []), q1.2)) hs0 rfl ?_
      refine Wp.run (WpD.mono _) 2 (q := ((71, [some (.inr (.inr (0, 0))), some (.inl a1)], [.inl (q1.2.1 1 6)]), q1.2)) rfl ?_
      cases h
      exact Wp.ret (WpD.mono _) rfl hQ
    have h := (if_neg hs0).symm.trans h
    by_cases hs1 : a1 = 6
    · have h := (if_pos hs1).symm.trans h
      refine Wp.swIn (WpD.mono _) (q := ((72, [some (.inr (.inr (0, 0))), some (.inl a1)], []), q1.2)) hs1 rfl ?_
      refine Wp.run (WpD.mono _) 2 (q := ((79, [some (.inr (.inr (0, 0))), some (.inl a1)], [.inl (q1.2.1 4 5)]), q1.2)) rfl ?_
      cases h
      exact Wp.ret (WpD.mono _) rfl hQ
    have h := (if_neg hs1).symm.trans h
    by_cases hs2 : a1 = 7
    · have h := (if_pos hs2).symm.trans h
      refine Wp.swIn (WpD.mono _) (q := ((80, [some (.inr (.inr (0, 0))), some (.inl a1)], []), q1.2)) hs2 rfl ?_
      refine Wp.run (WpD.mono _) 2 (q := ((87, [some (.inr (.inr (0, 0))), some (.inl a1)], [.inl (q1.2.1 6 4)]), q1.2)) rfl ?_
      cases h
      exact Wp.ret (WpD.mono _) rfl hQ
    have h := (if_neg hs2).symm.trans h
    by_cases hs3 : a1 = 8
    · have h := (if_pos hs3).symm.trans h
      refine Wp.swIn (WpD.mono _) (q := ((88, [some (.inr (.inr (0, 0))), some (.inl a1)], []), q1.2)) hs3 rfl ?_
      refine Wp.run (WpD.mono _) 2 (q := ((95, [some (.inr (.inr (0, 0))), some (.inl a1)], [.inl (q1.2.1 7 2)]), q1.2)) rfl ?_
      cases h
      exact Wp.ret (WpD.mono _) rfl hQ
    have h := (if_neg hs3).symm.trans h
    by_cases hs4 : a1 = 9
    · have h := (if_pos hs4).symm.trans h
      refine Wp.swIn (WpD.mono _) (q := ((96, [some (.inr (.inr (0, 0))), some (.inl a1)], []), q1.2)) hs4 rfl ?_
      refine Wp.run (WpD.mono _) 2 (q := ((103, [some (.inr (.inr (0, 0))), some (.inl a1)], [.inl (q1.2.1 2 9)]), q1.2)) rfl ?_
      cases h
      exact Wp.ret (WpD.mono _) rfl hQ
    have h := (if_neg hs4).symm.trans h
    by_cases hs5 : a1 = 10
    · have h := (if_pos hs5).symm.trans h
      refine Wp.swIn (WpD.mono _) (q := ((104, [some (.inr (.inr (0, 0))), some (.inl a1)], []), q1.2)) hs5 rfl ?_
      refine Wp.run (WpD.mono _) 2 (q := ((111, [some (.inr (.inr (0, 0))), some (.inl a1)], [.inl (q1.2.1 2 10)]), q1.2)) rfl ?_
      cases h
      exact Wp.ret (WpD.mono _) rfl hQ
    have h := (if_neg hs5).symm.trans h
    by_cases hs6 : a1 = 11
    · have h := (if_pos hs6).symm.trans h
      refine Wp.swIn (WpD.mono _) (q := ((112, [some (.inr (.inr (0, 0))), some (.inl a1)], []), q1.2)) hs6 rfl ?_
      refine Wp.run (WpD.mono _) 3 (q := ((122, [some (.inr (.inr (0, 0))), some (.inl a1)], [.inl (q1.2.1 3 3)]), q1.2)) rfl ?_
      cases h
      exact Wp.ret (WpD.mono _) rfl hQ
    have h := (if_neg hs6).symm.trans h
    have ehs0 : ¬ (a1).toInt = 5 := fun z => hs0 (Int32.toInt_inj.mp z)
    have ehs1 : ¬ (a1).toInt = 6 := fun z => hs1 (Int32.toInt_inj.mp z)
    have ehs2 : ¬ (a1).toInt = 7 := fun z => hs2 (Int32.toInt_inj.mp z)
    have ehs3 : ¬ (a1).toInt = 8 := fun z => hs3 (Int32.toInt_inj.mp z)
    have ehs4 : ¬ (a1).toInt = 9 := fun z => hs4 (Int32.toInt_inj.mp z)
    have ehs5 : ¬ (a1).toInt = 10 := fun z => hs5 (Int32.toInt_inj.mp z)
    have ehs6 : ¬ (a1).toInt = 11 := fun z => hs6 (Int32.toInt_inj.mp z)
    refine Wp.swOut (WpD.mono _) (q := ((123, [some (.inr (.inr (0, 0))), some (.inl a1)], []), q1.2)) (o := if (a1).toInt < 5 ∨ 11 < (a1).toInt then some (103) else #[44, 52, 60, 68, 76, 84, 92][((a1).toInt - 5).toNat]?) (o' := some (103)) rfl (if_pos (by omega)) rfl ?_
    refine Wp.run (WpD.mono _) 0 (q := ((125, [some (.inr (.inr (0, 0))), some (.inl a1)], [.inl (-2 : Int32)]), q1.2)) rfl ?_
    cases h
    exact Wp.ret (WpD.mono _) rfl hQ
  · have h := (if_neg hc).symm.trans h
    obtain ⟨hc, h⟩ := ite_nn h
    refine Wp.no (WpD.mono _) 4 (c := hwOut a1 5) (q := ((18, [some (.inr (.inr (0, 0))), some (.inl a1)], [.inl (q1.2.2.2.1 28 0 (a1).toNatClampNeg)]), q1.2)) rfl hc ?_
    cases h
    exact Wp.ret (WpD.mono _) rfl hQ

set_option maxRecDepth 100000 in
set_option maxHeartbeats 4000000 in
theorem T_X7_deepen_b49 (e N : Nat)   (r : Int32) (τ : Mem) (Q : Pst) (hQ : Q (some (.inl r)) τ) : ∀ (x1 : Int32) (σ : Mem), F_X7_deepen_b49 N x1 σ = some (r, τ) → Wp (WpD (e + 0)) hcX7_deepen Q (49, [some (.inr (.inr (4, 0))), some (.inl x1), none], []) σ := by
  intro x1 σ h
  unfold F_X7_deepen_b49 at h
  obtain ⟨hc, h⟩ := ite_nn h
  refine Wp.no (WpD.mono _) 3 (c := hwOut x1 4) (q := ((55, [some (.inr (.inr (4, 0))), some (.inl x1), none], [.inl (σ.2.2.1 58 0 (x1).toNatClampNeg)]), σ)) rfl hc ?_
  cases h
  exact Wp.ret (WpD.mono _) rfl hQ

set_option maxRecDepth 100000 in
set_option maxHeartbeats 4000000 in
theorem T_X7_deepen (e N : Nat)  (a1 : Int32) (a2 : Int32) (σ : Mem) (r : Int32) (τ : Mem) (Q : Pst) (h : F_X7_deepen N a1 a2 σ = some (r, τ)) (hQ : Q (some (.inl r)) τ) : WpD (e + 1) mX7_deepen [.inr (.inr (4, 0)), .inl a1, .inl a2] σ Q := by
  refine WpD.of (d := e + 0) (Nat.le_of_ble_eq_true rfl) (Nat.le_of_ble_eq_true rfl) ?_
  show Wp (WpD (e + 0)) hcX7_deepen Q (0, [some (.inr (.inr (4, 0))), some (.inl a1), some (.inl a2)], []) σ
  unfold F_X7_deepen at h
  refine Wp.br (WpD.mono _) 2 (c := a2 = (3 : Int32)) (q1 := ((5, [some (.inr (.inr (4, 0))), some (.inl a1), some (.inl a2)], []), σ)) (q2 := ((15, [some (.inr (.inr (4, 0))), some (.inl a1), some (.inl a2)], []), σ)) rfl (fun hc => ?_) (fun hc => ?_)
  · have h := (if_pos hc).symm.trans h
    obtain ⟨hc, h⟩ := ite_nn h
    refine Wp.no (WpD.mono _) 4 (c := hwOut a1 4) (q := ((12, [some (.inr (.inr (4, 0))), some (.inl a1), some (.inl a2)], []), (σ.1, σ.2.1, (hwU3 σ.2.2.1 59 0 (a1).toNatClampNeg (1 : Int32)), σ.2.2.2.1, σ.2.2.2.2))) rfl hc ?_
    refine Wp.run (WpD.mono _) 0 (q := ((49, [some (.inr (.inr (4, 0))), some (.inl a1), some (.inl a2)], []), (σ.1, σ.2.1, (hwU3 σ.2.2.1 59 0 (a1).toNatClampNeg (1 : Int32)), σ.2.2.2.1, σ.2.2.2.2))) rfl ?_
    exact Wp.jump (WpD.mono _) rfl ((T_X7_deepen_b49 e N  r τ Q hQ ) a1 (σ.1, σ.2.1, (hwU3 σ.2.2.1 59 0 (a1).toNatClampNeg (1 : Int32)), σ.2.2.2.1, σ.2.2.2.2) h)
  · have h := (if_neg hc).symm.trans h
    obtain ⟨hc, h⟩ := ite_nn h
    refine Wp.no (WpD.mono _) 3 (c := hwOut a1 4) (q := ((21, [some (.inr (.inr (4, 0))), some (.inl a1), some (.inl a2)], [.inl (σ.2.2.1 58 0 (a1).toNatClampNeg)]), σ)) rfl hc ?_
    refine Wp.br (WpD.mono _) 1 (c := (5 : Int32) ≤ (σ.2.2.1 58 0 (a1).toNatClampNeg)) (q1 := ((49, [some (.inr (.inr (4, 0))), some (.inl a1), some (.inl a2)], []), σ)) (q2 := ((25, [some (.inr (.inr (4, 0))), some (.inl a1), some (.inl a2)], []), σ)) rfl (fun hc => ?_) (fun hc => ?_)
    · have h := (if_pos hc).symm.trans h
      exact Wp.jump (WpD.mono _) rfl ((T_X7_deepen_b49 e N  r τ Q hQ ) a1 σ h)
    · have h := (if_neg hc).symm.trans h
      obtain ⟨hc, h⟩ := ite_nn h
      refine Wp.no (WpD.mono _) 3 (c := hwOut a1 4) (q := ((31, [some (.inr (.inr (4, 0))), some (.inl a1), some (.inl a2)], [.inr (.inr (57, (a1).toNatClampNeg))]), σ)) rfl hc ?_
      obtain ⟨hc, h⟩ := ite_nn h
      refine Wp.no (WpD.mono _) 3 (c := hwOut a1 4) (q := ((37, [some (.inr (.inr (4, 0))), some (.inl a1), some (.inl a2)], [.inl (σ.2.2.1 58 0 (a1).toNatClampNeg), .inr (.inr (57, (a1).toNatClampNeg))]), σ)) rfl hc ?_
      obtain ⟨hc, h⟩ := ite_nn h
      refine Wp.no (WpD.mono _) 1 (c := hwOut (σ.2.2.1 58 0 (a1).toNatClampNeg) 5) (q := ((39, [some (.inr (.inr (4, 0))), some (.inl a1), some (.inl a2)], []), (σ.1, σ.2.1, (hwU3 σ.2.2.1 57 (a1).toNatClampNeg ((σ.2.2.1 58 0 (a1).toNatClampNeg)).toNatClampNeg a2), σ.2.2.2.1, σ.2.2.2.2))) rfl hc ?_
      obtain ⟨hc, h⟩ := ite_nn h
      refine Wp.no (WpD.mono _) 4 (c := hwOut a1 4) (q := ((46, [some (.inr (.inr (4, 0))), some (.inl a1), some (.inl a2)], [.inl (σ.2.2.1 58 0 (a1).toNatClampNeg), .inl a1, .inr (.inr (58, 0))]), (σ.1, σ.2.1, (hwU3 σ.2.2.1 57 (a1).toNatClampNeg ((σ.2.2.1 58 0 (a1).toNatClampNeg)).toNatClampNeg a2), σ.2.2.2.1, σ.2.2.2.2))) rfl hc ?_
      obtain ⟨hc, h⟩ := ite_nn h
      refine Wp.no (WpD.mono _) 2 (c := hwOut a1 4) (q := ((49, [some (.inr (.inr (4, 0))), some (.inl a1), some (.inl a2)], []), (σ.1, σ.2.1, (hwU3 (hwU3 σ.2.2.1 57 (a1).toNatClampNeg ((σ.2.2.1 58 0 (a1).toNatClampNeg)).toNatClampNeg a2) 58 0 (a1).toNatClampNeg ((σ.2.2.1 58 0 (a1).toNatClampNeg) + (1 : Int32))), σ.2.2.2.1, σ.2.2.2.2))) rfl hc ?_
      exact Wp.jump (WpD.mono _) rfl ((T_X7_deepen_b49 e N  r τ Q hQ ) a1 (σ.1, σ.2.1, (hwU3 (hwU3 σ.2.2.1 57 (a1).toNatClampNeg ((σ.2.2.1 58 0 (a1).toNatClampNeg)).toNatClampNeg a2) 58 0 (a1).toNatClampNeg ((σ.2.2.1 58 0 (a1).toNatClampNeg) + (1 : Int32))), σ.2.2.2.1, σ.2.2.2.2) h)

set_option maxRecDepth 100000 in
set_option maxHeartbeats 4000000 in
theorem T_X11_dig (e N : Nat)  (a1 : Int32) (a2 : Int32) (σ : Mem) (r : Int32) (τ : Mem) (Q : Pst) (h : F_X11_dig N a1 a2 σ = some (r, τ)) (hQ : Q (some (.inl r)) τ) : WpD (e + 3) mX11_dig [.inr (.inr (0, 0)), .inl a1, .inl a2] σ Q := by
  refine WpD.of (d := e + 2) (Nat.le_of_ble_eq_true rfl) (Nat.le_of_ble_eq_true rfl) ?_
  show Wp (WpD (e + 2)) hcX11_dig Q (0, [some (.inr (.inr (0, 0))), some (.inl a1), some (.inl a2)], []) σ
  unfold F_X11_dig at h
  refine Wp.run (WpD.mono _) 1 (q := ((2, [some (.inr (.inr (0, 0))), some (.inl a1), some (.inl a2)], [.inl a1, .inr (.inr (0, 0))]), σ)) rfl ?_
  obtain ⟨q1, hb, h⟩ := bind_some h
  refine Wp.call (WpD.mono _) rfl (T_X11_isPlace (e + 0) N a1 σ _ _ _ hb ?_)
  show Wp (WpD (e + 2)) hcX11_dig Q (5, [some (.inr (.inr (0, 0))), some (.inl a1), some (.inl a2)], [.inl q1.1]) q1.2
  refine Wp.br (WpD.mono _) 0 (c := q1.1 = 0) (q1 := ((8, [some (.inr (.inr (0, 0))), some (.inl a1), some (.inl a2)], []), q1.2)) (q2 := ((10, [some (.inr (.inr (0, 0))), some (.inl a1), some (.inl a2)], []), q1.2)) rfl (fun hc => ?_) (fun hc => ?_)
  · have h := (if_pos hc).symm.trans h
    refine Wp.run (WpD.mono _) 0 (q := ((9, [some (.inr (.inr (0, 0))), some (.inl a1), some (.inl a2)], [.inl (-1 : Int32)]), q1.2)) rfl ?_
    cases h
    exact Wp.ret (WpD.mono _) rfl hQ
  · have h := (if_neg hc).symm.trans h
    refine Wp.run (WpD.mono _) 2 (q := ((13, [some (.inr (.inr (0, 0))), some (.inl a1), some (.inl a2)], [.inl (3 : Int32), .inl (0 : Int32), .inl a2]), q1.2)) rfl ?_
    obtain ⟨q2, hb, h⟩ := bind_some h
    refine Wp.call (WpD.mono _) rfl (T_X11_within (e + 1) N a2 (0 : Int32) (3 : Int32) q1.2 _ _ _ hb ?_)
    show Wp (WpD (e + 2)) hcX11_dig Q (16, [some (.inr (.inr (0, 0))), some (.inl a1), some (.inl a2)], [.inl q2.1]) q2.2
    refine Wp.br (WpD.mono _) 0 (c := q2.1 = 0) (q1 := ((19, [some (.inr (.inr (0, 0))), some (.inl a1), some (.inl a2)], []), q2.2)) (q2 := ((22, [some (.inr (.inr (0, 0))), some (.inl a1), some (.inl a2)], []), q2.2)) rfl (fun hc => ?_) (fun hc => ?_)
    · have h := (if_pos hc).symm.trans h
      refine Wp.run (WpD.mono _) 0 (q := ((21, [some (.inr (.inr (0, 0))), some (.inl a1), some (.inl a2)], [.inl (-2 : Int32)]), q2.2)) rfl ?_
      cases h
      exact Wp.ret (WpD.mono _) rfl hQ
    · have h := (if_neg hc).symm.trans h
      obtain ⟨hc, h⟩ := ite_nn h
      refine Wp.no (WpD.mono _) 4 (c := hwOut a1 4) (q := ((31, [some (.inr (.inr (0, 0))), some (.inl a1), some (.inl a2)], [.inl (q2.2.2.2.1 59 0 (a1).toNatClampNeg)]), q2.2)) rfl hc ?_
      refine Wp.br (WpD.mono _) 0 (c := (q2.2.2.2.1 59 0 (a1).toNatClampNeg) = 0) (q1 := ((34, [some (.inr (.inr (0, 0))), some (.inl a1), some (.inl a2)], []), q2.2)) (q2 := ((53, [some (.inr (.inr (0, 0))), some (.inl a1), some (.inl a2)], []), q2.2)) rfl (fun hc => ?_) (fun hc => ?_)
      · have h := (if_pos hc).symm.trans h
        obtain ⟨hc, h⟩ := ite_nn h
        refine Wp.no (WpD.mono _) 4 (c := hwOut a1 4) (q := ((43, [some (.inr (.inr (0, 0))), some (.inl a1), some (.inl a2)], [.inl (q2.2.2.2.1 58 0 (a1).toNatClampNeg)]), q2.2)) rfl hc ?_
        refine Wp.run (WpD.mono _) 1 (q := ((47, [some (.inr (.inr (0, 0))), some (.inl a1), some (.inl a2)], [.inr (.inr (1, 0)), .inl (q2.2.2.2.1 58 0 (a1).toNatClampNeg)]), q2.2)) rfl ?_
        obtain ⟨q3, hb, h⟩ := bind_some h
        refine Wp.call (WpD.mono _) rfl (T_X2_deepest (e + 1) N q2.2 _ _ _ hb ?_)
        show Wp (WpD (e + 2)) hcX11_dig Q (50, [some (.inr (.inr (0, 0))), some (.inl a1), some (.inl a2)], [.inl q3.1, .inl (q2.2.2.2.1 58 0 (a1).toNatClampNeg)]) q3.2
        refine Wp.br (WpD.mono _) 0 (c := (q2.2.2.2.1 58 0 (a1).toNatClampNeg) < q3.1) (q1 := ((56, [some (.inr (.inr (0, 0))), some (.inl a1), some (.inl a2)], []), q3.2)) (q2 := ((53, [some (.inr (.inr (0, 0))), some (.inl a1), some (.inl a2)], []), q3.2)) rfl (fun hc => ?_) (fun hc => ?_)
        · have h := (if_pos hc).symm.trans h
          refine Wp.run (WpD.mono _) 3 (q := ((62, [some (.inr (.inr (0, 0))), some (.inl a1), some (.inl a2)], [.inl a2, .inl a1, .inr (.inr (4, 0))]), q3.2)) rfl ?_
          obtain ⟨q4, hb, h⟩ := bind_some h
          refine Wp.call (WpD.mono _) rfl (T_X7_deepen (e + 1) N a1 a2 q3.2 _ _ _ hb ?_)
          show Wp (WpD (e + 2)) hcX11_dig Q (65, [some (.inr (.inr (0, 0))), some (.inl a1), some (.inl a2)], [.inl q4.1]) q4.2
          cases h
          exact Wp.ret (WpD.mono _) rfl hQ
        · have h := (if_neg hc).symm.trans h
          refine Wp.run (WpD.mono _) 0 (q := ((55, [none, none, none], [.inl (-3 : Int32)]), q3.2)) rfl ?_
          cases h
          exact Wp.ret (WpD.mono _) rfl hQ
      · have h := (if_neg hc).symm.trans h
        refine Wp.run (WpD.mono _) 0 (q := ((55, [none, none, none], [.inl (-3 : Int32)]), q2.2)) rfl ?_
        cases h
        exact Wp.ret (WpD.mono _) rfl hQ

set_option maxRecDepth 100000 in
set_option maxHeartbeats 4000000 in
theorem T_X6_wordWorth (e N : Nat)  (a1 : Int32) (a2 : Int32) (σ : Mem) (r : Int64) (τ : Mem) (Q : Pst) (h : F_X6_wordWorth N a1 a2 σ = some (r, τ)) (hQ : Q (some (.inr (.inl r))) τ) : WpD (e + 13) mX6_wordWorth [.inr (.inr (8, 0)), .inl a1, .inl a2] σ Q := by
  refine WpD.of (d := e + 12) (Nat.le_of_ble_eq_true rfl) (Nat.le_of_ble_eq_true rfl) ?_
  show Wp (WpD (e + 12)) hcX6_wordWorth Q (0, [some (.inr (.inr (8, 0))), some (.inl a1), some (.inl a2), none, none, none, none], []) σ
  unfold F_X6_wordWorth at h
  refine Wp.run (WpD.mono _) 3 (q := ((6, [some (.inr (.inr (8, 0))), some (.inl a1), some (.inl a2), none, none, none, none], [.inr (.inr (1, 0)), .inl a1, .inr (.inr (8, 0))]), σ)) rfl ?_
  obtain ⟨q1, hb, h⟩ := bind_some h
  refine Wp.call (WpD.mono _) rfl (T_X2_worth (e + 11) N σ _ _ _ hb ?_)
  show Wp (WpD (e + 12)) hcX6_wordWorth Q (9, [some (.inr (.inr (8, 0))), some (.inl a1), some (.inl a2), none, none, none, none], [.inl q1.1, .inl a1, .inr (.inr (8, 0))]) q1.2
  obtain ⟨q2, hb, h⟩ := bind_some h
  refine Wp.call (WpD.mono _) rfl (T_X6_goingOn (e + 0) N a1 q1.1 q1.2 _ _ _ hb ?_)
  show Wp (WpD (e + 12)) hcX6_wordWorth Q (12, [some (.inr (.inr (8, 0))), some (.inl a1), some (.inl a2), none, none, none, none], [.inr (.inl q2.1)]) q2.2
  refine Wp.run (WpD.mono _) 4 (q := ((19, [some (.inr (.inr (8, 0))), some (.inl a1), some (.inl a2), some (.inr (.inl q2.1)), none, none, none], [.inr (.inr (1, 0)), .inl a1, .inr (.inr (8, 0))]), q2.2)) rfl ?_
  obtain ⟨q3, hb, h⟩ := bind_some h
  refine Wp.call (WpD.mono _) rfl (T_X2_worth (e + 11) N q2.2 _ _ _ hb ?_)
  show Wp (WpD (e + 12)) hcX6_wordWorth Q (22, [some (.inr (.inr (8, 0))), some (.inl a1), some (.inl a2), some (.inr (.inl q2.1)), none, none, none], [.inl q3.1, .inl a1, .inr (.inr (8, 0))]) q3.2
  refine Wp.run (WpD.mono _) 0 (q := ((23, [some (.inr (.inr (8, 0))), some (.inl a1), some (.inl a2), some (.inr (.inl q2.1)), none, none, none], [.inl (0 : Int32), .inl q3.1, .inl a1, .inr (.inr (8, 0))]), q3.2)) rfl ?_
  obtain ⟨q4, hb, h⟩ := bind_some h
  refine Wp.call (WpD.mono _) rfl (T_X6_gain (e + 10) N a1 q3.1 (0 : Int32) q3.2 _ _ _ hb ?_)
  show Wp (WpD (e + 12)) hcX6_wordWorth Q (26, [some (.inr (.inr (8, 0))), some (.inl a1), some (.inl a2), some (.inr (.inl q2.1)), none, none, none], [.inr (.inl q4.1)]) q4.2
  obtain ⟨hc, h⟩ := ite_nn h
  refine Wp.no (WpD.mono _) 8 (c := hwOut a1 6) (q := ((43, [some (.inr (.inr (8, 0))), some (.inl a1), some (.inl a2), some (.inr (.inl q2.1)), none, some (.inr (.inl q4.1)), none], [.inl (q4.2.2.2.1 42 0 (a1).toNatClampNeg), .inr (.inl (1000000 : Int64)), .inr (.inl q4.1), .inr (.inl q2.1)]), q4.2)) rfl hc ?_
  refine Wp.run (WpD.mono _) 3 (q := ((47, [some (.inr (.inr (8, 0))), some (.inl a1), some (.inl a2), some (.inr (.inl q2.1)), none, some (.inr (.inl q4.1)), none], [.inl a1, .inr (.inr (8, 0)), .inr (.inl ((1000000 : Int64) * (q4.2.2.2.1 42 0 (a1).toNatClampNeg).toInt64)), .inr (.inl q4.1), .inr (.inl q2.1)]), q4.2)) rfl ?_
  obtain ⟨q5, hb, h⟩ := bind_some h
  refine Wp.call (WpD.mono _) rfl (T_X6_wet (e + 10) N a1 q4.2 _ _ _ hb ?_)
  show Wp (WpD (e + 12)) hcX6_wordWorth Q (50, [some (.inr (.inr (8, 0))), some (.inl a1), some (.inl a2), some (.inr (.inl q2.1)), none, some (.inr (.inl q4.1)), none], [.inr (.inl q5.1), .inr (.inl ((1000000 : Int64) * (q4.2.2.2.1 42 0 (a1).toNatClampNeg).toInt64)), .inr (.inl q4.1), .inr (.inl q2.1)]) q5.2
  refine Wp.run (WpD.mono _) 0 (q := ((51, [some (.inr (.inr (8, 0))), some (.inl a1), some (.inl a2), some (.inr (.inl q2.1)), none, some (.inr (.inl q4.1)), none], [.inl a2, .inr (.inl q5.1), .inr (.inl ((1000000 : Int64) * (q4.2.2.2.1 42 0 (a1).toNatClampNeg).toInt64)), .inr (.inl q4.1), .inr (.inl q2.1)]), q5.2)) rfl ?_
  obtain ⟨q6, hb, h⟩ := bind_some h
  refine Wp.call (WpD.mono _) rfl (T_X6_spoken (e + 10) N q2.1 q4.1 ((1000000 : Int64) * (q4.2.2.2.1 42 0 (a1).toNatClampNeg).toInt64) q5.1 a2 q5.2 _ _ _ hb ?_)
  show Wp (WpD (e + 12)) hcX6_wordWorth Q (54, [some (.inr (.inr (8, 0))), some (.inl a1), some (.inl a2), some (.inr (.inl q2.1)), none, some (.inr (.inl q4.1)), none], [.inr (.inl q6.1)]) q6.2
  cases h
  exact Wp.ret (WpD.mono _) rfl hQ

set_option maxRecDepth 100000 in
set_option maxHeartbeats 4000000 in
theorem T_X11_diviner (e N : Nat)  (a1 : Int32) (a2 : Int32) (σ : Mem) (r : Int64) (τ : Mem) (Q : Pst) (h : F_X11_diviner N a1 a2 σ = some (r, τ)) (hQ : Q (some (.inr (.inl r))) τ) : WpD (e + 14) mX11_diviner [.inr (.inr (0, 0)), .inl a1, .inl a2] σ Q := by
  refine WpD.of (d := e + 13) (Nat.le_of_ble_eq_true rfl) (Nat.le_of_ble_eq_true rfl) ?_
  show Wp (WpD (e + 13)) hcX11_diviner Q (0, [some (.inr (.inr (0, 0))), some (.inl a1), some (.inl a2), none], []) σ
  unfold F_X11_diviner at h
  refine Wp.run (WpD.mono _) 1 (q := ((2, [some (.inr (.inr (0, 0))), some (.inl a1), some (.inl a2), none], [.inl a1, .inr (.inr (0, 0))]), σ)) rfl ?_
  obtain ⟨q1, hb, h⟩ := bind_some h
  refine Wp.call (WpD.mono _) rfl (T_X11_isPlace (e + 11) N a1 σ _ _ _ hb ?_)
  show Wp (WpD (e + 13)) hcX11_diviner Q (5, [some (.inr (.inr (0, 0))), some (.inl a1), some (.inl a2), none], [.inl q1.1]) q1.2
  refine Wp.br (WpD.mono _) 0 (c := q1.1 = 0) (q1 := ((18, [some (.inr (.inr (0, 0))), some (.inl a1), some (.inl a2), none], []), q1.2)) (q2 := ((8, [some (.inr (.inr (0, 0))), some (.inl a1), some (.inl a2), none], []), q1.2)) rfl (fun hc => ?_) (fun hc => ?_)
  · have h := (if_pos hc).symm.trans h
    refine Wp.run (WpD.mono _) 0 (q := ((21, [none, none, none, none], [.inr (.inl (-4611686018427387904 : Int64))]), q1.2)) rfl ?_
    cases h
    exact Wp.ret (WpD.mono _) rfl hQ
  · have h := (if_neg hc).symm.trans h
    refine Wp.run (WpD.mono _) 2 (q := ((12, [some (.inr (.inr (0, 0))), some (.inl a1), some (.inl a2), none], [.inl (100 : Int32), .inl (0 : Int32), .inl a2]), q1.2)) rfl ?_
    obtain ⟨q2, hb, h⟩ := bind_some h
    refine Wp.call (WpD.mono _) rfl (T_X11_within (e + 12) N a2 (0 : Int32) (100 : Int32) q1.2 _ _ _ hb ?_)
    show Wp (WpD (e + 13)) hcX11_diviner Q (15, [some (.inr (.inr (0, 0))), some (.inl a1), some (.inl a2), none], [.inl q2.1]) q2.2
    refine Wp.br (WpD.mono _) 0 (c := q2.1 = 0) (q1 := ((18, [some (.inr (.inr (0, 0))), some (.inl a1), some (.inl a2), none], []), q2.2)) (q2 := ((22, [some (.inr (.inr (0, 0))), some (.inl a1), some (.inl a2), none], []), q2.2)) rfl (fun hc => ?_) (fun hc => ?_)
    · have h := (if_pos hc).symm.trans h
      refine Wp.run (WpD.mono _) 0 (q := ((21, [none, none, none, none], [.inr (.inl (-4611686018427387904 : Int64))]), q2.2)) rfl ?_
      cases h
      exact Wp.ret (WpD.mono _) rfl hQ
    · have h := (if_neg hc).symm.trans h
      refine Wp.run (WpD.mono _) 2 (q := ((27, [some (.inr (.inr (0, 0))), some (.inl a1), some (.inl a2), none], [.inl a1, .inr (.inr (8, 0))]), q2.2)) rfl ?_
      obtain ⟨q3, hb, h⟩ := bind_some h
      refine Wp.call (WpD.mono _) rfl (T_X6_openYard (e + 9) N a1 q2.2 _ _ _ hb ?_)
      show Wp (WpD (e + 13)) hcX11_diviner Q (30, [some (.inr (.inr (0, 0))), some (.inl a1), some (.inl a2), none], [.inl q3.1]) q3.2
      refine Wp.br (WpD.mono _) 2 (c := q3.1 = 0) (q1 := ((35, [some (.inr (.inr (0, 0))), some (.inl a1), some (.inl a2), some (.inl q3.1)], []), q3.2)) (q2 := ((39, [some (.inr (.inr (0, 0))), some (.inl a1), some (.inl a2), some (.inl q3.1)], []), q3.2)) rfl (fun hc => ?_) (fun hc => ?_)
      · have h := (if_pos hc).symm.trans h
        refine Wp.run (WpD.mono _) 0 (q := ((38, [some (.inr (.inr (0, 0))), some (.inl a1), some (.inl a2), some (.inl q3.1)], [.inr (.inl (-3 : Int64))]), q3.2)) rfl ?_
        cases h
        exact Wp.ret (WpD.mono _) rfl hQ
      · have h := (if_neg hc).symm.trans h
        refine Wp.run (WpD.mono _) 2 (q := ((44, [some (.inr (.inr (0, 0))), some (.inl a1), some (.inl a2), some (.inl q3.1)], [.inr (.inr (1, 0)), .inl q3.1]), q3.2)) rfl ?_
        obtain ⟨q4, hb, h⟩ := bind_some h
        refine Wp.call (WpD.mono _) rfl (T_X2_deepest (e + 12) N q3.2 _ _ _ hb ?_)
        show Wp (WpD (e + 13)) hcX11_diviner Q (47, [some (.inr (.inr (0, 0))), some (.inl a1), some (.inl a2), some (.inl q3.1)], [.inl q4.1, .inl q3.1]) q4.2
        refine Wp.br (WpD.mono _) 0 (c := q3.1 ≤ q4.1) (q1 := ((54, [some (.inr (.inr (0, 0))), some (.inl a1), some (.inl a2), some (.inl q3.1)], []), q4.2)) (q2 := ((50, [some (.inr (.inr (0, 0))), some (.inl a1), some (.inl a2), some (.inl q3.1)], []), q4.2)) rfl (fun hc => ?_) (fun hc => ?_)
        · have h := (if_pos hc).symm.trans h
          refine Wp.run (WpD.mono _) 3 (q := ((60, [some (.inr (.inr (0, 0))), some (.inl a1), some (.inl a2), some (.inl q3.1)], [.inl a2, .inl q3.1, .inr (.inr (8, 0))]), q4.2)) rfl ?_
          obtain ⟨q5, hb, h⟩ := bind_some h
          refine Wp.call (WpD.mono _) rfl (T_X6_wordWorth (e + 0) N q3.1 a2 q4.2 _ _ _ hb ?_)
          show Wp (WpD (e + 13)) hcX11_diviner Q (63, [some (.inr (.inr (0, 0))), some (.inl a1), some (.inl a2), some (.inl q3.1)], [.inr (.inl q5.1)]) q5.2
          cases h
          exact Wp.ret (WpD.mono _) rfl hQ
        · have h := (if_neg hc).symm.trans h
          refine Wp.run (WpD.mono _) 1 (q := ((63, [some (.inr (.inr (0, 0))), some (.inl a1), some (.inl a2), some (.inl q3.1)], [.inr (.inl (0 : Int64))]), q4.2)) rfl ?_
          cases h
          exact Wp.ret (WpD.mono _) rfl hQ

set_option maxRecDepth 100000 in
set_option maxHeartbeats 4000000 in
theorem T_X11_isRule (e N : Nat)  (a1 : Int32) (σ : Mem) (r : Int32) (τ : Mem) (Q : Pst) (h : F_X11_isRule N a1 σ = some (r, τ)) (hQ : Q (some (.inl r)) τ) : WpD (e + 2) mX11_isRule [.inr (.inr (0, 0)), .inl a1] σ Q := by
  refine WpD.of (d := e + 1) (Nat.le_of_ble_eq_true rfl) (Nat.le_of_ble_eq_true rfl) ?_
  show Wp (WpD (e + 1)) hcX11_isRule Q (0, [some (.inr (.inr (0, 0))), some (.inl a1)], []) σ
  unfold F_X11_isRule at h
  refine Wp.run (WpD.mono _) 6 (q := ((11, [some (.inr (.inr (0, 0))), some (.inl a1)], [.inl ((σ.1 6 4) - (1 : Int32)), .inl (0 : Int32), .inl a1]), σ)) rfl ?_
  obtain ⟨q1, hb, h⟩ := bind_some h
  refine Wp.call (WpD.mono _) rfl (T_X11_within (e + 0) N a1 (0 : Int32) ((σ.1 6 4) - (1 : Int32)) σ _ _ _ hb ?_)
  show Wp (WpD (e + 1)) hcX11_isRule Q (14, [some (.inr (.inr (0, 0))), some (.inl a1)], [.inl q1.1]) q1.2
  obtain ⟨hc, h⟩ := ite_yy h
  cases h
  exact Wp.retZ (WpD.mono _) rfl hc hQ

set_option maxRecDepth 100000 in
set_option maxHeartbeats 4000000 in
theorem T_X11_drawn (e N : Nat)  (a1 : Int32) (a2 : Int32) (a3 : Int32) (a4 : Int32) (σ : Mem) (r : Int32) (τ : Mem) (Q : Pst) (h : F_X11_drawn N a1 a2 a3 a4 σ = some (r, τ)) (hQ : Q (some (.inl r)) τ) : WpD (e + 15) mX11_drawn [.inr (.inr (0, 0)), .inl a1, .inl a2, .inl a3, .inl a4] σ Q := by
  refine WpD.of (d := e + 14) (Nat.le_of_ble_eq_true rfl) (Nat.le_of_ble_eq_true rfl) ?_
  show Wp (WpD (e + 14)) hcX11_drawn Q (0, [some (.inr (.inr (0, 0))), some (.inl a1), some (.inl a2), some (.inl a3), some (.inl a4)], []) σ
  unfold F_X11_drawn at h
  refine Wp.run (WpD.mono _) 1 (q := ((2, [some (.inr (.inr (0, 0))), some (.inl a1), some (.inl a2), some (.inl a3), some (.inl a4)], [.inl a1, .inr (.inr (0, 0))]), σ)) rfl ?_
  obtain ⟨q1, hb, h⟩ := bind_some h
  refine Wp.call (WpD.mono _) rfl (T_X11_isRule (e + 12) N a1 σ _ _ _ hb ?_)
  show Wp (WpD (e + 14)) hcX11_drawn Q (5, [some (.inr (.inr (0, 0))), some (.inl a1), some (.inl a2), some (.inl a3), some (.inl a4)], [.inl q1.1]) q1.2
  refine Wp.br (WpD.mono _) 0 (c := q1.1 = 0) (q1 := ((16, [some (.inr (.inr (0, 0))), some (.inl a1), some (.inl a2), some (.inl a3), some (.inl a4)], []), q1.2)) (q2 := ((8, [some (.inr (.inr (0, 0))), some (.inl a1), some (.inl a2), some (.inl a3), some (.inl a4)], []), q1.2)) rfl (fun hc => ?_) (fun hc => ?_)
  · have h := (if_pos hc).symm.trans h
    refine Wp.run (WpD.mono _) 0 (q := ((18, [none, none, none, none, none], [.inl (-5 : Int32)]), q1.2)) rfl ?_
    cases h
    exact Wp.ret (WpD.mono _) rfl hQ
  · have h := (if_neg hc).symm.trans h
    refine Wp.run (WpD.mono _) 1 (q := ((10, [some (.inr (.inr (0, 0))), some (.inl a1), some (.inl a2), some (.inl a3), some (.inl a4)], [.inl a2, .inr (.inr (0, 0))]), q1.2)) rfl ?_
    obtain ⟨q2, hb, h⟩ := bind_some h
    refine Wp.call (WpD.mono _) rfl (T_X11_isPlace (e + 12) N a2 q1.2 _ _ _ hb ?_)
    show Wp (WpD (e + 14)) hcX11_drawn Q (13, [some (.inr (.inr (0, 0))), some (.inl a1), some (.inl a2), some (.inl a3), some (.inl a4)], [.inl q2.1]) q2.2
    refine Wp.br (WpD.mono _) 0 (c := q2.1 = 0) (q1 := ((16, [some (.inr (.inr (0, 0))), some (.inl a1), some (.inl a2), some (.inl a3), some (.inl a4)], []), q2.2)) (q2 := ((19, [some (.inr (.inr (0, 0))), some (.inl a1), some (.inl a2), some (.inl a3), some (.inl a4)], []), q2.2)) rfl (fun hc => ?_) (fun hc => ?_)
    · have h := (if_pos hc).symm.trans h
      refine Wp.run (WpD.mono _) 0 (q := ((18, [none, none, none, none, none], [.inl (-5 : Int32)]), q2.2)) rfl ?_
      cases h
      exact Wp.ret (WpD.mono _) rfl hQ
    · have h := (if_neg hc).symm.trans h
      refine Wp.run (WpD.mono _) 2 (q := ((24, [some (.inr (.inr (0, 0))), some (.inl a1), some (.inl a2), some (.inl a3), some (.inl a4)], [.inl (99999 : Int32), .inl (0 : Int32), .inl a3]), q2.2)) rfl ?_
      obtain ⟨q3, hb, h⟩ := bind_some h
      refine Wp.call (WpD.mono _) rfl (T_X11_within (e + 13) N a3 (0 : Int32) (99999 : Int32) q2.2 _ _ _ hb ?_)
      show Wp (WpD (e + 14)) hcX11_drawn Q (27, [some (.inr (.inr (0, 0))), some (.inl a1), some (.inl a2), some (.inl a3), some (.inl a4)], [.inl q3.1]) q3.2
      refine Wp.br (WpD.mono _) 0 (c := q3.1 = 0) (q1 := ((40, [some (.inr (.inr (0, 0))), some (.inl a1), some (.inl a2), some (.inl a3), some (.inl a4)], []), q3.2)) (q2 := ((30, [some (.inr (.inr (0, 0))), some (.inl a1), some (.inl a2), some (.inl a3), some (.inl a4)], []), q3.2)) rfl (fun hc => ?_) (fun hc => ?_)
      · have h := (if_pos hc).symm.trans h
        refine Wp.run (WpD.mono _) 0 (q := ((42, [none, none, none, none, none], [.inl (-7 : Int32)]), q3.2)) rfl ?_
        cases h
        exact Wp.ret (WpD.mono _) rfl hQ
      · have h := (if_neg hc).symm.trans h
        refine Wp.run (WpD.mono _) 2 (q := ((34, [some (.inr (.inr (0, 0))), some (.inl a1), some (.inl a2), some (.inl a3), some (.inl a4)], [.inl (2 : Int32), .inl (0 : Int32), .inl a4]), q3.2)) rfl ?_
        obtain ⟨q4, hb, h⟩ := bind_some h
        refine Wp.call (WpD.mono _) rfl (T_X11_within (e + 13) N a4 (0 : Int32) (2 : Int32) q3.2 _ _ _ hb ?_)
        show Wp (WpD (e + 14)) hcX11_drawn Q (37, [some (.inr (.inr (0, 0))), some (.inl a1), some (.inl a2), some (.inl a3), some (.inl a4)], [.inl q4.1]) q4.2
        refine Wp.br (WpD.mono _) 0 (c := q4.1 = 0) (q1 := ((40, [some (.inr (.inr (0, 0))), some (.inl a1), some (.inl a2), some (.inl a3), some (.inl a4)], []), q4.2)) (q2 := ((43, [some (.inr (.inr (0, 0))), some (.inl a1), some (.inl a2), some (.inl a3), some (.inl a4)], []), q4.2)) rfl (fun hc => ?_) (fun hc => ?_)
        · have h := (if_pos hc).symm.trans h
          refine Wp.run (WpD.mono _) 0 (q := ((42, [none, none, none, none, none], [.inl (-7 : Int32)]), q4.2)) rfl ?_
          cases h
          exact Wp.ret (WpD.mono _) rfl hQ
        · have h := (if_neg hc).symm.trans h
          refine Wp.run (WpD.mono _) 4 (q := ((50, [some (.inr (.inr (0, 0))), some (.inl a1), some (.inl a2), some (.inl a3), some (.inl a4)], [.inl a3, .inl a2, .inl a1, .inr (.inr (10, 0))]), q4.2)) rfl ?_
          obtain ⟨q5, hb, h⟩ := bind_some h
          refine Wp.call (WpD.mono _) rfl (T_X0_work (e + 0) N a1 a2 a3 q4.2 _ _ _ hb ?_)
          show Wp (WpD (e + 14)) hcX11_drawn Q (53, [some (.inr (.inr (0, 0))), some (.inl a1), some (.inl a2), some (.inl a3), some (.inl a4)], []) q5.2
          refine Wp.br (WpD.mono _) 1 (c := a4 = 0) (q1 := ((58, [some (.inr (.inr (0, 0))), some (.inl a1), some (.inl a2), some (.inl a3), some (.inl a4)], []), q5.2)) (q2 := ((66, [some (.inr (.inr (0, 0))), some (.inl a1), some (.inl a2), some (.inl a3), some (.inl a4)], []), q5.2)) rfl (fun hc => ?_) (fun hc => ?_)
          · have h := (if_pos hc).symm.trans h
            refine Wp.run (WpD.mono _) 2 (q := ((65, [some (.inr (.inr (0, 0))), some (.inl a1), some (.inl a2), some (.inl a3), some (.inl a4)], [.inl (q5.2.1 10 3)]), q5.2)) rfl ?_
            cases h
            exact Wp.ret (WpD.mono _) rfl hQ
          · have h := (if_neg hc).symm.trans h
            refine Wp.br (WpD.mono _) 2 (c := a4 = (1 : Int32)) (q1 := ((72, [some (.inr (.inr (0, 0))), some (.inl a1), some (.inl a2), some (.inl a3), some (.inl a4)], []), q5.2)) (q2 := ((82, [some (.inr (.inr (0, 0))), some (.inl a1), some (.inl a2), some (.inl a3), some (.inl a4)], []), q5.2)) rfl (fun hc => ?_) (fun hc => ?_)
            · have h := (if_pos hc).symm.trans h
              refine Wp.run (WpD.mono _) 3 (q := ((89, [some (.inr (.inr (0, 0))), some (.inl a1), some (.inl a2), some (.inl a3), some (.inl a4)], [.inl (q5.2.1 10 4)]), q5.2)) rfl ?_
              cases h
              exact Wp.ret (WpD.mono _) rfl hQ
            · have h := (if_neg hc).symm.trans h
              refine Wp.run (WpD.mono _) 2 (q := ((89, [some (.inr (.inr (0, 0))), some (.inl a1), some (.inl a2), some (.inl a3), some (.inl a4)], [.inl (q5.2.1 10 5)]), q5.2)) rfl ?_
              cases h
              exact Wp.ret (WpD.mono _) rfl hQ

set_option maxRecDepth 100000 in
set_option maxHeartbeats 4000000 in
theorem T_X4_fallen_b34 (e N : Nat)  (k7 : Int32 → Int32 → Int64 → Int32 → Mem → Option (Int64 × Mem)) (r : Int64) (τ : Mem) (Q : Pst) (hQ : Q (some (.inr (.inl r))) τ) (hk7 : ∀ (x1 : Int32) (x2 : Int32) (x3 : Int64) (x5 : Int32) (σ : Mem), k7 x1 x2 x3 x5 σ = some (r, τ) → Wp (WpD (e + 0)) hcX4_fallen Q (7, [some (.inr (.inr (2, 0))), some (.inl x1), some (.inl x2), some (.inr (.inl x3)), none, some (.inl x5), none], []) σ) : ∀ (x1 : Int32) (x2 : Int32) (x3 : Int64) (x5 : Int32) (s0 : Int32) (σ : Mem), F_X4_fallen_b34 N k7 x1 x2 x3 x5 s0 σ = some (r, τ) → Wp (WpD (e + 0)) hcX4_fallen Q (34, [some (.inr (.inr (2, 0))), some (.inl x1), some (.inl x2), some (.inr (.inl x3)), none, some (.inl x5), none], [.inl s0, .inr (.inr (45, 0))]) σ := by
  intro x1 x2 x3 x5 s0 σ h
  unfold F_X4_fallen_b34 at h
  obtain ⟨hc, h⟩ := ite_nn h
  refine Wp.no (WpD.mono _) 0 (c := hwOut s0 2) (q := ((35, [some (.inr (.inr (2, 0))), some (.inl x1), some (.inl x2), some (.inr (.inl x3)), none, some (.inl x5), none], [.inr (.inr (46, (s0).toNatClampNeg))]), σ)) rfl hc ?_
  obtain ⟨hc, h⟩ := ite_nn h
  refine Wp.no (WpD.mono _) 5 (c := hwOut x5 6) (q := ((45, [some (.inr (.inr (2, 0))), some (.inl x1), some (.inl x2), some (.inr (.inl x3)), none, some (.inl x5), some (.inr (.inr (46, (s0).toNatClampNeg)))], [.inl (σ.2.2.1 46 (s0).toNatClampNeg (x5).toNatClampNeg), .inl (100 : Int32), .inr (.inl x3)]), σ)) rfl hc ?_
  refine Wp.run (WpD.mono _) 7 (q := ((7, [some (.inr (.inr (2, 0))), some (.inl x1), some (.inl x2), some (.inr (.inl ((x3 * ((100 : Int32) - (σ.2.2.1 46 (s0).toNatClampNeg (x5).toNatClampNeg)).toInt64) / (100 : Int64)))), none, some (.inl (x5 + (1 : Int32))), some (.inr (.inr (46, (s0).toNatClampNeg)))], []), σ)) rfl ?_
  exact Wp.jump (WpD.mono _) rfl (hk7 x1 x2 ((x3 * ((100 : Int32) - (σ.2.2.1 46 (s0).toNatClampNeg (x5).toNatClampNeg)).toInt64) / (100 : Int64)) (x5 + (1 : Int32)) σ h)

set_option maxRecDepth 100000 in
set_option maxHeartbeats 4000000 in
theorem T_X4_fallen_b7 (e N : Nat)   (r : Int64) (τ : Mem) (Q : Pst) (hQ : Q (some (.inr (.inl r))) τ) : ∀ n, ∀ (x1 : Int32) (x2 : Int32) (x3 : Int64) (x5 : Int32) (σ : Mem), F_X4_fallen_b7 N n x1 x2 x3 x5 σ = some (r, τ) → Wp (WpD (e + 0)) hcX4_fallen Q (7, [some (.inr (.inr (2, 0))), some (.inl x1), some (.inl x2), some (.inr (.inl x3)), none, some (.inl x5), none], []) σ := by
  intro n
  induction n with
  | zero => intro x1 x2 x3 x5 σ h; cases h
  | succ n ih =>
    intro x1 x2 x3 x5 σ h
    unfold F_X4_fallen_b7 at h
    refine Wp.br (WpD.mono _) 2 (c := x1 < x5) (q1 := ((59, [some (.inr (.inr (2, 0))), some (.inl x1), some (.inl x2), some (.inr (.inl x3)), none, some (.inl x5), none], []), σ)) (q2 := ((13, [some (.inr (.inr (2, 0))), some (.inl x1), some (.inl x2), some (.inr (.inl x3)), none, some (.inl x5), none], []), σ)) rfl (fun hc => ?_) (fun hc => ?_)
    · have h := (if_pos hc).symm.trans h
      refine Wp.run (WpD.mono _) 2 (q := ((64, [none, none, none, some (.inr (.inl x3)), none, none, none], [.inr (.inl ((1000000 : Int64) - x3))]), σ)) rfl ?_
      cases h
      exact Wp.ret (WpD.mono _) rfl hQ
    · have h := (if_neg hc).symm.trans h
      refine Wp.br (WpD.mono _) 2 (c := (5 : Int32) < x5) (q1 := ((59, [some (.inr (.inr (2, 0))), some (.inl x1), some (.inl x2), some (.inr (.inl x3)), none, some (.inl x5), none], []), σ)) (q2 := ((19, [some (.inr (.inr (2, 0))), some (.inl x1), some (.inl x2), some (.inr (.inl x3)), none, some (.inl x5), none], []), σ)) rfl (fun hc => ?_) (fun hc => ?_)
      · have h := (if_pos hc).symm.trans h
        refine Wp.run (WpD.mono _) 2 (q := ((64, [none, none, none, some (.inr (.inl x3)), none, none, none], [.inr (.inl ((1000000 : Int64) - x3))]), σ)) rfl ?_
        cases h
        exact Wp.ret (WpD.mono _) rfl hQ
      · have h := (if_neg hc).symm.trans h
        refine Wp.br (WpD.mono _) 4 (c := x5 ≤ x2) (q1 := ((33, [some (.inr (.inr (2, 0))), some (.inl x1), some (.inl x2), some (.inr (.inl x3)), none, some (.inl x5), none], [.inr (.inr (45, 0))]), σ)) (q2 := ((29, [some (.inr (.inr (2, 0))), some (.inl x1), some (.inl x2), some (.inr (.inl x3)), none, some (.inl x5), none], [.inr (.inr (45, 0))]), σ)) rfl (fun hc => ?_) (fun hc => ?_)
        · have h := (if_pos hc).symm.trans h
          refine Wp.run (WpD.mono _) 0 (q := ((34, [some (.inr (.inr (2, 0))), some (.inl x1), some (.inl x2), some (.inr (.inl x3)), none, some (.inl x5), none], [.inl (0 : Int32), .inr (.inr (45, 0))]), σ)) rfl ?_
          exact Wp.jump (WpD.mono _) rfl ((T_X4_fallen_b34 e N (F_X4_fallen_b7 N n) r τ Q hQ ih) x1 x2 x3 x5 (0 : Int32) σ h)
        · have h := (if_neg hc).symm.trans h
          refine Wp.run (WpD.mono _) 1 (q := ((34, [some (.inr (.inr (2, 0))), some (.inl x1), some (.inl x2), some (.inr (.inl x3)), none, some (.inl x5), none], [.inl (1 : Int32), .inr (.inr (45, 0))]), σ)) rfl ?_
          exact Wp.jump (WpD.mono _) rfl ((T_X4_fallen_b34 e N (F_X4_fallen_b7 N n) r τ Q hQ ih) x1 x2 x3 x5 (1 : Int32) σ h)

set_option maxRecDepth 100000 in
set_option maxHeartbeats 4000000 in
theorem T_X4_fallen (e N : Nat)  (a1 : Int32) (a2 : Int32) (σ : Mem) (r : Int64) (τ : Mem) (Q : Pst) (h : F_X4_fallen N a1 a2 σ = some (r, τ)) (hQ : Q (some (.inr (.inl r))) τ) : WpD (e + 1) mX4_fallen [.inr (.inr (2, 0)), .inl a1, .inl a2] σ Q := by
  refine WpD.of (d := e + 0) (Nat.le_of_ble_eq_true rfl) (Nat.le_of_ble_eq_true rfl) ?_
  show Wp (WpD (e + 0)) hcX4_fallen Q (0, [some (.inr (.inr (2, 0))), some (.inl a1), some (.inl a2), none, none, none, none], []) σ
  unfold F_X4_fallen at h
  refine Wp.run (WpD.mono _) 3 (q := ((7, [some (.inr (.inr (2, 0))), some (.inl a1), some (.inl a2), some (.inr (.inl (1000000 : Int64))), none, some (.inl (1 : Int32)), none], []), σ)) rfl ?_
  exact Wp.jump (WpD.mono _) rfl ((T_X4_fallen_b7 e N  r τ Q hQ  N) a1 a2 (1000000 : Int64) (1 : Int32) σ h)

set_option maxRecDepth 100000 in
set_option maxHeartbeats 4000000 in
theorem T_X11_fall (e N : Nat)  (a1 : Int32) (a2 : Int32) (σ : Mem) (r : Int64) (τ : Mem) (Q : Pst) (h : F_X11_fall N a1 a2 σ = some (r, τ)) (hQ : Q (some (.inr (.inl r))) τ) : WpD (e + 2) mX11_fall [.inr (.inr (0, 0)), .inl a1, .inl a2] σ Q := by
  refine WpD.of (d := e + 1) (Nat.le_of_ble_eq_true rfl) (Nat.le_of_ble_eq_true rfl) ?_
  show Wp (WpD (e + 1)) hcX11_fall Q (0, [some (.inr (.inr (0, 0))), some (.inl a1), some (.inl a2)], []) σ
  unfold F_X11_fall at h
  refine Wp.run (WpD.mono _) 2 (q := ((3, [some (.inr (.inr (0, 0))), some (.inl a1), some (.inl a2)], [.inl (5 : Int32), .inl (0 : Int32), .inl a1]), σ)) rfl ?_
  obtain ⟨q1, hb, h⟩ := bind_some h
  refine Wp.call (WpD.mono _) rfl (T_X11_within (e + 0) N a1 (0 : Int32) (5 : Int32) σ _ _ _ hb ?_)
  show Wp (WpD (e + 1)) hcX11_fall Q (6, [some (.inr (.inr (0, 0))), some (.inl a1), some (.inl a2)], [.inl q1.1]) q1.2
  refine Wp.br (WpD.mono _) 0 (c := q1.1 = 0) (q1 := ((18, [some (.inr (.inr (0, 0))), some (.inl a1), some (.inl a2)], []), q1.2)) (q2 := ((9, [some (.inr (.inr (0, 0))), some (.inl a1), some (.inl a2)], []), q1.2)) rfl (fun hc => ?_) (fun hc => ?_)
  · have h := (if_pos hc).symm.trans h
    refine Wp.run (WpD.mono _) 0 (q := ((21, [none, none, none], [.inr (.inl (-4611686018427387904 : Int64))]), q1.2)) rfl ?_
    cases h
    exact Wp.ret (WpD.mono _) rfl hQ
  · have h := (if_neg hc).symm.trans h
    refine Wp.run (WpD.mono _) 2 (q := ((12, [some (.inr (.inr (0, 0))), some (.inl a1), some (.inl a2)], [.inl (5 : Int32), .inl (0 : Int32), .inl a2]), q1.2)) rfl ?_
    obtain ⟨q2, hb, h⟩ := bind_some h
    refine Wp.call (WpD.mono _) rfl (T_X11_within (e + 0) N a2 (0 : Int32) (5 : Int32) q1.2 _ _ _ hb ?_)
    show Wp (WpD (e + 1)) hcX11_fall Q (15, [some (.inr (.inr (0, 0))), some (.inl a1), some (.inl a2)], [.inl q2.1]) q2.2
    refine Wp.br (WpD.mono _) 0 (c := q2.1 = 0) (q1 := ((18, [some (.inr (.inr (0, 0))), some (.inl a1), some (.inl a2)], []), q2.2)) (q2 := ((22, [some (.inr (.inr (0, 0))), some (.inl a1), some (.inl a2)], []), q2.2)) rfl (fun hc => ?_) (fun hc => ?_)
    · have h := (if_pos hc).symm.trans h
      refine Wp.run (WpD.mono _) 0 (q := ((21, [none, none, none], [.inr (.inl (-4611686018427387904 : Int64))]), q2.2)) rfl ?_
      cases h
      exact Wp.ret (WpD.mono _) rfl hQ
    · have h := (if_neg hc).symm.trans h
      refine Wp.run (WpD.mono _) 3 (q := ((28, [some (.inr (.inr (0, 0))), some (.inl a1), some (.inl a2)], [.inl a2, .inl a1, .inr (.inr (2, 0))]), q2.2)) rfl ?_
      obtain ⟨q3, hb, h⟩ := bind_some h
      refine Wp.call (WpD.mono _) rfl (T_X4_fallen (e + 0) N a1 a2 q2.2 _ _ _ hb ?_)
      show Wp (WpD (e + 1)) hcX11_fall Q (31, [some (.inr (.inr (0, 0))), some (.inl a1), some (.inl a2)], [.inr (.inl q3.1)]) q3.2
      cases h
      exact Wp.ret (WpD.mono _) rfl hQ

set_option maxRecDepth 100000 in
set_option maxHeartbeats 4000000 in
theorem T_X6_bestBore_b8 (e N : Nat)   (r : Int32) (τ : Mem) (Q : Pst) (hQ : Q (some (.inl r)) τ) : ∀ n, ∀ (x1 : Int32) (x2 : Int32) (x3 : Int32) (x4 : Int64) (x6 : Int32) (σ : Mem), F_X6_bestBore_b8 N n x1 x2 x3 x4 x6 σ = some (r, τ) → Wp (WpD (e + 24)) hcX6_bestBore Q (8, [some (.inr (.inr (8, 0))), some (.inl x1), some (.inl x2), some (.inl x3), some (.inr (.inl x4)), none, some (.inl x6), none, none], []) σ := by
  intro n
  induction n with
  | zero => intro x1 x2 x3 x4 x6 σ h; cases h
  | succ n ih =>
    intro x1 x2 x3 x4 x6 σ h
    unfold F_X6_bestBore_b8 at h
    refine Wp.br (WpD.mono _) 2 (c := (5 : Int32) < x6) (q1 := ((60, [some (.inr (.inr (8, 0))), some (.inl x1), some (.inl x2), some (.inl x3), some (.inr (.inl x4)), none, some (.inl x6), none, none], []), σ)) (q2 := ((14, [some (.inr (.inr (8, 0))), some (.inl x1), some (.inl x2), some (.inl x3), some (.inr (.inl x4)), none, some (.inl x6), none, none], []), σ)) rfl (fun hc => ?_) (fun hc => ?_)
    · have h := (if_pos hc).symm.trans h
      refine Wp.run (WpD.mono _) 0 (q := ((61, [some (.inr (.inr (8, 0))), some (.inl x1), some (.inl x2), some (.inl x3), some (.inr (.inl x4)), none, some (.inl x6), none, none], [.inl x3]), σ)) rfl ?_
      cases h
      exact Wp.ret (WpD.mono _) rfl hQ
    · have h := (if_neg hc).symm.trans h
      refine Wp.run (WpD.mono _) 2 (q := ((18, [some (.inr (.inr (8, 0))), some (.inl x1), some (.inl x2), some (.inl x3), some (.inr (.inl x4)), none, some (.inl x6), none, none], [.inl x6, .inl x1, .inr (.inr (8, 0))]), σ)) rfl ?_
      obtain ⟨q1, hb, h⟩ := bind_some h
      refine Wp.call (WpD.mono _) rfl (T_X6_boreWorth (e + 0) N x1 x6 σ _ _ _ hb ?_)
      show Wp (WpD (e + 24)) hcX6_bestBore Q (21, [some (.inr (.inr (8, 0))), some (.inl x1), some (.inl x2), some (.inl x3), some (.inr (.inl x4)), none, some (.inl x6), none, none], [.inr (.inl q1.1)]) q1.2
      refine Wp.br (WpD.mono _) 10 (c := x6 = 0) (q1 := ((47, [some (.inr (.inr (8, 0))), some (.inl x1), some (.inl x2), some (.inl x3), some (.inr (.inl x4)), none, some (.inl x6), some (.inr (.inl (q1.1 - ((x6.toInt64 * (1000000 : Int64)) * x2.toInt64)))), none], []), q1.2)) (q2 := ((39, [some (.inr (.inr (8, 0))), some (.inl x1), some (.inl x2), some (.inl x3), some (.inr (.inl x4)), none, some (.inl x6), some (.inr (.inl (q1.1 - ((x6.toInt64 * (1000000 : Int64)) * x2.toInt64)))), none], []), q1.2)) rfl (fun hc => ?_) (fun hc => ?_)
      · have h := (if_pos hc).symm.trans h
        refine Wp.run (WpD.mono _) 5 (q := ((8, [some (.inr (.inr (8, 0))), some (.inl x1), some (.inl x2), some (.inl x6), some (.inr (.inl (q1.1 - ((x6.toInt64 * (1000000 : Int64)) * x2.toInt64)))), none, some (.inl (x6 + (1 : Int32))), none, none], []), q1.2)) rfl ?_
        exact Wp.jump (WpD.mono _) rfl (ih x1 x2 x6 (q1.1 - ((x6.toInt64 * (1000000 : Int64)) * x2.toInt64)) (x6 + (1 : Int32)) q1.2 h)
      · have h := (if_neg hc).symm.trans h
        refine Wp.br (WpD.mono _) 3 (c := (lg_cmp (q1.1 - ((x6.toInt64 * (1000000 : Int64)) * x2.toInt64)) x4) ≤ 0) (q1 := ((54, [some (.inr (.inr (8, 0))), some (.inl x1), some (.inl x2), some (.inl x3), some (.inr (.inl x4)), none, some (.inl x6), some (.inr (.inl (q1.1 - ((x6.toInt64 * (1000000 : Int64)) * x2.toInt64)))), none], []), q1.2)) (q2 := ((47, [some (.inr (.inr (8, 0))), some (.inl x1), some (.inl x2), some (.inl x3), some (.inr (.inl x4)), none, some (.inl x6), some (.inr (.inl (q1.1 - ((x6.toInt64 * (1000000 : Int64)) * x2.toInt64)))), none], []), q1.2)) rfl (fun hc => ?_) (fun hc => ?_)
        · have h := (if_pos hc).symm.trans h
          refine Wp.run (WpD.mono _) 1 (q := ((8, [some (.inr (.inr (8, 0))), some (.inl x1), some (.inl x2), some (.inl x3), some (.inr (.inl x4)), none, some (.inl (x6 + (1 : Int32))), none, none], []), q1.2)) rfl ?_
          exact Wp.jump (WpD.mono _) rfl (ih x1 x2 x3 x4 (x6 + (1 : Int32)) q1.2 h)
        · have h := (if_neg hc).symm.trans h
          refine Wp.run (WpD.mono _) 5 (q := ((8, [some (.inr (.inr (8, 0))), some (.inl x1), some (.inl x2), some (.inl x6), some (.inr (.inl (q1.1 - ((x6.toInt64 * (1000000 : Int64)) * x2.toInt64)))), none, some (.inl (x6 + (1 : Int32))), none, none], []), q1.2)) rfl ?_
          exact Wp.jump (WpD.mono _) rfl (ih x1 x2 x6 (q1.1 - ((x6.toInt64 * (1000000 : Int64)) * x2.toInt64)) (x6 + (1 : Int32)) q1.2 h)

set_option maxRecDepth 100000 in
set_option maxHeartbeats 4000000 in
theorem T_X6_bestBore (e N : Nat)  (a1 : Int32) (a2 : Int32) (σ : Mem) (r : Int32) (τ : Mem) (Q : Pst) (h : F_X6_bestBore N a1 a2 σ = some (r, τ)) (hQ : Q (some (.inl r)) τ) : WpD (e + 25) mX6_bestBore [.inr (.inr (8, 0)), .inl a1, .inl a2] σ Q := by
  refine WpD.of (d := e + 24) (Nat.le_of_ble_eq_true rfl) (Nat.le_of_ble_eq_true rfl) ?_
  show Wp (WpD (e + 24)) hcX6_bestBore Q (0, [some (.inr (.inr (8, 0))), some (.inl a1), some (.inl a2), none, none, none, none, none, none], []) σ
  unfold F_X6_bestBore at h
  refine Wp.run (WpD.mono _) 5 (q := ((8, [some (.inr (.inr (8, 0))), some (.inl a1), some (.inl a2), some (.inl (0 : Int32)), some (.inr (.inl (0 : Int64))), none, some (.inl (0 : Int32)), none, none], []), σ)) rfl ?_
  exact Wp.jump (WpD.mono _) rfl ((T_X6_bestBore_b8 e N  r τ Q hQ  N) a1 a2 (0 : Int32) (0 : Int64) (0 : Int32) σ h)

set_option maxRecDepth 100000 in
set_option maxHeartbeats 4000000 in
theorem T_X11_far (e N : Nat)  (a1 : Int32) (a2 : Int32) (σ : Mem) (r : Int32) (τ : Mem) (Q : Pst) (h : F_X11_far N a1 a2 σ = some (r, τ)) (hQ : Q (some (.inl r)) τ) : WpD (e + 26) mX11_far [.inr (.inr (0, 0)), .inl a1, .inl a2] σ Q := by
  refine WpD.of (d := e + 25) (Nat.le_of_ble_eq_true rfl) (Nat.le_of_ble_eq_true rfl) ?_
  show Wp (WpD (e + 25)) hcX11_far Q (0, [some (.inr (.inr (0, 0))), some (.inl a1), some (.inl a2), none], []) σ
  unfold F_X11_far at h
  refine Wp.run (WpD.mono _) 1 (q := ((2, [some (.inr (.inr (0, 0))), some (.inl a1), some (.inl a2), none], [.inl a1, .inr (.inr (0, 0))]), σ)) rfl ?_
  obtain ⟨q1, hb, h⟩ := bind_some h
  refine Wp.call (WpD.mono _) rfl (T_X11_isPlace (e + 23) N a1 σ _ _ _ hb ?_)
  show Wp (WpD (e + 25)) hcX11_far Q (5, [some (.inr (.inr (0, 0))), some (.inl a1), some (.inl a2), none], [.inl q1.1]) q1.2
  refine Wp.br (WpD.mono _) 0 (c := q1.1 = 0) (q1 := ((8, [some (.inr (.inr (0, 0))), some (.inl a1), some (.inl a2), none], []), q1.2)) (q2 := ((11, [some (.inr (.inr (0, 0))), some (.inl a1), some (.inl a2), none], []), q1.2)) rfl (fun hc => ?_) (fun hc => ?_)
  · have h := (if_pos hc).symm.trans h
    refine Wp.run (WpD.mono _) 0 (q := ((10, [some (.inr (.inr (0, 0))), some (.inl a1), some (.inl a2), none], [.inl (-5 : Int32)]), q1.2)) rfl ?_
    cases h
    exact Wp.ret (WpD.mono _) rfl hQ
  · have h := (if_neg hc).symm.trans h
    refine Wp.run (WpD.mono _) 2 (q := ((16, [some (.inr (.inr (0, 0))), some (.inl a1), some (.inl a2), none], [.inl (999 : Int32), .inl (0 : Int32), .inl a2]), q1.2)) rfl ?_
    obtain ⟨q2, hb, h⟩ := bind_some h
    refine Wp.call (WpD.mono _) rfl (T_X11_within (e + 24) N a2 (0 : Int32) (999 : Int32) q1.2 _ _ _ hb ?_)
    show Wp (WpD (e + 25)) hcX11_far Q (19, [some (.inr (.inr (0, 0))), some (.inl a1), some (.inl a2), none], [.inl q2.1]) q2.2
    refine Wp.br (WpD.mono _) 0 (c := q2.1 = 0) (q1 := ((22, [some (.inr (.inr (0, 0))), some (.inl a1), some (.inl a2), none], []), q2.2)) (q2 := ((25, [some (.inr (.inr (0, 0))), some (.inl a1), some (.inl a2), none], []), q2.2)) rfl (fun hc => ?_) (fun hc => ?_)
    · have h := (if_pos hc).symm.trans h
      refine Wp.run (WpD.mono _) 0 (q := ((24, [some (.inr (.inr (0, 0))), some (.inl a1), some (.inl a2), none], [.inl (-7 : Int32)]), q2.2)) rfl ?_
      cases h
      exact Wp.ret (WpD.mono _) rfl hQ
    · have h := (if_neg hc).symm.trans h
      refine Wp.run (WpD.mono _) 2 (q := ((30, [some (.inr (.inr (0, 0))), some (.inl a1), some (.inl a2), none], [.inl a1, .inr (.inr (8, 0))]), q2.2)) rfl ?_
      obtain ⟨q3, hb, h⟩ := bind_some h
      refine Wp.call (WpD.mono _) rfl (T_X6_openYard (e + 21) N a1 q2.2 _ _ _ hb ?_)
      show Wp (WpD (e + 25)) hcX11_far Q (33, [some (.inr (.inr (0, 0))), some (.inl a1), some (.inl a2), none], [.inl q3.1]) q3.2
      refine Wp.br (WpD.mono _) 2 (c := q3.1 = 0) (q1 := ((38, [some (.inr (.inr (0, 0))), some (.inl a1), some (.inl a2), some (.inl q3.1)], []), q3.2)) (q2 := ((43, [some (.inr (.inr (0, 0))), some (.inl a1), some (.inl a2), some (.inl q3.1)], []), q3.2)) rfl (fun hc => ?_) (fun hc => ?_)
      · have h := (if_pos hc).symm.trans h
        refine Wp.run (WpD.mono _) 1 (q := ((52, [some (.inr (.inr (0, 0))), some (.inl a1), some (.inl a2), some (.inl q3.1)], [.inl (-3 : Int32)]), q3.2)) rfl ?_
        cases h
        exact Wp.ret (WpD.mono _) rfl hQ
      · have h := (if_neg hc).symm.trans h
        refine Wp.run (WpD.mono _) 3 (q := ((49, [some (.inr (.inr (0, 0))), some (.inl a1), some (.inl a2), some (.inl q3.1)], [.inl a2, .inl q3.1, .inr (.inr (8, 0))]), q3.2)) rfl ?_
        obtain ⟨q4, hb, h⟩ := bind_some h
        refine Wp.call (WpD.mono _) rfl (T_X6_bestBore (e + 0) N q3.1 a2 q3.2 _ _ _ hb ?_)
        show Wp (WpD (e + 25)) hcX11_far Q (52, [some (.inr (.inr (0, 0))), some (.inl a1), some (.inl a2), some (.inl q3.1)], [.inl q4.1]) q4.2
        cases h
        exact Wp.ret (WpD.mono _) rfl hQ

set_option maxRecDepth 100000 in
set_option maxHeartbeats 4000000 in
theorem T_X1_settle (e N : Nat)  (a1 : Int32) (a2 : Int32) (σ : Mem) (r : Int32) (τ : Mem) (Q : Pst) (h : F_X1_settle N a1 a2 σ = some (r, τ)) (hQ : Q (some (.inl r)) τ) : WpD (e + 1) mX1_settle [.inr (.inr (7, 0)), .inl a1, .inl a2] σ Q := by
  refine WpD.of (d := e + 0) (Nat.le_of_ble_eq_true rfl) (Nat.le_of_ble_eq_true rfl) ?_
  show Wp (WpD (e + 0)) hcX1_settle Q (0, [some (.inr (.inr (7, 0))), some (.inl a1), some (.inl a2), none], []) σ
  unfold F_X1_settle at h
  refine Wp.br (WpD.mono _) 5 (c := (σ.1 7 2) < (6 : Int32)) (q1 := ((14, [some (.inr (.inr (7, 0))), some (.inl a1), some (.inl a2), some (.inl (σ.1 7 2))], []), σ)) (q2 := ((11, [some (.inr (.inr (7, 0))), some (.inl a1), some (.inl a2), some (.inl (σ.1 7 2))], []), σ)) rfl (fun hc => ?_) (fun hc => ?_)
  · have h := (if_pos hc).symm.trans h
    obtain ⟨hc, h⟩ := ite_nn h
    refine Wp.no (WpD.mono _) 4 (c := hwOut (σ.1 7 2) 6) (q := ((21, [some (.inr (.inr (7, 0))), some (.inl a1), some (.inl a2), some (.inl (σ.1 7 2))], []), (σ.1, σ.2.1, (hwU3 σ.2.2.1 20 0 ((σ.1 7 2)).toNatClampNeg a1), σ.2.2.2.1, σ.2.2.2.2))) rfl hc ?_
    obtain ⟨hc, h⟩ := ite_nn h
    refine Wp.no (WpD.mono _) 4 (c := hwOut (σ.1 7 2) 6) (q := ((28, [some (.inr (.inr (7, 0))), some (.inl a1), some (.inl a2), some (.inl (σ.1 7 2))], []), (σ.1, σ.2.1, (hwU3 (hwU3 σ.2.2.1 20 0 ((σ.1 7 2)).toNatClampNeg a1) 21 0 ((σ.1 7 2)).toNatClampNeg a2), σ.2.2.2.1, σ.2.2.2.2))) rfl hc ?_
    refine Wp.run (WpD.mono _) 5 (q := ((36, [some (.inr (.inr (7, 0))), some (.inl a1), some (.inl a2), some (.inl (σ.1 7 2))], [.inl (σ.1 7 2)]), ((hwU2 σ.1 7 2 ((σ.1 7 2) + (1 : Int32))), σ.2.1, (hwU3 (hwU3 σ.2.2.1 20 0 ((σ.1 7 2)).toNatClampNeg a1) 21 0 ((σ.1 7 2)).toNatClampNeg a2), σ.2.2.2.1, σ.2.2.2.2))) rfl ?_
    cases h
    exact Wp.ret (WpD.mono _) rfl hQ
  · have h := (if_neg hc).symm.trans h
    refine Wp.run (WpD.mono _) 0 (q := ((13, [some (.inr (.inr (7, 0))), some (.inl a1), some (.inl a2), some (.inl (σ.1 7 2))], [.inl (-4 : Int32)]), σ)) rfl ?_
    cases h
    exact Wp.ret (WpD.mono _) rfl hQ

set_option maxRecDepth 100000 in
set_option maxHeartbeats 4000000 in
theorem T_X11_farm (e N : Nat)  (a1 : Int32) (a2 : Int32) (σ : Mem) (r : Int32) (τ : Mem) (Q : Pst) (h : F_X11_farm N a1 a2 σ = some (r, τ)) (hQ : Q (some (.inl r)) τ) : WpD (e + 2) mX11_farm [.inr (.inr (0, 0)), .inl a1, .inl a2] σ Q := by
  refine WpD.of (d := e + 1) (Nat.le_of_ble_eq_true rfl) (Nat.le_of_ble_eq_true rfl) ?_
  show Wp (WpD (e + 1)) hcX11_farm Q (0, [some (.inr (.inr (0, 0))), some (.inl a1), some (.inl a2)], []) σ
  unfold F_X11_farm at h
  refine Wp.run (WpD.mono _) 2 (q := ((4, [some (.inr (.inr (0, 0))), some (.inl a1), some (.inl a2)], [.inl (99 : Int32), .inl (0 : Int32), .inl a1]), σ)) rfl ?_
  obtain ⟨q1, hb, h⟩ := bind_some h
  refine Wp.call (WpD.mono _) rfl (T_X11_within (e + 0) N a1 (0 : Int32) (99 : Int32) σ _ _ _ hb ?_)
  show Wp (WpD (e + 1)) hcX11_farm Q (7, [some (.inr (.inr (0, 0))), some (.inl a1), some (.inl a2)], [.inl q1.1]) q1.2
  refine Wp.br (WpD.mono _) 0 (c := q1.1 = 0) (q1 := ((20, [some (.inr (.inr (0, 0))), some (.inl a1), some (.inl a2)], []), q1.2)) (q2 := ((10, [some (.inr (.inr (0, 0))), some (.inl a1), some (.inl a2)], []), q1.2)) rfl (fun hc => ?_) (fun hc => ?_)
  · have h := (if_pos hc).symm.trans h
    refine Wp.run (WpD.mono _) 0 (q := ((22, [none, none, none], [.inl (-2 : Int32)]), q1.2)) rfl ?_
    cases h
    exact Wp.ret (WpD.mono _) rfl hQ
  · have h := (if_neg hc).symm.trans h
    refine Wp.run (WpD.mono _) 2 (q := ((14, [some (.inr (.inr (0, 0))), some (.inl a1), some (.inl a2)], [.inl (99 : Int32), .inl (1 : Int32), .inl a2]), q1.2)) rfl ?_
    obtain ⟨q2, hb, h⟩ := bind_some h
    refine Wp.call (WpD.mono _) rfl (T_X11_within (e + 0) N a2 (1 : Int32) (99 : Int32) q1.2 _ _ _ hb ?_)
    show Wp (WpD (e + 1)) hcX11_farm Q (17, [some (.inr (.inr (0, 0))), some (.inl a1), some (.inl a2)], [.inl q2.1]) q2.2
    refine Wp.br (WpD.mono _) 0 (c := q2.1 = 0) (q1 := ((20, [some (.inr (.inr (0, 0))), some (.inl a1), some (.inl a2)], []), q2.2)) (q2 := ((23, [some (.inr (.inr (0, 0))), some (.inl a1), some (.inl a2)], []), q2.2)) rfl (fun hc => ?_) (fun hc => ?_)
    · have h := (if_pos hc).symm.trans h
      refine Wp.run (WpD.mono _) 0 (q := ((22, [none, none, none], [.inl (-2 : Int32)]), q2.2)) rfl ?_
      cases h
      exact Wp.ret (WpD.mono _) rfl hQ
    · have h := (if_neg hc).symm.trans h
      refine Wp.run (WpD.mono _) 3 (q := ((29, [some (.inr (.inr (0, 0))), some (.inl a1), some (.inl a2)], [.inl a2, .inl a1, .inr (.inr (7, 0))]), q2.2)) rfl ?_
      obtain ⟨q3, hb, h⟩ := bind_some h
      refine Wp.call (WpD.mono _) rfl (T_X1_settle (e + 0) N a1 a2 q2.2 _ _ _ hb ?_)
      show Wp (WpD (e + 1)) hcX11_farm Q (32, [some (.inr (.inr (0, 0))), some (.inl a1), some (.inl a2)], [.inl q3.1]) q3.2
      cases h
      exact Wp.ret (WpD.mono _) rfl hQ

set_option maxRecDepth 100000 in
set_option maxHeartbeats 4000000 in
theorem T_X8_record_b20 (e N : Nat)   (r : Int32) (τ : Mem) (Q : Pst) (hQ : Q (some (.inl r)) τ) : ∀ n, ∀ (x1 : Int64) (x4 : Int32) (σ : Mem), F_X8_record_b20 N n x1 x4 σ = some (r, τ) → Wp (WpD (e + 0)) hcX8_record Q (20, [some (.inr (.inr (3, 0))), some (.inr (.inl x1)), none, none, some (.inl x4)], []) σ := by
  intro n
  induction n with
  | zero => intro x1 x4 σ h; cases h
  | succ n ih =>
    intro x1 x4 σ h
    unfold F_X8_record_b20 at h
    refine Wp.br (WpD.mono _) 1 (c := x4 < 0) (q1 := ((62, [some (.inr (.inr (3, 0))), some (.inr (.inl x1)), none, none, some (.inl x4)], []), σ)) (q2 := ((25, [some (.inr (.inr (3, 0))), some (.inr (.inl x1)), none, none, some (.inl x4)], []), σ)) rfl (fun hc => ?_) (fun hc => ?_)
    · have h := (if_pos hc).symm.trans h
      refine Wp.run (WpD.mono _) 1 (q := ((66, [some (.inr (.inr (3, 0))), some (.inr (.inl x1)), none, none, some (.inl x4)], [.inl (σ.1 3 3)]), σ)) rfl ?_
      cases h
      exact Wp.ret (WpD.mono _) rfl hQ
    · have h := (if_neg hc).symm.trans h
      obtain ⟨hc, h⟩ := ite_nn h
      refine Wp.no (WpD.mono _) 12 (c := hwOut (σ.1 3 3) 160) (q := ((46, [some (.inr (.inr (3, 0))), some (.inr (.inl x1)), none, none, some (.inl x4)], []), (σ.1, σ.2.1, (hwU3 σ.2.2.1 62 0 ((σ.1 3 3)).toNatClampNeg ((x1 >>> ((((8 : Int32) * x4)).toInt64 &&& 63)).toInt32 &&& (255 : Int32))), σ.2.2.2.1, σ.2.2.2.2))) rfl hc ?_
      refine Wp.run (WpD.mono _) 7 (q := ((20, [some (.inr (.inr (3, 0))), some (.inr (.inl x1)), none, none, some (.inl (x4 + (-1 : Int32)))], []), ((hwU2 σ.1 3 3 ((σ.1 3 3) + (1 : Int32))), σ.2.1, (hwU3 σ.2.2.1 62 0 ((σ.1 3 3)).toNatClampNeg ((x1 >>> ((((8 : Int32) * x4)).toInt64 &&& 63)).toInt32 &&& (255 : Int32))), σ.2.2.2.1, σ.2.2.2.2))) rfl ?_
      exact Wp.jump (WpD.mono _) rfl (ih x1 (x4 + (-1 : Int32)) ((hwU2 σ.1 3 3 ((σ.1 3 3) + (1 : Int32))), σ.2.1, (hwU3 σ.2.2.1 62 0 ((σ.1 3 3)).toNatClampNeg ((x1 >>> ((((8 : Int32) * x4)).toInt64 &&& 63)).toInt32 &&& (255 : Int32))), σ.2.2.2.1, σ.2.2.2.2) h)

set_option maxRecDepth 100000 in
set_option maxHeartbeats 4000000 in
theorem T_X8_record (e N : Nat)  (a1 : Int64) (a2 : Int32) (σ : Mem) (r : Int32) (τ : Mem) (Q : Pst) (h : F_X8_record N a1 a2 σ = some (r, τ)) (hQ : Q (some (.inl r)) τ) : WpD (e + 1) mX8_record [.inr (.inr (3, 0)), .inr (.inl a1), .inl a2] σ Q := by
  refine WpD.of (d := e + 0) (Nat.le_of_ble_eq_true rfl) (Nat.le_of_ble_eq_true rfl) ?_
  show Wp (WpD (e + 0)) hcX8_record Q (0, [some (.inr (.inr (3, 0))), some (.inr (.inl a1)), none, some (.inl a2), none], []) σ
  unfold F_X8_record at h
  refine Wp.br (WpD.mono _) 5 (c := ((σ.1 3 3) + a2) ≤ (160 : Int32)) (q1 := ((15, [some (.inr (.inr (3, 0))), some (.inr (.inl a1)), none, some (.inl a2), none], []), σ)) (q2 := ((12, [some (.inr (.inr (3, 0))), some (.inr (.inl a1)), none, some (.inl a2), none], []), σ)) rfl (fun hc => ?_) (fun hc => ?_)
  · have h := (if_pos hc).symm.trans h
    refine Wp.run (WpD.mono _) 3 (q := ((20, [some (.inr (.inr (3, 0))), some (.inr (.inl a1)), none, some (.inl a2), some (.inl (a2 - (1 : Int32)))], []), σ)) rfl ?_
    exact Wp.jump (WpD.mono _) rfl ((T_X8_record_b20 e N  r τ Q hQ  N) a1 (a2 - (1 : Int32)) σ h)
  · have h := (if_neg hc).symm.trans h
    refine Wp.run (WpD.mono _) 0 (q := ((14, [some (.inr (.inr (3, 0))), some (.inr (.inl a1)), none, some (.inl a2), none], [.inl (-4 : Int32)]), σ)) rfl ?_
    cases h
    exact Wp.ret (WpD.mono _) rfl hQ

set_option maxRecDepth 100000 in
set_option maxHeartbeats 4000000 in
theorem T_X11_feed (e N : Nat)  (a1 : Int64) (a2 : Int32) (σ : Mem) (r : Int32) (τ : Mem) (Q : Pst) (h : F_X11_feed N a1 a2 σ = some (r, τ)) (hQ : Q (some (.inl r)) τ) : WpD (e + 2) mX11_feed [.inr (.inr (0, 0)), .inr (.inl a1), .inl a2] σ Q := by
  refine WpD.of (d := e + 1) (Nat.le_of_ble_eq_true rfl) (Nat.le_of_ble_eq_true rfl) ?_
  show Wp (WpD (e + 1)) hcX11_feed Q (0, [some (.inr (.inr (0, 0))), some (.inr (.inl a1)), none, some (.inl a2)], []) σ
  unfold F_X11_feed at h
  refine Wp.run (WpD.mono _) 2 (q := ((4, [some (.inr (.inr (0, 0))), some (.inr (.inl a1)), none, some (.inl a2)], [.inl (8 : Int32), .inl (1 : Int32), .inl a2]), σ)) rfl ?_
  obtain ⟨q1, hb, h⟩ := bind_some h
  refine Wp.call (WpD.mono _) rfl (T_X11_within (e + 0) N a2 (1 : Int32) (8 : Int32) σ _ _ _ hb ?_)
  show Wp (WpD (e + 1)) hcX11_feed Q (7, [some (.inr (.inr (0, 0))), some (.inr (.inl a1)), none, some (.inl a2)], [.inl q1.1]) q1.2
  refine Wp.br (WpD.mono _) 0 (c := q1.1 = 0) (q1 := ((10, [some (.inr (.inr (0, 0))), some (.inr (.inl a1)), none, some (.inl a2)], []), q1.2)) (q2 := ((13, [some (.inr (.inr (0, 0))), some (.inr (.inl a1)), none, some (.inl a2)], []), q1.2)) rfl (fun hc => ?_) (fun hc => ?_)
  · have h := (if_pos hc).symm.trans h
    refine Wp.run (WpD.mono _) 0 (q := ((12, [some (.inr (.inr (0, 0))), some (.inr (.inl a1)), none, some (.inl a2)], [.inl (-2 : Int32)]), q1.2)) rfl ?_
    cases h
    exact Wp.ret (WpD.mono _) rfl hQ
  · have h := (if_neg hc).symm.trans h
    refine Wp.run (WpD.mono _) 4 (q := ((22, [some (.inr (.inr (0, 0))), some (.inr (.inl a1)), none, some (.inl a2)], [.inl a2, .inr (.inl a1), .inr (.inr (3, 0))]), q1.2)) rfl ?_
    obtain ⟨q2, hb, h⟩ := bind_some h
    refine Wp.call (WpD.mono _) rfl (T_X8_record (e + 0) N a1 a2 q1.2 _ _ _ hb ?_)
    show Wp (WpD (e + 1)) hcX11_feed Q (25, [some (.inr (.inr (0, 0))), some (.inr (.inl a1)), none, some (.inl a2)], [.inl q2.1]) q2.2
    cases h
    exact Wp.ret (WpD.mono _) rfl hQ

set_option maxRecDepth 100000 in
set_option maxHeartbeats 4000000 in
theorem T_X11_fill (e N : Nat)  (a1 : Int32) (σ : Mem) (r : Int32) (τ : Mem) (Q : Pst) (h : F_X11_fill N a1 σ = some (r, τ)) (hQ : Q (some (.inl r)) τ) : WpD (e + 3) mX11_fill [.inr (.inr (0, 0)), .inl a1] σ Q := by
  refine WpD.of (d := e + 2) (Nat.le_of_ble_eq_true rfl) (Nat.le_of_ble_eq_true rfl) ?_
  show Wp (WpD (e + 2)) hcX11_fill Q (0, [some (.inr (.inr (0, 0))), some (.inl a1), none], []) σ
  unfold F_X11_fill at h
  refine Wp.run (WpD.mono _) 1 (q := ((2, [some (.inr (.inr (0, 0))), some (.inl a1), none], [.inl a1, .inr (.inr (0, 0))]), σ)) rfl ?_
  obtain ⟨q1, hb, h⟩ := bind_some h
  refine Wp.call (WpD.mono _) rfl (T_X11_isPlace (e + 0) N a1 σ _ _ _ hb ?_)
  show Wp (WpD (e + 2)) hcX11_fill Q (5, [some (.inr (.inr (0, 0))), some (.inl a1), none], [.inl q1.1]) q1.2
  refine Wp.br (WpD.mono _) 0 (c := q1.1 = 0) (q1 := ((8, [some (.inr (.inr (0, 0))), some (.inl a1), none], []), q1.2)) (q2 := ((10, [some (.inr (.inr (0, 0))), some (.inl a1), none], []), q1.2)) rfl (fun hc => ?_) (fun hc => ?_)
  · have h := (if_pos hc).symm.trans h
    refine Wp.run (WpD.mono _) 0 (q := ((9, [some (.inr (.inr (0, 0))), some (.inl a1), none], [.inl (-1 : Int32)]), q1.2)) rfl ?_
    cases h
    exact Wp.ret (WpD.mono _) rfl hQ
  · have h := (if_neg hc).symm.trans h
    obtain ⟨hc, h⟩ := ite_nn h
    refine Wp.no (WpD.mono _) 4 (c := hwOut a1 4) (q := ((19, [some (.inr (.inr (0, 0))), some (.inl a1), none], [.inl (q1.2.2.2.1 58 0 (a1).toNatClampNeg)]), q1.2)) rfl hc ?_
    obtain ⟨hc, h⟩ := ite_nn h
    refine Wp.no (WpD.mono _) 6 (c := hwOut a1 4) (q := ((30, [some (.inr (.inr (0, 0))), some (.inl a1), some (.inl (q1.2.2.2.1 58 0 (a1).toNatClampNeg))], []), (q1.2.1, q1.2.2.1, (hwU3 q1.2.2.2.1 58 0 (a1).toNatClampNeg (0 : Int32)), q1.2.2.2.2.1, q1.2.2.2.2.2))) rfl hc ?_
    obtain ⟨hc, h⟩ := ite_nn h
    refine Wp.no (WpD.mono _) 5 (c := hwOut a1 4) (q := ((40, [some (.inr (.inr (0, 0))), some (.inl a1), some (.inl (q1.2.2.2.1 58 0 (a1).toNatClampNeg))], []), (q1.2.1, q1.2.2.1, (hwU3 (hwU3 q1.2.2.2.1 58 0 (a1).toNatClampNeg (0 : Int32)) 59 0 (a1).toNatClampNeg (0 : Int32)), q1.2.2.2.2.1, q1.2.2.2.2.2))) rfl hc ?_
    refine Wp.run (WpD.mono _) 0 (q := ((41, [some (.inr (.inr (0, 0))), some (.inl a1), some (.inl (q1.2.2.2.1 58 0 (a1).toNatClampNeg))], [.inl (q1.2.2.2.1 58 0 (a1).toNatClampNeg)]), (q1.2.1, q1.2.2.1, (hwU3 (hwU3 q1.2.2.2.1 58 0 (a1).toNatClampNeg (0 : Int32)) 59 0 (a1).toNatClampNeg (0 : Int32)), q1.2.2.2.2.1, q1.2.2.2.2.2))) rfl ?_
    cases h
    exact Wp.ret (WpD.mono _) rfl hQ

set_option maxRecDepth 100000 in
set_option maxHeartbeats 4000000 in
theorem T_X6_dryWith_t52_b73 (e N : Nat)  (k17 : Int32 → Nat → Int64 → Int32 → Mem → Option (Int64 × Mem)) (r : Int64) (τ : Mem) (Q : Pst) (hQ : Q (some (.inr (.inl r))) τ) (hk17 : ∀ (x3 : Int32) (x4 : Nat) (x5 : Int64) (x7 : Int32) (σ : Mem), k17 x3 x4 x5 x7 σ = some (r, τ) → Wp (WpD (e + 0)) hcX6_dryWith Q (17, [some (.inr (.inr (8, 0))), some (.inr (.inr (52, 0))), none, some (.inl x3), some (.inr (.inr (44, x4))), some (.inr (.inl x5)), none, some (.inl x7)], []) σ) : ∀ (x3 : Int32) (x4 : Nat) (x5 : Int64) (x7 : Int32) (s0 : Int64) (s1 : Int32) (σ : Mem), F_X6_dryWith_t52_b73 N k17 x3 x4 x5 x7 s0 s1 σ = some (r, τ) → Wp (WpD (e + 0)) hcX6_dryWith Q (73, [some (.inr (.inr (8, 0))), some (.inr (.inr (52, 0))), none, some (.inl x3), some (.inr (.inr (44, x4))), some (.inr (.inl x5)), none, some (.inl x7)], [.inr (.inl s0), .inl s1, .inr (.inr (51, 0))]) σ := by
  intro x3 x4 x5 x7 s0 s1 σ h
  unfold F_X6_dryWith_t52_b73 at h
  obtain ⟨hc, h⟩ := ite_nn h
  refine Wp.no (WpD.mono _) 0 (c := hwOut s1 5) (q := ((74, [some (.inr (.inr (8, 0))), some (.inr (.inr (52, 0))), none, some (.inl x3), some (.inr (.inr (44, x4))), some (.inr (.inl x5)), none, some (.inl x7)], []), (σ.1, σ.2.1, σ.2.2.1, (hwU3 σ.2.2.2.1 51 0 (s1).toNatClampNeg s0), σ.2.2.2.2))) rfl hc ?_
  obtain ⟨hc, h⟩ := ite_nn h
  refine Wp.no (WpD.mono _) 4 (c := hwOut x7 5) (q := ((83, [some (.inr (.inr (8, 0))), some (.inr (.inr (52, 0))), none, some (.inl x3), some (.inr (.inr (44, x4))), some (.inr (.inl x5)), none, some (.inl x7)], [.inr (.inl ((hwU3 σ.2.2.2.1 51 0 (s1).toNatClampNeg s0) 51 0 (x7).toNatClampNeg)), .inr (.inl x5)]), (σ.1, σ.2.1, σ.2.2.1, (hwU3 σ.2.2.2.1 51 0 (s1).toNatClampNeg s0), σ.2.2.2.2))) rfl hc ?_
  refine Wp.run (WpD.mono _) 3 (q := ((17, [some (.inr (.inr (8, 0))), some (.inr (.inr (52, 0))), none, some (.inl x3), some (.inr (.inr (44, x4))), some (.inr (.inl (x5 + ((hwU3 σ.2.2.2.1 51 0 (s1).toNatClampNeg s0) 51 0 (x7).toNatClampNeg)))), none, some (.inl (x7 + (1 : Int32)))], []), (σ.1, σ.2.1, σ.2.2.1, (hwU3 σ.2.2.2.1 51 0 (s1).toNatClampNeg s0), σ.2.2.2.2))) rfl ?_
  exact Wp.jump (WpD.mono _) rfl (hk17 x3 x4 (x5 + ((hwU3 σ.2.2.2.1 51 0 (s1).toNatClampNeg s0) 51 0 (x7).toNatClampNeg)) (x7 + (1 : Int32)) (σ.1, σ.2.1, σ.2.2.1, (hwU3 σ.2.2.2.1 51 0 (s1).toNatClampNeg s0), σ.2.2.2.2) h)

set_option maxRecDepth 100000 in
set_option maxHeartbeats 4000000 in
theorem T_X6_dryWith_t52_b104 (e N : Nat)   (r : Int64) (τ : Mem) (Q : Pst) (hQ : Q (some (.inr (.inl r))) τ) : ∀ n, ∀ (x5 : Int64) (x7 : Int32) (σ : Mem), F_X6_dryWith_t52_b104 N n x5 x7 σ = some (r, τ) → Wp (WpD (e + 0)) hcX6_dryWith Q (104, [some (.inr (.inr (8, 0))), none, none, none, none, some (.inr (.inl x5)), none, some (.inl x7)], []) σ := by
  intro n
  induction n with
  | zero => intro x5 x7 σ h; cases h
  | succ n ih =>
    intro x5 x7 σ h
    unfold F_X6_dryWith_t52_b104 at h
    refine Wp.br (WpD.mono _) 4 (c := (σ.1 1 6) ≤ x7) (q1 := ((143, [some (.inr (.inr (8, 0))), none, none, none, none, some (.inr (.inl x5)), none, some (.inl x7)], []), σ)) (q2 := ((116, [some (.inr (.inr (8, 0))), none, none, none, none, some (.inr (.inl x5)), none, some (.inl x7)], []), σ)) rfl (fun hc => ?_) (fun hc => ?_)
    · have h := (if_pos hc).symm.trans h
      refine Wp.run (WpD.mono _) 0 (q := ((145, [some (.inr (.inr (8, 0))), none, none, none, none, some (.inr (.inl x5)), none, some (.inl x7)], [.inr (.inl x5)]), σ)) rfl ?_
      cases h
      exact Wp.ret (WpD.mono _) rfl hQ
    · have h := (if_neg hc).symm.trans h
      obtain ⟨hc, h⟩ := ite_nn h
      refine Wp.no (WpD.mono _) 6 (c := hwOut x7 5) (q := ((129, [some (.inr (.inr (8, 0))), none, none, none, none, some (.inr (.inl x5)), none, some (.inl x7)], [.inr (.inl (σ.2.2.2.1 51 0 (x7).toNatClampNeg)), .inl x7, .inr (.inr (51, 0))]), σ)) rfl hc ?_
      obtain ⟨hc, h⟩ := ite_nn h
      refine Wp.no (WpD.mono _) 3 (c := x5 = 0) (q := ((136, [some (.inr (.inr (8, 0))), none, none, none, none, some (.inr (.inl x5)), none, some (.inl x7)], [.inr (.inl (((σ.2.2.2.1 51 0 (x7).toNatClampNeg) * (1000000 : Int64)) / x5)), .inl x7, .inr (.inr (51, 0))]), σ)) rfl hc ?_
      obtain ⟨hc, h⟩ := ite_nn h
      refine Wp.no (WpD.mono _) 0 (c := hwOut x7 5) (q := ((137, [some (.inr (.inr (8, 0))), none, none, none, none, some (.inr (.inl x5)), none, some (.inl x7)], []), (σ.1, σ.2.1, σ.2.2.1, (hwU3 σ.2.2.2.1 51 0 (x7).toNatClampNeg (((σ.2.2.2.1 51 0 (x7).toNatClampNeg) * (1000000 : Int64)) / x5)), σ.2.2.2.2))) rfl hc ?_
      refine Wp.run (WpD.mono _) 1 (q := ((104, [some (.inr (.inr (8, 0))), none, none, none, none, some (.inr (.inl x5)), none, some (.inl (x7 + (1 : Int32)))], []), (σ.1, σ.2.1, σ.2.2.1, (hwU3 σ.2.2.2.1 51 0 (x7).toNatClampNeg (((σ.2.2.2.1 51 0 (x7).toNatClampNeg) * (1000000 : Int64)) / x5)), σ.2.2.2.2))) rfl ?_
      exact Wp.jump (WpD.mono _) rfl (ih x5 (x7 + (1 : Int32)) (σ.1, σ.2.1, σ.2.2.1, (hwU3 σ.2.2.2.1 51 0 (x7).toNatClampNeg (((σ.2.2.2.1 51 0 (x7).toNatClampNeg) * (1000000 : Int64)) / x5)), σ.2.2.2.2) h)

set_option maxRecDepth 100000 in
set_option maxHeartbeats 4000000 in
theorem T_X6_dryWith_t52_b17 (e N : Nat)   (r : Int64) (τ : Mem) (Q : Pst) (hQ : Q (some (.inr (.inl r))) τ) : ∀ n, ∀ (x3 : Int32) (x4 : Nat) (x5 : Int64) (x7 : Int32) (σ : Mem), F_X6_dryWith_t52_b17 N n x3 x4 x5 x7 σ = some (r, τ) → Wp (WpD (e + 0)) hcX6_dryWith Q (17, [some (.inr (.inr (8, 0))), some (.inr (.inr (52, 0))), none, some (.inl x3), some (.inr (.inr (44, x4))), some (.inr (.inl x5)), none, some (.inl x7)], []) σ := by
  intro n
  induction n with
  | zero => intro x3 x4 x5 x7 σ h; cases h
  | succ n ih =>
    intro x3 x4 x5 x7 σ h
    unfold F_X6_dryWith_t52_b17 at h
    refine Wp.br (WpD.mono _) 4 (c := (σ.1 1 6) ≤ x7) (q1 := ((92, [some (.inr (.inr (8, 0))), some (.inr (.inr (52, 0))), none, some (.inl x3), some (.inr (.inr (44, x4))), some (.inr (.inl x5)), none, some (.inl x7)], []), σ)) (q2 := ((29, [some (.inr (.inr (8, 0))), some (.inr (.inr (52, 0))), none, some (.inl x3), some (.inr (.inr (44, x4))), some (.inr (.inl x5)), none, some (.inl x7)], []), σ)) rfl (fun hc => ?_) (fun hc => ?_)
    · have h := (if_pos hc).symm.trans h
      refine Wp.br (WpD.mono _) 3 (c := 0 < (lg_cmp x5 (0 : Int64))) (q1 := ((101, [some (.inr (.inr (8, 0))), some (.inr (.inr (52, 0))), none, some (.inl x3), some (.inr (.inr (44, x4))), some (.inr (.inl x5)), none, some (.inl x7)], []), σ)) (q2 := ((99, [some (.inr (.inr (8, 0))), some (.inr (.inr (52, 0))), none, some (.inl x3), some (.inr (.inr (44, x4))), some (.inr (.inl x5)), none, some (.inl x7)], []), σ)) rfl (fun hc => ?_) (fun hc => ?_)
      · have h := (if_pos hc).symm.trans h
        refine Wp.run (WpD.mono _) 1 (q := ((104, [some (.inr (.inr (8, 0))), some (.inr (.inr (52, 0))), none, some (.inl x3), some (.inr (.inr (44, x4))), some (.inr (.inl x5)), none, some (.inl (0 : Int32))], []), σ)) rfl ?_
        exact Wp.jump (WpD.mono _) rfl ((T_X6_dryWith_t52_b104 e N  r τ Q hQ  N) x5 (0 : Int32) σ h)
      · have h := (if_neg hc).symm.trans h
        refine Wp.run (WpD.mono _) 0 (q := ((100, [some (.inr (.inr (8, 0))), some (.inr (.inr (52, 0))), none, some (.inl x3), some (.inr (.inr (44, x4))), some (.inr (.inl x5)), none, some (.inl x7)], [.inr (.inl (0 : Int64))]), σ)) rfl ?_
        cases h
        exact Wp.ret (WpD.mono _) rfl hQ
    · have h := (if_neg hc).symm.trans h
      obtain ⟨hc, h⟩ := ite_nn h
      refine Wp.no (WpD.mono _) 7 (c := hwOut x7 5) (q := ((45, [some (.inr (.inr (8, 0))), some (.inr (.inr (52, 0))), none, some (.inl x3), some (.inr (.inr (44, x4))), some (.inr (.inl x5)), none, some (.inl x7)], [.inl (σ.2.2.1 24 0 (x7).toNatClampNeg), .inl x7, .inr (.inr (51, 0))]), σ)) rfl hc ?_
      refine Wp.br (WpD.mono _) 1 (c := (σ.2.2.1 24 0 (x7).toNatClampNeg) = x3) (q1 := ((49, [some (.inr (.inr (8, 0))), some (.inr (.inr (52, 0))), none, some (.inl x3), some (.inr (.inr (44, x4))), some (.inr (.inl x5)), none, some (.inl x7)], [.inl x7, .inr (.inr (51, 0))]), σ)) (q2 := ((72, [some (.inr (.inr (8, 0))), some (.inr (.inr (52, 0))), none, some (.inl x3), some (.inr (.inr (44, x4))), some (.inr (.inl x5)), none, some (.inl x7)], [.inl x7, .inr (.inr (51, 0))]), σ)) rfl (fun hc => ?_) (fun hc => ?_)
      · have h := (if_pos hc).symm.trans h
        obtain ⟨hc, h⟩ := ite_nn h
        refine Wp.no (WpD.mono _) 2 (c := hwOut x7 5) (q := ((53, [some (.inr (.inr (8, 0))), some (.inr (.inr (52, 0))), none, some (.inl x3), some (.inr (.inr (44, x4))), some (.inr (.inl x5)), none, some (.inl x7)], [.inr (.inl (σ.2.2.2.1 52 0 (x7).toNatClampNeg)), .inl x7, .inr (.inr (51, 0))]), σ)) rfl hc ?_
        obtain ⟨hc, h⟩ := ite_nn h
        refine Wp.no (WpD.mono _) 2 (c := hwOut x7 5) (q := ((57, [some (.inr (.inr (8, 0))), some (.inr (.inr (52, 0))), none, some (.inl x3), some (.inr (.inr (44, x4))), some (.inr (.inl x5)), none, some (.inl x7)], [.inr (.inl (σ.2.2.2.1 52 0 (x7).toNatClampNeg)), .inr (.inl (σ.2.2.2.1 52 0 (x7).toNatClampNeg)), .inl x7, .inr (.inr (51, 0))]), σ)) rfl hc ?_
        obtain ⟨hc, h⟩ := ite_nn h
        refine Wp.no (WpD.mono _) 2 (c := hwOut x7 5) (q := ((62, [some (.inr (.inr (8, 0))), some (.inr (.inr (52, 0))), none, some (.inl x3), some (.inr (.inr (44, x4))), some (.inr (.inl x5)), none, some (.inl x7)], [.inl (σ.2.2.1 44 x4 (x7).toNatClampNeg), .inr (.inl (σ.2.2.2.1 52 0 (x7).toNatClampNeg)), .inr (.inl (σ.2.2.2.1 52 0 (x7).toNatClampNeg)), .inl x7, .inr (.inr (51, 0))]), σ)) rfl hc ?_
        refine Wp.run (WpD.mono _) 5 (q := ((73, [some (.inr (.inr (8, 0))), some (.inr (.inr (52, 0))), none, some (.inl x3), some (.inr (.inr (44, x4))), some (.inr (.inl x5)), none, some (.inl x7)], [.inr (.inl ((σ.2.2.2.1 52 0 (x7).toNatClampNeg) - (((σ.2.2.2.1 52 0 (x7).toNatClampNeg) * (σ.2.2.1 44 x4 (x7).toNatClampNeg).toInt64) / (100 : Int64)))), .inl x7, .inr (.inr (51, 0))]), σ)) rfl ?_
        exact Wp.jump (WpD.mono _) rfl ((T_X6_dryWith_t52_b73 e N (F_X6_dryWith_t52_b17 N n) r τ Q hQ ih) x3 x4 x5 x7 ((σ.2.2.2.1 52 0 (x7).toNatClampNeg) - (((σ.2.2.2.1 52 0 (x7).toNatClampNeg) * (σ.2.2.1 44 x4 (x7).toNatClampNeg).toInt64) / (100 : Int64))) x7 σ h)
      · have h := (if_neg hc).symm.trans h
        refine Wp.run (WpD.mono _) 0 (q := ((73, [some (.inr (.inr (8, 0))), some (.inr (.inr (52, 0))), none, some (.inl x3), some (.inr (.inr (44, x4))), some (.inr (.inl x5)), none, some (.inl x7)], [.inr (.inl (0 : Int64)), .inl x7, .inr (.inr (51, 0))]), σ)) rfl ?_
        exact Wp.jump (WpD.mono _) rfl ((T_X6_dryWith_t52_b73 e N (F_X6_dryWith_t52_b17 N n) r τ Q hQ ih) x3 x4 x5 x7 (0 : Int64) x7 σ h)

set_option maxRecDepth 100000 in
set_option maxHeartbeats 4000000 in
theorem T_X6_dryWith_t52 (e N : Nat)  (a2 : Int32) (a3 : Int32) (σ : Mem) (r : Int64) (τ : Mem) (Q : Pst) (h : F_X6_dryWith_t52 N a2 a3 σ = some (r, τ)) (hQ : Q (some (.inr (.inl r))) τ) : WpD (e + 1) mX6_dryWith [.inr (.inr (8, 0)), .inr (.inr (52, 0)), .inl a2, .inl a3] σ Q := by
  refine WpD.of (d := e + 0) (Nat.le_of_ble_eq_true rfl) (Nat.le_of_ble_eq_true rfl) ?_
  show Wp (WpD (e + 0)) hcX6_dryWith Q (0, [some (.inr (.inr (8, 0))), some (.inr (.inr (52, 0))), some (.inl a2), some (.inl a3), none, none, none, none], []) σ
  unfold F_X6_dryWith_t52 at h
  obtain ⟨hc, h⟩ := ite_nn h
  refine Wp.no (WpD.mono _) 4 (c := hwOut a2 6) (q := ((9, [some (.inr (.inr (8, 0))), some (.inr (.inr (52, 0))), some (.inl a2), some (.inl a3), none, none, none, none], [.inr (.inr (44, (a2).toNatClampNeg))]), σ)) rfl hc ?_
  refine Wp.run (WpD.mono _) 4 (q := ((17, [some (.inr (.inr (8, 0))), some (.inr (.inr (52, 0))), some (.inl a2), some (.inl a3), some (.inr (.inr (44, (a2).toNatClampNeg))), some (.inr (.inl (0 : Int64))), none, some (.inl (0 : Int32))], []), σ)) rfl ?_
  exact Wp.jump (WpD.mono _) rfl ((T_X6_dryWith_t52_b17 e N  r τ Q hQ  N) a3 (a2).toNatClampNeg (0 : Int64) (0 : Int32) σ h)

set_option maxRecDepth 100000 in
set_option maxHeartbeats 4000000 in
theorem T_X6_mix_b2 (e N : Nat)   (r : Unit) (τ : Mem) (Q : Pst) (hQ : Q (none) τ) : ∀ n, ∀ (x1 : Int32) (x2 : Int32) (σ : Mem), F_X6_mix_b2 N n x1 x2 σ = some (r, τ) → Wp (WpD (e + 0)) hcX6_mix Q (2, [some (.inr (.inr (8, 0))), some (.inl x1), some (.inl x2)], []) σ := by
  intro n
  induction n with
  | zero => intro x1 x2 σ h; cases h
  | succ n ih =>
    intro x1 x2 σ h
    unfold F_X6_mix_b2 at h
    refine Wp.br (WpD.mono _) 4 (c := (σ.1 1 6) ≤ x2) (q1 := ((53, [some (.inr (.inr (8, 0))), some (.inl x1), some (.inl x2)], []), σ)) (q2 := ((13, [some (.inr (.inr (8, 0))), some (.inl x1), some (.inl x2)], []), σ)) rfl (fun hc => ?_) (fun hc => ?_)
    · have h := (if_pos hc).symm.trans h
      cases h
      exact Wp.ret (WpD.mono _) rfl hQ
    · have h := (if_neg hc).symm.trans h
      obtain ⟨hc, h⟩ := ite_nn h
      refine Wp.no (WpD.mono _) 8 (c := hwOut x2 5) (q := ((26, [some (.inr (.inr (8, 0))), some (.inl x1), some (.inl x2)], [.inr (.inl (σ.2.2.2.1 53 0 (x2).toNatClampNeg)), .inl x2, .inr (.inr (50, 1))]), σ)) rfl hc ?_
      obtain ⟨hc, h⟩ := ite_nn h
      refine Wp.no (WpD.mono _) 8 (c := hwOut x2 5) (q := ((38, [some (.inr (.inr (8, 0))), some (.inl x1), some (.inl x2)], [.inr (.inl (σ.2.2.2.1 51 0 (x2).toNatClampNeg)), .inr (.inl ((σ.2.2.2.1 53 0 (x2).toNatClampNeg) * ((100 : Int32) - x1).toInt64)), .inl x2, .inr (.inr (50, 1))]), σ)) rfl hc ?_
      obtain ⟨hc, h⟩ := ite_nn h
      refine Wp.no (WpD.mono _) 6 (c := hwOut x2 5) (q := ((47, [some (.inr (.inr (8, 0))), some (.inl x1), some (.inl x2)], []), (σ.1, σ.2.1, σ.2.2.1, (hwU3 σ.2.2.2.1 50 1 (x2).toNatClampNeg ((((σ.2.2.2.1 53 0 (x2).toNatClampNeg) * ((100 : Int32) - x1).toInt64) + ((σ.2.2.2.1 51 0 (x2).toNatClampNeg) * x1.toInt64)) / (100 : Int64))), σ.2.2.2.2))) rfl hc ?_
      refine Wp.run (WpD.mono _) 1 (q := ((2, [some (.inr (.inr (8, 0))), some (.inl x1), some (.inl (x2 + (1 : Int32)))], []), (σ.1, σ.2.1, σ.2.2.1, (hwU3 σ.2.2.2.1 50 1 (x2).toNatClampNeg ((((σ.2.2.2.1 53 0 (x2).toNatClampNeg) * ((100 : Int32) - x1).toInt64) + ((σ.2.2.2.1 51 0 (x2).toNatClampNeg) * x1.toInt64)) / (100 : Int64))), σ.2.2.2.2))) rfl ?_
      exact Wp.jump (WpD.mono _) rfl (ih x1 (x2 + (1 : Int32)) (σ.1, σ.2.1, σ.2.2.1, (hwU3 σ.2.2.2.1 50 1 (x2).toNatClampNeg ((((σ.2.2.2.1 53 0 (x2).toNatClampNeg) * ((100 : Int32) - x1).toInt64) + ((σ.2.2.2.1 51 0 (x2).toNatClampNeg) * x1.toInt64)) / (100 : Int64))), σ.2.2.2.2) h)

set_option maxRecDepth 100000 in
set_option maxHeartbeats 4000000 in
theorem T_X6_mix (e N : Nat)  (a1 : Int32) (σ : Mem) (r : Unit) (τ : Mem) (Q : Pst) (h : F_X6_mix N a1 σ = some (r, τ)) (hQ : Q (none) τ) : WpD (e + 1) mX6_mix [.inr (.inr (8, 0)), .inl a1] σ Q := by
  refine WpD.of (d := e + 0) (Nat.le_of_ble_eq_true rfl) (Nat.le_of_ble_eq_true rfl) ?_
  show Wp (WpD (e + 0)) hcX6_mix Q (0, [some (.inr (.inr (8, 0))), some (.inl a1), none], []) σ
  unfold F_X6_mix at h
  refine Wp.run (WpD.mono _) 1 (q := ((2, [some (.inr (.inr (8, 0))), some (.inl a1), some (.inl (0 : Int32))], []), σ)) rfl ?_
  exact Wp.jump (WpD.mono _) rfl ((T_X6_mix_b2 e N  r τ Q hQ  N) a1 (0 : Int32) σ h)

set_option maxRecDepth 100000 in
set_option maxHeartbeats 4000000 in
theorem T_X6_teaches_b33 (e N : Nat)   (r : Int64) (τ : Mem) (Q : Pst) (hQ : Q (some (.inr (.inl r))) τ) : ∀ n, ∀ (x1 : Int32) (x2 : Int32) (x3 : Int64) (x5 : Int64) (x7 : Int32) (σ : Mem), F_X6_teaches_b33 N n x1 x2 x3 x5 x7 σ = some (r, τ) → Wp (WpD (e + 13)) hcX6_teaches Q (33, [some (.inr (.inr (8, 0))), some (.inl x1), some (.inl x2), some (.inr (.inl x3)), none, some (.inr (.inl x5)), none, some (.inl x7), none, none], []) σ := by
  intro n
  induction n with
  | zero => intro x1 x2 x3 x5 x7 σ h; cases h
  | succ n ih =>
    intro x1 x2 x3 x5 x7 σ h
    unfold F_X6_teaches_b33 at h
    refine Wp.br (WpD.mono _) 2 (c := (3 : Int32) ≤ x7) (q1 := ((99, [some (.inr (.inr (8, 0))), some (.inl x1), some (.inl x2), some (.inr (.inl x3)), none, some (.inr (.inl x5)), none, some (.inl x7), none, none], []), σ)) (q2 := ((39, [some (.inr (.inr (8, 0))), some (.inl x1), some (.inl x2), some (.inr (.inl x3)), none, some (.inr (.inl x5)), none, some (.inl x7), none, none], []), σ)) rfl (fun hc => ?_) (fun hc => ?_)
    · have h := (if_pos hc).symm.trans h
      refine Wp.run (WpD.mono _) 0 (q := ((101, [some (.inr (.inr (8, 0))), some (.inl x1), some (.inl x2), some (.inr (.inl x3)), none, some (.inr (.inl x5)), none, some (.inl x7), none, none], [.inr (.inl x5)]), σ)) rfl ?_
      cases h
      exact Wp.ret (WpD.mono _) rfl hQ
    · have h := (if_neg hc).symm.trans h
      refine Wp.run (WpD.mono _) 4 (q := ((47, [some (.inr (.inr (8, 0))), some (.inl x1), some (.inl x2), some (.inr (.inl x3)), none, some (.inr (.inl x5)), none, some (.inl x7), none, none], [.inl x7, .inl (1 : Int32), .inr (.inr (52, 0)), .inr (.inr (8, 0))]), σ)) rfl ?_
      obtain ⟨q3, hb, h⟩ := bind_some h
      refine Wp.call (WpD.mono _) rfl (T_X6_dryWith_t52 (e + 12) N (1 : Int32) x7 σ _ _ _ hb ?_)
      show Wp (WpD (e + 13)) hcX6_teaches Q (50, [some (.inr (.inr (8, 0))), some (.inl x1), some (.inl x2), some (.inr (.inl x3)), none, some (.inr (.inl x5)), none, some (.inl x7), none, none], [.inr (.inl q3.1)]) q3.2
      refine Wp.br (WpD.mono _) 4 (c := (lg_cmp q3.1 (0 : Int64)) ≤ 0) (q1 := ((93, [some (.inr (.inr (8, 0))), some (.inl x1), some (.inl x2), some (.inr (.inl x3)), none, some (.inr (.inl x5)), none, some (.inl x7), some (.inr (.inl q3.1)), none], []), q3.2)) (q2 := ((59, [some (.inr (.inr (8, 0))), some (.inl x1), some (.inl x2), some (.inr (.inl x3)), none, some (.inr (.inl x5)), none, some (.inl x7), some (.inr (.inl q3.1)), none], []), q3.2)) rfl (fun hc => ?_) (fun hc => ?_)
      · have h := (if_pos hc).symm.trans h
        refine Wp.run (WpD.mono _) 1 (q := ((33, [some (.inr (.inr (8, 0))), some (.inl x1), some (.inl x2), some (.inr (.inl x3)), none, some (.inr (.inl x5)), none, some (.inl (x7 + (1 : Int32))), none, none], []), q3.2)) rfl ?_
        exact Wp.jump (WpD.mono _) rfl (ih x1 x2 x3 x5 (x7 + (1 : Int32)) q3.2 h)
      · have h := (if_neg hc).symm.trans h
        obtain ⟨hc, h⟩ := ite_nn h
        refine Wp.no (WpD.mono _) 5 (c := hwOut x1 4) (q := ((69, [some (.inr (.inr (8, 0))), some (.inl x1), some (.inl x2), some (.inr (.inl x3)), none, some (.inr (.inl x5)), none, some (.inl x7), some (.inr (.inl q3.1)), none], [.inr (.inr (61, (x1).toNatClampNeg)), .inr (.inr (8, 0))]), q3.2)) rfl hc ?_
        obtain ⟨hc, h⟩ := ite_nn h
        refine Wp.no (WpD.mono _) 1 (c := hwOut x2 4) (q := ((71, [some (.inr (.inr (8, 0))), some (.inl x1), some (.inl x2), some (.inr (.inl x3)), none, some (.inr (.inl x5)), none, some (.inl x7), some (.inr (.inl q3.1)), none], [.inl (q3.2.2.2.1 61 (x1).toNatClampNeg (x2).toNatClampNeg), .inr (.inr (8, 0))]), q3.2)) rfl hc ?_
        obtain ⟨q4, hb, h⟩ := bind_some h
        refine Wp.call (WpD.mono _) rfl (T_X6_mix (e + 12) N (q3.2.2.2.1 61 (x1).toNatClampNeg (x2).toNatClampNeg) q3.2 _ _ _ hb ?_)
        show Wp (WpD (e + 13)) hcX6_teaches Q (74, [some (.inr (.inr (8, 0))), some (.inl x1), some (.inl x2), some (.inr (.inl x3)), none, some (.inr (.inl x5)), none, some (.inl x7), some (.inr (.inl q3.1)), none], []) q4.2
        refine Wp.run (WpD.mono _) 3 (q := ((80, [some (.inr (.inr (8, 0))), some (.inl x1), some (.inl x2), some (.inr (.inl x3)), none, some (.inr (.inl x5)), none, some (.inl x7), some (.inr (.inl q3.1)), none], [.inl (1 : Int32), .inr (.inr (8, 0)), .inr (.inl q3.1), .inr (.inl x5)]), q4.2)) rfl ?_
        obtain ⟨q5, hb, h⟩ := bind_some h
        refine Wp.call (WpD.mono _) rfl (T_X6_worthOf (e + 0) N (1 : Int32) q4.2 _ _ _ hb ?_)
        show Wp (WpD (e + 13)) hcX6_teaches Q (83, [some (.inr (.inr (8, 0))), some (.inl x1), some (.inl x2), some (.inr (.inl x3)), none, some (.inr (.inl x5)), none, some (.inl x7), some (.inr (.inl q3.1)), none], [.inr (.inl q5.1), .inr (.inl q3.1), .inr (.inl x5)]) q5.2
        refine Wp.run (WpD.mono _) 8 (q := ((33, [some (.inr (.inr (8, 0))), some (.inl x1), some (.inl x2), some (.inr (.inl x3)), none, some (.inr (.inl (x5 + ((q3.1 * (q5.1 - x3)) / (1000000 : Int64))))), none, some (.inl (x7 + (1 : Int32))), none, none], []), q5.2)) rfl ?_
        exact Wp.jump (WpD.mono _) rfl (ih x1 x2 x3 (x5 + ((q3.1 * (q5.1 - x3)) / (1000000 : Int64))) (x7 + (1 : Int32)) q5.2 h)

set_option maxRecDepth 100000 in
set_option maxHeartbeats 4000000 in
theorem T_X6_teaches (e N : Nat)  (a1 : Int32) (a2 : Int32) (σ : Mem) (r : Int64) (τ : Mem) (Q : Pst) (h : F_X6_teaches N a1 a2 σ = some (r, τ)) (hQ : Q (some (.inr (.inl r))) τ) : WpD (e + 14) mX6_teaches [.inr (.inr (8, 0)), .inl a1, .inl a2] σ Q := by
  refine WpD.of (d := e + 13) (Nat.le_of_ble_eq_true rfl) (Nat.le_of_ble_eq_true rfl) ?_
  show Wp (WpD (e + 13)) hcX6_teaches Q (0, [some (.inr (.inr (8, 0))), some (.inl a1), some (.inl a2), none, none, none, none, none, none, none], []) σ
  unfold F_X6_teaches at h
  refine Wp.run (WpD.mono _) 1 (q := ((2, [some (.inr (.inr (8, 0))), some (.inl a1), some (.inl a2), none, none, none, none, none, none, none], [.inl a2, .inr (.inr (8, 0))]), σ)) rfl ?_
  obtain ⟨q1, hb, h⟩ := bind_some h
  refine Wp.call (WpD.mono _) rfl (T_X6_begin (e + 11) N a2 σ _ _ _ hb ?_)
  show Wp (WpD (e + 13)) hcX6_teaches Q (5, [some (.inr (.inr (8, 0))), some (.inl a1), some (.inl a2), none, none, none, none, none, none, none], []) q1.2
  refine Wp.run (WpD.mono _) 11 (q := ((23, [some (.inr (.inr (8, 0))), some (.inl a1), some (.inl a2), none, none, none, none, none, none, none], [.inl (1 : Int32), .inr (.inr (8, 0))]), (q1.2.1, q1.2.2.1, q1.2.2.2.1, (hwR3 q1.2.2.2.2.1 53 0 (va_cpy (q1.2.2.2.2.1 50 1) (q1.2.2.2.2.1 53 0) 0 0 5)), q1.2.2.2.2.2))) rfl ?_
  obtain ⟨q2, hb, h⟩ := bind_some h
  refine Wp.call (WpD.mono _) rfl (T_X6_worthOf (e + 0) N (1 : Int32) (q1.2.1, q1.2.2.1, q1.2.2.2.1, (hwR3 q1.2.2.2.2.1 53 0 (va_cpy (q1.2.2.2.2.1 50 1) (q1.2.2.2.2.1 53 0) 0 0 5)), q1.2.2.2.2.2) _ _ _ hb ?_)
  show Wp (WpD (e + 13)) hcX6_teaches Q (26, [some (.inr (.inr (8, 0))), some (.inl a1), some (.inl a2), none, none, none, none, none, none, none], [.inr (.inl q2.1)]) q2.2
  refine Wp.run (WpD.mono _) 4 (q := ((33, [some (.inr (.inr (8, 0))), some (.inl a1), some (.inl a2), some (.inr (.inl q2.1)), none, some (.inr (.inl (0 : Int64))), none, some (.inl (0 : Int32)), none, none], []), q2.2)) rfl ?_
  exact Wp.jump (WpD.mono _) rfl ((T_X6_teaches_b33 e N  r τ Q hQ  N) a1 a2 q2.1 (0 : Int64) (0 : Int32) q2.2 h)

set_option maxRecDepth 100000 in
set_option maxHeartbeats 4000000 in
theorem T_X6_learning_b26 (e N : Nat)   (r : Int64) (τ : Mem) (Q : Pst) (hQ : Q (some (.inr (.inl r))) τ) : ∀ n, ∀ (x1 : Int32) (x2 : Int64) (x4 : Int32) (σ : Mem), F_X6_learning_b26 N n x1 x2 x4 σ = some (r, τ) → Wp (WpD (e + 14)) hcX6_learning Q (26, [some (.inr (.inr (8, 0))), some (.inl x1), some (.inr (.inl x2)), none, some (.inl x4)], []) σ := by
  intro n
  induction n with
  | zero => intro x1 x2 x4 σ h; cases h
  | succ n ih =>
    intro x1 x2 x4 σ h
    unfold F_X6_learning_b26 at h
    refine Wp.br (WpD.mono _) 4 (c := (σ.1 4 5) ≤ x4) (q1 := ((60, [some (.inr (.inr (8, 0))), some (.inl x1), some (.inr (.inl x2)), none, some (.inl x4)], []), σ)) (q2 := ((38, [some (.inr (.inr (8, 0))), some (.inl x1), some (.inr (.inl x2)), none, some (.inl x4)], []), σ)) rfl (fun hc => ?_) (fun hc => ?_)
    · have h := (if_pos hc).symm.trans h
      refine Wp.run (WpD.mono _) 0 (q := ((61, [some (.inr (.inr (8, 0))), some (.inl x1), some (.inr (.inl x2)), none, some (.inl x4)], [.inr (.inl x2)]), σ)) rfl ?_
      cases h
      exact Wp.ret (WpD.mono _) rfl hQ
    · have h := (if_neg hc).symm.trans h
      refine Wp.br (WpD.mono _) 2 (c := x4 = x1) (q1 := ((54, [some (.inr (.inr (8, 0))), some (.inl x1), some (.inr (.inl x2)), none, some (.inl x4)], []), σ)) (q2 := ((44, [some (.inr (.inr (8, 0))), some (.inl x1), some (.inr (.inl x2)), none, some (.inl x4)], []), σ)) rfl (fun hc => ?_) (fun hc => ?_)
      · have h := (if_pos hc).symm.trans h
        refine Wp.run (WpD.mono _) 1 (q := ((26, [some (.inr (.inr (8, 0))), some (.inl x1), some (.inr (.inl x2)), none, some (.inl (x4 + (1 : Int32)))], []), σ)) rfl ?_
        exact Wp.jump (WpD.mono _) rfl (ih x1 x2 (x4 + (1 : Int32)) σ h)
      · have h := (if_neg hc).symm.trans h
        refine Wp.run (WpD.mono _) 3 (q := ((49, [some (.inr (.inr (8, 0))), some (.inl x1), some (.inr (.inl x2)), none, some (.inl x4)], [.inl x4, .inl x1, .inr (.inr (8, 0)), .inr (.inl x2)]), σ)) rfl ?_
        obtain ⟨q2, hb, h⟩ := bind_some h
        refine Wp.call (WpD.mono _) rfl (T_X6_teaches (e + 0) N x1 x4 σ _ _ _ hb ?_)
        show Wp (WpD (e + 14)) hcX6_learning Q (52, [some (.inr (.inr (8, 0))), some (.inl x1), some (.inr (.inl x2)), none, some (.inl x4)], [.inr (.inl q2.1), .inr (.inl x2)]) q2.2
        refine Wp.run (WpD.mono _) 3 (q := ((26, [some (.inr (.inr (8, 0))), some (.inl x1), some (.inr (.inl (x2 + q2.1))), none, some (.inl (x4 + (1 : Int32)))], []), q2.2)) rfl ?_
        exact Wp.jump (WpD.mono _) rfl (ih x1 (x2 + q2.1) (x4 + (1 : Int32)) q2.2 h)

set_option maxRecDepth 100000 in
set_option maxHeartbeats 4000000 in
theorem T_X6_learning (e N : Nat)  (a1 : Int32) (σ : Mem) (r : Int64) (τ : Mem) (Q : Pst) (h : F_X6_learning N a1 σ = some (r, τ)) (hQ : Q (some (.inr (.inl r))) τ) : WpD (e + 15) mX6_learning [.inr (.inr (8, 0)), .inl a1] σ Q := by
  refine WpD.of (d := e + 14) (Nat.le_of_ble_eq_true rfl) (Nat.le_of_ble_eq_true rfl) ?_
  show Wp (WpD (e + 14)) hcX6_learning Q (0, [some (.inr (.inr (8, 0))), some (.inl a1), none, none, none], []) σ
  unfold F_X6_learning at h
  refine Wp.run (WpD.mono _) 1 (q := ((2, [some (.inr (.inr (8, 0))), some (.inl a1), none, none, none], [.inl a1, .inr (.inr (8, 0))]), σ)) rfl ?_
  obtain ⟨q1, hb, h⟩ := bind_some h
  refine Wp.call (WpD.mono _) rfl (T_X6_begin (e + 12) N a1 σ _ _ _ hb ?_)
  show Wp (WpD (e + 14)) hcX6_learning Q (5, [some (.inr (.inr (8, 0))), some (.inl a1), none, none, none], []) q1.2
  refine Wp.run (WpD.mono _) 13 (q := ((26, [some (.inr (.inr (8, 0))), some (.inl a1), some (.inr (.inl (0 : Int64))), none, some (.inl (0 : Int32))], []), (q1.2.1, q1.2.2.1, q1.2.2.2.1, (hwR3 q1.2.2.2.2.1 52 0 (va_cpy (q1.2.2.2.2.1 50 1) (q1.2.2.2.2.1 52 0) 0 0 5)), q1.2.2.2.2.2))) rfl ?_
  exact Wp.jump (WpD.mono _) rfl ((T_X6_learning_b26 e N  r τ Q hQ  N) a1 (0 : Int64) (0 : Int32) (q1.2.1, q1.2.2.1, q1.2.2.2.1, (hwR3 q1.2.2.2.2.1 52 0 (va_cpy (q1.2.2.2.2.1 50 1) (q1.2.2.2.2.1 52 0) 0 0 5)), q1.2.2.2.2.2) h)

set_option maxRecDepth 100000 in
set_option maxHeartbeats 4000000 in
theorem T_X11_first_b7 (e N : Nat)   (r : Int32) (τ : Mem) (Q : Pst) (hQ : Q (some (.inl r)) τ) : ∀ n, ∀ (x1 : Int32) (x2 : Int64) (x4 : Int32) (σ : Mem), F_X11_first_b7 N n x1 x2 x4 σ = some (r, τ) → Wp (WpD (e + 15)) hcX11_first Q (7, [some (.inr (.inr (0, 0))), some (.inl x1), some (.inr (.inl x2)), none, some (.inl x4), none, none], []) σ := by
  intro n
  induction n with
  | zero => intro x1 x2 x4 σ h; cases h
  | succ n ih =>
    intro x1 x2 x4 σ h
    unfold F_X11_first_b7 at h
    refine Wp.br (WpD.mono _) 4 (c := (σ.1 4 5) ≤ x4) (q1 := ((75, [some (.inr (.inr (0, 0))), some (.inl x1), some (.inr (.inl x2)), none, some (.inl x4), none, none], []), σ)) (q2 := ((19, [some (.inr (.inr (0, 0))), some (.inl x1), some (.inr (.inl x2)), none, some (.inl x4), none, none], []), σ)) rfl (fun hc => ?_) (fun hc => ?_)
    · have h := (if_pos hc).symm.trans h
      refine Wp.run (WpD.mono _) 0 (q := ((76, [some (.inr (.inr (0, 0))), some (.inl x1), some (.inr (.inl x2)), none, some (.inl x4), none, none], [.inl x1]), σ)) rfl ?_
      cases h
      exact Wp.ret (WpD.mono _) rfl hQ
    · have h := (if_neg hc).symm.trans h
      refine Wp.run (WpD.mono _) 2 (q := ((25, [some (.inr (.inr (0, 0))), some (.inl x1), some (.inr (.inl x2)), none, some (.inl x4), none, none], [.inl x4, .inr (.inr (8, 0))]), σ)) rfl ?_
      obtain ⟨q1, hb, h⟩ := bind_some h
      refine Wp.call (WpD.mono _) rfl (T_X6_learning (e + 0) N x4 σ _ _ _ hb ?_)
      show Wp (WpD (e + 15)) hcX11_first Q (28, [some (.inr (.inr (0, 0))), some (.inl x1), some (.inr (.inl x2)), none, some (.inl x4), none, none], [.inr (.inl q1.1)]) q1.2
      refine Wp.run (WpD.mono _) 3 (q := ((36, [some (.inr (.inr (0, 0))), some (.inl x1), some (.inr (.inl x2)), none, some (.inl x4), some (.inr (.inl q1.1)), none], [.inl x4, .inr (.inr (8, 0))]), q1.2)) rfl ?_
      obtain ⟨q2, hb, h⟩ := bind_some h
      refine Wp.call (WpD.mono _) rfl (T_X6_begin (e + 13) N x4 q1.2 _ _ _ hb ?_)
      show Wp (WpD (e + 15)) hcX11_first Q (39, [some (.inr (.inr (0, 0))), some (.inl x1), some (.inr (.inl x2)), none, some (.inl x4), some (.inr (.inl q1.1)), none], []) q2.2
      refine Wp.run (WpD.mono _) 3 (q := ((46, [some (.inr (.inr (0, 0))), some (.inl x1), some (.inr (.inl x2)), none, some (.inl x4), some (.inr (.inl q1.1)), none], [.inl (1 : Int32), .inr (.inr (8, 0)), .inr (.inl q1.1)]), q2.2)) rfl ?_
      obtain ⟨q3, hb, h⟩ := bind_some h
      refine Wp.call (WpD.mono _) rfl (T_X6_worthOf (e + 2) N (1 : Int32) q2.2 _ _ _ hb ?_)
      show Wp (WpD (e + 15)) hcX11_first Q (49, [some (.inr (.inr (0, 0))), some (.inl x1), some (.inr (.inl x2)), none, some (.inl x4), some (.inr (.inl q1.1)), none], [.inr (.inl q3.1), .inr (.inl q1.1)]) q3.2
      refine Wp.br (WpD.mono _) 3 (c := x1 < 0) (q1 := ((63, [some (.inr (.inr (0, 0))), some (.inl x1), some (.inr (.inl x2)), none, some (.inl x4), some (.inr (.inl (q1.1 + q3.1))), none], []), q3.2)) (q2 := ((56, [some (.inr (.inr (0, 0))), some (.inl x1), some (.inr (.inl x2)), none, some (.inl x4), some (.inr (.inl (q1.1 + q3.1))), none], []), q3.2)) rfl (fun hc => ?_) (fun hc => ?_)
      · have h := (if_pos hc).symm.trans h
        refine Wp.run (WpD.mono _) 5 (q := ((7, [some (.inr (.inr (0, 0))), some (.inl x4), some (.inr (.inl (q1.1 + q3.1))), none, some (.inl (x4 + (1 : Int32))), none, none], []), q3.2)) rfl ?_
        exact Wp.jump (WpD.mono _) rfl (ih x4 (q1.1 + q3.1) (x4 + (1 : Int32)) q3.2 h)
      · have h := (if_neg hc).symm.trans h
        refine Wp.br (WpD.mono _) 3 (c := (lg_cmp (q1.1 + q3.1) x2) ≤ 0) (q1 := ((69, [some (.inr (.inr (0, 0))), some (.inl x1), some (.inr (.inl x2)), none, some (.inl x4), some (.inr (.inl (q1.1 + q3.1))), none], []), q3.2)) (q2 := ((63, [some (.inr (.inr (0, 0))), some (.inl x1), some (.inr (.inl x2)), none, some (.inl x4), some (.inr (.inl (q1.1 + q3.1))), none], []), q3.2)) rfl (fun hc => ?_) (fun hc => ?_)
        · have h := (if_pos hc).symm.trans h
          refine Wp.run (WpD.mono _) 1 (q := ((7, [some (.inr (.inr (0, 0))), some (.inl x1), some (.inr (.inl x2)), none, some (.inl (x4 + (1 : Int32))), none, none], []), q3.2)) rfl ?_
          exact Wp.jump (WpD.mono _) rfl (ih x1 x2 (x4 + (1 : Int32)) q3.2 h)
        · have h := (if_neg hc).symm.trans h
          refine Wp.run (WpD.mono _) 5 (q := ((7, [some (.inr (.inr (0, 0))), some (.inl x4), some (.inr (.inl (q1.1 + q3.1))), none, some (.inl (x4 + (1 : Int32))), none, none], []), q3.2)) rfl ?_
          exact Wp.jump (WpD.mono _) rfl (ih x4 (q1.1 + q3.1) (x4 + (1 : Int32)) q3.2 h)

set_option maxRecDepth 100000 in
set_option maxHeartbeats 4000000 in
theorem T_X11_first (e N : Nat)   (σ : Mem) (r : Int32) (τ : Mem) (Q : Pst) (h : F_X11_first N  σ = some (r, τ)) (hQ : Q (some (.inl r)) τ) : WpD (e + 16) mX11_first [.inr (.inr (0, 0))] σ Q := by
  refine WpD.of (d := e + 15) (Nat.le_of_ble_eq_true rfl) (Nat.le_of_ble_eq_true rfl) ?_
  show Wp (WpD (e + 15)) hcX11_first Q (0, [some (.inr (.inr (0, 0))), none, none, none, none, none, none], []) σ
  unfold F_X11_first at h
  refine Wp.run (WpD.mono _) 5 (q := ((7, [some (.inr (.inr (0, 0))), some (.inl (-1 : Int32)), some (.inr (.inl (0 : Int64))), none, some (.inl (0 : Int32)), none, none], []), σ)) rfl ?_
  exact Wp.jump (WpD.mono _) rfl ((T_X11_first_b7 e N  r τ Q hQ  N) (-1 : Int32) (0 : Int64) (0 : Int32) σ h)

set_option maxRecDepth 100000 in
set_option maxHeartbeats 4000000 in
theorem T_X2_reweigh (e N : Nat)  (a1 : Int32) (a2 : Int32) (a3 : Int32) (σ : Mem) (r : Int32) (τ : Mem) (Q : Pst) (h : F_X2_reweigh N a1 a2 a3 σ = some (r, τ)) (hQ : Q (some (.inl r)) τ) : WpD (e + 1) mX2_reweigh [.inr (.inr (1, 0)), .inl a1, .inl a2, .inl a3] σ Q := by
  refine WpD.of (d := e + 0) (Nat.le_of_ble_eq_true rfl) (Nat.le_of_ble_eq_true rfl) ?_
  show Wp (WpD (e + 0)) hcX2_reweigh Q (0, [some (.inr (.inr (1, 0))), some (.inl a1), some (.inl a2), some (.inl a3), none], []) σ
  unfold F_X2_reweigh at h
  obtain ⟨hc, h⟩ := ite_nn h
  refine Wp.no (WpD.mono _) 3 (c := hwOut a1 5) (q := ((6, [some (.inr (.inr (1, 0))), some (.inl a1), some (.inl a2), some (.inl a3), none], [.inr (.inr (26, (a1).toNatClampNeg))]), σ)) rfl hc ?_
  obtain ⟨hc, h⟩ := ite_nn h
  refine Wp.no (WpD.mono _) 1 (c := hwOut a2 5) (q := ((8, [some (.inr (.inr (1, 0))), some (.inl a1), some (.inl a2), some (.inl a3), none], [.inl (σ.2.2.1 26 (a1).toNatClampNeg (a2).toNatClampNeg)]), σ)) rfl hc ?_
  obtain ⟨hc, h⟩ := ite_nn h
  refine Wp.no (WpD.mono _) 4 (c := hwOut a1 5) (q := ((16, [some (.inr (.inr (1, 0))), some (.inl a1), some (.inl a2), some (.inl a3), some (.inl (σ.2.2.1 26 (a1).toNatClampNeg (a2).toNatClampNeg))], [.inr (.inr (26, (a1).toNatClampNeg))]), σ)) rfl hc ?_
  obtain ⟨hc, h⟩ := ite_nn h
  refine Wp.no (WpD.mono _) 2 (c := hwOut a2 5) (q := ((19, [some (.inr (.inr (1, 0))), some (.inl a1), some (.inl a2), some (.inl a3), some (.inl (σ.2.2.1 26 (a1).toNatClampNeg (a2).toNatClampNeg))], []), (σ.1, σ.2.1, (hwU3 σ.2.2.1 26 (a1).toNatClampNeg (a2).toNatClampNeg a3), σ.2.2.2.1, σ.2.2.2.2))) rfl hc ?_
  obtain ⟨hc, h⟩ := ite_nn h
  refine Wp.no (WpD.mono _) 4 (c := hwOut a1 5) (q := ((26, [some (.inr (.inr (1, 0))), some (.inl a1), some (.inl a2), some (.inl a3), some (.inl (σ.2.2.1 26 (a1).toNatClampNeg (a2).toNatClampNeg))], [.inl (σ.2.2.1 27 0 (a1).toNatClampNeg), .inl a1, .inr (.inr (27, 0))]), (σ.1, σ.2.1, (hwU3 σ.2.2.1 26 (a1).toNatClampNeg (a2).toNatClampNeg a3), σ.2.2.2.1, σ.2.2.2.2))) rfl hc ?_
  obtain ⟨hc, h⟩ := ite_nn h
  refine Wp.no (WpD.mono _) 4 (c := hwOut a1 5) (q := ((32, [some (.inr (.inr (1, 0))), some (.inl a1), some (.inl a2), some (.inl a3), some (.inl (σ.2.2.1 26 (a1).toNatClampNeg (a2).toNatClampNeg))], []), (σ.1, σ.2.1, (hwU3 (hwU3 σ.2.2.1 26 (a1).toNatClampNeg (a2).toNatClampNeg a3) 27 0 (a1).toNatClampNeg ((σ.2.2.1 27 0 (a1).toNatClampNeg) + (a3 - (σ.2.2.1 26 (a1).toNatClampNeg (a2).toNatClampNeg)))), σ.2.2.2.1, σ.2.2.2.2))) rfl hc ?_
  refine Wp.run (WpD.mono _) 0 (q := ((34, [some (.inr (.inr (1, 0))), some (.inl a1), some (.inl a2), some (.inl a3), some (.inl (σ.2.2.1 26 (a1).toNatClampNeg (a2).toNatClampNeg))], [.inl (σ.2.2.1 26 (a1).toNatClampNeg (a2).toNatClampNeg)]), (σ.1, σ.2.1, (hwU3 (hwU3 σ.2.2.1 26 (a1).toNatClampNeg (a2).toNatClampNeg a3) 27 0 (a1).toNatClampNeg ((σ.2.2.1 27 0 (a1).toNatClampNeg) + (a3 - (σ.2.2.1 26 (a1).toNatClampNeg (a2).toNatClampNeg)))), σ.2.2.2.1, σ.2.2.2.2))) rfl ?_
  cases h
  exact Wp.ret (WpD.mono _) rfl hQ

set_option maxRecDepth 100000 in
set_option maxHeartbeats 4000000 in
theorem T_X11_follow (e N : Nat)  (a1 : Int32) (a2 : Int32) (a3 : Int32) (σ : Mem) (r : Int32) (τ : Mem) (Q : Pst) (h : F_X11_follow N a1 a2 a3 σ = some (r, τ)) (hQ : Q (some (.inl r)) τ) : WpD (e + 3) mX11_follow [.inr (.inr (0, 0)), .inl a1, .inl a2, .inl a3] σ Q := by
  refine WpD.of (d := e + 2) (Nat.le_of_ble_eq_true rfl) (Nat.le_of_ble_eq_true rfl) ?_
  show Wp (WpD (e + 2)) hcX11_follow Q (0, [some (.inr (.inr (0, 0))), some (.inl a1), some (.inl a2), some (.inl a3)], []) σ
  unfold F_X11_follow at h
  refine Wp.run (WpD.mono _) 1 (q := ((2, [some (.inr (.inr (0, 0))), some (.inl a1), some (.inl a2), some (.inl a3)], [.inl a1, .inr (.inr (0, 0))]), σ)) rfl ?_
  obtain ⟨q1, hb, h⟩ := bind_some h
  refine Wp.call (WpD.mono _) rfl (T_X11_isLayer (e + 0) N a1 σ _ _ _ hb ?_)
  show Wp (WpD (e + 2)) hcX11_follow Q (5, [some (.inr (.inr (0, 0))), some (.inl a1), some (.inl a2), some (.inl a3)], [.inl q1.1]) q1.2
  refine Wp.br (WpD.mono _) 0 (c := q1.1 = 0) (q1 := ((16, [some (.inr (.inr (0, 0))), some (.inl a1), some (.inl a2), some (.inl a3)], []), q1.2)) (q2 := ((8, [some (.inr (.inr (0, 0))), some (.inl a1), some (.inl a2), some (.inl a3)], []), q1.2)) rfl (fun hc => ?_) (fun hc => ?_)
  · have h := (if_pos hc).symm.trans h
    refine Wp.run (WpD.mono _) 0 (q := ((17, [none, none, none, none], [.inl (-1 : Int32)]), q1.2)) rfl ?_
    cases h
    exact Wp.ret (WpD.mono _) rfl hQ
  · have h := (if_neg hc).symm.trans h
    refine Wp.run (WpD.mono _) 1 (q := ((10, [some (.inr (.inr (0, 0))), some (.inl a1), some (.inl a2), some (.inl a3)], [.inl a2, .inr (.inr (0, 0))]), q1.2)) rfl ?_
    obtain ⟨q2, hb, h⟩ := bind_some h
    refine Wp.call (WpD.mono _) rfl (T_X11_isLayer (e + 0) N a2 q1.2 _ _ _ hb ?_)
    show Wp (WpD (e + 2)) hcX11_follow Q (13, [some (.inr (.inr (0, 0))), some (.inl a1), some (.inl a2), some (.inl a3)], [.inl q2.1]) q2.2
    refine Wp.br (WpD.mono _) 0 (c := q2.1 = 0) (q1 := ((16, [some (.inr (.inr (0, 0))), some (.inl a1), some (.inl a2), some (.inl a3)], []), q2.2)) (q2 := ((18, [some (.inr (.inr (0, 0))), some (.inl a1), some (.inl a2), some (.inl a3)], []), q2.2)) rfl (fun hc => ?_) (fun hc => ?_)
    · have h := (if_pos hc).symm.trans h
      refine Wp.run (WpD.mono _) 0 (q := ((17, [none, none, none, none], [.inl (-1 : Int32)]), q2.2)) rfl ?_
      cases h
      exact Wp.ret (WpD.mono _) rfl hQ
    · have h := (if_neg hc).symm.trans h
      refine Wp.run (WpD.mono _) 2 (q := ((22, [some (.inr (.inr (0, 0))), some (.inl a1), some (.inl a2), some (.inl a3)], [.inl (9 : Int32), .inl (0 : Int32), .inl a3]), q2.2)) rfl ?_
      obtain ⟨q3, hb, h⟩ := bind_some h
      refine Wp.call (WpD.mono _) rfl (T_X11_within (e + 1) N a3 (0 : Int32) (9 : Int32) q2.2 _ _ _ hb ?_)
      show Wp (WpD (e + 2)) hcX11_follow Q (25, [some (.inr (.inr (0, 0))), some (.inl a1), some (.inl a2), some (.inl a3)], [.inl q3.1]) q3.2
      refine Wp.br (WpD.mono _) 0 (c := q3.1 = 0) (q1 := ((28, [some (.inr (.inr (0, 0))), some (.inl a1), some (.inl a2), some (.inl a3)], []), q3.2)) (q2 := ((31, [some (.inr (.inr (0, 0))), some (.inl a1), some (.inl a2), some (.inl a3)], []), q3.2)) rfl (fun hc => ?_) (fun hc => ?_)
      · have h := (if_pos hc).symm.trans h
        refine Wp.run (WpD.mono _) 0 (q := ((30, [some (.inr (.inr (0, 0))), some (.inl a1), some (.inl a2), some (.inl a3)], [.inl (-2 : Int32)]), q3.2)) rfl ?_
        cases h
        exact Wp.ret (WpD.mono _) rfl hQ
      · have h := (if_neg hc).symm.trans h
        refine Wp.run (WpD.mono _) 4 (q := ((38, [some (.inr (.inr (0, 0))), some (.inl a1), some (.inl a2), some (.inl a3)], [.inl a3, .inl a2, .inl a1, .inr (.inr (1, 0))]), q3.2)) rfl ?_
        obtain ⟨q4, hb, h⟩ := bind_some h
        refine Wp.call (WpD.mono _) rfl (T_X2_reweigh (e + 1) N a1 a2 a3 q3.2 _ _ _ hb ?_)
        show Wp (WpD (e + 2)) hcX11_follow Q (41, [some (.inr (.inr (0, 0))), some (.inl a1), some (.inl a2), some (.inl a3)], [.inl q4.1]) q4.2
        cases h
        exact Wp.ret (WpD.mono _) rfl hQ

set_option maxRecDepth 100000 in
set_option maxHeartbeats 4000000 in
theorem T_X4_truth (e N : Nat)  (a1 : Int32) (σ : Mem) (r : Int32) (τ : Mem) (Q : Pst) (h : F_X4_truth N a1 σ = some (r, τ)) (hQ : Q (some (.inl r)) τ) : WpD (e + 1) mX4_truth [.inl a1] σ Q := by
  refine WpD.of (d := e + 0) (Nat.le_of_ble_eq_true rfl) (Nat.le_of_ble_eq_true rfl) ?_
  show Wp (WpD (e + 0)) hcX4_truth Q (0, [some (.inl a1)], []) σ
  unfold F_X4_truth at h
  refine Wp.br (WpD.mono _) 1 (c := a1 = 0) (q1 := ((8, [some (.inl a1)], []), σ)) (q2 := ((4, [some (.inl a1)], []), σ)) rfl (fun hc => ?_) (fun hc => ?_)
  · have h := (if_pos hc).symm.trans h
    refine Wp.run (WpD.mono _) 0 (q := ((9, [some (.inl a1)], [.inl (0 : Int32)]), σ)) rfl ?_
    cases h
    exact Wp.ret (WpD.mono _) rfl hQ
  · have h := (if_neg hc).symm.trans h
    refine Wp.run (WpD.mono _) 1 (q := ((9, [some (.inl a1)], [.inl (1 : Int32)]), σ)) rfl ?_
    cases h
    exact Wp.ret (WpD.mono _) rfl hQ

set_option maxRecDepth 100000 in
set_option maxHeartbeats 4000000 in
theorem T_X4_joined_b118 (e N : Nat)   (r : Int32) (τ : Mem) (Q : Pst) (hQ : Q (some (.inl r)) τ) : ∀ (s0 : Int32) (σ : Mem), F_X4_joined_b118 N s0 σ = some (r, τ) → Wp (WpD (e + 1)) hcX4_joined Q (118, [none, none, none], [.inl s0]) σ := by
  intro s0 σ h
  unfold F_X4_joined_b118 at h
  obtain ⟨q1, hb, h⟩ := bind_some h
  refine Wp.call (WpD.mono _) rfl (T_X4_truth (e + 0) N s0 σ _ _ _ hb ?_)
  show Wp (WpD (e + 1)) hcX4_joined Q (121, [none, none, none], [.inl q1.1]) q1.2
  cases h
  exact Wp.ret (WpD.mono _) rfl hQ

set_option maxRecDepth 100000 in
set_option maxHeartbeats 4000000 in
theorem T_X4_joined_b104 (e N : Nat)   (r : Int32) (τ : Mem) (Q : Pst) (hQ : Q (some (.inl r)) τ) : ∀ (s0 : Int32) (σ : Mem), F_X4_joined_b104 N s0 σ = some (r, τ) → Wp (WpD (e + 1)) hcX4_joined Q (104, [none, none, none], [.inl s0]) σ := by
  intro s0 σ h
  unfold F_X4_joined_b104 at h
  obtain ⟨q2, hb, h⟩ := bind_some h
  refine Wp.call (WpD.mono _) rfl (T_X4_truth (e + 0) N s0 σ _ _ _ hb ?_)
  show Wp (WpD (e + 1)) hcX4_joined Q (107, [none, none, none], [.inl q2.1]) q2.2
  cases h
  exact Wp.ret (WpD.mono _) rfl hQ

set_option maxRecDepth 100000 in
set_option maxHeartbeats 4000000 in
theorem T_X4_joined_b90 (e N : Nat)   (r : Int32) (τ : Mem) (Q : Pst) (hQ : Q (some (.inl r)) τ) : ∀ (s0 : Int32) (σ : Mem), F_X4_joined_b90 N s0 σ = some (r, τ) → Wp (WpD (e + 1)) hcX4_joined Q (90, [none, none, none], [.inl s0]) σ := by
  intro s0 σ h
  unfold F_X4_joined_b90 at h
  obtain ⟨q3, hb, h⟩ := bind_some h
  refine Wp.call (WpD.mono _) rfl (T_X4_truth (e + 0) N s0 σ _ _ _ hb ?_)
  show Wp (WpD (e + 1)) hcX4_joined Q (93, [none, none, none], [.inl q3.1]) q3.2
  cases h
  exact Wp.ret (WpD.mono _) rfl hQ

set_option maxRecDepth 100000 in
set_option maxHeartbeats 4000000 in
theorem T_X4_joined_b89 (e N : Nat)  (k90 : Int32 → Mem → Option (Int32 × Mem)) (r : Int32) (τ : Mem) (Q : Pst) (hQ : Q (some (.inl r)) τ) (hk90 : ∀ (s0 : Int32) (σ : Mem), k90 s0 σ = some (r, τ) → Wp (WpD (e + 1)) hcX4_joined Q (90, [none, none, none], [.inl s0]) σ) : ∀  (σ : Mem), F_X4_joined_b89 N k90  σ = some (r, τ) → Wp (WpD (e + 1)) hcX4_joined Q (89, [none, none, none], []) σ := by
  intro  σ h
  unfold F_X4_joined_b89 at h
  refine Wp.run (WpD.mono _) 0 (q := ((90, [none, none, none], [.inl (0 : Int32)]), σ)) rfl ?_
  exact Wp.jump (WpD.mono _) rfl (hk90 (0 : Int32) σ h)

set_option maxRecDepth 100000 in
set_option maxHeartbeats 4000000 in
theorem T_X4_joined_b68 (e N : Nat)  (k73 : Int32 → Mem → Option (Int32 × Mem)) (r : Int32) (τ : Mem) (Q : Pst) (hQ : Q (some (.inl r)) τ) (hk73 : ∀ (s0 : Int32) (σ : Mem), k73 s0 σ = some (r, τ) → Wp (WpD (e + 1)) hcX4_joined Q (73, [none, none, none], [.inl s0]) σ) : ∀  (σ : Mem), F_X4_joined_b68 N k73  σ = some (r, τ) → Wp (WpD (e + 1)) hcX4_joined Q (68, [none, none, none], []) σ := by
  intro  σ h
  unfold F_X4_joined_b68 at h
  refine Wp.run (WpD.mono _) 1 (q := ((73, [none, none, none], [.inl (1 : Int32)]), σ)) rfl ?_
  exact Wp.jump (WpD.mono _) rfl (hk73 (1 : Int32) σ h)

set_option maxRecDepth 100000 in
set_option maxHeartbeats 4000000 in
theorem T_X4_joined_b73 (e N : Nat)   (r : Int32) (τ : Mem) (Q : Pst) (hQ : Q (some (.inl r)) τ) : ∀ (s0 : Int32) (σ : Mem), F_X4_joined_b73 N s0 σ = some (r, τ) → Wp (WpD (e + 1)) hcX4_joined Q (73, [none, none, none], [.inl s0]) σ := by
  intro s0 σ h
  unfold F_X4_joined_b73 at h
  obtain ⟨q4, hb, h⟩ := bind_some h
  refine Wp.call (WpD.mono _) rfl (T_X4_truth (e + 0) N s0 σ _ _ _ hb ?_)
  show Wp (WpD (e + 1)) hcX4_joined Q (76, [none, none, none], [.inl q4.1]) q4.2
  cases h
  exact Wp.ret (WpD.mono _) rfl hQ

set_option maxRecDepth 100000 in
set_option maxHeartbeats 4000000 in
theorem T_X4_joined (e N : Nat)  (a1 : Int32) (a2 : Int32) (a3 : Int32) (σ : Mem) (r : Int32) (τ : Mem) (Q : Pst) (h : F_X4_joined N a1 a2 a3 σ = some (r, τ)) (hQ : Q (some (.inl r)) τ) : WpD (e + 2) mX4_joined [.inl a1, .inl a2, .inl a3] σ Q := by
  refine WpD.of (d := e + 1) (Nat.le_of_ble_eq_true rfl) (Nat.le_of_ble_eq_true rfl) ?_
  show Wp (WpD (e + 1)) hcX4_joined Q (0, [some (.inl a1), some (.inl a2), some (.inl a3)], []) σ
  unfold F_X4_joined at h
  refine Wp.run (WpD.mono _) 0 (q := ((1, [some (.inl a1), some (.inl a2), some (.inl a3)], [.inl a1]), σ)) rfl ?_
  by_cases hs0 : a1 = 7
  · have h := (if_pos hs0).symm.trans h
    refine Wp.swIn (WpD.mono _) (q := ((60, [some (.inl a1), some (.inl a2), some (.inl a3)], []), σ)) hs0 rfl ?_
    refine Wp.br (WpD.mono _) 1 (c := a2 = 0) (q1 := ((64, [some (.inl a1), some (.inl a2), some (.inl a3)], []), σ)) (q2 := ((68, [some (.inl a1), some (.inl a2), some (.inl a3)], []), σ)) rfl (fun hc => ?_) (fun hc => ?_)
    · have h := (if_pos hc).symm.trans h
      refine Wp.br (WpD.mono _) 1 (c := a3 = 0) (q1 := ((72, [some (.inl a1), some (.inl a2), some (.inl a3)], []), σ)) (q2 := ((68, [some (.inl a1), some (.inl a2), some (.inl a3)], []), σ)) rfl (fun hc => ?_) (fun hc => ?_)
      · have h := (if_pos hc).symm.trans h
        refine Wp.run (WpD.mono _) 0 (q := ((73, [some (.inl a1), some (.inl a2), some (.inl a3)], [.inl (0 : Int32)]), σ)) rfl ?_
        exact Wp.jump (WpD.mono _) rfl ((T_X4_joined_b73 e N  r τ Q hQ ) (0 : Int32) σ h)
      · have h := (if_neg hc).symm.trans h
        exact Wp.jump (WpD.mono _) rfl ((T_X4_joined_b68 e N (F_X4_joined_b73 N) r τ Q hQ (T_X4_joined_b73 e N  r τ Q hQ )) σ h)
    · have h := (if_neg hc).symm.trans h
      exact Wp.jump (WpD.mono _) rfl ((T_X4_joined_b68 e N (F_X4_joined_b73 N) r τ Q hQ (T_X4_joined_b73 e N  r τ Q hQ )) σ h)
  have h := (if_neg hs0).symm.trans h
  by_cases hs1 : a1 = 8
  · have h := (if_pos hs1).symm.trans h
    refine Wp.swIn (WpD.mono _) (q := ((77, [some (.inl a1), some (.inl a2), some (.inl a3)], []), σ)) hs1 rfl ?_
    refine Wp.br (WpD.mono _) 1 (c := a2 = 0) (q1 := ((89, [some (.inl a1), some (.inl a2), some (.inl a3)], []), σ)) (q2 := ((81, [some (.inl a1), some (.inl a2), some (.inl a3)], []), σ)) rfl (fun hc => ?_) (fun hc => ?_)
    · have h := (if_pos hc).symm.trans h
      exact Wp.jump (WpD.mono _) rfl ((T_X4_joined_b89 e N (F_X4_joined_b90 N) r τ Q hQ (T_X4_joined_b90 e N  r τ Q hQ )) σ h)
    · have h := (if_neg hc).symm.trans h
      refine Wp.br (WpD.mono _) 1 (c := a3 = 0) (q1 := ((89, [some (.inl a1), some (.inl a2), some (.inl a3)], []), σ)) (q2 := ((85, [some (.inl a1), some (.inl a2), some (.inl a3)], []), σ)) rfl (fun hc => ?_) (fun hc => ?_)
      · have h := (if_pos hc).symm.trans h
        exact Wp.jump (WpD.mono _) rfl ((T_X4_joined_b89 e N (F_X4_joined_b90 N) r τ Q hQ (T_X4_joined_b90 e N  r τ Q hQ )) σ h)
      · have h := (if_neg hc).symm.trans h
        refine Wp.run (WpD.mono _) 1 (q := ((90, [some (.inl a1), some (.inl a2), some (.inl a3)], [.inl (1 : Int32)]), σ)) rfl ?_
        exact Wp.jump (WpD.mono _) rfl ((T_X4_joined_b90 e N  r τ Q hQ ) (1 : Int32) σ h)
  have h := (if_neg hs1).symm.trans h
  by_cases hs2 : a1 = 43
  · have h := (if_pos hs2).symm.trans h
    refine Wp.swIn (WpD.mono _) (q := ((122, [some (.inl a1), some (.inl a2), some (.inl a3)], []), σ)) hs2 rfl ?_
    refine Wp.run (WpD.mono _) 2 (q := ((125, [some (.inl a1), some (.inl a2), some (.inl a3)], [.inl (a2 + a3)]), σ)) rfl ?_
    cases h
    exact Wp.ret (WpD.mono _) rfl hQ
  have h := (if_neg hs2).symm.trans h
  by_cases hs3 : a1 = 45
  · have h := (if_pos hs3).symm.trans h
    refine Wp.swIn (WpD.mono _) (q := ((126, [some (.inl a1), some (.inl a2), some (.inl a3)], []), σ)) hs3 rfl ?_
    refine Wp.run (WpD.mono _) 2 (q := ((129, [some (.inl a1), some (.inl a2), some (.inl a3)], [.inl (a2 - a3)]), σ)) rfl ?_
    cases h
    exact Wp.ret (WpD.mono _) rfl hQ
  have h := (if_neg hs3).symm.trans h
  by_cases hs4 : a1 = 60
  · have h := (if_pos hs4).symm.trans h
    refine Wp.swIn (WpD.mono _) (q := ((94, [some (.inl a1), some (.inl a2), some (.inl a3)], []), σ)) hs4 rfl ?_
    refine Wp.br (WpD.mono _) 2 (c := a3 ≤ a2) (q1 := ((103, [some (.inl a1), some (.inl a2), some (.inl a3)], []), σ)) (q2 := ((99, [some (.inl a1), some (.inl a2), some (.inl a3)], []), σ)) rfl (fun hc => ?_) (fun hc => ?_)
    · have h := (if_pos hc).symm.trans h
      refine Wp.run (WpD.mono _) 0 (q := ((104, [some (.inl a1), some (.inl a2), some (.inl a3)], [.inl (0 : Int32)]), σ)) rfl ?_
      exact Wp.jump (WpD.mono _) rfl ((T_X4_joined_b104 e N  r τ Q hQ ) (0 : Int32) σ h)
    · have h := (if_neg hc).symm.trans h
      refine Wp.run (WpD.mono _) 1 (q := ((104, [some (.inl a1), some (.inl a2), some (.inl a3)], [.inl (1 : Int32)]), σ)) rfl ?_
      exact Wp.jump (WpD.mono _) rfl ((T_X4_joined_b104 e N  r τ Q hQ ) (1 : Int32) σ h)
  have h := (if_neg hs4).symm.trans h
  by_cases hs5 : a1 = 61
  · have h := (if_pos hs5).symm.trans h
    refine Wp.swIn (WpD.mono _) (q := ((108, [some (.inl a1), some (.inl a2), some (.inl a3)], []), σ)) hs5 rfl ?_
    refine Wp.br (WpD.mono _) 2 (c := a2 = a3) (q1 := ((113, [some (.inl a1), some (.inl a2), some (.inl a3)], []), σ)) (q2 := ((117, [some (.inl a1), some (.inl a2), some (.inl a3)], []), σ)) rfl (fun hc => ?_) (fun hc => ?_)
    · have h := (if_pos hc).symm.trans h
      refine Wp.run (WpD.mono _) 1 (q := ((118, [some (.inl a1), some (.inl a2), some (.inl a3)], [.inl (1 : Int32)]), σ)) rfl ?_
      exact Wp.jump (WpD.mono _) rfl ((T_X4_joined_b118 e N  r τ Q hQ ) (1 : Int32) σ h)
    · have h := (if_neg hc).symm.trans h
      refine Wp.run (WpD.mono _) 0 (q := ((118, [some (.inl a1), some (.inl a2), some (.inl a3)], [.inl (0 : Int32)]), σ)) rfl ?_
      exact Wp.jump (WpD.mono _) rfl ((T_X4_joined_b118 e N  r τ Q hQ ) (0 : Int32) σ h)
  have h := (if_neg hs5).symm.trans h
  have ehs0 : ¬ 7 = (a1).toInt := fun z => hs0 (Int32.toInt_inj.mp z.symm)
  have ehs1 : ¬ 8 = (a1).toInt := fun z => hs1 (Int32.toInt_inj.mp z.symm)
  have ehs2 : ¬ 43 = (a1).toInt := fun z => hs2 (Int32.toInt_inj.mp z.symm)
  have ehs3 : ¬ 45 = (a1).toInt := fun z => hs3 (Int32.toInt_inj.mp z.symm)
  have ehs4 : ¬ 60 = (a1).toInt := fun z => hs4 (Int32.toInt_inj.mp z.symm)
  have ehs5 : ¬ 61 = (a1).toInt := fun z => hs5 (Int32.toInt_inj.mp z.symm)
  refine Wp.swOut (WpD.mono _) (q := ((130, [some (.inl a1), some (.inl a2), some (.inl a3)], []), σ)) (o := some (Op.lookupswitch.offset [(7, 59), (8, 76), (43, 121), (45, 125), (60, 93), (61, 107)] 129 (a1).toInt)) (o' := some (129)) rfl (by simp [Op.lookupswitch.offset, ehs0, ehs1, ehs2, ehs3, ehs4, ehs5]) rfl ?_
  refine Wp.run (WpD.mono _) 2 (q := ((133, [some (.inl a1), some (.inl a2), some (.inl a3)], [.inl (a2 * a3)]), σ)) rfl ?_
  cases h
  exact Wp.ret (WpD.mono _) rfl hQ

set_option maxRecDepth 100000 in
set_option maxHeartbeats 4000000 in
theorem T_X4_turned_b15 (e N : Nat)   (r : Int32) (τ : Mem) (Q : Pst) (hQ : Q (some (.inl r)) τ) : ∀ (s0 : Int32) (σ : Mem), F_X4_turned_b15 N s0 σ = some (r, τ) → Wp (WpD (e + 1)) hcX4_turned Q (15, [none, none], [.inl s0]) σ := by
  intro s0 σ h
  unfold F_X4_turned_b15 at h
  obtain ⟨q1, hb, h⟩ := bind_some h
  refine Wp.call (WpD.mono _) rfl (T_X4_truth (e + 0) N s0 σ _ _ _ hb ?_)
  show Wp (WpD (e + 1)) hcX4_turned Q (18, [none, none], [.inl q1.1]) q1.2
  refine Wp.run (WpD.mono _) 0 (q := ((23, [none, none], [.inl q1.1]), q1.2)) rfl ?_
  cases h
  exact Wp.ret (WpD.mono _) rfl hQ

set_option maxRecDepth 100000 in
set_option maxHeartbeats 4000000 in
theorem T_X4_turned (e N : Nat)  (a1 : Int32) (a2 : Int32) (σ : Mem) (r : Int32) (τ : Mem) (Q : Pst) (h : F_X4_turned N a1 a2 σ = some (r, τ)) (hQ : Q (some (.inl r)) τ) : WpD (e + 2) mX4_turned [.inl a1, .inl a2] σ Q := by
  refine WpD.of (d := e + 1) (Nat.le_of_ble_eq_true rfl) (Nat.le_of_ble_eq_true rfl) ?_
  show Wp (WpD (e + 1)) hcX4_turned Q (0, [some (.inl a1), some (.inl a2)], []) σ
  unfold F_X4_turned at h
  refine Wp.br (WpD.mono _) 2 (c := a1 = (9 : Int32)) (q1 := ((6, [some (.inl a1), some (.inl a2)], []), σ)) (q2 := ((21, [some (.inl a1), some (.inl a2)], []), σ)) rfl (fun hc => ?_) (fun hc => ?_)
  · have h := (if_pos hc).symm.trans h
    refine Wp.br (WpD.mono _) 1 (c := a2 = 0) (q1 := ((10, [some (.inl a1), some (.inl a2)], []), σ)) (q2 := ((14, [some (.inl a1), some (.inl a2)], []), σ)) rfl (fun hc => ?_) (fun hc => ?_)
    · have h := (if_pos hc).symm.trans h
      refine Wp.run (WpD.mono _) 1 (q := ((15, [some (.inl a1), some (.inl a2)], [.inl (1 : Int32)]), σ)) rfl ?_
      exact Wp.jump (WpD.mono _) rfl ((T_X4_turned_b15 e N  r τ Q hQ ) (1 : Int32) σ h)
    · have h := (if_neg hc).symm.trans h
      refine Wp.run (WpD.mono _) 0 (q := ((15, [some (.inl a1), some (.inl a2)], [.inl (0 : Int32)]), σ)) rfl ?_
      exact Wp.jump (WpD.mono _) rfl ((T_X4_turned_b15 e N  r τ Q hQ ) (0 : Int32) σ h)
  · have h := (if_neg hc).symm.trans h
    refine Wp.run (WpD.mono _) 1 (q := ((23, [some (.inl a1), some (.inl a2)], [.inl (-a2)]), σ)) rfl ?_
    cases h
    exact Wp.ret (WpD.mono _) rfl hQ

set_option maxRecDepth 100000 in
set_option maxHeartbeats 4000000 in
theorem T_X4_valueOf (e N : Nat)  (a1 : Int32) (σ : Mem) (r : Int32) (τ : Mem) (Q : Pst) (h : F_X4_valueOf N a1 σ = some (r, τ)) (hQ : Q (some (.inl r)) τ) : WpD (e + 1) mX4_valueOf [.inr (.inr (2, 0)), .inl a1] σ Q := by
  refine WpD.of (d := e + 0) (Nat.le_of_ble_eq_true rfl) (Nat.le_of_ble_eq_true rfl) ?_
  show Wp (WpD (e + 0)) hcX4_valueOf Q (0, [some (.inr (.inr (2, 0))), some (.inl a1)], []) σ
  unfold F_X4_valueOf at h
  refine Wp.br (WpD.mono _) 1 (c := a1 < 0) (q1 := ((19, [some (.inr (.inr (2, 0))), some (.inl a1)], []), σ)) (q2 := ((4, [some (.inr (.inr (2, 0))), some (.inl a1)], []), σ)) rfl (fun hc => ?_) (fun hc => ?_)
  · have h := (if_pos hc).symm.trans h
    refine Wp.run (WpD.mono _) 0 (q := ((20, [none, none], [.inl (0 : Int32)]), σ)) rfl ?_
    cases h
    exact Wp.ret (WpD.mono _) rfl hQ
  · have h := (if_neg hc).symm.trans h
    refine Wp.br (WpD.mono _) 2 (c := (6 : Int32) ≤ a1) (q1 := ((19, [some (.inr (.inr (2, 0))), some (.inl a1)], []), σ)) (q2 := ((10, [some (.inr (.inr (2, 0))), some (.inl a1)], []), σ)) rfl (fun hc => ?_) (fun hc => ?_)
    · have h := (if_pos hc).symm.trans h
      refine Wp.run (WpD.mono _) 0 (q := ((20, [none, none], [.inl (0 : Int32)]), σ)) rfl ?_
      cases h
      exact Wp.ret (WpD.mono _) rfl hQ
    · have h := (if_neg hc).symm.trans h
      obtain ⟨hc, h⟩ := ite_nn h
      refine Wp.no (WpD.mono _) 3 (c := hwOut a1 6) (q := ((16, [some (.inr (.inr (2, 0))), some (.inl a1)], [.inl (σ.2.2.1 47 0 (a1).toNatClampNeg)]), σ)) rfl hc ?_
      refine Wp.run (WpD.mono _) 0 (q := ((20, [some (.inr (.inr (2, 0))), some (.inl a1)], [.inl (σ.2.2.1 47 0 (a1).toNatClampNeg)]), σ)) rfl ?_
      cases h
      exact Wp.ret (WpD.mono _) rfl hQ

set_option maxRecDepth 100000 in
set_option maxHeartbeats 4000000 in
theorem T_X4_worked_t39_b76 (e N : Nat)  (k9 : Nat → Int32 → Int32 → Mem → Option (Int32 × Mem)) (r : Int32) (τ : Mem) (Q : Pst) (hQ : Q (some (.inl r)) τ) (hk9 : ∀ (x1 : Nat) (x3 : Int32) (x4 : Int32) (σ : Mem), k9 x1 x3 x4 σ = some (r, τ) → Wp (WpD (e + 2)) hcX4_worked Q (9, [some (.inr (.inr (2, 0))), some (.inr (.inr (39, x1))), none, some (.inl x3), some (.inl x4), none], []) σ) : ∀ (x1 : Nat) (x3 : Int32) (x4 : Int32) (s0 : Int32) (s1 : Int32) (σ : Mem), F_X4_worked_t39_b76 N k9 x1 x3 x4 s0 s1 σ = some (r, τ) → Wp (WpD (e + 2)) hcX4_worked Q (76, [some (.inr (.inr (2, 0))), some (.inr (.inr (39, x1))), none, some (.inl x3), some (.inl x4), none], [.inl s0, .inl s1, .inr (.inr (48, 0))]) σ := by
  intro x1 x3 x4 s0 s1 σ h
  unfold F_X4_worked_t39_b76 at h
  obtain ⟨hc, h⟩ := ite_nn h
  refine Wp.no (WpD.mono _) 0 (c := hwOut s1 160) (q := ((77, [some (.inr (.inr (2, 0))), some (.inr (.inr (39, x1))), none, some (.inl x3), some (.inl x4), none], []), (σ.1, σ.2.1, (hwU3 σ.2.2.1 48 0 (s1).toNatClampNeg s0), σ.2.2.2.1, σ.2.2.2.2))) rfl hc ?_
  refine Wp.run (WpD.mono _) 3 (q := ((9, [some (.inr (.inr (2, 0))), some (.inr (.inr (39, x1))), none, some (.inl (x3 + (1 : Int32))), some (.inl (x4 + (1 : Int32))), none], []), (σ.1, σ.2.1, (hwU3 σ.2.2.1 48 0 (s1).toNatClampNeg s0), σ.2.2.2.1, σ.2.2.2.2))) rfl ?_
  exact Wp.jump (WpD.mono _) rfl (hk9 x1 (x3 + (1 : Int32)) (x4 + (1 : Int32)) (σ.1, σ.2.1, (hwU3 σ.2.2.1 48 0 (s1).toNatClampNeg s0), σ.2.2.2.1, σ.2.2.2.2) h)

set_option maxRecDepth 100000 in
set_option maxHeartbeats 4000000 in
theorem T_X4_worked_t39_b168 (e N : Nat)   (r : Int32) (τ : Mem) (Q : Pst) (hQ : Q (some (.inl r)) τ) : ∀ (x3 : Int32) (σ : Mem), F_X4_worked_t39_b168 N x3 σ = some (r, τ) → Wp (WpD (e + 2)) hcX4_worked Q (168, [some (.inr (.inr (2, 0))), none, none, some (.inl x3), none, none], []) σ := by
  intro x3 σ h
  unfold F_X4_worked_t39_b168 at h
  refine Wp.br (WpD.mono _) 1 (c := x3 ≤ 0) (q1 := ((181, [some (.inr (.inr (2, 0))), none, none, some (.inl x3), none, none], []), σ)) (q2 := ((172, [some (.inr (.inr (2, 0))), none, none, some (.inl x3), none, none], []), σ)) rfl (fun hc => ?_) (fun hc => ?_)
  · have h := (if_pos hc).symm.trans h
    refine Wp.run (WpD.mono _) 0 (q := ((182, [some (.inr (.inr (2, 0))), none, none, some (.inl x3), none, none], [.inl (0 : Int32)]), σ)) rfl ?_
    cases h
    exact Wp.ret (WpD.mono _) rfl hQ
  · have h := (if_neg hc).symm.trans h
    refine Wp.run (WpD.mono _) 4 (q := ((182, [some (.inr (.inr (2, 0))), none, none, some (.inl x3), none, none], [.inl (σ.2.2.1 48 0 0)]), σ)) rfl ?_
    cases h
    exact Wp.ret (WpD.mono _) rfl hQ

set_option maxRecDepth 100000 in
set_option maxHeartbeats 4000000 in
theorem T_X4_worked_t39_b9 (e N : Nat)   (r : Int32) (τ : Mem) (Q : Pst) (hQ : Q (some (.inl r)) τ) : ∀ n, ∀ (x1 : Nat) (x3 : Int32) (x4 : Int32) (σ : Mem), F_X4_worked_t39_b9 N n x1 x3 x4 σ = some (r, τ) → Wp (WpD (e + 2)) hcX4_worked Q (9, [some (.inr (.inr (2, 0))), some (.inr (.inr (39, x1))), none, some (.inl x3), some (.inl x4), none], []) σ := by
  intro n
  induction n with
  | zero => intro x1 x3 x4 σ h; cases h
  | succ n ih =>
    intro x1 x3 x4 σ h
    unfold F_X4_worked_t39_b9 at h
    refine Wp.br (WpD.mono _) 3 (c := (160 : Int32) ≤ x4) (q1 := ((168, [some (.inr (.inr (2, 0))), some (.inr (.inr (39, x1))), none, some (.inl x3), some (.inl x4), none], []), σ)) (q2 := ((16, [some (.inr (.inr (2, 0))), some (.inr (.inr (39, x1))), none, some (.inl x3), some (.inl x4), none], []), σ)) rfl (fun hc => ?_) (fun hc => ?_)
    · have h := (if_pos hc).symm.trans h
      exact Wp.jump (WpD.mono _) rfl ((T_X4_worked_t39_b168 e N  r τ Q hQ ) x3 σ h)
    · have h := (if_neg hc).symm.trans h
      obtain ⟨hc, h⟩ := ite_nn h
      refine Wp.no (WpD.mono _) 2 (c := hwOut x4 160) (q := ((20, [some (.inr (.inr (2, 0))), some (.inr (.inr (39, x1))), none, some (.inl x3), some (.inl x4), none], [.inl (σ.2.2.1 39 x1 (x4).toNatClampNeg)]), σ)) rfl hc ?_
      refine Wp.br (WpD.mono _) 1 (c := (σ.2.2.1 39 x1 (x4).toNatClampNeg) = (40000 : Int32)) (q1 := ((168, [some (.inr (.inr (2, 0))), some (.inr (.inr (39, x1))), none, some (.inl x3), some (.inl x4), none], []), σ)) (q2 := ((25, [some (.inr (.inr (2, 0))), some (.inr (.inr (39, x1))), none, some (.inl x3), some (.inl x4), none], []), σ)) rfl (fun hc => ?_) (fun hc => ?_)
      · have h := (if_pos hc).symm.trans h
        exact Wp.jump (WpD.mono _) rfl ((T_X4_worked_t39_b168 e N  r τ Q hQ ) x3 σ h)
      · have h := (if_neg hc).symm.trans h
        obtain ⟨hc, h⟩ := ite_nn h
        refine Wp.no (WpD.mono _) 2 (c := hwOut x4 160) (q := ((29, [some (.inr (.inr (2, 0))), some (.inr (.inr (39, x1))), none, some (.inl x3), some (.inl x4), none], [.inl (σ.2.2.1 39 x1 (x4).toNatClampNeg)]), σ)) rfl hc ?_
        refine Wp.br (WpD.mono _) 3 (c := (20000 : Int32) ≤ (σ.2.2.1 39 x1 (x4).toNatClampNeg)) (q1 := ((83, [some (.inr (.inr (2, 0))), some (.inr (.inr (39, x1))), none, some (.inl x3), some (.inl x4), some (.inl (σ.2.2.1 39 x1 (x4).toNatClampNeg))], []), σ)) (q2 := ((39, [some (.inr (.inr (2, 0))), some (.inr (.inr (39, x1))), none, some (.inl x3), some (.inl x4), some (.inl (σ.2.2.1 39 x1 (x4).toNatClampNeg))], []), σ)) rfl (fun hc => ?_) (fun hc => ?_)
        · have h := (if_pos hc).symm.trans h
          refine Wp.br (WpD.mono _) 2 (c := (σ.2.2.1 39 x1 (x4).toNatClampNeg) < (30000 : Int32)) (q1 := ((123, [some (.inr (.inr (2, 0))), some (.inr (.inr (39, x1))), none, some (.inl x3), some (.inl x4), some (.inl (σ.2.2.1 39 x1 (x4).toNatClampNeg))], []), σ)) (q2 := ((91, [some (.inr (.inr (2, 0))), some (.inr (.inr (39, x1))), none, some (.inl x3), some (.inl x4), some (.inl (σ.2.2.1 39 x1 (x4).toNatClampNeg))], []), σ)) rfl (fun hc => ?_) (fun hc => ?_)
          · have h := (if_pos hc).symm.trans h
            refine Wp.br (WpD.mono _) 2 (c := x3 ≤ (1 : Int32)) (q1 := ((162, [some (.inr (.inr (2, 0))), some (.inr (.inr (39, x1))), none, some (.inl x3), some (.inl x4), some (.inl (σ.2.2.1 39 x1 (x4).toNatClampNeg))], []), σ)) (q2 := ((128, [some (.inr (.inr (2, 0))), some (.inr (.inr (39, x1))), none, some (.inl x3), some (.inl x4), some (.inl (σ.2.2.1 39 x1 (x4).toNatClampNeg))], []), σ)) rfl (fun hc => ?_) (fun hc => ?_)
            · have h := (if_pos hc).symm.trans h
              refine Wp.run (WpD.mono _) 1 (q := ((9, [some (.inr (.inr (2, 0))), some (.inr (.inr (39, x1))), none, some (.inl x3), some (.inl (x4 + (1 : Int32))), none], []), σ)) rfl ?_
              exact Wp.jump (WpD.mono _) rfl (ih x1 x3 (x4 + (1 : Int32)) σ h)
            · have h := (if_neg hc).symm.trans h
              obtain ⟨hc, h⟩ := ite_nn h
              refine Wp.no (WpD.mono _) 14 (c := hwOut ((x3 + (-1 : Int32)) - (1 : Int32)) 160) (q := ((152, [some (.inr (.inr (2, 0))), some (.inr (.inr (39, x1))), none, some (.inl (x3 + (-1 : Int32))), some (.inl x4), some (.inl (σ.2.2.1 39 x1 (x4).toNatClampNeg))], [.inl (σ.2.2.1 48 0 (((x3 + (-1 : Int32)) - (1 : Int32))).toNatClampNeg), .inl ((σ.2.2.1 39 x1 (x4).toNatClampNeg) - (20000 : Int32)), .inl ((x3 + (-1 : Int32)) - (1 : Int32)), .inr (.inr (48, 0))]), σ)) rfl hc ?_
              obtain ⟨hc, h⟩ := ite_nn h
              refine Wp.no (WpD.mono _) 3 (c := hwOut (x3 + (-1 : Int32)) 160) (q := ((158, [some (.inr (.inr (2, 0))), some (.inr (.inr (39, x1))), none, some (.inl (x3 + (-1 : Int32))), some (.inl x4), some (.inl (σ.2.2.1 39 x1 (x4).toNatClampNeg))], [.inl (σ.2.2.1 48 0 ((x3 + (-1 : Int32))).toNatClampNeg), .inl (σ.2.2.1 48 0 (((x3 + (-1 : Int32)) - (1 : Int32))).toNatClampNeg), .inl ((σ.2.2.1 39 x1 (x4).toNatClampNeg) - (20000 : Int32)), .inl ((x3 + (-1 : Int32)) - (1 : Int32)), .inr (.inr (48, 0))]), σ)) rfl hc ?_
              obtain ⟨q1, hb, h⟩ := bind_some h
              refine Wp.call (WpD.mono _) rfl (T_X4_joined (e + 0) N ((σ.2.2.1 39 x1 (x4).toNatClampNeg) - (20000 : Int32)) (σ.2.2.1 48 0 (((x3 + (-1 : Int32)) - (1 : Int32))).toNatClampNeg) (σ.2.2.1 48 0 ((x3 + (-1 : Int32))).toNatClampNeg) σ _ _ _ hb ?_)
              show Wp (WpD (e + 2)) hcX4_worked Q (161, [some (.inr (.inr (2, 0))), some (.inr (.inr (39, x1))), none, some (.inl (x3 + (-1 : Int32))), some (.inl x4), some (.inl (σ.2.2.1 39 x1 (x4).toNatClampNeg))], [.inl q1.1, .inl ((x3 + (-1 : Int32)) - (1 : Int32)), .inr (.inr (48, 0))]) q1.2
              obtain ⟨hc, h⟩ := ite_nn h
              refine Wp.no (WpD.mono _) 0 (c := hwOut ((x3 + (-1 : Int32)) - (1 : Int32)) 160) (q := ((162, [some (.inr (.inr (2, 0))), some (.inr (.inr (39, x1))), none, some (.inl (x3 + (-1 : Int32))), some (.inl x4), some (.inl (σ.2.2.1 39 x1 (x4).toNatClampNeg))], []), (q1.2.1, q1.2.2.1, (hwU3 q1.2.2.2.1 48 0 (((x3 + (-1 : Int32)) - (1 : Int32))).toNatClampNeg q1.1), q1.2.2.2.2.1, q1.2.2.2.2.2))) rfl hc ?_
              refine Wp.run (WpD.mono _) 1 (q := ((9, [some (.inr (.inr (2, 0))), some (.inr (.inr (39, x1))), none, some (.inl (x3 + (-1 : Int32))), some (.inl (x4 + (1 : Int32))), none], []), (q1.2.1, q1.2.2.1, (hwU3 q1.2.2.2.1 48 0 (((x3 + (-1 : Int32)) - (1 : Int32))).toNatClampNeg q1.1), q1.2.2.2.2.1, q1.2.2.2.2.2))) rfl ?_
              exact Wp.jump (WpD.mono _) rfl (ih x1 (x3 + (-1 : Int32)) (x4 + (1 : Int32)) (q1.2.1, q1.2.2.1, (hwU3 q1.2.2.2.1 48 0 (((x3 + (-1 : Int32)) - (1 : Int32))).toNatClampNeg q1.1), q1.2.2.2.2.1, q1.2.2.2.2.2) h)
          · have h := (if_neg hc).symm.trans h
            refine Wp.br (WpD.mono _) 1 (c := x3 ≤ 0) (q1 := ((162, [some (.inr (.inr (2, 0))), some (.inr (.inr (39, x1))), none, some (.inl x3), some (.inl x4), some (.inl (σ.2.2.1 39 x1 (x4).toNatClampNeg))], []), σ)) (q2 := ((95, [some (.inr (.inr (2, 0))), some (.inr (.inr (39, x1))), none, some (.inl x3), some (.inl x4), some (.inl (σ.2.2.1 39 x1 (x4).toNatClampNeg))], []), σ)) rfl (fun hc => ?_) (fun hc => ?_)
            · have h := (if_pos hc).symm.trans h
              refine Wp.run (WpD.mono _) 1 (q := ((9, [some (.inr (.inr (2, 0))), some (.inr (.inr (39, x1))), none, some (.inl x3), some (.inl (x4 + (1 : Int32))), none], []), σ)) rfl ?_
              exact Wp.jump (WpD.mono _) rfl (ih x1 x3 (x4 + (1 : Int32)) σ h)
            · have h := (if_neg hc).symm.trans h
              obtain ⟨hc, h⟩ := ite_nn h
              refine Wp.no (WpD.mono _) 13 (c := hwOut (x3 - (1 : Int32)) 160) (q := ((116, [some (.inr (.inr (2, 0))), some (.inr (.inr (39, x1))), none, some (.inl x3), some (.inl x4), some (.inl (σ.2.2.1 39 x1 (x4).toNatClampNeg))], [.inl (σ.2.2.1 48 0 ((x3 - (1 : Int32))).toNatClampNeg), .inl ((σ.2.2.1 39 x1 (x4).toNatClampNeg) - (30000 : Int32)), .inl (x3 - (1 : Int32)), .inr (.inr (48, 0))]), σ)) rfl hc ?_
              obtain ⟨q2, hb, h⟩ := bind_some h
              refine Wp.call (WpD.mono _) rfl (T_X4_turned (e + 0) N ((σ.2.2.1 39 x1 (x4).toNatClampNeg) - (30000 : Int32)) (σ.2.2.1 48 0 ((x3 - (1 : Int32))).toNatClampNeg) σ _ _ _ hb ?_)
              show Wp (WpD (e + 2)) hcX4_worked Q (119, [some (.inr (.inr (2, 0))), some (.inr (.inr (39, x1))), none, some (.inl x3), some (.inl x4), some (.inl (σ.2.2.1 39 x1 (x4).toNatClampNeg))], [.inl q2.1, .inl (x3 - (1 : Int32)), .inr (.inr (48, 0))]) q2.2
              obtain ⟨hc, h⟩ := ite_nn h
              refine Wp.no (WpD.mono _) 0 (c := hwOut (x3 - (1 : Int32)) 160) (q := ((120, [some (.inr (.inr (2, 0))), some (.inr (.inr (39, x1))), none, some (.inl x3), some (.inl x4), some (.inl (σ.2.2.1 39 x1 (x4).toNatClampNeg))], []), (q2.2.1, q2.2.2.1, (hwU3 q2.2.2.2.1 48 0 ((x3 - (1 : Int32))).toNatClampNeg q2.1), q2.2.2.2.2.1, q2.2.2.2.2.2))) rfl hc ?_
              refine Wp.run (WpD.mono _) 2 (q := ((9, [some (.inr (.inr (2, 0))), some (.inr (.inr (39, x1))), none, some (.inl x3), some (.inl (x4 + (1 : Int32))), none], []), (q2.2.1, q2.2.2.1, (hwU3 q2.2.2.2.1 48 0 ((x3 - (1 : Int32))).toNatClampNeg q2.1), q2.2.2.2.2.1, q2.2.2.2.2.2))) rfl ?_
              exact Wp.jump (WpD.mono _) rfl (ih x1 x3 (x4 + (1 : Int32)) (q2.2.1, q2.2.2.1, (hwU3 q2.2.2.2.1 48 0 ((x3 - (1 : Int32))).toNatClampNeg q2.1), q2.2.2.2.2.1, q2.2.2.2.2.2) h)
        · have h := (if_neg hc).symm.trans h
          refine Wp.br (WpD.mono _) 4 (c := (160 : Int32) ≤ x3) (q1 := ((162, [some (.inr (.inr (2, 0))), some (.inr (.inr (39, x1))), none, some (.inl x3), some (.inl x4), some (.inl (σ.2.2.1 39 x1 (x4).toNatClampNeg))], []), σ)) (q2 := ((48, [some (.inr (.inr (2, 0))), some (.inr (.inr (39, x1))), none, some (.inl x3), some (.inl x4), some (.inl (σ.2.2.1 39 x1 (x4).toNatClampNeg))], []), σ)) rfl (fun hc => ?_) (fun hc => ?_)
          · have h := (if_pos hc).symm.trans h
            refine Wp.run (WpD.mono _) 1 (q := ((9, [some (.inr (.inr (2, 0))), some (.inr (.inr (39, x1))), none, some (.inl x3), some (.inl (x4 + (1 : Int32))), none], []), σ)) rfl ?_
            exact Wp.jump (WpD.mono _) rfl (ih x1 x3 (x4 + (1 : Int32)) σ h)
          · have h := (if_neg hc).symm.trans h
            refine Wp.br (WpD.mono _) 5 (c := (10000 : Int32) ≤ (σ.2.2.1 39 x1 (x4).toNatClampNeg)) (q1 := ((66, [some (.inr (.inr (2, 0))), some (.inr (.inr (39, x1))), none, some (.inl x3), some (.inl x4), some (.inl (σ.2.2.1 39 x1 (x4).toNatClampNeg))], [.inl x3, .inr (.inr (48, 0))]), σ)) (q2 := ((61, [some (.inr (.inr (2, 0))), some (.inr (.inr (39, x1))), none, some (.inl x3), some (.inl x4), some (.inl (σ.2.2.1 39 x1 (x4).toNatClampNeg))], [.inl x3, .inr (.inr (48, 0))]), σ)) rfl (fun hc => ?_) (fun hc => ?_)
            · have h := (if_pos hc).symm.trans h
              refine Wp.run (WpD.mono _) 3 (q := ((73, [some (.inr (.inr (2, 0))), some (.inr (.inr (39, x1))), none, some (.inl x3), some (.inl x4), some (.inl (σ.2.2.1 39 x1 (x4).toNatClampNeg))], [.inl ((σ.2.2.1 39 x1 (x4).toNatClampNeg) - (10000 : Int32)), .inr (.inr (2, 0)), .inl x3, .inr (.inr (48, 0))]), σ)) rfl ?_
              obtain ⟨q3, hb, h⟩ := bind_some h
              refine Wp.call (WpD.mono _) rfl (T_X4_valueOf (e + 1) N ((σ.2.2.1 39 x1 (x4).toNatClampNeg) - (10000 : Int32)) σ _ _ _ hb ?_)
              show Wp (WpD (e + 2)) hcX4_worked Q (76, [some (.inr (.inr (2, 0))), some (.inr (.inr (39, x1))), none, some (.inl x3), some (.inl x4), some (.inl (σ.2.2.1 39 x1 (x4).toNatClampNeg))], [.inl q3.1, .inl x3, .inr (.inr (48, 0))]) q3.2
              exact Wp.jump (WpD.mono _) rfl ((T_X4_worked_t39_b76 e N (F_X4_worked_t39_b9 N n) r τ Q hQ ih) x1 x3 x4 q3.1 x3 q3.2 h)
            · have h := (if_neg hc).symm.trans h
              refine Wp.run (WpD.mono _) 1 (q := ((76, [some (.inr (.inr (2, 0))), some (.inr (.inr (39, x1))), none, some (.inl x3), some (.inl x4), some (.inl (σ.2.2.1 39 x1 (x4).toNatClampNeg))], [.inl (σ.2.2.1 39 x1 (x4).toNatClampNeg), .inl x3, .inr (.inr (48, 0))]), σ)) rfl ?_
              exact Wp.jump (WpD.mono _) rfl ((T_X4_worked_t39_b76 e N (F_X4_worked_t39_b9 N n) r τ Q hQ ih) x1 x3 x4 (σ.2.2.1 39 x1 (x4).toNatClampNeg) x3 σ h)

set_option maxRecDepth 100000 in
set_option maxHeartbeats 4000000 in
theorem T_X4_worked_t39 (e N : Nat)  (a1 : Nat) (a2 : Int32) (σ : Mem) (r : Int32) (τ : Mem) (Q : Pst) (h : F_X4_worked_t39 N a1 a2 σ = some (r, τ)) (hQ : Q (some (.inl r)) τ) : WpD (e + 3) mX4_worked [.inr (.inr (2, 0)), .inr (.inr (39, a1)), .inl a2] σ Q := by
  refine WpD.of (d := e + 2) (Nat.le_of_ble_eq_true rfl) (Nat.le_of_ble_eq_true rfl) ?_
  show Wp (WpD (e + 2)) hcX4_worked Q (0, [some (.inr (.inr (2, 0))), some (.inr (.inr (39, a1))), some (.inl a2), none, none, none], []) σ
  unfold F_X4_worked_t39 at h
  refine Wp.run (WpD.mono _) 5 (q := ((9, [some (.inr (.inr (2, 0))), some (.inr (.inr (39, a1))), some (.inl a2), some (.inl (0 : Int32)), some (.inl (if (0 : Int32) < a2 then a2 else (0 : Int32))), none], []), σ)) rfl ?_
  exact Wp.jump (WpD.mono _) rfl ((T_X4_worked_t39_b9 e N  r τ Q hQ  N) a1 (0 : Int32) (if (0 : Int32) < a2 then a2 else (0 : Int32)) σ h)

set_option maxRecDepth 100000 in
set_option maxHeartbeats 4000000 in
theorem T_X4_part (e N : Nat)  (a1 : Int32) (a2 : Int32) (σ : Mem) (r : Int32) (τ : Mem) (Q : Pst) (h : F_X4_part N a1 a2 σ = some (r, τ)) (hQ : Q (some (.inl r)) τ) : WpD (e + 4) mX4_part [.inr (.inr (2, 0)), .inl a1, .inl a2] σ Q := by
  refine WpD.of (d := e + 3) (Nat.le_of_ble_eq_true rfl) (Nat.le_of_ble_eq_true rfl) ?_
  show Wp (WpD (e + 3)) hcX4_part Q (0, [some (.inr (.inr (2, 0))), some (.inl a1), some (.inl a2), none], []) σ
  unfold F_X4_part at h
  obtain ⟨hc, h⟩ := ite_nn h
  refine Wp.no (WpD.mono _) 5 (c := hwOut (σ.1 2 10) 6) (q := ((10, [some (.inr (.inr (2, 0))), some (.inl a1), some (.inl a2), none], [.inr (.inr (39, ((σ.1 2 10)).toNatClampNeg)), .inr (.inr (2, 0))]), σ)) rfl hc ?_
  obtain ⟨hc, h⟩ := ite_nn h
  refine Wp.no (WpD.mono _) 4 (c := hwOut (σ.1 2 10) 6) (q := ((19, [some (.inr (.inr (2, 0))), some (.inl a1), some (.inl a2), none], [.inr (.inr (41, ((σ.1 2 10)).toNatClampNeg)), .inr (.inr (39, ((σ.1 2 10)).toNatClampNeg)), .inr (.inr (2, 0))]), σ)) rfl hc ?_
  obtain ⟨hc, h⟩ := ite_nn h
  refine Wp.no (WpD.mono _) 1 (c := hwOut a1 3) (q := ((21, [some (.inr (.inr (2, 0))), some (.inl a1), some (.inl a2), none], [.inl (σ.2.2.1 41 ((σ.1 2 10)).toNatClampNeg (a1).toNatClampNeg), .inr (.inr (39, ((σ.1 2 10)).toNatClampNeg)), .inr (.inr (2, 0))]), σ)) rfl hc ?_
  obtain ⟨q1, hb, h⟩ := bind_some h
  refine Wp.call (WpD.mono _) rfl (T_X4_worked_t39 (e + 0) N ((σ.1 2 10)).toNatClampNeg (σ.2.2.1 41 ((σ.1 2 10)).toNatClampNeg (a1).toNatClampNeg) σ _ _ _ hb ?_)
  show Wp (WpD (e + 3)) hcX4_part Q (24, [some (.inr (.inr (2, 0))), some (.inl a1), some (.inl a2), none], [.inl q1.1]) q1.2
  refine Wp.run (WpD.mono _) 5 (q := ((34, [some (.inr (.inr (2, 0))), some (.inl a1), some (.inl a2), some (.inl q1.1)], [.inl (if (0 : Int32) < (if q1.1 < a2 then q1.1 else a2) then (if q1.1 < a2 then q1.1 else a2) else (0 : Int32))]), q1.2)) rfl ?_
  cases h
  exact Wp.ret (WpD.mono _) rfl hQ

set_option maxRecDepth 100000 in
set_option maxHeartbeats 4000000 in
theorem T_X4_weighLayers_t44_b2 (e N : Nat)   (r : Unit) (τ : Mem) (Q : Pst) (hQ : Q (none) τ) : ∀ n, ∀ (x1 : Nat) (x2 : Int32) (σ : Mem), F_X4_weighLayers_t44_b2 N n x1 x2 σ = some (r, τ) → Wp (WpD (e + 4)) hcX4_weighLayers Q (2, [some (.inr (.inr (2, 0))), some (.inr (.inr (44, x1))), some (.inl x2)], []) σ := by
  intro n
  induction n with
  | zero => intro x1 x2 σ h; cases h
  | succ n ih =>
    intro x1 x2 σ h
    unfold F_X4_weighLayers_t44_b2 at h
    refine Wp.br (WpD.mono _) 4 (c := (σ.1 1 6) ≤ x2) (q1 := ((66, [some (.inr (.inr (2, 0))), some (.inr (.inr (44, x1))), some (.inl x2)], []), σ)) (q2 := ((13, [some (.inr (.inr (2, 0))), some (.inr (.inr (44, x1))), some (.inl x2)], []), σ)) rfl (fun hc => ?_) (fun hc => ?_)
    · have h := (if_pos hc).symm.trans h
      refine Wp.run (WpD.mono _) 14 (q := ((87, [some (.inr (.inr (2, 0))), some (.inr (.inr (44, x1))), some (.inl x2)], []), (σ.1, σ.2.1, (hwU3 (hwU3 (hwU3 σ.2.2.1 47 0 1 (0 : Int32)) 47 0 2 (0 : Int32)) 47 0 3 (0 : Int32)), σ.2.2.2.1, σ.2.2.2.2))) rfl ?_
      cases h
      exact Wp.ret (WpD.mono _) rfl hQ
    · have h := (if_neg hc).symm.trans h
      obtain ⟨hc, h⟩ := ite_nn h
      refine Wp.no (WpD.mono _) 12 (c := hwOut x2 5) (q := ((34, [some (.inr (.inr (2, 0))), some (.inr (.inr (44, x1))), some (.inl x2)], [.inl (σ.2.2.1 22 0 (x2).toNatClampNeg), .inl (2 : Int32), .inr (.inr (47, 0))]), (σ.1, σ.2.1, (hwU3 σ.2.2.1 47 0 1 x2), σ.2.2.2.1, σ.2.2.2.2))) rfl hc ?_
      obtain ⟨hc, h⟩ := ite_nn h
      refine Wp.no (WpD.mono _) 8 (c := hwOut x2 5) (q := ((49, [some (.inr (.inr (2, 0))), some (.inr (.inr (44, x1))), some (.inl x2)], [.inl (σ.2.2.1 23 0 (x2).toNatClampNeg), .inl (3 : Int32), .inr (.inr (47, 0))]), (σ.1, σ.2.1, (hwU3 (hwU3 σ.2.2.1 47 0 1 x2) 47 0 2 (σ.2.2.1 22 0 (x2).toNatClampNeg)), σ.2.2.2.1, σ.2.2.2.2))) rfl hc ?_
      refine Wp.run (WpD.mono _) 5 (q := ((56, [some (.inr (.inr (2, 0))), some (.inr (.inr (44, x1))), some (.inl x2)], [.inl (100 : Int32), .inl (1 : Int32), .inr (.inr (2, 0)), .inl x2, .inr (.inr (44, x1))]), (σ.1, σ.2.1, (hwU3 (hwU3 (hwU3 σ.2.2.1 47 0 1 x2) 47 0 2 (σ.2.2.1 22 0 (x2).toNatClampNeg)) 47 0 3 (σ.2.2.1 23 0 (x2).toNatClampNeg)), σ.2.2.2.1, σ.2.2.2.2))) rfl ?_
      obtain ⟨q1, hb, h⟩ := bind_some h
      refine Wp.call (WpD.mono _) rfl (T_X4_part (e + 0) N (1 : Int32) (100 : Int32) (σ.1, σ.2.1, (hwU3 (hwU3 (hwU3 σ.2.2.1 47 0 1 x2) 47 0 2 (σ.2.2.1 22 0 (x2).toNatClampNeg)) 47 0 3 (σ.2.2.1 23 0 (x2).toNatClampNeg)), σ.2.2.2.1, σ.2.2.2.2) _ _ _ hb ?_)
      show Wp (WpD (e + 4)) hcX4_weighLayers Q (59, [some (.inr (.inr (2, 0))), some (.inr (.inr (44, x1))), some (.inl x2)], [.inl q1.1, .inl x2, .inr (.inr (44, x1))]) q1.2
      obtain ⟨hc, h⟩ := ite_nn h
      refine Wp.no (WpD.mono _) 0 (c := hwOut x2 5) (q := ((60, [some (.inr (.inr (2, 0))), some (.inr (.inr (44, x1))), some (.inl x2)], []), (q1.2.1, q1.2.2.1, (hwU3 q1.2.2.2.1 44 x1 (x2).toNatClampNeg q1.1), q1.2.2.2.2.1, q1.2.2.2.2.2))) rfl hc ?_
      refine Wp.run (WpD.mono _) 1 (q := ((2, [some (.inr (.inr (2, 0))), some (.inr (.inr (44, x1))), some (.inl (x2 + (1 : Int32)))], []), (q1.2.1, q1.2.2.1, (hwU3 q1.2.2.2.1 44 x1 (x2).toNatClampNeg q1.1), q1.2.2.2.2.1, q1.2.2.2.2.2))) rfl ?_
      exact Wp.jump (WpD.mono _) rfl (ih x1 (x2 + (1 : Int32)) (q1.2.1, q1.2.2.1, (hwU3 q1.2.2.2.1 44 x1 (x2).toNatClampNeg q1.1), q1.2.2.2.2.1, q1.2.2.2.2.2) h)

set_option maxRecDepth 100000 in
set_option maxHeartbeats 4000000 in
theorem T_X4_weighLayers_t44 (e N : Nat)  (a1 : Nat) (σ : Mem) (r : Unit) (τ : Mem) (Q : Pst) (h : F_X4_weighLayers_t44 N a1 σ = some (r, τ)) (hQ : Q (none) τ) : WpD (e + 5) mX4_weighLayers [.inr (.inr (2, 0)), .inr (.inr (44, a1))] σ Q := by
  refine WpD.of (d := e + 4) (Nat.le_of_ble_eq_true rfl) (Nat.le_of_ble_eq_true rfl) ?_
  show Wp (WpD (e + 4)) hcX4_weighLayers Q (0, [some (.inr (.inr (2, 0))), some (.inr (.inr (44, a1))), none], []) σ
  unfold F_X4_weighLayers_t44 at h
  refine Wp.run (WpD.mono _) 1 (q := ((2, [some (.inr (.inr (2, 0))), some (.inr (.inr (44, a1))), some (.inl (0 : Int32))], []), σ)) rfl ?_
  exact Wp.jump (WpD.mono _) rfl ((T_X4_weighLayers_t44_b2 e N  r τ Q hQ  N) a1 (0 : Int32) σ h)

set_option maxRecDepth 100000 in
set_option maxHeartbeats 4000000 in
theorem T_X4_weigh_b38 (e N : Nat)   (r : Unit) (τ : Mem) (Q : Pst) (hQ : Q (none) τ) : ∀ n, ∀ (x1 : Int32) (σ : Mem), F_X4_weigh_b38 N n x1 σ = some (r, τ) → Wp (WpD (e + 5)) hcX4_weigh Q (38, [some (.inr (.inr (2, 0))), some (.inl x1)], []) σ := by
  intro n
  induction n with
  | zero => intro x1 σ h; cases h
  | succ n ih =>
    intro x1 σ h
    unfold F_X4_weigh_b38 at h
    refine Wp.br (WpD.mono _) 2 (c := (5 : Int32) < x1) (q1 := ((124, [some (.inr (.inr (2, 0))), some (.inl x1)], []), σ)) (q2 := ((43, [some (.inr (.inr (2, 0))), some (.inl x1)], []), σ)) rfl (fun hc => ?_) (fun hc => ?_)
    · have h := (if_pos hc).symm.trans h
      cases h
      exact Wp.ret (WpD.mono _) rfl hQ
    · have h := (if_neg hc).symm.trans h
      refine Wp.run (WpD.mono _) 10 (q := ((60, [some (.inr (.inr (2, 0))), some (.inl x1)], [.inl (999 : Int32), .inl (0 : Int32), .inr (.inr (2, 0)), .inl x1, .inr (.inr (42, 0))]), (σ.1, σ.2.1, (hwU3 σ.2.2.1 47 0 0 x1), σ.2.2.2.1, σ.2.2.2.2))) rfl ?_
      obtain ⟨q1, hb, h⟩ := bind_some h
      refine Wp.call (WpD.mono _) rfl (T_X4_part (e + 1) N (0 : Int32) (999 : Int32) (σ.1, σ.2.1, (hwU3 σ.2.2.1 47 0 0 x1), σ.2.2.2.1, σ.2.2.2.2) _ _ _ hb ?_)
      show Wp (WpD (e + 5)) hcX4_weigh Q (63, [some (.inr (.inr (2, 0))), some (.inl x1)], [.inl q1.1, .inl x1, .inr (.inr (42, 0))]) q1.2
      obtain ⟨hc, h⟩ := ite_nn h
      refine Wp.no (WpD.mono _) 0 (c := hwOut x1 6) (q := ((64, [some (.inr (.inr (2, 0))), some (.inl x1)], []), (q1.2.1, q1.2.2.1, (hwU3 q1.2.2.2.1 42 0 (x1).toNatClampNeg q1.1), q1.2.2.2.2.1, q1.2.2.2.2.2))) rfl hc ?_
      refine Wp.run (WpD.mono _) 7 (q := ((75, [some (.inr (.inr (2, 0))), some (.inl x1)], [.inl (100 : Int32), .inl (2 : Int32), .inr (.inr (2, 0)), .inl x1, .inr (.inr (46, 0))]), (q1.2.1, q1.2.2.1, (hwU3 q1.2.2.2.1 42 0 (x1).toNatClampNeg q1.1), q1.2.2.2.2.1, q1.2.2.2.2.2))) rfl ?_
      obtain ⟨q2, hb, h⟩ := bind_some h
      refine Wp.call (WpD.mono _) rfl (T_X4_part (e + 1) N (2 : Int32) (100 : Int32) (q1.2.1, q1.2.2.1, (hwU3 q1.2.2.2.1 42 0 (x1).toNatClampNeg q1.1), q1.2.2.2.2.1, q1.2.2.2.2.2) _ _ _ hb ?_)
      show Wp (WpD (e + 5)) hcX4_weigh Q (78, [some (.inr (.inr (2, 0))), some (.inl x1)], [.inl q2.1, .inl x1, .inr (.inr (46, 0))]) q2.2
      obtain ⟨hc, h⟩ := ite_nn h
      refine Wp.no (WpD.mono _) 0 (c := hwOut x1 6) (q := ((79, [some (.inr (.inr (2, 0))), some (.inl x1)], []), (q2.2.1, q2.2.2.1, (hwU3 q2.2.2.2.1 46 0 (x1).toNatClampNeg q2.1), q2.2.2.2.2.1, q2.2.2.2.2.2))) rfl hc ?_
      refine Wp.run (WpD.mono _) 12 (q := ((97, [some (.inr (.inr (2, 0))), some (.inl x1)], [.inl (100 : Int32), .inl (2 : Int32), .inr (.inr (2, 0)), .inl x1, .inr (.inr (46, 1))]), (q2.2.1, q2.2.2.1, (hwU3 (hwU3 q2.2.2.2.1 46 0 (x1).toNatClampNeg q2.1) 47 0 5 (1 : Int32)), q2.2.2.2.2.1, q2.2.2.2.2.2))) rfl ?_
      obtain ⟨q3, hb, h⟩ := bind_some h
      refine Wp.call (WpD.mono _) rfl (T_X4_part (e + 1) N (2 : Int32) (100 : Int32) (q2.2.1, q2.2.2.1, (hwU3 (hwU3 q2.2.2.2.1 46 0 (x1).toNatClampNeg q2.1) 47 0 5 (1 : Int32)), q2.2.2.2.2.1, q2.2.2.2.2.2) _ _ _ hb ?_)
      show Wp (WpD (e + 5)) hcX4_weigh Q (100, [some (.inr (.inr (2, 0))), some (.inl x1)], [.inl q3.1, .inl x1, .inr (.inr (46, 1))]) q3.2
      obtain ⟨hc, h⟩ := ite_nn h
      refine Wp.no (WpD.mono _) 0 (c := hwOut x1 6) (q := ((101, [some (.inr (.inr (2, 0))), some (.inl x1)], []), (q3.2.1, q3.2.2.1, (hwU3 q3.2.2.2.1 46 1 (x1).toNatClampNeg q3.1), q3.2.2.2.2.1, q3.2.2.2.2.2))) rfl hc ?_
      obtain ⟨hc, h⟩ := ite_nn h
      refine Wp.no (WpD.mono _) 9 (c := hwOut x1 6) (q := ((115, [some (.inr (.inr (2, 0))), some (.inl x1)], [.inr (.inr (44, (x1).toNatClampNeg)), .inr (.inr (2, 0))]), (q3.2.1, q3.2.2.1, (hwU3 (hwU3 q3.2.2.2.1 46 1 (x1).toNatClampNeg q3.1) 47 0 5 (0 : Int32)), q3.2.2.2.2.1, q3.2.2.2.2.2))) rfl hc ?_
      obtain ⟨q4, hb, h⟩ := bind_some h
      refine Wp.call (WpD.mono _) rfl (T_X4_weighLayers_t44 (e + 0) N (x1).toNatClampNeg (q3.2.1, q3.2.2.1, (hwU3 (hwU3 q3.2.2.2.1 46 1 (x1).toNatClampNeg q3.1) 47 0 5 (0 : Int32)), q3.2.2.2.2.1, q3.2.2.2.2.2) _ _ _ hb ?_)
      show Wp (WpD (e + 5)) hcX4_weigh Q (118, [some (.inr (.inr (2, 0))), some (.inl x1)], []) q4.2
      refine Wp.run (WpD.mono _) 1 (q := ((38, [some (.inr (.inr (2, 0))), some (.inl (x1 + (1 : Int32)))], []), q4.2)) rfl ?_
      exact Wp.jump (WpD.mono _) rfl (ih (x1 + (1 : Int32)) q4.2 h)

set_option maxRecDepth 100000 in
set_option maxHeartbeats 4000000 in
theorem T_X4_weigh_b2 (e N : Nat)   (r : Unit) (τ : Mem) (Q : Pst) (hQ : Q (none) τ) : ∀ n, ∀ (x1 : Int32) (σ : Mem), F_X4_weigh_b2 N n x1 σ = some (r, τ) → Wp (WpD (e + 5)) hcX4_weigh Q (2, [some (.inr (.inr (2, 0))), some (.inl x1)], []) σ := by
  intro n
  induction n with
  | zero => intro x1 σ h; cases h
  | succ n ih =>
    intro x1 σ h
    unfold F_X4_weigh_b2 at h
    refine Wp.br (WpD.mono _) 2 (c := (6 : Int32) ≤ x1) (q1 := ((21, [some (.inr (.inr (2, 0))), some (.inl x1)], []), σ)) (q2 := ((8, [some (.inr (.inr (2, 0))), some (.inl x1)], []), σ)) rfl (fun hc => ?_) (fun hc => ?_)
    · have h := (if_pos hc).symm.trans h
      refine Wp.run (WpD.mono _) 10 (q := ((38, [some (.inr (.inr (2, 0))), some (.inl (1 : Int32))], []), (σ.1, σ.2.1, (hwU3 σ.2.2.1 47 0 4 (σ.2.2.1 28 0 2)), σ.2.2.2.1, σ.2.2.2.2))) rfl ?_
      exact Wp.jump (WpD.mono _) rfl ((T_X4_weigh_b38 e N  r τ Q hQ  N) (1 : Int32) (σ.1, σ.2.1, (hwU3 σ.2.2.1 47 0 4 (σ.2.2.1 28 0 2)), σ.2.2.2.1, σ.2.2.2.2) h)
    · have h := (if_neg hc).symm.trans h
      obtain ⟨hc, h⟩ := ite_nn h
      refine Wp.no (WpD.mono _) 4 (c := hwOut x1 6) (q := ((15, [some (.inr (.inr (2, 0))), some (.inl x1)], []), (σ.1, σ.2.1, (hwU3 σ.2.2.1 47 0 (x1).toNatClampNeg (0 : Int32)), σ.2.2.2.1, σ.2.2.2.2))) rfl hc ?_
      refine Wp.run (WpD.mono _) 1 (q := ((2, [some (.inr (.inr (2, 0))), some (.inl (x1 + (1 : Int32)))], []), (σ.1, σ.2.1, (hwU3 σ.2.2.1 47 0 (x1).toNatClampNeg (0 : Int32)), σ.2.2.2.1, σ.2.2.2.2))) rfl ?_
      exact Wp.jump (WpD.mono _) rfl (ih (x1 + (1 : Int32)) (σ.1, σ.2.1, (hwU3 σ.2.2.1 47 0 (x1).toNatClampNeg (0 : Int32)), σ.2.2.2.1, σ.2.2.2.2) h)

set_option maxRecDepth 100000 in
set_option maxHeartbeats 4000000 in
theorem T_X4_weigh (e N : Nat)   (σ : Mem) (r : Unit) (τ : Mem) (Q : Pst) (h : F_X4_weigh N  σ = some (r, τ)) (hQ : Q (none) τ) : WpD (e + 6) mX4_weigh [.inr (.inr (2, 0))] σ Q := by
  refine WpD.of (d := e + 5) (Nat.le_of_ble_eq_true rfl) (Nat.le_of_ble_eq_true rfl) ?_
  show Wp (WpD (e + 5)) hcX4_weigh Q (0, [some (.inr (.inr (2, 0))), none], []) σ
  unfold F_X4_weigh at h
  refine Wp.run (WpD.mono _) 1 (q := ((2, [some (.inr (.inr (2, 0))), some (.inl (0 : Int32))], []), σ)) rfl ?_
  exact Wp.jump (WpD.mono _) rfl ((T_X4_weigh_b2 e N  r τ Q hQ  N) (0 : Int32) σ h)

set_option maxRecDepth 100000 in
set_option maxHeartbeats 4000000 in
theorem T_X11_force (e N : Nat)  (a1 : Int32) (σ : Mem) (r : Int32) (τ : Mem) (Q : Pst) (h : F_X11_force N a1 σ = some (r, τ)) (hQ : Q (some (.inl r)) τ) : WpD (e + 7) mX11_force [.inr (.inr (0, 0)), .inl a1] σ Q := by
  refine WpD.of (d := e + 6) (Nat.le_of_ble_eq_true rfl) (Nat.le_of_ble_eq_true rfl) ?_
  show Wp (WpD (e + 6)) hcX11_force Q (0, [some (.inr (.inr (0, 0))), some (.inl a1), none], []) σ
  unfold F_X11_force at h
  refine Wp.run (WpD.mono _) 6 (q := ((11, [some (.inr (.inr (0, 0))), some (.inl a1), none], [.inl ((σ.1 2 9) - (1 : Int32)), .inl (0 : Int32), .inl a1]), σ)) rfl ?_
  obtain ⟨q1, hb, h⟩ := bind_some h
  refine Wp.call (WpD.mono _) rfl (T_X11_within (e + 5) N a1 (0 : Int32) ((σ.1 2 9) - (1 : Int32)) σ _ _ _ hb ?_)
  show Wp (WpD (e + 6)) hcX11_force Q (14, [some (.inr (.inr (0, 0))), some (.inl a1), none], [.inl q1.1]) q1.2
  refine Wp.br (WpD.mono _) 0 (c := q1.1 = 0) (q1 := ((17, [some (.inr (.inr (0, 0))), some (.inl a1), none], []), q1.2)) (q2 := ((20, [some (.inr (.inr (0, 0))), some (.inl a1), none], []), q1.2)) rfl (fun hc => ?_) (fun hc => ?_)
  · have h := (if_pos hc).symm.trans h
    refine Wp.run (WpD.mono _) 0 (q := ((19, [some (.inr (.inr (0, 0))), some (.inl a1), none], [.inl (-2 : Int32)]), q1.2)) rfl ?_
    cases h
    exact Wp.ret (WpD.mono _) rfl hQ
  · have h := (if_neg hc).symm.trans h
    refine Wp.run (WpD.mono _) 9 (q := ((40, [some (.inr (.inr (0, 0))), some (.inl a1), some (.inl (q1.2.1 2 10))], [.inr (.inr (2, 0))]), ((hwU2 q1.2.1 2 10 a1), q1.2.2.1, q1.2.2.2.1, q1.2.2.2.2.1, q1.2.2.2.2.2))) rfl ?_
    obtain ⟨q2, hb, h⟩ := bind_some h
    refine Wp.call (WpD.mono _) rfl (T_X4_weigh (e + 0) N ((hwU2 q1.2.1 2 10 a1), q1.2.2.1, q1.2.2.2.1, q1.2.2.2.2.1, q1.2.2.2.2.2) _ _ _ hb ?_)
    show Wp (WpD (e + 6)) hcX11_force Q (43, [some (.inr (.inr (0, 0))), some (.inl a1), some (.inl (q1.2.1 2 10))], []) q2.2
    refine Wp.run (WpD.mono _) 0 (q := ((44, [some (.inr (.inr (0, 0))), some (.inl a1), some (.inl (q1.2.1 2 10))], [.inl (q1.2.1 2 10)]), q2.2)) rfl ?_
    cases h
    exact Wp.ret (WpD.mono _) rfl hQ


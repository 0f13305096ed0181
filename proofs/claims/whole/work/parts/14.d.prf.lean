set_option maxRecDepth 100000 in
set_option maxHeartbeats 4000000 in
theorem T_X9_make (e N : Nat)  (a1 : Int32) (a2 : Int32) (a3 : Int32) (σ : Mem) (r : Int32) (τ : Mem) (Q : Pst) (h : F_X9_make N a1 a2 a3 σ = some (r, τ)) (hQ : Q (some (.inl r)) τ) : WpD (e + 1) mX9_make [.inr (.inr (6, 0)), .inl a1, .inl a2, .inl a3] σ Q := by
  refine WpD.of (d := e + 0) (Nat.le_of_ble_eq_true rfl) (Nat.le_of_ble_eq_true rfl) ?_
  show Wp (WpD (e + 0)) hcX9_make Q (0, [some (.inr (.inr (6, 0))), some (.inl a1), some (.inl a2), some (.inl a3), none], []) σ
  unfold F_X9_make at h
  refine Wp.br (WpD.mono _) 5 (c := (σ.1 6 4) < (8 : Int32)) (q1 := ((16, [some (.inr (.inr (6, 0))), some (.inl a1), some (.inl a2), some (.inl a3), some (.inl (σ.1 6 4))], []), σ)) (q2 := ((13, [some (.inr (.inr (6, 0))), some (.inl a1), some (.inl a2), some (.inl a3), some (.inl (σ.1 6 4))], []), σ)) rfl (fun hc => ?_) (fun hc => ?_)
  · have h := (if_pos hc).symm.trans h
    obtain ⟨hc, h⟩ := ite_nn h
    refine Wp.no (WpD.mono _) 4 (c := hwOut (σ.1 6 4) 8) (q := ((24, [some (.inr (.inr (6, 0))), some (.inl a1), some (.inl a2), some (.inl a3), some (.inl (σ.1 6 4))], []), (σ.1, σ.2.1, (hwU3 σ.2.2.1 65 0 ((σ.1 6 4)).toNatClampNeg a1), σ.2.2.2.1, σ.2.2.2.2))) rfl hc ?_
    obtain ⟨hc, h⟩ := ite_nn h
    refine Wp.no (WpD.mono _) 4 (c := hwOut (σ.1 6 4) 8) (q := ((32, [some (.inr (.inr (6, 0))), some (.inl a1), some (.inl a2), some (.inl a3), some (.inl (σ.1 6 4))], []), (σ.1, σ.2.1, (hwU3 (hwU3 σ.2.2.1 65 0 ((σ.1 6 4)).toNatClampNeg a1) 66 0 ((σ.1 6 4)).toNatClampNeg a2), σ.2.2.2.1, σ.2.2.2.2))) rfl hc ?_
    obtain ⟨hc, h⟩ := ite_nn h
    refine Wp.no (WpD.mono _) 4 (c := hwOut (σ.1 6 4) 8) (q := ((40, [some (.inr (.inr (6, 0))), some (.inl a1), some (.inl a2), some (.inl a3), some (.inl (σ.1 6 4))], []), (σ.1, σ.2.1, (hwU3 (hwU3 (hwU3 σ.2.2.1 65 0 ((σ.1 6 4)).toNatClampNeg a1) 66 0 ((σ.1 6 4)).toNatClampNeg a2) 67 0 ((σ.1 6 4)).toNatClampNeg a3), σ.2.2.2.1, σ.2.2.2.2))) rfl hc ?_
    refine Wp.run (WpD.mono _) 5 (q := ((50, [some (.inr (.inr (6, 0))), some (.inl a1), some (.inl a2), some (.inl a3), some (.inl (σ.1 6 4))], [.inl (σ.1 6 4)]), ((hwU2 σ.1 6 4 ((σ.1 6 4) + (1 : Int32))), σ.2.1, (hwU3 (hwU3 (hwU3 σ.2.2.1 65 0 ((σ.1 6 4)).toNatClampNeg a1) 66 0 ((σ.1 6 4)).toNatClampNeg a2) 67 0 ((σ.1 6 4)).toNatClampNeg a3), σ.2.2.2.1, σ.2.2.2.2))) rfl ?_
    cases h
    exact Wp.ret (WpD.mono _) rfl hQ
  · have h := (if_neg hc).symm.trans h
    refine Wp.run (WpD.mono _) 0 (q := ((15, [some (.inr (.inr (6, 0))), some (.inl a1), some (.inl a2), some (.inl a3), some (.inl (σ.1 6 4))], [.inl (-4 : Int32)]), σ)) rfl ?_
    cases h
    exact Wp.ret (WpD.mono _) rfl hQ

set_option maxRecDepth 100000 in
set_option maxHeartbeats 4000000 in
theorem T_X11_rule (e N : Nat)  (a1 : Int32) (a2 : Int32) (a3 : Int32) (σ : Mem) (r : Int32) (τ : Mem) (Q : Pst) (h : F_X11_rule N a1 a2 a3 σ = some (r, τ)) (hQ : Q (some (.inl r)) τ) : WpD (e + 2) mX11_rule [.inr (.inr (0, 0)), .inl a1, .inl a2, .inl a3] σ Q := by
  refine WpD.of (d := e + 1) (Nat.le_of_ble_eq_true rfl) (Nat.le_of_ble_eq_true rfl) ?_
  show Wp (WpD (e + 1)) hcX11_rule Q (0, [some (.inr (.inr (0, 0))), some (.inl a1), some (.inl a2), some (.inl a3)], []) σ
  unfold F_X11_rule at h
  refine Wp.run (WpD.mono _) 2 (q := ((3, [some (.inr (.inr (0, 0))), some (.inl a1), some (.inl a2), some (.inl a3)], [.inl (5 : Int32), .inl (0 : Int32), .inl a1]), σ)) rfl ?_
  obtain ⟨q1, hb, h⟩ := bind_some h
  refine Wp.call (WpD.mono _) rfl (T_X11_within (e + 0) N a1 (0 : Int32) (5 : Int32) σ _ _ _ hb ?_)
  show Wp (WpD (e + 1)) hcX11_rule Q (6, [some (.inr (.inr (0, 0))), some (.inl a1), some (.inl a2), some (.inl a3)], [.inl q1.1]) q1.2
  refine Wp.br (WpD.mono _) 0 (c := q1.1 = 0) (q1 := ((28, [some (.inr (.inr (0, 0))), some (.inl a1), some (.inl a2), some (.inl a3)], []), q1.2)) (q2 := ((9, [some (.inr (.inr (0, 0))), some (.inl a1), some (.inl a2), some (.inl a3)], []), q1.2)) rfl (fun hc => ?_) (fun hc => ?_)
  · have h := (if_pos hc).symm.trans h
    refine Wp.run (WpD.mono _) 0 (q := ((30, [none, none, none, none], [.inl (-2 : Int32)]), q1.2)) rfl ?_
    cases h
    exact Wp.ret (WpD.mono _) rfl hQ
  · have h := (if_neg hc).symm.trans h
    refine Wp.run (WpD.mono _) 2 (q := ((12, [some (.inr (.inr (0, 0))), some (.inl a1), some (.inl a2), some (.inl a3)], [.inl (5 : Int32), .inl (0 : Int32), .inl a2]), q1.2)) rfl ?_
    obtain ⟨q2, hb, h⟩ := bind_some h
    refine Wp.call (WpD.mono _) rfl (T_X11_within (e + 0) N a2 (0 : Int32) (5 : Int32) q1.2 _ _ _ hb ?_)
    show Wp (WpD (e + 1)) hcX11_rule Q (15, [some (.inr (.inr (0, 0))), some (.inl a1), some (.inl a2), some (.inl a3)], [.inl q2.1]) q2.2
    refine Wp.br (WpD.mono _) 0 (c := q2.1 = 0) (q1 := ((28, [some (.inr (.inr (0, 0))), some (.inl a1), some (.inl a2), some (.inl a3)], []), q2.2)) (q2 := ((18, [some (.inr (.inr (0, 0))), some (.inl a1), some (.inl a2), some (.inl a3)], []), q2.2)) rfl (fun hc => ?_) (fun hc => ?_)
    · have h := (if_pos hc).symm.trans h
      refine Wp.run (WpD.mono _) 0 (q := ((30, [none, none, none, none], [.inl (-2 : Int32)]), q2.2)) rfl ?_
      cases h
      exact Wp.ret (WpD.mono _) rfl hQ
    · have h := (if_neg hc).symm.trans h
      refine Wp.run (WpD.mono _) 2 (q := ((22, [some (.inr (.inr (0, 0))), some (.inl a1), some (.inl a2), some (.inl a3)], [.inl (7 : Int32), .inl (0 : Int32), .inl a3]), q2.2)) rfl ?_
      obtain ⟨q3, hb, h⟩ := bind_some h
      refine Wp.call (WpD.mono _) rfl (T_X11_within (e + 0) N a3 (0 : Int32) (7 : Int32) q2.2 _ _ _ hb ?_)
      show Wp (WpD (e + 1)) hcX11_rule Q (25, [some (.inr (.inr (0, 0))), some (.inl a1), some (.inl a2), some (.inl a3)], [.inl q3.1]) q3.2
      refine Wp.br (WpD.mono _) 0 (c := q3.1 = 0) (q1 := ((28, [some (.inr (.inr (0, 0))), some (.inl a1), some (.inl a2), some (.inl a3)], []), q3.2)) (q2 := ((31, [some (.inr (.inr (0, 0))), some (.inl a1), some (.inl a2), some (.inl a3)], []), q3.2)) rfl (fun hc => ?_) (fun hc => ?_)
      · have h := (if_pos hc).symm.trans h
        refine Wp.run (WpD.mono _) 0 (q := ((30, [none, none, none, none], [.inl (-2 : Int32)]), q3.2)) rfl ?_
        cases h
        exact Wp.ret (WpD.mono _) rfl hQ
      · have h := (if_neg hc).symm.trans h
        refine Wp.run (WpD.mono _) 4 (q := ((38, [some (.inr (.inr (0, 0))), some (.inl a1), some (.inl a2), some (.inl a3)], [.inl a3, .inl a2, .inl a1, .inr (.inr (6, 0))]), q3.2)) rfl ?_
        obtain ⟨q4, hb, h⟩ := bind_some h
        refine Wp.call (WpD.mono _) rfl (T_X9_make (e + 0) N a1 a2 a3 q3.2 _ _ _ hb ?_)
        show Wp (WpD (e + 1)) hcX11_rule Q (41, [some (.inr (.inr (0, 0))), some (.inl a1), some (.inl a2), some (.inl a3)], [.inl q4.1]) q4.2
        cases h
        exact Wp.ret (WpD.mono _) rfl hQ

set_option maxRecDepth 100000 in
set_option maxHeartbeats 4000000 in
theorem T_X11_ruleTold (e N : Nat)  (a1 : Int32) (a2 : Int32) (σ : Mem) (r : Int32) (τ : Mem) (Q : Pst) (h : F_X11_ruleTold N a1 a2 σ = some (r, τ)) (hQ : Q (some (.inl r)) τ) : WpD (e + 3) mX11_ruleTold [.inr (.inr (0, 0)), .inl a1, .inl a2] σ Q := by
  refine WpD.of (d := e + 2) (Nat.le_of_ble_eq_true rfl) (Nat.le_of_ble_eq_true rfl) ?_
  show Wp (WpD (e + 2)) hcX11_ruleTold Q (0, [some (.inr (.inr (0, 0))), some (.inl a1), some (.inl a2)], []) σ
  unfold F_X11_ruleTold at h
  refine Wp.run (WpD.mono _) 1 (q := ((2, [some (.inr (.inr (0, 0))), some (.inl a1), some (.inl a2)], [.inl a1, .inr (.inr (0, 0))]), σ)) rfl ?_
  obtain ⟨q1, hb, h⟩ := bind_some h
  refine Wp.call (WpD.mono _) rfl (T_X11_isRule (e + 0) N a1 σ _ _ _ hb ?_)
  show Wp (WpD (e + 2)) hcX11_ruleTold Q (5, [some (.inr (.inr (0, 0))), some (.inl a1), some (.inl a2)], [.inl q1.1]) q1.2
  refine Wp.br (WpD.mono _) 0 (c := q1.1 = 0) (q1 := ((8, [some (.inr (.inr (0, 0))), some (.inl a1), some (.inl a2)], []), q1.2)) (q2 := ((11, [some (.inr (.inr (0, 0))), some (.inl a1), some (.inl a2)], []), q1.2)) rfl (fun hc => ?_) (fun hc => ?_)
  · have h := (if_pos hc).symm.trans h
    refine Wp.run (WpD.mono _) 0 (q := ((10, [some (.inr (.inr (0, 0))), some (.inl a1), some (.inl a2)], [.inl (-5 : Int32)]), q1.2)) rfl ?_
    cases h
    exact Wp.ret (WpD.mono _) rfl hQ
  · have h := (if_neg hc).symm.trans h
    refine Wp.run (WpD.mono _) 0 (q := ((12, [some (.inr (.inr (0, 0))), some (.inl a1), some (.inl a2)], [.inl a2]), q1.2)) rfl ?_
    by_cases hs0 : a2 = 0
    · have h := (if_pos hs0).symm.trans h
      refine Wp.swIn (WpD.mono _) (q := ((40, [some (.inr (.inr (0, 0))), some (.inl a1), some (.inl a2)], []), q1.2)) hs0 rfl ?_
      obtain ⟨hc, h⟩ := ite_nn h
      refine Wp.no (WpD.mono _) 4 (c := hwOut a1 8) (q := ((49, [some (.inr (.inr (0, 0))), some (.inl a1), some (.inl a2)], [.inl (q1.2.2.2.1 65 0 (a1).toNatClampNeg)]), q1.2)) rfl hc ?_
      cases h
      exact Wp.ret (WpD.mono _) rfl hQ
    have h := (if_neg hs0).symm.trans h
    by_cases hs1 : a2 = 1
    · have h := (if_pos hs1).symm.trans h
      refine Wp.swIn (WpD.mono _) (q := ((50, [some (.inr (.inr (0, 0))), some (.inl a1), some (.inl a2)], []), q1.2)) hs1 rfl ?_
      obtain ⟨hc, h⟩ := ite_nn h
      refine Wp.no (WpD.mono _) 4 (c := hwOut a1 8) (q := ((59, [some (.inr (.inr (0, 0))), some (.inl a1), some (.inl a2)], [.inl (q1.2.2.2.1 66 0 (a1).toNatClampNeg)]), q1.2)) rfl hc ?_
      cases h
      exact Wp.ret (WpD.mono _) rfl hQ
    have h := (if_neg hs1).symm.trans h
    by_cases hs2 : a2 = 2
    · have h := (if_pos hs2).symm.trans h
      refine Wp.swIn (WpD.mono _) (q := ((60, [some (.inr (.inr (0, 0))), some (.inl a1), some (.inl a2)], []), q1.2)) hs2 rfl ?_
      obtain ⟨hc, h⟩ := ite_nn h
      refine Wp.no (WpD.mono _) 4 (c := hwOut a1 8) (q := ((69, [some (.inr (.inr (0, 0))), some (.inl a1), some (.inl a2)], [.inl (q1.2.2.2.1 67 0 (a1).toNatClampNeg)]), q1.2)) rfl hc ?_
      cases h
      exact Wp.ret (WpD.mono _) rfl hQ
    have h := (if_neg hs2).symm.trans h
    have ehs0 : ¬ (a2).toInt = 0 := fun z => hs0 (Int32.toInt_inj.mp z)
    have ehs1 : ¬ (a2).toInt = 1 := fun z => hs1 (Int32.toInt_inj.mp z)
    have ehs2 : ¬ (a2).toInt = 2 := fun z => hs2 (Int32.toInt_inj.mp z)
    refine Wp.swOut (WpD.mono _) (q := ((70, [some (.inr (.inr (0, 0))), some (.inl a1), some (.inl a2)], []), q1.2)) (o := if (a2).toInt < 0 ∨ 2 < (a2).toInt then some (58) else #[28, 38, 48][((a2).toInt - 0).toNat]?) (o' := some (58)) rfl (if_pos (by omega)) rfl ?_
    refine Wp.run (WpD.mono _) 0 (q := ((72, [some (.inr (.inr (0, 0))), some (.inl a1), some (.inl a2)], [.inl (-7 : Int32)]), q1.2)) rfl ?_
    cases h
    exact Wp.ret (WpD.mono _) rfl hQ

set_option maxRecDepth 100000 in
set_option maxHeartbeats 4000000 in
theorem T_X11_set (e N : Nat)  (a1 : Int32) (a2 : Int32) (σ : Mem) (r : Int32) (τ : Mem) (Q : Pst) (h : F_X11_set N a1 a2 σ = some (r, τ)) (hQ : Q (some (.inl r)) τ) : WpD (e + 7) mX11_set [.inr (.inr (0, 0)), .inl a1, .inl a2] σ Q := by
  refine WpD.of (d := e + 6) (Nat.le_of_ble_eq_true rfl) (Nat.le_of_ble_eq_true rfl) ?_
  show Wp (WpD (e + 6)) hcX11_set Q (0, [some (.inr (.inr (0, 0))), some (.inl a1), some (.inl a2), none], []) σ
  unfold F_X11_set at h
  refine Wp.run (WpD.mono _) 2 (q := ((3, [some (.inr (.inr (0, 0))), some (.inl a1), some (.inl a2), none], [.inl (4 : Int32), .inl (0 : Int32), .inl a1]), σ)) rfl ?_
  obtain ⟨q1, hb, h⟩ := bind_some h
  refine Wp.call (WpD.mono _) rfl (T_X11_within (e + 5) N a1 (0 : Int32) (4 : Int32) σ _ _ _ hb ?_)
  show Wp (WpD (e + 6)) hcX11_set Q (6, [some (.inr (.inr (0, 0))), some (.inl a1), some (.inl a2), none], [.inl q1.1]) q1.2
  refine Wp.br (WpD.mono _) 0 (c := q1.1 = 0) (q1 := ((9, [some (.inr (.inr (0, 0))), some (.inl a1), some (.inl a2), none], []), q1.2)) (q2 := ((11, [some (.inr (.inr (0, 0))), some (.inl a1), some (.inl a2), none], []), q1.2)) rfl (fun hc => ?_) (fun hc => ?_)
  · have h := (if_pos hc).symm.trans h
    refine Wp.run (WpD.mono _) 0 (q := ((10, [some (.inr (.inr (0, 0))), some (.inl a1), some (.inl a2), none], [.inl (-1 : Int32)]), q1.2)) rfl ?_
    cases h
    exact Wp.ret (WpD.mono _) rfl hQ
  · have h := (if_neg hc).symm.trans h
    obtain ⟨hc, h⟩ := ite_nn h
    refine Wp.no (WpD.mono _) 3 (c := hwOut a1 5) (q := ((17, [some (.inr (.inr (0, 0))), some (.inl a1), some (.inl a2), none], [.inl (ntD 0 [1, 0, 0, 0, 0] (a1).toNatClampNeg), .inl a2]), q1.2)) rfl hc ?_
    obtain ⟨hc, h⟩ := ite_nn h
    refine Wp.no (WpD.mono _) 2 (c := hwOut a1 5) (q := ((22, [some (.inr (.inr (0, 0))), some (.inl a1), some (.inl a2), none], [.inl (ntD 0 [5, 9999, 9, 9999, 9999] (a1).toNatClampNeg), .inl (ntD 0 [1, 0, 0, 0, 0] (a1).toNatClampNeg), .inl a2]), q1.2)) rfl hc ?_
    obtain ⟨q2, hb, h⟩ := bind_some h
    refine Wp.call (WpD.mono _) rfl (T_X11_within (e + 5) N a2 (ntD 0 [1, 0, 0, 0, 0] (a1).toNatClampNeg) (ntD 0 [5, 9999, 9, 9999, 9999] (a1).toNatClampNeg) q1.2 _ _ _ hb ?_)
    show Wp (WpD (e + 6)) hcX11_set Q (25, [some (.inr (.inr (0, 0))), some (.inl a1), some (.inl a2), none], [.inl q2.1]) q2.2
    refine Wp.br (WpD.mono _) 0 (c := q2.1 = 0) (q1 := ((28, [some (.inr (.inr (0, 0))), some (.inl a1), some (.inl a2), none], []), q2.2)) (q2 := ((31, [some (.inr (.inr (0, 0))), some (.inl a1), some (.inl a2), none], []), q2.2)) rfl (fun hc => ?_) (fun hc => ?_)
    · have h := (if_pos hc).symm.trans h
      refine Wp.run (WpD.mono _) 0 (q := ((30, [some (.inr (.inr (0, 0))), some (.inl a1), some (.inl a2), none], [.inl (-2 : Int32)]), q2.2)) rfl ?_
      cases h
      exact Wp.ret (WpD.mono _) rfl hQ
    · have h := (if_neg hc).symm.trans h
      obtain ⟨hc, h⟩ := ite_nn h
      refine Wp.no (WpD.mono _) 4 (c := hwOut a1 5) (q := ((40, [some (.inr (.inr (0, 0))), some (.inl a1), some (.inl a2), none], [.inl (q2.2.2.2.1 28 0 (a1).toNatClampNeg)]), q2.2)) rfl hc ?_
      obtain ⟨hc, h⟩ := ite_nn h
      refine Wp.no (WpD.mono _) 6 (c := hwOut a1 5) (q := ((51, [some (.inr (.inr (0, 0))), some (.inl a1), some (.inl a2), some (.inl (q2.2.2.2.1 28 0 (a1).toNatClampNeg))], []), (q2.2.1, q2.2.2.1, (hwU3 q2.2.2.2.1 28 0 (a1).toNatClampNeg a2), q2.2.2.2.2.1, q2.2.2.2.2.2))) rfl hc ?_
      refine Wp.br (WpD.mono _) 2 (c := a1 = (2 : Int32)) (q1 := ((56, [some (.inr (.inr (0, 0))), some (.inl a1), some (.inl a2), some (.inl (q2.2.2.2.1 28 0 (a1).toNatClampNeg))], []), (q2.2.1, q2.2.2.1, (hwU3 q2.2.2.2.1 28 0 (a1).toNatClampNeg a2), q2.2.2.2.2.1, q2.2.2.2.2.2))) (q2 := ((63, [some (.inr (.inr (0, 0))), some (.inl a1), some (.inl a2), some (.inl (q2.2.2.2.1 28 0 (a1).toNatClampNeg))], []), (q2.2.1, q2.2.2.1, (hwU3 q2.2.2.2.1 28 0 (a1).toNatClampNeg a2), q2.2.2.2.2.1, q2.2.2.2.2.2))) rfl (fun hc => ?_) (fun hc => ?_)
      · have h := (if_pos hc).symm.trans h
        refine Wp.run (WpD.mono _) 1 (q := ((60, [some (.inr (.inr (0, 0))), some (.inl a1), some (.inl a2), some (.inl (q2.2.2.2.1 28 0 (a1).toNatClampNeg))], [.inr (.inr (2, 0))]), (q2.2.1, q2.2.2.1, (hwU3 q2.2.2.2.1 28 0 (a1).toNatClampNeg a2), q2.2.2.2.2.1, q2.2.2.2.2.2))) rfl ?_
        obtain ⟨q3, hb, h⟩ := bind_some h
        refine Wp.call (WpD.mono _) rfl (T_X4_weigh (e + 0) N (q2.2.1, q2.2.2.1, (hwU3 q2.2.2.2.1 28 0 (a1).toNatClampNeg a2), q2.2.2.2.2.1, q2.2.2.2.2.2) _ _ _ hb ?_)
        show Wp (WpD (e + 6)) hcX11_set Q (63, [some (.inr (.inr (0, 0))), some (.inl a1), some (.inl a2), some (.inl (q2.2.2.2.1 28 0 (a1).toNatClampNeg))], []) q3.2
        refine Wp.run (WpD.mono _) 0 (q := ((64, [none, none, none, some (.inl (q2.2.2.2.1 28 0 (a1).toNatClampNeg))], [.inl (q2.2.2.2.1 28 0 (a1).toNatClampNeg)]), q3.2)) rfl ?_
        cases h
        exact Wp.ret (WpD.mono _) rfl hQ
      · have h := (if_neg hc).symm.trans h
        refine Wp.run (WpD.mono _) 0 (q := ((64, [none, none, none, some (.inl (q2.2.2.2.1 28 0 (a1).toNatClampNeg))], [.inl (q2.2.2.2.1 28 0 (a1).toNatClampNeg)]), (q2.2.1, q2.2.2.1, (hwU3 q2.2.2.2.1 28 0 (a1).toNatClampNeg a2), q2.2.2.2.2.1, q2.2.2.2.2.2))) rfl ?_
        cases h
        exact Wp.ret (WpD.mono _) rfl hQ

set_option maxRecDepth 100000 in
set_option maxHeartbeats 4000000 in
theorem T_X11_share (e N : Nat)  (a1 : Int32) (a2 : Int32) (σ : Mem) (r : Int32) (τ : Mem) (Q : Pst) (h : F_X11_share N a1 a2 σ = some (r, τ)) (hQ : Q (some (.inl r)) τ) : WpD (e + 4) mX11_share [.inr (.inr (0, 0)), .inl a1, .inl a2] σ Q := by
  refine WpD.of (d := e + 3) (Nat.le_of_ble_eq_true rfl) (Nat.le_of_ble_eq_true rfl) ?_
  show Wp (WpD (e + 3)) hcX11_share Q (0, [some (.inr (.inr (0, 0))), some (.inl a1), some (.inl a2), none], []) σ
  unfold F_X11_share at h
  refine Wp.run (WpD.mono _) 3 (q := ((6, [some (.inr (.inr (0, 0))), some (.inl a1), some (.inl a2), none], [.inr (.inr (7, 0)), .inl (1 : Int32), .inl a1]), σ)) rfl ?_
  obtain ⟨q1, hb, h⟩ := bind_some h
  refine Wp.call (WpD.mono _) rfl (T_X1_all (e + 2) N σ _ _ _ hb ?_)
  show Wp (WpD (e + 3)) hcX11_share Q (9, [some (.inr (.inr (0, 0))), some (.inl a1), some (.inl a2), none], [.inl q1.1, .inl (1 : Int32), .inl a1]) q1.2
  obtain ⟨q2, hb, h⟩ := bind_some h
  refine Wp.call (WpD.mono _) rfl (T_X11_within (e + 2) N a1 (1 : Int32) q1.1 q1.2 _ _ _ hb ?_)
  show Wp (WpD (e + 3)) hcX11_share Q (12, [some (.inr (.inr (0, 0))), some (.inl a1), some (.inl a2), none], [.inl q2.1]) q2.2
  refine Wp.br (WpD.mono _) 0 (c := q2.1 = 0) (q1 := ((24, [some (.inr (.inr (0, 0))), some (.inl a1), some (.inl a2), none], []), q2.2)) (q2 := ((15, [some (.inr (.inr (0, 0))), some (.inl a1), some (.inl a2), none], []), q2.2)) rfl (fun hc => ?_) (fun hc => ?_)
  · have h := (if_pos hc).symm.trans h
    refine Wp.run (WpD.mono _) 0 (q := ((26, [none, none, none, none], [.inl (-2 : Int32)]), q2.2)) rfl ?_
    cases h
    exact Wp.ret (WpD.mono _) rfl hQ
  · have h := (if_neg hc).symm.trans h
    refine Wp.run (WpD.mono _) 2 (q := ((18, [some (.inr (.inr (0, 0))), some (.inl a1), some (.inl a2), none], [.inl (1 : Int32), .inl (0 : Int32), .inl a2]), q2.2)) rfl ?_
    obtain ⟨q3, hb, h⟩ := bind_some h
    refine Wp.call (WpD.mono _) rfl (T_X11_within (e + 2) N a2 (0 : Int32) (1 : Int32) q2.2 _ _ _ hb ?_)
    show Wp (WpD (e + 3)) hcX11_share Q (21, [some (.inr (.inr (0, 0))), some (.inl a1), some (.inl a2), none], [.inl q3.1]) q3.2
    refine Wp.br (WpD.mono _) 0 (c := q3.1 = 0) (q1 := ((24, [some (.inr (.inr (0, 0))), some (.inl a1), some (.inl a2), none], []), q3.2)) (q2 := ((27, [some (.inr (.inr (0, 0))), some (.inl a1), some (.inl a2), none], []), q3.2)) rfl (fun hc => ?_) (fun hc => ?_)
    · have h := (if_pos hc).symm.trans h
      refine Wp.run (WpD.mono _) 0 (q := ((26, [none, none, none, none], [.inl (-2 : Int32)]), q3.2)) rfl ?_
      cases h
      exact Wp.ret (WpD.mono _) rfl hQ
    · have h := (if_neg hc).symm.trans h
      refine Wp.run (WpD.mono _) 2 (q := ((32, [some (.inr (.inr (0, 0))), some (.inl a1), some (.inl a2), none], [.inl a1, .inr (.inr (7, 0))]), q3.2)) rfl ?_
      obtain ⟨q4, hb, h⟩ := bind_some h
      refine Wp.call (WpD.mono _) rfl (T_X1_wellOf (e + 0) N a1 q3.2 _ _ _ hb ?_)
      show Wp (WpD (e + 3)) hcX11_share Q (35, [some (.inr (.inr (0, 0))), some (.inl a1), some (.inl a2), none], [.inl q4.1]) q4.2
      refine Wp.br (WpD.mono _) 2 (c := a2 = 0) (q1 := ((40, [some (.inr (.inr (0, 0))), some (.inl a1), some (.inl a2), some (.inl q4.1)], []), q4.2)) (q2 := ((44, [some (.inr (.inr (0, 0))), some (.inl a1), some (.inl a2), some (.inl q4.1)], []), q4.2)) rfl (fun hc => ?_) (fun hc => ?_)
      · have h := (if_pos hc).symm.trans h
        refine Wp.run (WpD.mono _) 1 (q := ((53, [some (.inr (.inr (0, 0))), some (.inl a1), some (.inl a2), some (.inl q4.1)], [.inl q4.1]), q4.2)) rfl ?_
        cases h
        exact Wp.ret (WpD.mono _) rfl hQ
      · have h := (if_neg hc).symm.trans h
        refine Wp.run (WpD.mono _) 3 (q := ((50, [some (.inr (.inr (0, 0))), some (.inl a1), some (.inl a2), some (.inl q4.1)], [.inl q4.1, .inl a1, .inr (.inr (7, 0))]), q4.2)) rfl ?_
        obtain ⟨q5, hb, h⟩ := bind_some h
        refine Wp.call (WpD.mono _) rfl (T_X1_walk (e + 1) N a1 q4.1 q4.2 _ _ _ hb ?_)
        show Wp (WpD (e + 3)) hcX11_share Q (53, [some (.inr (.inr (0, 0))), some (.inl a1), some (.inl a2), some (.inl q4.1)], [.inl q5.1]) q5.2
        cases h
        exact Wp.ret (WpD.mono _) rfl hQ

set_option maxRecDepth 100000 in
set_option maxHeartbeats 4000000 in
theorem T_X11_sheet_b58 (e N : Nat)   (r : Int32) (τ : Mem) (Q : Pst) (hQ : Q (some (.inl r)) τ) : ∀ (s0 : Int32) (s1 : Int32) (s2 : Int32) (σ : Mem), F_X11_sheet_b58 N s0 s1 s2 σ = some (r, τ) → Wp (WpD (e + 2)) hcX11_sheet Q (58, [none, none, none, none], [.inl s0, .inl s1, .inl s2, .inr (.inr (5, 0))]) σ := by
  intro s0 s1 s2 σ h
  unfold F_X11_sheet_b58 at h
  obtain ⟨q3, hb, h⟩ := bind_some h
  refine Wp.call (WpD.mono _) rfl (T_X10_lay (e + 1) N s2 s1 s0 σ _ _ _ hb ?_)
  show Wp (WpD (e + 2)) hcX11_sheet Q (61, [none, none, none, none], []) q3.2
  refine Wp.run (WpD.mono _) 0 (q := ((62, [none, none, none, none], [.inl (1 : Int32)]), q3.2)) rfl ?_
  cases h
  exact Wp.ret (WpD.mono _) rfl hQ

set_option maxRecDepth 100000 in
set_option maxHeartbeats 4000000 in
theorem T_X11_sheet_b43 (e N : Nat)   (r : Int32) (τ : Mem) (Q : Pst) (hQ : Q (some (.inl r)) τ) : ∀ (x1 : Int32) (x2 : Int32) (x3 : Int32) (σ : Mem), F_X11_sheet_b43 N x1 x2 x3 σ = some (r, τ) → Wp (WpD (e + 2)) hcX11_sheet Q (43, [some (.inr (.inr (0, 0))), some (.inl x1), some (.inl x2), some (.inl x3)], []) σ := by
  intro x1 x2 x3 σ h
  unfold F_X11_sheet_b43 at h
  refine Wp.br (WpD.mono _) 5 (c := 0 ≤ x2) (q1 := ((57, [some (.inr (.inr (0, 0))), some (.inl x1), some (.inl x2), some (.inl x3)], [.inl x2, .inl x1, .inr (.inr (5, 0))]), σ)) (q2 := ((53, [some (.inr (.inr (0, 0))), some (.inl x1), some (.inl x2), some (.inl x3)], [.inl x2, .inl x1, .inr (.inr (5, 0))]), σ)) rfl (fun hc => ?_) (fun hc => ?_)
  · have h := (if_pos hc).symm.trans h
    refine Wp.run (WpD.mono _) 0 (q := ((58, [some (.inr (.inr (0, 0))), some (.inl x1), some (.inl x2), some (.inl x3)], [.inl x3, .inl x2, .inl x1, .inr (.inr (5, 0))]), σ)) rfl ?_
    exact Wp.jump (WpD.mono _) rfl ((T_X11_sheet_b58 e N  r τ Q hQ ) x3 x2 x1 σ h)
  · have h := (if_neg hc).symm.trans h
    refine Wp.run (WpD.mono _) 1 (q := ((58, [some (.inr (.inr (0, 0))), some (.inl x1), some (.inl x2), some (.inl x3)], [.inl (0 : Int32), .inl x2, .inl x1, .inr (.inr (5, 0))]), σ)) rfl ?_
    exact Wp.jump (WpD.mono _) rfl ((T_X11_sheet_b58 e N  r τ Q hQ ) (0 : Int32) x2 x1 σ h)

set_option maxRecDepth 100000 in
set_option maxHeartbeats 4000000 in
theorem T_X11_sheet_b32 (e N : Nat)   (r : Int32) (τ : Mem) (Q : Pst) (hQ : Q (some (.inl r)) τ) : ∀ (x1 : Int32) (x2 : Int32) (x3 : Int32) (σ : Mem), F_X11_sheet_b32 N x1 x2 x3 σ = some (r, τ) → Wp (WpD (e + 2)) hcX11_sheet Q (32, [some (.inr (.inr (0, 0))), some (.inl x1), some (.inl x2), some (.inl x3)], []) σ := by
  intro x1 x2 x3 σ h
  unfold F_X11_sheet_b32 at h
  refine Wp.br (WpD.mono _) 1 (c := x2 < 0) (q1 := ((43, [some (.inr (.inr (0, 0))), some (.inl x1), some (.inl x2), some (.inl x3)], []), σ)) (q2 := ((36, [some (.inr (.inr (0, 0))), some (.inl x1), some (.inl x2), some (.inl x3)], []), σ)) rfl (fun hc => ?_) (fun hc => ?_)
  · have h := (if_pos hc).symm.trans h
    exact Wp.jump (WpD.mono _) rfl ((T_X11_sheet_b43 e N  r τ Q hQ ) x1 x2 x3 σ h)
  · have h := (if_neg hc).symm.trans h
    refine Wp.br (WpD.mono _) 1 (c := 0 ≤ x3) (q1 := ((43, [some (.inr (.inr (0, 0))), some (.inl x1), some (.inl x2), some (.inl x3)], []), σ)) (q2 := ((40, [some (.inr (.inr (0, 0))), some (.inl x1), some (.inl x2), some (.inl x3)], []), σ)) rfl (fun hc => ?_) (fun hc => ?_)
    · have h := (if_pos hc).symm.trans h
      exact Wp.jump (WpD.mono _) rfl ((T_X11_sheet_b43 e N  r τ Q hQ ) x1 x2 x3 σ h)
    · have h := (if_neg hc).symm.trans h
      refine Wp.run (WpD.mono _) 0 (q := ((42, [some (.inr (.inr (0, 0))), some (.inl x1), some (.inl x2), some (.inl x3)], [.inl (-14 : Int32)]), σ)) rfl ?_
      cases h
      exact Wp.ret (WpD.mono _) rfl hQ

set_option maxRecDepth 100000 in
set_option maxHeartbeats 4000000 in
theorem T_X11_sheet (e N : Nat)  (a1 : Int32) (a2 : Int32) (a3 : Int32) (σ : Mem) (r : Int32) (τ : Mem) (Q : Pst) (h : F_X11_sheet N a1 a2 a3 σ = some (r, τ)) (hQ : Q (some (.inl r)) τ) : WpD (e + 3) mX11_sheet [.inr (.inr (0, 0)), .inl a1, .inl a2, .inl a3] σ Q := by
  refine WpD.of (d := e + 2) (Nat.le_of_ble_eq_true rfl) (Nat.le_of_ble_eq_true rfl) ?_
  show Wp (WpD (e + 2)) hcX11_sheet Q (0, [some (.inr (.inr (0, 0))), some (.inl a1), some (.inl a2), some (.inl a3)], []) σ
  unfold F_X11_sheet at h
  refine Wp.run (WpD.mono _) 0 (q := ((1, [some (.inr (.inr (0, 0))), some (.inl a1), some (.inl a2), some (.inl a3)], [.inl a1]), σ)) rfl ?_
  obtain ⟨q1, hb, h⟩ := bind_some h
  refine Wp.call (WpD.mono _) rfl (T_X11_isSheet (e + 0) N a1 σ _ _ _ hb ?_)
  show Wp (WpD (e + 2)) hcX11_sheet Q (4, [some (.inr (.inr (0, 0))), some (.inl a1), some (.inl a2), some (.inl a3)], [.inl q1.1]) q1.2
  refine Wp.br (WpD.mono _) 0 (c := q1.1 = 0) (q1 := ((16, [some (.inr (.inr (0, 0))), some (.inl a1), some (.inl a2), some (.inl a3)], []), q1.2)) (q2 := ((7, [some (.inr (.inr (0, 0))), some (.inl a1), some (.inl a2), some (.inl a3)], []), q1.2)) rfl (fun hc => ?_) (fun hc => ?_)
  · have h := (if_pos hc).symm.trans h
    refine Wp.run (WpD.mono _) 0 (q := ((18, [none, none, none, none], [.inl (-2 : Int32)]), q1.2)) rfl ?_
    cases h
    exact Wp.ret (WpD.mono _) rfl hQ
  · have h := (if_neg hc).symm.trans h
    refine Wp.run (WpD.mono _) 2 (q := ((10, [some (.inr (.inr (0, 0))), some (.inl a1), some (.inl a2), some (.inl a3)], [.inl (2 : Int32), .inl (-1 : Int32), .inl a2]), q1.2)) rfl ?_
    obtain ⟨q2, hb, h⟩ := bind_some h
    refine Wp.call (WpD.mono _) rfl (T_X11_within (e + 1) N a2 (-1 : Int32) (2 : Int32) q1.2 _ _ _ hb ?_)
    show Wp (WpD (e + 2)) hcX11_sheet Q (13, [some (.inr (.inr (0, 0))), some (.inl a1), some (.inl a2), some (.inl a3)], [.inl q2.1]) q2.2
    refine Wp.br (WpD.mono _) 0 (c := q2.1 = 0) (q1 := ((16, [some (.inr (.inr (0, 0))), some (.inl a1), some (.inl a2), some (.inl a3)], []), q2.2)) (q2 := ((19, [some (.inr (.inr (0, 0))), some (.inl a1), some (.inl a2), some (.inl a3)], []), q2.2)) rfl (fun hc => ?_) (fun hc => ?_)
    · have h := (if_pos hc).symm.trans h
      refine Wp.run (WpD.mono _) 0 (q := ((18, [none, none, none, none], [.inl (-2 : Int32)]), q2.2)) rfl ?_
      cases h
      exact Wp.ret (WpD.mono _) rfl hQ
    · have h := (if_neg hc).symm.trans h
      refine Wp.br (WpD.mono _) 1 (c := a2 < 0) (q1 := ((32, [some (.inr (.inr (0, 0))), some (.inl a1), some (.inl a2), some (.inl a3)], []), q2.2)) (q2 := ((23, [some (.inr (.inr (0, 0))), some (.inl a1), some (.inl a2), some (.inl a3)], []), q2.2)) rfl (fun hc => ?_) (fun hc => ?_)
      · have h := (if_pos hc).symm.trans h
        exact Wp.jump (WpD.mono _) rfl ((T_X11_sheet_b32 e N  r τ Q hQ ) a1 a2 a3 q2.2 h)
      · have h := (if_neg hc).symm.trans h
        refine Wp.br (WpD.mono _) 2 (c := a3 ≤ (40 : Int32)) (q1 := ((32, [some (.inr (.inr (0, 0))), some (.inl a1), some (.inl a2), some (.inl a3)], []), q2.2)) (q2 := ((29, [some (.inr (.inr (0, 0))), some (.inl a1), some (.inl a2), some (.inl a3)], []), q2.2)) rfl (fun hc => ?_) (fun hc => ?_)
        · have h := (if_pos hc).symm.trans h
          exact Wp.jump (WpD.mono _) rfl ((T_X11_sheet_b32 e N  r τ Q hQ ) a1 a2 a3 q2.2 h)
        · have h := (if_neg hc).symm.trans h
          refine Wp.run (WpD.mono _) 0 (q := ((31, [some (.inr (.inr (0, 0))), some (.inl a1), some (.inl a2), some (.inl a3)], [.inl (-2 : Int32)]), q2.2)) rfl ?_
          cases h
          exact Wp.ret (WpD.mono _) rfl hQ

set_option maxRecDepth 100000 in
set_option maxHeartbeats 4000000 in
theorem T_X9_isOne_b10 (e N : Nat)   (r : Int32) (τ : Mem) (Q : Pst) (hQ : Q (some (.inl r)) τ) : ∀ n, ∀ (x2 : Int32) (x3 : Int32) (x4 : Int32) (σ : Mem), F_X9_isOne_b10 N n x2 x3 x4 σ = some (r, τ) → Wp (WpD (e + 0)) hcX9_isOne Q (10, [none, none, some (.inl x2), some (.inl x3), some (.inl x4)], []) σ := by
  intro n
  induction n with
  | zero => intro x2 x3 x4 σ h; cases h
  | succ n ih =>
    intro x2 x3 x4 σ h
    unfold F_X9_isOne_b10 at h
    refine Wp.br (WpD.mono _) 3 (c := (6 : Int32) ≤ x4) (q1 := ((50, [none, none, some (.inl x2), some (.inl x3), some (.inl x4)], []), σ)) (q2 := ((19, [none, none, some (.inl x2), some (.inl x3), some (.inl x4)], []), σ)) rfl (fun hc => ?_) (fun hc => ?_)
    · have h := (if_pos hc).symm.trans h
      refine Wp.run (WpD.mono _) 0 (q := ((51, [none, none, none, none, none], [.inl (0 : Int32)]), σ)) rfl ?_
      cases h
      exact Wp.ret (WpD.mono _) rfl hQ
    · have h := (if_neg hc).symm.trans h
      refine Wp.br (WpD.mono _) 1 (c := x3 < 0) (q1 := ((50, [none, none, some (.inl x2), some (.inl x3), some (.inl x4)], []), σ)) (q2 := ((23, [none, none, some (.inl x2), some (.inl x3), some (.inl x4)], []), σ)) rfl (fun hc => ?_) (fun hc => ?_)
      · have h := (if_pos hc).symm.trans h
        refine Wp.run (WpD.mono _) 0 (q := ((51, [none, none, none, none, none], [.inl (0 : Int32)]), σ)) rfl ?_
        cases h
        exact Wp.ret (WpD.mono _) rfl hQ
      · have h := (if_neg hc).symm.trans h
        refine Wp.br (WpD.mono _) 3 (c := (6 : Int32) ≤ x3) (q1 := ((50, [none, none, some (.inl x2), some (.inl x3), some (.inl x4)], []), σ)) (q2 := ((31, [none, none, some (.inl x2), some (.inl x3), some (.inl x4)], []), σ)) rfl (fun hc => ?_) (fun hc => ?_)
        · have h := (if_pos hc).symm.trans h
          refine Wp.run (WpD.mono _) 0 (q := ((51, [none, none, none, none, none], [.inl (0 : Int32)]), σ)) rfl ?_
          cases h
          exact Wp.ret (WpD.mono _) rfl hQ
        · have h := (if_neg hc).symm.trans h
          refine Wp.br (WpD.mono _) 2 (c := x3 = x2) (q1 := ((36, [none, none, some (.inl x2), some (.inl x3), some (.inl x4)], []), σ)) (q2 := ((38, [none, none, some (.inl x2), some (.inl x3), some (.inl x4)], []), σ)) rfl (fun hc => ?_) (fun hc => ?_)
          · have h := (if_pos hc).symm.trans h
            refine Wp.run (WpD.mono _) 0 (q := ((37, [none, none, some (.inl x2), some (.inl x3), some (.inl x4)], [.inl (1 : Int32)]), σ)) rfl ?_
            cases h
            exact Wp.ret (WpD.mono _) rfl hQ
          · have h := (if_neg hc).symm.trans h
            obtain ⟨hc, h⟩ := ite_nn h
            refine Wp.no (WpD.mono _) 2 (c := hwOut x3 6) (q := ((43, [none, none, some (.inl x2), some (.inl x3), some (.inl x4)], [.inl (ntD 0 [-1, 0, 1, 0, 1, 5] (x3).toNatClampNeg)]), σ)) rfl hc ?_
            refine Wp.run (WpD.mono _) 2 (q := ((10, [none, none, some (.inl x2), some (.inl (ntD 0 [-1, 0, 1, 0, 1, 5] (x3).toNatClampNeg)), some (.inl (x4 + (1 : Int32)))], []), σ)) rfl ?_
            exact Wp.jump (WpD.mono _) rfl (ih x2 (ntD 0 [-1, 0, 1, 0, 1, 5] (x3).toNatClampNeg) (x4 + (1 : Int32)) σ h)

set_option maxRecDepth 100000 in
set_option maxHeartbeats 4000000 in
theorem T_X9_isOne (e N : Nat)  (a1 : Int32) (a2 : Int32) (σ : Mem) (r : Int32) (τ : Mem) (Q : Pst) (h : F_X9_isOne N a1 a2 σ = some (r, τ)) (hQ : Q (some (.inl r)) τ) : WpD (e + 1) mX9_isOne [.inr (.inr (6, 0)), .inl a1, .inl a2] σ Q := by
  refine WpD.of (d := e + 0) (Nat.le_of_ble_eq_true rfl) (Nat.le_of_ble_eq_true rfl) ?_
  show Wp (WpD (e + 0)) hcX9_isOne Q (0, [some (.inr (.inr (6, 0))), some (.inl a1), some (.inl a2), none, none], []) σ
  unfold F_X9_isOne at h
  obtain ⟨hc, h⟩ := ite_nn h
  refine Wp.no (WpD.mono _) 3 (c := hwOut a1 8) (q := ((6, [some (.inr (.inr (6, 0))), some (.inl a1), some (.inl a2), none, none], [.inl (σ.2.2.1 65 0 (a1).toNatClampNeg)]), σ)) rfl hc ?_
  refine Wp.run (WpD.mono _) 2 (q := ((10, [some (.inr (.inr (6, 0))), some (.inl a1), some (.inl a2), some (.inl (σ.2.2.1 65 0 (a1).toNatClampNeg)), some (.inl (0 : Int32))], []), σ)) rfl ?_
  exact Wp.jump (WpD.mono _) rfl ((T_X9_isOne_b10 e N  r τ Q hQ  N) a2 (σ.2.2.1 65 0 (a1).toNatClampNeg) (0 : Int32) σ h)

set_option maxRecDepth 100000 in
set_option maxHeartbeats 4000000 in
theorem T_X11_taken_b56 (e N : Nat)   (r : Int32) (τ : Mem) (Q : Pst) (hQ : Q (some (.inl r)) τ) : ∀ (x1 : Int32) (x2 : Int32) (x3 : Int32) (σ : Mem), F_X11_taken_b56 N x1 x2 x3 σ = some (r, τ) → Wp (WpD (e + 2)) hcX11_taken Q (56, [some (.inr (.inr (0, 0))), some (.inl x1), some (.inl x2), some (.inl x3)], []) σ := by
  intro x1 x2 x3 σ h
  unfold F_X11_taken_b56 at h
  refine Wp.br (WpD.mono _) 1 (c := 0 ≤ x3) (q1 := ((80, [some (.inr (.inr (0, 0))), some (.inl x1), some (.inl x2), some (.inl x3)], []), σ)) (q2 := ((60, [some (.inr (.inr (0, 0))), some (.inl x1), some (.inl x2), some (.inl x3)], []), σ)) rfl (fun hc => ?_) (fun hc => ?_)
  · have h := (if_pos hc).symm.trans h
    refine Wp.br (WpD.mono _) 2 (c := (5 : Int32) < x2) (q1 := ((101, [some (.inr (.inr (0, 0))), some (.inl x1), some (.inl x2), some (.inl x3)], []), σ)) (q2 := ((85, [some (.inr (.inr (0, 0))), some (.inl x1), some (.inl x2), some (.inl x3)], []), σ)) rfl (fun hc => ?_) (fun hc => ?_)
    · have h := (if_pos hc).symm.trans h
      refine Wp.run (WpD.mono _) 0 (q := ((103, [none, none, none, none], [.inl (-13 : Int32)]), σ)) rfl ?_
      cases h
      exact Wp.ret (WpD.mono _) rfl hQ
    · have h := (if_neg hc).symm.trans h
      refine Wp.run (WpD.mono _) 3 (q := ((91, [some (.inr (.inr (0, 0))), some (.inl x1), some (.inl x2), some (.inl x3)], [.inl x2, .inl x3, .inr (.inr (6, 0))]), σ)) rfl ?_
      obtain ⟨q5, hb, h⟩ := bind_some h
      refine Wp.call (WpD.mono _) rfl (T_X9_isOne (e + 1) N x3 x2 σ _ _ _ hb ?_)
      show Wp (WpD (e + 2)) hcX11_taken Q (94, [some (.inr (.inr (0, 0))), some (.inl x1), some (.inl x2), some (.inl x3)], [.inl q5.1]) q5.2
      refine Wp.br (WpD.mono _) 0 (c := q5.1 = 0) (q1 := ((101, [some (.inr (.inr (0, 0))), some (.inl x1), some (.inl x2), some (.inl x3)], []), q5.2)) (q2 := ((97, [some (.inr (.inr (0, 0))), some (.inl x1), some (.inl x2), some (.inl x3)], []), q5.2)) rfl (fun hc => ?_) (fun hc => ?_)
      · have h := (if_pos hc).symm.trans h
        refine Wp.run (WpD.mono _) 0 (q := ((103, [none, none, none, none], [.inl (-13 : Int32)]), q5.2)) rfl ?_
        cases h
        exact Wp.ret (WpD.mono _) rfl hQ
      · have h := (if_neg hc).symm.trans h
        refine Wp.run (WpD.mono _) 1 (q := ((103, [some (.inr (.inr (0, 0))), some (.inl x1), some (.inl x2), some (.inl x3)], [.inl x3]), q5.2)) rfl ?_
        cases h
        exact Wp.ret (WpD.mono _) rfl hQ
  · have h := (if_neg hc).symm.trans h
    refine Wp.br (WpD.mono _) 2 (c := x2 ≤ (5 : Int32)) (q1 := ((77, [some (.inr (.inr (0, 0))), some (.inl x1), some (.inl x2), some (.inl x3)], []), σ)) (q2 := ((65, [some (.inr (.inr (0, 0))), some (.inl x1), some (.inl x2), some (.inl x3)], []), σ)) rfl (fun hc => ?_) (fun hc => ?_)
    · have h := (if_pos hc).symm.trans h
      refine Wp.run (WpD.mono _) 0 (q := ((79, [some (.inr (.inr (0, 0))), some (.inl x1), some (.inl x2), some (.inl x3)], [.inl (-13 : Int32)]), σ)) rfl ?_
      cases h
      exact Wp.ret (WpD.mono _) rfl hQ
    · have h := (if_neg hc).symm.trans h
      obtain ⟨hc, h⟩ := ite_nn h
      refine Wp.no (WpD.mono _) 4 (c := hwOut x1 5) (q := ((74, [some (.inr (.inr (0, 0))), some (.inl x1), some (.inl x2), some (.inl x3)], [.inl (σ.2.2.1 22 0 (x1).toNatClampNeg)]), σ)) rfl hc ?_
      refine Wp.run (WpD.mono _) 0 (q := ((79, [some (.inr (.inr (0, 0))), some (.inl x1), some (.inl x2), some (.inl x3)], [.inl (σ.2.2.1 22 0 (x1).toNatClampNeg)]), σ)) rfl ?_
      cases h
      exact Wp.ret (WpD.mono _) rfl hQ

set_option maxRecDepth 100000 in
set_option maxHeartbeats 4000000 in
theorem T_X11_taken (e N : Nat)  (a1 : Int32) (a2 : Int32) (σ : Mem) (r : Int32) (τ : Mem) (Q : Pst) (h : F_X11_taken N a1 a2 σ = some (r, τ)) (hQ : Q (some (.inl r)) τ) : WpD (e + 3) mX11_taken [.inr (.inr (0, 0)), .inl a1, .inl a2] σ Q := by
  refine WpD.of (d := e + 2) (Nat.le_of_ble_eq_true rfl) (Nat.le_of_ble_eq_true rfl) ?_
  show Wp (WpD (e + 2)) hcX11_taken Q (0, [some (.inr (.inr (0, 0))), some (.inl a1), some (.inl a2), none], []) σ
  unfold F_X11_taken at h
  refine Wp.run (WpD.mono _) 2 (q := ((4, [some (.inr (.inr (0, 0))), some (.inl a1), some (.inl a2), none], [.inl (6 : Int32), .inl (0 : Int32), .inl a2]), σ)) rfl ?_
  obtain ⟨q1, hb, h⟩ := bind_some h
  refine Wp.call (WpD.mono _) rfl (T_X11_within (e + 1) N a2 (0 : Int32) (6 : Int32) σ _ _ _ hb ?_)
  show Wp (WpD (e + 2)) hcX11_taken Q (7, [some (.inr (.inr (0, 0))), some (.inl a1), some (.inl a2), none], [.inl q1.1]) q1.2
  refine Wp.br (WpD.mono _) 0 (c := q1.1 = 0) (q1 := ((10, [some (.inr (.inr (0, 0))), some (.inl a1), some (.inl a2), none], []), q1.2)) (q2 := ((13, [some (.inr (.inr (0, 0))), some (.inl a1), some (.inl a2), none], []), q1.2)) rfl (fun hc => ?_) (fun hc => ?_)
  · have h := (if_pos hc).symm.trans h
    refine Wp.run (WpD.mono _) 0 (q := ((12, [some (.inr (.inr (0, 0))), some (.inl a1), some (.inl a2), none], [.inl (-2 : Int32)]), q1.2)) rfl ?_
    cases h
    exact Wp.ret (WpD.mono _) rfl hQ
  · have h := (if_neg hc).symm.trans h
    refine Wp.run (WpD.mono _) 2 (q := ((17, [some (.inr (.inr (0, 0))), some (.inl a1), some (.inl a2), none], [.inl (12 : Int32), .inl (0 : Int32), .inl a1]), q1.2)) rfl ?_
    obtain ⟨q2, hb, h⟩ := bind_some h
    refine Wp.call (WpD.mono _) rfl (T_X11_within (e + 1) N a1 (0 : Int32) (12 : Int32) q1.2 _ _ _ hb ?_)
    show Wp (WpD (e + 2)) hcX11_taken Q (20, [some (.inr (.inr (0, 0))), some (.inl a1), some (.inl a2), none], [.inl q2.1]) q2.2
    refine Wp.br (WpD.mono _) 0 (c := q2.1 = 0) (q1 := ((23, [some (.inr (.inr (0, 0))), some (.inl a1), some (.inl a2), none], []), q2.2)) (q2 := ((26, [some (.inr (.inr (0, 0))), some (.inl a1), some (.inl a2), none], []), q2.2)) rfl (fun hc => ?_) (fun hc => ?_)
    · have h := (if_pos hc).symm.trans h
      refine Wp.run (WpD.mono _) 0 (q := ((25, [some (.inr (.inr (0, 0))), some (.inl a1), some (.inl a2), none], [.inl (-12 : Int32)]), q2.2)) rfl ?_
      cases h
      exact Wp.ret (WpD.mono _) rfl hQ
    · have h := (if_neg hc).symm.trans h
      refine Wp.br (WpD.mono _) 5 (c := 0 ≤ (a1 - (5 : Int32))) (q1 := ((45, [some (.inr (.inr (0, 0))), some (.inl a1), some (.inl a2), some (.inl (a1 - (5 : Int32)))], []), q2.2)) (q2 := ((34, [some (.inr (.inr (0, 0))), some (.inl a1), some (.inl a2), some (.inl (a1 - (5 : Int32)))], []), q2.2)) rfl (fun hc => ?_) (fun hc => ?_)
      · have h := (if_pos hc).symm.trans h
        refine Wp.run (WpD.mono _) 1 (q := ((47, [some (.inr (.inr (0, 0))), some (.inl a1), some (.inl a2), some (.inl (a1 - (5 : Int32)))], [.inl (a1 - (5 : Int32)), .inr (.inr (0, 0))]), q2.2)) rfl ?_
        obtain ⟨q3, hb, h⟩ := bind_some h
        refine Wp.call (WpD.mono _) rfl (T_X11_isRule (e + 0) N (a1 - (5 : Int32)) q2.2 _ _ _ hb ?_)
        show Wp (WpD (e + 2)) hcX11_taken Q (50, [some (.inr (.inr (0, 0))), some (.inl a1), some (.inl a2), some (.inl (a1 - (5 : Int32)))], [.inl q3.1]) q3.2
        refine Wp.br (WpD.mono _) 0 (c := q3.1 = 0) (q1 := ((53, [some (.inr (.inr (0, 0))), some (.inl a1), some (.inl a2), some (.inl (a1 - (5 : Int32)))], []), q3.2)) (q2 := ((56, [some (.inr (.inr (0, 0))), some (.inl a1), some (.inl a2), some (.inl (a1 - (5 : Int32)))], []), q3.2)) rfl (fun hc => ?_) (fun hc => ?_)
        · have h := (if_pos hc).symm.trans h
          refine Wp.run (WpD.mono _) 0 (q := ((55, [none, none, none, none], [.inl (-11 : Int32)]), q3.2)) rfl ?_
          cases h
          exact Wp.ret (WpD.mono _) rfl hQ
        · have h := (if_neg hc).symm.trans h
          exact Wp.jump (WpD.mono _) rfl ((T_X11_taken_b56 e N  r τ Q hQ ) a1 a2 (a1 - (5 : Int32)) q3.2 h)
      · have h := (if_neg hc).symm.trans h
        refine Wp.run (WpD.mono _) 1 (q := ((36, [some (.inr (.inr (0, 0))), some (.inl a1), some (.inl a2), some (.inl (a1 - (5 : Int32)))], [.inl a1, .inr (.inr (0, 0))]), q2.2)) rfl ?_
        obtain ⟨q4, hb, h⟩ := bind_some h
        refine Wp.call (WpD.mono _) rfl (T_X11_isLayer (e + 0) N a1 q2.2 _ _ _ hb ?_)
        show Wp (WpD (e + 2)) hcX11_taken Q (39, [some (.inr (.inr (0, 0))), some (.inl a1), some (.inl a2), some (.inl (a1 - (5 : Int32)))], [.inl q4.1]) q4.2
        refine Wp.br (WpD.mono _) 0 (c := q4.1 = 0) (q1 := ((42, [some (.inr (.inr (0, 0))), some (.inl a1), some (.inl a2), some (.inl (a1 - (5 : Int32)))], []), q4.2)) (q2 := ((56, [some (.inr (.inr (0, 0))), some (.inl a1), some (.inl a2), some (.inl (a1 - (5 : Int32)))], []), q4.2)) rfl (fun hc => ?_) (fun hc => ?_)
        · have h := (if_pos hc).symm.trans h
          refine Wp.run (WpD.mono _) 1 (q := ((55, [none, none, none, none], [.inl (-11 : Int32)]), q4.2)) rfl ?_
          cases h
          exact Wp.ret (WpD.mono _) rfl hQ
        · have h := (if_neg hc).symm.trans h
          exact Wp.jump (WpD.mono _) rfl ((T_X11_taken_b56 e N  r τ Q hQ ) a1 a2 (a1 - (5 : Int32)) q4.2 h)

set_option maxRecDepth 100000 in
set_option maxHeartbeats 4000000 in
theorem T_X8_emit (e N : Nat)  (a1 : Int32) (σ : Mem) (r : Unit) (τ : Mem) (Q : Pst) (h : F_X8_emit N a1 σ = some (r, τ)) (hQ : Q (none) τ) : WpD (e + 1) mX8_emit [.inr (.inr (3, 0)), .inl a1] σ Q := by
  refine WpD.of (d := e + 0) (Nat.le_of_ble_eq_true rfl) (Nat.le_of_ble_eq_true rfl) ?_
  show Wp (WpD (e + 0)) hcX8_emit Q (0, [some (.inr (.inr (3, 0))), some (.inl a1)], []) σ
  unfold F_X8_emit at h
  refine Wp.br (WpD.mono _) 5 (c := (160 : Int32) ≤ (σ.1 3 4)) (q1 := ((32, [some (.inr (.inr (3, 0))), some (.inl a1)], []), σ)) (q2 := ((12, [some (.inr (.inr (3, 0))), some (.inl a1)], []), σ)) rfl (fun hc => ?_) (fun hc => ?_)
  · have h := (if_pos hc).symm.trans h
    cases h
    exact Wp.ret (WpD.mono _) rfl hQ
  · have h := (if_neg hc).symm.trans h
    obtain ⟨hc, h⟩ := ite_nn h
    refine Wp.no (WpD.mono _) 5 (c := hwOut (σ.1 3 4) 160) (q := ((22, [some (.inr (.inr (3, 0))), some (.inl a1)], []), (σ.1, σ.2.1, (hwU3 σ.2.2.1 63 0 ((σ.1 3 4)).toNatClampNeg a1), σ.2.2.2.1, σ.2.2.2.2))) rfl hc ?_
    refine Wp.run (WpD.mono _) 5 (q := ((32, [some (.inr (.inr (3, 0))), some (.inl a1)], []), ((hwU2 σ.1 3 4 ((σ.1 3 4) + (1 : Int32))), σ.2.1, (hwU3 σ.2.2.1 63 0 ((σ.1 3 4)).toNatClampNeg a1), σ.2.2.2.1, σ.2.2.2.2))) rfl ?_
    cases h
    exact Wp.ret (WpD.mono _) rfl hQ

set_option maxRecDepth 100000 in
set_option maxHeartbeats 4000000 in
theorem T_X8_joins (e N : Nat)  (a1 : Int32) (σ : Mem) (r : Int32) (τ : Mem) (Q : Pst) (h : F_X8_joins N a1 σ = some (r, τ)) (hQ : Q (some (.inl r)) τ) : WpD (e + 1) mX8_joins [.inr (.inr (3, 0)), .inl a1] σ Q := by
  refine WpD.of (d := e + 0) (Nat.le_of_ble_eq_true rfl) (Nat.le_of_ble_eq_true rfl) ?_
  show Wp (WpD (e + 0)) hcX8_joins Q (0, [some (.inr (.inr (3, 0))), some (.inl a1)], []) σ
  unfold F_X8_joins at h
  refine Wp.run (WpD.mono _) 0 (q := ((1, [some (.inr (.inr (3, 0))), some (.inl a1)], [.inl a1]), σ)) rfl ?_
  by_cases hs0 : a1 = 0
  · have h := (if_pos hs0).symm.trans h
    refine Wp.swIn (WpD.mono _) (q := ((28, [some (.inr (.inr (3, 0))), some (.inl a1)], []), σ)) hs0 rfl ?_
    refine Wp.br (WpD.mono _) 3 (c := (σ.1 3 7) = (7 : Int32)) (q1 := ((37, [some (.inr (.inr (3, 0))), some (.inl a1)], []), σ)) (q2 := ((41, [some (.inr (.inr (3, 0))), some (.inl a1)], []), σ)) rfl (fun hc => ?_) (fun hc => ?_)
    · have h := (if_pos hc).symm.trans h
      refine Wp.run (WpD.mono _) 1 (q := ((42, [some (.inr (.inr (3, 0))), some (.inl a1)], [.inl (1 : Int32)]), σ)) rfl ?_
      cases h
      exact Wp.ret (WpD.mono _) rfl hQ
    · have h := (if_neg hc).symm.trans h
      refine Wp.run (WpD.mono _) 0 (q := ((42, [some (.inr (.inr (3, 0))), some (.inl a1)], [.inl (0 : Int32)]), σ)) rfl ?_
      cases h
      exact Wp.ret (WpD.mono _) rfl hQ
  have h := (if_neg hs0).symm.trans h
  by_cases hs1 : a1 = 1
  · have h := (if_pos hs1).symm.trans h
    refine Wp.swIn (WpD.mono _) (q := ((43, [some (.inr (.inr (3, 0))), some (.inl a1)], []), σ)) hs1 rfl ?_
    refine Wp.br (WpD.mono _) 3 (c := (σ.1 3 7) = (8 : Int32)) (q1 := ((52, [some (.inr (.inr (3, 0))), some (.inl a1)], []), σ)) (q2 := ((56, [some (.inr (.inr (3, 0))), some (.inl a1)], []), σ)) rfl (fun hc => ?_) (fun hc => ?_)
    · have h := (if_pos hc).symm.trans h
      refine Wp.run (WpD.mono _) 1 (q := ((57, [some (.inr (.inr (3, 0))), some (.inl a1)], [.inl (1 : Int32)]), σ)) rfl ?_
      cases h
      exact Wp.ret (WpD.mono _) rfl hQ
    · have h := (if_neg hc).symm.trans h
      refine Wp.run (WpD.mono _) 0 (q := ((57, [some (.inr (.inr (3, 0))), some (.inl a1)], [.inl (0 : Int32)]), σ)) rfl ?_
      cases h
      exact Wp.ret (WpD.mono _) rfl hQ
  have h := (if_neg hs1).symm.trans h
  by_cases hs2 : a1 = 2
  · have h := (if_pos hs2).symm.trans h
    refine Wp.swIn (WpD.mono _) (q := ((58, [some (.inr (.inr (3, 0))), some (.inl a1)], []), σ)) hs2 rfl ?_
    refine Wp.br (WpD.mono _) 3 (c := (σ.1 3 7) = (43 : Int32)) (q1 := ((76, [some (.inr (.inr (3, 0))), some (.inl a1)], []), σ)) (q2 := ((67, [some (.inr (.inr (3, 0))), some (.inl a1)], []), σ)) rfl (fun hc => ?_) (fun hc => ?_)
    · have h := (if_pos hc).symm.trans h
      refine Wp.run (WpD.mono _) 1 (q := ((81, [none, none], [.inl (1 : Int32)]), σ)) rfl ?_
      cases h
      exact Wp.ret (WpD.mono _) rfl hQ
    · have h := (if_neg hc).symm.trans h
      refine Wp.br (WpD.mono _) 3 (c := (σ.1 3 7) = (45 : Int32)) (q1 := ((76, [some (.inr (.inr (3, 0))), some (.inl a1)], []), σ)) (q2 := ((80, [some (.inr (.inr (3, 0))), some (.inl a1)], []), σ)) rfl (fun hc => ?_) (fun hc => ?_)
      · have h := (if_pos hc).symm.trans h
        refine Wp.run (WpD.mono _) 1 (q := ((81, [none, none], [.inl (1 : Int32)]), σ)) rfl ?_
        cases h
        exact Wp.ret (WpD.mono _) rfl hQ
      · have h := (if_neg hc).symm.trans h
        refine Wp.run (WpD.mono _) 0 (q := ((81, [some (.inr (.inr (3, 0))), some (.inl a1)], [.inl (0 : Int32)]), σ)) rfl ?_
        cases h
        exact Wp.ret (WpD.mono _) rfl hQ
  have h := (if_neg hs2).symm.trans h
  have ehs0 : ¬ (a1).toInt = 0 := fun z => hs0 (Int32.toInt_inj.mp z)
  have ehs1 : ¬ (a1).toInt = 1 := fun z => hs1 (Int32.toInt_inj.mp z)
  have ehs2 : ¬ (a1).toInt = 2 := fun z => hs2 (Int32.toInt_inj.mp z)
  refine Wp.swOut (WpD.mono _) (q := ((82, [some (.inr (.inr (3, 0))), some (.inl a1)], []), σ)) (o := if (a1).toInt < 0 ∨ 2 < (a1).toInt then some (81) else #[27, 42, 57][((a1).toInt - 0).toNat]?) (o' := some (81)) rfl (if_pos (by omega)) rfl ?_
  refine Wp.br (WpD.mono _) 3 (c := (σ.1 3 7) = (42 : Int32)) (q1 := ((91, [some (.inr (.inr (3, 0))), some (.inl a1)], []), σ)) (q2 := ((95, [some (.inr (.inr (3, 0))), some (.inl a1)], []), σ)) rfl (fun hc => ?_) (fun hc => ?_)
  · have h := (if_pos hc).symm.trans h
    refine Wp.run (WpD.mono _) 1 (q := ((96, [some (.inr (.inr (3, 0))), some (.inl a1)], [.inl (1 : Int32)]), σ)) rfl ?_
    cases h
    exact Wp.ret (WpD.mono _) rfl hQ
  · have h := (if_neg hc).symm.trans h
    refine Wp.run (WpD.mono _) 0 (q := ((96, [some (.inr (.inr (3, 0))), some (.inl a1)], [.inl (0 : Int32)]), σ)) rfl ?_
    cases h
    exact Wp.ret (WpD.mono _) rfl hQ

set_option maxRecDepth 100000 in
set_option maxHeartbeats 4000000 in
theorem T_X8_isDigit (e N : Nat)  (a1 : Int32) (σ : Mem) (r : Int32) (τ : Mem) (Q : Pst) (h : F_X8_isDigit N a1 σ = some (r, τ)) (hQ : Q (some (.inl r)) τ) : WpD (e + 1) mX8_isDigit [.inl a1] σ Q := by
  refine WpD.of (d := e + 0) (Nat.le_of_ble_eq_true rfl) (Nat.le_of_ble_eq_true rfl) ?_
  show Wp (WpD (e + 0)) hcX8_isDigit Q (0, [some (.inl a1)], []) σ
  unfold F_X8_isDigit at h
  refine Wp.br (WpD.mono _) 2 (c := a1 < (48 : Int32)) (q1 := ((16, [some (.inl a1)], []), σ)) (q2 := ((6, [some (.inl a1)], []), σ)) rfl (fun hc => ?_) (fun hc => ?_)
  · have h := (if_pos hc).symm.trans h
    refine Wp.run (WpD.mono _) 0 (q := ((17, [none], [.inl (0 : Int32)]), σ)) rfl ?_
    cases h
    exact Wp.ret (WpD.mono _) rfl hQ
  · have h := (if_neg hc).symm.trans h
    refine Wp.br (WpD.mono _) 2 (c := (57 : Int32) < a1) (q1 := ((16, [some (.inl a1)], []), σ)) (q2 := ((12, [some (.inl a1)], []), σ)) rfl (fun hc => ?_) (fun hc => ?_)
    · have h := (if_pos hc).symm.trans h
      refine Wp.run (WpD.mono _) 0 (q := ((17, [none], [.inl (0 : Int32)]), σ)) rfl ?_
      cases h
      exact Wp.ret (WpD.mono _) rfl hQ
    · have h := (if_neg hc).symm.trans h
      refine Wp.run (WpD.mono _) 1 (q := ((17, [some (.inl a1)], [.inl (1 : Int32)]), σ)) rfl ?_
      cases h
      exact Wp.ret (WpD.mono _) rfl hQ

set_option maxRecDepth 100000 in
set_option maxHeartbeats 4000000 in
theorem T_X8_isLetter (e N : Nat)  (a1 : Int32) (σ : Mem) (r : Int32) (τ : Mem) (Q : Pst) (h : F_X8_isLetter N a1 σ = some (r, τ)) (hQ : Q (some (.inl r)) τ) : WpD (e + 1) mX8_isLetter [.inl a1] σ Q := by
  refine WpD.of (d := e + 0) (Nat.le_of_ble_eq_true rfl) (Nat.le_of_ble_eq_true rfl) ?_
  show Wp (WpD (e + 0)) hcX8_isLetter Q (0, [some (.inl a1)], []) σ
  unfold F_X8_isLetter at h
  refine Wp.br (WpD.mono _) 2 (c := a1 < (97 : Int32)) (q1 := ((16, [some (.inl a1)], []), σ)) (q2 := ((6, [some (.inl a1)], []), σ)) rfl (fun hc => ?_) (fun hc => ?_)
  · have h := (if_pos hc).symm.trans h
    refine Wp.run (WpD.mono _) 0 (q := ((17, [none], [.inl (0 : Int32)]), σ)) rfl ?_
    cases h
    exact Wp.ret (WpD.mono _) rfl hQ
  · have h := (if_neg hc).symm.trans h
    refine Wp.br (WpD.mono _) 2 (c := (122 : Int32) < a1) (q1 := ((16, [some (.inl a1)], []), σ)) (q2 := ((12, [some (.inl a1)], []), σ)) rfl (fun hc => ?_) (fun hc => ?_)
    · have h := (if_pos hc).symm.trans h
      refine Wp.run (WpD.mono _) 0 (q := ((17, [none], [.inl (0 : Int32)]), σ)) rfl ?_
      cases h
      exact Wp.ret (WpD.mono _) rfl hQ
    · have h := (if_neg hc).symm.trans h
      refine Wp.run (WpD.mono _) 1 (q := ((17, [some (.inl a1)], [.inl (1 : Int32)]), σ)) rfl ?_
      cases h
      exact Wp.ret (WpD.mono _) rfl hQ

set_option maxRecDepth 100000 in
set_option maxHeartbeats 4000000 in
theorem T_X8_readNumber_b81 (e N : Nat)   (r : Unit) (τ : Mem) (Q : Pst) (hQ : Q (none) τ) : ∀  (σ : Mem), F_X8_readNumber_b81 N  σ = some (r, τ) → Wp (WpD (e + 1)) hcX8_readNumber Q (81, [some (.inr (.inr (3, 0)))], []) σ := by
  intro  σ h
  unfold F_X8_readNumber_b81 at h
  refine Wp.br (WpD.mono _) 7 (c := ((σ.1 3 5) - (σ.1 3 6)) ≤ (4 : Int32)) (q1 := ((99, [some (.inr (.inr (3, 0)))], [.inr (.inr (3, 0))]), σ)) (q2 := ((95, [some (.inr (.inr (3, 0)))], [.inr (.inr (3, 0))]), σ)) rfl (fun hc => ?_) (fun hc => ?_)
  · have h := (if_pos hc).symm.trans h
    refine Wp.run (WpD.mono _) 1 (q := ((103, [none], []), ((hwU2 σ.1 3 7 (2 : Int32)), σ.2.1, σ.2.2.1, σ.2.2.2.1, σ.2.2.2.2))) rfl ?_
    cases h
    exact Wp.ret (WpD.mono _) rfl hQ
  · have h := (if_neg hc).symm.trans h
    refine Wp.run (WpD.mono _) 2 (q := ((103, [none], []), ((hwU2 σ.1 3 7 (1 : Int32)), σ.2.1, σ.2.2.1, σ.2.2.2.1, σ.2.2.2.2))) rfl ?_
    cases h
    exact Wp.ret (WpD.mono _) rfl hQ

set_option maxRecDepth 100000 in
set_option maxHeartbeats 4000000 in
theorem T_X8_readNumber_b5 (e N : Nat)   (r : Unit) (τ : Mem) (Q : Pst) (hQ : Q (none) τ) : ∀ n, ∀  (σ : Mem), F_X8_readNumber_b5 N n  σ = some (r, τ) → Wp (WpD (e + 1)) hcX8_readNumber Q (5, [some (.inr (.inr (3, 0)))], []) σ := by
  intro n
  induction n with
  | zero => intro  σ h; cases h
  | succ n ih =>
    intro  σ h
    unfold F_X8_readNumber_b5 at h
    refine Wp.br (WpD.mono _) 4 (c := (σ.1 3 3) ≤ (σ.1 3 5)) (q1 := ((81, [some (.inr (.inr (3, 0)))], []), σ)) (q2 := ((16, [some (.inr (.inr (3, 0)))], []), σ)) rfl (fun hc => ?_) (fun hc => ?_)
    · have h := (if_pos hc).symm.trans h
      exact Wp.jump (WpD.mono _) rfl ((T_X8_readNumber_b81 e N  r τ Q hQ ) σ h)
    · have h := (if_neg hc).symm.trans h
      obtain ⟨hc, h⟩ := ite_nn h
      refine Wp.no (WpD.mono _) 4 (c := hwOut (σ.1 3 5) 160) (q := ((25, [some (.inr (.inr (3, 0)))], [.inl (σ.2.2.1 62 0 ((σ.1 3 5)).toNatClampNeg)]), σ)) rfl hc ?_
      obtain ⟨q1, hb, h⟩ := bind_some h
      refine Wp.call (WpD.mono _) rfl (T_X8_isDigit (e + 0) N (σ.2.2.1 62 0 ((σ.1 3 5)).toNatClampNeg) σ _ _ _ hb ?_)
      show Wp (WpD (e + 1)) hcX8_readNumber Q (28, [some (.inr (.inr (3, 0)))], [.inl q1.1]) q1.2
      refine Wp.br (WpD.mono _) 0 (c := q1.1 = 0) (q1 := ((81, [some (.inr (.inr (3, 0)))], []), q1.2)) (q2 := ((31, [some (.inr (.inr (3, 0)))], []), q1.2)) rfl (fun hc => ?_) (fun hc => ?_)
      · have h := (if_pos hc).symm.trans h
        exact Wp.jump (WpD.mono _) rfl ((T_X8_readNumber_b81 e N  r τ Q hQ ) q1.2 h)
      · have h := (if_neg hc).symm.trans h
        refine Wp.br (WpD.mono _) 6 (c := (4 : Int32) ≤ ((q1.2.1 3 5) - (q1.2.1 3 6))) (q1 := ((68, [some (.inr (.inr (3, 0)))], []), q1.2)) (q2 := ((44, [some (.inr (.inr (3, 0)))], []), q1.2)) rfl (fun hc => ?_) (fun hc => ?_)
        · have h := (if_pos hc).symm.trans h
          refine Wp.run (WpD.mono _) 6 (q := ((5, [some (.inr (.inr (3, 0)))], []), ((hwU2 q1.2.1 3 5 ((q1.2.1 3 5) + (1 : Int32))), q1.2.2.1, q1.2.2.2.1, q1.2.2.2.2.1, q1.2.2.2.2.2))) rfl ?_
          exact Wp.jump (WpD.mono _) rfl (ih ((hwU2 q1.2.1 3 5 ((q1.2.1 3 5) + (1 : Int32))), q1.2.2.1, q1.2.2.2.1, q1.2.2.2.2.1, q1.2.2.2.2.2) h)
        · have h := (if_neg hc).symm.trans h
          obtain ⟨hc, h⟩ := ite_nn h
          refine Wp.no (WpD.mono _) 9 (c := hwOut (q1.2.1 3 5) 160) (q := ((61, [some (.inr (.inr (3, 0)))], [.inl (q1.2.2.2.1 62 0 ((q1.2.1 3 5)).toNatClampNeg), .inl ((q1.2.1 3 8) * (10 : Int32)), .inr (.inr (3, 0))]), q1.2)) rfl hc ?_
          refine Wp.run (WpD.mono _) 10 (q := ((5, [some (.inr (.inr (3, 0)))], []), ((hwU2 (hwU2 q1.2.1 3 8 ((((q1.2.1 3 8) * (10 : Int32)) + (q1.2.2.2.1 62 0 ((q1.2.1 3 5)).toNatClampNeg)) - (48 : Int32))) 3 5 ((q1.2.1 3 5) + (1 : Int32))), q1.2.2.1, q1.2.2.2.1, q1.2.2.2.2.1, q1.2.2.2.2.2))) rfl ?_
          exact Wp.jump (WpD.mono _) rfl (ih ((hwU2 (hwU2 q1.2.1 3 8 ((((q1.2.1 3 8) * (10 : Int32)) + (q1.2.2.2.1 62 0 ((q1.2.1 3 5)).toNatClampNeg)) - (48 : Int32))) 3 5 ((q1.2.1 3 5) + (1 : Int32))), q1.2.2.1, q1.2.2.2.1, q1.2.2.2.2.1, q1.2.2.2.2.2) h)

set_option maxRecDepth 100000 in
set_option maxHeartbeats 4000000 in
theorem T_X8_readNumber (e N : Nat)   (σ : Mem) (r : Unit) (τ : Mem) (Q : Pst) (h : F_X8_readNumber N  σ = some (r, τ)) (hQ : Q (none) τ) : WpD (e + 2) mX8_readNumber [.inr (.inr (3, 0))] σ Q := by
  refine WpD.of (d := e + 1) (Nat.le_of_ble_eq_true rfl) (Nat.le_of_ble_eq_true rfl) ?_
  show Wp (WpD (e + 1)) hcX8_readNumber Q (0, [some (.inr (.inr (3, 0)))], []) σ
  unfold F_X8_readNumber at h
  refine Wp.run (WpD.mono _) 2 (q := ((5, [some (.inr (.inr (3, 0)))], []), ((hwU2 σ.1 3 8 (0 : Int32)), σ.2.1, σ.2.2.1, σ.2.2.2.1, σ.2.2.2.2))) rfl ?_
  exact Wp.jump (WpD.mono _) rfl ((T_X8_readNumber_b5 e N  r τ Q hQ  N) ((hwU2 σ.1 3 8 (0 : Int32)), σ.2.1, σ.2.2.1, σ.2.2.2.1, σ.2.2.2.2) h)

set_option maxRecDepth 100000 in
set_option maxHeartbeats 4000000 in
theorem T_X8_isWord_b47 (e N : Nat)  (k20 : Int32 → Int32 → Int32 → Mem → Option (Int32 × Mem)) (r : Int32) (τ : Mem) (Q : Pst) (hQ : Q (some (.inl r)) τ) (hk20 : ∀ (x1 : Int32) (x2 : Int32) (x3 : Int32) (σ : Mem), k20 x1 x2 x3 σ = some (r, τ) → Wp (WpD (e + 0)) hcX8_isWord Q (20, [some (.inr (.inr (3, 0))), some (.inl x1), some (.inl x2), some (.inl x3), none], []) σ) : ∀ (x1 : Int32) (x2 : Int32) (x3 : Int32) (s0 : Int32) (σ : Mem), F_X8_isWord_b47 N k20 x1 x2 x3 s0 σ = some (r, τ) → Wp (WpD (e + 0)) hcX8_isWord Q (47, [some (.inr (.inr (3, 0))), some (.inl x1), some (.inl x2), some (.inl x3), none], [.inl s0]) σ := by
  intro x1 x2 x3 s0 σ h
  unfold F_X8_isWord_b47 at h
  obtain ⟨hc, h⟩ := ite_nn h
  refine Wp.no (WpD.mono _) 8 (c := hwOut ((x1 * (6 : Int32)) + x3) 72) (q := ((62, [some (.inr (.inr (3, 0))), some (.inl x1), some (.inl x2), some (.inl x3), some (.inl s0)], [.inl (nI (ntD 0 (ntD [] hwST 2) (((x1 * (6 : Int32)) + x3)).toNatClampNeg)), .inl s0]), σ)) rfl hc ?_
  refine Wp.br (WpD.mono _) 0 (c := s0 = (nI (ntD 0 (ntD [] hwST 2) (((x1 * (6 : Int32)) + x3)).toNatClampNeg))) (q1 := ((67, [some (.inr (.inr (3, 0))), some (.inl x1), some (.inl x2), some (.inl x3), some (.inl s0)], []), σ)) (q2 := ((65, [some (.inr (.inr (3, 0))), some (.inl x1), some (.inl x2), some (.inl x3), some (.inl s0)], []), σ)) rfl (fun hc => ?_) (fun hc => ?_)
  · have h := (if_pos hc).symm.trans h
    refine Wp.run (WpD.mono _) 1 (q := ((20, [some (.inr (.inr (3, 0))), some (.inl x1), some (.inl x2), some (.inl (x3 + (1 : Int32))), some (.inl s0)], []), σ)) rfl ?_
    exact Wp.jump (WpD.mono _) rfl (hk20 x1 x2 (x3 + (1 : Int32)) σ h)
  · have h := (if_neg hc).symm.trans h
    refine Wp.run (WpD.mono _) 0 (q := ((66, [some (.inr (.inr (3, 0))), some (.inl x1), some (.inl x2), some (.inl x3), some (.inl s0)], [.inl (0 : Int32)]), σ)) rfl ?_
    cases h
    exact Wp.ret (WpD.mono _) rfl hQ

set_option maxRecDepth 100000 in
set_option maxHeartbeats 4000000 in
theorem T_X8_isWord_b20 (e N : Nat)   (r : Int32) (τ : Mem) (Q : Pst) (hQ : Q (some (.inl r)) τ) : ∀ n, ∀ (x1 : Int32) (x2 : Int32) (x3 : Int32) (σ : Mem), F_X8_isWord_b20 N n x1 x2 x3 σ = some (r, τ) → Wp (WpD (e + 0)) hcX8_isWord Q (20, [some (.inr (.inr (3, 0))), some (.inl x1), some (.inl x2), some (.inl x3), none], []) σ := by
  intro n
  induction n with
  | zero => intro x1 x2 x3 σ h; cases h
  | succ n ih =>
    intro x1 x2 x3 σ h
    unfold F_X8_isWord_b20 at h
    refine Wp.br (WpD.mono _) 2 (c := (6 : Int32) ≤ x3) (q1 := ((73, [some (.inr (.inr (3, 0))), some (.inl x1), some (.inl x2), some (.inl x3), none], []), σ)) (q2 := ((26, [some (.inr (.inr (3, 0))), some (.inl x1), some (.inl x2), some (.inl x3), none], []), σ)) rfl (fun hc => ?_) (fun hc => ?_)
    · have h := (if_pos hc).symm.trans h
      refine Wp.run (WpD.mono _) 0 (q := ((74, [some (.inr (.inr (3, 0))), some (.inl x1), some (.inl x2), some (.inl x3), none], [.inl (1 : Int32)]), σ)) rfl ?_
      cases h
      exact Wp.ret (WpD.mono _) rfl hQ
    · have h := (if_neg hc).symm.trans h
      refine Wp.br (WpD.mono _) 2 (c := x2 ≤ x3) (q1 := ((45, [some (.inr (.inr (3, 0))), some (.inl x1), some (.inl x2), some (.inl x3), none], []), σ)) (q2 := ((31, [some (.inr (.inr (3, 0))), some (.inl x1), some (.inl x2), some (.inl x3), none], []), σ)) rfl (fun hc => ?_) (fun hc => ?_)
      · have h := (if_pos hc).symm.trans h
        refine Wp.run (WpD.mono _) 0 (q := ((47, [some (.inr (.inr (3, 0))), some (.inl x1), some (.inl x2), some (.inl x3), none], [.inl (32 : Int32)]), σ)) rfl ?_
        exact Wp.jump (WpD.mono _) rfl ((T_X8_isWord_b47 e N (F_X8_isWord_b20 N n) r τ Q hQ ih) x1 x2 x3 (32 : Int32) σ h)
      · have h := (if_neg hc).symm.trans h
        obtain ⟨hc, h⟩ := ite_nn h
        refine Wp.no (WpD.mono _) 6 (c := hwOut ((σ.1 3 6) + x3) 160) (q := ((42, [some (.inr (.inr (3, 0))), some (.inl x1), some (.inl x2), some (.inl x3), none], [.inl (σ.2.2.1 62 0 (((σ.1 3 6) + x3)).toNatClampNeg)]), σ)) rfl hc ?_
        refine Wp.run (WpD.mono _) 0 (q := ((47, [some (.inr (.inr (3, 0))), some (.inl x1), some (.inl x2), some (.inl x3), none], [.inl (σ.2.2.1 62 0 (((σ.1 3 6) + x3)).toNatClampNeg)]), σ)) rfl ?_
        exact Wp.jump (WpD.mono _) rfl ((T_X8_isWord_b47 e N (F_X8_isWord_b20 N n) r τ Q hQ ih) x1 x2 x3 (σ.2.2.1 62 0 (((σ.1 3 6) + x3)).toNatClampNeg) σ h)

set_option maxRecDepth 100000 in
set_option maxHeartbeats 4000000 in
theorem T_X8_isWord (e N : Nat)  (a1 : Int32) (σ : Mem) (r : Int32) (τ : Mem) (Q : Pst) (h : F_X8_isWord N a1 σ = some (r, τ)) (hQ : Q (some (.inl r)) τ) : WpD (e + 1) mX8_isWord [.inr (.inr (3, 0)), .inl a1] σ Q := by
  refine WpD.of (d := e + 0) (Nat.le_of_ble_eq_true rfl) (Nat.le_of_ble_eq_true rfl) ?_
  show Wp (WpD (e + 0)) hcX8_isWord Q (0, [some (.inr (.inr (3, 0))), some (.inl a1), none, none, none], []) σ
  unfold F_X8_isWord at h
  refine Wp.br (WpD.mono _) 8 (c := ((σ.1 3 5) - (σ.1 3 6)) ≤ (6 : Int32)) (q1 := ((18, [some (.inr (.inr (3, 0))), some (.inl a1), some (.inl ((σ.1 3 5) - (σ.1 3 6))), none, none], []), σ)) (q2 := ((16, [some (.inr (.inr (3, 0))), some (.inl a1), some (.inl ((σ.1 3 5) - (σ.1 3 6))), none, none], []), σ)) rfl (fun hc => ?_) (fun hc => ?_)
  · have h := (if_pos hc).symm.trans h
    refine Wp.run (WpD.mono _) 1 (q := ((20, [some (.inr (.inr (3, 0))), some (.inl a1), some (.inl ((σ.1 3 5) - (σ.1 3 6))), some (.inl (0 : Int32)), none], []), σ)) rfl ?_
    exact Wp.jump (WpD.mono _) rfl ((T_X8_isWord_b20 e N  r τ Q hQ  N) a1 ((σ.1 3 5) - (σ.1 3 6)) (0 : Int32) σ h)
  · have h := (if_neg hc).symm.trans h
    refine Wp.run (WpD.mono _) 0 (q := ((17, [some (.inr (.inr (3, 0))), some (.inl a1), some (.inl ((σ.1 3 5) - (σ.1 3 6))), none, none], [.inl (0 : Int32)]), σ)) rfl ?_
    cases h
    exact Wp.ret (WpD.mono _) rfl hQ

set_option maxRecDepth 100000 in
set_option maxHeartbeats 4000000 in
theorem T_X8_readWord_b46 (e N : Nat)   (r : Unit) (τ : Mem) (Q : Pst) (hQ : Q (none) τ) : ∀ n, ∀ (x1 : Int32) (σ : Mem), F_X8_readWord_b46 N n x1 σ = some (r, τ) → Wp (WpD (e + 1)) hcX8_readWord Q (46, [some (.inr (.inr (3, 0))), some (.inl x1)], []) σ := by
  intro n
  induction n with
  | zero => intro x1 σ h; cases h
  | succ n ih =>
    intro x1 σ h
    unfold F_X8_readWord_b46 at h
    refine Wp.br (WpD.mono _) 2 (c := (12 : Int32) ≤ x1) (q1 := ((91, [some (.inr (.inr (3, 0))), some (.inl x1)], []), σ)) (q2 := ((52, [some (.inr (.inr (3, 0))), some (.inl x1)], []), σ)) rfl (fun hc => ?_) (fun hc => ?_)
    · have h := (if_pos hc).symm.trans h
      cases h
      exact Wp.ret (WpD.mono _) rfl hQ
    · have h := (if_neg hc).symm.trans h
      refine Wp.run (WpD.mono _) 1 (q := ((54, [some (.inr (.inr (3, 0))), some (.inl x1)], [.inl x1, .inr (.inr (3, 0))]), σ)) rfl ?_
      obtain ⟨q2, hb, h⟩ := bind_some h
      refine Wp.call (WpD.mono _) rfl (T_X8_isWord (e + 0) N x1 σ _ _ _ hb ?_)
      show Wp (WpD (e + 1)) hcX8_readWord Q (57, [some (.inr (.inr (3, 0))), some (.inl x1)], [.inl q2.1]) q2.2
      refine Wp.br (WpD.mono _) 0 (c := q2.1 = 0) (q1 := ((85, [some (.inr (.inr (3, 0))), some (.inl x1)], []), q2.2)) (q2 := ((60, [some (.inr (.inr (3, 0))), some (.inl x1)], []), q2.2)) rfl (fun hc => ?_) (fun hc => ?_)
      · have h := (if_pos hc).symm.trans h
        refine Wp.run (WpD.mono _) 1 (q := ((46, [some (.inr (.inr (3, 0))), some (.inl (x1 + (1 : Int32)))], []), q2.2)) rfl ?_
        exact Wp.jump (WpD.mono _) rfl (ih (x1 + (1 : Int32)) q2.2 h)
      · have h := (if_neg hc).symm.trans h
        refine Wp.br (WpD.mono _) 3 (c := (6 : Int32) ≤ x1) (q1 := ((73, [some (.inr (.inr (3, 0))), some (.inl x1)], [.inr (.inr (3, 0))]), q2.2)) (q2 := ((67, [some (.inr (.inr (3, 0))), some (.inl x1)], [.inr (.inr (3, 0))]), q2.2)) rfl (fun hc => ?_) (fun hc => ?_)
        · have h := (if_pos hc).symm.trans h
          refine Wp.run (WpD.mono _) 8 (q := ((46, [some (.inr (.inr (3, 0))), some (.inl (x1 + (1 : Int32)))], []), ((hwU2 (hwU2 q2.2.1 3 7 (3 : Int32)) 3 8 (x1 - (6 : Int32))), q2.2.2.1, q2.2.2.2.1, q2.2.2.2.2.1, q2.2.2.2.2.2))) rfl ?_
          exact Wp.jump (WpD.mono _) rfl (ih (x1 + (1 : Int32)) ((hwU2 (hwU2 q2.2.1 3 7 (3 : Int32)) 3 8 (x1 - (6 : Int32))), q2.2.2.1, q2.2.2.2.1, q2.2.2.2.2.1, q2.2.2.2.2.2) h)
        · have h := (if_neg hc).symm.trans h
          refine Wp.run (WpD.mono _) 11 (q := ((46, [some (.inr (.inr (3, 0))), some (.inl (x1 + (1 : Int32)))], []), ((hwU2 (hwU2 q2.2.1 3 7 ((4 : Int32) + x1)) 3 8 (x1 - (6 : Int32))), q2.2.2.1, q2.2.2.2.1, q2.2.2.2.2.1, q2.2.2.2.2.2))) rfl ?_
          exact Wp.jump (WpD.mono _) rfl (ih (x1 + (1 : Int32)) ((hwU2 (hwU2 q2.2.1 3 7 ((4 : Int32) + x1)) 3 8 (x1 - (6 : Int32))), q2.2.2.1, q2.2.2.2.1, q2.2.2.2.2.1, q2.2.2.2.2.2) h)

set_option maxRecDepth 100000 in
set_option maxHeartbeats 4000000 in
theorem T_X8_readWord_b0 (e N : Nat)   (r : Unit) (τ : Mem) (Q : Pst) (hQ : Q (none) τ) : ∀ n, ∀  (σ : Mem), F_X8_readWord_b0 N n  σ = some (r, τ) → Wp (WpD (e + 1)) hcX8_readWord Q (0, [some (.inr (.inr (3, 0))), none], []) σ := by
  intro n
  induction n with
  | zero => intro  σ h; cases h
  | succ n ih =>
    intro  σ h
    unfold F_X8_readWord_b0 at h
    refine Wp.br (WpD.mono _) 4 (c := (σ.1 3 3) ≤ (σ.1 3 5)) (q1 := ((39, [some (.inr (.inr (3, 0))), none], []), σ)) (q2 := ((11, [some (.inr (.inr (3, 0))), none], []), σ)) rfl (fun hc => ?_) (fun hc => ?_)
    · have h := (if_pos hc).symm.trans h
      refine Wp.run (WpD.mono _) 4 (q := ((46, [some (.inr (.inr (3, 0))), some (.inl (0 : Int32))], []), ((hwU2 σ.1 3 7 (1 : Int32)), σ.2.1, σ.2.2.1, σ.2.2.2.1, σ.2.2.2.2))) rfl ?_
      exact Wp.jump (WpD.mono _) rfl ((T_X8_readWord_b46 e N  r τ Q hQ  N) (0 : Int32) ((hwU2 σ.1 3 7 (1 : Int32)), σ.2.1, σ.2.2.1, σ.2.2.2.1, σ.2.2.2.2) h)
    · have h := (if_neg hc).symm.trans h
      obtain ⟨hc, h⟩ := ite_nn h
      refine Wp.no (WpD.mono _) 4 (c := hwOut (σ.1 3 5) 160) (q := ((20, [some (.inr (.inr (3, 0))), none], [.inl (σ.2.2.1 62 0 ((σ.1 3 5)).toNatClampNeg)]), σ)) rfl hc ?_
      obtain ⟨q1, hb, h⟩ := bind_some h
      refine Wp.call (WpD.mono _) rfl (T_X8_isLetter (e + 0) N (σ.2.2.1 62 0 ((σ.1 3 5)).toNatClampNeg) σ _ _ _ hb ?_)
      show Wp (WpD (e + 1)) hcX8_readWord Q (23, [some (.inr (.inr (3, 0))), none], [.inl q1.1]) q1.2
      refine Wp.br (WpD.mono _) 0 (c := q1.1 = 0) (q1 := ((39, [some (.inr (.inr (3, 0))), none], []), q1.2)) (q2 := ((26, [some (.inr (.inr (3, 0))), none], []), q1.2)) rfl (fun hc => ?_) (fun hc => ?_)
      · have h := (if_pos hc).symm.trans h
        refine Wp.run (WpD.mono _) 4 (q := ((46, [some (.inr (.inr (3, 0))), some (.inl (0 : Int32))], []), ((hwU2 q1.2.1 3 7 (1 : Int32)), q1.2.2.1, q1.2.2.2.1, q1.2.2.2.2.1, q1.2.2.2.2.2))) rfl ?_
        exact Wp.jump (WpD.mono _) rfl ((T_X8_readWord_b46 e N  r τ Q hQ  N) (0 : Int32) ((hwU2 q1.2.1 3 7 (1 : Int32)), q1.2.2.1, q1.2.2.2.1, q1.2.2.2.2.1, q1.2.2.2.2.2) h)
      · have h := (if_neg hc).symm.trans h
        refine Wp.run (WpD.mono _) 6 (q := ((0, [some (.inr (.inr (3, 0))), none], []), ((hwU2 q1.2.1 3 5 ((q1.2.1 3 5) + (1 : Int32))), q1.2.2.1, q1.2.2.2.1, q1.2.2.2.2.1, q1.2.2.2.2.2))) rfl ?_
        exact Wp.jump (WpD.mono _) rfl (ih ((hwU2 q1.2.1 3 5 ((q1.2.1 3 5) + (1 : Int32))), q1.2.2.1, q1.2.2.2.1, q1.2.2.2.2.1, q1.2.2.2.2.2) h)

set_option maxRecDepth 100000 in
set_option maxHeartbeats 4000000 in
theorem T_X8_readWord (e N : Nat)   (σ : Mem) (r : Unit) (τ : Mem) (Q : Pst) (h : F_X8_readWord N  σ = some (r, τ)) (hQ : Q (none) τ) : WpD (e + 2) mX8_readWord [.inr (.inr (3, 0))] σ Q := by
  refine WpD.of (d := e + 1) (Nat.le_of_ble_eq_true rfl) (Nat.le_of_ble_eq_true rfl) ?_
  show Wp (WpD (e + 1)) hcX8_readWord Q (0, [some (.inr (.inr (3, 0))), none], []) σ
  unfold F_X8_readWord at h
  exact Wp.jump (WpD.mono _) rfl ((T_X8_readWord_b0 e N  r τ Q hQ  N) σ h)

set_option maxRecDepth 100000 in
set_option maxHeartbeats 4000000 in
theorem T_X8_step_b52 (e N : Nat)   (r : Unit) (τ : Mem) (Q : Pst) (hQ : Q (none) τ) : ∀  (σ : Mem), F_X8_step_b52 N  σ = some (r, τ) → Wp (WpD (e + 2)) hcX8_step Q (52, [some (.inr (.inr (3, 0)))], []) σ := by
  intro  σ h
  unfold F_X8_step_b52 at h
  refine Wp.br (WpD.mono _) 8 (c := (σ.1 3 5) < (σ.1 3 3)) (q1 := ((79, [some (.inr (.inr (3, 0)))], []), ((hwU2 σ.1 3 6 (σ.1 3 5)), σ.2.1, σ.2.2.1, σ.2.2.2.1, σ.2.2.2.2))) (q2 := ((71, [some (.inr (.inr (3, 0)))], []), ((hwU2 σ.1 3 6 (σ.1 3 5)), σ.2.1, σ.2.2.1, σ.2.2.2.1, σ.2.2.2.2))) rfl (fun hc => ?_) (fun hc => ?_)
  · have h := (if_pos hc).symm.trans h
    obtain ⟨hc, h⟩ := ite_nn h
    refine Wp.no (WpD.mono _) 4 (c := hwOut (σ.1 3 5) 160) (q := ((88, [some (.inr (.inr (3, 0)))], [.inl (σ.2.2.1 62 0 ((σ.1 3 5)).toNatClampNeg)]), ((hwU2 σ.1 3 6 (σ.1 3 5)), σ.2.1, σ.2.2.1, σ.2.2.2.1, σ.2.2.2.2))) rfl hc ?_
    obtain ⟨q1, hb, h⟩ := bind_some h
    refine Wp.call (WpD.mono _) rfl (T_X8_isLetter (e + 1) N (σ.2.2.1 62 0 ((σ.1 3 5)).toNatClampNeg) ((hwU2 σ.1 3 6 (σ.1 3 5)), σ.2.1, σ.2.2.1, σ.2.2.2.1, σ.2.2.2.2) _ _ _ hb ?_)
    show Wp (WpD (e + 2)) hcX8_step Q (91, [some (.inr (.inr (3, 0)))], [.inl q1.1]) q1.2
    refine Wp.br (WpD.mono _) 0 (c := q1.1 = 0) (q1 := ((101, [some (.inr (.inr (3, 0)))], []), q1.2)) (q2 := ((94, [some (.inr (.inr (3, 0)))], []), q1.2)) rfl (fun hc => ?_) (fun hc => ?_)
    · have h := (if_pos hc).symm.trans h
      obtain ⟨hc, h⟩ := ite_nn h
      refine Wp.no (WpD.mono _) 4 (c := hwOut (q1.2.1 3 5) 160) (q := ((110, [some (.inr (.inr (3, 0)))], [.inl (q1.2.2.2.1 62 0 ((q1.2.1 3 5)).toNatClampNeg)]), q1.2)) rfl hc ?_
      obtain ⟨q2, hb, h⟩ := bind_some h
      refine Wp.call (WpD.mono _) rfl (T_X8_isDigit (e + 1) N (q1.2.2.2.1 62 0 ((q1.2.1 3 5)).toNatClampNeg) q1.2 _ _ _ hb ?_)
      show Wp (WpD (e + 2)) hcX8_step Q (113, [some (.inr (.inr (3, 0)))], [.inl q2.1]) q2.2
      refine Wp.br (WpD.mono _) 0 (c := q2.1 = 0) (q1 := ((123, [some (.inr (.inr (3, 0)))], []), q2.2)) (q2 := ((116, [some (.inr (.inr (3, 0)))], []), q2.2)) rfl (fun hc => ?_) (fun hc => ?_)
      · have h := (if_pos hc).symm.trans h
        obtain ⟨hc, h⟩ := ite_nn h
        refine Wp.no (WpD.mono _) 6 (c := hwOut (q2.2.1 3 5) 160) (q := ((135, [some (.inr (.inr (3, 0)))], [.inl (q2.2.2.2.1 62 0 ((q2.2.1 3 5)).toNatClampNeg), .inr (.inr (211, 0)), .inr (.inr (3, 0))]), q2.2)) rfl hc ?_
        refine Wp.br (WpD.mono _) 2 (c := (hwIx 1 ((q2.2.2.2.1 62 0 ((q2.2.1 3 5)).toNatClampNeg).toUInt32 % 65536).toInt32) < 0) (q1 := ((154, [some (.inr (.inr (3, 0)))], [.inr (.inr (3, 0))]), q2.2)) (q2 := ((142, [some (.inr (.inr (3, 0)))], [.inr (.inr (3, 0))]), q2.2)) rfl (fun hc => ?_) (fun hc => ?_)
        · have h := (if_pos hc).symm.trans h
          refine Wp.run (WpD.mono _) 7 (q := ((168, [some (.inr (.inr (3, 0)))], []), ((hwU2 (hwU2 q2.2.1 3 7 (1 : Int32)) 3 5 ((q2.2.1 3 5) + (1 : Int32))), q2.2.2.1, q2.2.2.2.1, q2.2.2.2.2.1, q2.2.2.2.2.2))) rfl ?_
          cases h
          exact Wp.ret (WpD.mono _) rfl hQ
        · have h := (if_neg hc).symm.trans h
          obtain ⟨hc, h⟩ := ite_nn h
          refine Wp.no (WpD.mono _) 4 (c := hwOut (q2.2.1 3 5) 160) (q := ((151, [some (.inr (.inr (3, 0)))], [.inl (q2.2.2.2.1 62 0 ((q2.2.1 3 5)).toNatClampNeg), .inr (.inr (3, 0))]), q2.2)) rfl hc ?_
          refine Wp.run (WpD.mono _) 7 (q := ((168, [some (.inr (.inr (3, 0)))], []), ((hwU2 (hwU2 q2.2.1 3 7 (q2.2.2.2.1 62 0 ((q2.2.1 3 5)).toNatClampNeg)) 3 5 ((q2.2.1 3 5) + (1 : Int32))), q2.2.2.1, q2.2.2.2.1, q2.2.2.2.2.1, q2.2.2.2.2.2))) rfl ?_
          cases h
          exact Wp.ret (WpD.mono _) rfl hQ
      · have h := (if_neg hc).symm.trans h
        refine Wp.run (WpD.mono _) 0 (q := ((117, [some (.inr (.inr (3, 0)))], [.inr (.inr (3, 0))]), q2.2)) rfl ?_
        obtain ⟨q3, hb, h⟩ := bind_some h
        refine Wp.call (WpD.mono _) rfl (T_X8_readNumber (e + 0) N q2.2 _ _ _ hb ?_)
        show Wp (WpD (e + 2)) hcX8_step Q (120, [some (.inr (.inr (3, 0)))], []) q3.2
        refine Wp.run (WpD.mono _) 0 (q := ((168, [some (.inr (.inr (3, 0)))], []), q3.2)) rfl ?_
        cases h
        exact Wp.ret (WpD.mono _) rfl hQ
    · have h := (if_neg hc).symm.trans h
      refine Wp.run (WpD.mono _) 0 (q := ((95, [some (.inr (.inr (3, 0)))], [.inr (.inr (3, 0))]), q1.2)) rfl ?_
      obtain ⟨q4, hb, h⟩ := bind_some h
      refine Wp.call (WpD.mono _) rfl (T_X8_readWord (e + 0) N q1.2 _ _ _ hb ?_)
      show Wp (WpD (e + 2)) hcX8_step Q (98, [some (.inr (.inr (3, 0)))], []) q4.2
      refine Wp.run (WpD.mono _) 0 (q := ((168, [some (.inr (.inr (3, 0)))], []), q4.2)) rfl ?_
      cases h
      exact Wp.ret (WpD.mono _) rfl hQ
  · have h := (if_neg hc).symm.trans h
    refine Wp.run (WpD.mono _) 3 (q := ((168, [some (.inr (.inr (3, 0)))], []), ((hwU2 (hwU2 σ.1 3 6 (σ.1 3 5)) 3 7 (0 : Int32)), σ.2.1, σ.2.2.1, σ.2.2.2.1, σ.2.2.2.2))) rfl ?_
    cases h
    exact Wp.ret (WpD.mono _) rfl hQ

set_option maxRecDepth 100000 in
set_option maxHeartbeats 4000000 in
theorem T_X8_step_b0 (e N : Nat)   (r : Unit) (τ : Mem) (Q : Pst) (hQ : Q (none) τ) : ∀ n, ∀  (σ : Mem), F_X8_step_b0 N n  σ = some (r, τ) → Wp (WpD (e + 2)) hcX8_step Q (0, [some (.inr (.inr (3, 0)))], []) σ := by
  intro n
  induction n with
  | zero => intro  σ h; cases h
  | succ n ih =>
    intro  σ h
    unfold F_X8_step_b0 at h
    refine Wp.br (WpD.mono _) 4 (c := (σ.1 3 3) ≤ (σ.1 3 5)) (q1 := ((52, [some (.inr (.inr (3, 0)))], []), σ)) (q2 := ((11, [some (.inr (.inr (3, 0)))], []), σ)) rfl (fun hc => ?_) (fun hc => ?_)
    · have h := (if_pos hc).symm.trans h
      exact Wp.jump (WpD.mono _) rfl ((T_X8_step_b52 e N  r τ Q hQ ) σ h)
    · have h := (if_neg hc).symm.trans h
      obtain ⟨hc, h⟩ := ite_nn h
      refine Wp.no (WpD.mono _) 4 (c := hwOut (σ.1 3 5) 160) (q := ((20, [some (.inr (.inr (3, 0)))], [.inl (σ.2.2.1 62 0 ((σ.1 3 5)).toNatClampNeg)]), σ)) rfl hc ?_
      refine Wp.br (WpD.mono _) 1 (c := (σ.2.2.1 62 0 ((σ.1 3 5)).toNatClampNeg) = (32 : Int32)) (q1 := ((39, [some (.inr (.inr (3, 0)))], []), σ)) (q2 := ((25, [some (.inr (.inr (3, 0)))], []), σ)) rfl (fun hc => ?_) (fun hc => ?_)
      · have h := (if_pos hc).symm.trans h
        refine Wp.run (WpD.mono _) 6 (q := ((0, [some (.inr (.inr (3, 0)))], []), ((hwU2 σ.1 3 5 ((σ.1 3 5) + (1 : Int32))), σ.2.1, σ.2.2.1, σ.2.2.2.1, σ.2.2.2.2))) rfl ?_
        exact Wp.jump (WpD.mono _) rfl (ih ((hwU2 σ.1 3 5 ((σ.1 3 5) + (1 : Int32))), σ.2.1, σ.2.2.1, σ.2.2.2.1, σ.2.2.2.2) h)
      · have h := (if_neg hc).symm.trans h
        obtain ⟨hc, h⟩ := ite_nn h
        refine Wp.no (WpD.mono _) 4 (c := hwOut (σ.1 3 5) 160) (q := ((34, [some (.inr (.inr (3, 0)))], [.inl (σ.2.2.1 62 0 ((σ.1 3 5)).toNatClampNeg)]), σ)) rfl hc ?_
        refine Wp.br (WpD.mono _) 1 (c := (σ.2.2.1 62 0 ((σ.1 3 5)).toNatClampNeg) = (10 : Int32)) (q1 := ((39, [some (.inr (.inr (3, 0)))], []), σ)) (q2 := ((52, [some (.inr (.inr (3, 0)))], []), σ)) rfl (fun hc => ?_) (fun hc => ?_)
        · have h := (if_pos hc).symm.trans h
          refine Wp.run (WpD.mono _) 6 (q := ((0, [some (.inr (.inr (3, 0)))], []), ((hwU2 σ.1 3 5 ((σ.1 3 5) + (1 : Int32))), σ.2.1, σ.2.2.1, σ.2.2.2.1, σ.2.2.2.2))) rfl ?_
          exact Wp.jump (WpD.mono _) rfl (ih ((hwU2 σ.1 3 5 ((σ.1 3 5) + (1 : Int32))), σ.2.1, σ.2.2.1, σ.2.2.2.1, σ.2.2.2.2) h)
        · have h := (if_neg hc).symm.trans h
          exact Wp.jump (WpD.mono _) rfl ((T_X8_step_b52 e N  r τ Q hQ ) σ h)

set_option maxRecDepth 100000 in
set_option maxHeartbeats 4000000 in
theorem T_X8_step (e N : Nat)   (σ : Mem) (r : Unit) (τ : Mem) (Q : Pst) (h : F_X8_step N  σ = some (r, τ)) (hQ : Q (none) τ) : WpD (e + 3) mX8_step [.inr (.inr (3, 0))] σ Q := by
  refine WpD.of (d := e + 2) (Nat.le_of_ble_eq_true rfl) (Nat.le_of_ble_eq_true rfl) ?_
  show Wp (WpD (e + 2)) hcX8_step Q (0, [some (.inr (.inr (3, 0)))], []) σ
  unfold F_X8_step at h
  exact Wp.jump (WpD.mono _) rfl ((T_X8_step_b0 e N  r τ Q hQ  N) σ h)

set_option maxRecDepth 100000 in
set_option maxHeartbeats 4000000 in
theorem T_X8_reads_b13 (e N : Nat) (g0 : Int32 → Int32 → Mem → Option (Int32 × Mem)) (g1 : Int32 → Mem → Option (Int32 × Mem)) (g2 : Int32 → Mem → Option (Int32 × Mem)) (g3 : Int32 → Int32 → Mem → Option (Int32 × Mem)) (hg0 : ∀ (a1 : Int32) (a2 : Int32) (σ : Mem) (r : Int32) (τ : Mem) (Q : Pst), g0 a1 a2 σ = some (r, τ) → Q (some (.inl r)) τ → WpD (e + 3) mX8_reads [.inr (.inr (3, 0)), .inl a1, .inl a2] σ Q) (hg1 : ∀ (a1 : Int32) (σ : Mem) (r : Int32) (τ : Mem) (Q : Pst), g1 a1 σ = some (r, τ) → Q (some (.inl r)) τ → WpD (e + 3) mX8_readsNot [.inr (.inr (3, 0)), .inl a1] σ Q) (hg2 : ∀ (a1 : Int32) (σ : Mem) (r : Int32) (τ : Mem) (Q : Pst), g2 a1 σ = some (r, τ) → Q (some (.inl r)) τ → WpD (e + 3) mX8_readsOne [.inr (.inr (3, 0)), .inl a1] σ Q) (hg3 : ∀ (a1 : Int32) (a2 : Int32) (σ : Mem) (r : Int32) (τ : Mem) (Q : Pst), g3 a1 a2 σ = some (r, τ) → Q (some (.inl r)) τ → WpD (e + 3) mX8_readsPart [.inr (.inr (3, 0)), .inl a1, .inl a2] σ Q)  (r : Int32) (τ : Mem) (Q : Pst) (hQ : Q (some (.inl r)) τ) : ∀ n, ∀ (x1 : Int32) (x2 : Int32) (x3 : Int32) (σ : Mem), F_X8_reads_b13 N g0 g1 g2 g3 n x1 x2 x3 σ = some (r, τ) → Wp (WpD (e + 3)) hcX8_reads Q (13, [some (.inr (.inr (3, 0))), some (.inl x1), some (.inl x2), some (.inl x3), none], []) σ := by
  intro n
  induction n with
  | zero => intro x1 x2 x3 σ h; cases h
  | succ n ih =>
    intro x1 x2 x3 σ h
    unfold F_X8_reads_b13 at h
    refine Wp.br (WpD.mono _) 2 (c := (160 : Int32) ≤ x3) (q1 := ((65, [some (.inr (.inr (3, 0))), some (.inl x1), some (.inl x2), some (.inl x3), none], []), σ)) (q2 := ((20, [some (.inr (.inr (3, 0))), some (.inl x1), some (.inl x2), some (.inl x3), none], []), σ)) rfl (fun hc => ?_) (fun hc => ?_)
    · have h := (if_pos hc).symm.trans h
      refine Wp.run (WpD.mono _) 0 (q := ((66, [none, none, none, none, none], [.inl (1 : Int32)]), σ)) rfl ?_
      cases h
      exact Wp.ret (WpD.mono _) rfl hQ
    · have h := (if_neg hc).symm.trans h
      refine Wp.run (WpD.mono _) 1 (q := ((22, [some (.inr (.inr (3, 0))), some (.inl x1), some (.inl x2), some (.inl x3), none], [.inl x1, .inr (.inr (3, 0))]), σ)) rfl ?_
      obtain ⟨q2, hb, h⟩ := bind_some h
      refine Wp.call (WpD.mono _) rfl (T_X8_joins (e + 2) N x1 σ _ _ _ hb ?_)
      show Wp (WpD (e + 3)) hcX8_reads Q (25, [some (.inr (.inr (3, 0))), some (.inl x1), some (.inl x2), some (.inl x3), none], [.inl q2.1]) q2.2
      refine Wp.br (WpD.mono _) 0 (c := q2.1 = 0) (q1 := ((65, [some (.inr (.inr (3, 0))), some (.inl x1), some (.inl x2), some (.inl x3), none], []), q2.2)) (q2 := ((28, [some (.inr (.inr (3, 0))), some (.inl x1), some (.inl x2), some (.inl x3), none], []), q2.2)) rfl (fun hc => ?_) (fun hc => ?_)
      · have h := (if_pos hc).symm.trans h
        refine Wp.run (WpD.mono _) 0 (q := ((66, [none, none, none, none, none], [.inl (1 : Int32)]), q2.2)) rfl ?_
        cases h
        exact Wp.ret (WpD.mono _) rfl hQ
      · have h := (if_neg hc).symm.trans h
        refine Wp.run (WpD.mono _) 3 (q := ((35, [some (.inr (.inr (3, 0))), some (.inl x1), some (.inl x2), some (.inl x3), some (.inl (q2.2.1 3 7))], [.inr (.inr (3, 0))]), q2.2)) rfl ?_
        obtain ⟨q3, hb, h⟩ := bind_some h
        refine Wp.call (WpD.mono _) rfl (T_X8_step (e + 0) N q2.2 _ _ _ hb ?_)
        show Wp (WpD (e + 3)) hcX8_reads Q (38, [some (.inr (.inr (3, 0))), some (.inl x1), some (.inl x2), some (.inl x3), some (.inl (q2.2.1 3 7))], []) q3.2
        refine Wp.run (WpD.mono _) 2 (q := ((41, [some (.inr (.inr (3, 0))), some (.inl x1), some (.inl x2), some (.inl x3), some (.inl (q2.2.1 3 7))], [.inl x2, .inl x1, .inr (.inr (3, 0))]), q3.2)) rfl ?_
        obtain ⟨q4, hb, h⟩ := bind_some h
        refine Wp.call (WpD.mono _) rfl (hg3 x1 x2 q3.2 _ _ _ hb ?_)
        show Wp (WpD (e + 3)) hcX8_reads Q (44, [some (.inr (.inr (3, 0))), some (.inl x1), some (.inl x2), some (.inl x3), some (.inl (q2.2.1 3 7))], [.inl q4.1]) q4.2
        refine Wp.br (WpD.mono _) 0 (c := q4.1 = 0) (q1 := ((47, [some (.inr (.inr (3, 0))), some (.inl x1), some (.inl x2), some (.inl x3), some (.inl (q2.2.1 3 7))], []), q4.2)) (q2 := ((49, [some (.inr (.inr (3, 0))), some (.inl x1), some (.inl x2), some (.inl x3), some (.inl (q2.2.1 3 7))], []), q4.2)) rfl (fun hc => ?_) (fun hc => ?_)
        · have h := (if_pos hc).symm.trans h
          refine Wp.run (WpD.mono _) 0 (q := ((48, [some (.inr (.inr (3, 0))), some (.inl x1), some (.inl x2), some (.inl x3), some (.inl (q2.2.1 3 7))], [.inl (0 : Int32)]), q4.2)) rfl ?_
          cases h
          exact Wp.ret (WpD.mono _) rfl hQ
        · have h := (if_neg hc).symm.trans h
          refine Wp.run (WpD.mono _) 3 (q := ((56, [some (.inr (.inr (3, 0))), some (.inl x1), some (.inl x2), some (.inl x3), some (.inl (q2.2.1 3 7))], [.inl ((20000 : Int32) + (q2.2.1 3 7)), .inr (.inr (3, 0))]), q4.2)) rfl ?_
          obtain ⟨q5, hb, h⟩ := bind_some h
          refine Wp.call (WpD.mono _) rfl (T_X8_emit (e + 2) N ((20000 : Int32) + (q2.2.1 3 7)) q4.2 _ _ _ hb ?_)
          show Wp (WpD (e + 3)) hcX8_reads Q (59, [some (.inr (.inr (3, 0))), some (.inl x1), some (.inl x2), some (.inl x3), some (.inl (q2.2.1 3 7))], []) q5.2
          refine Wp.run (WpD.mono _) 1 (q := ((13, [some (.inr (.inr (3, 0))), some (.inl x1), some (.inl x2), some (.inl (x3 + (1 : Int32))), some (.inl (q2.2.1 3 7))], []), q5.2)) rfl ?_
          exact Wp.jump (WpD.mono _) rfl (ih x1 x2 (x3 + (1 : Int32)) q5.2 h)

set_option maxRecDepth 100000 in
set_option maxHeartbeats 4000000 in
theorem TB_X8_reads (e N : Nat) (g0 : Int32 → Int32 → Mem → Option (Int32 × Mem)) (g1 : Int32 → Mem → Option (Int32 × Mem)) (g2 : Int32 → Mem → Option (Int32 × Mem)) (g3 : Int32 → Int32 → Mem → Option (Int32 × Mem)) (hg0 : ∀ (a1 : Int32) (a2 : Int32) (σ : Mem) (r : Int32) (τ : Mem) (Q : Pst), g0 a1 a2 σ = some (r, τ) → Q (some (.inl r)) τ → WpD (e + 3) mX8_reads [.inr (.inr (3, 0)), .inl a1, .inl a2] σ Q) (hg1 : ∀ (a1 : Int32) (σ : Mem) (r : Int32) (τ : Mem) (Q : Pst), g1 a1 σ = some (r, τ) → Q (some (.inl r)) τ → WpD (e + 3) mX8_readsNot [.inr (.inr (3, 0)), .inl a1] σ Q) (hg2 : ∀ (a1 : Int32) (σ : Mem) (r : Int32) (τ : Mem) (Q : Pst), g2 a1 σ = some (r, τ) → Q (some (.inl r)) τ → WpD (e + 3) mX8_readsOne [.inr (.inr (3, 0)), .inl a1] σ Q) (hg3 : ∀ (a1 : Int32) (a2 : Int32) (σ : Mem) (r : Int32) (τ : Mem) (Q : Pst), g3 a1 a2 σ = some (r, τ) → Q (some (.inl r)) τ → WpD (e + 3) mX8_readsPart [.inr (.inr (3, 0)), .inl a1, .inl a2] σ Q) (a1 : Int32) (a2 : Int32) (σ : Mem) (r : Int32) (τ : Mem) (Q : Pst) (h : B_X8_reads N g0 g1 g2 g3 a1 a2 σ = some (r, τ)) (hQ : Q (some (.inl r)) τ) : WpD (e + 1 + 3) mX8_reads [.inr (.inr (3, 0)), .inl a1, .inl a2] σ Q := by
  refine WpD.of (d := e + 3) (Nat.le_of_ble_eq_true rfl) (Nat.le_of_ble_eq_true rfl) ?_
  show Wp (WpD (e + 3)) hcX8_reads Q (0, [some (.inr (.inr (3, 0))), some (.inl a1), some (.inl a2), none, none], []) σ
  unfold B_X8_reads at h
  refine Wp.run (WpD.mono _) 2 (q := ((3, [some (.inr (.inr (3, 0))), some (.inl a1), some (.inl a2), none, none], [.inl a2, .inl a1, .inr (.inr (3, 0))]), σ)) rfl ?_
  obtain ⟨q1, hb, h⟩ := bind_some h
  refine Wp.call (WpD.mono _) rfl (hg3 a1 a2 σ _ _ _ hb ?_)
  show Wp (WpD (e + 3)) hcX8_reads Q (6, [some (.inr (.inr (3, 0))), some (.inl a1), some (.inl a2), none, none], [.inl q1.1]) q1.2
  refine Wp.br (WpD.mono _) 0 (c := q1.1 = 0) (q1 := ((9, [some (.inr (.inr (3, 0))), some (.inl a1), some (.inl a2), none, none], []), q1.2)) (q2 := ((11, [some (.inr (.inr (3, 0))), some (.inl a1), some (.inl a2), none, none], []), q1.2)) rfl (fun hc => ?_) (fun hc => ?_)
  · have h := (if_pos hc).symm.trans h
    refine Wp.run (WpD.mono _) 0 (q := ((10, [some (.inr (.inr (3, 0))), some (.inl a1), some (.inl a2), none, none], [.inl (0 : Int32)]), q1.2)) rfl ?_
    cases h
    exact Wp.ret (WpD.mono _) rfl hQ
  · have h := (if_neg hc).symm.trans h
    refine Wp.run (WpD.mono _) 1 (q := ((13, [some (.inr (.inr (3, 0))), some (.inl a1), some (.inl a2), some (.inl (0 : Int32)), none], []), q1.2)) rfl ?_
    exact Wp.jump (WpD.mono _) rfl ((T_X8_reads_b13 e N g0 g1 g2 g3 hg0 hg1 hg2 hg3 r τ Q hQ  N) a1 a2 (0 : Int32) q1.2 h)

set_option maxRecDepth 100000 in
set_option maxHeartbeats 4000000 in
theorem T_X8_readsNot_b72 (e N : Nat) (g0 : Int32 → Int32 → Mem → Option (Int32 × Mem)) (g1 : Int32 → Mem → Option (Int32 × Mem)) (g2 : Int32 → Mem → Option (Int32 × Mem)) (g3 : Int32 → Int32 → Mem → Option (Int32 × Mem)) (hg0 : ∀ (a1 : Int32) (a2 : Int32) (σ : Mem) (r : Int32) (τ : Mem) (Q : Pst), g0 a1 a2 σ = some (r, τ) → Q (some (.inl r)) τ → WpD (e + 3) mX8_reads [.inr (.inr (3, 0)), .inl a1, .inl a2] σ Q) (hg1 : ∀ (a1 : Int32) (σ : Mem) (r : Int32) (τ : Mem) (Q : Pst), g1 a1 σ = some (r, τ) → Q (some (.inl r)) τ → WpD (e + 3) mX8_readsNot [.inr (.inr (3, 0)), .inl a1] σ Q) (hg2 : ∀ (a1 : Int32) (σ : Mem) (r : Int32) (τ : Mem) (Q : Pst), g2 a1 σ = some (r, τ) → Q (some (.inl r)) τ → WpD (e + 3) mX8_readsOne [.inr (.inr (3, 0)), .inl a1] σ Q) (hg3 : ∀ (a1 : Int32) (a2 : Int32) (σ : Mem) (r : Int32) (τ : Mem) (Q : Pst), g3 a1 a2 σ = some (r, τ) → Q (some (.inl r)) τ → WpD (e + 3) mX8_readsPart [.inr (.inr (3, 0)), .inl a1, .inl a2] σ Q)  (r : Int32) (τ : Mem) (Q : Pst) (hQ : Q (some (.inl r)) τ) : ∀ (x1 : Int32) (σ : Mem), F_X8_readsNot_b72 N g0 g1 g2 g3 x1 σ = some (r, τ) → Wp (WpD (e + 3)) hcX8_readsNot Q (72, [some (.inr (.inr (3, 0))), some (.inl x1), none], []) σ := by
  intro x1 σ h
  unfold F_X8_readsNot_b72 at h
  refine Wp.run (WpD.mono _) 3 (q := ((78, [some (.inr (.inr (3, 0))), some (.inl x1), some (.inl (σ.1 3 7))], [.inr (.inr (3, 0))]), σ)) rfl ?_
  obtain ⟨q5, hb, h⟩ := bind_some h
  refine Wp.call (WpD.mono _) rfl (T_X8_step (e + 0) N σ _ _ _ hb ?_)
  show Wp (WpD (e + 3)) hcX8_readsNot Q (81, [some (.inr (.inr (3, 0))), some (.inl x1), some (.inl (σ.1 3 7))], []) q5.2
  refine Wp.run (WpD.mono _) 2 (q := ((84, [some (.inr (.inr (3, 0))), some (.inl x1), some (.inl (σ.1 3 7))], [.inl x1, .inl (2 : Int32), .inr (.inr (3, 0))]), q5.2)) rfl ?_
  obtain ⟨q6, hb, h⟩ := bind_some h
  refine Wp.call (WpD.mono _) rfl (hg0 (2 : Int32) x1 q5.2 _ _ _ hb ?_)
  show Wp (WpD (e + 3)) hcX8_readsNot Q (87, [some (.inr (.inr (3, 0))), some (.inl x1), some (.inl (σ.1 3 7))], [.inl q6.1]) q6.2
  refine Wp.br (WpD.mono _) 0 (c := q6.1 = 0) (q1 := ((90, [some (.inr (.inr (3, 0))), some (.inl x1), some (.inl (σ.1 3 7))], []), q6.2)) (q2 := ((92, [some (.inr (.inr (3, 0))), some (.inl x1), some (.inl (σ.1 3 7))], []), q6.2)) rfl (fun hc => ?_) (fun hc => ?_)
  · have h := (if_pos hc).symm.trans h
    refine Wp.run (WpD.mono _) 0 (q := ((91, [some (.inr (.inr (3, 0))), some (.inl x1), some (.inl (σ.1 3 7))], [.inl (0 : Int32)]), q6.2)) rfl ?_
    cases h
    exact Wp.ret (WpD.mono _) rfl hQ
  · have h := (if_neg hc).symm.trans h
    refine Wp.run (WpD.mono _) 3 (q := ((98, [some (.inr (.inr (3, 0))), some (.inl x1), some (.inl (σ.1 3 7))], [.inl ((20000 : Int32) + (σ.1 3 7)), .inr (.inr (3, 0))]), q6.2)) rfl ?_
    obtain ⟨q7, hb, h⟩ := bind_some h
    refine Wp.call (WpD.mono _) rfl (T_X8_emit (e + 2) N ((20000 : Int32) + (σ.1 3 7)) q6.2 _ _ _ hb ?_)
    show Wp (WpD (e + 3)) hcX8_readsNot Q (101, [some (.inr (.inr (3, 0))), some (.inl x1), some (.inl (σ.1 3 7))], []) q7.2
    refine Wp.run (WpD.mono _) 0 (q := ((102, [some (.inr (.inr (3, 0))), some (.inl x1), some (.inl (σ.1 3 7))], [.inl (1 : Int32)]), q7.2)) rfl ?_
    cases h
    exact Wp.ret (WpD.mono _) rfl hQ

set_option maxRecDepth 100000 in
set_option maxHeartbeats 4000000 in
theorem TB_X8_readsNot (e N : Nat) (g0 : Int32 → Int32 → Mem → Option (Int32 × Mem)) (g1 : Int32 → Mem → Option (Int32 × Mem)) (g2 : Int32 → Mem → Option (Int32 × Mem)) (g3 : Int32 → Int32 → Mem → Option (Int32 × Mem)) (hg0 : ∀ (a1 : Int32) (a2 : Int32) (σ : Mem) (r : Int32) (τ : Mem) (Q : Pst), g0 a1 a2 σ = some (r, τ) → Q (some (.inl r)) τ → WpD (e + 3) mX8_reads [.inr (.inr (3, 0)), .inl a1, .inl a2] σ Q) (hg1 : ∀ (a1 : Int32) (σ : Mem) (r : Int32) (τ : Mem) (Q : Pst), g1 a1 σ = some (r, τ) → Q (some (.inl r)) τ → WpD (e + 3) mX8_readsNot [.inr (.inr (3, 0)), .inl a1] σ Q) (hg2 : ∀ (a1 : Int32) (σ : Mem) (r : Int32) (τ : Mem) (Q : Pst), g2 a1 σ = some (r, τ) → Q (some (.inl r)) τ → WpD (e + 3) mX8_readsOne [.inr (.inr (3, 0)), .inl a1] σ Q) (hg3 : ∀ (a1 : Int32) (a2 : Int32) (σ : Mem) (r : Int32) (τ : Mem) (Q : Pst), g3 a1 a2 σ = some (r, τ) → Q (some (.inl r)) τ → WpD (e + 3) mX8_readsPart [.inr (.inr (3, 0)), .inl a1, .inl a2] σ Q) (a1 : Int32) (σ : Mem) (r : Int32) (τ : Mem) (Q : Pst) (h : B_X8_readsNot N g0 g1 g2 g3 a1 σ = some (r, τ)) (hQ : Q (some (.inl r)) τ) : WpD (e + 1 + 3) mX8_readsNot [.inr (.inr (3, 0)), .inl a1] σ Q := by
  refine WpD.of (d := e + 3) (Nat.le_of_ble_eq_true rfl) (Nat.le_of_ble_eq_true rfl) ?_
  show Wp (WpD (e + 3)) hcX8_readsNot Q (0, [some (.inr (.inr (3, 0))), some (.inl a1), none], []) σ
  unfold B_X8_readsNot at h
  refine Wp.br (WpD.mono _) 3 (c := (σ.1 3 7) = (9 : Int32)) (q1 := ((9, [some (.inr (.inr (3, 0))), some (.inl a1), none], []), σ)) (q2 := ((41, [some (.inr (.inr (3, 0))), some (.inl a1), none], []), σ)) rfl (fun hc => ?_) (fun hc => ?_)
  · have h := (if_pos hc).symm.trans h
    refine Wp.br (WpD.mono _) 2 (c := a1 < (5 : Int32)) (q1 := ((16, [some (.inr (.inr (3, 0))), some (.inl a1), none], []), σ)) (q2 := ((14, [some (.inr (.inr (3, 0))), some (.inl a1), none], []), σ)) rfl (fun hc => ?_) (fun hc => ?_)
    · have h := (if_pos hc).symm.trans h
      refine Wp.run (WpD.mono _) 0 (q := ((17, [some (.inr (.inr (3, 0))), some (.inl a1), none], [.inr (.inr (3, 0))]), σ)) rfl ?_
      obtain ⟨q1, hb, h⟩ := bind_some h
      refine Wp.call (WpD.mono _) rfl (T_X8_step (e + 0) N σ _ _ _ hb ?_)
      show Wp (WpD (e + 3)) hcX8_readsNot Q (20, [some (.inr (.inr (3, 0))), some (.inl a1), none], []) q1.2
      refine Wp.run (WpD.mono _) 3 (q := ((24, [some (.inr (.inr (3, 0))), some (.inl a1), none], [.inl (a1 + (1 : Int32)), .inr (.inr (3, 0))]), q1.2)) rfl ?_
      obtain ⟨q2, hb, h⟩ := bind_some h
      refine Wp.call (WpD.mono _) rfl (hg1 (a1 + (1 : Int32)) q1.2 _ _ _ hb ?_)
      show Wp (WpD (e + 3)) hcX8_readsNot Q (27, [some (.inr (.inr (3, 0))), some (.inl a1), none], [.inl q2.1]) q2.2
      refine Wp.br (WpD.mono _) 0 (c := q2.1 = 0) (q1 := ((30, [some (.inr (.inr (3, 0))), some (.inl a1), none], []), q2.2)) (q2 := ((32, [some (.inr (.inr (3, 0))), some (.inl a1), none], []), q2.2)) rfl (fun hc => ?_) (fun hc => ?_)
      · have h := (if_pos hc).symm.trans h
        refine Wp.run (WpD.mono _) 0 (q := ((31, [some (.inr (.inr (3, 0))), some (.inl a1), none], [.inl (0 : Int32)]), q2.2)) rfl ?_
        cases h
        exact Wp.ret (WpD.mono _) rfl hQ
      · have h := (if_neg hc).symm.trans h
        refine Wp.run (WpD.mono _) 1 (q := ((36, [some (.inr (.inr (3, 0))), some (.inl a1), none], [.inl (30009 : Int32), .inr (.inr (3, 0))]), q2.2)) rfl ?_
        obtain ⟨q3, hb, h⟩ := bind_some h
        refine Wp.call (WpD.mono _) rfl (T_X8_emit (e + 2) N (30009 : Int32) q2.2 _ _ _ hb ?_)
        show Wp (WpD (e + 3)) hcX8_readsNot Q (39, [some (.inr (.inr (3, 0))), some (.inl a1), none], []) q3.2
        refine Wp.run (WpD.mono _) 0 (q := ((40, [some (.inr (.inr (3, 0))), some (.inl a1), none], [.inl (1 : Int32)]), q3.2)) rfl ?_
        cases h
        exact Wp.ret (WpD.mono _) rfl hQ
    · have h := (if_neg hc).symm.trans h
      refine Wp.run (WpD.mono _) 0 (q := ((15, [some (.inr (.inr (3, 0))), some (.inl a1), none], [.inl (0 : Int32)]), σ)) rfl ?_
      cases h
      exact Wp.ret (WpD.mono _) rfl hQ
  · have h := (if_neg hc).symm.trans h
    refine Wp.run (WpD.mono _) 2 (q := ((44, [some (.inr (.inr (3, 0))), some (.inl a1), none], [.inl a1, .inl (2 : Int32), .inr (.inr (3, 0))]), σ)) rfl ?_
    obtain ⟨q4, hb, h⟩ := bind_some h
    refine Wp.call (WpD.mono _) rfl (hg0 (2 : Int32) a1 σ _ _ _ hb ?_)
    show Wp (WpD (e + 3)) hcX8_readsNot Q (47, [some (.inr (.inr (3, 0))), some (.inl a1), none], [.inl q4.1]) q4.2
    refine Wp.br (WpD.mono _) 0 (c := q4.1 = 0) (q1 := ((50, [some (.inr (.inr (3, 0))), some (.inl a1), none], []), q4.2)) (q2 := ((52, [some (.inr (.inr (3, 0))), some (.inl a1), none], []), q4.2)) rfl (fun hc => ?_) (fun hc => ?_)
    · have h := (if_pos hc).symm.trans h
      refine Wp.run (WpD.mono _) 0 (q := ((51, [some (.inr (.inr (3, 0))), some (.inl a1), none], [.inl (0 : Int32)]), q4.2)) rfl ?_
      cases h
      exact Wp.ret (WpD.mono _) rfl hQ
    · have h := (if_neg hc).symm.trans h
      refine Wp.br (WpD.mono _) 3 (c := (q4.2.1 3 7) = (60 : Int32)) (q1 := ((72, [some (.inr (.inr (3, 0))), some (.inl a1), none], []), q4.2)) (q2 := ((61, [some (.inr (.inr (3, 0))), some (.inl a1), none], []), q4.2)) rfl (fun hc => ?_) (fun hc => ?_)
      · have h := (if_pos hc).symm.trans h
        exact Wp.jump (WpD.mono _) rfl ((T_X8_readsNot_b72 e N g0 g1 g2 g3 hg0 hg1 hg2 hg3 r τ Q hQ ) a1 q4.2 h)
      · have h := (if_neg hc).symm.trans h
        refine Wp.br (WpD.mono _) 3 (c := (q4.2.1 3 7) = (61 : Int32)) (q1 := ((72, [some (.inr (.inr (3, 0))), some (.inl a1), none], []), q4.2)) (q2 := ((70, [some (.inr (.inr (3, 0))), some (.inl a1), none], []), q4.2)) rfl (fun hc => ?_) (fun hc => ?_)
        · have h := (if_pos hc).symm.trans h
          exact Wp.jump (WpD.mono _) rfl ((T_X8_readsNot_b72 e N g0 g1 g2 g3 hg0 hg1 hg2 hg3 r τ Q hQ ) a1 q4.2 h)
        · have h := (if_neg hc).symm.trans h
          refine Wp.run (WpD.mono _) 0 (q := ((71, [some (.inr (.inr (3, 0))), some (.inl a1), none], [.inl (1 : Int32)]), q4.2)) rfl ?_
          cases h
          exact Wp.ret (WpD.mono _) rfl hQ

set_option maxRecDepth 100000 in
set_option maxHeartbeats 4000000 in
theorem T_X8_readsOne_b88 (e N : Nat) (g0 : Int32 → Int32 → Mem → Option (Int32 × Mem)) (g1 : Int32 → Mem → Option (Int32 × Mem)) (g2 : Int32 → Mem → Option (Int32 × Mem)) (g3 : Int32 → Int32 → Mem → Option (Int32 × Mem)) (hg0 : ∀ (a1 : Int32) (a2 : Int32) (σ : Mem) (r : Int32) (τ : Mem) (Q : Pst), g0 a1 a2 σ = some (r, τ) → Q (some (.inl r)) τ → WpD (e + 3) mX8_reads [.inr (.inr (3, 0)), .inl a1, .inl a2] σ Q) (hg1 : ∀ (a1 : Int32) (σ : Mem) (r : Int32) (τ : Mem) (Q : Pst), g1 a1 σ = some (r, τ) → Q (some (.inl r)) τ → WpD (e + 3) mX8_readsNot [.inr (.inr (3, 0)), .inl a1] σ Q) (hg2 : ∀ (a1 : Int32) (σ : Mem) (r : Int32) (τ : Mem) (Q : Pst), g2 a1 σ = some (r, τ) → Q (some (.inl r)) τ → WpD (e + 3) mX8_readsOne [.inr (.inr (3, 0)), .inl a1] σ Q) (hg3 : ∀ (a1 : Int32) (a2 : Int32) (σ : Mem) (r : Int32) (τ : Mem) (Q : Pst), g3 a1 a2 σ = some (r, τ) → Q (some (.inl r)) τ → WpD (e + 3) mX8_readsPart [.inr (.inr (3, 0)), .inl a1, .inl a2] σ Q)  (r : Int32) (τ : Mem) (Q : Pst) (hQ : Q (some (.inl r)) τ) : ∀ (x1 : Int32) (s0 : Int32) (σ : Mem), F_X8_readsOne_b88 N g0 g1 g2 g3 x1 s0 σ = some (r, τ) → Wp (WpD (e + 3)) hcX8_readsOne Q (88, [some (.inr (.inr (3, 0))), some (.inl x1), none], [.inl s0]) σ := by
  intro x1 s0 σ h
  unfold F_X8_readsOne_b88 at h
  refine Wp.run (WpD.mono _) 1 (q := ((90, [some (.inr (.inr (3, 0))), some (.inl x1), some (.inl s0)], [.inr (.inr (3, 0))]), σ)) rfl ?_
  obtain ⟨q1, hb, h⟩ := bind_some h
  refine Wp.call (WpD.mono _) rfl (T_X8_step (e + 0) N σ _ _ _ hb ?_)
  show Wp (WpD (e + 3)) hcX8_readsOne Q (93, [some (.inr (.inr (3, 0))), some (.inl x1), some (.inl s0)], []) q1.2
  refine Wp.br (WpD.mono _) 1 (c := s0 = 0) (q1 := ((118, [some (.inr (.inr (3, 0))), some (.inl x1), some (.inl s0)], []), q1.2)) (q2 := ((97, [some (.inr (.inr (3, 0))), some (.inl x1), some (.inl s0)], []), q1.2)) rfl (fun hc => ?_) (fun hc => ?_)
  · have h := (if_pos hc).symm.trans h
    refine Wp.run (WpD.mono _) 4 (q := ((123, [some (.inr (.inr (3, 0))), some (.inl x1), some (.inl s0)], [.inl (x1 + (1 : Int32)), .inl (0 : Int32), .inr (.inr (3, 0))]), q1.2)) rfl ?_
    obtain ⟨q2, hb, h⟩ := bind_some h
    refine Wp.call (WpD.mono _) rfl (hg0 (0 : Int32) (x1 + (1 : Int32)) q1.2 _ _ _ hb ?_)
    show Wp (WpD (e + 3)) hcX8_readsOne Q (126, [some (.inr (.inr (3, 0))), some (.inl x1), some (.inl s0)], [.inl q2.1]) q2.2
    refine Wp.br (WpD.mono _) 0 (c := q2.1 = 0) (q1 := ((138, [some (.inr (.inr (3, 0))), some (.inl x1), some (.inl s0)], []), q2.2)) (q2 := ((129, [some (.inr (.inr (3, 0))), some (.inl x1), some (.inl s0)], []), q2.2)) rfl (fun hc => ?_) (fun hc => ?_)
    · have h := (if_pos hc).symm.trans h
      refine Wp.run (WpD.mono _) 0 (q := ((139, [none, none, none], [.inl (0 : Int32)]), q2.2)) rfl ?_
      cases h
      exact Wp.ret (WpD.mono _) rfl hQ
    · have h := (if_neg hc).symm.trans h
      refine Wp.br (WpD.mono _) 3 (c := (q2.2.1 3 7) = (41 : Int32)) (q1 := ((140, [some (.inr (.inr (3, 0))), some (.inl x1), some (.inl s0)], []), q2.2)) (q2 := ((138, [some (.inr (.inr (3, 0))), some (.inl x1), some (.inl s0)], []), q2.2)) rfl (fun hc => ?_) (fun hc => ?_)
      · have h := (if_pos hc).symm.trans h
        refine Wp.run (WpD.mono _) 0 (q := ((141, [some (.inr (.inr (3, 0))), some (.inl x1), some (.inl s0)], [.inr (.inr (3, 0))]), q2.2)) rfl ?_
        obtain ⟨q3, hb, h⟩ := bind_some h
        refine Wp.call (WpD.mono _) rfl (T_X8_step (e + 0) N q2.2 _ _ _ hb ?_)
        show Wp (WpD (e + 3)) hcX8_readsOne Q (144, [some (.inr (.inr (3, 0))), some (.inl x1), some (.inl s0)], []) q3.2
        refine Wp.run (WpD.mono _) 0 (q := ((145, [some (.inr (.inr (3, 0))), some (.inl x1), some (.inl s0)], [.inl (1 : Int32)]), q3.2)) rfl ?_
        cases h
        exact Wp.ret (WpD.mono _) rfl hQ
      · have h := (if_neg hc).symm.trans h
        refine Wp.run (WpD.mono _) 0 (q := ((139, [none, none, none], [.inl (0 : Int32)]), q2.2)) rfl ?_
        cases h
        exact Wp.ret (WpD.mono _) rfl hQ
  · have h := (if_neg hc).symm.trans h
    refine Wp.run (WpD.mono _) 3 (q := ((101, [some (.inr (.inr (3, 0))), some (.inl x1), some (.inl s0)], [.inl (x1 + (1 : Int32)), .inr (.inr (3, 0))]), q1.2)) rfl ?_
    obtain ⟨q4, hb, h⟩ := bind_some h
    refine Wp.call (WpD.mono _) rfl (hg2 (x1 + (1 : Int32)) q1.2 _ _ _ hb ?_)
    show Wp (WpD (e + 3)) hcX8_readsOne Q (104, [some (.inr (.inr (3, 0))), some (.inl x1), some (.inl s0)], [.inl q4.1]) q4.2
    refine Wp.br (WpD.mono _) 0 (c := q4.1 = 0) (q1 := ((107, [some (.inr (.inr (3, 0))), some (.inl x1), some (.inl s0)], []), q4.2)) (q2 := ((109, [some (.inr (.inr (3, 0))), some (.inl x1), some (.inl s0)], []), q4.2)) rfl (fun hc => ?_) (fun hc => ?_)
    · have h := (if_pos hc).symm.trans h
      refine Wp.run (WpD.mono _) 0 (q := ((108, [some (.inr (.inr (3, 0))), some (.inl x1), some (.inl s0)], [.inl (0 : Int32)]), q4.2)) rfl ?_
      cases h
      exact Wp.ret (WpD.mono _) rfl hQ
    · have h := (if_neg hc).symm.trans h
      refine Wp.run (WpD.mono _) 1 (q := ((113, [some (.inr (.inr (3, 0))), some (.inl x1), some (.inl s0)], [.inl (30045 : Int32), .inr (.inr (3, 0))]), q4.2)) rfl ?_
      obtain ⟨q5, hb, h⟩ := bind_some h
      refine Wp.call (WpD.mono _) rfl (T_X8_emit (e + 2) N (30045 : Int32) q4.2 _ _ _ hb ?_)
      show Wp (WpD (e + 3)) hcX8_readsOne Q (116, [some (.inr (.inr (3, 0))), some (.inl x1), some (.inl s0)], []) q5.2
      refine Wp.run (WpD.mono _) 0 (q := ((117, [some (.inr (.inr (3, 0))), some (.inl x1), some (.inl s0)], [.inl (1 : Int32)]), q5.2)) rfl ?_
      cases h
      exact Wp.ret (WpD.mono _) rfl hQ

set_option maxRecDepth 100000 in
set_option maxHeartbeats 4000000 in
theorem T_X8_readsOne_b74 (e N : Nat) (g0 : Int32 → Int32 → Mem → Option (Int32 × Mem)) (g1 : Int32 → Mem → Option (Int32 × Mem)) (g2 : Int32 → Mem → Option (Int32 × Mem)) (g3 : Int32 → Int32 → Mem → Option (Int32 × Mem)) (hg0 : ∀ (a1 : Int32) (a2 : Int32) (σ : Mem) (r : Int32) (τ : Mem) (Q : Pst), g0 a1 a2 σ = some (r, τ) → Q (some (.inl r)) τ → WpD (e + 3) mX8_reads [.inr (.inr (3, 0)), .inl a1, .inl a2] σ Q) (hg1 : ∀ (a1 : Int32) (σ : Mem) (r : Int32) (τ : Mem) (Q : Pst), g1 a1 σ = some (r, τ) → Q (some (.inl r)) τ → WpD (e + 3) mX8_readsNot [.inr (.inr (3, 0)), .inl a1] σ Q) (hg2 : ∀ (a1 : Int32) (σ : Mem) (r : Int32) (τ : Mem) (Q : Pst), g2 a1 σ = some (r, τ) → Q (some (.inl r)) τ → WpD (e + 3) mX8_readsOne [.inr (.inr (3, 0)), .inl a1] σ Q) (hg3 : ∀ (a1 : Int32) (a2 : Int32) (σ : Mem) (r : Int32) (τ : Mem) (Q : Pst), g3 a1 a2 σ = some (r, τ) → Q (some (.inl r)) τ → WpD (e + 3) mX8_readsPart [.inr (.inr (3, 0)), .inl a1, .inl a2] σ Q)  (r : Int32) (τ : Mem) (Q : Pst) (hQ : Q (some (.inl r)) τ) : ∀ (x1 : Int32) (σ : Mem), F_X8_readsOne_b74 N g0 g1 g2 g3 x1 σ = some (r, τ) → Wp (WpD (e + 3)) hcX8_readsOne Q (74, [some (.inr (.inr (3, 0))), some (.inl x1), none], []) σ := by
  intro x1 σ h
  unfold F_X8_readsOne_b74 at h
  refine Wp.br (WpD.mono _) 3 (c := (σ.1 3 7) = (45 : Int32)) (q1 := ((83, [some (.inr (.inr (3, 0))), some (.inl x1), none], []), σ)) (q2 := ((87, [some (.inr (.inr (3, 0))), some (.inl x1), none], []), σ)) rfl (fun hc => ?_) (fun hc => ?_)
  · have h := (if_pos hc).symm.trans h
    refine Wp.run (WpD.mono _) 1 (q := ((88, [some (.inr (.inr (3, 0))), some (.inl x1), none], [.inl (1 : Int32)]), σ)) rfl ?_
    exact Wp.jump (WpD.mono _) rfl ((T_X8_readsOne_b88 e N g0 g1 g2 g3 hg0 hg1 hg2 hg3 r τ Q hQ ) x1 (1 : Int32) σ h)
  · have h := (if_neg hc).symm.trans h
    refine Wp.run (WpD.mono _) 0 (q := ((88, [some (.inr (.inr (3, 0))), some (.inl x1), none], [.inl (0 : Int32)]), σ)) rfl ?_
    exact Wp.jump (WpD.mono _) rfl ((T_X8_readsOne_b88 e N g0 g1 g2 g3 hg0 hg1 hg2 hg3 r τ Q hQ ) x1 (0 : Int32) σ h)

set_option maxRecDepth 100000 in
set_option maxHeartbeats 4000000 in
theorem T_X8_readsOne_b40 (e N : Nat) (g0 : Int32 → Int32 → Mem → Option (Int32 × Mem)) (g1 : Int32 → Mem → Option (Int32 × Mem)) (g2 : Int32 → Mem → Option (Int32 × Mem)) (g3 : Int32 → Int32 → Mem → Option (Int32 × Mem)) (hg0 : ∀ (a1 : Int32) (a2 : Int32) (σ : Mem) (r : Int32) (τ : Mem) (Q : Pst), g0 a1 a2 σ = some (r, τ) → Q (some (.inl r)) τ → WpD (e + 3) mX8_reads [.inr (.inr (3, 0)), .inl a1, .inl a2] σ Q) (hg1 : ∀ (a1 : Int32) (σ : Mem) (r : Int32) (τ : Mem) (Q : Pst), g1 a1 σ = some (r, τ) → Q (some (.inl r)) τ → WpD (e + 3) mX8_readsNot [.inr (.inr (3, 0)), .inl a1] σ Q) (hg2 : ∀ (a1 : Int32) (σ : Mem) (r : Int32) (τ : Mem) (Q : Pst), g2 a1 σ = some (r, τ) → Q (some (.inl r)) τ → WpD (e + 3) mX8_readsOne [.inr (.inr (3, 0)), .inl a1] σ Q) (hg3 : ∀ (a1 : Int32) (a2 : Int32) (σ : Mem) (r : Int32) (τ : Mem) (Q : Pst), g3 a1 a2 σ = some (r, τ) → Q (some (.inl r)) τ → WpD (e + 3) mX8_readsPart [.inr (.inr (3, 0)), .inl a1, .inl a2] σ Q)  (r : Int32) (τ : Mem) (Q : Pst) (hQ : Q (some (.inl r)) τ) : ∀ (s0 : Int32) (σ : Mem), F_X8_readsOne_b40 N g0 g1 g2 g3 s0 σ = some (r, τ) → Wp (WpD (e + 3)) hcX8_readsOne Q (40, [some (.inr (.inr (3, 0))), none, none], [.inl s0, .inr (.inr (3, 0))]) σ := by
  intro s0 σ h
  unfold F_X8_readsOne_b40 at h
  obtain ⟨q6, hb, h⟩ := bind_some h
  refine Wp.call (WpD.mono _) rfl (T_X8_emit (e + 2) N s0 σ _ _ _ hb ?_)
  show Wp (WpD (e + 3)) hcX8_readsOne Q (43, [some (.inr (.inr (3, 0))), none, none], []) q6.2
  refine Wp.run (WpD.mono _) 0 (q := ((44, [some (.inr (.inr (3, 0))), none, none], [.inr (.inr (3, 0))]), q6.2)) rfl ?_
  obtain ⟨q7, hb, h⟩ := bind_some h
  refine Wp.call (WpD.mono _) rfl (T_X8_step (e + 0) N q6.2 _ _ _ hb ?_)
  show Wp (WpD (e + 3)) hcX8_readsOne Q (47, [some (.inr (.inr (3, 0))), none, none], []) q7.2
  refine Wp.run (WpD.mono _) 0 (q := ((48, [some (.inr (.inr (3, 0))), none, none], [.inl (1 : Int32)]), q7.2)) rfl ?_
  cases h
  exact Wp.ret (WpD.mono _) rfl hQ

set_option maxRecDepth 100000 in
set_option maxHeartbeats 4000000 in
theorem T_X8_readsOne_b16 (e N : Nat) (g0 : Int32 → Int32 → Mem → Option (Int32 × Mem)) (g1 : Int32 → Mem → Option (Int32 × Mem)) (g2 : Int32 → Mem → Option (Int32 × Mem)) (g3 : Int32 → Int32 → Mem → Option (Int32 × Mem)) (hg0 : ∀ (a1 : Int32) (a2 : Int32) (σ : Mem) (r : Int32) (τ : Mem) (Q : Pst), g0 a1 a2 σ = some (r, τ) → Q (some (.inl r)) τ → WpD (e + 3) mX8_reads [.inr (.inr (3, 0)), .inl a1, .inl a2] σ Q) (hg1 : ∀ (a1 : Int32) (σ : Mem) (r : Int32) (τ : Mem) (Q : Pst), g1 a1 σ = some (r, τ) → Q (some (.inl r)) τ → WpD (e + 3) mX8_readsNot [.inr (.inr (3, 0)), .inl a1] σ Q) (hg2 : ∀ (a1 : Int32) (σ : Mem) (r : Int32) (τ : Mem) (Q : Pst), g2 a1 σ = some (r, τ) → Q (some (.inl r)) τ → WpD (e + 3) mX8_readsOne [.inr (.inr (3, 0)), .inl a1] σ Q) (hg3 : ∀ (a1 : Int32) (a2 : Int32) (σ : Mem) (r : Int32) (τ : Mem) (Q : Pst), g3 a1 a2 σ = some (r, τ) → Q (some (.inl r)) τ → WpD (e + 3) mX8_readsPart [.inr (.inr (3, 0)), .inl a1, .inl a2] σ Q)  (r : Int32) (τ : Mem) (Q : Pst) (hQ : Q (some (.inl r)) τ) : ∀  (σ : Mem), F_X8_readsOne_b16 N g0 g1 g2 g3  σ = some (r, τ) → Wp (WpD (e + 3)) hcX8_readsOne Q (16, [some (.inr (.inr (3, 0))), none, none], []) σ := by
  intro  σ h
  unfold F_X8_readsOne_b16 at h
  refine Wp.br (WpD.mono _) 4 (c := (σ.1 3 7) = (3 : Int32)) (q1 := ((25, [some (.inr (.inr (3, 0))), none, none], [.inr (.inr (3, 0))]), σ)) (q2 := ((36, [some (.inr (.inr (3, 0))), none, none], [.inr (.inr (3, 0))]), σ)) rfl (fun hc => ?_) (fun hc => ?_)
  · have h := (if_pos hc).symm.trans h
    refine Wp.run (WpD.mono _) 4 (q := ((40, [some (.inr (.inr (3, 0))), none, none], [.inl ((10000 : Int32) + (σ.1 3 8)), .inr (.inr (3, 0))]), σ)) rfl ?_
    exact Wp.jump (WpD.mono _) rfl ((T_X8_readsOne_b40 e N g0 g1 g2 g3 hg0 hg1 hg2 hg3 r τ Q hQ ) ((10000 : Int32) + (σ.1 3 8)) σ h)
  · have h := (if_neg hc).symm.trans h
    refine Wp.run (WpD.mono _) 1 (q := ((40, [some (.inr (.inr (3, 0))), none, none], [.inl (σ.1 3 8), .inr (.inr (3, 0))]), σ)) rfl ?_
    exact Wp.jump (WpD.mono _) rfl ((T_X8_readsOne_b40 e N g0 g1 g2 g3 hg0 hg1 hg2 hg3 r τ Q hQ ) (σ.1 3 8) σ h)

set_option maxRecDepth 100000 in
set_option maxHeartbeats 4000000 in
theorem TB_X8_readsOne (e N : Nat) (g0 : Int32 → Int32 → Mem → Option (Int32 × Mem)) (g1 : Int32 → Mem → Option (Int32 × Mem)) (g2 : Int32 → Mem → Option (Int32 × Mem)) (g3 : Int32 → Int32 → Mem → Option (Int32 × Mem)) (hg0 : ∀ (a1 : Int32) (a2 : Int32) (σ : Mem) (r : Int32) (τ : Mem) (Q : Pst), g0 a1 a2 σ = some (r, τ) → Q (some (.inl r)) τ → WpD (e + 3) mX8_reads [.inr (.inr (3, 0)), .inl a1, .inl a2] σ Q) (hg1 : ∀ (a1 : Int32) (σ : Mem) (r : Int32) (τ : Mem) (Q : Pst), g1 a1 σ = some (r, τ) → Q (some (.inl r)) τ → WpD (e + 3) mX8_readsNot [.inr (.inr (3, 0)), .inl a1] σ Q) (hg2 : ∀ (a1 : Int32) (σ : Mem) (r : Int32) (τ : Mem) (Q : Pst), g2 a1 σ = some (r, τ) → Q (some (.inl r)) τ → WpD (e + 3) mX8_readsOne [.inr (.inr (3, 0)), .inl a1] σ Q) (hg3 : ∀ (a1 : Int32) (a2 : Int32) (σ : Mem) (r : Int32) (τ : Mem) (Q : Pst), g3 a1 a2 σ = some (r, τ) → Q (some (.inl r)) τ → WpD (e + 3) mX8_readsPart [.inr (.inr (3, 0)), .inl a1, .inl a2] σ Q) (a1 : Int32) (σ : Mem) (r : Int32) (τ : Mem) (Q : Pst) (h : B_X8_readsOne N g0 g1 g2 g3 a1 σ = some (r, τ)) (hQ : Q (some (.inl r)) τ) : WpD (e + 1 + 3) mX8_readsOne [.inr (.inr (3, 0)), .inl a1] σ Q := by
  refine WpD.of (d := e + 3) (Nat.le_of_ble_eq_true rfl) (Nat.le_of_ble_eq_true rfl) ?_
  show Wp (WpD (e + 3)) hcX8_readsOne Q (0, [some (.inr (.inr (3, 0))), some (.inl a1), none], []) σ
  unfold B_X8_readsOne at h
  refine Wp.br (WpD.mono _) 3 (c := (σ.1 3 7) = (2 : Int32)) (q1 := ((16, [some (.inr (.inr (3, 0))), some (.inl a1), none], []), σ)) (q2 := ((8, [some (.inr (.inr (3, 0))), some (.inl a1), none], []), σ)) rfl (fun hc => ?_) (fun hc => ?_)
  · have h := (if_pos hc).symm.trans h
    exact Wp.jump (WpD.mono _) rfl ((T_X8_readsOne_b16 e N g0 g1 g2 g3 hg0 hg1 hg2 hg3 r τ Q hQ ) σ h)
  · have h := (if_neg hc).symm.trans h
    refine Wp.br (WpD.mono _) 3 (c := (σ.1 3 7) = (3 : Int32)) (q1 := ((16, [some (.inr (.inr (3, 0))), some (.inl a1), none], []), σ)) (q2 := ((49, [some (.inr (.inr (3, 0))), some (.inl a1), none], []), σ)) rfl (fun hc => ?_) (fun hc => ?_)
    · have h := (if_pos hc).symm.trans h
      exact Wp.jump (WpD.mono _) rfl ((T_X8_readsOne_b16 e N g0 g1 g2 g3 hg0 hg1 hg2 hg3 r τ Q hQ ) σ h)
    · have h := (if_neg hc).symm.trans h
      refine Wp.br (WpD.mono _) 2 (c := (5 : Int32) ≤ a1) (q1 := ((72, [some (.inr (.inr (3, 0))), some (.inl a1), none], []), σ)) (q2 := ((54, [some (.inr (.inr (3, 0))), some (.inl a1), none], []), σ)) rfl (fun hc => ?_) (fun hc => ?_)
      · have h := (if_pos hc).symm.trans h
        refine Wp.run (WpD.mono _) 0 (q := ((73, [none, none, none], [.inl (0 : Int32)]), σ)) rfl ?_
        cases h
        exact Wp.ret (WpD.mono _) rfl hQ
      · have h := (if_neg hc).symm.trans h
        refine Wp.br (WpD.mono _) 3 (c := (σ.1 3 7) = (45 : Int32)) (q1 := ((74, [some (.inr (.inr (3, 0))), some (.inl a1), none], []), σ)) (q2 := ((63, [some (.inr (.inr (3, 0))), some (.inl a1), none], []), σ)) rfl (fun hc => ?_) (fun hc => ?_)
        · have h := (if_pos hc).symm.trans h
          exact Wp.jump (WpD.mono _) rfl ((T_X8_readsOne_b74 e N g0 g1 g2 g3 hg0 hg1 hg2 hg3 r τ Q hQ ) a1 σ h)
        · have h := (if_neg hc).symm.trans h
          refine Wp.br (WpD.mono _) 3 (c := (σ.1 3 7) = (40 : Int32)) (q1 := ((74, [some (.inr (.inr (3, 0))), some (.inl a1), none], []), σ)) (q2 := ((72, [some (.inr (.inr (3, 0))), some (.inl a1), none], []), σ)) rfl (fun hc => ?_) (fun hc => ?_)
          · have h := (if_pos hc).symm.trans h
            exact Wp.jump (WpD.mono _) rfl ((T_X8_readsOne_b74 e N g0 g1 g2 g3 hg0 hg1 hg2 hg3 r τ Q hQ ) a1 σ h)
          · have h := (if_neg hc).symm.trans h
            refine Wp.run (WpD.mono _) 0 (q := ((73, [none, none, none], [.inl (0 : Int32)]), σ)) rfl ?_
            cases h
            exact Wp.ret (WpD.mono _) rfl hQ

set_option maxRecDepth 100000 in
set_option maxHeartbeats 4000000 in
theorem TB_X8_readsPart (e N : Nat) (g0 : Int32 → Int32 → Mem → Option (Int32 × Mem)) (g1 : Int32 → Mem → Option (Int32 × Mem)) (g2 : Int32 → Mem → Option (Int32 × Mem)) (g3 : Int32 → Int32 → Mem → Option (Int32 × Mem)) (hg0 : ∀ (a1 : Int32) (a2 : Int32) (σ : Mem) (r : Int32) (τ : Mem) (Q : Pst), g0 a1 a2 σ = some (r, τ) → Q (some (.inl r)) τ → WpD (e + 3) mX8_reads [.inr (.inr (3, 0)), .inl a1, .inl a2] σ Q) (hg1 : ∀ (a1 : Int32) (σ : Mem) (r : Int32) (τ : Mem) (Q : Pst), g1 a1 σ = some (r, τ) → Q (some (.inl r)) τ → WpD (e + 3) mX8_readsNot [.inr (.inr (3, 0)), .inl a1] σ Q) (hg2 : ∀ (a1 : Int32) (σ : Mem) (r : Int32) (τ : Mem) (Q : Pst), g2 a1 σ = some (r, τ) → Q (some (.inl r)) τ → WpD (e + 3) mX8_readsOne [.inr (.inr (3, 0)), .inl a1] σ Q) (hg3 : ∀ (a1 : Int32) (a2 : Int32) (σ : Mem) (r : Int32) (τ : Mem) (Q : Pst), g3 a1 a2 σ = some (r, τ) → Q (some (.inl r)) τ → WpD (e + 3) mX8_readsPart [.inr (.inr (3, 0)), .inl a1, .inl a2] σ Q) (a1 : Int32) (a2 : Int32) (σ : Mem) (r : Int32) (τ : Mem) (Q : Pst) (h : B_X8_readsPart N g0 g1 g2 g3 a1 a2 σ = some (r, τ)) (hQ : Q (some (.inl r)) τ) : WpD (e + 1 + 3) mX8_readsPart [.inr (.inr (3, 0)), .inl a1, .inl a2] σ Q := by
  refine WpD.of (d := e + 3) (Nat.le_of_ble_eq_true rfl) (Nat.le_of_ble_eq_true rfl) ?_
  show Wp (WpD (e + 3)) hcX8_readsPart Q (0, [some (.inr (.inr (3, 0))), some (.inl a1), some (.inl a2)], []) σ
  unfold B_X8_readsPart at h
  refine Wp.run (WpD.mono _) 0 (q := ((1, [some (.inr (.inr (3, 0))), some (.inl a1), some (.inl a2)], [.inl a1]), σ)) rfl ?_
  by_cases hs0 : a1 = 0
  · have h := (if_pos hs0).symm.trans h
    refine Wp.swIn (WpD.mono _) (q := ((28, [some (.inr (.inr (3, 0))), some (.inl a1), some (.inl a2)], []), σ)) hs0 rfl ?_
    refine Wp.run (WpD.mono _) 2 (q := ((31, [some (.inr (.inr (3, 0))), some (.inl a1), some (.inl a2)], [.inl a2, .inl (1 : Int32), .inr (.inr (3, 0))]), σ)) rfl ?_
    obtain ⟨q1, hb, h⟩ := bind_some h
    refine Wp.call (WpD.mono _) rfl (hg0 (1 : Int32) a2 σ _ _ _ hb ?_)
    show Wp (WpD (e + 3)) hcX8_readsPart Q (34, [some (.inr (.inr (3, 0))), some (.inl a1), some (.inl a2)], [.inl q1.1]) q1.2
    obtain ⟨hc, h⟩ := ite_yy h
    cases h
    exact Wp.retZ (WpD.mono _) rfl hc hQ
  have h := (if_neg hs0).symm.trans h
  by_cases hs1 : a1 = 1
  · have h := (if_pos hs1).symm.trans h
    refine Wp.swIn (WpD.mono _) (q := ((35, [some (.inr (.inr (3, 0))), some (.inl a1), some (.inl a2)], []), σ)) hs1 rfl ?_
    refine Wp.run (WpD.mono _) 1 (q := ((37, [some (.inr (.inr (3, 0))), some (.inl a1), some (.inl a2)], [.inl a2, .inr (.inr (3, 0))]), σ)) rfl ?_
    obtain ⟨q2, hb, h⟩ := bind_some h
    refine Wp.call (WpD.mono _) rfl (hg1 a2 σ _ _ _ hb ?_)
    show Wp (WpD (e + 3)) hcX8_readsPart Q (40, [some (.inr (.inr (3, 0))), some (.inl a1), some (.inl a2)], [.inl q2.1]) q2.2
    obtain ⟨hc, h⟩ := ite_yy h
    cases h
    exact Wp.retZ (WpD.mono _) rfl hc hQ
  have h := (if_neg hs1).symm.trans h
  by_cases hs2 : a1 = 2
  · have h := (if_pos hs2).symm.trans h
    refine Wp.swIn (WpD.mono _) (q := ((41, [some (.inr (.inr (3, 0))), some (.inl a1), some (.inl a2)], []), σ)) hs2 rfl ?_
    refine Wp.run (WpD.mono _) 2 (q := ((44, [some (.inr (.inr (3, 0))), some (.inl a1), some (.inl a2)], [.inl a2, .inl (3 : Int32), .inr (.inr (3, 0))]), σ)) rfl ?_
    obtain ⟨q3, hb, h⟩ := bind_some h
    refine Wp.call (WpD.mono _) rfl (hg0 (3 : Int32) a2 σ _ _ _ hb ?_)
    show Wp (WpD (e + 3)) hcX8_readsPart Q (47, [some (.inr (.inr (3, 0))), some (.inl a1), some (.inl a2)], [.inl q3.1]) q3.2
    obtain ⟨hc, h⟩ := ite_yy h
    cases h
    exact Wp.retZ (WpD.mono _) rfl hc hQ
  have h := (if_neg hs2).symm.trans h
  have ehs0 : ¬ (a1).toInt = 0 := fun z => hs0 (Int32.toInt_inj.mp z)
  have ehs1 : ¬ (a1).toInt = 1 := fun z => hs1 (Int32.toInt_inj.mp z)
  have ehs2 : ¬ (a1).toInt = 2 := fun z => hs2 (Int32.toInt_inj.mp z)
  refine Wp.swOut (WpD.mono _) (q := ((48, [some (.inr (.inr (3, 0))), some (.inl a1), some (.inl a2)], []), σ)) (o := if (a1).toInt < 0 ∨ 2 < (a1).toInt then some (47) else #[27, 34, 40][((a1).toInt - 0).toNat]?) (o' := some (47)) rfl (if_pos (by omega)) rfl ?_
  refine Wp.run (WpD.mono _) 1 (q := ((50, [some (.inr (.inr (3, 0))), some (.inl a1), some (.inl a2)], [.inl a2, .inr (.inr (3, 0))]), σ)) rfl ?_
  obtain ⟨q4, hb, h⟩ := bind_some h
  refine Wp.call (WpD.mono _) rfl (hg2 a2 σ _ _ _ hb ?_)
  show Wp (WpD (e + 3)) hcX8_readsPart Q (53, [some (.inr (.inr (3, 0))), some (.inl a1), some (.inl a2)], [.inl q4.1]) q4.2
  obtain ⟨hc, h⟩ := ite_yy h
  cases h
  exact Wp.retZ (WpD.mono _) rfl hc hQ

set_option maxRecDepth 100000 in
theorem TG_X8_reads (e N : Nat) : ∀ d : Nat, (∀ (a1 : Int32) (a2 : Int32) (σ : Mem) (r : Int32) (τ : Mem) (Q : Pst), (G_X8_reads N d).1 a1 a2 σ = some (r, τ) → Q (some (.inl r)) τ → WpD (e + d + 3) mX8_reads [.inr (.inr (3, 0)), .inl a1, .inl a2] σ Q) ∧ (∀ (a1 : Int32) (σ : Mem) (r : Int32) (τ : Mem) (Q : Pst), (G_X8_reads N d).2.1 a1 σ = some (r, τ) → Q (some (.inl r)) τ → WpD (e + d + 3) mX8_readsNot [.inr (.inr (3, 0)), .inl a1] σ Q) ∧ (∀ (a1 : Int32) (σ : Mem) (r : Int32) (τ : Mem) (Q : Pst), (G_X8_reads N d).2.2.1 a1 σ = some (r, τ) → Q (some (.inl r)) τ → WpD (e + d + 3) mX8_readsOne [.inr (.inr (3, 0)), .inl a1] σ Q) ∧ (∀ (a1 : Int32) (a2 : Int32) (σ : Mem) (r : Int32) (τ : Mem) (Q : Pst), (G_X8_reads N d).2.2.2 a1 a2 σ = some (r, τ) → Q (some (.inl r)) τ → WpD (e + d + 3) mX8_readsPart [.inr (.inr (3, 0)), .inl a1, .inl a2] σ Q) := by
  intro d
  induction d with
  | zero =>
    exact ⟨fun _ _ _ _ _ _ h => nomatch h, fun _ _ _ _ _ h => nomatch h, fun _ _ _ _ _ h => nomatch h, fun _ _ _ _ _ _ h => nomatch h⟩
  | succ d ih =>
    exact ⟨fun a1 a2 σ r τ Q h hQ => TB_X8_reads (e + d) N (G_X8_reads N d).1 (G_X8_reads N d).2.1 (G_X8_reads N d).2.2.1 (G_X8_reads N d).2.2.2 ih.1 ih.2.1 ih.2.2.1 ih.2.2.2 a1 a2 σ r τ Q h hQ, fun a1 σ r τ Q h hQ => TB_X8_readsNot (e + d) N (G_X8_reads N d).1 (G_X8_reads N d).2.1 (G_X8_reads N d).2.2.1 (G_X8_reads N d).2.2.2 ih.1 ih.2.1 ih.2.2.1 ih.2.2.2 a1 σ r τ Q h hQ, fun a1 σ r τ Q h hQ => TB_X8_readsOne (e + d) N (G_X8_reads N d).1 (G_X8_reads N d).2.1 (G_X8_reads N d).2.2.1 (G_X8_reads N d).2.2.2 ih.1 ih.2.1 ih.2.2.1 ih.2.2.2 a1 σ r τ Q h hQ, fun a1 a2 σ r τ Q h hQ => TB_X8_readsPart (e + d) N (G_X8_reads N d).1 (G_X8_reads N d).2.1 (G_X8_reads N d).2.2.1 (G_X8_reads N d).2.2.2 ih.1 ih.2.1 ih.2.2.1 ih.2.2.2 a1 a2 σ r τ Q h hQ⟩

theorem T_X8_reads (e N : Nat) (a1 : Int32) (a2 : Int32) (σ : Mem) (r : Int32) (τ : Mem) (Q : Pst) (h : F_X8_reads N a1 a2 σ = some (r, τ)) (hQ : Q (some (.inl r)) τ) : WpD (e + 93) mX8_reads [.inr (.inr (3, 0)), .inl a1, .inl a2] σ Q := (TG_X8_reads e N 90).1 a1 a2 σ r τ Q h hQ
theorem T_X8_readsNot (e N : Nat) (a1 : Int32) (σ : Mem) (r : Int32) (τ : Mem) (Q : Pst) (h : F_X8_readsNot N a1 σ = some (r, τ)) (hQ : Q (some (.inl r)) τ) : WpD (e + 93) mX8_readsNot [.inr (.inr (3, 0)), .inl a1] σ Q := (TG_X8_reads e N 90).2.1 a1 σ r τ Q h hQ
theorem T_X8_readsOne (e N : Nat) (a1 : Int32) (σ : Mem) (r : Int32) (τ : Mem) (Q : Pst) (h : F_X8_readsOne N a1 σ = some (r, τ)) (hQ : Q (some (.inl r)) τ) : WpD (e + 93) mX8_readsOne [.inr (.inr (3, 0)), .inl a1] σ Q := (TG_X8_reads e N 90).2.2.1 a1 σ r τ Q h hQ
theorem T_X8_readsPart (e N : Nat) (a1 : Int32) (a2 : Int32) (σ : Mem) (r : Int32) (τ : Mem) (Q : Pst) (h : F_X8_readsPart N a1 a2 σ = some (r, τ)) (hQ : Q (some (.inl r)) τ) : WpD (e + 93) mX8_readsPart [.inr (.inr (3, 0)), .inl a1, .inl a2] σ Q := (TG_X8_reads e N 90).2.2.2 a1 a2 σ r τ Q h hQ
set_option maxRecDepth 100000 in
set_option maxHeartbeats 4000000 in
theorem T_X8_readsText_b16 (e N : Nat)   (r : Int32) (τ : Mem) (Q : Pst) (hQ : Q (some (.inl r)) τ) : ∀ n, ∀ (x1 : Int32) (σ : Mem), F_X8_readsText_b16 N n x1 σ = some (r, τ) → Wp (WpD (e + 93)) hcX8_readsText Q (16, [some (.inr (.inr (3, 0))), some (.inl x1)], []) σ := by
  intro n
  induction n with
  | zero => intro x1 σ h; cases h
  | succ n ih =>
    intro x1 σ h
    unfold F_X8_readsText_b16 at h
    refine Wp.br (WpD.mono _) 2 (c := (3 : Int32) ≤ x1) (q1 := ((83, [some (.inr (.inr (3, 0))), some (.inl x1)], []), σ)) (q2 := ((21, [some (.inr (.inr (3, 0))), some (.inl x1)], []), σ)) rfl (fun hc => ?_) (fun hc => ?_)
    · have h := (if_pos hc).symm.trans h
      refine Wp.br (WpD.mono _) 2 (c := (σ.1 3 7) = 0) (q1 := ((90, [some (.inr (.inr (3, 0))), some (.inl x1)], []), σ)) (q2 := ((94, [some (.inr (.inr (3, 0))), some (.inl x1)], []), σ)) rfl (fun hc => ?_) (fun hc => ?_)
      · have h := (if_pos hc).symm.trans h
        refine Wp.run (WpD.mono _) 1 (q := ((95, [some (.inr (.inr (3, 0))), some (.inl x1)], [.inl (1 : Int32)]), σ)) rfl ?_
        cases h
        exact Wp.ret (WpD.mono _) rfl hQ
      · have h := (if_neg hc).symm.trans h
        refine Wp.run (WpD.mono _) 0 (q := ((95, [some (.inr (.inr (3, 0))), some (.inl x1)], [.inl (0 : Int32)]), σ)) rfl ?_
        cases h
        exact Wp.ret (WpD.mono _) rfl hQ
    · have h := (if_neg hc).symm.trans h
      refine Wp.br (WpD.mono _) 5 (c := (σ.1 3 7) = ((4 : Int32) + x1)) (q1 := ((33, [some (.inr (.inr (3, 0))), some (.inl x1)], []), σ)) (q2 := ((31, [some (.inr (.inr (3, 0))), some (.inl x1)], []), σ)) rfl (fun hc => ?_) (fun hc => ?_)
      · have h := (if_pos hc).symm.trans h
        obtain ⟨hc, h⟩ := ite_nn h
        refine Wp.no (WpD.mono _) 5 (c := hwOut x1 3) (q := ((43, [some (.inr (.inr (3, 0))), some (.inl x1)], []), (σ.1, σ.2.1, (hwU3 σ.2.2.1 64 0 (x1).toNatClampNeg (σ.1 3 4)), σ.2.2.2.1, σ.2.2.2.2))) rfl hc ?_
        refine Wp.run (WpD.mono _) 0 (q := ((44, [some (.inr (.inr (3, 0))), some (.inl x1)], [.inr (.inr (3, 0))]), (σ.1, σ.2.1, (hwU3 σ.2.2.1 64 0 (x1).toNatClampNeg (σ.1 3 4)), σ.2.2.2.1, σ.2.2.2.2))) rfl ?_
        obtain ⟨q2, hb, h⟩ := bind_some h
        refine Wp.call (WpD.mono _) rfl (T_X8_step (e + 90) N (σ.1, σ.2.1, (hwU3 σ.2.2.1 64 0 (x1).toNatClampNeg (σ.1 3 4)), σ.2.2.2.1, σ.2.2.2.2) _ _ _ hb ?_)
        show Wp (WpD (e + 93)) hcX8_readsText Q (47, [some (.inr (.inr (3, 0))), some (.inl x1)], []) q2.2
        refine Wp.run (WpD.mono _) 2 (q := ((50, [some (.inr (.inr (3, 0))), some (.inl x1)], [.inl (0 : Int32), .inl (0 : Int32), .inr (.inr (3, 0))]), q2.2)) rfl ?_
        obtain ⟨q3, hb, h⟩ := bind_some h
        refine Wp.call (WpD.mono _) rfl (T_X8_reads (e + 0) N (0 : Int32) (0 : Int32) q2.2 _ _ _ hb ?_)
        show Wp (WpD (e + 93)) hcX8_readsText Q (53, [some (.inr (.inr (3, 0))), some (.inl x1)], [.inl q3.1]) q3.2
        refine Wp.br (WpD.mono _) 0 (c := q3.1 = 0) (q1 := ((65, [some (.inr (.inr (3, 0))), some (.inl x1)], []), q3.2)) (q2 := ((56, [some (.inr (.inr (3, 0))), some (.inl x1)], []), q3.2)) rfl (fun hc => ?_) (fun hc => ?_)
        · have h := (if_pos hc).symm.trans h
          refine Wp.run (WpD.mono _) 0 (q := ((66, [none, none], [.inl (0 : Int32)]), q3.2)) rfl ?_
          cases h
          exact Wp.ret (WpD.mono _) rfl hQ
        · have h := (if_neg hc).symm.trans h
          refine Wp.br (WpD.mono _) 3 (c := (q3.2.1 3 7) = (59 : Int32)) (q1 := ((67, [some (.inr (.inr (3, 0))), some (.inl x1)], []), q3.2)) (q2 := ((65, [some (.inr (.inr (3, 0))), some (.inl x1)], []), q3.2)) rfl (fun hc => ?_) (fun hc => ?_)
          · have h := (if_pos hc).symm.trans h
            refine Wp.run (WpD.mono _) 1 (q := ((70, [some (.inr (.inr (3, 0))), some (.inl x1)], [.inl (40000 : Int32), .inr (.inr (3, 0))]), q3.2)) rfl ?_
            obtain ⟨q4, hb, h⟩ := bind_some h
            refine Wp.call (WpD.mono _) rfl (T_X8_emit (e + 92) N (40000 : Int32) q3.2 _ _ _ hb ?_)
            show Wp (WpD (e + 93)) hcX8_readsText Q (73, [some (.inr (.inr (3, 0))), some (.inl x1)], []) q4.2
            refine Wp.run (WpD.mono _) 0 (q := ((74, [some (.inr (.inr (3, 0))), some (.inl x1)], [.inr (.inr (3, 0))]), q4.2)) rfl ?_
            obtain ⟨q5, hb, h⟩ := bind_some h
            refine Wp.call (WpD.mono _) rfl (T_X8_step (e + 90) N q4.2 _ _ _ hb ?_)
            show Wp (WpD (e + 93)) hcX8_readsText Q (77, [some (.inr (.inr (3, 0))), some (.inl x1)], []) q5.2
            refine Wp.run (WpD.mono _) 1 (q := ((16, [some (.inr (.inr (3, 0))), some (.inl (x1 + (1 : Int32)))], []), q5.2)) rfl ?_
            exact Wp.jump (WpD.mono _) rfl (ih (x1 + (1 : Int32)) q5.2 h)
          · have h := (if_neg hc).symm.trans h
            refine Wp.run (WpD.mono _) 0 (q := ((66, [none, none], [.inl (0 : Int32)]), q3.2)) rfl ?_
            cases h
            exact Wp.ret (WpD.mono _) rfl hQ
      · have h := (if_neg hc).symm.trans h
        refine Wp.run (WpD.mono _) 0 (q := ((32, [some (.inr (.inr (3, 0))), some (.inl x1)], [.inl (0 : Int32)]), σ)) rfl ?_
        cases h
        exact Wp.ret (WpD.mono _) rfl hQ

set_option maxRecDepth 100000 in
set_option maxHeartbeats 4000000 in
theorem T_X8_readsText (e N : Nat)   (σ : Mem) (r : Int32) (τ : Mem) (Q : Pst) (h : F_X8_readsText N  σ = some (r, τ)) (hQ : Q (some (.inl r)) τ) : WpD (e + 94) mX8_readsText [.inr (.inr (3, 0))] σ Q := by
  refine WpD.of (d := e + 93) (Nat.le_of_ble_eq_true rfl) (Nat.le_of_ble_eq_true rfl) ?_
  show Wp (WpD (e + 93)) hcX8_readsText Q (0, [some (.inr (.inr (3, 0))), none], []) σ
  unfold F_X8_readsText at h
  refine Wp.run (WpD.mono _) 6 (q := ((11, [some (.inr (.inr (3, 0))), none], [.inr (.inr (3, 0))]), ((hwU2 (hwU2 σ.1 3 5 (0 : Int32)) 3 4 (0 : Int32)), σ.2.1, σ.2.2.1, σ.2.2.2.1, σ.2.2.2.2))) rfl ?_
  obtain ⟨q1, hb, h⟩ := bind_some h
  refine Wp.call (WpD.mono _) rfl (T_X8_step (e + 90) N ((hwU2 (hwU2 σ.1 3 5 (0 : Int32)) 3 4 (0 : Int32)), σ.2.1, σ.2.2.1, σ.2.2.2.1, σ.2.2.2.2) _ _ _ hb ?_)
  show Wp (WpD (e + 93)) hcX8_readsText Q (14, [some (.inr (.inr (3, 0))), none], []) q1.2
  refine Wp.run (WpD.mono _) 1 (q := ((16, [some (.inr (.inr (3, 0))), some (.inl (0 : Int32))], []), q1.2)) rfl ?_
  exact Wp.jump (WpD.mono _) rfl ((T_X8_readsText_b16 e N  r τ Q hQ  N) (0 : Int32) q1.2 h)

set_option maxRecDepth 100000 in
set_option maxHeartbeats 4000000 in
theorem T_X4_readTape (e N : Nat)   (σ : Mem) (r : Int32) (τ : Mem) (Q : Pst) (h : F_X4_readTape N  σ = some (r, τ)) (hQ : Q (some (.inl r)) τ) : WpD (e + 95) mX4_readTape [.inr (.inr (2, 0))] σ Q := by
  refine WpD.of (d := e + 94) (Nat.le_of_ble_eq_true rfl) (Nat.le_of_ble_eq_true rfl) ?_
  show Wp (WpD (e + 94)) hcX4_readTape Q (0, [some (.inr (.inr (2, 0))), none, none], []) σ
  unfold F_X4_readTape at h
  refine Wp.br (WpD.mono _) 5 (c := (σ.1 2 9) < (6 : Int32)) (q1 := ((14, [some (.inr (.inr (2, 0))), some (.inl (σ.1 2 9)), none], []), σ)) (q2 := ((11, [some (.inr (.inr (2, 0))), some (.inl (σ.1 2 9)), none], []), σ)) rfl (fun hc => ?_) (fun hc => ?_)
  · have h := (if_pos hc).symm.trans h
    refine Wp.run (WpD.mono _) 1 (q := ((18, [some (.inr (.inr (2, 0))), some (.inl (σ.1 2 9)), none], [.inr (.inr (3, 0))]), σ)) rfl ?_
    obtain ⟨q1, hb, h⟩ := bind_some h
    refine Wp.call (WpD.mono _) rfl (T_X8_readsText (e + 0) N σ _ _ _ hb ?_)
    show Wp (WpD (e + 94)) hcX4_readTape Q (21, [some (.inr (.inr (2, 0))), some (.inl (σ.1 2 9)), none], [.inl q1.1]) q1.2
    refine Wp.br (WpD.mono _) 6 (c := q1.1 = 0) (q1 := ((34, [some (.inr (.inr (2, 0))), some (.inl (σ.1 2 9)), some (.inl q1.1)], []), ((hwU2 q1.2.1 3 3 (0 : Int32)), q1.2.2.1, q1.2.2.2.1, q1.2.2.2.2.1, q1.2.2.2.2.2))) (q2 := ((45, [some (.inr (.inr (2, 0))), some (.inl (σ.1 2 9)), some (.inl q1.1)], []), ((hwU2 q1.2.1 3 3 (0 : Int32)), q1.2.2.1, q1.2.2.2.1, q1.2.2.2.2.1, q1.2.2.2.2.2))) rfl (fun hc => ?_) (fun hc => ?_)
    · have h := (if_pos hc).symm.trans h
      refine Wp.run (WpD.mono _) 4 (q := ((44, [some (.inr (.inr (2, 0))), some (.inl (σ.1 2 9)), some (.inl q1.1)], [.inl ((-100 : Int32) - (q1.2.1 3 6))]), ((hwU2 q1.2.1 3 3 (0 : Int32)), q1.2.2.1, q1.2.2.2.1, q1.2.2.2.2.1, q1.2.2.2.2.2))) rfl ?_
      cases h
      exact Wp.ret (WpD.mono _) rfl hQ
    · have h := (if_neg hc).symm.trans h
      obtain ⟨hc, h⟩ := ite_nn h
      refine Wp.no (WpD.mono _) 7 (c := hwOut (σ.1 2 9) 6) (q := ((59, [some (.inr (.inr (2, 0))), some (.inl (σ.1 2 9)), some (.inl q1.1)], [.inr (.inr (39, ((σ.1 2 9)).toNatClampNeg)), .inl (0 : Int32), .inr (.inr (63, 0))]), ((hwU2 q1.2.1 3 3 (0 : Int32)), q1.2.2.1, q1.2.2.2.1, q1.2.2.2.2.1, q1.2.2.2.2.2))) rfl hc ?_
      obtain ⟨hc, h⟩ := ite_nn h
      refine Wp.no (WpD.mono _) 10 (c := hwOut (σ.1 2 9) 6) (q := ((80, [some (.inr (.inr (2, 0))), some (.inl (σ.1 2 9)), some (.inl q1.1)], [.inr (.inr (41, ((σ.1 2 9)).toNatClampNeg)), .inl (0 : Int32), .inr (.inr (64, 0))]), ((hwU2 q1.2.1 3 3 (0 : Int32)), q1.2.2.1, (hwR3 q1.2.2.2.1 39 ((σ.1 2 9)).toNatClampNeg (va_cpy (q1.2.2.2.1 63 0) (q1.2.2.2.1 39 ((σ.1 2 9)).toNatClampNeg) 0 0 160)), q1.2.2.2.2.1, q1.2.2.2.2.2))) rfl hc ?_
      refine Wp.run (WpD.mono _) 8 (q := ((93, [some (.inr (.inr (2, 0))), some (.inl (σ.1 2 9)), some (.inl q1.1)], [.inl (σ.1 2 9)]), ((hwU2 (hwU2 q1.2.1 3 3 (0 : Int32)) 2 9 ((σ.1 2 9) + (1 : Int32))), q1.2.2.1, (hwR3 (hwR3 q1.2.2.2.1 39 ((σ.1 2 9)).toNatClampNeg (va_cpy (q1.2.2.2.1 63 0) (q1.2.2.2.1 39 ((σ.1 2 9)).toNatClampNeg) 0 0 160)) 41 ((σ.1 2 9)).toNatClampNeg (va_cpy ((hwR3 q1.2.2.2.1 39 ((σ.1 2 9)).toNatClampNeg (va_cpy (q1.2.2.2.1 63 0) (q1.2.2.2.1 39 ((σ.1 2 9)).toNatClampNeg) 0 0 160)) 64 0) ((hwR3 q1.2.2.2.1 39 ((σ.1 2 9)).toNatClampNeg (va_cpy (q1.2.2.2.1 63 0) (q1.2.2.2.1 39 ((σ.1 2 9)).toNatClampNeg) 0 0 160)) 41 ((σ.1 2 9)).toNatClampNeg) 0 0 3)), q1.2.2.2.2.1, q1.2.2.2.2.2))) rfl ?_
      cases h
      exact Wp.ret (WpD.mono _) rfl hQ
  · have h := (if_neg hc).symm.trans h
    refine Wp.run (WpD.mono _) 0 (q := ((13, [some (.inr (.inr (2, 0))), some (.inl (σ.1 2 9)), none], [.inl (-4 : Int32)]), σ)) rfl ?_
    cases h
    exact Wp.ret (WpD.mono _) rfl hQ

set_option maxRecDepth 100000 in
set_option maxHeartbeats 4000000 in
theorem T_X11_text (e N : Nat)   (σ : Mem) (r : Int32) (τ : Mem) (Q : Pst) (h : F_X11_text N  σ = some (r, τ)) (hQ : Q (some (.inl r)) τ) : WpD (e + 96) mX11_text [.inr (.inr (0, 0))] σ Q := by
  refine WpD.of (d := e + 95) (Nat.le_of_ble_eq_true rfl) (Nat.le_of_ble_eq_true rfl) ?_
  show Wp (WpD (e + 95)) hcX11_text Q (0, [some (.inr (.inr (0, 0)))], []) σ
  unfold F_X11_text at h
  refine Wp.run (WpD.mono _) 1 (q := ((4, [some (.inr (.inr (0, 0)))], [.inr (.inr (2, 0))]), σ)) rfl ?_
  obtain ⟨q1, hb, h⟩ := bind_some h
  refine Wp.call (WpD.mono _) rfl (T_X4_readTape (e + 0) N σ _ _ _ hb ?_)
  show Wp (WpD (e + 95)) hcX11_text Q (7, [some (.inr (.inr (0, 0)))], [.inl q1.1]) q1.2
  cases h
  exact Wp.ret (WpD.mono _) rfl hQ

set_option maxRecDepth 100000 in
set_option maxHeartbeats 4000000 in
theorem T_X11_think (e N : Nat)  (a1 : Int32) (a2 : Int32) (σ : Mem) (r : Int64) (τ : Mem) (Q : Pst) (h : F_X11_think N a1 a2 σ = some (r, τ)) (hQ : Q (some (.inr (.inl r))) τ) : WpD (e + 4) mX11_think [.inr (.inr (0, 0)), .inl a1, .inl a2] σ Q := by
  refine WpD.of (d := e + 3) (Nat.le_of_ble_eq_true rfl) (Nat.le_of_ble_eq_true rfl) ?_
  show Wp (WpD (e + 3)) hcX11_think Q (0, [some (.inr (.inr (0, 0))), some (.inl a1), some (.inl a2), none], []) σ
  unfold F_X11_think at h
  refine Wp.run (WpD.mono _) 1 (q := ((2, [some (.inr (.inr (0, 0))), some (.inl a1), some (.inl a2), none], [.inl a1, .inr (.inr (0, 0))]), σ)) rfl ?_
  obtain ⟨q1, hb, h⟩ := bind_some h
  refine Wp.call (WpD.mono _) rfl (T_X11_isPlace (e + 1) N a1 σ _ _ _ hb ?_)
  show Wp (WpD (e + 3)) hcX11_think Q (5, [some (.inr (.inr (0, 0))), some (.inl a1), some (.inl a2), none], [.inl q1.1]) q1.2
  refine Wp.br (WpD.mono _) 0 (c := q1.1 = 0) (q1 := ((16, [some (.inr (.inr (0, 0))), some (.inl a1), some (.inl a2), none], []), q1.2)) (q2 := ((8, [some (.inr (.inr (0, 0))), some (.inl a1), some (.inl a2), none], []), q1.2)) rfl (fun hc => ?_) (fun hc => ?_)
  · have h := (if_pos hc).symm.trans h
    refine Wp.run (WpD.mono _) 0 (q := ((19, [none, none, none, none], [.inr (.inl (-4611686018427387904 : Int64))]), q1.2)) rfl ?_
    cases h
    exact Wp.ret (WpD.mono _) rfl hQ
  · have h := (if_neg hc).symm.trans h
    refine Wp.run (WpD.mono _) 1 (q := ((10, [some (.inr (.inr (0, 0))), some (.inl a1), some (.inl a2), none], [.inl a2, .inr (.inr (0, 0))]), q1.2)) rfl ?_
    obtain ⟨q2, hb, h⟩ := bind_some h
    refine Wp.call (WpD.mono _) rfl (T_X11_isLayer (e + 1) N a2 q1.2 _ _ _ hb ?_)
    show Wp (WpD (e + 3)) hcX11_think Q (13, [some (.inr (.inr (0, 0))), some (.inl a1), some (.inl a2), none], [.inl q2.1]) q2.2
    refine Wp.br (WpD.mono _) 0 (c := q2.1 = 0) (q1 := ((16, [some (.inr (.inr (0, 0))), some (.inl a1), some (.inl a2), none], []), q2.2)) (q2 := ((20, [some (.inr (.inr (0, 0))), some (.inl a1), some (.inl a2), none], []), q2.2)) rfl (fun hc => ?_) (fun hc => ?_)
    · have h := (if_pos hc).symm.trans h
      refine Wp.run (WpD.mono _) 0 (q := ((19, [none, none, none, none], [.inr (.inl (-4611686018427387904 : Int64))]), q2.2)) rfl ?_
      cases h
      exact Wp.ret (WpD.mono _) rfl hQ
    · have h := (if_neg hc).symm.trans h
      refine Wp.run (WpD.mono _) 2 (q := ((25, [some (.inr (.inr (0, 0))), some (.inl a1), some (.inl a2), none], [.inl a1, .inr (.inr (8, 0))]), q2.2)) rfl ?_
      obtain ⟨q3, hb, h⟩ := bind_some h
      refine Wp.call (WpD.mono _) rfl (T_X6_nextYard (e + 0) N a1 q2.2 _ _ _ hb ?_)
      show Wp (WpD (e + 3)) hcX11_think Q (28, [some (.inr (.inr (0, 0))), some (.inl a1), some (.inl a2), none], [.inl q3.1]) q3.2
      refine Wp.br (WpD.mono _) 2 (c := q3.1 = 0) (q1 := ((33, [some (.inr (.inr (0, 0))), some (.inl a1), some (.inl a2), some (.inl q3.1)], []), q3.2)) (q2 := ((39, [some (.inr (.inr (0, 0))), some (.inl a1), some (.inl a2), some (.inl q3.1)], []), q3.2)) rfl (fun hc => ?_) (fun hc => ?_)
      · have h := (if_pos hc).symm.trans h
        refine Wp.run (WpD.mono _) 1 (q := ((50, [some (.inr (.inr (0, 0))), some (.inl a1), some (.inl a2), some (.inl q3.1)], [.inr (.inl (-3 : Int64))]), q3.2)) rfl ?_
        cases h
        exact Wp.ret (WpD.mono _) rfl hQ
      · have h := (if_neg hc).symm.trans h
        obtain ⟨hc, h⟩ := ite_nn h
        refine Wp.no (WpD.mono _) 4 (c := hwOut q3.1 7) (q := ((48, [some (.inr (.inr (0, 0))), some (.inl a1), some (.inl a2), some (.inl q3.1)], [.inr (.inr (50, (q3.1).toNatClampNeg))]), q3.2)) rfl hc ?_
        obtain ⟨hc, h⟩ := ite_nn h
        refine Wp.no (WpD.mono _) 1 (c := hwOut a2 5) (q := ((50, [some (.inr (.inr (0, 0))), some (.inl a1), some (.inl a2), some (.inl q3.1)], [.inr (.inl (q3.2.2.2.2.1 50 (q3.1).toNatClampNeg (a2).toNatClampNeg))]), q3.2)) rfl hc ?_
        cases h
        exact Wp.ret (WpD.mono _) rfl hQ

set_option maxRecDepth 100000 in
set_option maxHeartbeats 4000000 in
theorem T_X11_ties (e N : Nat)  (a1 : Int32) (a2 : Int32) (a3 : Int32) (σ : Mem) (r : Int32) (τ : Mem) (Q : Pst) (h : F_X11_ties N a1 a2 a3 σ = some (r, τ)) (hQ : Q (some (.inl r)) τ) : WpD (e + 3) mX11_ties [.inr (.inr (0, 0)), .inl a1, .inl a2, .inl a3] σ Q := by
  refine WpD.of (d := e + 2) (Nat.le_of_ble_eq_true rfl) (Nat.le_of_ble_eq_true rfl) ?_
  show Wp (WpD (e + 2)) hcX11_ties Q (0, [some (.inr (.inr (0, 0))), some (.inl a1), some (.inl a2), some (.inl a3), none], []) σ
  unfold F_X11_ties at h
  refine Wp.run (WpD.mono _) 1 (q := ((2, [some (.inr (.inr (0, 0))), some (.inl a1), some (.inl a2), some (.inl a3), none], [.inl a1, .inr (.inr (0, 0))]), σ)) rfl ?_
  obtain ⟨q1, hb, h⟩ := bind_some h
  refine Wp.call (WpD.mono _) rfl (T_X11_isPlace (e + 0) N a1 σ _ _ _ hb ?_)
  show Wp (WpD (e + 2)) hcX11_ties Q (5, [some (.inr (.inr (0, 0))), some (.inl a1), some (.inl a2), some (.inl a3), none], [.inl q1.1]) q1.2
  refine Wp.br (WpD.mono _) 0 (c := q1.1 = 0) (q1 := ((21, [some (.inr (.inr (0, 0))), some (.inl a1), some (.inl a2), some (.inl a3), none], []), q1.2)) (q2 := ((8, [some (.inr (.inr (0, 0))), some (.inl a1), some (.inl a2), some (.inl a3), none], []), q1.2)) rfl (fun hc => ?_) (fun hc => ?_)
  · have h := (if_pos hc).symm.trans h
    refine Wp.run (WpD.mono _) 0 (q := ((22, [none, none, none, none, none], [.inl (-1 : Int32)]), q1.2)) rfl ?_
    cases h
    exact Wp.ret (WpD.mono _) rfl hQ
  · have h := (if_neg hc).symm.trans h
    refine Wp.run (WpD.mono _) 1 (q := ((10, [some (.inr (.inr (0, 0))), some (.inl a1), some (.inl a2), some (.inl a3), none], [.inl a2, .inr (.inr (0, 0))]), q1.2)) rfl ?_
    obtain ⟨q2, hb, h⟩ := bind_some h
    refine Wp.call (WpD.mono _) rfl (T_X11_isPlace (e + 0) N a2 q1.2 _ _ _ hb ?_)
    show Wp (WpD (e + 2)) hcX11_ties Q (13, [some (.inr (.inr (0, 0))), some (.inl a1), some (.inl a2), some (.inl a3), none], [.inl q2.1]) q2.2
    refine Wp.br (WpD.mono _) 0 (c := q2.1 = 0) (q1 := ((21, [some (.inr (.inr (0, 0))), some (.inl a1), some (.inl a2), some (.inl a3), none], []), q2.2)) (q2 := ((16, [some (.inr (.inr (0, 0))), some (.inl a1), some (.inl a2), some (.inl a3), none], []), q2.2)) rfl (fun hc => ?_) (fun hc => ?_)
    · have h := (if_pos hc).symm.trans h
      refine Wp.run (WpD.mono _) 0 (q := ((22, [none, none, none, none, none], [.inl (-1 : Int32)]), q2.2)) rfl ?_
      cases h
      exact Wp.ret (WpD.mono _) rfl hQ
    · have h := (if_neg hc).symm.trans h
      refine Wp.br (WpD.mono _) 2 (c := a1 = a2) (q1 := ((21, [some (.inr (.inr (0, 0))), some (.inl a1), some (.inl a2), some (.inl a3), none], []), q2.2)) (q2 := ((23, [some (.inr (.inr (0, 0))), some (.inl a1), some (.inl a2), some (.inl a3), none], []), q2.2)) rfl (fun hc => ?_) (fun hc => ?_)
      · have h := (if_pos hc).symm.trans h
        refine Wp.run (WpD.mono _) 0 (q := ((22, [none, none, none, none, none], [.inl (-1 : Int32)]), q2.2)) rfl ?_
        cases h
        exact Wp.ret (WpD.mono _) rfl hQ
      · have h := (if_neg hc).symm.trans h
        refine Wp.run (WpD.mono _) 2 (q := ((27, [some (.inr (.inr (0, 0))), some (.inl a1), some (.inl a2), some (.inl a3), none], [.inl (100 : Int32), .inl (0 : Int32), .inl a3]), q2.2)) rfl ?_
        obtain ⟨q3, hb, h⟩ := bind_some h
        refine Wp.call (WpD.mono _) rfl (T_X11_within (e + 1) N a3 (0 : Int32) (100 : Int32) q2.2 _ _ _ hb ?_)
        show Wp (WpD (e + 2)) hcX11_ties Q (30, [some (.inr (.inr (0, 0))), some (.inl a1), some (.inl a2), some (.inl a3), none], [.inl q3.1]) q3.2
        refine Wp.br (WpD.mono _) 0 (c := q3.1 = 0) (q1 := ((33, [some (.inr (.inr (0, 0))), some (.inl a1), some (.inl a2), some (.inl a3), none], []), q3.2)) (q2 := ((36, [some (.inr (.inr (0, 0))), some (.inl a1), some (.inl a2), some (.inl a3), none], []), q3.2)) rfl (fun hc => ?_) (fun hc => ?_)
        · have h := (if_pos hc).symm.trans h
          refine Wp.run (WpD.mono _) 0 (q := ((35, [some (.inr (.inr (0, 0))), some (.inl a1), some (.inl a2), some (.inl a3), none], [.inl (-2 : Int32)]), q3.2)) rfl ?_
          cases h
          exact Wp.ret (WpD.mono _) rfl hQ
        · have h := (if_neg hc).symm.trans h
          obtain ⟨hc, h⟩ := ite_nn h
          refine Wp.no (WpD.mono _) 4 (c := hwOut a1 4) (q := ((45, [some (.inr (.inr (0, 0))), some (.inl a1), some (.inl a2), some (.inl a3), none], [.inr (.inr (61, (a1).toNatClampNeg))]), q3.2)) rfl hc ?_
          obtain ⟨hc, h⟩ := ite_nn h
          refine Wp.no (WpD.mono _) 1 (c := hwOut a2 4) (q := ((47, [some (.inr (.inr (0, 0))), some (.inl a1), some (.inl a2), some (.inl a3), none], [.inl (q3.2.2.2.1 61 (a1).toNatClampNeg (a2).toNatClampNeg)]), q3.2)) rfl hc ?_
          obtain ⟨hc, h⟩ := ite_nn h
          refine Wp.no (WpD.mono _) 5 (c := hwOut a1 4) (q := ((58, [some (.inr (.inr (0, 0))), some (.inl a1), some (.inl a2), some (.inl a3), some (.inl (q3.2.2.2.1 61 (a1).toNatClampNeg (a2).toNatClampNeg))], [.inr (.inr (61, (a1).toNatClampNeg))]), q3.2)) rfl hc ?_
          obtain ⟨hc, h⟩ := ite_nn h
          refine Wp.no (WpD.mono _) 2 (c := hwOut a2 4) (q := ((61, [some (.inr (.inr (0, 0))), some (.inl a1), some (.inl a2), some (.inl a3), some (.inl (q3.2.2.2.1 61 (a1).toNatClampNeg (a2).toNatClampNeg))], []), (q3.2.1, q3.2.2.1, (hwU3 q3.2.2.2.1 61 (a1).toNatClampNeg (a2).toNatClampNeg a3), q3.2.2.2.2.1, q3.2.2.2.2.2))) rfl hc ?_
          obtain ⟨hc, h⟩ := ite_nn h
          refine Wp.no (WpD.mono _) 4 (c := hwOut a2 4) (q := ((70, [some (.inr (.inr (0, 0))), some (.inl a1), some (.inl a2), some (.inl a3), some (.inl (q3.2.2.2.1 61 (a1).toNatClampNeg (a2).toNatClampNeg))], [.inr (.inr (61, (a2).toNatClampNeg))]), (q3.2.1, q3.2.2.1, (hwU3 q3.2.2.2.1 61 (a1).toNatClampNeg (a2).toNatClampNeg a3), q3.2.2.2.2.1, q3.2.2.2.2.2))) rfl hc ?_
          obtain ⟨hc, h⟩ := ite_nn h
          refine Wp.no (WpD.mono _) 2 (c := hwOut a1 4) (q := ((73, [some (.inr (.inr (0, 0))), some (.inl a1), some (.inl a2), some (.inl a3), some (.inl (q3.2.2.2.1 61 (a1).toNatClampNeg (a2).toNatClampNeg))], []), (q3.2.1, q3.2.2.1, (hwU3 (hwU3 q3.2.2.2.1 61 (a1).toNatClampNeg (a2).toNatClampNeg a3) 61 (a2).toNatClampNeg (a1).toNatClampNeg a3), q3.2.2.2.2.1, q3.2.2.2.2.2))) rfl hc ?_
          refine Wp.run (WpD.mono _) 0 (q := ((75, [some (.inr (.inr (0, 0))), some (.inl a1), some (.inl a2), some (.inl a3), some (.inl (q3.2.2.2.1 61 (a1).toNatClampNeg (a2).toNatClampNeg))], [.inl (q3.2.2.2.1 61 (a1).toNatClampNeg (a2).toNatClampNeg)]), (q3.2.1, q3.2.2.1, (hwU3 (hwU3 q3.2.2.2.1 61 (a1).toNatClampNeg (a2).toNatClampNeg a3) 61 (a2).toNatClampNeg (a1).toNatClampNeg a3), q3.2.2.2.2.1, q3.2.2.2.2.2))) rfl ?_
          cases h
          exact Wp.ret (WpD.mono _) rfl hQ

set_option maxRecDepth 100000 in
set_option maxHeartbeats 4000000 in
theorem T_X11_told (e N : Nat)  (a1 : Int32) (a2 : Int32) (σ : Mem) (r : Int32) (τ : Mem) (Q : Pst) (h : F_X11_told N a1 a2 σ = some (r, τ)) (hQ : Q (some (.inl r)) τ) : WpD (e + 3) mX11_told [.inr (.inr (0, 0)), .inl a1, .inl a2] σ Q := by
  refine WpD.of (d := e + 2) (Nat.le_of_ble_eq_true rfl) (Nat.le_of_ble_eq_true rfl) ?_
  show Wp (WpD (e + 2)) hcX11_told Q (0, [some (.inr (.inr (0, 0))), some (.inl a1), some (.inl a2)], []) σ
  unfold F_X11_told at h
  refine Wp.run (WpD.mono _) 1 (q := ((2, [some (.inr (.inr (0, 0))), some (.inl a1), some (.inl a2)], [.inl a1, .inr (.inr (0, 0))]), σ)) rfl ?_
  obtain ⟨q1, hb, h⟩ := bind_some h
  refine Wp.call (WpD.mono _) rfl (T_X11_isPlace (e + 0) N a1 σ _ _ _ hb ?_)
  show Wp (WpD (e + 2)) hcX11_told Q (5, [some (.inr (.inr (0, 0))), some (.inl a1), some (.inl a2)], [.inl q1.1]) q1.2
  refine Wp.br (WpD.mono _) 0 (c := q1.1 = 0) (q1 := ((8, [some (.inr (.inr (0, 0))), some (.inl a1), some (.inl a2)], []), q1.2)) (q2 := ((11, [some (.inr (.inr (0, 0))), some (.inl a1), some (.inl a2)], []), q1.2)) rfl (fun hc => ?_) (fun hc => ?_)
  · have h := (if_pos hc).symm.trans h
    refine Wp.run (WpD.mono _) 0 (q := ((10, [some (.inr (.inr (0, 0))), some (.inl a1), some (.inl a2)], [.inl (-5 : Int32)]), q1.2)) rfl ?_
    cases h
    exact Wp.ret (WpD.mono _) rfl hQ
  · have h := (if_neg hc).symm.trans h
    refine Wp.br (WpD.mono _) 1 (c := a2 = 0) (q1 := ((15, [some (.inr (.inr (0, 0))), some (.inl a1), some (.inl a2)], []), q1.2)) (q2 := ((25, [some (.inr (.inr (0, 0))), some (.inl a1), some (.inl a2)], []), q1.2)) rfl (fun hc => ?_) (fun hc => ?_)
    · have h := (if_pos hc).symm.trans h
      obtain ⟨hc, h⟩ := ite_nn h
      refine Wp.no (WpD.mono _) 4 (c := hwOut a1 4) (q := ((24, [some (.inr (.inr (0, 0))), some (.inl a1), some (.inl a2)], [.inl (q1.2.2.2.1 58 0 (a1).toNatClampNeg)]), q1.2)) rfl hc ?_
      cases h
      exact Wp.ret (WpD.mono _) rfl hQ
    · have h := (if_neg hc).symm.trans h
      refine Wp.br (WpD.mono _) 2 (c := a2 = (1 : Int32)) (q1 := ((30, [some (.inr (.inr (0, 0))), some (.inl a1), some (.inl a2)], []), q1.2)) (q2 := ((48, [some (.inr (.inr (0, 0))), some (.inl a1), some (.inl a2)], []), q1.2)) rfl (fun hc => ?_) (fun hc => ?_)
      · have h := (if_pos hc).symm.trans h
        obtain ⟨hc, h⟩ := ite_nn h
        refine Wp.no (WpD.mono _) 4 (c := hwOut a1 4) (q := ((39, [some (.inr (.inr (0, 0))), some (.inl a1), some (.inl a2)], [.inl (q1.2.2.2.1 59 0 (a1).toNatClampNeg)]), q1.2)) rfl hc ?_
        refine Wp.br (WpD.mono _) 0 (c := (q1.2.2.2.1 59 0 (a1).toNatClampNeg) = 0) (q1 := ((46, [some (.inr (.inr (0, 0))), some (.inl a1), some (.inl a2)], []), q1.2)) (q2 := ((42, [some (.inr (.inr (0, 0))), some (.inl a1), some (.inl a2)], []), q1.2)) rfl (fun hc => ?_) (fun hc => ?_)
        · have h := (if_pos hc).symm.trans h
          refine Wp.run (WpD.mono _) 0 (q := ((47, [some (.inr (.inr (0, 0))), some (.inl a1), some (.inl a2)], [.inl (0 : Int32)]), q1.2)) rfl ?_
          cases h
          exact Wp.ret (WpD.mono _) rfl hQ
        · have h := (if_neg hc).symm.trans h
          refine Wp.run (WpD.mono _) 1 (q := ((47, [some (.inr (.inr (0, 0))), some (.inl a1), some (.inl a2)], [.inl (1 : Int32)]), q1.2)) rfl ?_
          cases h
          exact Wp.ret (WpD.mono _) rfl hQ
      · have h := (if_neg hc).symm.trans h
        refine Wp.run (WpD.mono _) 2 (q := ((52, [some (.inr (.inr (0, 0))), some (.inl a1), some (.inl a2)], [.inl (6 : Int32), .inl (2 : Int32), .inl a2]), q1.2)) rfl ?_
        obtain ⟨q2, hb, h⟩ := bind_some h
        refine Wp.call (WpD.mono _) rfl (T_X11_within (e + 1) N a2 (2 : Int32) (6 : Int32) q1.2 _ _ _ hb ?_)
        show Wp (WpD (e + 2)) hcX11_told Q (55, [some (.inr (.inr (0, 0))), some (.inl a1), some (.inl a2)], [.inl q2.1]) q2.2
        refine Wp.br (WpD.mono _) 0 (c := q2.1 = 0) (q1 := ((70, [some (.inr (.inr (0, 0))), some (.inl a1), some (.inl a2)], []), q2.2)) (q2 := ((58, [some (.inr (.inr (0, 0))), some (.inl a1), some (.inl a2)], []), q2.2)) rfl (fun hc => ?_) (fun hc => ?_)
        · have h := (if_pos hc).symm.trans h
          refine Wp.run (WpD.mono _) 2 (q := ((75, [some (.inr (.inr (0, 0))), some (.inl a1), some (.inl a2)], [.inl (11 : Int32), .inl (7 : Int32), .inl a2]), q2.2)) rfl ?_
          obtain ⟨q3, hb, h⟩ := bind_some h
          refine Wp.call (WpD.mono _) rfl (T_X11_within (e + 1) N a2 (7 : Int32) (11 : Int32) q2.2 _ _ _ hb ?_)
          show Wp (WpD (e + 2)) hcX11_told Q (78, [some (.inr (.inr (0, 0))), some (.inl a1), some (.inl a2)], [.inl q3.1]) q3.2
          refine Wp.br (WpD.mono _) 0 (c := q3.1 = 0) (q1 := ((111, [some (.inr (.inr (0, 0))), some (.inl a1), some (.inl a2)], []), q3.2)) (q2 := ((81, [some (.inr (.inr (0, 0))), some (.inl a1), some (.inl a2)], []), q3.2)) rfl (fun hc => ?_) (fun hc => ?_)
          · have h := (if_pos hc).symm.trans h
            refine Wp.run (WpD.mono _) 0 (q := ((113, [some (.inr (.inr (0, 0))), some (.inl a1), some (.inl a2)], [.inl (-7 : Int32)]), q3.2)) rfl ?_
            cases h
            exact Wp.ret (WpD.mono _) rfl hQ
          · have h := (if_neg hc).symm.trans h
            refine Wp.run (WpD.mono _) 3 (q := ((86, [some (.inr (.inr (0, 0))), some (.inl a1), some (.inl a2)], [.inl (a2 - (7 : Int32)), .inr (.inr (0, 0))]), q3.2)) rfl ?_
            obtain ⟨q4, hb, h⟩ := bind_some h
            refine Wp.call (WpD.mono _) rfl (T_X11_isLayer (e + 0) N (a2 - (7 : Int32)) q3.2 _ _ _ hb ?_)
            show Wp (WpD (e + 2)) hcX11_told Q (89, [some (.inr (.inr (0, 0))), some (.inl a1), some (.inl a2)], [.inl q4.1]) q4.2
            refine Wp.br (WpD.mono _) 0 (c := q4.1 = 0) (q1 := ((109, [some (.inr (.inr (0, 0))), some (.inl a1), some (.inl a2)], []), q4.2)) (q2 := ((92, [some (.inr (.inr (0, 0))), some (.inl a1), some (.inl a2)], []), q4.2)) rfl (fun hc => ?_) (fun hc => ?_)
            · have h := (if_pos hc).symm.trans h
              refine Wp.run (WpD.mono _) 0 (q := ((110, [some (.inr (.inr (0, 0))), some (.inl a1), some (.inl a2)], [.inl (0 : Int32)]), q4.2)) rfl ?_
              cases h
              exact Wp.ret (WpD.mono _) rfl hQ
            · have h := (if_neg hc).symm.trans h
              obtain ⟨hc, h⟩ := ite_nn h
              refine Wp.no (WpD.mono _) 4 (c := hwOut a1 4) (q := ((101, [some (.inr (.inr (0, 0))), some (.inl a1), some (.inl a2)], [.inr (.inr (55, (a1).toNatClampNeg))]), q4.2)) rfl hc ?_
              obtain ⟨hc, h⟩ := ite_nn h
              refine Wp.no (WpD.mono _) 3 (c := hwOut (a2 - (7 : Int32)) 5) (q := ((106, [some (.inr (.inr (0, 0))), some (.inl a1), some (.inl a2)], [.inl (q4.2.2.2.1 55 (a1).toNatClampNeg ((a2 - (7 : Int32))).toNatClampNeg)]), q4.2)) rfl hc ?_
              refine Wp.run (WpD.mono _) 0 (q := ((110, [some (.inr (.inr (0, 0))), some (.inl a1), some (.inl a2)], [.inl (q4.2.2.2.1 55 (a1).toNatClampNeg ((a2 - (7 : Int32))).toNatClampNeg)]), q4.2)) rfl ?_
              cases h
              exact Wp.ret (WpD.mono _) rfl hQ
        · have h := (if_neg hc).symm.trans h
          refine Wp.run (WpD.mono _) 5 (q := ((66, [some (.inr (.inr (0, 0))), some (.inl a1), some (.inl a2)], [.inl (a2 - (1 : Int32)), .inl a1, .inr (.inr (4, 0))]), q2.2)) rfl ?_
          obtain ⟨q5, hb, h⟩ := bind_some h
          refine Wp.call (WpD.mono _) rfl (T_X7_signOf (e + 1) N a1 (a2 - (1 : Int32)) q2.2 _ _ _ hb ?_)
          show Wp (WpD (e + 2)) hcX11_told Q (69, [some (.inr (.inr (0, 0))), some (.inl a1), some (.inl a2)], [.inl q5.1]) q5.2
          cases h
          exact Wp.ret (WpD.mono _) rfl hQ

set_option maxRecDepth 100000 in
set_option maxHeartbeats 4000000 in
theorem T_X3_restore_b29 (e N : Nat)  (k19 : Int32 → Mem → Option (Unit × Mem)) (r : Unit) (τ : Mem) (Q : Pst) (hQ : Q (none) τ) (hk19 : ∀ (x1 : Int32) (σ : Mem), k19 x1 σ = some (r, τ) → Wp (WpD (e + 1)) hcX3_restore Q (19, [some (.inr (.inr (11, 0))), some (.inl x1), none], []) σ) : ∀ n, ∀ (x1 : Int32) (x2 : Int32) (σ : Mem), F_X3_restore_b29 N k19 n x1 x2 σ = some (r, τ) → Wp (WpD (e + 1)) hcX3_restore Q (29, [some (.inr (.inr (11, 0))), some (.inl x1), some (.inl x2)], []) σ := by
  intro n
  induction n with
  | zero => intro x1 x2 σ h; cases h
  | succ n ih =>
    intro x1 x2 σ h
    unfold F_X3_restore_b29 at h
    refine Wp.br (WpD.mono _) 3 (c := (σ.1 11 8) ≤ x2) (q1 := ((61, [some (.inr (.inr (11, 0))), some (.inl x1), some (.inl x2)], []), σ)) (q2 := ((37, [some (.inr (.inr (11, 0))), some (.inl x1), some (.inl x2)], []), σ)) rfl (fun hc => ?_) (fun hc => ?_)
    · have h := (if_pos hc).symm.trans h
      refine Wp.run (WpD.mono _) 1 (q := ((19, [some (.inr (.inr (11, 0))), some (.inl (x1 + (1 : Int32))), some (.inl x2)], []), σ)) rfl ?_
      exact Wp.jump (WpD.mono _) rfl (hk19 (x1 + (1 : Int32)) σ h)
    · have h := (if_neg hc).symm.trans h
      obtain ⟨hc, h⟩ := ite_nn h
      refine Wp.no (WpD.mono _) 7 (c := hwOut x1 5) (q := ((49, [some (.inr (.inr (11, 0))), some (.inl x1), some (.inl x2)], [.inr (.inr (31, (x1).toNatClampNeg)), .inl x2, .inl x1, .inr (.inr (1, 0))]), σ)) rfl hc ?_
      obtain ⟨hc, h⟩ := ite_nn h
      refine Wp.no (WpD.mono _) 1 (c := hwOut x2 5) (q := ((51, [some (.inr (.inr (11, 0))), some (.inl x1), some (.inl x2)], [.inl (σ.2.2.1 31 (x1).toNatClampNeg (x2).toNatClampNeg), .inl x2, .inl x1, .inr (.inr (1, 0))]), σ)) rfl hc ?_
      obtain ⟨q1, hb, h⟩ := bind_some h
      refine Wp.call (WpD.mono _) rfl (T_X2_reweigh (e + 0) N x1 x2 (σ.2.2.1 31 (x1).toNatClampNeg (x2).toNatClampNeg) σ _ _ _ hb ?_)
      show Wp (WpD (e + 1)) hcX3_restore Q (54, [some (.inr (.inr (11, 0))), some (.inl x1), some (.inl x2)], [.inl q1.1]) q1.2
      refine Wp.run (WpD.mono _) 2 (q := ((29, [some (.inr (.inr (11, 0))), some (.inl x1), some (.inl (x2 + (1 : Int32)))], []), q1.2)) rfl ?_
      exact Wp.jump (WpD.mono _) rfl (ih x1 (x2 + (1 : Int32)) q1.2 h)

set_option maxRecDepth 100000 in
set_option maxHeartbeats 4000000 in
theorem T_X3_restore_b69 (e N : Nat)   (r : Unit) (τ : Mem) (Q : Pst) (hQ : Q (none) τ) : ∀ n, ∀ (x1 : Int32) (σ : Mem), F_X3_restore_b69 N n x1 σ = some (r, τ) → Wp (WpD (e + 1)) hcX3_restore Q (69, [some (.inr (.inr (11, 0))), some (.inl x1), none], []) σ := by
  intro n
  induction n with
  | zero => intro x1 σ h; cases h
  | succ n ih =>
    intro x1 σ h
    unfold F_X3_restore_b69 at h
    refine Wp.br (WpD.mono _) 3 (c := (σ.1 11 9) ≤ x1) (q1 := ((158, [some (.inr (.inr (11, 0))), some (.inl x1), none], []), σ)) (q2 := ((77, [some (.inr (.inr (11, 0))), some (.inl x1), none], []), σ)) rfl (fun hc => ?_) (fun hc => ?_)
    · have h := (if_pos hc).symm.trans h
      cases h
      exact Wp.ret (WpD.mono _) rfl hQ
    · have h := (if_neg hc).symm.trans h
      obtain ⟨hc, h⟩ := ite_nn h
      refine Wp.no (WpD.mono _) 3 (c := hwOut x1 4) (q := ((83, [some (.inr (.inr (11, 0))), some (.inl x1), none], [.inr (.inr (33, (x1).toNatClampNeg))]), σ)) rfl hc ?_
      obtain ⟨hc, h⟩ := ite_nn h
      refine Wp.no (WpD.mono _) 5 (c := hwOut x1 4) (q := ((93, [some (.inr (.inr (11, 0))), some (.inl x1), none], [.inr (.inr (57, (x1).toNatClampNeg)), .inl (0 : Int32), .inr (.inr (33, (x1).toNatClampNeg))]), σ)) rfl hc ?_
      obtain ⟨hc, h⟩ := ite_nn h
      refine Wp.no (WpD.mono _) 6 (c := hwOut x1 4) (q := ((104, [some (.inr (.inr (11, 0))), some (.inl x1), none], [.inr (.inr (37, (x1).toNatClampNeg))]), (σ.1, σ.2.1, (hwR3 σ.2.2.1 57 (x1).toNatClampNeg (va_cpy (σ.2.2.1 33 (x1).toNatClampNeg) (σ.2.2.1 57 (x1).toNatClampNeg) 0 0 5)), σ.2.2.2.1, σ.2.2.2.2))) rfl hc ?_
      obtain ⟨hc, h⟩ := ite_nn h
      refine Wp.no (WpD.mono _) 5 (c := hwOut x1 4) (q := ((114, [some (.inr (.inr (11, 0))), some (.inl x1), none], [.inr (.inr (61, (x1).toNatClampNeg)), .inl (0 : Int32), .inr (.inr (37, (x1).toNatClampNeg))]), (σ.1, σ.2.1, (hwR3 σ.2.2.1 57 (x1).toNatClampNeg (va_cpy (σ.2.2.1 33 (x1).toNatClampNeg) (σ.2.2.1 57 (x1).toNatClampNeg) 0 0 5)), σ.2.2.2.1, σ.2.2.2.2))) rfl hc ?_
      obtain ⟨hc, h⟩ := ite_nn h
      refine Wp.no (WpD.mono _) 3 (c := (0 : Int32) < 0 ∨ (0 : Int32) < 0 ∨ (σ.1 11 9) < 0 ∨ 4 < 0 + ((σ.1 11 9)).toNatClampNeg ∨ 4 < 0 + ((σ.1 11 9)).toNatClampNeg) (q := ((122, [some (.inr (.inr (11, 0))), some (.inl x1), none], []), (σ.1, σ.2.1, (hwR3 (hwR3 σ.2.2.1 57 (x1).toNatClampNeg (va_cpy (σ.2.2.1 33 (x1).toNatClampNeg) (σ.2.2.1 57 (x1).toNatClampNeg) 0 0 5)) 61 (x1).toNatClampNeg (va_cpy ((hwR3 σ.2.2.1 57 (x1).toNatClampNeg (va_cpy (σ.2.2.1 33 (x1).toNatClampNeg) (σ.2.2.1 57 (x1).toNatClampNeg) 0 0 5)) 37 (x1).toNatClampNeg) ((hwR3 σ.2.2.1 57 (x1).toNatClampNeg (va_cpy (σ.2.2.1 33 (x1).toNatClampNeg) (σ.2.2.1 57 (x1).toNatClampNeg) 0 0 5)) 61 (x1).toNatClampNeg) 0 0 ((σ.1 11 9)).toNatClampNeg)), σ.2.2.2.1, σ.2.2.2.2))) rfl hc ?_
      obtain ⟨hc, h⟩ := ite_nn h
      refine Wp.no (WpD.mono _) 7 (c := hwOut x1 4) (q := ((136, [some (.inr (.inr (11, 0))), some (.inl x1), none], [.inl (σ.2.2.1 34 0 (x1).toNatClampNeg), .inl x1, .inr (.inr (58, 0))]), (σ.1, σ.2.1, (hwR3 (hwR3 σ.2.2.1 57 (x1).toNatClampNeg (va_cpy (σ.2.2.1 33 (x1).toNatClampNeg) (σ.2.2.1 57 (x1).toNatClampNeg) 0 0 5)) 61 (x1).toNatClampNeg (va_cpy ((hwR3 σ.2.2.1 57 (x1).toNatClampNeg (va_cpy (σ.2.2.1 33 (x1).toNatClampNeg) (σ.2.2.1 57 (x1).toNatClampNeg) 0 0 5)) 37 (x1).toNatClampNeg) ((hwR3 σ.2.2.1 57 (x1).toNatClampNeg (va_cpy (σ.2.2.1 33 (x1).toNatClampNeg) (σ.2.2.1 57 (x1).toNatClampNeg) 0 0 5)) 61 (x1).toNatClampNeg) 0 0 ((σ.1 11 9)).toNatClampNeg)), σ.2.2.2.1, σ.2.2.2.2))) rfl hc ?_
      obtain ⟨hc, h⟩ := ite_nn h
      refine Wp.no (WpD.mono _) 0 (c := hwOut x1 4) (q := ((137, [some (.inr (.inr (11, 0))), some (.inl x1), none], []), (σ.1, σ.2.1, (hwU3 (hwR3 (hwR3 σ.2.2.1 57 (x1).toNatClampNeg (va_cpy (σ.2.2.1 33 (x1).toNatClampNeg) (σ.2.2.1 57 (x1).toNatClampNeg) 0 0 5)) 61 (x1).toNatClampNeg (va_cpy ((hwR3 σ.2.2.1 57 (x1).toNatClampNeg (va_cpy (σ.2.2.1 33 (x1).toNatClampNeg) (σ.2.2.1 57 (x1).toNatClampNeg) 0 0 5)) 37 (x1).toNatClampNeg) ((hwR3 σ.2.2.1 57 (x1).toNatClampNeg (va_cpy (σ.2.2.1 33 (x1).toNatClampNeg) (σ.2.2.1 57 (x1).toNatClampNeg) 0 0 5)) 61 (x1).toNatClampNeg) 0 0 ((σ.1 11 9)).toNatClampNeg)) 58 0 (x1).toNatClampNeg (σ.2.2.1 34 0 (x1).toNatClampNeg)), σ.2.2.2.1, σ.2.2.2.2))) rfl hc ?_
      obtain ⟨hc, h⟩ := ite_nn h
      refine Wp.no (WpD.mono _) 7 (c := hwOut x1 4) (q := ((151, [some (.inr (.inr (11, 0))), some (.inl x1), none], [.inl (σ.2.2.1 35 0 (x1).toNatClampNeg), .inl x1, .inr (.inr (59, 0))]), (σ.1, σ.2.1, (hwU3 (hwR3 (hwR3 σ.2.2.1 57 (x1).toNatClampNeg (va_cpy (σ.2.2.1 33 (x1).toNatClampNeg) (σ.2.2.1 57 (x1).toNatClampNeg) 0 0 5)) 61 (x1).toNatClampNeg (va_cpy ((hwR3 σ.2.2.1 57 (x1).toNatClampNeg (va_cpy (σ.2.2.1 33 (x1).toNatClampNeg) (σ.2.2.1 57 (x1).toNatClampNeg) 0 0 5)) 37 (x1).toNatClampNeg) ((hwR3 σ.2.2.1 57 (x1).toNatClampNeg (va_cpy (σ.2.2.1 33 (x1).toNatClampNeg) (σ.2.2.1 57 (x1).toNatClampNeg) 0 0 5)) 61 (x1).toNatClampNeg) 0 0 ((σ.1 11 9)).toNatClampNeg)) 58 0 (x1).toNatClampNeg (σ.2.2.1 34 0 (x1).toNatClampNeg)), σ.2.2.2.1, σ.2.2.2.2))) rfl hc ?_
      obtain ⟨hc, h⟩ := ite_nn h
      refine Wp.no (WpD.mono _) 0 (c := hwOut x1 4) (q := ((152, [some (.inr (.inr (11, 0))), some (.inl x1), none], []), (σ.1, σ.2.1, (hwU3 (hwU3 (hwR3 (hwR3 σ.2.2.1 57 (x1).toNatClampNeg (va_cpy (σ.2.2.1 33 (x1).toNatClampNeg) (σ.2.2.1 57 (x1).toNatClampNeg) 0 0 5)) 61 (x1).toNatClampNeg (va_cpy ((hwR3 σ.2.2.1 57 (x1).toNatClampNeg (va_cpy (σ.2.2.1 33 (x1).toNatClampNeg) (σ.2.2.1 57 (x1).toNatClampNeg) 0 0 5)) 37 (x1).toNatClampNeg) ((hwR3 σ.2.2.1 57 (x1).toNatClampNeg (va_cpy (σ.2.2.1 33 (x1).toNatClampNeg) (σ.2.2.1 57 (x1).toNatClampNeg) 0 0 5)) 61 (x1).toNatClampNeg) 0 0 ((σ.1 11 9)).toNatClampNeg)) 58 0 (x1).toNatClampNeg (σ.2.2.1 34 0 (x1).toNatClampNeg)) 59 0 (x1).toNatClampNeg (vp_nar .boolean (σ.2.2.1 35 0 (x1).toNatClampNeg))), σ.2.2.2.1, σ.2.2.2.2))) rfl hc ?_
      refine Wp.run (WpD.mono _) 1 (q := ((69, [some (.inr (.inr (11, 0))), some (.inl (x1 + (1 : Int32))), none], []), (σ.1, σ.2.1, (hwU3 (hwU3 (hwR3 (hwR3 σ.2.2.1 57 (x1).toNatClampNeg (va_cpy (σ.2.2.1 33 (x1).toNatClampNeg) (σ.2.2.1 57 (x1).toNatClampNeg) 0 0 5)) 61 (x1).toNatClampNeg (va_cpy ((hwR3 σ.2.2.1 57 (x1).toNatClampNeg (va_cpy (σ.2.2.1 33 (x1).toNatClampNeg) (σ.2.2.1 57 (x1).toNatClampNeg) 0 0 5)) 37 (x1).toNatClampNeg) ((hwR3 σ.2.2.1 57 (x1).toNatClampNeg (va_cpy (σ.2.2.1 33 (x1).toNatClampNeg) (σ.2.2.1 57 (x1).toNatClampNeg) 0 0 5)) 61 (x1).toNatClampNeg) 0 0 ((σ.1 11 9)).toNatClampNeg)) 58 0 (x1).toNatClampNeg (σ.2.2.1 34 0 (x1).toNatClampNeg)) 59 0 (x1).toNatClampNeg (vp_nar .boolean (σ.2.2.1 35 0 (x1).toNatClampNeg))), σ.2.2.2.1, σ.2.2.2.2))) rfl ?_
      exact Wp.jump (WpD.mono _) rfl (ih (x1 + (1 : Int32)) (σ.1, σ.2.1, (hwU3 (hwU3 (hwR3 (hwR3 σ.2.2.1 57 (x1).toNatClampNeg (va_cpy (σ.2.2.1 33 (x1).toNatClampNeg) (σ.2.2.1 57 (x1).toNatClampNeg) 0 0 5)) 61 (x1).toNatClampNeg (va_cpy ((hwR3 σ.2.2.1 57 (x1).toNatClampNeg (va_cpy (σ.2.2.1 33 (x1).toNatClampNeg) (σ.2.2.1 57 (x1).toNatClampNeg) 0 0 5)) 37 (x1).toNatClampNeg) ((hwR3 σ.2.2.1 57 (x1).toNatClampNeg (va_cpy (σ.2.2.1 33 (x1).toNatClampNeg) (σ.2.2.1 57 (x1).toNatClampNeg) 0 0 5)) 61 (x1).toNatClampNeg) 0 0 ((σ.1 11 9)).toNatClampNeg)) 58 0 (x1).toNatClampNeg (σ.2.2.1 34 0 (x1).toNatClampNeg)) 59 0 (x1).toNatClampNeg (vp_nar .boolean (σ.2.2.1 35 0 (x1).toNatClampNeg))), σ.2.2.2.1, σ.2.2.2.2) h)

set_option maxRecDepth 100000 in
set_option maxHeartbeats 4000000 in
theorem T_X3_restore_b19 (e N : Nat)   (r : Unit) (τ : Mem) (Q : Pst) (hQ : Q (none) τ) : ∀ n, ∀ (x1 : Int32) (σ : Mem), F_X3_restore_b19 N n x1 σ = some (r, τ) → Wp (WpD (e + 1)) hcX3_restore Q (19, [some (.inr (.inr (11, 0))), some (.inl x1), none], []) σ := by
  intro n
  induction n with
  | zero => intro x1 σ h; cases h
  | succ n ih =>
    intro x1 σ h
    unfold F_X3_restore_b19 at h
    refine Wp.br (WpD.mono _) 3 (c := (σ.1 11 8) ≤ x1) (q1 := ((67, [some (.inr (.inr (11, 0))), some (.inl x1), none], []), σ)) (q2 := ((27, [some (.inr (.inr (11, 0))), some (.inl x1), none], []), σ)) rfl (fun hc => ?_) (fun hc => ?_)
    · have h := (if_pos hc).symm.trans h
      refine Wp.run (WpD.mono _) 1 (q := ((69, [some (.inr (.inr (11, 0))), some (.inl (0 : Int32)), none], []), σ)) rfl ?_
      exact Wp.jump (WpD.mono _) rfl ((T_X3_restore_b69 e N  r τ Q hQ  N) (0 : Int32) σ h)
    · have h := (if_neg hc).symm.trans h
      refine Wp.run (WpD.mono _) 1 (q := ((29, [some (.inr (.inr (11, 0))), some (.inl x1), some (.inl (0 : Int32))], []), σ)) rfl ?_
      exact Wp.jump (WpD.mono _) rfl ((T_X3_restore_b29 e N (F_X3_restore_b19 N n) r τ Q hQ ih N) x1 (0 : Int32) σ h)

set_option maxRecDepth 100000 in
set_option maxHeartbeats 4000000 in
theorem T_X3_restore (e N : Nat)   (σ : Mem) (r : Unit) (τ : Mem) (Q : Pst) (h : F_X3_restore N  σ = some (r, τ)) (hQ : Q (none) τ) : WpD (e + 2) mX3_restore [.inr (.inr (11, 0))] σ Q := by
  refine WpD.of (d := e + 1) (Nat.le_of_ble_eq_true rfl) (Nat.le_of_ble_eq_true rfl) ?_
  show Wp (WpD (e + 1)) hcX3_restore Q (0, [some (.inr (.inr (11, 0))), none, none], []) σ
  unfold F_X3_restore at h
  refine Wp.run (WpD.mono _) 10 (q := ((19, [some (.inr (.inr (11, 0))), some (.inl (0 : Int32)), none], []), (σ.1, σ.2.1, (hwR3 σ.2.2.1 28 0 (va_cpy (σ.2.2.1 29 0) (σ.2.2.1 28 0) 0 0 5)), σ.2.2.2.1, σ.2.2.2.2))) rfl ?_
  exact Wp.jump (WpD.mono _) rfl ((T_X3_restore_b19 e N  r τ Q hQ  N) (0 : Int32) (σ.1, σ.2.1, (hwR3 σ.2.2.1 28 0 (va_cpy (σ.2.2.1 29 0) (σ.2.2.1 28 0) 0 0 5)), σ.2.2.2.1, σ.2.2.2.2) h)

set_option maxRecDepth 100000 in
set_option maxHeartbeats 4000000 in
theorem T_X11_undo (e N : Nat)   (σ : Mem) (r : Int32) (τ : Mem) (Q : Pst) (h : F_X11_undo N  σ = some (r, τ)) (hQ : Q (some (.inl r)) τ) : WpD (e + 7) mX11_undo [.inr (.inr (0, 0))] σ Q := by
  refine WpD.of (d := e + 6) (Nat.le_of_ble_eq_true rfl) (Nat.le_of_ble_eq_true rfl) ?_
  show Wp (WpD (e + 6)) hcX11_undo Q (0, [some (.inr (.inr (0, 0)))], []) σ
  unfold F_X11_undo at h
  refine Wp.br (WpD.mono _) 3 (c := (σ.1 11 11) = 0) (q1 := ((10, [some (.inr (.inr (0, 0)))], []), σ)) (q2 := ((13, [some (.inr (.inr (0, 0)))], []), σ)) rfl (fun hc => ?_) (fun hc => ?_)
  · have h := (if_pos hc).symm.trans h
    refine Wp.run (WpD.mono _) 0 (q := ((12, [some (.inr (.inr (0, 0)))], [.inl (-3 : Int32)]), σ)) rfl ?_
    cases h
    exact Wp.ret (WpD.mono _) rfl hQ
  · have h := (if_neg hc).symm.trans h
    refine Wp.run (WpD.mono _) 1 (q := ((17, [some (.inr (.inr (0, 0)))], [.inr (.inr (11, 0))]), σ)) rfl ?_
    obtain ⟨q1, hb, h⟩ := bind_some h
    refine Wp.call (WpD.mono _) rfl (T_X3_restore (e + 4) N σ _ _ _ hb ?_)
    show Wp (WpD (e + 6)) hcX11_undo Q (20, [some (.inr (.inr (0, 0)))], []) q1.2
    refine Wp.run (WpD.mono _) 7 (q := ((38, [some (.inr (.inr (0, 0)))], [.inr (.inr (2, 0))]), ((hwU2 q1.2.1 2 10 (q1.2.1 11 10)), q1.2.2.1, q1.2.2.2.1, q1.2.2.2.2.1, q1.2.2.2.2.2))) rfl ?_
    obtain ⟨q2, hb, h⟩ := bind_some h
    refine Wp.call (WpD.mono _) rfl (T_X4_weigh (e + 0) N ((hwU2 q1.2.1 2 10 (q1.2.1 11 10)), q1.2.2.1, q1.2.2.2.1, q1.2.2.2.2.1, q1.2.2.2.2.2) _ _ _ hb ?_)
    show Wp (WpD (e + 6)) hcX11_undo Q (41, [some (.inr (.inr (0, 0)))], []) q2.2
    refine Wp.run (WpD.mono _) 2 (q := ((48, [some (.inr (.inr (0, 0)))], [.inl (q2.2.1 4 5)]), q2.2)) rfl ?_
    cases h
    exact Wp.ret (WpD.mono _) rfl hQ

set_option maxRecDepth 100000 in
set_option maxHeartbeats 4000000 in
theorem T_X12_allBelow_b4 (e N : Nat)   (r : Int32) (τ : Mem) (Q : Pst) (hQ : Q (some (.inl r)) τ) : ∀ n, ∀ (x1 : Int32) (x2 : Int32) (x3 : Int32) (σ : Mem), F_X12_allBelow_b4 N n x1 x2 x3 σ = some (r, τ) → Wp (WpD (e + 0)) hcX12_allBelow Q (4, [some (.inr (.inr (12, 0))), some (.inl x1), some (.inl x2), some (.inl x3)], []) σ := by
  intro n
  induction n with
  | zero => intro x1 x2 x3 σ h; cases h
  | succ n ih =>
    intro x1 x2 x3 σ h
    unfold F_X12_allBelow_b4 at h
    refine Wp.br (WpD.mono _) 3 (c := (σ.1 12 5) ≤ x3) (q1 := ((31, [some (.inr (.inr (12, 0))), some (.inl x1), some (.inl x2), some (.inl x3)], []), σ)) (q2 := ((12, [some (.inr (.inr (12, 0))), some (.inl x1), some (.inl x2), some (.inl x3)], []), σ)) rfl (fun hc => ?_) (fun hc => ?_)
    · have h := (if_pos hc).symm.trans h
      refine Wp.run (WpD.mono _) 0 (q := ((32, [some (.inr (.inr (12, 0))), some (.inl x1), some (.inl x2), some (.inl x3)], [.inl x2]), σ)) rfl ?_
      cases h
      exact Wp.ret (WpD.mono _) rfl hQ
    · have h := (if_neg hc).symm.trans h
      obtain ⟨hc, h⟩ := ite_nn h
      refine Wp.no (WpD.mono _) 8 (c := hwOut (((5 : Int32) * x1) + x3) 25) (q := ((23, [some (.inr (.inr (12, 0))), some (.inl x1), some (.inl x2), some (.inl x3)], [.inl (σ.2.2.1 75 0 ((((5 : Int32) * x1) + x3)).toNatClampNeg), .inl x2]), σ)) rfl hc ?_
      refine Wp.run (WpD.mono _) 3 (q := ((4, [some (.inr (.inr (12, 0))), some (.inl x1), some (.inl (x2 + (σ.2.2.1 75 0 ((((5 : Int32) * x1) + x3)).toNatClampNeg))), some (.inl (x3 + (1 : Int32)))], []), σ)) rfl ?_
      exact Wp.jump (WpD.mono _) rfl (ih x1 (x2 + (σ.2.2.1 75 0 ((((5 : Int32) * x1) + x3)).toNatClampNeg)) (x3 + (1 : Int32)) σ h)

set_option maxRecDepth 100000 in
set_option maxHeartbeats 4000000 in
theorem T_X12_allBelow (e N : Nat)  (a1 : Int32) (σ : Mem) (r : Int32) (τ : Mem) (Q : Pst) (h : F_X12_allBelow N a1 σ = some (r, τ)) (hQ : Q (some (.inl r)) τ) : WpD (e + 1) mX12_allBelow [.inr (.inr (12, 0)), .inl a1] σ Q := by
  refine WpD.of (d := e + 0) (Nat.le_of_ble_eq_true rfl) (Nat.le_of_ble_eq_true rfl) ?_
  show Wp (WpD (e + 0)) hcX12_allBelow Q (0, [some (.inr (.inr (12, 0))), some (.inl a1), none, none], []) σ
  unfold F_X12_allBelow at h
  refine Wp.run (WpD.mono _) 3 (q := ((4, [some (.inr (.inr (12, 0))), some (.inl a1), some (.inl (0 : Int32)), some (.inl (0 : Int32))], []), σ)) rfl ?_
  exact Wp.jump (WpD.mono _) rfl ((T_X12_allBelow_b4 e N  r τ Q hQ  N) a1 (0 : Int32) (0 : Int32) σ h)

set_option maxRecDepth 100000 in
set_option maxHeartbeats 4000000 in
theorem T_X12_names (e N : Nat)  (a1 : Int32) (a2 : Int32) (σ : Mem) (r : Unit) (τ : Mem) (Q : Pst) (h : F_X12_names N a1 a2 σ = some (r, τ)) (hQ : Q (none) τ) : WpD (e + 1) mX12_names [.inr (.inr (12, 0)), .inl a1, .inl a2] σ Q := by
  refine WpD.of (d := e + 0) (Nat.le_of_ble_eq_true rfl) (Nat.le_of_ble_eq_true rfl) ?_
  show Wp (WpD (e + 0)) hcX12_names Q (0, [some (.inr (.inr (12, 0))), some (.inl a1), some (.inl a2)], []) σ
  unfold F_X12_names at h
  refine Wp.run (WpD.mono _) 30 (q := ((45, [some (.inr (.inr (12, 0))), some (.inl a1), some (.inl a2)], []), (σ.1, σ.2.1, (hwU3 (hwU3 (hwU3 (hwU3 (hwU3 (hwU3 σ.2.2.1 101 0 0 a1) 101 0 1 (0 : Int32)) 101 0 2 (0 : Int32)) 101 0 3 (0 : Int32)) 101 0 4 (σ.1 12 2)) 101 0 5 a2), σ.2.2.2.1, σ.2.2.2.2))) rfl ?_
  cases h
  exact Wp.ret (WpD.mono _) rfl hQ

set_option maxRecDepth 100000 in
set_option maxHeartbeats 4000000 in
theorem T_X12_two (e N : Nat)  (a1 : Int32) (a2 : Int32) (a3 : Int32) (σ : Mem) (r : Int32) (τ : Mem) (Q : Pst) (h : F_X12_two N a1 a2 a3 σ = some (r, τ)) (hQ : Q (some (.inl r)) τ) : WpD (e + 1) mX12_two [.inl a1, .inl a2, .inl a3] σ Q := by
  refine WpD.of (d := e + 0) (Nat.le_of_ble_eq_true rfl) (Nat.le_of_ble_eq_true rfl) ?_
  show Wp (WpD (e + 0)) hcX12_two Q (0, [some (.inl a1), some (.inl a2), some (.inl a3)], []) σ
  unfold F_X12_two at h
  refine Wp.run (WpD.mono _) 0 (q := ((1, [some (.inl a1), some (.inl a2), some (.inl a3)], [.inl a1]), σ)) rfl ?_
  by_cases hs0 : a1 = 11
  · have h := (if_pos hs0).symm.trans h
    refine Wp.swIn (WpD.mono _) (q := ((44, [some (.inl a1), some (.inl a2), some (.inl a3)], []), σ)) hs0 rfl ?_
    refine Wp.br (WpD.mono _) 1 (c := a2 = 0) (q1 := ((48, [some (.inl a1), some (.inl a2), some (.inl a3)], []), σ)) (q2 := ((52, [some (.inl a1), some (.inl a2), some (.inl a3)], []), σ)) rfl (fun hc => ?_) (fun hc => ?_)
    · have h := (if_pos hc).symm.trans h
      refine Wp.br (WpD.mono _) 1 (c := a3 = 0) (q1 := ((56, [some (.inl a1), some (.inl a2), some (.inl a3)], []), σ)) (q2 := ((52, [some (.inl a1), some (.inl a2), some (.inl a3)], []), σ)) rfl (fun hc => ?_) (fun hc => ?_)
      · have h := (if_pos hc).symm.trans h
        refine Wp.run (WpD.mono _) 0 (q := ((57, [some (.inl a1), some (.inl a2), some (.inl a3)], [.inl (0 : Int32)]), σ)) rfl ?_
        cases h
        exact Wp.ret (WpD.mono _) rfl hQ
      · have h := (if_neg hc).symm.trans h
        refine Wp.run (WpD.mono _) 1 (q := ((57, [none, none, none], [.inl (1 : Int32)]), σ)) rfl ?_
        cases h
        exact Wp.ret (WpD.mono _) rfl hQ
    · have h := (if_neg hc).symm.trans h
      refine Wp.run (WpD.mono _) 1 (q := ((57, [none, none, none], [.inl (1 : Int32)]), σ)) rfl ?_
      cases h
      exact Wp.ret (WpD.mono _) rfl hQ
  have h := (if_neg hs0).symm.trans h
  by_cases hs1 : a1 = 12
  · have h := (if_pos hs1).symm.trans h
    refine Wp.swIn (WpD.mono _) (q := ((58, [some (.inl a1), some (.inl a2), some (.inl a3)], []), σ)) hs1 rfl ?_
    refine Wp.br (WpD.mono _) 1 (c := a2 = 0) (q1 := ((70, [some (.inl a1), some (.inl a2), some (.inl a3)], []), σ)) (q2 := ((62, [some (.inl a1), some (.inl a2), some (.inl a3)], []), σ)) rfl (fun hc => ?_) (fun hc => ?_)
    · have h := (if_pos hc).symm.trans h
      refine Wp.run (WpD.mono _) 0 (q := ((71, [none, none, none], [.inl (0 : Int32)]), σ)) rfl ?_
      cases h
      exact Wp.ret (WpD.mono _) rfl hQ
    · have h := (if_neg hc).symm.trans h
      refine Wp.br (WpD.mono _) 1 (c := a3 = 0) (q1 := ((70, [some (.inl a1), some (.inl a2), some (.inl a3)], []), σ)) (q2 := ((66, [some (.inl a1), some (.inl a2), some (.inl a3)], []), σ)) rfl (fun hc => ?_) (fun hc => ?_)
      · have h := (if_pos hc).symm.trans h
        refine Wp.run (WpD.mono _) 0 (q := ((71, [none, none, none], [.inl (0 : Int32)]), σ)) rfl ?_
        cases h
        exact Wp.ret (WpD.mono _) rfl hQ
      · have h := (if_neg hc).symm.trans h
        refine Wp.run (WpD.mono _) 1 (q := ((71, [some (.inl a1), some (.inl a2), some (.inl a3)], [.inl (1 : Int32)]), σ)) rfl ?_
        cases h
        exact Wp.ret (WpD.mono _) rfl hQ
  have h := (if_neg hs1).symm.trans h
  by_cases hs2 : a1 = 13
  · have h := (if_pos hs2).symm.trans h
    refine Wp.swIn (WpD.mono _) (q := ((102, [some (.inl a1), some (.inl a2), some (.inl a3)], []), σ)) hs2 rfl ?_
    refine Wp.run (WpD.mono _) 2 (q := ((105, [some (.inl a1), some (.inl a2), some (.inl a3)], [.inl (a2 * a3)]), σ)) rfl ?_
    cases h
    exact Wp.ret (WpD.mono _) rfl hQ
  have h := (if_neg hs2).symm.trans h
  by_cases hs3 : a1 = 14
  · have h := (if_pos hs3).symm.trans h
    refine Wp.swIn (WpD.mono _) (q := ((72, [some (.inl a1), some (.inl a2), some (.inl a3)], []), σ)) hs3 rfl ?_
    refine Wp.br (WpD.mono _) 2 (c := a3 ≤ a2) (q1 := ((81, [some (.inl a1), some (.inl a2), some (.inl a3)], []), σ)) (q2 := ((77, [some (.inl a1), some (.inl a2), some (.inl a3)], []), σ)) rfl (fun hc => ?_) (fun hc => ?_)
    · have h := (if_pos hc).symm.trans h
      refine Wp.run (WpD.mono _) 0 (q := ((82, [some (.inl a1), some (.inl a2), some (.inl a3)], [.inl (0 : Int32)]), σ)) rfl ?_
      cases h
      exact Wp.ret (WpD.mono _) rfl hQ
    · have h := (if_neg hc).symm.trans h
      refine Wp.run (WpD.mono _) 1 (q := ((82, [some (.inl a1), some (.inl a2), some (.inl a3)], [.inl (1 : Int32)]), σ)) rfl ?_
      cases h
      exact Wp.ret (WpD.mono _) rfl hQ
  have h := (if_neg hs3).symm.trans h
  by_cases hs4 : a1 = 15
  · have h := (if_pos hs4).symm.trans h
    refine Wp.swIn (WpD.mono _) (q := ((83, [some (.inl a1), some (.inl a2), some (.inl a3)], []), σ)) hs4 rfl ?_
    refine Wp.br (WpD.mono _) 2 (c := a2 = a3) (q1 := ((88, [some (.inl a1), some (.inl a2), some (.inl a3)], []), σ)) (q2 := ((92, [some (.inl a1), some (.inl a2), some (.inl a3)], []), σ)) rfl (fun hc => ?_) (fun hc => ?_)
    · have h := (if_pos hc).symm.trans h
      refine Wp.run (WpD.mono _) 1 (q := ((93, [some (.inl a1), some (.inl a2), some (.inl a3)], [.inl (1 : Int32)]), σ)) rfl ?_
      cases h
      exact Wp.ret (WpD.mono _) rfl hQ
    · have h := (if_neg hc).symm.trans h
      refine Wp.run (WpD.mono _) 0 (q := ((93, [some (.inl a1), some (.inl a2), some (.inl a3)], [.inl (0 : Int32)]), σ)) rfl ?_
      cases h
      exact Wp.ret (WpD.mono _) rfl hQ
  have h := (if_neg hs4).symm.trans h
  by_cases hs5 : a1 = 16
  · have h := (if_pos hs5).symm.trans h
    refine Wp.swIn (WpD.mono _) (q := ((94, [some (.inl a1), some (.inl a2), some (.inl a3)], []), σ)) hs5 rfl ?_
    refine Wp.run (WpD.mono _) 2 (q := ((97, [some (.inl a1), some (.inl a2), some (.inl a3)], [.inl (a2 + a3)]), σ)) rfl ?_
    cases h
    exact Wp.ret (WpD.mono _) rfl hQ
  have h := (if_neg hs5).symm.trans h
  by_cases hs6 : a1 = 17
  · have h := (if_pos hs6).symm.trans h
    refine Wp.swIn (WpD.mono _) (q := ((98, [some (.inl a1), some (.inl a2), some (.inl a3)], []), σ)) hs6 rfl ?_
    refine Wp.run (WpD.mono _) 2 (q := ((101, [some (.inl a1), some (.inl a2), some (.inl a3)], [.inl (a2 - a3)]), σ)) rfl ?_
    cases h
    exact Wp.ret (WpD.mono _) rfl hQ
  have h := (if_neg hs6).symm.trans h
  have ehs0 : ¬ (a1).toInt = 11 := fun z => hs0 (Int32.toInt_inj.mp z)
  have ehs1 : ¬ (a1).toInt = 12 := fun z => hs1 (Int32.toInt_inj.mp z)
  have ehs2 : ¬ (a1).toInt = 13 := fun z => hs2 (Int32.toInt_inj.mp z)
  have ehs3 : ¬ (a1).toInt = 14 := fun z => hs3 (Int32.toInt_inj.mp z)
  have ehs4 : ¬ (a1).toInt = 15 := fun z => hs4 (Int32.toInt_inj.mp z)
  have ehs5 : ¬ (a1).toInt = 16 := fun z => hs5 (Int32.toInt_inj.mp z)
  have ehs6 : ¬ (a1).toInt = 17 := fun z => hs6 (Int32.toInt_inj.mp z)
  refine Wp.swOut (WpD.mono _) (q := ((102, [some (.inl a1), some (.inl a2), some (.inl a3)], []), σ)) (o := if (a1).toInt < 11 ∨ 17 < (a1).toInt then some (101) else #[43, 57, 101, 71, 82, 93, 97][((a1).toInt - 11).toNat]?) (o' := some (101)) rfl (if_pos (by omega)) rfl ?_
  refine Wp.run (WpD.mono _) 2 (q := ((105, [some (.inl a1), some (.inl a2), some (.inl a3)], [.inl (a2 * a3)]), σ)) rfl ?_
  cases h
  exact Wp.ret (WpD.mono _) rfl hQ

set_option maxRecDepth 100000 in
set_option maxHeartbeats 4000000 in
theorem T_X12_worth_b130 (e N : Nat)  (k16 : Int32 → Int32 → Int32 → Mem → Option (Int32 × Mem)) (r : Int32) (τ : Mem) (Q : Pst) (hQ : Q (some (.inl r)) τ) (hk16 : ∀ (x1 : Int32) (x2 : Int32) (x3 : Int32) (σ : Mem), k16 x1 x2 x3 σ = some (r, τ) → Wp (WpD (e + 1)) hcX12_worth Q (16, [some (.inr (.inr (12, 0))), some (.inl x1), some (.inl x2), some (.inl x3), none], []) σ) : ∀ (x1 : Int32) (x2 : Int32) (x3 : Int32) (s0 : Int32) (s1 : Int32) (σ : Mem), F_X12_worth_b130 N k16 x1 x2 x3 s0 s1 σ = some (r, τ) → Wp (WpD (e + 1)) hcX12_worth Q (130, [some (.inr (.inr (12, 0))), some (.inl x1), some (.inl x2), some (.inl x3), none], [.inl s0, .inl s1, .inr (.inr (100, 0))]) σ := by
  intro x1 x2 x3 s0 s1 σ h
  unfold F_X12_worth_b130 at h
  obtain ⟨hc, h⟩ := ite_nn h
  refine Wp.no (WpD.mono _) 0 (c := hwOut s1 200) (q := ((131, [some (.inr (.inr (12, 0))), some (.inl x1), some (.inl x2), some (.inl x3), none], []), (σ.1, σ.2.1, (hwU3 σ.2.2.1 100 0 (s1).toNatClampNeg s0), σ.2.2.2.1, σ.2.2.2.2))) rfl hc ?_
  refine Wp.run (WpD.mono _) 2 (q := ((16, [some (.inr (.inr (12, 0))), some (.inl x1), some (.inl x2), some (.inl (x3 + (1 : Int32))), none], []), (σ.1, σ.2.1, (hwU3 σ.2.2.1 100 0 (s1).toNatClampNeg s0), σ.2.2.2.1, σ.2.2.2.2))) rfl ?_
  exact Wp.jump (WpD.mono _) rfl (hk16 x1 x2 (x3 + (1 : Int32)) (σ.1, σ.2.1, (hwU3 σ.2.2.1 100 0 (s1).toNatClampNeg s0), σ.2.2.2.1, σ.2.2.2.2) h)


set_option maxRecDepth 100000 in
set_option maxHeartbeats 4000000 in
theorem T_X0_lots (e N : Nat)   (σ : Mem) (r : Int64) (τ : Mem) (Q : Pst) (h : F_X0_lots N  σ = some (r, τ)) (hQ : Q (some (.inr (.inl r))) τ) : WpD (e + 1) mX0_lots [.inr (.inr (10, 0))] σ Q := by
  refine WpD.of (d := e + 0) (Nat.le_of_ble_eq_true rfl) (Nat.le_of_ble_eq_true rfl) ?_
  show Wp (WpD (e + 0)) hcX0_lots Q (0, [some (.inr (.inr (10, 0)))], []) σ
  unfold F_X0_lots at h
  refine Wp.run (WpD.mono _) 9 (q := ((20, [some (.inr (.inr (10, 0)))], [.inr (.inl (((σ.2.1 10 2) * (48271 : Int64)) - ((σ.2.1 10 2) * (48271 : Int64)) / (2147483647 : Int64) * (2147483647 : Int64)))]), (σ.1, (hwU2 σ.2.1 10 2 (((σ.2.1 10 2) * (48271 : Int64)) - ((σ.2.1 10 2) * (48271 : Int64)) / (2147483647 : Int64) * (2147483647 : Int64))), σ.2.2.1, σ.2.2.2.1, σ.2.2.2.2))) rfl ?_
  cases h
  exact Wp.ret (WpD.mono _) rfl hQ

set_option maxRecDepth 100000 in
set_option maxHeartbeats 4000000 in
theorem T_X0_pick_t26_b21 (e N : Nat)   (r : Int32) (τ : Mem) (Q : Pst) (hQ : Q (some (.inl r)) τ) : ∀ n, ∀ (x1 : Nat) (x3 : Int32) (x4 : Int64) (x6 : Int64) (x8 : Int32) (σ : Mem), F_X0_pick_t26_b21 N n x1 x3 x4 x6 x8 σ = some (r, τ) → Wp (WpD (e + 1)) hcX0_pick Q (21, [some (.inr (.inr (10, 0))), some (.inr (.inr (26, x1))), none, some (.inl x3), some (.inr (.inl x4)), none, some (.inr (.inl x6)), none, some (.inl x8)], []) σ := by
  intro n
  induction n with
  | zero => intro x1 x3 x4 x6 x8 σ h; cases h
  | succ n ih =>
    intro x1 x3 x4 x6 x8 σ h
    unfold F_X0_pick_t26_b21 at h
    refine Wp.br (WpD.mono _) 5 (c := (σ.1 1 6) ≤ x8) (q1 := ((70, [some (.inr (.inr (10, 0))), some (.inr (.inr (26, x1))), none, some (.inl x3), some (.inr (.inl x4)), none, some (.inr (.inl x6)), none, some (.inl x8)], []), σ)) (q2 := ((36, [some (.inr (.inr (10, 0))), some (.inr (.inr (26, x1))), none, some (.inl x3), some (.inr (.inl x4)), none, some (.inr (.inl x6)), none, some (.inl x8)], []), σ)) rfl (fun hc => ?_) (fun hc => ?_)
    · have h := (if_pos hc).symm.trans h
      refine Wp.run (WpD.mono _) 0 (q := ((71, [none, none, none, some (.inl x3), none, none, none, none, none], [.inl x3]), σ)) rfl ?_
      cases h
      exact Wp.ret (WpD.mono _) rfl hQ
    · have h := (if_neg hc).symm.trans h
      refine Wp.br (WpD.mono _) 3 (c := (5 : Int32) ≤ x8) (q1 := ((70, [some (.inr (.inr (10, 0))), some (.inr (.inr (26, x1))), none, some (.inl x3), some (.inr (.inl x4)), none, some (.inr (.inl x6)), none, some (.inl x8)], []), σ)) (q2 := ((43, [some (.inr (.inr (10, 0))), some (.inr (.inr (26, x1))), none, some (.inl x3), some (.inr (.inl x4)), none, some (.inr (.inl x6)), none, some (.inl x8)], []), σ)) rfl (fun hc => ?_) (fun hc => ?_)
      · have h := (if_pos hc).symm.trans h
        refine Wp.run (WpD.mono _) 0 (q := ((71, [none, none, none, some (.inl x3), none, none, none, none, none], [.inl x3]), σ)) rfl ?_
        cases h
        exact Wp.ret (WpD.mono _) rfl hQ
      · have h := (if_neg hc).symm.trans h
        obtain ⟨hc, h⟩ := ite_nn h
        refine Wp.no (WpD.mono _) 3 (c := hwOut x8 5) (q := ((49, [some (.inr (.inr (10, 0))), some (.inr (.inr (26, x1))), none, some (.inl x3), some (.inr (.inl x4)), none, some (.inr (.inl x6)), none, some (.inl x8)], [.inl (σ.2.2.1 26 x1 (x8).toNatClampNeg), .inr (.inl x6)]), σ)) rfl hc ?_
        refine Wp.br (WpD.mono _) 6 (c := (lg_cmp (x6 + (σ.2.2.1 26 x1 (x8).toNatClampNeg).toInt64) x4) ≤ 0) (q1 := ((64, [some (.inr (.inr (10, 0))), some (.inr (.inr (26, x1))), none, some (.inl x3), some (.inr (.inl x4)), none, some (.inr (.inl (x6 + (σ.2.2.1 26 x1 (x8).toNatClampNeg).toInt64))), none, some (.inl x8)], []), σ)) (q2 := ((61, [some (.inr (.inr (10, 0))), some (.inr (.inr (26, x1))), none, some (.inl x3), some (.inr (.inl x4)), none, some (.inr (.inl (x6 + (σ.2.2.1 26 x1 (x8).toNatClampNeg).toInt64))), none, some (.inl x8)], []), σ)) rfl (fun hc => ?_) (fun hc => ?_)
        · have h := (if_pos hc).symm.trans h
          refine Wp.run (WpD.mono _) 1 (q := ((21, [some (.inr (.inr (10, 0))), some (.inr (.inr (26, x1))), none, some (.inl x3), some (.inr (.inl x4)), none, some (.inr (.inl (x6 + (σ.2.2.1 26 x1 (x8).toNatClampNeg).toInt64))), none, some (.inl (x8 + (1 : Int32)))], []), σ)) rfl ?_
          exact Wp.jump (WpD.mono _) rfl (ih x1 x3 x4 (x6 + (σ.2.2.1 26 x1 (x8).toNatClampNeg).toInt64) (x8 + (1 : Int32)) σ h)
        · have h := (if_neg hc).symm.trans h
          refine Wp.run (WpD.mono _) 0 (q := ((63, [some (.inr (.inr (10, 0))), some (.inr (.inr (26, x1))), none, some (.inl x3), some (.inr (.inl x4)), none, some (.inr (.inl (x6 + (σ.2.2.1 26 x1 (x8).toNatClampNeg).toInt64))), none, some (.inl x8)], [.inl x8]), σ)) rfl ?_
          cases h
          exact Wp.ret (WpD.mono _) rfl hQ

set_option maxRecDepth 100000 in
set_option maxHeartbeats 4000000 in
theorem T_X0_pick_t26 (e N : Nat)  (a1 : Nat) (a2 : Int32) (a3 : Int32) (σ : Mem) (r : Int32) (τ : Mem) (Q : Pst) (h : F_X0_pick_t26 N a1 a2 a3 σ = some (r, τ)) (hQ : Q (some (.inl r)) τ) : WpD (e + 2) mX0_pick [.inr (.inr (10, 0)), .inr (.inr (26, a1)), .inl a2, .inl a3] σ Q := by
  refine WpD.of (d := e + 1) (Nat.le_of_ble_eq_true rfl) (Nat.le_of_ble_eq_true rfl) ?_
  show Wp (WpD (e + 1)) hcX0_pick Q (0, [some (.inr (.inr (10, 0))), some (.inr (.inr (26, a1))), some (.inl a2), some (.inl a3), none, none, none, none, none], []) σ
  unfold F_X0_pick_t26 at h
  refine Wp.br (WpD.mono _) 1 (c := 0 < a2) (q1 := ((6, [some (.inr (.inr (10, 0))), some (.inr (.inr (26, a1))), some (.inl a2), some (.inl a3), none, none, none, none, none], []), σ)) (q2 := ((4, [some (.inr (.inr (10, 0))), some (.inr (.inr (26, a1))), some (.inl a2), some (.inl a3), none, none, none, none, none], []), σ)) rfl (fun hc => ?_) (fun hc => ?_)
  · have h := (if_pos hc).symm.trans h
    refine Wp.run (WpD.mono _) 0 (q := ((7, [some (.inr (.inr (10, 0))), some (.inr (.inr (26, a1))), some (.inl a2), some (.inl a3), none, none, none, none, none], [.inr (.inr (10, 0))]), σ)) rfl ?_
    obtain ⟨q1, hb, h⟩ := bind_some h
    refine Wp.call (WpD.mono _) rfl (T_X0_lots (e + 0) N σ _ _ _ hb ?_)
    show Wp (WpD (e + 1)) hcX0_pick Q (10, [some (.inr (.inr (10, 0))), some (.inr (.inr (26, a1))), some (.inl a2), some (.inl a3), none, none, none, none, none], [.inr (.inl q1.1)]) q1.2
    obtain ⟨hc, h⟩ := ite_nn h
    refine Wp.no (WpD.mono _) 2 (c := a2.toInt64 = 0) (q := ((13, [some (.inr (.inr (10, 0))), some (.inr (.inr (26, a1))), some (.inl a2), some (.inl a3), none, none, none, none, none], [.inr (.inl (q1.1 - q1.1 / a2.toInt64 * a2.toInt64))]), q1.2)) rfl hc ?_
    refine Wp.run (WpD.mono _) 4 (q := ((21, [some (.inr (.inr (10, 0))), some (.inr (.inr (26, a1))), some (.inl a2), some (.inl a3), some (.inr (.inl (q1.1 - q1.1 / a2.toInt64 * a2.toInt64))), none, some (.inr (.inl (0 : Int64))), none, some (.inl (0 : Int32))], []), q1.2)) rfl ?_
    exact Wp.jump (WpD.mono _) rfl ((T_X0_pick_t26_b21 e N  r τ Q hQ  N) a1 a3 (q1.1 - q1.1 / a2.toInt64 * a2.toInt64) (0 : Int64) (0 : Int32) q1.2 h)
  · have h := (if_neg hc).symm.trans h
    refine Wp.run (WpD.mono _) 0 (q := ((5, [some (.inr (.inr (10, 0))), some (.inr (.inr (26, a1))), some (.inl a2), some (.inl a3), none, none, none, none, none], [.inl a3]), σ)) rfl ?_
    cases h
    exact Wp.ret (WpD.mono _) rfl hQ

set_option maxRecDepth 100000 in
set_option maxHeartbeats 4000000 in
theorem T_X0_pick_t55_b21 (e N : Nat)   (r : Int32) (τ : Mem) (Q : Pst) (hQ : Q (some (.inl r)) τ) : ∀ n, ∀ (x1 : Nat) (x3 : Int32) (x4 : Int64) (x6 : Int64) (x8 : Int32) (σ : Mem), F_X0_pick_t55_b21 N n x1 x3 x4 x6 x8 σ = some (r, τ) → Wp (WpD (e + 1)) hcX0_pick Q (21, [some (.inr (.inr (10, 0))), some (.inr (.inr (55, x1))), none, some (.inl x3), some (.inr (.inl x4)), none, some (.inr (.inl x6)), none, some (.inl x8)], []) σ := by
  intro n
  induction n with
  | zero => intro x1 x3 x4 x6 x8 σ h; cases h
  | succ n ih =>
    intro x1 x3 x4 x6 x8 σ h
    unfold F_X0_pick_t55_b21 at h
    refine Wp.br (WpD.mono _) 5 (c := (σ.1 1 6) ≤ x8) (q1 := ((70, [some (.inr (.inr (10, 0))), some (.inr (.inr (55, x1))), none, some (.inl x3), some (.inr (.inl x4)), none, some (.inr (.inl x6)), none, some (.inl x8)], []), σ)) (q2 := ((36, [some (.inr (.inr (10, 0))), some (.inr (.inr (55, x1))), none, some (.inl x3), some (.inr (.inl x4)), none, some (.inr (.inl x6)), none, some (.inl x8)], []), σ)) rfl (fun hc => ?_) (fun hc => ?_)
    · have h := (if_pos hc).symm.trans h
      refine Wp.run (WpD.mono _) 0 (q := ((71, [none, none, none, some (.inl x3), none, none, none, none, none], [.inl x3]), σ)) rfl ?_
      cases h
      exact Wp.ret (WpD.mono _) rfl hQ
    · have h := (if_neg hc).symm.trans h
      refine Wp.br (WpD.mono _) 3 (c := (5 : Int32) ≤ x8) (q1 := ((70, [some (.inr (.inr (10, 0))), some (.inr (.inr (55, x1))), none, some (.inl x3), some (.inr (.inl x4)), none, some (.inr (.inl x6)), none, some (.inl x8)], []), σ)) (q2 := ((43, [some (.inr (.inr (10, 0))), some (.inr (.inr (55, x1))), none, some (.inl x3), some (.inr (.inl x4)), none, some (.inr (.inl x6)), none, some (.inl x8)], []), σ)) rfl (fun hc => ?_) (fun hc => ?_)
      · have h := (if_pos hc).symm.trans h
        refine Wp.run (WpD.mono _) 0 (q := ((71, [none, none, none, some (.inl x3), none, none, none, none, none], [.inl x3]), σ)) rfl ?_
        cases h
        exact Wp.ret (WpD.mono _) rfl hQ
      · have h := (if_neg hc).symm.trans h
        obtain ⟨hc, h⟩ := ite_nn h
        refine Wp.no (WpD.mono _) 3 (c := hwOut x8 5) (q := ((49, [some (.inr (.inr (10, 0))), some (.inr (.inr (55, x1))), none, some (.inl x3), some (.inr (.inl x4)), none, some (.inr (.inl x6)), none, some (.inl x8)], [.inl (σ.2.2.1 55 x1 (x8).toNatClampNeg), .inr (.inl x6)]), σ)) rfl hc ?_
        refine Wp.br (WpD.mono _) 6 (c := (lg_cmp (x6 + (σ.2.2.1 55 x1 (x8).toNatClampNeg).toInt64) x4) ≤ 0) (q1 := ((64, [some (.inr (.inr (10, 0))), some (.inr (.inr (55, x1))), none, some (.inl x3), some (.inr (.inl x4)), none, some (.inr (.inl (x6 + (σ.2.2.1 55 x1 (x8).toNatClampNeg).toInt64))), none, some (.inl x8)], []), σ)) (q2 := ((61, [some (.inr (.inr (10, 0))), some (.inr (.inr (55, x1))), none, some (.inl x3), some (.inr (.inl x4)), none, some (.inr (.inl (x6 + (σ.2.2.1 55 x1 (x8).toNatClampNeg).toInt64))), none, some (.inl x8)], []), σ)) rfl (fun hc => ?_) (fun hc => ?_)
        · have h := (if_pos hc).symm.trans h
          refine Wp.run (WpD.mono _) 1 (q := ((21, [some (.inr (.inr (10, 0))), some (.inr (.inr (55, x1))), none, some (.inl x3), some (.inr (.inl x4)), none, some (.inr (.inl (x6 + (σ.2.2.1 55 x1 (x8).toNatClampNeg).toInt64))), none, some (.inl (x8 + (1 : Int32)))], []), σ)) rfl ?_
          exact Wp.jump (WpD.mono _) rfl (ih x1 x3 x4 (x6 + (σ.2.2.1 55 x1 (x8).toNatClampNeg).toInt64) (x8 + (1 : Int32)) σ h)
        · have h := (if_neg hc).symm.trans h
          refine Wp.run (WpD.mono _) 0 (q := ((63, [some (.inr (.inr (10, 0))), some (.inr (.inr (55, x1))), none, some (.inl x3), some (.inr (.inl x4)), none, some (.inr (.inl (x6 + (σ.2.2.1 55 x1 (x8).toNatClampNeg).toInt64))), none, some (.inl x8)], [.inl x8]), σ)) rfl ?_
          cases h
          exact Wp.ret (WpD.mono _) rfl hQ

set_option maxRecDepth 100000 in
set_option maxHeartbeats 4000000 in
theorem T_X0_pick_t55 (e N : Nat)  (a1 : Nat) (a2 : Int32) (a3 : Int32) (σ : Mem) (r : Int32) (τ : Mem) (Q : Pst) (h : F_X0_pick_t55 N a1 a2 a3 σ = some (r, τ)) (hQ : Q (some (.inl r)) τ) : WpD (e + 2) mX0_pick [.inr (.inr (10, 0)), .inr (.inr (55, a1)), .inl a2, .inl a3] σ Q := by
  refine WpD.of (d := e + 1) (Nat.le_of_ble_eq_true rfl) (Nat.le_of_ble_eq_true rfl) ?_
  show Wp (WpD (e + 1)) hcX0_pick Q (0, [some (.inr (.inr (10, 0))), some (.inr (.inr (55, a1))), some (.inl a2), some (.inl a3), none, none, none, none, none], []) σ
  unfold F_X0_pick_t55 at h
  refine Wp.br (WpD.mono _) 1 (c := 0 < a2) (q1 := ((6, [some (.inr (.inr (10, 0))), some (.inr (.inr (55, a1))), some (.inl a2), some (.inl a3), none, none, none, none, none], []), σ)) (q2 := ((4, [some (.inr (.inr (10, 0))), some (.inr (.inr (55, a1))), some (.inl a2), some (.inl a3), none, none, none, none, none], []), σ)) rfl (fun hc => ?_) (fun hc => ?_)
  · have h := (if_pos hc).symm.trans h
    refine Wp.run (WpD.mono _) 0 (q := ((7, [some (.inr (.inr (10, 0))), some (.inr (.inr (55, a1))), some (.inl a2), some (.inl a3), none, none, none, none, none], [.inr (.inr (10, 0))]), σ)) rfl ?_
    obtain ⟨q1, hb, h⟩ := bind_some h
    refine Wp.call (WpD.mono _) rfl (T_X0_lots (e + 0) N σ _ _ _ hb ?_)
    show Wp (WpD (e + 1)) hcX0_pick Q (10, [some (.inr (.inr (10, 0))), some (.inr (.inr (55, a1))), some (.inl a2), some (.inl a3), none, none, none, none, none], [.inr (.inl q1.1)]) q1.2
    obtain ⟨hc, h⟩ := ite_nn h
    refine Wp.no (WpD.mono _) 2 (c := a2.toInt64 = 0) (q := ((13, [some (.inr (.inr (10, 0))), some (.inr (.inr (55, a1))), some (.inl a2), some (.inl a3), none, none, none, none, none], [.inr (.inl (q1.1 - q1.1 / a2.toInt64 * a2.toInt64))]), q1.2)) rfl hc ?_
    refine Wp.run (WpD.mono _) 4 (q := ((21, [some (.inr (.inr (10, 0))), some (.inr (.inr (55, a1))), some (.inl a2), some (.inl a3), some (.inr (.inl (q1.1 - q1.1 / a2.toInt64 * a2.toInt64))), none, some (.inr (.inl (0 : Int64))), none, some (.inl (0 : Int32))], []), q1.2)) rfl ?_
    exact Wp.jump (WpD.mono _) rfl ((T_X0_pick_t55_b21 e N  r τ Q hQ  N) a1 a3 (q1.1 - q1.1 / a2.toInt64 * a2.toInt64) (0 : Int64) (0 : Int32) q1.2 h)
  · have h := (if_neg hc).symm.trans h
    refine Wp.run (WpD.mono _) 0 (q := ((5, [some (.inr (.inr (10, 0))), some (.inr (.inr (55, a1))), some (.inl a2), some (.inl a3), none, none, none, none, none], [.inl a3]), σ)) rfl ?_
    cases h
    exact Wp.ret (WpD.mono _) rfl hQ

set_option maxRecDepth 100000 in
set_option maxHeartbeats 4000000 in
theorem T_X7_allFirst_b4 (e N : Nat)   (r : Int32) (τ : Mem) (Q : Pst) (hQ : Q (some (.inl r)) τ) : ∀ n, ∀ (x1 : Int32) (x2 : Int32) (x3 : Int32) (σ : Mem), F_X7_allFirst_b4 N n x1 x2 x3 σ = some (r, τ) → Wp (WpD (e + 0)) hcX7_allFirst Q (4, [some (.inr (.inr (4, 0))), some (.inl x1), some (.inl x2), some (.inl x3)], []) σ := by
  intro n
  induction n with
  | zero => intro x1 x2 x3 σ h; cases h
  | succ n ih =>
    intro x1 x2 x3 σ h
    unfold F_X7_allFirst_b4 at h
    refine Wp.br (WpD.mono _) 2 (c := (5 : Int32) ≤ x3) (q1 := ((26, [some (.inr (.inr (4, 0))), some (.inl x1), some (.inl x2), some (.inl x3)], []), σ)) (q2 := ((9, [some (.inr (.inr (4, 0))), some (.inl x1), some (.inl x2), some (.inl x3)], []), σ)) rfl (fun hc => ?_) (fun hc => ?_)
    · have h := (if_pos hc).symm.trans h
      refine Wp.run (WpD.mono _) 0 (q := ((27, [some (.inr (.inr (4, 0))), some (.inl x1), some (.inl x2), some (.inl x3)], [.inl x2]), σ)) rfl ?_
      cases h
      exact Wp.ret (WpD.mono _) rfl hQ
    · have h := (if_neg hc).symm.trans h
      obtain ⟨hc, h⟩ := ite_nn h
      refine Wp.no (WpD.mono _) 4 (c := hwOut x1 4) (q := ((16, [some (.inr (.inr (4, 0))), some (.inl x1), some (.inl x2), some (.inl x3)], [.inr (.inr (55, (x1).toNatClampNeg)), .inl x2]), σ)) rfl hc ?_
      obtain ⟨hc, h⟩ := ite_nn h
      refine Wp.no (WpD.mono _) 1 (c := hwOut x3 5) (q := ((18, [some (.inr (.inr (4, 0))), some (.inl x1), some (.inl x2), some (.inl x3)], [.inl (σ.2.2.1 55 (x1).toNatClampNeg (x3).toNatClampNeg), .inl x2]), σ)) rfl hc ?_
      refine Wp.run (WpD.mono _) 3 (q := ((4, [some (.inr (.inr (4, 0))), some (.inl x1), some (.inl (x2 + (σ.2.2.1 55 (x1).toNatClampNeg (x3).toNatClampNeg))), some (.inl (x3 + (1 : Int32)))], []), σ)) rfl ?_
      exact Wp.jump (WpD.mono _) rfl (ih x1 (x2 + (σ.2.2.1 55 (x1).toNatClampNeg (x3).toNatClampNeg)) (x3 + (1 : Int32)) σ h)

set_option maxRecDepth 100000 in
set_option maxHeartbeats 4000000 in
theorem T_X7_allFirst (e N : Nat)  (a1 : Int32) (σ : Mem) (r : Int32) (τ : Mem) (Q : Pst) (h : F_X7_allFirst N a1 σ = some (r, τ)) (hQ : Q (some (.inl r)) τ) : WpD (e + 1) mX7_allFirst [.inr (.inr (4, 0)), .inl a1] σ Q := by
  refine WpD.of (d := e + 0) (Nat.le_of_ble_eq_true rfl) (Nat.le_of_ble_eq_true rfl) ?_
  show Wp (WpD (e + 0)) hcX7_allFirst Q (0, [some (.inr (.inr (4, 0))), some (.inl a1), none, none], []) σ
  unfold F_X7_allFirst at h
  refine Wp.run (WpD.mono _) 3 (q := ((4, [some (.inr (.inr (4, 0))), some (.inl a1), some (.inl (0 : Int32)), some (.inl (0 : Int32))], []), σ)) rfl ?_
  exact Wp.jump (WpD.mono _) rfl ((T_X7_allFirst_b4 e N  r τ Q hQ  N) a1 (0 : Int32) (0 : Int32) σ h)

set_option maxRecDepth 100000 in
set_option maxHeartbeats 4000000 in
theorem T_X6_begin_b67 (e N : Nat)  (k11 : Int32 → Int32 → Int32 → Mem → Option (Unit × Mem)) (r : Unit) (τ : Mem) (Q : Pst) (hQ : Q (none) τ) (hk11 : ∀ (x1 : Int32) (x2 : Int32) (x3 : Int32) (σ : Mem), k11 x1 x2 x3 σ = some (r, τ) → Wp (WpD (e + 1)) hcX6_begin Q (11, [some (.inr (.inr (8, 0))), some (.inl x1), some (.inl x2), some (.inl x3)], []) σ) : ∀ (x1 : Int32) (x2 : Int32) (x3 : Int32) (s0 : Int64) (s1 : Int32) (s2 : Nat) (σ : Mem), F_X6_begin_b67 N k11 x1 x2 x3 s0 s1 s2 σ = some (r, τ) → Wp (WpD (e + 1)) hcX6_begin Q (67, [some (.inr (.inr (8, 0))), some (.inl x1), some (.inl x2), some (.inl x3)], [.inr (.inl s0), .inl s1, .inr (.inr (50, s2))]) σ := by
  intro x1 x2 x3 s0 s1 s2 σ h
  unfold F_X6_begin_b67 at h
  obtain ⟨hc, h⟩ := ite_nn h
  refine Wp.no (WpD.mono _) 0 (c := hwOut s1 5) (q := ((68, [some (.inr (.inr (8, 0))), some (.inl x1), some (.inl x2), some (.inl x3)], []), (σ.1, σ.2.1, σ.2.2.1, (hwU3 σ.2.2.2.1 50 s2 (s1).toNatClampNeg s0), σ.2.2.2.2))) rfl hc ?_
  refine Wp.run (WpD.mono _) 1 (q := ((11, [some (.inr (.inr (8, 0))), some (.inl x1), some (.inl x2), some (.inl (x3 + (1 : Int32)))], []), (σ.1, σ.2.1, σ.2.2.1, (hwU3 σ.2.2.2.1 50 s2 (s1).toNatClampNeg s0), σ.2.2.2.2))) rfl ?_
  exact Wp.jump (WpD.mono _) rfl (hk11 x1 x2 (x3 + (1 : Int32)) (σ.1, σ.2.1, σ.2.2.1, (hwU3 σ.2.2.2.1 50 s2 (s1).toNatClampNeg s0), σ.2.2.2.2) h)

set_option maxRecDepth 100000 in
set_option maxHeartbeats 4000000 in
theorem T_X6_begin_b11 (e N : Nat)   (r : Unit) (τ : Mem) (Q : Pst) (hQ : Q (none) τ) : ∀ n, ∀ (x1 : Int32) (x2 : Int32) (x3 : Int32) (σ : Mem), F_X6_begin_b11 N n x1 x2 x3 σ = some (r, τ) → Wp (WpD (e + 1)) hcX6_begin Q (11, [some (.inr (.inr (8, 0))), some (.inl x1), some (.inl x2), some (.inl x3)], []) σ := by
  intro n
  induction n with
  | zero => intro x1 x2 x3 σ h; cases h
  | succ n ih =>
    intro x1 x2 x3 σ h
    unfold F_X6_begin_b11 at h
    refine Wp.br (WpD.mono _) 4 (c := (σ.1 1 6) ≤ x3) (q1 := ((74, [some (.inr (.inr (8, 0))), some (.inl x1), some (.inl x2), some (.inl x3)], []), σ)) (q2 := ((22, [some (.inr (.inr (8, 0))), some (.inl x1), some (.inl x2), some (.inl x3)], []), σ)) rfl (fun hc => ?_) (fun hc => ?_)
    · have h := (if_pos hc).symm.trans h
      cases h
      exact Wp.ret (WpD.mono _) rfl hQ
    · have h := (if_neg hc).symm.trans h
      refine Wp.br (WpD.mono _) 6 (c := x2 ≤ 0) (q1 := ((55, [some (.inr (.inr (8, 0))), some (.inl x1), some (.inl x2), some (.inl x3)], [.inl x3, .inr (.inr (50, 1))]), σ)) (q2 := ((33, [some (.inr (.inr (8, 0))), some (.inl x1), some (.inl x2), some (.inl x3)], [.inl x3, .inr (.inr (50, 1))]), σ)) rfl (fun hc => ?_) (fun hc => ?_)
      · have h := (if_pos hc).symm.trans h
        obtain ⟨hc, h⟩ := ite_nn h
        refine Wp.no (WpD.mono _) 5 (c := (σ.1 1 6).toInt64 = 0) (q := ((67, [some (.inr (.inr (8, 0))), some (.inl x1), some (.inl x2), some (.inl x3)], [.inr (.inl ((1000000 : Int64) / (σ.1 1 6).toInt64)), .inl x3, .inr (.inr (50, 1))]), σ)) rfl hc ?_
        exact Wp.jump (WpD.mono _) rfl ((T_X6_begin_b67 e N (F_X6_begin_b11 N n) r τ Q hQ ih) x1 x2 x3 ((1000000 : Int64) / (σ.1 1 6).toInt64) x3 1 σ h)
      · have h := (if_neg hc).symm.trans h
        obtain ⟨hc, h⟩ := ite_nn h
        refine Wp.no (WpD.mono _) 4 (c := hwOut x1 4) (q := ((42, [some (.inr (.inr (8, 0))), some (.inl x1), some (.inl x2), some (.inl x3)], [.inr (.inr (55, (x1).toNatClampNeg)), .inl x3, .inr (.inr (50, 1))]), σ)) rfl hc ?_
        obtain ⟨hc, h⟩ := ite_nn h
        refine Wp.no (WpD.mono _) 1 (c := hwOut x3 5) (q := ((44, [some (.inr (.inr (8, 0))), some (.inl x1), some (.inl x2), some (.inl x3)], [.inl (σ.2.2.1 55 (x1).toNatClampNeg (x3).toNatClampNeg), .inl x3, .inr (.inr (50, 1))]), σ)) rfl hc ?_
        obtain ⟨hc, h⟩ := ite_nn h
        refine Wp.no (WpD.mono _) 5 (c := x2.toInt64 = 0) (q := ((52, [some (.inr (.inr (8, 0))), some (.inl x1), some (.inl x2), some (.inl x3)], [.inr (.inl (((σ.2.2.1 55 (x1).toNatClampNeg (x3).toNatClampNeg).toInt64 * (1000000 : Int64)) / x2.toInt64)), .inl x3, .inr (.inr (50, 1))]), σ)) rfl hc ?_
        refine Wp.run (WpD.mono _) 0 (q := ((67, [some (.inr (.inr (8, 0))), some (.inl x1), some (.inl x2), some (.inl x3)], [.inr (.inl (((σ.2.2.1 55 (x1).toNatClampNeg (x3).toNatClampNeg).toInt64 * (1000000 : Int64)) / x2.toInt64)), .inl x3, .inr (.inr (50, 1))]), σ)) rfl ?_
        exact Wp.jump (WpD.mono _) rfl ((T_X6_begin_b67 e N (F_X6_begin_b11 N n) r τ Q hQ ih) x1 x2 x3 (((σ.2.2.1 55 (x1).toNatClampNeg (x3).toNatClampNeg).toInt64 * (1000000 : Int64)) / x2.toInt64) x3 1 σ h)

set_option maxRecDepth 100000 in
set_option maxHeartbeats 4000000 in
theorem T_X6_begin (e N : Nat)  (a1 : Int32) (σ : Mem) (r : Unit) (τ : Mem) (Q : Pst) (h : F_X6_begin N a1 σ = some (r, τ)) (hQ : Q (none) τ) : WpD (e + 2) mX6_begin [.inr (.inr (8, 0)), .inl a1] σ Q := by
  refine WpD.of (d := e + 1) (Nat.le_of_ble_eq_true rfl) (Nat.le_of_ble_eq_true rfl) ?_
  show Wp (WpD (e + 1)) hcX6_begin Q (0, [some (.inr (.inr (8, 0))), some (.inl a1), none, none], []) σ
  unfold F_X6_begin at h
  refine Wp.run (WpD.mono _) 2 (q := ((5, [some (.inr (.inr (8, 0))), some (.inl a1), none, none], [.inl a1, .inr (.inr (4, 0))]), σ)) rfl ?_
  obtain ⟨q1, hb, h⟩ := bind_some h
  refine Wp.call (WpD.mono _) rfl (T_X7_allFirst (e + 0) N a1 σ _ _ _ hb ?_)
  show Wp (WpD (e + 1)) hcX6_begin Q (8, [some (.inr (.inr (8, 0))), some (.inl a1), none, none], [.inl q1.1]) q1.2
  refine Wp.run (WpD.mono _) 2 (q := ((11, [some (.inr (.inr (8, 0))), some (.inl a1), some (.inl q1.1), some (.inl (0 : Int32))], []), q1.2)) rfl ?_
  exact Wp.jump (WpD.mono _) rfl ((T_X6_begin_b11 e N  r τ Q hQ  N) a1 q1.1 (0 : Int32) q1.2 h)

set_option maxRecDepth 100000 in
set_option maxHeartbeats 4000000 in
theorem T_X6_dryWith_t50_b73 (e N : Nat)  (k17 : Nat → Int32 → Nat → Int64 → Int32 → Mem → Option (Int64 × Mem)) (r : Int64) (τ : Mem) (Q : Pst) (hQ : Q (some (.inr (.inl r))) τ) (hk17 : ∀ (x1 : Nat) (x3 : Int32) (x4 : Nat) (x5 : Int64) (x7 : Int32) (σ : Mem), k17 x1 x3 x4 x5 x7 σ = some (r, τ) → Wp (WpD (e + 0)) hcX6_dryWith Q (17, [some (.inr (.inr (8, 0))), some (.inr (.inr (50, x1))), none, some (.inl x3), some (.inr (.inr (44, x4))), some (.inr (.inl x5)), none, some (.inl x7)], []) σ) : ∀ (x1 : Nat) (x3 : Int32) (x4 : Nat) (x5 : Int64) (x7 : Int32) (s0 : Int64) (s1 : Int32) (σ : Mem), F_X6_dryWith_t50_b73 N k17 x1 x3 x4 x5 x7 s0 s1 σ = some (r, τ) → Wp (WpD (e + 0)) hcX6_dryWith Q (73, [some (.inr (.inr (8, 0))), some (.inr (.inr (50, x1))), none, some (.inl x3), some (.inr (.inr (44, x4))), some (.inr (.inl x5)), none, some (.inl x7)], [.inr (.inl s0), .inl s1, .inr (.inr (51, 0))]) σ := by
  intro x1 x3 x4 x5 x7 s0 s1 σ h
  unfold F_X6_dryWith_t50_b73 at h
  obtain ⟨hc, h⟩ := ite_nn h
  refine Wp.no (WpD.mono _) 0 (c := hwOut s1 5) (q := ((74, [some (.inr (.inr (8, 0))), some (.inr (.inr (50, x1))), none, some (.inl x3), some (.inr (.inr (44, x4))), some (.inr (.inl x5)), none, some (.inl x7)], []), (σ.1, σ.2.1, σ.2.2.1, (hwU3 σ.2.2.2.1 51 0 (s1).toNatClampNeg s0), σ.2.2.2.2))) rfl hc ?_
  obtain ⟨hc, h⟩ := ite_nn h
  refine Wp.no (WpD.mono _) 4 (c := hwOut x7 5) (q := ((83, [some (.inr (.inr (8, 0))), some (.inr (.inr (50, x1))), none, some (.inl x3), some (.inr (.inr (44, x4))), some (.inr (.inl x5)), none, some (.inl x7)], [.inr (.inl ((hwU3 σ.2.2.2.1 51 0 (s1).toNatClampNeg s0) 51 0 (x7).toNatClampNeg)), .inr (.inl x5)]), (σ.1, σ.2.1, σ.2.2.1, (hwU3 σ.2.2.2.1 51 0 (s1).toNatClampNeg s0), σ.2.2.2.2))) rfl hc ?_
  refine Wp.run (WpD.mono _) 3 (q := ((17, [some (.inr (.inr (8, 0))), some (.inr (.inr (50, x1))), none, some (.inl x3), some (.inr (.inr (44, x4))), some (.inr (.inl (x5 + ((hwU3 σ.2.2.2.1 51 0 (s1).toNatClampNeg s0) 51 0 (x7).toNatClampNeg)))), none, some (.inl (x7 + (1 : Int32)))], []), (σ.1, σ.2.1, σ.2.2.1, (hwU3 σ.2.2.2.1 51 0 (s1).toNatClampNeg s0), σ.2.2.2.2))) rfl ?_
  exact Wp.jump (WpD.mono _) rfl (hk17 x1 x3 x4 (x5 + ((hwU3 σ.2.2.2.1 51 0 (s1).toNatClampNeg s0) 51 0 (x7).toNatClampNeg)) (x7 + (1 : Int32)) (σ.1, σ.2.1, σ.2.2.1, (hwU3 σ.2.2.2.1 51 0 (s1).toNatClampNeg s0), σ.2.2.2.2) h)

set_option maxRecDepth 100000 in
set_option maxHeartbeats 4000000 in
theorem T_X6_dryWith_t50_b104 (e N : Nat)   (r : Int64) (τ : Mem) (Q : Pst) (hQ : Q (some (.inr (.inl r))) τ) : ∀ n, ∀ (x5 : Int64) (x7 : Int32) (σ : Mem), F_X6_dryWith_t50_b104 N n x5 x7 σ = some (r, τ) → Wp (WpD (e + 0)) hcX6_dryWith Q (104, [some (.inr (.inr (8, 0))), none, none, none, none, some (.inr (.inl x5)), none, some (.inl x7)], []) σ := by
  intro n
  induction n with
  | zero => intro x5 x7 σ h; cases h
  | succ n ih =>
    intro x5 x7 σ h
    unfold F_X6_dryWith_t50_b104 at h
    refine Wp.br (WpD.mono _) 4 (c := (σ.1 1 6) ≤ x7) (q1 := ((143, [some (.inr (.inr (8, 0))), none, none, none, none, some (.inr (.inl x5)), none, some (.inl x7)], []), σ)) (q2 := ((116, [some (.inr (.inr (8, 0))), none, none, none, none, some (.inr (.inl x5)), none, some (.inl x7)], []), σ)) rfl (fun hc => ?_) (fun hc => ?_)
    · have h := (if_pos hc).symm.trans h
      refine Wp.run (WpD.mono _) 0 (q := ((145, [some (.inr (.inr (8, 0))), none, none, none, none, some (.inr (.inl x5)), none, some (.inl x7)], [.inr (.inl x5)]), σ)) rfl ?_
      cases h
      exact Wp.ret (WpD.mono _) rfl hQ
    · have h := (if_neg hc).symm.trans h
      obtain ⟨hc, h⟩ := ite_nn h
      refine Wp.no (WpD.mono _) 6 (c := hwOut x7 5) (q := ((129, [some (.inr (.inr (8, 0))), none, none, none, none, some (.inr (.inl x5)), none, some (.inl x7)], [.inr (.inl (σ.2.2.2.1 51 0 (x7).toNatClampNeg)), .inl x7, .inr (.inr (51, 0))]), σ)) rfl hc ?_
      obtain ⟨hc, h⟩ := ite_nn h
      refine Wp.no (WpD.mono _) 3 (c := x5 = 0) (q := ((136, [some (.inr (.inr (8, 0))), none, none, none, none, some (.inr (.inl x5)), none, some (.inl x7)], [.inr (.inl (((σ.2.2.2.1 51 0 (x7).toNatClampNeg) * (1000000 : Int64)) / x5)), .inl x7, .inr (.inr (51, 0))]), σ)) rfl hc ?_
      obtain ⟨hc, h⟩ := ite_nn h
      refine Wp.no (WpD.mono _) 0 (c := hwOut x7 5) (q := ((137, [some (.inr (.inr (8, 0))), none, none, none, none, some (.inr (.inl x5)), none, some (.inl x7)], []), (σ.1, σ.2.1, σ.2.2.1, (hwU3 σ.2.2.2.1 51 0 (x7).toNatClampNeg (((σ.2.2.2.1 51 0 (x7).toNatClampNeg) * (1000000 : Int64)) / x5)), σ.2.2.2.2))) rfl hc ?_
      refine Wp.run (WpD.mono _) 1 (q := ((104, [some (.inr (.inr (8, 0))), none, none, none, none, some (.inr (.inl x5)), none, some (.inl (x7 + (1 : Int32)))], []), (σ.1, σ.2.1, σ.2.2.1, (hwU3 σ.2.2.2.1 51 0 (x7).toNatClampNeg (((σ.2.2.2.1 51 0 (x7).toNatClampNeg) * (1000000 : Int64)) / x5)), σ.2.2.2.2))) rfl ?_
      exact Wp.jump (WpD.mono _) rfl (ih x5 (x7 + (1 : Int32)) (σ.1, σ.2.1, σ.2.2.1, (hwU3 σ.2.2.2.1 51 0 (x7).toNatClampNeg (((σ.2.2.2.1 51 0 (x7).toNatClampNeg) * (1000000 : Int64)) / x5)), σ.2.2.2.2) h)

set_option maxRecDepth 100000 in
set_option maxHeartbeats 4000000 in
theorem T_X6_dryWith_t50_b17 (e N : Nat)   (r : Int64) (τ : Mem) (Q : Pst) (hQ : Q (some (.inr (.inl r))) τ) : ∀ n, ∀ (x1 : Nat) (x3 : Int32) (x4 : Nat) (x5 : Int64) (x7 : Int32) (σ : Mem), F_X6_dryWith_t50_b17 N n x1 x3 x4 x5 x7 σ = some (r, τ) → Wp (WpD (e + 0)) hcX6_dryWith Q (17, [some (.inr (.inr (8, 0))), some (.inr (.inr (50, x1))), none, some (.inl x3), some (.inr (.inr (44, x4))), some (.inr (.inl x5)), none, some (.inl x7)], []) σ := by
  intro n
  induction n with
  | zero => intro x1 x3 x4 x5 x7 σ h; cases h
  | succ n ih =>
    intro x1 x3 x4 x5 x7 σ h
    unfold F_X6_dryWith_t50_b17 at h
    refine Wp.br (WpD.mono _) 4 (c := (σ.1 1 6) ≤ x7) (q1 := ((92, [some (.inr (.inr (8, 0))), some (.inr (.inr (50, x1))), none, some (.inl x3), some (.inr (.inr (44, x4))), some (.inr (.inl x5)), none, some (.inl x7)], []), σ)) (q2 := ((29, [some (.inr (.inr (8, 0))), some (.inr (.inr (50, x1))), none, some (.inl x3), some (.inr (.inr (44, x4))), some (.inr (.inl x5)), none, some (.inl x7)], []), σ)) rfl (fun hc => ?_) (fun hc => ?_)
    · have h := (if_pos hc).symm.trans h
      refine Wp.br (WpD.mono _) 3 (c := 0 < (lg_cmp x5 (0 : Int64))) (q1 := ((101, [some (.inr (.inr (8, 0))), some (.inr (.inr (50, x1))), none, some (.inl x3), some (.inr (.inr (44, x4))), some (.inr (.inl x5)), none, some (.inl x7)], []), σ)) (q2 := ((99, [some (.inr (.inr (8, 0))), some (.inr (.inr (50, x1))), none, some (.inl x3), some (.inr (.inr (44, x4))), some (.inr (.inl x5)), none, some (.inl x7)], []), σ)) rfl (fun hc => ?_) (fun hc => ?_)
      · have h := (if_pos hc).symm.trans h
        refine Wp.run (WpD.mono _) 1 (q := ((104, [some (.inr (.inr (8, 0))), some (.inr (.inr (50, x1))), none, some (.inl x3), some (.inr (.inr (44, x4))), some (.inr (.inl x5)), none, some (.inl (0 : Int32))], []), σ)) rfl ?_
        exact Wp.jump (WpD.mono _) rfl ((T_X6_dryWith_t50_b104 e N  r τ Q hQ  N) x5 (0 : Int32) σ h)
      · have h := (if_neg hc).symm.trans h
        refine Wp.run (WpD.mono _) 0 (q := ((100, [some (.inr (.inr (8, 0))), some (.inr (.inr (50, x1))), none, some (.inl x3), some (.inr (.inr (44, x4))), some (.inr (.inl x5)), none, some (.inl x7)], [.inr (.inl (0 : Int64))]), σ)) rfl ?_
        cases h
        exact Wp.ret (WpD.mono _) rfl hQ
    · have h := (if_neg hc).symm.trans h
      obtain ⟨hc, h⟩ := ite_nn h
      refine Wp.no (WpD.mono _) 7 (c := hwOut x7 5) (q := ((45, [some (.inr (.inr (8, 0))), some (.inr (.inr (50, x1))), none, some (.inl x3), some (.inr (.inr (44, x4))), some (.inr (.inl x5)), none, some (.inl x7)], [.inl (σ.2.2.1 24 0 (x7).toNatClampNeg), .inl x7, .inr (.inr (51, 0))]), σ)) rfl hc ?_
      refine Wp.br (WpD.mono _) 1 (c := (σ.2.2.1 24 0 (x7).toNatClampNeg) = x3) (q1 := ((49, [some (.inr (.inr (8, 0))), some (.inr (.inr (50, x1))), none, some (.inl x3), some (.inr (.inr (44, x4))), some (.inr (.inl x5)), none, some (.inl x7)], [.inl x7, .inr (.inr (51, 0))]), σ)) (q2 := ((72, [some (.inr (.inr (8, 0))), some (.inr (.inr (50, x1))), none, some (.inl x3), some (.inr (.inr (44, x4))), some (.inr (.inl x5)), none, some (.inl x7)], [.inl x7, .inr (.inr (51, 0))]), σ)) rfl (fun hc => ?_) (fun hc => ?_)
      · have h := (if_pos hc).symm.trans h
        obtain ⟨hc, h⟩ := ite_nn h
        refine Wp.no (WpD.mono _) 2 (c := hwOut x7 5) (q := ((53, [some (.inr (.inr (8, 0))), some (.inr (.inr (50, x1))), none, some (.inl x3), some (.inr (.inr (44, x4))), some (.inr (.inl x5)), none, some (.inl x7)], [.inr (.inl (σ.2.2.2.1 50 x1 (x7).toNatClampNeg)), .inl x7, .inr (.inr (51, 0))]), σ)) rfl hc ?_
        obtain ⟨hc, h⟩ := ite_nn h
        refine Wp.no (WpD.mono _) 2 (c := hwOut x7 5) (q := ((57, [some (.inr (.inr (8, 0))), some (.inr (.inr (50, x1))), none, some (.inl x3), some (.inr (.inr (44, x4))), some (.inr (.inl x5)), none, some (.inl x7)], [.inr (.inl (σ.2.2.2.1 50 x1 (x7).toNatClampNeg)), .inr (.inl (σ.2.2.2.1 50 x1 (x7).toNatClampNeg)), .inl x7, .inr (.inr (51, 0))]), σ)) rfl hc ?_
        obtain ⟨hc, h⟩ := ite_nn h
        refine Wp.no (WpD.mono _) 2 (c := hwOut x7 5) (q := ((62, [some (.inr (.inr (8, 0))), some (.inr (.inr (50, x1))), none, some (.inl x3), some (.inr (.inr (44, x4))), some (.inr (.inl x5)), none, some (.inl x7)], [.inl (σ.2.2.1 44 x4 (x7).toNatClampNeg), .inr (.inl (σ.2.2.2.1 50 x1 (x7).toNatClampNeg)), .inr (.inl (σ.2.2.2.1 50 x1 (x7).toNatClampNeg)), .inl x7, .inr (.inr (51, 0))]), σ)) rfl hc ?_
        refine Wp.run (WpD.mono _) 5 (q := ((73, [some (.inr (.inr (8, 0))), some (.inr (.inr (50, x1))), none, some (.inl x3), some (.inr (.inr (44, x4))), some (.inr (.inl x5)), none, some (.inl x7)], [.inr (.inl ((σ.2.2.2.1 50 x1 (x7).toNatClampNeg) - (((σ.2.2.2.1 50 x1 (x7).toNatClampNeg) * (σ.2.2.1 44 x4 (x7).toNatClampNeg).toInt64) / (100 : Int64)))), .inl x7, .inr (.inr (51, 0))]), σ)) rfl ?_
        exact Wp.jump (WpD.mono _) rfl ((T_X6_dryWith_t50_b73 e N (F_X6_dryWith_t50_b17 N n) r τ Q hQ ih) x1 x3 x4 x5 x7 ((σ.2.2.2.1 50 x1 (x7).toNatClampNeg) - (((σ.2.2.2.1 50 x1 (x7).toNatClampNeg) * (σ.2.2.1 44 x4 (x7).toNatClampNeg).toInt64) / (100 : Int64))) x7 σ h)
      · have h := (if_neg hc).symm.trans h
        refine Wp.run (WpD.mono _) 0 (q := ((73, [some (.inr (.inr (8, 0))), some (.inr (.inr (50, x1))), none, some (.inl x3), some (.inr (.inr (44, x4))), some (.inr (.inl x5)), none, some (.inl x7)], [.inr (.inl (0 : Int64)), .inl x7, .inr (.inr (51, 0))]), σ)) rfl ?_
        exact Wp.jump (WpD.mono _) rfl ((T_X6_dryWith_t50_b73 e N (F_X6_dryWith_t50_b17 N n) r τ Q hQ ih) x1 x3 x4 x5 x7 (0 : Int64) x7 σ h)

set_option maxRecDepth 100000 in
set_option maxHeartbeats 4000000 in
theorem T_X6_dryWith_t50 (e N : Nat)  (a1 : Nat) (a2 : Int32) (a3 : Int32) (σ : Mem) (r : Int64) (τ : Mem) (Q : Pst) (h : F_X6_dryWith_t50 N a1 a2 a3 σ = some (r, τ)) (hQ : Q (some (.inr (.inl r))) τ) : WpD (e + 1) mX6_dryWith [.inr (.inr (8, 0)), .inr (.inr (50, a1)), .inl a2, .inl a3] σ Q := by
  refine WpD.of (d := e + 0) (Nat.le_of_ble_eq_true rfl) (Nat.le_of_ble_eq_true rfl) ?_
  show Wp (WpD (e + 0)) hcX6_dryWith Q (0, [some (.inr (.inr (8, 0))), some (.inr (.inr (50, a1))), some (.inl a2), some (.inl a3), none, none, none, none], []) σ
  unfold F_X6_dryWith_t50 at h
  obtain ⟨hc, h⟩ := ite_nn h
  refine Wp.no (WpD.mono _) 4 (c := hwOut a2 6) (q := ((9, [some (.inr (.inr (8, 0))), some (.inr (.inr (50, a1))), some (.inl a2), some (.inl a3), none, none, none, none], [.inr (.inr (44, (a2).toNatClampNeg))]), σ)) rfl hc ?_
  refine Wp.run (WpD.mono _) 4 (q := ((17, [some (.inr (.inr (8, 0))), some (.inr (.inr (50, a1))), some (.inl a2), some (.inl a3), some (.inr (.inr (44, (a2).toNatClampNeg))), some (.inr (.inl (0 : Int64))), none, some (.inl (0 : Int32))], []), σ)) rfl ?_
  exact Wp.jump (WpD.mono _) rfl ((T_X6_dryWith_t50_b17 e N  r τ Q hQ  N) a1 a3 (a2).toNatClampNeg (0 : Int64) (0 : Int32) σ h)

set_option maxRecDepth 100000 in
set_option maxHeartbeats 4000000 in
theorem T_X6_sink_t50_b68 (e N : Nat)  (k25 : Nat → Int32 → Mem → Option (Unit × Mem)) (r : Unit) (τ : Mem) (Q : Pst) (hQ : Q (none) τ) (hk25 : ∀ (x1 : Nat) (x2 : Int32) (σ : Mem), k25 x1 x2 σ = some (r, τ) → Wp (WpD (e + 0)) hcX6_sink Q (25, [some (.inr (.inr (8, 0))), some (.inr (.inr (50, x1))), some (.inl x2), none, none], []) σ) : ∀ n, ∀ (x1 : Nat) (x2 : Int32) (x3 : Int32) (x4 : Int32) (σ : Mem), F_X6_sink_t50_b68 N k25 n x1 x2 x3 x4 σ = some (r, τ) → Wp (WpD (e + 0)) hcX6_sink Q (68, [some (.inr (.inr (8, 0))), some (.inr (.inr (50, x1))), some (.inl x2), some (.inl x3), some (.inl x4)], []) σ := by
  intro n
  induction n with
  | zero => intro x1 x2 x3 x4 σ h; cases h
  | succ n ih =>
    intro x1 x2 x3 x4 σ h
    unfold F_X6_sink_t50_b68 at h
    refine Wp.br (WpD.mono _) 4 (c := (σ.1 1 6) ≤ x4) (q1 := ((116, [some (.inr (.inr (8, 0))), some (.inr (.inr (50, x1))), some (.inl x2), some (.inl x3), some (.inl x4)], []), σ)) (q2 := ((80, [some (.inr (.inr (8, 0))), some (.inr (.inr (50, x1))), some (.inl x2), some (.inl x3), some (.inl x4)], []), σ)) rfl (fun hc => ?_) (fun hc => ?_)
    · have h := (if_pos hc).symm.trans h
      refine Wp.run (WpD.mono _) 1 (q := ((25, [some (.inr (.inr (8, 0))), some (.inr (.inr (50, x1))), some (.inl (x2 + (1 : Int32))), none, none], []), σ)) rfl ?_
      exact Wp.jump (WpD.mono _) rfl (hk25 x1 (x2 + (1 : Int32)) σ h)
    · have h := (if_neg hc).symm.trans h
      obtain ⟨hc, h⟩ := ite_nn h
      refine Wp.no (WpD.mono _) 3 (c := hwOut x4 5) (q := ((85, [some (.inr (.inr (8, 0))), some (.inr (.inr (50, x1))), some (.inl x2), some (.inl x3), some (.inl x4)], [.inr (.inl (σ.2.2.2.1 50 x1 (x4).toNatClampNeg)), .inl x4, .inr (.inr (50, x1))]), σ)) rfl hc ?_
      obtain ⟨hc, h⟩ := ite_nn h
      refine Wp.no (WpD.mono _) 3 (c := hwOut x2 5) (q := ((91, [some (.inr (.inr (8, 0))), some (.inr (.inr (50, x1))), some (.inl x2), some (.inl x3), some (.inl x4)], [.inr (.inl (σ.2.2.2.1 51 0 (x2).toNatClampNeg)), .inr (.inl (σ.2.2.2.1 50 x1 (x4).toNatClampNeg)), .inl x4, .inr (.inr (50, x1))]), σ)) rfl hc ?_
      obtain ⟨hc, h⟩ := ite_nn h
      refine Wp.no (WpD.mono _) 4 (c := hwOut x2 5) (q := ((100, [some (.inr (.inr (8, 0))), some (.inr (.inr (50, x1))), some (.inl x2), some (.inl x3), some (.inl x4)], [.inr (.inr (26, (x2).toNatClampNeg)), .inr (.inl (σ.2.2.2.1 51 0 (x2).toNatClampNeg)), .inr (.inl (σ.2.2.2.1 50 x1 (x4).toNatClampNeg)), .inl x4, .inr (.inr (50, x1))]), σ)) rfl hc ?_
      obtain ⟨hc, h⟩ := ite_nn h
      refine Wp.no (WpD.mono _) 1 (c := hwOut x4 5) (q := ((103, [some (.inr (.inr (8, 0))), some (.inr (.inr (50, x1))), some (.inl x2), some (.inl x3), some (.inl x4)], [.inl (σ.2.2.1 26 (x2).toNatClampNeg (x4).toNatClampNeg), .inr (.inl (σ.2.2.2.1 51 0 (x2).toNatClampNeg)), .inr (.inl (σ.2.2.2.1 50 x1 (x4).toNatClampNeg)), .inl x4, .inr (.inr (50, x1))]), σ)) rfl hc ?_
      obtain ⟨hc, h⟩ := ite_nn h
      refine Wp.no (WpD.mono _) 4 (c := x3.toInt64 = 0) (q := ((108, [some (.inr (.inr (8, 0))), some (.inr (.inr (50, x1))), some (.inl x2), some (.inl x3), some (.inl x4)], [.inr (.inl (((σ.2.2.2.1 51 0 (x2).toNatClampNeg) * (σ.2.2.1 26 (x2).toNatClampNeg (x4).toNatClampNeg).toInt64) / x3.toInt64)), .inr (.inl (σ.2.2.2.1 50 x1 (x4).toNatClampNeg)), .inl x4, .inr (.inr (50, x1))]), σ)) rfl hc ?_
      obtain ⟨hc, h⟩ := ite_nn h
      refine Wp.no (WpD.mono _) 1 (c := hwOut x4 5) (q := ((110, [some (.inr (.inr (8, 0))), some (.inr (.inr (50, x1))), some (.inl x2), some (.inl x3), some (.inl x4)], []), (σ.1, σ.2.1, σ.2.2.1, (hwU3 σ.2.2.2.1 50 x1 (x4).toNatClampNeg ((σ.2.2.2.1 50 x1 (x4).toNatClampNeg) + (((σ.2.2.2.1 51 0 (x2).toNatClampNeg) * (σ.2.2.1 26 (x2).toNatClampNeg (x4).toNatClampNeg).toInt64) / x3.toInt64))), σ.2.2.2.2))) rfl hc ?_
      refine Wp.run (WpD.mono _) 1 (q := ((68, [some (.inr (.inr (8, 0))), some (.inr (.inr (50, x1))), some (.inl x2), some (.inl x3), some (.inl (x4 + (1 : Int32)))], []), (σ.1, σ.2.1, σ.2.2.1, (hwU3 σ.2.2.2.1 50 x1 (x4).toNatClampNeg ((σ.2.2.2.1 50 x1 (x4).toNatClampNeg) + (((σ.2.2.2.1 51 0 (x2).toNatClampNeg) * (σ.2.2.1 26 (x2).toNatClampNeg (x4).toNatClampNeg).toInt64) / x3.toInt64))), σ.2.2.2.2))) rfl ?_
      exact Wp.jump (WpD.mono _) rfl (ih x1 x2 x3 (x4 + (1 : Int32)) (σ.1, σ.2.1, σ.2.2.1, (hwU3 σ.2.2.2.1 50 x1 (x4).toNatClampNeg ((σ.2.2.2.1 50 x1 (x4).toNatClampNeg) + (((σ.2.2.2.1 51 0 (x2).toNatClampNeg) * (σ.2.2.1 26 (x2).toNatClampNeg (x4).toNatClampNeg).toInt64) / x3.toInt64))), σ.2.2.2.2) h)

set_option maxRecDepth 100000 in
set_option maxHeartbeats 4000000 in
theorem T_X6_sink_t50_b25 (e N : Nat)   (r : Unit) (τ : Mem) (Q : Pst) (hQ : Q (none) τ) : ∀ n, ∀ (x1 : Nat) (x2 : Int32) (σ : Mem), F_X6_sink_t50_b25 N n x1 x2 σ = some (r, τ) → Wp (WpD (e + 0)) hcX6_sink Q (25, [some (.inr (.inr (8, 0))), some (.inr (.inr (50, x1))), some (.inl x2), none, none], []) σ := by
  intro n
  induction n with
  | zero => intro x1 x2 σ h; cases h
  | succ n ih =>
    intro x1 x2 σ h
    unfold F_X6_sink_t50_b25 at h
    refine Wp.br (WpD.mono _) 4 (c := (σ.1 1 6) ≤ x2) (q1 := ((122, [some (.inr (.inr (8, 0))), some (.inr (.inr (50, x1))), some (.inl x2), none, none], []), σ)) (q2 := ((36, [some (.inr (.inr (8, 0))), some (.inr (.inr (50, x1))), some (.inl x2), none, none], []), σ)) rfl (fun hc => ?_) (fun hc => ?_)
    · have h := (if_pos hc).symm.trans h
      cases h
      exact Wp.ret (WpD.mono _) rfl hQ
    · have h := (if_neg hc).symm.trans h
      obtain ⟨hc, h⟩ := ite_nn h
      refine Wp.no (WpD.mono _) 4 (c := hwOut x2 5) (q := ((45, [some (.inr (.inr (8, 0))), some (.inr (.inr (50, x1))), some (.inl x2), none, none], [.inl (σ.2.2.1 27 0 (x2).toNatClampNeg)]), σ)) rfl hc ?_
      refine Wp.br (WpD.mono _) 2 (c := 0 < (σ.2.2.1 27 0 (x2).toNatClampNeg)) (q1 := ((65, [some (.inr (.inr (8, 0))), some (.inr (.inr (50, x1))), some (.inl x2), some (.inl (σ.2.2.1 27 0 (x2).toNatClampNeg)), none], []), σ)) (q2 := ((50, [some (.inr (.inr (8, 0))), some (.inr (.inr (50, x1))), some (.inl x2), some (.inl (σ.2.2.1 27 0 (x2).toNatClampNeg)), none], []), σ)) rfl (fun hc => ?_) (fun hc => ?_)
      · have h := (if_pos hc).symm.trans h
        refine Wp.run (WpD.mono _) 1 (q := ((68, [some (.inr (.inr (8, 0))), some (.inr (.inr (50, x1))), some (.inl x2), some (.inl (σ.2.2.1 27 0 (x2).toNatClampNeg)), some (.inl (0 : Int32))], []), σ)) rfl ?_
        exact Wp.jump (WpD.mono _) rfl ((T_X6_sink_t50_b68 e N (F_X6_sink_t50_b25 N n) r τ Q hQ ih N) x1 x2 (σ.2.2.1 27 0 (x2).toNatClampNeg) (0 : Int32) σ h)
      · have h := (if_neg hc).symm.trans h
        obtain ⟨hc, h⟩ := ite_nn h
        refine Wp.no (WpD.mono _) 3 (c := hwOut x2 5) (q := ((54, [some (.inr (.inr (8, 0))), some (.inr (.inr (50, x1))), some (.inl x2), some (.inl (σ.2.2.1 27 0 (x2).toNatClampNeg)), none], [.inr (.inl (σ.2.2.2.1 50 x1 (x2).toNatClampNeg)), .inl x2, .inr (.inr (50, x1))]), σ)) rfl hc ?_
        obtain ⟨hc, h⟩ := ite_nn h
        refine Wp.no (WpD.mono _) 3 (c := hwOut x2 5) (q := ((60, [some (.inr (.inr (8, 0))), some (.inr (.inr (50, x1))), some (.inl x2), some (.inl (σ.2.2.1 27 0 (x2).toNatClampNeg)), none], [.inr (.inl (σ.2.2.2.1 51 0 (x2).toNatClampNeg)), .inr (.inl (σ.2.2.2.1 50 x1 (x2).toNatClampNeg)), .inl x2, .inr (.inr (50, x1))]), σ)) rfl hc ?_
        obtain ⟨hc, h⟩ := ite_nn h
        refine Wp.no (WpD.mono _) 1 (c := hwOut x2 5) (q := ((62, [some (.inr (.inr (8, 0))), some (.inr (.inr (50, x1))), some (.inl x2), some (.inl (σ.2.2.1 27 0 (x2).toNatClampNeg)), none], []), (σ.1, σ.2.1, σ.2.2.1, (hwU3 σ.2.2.2.1 50 x1 (x2).toNatClampNeg ((σ.2.2.2.1 50 x1 (x2).toNatClampNeg) + (σ.2.2.2.1 51 0 (x2).toNatClampNeg))), σ.2.2.2.2))) rfl hc ?_
        refine Wp.run (WpD.mono _) 2 (q := ((25, [some (.inr (.inr (8, 0))), some (.inr (.inr (50, x1))), some (.inl (x2 + (1 : Int32))), none, none], []), (σ.1, σ.2.1, σ.2.2.1, (hwU3 σ.2.2.2.1 50 x1 (x2).toNatClampNeg ((σ.2.2.2.1 50 x1 (x2).toNatClampNeg) + (σ.2.2.2.1 51 0 (x2).toNatClampNeg))), σ.2.2.2.2))) rfl ?_
        exact Wp.jump (WpD.mono _) rfl (ih x1 (x2 + (1 : Int32)) (σ.1, σ.2.1, σ.2.2.1, (hwU3 σ.2.2.2.1 50 x1 (x2).toNatClampNeg ((σ.2.2.2.1 50 x1 (x2).toNatClampNeg) + (σ.2.2.2.1 51 0 (x2).toNatClampNeg))), σ.2.2.2.2) h)

set_option maxRecDepth 100000 in
set_option maxHeartbeats 4000000 in
theorem T_X6_sink_t50_b2 (e N : Nat)   (r : Unit) (τ : Mem) (Q : Pst) (hQ : Q (none) τ) : ∀ n, ∀ (x1 : Nat) (x2 : Int32) (σ : Mem), F_X6_sink_t50_b2 N n x1 x2 σ = some (r, τ) → Wp (WpD (e + 0)) hcX6_sink Q (2, [some (.inr (.inr (8, 0))), some (.inr (.inr (50, x1))), some (.inl x2), none, none], []) σ := by
  intro n
  induction n with
  | zero => intro x1 x2 σ h; cases h
  | succ n ih =>
    intro x1 x2 σ h
    unfold F_X6_sink_t50_b2 at h
    refine Wp.br (WpD.mono _) 4 (c := (σ.1 1 6) ≤ x2) (q1 := ((23, [some (.inr (.inr (8, 0))), some (.inr (.inr (50, x1))), some (.inl x2), none, none], []), σ)) (q2 := ((13, [some (.inr (.inr (8, 0))), some (.inr (.inr (50, x1))), some (.inl x2), none, none], []), σ)) rfl (fun hc => ?_) (fun hc => ?_)
    · have h := (if_pos hc).symm.trans h
      refine Wp.run (WpD.mono _) 1 (q := ((25, [some (.inr (.inr (8, 0))), some (.inr (.inr (50, x1))), some (.inl (0 : Int32)), none, none], []), σ)) rfl ?_
      exact Wp.jump (WpD.mono _) rfl ((T_X6_sink_t50_b25 e N  r τ Q hQ  N) x1 (0 : Int32) σ h)
    · have h := (if_neg hc).symm.trans h
      obtain ⟨hc, h⟩ := ite_nn h
      refine Wp.no (WpD.mono _) 3 (c := hwOut x2 5) (q := ((17, [some (.inr (.inr (8, 0))), some (.inr (.inr (50, x1))), some (.inl x2), none, none], []), (σ.1, σ.2.1, σ.2.2.1, (hwU3 σ.2.2.2.1 50 x1 (x2).toNatClampNeg (0 : Int64)), σ.2.2.2.2))) rfl hc ?_
      refine Wp.run (WpD.mono _) 1 (q := ((2, [some (.inr (.inr (8, 0))), some (.inr (.inr (50, x1))), some (.inl (x2 + (1 : Int32))), none, none], []), (σ.1, σ.2.1, σ.2.2.1, (hwU3 σ.2.2.2.1 50 x1 (x2).toNatClampNeg (0 : Int64)), σ.2.2.2.2))) rfl ?_
      exact Wp.jump (WpD.mono _) rfl (ih x1 (x2 + (1 : Int32)) (σ.1, σ.2.1, σ.2.2.1, (hwU3 σ.2.2.2.1 50 x1 (x2).toNatClampNeg (0 : Int64)), σ.2.2.2.2) h)

set_option maxRecDepth 100000 in
set_option maxHeartbeats 4000000 in
theorem T_X6_sink_t50 (e N : Nat)  (a1 : Nat) (σ : Mem) (r : Unit) (τ : Mem) (Q : Pst) (h : F_X6_sink_t50 N a1 σ = some (r, τ)) (hQ : Q (none) τ) : WpD (e + 1) mX6_sink [.inr (.inr (8, 0)), .inr (.inr (50, a1))] σ Q := by
  refine WpD.of (d := e + 0) (Nat.le_of_ble_eq_true rfl) (Nat.le_of_ble_eq_true rfl) ?_
  show Wp (WpD (e + 0)) hcX6_sink Q (0, [some (.inr (.inr (8, 0))), some (.inr (.inr (50, a1))), none, none, none], []) σ
  unfold F_X6_sink_t50 at h
  refine Wp.run (WpD.mono _) 1 (q := ((2, [some (.inr (.inr (8, 0))), some (.inr (.inr (50, a1))), some (.inl (0 : Int32)), none, none], []), σ)) rfl ?_
  exact Wp.jump (WpD.mono _) rfl ((T_X6_sink_t50_b2 e N  r τ Q hQ  N) a1 (0 : Int32) σ h)

set_option maxRecDepth 100000 in
set_option maxHeartbeats 4000000 in
theorem T_X6_pass (e N : Nat)  (a1 : Int32) (a2 : Int32) (σ : Mem) (r : Int64) (τ : Mem) (Q : Pst) (h : F_X6_pass N a1 a2 σ = some (r, τ)) (hQ : Q (some (.inr (.inl r))) τ) : WpD (e + 2) mX6_pass [.inr (.inr (8, 0)), .inl a1, .inl a2] σ Q := by
  refine WpD.of (d := e + 1) (Nat.le_of_ble_eq_true rfl) (Nat.le_of_ble_eq_true rfl) ?_
  show Wp (WpD (e + 1)) hcX6_pass Q (0, [some (.inr (.inr (8, 0))), some (.inl a1), some (.inl a2), none, none], []) σ
  unfold F_X6_pass at h
  refine Wp.br (WpD.mono _) 2 (c := a1 < (1 : Int32)) (q1 := ((10, [some (.inr (.inr (8, 0))), some (.inl a1), some (.inl a2), none, none], []), σ)) (q2 := ((5, [some (.inr (.inr (8, 0))), some (.inl a1), some (.inl a2), none, none], []), σ)) rfl (fun hc => ?_) (fun hc => ?_)
  · have h := (if_pos hc).symm.trans h
    refine Wp.run (WpD.mono _) 0 (q := ((11, [none, none, none, none, none], [.inr (.inl (0 : Int64))]), σ)) rfl ?_
    cases h
    exact Wp.ret (WpD.mono _) rfl hQ
  · have h := (if_neg hc).symm.trans h
    refine Wp.br (WpD.mono _) 2 (c := a1 ≤ (5 : Int32)) (q1 := ((12, [some (.inr (.inr (8, 0))), some (.inl a1), some (.inl a2), none, none], []), σ)) (q2 := ((10, [some (.inr (.inr (8, 0))), some (.inl a1), some (.inl a2), none, none], []), σ)) rfl (fun hc => ?_) (fun hc => ?_)
    · have h := (if_pos hc).symm.trans h
      obtain ⟨hc, h⟩ := ite_nn h
      refine Wp.no (WpD.mono _) 4 (c := hwOut a1 7) (q := ((19, [some (.inr (.inr (8, 0))), some (.inl a1), some (.inl a2), none, none], [.inr (.inr (50, (a1).toNatClampNeg)), .inr (.inr (8, 0))]), σ)) rfl hc ?_
      refine Wp.run (WpD.mono _) 1 (q := ((21, [some (.inr (.inr (8, 0))), some (.inl a1), some (.inl a2), none, none], [.inl a2, .inl a1, .inr (.inr (50, (a1).toNatClampNeg)), .inr (.inr (8, 0))]), σ)) rfl ?_
      obtain ⟨q1, hb, h⟩ := bind_some h
      refine Wp.call (WpD.mono _) rfl (T_X6_dryWith_t50 (e + 0) N (a1).toNatClampNeg a1 a2 σ _ _ _ hb ?_)
      show Wp (WpD (e + 1)) hcX6_pass Q (24, [some (.inr (.inr (8, 0))), some (.inl a1), some (.inl a2), none, none], [.inr (.inl q1.1)]) q1.2
      refine Wp.br (WpD.mono _) 4 (c := (lg_cmp q1.1 (0 : Int64)) ≤ 0) (q1 := ((43, [some (.inr (.inr (8, 0))), some (.inl a1), some (.inl a2), some (.inr (.inl q1.1)), none], []), q1.2)) (q2 := ((31, [some (.inr (.inr (8, 0))), some (.inl a1), some (.inl a2), some (.inr (.inl q1.1)), none], []), q1.2)) rfl (fun hc => ?_) (fun hc => ?_)
      · have h := (if_pos hc).symm.trans h
        refine Wp.run (WpD.mono _) 0 (q := ((44, [none, none, none, some (.inr (.inl q1.1)), none], [.inr (.inl q1.1)]), q1.2)) rfl ?_
        cases h
        exact Wp.ret (WpD.mono _) rfl hQ
      · have h := (if_neg hc).symm.trans h
        obtain ⟨hc, h⟩ := ite_nn h
        refine Wp.no (WpD.mono _) 6 (c := hwOut (a1 + (1 : Int32)) 7) (q := ((40, [some (.inr (.inr (8, 0))), some (.inl a1), some (.inl a2), some (.inr (.inl q1.1)), none], [.inr (.inr (50, ((a1 + (1 : Int32))).toNatClampNeg)), .inr (.inr (8, 0))]), q1.2)) rfl hc ?_
        obtain ⟨q2, hb, h⟩ := bind_some h
        refine Wp.call (WpD.mono _) rfl (T_X6_sink_t50 (e + 0) N ((a1 + (1 : Int32))).toNatClampNeg q1.2 _ _ _ hb ?_)
        show Wp (WpD (e + 1)) hcX6_pass Q (43, [some (.inr (.inr (8, 0))), some (.inl a1), some (.inl a2), some (.inr (.inl q1.1)), none], []) q2.2
        refine Wp.run (WpD.mono _) 0 (q := ((44, [none, none, none, some (.inr (.inl q1.1)), none], [.inr (.inl q1.1)]), q2.2)) rfl ?_
        cases h
        exact Wp.ret (WpD.mono _) rfl hQ
    · have h := (if_neg hc).symm.trans h
      refine Wp.run (WpD.mono _) 0 (q := ((11, [none, none, none, none, none], [.inr (.inl (0 : Int64))]), σ)) rfl ?_
      cases h
      exact Wp.ret (WpD.mono _) rfl hQ

set_option maxRecDepth 100000 in
set_option maxHeartbeats 4000000 in
theorem T_X2_deepest (e N : Nat)   (σ : Mem) (r : Int32) (τ : Mem) (Q : Pst) (h : F_X2_deepest N  σ = some (r, τ)) (hQ : Q (some (.inl r)) τ) : WpD (e + 1) mX2_deepest [.inr (.inr (1, 0))] σ Q := by
  refine WpD.of (d := e + 0) (Nat.le_of_ble_eq_true rfl) (Nat.le_of_ble_eq_true rfl) ?_
  show Wp (WpD (e + 0)) hcX2_deepest Q (0, [some (.inr (.inr (1, 0)))], []) σ
  unfold F_X2_deepest at h
  refine Wp.run (WpD.mono _) 3 (q := ((6, [some (.inr (.inr (1, 0)))], [.inl (σ.2.2.1 28 0 0)]), σ)) rfl ?_
  cases h
  exact Wp.ret (WpD.mono _) rfl hQ

set_option maxRecDepth 100000 in
set_option maxHeartbeats 4000000 in
theorem T_X2_worth (e N : Nat)   (σ : Mem) (r : Int32) (τ : Mem) (Q : Pst) (h : F_X2_worth N  σ = some (r, τ)) (hQ : Q (some (.inl r)) τ) : WpD (e + 1) mX2_worth [.inr (.inr (1, 0))] σ Q := by
  refine WpD.of (d := e + 0) (Nat.le_of_ble_eq_true rfl) (Nat.le_of_ble_eq_true rfl) ?_
  show Wp (WpD (e + 0)) hcX2_worth Q (0, [some (.inr (.inr (1, 0)))], []) σ
  unfold F_X2_worth at h
  refine Wp.run (WpD.mono _) 3 (q := ((6, [some (.inr (.inr (1, 0)))], [.inl (σ.2.2.1 28 0 1)]), σ)) rfl ?_
  cases h
  exact Wp.ret (WpD.mono _) rfl hQ

set_option maxRecDepth 100000 in
set_option maxHeartbeats 4000000 in
theorem T_X6_wetOf (e N : Nat)  (a1 : Int32) (a2 : Int32) (σ : Mem) (r : Int64) (τ : Mem) (Q : Pst) (h : F_X6_wetOf N a1 a2 σ = some (r, τ)) (hQ : Q (some (.inr (.inl r))) τ) : WpD (e + 1) mX6_wetOf [.inr (.inr (8, 0)), .inl a1, .inl a2] σ Q := by
  refine WpD.of (d := e + 0) (Nat.le_of_ble_eq_true rfl) (Nat.le_of_ble_eq_true rfl) ?_
  show Wp (WpD (e + 0)) hcX6_wetOf Q (0, [some (.inr (.inr (8, 0))), some (.inl a1), some (.inl a2)], []) σ
  unfold F_X6_wetOf at h
  refine Wp.br (WpD.mono _) 2 (c := a1 < (1 : Int32)) (q1 := ((10, [some (.inr (.inr (8, 0))), some (.inl a1), some (.inl a2)], []), σ)) (q2 := ((5, [some (.inr (.inr (8, 0))), some (.inl a1), some (.inl a2)], []), σ)) rfl (fun hc => ?_) (fun hc => ?_)
  · have h := (if_pos hc).symm.trans h
    refine Wp.run (WpD.mono _) 1 (q := ((39, [none, none, none], [.inr (.inl (0 : Int64))]), σ)) rfl ?_
    cases h
    exact Wp.ret (WpD.mono _) rfl hQ
  · have h := (if_neg hc).symm.trans h
    refine Wp.br (WpD.mono _) 2 (c := a1 ≤ (5 : Int32)) (q1 := ((14, [some (.inr (.inr (8, 0))), some (.inl a1), some (.inl a2)], []), σ)) (q2 := ((10, [some (.inr (.inr (8, 0))), some (.inl a1), some (.inl a2)], []), σ)) rfl (fun hc => ?_) (fun hc => ?_)
    · have h := (if_pos hc).symm.trans h
      obtain ⟨hc, h⟩ := ite_nn h
      refine Wp.no (WpD.mono _) 3 (c := hwOut a1 7) (q := ((20, [some (.inr (.inr (8, 0))), some (.inl a1), some (.inl a2)], [.inr (.inr (50, (a1).toNatClampNeg))]), σ)) rfl hc ?_
      obtain ⟨hc, h⟩ := ite_nn h
      refine Wp.no (WpD.mono _) 1 (c := hwOut a2 5) (q := ((22, [some (.inr (.inr (8, 0))), some (.inl a1), some (.inl a2)], [.inr (.inl (σ.2.2.2.1 50 (a1).toNatClampNeg (a2).toNatClampNeg))]), σ)) rfl hc ?_
      obtain ⟨hc, h⟩ := ite_nn h
      refine Wp.no (WpD.mono _) 4 (c := hwOut a1 6) (q := ((31, [some (.inr (.inr (8, 0))), some (.inl a1), some (.inl a2)], [.inr (.inr (44, (a1).toNatClampNeg)), .inr (.inl (σ.2.2.2.1 50 (a1).toNatClampNeg (a2).toNatClampNeg))]), σ)) rfl hc ?_
      obtain ⟨hc, h⟩ := ite_nn h
      refine Wp.no (WpD.mono _) 1 (c := hwOut a2 5) (q := ((33, [some (.inr (.inr (8, 0))), some (.inl a1), some (.inl a2)], [.inl (σ.2.2.1 44 (a1).toNatClampNeg (a2).toNatClampNeg), .inr (.inl (σ.2.2.2.1 50 (a1).toNatClampNeg (a2).toNatClampNeg))]), σ)) rfl hc ?_
      refine Wp.run (WpD.mono _) 3 (q := ((39, [some (.inr (.inr (8, 0))), some (.inl a1), some (.inl a2)], [.inr (.inl (((σ.2.2.2.1 50 (a1).toNatClampNeg (a2).toNatClampNeg) * (σ.2.2.1 44 (a1).toNatClampNeg (a2).toNatClampNeg).toInt64) / (100 : Int64)))]), σ)) rfl ?_
      cases h
      exact Wp.ret (WpD.mono _) rfl hQ
    · have h := (if_neg hc).symm.trans h
      refine Wp.run (WpD.mono _) 1 (q := ((39, [none, none, none], [.inr (.inl (0 : Int64))]), σ)) rfl ?_
      cases h
      exact Wp.ret (WpD.mono _) rfl hQ

set_option maxRecDepth 100000 in
set_option maxHeartbeats 4000000 in
theorem T_X6_gain_b6 (e N : Nat)   (r : Int64) (τ : Mem) (Q : Pst) (hQ : Q (some (.inr (.inl r))) τ) : ∀ n, ∀ (x1 : Int32) (x2 : Int32) (x3 : Int32) (x4 : Int64) (x6 : Int32) (σ : Mem), F_X6_gain_b6 N n x1 x2 x3 x4 x6 σ = some (r, τ) → Wp (WpD (e + 1)) hcX6_gain Q (6, [some (.inr (.inr (8, 0))), some (.inl x1), some (.inl x2), some (.inl x3), some (.inr (.inl x4)), none, some (.inl x6)], []) σ := by
  intro n
  induction n with
  | zero => intro x1 x2 x3 x4 x6 σ h; cases h
  | succ n ih =>
    intro x1 x2 x3 x4 x6 σ h
    unfold F_X6_gain_b6 at h
    refine Wp.br (WpD.mono _) 4 (c := (σ.1 1 6) ≤ x6) (q1 := ((56, [some (.inr (.inr (8, 0))), some (.inl x1), some (.inl x2), some (.inl x3), some (.inr (.inl x4)), none, some (.inl x6)], []), σ)) (q2 := ((18, [some (.inr (.inr (8, 0))), some (.inl x1), some (.inl x2), some (.inl x3), some (.inr (.inl x4)), none, some (.inl x6)], []), σ)) rfl (fun hc => ?_) (fun hc => ?_)
    · have h := (if_pos hc).symm.trans h
      refine Wp.run (WpD.mono _) 0 (q := ((58, [some (.inr (.inr (8, 0))), some (.inl x1), some (.inl x2), some (.inl x3), some (.inr (.inl x4)), none, some (.inl x6)], [.inr (.inl x4)]), σ)) rfl ?_
      cases h
      exact Wp.ret (WpD.mono _) rfl hQ
    · have h := (if_neg hc).symm.trans h
      refine Wp.run (WpD.mono _) 3 (q := ((24, [some (.inr (.inr (8, 0))), some (.inl x1), some (.inl x2), some (.inl x3), some (.inr (.inl x4)), none, some (.inl x6)], [.inl x6, .inl x1, .inr (.inr (8, 0)), .inr (.inl x4)]), σ)) rfl ?_
      obtain ⟨q1, hb, h⟩ := bind_some h
      refine Wp.call (WpD.mono _) rfl (T_X6_wetOf (e + 0) N x1 x6 σ _ _ _ hb ?_)
      show Wp (WpD (e + 1)) hcX6_gain Q (27, [some (.inr (.inr (8, 0))), some (.inl x1), some (.inl x2), some (.inl x3), some (.inr (.inl x4)), none, some (.inl x6)], [.inr (.inl q1.1), .inr (.inl x4)]) q1.2
      obtain ⟨hc, h⟩ := ite_nn h
      refine Wp.no (WpD.mono _) 6 (c := hwOut x6 5) (q := ((39, [some (.inr (.inr (8, 0))), some (.inl x1), some (.inl x2), some (.inl x3), some (.inr (.inl x4)), none, some (.inl x6)], [.inl (q1.2.2.2.1 23 0 (x6).toNatClampNeg), .inl x2, .inl (0 : Int32), .inr (.inl q1.1), .inr (.inl x4)]), q1.2)) rfl hc ?_
      refine Wp.run (WpD.mono _) 9 (q := ((6, [some (.inr (.inr (8, 0))), some (.inl x1), some (.inl x2), some (.inl x3), some (.inr (.inl (x4 + (q1.1 * (if (0 : Int32) < ((x2 - (q1.2.2.2.1 23 0 (x6).toNatClampNeg)) - x3) then ((x2 - (q1.2.2.2.1 23 0 (x6).toNatClampNeg)) - x3) else (0 : Int32)).toInt64)))), none, some (.inl (x6 + (1 : Int32)))], []), q1.2)) rfl ?_
      exact Wp.jump (WpD.mono _) rfl (ih x1 x2 x3 (x4 + (q1.1 * (if (0 : Int32) < ((x2 - (q1.2.2.2.1 23 0 (x6).toNatClampNeg)) - x3) then ((x2 - (q1.2.2.2.1 23 0 (x6).toNatClampNeg)) - x3) else (0 : Int32)).toInt64)) (x6 + (1 : Int32)) q1.2 h)

set_option maxRecDepth 100000 in
set_option maxHeartbeats 4000000 in
theorem T_X6_gain (e N : Nat)  (a1 : Int32) (a2 : Int32) (a3 : Int32) (σ : Mem) (r : Int64) (τ : Mem) (Q : Pst) (h : F_X6_gain N a1 a2 a3 σ = some (r, τ)) (hQ : Q (some (.inr (.inl r))) τ) : WpD (e + 2) mX6_gain [.inr (.inr (8, 0)), .inl a1, .inl a2, .inl a3] σ Q := by
  refine WpD.of (d := e + 1) (Nat.le_of_ble_eq_true rfl) (Nat.le_of_ble_eq_true rfl) ?_
  show Wp (WpD (e + 1)) hcX6_gain Q (0, [some (.inr (.inr (8, 0))), some (.inl a1), some (.inl a2), some (.inl a3), none, none, none], []) σ
  unfold F_X6_gain at h
  refine Wp.run (WpD.mono _) 3 (q := ((6, [some (.inr (.inr (8, 0))), some (.inl a1), some (.inl a2), some (.inl a3), some (.inr (.inl (0 : Int64))), none, some (.inl (0 : Int32))], []), σ)) rfl ?_
  exact Wp.jump (WpD.mono _) rfl ((T_X6_gain_b6 e N  r τ Q hQ  N) a1 a2 a3 (0 : Int64) (0 : Int32) σ h)

set_option maxRecDepth 100000 in
set_option maxHeartbeats 4000000 in
theorem T_X6_goingOn_b44 (e N : Nat) (g0 : Int32 → Int32 → Mem → Option (Int64 × Mem)) (hg0 : ∀ (a1 : Int32) (a2 : Int32) (σ : Mem) (r : Int64) (τ : Mem) (Q : Pst), g0 a1 a2 σ = some (r, τ) → Q (some (.inr (.inl r))) τ → WpD (e + 2) mX6_goingOn [.inr (.inr (8, 0)), .inl a1, .inl a2] σ Q)  (r : Int64) (τ : Mem) (Q : Pst) (hQ : Q (some (.inr (.inl r))) τ) : ∀ n, ∀ (x1 : Int32) (x2 : Int32) (x3 : Int64) (x5 : Int32) (σ : Mem), F_X6_goingOn_b44 N g0 n x1 x2 x3 x5 σ = some (r, τ) → Wp (WpD (e + 2)) hcX6_goingOn Q (44, [some (.inr (.inr (8, 0))), some (.inl x1), some (.inl x2), some (.inr (.inl x3)), none, some (.inl x5), none, none], []) σ := by
  intro n
  induction n with
  | zero => intro x1 x2 x3 x5 σ h; cases h
  | succ n ih =>
    intro x1 x2 x3 x5 σ h
    unfold F_X6_goingOn_b44 at h
    refine Wp.br (WpD.mono _) 2 (c := (3 : Int32) ≤ x5) (q1 := ((105, [some (.inr (.inr (8, 0))), some (.inl x1), some (.inl x2), some (.inr (.inl x3)), none, some (.inl x5), none, none], []), σ)) (q2 := ((50, [some (.inr (.inr (8, 0))), some (.inl x1), some (.inl x2), some (.inr (.inl x3)), none, some (.inl x5), none, none], []), σ)) rfl (fun hc => ?_) (fun hc => ?_)
    · have h := (if_pos hc).symm.trans h
      refine Wp.run (WpD.mono _) 0 (q := ((106, [none, none, none, some (.inr (.inl x3)), none, none, none, none], [.inr (.inl x3)]), σ)) rfl ?_
      cases h
      exact Wp.ret (WpD.mono _) rfl hQ
    · have h := (if_neg hc).symm.trans h
      refine Wp.run (WpD.mono _) 2 (q := ((55, [some (.inr (.inr (8, 0))), some (.inl x1), some (.inl x2), some (.inr (.inl x3)), none, some (.inl x5), none, none], [.inr (.inr (1, 0)), .inl x1]), σ)) rfl ?_
      obtain ⟨q3, hb, h⟩ := bind_some h
      refine Wp.call (WpD.mono _) rfl (T_X2_deepest (e + 1) N σ _ _ _ hb ?_)
      show Wp (WpD (e + 2)) hcX6_goingOn Q (58, [some (.inr (.inr (8, 0))), some (.inl x1), some (.inl x2), some (.inr (.inl x3)), none, some (.inl x5), none, none], [.inl q3.1, .inl x1]) q3.2
      refine Wp.br (WpD.mono _) 0 (c := q3.1 ≤ x1) (q1 := ((105, [some (.inr (.inr (8, 0))), some (.inl x1), some (.inl x2), some (.inr (.inl x3)), none, some (.inl x5), none, none], []), q3.2)) (q2 := ((61, [some (.inr (.inr (8, 0))), some (.inl x1), some (.inl x2), some (.inr (.inl x3)), none, some (.inl x5), none, none], []), q3.2)) rfl (fun hc => ?_) (fun hc => ?_)
      · have h := (if_pos hc).symm.trans h
        refine Wp.run (WpD.mono _) 0 (q := ((106, [none, none, none, some (.inr (.inl x3)), none, none, none, none], [.inr (.inl x3)]), q3.2)) rfl ?_
        cases h
        exact Wp.ret (WpD.mono _) rfl hQ
      · have h := (if_neg hc).symm.trans h
        refine Wp.run (WpD.mono _) 2 (q := ((65, [some (.inr (.inr (8, 0))), some (.inl x1), some (.inl x2), some (.inr (.inl x3)), none, some (.inl x5), none, none], [.inl x5, .inl x1, .inr (.inr (8, 0))]), q3.2)) rfl ?_
        obtain ⟨q4, hb, h⟩ := bind_some h
        refine Wp.call (WpD.mono _) rfl (T_X6_pass (e + 0) N x1 x5 q3.2 _ _ _ hb ?_)
        show Wp (WpD (e + 2)) hcX6_goingOn Q (68, [some (.inr (.inr (8, 0))), some (.inl x1), some (.inl x2), some (.inr (.inl x3)), none, some (.inl x5), none, none], [.inr (.inl q4.1)]) q4.2
        refine Wp.br (WpD.mono _) 4 (c := (lg_cmp q4.1 (0 : Int64)) ≤ 0) (q1 := ((99, [some (.inr (.inr (8, 0))), some (.inl x1), some (.inl x2), some (.inr (.inl x3)), none, some (.inl x5), some (.inr (.inl q4.1)), none], []), q4.2)) (q2 := ((77, [some (.inr (.inr (8, 0))), some (.inl x1), some (.inl x2), some (.inr (.inl x3)), none, some (.inl x5), some (.inr (.inl q4.1)), none], []), q4.2)) rfl (fun hc => ?_) (fun hc => ?_)
        · have h := (if_pos hc).symm.trans h
          refine Wp.run (WpD.mono _) 1 (q := ((44, [some (.inr (.inr (8, 0))), some (.inl x1), some (.inl x2), some (.inr (.inl x3)), none, some (.inl (x5 + (1 : Int32))), none, none], []), q4.2)) rfl ?_
          exact Wp.jump (WpD.mono _) rfl (ih x1 x2 x3 (x5 + (1 : Int32)) q4.2 h)
        · have h := (if_neg hc).symm.trans h
          refine Wp.run (WpD.mono _) 7 (q := ((86, [some (.inr (.inr (8, 0))), some (.inl x1), some (.inl x2), some (.inr (.inl x3)), none, some (.inl x5), some (.inr (.inl q4.1)), none], [.inl x2, .inl (x1 + (1 : Int32)), .inr (.inr (8, 0)), .inr (.inl (0 : Int64)), .inr (.inl q4.1), .inr (.inl x3)]), q4.2)) rfl ?_
          obtain ⟨q5, hb, h⟩ := bind_some h
          refine Wp.call (WpD.mono _) rfl (hg0 (x1 + (1 : Int32)) x2 q4.2 _ _ _ hb ?_)
          show Wp (WpD (e + 2)) hcX6_goingOn Q (89, [some (.inr (.inr (8, 0))), some (.inl x1), some (.inl x2), some (.inr (.inl x3)), none, some (.inl x5), some (.inr (.inl q4.1)), none], [.inr (.inl q5.1), .inr (.inl (0 : Int64)), .inr (.inl q4.1), .inr (.inl x3)]) q5.2
          refine Wp.run (WpD.mono _) 7 (q := ((44, [some (.inr (.inr (8, 0))), some (.inl x1), some (.inl x2), some (.inr (.inl (x3 + ((q4.1 * (if q5.1 < (0 : Int64) then (0 : Int64) else q5.1)) / (1000000 : Int64))))), none, some (.inl (x5 + (1 : Int32))), none, none], []), q5.2)) rfl ?_
          exact Wp.jump (WpD.mono _) rfl (ih x1 x2 (x3 + ((q4.1 * (if q5.1 < (0 : Int64) then (0 : Int64) else q5.1)) / (1000000 : Int64))) (x5 + (1 : Int32)) q5.2 h)

set_option maxRecDepth 100000 in
set_option maxHeartbeats 4000000 in
theorem TB_X6_goingOn (e N : Nat) (g0 : Int32 → Int32 → Mem → Option (Int64 × Mem)) (hg0 : ∀ (a1 : Int32) (a2 : Int32) (σ : Mem) (r : Int64) (τ : Mem) (Q : Pst), g0 a1 a2 σ = some (r, τ) → Q (some (.inr (.inl r))) τ → WpD (e + 2) mX6_goingOn [.inr (.inr (8, 0)), .inl a1, .inl a2] σ Q) (a1 : Int32) (a2 : Int32) (σ : Mem) (r : Int64) (τ : Mem) (Q : Pst) (h : B_X6_goingOn N g0 a1 a2 σ = some (r, τ)) (hQ : Q (some (.inr (.inl r))) τ) : WpD (e + 1 + 2) mX6_goingOn [.inr (.inr (8, 0)), .inl a1, .inl a2] σ Q := by
  refine WpD.of (d := e + 2) (Nat.le_of_ble_eq_true rfl) (Nat.le_of_ble_eq_true rfl) ?_
  show Wp (WpD (e + 2)) hcX6_goingOn Q (0, [some (.inr (.inr (8, 0))), some (.inl a1), some (.inl a2), none, none, none, none, none], []) σ
  unfold B_X6_goingOn at h
  refine Wp.br (WpD.mono _) 2 (c := a1 < (1 : Int32)) (q1 := ((16, [some (.inr (.inr (8, 0))), some (.inl a1), some (.inl a2), none, none, none, none, none], []), σ)) (q2 := ((5, [some (.inr (.inr (8, 0))), some (.inl a1), some (.inl a2), none, none, none, none, none], []), σ)) rfl (fun hc => ?_) (fun hc => ?_)
  · have h := (if_pos hc).symm.trans h
    refine Wp.run (WpD.mono _) 0 (q := ((17, [none, none, none, none, none, none, none, none], [.inr (.inl (0 : Int64))]), σ)) rfl ?_
    cases h
    exact Wp.ret (WpD.mono _) rfl hQ
  · have h := (if_neg hc).symm.trans h
    refine Wp.run (WpD.mono _) 2 (q := ((10, [some (.inr (.inr (8, 0))), some (.inl a1), some (.inl a2), none, none, none, none, none], [.inr (.inr (1, 0)), .inl a1]), σ)) rfl ?_
    obtain ⟨q1, hb, h⟩ := bind_some h
    refine Wp.call (WpD.mono _) rfl (T_X2_deepest (e + 1) N σ _ _ _ hb ?_)
    show Wp (WpD (e + 2)) hcX6_goingOn Q (13, [some (.inr (.inr (8, 0))), some (.inl a1), some (.inl a2), none, none, none, none, none], [.inl q1.1, .inl a1]) q1.2
    refine Wp.br (WpD.mono _) 0 (c := a1 ≤ q1.1) (q1 := ((18, [some (.inr (.inr (8, 0))), some (.inl a1), some (.inl a2), none, none, none, none, none], []), q1.2)) (q2 := ((16, [some (.inr (.inr (8, 0))), some (.inl a1), some (.inl a2), none, none, none, none, none], []), q1.2)) rfl (fun hc => ?_) (fun hc => ?_)
    · have h := (if_pos hc).symm.trans h
      refine Wp.run (WpD.mono _) 3 (q := ((22, [some (.inr (.inr (8, 0))), some (.inl a1), some (.inl a2), none, none, none, none, none], [.inl (0 : Int32), .inl a2, .inl a1, .inr (.inr (8, 0))]), q1.2)) rfl ?_
      obtain ⟨q2, hb, h⟩ := bind_some h
      refine Wp.call (WpD.mono _) rfl (T_X6_gain (e + 0) N a1 a2 (0 : Int32) q1.2 _ _ _ hb ?_)
      show Wp (WpD (e + 2)) hcX6_goingOn Q (25, [some (.inr (.inr (8, 0))), some (.inl a1), some (.inl a2), none, none, none, none, none], [.inr (.inl q2.1)]) q2.2
      obtain ⟨hc, h⟩ := ite_nn h
      refine Wp.no (WpD.mono _) 5 (c := hwOut a1 6) (q := ((37, [some (.inr (.inr (8, 0))), some (.inl a1), some (.inl a2), none, none, none, none, none], [.inl (q2.2.2.2.1 42 0 (a1).toNatClampNeg), .inr (.inl (1000000 : Int64)), .inr (.inl q2.1)]), q2.2)) rfl hc ?_
      refine Wp.run (WpD.mono _) 5 (q := ((44, [some (.inr (.inr (8, 0))), some (.inl a1), some (.inl a2), some (.inr (.inl (q2.1 - ((1000000 : Int64) * (q2.2.2.2.1 42 0 (a1).toNatClampNeg).toInt64)))), none, some (.inl (0 : Int32)), none, none], []), q2.2)) rfl ?_
      exact Wp.jump (WpD.mono _) rfl ((T_X6_goingOn_b44 e N g0 hg0 r τ Q hQ  N) a1 a2 (q2.1 - ((1000000 : Int64) * (q2.2.2.2.1 42 0 (a1).toNatClampNeg).toInt64)) (0 : Int32) q2.2 h)
    · have h := (if_neg hc).symm.trans h
      refine Wp.run (WpD.mono _) 0 (q := ((17, [none, none, none, none, none, none, none, none], [.inr (.inl (0 : Int64))]), q1.2)) rfl ?_
      cases h
      exact Wp.ret (WpD.mono _) rfl hQ

set_option maxRecDepth 100000 in
theorem TG_X6_goingOn (e N : Nat) : ∀ d : Nat, (∀ (a1 : Int32) (a2 : Int32) (σ : Mem) (r : Int64) (τ : Mem) (Q : Pst), (G_X6_goingOn N d) a1 a2 σ = some (r, τ) → Q (some (.inr (.inl r))) τ → WpD (e + d + 2) mX6_goingOn [.inr (.inr (8, 0)), .inl a1, .inl a2] σ Q) := by
  intro d
  induction d with
  | zero =>
    exact fun _ _ _ _ _ _ h => nomatch h
  | succ d ih =>
    exact fun a1 a2 σ r τ Q h hQ => TB_X6_goingOn (e + d) N (G_X6_goingOn N d) ih a1 a2 σ r τ Q h hQ

theorem T_X6_goingOn (e N : Nat) (a1 : Int32) (a2 : Int32) (σ : Mem) (r : Int64) (τ : Mem) (Q : Pst) (h : F_X6_goingOn N a1 a2 σ = some (r, τ)) (hQ : Q (some (.inr (.inl r))) τ) : WpD (e + 12) mX6_goingOn [.inr (.inr (8, 0)), .inl a1, .inl a2] σ Q := (TG_X6_goingOn e N 10) a1 a2 σ r τ Q h hQ
set_option maxRecDepth 100000 in
set_option maxHeartbeats 4000000 in
theorem T_X6_wet_b5 (e N : Nat)   (r : Int64) (τ : Mem) (Q : Pst) (hQ : Q (some (.inr (.inl r))) τ) : ∀ n, ∀ (x1 : Int32) (x2 : Int64) (x4 : Int32) (σ : Mem), F_X6_wet_b5 N n x1 x2 x4 σ = some (r, τ) → Wp (WpD (e + 1)) hcX6_wet Q (5, [some (.inr (.inr (8, 0))), some (.inl x1), some (.inr (.inl x2)), none, some (.inl x4)], []) σ := by
  intro n
  induction n with
  | zero => intro x1 x2 x4 σ h; cases h
  | succ n ih =>
    intro x1 x2 x4 σ h
    unfold F_X6_wet_b5 at h
    refine Wp.br (WpD.mono _) 4 (c := (σ.1 1 6) ≤ x4) (q1 := ((33, [some (.inr (.inr (8, 0))), some (.inl x1), some (.inr (.inl x2)), none, some (.inl x4)], []), σ)) (q2 := ((17, [some (.inr (.inr (8, 0))), some (.inl x1), some (.inr (.inl x2)), none, some (.inl x4)], []), σ)) rfl (fun hc => ?_) (fun hc => ?_)
    · have h := (if_pos hc).symm.trans h
      refine Wp.run (WpD.mono _) 0 (q := ((34, [some (.inr (.inr (8, 0))), some (.inl x1), some (.inr (.inl x2)), none, some (.inl x4)], [.inr (.inl x2)]), σ)) rfl ?_
      cases h
      exact Wp.ret (WpD.mono _) rfl hQ
    · have h := (if_neg hc).symm.trans h
      refine Wp.run (WpD.mono _) 3 (q := ((22, [some (.inr (.inr (8, 0))), some (.inl x1), some (.inr (.inl x2)), none, some (.inl x4)], [.inl x4, .inl x1, .inr (.inr (8, 0)), .inr (.inl x2)]), σ)) rfl ?_
      obtain ⟨q1, hb, h⟩ := bind_some h
      refine Wp.call (WpD.mono _) rfl (T_X6_wetOf (e + 0) N x1 x4 σ _ _ _ hb ?_)
      show Wp (WpD (e + 1)) hcX6_wet Q (25, [some (.inr (.inr (8, 0))), some (.inl x1), some (.inr (.inl x2)), none, some (.inl x4)], [.inr (.inl q1.1), .inr (.inl x2)]) q1.2
      refine Wp.run (WpD.mono _) 3 (q := ((5, [some (.inr (.inr (8, 0))), some (.inl x1), some (.inr (.inl (x2 + q1.1))), none, some (.inl (x4 + (1 : Int32)))], []), q1.2)) rfl ?_
      exact Wp.jump (WpD.mono _) rfl (ih x1 (x2 + q1.1) (x4 + (1 : Int32)) q1.2 h)

set_option maxRecDepth 100000 in
set_option maxHeartbeats 4000000 in
theorem T_X6_wet (e N : Nat)  (a1 : Int32) (σ : Mem) (r : Int64) (τ : Mem) (Q : Pst) (h : F_X6_wet N a1 σ = some (r, τ)) (hQ : Q (some (.inr (.inl r))) τ) : WpD (e + 2) mX6_wet [.inr (.inr (8, 0)), .inl a1] σ Q := by
  refine WpD.of (d := e + 1) (Nat.le_of_ble_eq_true rfl) (Nat.le_of_ble_eq_true rfl) ?_
  show Wp (WpD (e + 1)) hcX6_wet Q (0, [some (.inr (.inr (8, 0))), some (.inl a1), none, none, none], []) σ
  unfold F_X6_wet at h
  refine Wp.run (WpD.mono _) 3 (q := ((5, [some (.inr (.inr (8, 0))), some (.inl a1), some (.inr (.inl (0 : Int64))), none, some (.inl (0 : Int32))], []), σ)) rfl ?_
  exact Wp.jump (WpD.mono _) rfl ((T_X6_wet_b5 e N  r τ Q hQ  N) a1 (0 : Int64) (0 : Int32) σ h)

set_option maxRecDepth 100000 in
set_option maxHeartbeats 4000000 in
theorem T_X9_goesOn_b56 (e N : Nat)   (r : Int32) (τ : Mem) (Q : Pst) (hQ : Q (some (.inl r)) τ) : ∀ (x1 : Int32) (x2 : Int32) (x4 : Int32) (s0 : Int32) (σ : Mem), F_X9_goesOn_b56 N x1 x2 x4 s0 σ = some (r, τ) → Wp (WpD (e + 12)) hcX9_goesOn Q (56, [some (.inr (.inr (6, 0))), some (.inl x1), some (.inl x2), none, some (.inl x4), none], [.inl s0]) σ := by
  intro x1 x2 x4 s0 σ h
  unfold F_X9_goesOn_b56 at h
  obtain ⟨hc, h⟩ := ite_nn h
  refine Wp.no (WpD.mono _) 4 (c := hwOut x1 8) (q := ((64, [some (.inr (.inr (6, 0))), some (.inl x1), some (.inl x2), none, some (.inl x4), some (.inl s0)], [.inl (σ.2.2.1 65 0 (x1).toNatClampNeg)]), σ)) rfl hc ?_
  by_cases hs0 : (σ.2.2.1 65 0 (x1).toNatClampNeg) = 1
  · have h := (if_pos hs0).symm.trans h
    refine Wp.swIn (WpD.mono _) (q := ((100, [some (.inr (.inr (6, 0))), some (.inl x1), some (.inl x2), none, some (.inl x4), some (.inl s0)], []), σ)) hs0 rfl ?_
    refine Wp.run (WpD.mono _) 0 (q := ((102, [some (.inr (.inr (6, 0))), some (.inl x1), some (.inl x2), none, some (.inl x4), some (.inl s0)], [.inl x4]), σ)) rfl ?_
    obtain ⟨hc, h⟩ := ite_yy h
    cases h
    exact Wp.retZ (WpD.mono _) rfl hc hQ
  have h := (if_neg hs0).symm.trans h
  by_cases hs1 : (σ.2.2.1 65 0 (x1).toNatClampNeg) = 2
  · have h := (if_pos hs1).symm.trans h
    refine Wp.swIn (WpD.mono _) (q := ((103, [some (.inr (.inr (6, 0))), some (.inl x1), some (.inl x2), none, some (.inl x4), some (.inl s0)], []), σ)) hs1 rfl ?_
    refine Wp.br (WpD.mono _) 1 (c := x4 = 0) (q1 := ((117, [some (.inr (.inr (6, 0))), some (.inl x1), some (.inl x2), none, some (.inl x4), some (.inl s0)], []), σ)) (q2 := ((108, [some (.inr (.inr (6, 0))), some (.inl x1), some (.inl x2), none, some (.inl x4), some (.inl s0)], []), σ)) rfl (fun hc => ?_) (fun hc => ?_)
    · have h := (if_pos hc).symm.trans h
      refine Wp.run (WpD.mono _) 0 (q := ((118, [none, none, none, none, none, none], [.inl (0 : Int32)]), σ)) rfl ?_
      cases h
      exact Wp.ret (WpD.mono _) rfl hQ
    · have h := (if_neg hc).symm.trans h
      refine Wp.br (WpD.mono _) 1 (c := s0 = 0) (q1 := ((113, [some (.inr (.inr (6, 0))), some (.inl x1), some (.inl x2), none, some (.inl x4), some (.inl s0)], []), σ)) (q2 := ((117, [some (.inr (.inr (6, 0))), some (.inl x1), some (.inl x2), none, some (.inl x4), some (.inl s0)], []), σ)) rfl (fun hc => ?_) (fun hc => ?_)
      · have h := (if_pos hc).symm.trans h
        refine Wp.run (WpD.mono _) 1 (q := ((118, [some (.inr (.inr (6, 0))), some (.inl x1), some (.inl x2), none, some (.inl x4), some (.inl s0)], [.inl (1 : Int32)]), σ)) rfl ?_
        cases h
        exact Wp.ret (WpD.mono _) rfl hQ
      · have h := (if_neg hc).symm.trans h
        refine Wp.run (WpD.mono _) 0 (q := ((118, [none, none, none, none, none, none], [.inl (0 : Int32)]), σ)) rfl ?_
        cases h
        exact Wp.ret (WpD.mono _) rfl hQ
  have h := (if_neg hs1).symm.trans h
  by_cases hs2 : (σ.2.2.1 65 0 (x1).toNatClampNeg) = 3
  · have h := (if_pos hs2).symm.trans h
    refine Wp.swIn (WpD.mono _) (q := ((119, [some (.inr (.inr (6, 0))), some (.inl x1), some (.inl x2), none, some (.inl x4), some (.inl s0)], []), σ)) hs2 rfl ?_
    refine Wp.run (WpD.mono _) 7 (q := ((133, [some (.inr (.inr (6, 0))), some (.inl x1), some (.inl x2), none, some (.inl x4), some (.inl s0)], [.inr (.inr (1, 0)), .inl (x2 + (1 : Int32)), .inr (.inr (8, 0))]), σ)) rfl ?_
    obtain ⟨q2, hb, h⟩ := bind_some h
    refine Wp.call (WpD.mono _) rfl (T_X2_worth (e + 11) N σ _ _ _ hb ?_)
    show Wp (WpD (e + 12)) hcX9_goesOn Q (136, [some (.inr (.inr (6, 0))), some (.inl x1), some (.inl x2), none, some (.inl x4), some (.inl s0)], [.inl q2.1, .inl (x2 + (1 : Int32)), .inr (.inr (8, 0))]) q2.2
    obtain ⟨q3, hb, h⟩ := bind_some h
    refine Wp.call (WpD.mono _) rfl (T_X6_goingOn (e + 0) N (x2 + (1 : Int32)) q2.1 q2.2 _ _ _ hb ?_)
    show Wp (WpD (e + 12)) hcX9_goesOn Q (139, [some (.inr (.inr (6, 0))), some (.inl x1), some (.inl x2), none, some (.inl x4), some (.inl s0)], [.inr (.inl q3.1)]) q3.2
    refine Wp.br (WpD.mono _) 2 (c := (lg_cmp q3.1 (0 : Int64)) ≤ 0) (q1 := ((148, [some (.inr (.inr (6, 0))), some (.inl x1), some (.inl x2), none, some (.inl x4), some (.inl s0)], []), q3.2)) (q2 := ((144, [some (.inr (.inr (6, 0))), some (.inl x1), some (.inl x2), none, some (.inl x4), some (.inl s0)], []), q3.2)) rfl (fun hc => ?_) (fun hc => ?_)
    · have h := (if_pos hc).symm.trans h
      refine Wp.run (WpD.mono _) 0 (q := ((149, [some (.inr (.inr (6, 0))), some (.inl x1), some (.inl x2), none, some (.inl x4), some (.inl s0)], [.inl (0 : Int32)]), q3.2)) rfl ?_
      cases h
      exact Wp.ret (WpD.mono _) rfl hQ
    · have h := (if_neg hc).symm.trans h
      refine Wp.run (WpD.mono _) 1 (q := ((149, [some (.inr (.inr (6, 0))), some (.inl x1), some (.inl x2), none, some (.inl x4), some (.inl s0)], [.inl (1 : Int32)]), q3.2)) rfl ?_
      cases h
      exact Wp.ret (WpD.mono _) rfl hQ
  have h := (if_neg hs2).symm.trans h
  by_cases hs3 : (σ.2.2.1 65 0 (x1).toNatClampNeg) = 4
  · have h := (if_pos hs3).symm.trans h
    refine Wp.swIn (WpD.mono _) (q := ((150, [some (.inr (.inr (6, 0))), some (.inl x1), some (.inl x2), none, some (.inl x4), some (.inl s0)], []), σ)) hs3 rfl ?_
    refine Wp.br (WpD.mono _) 1 (c := x4 = 0) (q1 := ((183, [some (.inr (.inr (6, 0))), some (.inl x1), some (.inl x2), none, some (.inl x4), some (.inl s0)], []), σ)) (q2 := ((155, [some (.inr (.inr (6, 0))), some (.inl x1), some (.inl x2), none, some (.inl x4), some (.inl s0)], []), σ)) rfl (fun hc => ?_) (fun hc => ?_)
    · have h := (if_pos hc).symm.trans h
      refine Wp.run (WpD.mono _) 0 (q := ((184, [none, none, none, none, none, none], [.inl (0 : Int32)]), σ)) rfl ?_
      cases h
      exact Wp.ret (WpD.mono _) rfl hQ
    · have h := (if_neg hc).symm.trans h
      refine Wp.run (WpD.mono _) 4 (q := ((162, [some (.inr (.inr (6, 0))), some (.inl x1), some (.inl x2), none, some (.inl x4), some (.inl s0)], [.inl (x2 + (1 : Int32)), .inr (.inr (8, 0))]), σ)) rfl ?_
      obtain ⟨q4, hb, h⟩ := bind_some h
      refine Wp.call (WpD.mono _) rfl (T_X6_wet (e + 10) N (x2 + (1 : Int32)) σ _ _ _ hb ?_)
      show Wp (WpD (e + 12)) hcX9_goesOn Q (165, [some (.inr (.inr (6, 0))), some (.inl x1), some (.inl x2), none, some (.inl x4), some (.inl s0)], [.inr (.inl q4.1)]) q4.2
      obtain ⟨hc, h⟩ := ite_nn h
      refine Wp.no (WpD.mono _) 4 (c := hwOut x1 8) (q := ((173, [some (.inr (.inr (6, 0))), some (.inl x1), some (.inl x2), none, some (.inl x4), some (.inl s0)], [.inl (q4.2.2.2.1 67 0 (x1).toNatClampNeg), .inl (100000 : Int32), .inr (.inl q4.1)]), q4.2)) rfl hc ?_
      refine Wp.br (WpD.mono _) 3 (c := (lg_cmp q4.1 ((100000 : Int32) * (q4.2.2.2.1 67 0 (x1).toNatClampNeg)).toInt64) < 0) (q1 := ((183, [some (.inr (.inr (6, 0))), some (.inl x1), some (.inl x2), none, some (.inl x4), some (.inl s0)], []), q4.2)) (q2 := ((179, [some (.inr (.inr (6, 0))), some (.inl x1), some (.inl x2), none, some (.inl x4), some (.inl s0)], []), q4.2)) rfl (fun hc => ?_) (fun hc => ?_)
      · have h := (if_pos hc).symm.trans h
        refine Wp.run (WpD.mono _) 0 (q := ((184, [none, none, none, none, none, none], [.inl (0 : Int32)]), q4.2)) rfl ?_
        cases h
        exact Wp.ret (WpD.mono _) rfl hQ
      · have h := (if_neg hc).symm.trans h
        refine Wp.run (WpD.mono _) 1 (q := ((184, [some (.inr (.inr (6, 0))), some (.inl x1), some (.inl x2), none, some (.inl x4), some (.inl s0)], [.inl (1 : Int32)]), q4.2)) rfl ?_
        cases h
        exact Wp.ret (WpD.mono _) rfl hQ
  have h := (if_neg hs3).symm.trans h
  by_cases hs4 : (σ.2.2.1 65 0 (x1).toNatClampNeg) = 5
  · have h := (if_pos hs4).symm.trans h
    refine Wp.swIn (WpD.mono _) (q := ((185, [some (.inr (.inr (6, 0))), some (.inl x1), some (.inl x2), none, some (.inl x4), some (.inl s0)], []), σ)) hs4 rfl ?_
    refine Wp.br (WpD.mono _) 2 (c := x2 = (1 : Int32)) (q1 := ((200, [some (.inr (.inr (6, 0))), some (.inl x1), some (.inl x2), none, some (.inl x4), some (.inl s0)], []), σ)) (q2 := ((190, [some (.inr (.inr (6, 0))), some (.inl x1), some (.inl x2), none, some (.inl x4), some (.inl s0)], []), σ)) rfl (fun hc => ?_) (fun hc => ?_)
    · have h := (if_pos hc).symm.trans h
      refine Wp.run (WpD.mono _) 1 (q := ((205, [none, none, none, none, none, none], [.inl (1 : Int32)]), σ)) rfl ?_
      cases h
      exact Wp.ret (WpD.mono _) rfl hQ
    · have h := (if_neg hc).symm.trans h
      refine Wp.br (WpD.mono _) 1 (c := x4 = 0) (q1 := ((204, [some (.inr (.inr (6, 0))), some (.inl x1), some (.inl x2), none, some (.inl x4), some (.inl s0)], []), σ)) (q2 := ((195, [some (.inr (.inr (6, 0))), some (.inl x1), some (.inl x2), none, some (.inl x4), some (.inl s0)], []), σ)) rfl (fun hc => ?_) (fun hc => ?_)
      · have h := (if_pos hc).symm.trans h
        refine Wp.run (WpD.mono _) 0 (q := ((205, [none, none, none, none, none, none], [.inl (0 : Int32)]), σ)) rfl ?_
        cases h
        exact Wp.ret (WpD.mono _) rfl hQ
      · have h := (if_neg hc).symm.trans h
        refine Wp.br (WpD.mono _) 1 (c := s0 = 0) (q1 := ((200, [some (.inr (.inr (6, 0))), some (.inl x1), some (.inl x2), none, some (.inl x4), some (.inl s0)], []), σ)) (q2 := ((204, [some (.inr (.inr (6, 0))), some (.inl x1), some (.inl x2), none, some (.inl x4), some (.inl s0)], []), σ)) rfl (fun hc => ?_) (fun hc => ?_)
        · have h := (if_pos hc).symm.trans h
          refine Wp.run (WpD.mono _) 1 (q := ((205, [none, none, none, none, none, none], [.inl (1 : Int32)]), σ)) rfl ?_
          cases h
          exact Wp.ret (WpD.mono _) rfl hQ
        · have h := (if_neg hc).symm.trans h
          refine Wp.run (WpD.mono _) 0 (q := ((205, [none, none, none, none, none, none], [.inl (0 : Int32)]), σ)) rfl ?_
          cases h
          exact Wp.ret (WpD.mono _) rfl hQ
  have h := (if_neg hs4).symm.trans h
  have ehs0 : ¬ ((σ.2.2.1 65 0 (x1).toNatClampNeg)).toInt = 1 := fun z => hs0 (Int32.toInt_inj.mp z)
  have ehs1 : ¬ ((σ.2.2.1 65 0 (x1).toNatClampNeg)).toInt = 2 := fun z => hs1 (Int32.toInt_inj.mp z)
  have ehs2 : ¬ ((σ.2.2.1 65 0 (x1).toNatClampNeg)).toInt = 3 := fun z => hs2 (Int32.toInt_inj.mp z)
  have ehs3 : ¬ ((σ.2.2.1 65 0 (x1).toNatClampNeg)).toInt = 4 := fun z => hs3 (Int32.toInt_inj.mp z)
  have ehs4 : ¬ ((σ.2.2.1 65 0 (x1).toNatClampNeg)).toInt = 5 := fun z => hs4 (Int32.toInt_inj.mp z)
  refine Wp.swOut (WpD.mono _) (q := ((206, [some (.inr (.inr (6, 0))), some (.inl x1), some (.inl x2), none, some (.inl x4), some (.inl s0)], []), σ)) (o := if ((σ.2.2.1 65 0 (x1).toNatClampNeg)).toInt < 1 ∨ 5 < ((σ.2.2.1 65 0 (x1).toNatClampNeg)).toInt then some (142) else #[36, 39, 55, 86, 121][(((σ.2.2.1 65 0 (x1).toNatClampNeg)).toInt - 1).toNat]?) (o' := some (142)) rfl (if_pos (by omega)) rfl ?_
  refine Wp.run (WpD.mono _) 0 (q := ((207, [some (.inr (.inr (6, 0))), some (.inl x1), some (.inl x2), none, some (.inl x4), some (.inl s0)], [.inl (0 : Int32)]), σ)) rfl ?_
  cases h
  exact Wp.ret (WpD.mono _) rfl hQ

set_option maxRecDepth 100000 in
set_option maxHeartbeats 4000000 in
theorem T_X9_goesOn_b55 (e N : Nat)  (k56 : Int32 → Int32 → Int32 → Int32 → Mem → Option (Int32 × Mem)) (r : Int32) (τ : Mem) (Q : Pst) (hQ : Q (some (.inl r)) τ) (hk56 : ∀ (x1 : Int32) (x2 : Int32) (x4 : Int32) (s0 : Int32) (σ : Mem), k56 x1 x2 x4 s0 σ = some (r, τ) → Wp (WpD (e + 12)) hcX9_goesOn Q (56, [some (.inr (.inr (6, 0))), some (.inl x1), some (.inl x2), none, some (.inl x4), none], [.inl s0]) σ) : ∀ (x1 : Int32) (x2 : Int32) (x4 : Int32) (σ : Mem), F_X9_goesOn_b55 N k56 x1 x2 x4 σ = some (r, τ) → Wp (WpD (e + 12)) hcX9_goesOn Q (55, [some (.inr (.inr (6, 0))), some (.inl x1), some (.inl x2), none, some (.inl x4), none], []) σ := by
  intro x1 x2 x4 σ h
  unfold F_X9_goesOn_b55 at h
  refine Wp.run (WpD.mono _) 0 (q := ((56, [some (.inr (.inr (6, 0))), some (.inl x1), some (.inl x2), none, some (.inl x4), none], [.inl (0 : Int32)]), σ)) rfl ?_
  exact Wp.jump (WpD.mono _) rfl (hk56 x1 x2 x4 (0 : Int32) σ h)

set_option maxRecDepth 100000 in
set_option maxHeartbeats 4000000 in
theorem T_X9_goesOn_b31 (e N : Nat)   (r : Int32) (τ : Mem) (Q : Pst) (hQ : Q (some (.inl r)) τ) : ∀ (x1 : Int32) (x2 : Int32) (x3 : Int32) (s0 : Int32) (σ : Mem), F_X9_goesOn_b31 N x1 x2 x3 s0 σ = some (r, τ) → Wp (WpD (e + 12)) hcX9_goesOn Q (31, [some (.inr (.inr (6, 0))), some (.inl x1), some (.inl x2), some (.inl x3), none, none], [.inl s0]) σ := by
  intro x1 x2 x3 s0 σ h
  unfold F_X9_goesOn_b31 at h
  refine Wp.br (WpD.mono _) 2 (c := x3 < 0) (q1 := ((55, [some (.inr (.inr (6, 0))), some (.inl x1), some (.inl x2), some (.inl x3), some (.inl s0), none], []), σ)) (q2 := ((37, [some (.inr (.inr (6, 0))), some (.inl x1), some (.inl x2), some (.inl x3), some (.inl s0), none], []), σ)) rfl (fun hc => ?_) (fun hc => ?_)
  · have h := (if_pos hc).symm.trans h
    exact Wp.jump (WpD.mono _) rfl ((T_X9_goesOn_b55 e N (F_X9_goesOn_b56 N) r τ Q hQ (T_X9_goesOn_b56 e N  r τ Q hQ )) x1 x2 s0 σ h)
  · have h := (if_neg hc).symm.trans h
    obtain ⟨hc, h⟩ := ite_nn h
    refine Wp.no (WpD.mono _) 3 (c := hwOut x1 8) (q := ((43, [some (.inr (.inr (6, 0))), some (.inl x1), some (.inl x2), some (.inl x3), some (.inl s0), none], [.inl (σ.2.2.1 67 0 (x1).toNatClampNeg)]), σ)) rfl hc ?_
    refine Wp.br (WpD.mono _) 5 (c := (((σ.2.2.1 67 0 (x1).toNatClampNeg) >>> (x3 &&& 31)) &&& (1 : Int32)) = (1 : Int32)) (q1 := ((51, [some (.inr (.inr (6, 0))), some (.inl x1), some (.inl x2), some (.inl x3), some (.inl s0), none], []), σ)) (q2 := ((55, [some (.inr (.inr (6, 0))), some (.inl x1), some (.inl x2), some (.inl x3), some (.inl s0), none], []), σ)) rfl (fun hc => ?_) (fun hc => ?_)
    · have h := (if_pos hc).symm.trans h
      refine Wp.run (WpD.mono _) 1 (q := ((56, [some (.inr (.inr (6, 0))), some (.inl x1), some (.inl x2), some (.inl x3), some (.inl s0), none], [.inl (1 : Int32)]), σ)) rfl ?_
      exact Wp.jump (WpD.mono _) rfl ((T_X9_goesOn_b56 e N  r τ Q hQ ) x1 x2 s0 (1 : Int32) σ h)
    · have h := (if_neg hc).symm.trans h
      exact Wp.jump (WpD.mono _) rfl ((T_X9_goesOn_b55 e N (F_X9_goesOn_b56 N) r τ Q hQ (T_X9_goesOn_b56 e N  r τ Q hQ )) x1 x2 s0 σ h)

set_option maxRecDepth 100000 in
set_option maxHeartbeats 4000000 in
theorem T_X9_goesOn (e N : Nat)  (a1 : Int32) (a2 : Int32) (a3 : Int32) (σ : Mem) (r : Int32) (τ : Mem) (Q : Pst) (h : F_X9_goesOn N a1 a2 a3 σ = some (r, τ)) (hQ : Q (some (.inl r)) τ) : WpD (e + 13) mX9_goesOn [.inr (.inr (6, 0)), .inl a1, .inl a2, .inl a3] σ Q := by
  refine WpD.of (d := e + 12) (Nat.le_of_ble_eq_true rfl) (Nat.le_of_ble_eq_true rfl) ?_
  show Wp (WpD (e + 12)) hcX9_goesOn Q (0, [some (.inr (.inr (6, 0))), some (.inl a1), some (.inl a2), some (.inl a3), none, none], []) σ
  unfold F_X9_goesOn at h
  refine Wp.run (WpD.mono _) 3 (q := ((8, [some (.inr (.inr (6, 0))), some (.inl a1), some (.inl a2), some (.inl a3), none, none], [.inr (.inr (1, 0)), .inl a2]), σ)) rfl ?_
  obtain ⟨q1, hb, h⟩ := bind_some h
  refine Wp.call (WpD.mono _) rfl (T_X2_deepest (e + 11) N σ _ _ _ hb ?_)
  show Wp (WpD (e + 12)) hcX9_goesOn Q (11, [some (.inr (.inr (6, 0))), some (.inl a1), some (.inl a2), some (.inl a3), none, none], [.inl q1.1, .inl a2]) q1.2
  refine Wp.br (WpD.mono _) 0 (c := a2 < q1.1) (q1 := ((16, [some (.inr (.inr (6, 0))), some (.inl a1), some (.inl a2), some (.inl a3), none, none], []), q1.2)) (q2 := ((14, [some (.inr (.inr (6, 0))), some (.inl a1), some (.inl a2), some (.inl a3), none, none], []), q1.2)) rfl (fun hc => ?_) (fun hc => ?_)
  · have h := (if_pos hc).symm.trans h
    obtain ⟨hc, h⟩ := ite_nn h
    refine Wp.no (WpD.mono _) 4 (c := hwOut a1 8) (q := ((23, [some (.inr (.inr (6, 0))), some (.inl a1), some (.inl a2), some (.inl a3), none, none], [.inl (q1.2.2.2.1 66 0 (a1).toNatClampNeg), .inl a2]), q1.2)) rfl hc ?_
    refine Wp.br (WpD.mono _) 0 (c := (q1.2.2.2.1 66 0 (a1).toNatClampNeg) ≤ a2) (q1 := ((30, [some (.inr (.inr (6, 0))), some (.inl a1), some (.inl a2), some (.inl a3), none, none], []), q1.2)) (q2 := ((26, [some (.inr (.inr (6, 0))), some (.inl a1), some (.inl a2), some (.inl a3), none, none], []), q1.2)) rfl (fun hc => ?_) (fun hc => ?_)
    · have h := (if_pos hc).symm.trans h
      refine Wp.run (WpD.mono _) 0 (q := ((31, [some (.inr (.inr (6, 0))), some (.inl a1), some (.inl a2), some (.inl a3), none, none], [.inl (0 : Int32)]), q1.2)) rfl ?_
      exact Wp.jump (WpD.mono _) rfl ((T_X9_goesOn_b31 e N  r τ Q hQ ) a1 a2 a3 (0 : Int32) q1.2 h)
    · have h := (if_neg hc).symm.trans h
      refine Wp.run (WpD.mono _) 1 (q := ((31, [some (.inr (.inr (6, 0))), some (.inl a1), some (.inl a2), some (.inl a3), none, none], [.inl (1 : Int32)]), q1.2)) rfl ?_
      exact Wp.jump (WpD.mono _) rfl ((T_X9_goesOn_b31 e N  r τ Q hQ ) a1 a2 a3 (1 : Int32) q1.2 h)
  · have h := (if_neg hc).symm.trans h
    refine Wp.run (WpD.mono _) 0 (q := ((15, [some (.inr (.inr (6, 0))), some (.inl a1), some (.inl a2), some (.inl a3), none, none], [.inl (0 : Int32)]), q1.2)) rfl ?_
    cases h
    exact Wp.ret (WpD.mono _) rfl hQ

set_option maxRecDepth 100000 in
set_option maxHeartbeats 4000000 in
theorem T_X0_work_b76 (e N : Nat)   (r : Unit) (τ : Mem) (Q : Pst) (hQ : Q (none) τ) : ∀ n, ∀ (x1 : Int32) (x5 : Int32) (x6 : Int32) (x7 : Int32) (σ : Mem), F_X0_work_b76 N n x1 x5 x6 x7 σ = some (r, τ) → Wp (WpD (e + 13)) hcX0_work Q (76, [some (.inr (.inr (10, 0))), some (.inl x1), none, none, some (.inr (.inr (1, 0))), some (.inl x5), some (.inl x6), some (.inl x7)], []) σ := by
  intro n
  induction n with
  | zero => intro x1 x5 x6 x7 σ h; cases h
  | succ n ih =>
    intro x1 x5 x6 x7 σ h
    unfold F_X0_work_b76 at h
    refine Wp.br (WpD.mono _) 2 (c := (5 : Int32) < x7) (q1 := ((220, [some (.inr (.inr (10, 0))), some (.inl x1), none, none, some (.inr (.inr (1, 0))), some (.inl x5), some (.inl x6), some (.inl x7)], []), σ)) (q2 := ((82, [some (.inr (.inr (10, 0))), some (.inl x1), none, none, some (.inr (.inr (1, 0))), some (.inl x5), some (.inl x6), some (.inl x7)], []), σ)) rfl (fun hc => ?_) (fun hc => ?_)
    · have h := (if_pos hc).symm.trans h
      cases h
      exact Wp.ret (WpD.mono _) rfl hQ
    · have h := (if_neg hc).symm.trans h
      refine Wp.run (WpD.mono _) 5 (q := ((93, [some (.inr (.inr (10, 0))), some (.inl x1), none, none, some (.inr (.inr (1, 0))), some (.inl x5), some (.inl x6), some (.inl x7)], [.inl x6, .inl (σ.1 10 5), .inl x1, .inr (.inr (6, 0))]), σ)) rfl ?_
      obtain ⟨q4, hb, h⟩ := bind_some h
      refine Wp.call (WpD.mono _) rfl (T_X9_goesOn (e + 0) N x1 (σ.1 10 5) x6 σ _ _ _ hb ?_)
      show Wp (WpD (e + 13)) hcX0_work Q (96, [some (.inr (.inr (10, 0))), some (.inl x1), none, none, some (.inr (.inr (1, 0))), some (.inl x5), some (.inl x6), some (.inl x7)], [.inl q4.1]) q4.2
      refine Wp.br (WpD.mono _) 0 (c := q4.1 = 0) (q1 := ((220, [some (.inr (.inr (10, 0))), some (.inl x1), none, none, some (.inr (.inr (1, 0))), some (.inl x5), some (.inl x6), some (.inl x7)], []), q4.2)) (q2 := ((99, [some (.inr (.inr (10, 0))), some (.inl x1), none, none, some (.inr (.inr (1, 0))), some (.inl x5), some (.inl x6), some (.inl x7)], []), q4.2)) rfl (fun hc => ?_) (fun hc => ?_)
      · have h := (if_pos hc).symm.trans h
        cases h
        exact Wp.ret (WpD.mono _) rfl hQ
      · have h := (if_neg hc).symm.trans h
        obtain ⟨hc, h⟩ := ite_nn h
        refine Wp.no (WpD.mono _) 8 (c := hwOut x7 6) (q := ((117, [some (.inr (.inr (10, 0))), some (.inl x1), none, none, some (.inr (.inr (1, 0))), some (.inl x5), some (.inl x6), some (.inl x7)], [.inl (q4.2.2.2.1 42 0 (x7).toNatClampNeg), .inl (q4.2.1 10 3), .inr (.inr (10, 0))]), q4.2)) rfl hc ?_
        refine Wp.run (WpD.mono _) 5 (q := ((128, [some (.inr (.inr (10, 0))), some (.inl x1), none, none, some (.inr (.inr (1, 0))), some (.inl x5), some (.inl x6), some (.inl x7)], [.inr (.inr (10, 0))]), ((hwU2 (hwU2 q4.2.1 10 3 ((q4.2.1 10 3) + (q4.2.2.2.1 42 0 (x7).toNatClampNeg))) 10 5 x7), q4.2.2.1, q4.2.2.2.1, q4.2.2.2.2.1, q4.2.2.2.2.2))) rfl ?_
        obtain ⟨q5, hb, h⟩ := bind_some h
        refine Wp.call (WpD.mono _) rfl (T_X0_lots (e + 12) N ((hwU2 (hwU2 q4.2.1 10 3 ((q4.2.1 10 3) + (q4.2.2.2.1 42 0 (x7).toNatClampNeg))) 10 5 x7), q4.2.2.1, q4.2.2.2.1, q4.2.2.2.2.1, q4.2.2.2.2.2) _ _ _ hb ?_)
        show Wp (WpD (e + 13)) hcX0_work Q (131, [some (.inr (.inr (10, 0))), some (.inl x1), none, none, some (.inr (.inr (1, 0))), some (.inl x5), some (.inl x6), some (.inl x7)], [.inr (.inl q5.1)]) q5.2
        obtain ⟨hc, h⟩ := ite_nn h
        refine Wp.no (WpD.mono _) 7 (c := hwOut x7 6) (q := ((148, [some (.inr (.inr (10, 0))), some (.inl x1), none, none, some (.inr (.inr (1, 0))), some (.inl x5), some (.inl x6), some (.inl x7)], [.inr (.inr (44, (x7).toNatClampNeg)), .inr (.inl (q5.1 - q5.1 / (100 : Int64) * (100 : Int64)))]), q5.2)) rfl hc ?_
        obtain ⟨hc, h⟩ := ite_nn h
        refine Wp.no (WpD.mono _) 1 (c := hwOut x5 5) (q := ((151, [some (.inr (.inr (10, 0))), some (.inl x1), none, none, some (.inr (.inr (1, 0))), some (.inl x5), some (.inl x6), some (.inl x7)], [.inl (q5.2.2.2.1 44 (x7).toNatClampNeg (x5).toNatClampNeg), .inr (.inl (q5.1 - q5.1 / (100 : Int64) * (100 : Int64)))]), q5.2)) rfl hc ?_
        refine Wp.br (WpD.mono _) 2 (c := 0 ≤ (lg_cmp (q5.1 - q5.1 / (100 : Int64) * (100 : Int64)) (q5.2.2.2.1 44 (x7).toNatClampNeg (x5).toNatClampNeg).toInt64)) (q1 := ((163, [some (.inr (.inr (10, 0))), some (.inl x1), none, none, some (.inr (.inr (1, 0))), some (.inl x5), some (.inl x6), some (.inl x7)], []), q5.2)) (q2 := ((156, [some (.inr (.inr (10, 0))), some (.inl x1), none, none, some (.inr (.inr (1, 0))), some (.inl x5), some (.inl x6), some (.inl x7)], []), q5.2)) rfl (fun hc => ?_) (fun hc => ?_)
        · have h := (if_pos hc).symm.trans h
          obtain ⟨hc, h⟩ := ite_nn h
          refine Wp.no (WpD.mono _) 3 (c := hwOut x5 5) (q := ((171, [some (.inr (.inr (10, 0))), some (.inl x1), none, none, some (.inr (.inr (1, 0))), some (.inl x5), some (.inl x6), some (.inl x7)], [.inl (q5.2.2.2.1 24 0 (x5).toNatClampNeg)]), q5.2)) rfl hc ?_
          refine Wp.run (WpD.mono _) 4 (q := ((181, [some (.inr (.inr (10, 0))), some (.inl x1), none, none, some (.inr (.inr (1, 0))), some (.inl x5), some (.inl (q5.2.2.2.1 24 0 (x5).toNatClampNeg)), some (.inl x7)], [.inl (q5.2.2.2.1 24 0 (x5).toNatClampNeg), .inl x7, .inr (.inr (8, 0))]), q5.2)) rfl ?_
          obtain ⟨q6, hb, h⟩ := bind_some h
          refine Wp.call (WpD.mono _) rfl (T_X6_pass (e + 11) N x7 (q5.2.2.2.1 24 0 (x5).toNatClampNeg) q5.2 _ _ _ hb ?_)
          show Wp (WpD (e + 13)) hcX0_work Q (184, [some (.inr (.inr (10, 0))), some (.inl x1), none, none, some (.inr (.inr (1, 0))), some (.inl x5), some (.inl (q5.2.2.2.1 24 0 (x5).toNatClampNeg)), some (.inl x7)], [.inr (.inl q6.1)]) q6.2
          refine Wp.br (WpD.mono _) 2 (c := (lg_cmp q6.1 (0 : Int64)) = 0) (q1 := ((189, [some (.inr (.inr (10, 0))), some (.inl x1), none, none, some (.inr (.inr (1, 0))), some (.inl x5), some (.inl (q5.2.2.2.1 24 0 (x5).toNatClampNeg)), some (.inl x7)], []), q6.2)) (q2 := ((190, [some (.inr (.inr (10, 0))), some (.inl x1), none, none, some (.inr (.inr (1, 0))), some (.inl x5), some (.inl (q5.2.2.2.1 24 0 (x5).toNatClampNeg)), some (.inl x7)], []), q6.2)) rfl (fun hc => ?_) (fun hc => ?_)
          · have h := (if_pos hc).symm.trans h
            cases h
            exact Wp.ret (WpD.mono _) rfl hQ
          · have h := (if_neg hc).symm.trans h
            obtain ⟨hc, h⟩ := ite_nn h
            refine Wp.no (WpD.mono _) 4 (c := hwOut x5 5) (q := ((199, [some (.inr (.inr (10, 0))), some (.inl x1), none, none, some (.inr (.inr (1, 0))), some (.inl x5), some (.inl (q5.2.2.2.1 24 0 (x5).toNatClampNeg)), some (.inl x7)], [.inr (.inr (26, (x5).toNatClampNeg)), .inr (.inr (10, 0))]), q6.2)) rfl hc ?_
            obtain ⟨hc, h⟩ := ite_nn h
            refine Wp.no (WpD.mono _) 3 (c := hwOut x5 5) (q := ((207, [some (.inr (.inr (10, 0))), some (.inl x1), none, none, some (.inr (.inr (1, 0))), some (.inl x5), some (.inl (q5.2.2.2.1 24 0 (x5).toNatClampNeg)), some (.inl x7)], [.inl (q6.2.2.2.1 27 0 (x5).toNatClampNeg), .inr (.inr (26, (x5).toNatClampNeg)), .inr (.inr (10, 0))]), q6.2)) rfl hc ?_
            refine Wp.run (WpD.mono _) 0 (q := ((209, [some (.inr (.inr (10, 0))), some (.inl x1), none, none, some (.inr (.inr (1, 0))), some (.inl x5), some (.inl (q5.2.2.2.1 24 0 (x5).toNatClampNeg)), some (.inl x7)], [.inl x5, .inl (q6.2.2.2.1 27 0 (x5).toNatClampNeg), .inr (.inr (26, (x5).toNatClampNeg)), .inr (.inr (10, 0))]), q6.2)) rfl ?_
            obtain ⟨q7, hb, h⟩ := bind_some h
            refine Wp.call (WpD.mono _) rfl (T_X0_pick_t26 (e + 11) N (x5).toNatClampNeg (q6.2.2.2.1 27 0 (x5).toNatClampNeg) x5 q6.2 _ _ _ hb ?_)
            show Wp (WpD (e + 13)) hcX0_work Q (212, [some (.inr (.inr (10, 0))), some (.inl x1), none, none, some (.inr (.inr (1, 0))), some (.inl x5), some (.inl (q5.2.2.2.1 24 0 (x5).toNatClampNeg)), some (.inl x7)], [.inl q7.1]) q7.2
            refine Wp.run (WpD.mono _) 2 (q := ((76, [some (.inr (.inr (10, 0))), some (.inl x1), none, none, some (.inr (.inr (1, 0))), some (.inl q7.1), some (.inl (q5.2.2.2.1 24 0 (x5).toNatClampNeg)), some (.inl (x7 + (1 : Int32)))], []), q7.2)) rfl ?_
            exact Wp.jump (WpD.mono _) rfl (ih x1 q7.1 (q5.2.2.2.1 24 0 (x5).toNatClampNeg) (x7 + (1 : Int32)) q7.2 h)
        · have h := (if_neg hc).symm.trans h
          refine Wp.run (WpD.mono _) 2 (q := ((162, [some (.inr (.inr (10, 0))), some (.inl x1), none, none, some (.inr (.inr (1, 0))), some (.inl x5), some (.inl x6), some (.inl x7)], []), ((hwU2 q5.2.1 10 4 x7), q5.2.2.1, q5.2.2.2.1, q5.2.2.2.2.1, q5.2.2.2.2.2))) rfl ?_
          cases h
          exact Wp.ret (WpD.mono _) rfl hQ

set_option maxRecDepth 100000 in
set_option maxHeartbeats 4000000 in
theorem T_X0_work (e N : Nat)  (a1 : Int32) (a2 : Int32) (a3 : Int32) (σ : Mem) (r : Unit) (τ : Mem) (Q : Pst) (h : F_X0_work N a1 a2 a3 σ = some (r, τ)) (hQ : Q (none) τ) : WpD (e + 14) mX0_work [.inr (.inr (10, 0)), .inl a1, .inl a2, .inl a3] σ Q := by
  refine WpD.of (d := e + 13) (Nat.le_of_ble_eq_true rfl) (Nat.le_of_ble_eq_true rfl) ?_
  show Wp (WpD (e + 13)) hcX0_work Q (0, [some (.inr (.inr (10, 0))), some (.inl a1), some (.inl a2), some (.inl a3), none, none, none, none], []) σ
  unfold F_X0_work at h
  refine Wp.run (WpD.mono _) 21 (q := ((37, [some (.inr (.inr (10, 0))), some (.inl a1), some (.inl a2), some (.inl a3), some (.inr (.inr (1, 0))), none, none, none], [.inl a2, .inr (.inr (8, 0))]), ((hwU2 (hwU2 (hwU2 σ.1 10 3 (0 : Int32)) 10 4 (-1 : Int32)) 10 5 (0 : Int32)), (hwU2 σ.2.1 10 2 (a3 + (1 : Int32)).toInt64), σ.2.2.1, σ.2.2.2.1, σ.2.2.2.2))) rfl ?_
  obtain ⟨q1, hb, h⟩ := bind_some h
  refine Wp.call (WpD.mono _) rfl (T_X6_begin (e + 11) N a2 ((hwU2 (hwU2 (hwU2 σ.1 10 3 (0 : Int32)) 10 4 (-1 : Int32)) 10 5 (0 : Int32)), (hwU2 σ.2.1 10 2 (a3 + (1 : Int32)).toInt64), σ.2.2.1, σ.2.2.2.1, σ.2.2.2.2) _ _ _ hb ?_)
  show Wp (WpD (e + 13)) hcX0_work Q (40, [some (.inr (.inr (10, 0))), some (.inl a1), some (.inl a2), some (.inl a3), some (.inr (.inr (1, 0))), none, none, none], []) q1.2
  obtain ⟨hc, h⟩ := ite_nn h
  refine Wp.no (WpD.mono _) 6 (c := hwOut a2 4) (q := ((53, [some (.inr (.inr (10, 0))), some (.inl a1), some (.inl a2), some (.inl a3), some (.inr (.inr (1, 0))), none, none, none], [.inr (.inr (55, (a2).toNatClampNeg)), .inr (.inr (10, 0))]), q1.2)) rfl hc ?_
  refine Wp.run (WpD.mono _) 3 (q := ((61, [some (.inr (.inr (10, 0))), some (.inl a1), some (.inl a2), some (.inl a3), some (.inr (.inr (1, 0))), none, none, none], [.inl a2, .inr (.inr (4, 0)), .inr (.inr (55, (a2).toNatClampNeg)), .inr (.inr (10, 0))]), q1.2)) rfl ?_
  obtain ⟨q2, hb, h⟩ := bind_some h
  refine Wp.call (WpD.mono _) rfl (T_X7_allFirst (e + 12) N a2 q1.2 _ _ _ hb ?_)
  show Wp (WpD (e + 13)) hcX0_work Q (64, [some (.inr (.inr (10, 0))), some (.inl a1), some (.inl a2), some (.inl a3), some (.inr (.inr (1, 0))), none, none, none], [.inl q2.1, .inr (.inr (55, (a2).toNatClampNeg)), .inr (.inr (10, 0))]) q2.2
  refine Wp.run (WpD.mono _) 0 (q := ((65, [some (.inr (.inr (10, 0))), some (.inl a1), some (.inl a2), some (.inl a3), some (.inr (.inr (1, 0))), none, none, none], [.inl (0 : Int32), .inl q2.1, .inr (.inr (55, (a2).toNatClampNeg)), .inr (.inr (10, 0))]), q2.2)) rfl ?_
  obtain ⟨q3, hb, h⟩ := bind_some h
  refine Wp.call (WpD.mono _) rfl (T_X0_pick_t55 (e + 11) N (a2).toNatClampNeg q2.1 (0 : Int32) q2.2 _ _ _ hb ?_)
  show Wp (WpD (e + 13)) hcX0_work Q (68, [some (.inr (.inr (10, 0))), some (.inl a1), some (.inl a2), some (.inl a3), some (.inr (.inr (1, 0))), none, none, none], [.inl q3.1]) q3.2
  refine Wp.run (WpD.mono _) 4 (q := ((76, [some (.inr (.inr (10, 0))), some (.inl a1), some (.inl a2), some (.inl a3), some (.inr (.inr (1, 0))), some (.inl q3.1), some (.inl (-1 : Int32)), some (.inl (1 : Int32))], []), q3.2)) rfl ?_
  exact Wp.jump (WpD.mono _) rfl ((T_X0_work_b76 e N  r τ Q hQ  N) a1 q3.1 (-1 : Int32) (1 : Int32) q3.2 h)

set_option maxRecDepth 100000 in
set_option maxHeartbeats 4000000 in
theorem T_X11_within (e N : Nat)  (a1 : Int32) (a2 : Int32) (a3 : Int32) (σ : Mem) (r : Int32) (τ : Mem) (Q : Pst) (h : F_X11_within N a1 a2 a3 σ = some (r, τ)) (hQ : Q (some (.inl r)) τ) : WpD (e + 1) mX11_within [.inl a1, .inl a2, .inl a3] σ Q := by
  refine WpD.of (d := e + 0) (Nat.le_of_ble_eq_true rfl) (Nat.le_of_ble_eq_true rfl) ?_
  show Wp (WpD (e + 0)) hcX11_within Q (0, [some (.inl a1), some (.inl a2), some (.inl a3)], []) σ
  unfold F_X11_within at h
  refine Wp.br (WpD.mono _) 2 (c := a1 < a2) (q1 := ((14, [some (.inl a1), some (.inl a2), some (.inl a3)], []), σ)) (q2 := ((5, [some (.inl a1), some (.inl a2), some (.inl a3)], []), σ)) rfl (fun hc => ?_) (fun hc => ?_)
  · have h := (if_pos hc).symm.trans h
    refine Wp.run (WpD.mono _) 0 (q := ((15, [none, none, none], [.inl (0 : Int32)]), σ)) rfl ?_
    cases h
    exact Wp.ret (WpD.mono _) rfl hQ
  · have h := (if_neg hc).symm.trans h
    refine Wp.br (WpD.mono _) 2 (c := a3 < a1) (q1 := ((14, [some (.inl a1), some (.inl a2), some (.inl a3)], []), σ)) (q2 := ((10, [some (.inl a1), some (.inl a2), some (.inl a3)], []), σ)) rfl (fun hc => ?_) (fun hc => ?_)
    · have h := (if_pos hc).symm.trans h
      refine Wp.run (WpD.mono _) 0 (q := ((15, [none, none, none], [.inl (0 : Int32)]), σ)) rfl ?_
      cases h
      exact Wp.ret (WpD.mono _) rfl hQ
    · have h := (if_neg hc).symm.trans h
      refine Wp.run (WpD.mono _) 1 (q := ((15, [some (.inl a1), some (.inl a2), some (.inl a3)], [.inl (1 : Int32)]), σ)) rfl ?_
      cases h
      exact Wp.ret (WpD.mono _) rfl hQ

set_option maxRecDepth 100000 in
set_option maxHeartbeats 4000000 in
theorem T_X10_allWithin_b3 (e N : Nat)   (r : Int32) (τ : Mem) (Q : Pst) (hQ : Q (some (.inl r)) τ) : ∀ n, ∀ (x1 : Int32) (x2 : Int32) (x3 : Int32) (x4 : Int32) (σ : Mem), F_X10_allWithin_b3 N n x1 x2 x3 x4 σ = some (r, τ) → Wp (WpD (e + 1)) hcX10_allWithin Q (3, [some (.inr (.inr (5, 0))), some (.inl x1), some (.inl x2), some (.inl x3), some (.inl x4)], []) σ := by
  intro n
  induction n with
  | zero => intro x1 x2 x3 x4 σ h; cases h
  | succ n ih =>
    intro x1 x2 x3 x4 σ h
    unfold F_X10_allWithin_b3 at h
    obtain ⟨hc, h⟩ := ite_nn h
    refine Wp.no (WpD.mono _) 4 (c := hwOut x1 4) (q := ((11, [some (.inr (.inr (5, 0))), some (.inl x1), some (.inl x2), some (.inl x3), some (.inl x4)], [.inl (σ.2.2.1 71 0 (x1).toNatClampNeg), .inl x4]), σ)) rfl hc ?_
    refine Wp.br (WpD.mono _) 0 (c := (σ.2.2.1 71 0 (x1).toNatClampNeg) ≤ x4) (q1 := ((39, [some (.inr (.inr (5, 0))), some (.inl x1), some (.inl x2), some (.inl x3), some (.inl x4)], []), σ)) (q2 := ((14, [some (.inr (.inr (5, 0))), some (.inl x1), some (.inl x2), some (.inl x3), some (.inl x4)], []), σ)) rfl (fun hc => ?_) (fun hc => ?_)
    · have h := (if_pos hc).symm.trans h
      refine Wp.run (WpD.mono _) 0 (q := ((40, [some (.inr (.inr (5, 0))), some (.inl x1), some (.inl x2), some (.inl x3), some (.inl x4)], [.inl (1 : Int32)]), σ)) rfl ?_
      cases h
      exact Wp.ret (WpD.mono _) rfl hQ
    · have h := (if_neg hc).symm.trans h
      obtain ⟨hc, h⟩ := ite_nn h
      refine Wp.no (WpD.mono _) 3 (c := hwOut x1 4) (q := ((20, [some (.inr (.inr (5, 0))), some (.inl x1), some (.inl x2), some (.inl x3), some (.inl x4)], [.inr (.inr (69, (x1).toNatClampNeg))]), σ)) rfl hc ?_
      obtain ⟨hc, h⟩ := ite_nn h
      refine Wp.no (WpD.mono _) 1 (c := hwOut x4 40) (q := ((23, [some (.inr (.inr (5, 0))), some (.inl x1), some (.inl x2), some (.inl x3), some (.inl x4)], [.inl (σ.2.2.1 69 (x1).toNatClampNeg (x4).toNatClampNeg)]), σ)) rfl hc ?_
      refine Wp.run (WpD.mono _) 1 (q := ((25, [some (.inr (.inr (5, 0))), some (.inl x1), some (.inl x2), some (.inl x3), some (.inl x4)], [.inl x3, .inl x2, .inl (σ.2.2.1 69 (x1).toNatClampNeg (x4).toNatClampNeg)]), σ)) rfl ?_
      obtain ⟨q1, hb, h⟩ := bind_some h
      refine Wp.call (WpD.mono _) rfl (T_X11_within (e + 0) N (σ.2.2.1 69 (x1).toNatClampNeg (x4).toNatClampNeg) x2 x3 σ _ _ _ hb ?_)
      show Wp (WpD (e + 1)) hcX10_allWithin Q (28, [some (.inr (.inr (5, 0))), some (.inl x1), some (.inl x2), some (.inl x3), some (.inl x4)], [.inl q1.1]) q1.2
      refine Wp.br (WpD.mono _) 0 (c := q1.1 = 0) (q1 := ((31, [some (.inr (.inr (5, 0))), some (.inl x1), some (.inl x2), some (.inl x3), some (.inl x4)], []), q1.2)) (q2 := ((33, [some (.inr (.inr (5, 0))), some (.inl x1), some (.inl x2), some (.inl x3), some (.inl x4)], []), q1.2)) rfl (fun hc => ?_) (fun hc => ?_)
      · have h := (if_pos hc).symm.trans h
        refine Wp.run (WpD.mono _) 0 (q := ((32, [some (.inr (.inr (5, 0))), some (.inl x1), some (.inl x2), some (.inl x3), some (.inl x4)], [.inl (0 : Int32)]), q1.2)) rfl ?_
        cases h
        exact Wp.ret (WpD.mono _) rfl hQ
      · have h := (if_neg hc).symm.trans h
        refine Wp.run (WpD.mono _) 1 (q := ((3, [some (.inr (.inr (5, 0))), some (.inl x1), some (.inl x2), some (.inl x3), some (.inl (x4 + (1 : Int32)))], []), q1.2)) rfl ?_
        exact Wp.jump (WpD.mono _) rfl (ih x1 x2 x3 (x4 + (1 : Int32)) q1.2 h)

set_option maxRecDepth 100000 in
set_option maxHeartbeats 4000000 in
theorem T_X10_allWithin (e N : Nat)  (a1 : Int32) (a2 : Int32) (a3 : Int32) (σ : Mem) (r : Int32) (τ : Mem) (Q : Pst) (h : F_X10_allWithin N a1 a2 a3 σ = some (r, τ)) (hQ : Q (some (.inl r)) τ) : WpD (e + 2) mX10_allWithin [.inr (.inr (5, 0)), .inl a1, .inl a2, .inl a3] σ Q := by
  refine WpD.of (d := e + 1) (Nat.le_of_ble_eq_true rfl) (Nat.le_of_ble_eq_true rfl) ?_
  show Wp (WpD (e + 1)) hcX10_allWithin Q (0, [some (.inr (.inr (5, 0))), some (.inl a1), some (.inl a2), some (.inl a3), none], []) σ
  unfold F_X10_allWithin at h
  refine Wp.run (WpD.mono _) 1 (q := ((3, [some (.inr (.inr (5, 0))), some (.inl a1), some (.inl a2), some (.inl a3), some (.inl (0 : Int32))], []), σ)) rfl ?_
  exact Wp.jump (WpD.mono _) rfl ((T_X10_allWithin_b3 e N  r τ Q hQ  N) a1 a2 a3 (0 : Int32) σ h)

set_option maxRecDepth 100000 in
set_option maxHeartbeats 4000000 in
theorem T_X10_has (e N : Nat)  (a1 : Int32) (a2 : Int32) (σ : Mem) (r : Int32) (τ : Mem) (Q : Pst) (h : F_X10_has N a1 a2 σ = some (r, τ)) (hQ : Q (some (.inl r)) τ) : WpD (e + 1) mX10_has [.inr (.inr (5, 0)), .inl a1, .inl a2] σ Q := by
  refine WpD.of (d := e + 0) (Nat.le_of_ble_eq_true rfl) (Nat.le_of_ble_eq_true rfl) ?_
  show Wp (WpD (e + 0)) hcX10_has Q (0, [some (.inr (.inr (5, 0))), some (.inl a1), some (.inl a2)], []) σ
  unfold F_X10_has at h
  refine Wp.br (WpD.mono _) 1 (c := a2 < 0) (q1 := ((18, [some (.inr (.inr (5, 0))), some (.inl a1), some (.inl a2)], []), σ)) (q2 := ((4, [some (.inr (.inr (5, 0))), some (.inl a1), some (.inl a2)], []), σ)) rfl (fun hc => ?_) (fun hc => ?_)
  · have h := (if_pos hc).symm.trans h
    refine Wp.run (WpD.mono _) 0 (q := ((19, [none, none, none], [.inl (0 : Int32)]), σ)) rfl ?_
    cases h
    exact Wp.ret (WpD.mono _) rfl hQ
  · have h := (if_neg hc).symm.trans h
    obtain ⟨hc, h⟩ := ite_nn h
    refine Wp.no (WpD.mono _) 4 (c := hwOut a1 4) (q := ((11, [some (.inr (.inr (5, 0))), some (.inl a1), some (.inl a2)], [.inl (σ.2.2.1 71 0 (a1).toNatClampNeg), .inl a2]), σ)) rfl hc ?_
    refine Wp.br (WpD.mono _) 0 (c := (σ.2.2.1 71 0 (a1).toNatClampNeg) ≤ a2) (q1 := ((18, [some (.inr (.inr (5, 0))), some (.inl a1), some (.inl a2)], []), σ)) (q2 := ((14, [some (.inr (.inr (5, 0))), some (.inl a1), some (.inl a2)], []), σ)) rfl (fun hc => ?_) (fun hc => ?_)
    · have h := (if_pos hc).symm.trans h
      refine Wp.run (WpD.mono _) 0 (q := ((19, [none, none, none], [.inl (0 : Int32)]), σ)) rfl ?_
      cases h
      exact Wp.ret (WpD.mono _) rfl hQ
    · have h := (if_neg hc).symm.trans h
      refine Wp.run (WpD.mono _) 1 (q := ((19, [some (.inr (.inr (5, 0))), some (.inl a1), some (.inl a2)], [.inl (1 : Int32)]), σ)) rfl ?_
      cases h
      exact Wp.ret (WpD.mono _) rfl hQ

set_option maxRecDepth 100000 in
set_option maxHeartbeats 4000000 in
theorem T_X10_holds (e N : Nat)  (a1 : Int32) (a2 : Int32) (a3 : Int32) (σ : Mem) (r : Int32) (τ : Mem) (Q : Pst) (h : F_X10_holds N a1 a2 a3 σ = some (r, τ)) (hQ : Q (some (.inl r)) τ) : WpD (e + 1) mX10_holds [.inr (.inr (5, 0)), .inl a1, .inl a2, .inl a3] σ Q := by
  refine WpD.of (d := e + 0) (Nat.le_of_ble_eq_true rfl) (Nat.le_of_ble_eq_true rfl) ?_
  show Wp (WpD (e + 0)) hcX10_holds Q (0, [some (.inr (.inr (5, 0))), some (.inl a1), some (.inl a2), some (.inl a3)], []) σ
  unfold F_X10_holds at h
  refine Wp.br (WpD.mono _) 1 (c := a2 < 0) (q1 := ((34, [some (.inr (.inr (5, 0))), some (.inl a1), some (.inl a2), some (.inl a3)], []), σ)) (q2 := ((4, [some (.inr (.inr (5, 0))), some (.inl a1), some (.inl a2), some (.inl a3)], []), σ)) rfl (fun hc => ?_) (fun hc => ?_)
  · have h := (if_pos hc).symm.trans h
    refine Wp.run (WpD.mono _) 0 (q := ((35, [none, none, none, none], [.inl (0 : Int32)]), σ)) rfl ?_
    cases h
    exact Wp.ret (WpD.mono _) rfl hQ
  · have h := (if_neg hc).symm.trans h
    refine Wp.br (WpD.mono _) 1 (c := a3 < 0) (q1 := ((34, [some (.inr (.inr (5, 0))), some (.inl a1), some (.inl a2), some (.inl a3)], []), σ)) (q2 := ((8, [some (.inr (.inr (5, 0))), some (.inl a1), some (.inl a2), some (.inl a3)], []), σ)) rfl (fun hc => ?_) (fun hc => ?_)
    · have h := (if_pos hc).symm.trans h
      refine Wp.run (WpD.mono _) 0 (q := ((35, [none, none, none, none], [.inl (0 : Int32)]), σ)) rfl ?_
      cases h
      exact Wp.ret (WpD.mono _) rfl hQ
    · have h := (if_neg hc).symm.trans h
      obtain ⟨hc, h⟩ := ite_nn h
      refine Wp.no (WpD.mono _) 4 (c := hwOut a1 4) (q := ((15, [some (.inr (.inr (5, 0))), some (.inl a1), some (.inl a2), some (.inl a3)], [.inl (σ.2.2.1 71 0 (a1).toNatClampNeg), .inl a2]), σ)) rfl hc ?_
      refine Wp.br (WpD.mono _) 0 (c := (σ.2.2.1 71 0 (a1).toNatClampNeg) < a2) (q1 := ((34, [some (.inr (.inr (5, 0))), some (.inl a1), some (.inl a2), some (.inl a3)], []), σ)) (q2 := ((18, [some (.inr (.inr (5, 0))), some (.inl a1), some (.inl a2), some (.inl a3)], []), σ)) rfl (fun hc => ?_) (fun hc => ?_)
      · have h := (if_pos hc).symm.trans h
        refine Wp.run (WpD.mono _) 0 (q := ((35, [none, none, none, none], [.inl (0 : Int32)]), σ)) rfl ?_
        cases h
        exact Wp.ret (WpD.mono _) rfl hQ
      · have h := (if_neg hc).symm.trans h
        obtain ⟨hc, h⟩ := ite_nn h
        refine Wp.no (WpD.mono _) 4 (c := hwOut a1 4) (q := ((25, [some (.inr (.inr (5, 0))), some (.inl a1), some (.inl a2), some (.inl a3)], [.inl (σ.2.2.1 71 0 (a1).toNatClampNeg), .inl a3]), σ)) rfl hc ?_
        refine Wp.br (WpD.mono _) 2 (c := ((σ.2.2.1 71 0 (a1).toNatClampNeg) - a2) < a3) (q1 := ((34, [some (.inr (.inr (5, 0))), some (.inl a1), some (.inl a2), some (.inl a3)], []), σ)) (q2 := ((30, [some (.inr (.inr (5, 0))), some (.inl a1), some (.inl a2), some (.inl a3)], []), σ)) rfl (fun hc => ?_) (fun hc => ?_)
        · have h := (if_pos hc).symm.trans h
          refine Wp.run (WpD.mono _) 0 (q := ((35, [none, none, none, none], [.inl (0 : Int32)]), σ)) rfl ?_
          cases h
          exact Wp.ret (WpD.mono _) rfl hQ
        · have h := (if_neg hc).symm.trans h
          refine Wp.run (WpD.mono _) 1 (q := ((35, [some (.inr (.inr (5, 0))), some (.inl a1), some (.inl a2), some (.inl a3)], [.inl (1 : Int32)]), σ)) rfl ?_
          cases h
          exact Wp.ret (WpD.mono _) rfl hQ

set_option maxRecDepth 100000 in
set_option maxHeartbeats 4000000 in
theorem T_X10_isMissing (e N : Nat)  (a1 : Int32) (σ : Mem) (r : Int32) (τ : Mem) (Q : Pst) (h : F_X10_isMissing N a1 σ = some (r, τ)) (hQ : Q (some (.inl r)) τ) : WpD (e + 1) mX10_isMissing [.inr (.inr (5, 0)), .inl a1] σ Q := by
  refine WpD.of (d := e + 0) (Nat.le_of_ble_eq_true rfl) (Nat.le_of_ble_eq_true rfl) ?_
  show Wp (WpD (e + 0)) hcX10_isMissing Q (0, [some (.inr (.inr (5, 0))), some (.inl a1)], []) σ
  unfold F_X10_isMissing at h
  obtain ⟨hc, h⟩ := ite_nn h
  refine Wp.no (WpD.mono _) 3 (c := hwOut a1 4) (q := ((6, [some (.inr (.inr (5, 0))), some (.inl a1)], [.inl (σ.2.2.1 70 0 (a1).toNatClampNeg)]), σ)) rfl hc ?_
  refine Wp.br (WpD.mono _) 0 (c := 0 ≤ (σ.2.2.1 70 0 (a1).toNatClampNeg)) (q1 := ((13, [some (.inr (.inr (5, 0))), some (.inl a1)], []), σ)) (q2 := ((9, [some (.inr (.inr (5, 0))), some (.inl a1)], []), σ)) rfl (fun hc => ?_) (fun hc => ?_)
  · have h := (if_pos hc).symm.trans h
    refine Wp.run (WpD.mono _) 0 (q := ((14, [some (.inr (.inr (5, 0))), some (.inl a1)], [.inl (0 : Int32)]), σ)) rfl ?_
    cases h
    exact Wp.ret (WpD.mono _) rfl hQ
  · have h := (if_neg hc).symm.trans h
    refine Wp.run (WpD.mono _) 1 (q := ((14, [some (.inr (.inr (5, 0))), some (.inl a1)], [.inl (1 : Int32)]), σ)) rfl ?_
    cases h
    exact Wp.ret (WpD.mono _) rfl hQ

set_option maxRecDepth 100000 in
set_option maxHeartbeats 4000000 in
theorem T_X10_lay_b17 (e N : Nat)   (r : Unit) (τ : Mem) (Q : Pst) (hQ : Q (none) τ) : ∀ n, ∀ (x1 : Int32) (x4 : Int32) (σ : Mem), F_X10_lay_b17 N n x1 x4 σ = some (r, τ) → Wp (WpD (e + 0)) hcX10_lay Q (17, [some (.inr (.inr (5, 0))), some (.inl x1), none, none, some (.inl x4)], []) σ := by
  intro n
  induction n with
  | zero => intro x1 x4 σ h; cases h
  | succ n ih =>
    intro x1 x4 σ h
    unfold F_X10_lay_b17 at h
    refine Wp.br (WpD.mono _) 2 (c := (40 : Int32) ≤ x4) (q1 := ((40, [some (.inr (.inr (5, 0))), some (.inl x1), none, none, some (.inl x4)], []), σ)) (q2 := ((24, [some (.inr (.inr (5, 0))), some (.inl x1), none, none, some (.inl x4)], []), σ)) rfl (fun hc => ?_) (fun hc => ?_)
    · have h := (if_pos hc).symm.trans h
      cases h
      exact Wp.ret (WpD.mono _) rfl hQ
    · have h := (if_neg hc).symm.trans h
      obtain ⟨hc, h⟩ := ite_nn h
      refine Wp.no (WpD.mono _) 3 (c := hwOut x1 4) (q := ((30, [some (.inr (.inr (5, 0))), some (.inl x1), none, none, some (.inl x4)], [.inr (.inr (69, (x1).toNatClampNeg))]), σ)) rfl hc ?_
      obtain ⟨hc, h⟩ := ite_nn h
      refine Wp.no (WpD.mono _) 2 (c := hwOut x4 40) (q := ((34, [some (.inr (.inr (5, 0))), some (.inl x1), none, none, some (.inl x4)], []), (σ.1, σ.2.1, (hwU3 σ.2.2.1 69 (x1).toNatClampNeg (x4).toNatClampNeg (0 : Int32)), σ.2.2.2.1, σ.2.2.2.2))) rfl hc ?_
      refine Wp.run (WpD.mono _) 1 (q := ((17, [some (.inr (.inr (5, 0))), some (.inl x1), none, none, some (.inl (x4 + (1 : Int32)))], []), (σ.1, σ.2.1, (hwU3 σ.2.2.1 69 (x1).toNatClampNeg (x4).toNatClampNeg (0 : Int32)), σ.2.2.2.1, σ.2.2.2.2))) rfl ?_
      exact Wp.jump (WpD.mono _) rfl (ih x1 (x4 + (1 : Int32)) (σ.1, σ.2.1, (hwU3 σ.2.2.1 69 (x1).toNatClampNeg (x4).toNatClampNeg (0 : Int32)), σ.2.2.2.1, σ.2.2.2.2) h)

set_option maxRecDepth 100000 in
set_option maxHeartbeats 4000000 in
theorem T_X10_lay (e N : Nat)  (a1 : Int32) (a2 : Int32) (a3 : Int32) (σ : Mem) (r : Unit) (τ : Mem) (Q : Pst) (h : F_X10_lay N a1 a2 a3 σ = some (r, τ)) (hQ : Q (none) τ) : WpD (e + 1) mX10_lay [.inr (.inr (5, 0)), .inl a1, .inl a2, .inl a3] σ Q := by
  refine WpD.of (d := e + 0) (Nat.le_of_ble_eq_true rfl) (Nat.le_of_ble_eq_true rfl) ?_
  show Wp (WpD (e + 0)) hcX10_lay Q (0, [some (.inr (.inr (5, 0))), some (.inl a1), some (.inl a2), some (.inl a3), none], []) σ
  unfold F_X10_lay at h
  obtain ⟨hc, h⟩ := ite_nn h
  refine Wp.no (WpD.mono _) 4 (c := hwOut a1 4) (q := ((7, [some (.inr (.inr (5, 0))), some (.inl a1), some (.inl a2), some (.inl a3), none], []), (σ.1, σ.2.1, (hwU3 σ.2.2.1 70 0 (a1).toNatClampNeg a2), σ.2.2.2.1, σ.2.2.2.2))) rfl hc ?_
  obtain ⟨hc, h⟩ := ite_nn h
  refine Wp.no (WpD.mono _) 4 (c := hwOut a1 4) (q := ((14, [some (.inr (.inr (5, 0))), some (.inl a1), some (.inl a2), some (.inl a3), none], []), (σ.1, σ.2.1, (hwU3 (hwU3 σ.2.2.1 70 0 (a1).toNatClampNeg a2) 71 0 (a1).toNatClampNeg a3), σ.2.2.2.1, σ.2.2.2.2))) rfl hc ?_
  refine Wp.run (WpD.mono _) 1 (q := ((17, [some (.inr (.inr (5, 0))), some (.inl a1), some (.inl a2), some (.inl a3), some (.inl (0 : Int32))], []), (σ.1, σ.2.1, (hwU3 (hwU3 σ.2.2.1 70 0 (a1).toNatClampNeg a2) 71 0 (a1).toNatClampNeg a3), σ.2.2.2.1, σ.2.2.2.2))) rfl ?_
  exact Wp.jump (WpD.mono _) rfl ((T_X10_lay_b17 e N  r τ Q hQ  N) a1 (0 : Int32) (σ.1, σ.2.1, (hwU3 (hwU3 σ.2.2.1 70 0 (a1).toNatClampNeg a2) 71 0 (a1).toNatClampNeg a3), σ.2.2.2.1, σ.2.2.2.2) h)

set_option maxRecDepth 100000 in
set_option maxHeartbeats 4000000 in
theorem T_X10_write (e N : Nat)  (a1 : Int32) (a2 : Int32) (a3 : Int32) (σ : Mem) (r : Unit) (τ : Mem) (Q : Pst) (h : F_X10_write N a1 a2 a3 σ = some (r, τ)) (hQ : Q (none) τ) : WpD (e + 1) mX10_write [.inr (.inr (5, 0)), .inl a1, .inl a2, .inl a3] σ Q := by
  refine WpD.of (d := e + 0) (Nat.le_of_ble_eq_true rfl) (Nat.le_of_ble_eq_true rfl) ?_
  show Wp (WpD (e + 0)) hcX10_write Q (0, [some (.inr (.inr (5, 0))), some (.inl a1), some (.inl a2), some (.inl a3)], []) σ
  unfold F_X10_write at h
  obtain ⟨hc, h⟩ := ite_nn h
  refine Wp.no (WpD.mono _) 3 (c := hwOut a1 4) (q := ((6, [some (.inr (.inr (5, 0))), some (.inl a1), some (.inl a2), some (.inl a3)], [.inl (σ.2.2.1 70 0 (a1).toNatClampNeg)]), σ)) rfl hc ?_
  by_cases hs0 : (σ.2.2.1 70 0 (a1).toNatClampNeg) = 0
  · have h := (if_pos hs0).symm.trans h
    refine Wp.swIn (WpD.mono _) (q := ((32, [some (.inr (.inr (5, 0))), some (.inl a1), some (.inl a2), some (.inl a3)], []), σ)) hs0 rfl ?_
    obtain ⟨hc, h⟩ := ite_nn h
    refine Wp.no (WpD.mono _) 3 (c := hwOut a1 4) (q := ((38, [some (.inr (.inr (5, 0))), some (.inl a1), some (.inl a2), some (.inl a3)], [.inr (.inr (69, (a1).toNatClampNeg))]), σ)) rfl hc ?_
    obtain ⟨hc, h⟩ := ite_nn h
    refine Wp.no (WpD.mono _) 3 (c := hwOut a2 40) (q := ((42, [some (.inr (.inr (5, 0))), some (.inl a1), some (.inl a2), some (.inl a3)], []), (σ.1, σ.2.1, (hwU3 σ.2.2.1 69 (a1).toNatClampNeg (a2).toNatClampNeg a3.toInt8.toInt32), σ.2.2.2.1, σ.2.2.2.2))) rfl hc ?_
    refine Wp.run (WpD.mono _) 0 (q := ((67, [some (.inr (.inr (5, 0))), some (.inl a1), some (.inl a2), some (.inl a3)], []), (σ.1, σ.2.1, (hwU3 σ.2.2.1 69 (a1).toNatClampNeg (a2).toNatClampNeg a3.toInt8.toInt32), σ.2.2.2.1, σ.2.2.2.2))) rfl ?_
    cases h
    exact Wp.ret (WpD.mono _) rfl hQ
  have h := (if_neg hs0).symm.trans h
  by_cases hs1 : (σ.2.2.1 70 0 (a1).toNatClampNeg) = 1
  · have h := (if_pos hs1).symm.trans h
    refine Wp.swIn (WpD.mono _) (q := ((45, [some (.inr (.inr (5, 0))), some (.inl a1), some (.inl a2), some (.inl a3)], []), σ)) hs1 rfl ?_
    obtain ⟨hc, h⟩ := ite_nn h
    refine Wp.no (WpD.mono _) 3 (c := hwOut a1 4) (q := ((51, [some (.inr (.inr (5, 0))), some (.inl a1), some (.inl a2), some (.inl a3)], [.inr (.inr (69, (a1).toNatClampNeg))]), σ)) rfl hc ?_
    obtain ⟨hc, h⟩ := ite_nn h
    refine Wp.no (WpD.mono _) 3 (c := hwOut a2 40) (q := ((55, [some (.inr (.inr (5, 0))), some (.inl a1), some (.inl a2), some (.inl a3)], []), (σ.1, σ.2.1, (hwU3 σ.2.2.1 69 (a1).toNatClampNeg (a2).toNatClampNeg a3.toInt16.toInt32), σ.2.2.2.1, σ.2.2.2.2))) rfl hc ?_
    refine Wp.run (WpD.mono _) 0 (q := ((67, [some (.inr (.inr (5, 0))), some (.inl a1), some (.inl a2), some (.inl a3)], []), (σ.1, σ.2.1, (hwU3 σ.2.2.1 69 (a1).toNatClampNeg (a2).toNatClampNeg a3.toInt16.toInt32), σ.2.2.2.1, σ.2.2.2.2))) rfl ?_
    cases h
    exact Wp.ret (WpD.mono _) rfl hQ
  have h := (if_neg hs1).symm.trans h
  have ehs0 : ¬ 0 = ((σ.2.2.1 70 0 (a1).toNatClampNeg)).toInt := fun z => hs0 (Int32.toInt_inj.mp z.symm)
  have ehs1 : ¬ 1 = ((σ.2.2.1 70 0 (a1).toNatClampNeg)).toInt := fun z => hs1 (Int32.toInt_inj.mp z.symm)
  refine Wp.swOut (WpD.mono _) (q := ((58, [some (.inr (.inr (5, 0))), some (.inl a1), some (.inl a2), some (.inl a3)], []), σ)) (o := some (Op.lookupswitch.offset [(0, 26), (1, 39)] 52 ((σ.2.2.1 70 0 (a1).toNatClampNeg)).toInt)) (o' := some (52)) rfl (by simp [Op.lookupswitch.offset, ehs0, ehs1]) rfl ?_
  obtain ⟨hc, h⟩ := ite_nn h
  refine Wp.no (WpD.mono _) 3 (c := hwOut a1 4) (q := ((64, [some (.inr (.inr (5, 0))), some (.inl a1), some (.inl a2), some (.inl a3)], [.inr (.inr (69, (a1).toNatClampNeg))]), σ)) rfl hc ?_
  obtain ⟨hc, h⟩ := ite_nn h
  refine Wp.no (WpD.mono _) 2 (c := hwOut a2 40) (q := ((67, [some (.inr (.inr (5, 0))), some (.inl a1), some (.inl a2), some (.inl a3)], []), (σ.1, σ.2.1, (hwU3 σ.2.2.1 69 (a1).toNatClampNeg (a2).toNatClampNeg a3), σ.2.2.2.1, σ.2.2.2.2))) rfl hc ?_
  cases h
  exact Wp.ret (WpD.mono _) rfl hQ

set_option maxRecDepth 100000 in
set_option maxHeartbeats 4000000 in
theorem T_X11_isLayer (e N : Nat)  (a1 : Int32) (σ : Mem) (r : Int32) (τ : Mem) (Q : Pst) (h : F_X11_isLayer N a1 σ = some (r, τ)) (hQ : Q (some (.inl r)) τ) : WpD (e + 2) mX11_isLayer [.inr (.inr (0, 0)), .inl a1] σ Q := by
  refine WpD.of (d := e + 1) (Nat.le_of_ble_eq_true rfl) (Nat.le_of_ble_eq_true rfl) ?_
  show Wp (WpD (e + 1)) hcX11_isLayer Q (0, [some (.inr (.inr (0, 0))), some (.inl a1)], []) σ
  unfold F_X11_isLayer at h
  refine Wp.run (WpD.mono _) 6 (q := ((11, [some (.inr (.inr (0, 0))), some (.inl a1)], [.inl ((σ.1 1 6) - (1 : Int32)), .inl (0 : Int32), .inl a1]), σ)) rfl ?_
  obtain ⟨q1, hb, h⟩ := bind_some h
  refine Wp.call (WpD.mono _) rfl (T_X11_within (e + 0) N a1 (0 : Int32) ((σ.1 1 6) - (1 : Int32)) σ _ _ _ hb ?_)
  show Wp (WpD (e + 1)) hcX11_isLayer Q (14, [some (.inr (.inr (0, 0))), some (.inl a1)], [.inl q1.1]) q1.2
  obtain ⟨hc, h⟩ := ite_yy h
  cases h
  exact Wp.retZ (WpD.mono _) rfl hc hQ

set_option maxRecDepth 100000 in
set_option maxHeartbeats 4000000 in
theorem T_X11_asks (e N : Nat)  (a1 : Int32) (a2 : Int32) (a3 : Int32) (a4 : Int32) (σ : Mem) (r : Int32) (τ : Mem) (Q : Pst) (h : F_X11_asks N a1 a2 a3 a4 σ = some (r, τ)) (hQ : Q (some (.inl r)) τ) : WpD (e + 3) mX11_asks [.inr (.inr (0, 0)), .inl a1, .inl a2, .inl a3, .inl a4] σ Q := by
  refine WpD.of (d := e + 2) (Nat.le_of_ble_eq_true rfl) (Nat.le_of_ble_eq_true rfl) ?_
  show Wp (WpD (e + 2)) hcX11_asks Q (0, [some (.inr (.inr (0, 0))), some (.inl a1), some (.inl a2), some (.inl a3), some (.inl a4)], []) σ
  unfold F_X11_asks at h
  refine Wp.run (WpD.mono _) 2 (q := ((3, [some (.inr (.inr (0, 0))), some (.inl a1), some (.inl a2), some (.inl a3), some (.inl a4)], [.inl (2 : Int32), .inl (0 : Int32), .inl a1]), σ)) rfl ?_
  obtain ⟨q1, hb, h⟩ := bind_some h
  refine Wp.call (WpD.mono _) rfl (T_X11_within (e + 1) N a1 (0 : Int32) (2 : Int32) σ _ _ _ hb ?_)
  show Wp (WpD (e + 2)) hcX11_asks Q (6, [some (.inr (.inr (0, 0))), some (.inl a1), some (.inl a2), some (.inl a3), some (.inl a4)], [.inl q1.1]) q1.2
  refine Wp.br (WpD.mono _) 0 (c := q1.1 = 0) (q1 := ((28, [some (.inr (.inr (0, 0))), some (.inl a1), some (.inl a2), some (.inl a3), some (.inl a4)], []), q1.2)) (q2 := ((9, [some (.inr (.inr (0, 0))), some (.inl a1), some (.inl a2), some (.inl a3), some (.inl a4)], []), q1.2)) rfl (fun hc => ?_) (fun hc => ?_)
  · have h := (if_pos hc).symm.trans h
    refine Wp.run (WpD.mono _) 0 (q := ((30, [none, none, none, none, none], [.inl (-2 : Int32)]), q1.2)) rfl ?_
    cases h
    exact Wp.ret (WpD.mono _) rfl hQ
  · have h := (if_neg hc).symm.trans h
    refine Wp.run (WpD.mono _) 2 (q := ((12, [some (.inr (.inr (0, 0))), some (.inl a1), some (.inl a2), some (.inl a3), some (.inl a4)], [.inl (5 : Int32), .inl (1 : Int32), .inl a2]), q1.2)) rfl ?_
    obtain ⟨q2, hb, h⟩ := bind_some h
    refine Wp.call (WpD.mono _) rfl (T_X11_within (e + 1) N a2 (1 : Int32) (5 : Int32) q1.2 _ _ _ hb ?_)
    show Wp (WpD (e + 2)) hcX11_asks Q (15, [some (.inr (.inr (0, 0))), some (.inl a1), some (.inl a2), some (.inl a3), some (.inl a4)], [.inl q2.1]) q2.2
    refine Wp.br (WpD.mono _) 0 (c := q2.1 = 0) (q1 := ((28, [some (.inr (.inr (0, 0))), some (.inl a1), some (.inl a2), some (.inl a3), some (.inl a4)], []), q2.2)) (q2 := ((18, [some (.inr (.inr (0, 0))), some (.inl a1), some (.inl a2), some (.inl a3), some (.inl a4)], []), q2.2)) rfl (fun hc => ?_) (fun hc => ?_)
    · have h := (if_pos hc).symm.trans h
      refine Wp.run (WpD.mono _) 0 (q := ((30, [none, none, none, none, none], [.inl (-2 : Int32)]), q2.2)) rfl ?_
      cases h
      exact Wp.ret (WpD.mono _) rfl hQ
    · have h := (if_neg hc).symm.trans h
      refine Wp.run (WpD.mono _) 2 (q := ((22, [some (.inr (.inr (0, 0))), some (.inl a1), some (.inl a2), some (.inl a3), some (.inl a4)], [.inl (1 : Int32), .inl (0 : Int32), .inl a4]), q2.2)) rfl ?_
      obtain ⟨q3, hb, h⟩ := bind_some h
      refine Wp.call (WpD.mono _) rfl (T_X11_within (e + 1) N a4 (0 : Int32) (1 : Int32) q2.2 _ _ _ hb ?_)
      show Wp (WpD (e + 2)) hcX11_asks Q (25, [some (.inr (.inr (0, 0))), some (.inl a1), some (.inl a2), some (.inl a3), some (.inl a4)], [.inl q3.1]) q3.2
      refine Wp.br (WpD.mono _) 0 (c := q3.1 = 0) (q1 := ((28, [some (.inr (.inr (0, 0))), some (.inl a1), some (.inl a2), some (.inl a3), some (.inl a4)], []), q3.2)) (q2 := ((31, [some (.inr (.inr (0, 0))), some (.inl a1), some (.inl a2), some (.inl a3), some (.inl a4)], []), q3.2)) rfl (fun hc => ?_) (fun hc => ?_)
      · have h := (if_pos hc).symm.trans h
        refine Wp.run (WpD.mono _) 0 (q := ((30, [none, none, none, none, none], [.inl (-2 : Int32)]), q3.2)) rfl ?_
        cases h
        exact Wp.ret (WpD.mono _) rfl hQ
      · have h := (if_neg hc).symm.trans h
        refine Wp.br (WpD.mono _) 1 (c := a1 = 0) (q1 := ((35, [some (.inr (.inr (0, 0))), some (.inl a1), some (.inl a2), some (.inl a3), some (.inl a4)], []), q3.2)) (q2 := ((45, [some (.inr (.inr (0, 0))), some (.inl a1), some (.inl a2), some (.inl a3), some (.inl a4)], []), q3.2)) rfl (fun hc => ?_) (fun hc => ?_)
        · have h := (if_pos hc).symm.trans h
          obtain ⟨hc, h⟩ := ite_nn h
          refine Wp.no (WpD.mono _) 4 (c := hwOut a2 6) (q := ((44, [some (.inr (.inr (0, 0))), some (.inl a1), some (.inl a2), some (.inl a3), some (.inl a4)], [.inl (q3.2.2.2.1 42 0 (a2).toNatClampNeg)]), q3.2)) rfl hc ?_
          cases h
          exact Wp.ret (WpD.mono _) rfl hQ
        · have h := (if_neg hc).symm.trans h
          refine Wp.br (WpD.mono _) 2 (c := a1 = (2 : Int32)) (q1 := ((50, [some (.inr (.inr (0, 0))), some (.inl a1), some (.inl a2), some (.inl a3), some (.inl a4)], []), q3.2)) (q2 := ((63, [some (.inr (.inr (0, 0))), some (.inl a1), some (.inl a2), some (.inl a3), some (.inl a4)], []), q3.2)) rfl (fun hc => ?_) (fun hc => ?_)
          · have h := (if_pos hc).symm.trans h
            obtain ⟨hc, h⟩ := ite_nn h
            refine Wp.no (WpD.mono _) 4 (c := hwOut a4 2) (q := ((60, [some (.inr (.inr (0, 0))), some (.inl a1), some (.inl a2), some (.inl a3), some (.inl a4)], [.inr (.inr (46, (a4).toNatClampNeg))]), q3.2)) rfl hc ?_
            obtain ⟨hc, h⟩ := ite_nn h
            refine Wp.no (WpD.mono _) 1 (c := hwOut a2 6) (q := ((62, [some (.inr (.inr (0, 0))), some (.inl a1), some (.inl a2), some (.inl a3), some (.inl a4)], [.inl (q3.2.2.2.1 46 (a4).toNatClampNeg (a2).toNatClampNeg)]), q3.2)) rfl hc ?_
            cases h
            exact Wp.ret (WpD.mono _) rfl hQ
          · have h := (if_neg hc).symm.trans h
            refine Wp.run (WpD.mono _) 1 (q := ((65, [some (.inr (.inr (0, 0))), some (.inl a1), some (.inl a2), some (.inl a3), some (.inl a4)], [.inl a3, .inr (.inr (0, 0))]), q3.2)) rfl ?_
            obtain ⟨q4, hb, h⟩ := bind_some h
            refine Wp.call (WpD.mono _) rfl (T_X11_isLayer (e + 0) N a3 q3.2 _ _ _ hb ?_)
            show Wp (WpD (e + 2)) hcX11_asks Q (68, [some (.inr (.inr (0, 0))), some (.inl a1), some (.inl a2), some (.inl a3), some (.inl a4)], [.inl q4.1]) q4.2
            refine Wp.br (WpD.mono _) 0 (c := q4.1 = 0) (q1 := ((85, [some (.inr (.inr (0, 0))), some (.inl a1), some (.inl a2), some (.inl a3), some (.inl a4)], []), q4.2)) (q2 := ((71, [some (.inr (.inr (0, 0))), some (.inl a1), some (.inl a2), some (.inl a3), some (.inl a4)], []), q4.2)) rfl (fun hc => ?_) (fun hc => ?_)
            · have h := (if_pos hc).symm.trans h
              refine Wp.run (WpD.mono _) 0 (q := ((87, [some (.inr (.inr (0, 0))), some (.inl a1), some (.inl a2), some (.inl a3), some (.inl a4)], [.inl (-5 : Int32)]), q4.2)) rfl ?_
              cases h
              exact Wp.ret (WpD.mono _) rfl hQ
            · have h := (if_neg hc).symm.trans h
              obtain ⟨hc, h⟩ := ite_nn h
              refine Wp.no (WpD.mono _) 4 (c := hwOut a2 6) (q := ((80, [some (.inr (.inr (0, 0))), some (.inl a1), some (.inl a2), some (.inl a3), some (.inl a4)], [.inr (.inr (44, (a2).toNatClampNeg))]), q4.2)) rfl hc ?_
              obtain ⟨hc, h⟩ := ite_nn h
              refine Wp.no (WpD.mono _) 1 (c := hwOut a3 5) (q := ((82, [some (.inr (.inr (0, 0))), some (.inl a1), some (.inl a2), some (.inl a3), some (.inl a4)], [.inl (q4.2.2.2.1 44 (a2).toNatClampNeg (a3).toNatClampNeg)]), q4.2)) rfl hc ?_
              refine Wp.run (WpD.mono _) 0 (q := ((87, [some (.inr (.inr (0, 0))), some (.inl a1), some (.inl a2), some (.inl a3), some (.inl a4)], [.inl (q4.2.2.2.1 44 (a2).toNatClampNeg (a3).toNatClampNeg)]), q4.2)) rfl ?_
              cases h
              exact Wp.ret (WpD.mono _) rfl hQ

set_option maxRecDepth 100000 in
set_option maxHeartbeats 4000000 in
theorem T_X11_isPlace (e N : Nat)  (a1 : Int32) (σ : Mem) (r : Int32) (τ : Mem) (Q : Pst) (h : F_X11_isPlace N a1 σ = some (r, τ)) (hQ : Q (some (.inl r)) τ) : WpD (e + 2) mX11_isPlace [.inr (.inr (0, 0)), .inl a1] σ Q := by
  refine WpD.of (d := e + 1) (Nat.le_of_ble_eq_true rfl) (Nat.le_of_ble_eq_true rfl) ?_
  show Wp (WpD (e + 1)) hcX11_isPlace Q (0, [some (.inr (.inr (0, 0))), some (.inl a1)], []) σ
  unfold F_X11_isPlace at h
  refine Wp.run (WpD.mono _) 6 (q := ((11, [some (.inr (.inr (0, 0))), some (.inl a1)], [.inl ((σ.1 4 5) - (1 : Int32)), .inl (0 : Int32), .inl a1]), σ)) rfl ?_
  obtain ⟨q1, hb, h⟩ := bind_some h
  refine Wp.call (WpD.mono _) rfl (T_X11_within (e + 0) N a1 (0 : Int32) ((σ.1 4 5) - (1 : Int32)) σ _ _ _ hb ?_)
  show Wp (WpD (e + 1)) hcX11_isPlace Q (14, [some (.inr (.inr (0, 0))), some (.inl a1)], [.inl q1.1]) q1.2
  obtain ⟨hc, h⟩ := ite_yy h
  cases h
  exact Wp.retZ (WpD.mono _) rfl hc hQ

set_option maxRecDepth 100000 in
set_option maxHeartbeats 4000000 in
theorem T_X7_signOf (e N : Nat)  (a1 : Int32) (a2 : Int32) (σ : Mem) (r : Int32) (τ : Mem) (Q : Pst) (h : F_X7_signOf N a1 a2 σ = some (r, τ)) (hQ : Q (some (.inl r)) τ) : WpD (e + 1) mX7_signOf [.inr (.inr (4, 0)), .inl a1, .inl a2] σ Q := by
  refine WpD.of (d := e + 0) (Nat.le_of_ble_eq_true rfl) (Nat.le_of_ble_eq_true rfl) ?_
  show Wp (WpD (e + 0)) hcX7_signOf Q (0, [some (.inr (.inr (4, 0))), some (.inl a1), some (.inl a2)], []) σ
  unfold F_X7_signOf at h
  refine Wp.br (WpD.mono _) 2 (c := a2 < (1 : Int32)) (q1 := ((28, [some (.inr (.inr (4, 0))), some (.inl a1), some (.inl a2)], []), σ)) (q2 := ((5, [some (.inr (.inr (4, 0))), some (.inl a1), some (.inl a2)], []), σ)) rfl (fun hc => ?_) (fun hc => ?_)
  · have h := (if_pos hc).symm.trans h
    refine Wp.run (WpD.mono _) 0 (q := ((29, [none, none, none], [.inl (-1 : Int32)]), σ)) rfl ?_
    cases h
    exact Wp.ret (WpD.mono _) rfl hQ
  · have h := (if_neg hc).symm.trans h
    obtain ⟨hc, h⟩ := ite_nn h
    refine Wp.no (WpD.mono _) 4 (c := hwOut a1 4) (q := ((12, [some (.inr (.inr (4, 0))), some (.inl a1), some (.inl a2)], [.inl (σ.2.2.1 58 0 (a1).toNatClampNeg), .inl a2]), σ)) rfl hc ?_
    refine Wp.br (WpD.mono _) 0 (c := (σ.2.2.1 58 0 (a1).toNatClampNeg) < a2) (q1 := ((28, [some (.inr (.inr (4, 0))), some (.inl a1), some (.inl a2)], []), σ)) (q2 := ((15, [some (.inr (.inr (4, 0))), some (.inl a1), some (.inl a2)], []), σ)) rfl (fun hc => ?_) (fun hc => ?_)
    · have h := (if_pos hc).symm.trans h
      refine Wp.run (WpD.mono _) 0 (q := ((29, [none, none, none], [.inl (-1 : Int32)]), σ)) rfl ?_
      cases h
      exact Wp.ret (WpD.mono _) rfl hQ
    · have h := (if_neg hc).symm.trans h
      obtain ⟨hc, h⟩ := ite_nn h
      refine Wp.no (WpD.mono _) 3 (c := hwOut a1 4) (q := ((21, [some (.inr (.inr (4, 0))), some (.inl a1), some (.inl a2)], [.inr (.inr (57, (a1).toNatClampNeg))]), σ)) rfl hc ?_
      obtain ⟨hc, h⟩ := ite_nn h
      refine Wp.no (WpD.mono _) 3 (c := hwOut (a2 - (1 : Int32)) 5) (q := ((25, [some (.inr (.inr (4, 0))), some (.inl a1), some (.inl a2)], [.inl (σ.2.2.1 57 (a1).toNatClampNeg ((a2 - (1 : Int32))).toNatClampNeg)]), σ)) rfl hc ?_
      refine Wp.run (WpD.mono _) 0 (q := ((29, [some (.inr (.inr (4, 0))), some (.inl a1), some (.inl a2)], [.inl (σ.2.2.1 57 (a1).toNatClampNeg ((a2 - (1 : Int32))).toNatClampNeg)]), σ)) rfl ?_
      cases h
      exact Wp.ret (WpD.mono _) rfl hQ

set_option maxRecDepth 100000 in
set_option maxHeartbeats 4000000 in
theorem T_X6_nextYard_b7 (e N : Nat)   (r : Int32) (τ : Mem) (Q : Pst) (hQ : Q (some (.inl r)) τ) : ∀ n, ∀ (x1 : Int32) (x2 : Int32) (σ : Mem), F_X6_nextYard_b7 N n x1 x2 σ = some (r, τ) → Wp (WpD (e + 2)) hcX6_nextYard Q (7, [some (.inr (.inr (8, 0))), some (.inl x1), some (.inl x2)], []) σ := by
  intro n
  induction n with
  | zero => intro x1 x2 σ h; cases h
  | succ n ih =>
    intro x1 x2 σ h
    unfold F_X6_nextYard_b7 at h
    obtain ⟨hc, h⟩ := ite_nn h
    refine Wp.no (WpD.mono _) 5 (c := hwOut x1 4) (q := ((17, [some (.inr (.inr (8, 0))), some (.inl x1), some (.inl x2)], [.inl (σ.2.2.1 58 0 (x1).toNatClampNeg), .inl x2]), σ)) rfl hc ?_
    refine Wp.br (WpD.mono _) 0 (c := (σ.2.2.1 58 0 (x1).toNatClampNeg) < x2) (q1 := ((47, [some (.inr (.inr (8, 0))), some (.inl x1), some (.inl x2)], []), σ)) (q2 := ((20, [some (.inr (.inr (8, 0))), some (.inl x1), some (.inl x2)], []), σ)) rfl (fun hc => ?_) (fun hc => ?_)
    · have h := (if_pos hc).symm.trans h
      obtain ⟨hc, h⟩ := ite_nn h
      refine Wp.no (WpD.mono _) 4 (c := hwOut x1 4) (q := ((56, [some (.inr (.inr (8, 0))), some (.inl x1), some (.inl x2)], [.inl (σ.2.2.1 58 0 (x1).toNatClampNeg)]), σ)) rfl hc ?_
      refine Wp.run (WpD.mono _) 1 (q := ((58, [some (.inr (.inr (8, 0))), some (.inl x1), some (.inl x2)], [.inl ((σ.2.2.1 58 0 (x1).toNatClampNeg) + (1 : Int32))]), σ)) rfl ?_
      cases h
      exact Wp.ret (WpD.mono _) rfl hQ
    · have h := (if_neg hc).symm.trans h
      refine Wp.run (WpD.mono _) 5 (q := ((28, [some (.inr (.inr (8, 0))), some (.inl x1), some (.inl x2)], [.inl x2, .inl x1, .inr (.inr (4, 0)), .inl x2, .inr (.inr (8, 0))]), σ)) rfl ?_
      obtain ⟨q2, hb, h⟩ := bind_some h
      refine Wp.call (WpD.mono _) rfl (T_X7_signOf (e + 1) N x1 x2 σ _ _ _ hb ?_)
      show Wp (WpD (e + 2)) hcX6_nextYard Q (31, [some (.inr (.inr (8, 0))), some (.inl x1), some (.inl x2)], [.inl q2.1, .inl x2, .inr (.inr (8, 0))]) q2.2
      obtain ⟨q3, hb, h⟩ := bind_some h
      refine Wp.call (WpD.mono _) rfl (T_X6_pass (e + 0) N x2 q2.1 q2.2 _ _ _ hb ?_)
      show Wp (WpD (e + 2)) hcX6_nextYard Q (34, [some (.inr (.inr (8, 0))), some (.inl x1), some (.inl x2)], [.inr (.inl q3.1)]) q3.2
      refine Wp.br (WpD.mono _) 2 (c := (lg_cmp q3.1 (0 : Int64)) = 0) (q1 := ((39, [some (.inr (.inr (8, 0))), some (.inl x1), some (.inl x2)], []), q3.2)) (q2 := ((41, [some (.inr (.inr (8, 0))), some (.inl x1), some (.inl x2)], []), q3.2)) rfl (fun hc => ?_) (fun hc => ?_)
      · have h := (if_pos hc).symm.trans h
        refine Wp.run (WpD.mono _) 0 (q := ((40, [some (.inr (.inr (8, 0))), some (.inl x1), some (.inl x2)], [.inl (0 : Int32)]), q3.2)) rfl ?_
        cases h
        exact Wp.ret (WpD.mono _) rfl hQ
      · have h := (if_neg hc).symm.trans h
        refine Wp.run (WpD.mono _) 1 (q := ((7, [some (.inr (.inr (8, 0))), some (.inl x1), some (.inl (x2 + (1 : Int32)))], []), q3.2)) rfl ?_
        exact Wp.jump (WpD.mono _) rfl (ih x1 (x2 + (1 : Int32)) q3.2 h)

set_option maxRecDepth 100000 in
set_option maxHeartbeats 4000000 in
theorem T_X6_nextYard (e N : Nat)  (a1 : Int32) (σ : Mem) (r : Int32) (τ : Mem) (Q : Pst) (h : F_X6_nextYard N a1 σ = some (r, τ)) (hQ : Q (some (.inl r)) τ) : WpD (e + 3) mX6_nextYard [.inr (.inr (8, 0)), .inl a1] σ Q := by
  refine WpD.of (d := e + 2) (Nat.le_of_ble_eq_true rfl) (Nat.le_of_ble_eq_true rfl) ?_
  show Wp (WpD (e + 2)) hcX6_nextYard Q (0, [some (.inr (.inr (8, 0))), some (.inl a1), none], []) σ
  unfold F_X6_nextYard at h
  refine Wp.run (WpD.mono _) 1 (q := ((2, [some (.inr (.inr (8, 0))), some (.inl a1), none], [.inl a1, .inr (.inr (8, 0))]), σ)) rfl ?_
  obtain ⟨q1, hb, h⟩ := bind_some h
  refine Wp.call (WpD.mono _) rfl (T_X6_begin (e + 0) N a1 σ _ _ _ hb ?_)
  show Wp (WpD (e + 2)) hcX6_nextYard Q (5, [some (.inr (.inr (8, 0))), some (.inl a1), none], []) q1.2
  refine Wp.run (WpD.mono _) 1 (q := ((7, [some (.inr (.inr (8, 0))), some (.inl a1), some (.inl (1 : Int32))], []), q1.2)) rfl ?_
  exact Wp.jump (WpD.mono _) rfl ((T_X6_nextYard_b7 e N  r τ Q hQ  N) a1 (1 : Int32) q1.2 h)

set_option maxRecDepth 100000 in
set_option maxHeartbeats 4000000 in
theorem T_X6_openYard (e N : Nat)  (a1 : Int32) (σ : Mem) (r : Int32) (τ : Mem) (Q : Pst) (h : F_X6_openYard N a1 σ = some (r, τ)) (hQ : Q (some (.inl r)) τ) : WpD (e + 4) mX6_openYard [.inr (.inr (8, 0)), .inl a1] σ Q := by
  refine WpD.of (d := e + 3) (Nat.le_of_ble_eq_true rfl) (Nat.le_of_ble_eq_true rfl) ?_
  show Wp (WpD (e + 3)) hcX6_openYard Q (0, [some (.inr (.inr (8, 0))), some (.inl a1)], []) σ
  unfold F_X6_openYard at h
  obtain ⟨hc, h⟩ := ite_nn h
  refine Wp.no (WpD.mono _) 4 (c := hwOut a1 4) (q := ((9, [some (.inr (.inr (8, 0))), some (.inl a1)], [.inl (σ.2.2.1 59 0 (a1).toNatClampNeg)]), σ)) rfl hc ?_
  refine Wp.br (WpD.mono _) 0 (c := (σ.2.2.1 59 0 (a1).toNatClampNeg) = 0) (q1 := ((16, [some (.inr (.inr (8, 0))), some (.inl a1)], []), σ)) (q2 := ((12, [some (.inr (.inr (8, 0))), some (.inl a1)], []), σ)) rfl (fun hc => ?_) (fun hc => ?_)
  · have h := (if_pos hc).symm.trans h
    refine Wp.run (WpD.mono _) 1 (q := ((18, [some (.inr (.inr (8, 0))), some (.inl a1)], [.inl a1, .inr (.inr (8, 0))]), σ)) rfl ?_
    obtain ⟨q1, hb, h⟩ := bind_some h
    refine Wp.call (WpD.mono _) rfl (T_X6_nextYard (e + 0) N a1 σ _ _ _ hb ?_)
    show Wp (WpD (e + 3)) hcX6_openYard Q (21, [some (.inr (.inr (8, 0))), some (.inl a1)], [.inl q1.1]) q1.2
    cases h
    exact Wp.ret (WpD.mono _) rfl hQ
  · have h := (if_neg hc).symm.trans h
    refine Wp.run (WpD.mono _) 1 (q := ((21, [some (.inr (.inr (8, 0))), some (.inl a1)], [.inl (0 : Int32)]), σ)) rfl ?_
    cases h
    exact Wp.ret (WpD.mono _) rfl hQ

set_option maxRecDepth 100000 in
set_option maxHeartbeats 4000000 in
theorem T_X11_back (e N : Nat)  (a1 : Int32) (σ : Mem) (r : Int32) (τ : Mem) (Q : Pst) (h : F_X11_back N a1 σ = some (r, τ)) (hQ : Q (some (.inl r)) τ) : WpD (e + 13) mX11_back [.inr (.inr (0, 0)), .inl a1] σ Q := by
  refine WpD.of (d := e + 12) (Nat.le_of_ble_eq_true rfl) (Nat.le_of_ble_eq_true rfl) ?_
  show Wp (WpD (e + 12)) hcX11_back Q (0, [some (.inr (.inr (0, 0))), some (.inl a1), none], []) σ
  unfold F_X11_back at h
  refine Wp.run (WpD.mono _) 1 (q := ((2, [some (.inr (.inr (0, 0))), some (.inl a1), none], [.inl a1, .inr (.inr (0, 0))]), σ)) rfl ?_
  obtain ⟨q1, hb, h⟩ := bind_some h
  refine Wp.call (WpD.mono _) rfl (T_X11_isPlace (e + 10) N a1 σ _ _ _ hb ?_)
  show Wp (WpD (e + 12)) hcX11_back Q (5, [some (.inr (.inr (0, 0))), some (.inl a1), none], [.inl q1.1]) q1.2
  refine Wp.br (WpD.mono _) 0 (c := q1.1 = 0) (q1 := ((8, [some (.inr (.inr (0, 0))), some (.inl a1), none], []), q1.2)) (q2 := ((10, [some (.inr (.inr (0, 0))), some (.inl a1), none], []), q1.2)) rfl (fun hc => ?_) (fun hc => ?_)
  · have h := (if_pos hc).symm.trans h
    refine Wp.run (WpD.mono _) 0 (q := ((9, [some (.inr (.inr (0, 0))), some (.inl a1), none], [.inl (-1 : Int32)]), q1.2)) rfl ?_
    cases h
    exact Wp.ret (WpD.mono _) rfl hQ
  · have h := (if_neg hc).symm.trans h
    refine Wp.run (WpD.mono _) 2 (q := ((15, [some (.inr (.inr (0, 0))), some (.inl a1), none], [.inl a1, .inr (.inr (8, 0))]), q1.2)) rfl ?_
    obtain ⟨q2, hb, h⟩ := bind_some h
    refine Wp.call (WpD.mono _) rfl (T_X6_openYard (e + 8) N a1 q1.2 _ _ _ hb ?_)
    show Wp (WpD (e + 12)) hcX11_back Q (18, [some (.inr (.inr (0, 0))), some (.inl a1), none], [.inl q2.1]) q2.2
    refine Wp.br (WpD.mono _) 2 (c := q2.1 = 0) (q1 := ((23, [some (.inr (.inr (0, 0))), some (.inl a1), some (.inl q2.1)], []), q2.2)) (q2 := ((26, [some (.inr (.inr (0, 0))), some (.inl a1), some (.inl q2.1)], []), q2.2)) rfl (fun hc => ?_) (fun hc => ?_)
    · have h := (if_pos hc).symm.trans h
      refine Wp.run (WpD.mono _) 0 (q := ((25, [some (.inr (.inr (0, 0))), some (.inl a1), some (.inl q2.1)], [.inl (-3 : Int32)]), q2.2)) rfl ?_
      cases h
      exact Wp.ret (WpD.mono _) rfl hQ
    · have h := (if_neg hc).symm.trans h
      refine Wp.run (WpD.mono _) 4 (q := ((35, [some (.inr (.inr (0, 0))), some (.inl a1), some (.inl q2.1)], [.inr (.inr (1, 0)), .inl q2.1, .inr (.inr (8, 0))]), q2.2)) rfl ?_
      obtain ⟨q3, hb, h⟩ := bind_some h
      refine Wp.call (WpD.mono _) rfl (T_X2_worth (e + 11) N q2.2 _ _ _ hb ?_)
      show Wp (WpD (e + 12)) hcX11_back Q (38, [some (.inr (.inr (0, 0))), some (.inl a1), some (.inl q2.1)], [.inl q3.1, .inl q2.1, .inr (.inr (8, 0))]) q3.2
      obtain ⟨q4, hb, h⟩ := bind_some h
      refine Wp.call (WpD.mono _) rfl (T_X6_goingOn (e + 0) N q2.1 q3.1 q3.2 _ _ _ hb ?_)
      show Wp (WpD (e + 12)) hcX11_back Q (41, [some (.inr (.inr (0, 0))), some (.inl a1), some (.inl q2.1)], [.inr (.inl q4.1)]) q4.2
      refine Wp.br (WpD.mono _) 2 (c := (lg_cmp q4.1 (0 : Int64)) ≤ 0) (q1 := ((50, [some (.inr (.inr (0, 0))), some (.inl a1), some (.inl q2.1)], []), q4.2)) (q2 := ((46, [some (.inr (.inr (0, 0))), some (.inl a1), some (.inl q2.1)], []), q4.2)) rfl (fun hc => ?_) (fun hc => ?_)
      · have h := (if_pos hc).symm.trans h
        refine Wp.run (WpD.mono _) 0 (q := ((51, [some (.inr (.inr (0, 0))), some (.inl a1), some (.inl q2.1)], [.inl (0 : Int32)]), q4.2)) rfl ?_
        cases h
        exact Wp.ret (WpD.mono _) rfl hQ
      · have h := (if_neg hc).symm.trans h
        refine Wp.run (WpD.mono _) 1 (q := ((51, [some (.inr (.inr (0, 0))), some (.inl a1), some (.inl q2.1)], [.inl (1 : Int32)]), q4.2)) rfl ?_
        cases h
        exact Wp.ret (WpD.mono _) rfl hQ

set_option maxRecDepth 100000 in
set_option maxHeartbeats 4000000 in
theorem T_X6_heeded (e N : Nat)  (a1 : Int64) (a2 : Int64) (a3 : Int64) (a4 : Int64) (a5 : Int32) (σ : Mem) (r : Int64) (τ : Mem) (Q : Pst) (h : F_X6_heeded N a1 a2 a3 a4 a5 σ = some (r, τ)) (hQ : Q (some (.inr (.inl r))) τ) : WpD (e + 1) mX6_heeded [.inr (.inl a1), .inr (.inl a2), .inr (.inl a3), .inr (.inl a4), .inl a5] σ Q := by
  refine WpD.of (d := e + 0) (Nat.le_of_ble_eq_true rfl) (Nat.le_of_ble_eq_true rfl) ?_
  show Wp (WpD (e + 0)) hcX6_heeded Q (0, [some (.inr (.inl a1)), none, some (.inr (.inl a2)), none, some (.inr (.inl a3)), none, some (.inr (.inl a4)), none, some (.inl a5), none, none, none], []) σ
  unfold F_X6_heeded at h
  refine Wp.run (WpD.mono _) 36 (q := ((59, [some (.inr (.inl a1)), none, some (.inr (.inl a2)), none, some (.inr (.inl a3)), none, some (.inr (.inl a4)), none, some (.inl a5), some (.inl ((100 : Int32) - a5)), some (.inr (.inl ((a4 * a5.toInt64) + (((1000000 : Int64) - a4) * ((100 : Int32) - a5).toInt64)))), none], [.inr (.inl ((((a1 * a5.toInt64) / (100 : Int64)) + ((a2 * ((100 : Int32) - a5).toInt64) / (100 : Int64))) - (((a3 * ((a4 * a5.toInt64) + (((1000000 : Int64) - a4) * ((100 : Int32) - a5).toInt64))) / (100 : Int64)) / (1000000 : Int64))))]), σ)) rfl ?_
  cases h
  exact Wp.ret (WpD.mono _) rfl hQ

set_option maxRecDepth 100000 in
set_option maxHeartbeats 4000000 in
theorem T_X6_spoken (e N : Nat)  (a1 : Int64) (a2 : Int64) (a3 : Int64) (a4 : Int64) (a5 : Int32) (σ : Mem) (r : Int64) (τ : Mem) (Q : Pst) (h : F_X6_spoken N a1 a2 a3 a4 a5 σ = some (r, τ)) (hQ : Q (some (.inr (.inl r))) τ) : WpD (e + 2) mX6_spoken [.inr (.inl a1), .inr (.inl a2), .inr (.inl a3), .inr (.inl a4), .inl a5] σ Q := by
  refine WpD.of (d := e + 1) (Nat.le_of_ble_eq_true rfl) (Nat.le_of_ble_eq_true rfl) ?_
  show Wp (WpD (e + 1)) hcX6_spoken Q (0, [some (.inr (.inl a1)), none, some (.inr (.inl a2)), none, some (.inr (.inl a3)), none, some (.inr (.inl a4)), none, some (.inl a5), none, none, none, none, none, none], []) σ
  unfold F_X6_spoken at h
  refine Wp.run (WpD.mono _) 10 (q := ((17, [some (.inr (.inl a1)), none, some (.inr (.inl a2)), none, some (.inr (.inl a3)), none, some (.inr (.inl a4)), none, some (.inl a5), some (.inr (.inl ((a1 - a2) + a3))), none, none, none, none, none], [.inl a5, .inr (.inl a4), .inr (.inl a3), .inr (.inl ((a1 - a2) + a3)), .inr (.inl a2)]), σ)) rfl ?_
  obtain ⟨q1, hb, h⟩ := bind_some h
  refine Wp.call (WpD.mono _) rfl (T_X6_heeded (e + 0) N a2 ((a1 - a2) + a3) a3 a4 a5 σ _ _ _ hb ?_)
  show Wp (WpD (e + 1)) hcX6_spoken Q (20, [some (.inr (.inl a1)), none, some (.inr (.inl a2)), none, some (.inr (.inl a3)), none, some (.inr (.inl a4)), none, some (.inl a5), some (.inr (.inl ((a1 - a2) + a3))), none, none, none, none, none], [.inr (.inl q1.1)]) q1.2
  refine Wp.run (WpD.mono _) 7 (q := ((34, [some (.inr (.inl a1)), none, some (.inr (.inl a2)), none, some (.inr (.inl a3)), none, some (.inr (.inl a4)), none, some (.inl a5), some (.inr (.inl ((a1 - a2) + a3))), none, some (.inr (.inl q1.1)), none, none, none], [.inl ((100 : Int32) - a5), .inr (.inl a4), .inr (.inl a3), .inr (.inl ((a1 - a2) + a3)), .inr (.inl a2)]), q1.2)) rfl ?_
  obtain ⟨q2, hb, h⟩ := bind_some h
  refine Wp.call (WpD.mono _) rfl (T_X6_heeded (e + 0) N a2 ((a1 - a2) + a3) a3 a4 ((100 : Int32) - a5) q1.2 _ _ _ hb ?_)
  show Wp (WpD (e + 1)) hcX6_spoken Q (37, [some (.inr (.inl a1)), none, some (.inr (.inl a2)), none, some (.inr (.inl a3)), none, some (.inr (.inl a4)), none, some (.inl a5), some (.inr (.inl ((a1 - a2) + a3))), none, some (.inr (.inl q1.1)), none, none, none], [.inr (.inl q2.1)]) q2.2
  refine Wp.run (WpD.mono _) 11 (q := ((58, [some (.inr (.inl a1)), none, some (.inr (.inl a2)), none, some (.inr (.inl a3)), none, some (.inr (.inl a4)), none, some (.inl a5), some (.inr (.inl ((a1 - a2) + a3))), none, some (.inr (.inl q1.1)), none, some (.inr (.inl q2.1)), none], [.inr (.inl (((if q1.1 < (0 : Int64) then (0 : Int64) else q1.1) + (if q2.1 < (0 : Int64) then (0 : Int64) else q2.1)) - (if a1 < (0 : Int64) then (0 : Int64) else a1)))]), q2.2)) rfl ?_
  cases h
  exact Wp.ret (WpD.mono _) rfl hQ

set_option maxRecDepth 100000 in
set_option maxHeartbeats 4000000 in
theorem T_X6_leastRight_b32 (e N : Nat)   (r : Int32) (τ : Mem) (Q : Pst) (hQ : Q (some (.inl r)) τ) : ∀ n, ∀ (x1 : Int32) (x2 : Int64) (x4 : Int64) (x6 : Int32) (σ : Mem), F_X6_leastRight_b32 N n x1 x2 x4 x6 σ = some (r, τ) → Wp (WpD (e + 12)) hcX6_leastRight Q (32, [some (.inr (.inr (8, 0))), some (.inl x1), some (.inr (.inl x2)), none, some (.inr (.inl x4)), none, some (.inl x6)], []) σ := by
  intro n
  induction n with
  | zero => intro x1 x2 x4 x6 σ h; cases h
  | succ n ih =>
    intro x1 x2 x4 x6 σ h
    unfold F_X6_leastRight_b32 at h
    refine Wp.br (WpD.mono _) 2 (c := (100 : Int32) < x6) (q1 := ((80, [some (.inr (.inr (8, 0))), some (.inl x1), some (.inr (.inl x2)), none, some (.inr (.inl x4)), none, some (.inl x6)], []), σ)) (q2 := ((39, [some (.inr (.inr (8, 0))), some (.inl x1), some (.inr (.inl x2)), none, some (.inr (.inl x4)), none, some (.inl x6)], []), σ)) rfl (fun hc => ?_) (fun hc => ?_)
    · have h := (if_pos hc).symm.trans h
      refine Wp.run (WpD.mono _) 0 (q := ((81, [some (.inr (.inr (8, 0))), some (.inl x1), some (.inr (.inl x2)), none, some (.inr (.inl x4)), none, some (.inl x6)], [.inl (-1 : Int32)]), σ)) rfl ?_
      cases h
      exact Wp.ret (WpD.mono _) rfl hQ
    · have h := (if_neg hc).symm.trans h
      obtain ⟨hc, h⟩ := ite_nn h
      refine Wp.no (WpD.mono _) 7 (c := hwOut x1 6) (q := ((54, [some (.inr (.inr (8, 0))), some (.inl x1), some (.inr (.inl x2)), none, some (.inr (.inl x4)), none, some (.inl x6)], [.inl (σ.2.2.1 42 0 (x1).toNatClampNeg), .inr (.inl (1000000 : Int64)), .inr (.inl x4), .inr (.inl x2)]), σ)) rfl hc ?_
      refine Wp.run (WpD.mono _) 3 (q := ((58, [some (.inr (.inr (8, 0))), some (.inl x1), some (.inr (.inl x2)), none, some (.inr (.inl x4)), none, some (.inl x6)], [.inl x1, .inr (.inr (8, 0)), .inr (.inl ((1000000 : Int64) * (σ.2.2.1 42 0 (x1).toNatClampNeg).toInt64)), .inr (.inl x4), .inr (.inl x2)]), σ)) rfl ?_
      obtain ⟨q5, hb, h⟩ := bind_some h
      refine Wp.call (WpD.mono _) rfl (T_X6_wet (e + 10) N x1 σ _ _ _ hb ?_)
      show Wp (WpD (e + 12)) hcX6_leastRight Q (61, [some (.inr (.inr (8, 0))), some (.inl x1), some (.inr (.inl x2)), none, some (.inr (.inl x4)), none, some (.inl x6)], [.inr (.inl q5.1), .inr (.inl ((1000000 : Int64) * (σ.2.2.1 42 0 (x1).toNatClampNeg).toInt64)), .inr (.inl x4), .inr (.inl x2)]) q5.2
      refine Wp.run (WpD.mono _) 0 (q := ((63, [some (.inr (.inr (8, 0))), some (.inl x1), some (.inr (.inl x2)), none, some (.inr (.inl x4)), none, some (.inl x6)], [.inl x6, .inr (.inl q5.1), .inr (.inl ((1000000 : Int64) * (σ.2.2.1 42 0 (x1).toNatClampNeg).toInt64)), .inr (.inl x4), .inr (.inl x2)]), q5.2)) rfl ?_
      obtain ⟨q6, hb, h⟩ := bind_some h
      refine Wp.call (WpD.mono _) rfl (T_X6_spoken (e + 10) N x2 x4 ((1000000 : Int64) * (σ.2.2.1 42 0 (x1).toNatClampNeg).toInt64) q5.1 x6 q5.2 _ _ _ hb ?_)
      show Wp (WpD (e + 12)) hcX6_leastRight Q (66, [some (.inr (.inr (8, 0))), some (.inl x1), some (.inr (.inl x2)), none, some (.inr (.inl x4)), none, some (.inl x6)], [.inr (.inl q6.1)]) q6.2
      refine Wp.br (WpD.mono _) 2 (c := (lg_cmp q6.1 (0 : Int64)) ≤ 0) (q1 := ((74, [some (.inr (.inr (8, 0))), some (.inl x1), some (.inr (.inl x2)), none, some (.inr (.inl x4)), none, some (.inl x6)], []), q6.2)) (q2 := ((71, [some (.inr (.inr (8, 0))), some (.inl x1), some (.inr (.inl x2)), none, some (.inr (.inl x4)), none, some (.inl x6)], []), q6.2)) rfl (fun hc => ?_) (fun hc => ?_)
      · have h := (if_pos hc).symm.trans h
        refine Wp.run (WpD.mono _) 1 (q := ((32, [some (.inr (.inr (8, 0))), some (.inl x1), some (.inr (.inl x2)), none, some (.inr (.inl x4)), none, some (.inl (x6 + (1 : Int32)))], []), q6.2)) rfl ?_
        exact Wp.jump (WpD.mono _) rfl (ih x1 x2 x4 (x6 + (1 : Int32)) q6.2 h)
      · have h := (if_neg hc).symm.trans h
        refine Wp.run (WpD.mono _) 0 (q := ((73, [some (.inr (.inr (8, 0))), some (.inl x1), some (.inr (.inl x2)), none, some (.inr (.inl x4)), none, some (.inl x6)], [.inl x6]), q6.2)) rfl ?_
        cases h
        exact Wp.ret (WpD.mono _) rfl hQ

set_option maxRecDepth 100000 in
set_option maxHeartbeats 4000000 in
theorem T_X6_leastRight (e N : Nat)  (a1 : Int32) (σ : Mem) (r : Int32) (τ : Mem) (Q : Pst) (h : F_X6_leastRight N a1 σ = some (r, τ)) (hQ : Q (some (.inl r)) τ) : WpD (e + 13) mX6_leastRight [.inr (.inr (8, 0)), .inl a1] σ Q := by
  refine WpD.of (d := e + 12) (Nat.le_of_ble_eq_true rfl) (Nat.le_of_ble_eq_true rfl) ?_
  show Wp (WpD (e + 12)) hcX6_leastRight Q (0, [some (.inr (.inr (8, 0))), some (.inl a1), none, none, none, none, none], []) σ
  unfold F_X6_leastRight at h
  refine Wp.run (WpD.mono _) 3 (q := ((6, [some (.inr (.inr (8, 0))), some (.inl a1), none, none, none, none, none], [.inr (.inr (1, 0)), .inl a1, .inr (.inr (8, 0))]), σ)) rfl ?_
  obtain ⟨q1, hb, h⟩ := bind_some h
  refine Wp.call (WpD.mono _) rfl (T_X2_worth (e + 11) N σ _ _ _ hb ?_)
  show Wp (WpD (e + 12)) hcX6_leastRight Q (9, [some (.inr (.inr (8, 0))), some (.inl a1), none, none, none, none, none], [.inl q1.1, .inl a1, .inr (.inr (8, 0))]) q1.2
  obtain ⟨q2, hb, h⟩ := bind_some h
  refine Wp.call (WpD.mono _) rfl (T_X6_goingOn (e + 0) N a1 q1.1 q1.2 _ _ _ hb ?_)
  show Wp (WpD (e + 12)) hcX6_leastRight Q (12, [some (.inr (.inr (8, 0))), some (.inl a1), none, none, none, none, none], [.inr (.inl q2.1)]) q2.2
  refine Wp.run (WpD.mono _) 4 (q := ((19, [some (.inr (.inr (8, 0))), some (.inl a1), some (.inr (.inl q2.1)), none, none, none, none], [.inr (.inr (1, 0)), .inl a1, .inr (.inr (8, 0))]), q2.2)) rfl ?_
  obtain ⟨q3, hb, h⟩ := bind_some h
  refine Wp.call (WpD.mono _) rfl (T_X2_worth (e + 11) N q2.2 _ _ _ hb ?_)
  show Wp (WpD (e + 12)) hcX6_leastRight Q (22, [some (.inr (.inr (8, 0))), some (.inl a1), some (.inr (.inl q2.1)), none, none, none, none], [.inl q3.1, .inl a1, .inr (.inr (8, 0))]) q3.2
  refine Wp.run (WpD.mono _) 0 (q := ((23, [some (.inr (.inr (8, 0))), some (.inl a1), some (.inr (.inl q2.1)), none, none, none, none], [.inl (0 : Int32), .inl q3.1, .inl a1, .inr (.inr (8, 0))]), q3.2)) rfl ?_
  obtain ⟨q4, hb, h⟩ := bind_some h
  refine Wp.call (WpD.mono _) rfl (T_X6_gain (e + 10) N a1 q3.1 (0 : Int32) q3.2 _ _ _ hb ?_)
  show Wp (WpD (e + 12)) hcX6_leastRight Q (26, [some (.inr (.inr (8, 0))), some (.inl a1), some (.inr (.inl q2.1)), none, none, none, none], [.inr (.inl q4.1)]) q4.2
  refine Wp.run (WpD.mono _) 2 (q := ((32, [some (.inr (.inr (8, 0))), some (.inl a1), some (.inr (.inl q2.1)), none, some (.inr (.inl q4.1)), none, some (.inl (50 : Int32))], []), q4.2)) rfl ?_
  exact Wp.jump (WpD.mono _) rfl ((T_X6_leastRight_b32 e N  r τ Q hQ  N) a1 q2.1 q4.1 (50 : Int32) q4.2 h)

set_option maxRecDepth 100000 in
set_option maxHeartbeats 4000000 in
theorem T_X11_believe (e N : Nat)  (a1 : Int32) (σ : Mem) (r : Int32) (τ : Mem) (Q : Pst) (h : F_X11_believe N a1 σ = some (r, τ)) (hQ : Q (some (.inl r)) τ) : WpD (e + 14) mX11_believe [.inr (.inr (0, 0)), .inl a1] σ Q := by
  refine WpD.of (d := e + 13) (Nat.le_of_ble_eq_true rfl) (Nat.le_of_ble_eq_true rfl) ?_
  show Wp (WpD (e + 13)) hcX11_believe Q (0, [some (.inr (.inr (0, 0))), some (.inl a1), none], []) σ
  unfold F_X11_believe at h
  refine Wp.run (WpD.mono _) 1 (q := ((2, [some (.inr (.inr (0, 0))), some (.inl a1), none], [.inl a1, .inr (.inr (0, 0))]), σ)) rfl ?_
  obtain ⟨q1, hb, h⟩ := bind_some h
  refine Wp.call (WpD.mono _) rfl (T_X11_isPlace (e + 11) N a1 σ _ _ _ hb ?_)
  show Wp (WpD (e + 13)) hcX11_believe Q (5, [some (.inr (.inr (0, 0))), some (.inl a1), none], [.inl q1.1]) q1.2
  refine Wp.br (WpD.mono _) 0 (c := q1.1 = 0) (q1 := ((8, [some (.inr (.inr (0, 0))), some (.inl a1), none], []), q1.2)) (q2 := ((11, [some (.inr (.inr (0, 0))), some (.inl a1), none], []), q1.2)) rfl (fun hc => ?_) (fun hc => ?_)
  · have h := (if_pos hc).symm.trans h
    refine Wp.run (WpD.mono _) 0 (q := ((10, [some (.inr (.inr (0, 0))), some (.inl a1), none], [.inl (-5 : Int32)]), q1.2)) rfl ?_
    cases h
    exact Wp.ret (WpD.mono _) rfl hQ
  · have h := (if_neg hc).symm.trans h
    refine Wp.run (WpD.mono _) 2 (q := ((16, [some (.inr (.inr (0, 0))), some (.inl a1), none], [.inl a1, .inr (.inr (8, 0))]), q1.2)) rfl ?_
    obtain ⟨q2, hb, h⟩ := bind_some h
    refine Wp.call (WpD.mono _) rfl (T_X6_openYard (e + 9) N a1 q1.2 _ _ _ hb ?_)
    show Wp (WpD (e + 13)) hcX11_believe Q (19, [some (.inr (.inr (0, 0))), some (.inl a1), none], [.inl q2.1]) q2.2
    refine Wp.br (WpD.mono _) 2 (c := q2.1 = 0) (q1 := ((24, [some (.inr (.inr (0, 0))), some (.inl a1), some (.inl q2.1)], []), q2.2)) (q2 := ((27, [some (.inr (.inr (0, 0))), some (.inl a1), some (.inl q2.1)], []), q2.2)) rfl (fun hc => ?_) (fun hc => ?_)
    · have h := (if_pos hc).symm.trans h
      refine Wp.run (WpD.mono _) 0 (q := ((26, [some (.inr (.inr (0, 0))), some (.inl a1), some (.inl q2.1)], [.inl (-3 : Int32)]), q2.2)) rfl ?_
      cases h
      exact Wp.ret (WpD.mono _) rfl hQ
    · have h := (if_neg hc).symm.trans h
      refine Wp.run (WpD.mono _) 2 (q := ((32, [some (.inr (.inr (0, 0))), some (.inl a1), some (.inl q2.1)], [.inr (.inr (1, 0)), .inl q2.1]), q2.2)) rfl ?_
      obtain ⟨q3, hb, h⟩ := bind_some h
      refine Wp.call (WpD.mono _) rfl (T_X2_deepest (e + 12) N q2.2 _ _ _ hb ?_)
      show Wp (WpD (e + 13)) hcX11_believe Q (35, [some (.inr (.inr (0, 0))), some (.inl a1), some (.inl q2.1)], [.inl q3.1, .inl q2.1]) q3.2
      refine Wp.br (WpD.mono _) 0 (c := q2.1 ≤ q3.1) (q1 := ((40, [some (.inr (.inr (0, 0))), some (.inl a1), some (.inl q2.1)], []), q3.2)) (q2 := ((38, [some (.inr (.inr (0, 0))), some (.inl a1), some (.inl q2.1)], []), q3.2)) rfl (fun hc => ?_) (fun hc => ?_)
      · have h := (if_pos hc).symm.trans h
        refine Wp.run (WpD.mono _) 2 (q := ((45, [some (.inr (.inr (0, 0))), some (.inl a1), some (.inl q2.1)], [.inl q2.1, .inr (.inr (8, 0))]), q3.2)) rfl ?_
        obtain ⟨q4, hb, h⟩ := bind_some h
        refine Wp.call (WpD.mono _) rfl (T_X6_leastRight (e + 0) N q2.1 q3.2 _ _ _ hb ?_)
        show Wp (WpD (e + 13)) hcX11_believe Q (48, [some (.inr (.inr (0, 0))), some (.inl a1), some (.inl q2.1)], [.inl q4.1]) q4.2
        cases h
        exact Wp.ret (WpD.mono _) rfl hQ
      · have h := (if_neg hc).symm.trans h
        refine Wp.run (WpD.mono _) 0 (q := ((39, [some (.inr (.inr (0, 0))), some (.inl a1), some (.inl q2.1)], [.inl (-1 : Int32)]), q3.2)) rfl ?_
        cases h
        exact Wp.ret (WpD.mono _) rfl hQ

set_option maxRecDepth 100000 in
set_option maxHeartbeats 4000000 in
theorem T_X6_worthOf (e N : Nat)  (a1 : Int32) (σ : Mem) (r : Int64) (τ : Mem) (Q : Pst) (h : F_X6_worthOf N a1 σ = some (r, τ)) (hQ : Q (some (.inr (.inl r))) τ) : WpD (e + 13) mX6_worthOf [.inr (.inr (8, 0)), .inl a1] σ Q := by
  refine WpD.of (d := e + 12) (Nat.le_of_ble_eq_true rfl) (Nat.le_of_ble_eq_true rfl) ?_
  show Wp (WpD (e + 12)) hcX6_worthOf Q (0, [some (.inr (.inr (8, 0))), some (.inl a1)], []) σ
  unfold F_X6_worthOf at h
  refine Wp.run (WpD.mono _) 4 (q := ((7, [some (.inr (.inr (8, 0))), some (.inl a1)], [.inr (.inr (1, 0)), .inl a1, .inr (.inr (8, 0)), .inr (.inl (0 : Int64))]), σ)) rfl ?_
  obtain ⟨q1, hb, h⟩ := bind_some h
  refine Wp.call (WpD.mono _) rfl (T_X2_worth (e + 11) N σ _ _ _ hb ?_)
  show Wp (WpD (e + 12)) hcX6_worthOf Q (10, [some (.inr (.inr (8, 0))), some (.inl a1)], [.inl q1.1, .inl a1, .inr (.inr (8, 0)), .inr (.inl (0 : Int64))]) q1.2
  obtain ⟨q2, hb, h⟩ := bind_some h
  refine Wp.call (WpD.mono _) rfl (T_X6_goingOn (e + 0) N a1 q1.1 q1.2 _ _ _ hb ?_)
  show Wp (WpD (e + 12)) hcX6_worthOf Q (13, [some (.inr (.inr (8, 0))), some (.inl a1)], [.inr (.inl q2.1), .inr (.inl (0 : Int64))]) q2.2
  refine Wp.run (WpD.mono _) 0 (q := ((16, [some (.inr (.inr (8, 0))), some (.inl a1)], [.inr (.inl (if q2.1 < (0 : Int64) then (0 : Int64) else q2.1))]), q2.2)) rfl ?_
  cases h
  exact Wp.ret (WpD.mono _) rfl hQ

set_option maxRecDepth 100000 in
set_option maxHeartbeats 4000000 in
theorem T_X11_best (e N : Nat)  (a1 : Int32) (σ : Mem) (r : Int64) (τ : Mem) (Q : Pst) (h : F_X11_best N a1 σ = some (r, τ)) (hQ : Q (some (.inr (.inl r))) τ) : WpD (e + 14) mX11_best [.inr (.inr (0, 0)), .inl a1] σ Q := by
  refine WpD.of (d := e + 13) (Nat.le_of_ble_eq_true rfl) (Nat.le_of_ble_eq_true rfl) ?_
  show Wp (WpD (e + 13)) hcX11_best Q (0, [some (.inr (.inr (0, 0))), some (.inl a1), none], []) σ
  unfold F_X11_best at h
  refine Wp.run (WpD.mono _) 1 (q := ((2, [some (.inr (.inr (0, 0))), some (.inl a1), none], [.inl a1, .inr (.inr (0, 0))]), σ)) rfl ?_
  obtain ⟨q1, hb, h⟩ := bind_some h
  refine Wp.call (WpD.mono _) rfl (T_X11_isPlace (e + 11) N a1 σ _ _ _ hb ?_)
  show Wp (WpD (e + 13)) hcX11_best Q (5, [some (.inr (.inr (0, 0))), some (.inl a1), none], [.inl q1.1]) q1.2
  refine Wp.br (WpD.mono _) 0 (c := q1.1 = 0) (q1 := ((8, [some (.inr (.inr (0, 0))), some (.inl a1), none], []), q1.2)) (q2 := ((12, [some (.inr (.inr (0, 0))), some (.inl a1), none], []), q1.2)) rfl (fun hc => ?_) (fun hc => ?_)
  · have h := (if_pos hc).symm.trans h
    refine Wp.run (WpD.mono _) 0 (q := ((11, [some (.inr (.inr (0, 0))), some (.inl a1), none], [.inr (.inl (-4611686018427387904 : Int64))]), q1.2)) rfl ?_
    cases h
    exact Wp.ret (WpD.mono _) rfl hQ
  · have h := (if_neg hc).symm.trans h
    refine Wp.run (WpD.mono _) 2 (q := ((17, [some (.inr (.inr (0, 0))), some (.inl a1), none], [.inl a1, .inr (.inr (8, 0))]), q1.2)) rfl ?_
    obtain ⟨q2, hb, h⟩ := bind_some h
    refine Wp.call (WpD.mono _) rfl (T_X6_openYard (e + 9) N a1 q1.2 _ _ _ hb ?_)
    show Wp (WpD (e + 13)) hcX11_best Q (20, [some (.inr (.inr (0, 0))), some (.inl a1), none], [.inl q2.1]) q2.2
    refine Wp.br (WpD.mono _) 2 (c := q2.1 = 0) (q1 := ((25, [some (.inr (.inr (0, 0))), some (.inl a1), some (.inl q2.1)], []), q2.2)) (q2 := ((31, [some (.inr (.inr (0, 0))), some (.inl a1), some (.inl q2.1)], []), q2.2)) rfl (fun hc => ?_) (fun hc => ?_)
    · have h := (if_pos hc).symm.trans h
      refine Wp.run (WpD.mono _) 1 (q := ((39, [some (.inr (.inr (0, 0))), some (.inl a1), some (.inl q2.1)], [.inr (.inl (-3 : Int64))]), q2.2)) rfl ?_
      cases h
      exact Wp.ret (WpD.mono _) rfl hQ
    · have h := (if_neg hc).symm.trans h
      refine Wp.run (WpD.mono _) 2 (q := ((36, [some (.inr (.inr (0, 0))), some (.inl a1), some (.inl q2.1)], [.inl q2.1, .inr (.inr (8, 0))]), q2.2)) rfl ?_
      obtain ⟨q3, hb, h⟩ := bind_some h
      refine Wp.call (WpD.mono _) rfl (T_X6_worthOf (e + 0) N q2.1 q2.2 _ _ _ hb ?_)
      show Wp (WpD (e + 13)) hcX11_best Q (39, [some (.inr (.inr (0, 0))), some (.inl a1), some (.inl q2.1)], [.inr (.inl q3.1)]) q3.2
      cases h
      exact Wp.ret (WpD.mono _) rfl hQ

set_option maxRecDepth 100000 in
set_option maxHeartbeats 4000000 in
theorem T_X6_toldBy_b69 (e N : Nat) (g0 : Int32 → Int32 → Int32 → Mem → Option (Int64 × Mem)) (hg0 : ∀ (a1 : Int32) (a2 : Int32) (a3 : Int32) (σ : Mem) (r : Int64) (τ : Mem) (Q : Pst), g0 a1 a2 a3 σ = some (r, τ) → Q (some (.inr (.inl r))) τ → WpD (e + 13) mX6_toldBy [.inr (.inr (8, 0)), .inl a1, .inl a2, .inl a3] σ Q)  (r : Int64) (τ : Mem) (Q : Pst) (hQ : Q (some (.inr (.inl r))) τ) : ∀ n, ∀ (x1 : Int32) (x2 : Int32) (x4 : Int32) (x5 : Int64) (x7 : Int32) (σ : Mem), F_X6_toldBy_b69 N g0 n x1 x2 x4 x5 x7 σ = some (r, τ) → Wp (WpD (e + 13)) hcX6_toldBy Q (69, [some (.inr (.inr (8, 0))), some (.inl x1), some (.inl x2), none, some (.inl x4), some (.inr (.inl x5)), none, some (.inl x7), none, none], []) σ := by
  intro n
  induction n with
  | zero => intro x1 x2 x4 x5 x7 σ h; cases h
  | succ n ih =>
    intro x1 x2 x4 x5 x7 σ h
    unfold F_X6_toldBy_b69 at h
    refine Wp.br (WpD.mono _) 2 (c := (3 : Int32) ≤ x7) (q1 := ((121, [some (.inr (.inr (8, 0))), some (.inl x1), some (.inl x2), none, some (.inl x4), some (.inr (.inl x5)), none, some (.inl x7), none, none], []), σ)) (q2 := ((75, [some (.inr (.inr (8, 0))), some (.inl x1), some (.inl x2), none, some (.inl x4), some (.inr (.inl x5)), none, some (.inl x7), none, none], []), σ)) rfl (fun hc => ?_) (fun hc => ?_)
    · have h := (if_pos hc).symm.trans h
      refine Wp.run (WpD.mono _) 0 (q := ((123, [some (.inr (.inr (8, 0))), some (.inl x1), some (.inl x2), none, some (.inl x4), some (.inr (.inl x5)), none, some (.inl x7), none, none], [.inr (.inl x5)]), σ)) rfl ?_
      cases h
      exact Wp.ret (WpD.mono _) rfl hQ
    · have h := (if_neg hc).symm.trans h
      refine Wp.run (WpD.mono _) 2 (q := ((79, [some (.inr (.inr (8, 0))), some (.inl x1), some (.inl x2), none, some (.inl x4), some (.inr (.inl x5)), none, some (.inl x7), none, none], [.inl x7, .inl x2, .inr (.inr (8, 0))]), σ)) rfl ?_
      obtain ⟨q4, hb, h⟩ := bind_some h
      refine Wp.call (WpD.mono _) rfl (T_X6_pass (e + 11) N x2 x7 σ _ _ _ hb ?_)
      show Wp (WpD (e + 13)) hcX6_toldBy Q (82, [some (.inr (.inr (8, 0))), some (.inl x1), some (.inl x2), none, some (.inl x4), some (.inr (.inl x5)), none, some (.inl x7), none, none], [.inr (.inl q4.1)]) q4.2
      refine Wp.br (WpD.mono _) 4 (c := (lg_cmp q4.1 (0 : Int64)) ≤ 0) (q1 := ((115, [some (.inr (.inr (8, 0))), some (.inl x1), some (.inl x2), none, some (.inl x4), some (.inr (.inl x5)), none, some (.inl x7), some (.inr (.inl q4.1)), none], []), q4.2)) (q2 := ((91, [some (.inr (.inr (8, 0))), some (.inl x1), some (.inl x2), none, some (.inl x4), some (.inr (.inl x5)), none, some (.inl x7), some (.inr (.inl q4.1)), none], []), q4.2)) rfl (fun hc => ?_) (fun hc => ?_)
      · have h := (if_pos hc).symm.trans h
        refine Wp.run (WpD.mono _) 1 (q := ((69, [some (.inr (.inr (8, 0))), some (.inl x1), some (.inl x2), none, some (.inl x4), some (.inr (.inl x5)), none, some (.inl (x7 + (1 : Int32))), none, none], []), q4.2)) rfl ?_
        exact Wp.jump (WpD.mono _) rfl (ih x1 x2 x4 x5 (x7 + (1 : Int32)) q4.2 h)
      · have h := (if_neg hc).symm.trans h
        refine Wp.run (WpD.mono _) 9 (q := ((104, [some (.inr (.inr (8, 0))), some (.inl x1), some (.inl x2), none, some (.inl x4), some (.inr (.inl x5)), none, some (.inl x7), some (.inr (.inl q4.1)), none], [.inl x4, .inl (x2 + (1 : Int32)), .inl (x1 - (1 : Int32)), .inr (.inr (8, 0)), .inr (.inl q4.1), .inr (.inl x5)]), q4.2)) rfl ?_
        obtain ⟨q5, hb, h⟩ := bind_some h
        refine Wp.call (WpD.mono _) rfl (hg0 (x1 - (1 : Int32)) (x2 + (1 : Int32)) x4 q4.2 _ _ _ hb ?_)
        show Wp (WpD (e + 13)) hcX6_toldBy Q (107, [some (.inr (.inr (8, 0))), some (.inl x1), some (.inl x2), none, some (.inl x4), some (.inr (.inl x5)), none, some (.inl x7), some (.inr (.inl q4.1)), none], [.inr (.inl q5.1), .inr (.inl q4.1), .inr (.inl x5)]) q5.2
        refine Wp.run (WpD.mono _) 6 (q := ((69, [some (.inr (.inr (8, 0))), some (.inl x1), some (.inl x2), none, some (.inl x4), some (.inr (.inl (x5 + ((q4.1 * q5.1) / (1000000 : Int64))))), none, some (.inl (x7 + (1 : Int32))), none, none], []), q5.2)) rfl ?_
        exact Wp.jump (WpD.mono _) rfl (ih x1 x2 x4 (x5 + ((q4.1 * q5.1) / (1000000 : Int64))) (x7 + (1 : Int32)) q5.2 h)

set_option maxRecDepth 100000 in
set_option maxHeartbeats 4000000 in
theorem T_X6_toldBy_b20 (e N : Nat) (g0 : Int32 → Int32 → Int32 → Mem → Option (Int64 × Mem)) (hg0 : ∀ (a1 : Int32) (a2 : Int32) (a3 : Int32) (σ : Mem) (r : Int64) (τ : Mem) (Q : Pst), g0 a1 a2 a3 σ = some (r, τ) → Q (some (.inr (.inl r))) τ → WpD (e + 13) mX6_toldBy [.inr (.inr (8, 0)), .inl a1, .inl a2, .inl a3] σ Q)  (r : Int64) (τ : Mem) (Q : Pst) (hQ : Q (some (.inr (.inl r))) τ) : ∀ (x2 : Int32) (x3 : Int32) (σ : Mem), F_X6_toldBy_b20 N g0 x2 x3 σ = some (r, τ) → Wp (WpD (e + 13)) hcX6_toldBy Q (20, [some (.inr (.inr (8, 0))), none, some (.inl x2), some (.inl x3), none, none, none, none, none, none], []) σ := by
  intro x2 x3 σ h
  unfold F_X6_toldBy_b20 at h
  refine Wp.run (WpD.mono _) 2 (q := ((23, [some (.inr (.inr (8, 0))), none, some (.inl x2), some (.inl x3), none, none, none, none, none, none], [.inl x2, .inr (.inr (8, 0)), .inr (.inl (0 : Int64))]), σ)) rfl ?_
  obtain ⟨q6, hb, h⟩ := bind_some h
  refine Wp.call (WpD.mono _) rfl (T_X6_worthOf (e + 0) N x2 σ _ _ _ hb ?_)
  show Wp (WpD (e + 13)) hcX6_toldBy Q (26, [some (.inr (.inr (8, 0))), none, some (.inl x2), some (.inl x3), none, none, none, none, none, none], [.inr (.inl q6.1), .inr (.inl (0 : Int64))]) q6.2
  refine Wp.run (WpD.mono _) 5 (q := ((36, [some (.inr (.inr (8, 0))), none, some (.inl x2), some (.inl x3), none, none, none, none, none, none], [.inr (.inl (if (q6.1 - ((1000000 : Int64) * x3.toInt64)) < (0 : Int64) then (0 : Int64) else (q6.1 - ((1000000 : Int64) * x3.toInt64))))]), q6.2)) rfl ?_
  cases h
  exact Wp.ret (WpD.mono _) rfl hQ

set_option maxRecDepth 100000 in
set_option maxHeartbeats 4000000 in
theorem TB_X6_toldBy (e N : Nat) (g0 : Int32 → Int32 → Int32 → Mem → Option (Int64 × Mem)) (hg0 : ∀ (a1 : Int32) (a2 : Int32) (a3 : Int32) (σ : Mem) (r : Int64) (τ : Mem) (Q : Pst), g0 a1 a2 a3 σ = some (r, τ) → Q (some (.inr (.inl r))) τ → WpD (e + 13) mX6_toldBy [.inr (.inr (8, 0)), .inl a1, .inl a2, .inl a3] σ Q) (a1 : Int32) (a2 : Int32) (a3 : Int32) (σ : Mem) (r : Int64) (τ : Mem) (Q : Pst) (h : B_X6_toldBy N g0 a1 a2 a3 σ = some (r, τ)) (hQ : Q (some (.inr (.inl r))) τ) : WpD (e + 1 + 13) mX6_toldBy [.inr (.inr (8, 0)), .inl a1, .inl a2, .inl a3] σ Q := by
  refine WpD.of (d := e + 13) (Nat.le_of_ble_eq_true rfl) (Nat.le_of_ble_eq_true rfl) ?_
  show Wp (WpD (e + 13)) hcX6_toldBy Q (0, [some (.inr (.inr (8, 0))), some (.inl a1), some (.inl a2), some (.inl a3), none, none, none, none, none, none], []) σ
  unfold B_X6_toldBy at h
  refine Wp.br (WpD.mono _) 1 (c := a1 ≤ 0) (q1 := ((20, [some (.inr (.inr (8, 0))), some (.inl a1), some (.inl a2), some (.inl a3), none, none, none, none, none, none], []), σ)) (q2 := ((4, [some (.inr (.inr (8, 0))), some (.inl a1), some (.inl a2), some (.inl a3), none, none, none, none, none, none], []), σ)) rfl (fun hc => ?_) (fun hc => ?_)
  · have h := (if_pos hc).symm.trans h
    exact Wp.jump (WpD.mono _) rfl ((T_X6_toldBy_b20 e N g0 hg0 r τ Q hQ ) a2 a3 σ h)
  · have h := (if_neg hc).symm.trans h
    refine Wp.br (WpD.mono _) 2 (c := a2 < (1 : Int32)) (q1 := ((20, [some (.inr (.inr (8, 0))), some (.inl a1), some (.inl a2), some (.inl a3), none, none, none, none, none, none], []), σ)) (q2 := ((9, [some (.inr (.inr (8, 0))), some (.inl a1), some (.inl a2), some (.inl a3), none, none, none, none, none, none], []), σ)) rfl (fun hc => ?_) (fun hc => ?_)
    · have h := (if_pos hc).symm.trans h
      exact Wp.jump (WpD.mono _) rfl ((T_X6_toldBy_b20 e N g0 hg0 r τ Q hQ ) a2 a3 σ h)
    · have h := (if_neg hc).symm.trans h
      refine Wp.run (WpD.mono _) 2 (q := ((14, [some (.inr (.inr (8, 0))), some (.inl a1), some (.inl a2), some (.inl a3), none, none, none, none, none, none], [.inr (.inr (1, 0)), .inl a2]), σ)) rfl ?_
      obtain ⟨q1, hb, h⟩ := bind_some h
      refine Wp.call (WpD.mono _) rfl (T_X2_deepest (e + 12) N σ _ _ _ hb ?_)
      show Wp (WpD (e + 13)) hcX6_toldBy Q (17, [some (.inr (.inr (8, 0))), some (.inl a1), some (.inl a2), some (.inl a3), none, none, none, none, none, none], [.inl q1.1, .inl a2]) q1.2
      refine Wp.br (WpD.mono _) 0 (c := a2 ≤ q1.1) (q1 := ((37, [some (.inr (.inr (8, 0))), some (.inl a1), some (.inl a2), some (.inl a3), none, none, none, none, none, none], []), q1.2)) (q2 := ((20, [some (.inr (.inr (8, 0))), some (.inl a1), some (.inl a2), some (.inl a3), none, none, none, none, none, none], []), q1.2)) rfl (fun hc => ?_) (fun hc => ?_)
      · have h := (if_pos hc).symm.trans h
        obtain ⟨hc, h⟩ := ite_nn h
        refine Wp.no (WpD.mono _) 5 (c := hwOut a2 6) (q := ((47, [some (.inr (.inr (8, 0))), some (.inl a1), some (.inl a2), some (.inl a3), none, none, none, none, none, none], [.inl (q1.2.2.2.1 42 0 (a2).toNatClampNeg), .inl a3]), q1.2)) rfl hc ?_
        refine Wp.run (WpD.mono _) 5 (q := ((56, [some (.inr (.inr (8, 0))), some (.inl a1), some (.inl a2), some (.inl a3), some (.inl (a3 + (q1.2.2.2.1 42 0 (a2).toNatClampNeg))), none, none, none, none, none], [.inr (.inr (1, 0)), .inl a2, .inr (.inr (8, 0))]), q1.2)) rfl ?_
        obtain ⟨q2, hb, h⟩ := bind_some h
        refine Wp.call (WpD.mono _) rfl (T_X2_worth (e + 12) N q1.2 _ _ _ hb ?_)
        show Wp (WpD (e + 13)) hcX6_toldBy Q (59, [some (.inr (.inr (8, 0))), some (.inl a1), some (.inl a2), some (.inl a3), some (.inl (a3 + (q1.2.2.2.1 42 0 (a2).toNatClampNeg))), none, none, none, none, none], [.inl q2.1, .inl a2, .inr (.inr (8, 0))]) q2.2
        refine Wp.run (WpD.mono _) 0 (q := ((61, [some (.inr (.inr (8, 0))), some (.inl a1), some (.inl a2), some (.inl a3), some (.inl (a3 + (q1.2.2.2.1 42 0 (a2).toNatClampNeg))), none, none, none, none, none], [.inl (a3 + (q1.2.2.2.1 42 0 (a2).toNatClampNeg)), .inl q2.1, .inl a2, .inr (.inr (8, 0))]), q2.2)) rfl ?_
        obtain ⟨q3, hb, h⟩ := bind_some h
        refine Wp.call (WpD.mono _) rfl (T_X6_gain (e + 11) N a2 q2.1 (a3 + (q1.2.2.2.1 42 0 (a2).toNatClampNeg)) q2.2 _ _ _ hb ?_)
        show Wp (WpD (e + 13)) hcX6_toldBy Q (64, [some (.inr (.inr (8, 0))), some (.inl a1), some (.inl a2), some (.inl a3), some (.inl (a3 + (q1.2.2.2.1 42 0 (a2).toNatClampNeg))), none, none, none, none, none], [.inr (.inl q3.1)]) q3.2
        refine Wp.run (WpD.mono _) 2 (q := ((69, [some (.inr (.inr (8, 0))), some (.inl a1), some (.inl a2), some (.inl a3), some (.inl (a3 + (q1.2.2.2.1 42 0 (a2).toNatClampNeg))), some (.inr (.inl q3.1)), none, some (.inl (0 : Int32)), none, none], []), q3.2)) rfl ?_
        exact Wp.jump (WpD.mono _) rfl ((T_X6_toldBy_b69 e N g0 hg0 r τ Q hQ  N) a1 a2 (a3 + (q1.2.2.2.1 42 0 (a2).toNatClampNeg)) q3.1 (0 : Int32) q3.2 h)
      · have h := (if_neg hc).symm.trans h
        exact Wp.jump (WpD.mono _) rfl ((T_X6_toldBy_b20 e N g0 hg0 r τ Q hQ ) a2 a3 q1.2 h)

set_option maxRecDepth 100000 in
theorem TG_X6_toldBy (e N : Nat) : ∀ d : Nat, (∀ (a1 : Int32) (a2 : Int32) (a3 : Int32) (σ : Mem) (r : Int64) (τ : Mem) (Q : Pst), (G_X6_toldBy N d) a1 a2 a3 σ = some (r, τ) → Q (some (.inr (.inl r))) τ → WpD (e + d + 13) mX6_toldBy [.inr (.inr (8, 0)), .inl a1, .inl a2, .inl a3] σ Q) := by
  intro d
  induction d with
  | zero =>
    exact fun _ _ _ _ _ _ _ h => nomatch h
  | succ d ih =>
    exact fun a1 a2 a3 σ r τ Q h hQ => TB_X6_toldBy (e + d) N (G_X6_toldBy N d) ih a1 a2 a3 σ r τ Q h hQ


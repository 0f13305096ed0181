set_option maxRecDepth 100000 in
set_option maxHeartbeats 4000000 in
theorem T_X12_worth_b93 (e N : Nat)  (k16 : Int32 → Int32 → Int32 → Mem → Option (Int32 × Mem)) (r : Int32) (τ : Mem) (Q : Pst) (hQ : Q (some (.inl r)) τ) (hk16 : ∀ (x1 : Int32) (x2 : Int32) (x3 : Int32) (σ : Mem), k16 x1 x2 x3 σ = some (r, τ) → Wp (WpD (e + 1)) hcX12_worth Q (16, [some (.inr (.inr (12, 0))), some (.inl x1), some (.inl x2), some (.inl x3), none], []) σ) : ∀ (x1 : Int32) (x2 : Int32) (x3 : Int32) (s0 : Int32) (s1 : Int32) (σ : Mem), F_X12_worth_b93 N k16 x1 x2 x3 s0 s1 σ = some (r, τ) → Wp (WpD (e + 1)) hcX12_worth Q (93, [some (.inr (.inr (12, 0))), some (.inl x1), some (.inl x2), some (.inl x3), none], [.inl s0, .inl s1, .inr (.inr (100, 0))]) σ := by
  intro x1 x2 x3 s0 s1 σ h
  unfold F_X12_worth_b93 at h
  obtain ⟨hc, h⟩ := ite_nn h
  refine Wp.no (WpD.mono _) 0 (c := hwOut s1 200) (q := ((94, [some (.inr (.inr (12, 0))), some (.inl x1), some (.inl x2), some (.inl x3), none], []), (σ.1, σ.2.1, (hwU3 σ.2.2.1 100 0 (s1).toNatClampNeg s0), σ.2.2.2.1, σ.2.2.2.2))) rfl hc ?_
  refine Wp.run (WpD.mono _) 3 (q := ((16, [some (.inr (.inr (12, 0))), some (.inl x1), some (.inl (x2 + (1 : Int32))), some (.inl (x3 + (1 : Int32))), none], []), (σ.1, σ.2.1, (hwU3 σ.2.2.1 100 0 (s1).toNatClampNeg s0), σ.2.2.2.1, σ.2.2.2.2))) rfl ?_
  exact Wp.jump (WpD.mono _) rfl (hk16 x1 (x2 + (1 : Int32)) (x3 + (1 : Int32)) (σ.1, σ.2.1, (hwU3 σ.2.2.1 100 0 (s1).toNatClampNeg s0), σ.2.2.2.1, σ.2.2.2.2) h)

set_option maxRecDepth 100000 in
set_option maxHeartbeats 4000000 in
theorem T_X12_worth_b66 (e N : Nat)  (k16 : Int32 → Int32 → Int32 → Mem → Option (Int32 × Mem)) (r : Int32) (τ : Mem) (Q : Pst) (hQ : Q (some (.inl r)) τ) (hk16 : ∀ (x1 : Int32) (x2 : Int32) (x3 : Int32) (σ : Mem), k16 x1 x2 x3 σ = some (r, τ) → Wp (WpD (e + 1)) hcX12_worth Q (16, [some (.inr (.inr (12, 0))), some (.inl x1), some (.inl x2), some (.inl x3), none], []) σ) : ∀ (x1 : Int32) (x2 : Int32) (x3 : Int32) (x4 : Int32) (σ : Mem), F_X12_worth_b66 N k16 x1 x2 x3 x4 σ = some (r, τ) → Wp (WpD (e + 1)) hcX12_worth Q (66, [some (.inr (.inr (12, 0))), some (.inl x1), some (.inl x2), some (.inl x3), some (.inl x4)], []) σ := by
  intro x1 x2 x3 x4 σ h
  unfold F_X12_worth_b66 at h
  refine Wp.br (WpD.mono _) 5 (c := (11 : Int32) ≤ x4) (q1 := ((88, [some (.inr (.inr (12, 0))), some (.inl x1), some (.inl x2), some (.inl x3), some (.inl x4)], [.inl x2, .inr (.inr (100, 0))]), σ)) (q2 := ((78, [some (.inr (.inr (12, 0))), some (.inl x1), some (.inl x2), some (.inl x3), some (.inl x4)], [.inl x2, .inr (.inr (100, 0))]), σ)) rfl (fun hc => ?_) (fun hc => ?_)
  · have h := (if_pos hc).symm.trans h
    refine Wp.run (WpD.mono _) 2 (q := ((93, [some (.inr (.inr (12, 0))), some (.inl x1), some (.inl x2), some (.inl x3), some (.inl x4)], [.inl (x4 - (100000 : Int32)), .inl x2, .inr (.inr (100, 0))]), σ)) rfl ?_
    exact Wp.jump (WpD.mono _) rfl ((T_X12_worth_b93 e N k16 r τ Q hQ hk16) x1 x2 x3 (x4 - (100000 : Int32)) x2 σ h)
  · have h := (if_neg hc).symm.trans h
    obtain ⟨hc, h⟩ := ite_nn h
    refine Wp.no (WpD.mono _) 3 (c := hwOut x4 6) (q := ((85, [some (.inr (.inr (12, 0))), some (.inl x1), some (.inl x2), some (.inl x3), some (.inl x4)], [.inl (σ.2.2.1 101 0 (x4).toNatClampNeg), .inl x2, .inr (.inr (100, 0))]), σ)) rfl hc ?_
    refine Wp.run (WpD.mono _) 0 (q := ((93, [some (.inr (.inr (12, 0))), some (.inl x1), some (.inl x2), some (.inl x3), some (.inl x4)], [.inl (σ.2.2.1 101 0 (x4).toNatClampNeg), .inl x2, .inr (.inr (100, 0))]), σ)) rfl ?_
    exact Wp.jump (WpD.mono _) rfl ((T_X12_worth_b93 e N k16 r τ Q hQ hk16) x1 x2 x3 (σ.2.2.1 101 0 (x4).toNatClampNeg) x2 σ h)

set_option maxRecDepth 100000 in
set_option maxHeartbeats 4000000 in
theorem T_X12_worth_b209 (e N : Nat)   (r : Int32) (τ : Mem) (Q : Pst) (hQ : Q (some (.inl r)) τ) : ∀ (s0 : Int32) (σ : Mem), F_X12_worth_b209 N s0 σ = some (r, τ) → Wp (WpD (e + 1)) hcX12_worth Q (209, [some (.inr (.inr (12, 0))), none, none, none, none], [.inl s0]) σ := by
  intro s0 σ h
  unfold F_X12_worth_b209 at h
  refine Wp.br (WpD.mono _) 5 (c := 0 ≤ (σ.2.2.1 100 0 0)) (q1 := ((223, [some (.inr (.inr (12, 0))), none, none, some (.inl s0), none], []), σ)) (q2 := ((219, [some (.inr (.inr (12, 0))), none, none, some (.inl s0), none], []), σ)) rfl (fun hc => ?_) (fun hc => ?_)
  · have h := (if_pos hc).symm.trans h
    refine Wp.br (WpD.mono _) 5 (c := (σ.2.2.1 100 0 0) ≤ s0) (q1 := ((237, [some (.inr (.inr (12, 0))), none, none, some (.inl s0), none], []), σ)) (q2 := ((233, [some (.inr (.inr (12, 0))), none, none, some (.inl s0), none], []), σ)) rfl (fun hc => ?_) (fun hc => ?_)
    · have h := (if_pos hc).symm.trans h
      refine Wp.run (WpD.mono _) 3 (q := ((243, [some (.inr (.inr (12, 0))), none, none, some (.inl s0), none], [.inl (σ.2.2.1 100 0 0)]), σ)) rfl ?_
      cases h
      exact Wp.ret (WpD.mono _) rfl hQ
    · have h := (if_neg hc).symm.trans h
      refine Wp.run (WpD.mono _) 1 (q := ((243, [some (.inr (.inr (12, 0))), none, none, some (.inl s0), none], [.inl s0]), σ)) rfl ?_
      cases h
      exact Wp.ret (WpD.mono _) rfl hQ
  · have h := (if_neg hc).symm.trans h
    refine Wp.run (WpD.mono _) 1 (q := ((243, [some (.inr (.inr (12, 0))), none, none, some (.inl s0), none], [.inl (0 : Int32)]), σ)) rfl ?_
    cases h
    exact Wp.ret (WpD.mono _) rfl hQ

set_option maxRecDepth 100000 in
set_option maxHeartbeats 4000000 in
theorem T_X12_worth_b16 (e N : Nat)   (r : Int32) (τ : Mem) (Q : Pst) (hQ : Q (some (.inl r)) τ) : ∀ n, ∀ (x1 : Int32) (x2 : Int32) (x3 : Int32) (σ : Mem), F_X12_worth_b16 N n x1 x2 x3 σ = some (r, τ) → Wp (WpD (e + 1)) hcX12_worth Q (16, [some (.inr (.inr (12, 0))), some (.inl x1), some (.inl x2), some (.inl x3), none], []) σ := by
  intro n
  induction n with
  | zero => intro x1 x2 x3 σ h; cases h
  | succ n ih =>
    intro x1 x2 x3 σ h
    unfold F_X12_worth_b16 at h
    obtain ⟨hc, h⟩ := ite_nn h
    refine Wp.no (WpD.mono _) 11 (c := hwOut ((((4 : Int32) * (σ.1 12 28)) + x1) + (1 : Int32)) 24) (q := ((32, [some (.inr (.inr (12, 0))), some (.inl x1), some (.inl x2), some (.inl x3), none], [.inl (σ.2.2.1 88 0 (((((4 : Int32) * (σ.1 12 28)) + x1) + (1 : Int32))).toNatClampNeg), .inl x3]), σ)) rfl hc ?_
    refine Wp.br (WpD.mono _) 0 (c := (σ.2.2.1 88 0 (((((4 : Int32) * (σ.1 12 28)) + x1) + (1 : Int32))).toNatClampNeg) ≤ x3) (q1 := ((197, [some (.inr (.inr (12, 0))), some (.inl x1), some (.inl x2), some (.inl x3), none], []), σ)) (q2 := ((35, [some (.inr (.inr (12, 0))), some (.inl x1), some (.inl x2), some (.inl x3), none], []), σ)) rfl (fun hc => ?_) (fun hc => ?_)
    · have h := (if_pos hc).symm.trans h
      refine Wp.br (WpD.mono _) 1 (c := x1 = 0) (q1 := ((201, [some (.inr (.inr (12, 0))), some (.inl x1), some (.inl x2), some (.inl x3), none], []), σ)) (q2 := ((207, [some (.inr (.inr (12, 0))), some (.inl x1), some (.inl x2), some (.inl x3), none], []), σ)) rfl (fun hc => ?_) (fun hc => ?_)
      · have h := (if_pos hc).symm.trans h
        refine Wp.run (WpD.mono _) 1 (q := ((209, [some (.inr (.inr (12, 0))), some (.inl x1), some (.inl x2), some (.inl x3), none], [.inl (999 : Int32)]), σ)) rfl ?_
        exact Wp.jump (WpD.mono _) rfl ((T_X12_worth_b209 e N  r τ Q hQ ) (999 : Int32) σ h)
      · have h := (if_neg hc).symm.trans h
        refine Wp.run (WpD.mono _) 0 (q := ((209, [some (.inr (.inr (12, 0))), some (.inl x1), some (.inl x2), some (.inl x3), none], [.inl (100 : Int32)]), σ)) rfl ?_
        exact Wp.jump (WpD.mono _) rfl ((T_X12_worth_b209 e N  r τ Q hQ ) (100 : Int32) σ h)
    · have h := (if_neg hc).symm.trans h
      obtain ⟨hc, h⟩ := ite_nn h
      refine Wp.no (WpD.mono _) 8 (c := hwOut (((200 : Int32) * (σ.1 12 28)) + x3) 1200) (q := ((50, [some (.inr (.inr (12, 0))), some (.inl x1), some (.inl x2), some (.inl x3), none], [.inl (σ.2.2.1 87 0 ((((200 : Int32) * (σ.1 12 28)) + x3)).toNatClampNeg)]), σ)) rfl hc ?_
      refine Wp.br (WpD.mono _) 3 (c := (100000 : Int32) ≤ (σ.2.2.1 87 0 ((((200 : Int32) * (σ.1 12 28)) + x3)).toNatClampNeg)) (q1 := ((66, [some (.inr (.inr (12, 0))), some (.inl x1), some (.inl x2), some (.inl x3), some (.inl (σ.2.2.1 87 0 ((((200 : Int32) * (σ.1 12 28)) + x3)).toNatClampNeg))], []), σ)) (q2 := ((59, [some (.inr (.inr (12, 0))), some (.inl x1), some (.inl x2), some (.inl x3), some (.inl (σ.2.2.1 87 0 ((((200 : Int32) * (σ.1 12 28)) + x3)).toNatClampNeg))], []), σ)) rfl (fun hc => ?_) (fun hc => ?_)
      · have h := (if_pos hc).symm.trans h
        exact Wp.jump (WpD.mono _) rfl ((T_X12_worth_b66 e N (F_X12_worth_b16 N n) r τ Q hQ ih) x1 x2 x3 (σ.2.2.1 87 0 ((((200 : Int32) * (σ.1 12 28)) + x3)).toNatClampNeg) σ h)
      · have h := (if_neg hc).symm.trans h
        refine Wp.br (WpD.mono _) 2 (c := (11 : Int32) ≤ (σ.2.2.1 87 0 ((((200 : Int32) * (σ.1 12 28)) + x3)).toNatClampNeg)) (q1 := ((100, [some (.inr (.inr (12, 0))), some (.inl x1), some (.inl x2), some (.inl x3), some (.inl (σ.2.2.1 87 0 ((((200 : Int32) * (σ.1 12 28)) + x3)).toNatClampNeg))], []), σ)) (q2 := ((66, [some (.inr (.inr (12, 0))), some (.inl x1), some (.inl x2), some (.inl x3), some (.inl (σ.2.2.1 87 0 ((((200 : Int32) * (σ.1 12 28)) + x3)).toNatClampNeg))], []), σ)) rfl (fun hc => ?_) (fun hc => ?_)
        · have h := (if_pos hc).symm.trans h
          refine Wp.br (WpD.mono _) 2 (c := (σ.2.2.1 87 0 ((((200 : Int32) * (σ.1 12 28)) + x3)).toNatClampNeg) = (13 : Int32)) (q1 := ((107, [some (.inr (.inr (12, 0))), some (.inl x1), some (.inl x2), some (.inl x3), some (.inl (σ.2.2.1 87 0 ((((200 : Int32) * (σ.1 12 28)) + x3)).toNatClampNeg))], []), σ)) (q2 := ((134, [some (.inr (.inr (12, 0))), some (.inl x1), some (.inl x2), some (.inl x3), some (.inl (σ.2.2.1 87 0 ((((200 : Int32) * (σ.1 12 28)) + x3)).toNatClampNeg))], []), σ)) rfl (fun hc => ?_) (fun hc => ?_)
          · have h := (if_pos hc).symm.trans h
            obtain ⟨hc, h⟩ := ite_nn h
            refine Wp.no (WpD.mono _) 10 (c := hwOut (x2 - (1 : Int32)) 200) (q := ((122, [some (.inr (.inr (12, 0))), some (.inl x1), some (.inl x2), some (.inl x3), some (.inl (σ.2.2.1 87 0 ((((200 : Int32) * (σ.1 12 28)) + x3)).toNatClampNeg))], [.inl (σ.2.2.1 100 0 ((x2 - (1 : Int32))).toNatClampNeg), .inl (x2 - (1 : Int32)), .inr (.inr (100, 0))]), σ)) rfl hc ?_
            refine Wp.br (WpD.mono _) 0 (c := (σ.2.2.1 100 0 ((x2 - (1 : Int32))).toNatClampNeg) = 0) (q1 := ((125, [some (.inr (.inr (12, 0))), some (.inl x1), some (.inl x2), some (.inl x3), some (.inl (σ.2.2.1 87 0 ((((200 : Int32) * (σ.1 12 28)) + x3)).toNatClampNeg))], [.inl (x2 - (1 : Int32)), .inr (.inr (100, 0))]), σ)) (q2 := ((129, [some (.inr (.inr (12, 0))), some (.inl x1), some (.inl x2), some (.inl x3), some (.inl (σ.2.2.1 87 0 ((((200 : Int32) * (σ.1 12 28)) + x3)).toNatClampNeg))], [.inl (x2 - (1 : Int32)), .inr (.inr (100, 0))]), σ)) rfl (fun hc => ?_) (fun hc => ?_)
            · have h := (if_pos hc).symm.trans h
              refine Wp.run (WpD.mono _) 1 (q := ((130, [some (.inr (.inr (12, 0))), some (.inl x1), some (.inl x2), some (.inl x3), some (.inl (σ.2.2.1 87 0 ((((200 : Int32) * (σ.1 12 28)) + x3)).toNatClampNeg))], [.inl (1 : Int32), .inl (x2 - (1 : Int32)), .inr (.inr (100, 0))]), σ)) rfl ?_
              exact Wp.jump (WpD.mono _) rfl ((T_X12_worth_b130 e N (F_X12_worth_b16 N n) r τ Q hQ ih) x1 x2 x3 (1 : Int32) (x2 - (1 : Int32)) σ h)
            · have h := (if_neg hc).symm.trans h
              refine Wp.run (WpD.mono _) 0 (q := ((130, [some (.inr (.inr (12, 0))), some (.inl x1), some (.inl x2), some (.inl x3), some (.inl (σ.2.2.1 87 0 ((((200 : Int32) * (σ.1 12 28)) + x3)).toNatClampNeg))], [.inl (0 : Int32), .inl (x2 - (1 : Int32)), .inr (.inr (100, 0))]), σ)) rfl ?_
              exact Wp.jump (WpD.mono _) rfl ((T_X12_worth_b130 e N (F_X12_worth_b16 N n) r τ Q hQ ih) x1 x2 x3 (0 : Int32) (x2 - (1 : Int32)) σ h)
          · have h := (if_neg hc).symm.trans h
            refine Wp.br (WpD.mono _) 2 (c := (σ.2.2.1 87 0 ((((200 : Int32) * (σ.1 12 28)) + x3)).toNatClampNeg) = (19 : Int32)) (q1 := ((141, [some (.inr (.inr (12, 0))), some (.inl x1), some (.inl x2), some (.inl x3), some (.inl (σ.2.2.1 87 0 ((((200 : Int32) * (σ.1 12 28)) + x3)).toNatClampNeg))], []), σ)) (q2 := ((161, [some (.inr (.inr (12, 0))), some (.inl x1), some (.inl x2), some (.inl x3), some (.inl (σ.2.2.1 87 0 ((((200 : Int32) * (σ.1 12 28)) + x3)).toNatClampNeg))], []), σ)) rfl (fun hc => ?_) (fun hc => ?_)
            · have h := (if_pos hc).symm.trans h
              obtain ⟨hc, h⟩ := ite_nn h
              refine Wp.no (WpD.mono _) 10 (c := hwOut (x2 - (1 : Int32)) 200) (q := ((156, [some (.inr (.inr (12, 0))), some (.inl x1), some (.inl x2), some (.inl x3), some (.inl (σ.2.2.1 87 0 ((((200 : Int32) * (σ.1 12 28)) + x3)).toNatClampNeg))], [.inl (σ.2.2.1 100 0 ((x2 - (1 : Int32))).toNatClampNeg), .inl (x2 - (1 : Int32)), .inr (.inr (100, 0))]), σ)) rfl hc ?_
              obtain ⟨hc, h⟩ := ite_nn h
              refine Wp.no (WpD.mono _) 1 (c := hwOut (x2 - (1 : Int32)) 200) (q := ((158, [some (.inr (.inr (12, 0))), some (.inl x1), some (.inl x2), some (.inl x3), some (.inl (σ.2.2.1 87 0 ((((200 : Int32) * (σ.1 12 28)) + x3)).toNatClampNeg))], []), (σ.1, σ.2.1, (hwU3 σ.2.2.1 100 0 ((x2 - (1 : Int32))).toNatClampNeg (-(σ.2.2.1 100 0 ((x2 - (1 : Int32))).toNatClampNeg))), σ.2.2.2.1, σ.2.2.2.2))) rfl hc ?_
              refine Wp.run (WpD.mono _) 2 (q := ((16, [some (.inr (.inr (12, 0))), some (.inl x1), some (.inl x2), some (.inl (x3 + (1 : Int32))), none], []), (σ.1, σ.2.1, (hwU3 σ.2.2.1 100 0 ((x2 - (1 : Int32))).toNatClampNeg (-(σ.2.2.1 100 0 ((x2 - (1 : Int32))).toNatClampNeg))), σ.2.2.2.1, σ.2.2.2.2))) rfl ?_
              exact Wp.jump (WpD.mono _) rfl (ih x1 x2 (x3 + (1 : Int32)) (σ.1, σ.2.1, (hwU3 σ.2.2.1 100 0 ((x2 - (1 : Int32))).toNatClampNeg (-(σ.2.2.1 100 0 ((x2 - (1 : Int32))).toNatClampNeg))), σ.2.2.2.1, σ.2.2.2.2) h)
            · have h := (if_neg hc).symm.trans h
              obtain ⟨hc, h⟩ := ite_nn h
              refine Wp.no (WpD.mono _) 12 (c := hwOut ((x2 + (-1 : Int32)) - (1 : Int32)) 200) (q := ((181, [some (.inr (.inr (12, 0))), some (.inl x1), some (.inl (x2 + (-1 : Int32))), some (.inl x3), some (.inl (σ.2.2.1 87 0 ((((200 : Int32) * (σ.1 12 28)) + x3)).toNatClampNeg))], [.inl (σ.2.2.1 100 0 (((x2 + (-1 : Int32)) - (1 : Int32))).toNatClampNeg), .inl (σ.2.2.1 87 0 ((((200 : Int32) * (σ.1 12 28)) + x3)).toNatClampNeg), .inl ((x2 + (-1 : Int32)) - (1 : Int32)), .inr (.inr (100, 0))]), σ)) rfl hc ?_
              obtain ⟨hc, h⟩ := ite_nn h
              refine Wp.no (WpD.mono _) 3 (c := hwOut (x2 + (-1 : Int32)) 200) (q := ((187, [some (.inr (.inr (12, 0))), some (.inl x1), some (.inl (x2 + (-1 : Int32))), some (.inl x3), some (.inl (σ.2.2.1 87 0 ((((200 : Int32) * (σ.1 12 28)) + x3)).toNatClampNeg))], [.inl (σ.2.2.1 100 0 ((x2 + (-1 : Int32))).toNatClampNeg), .inl (σ.2.2.1 100 0 (((x2 + (-1 : Int32)) - (1 : Int32))).toNatClampNeg), .inl (σ.2.2.1 87 0 ((((200 : Int32) * (σ.1 12 28)) + x3)).toNatClampNeg), .inl ((x2 + (-1 : Int32)) - (1 : Int32)), .inr (.inr (100, 0))]), σ)) rfl hc ?_
              obtain ⟨q1, hb, h⟩ := bind_some h
              refine Wp.call (WpD.mono _) rfl (T_X12_two (e + 0) N (σ.2.2.1 87 0 ((((200 : Int32) * (σ.1 12 28)) + x3)).toNatClampNeg) (σ.2.2.1 100 0 (((x2 + (-1 : Int32)) - (1 : Int32))).toNatClampNeg) (σ.2.2.1 100 0 ((x2 + (-1 : Int32))).toNatClampNeg) σ _ _ _ hb ?_)
              show Wp (WpD (e + 1)) hcX12_worth Q (190, [some (.inr (.inr (12, 0))), some (.inl x1), some (.inl (x2 + (-1 : Int32))), some (.inl x3), some (.inl (σ.2.2.1 87 0 ((((200 : Int32) * (σ.1 12 28)) + x3)).toNatClampNeg))], [.inl q1.1, .inl ((x2 + (-1 : Int32)) - (1 : Int32)), .inr (.inr (100, 0))]) q1.2
              obtain ⟨hc, h⟩ := ite_nn h
              refine Wp.no (WpD.mono _) 0 (c := hwOut ((x2 + (-1 : Int32)) - (1 : Int32)) 200) (q := ((191, [some (.inr (.inr (12, 0))), some (.inl x1), some (.inl (x2 + (-1 : Int32))), some (.inl x3), some (.inl (σ.2.2.1 87 0 ((((200 : Int32) * (σ.1 12 28)) + x3)).toNatClampNeg))], []), (q1.2.1, q1.2.2.1, (hwU3 q1.2.2.2.1 100 0 (((x2 + (-1 : Int32)) - (1 : Int32))).toNatClampNeg q1.1), q1.2.2.2.2.1, q1.2.2.2.2.2))) rfl hc ?_
              refine Wp.run (WpD.mono _) 1 (q := ((16, [some (.inr (.inr (12, 0))), some (.inl x1), some (.inl (x2 + (-1 : Int32))), some (.inl (x3 + (1 : Int32))), none], []), (q1.2.1, q1.2.2.1, (hwU3 q1.2.2.2.1 100 0 (((x2 + (-1 : Int32)) - (1 : Int32))).toNatClampNeg q1.1), q1.2.2.2.2.1, q1.2.2.2.2.2))) rfl ?_
              exact Wp.jump (WpD.mono _) rfl (ih x1 (x2 + (-1 : Int32)) (x3 + (1 : Int32)) (q1.2.1, q1.2.2.1, (hwU3 q1.2.2.2.1 100 0 (((x2 + (-1 : Int32)) - (1 : Int32))).toNatClampNeg q1.1), q1.2.2.2.2.1, q1.2.2.2.2.2) h)
        · have h := (if_neg hc).symm.trans h
          exact Wp.jump (WpD.mono _) rfl ((T_X12_worth_b66 e N (F_X12_worth_b16 N n) r τ Q hQ ih) x1 x2 x3 (σ.2.2.1 87 0 ((((200 : Int32) * (σ.1 12 28)) + x3)).toNatClampNeg) σ h)

set_option maxRecDepth 100000 in
set_option maxHeartbeats 4000000 in
theorem T_X12_worth (e N : Nat)  (a1 : Int32) (σ : Mem) (r : Int32) (τ : Mem) (Q : Pst) (h : F_X12_worth N a1 σ = some (r, τ)) (hQ : Q (some (.inl r)) τ) : WpD (e + 2) mX12_worth [.inr (.inr (12, 0)), .inl a1] σ Q := by
  refine WpD.of (d := e + 1) (Nat.le_of_ble_eq_true rfl) (Nat.le_of_ble_eq_true rfl) ?_
  show Wp (WpD (e + 1)) hcX12_worth Q (0, [some (.inr (.inr (12, 0))), some (.inl a1), none, none, none], []) σ
  unfold F_X12_worth at h
  obtain ⟨hc, h⟩ := ite_nn h
  refine Wp.no (WpD.mono _) 10 (c := hwOut (((4 : Int32) * (σ.1 12 28)) + a1) 24) (q := ((15, [some (.inr (.inr (12, 0))), some (.inl a1), some (.inl (0 : Int32)), none, none], [.inl (σ.2.2.1 88 0 ((((4 : Int32) * (σ.1 12 28)) + a1)).toNatClampNeg)]), σ)) rfl hc ?_
  refine Wp.run (WpD.mono _) 0 (q := ((16, [some (.inr (.inr (12, 0))), some (.inl a1), some (.inl (0 : Int32)), some (.inl (σ.2.2.1 88 0 ((((4 : Int32) * (σ.1 12 28)) + a1)).toNatClampNeg)), none], []), σ)) rfl ?_
  exact Wp.jump (WpD.mono _) rfl ((T_X12_worth_b16 e N  r τ Q hQ  N) a1 (0 : Int32) (σ.2.2.1 88 0 ((((4 : Int32) * (σ.1 12 28)) + a1)).toNatClampNeg) σ h)

set_option maxRecDepth 100000 in
set_option maxHeartbeats 4000000 in
theorem T_X12_costOf (e N : Nat)  (a1 : Int32) (σ : Mem) (r : Int32) (τ : Mem) (Q : Pst) (h : F_X12_costOf N a1 σ = some (r, τ)) (hQ : Q (some (.inl r)) τ) : WpD (e + 3) mX12_costOf [.inr (.inr (12, 0)), .inl a1] σ Q := by
  refine WpD.of (d := e + 2) (Nat.le_of_ble_eq_true rfl) (Nat.le_of_ble_eq_true rfl) ?_
  show Wp (WpD (e + 2)) hcX12_costOf Q (0, [some (.inr (.inr (12, 0))), some (.inl a1)], []) σ
  unfold F_X12_costOf at h
  refine Wp.run (WpD.mono _) 2 (q := ((3, [some (.inr (.inr (12, 0))), some (.inl a1)], [.inl (0 : Int32), .inl a1, .inr (.inr (12, 0))]), σ)) rfl ?_
  obtain ⟨q1, hb, h⟩ := bind_some h
  refine Wp.call (WpD.mono _) rfl (T_X12_names (e + 1) N a1 (0 : Int32) σ _ _ _ hb ?_)
  show Wp (WpD (e + 2)) hcX12_costOf Q (6, [some (.inr (.inr (12, 0))), some (.inl a1)], []) q1.2
  refine Wp.run (WpD.mono _) 1 (q := ((8, [some (.inr (.inr (12, 0))), some (.inl a1)], [.inl (0 : Int32), .inr (.inr (12, 0))]), q1.2)) rfl ?_
  obtain ⟨q2, hb, h⟩ := bind_some h
  refine Wp.call (WpD.mono _) rfl (T_X12_worth (e + 0) N (0 : Int32) q1.2 _ _ _ hb ?_)
  show Wp (WpD (e + 2)) hcX12_costOf Q (11, [some (.inr (.inr (12, 0))), some (.inl a1)], [.inl q2.1]) q2.2
  cases h
  exact Wp.ret (WpD.mono _) rfl hQ

set_option maxRecDepth 100000 in
set_option maxHeartbeats 4000000 in
theorem T_X12_fallOf (e N : Nat)  (a1 : Int32) (a2 : Int32) (σ : Mem) (r : Int32) (τ : Mem) (Q : Pst) (h : F_X12_fallOf N a1 a2 σ = some (r, τ)) (hQ : Q (some (.inl r)) τ) : WpD (e + 3) mX12_fallOf [.inr (.inr (12, 0)), .inl a1, .inl a2] σ Q := by
  refine WpD.of (d := e + 2) (Nat.le_of_ble_eq_true rfl) (Nat.le_of_ble_eq_true rfl) ?_
  show Wp (WpD (e + 2)) hcX12_fallOf Q (0, [some (.inr (.inr (12, 0))), some (.inl a1), some (.inl a2)], []) σ
  unfold F_X12_fallOf at h
  refine Wp.run (WpD.mono _) 2 (q := ((3, [some (.inr (.inr (12, 0))), some (.inl a1), some (.inl a2)], [.inl a2, .inl a1, .inr (.inr (12, 0))]), σ)) rfl ?_
  obtain ⟨q1, hb, h⟩ := bind_some h
  refine Wp.call (WpD.mono _) rfl (T_X12_names (e + 1) N a1 a2 σ _ _ _ hb ?_)
  show Wp (WpD (e + 2)) hcX12_fallOf Q (6, [some (.inr (.inr (12, 0))), some (.inl a1), some (.inl a2)], []) q1.2
  refine Wp.run (WpD.mono _) 1 (q := ((8, [some (.inr (.inr (12, 0))), some (.inl a1), some (.inl a2)], [.inl (2 : Int32), .inr (.inr (12, 0))]), q1.2)) rfl ?_
  obtain ⟨q2, hb, h⟩ := bind_some h
  refine Wp.call (WpD.mono _) rfl (T_X12_worth (e + 0) N (2 : Int32) q1.2 _ _ _ hb ?_)
  show Wp (WpD (e + 2)) hcX12_fallOf Q (11, [some (.inr (.inr (12, 0))), some (.inl a1), some (.inl a2)], [.inl q2.1]) q2.2
  cases h
  exact Wp.ret (WpD.mono _) rfl hQ

set_option maxRecDepth 100000 in
set_option maxHeartbeats 4000000 in
theorem T_X12_in (e N : Nat)  (a1 : Int32) (a2 : Int32) (a3 : Int32) (σ : Mem) (r : Int32) (τ : Mem) (Q : Pst) (h : F_X12_in N a1 a2 a3 σ = some (r, τ)) (hQ : Q (some (.inl r)) τ) : WpD (e + 1) mX12_in [.inl a1, .inl a2, .inl a3] σ Q := by
  refine WpD.of (d := e + 0) (Nat.le_of_ble_eq_true rfl) (Nat.le_of_ble_eq_true rfl) ?_
  show Wp (WpD (e + 0)) hcX12_in Q (0, [some (.inl a1), some (.inl a2), some (.inl a3)], []) σ
  unfold F_X12_in at h
  refine Wp.br (WpD.mono _) 2 (c := a1 < a2) (q1 := ((14, [some (.inl a1), some (.inl a2), some (.inl a3)], []), σ)) (q2 := ((5, [some (.inl a1), some (.inl a2), some (.inl a3)], []), σ)) rfl (fun hc => ?_) (fun hc => ?_)
  · have h := (if_pos hc).symm.trans h
    refine Wp.run (WpD.mono _) 0 (q := ((15, [none, none, none], [.inl (0 : Int32)]), σ)) rfl ?_
    cases h
    exact Wp.ret (WpD.mono _) rfl hQ
  · have h := (if_neg hc).symm.trans h
    refine Wp.br (WpD.mono _) 2 (c := a3 < a1) (q1 := ((14, [some (.inl a1), some (.inl a2), some (.inl a3)], []), σ)) (q2 := ((10, [some (.inl a1), some (.inl a2), some (.inl a3)], []), σ)) rfl (fun hc => ?_) (fun hc => ?_)
    · have h := (if_pos hc).symm.trans h
      refine Wp.run (WpD.mono _) 0 (q := ((15, [none, none, none], [.inl (0 : Int32)]), σ)) rfl ?_
      cases h
      exact Wp.ret (WpD.mono _) rfl hQ
    · have h := (if_neg hc).symm.trans h
      refine Wp.run (WpD.mono _) 1 (q := ((15, [some (.inl a1), some (.inl a2), some (.inl a3)], [.inl (1 : Int32)]), σ)) rfl ?_
      cases h
      exact Wp.ret (WpD.mono _) rfl hQ

set_option maxRecDepth 100000 in
set_option maxHeartbeats 4000000 in
theorem T_X12_isLayer (e N : Nat)  (a1 : Int32) (σ : Mem) (r : Int32) (τ : Mem) (Q : Pst) (h : F_X12_isLayer N a1 σ = some (r, τ)) (hQ : Q (some (.inl r)) τ) : WpD (e + 2) mX12_isLayer [.inr (.inr (12, 0)), .inl a1] σ Q := by
  refine WpD.of (d := e + 1) (Nat.le_of_ble_eq_true rfl) (Nat.le_of_ble_eq_true rfl) ?_
  show Wp (WpD (e + 1)) hcX12_isLayer Q (0, [some (.inr (.inr (12, 0))), some (.inl a1)], []) σ
  unfold F_X12_isLayer at h
  refine Wp.run (WpD.mono _) 5 (q := ((8, [some (.inr (.inr (12, 0))), some (.inl a1)], [.inl ((σ.1 12 5) - (1 : Int32)), .inl (0 : Int32), .inl a1]), σ)) rfl ?_
  obtain ⟨q1, hb, h⟩ := bind_some h
  refine Wp.call (WpD.mono _) rfl (T_X12_in (e + 0) N a1 (0 : Int32) ((σ.1 12 5) - (1 : Int32)) σ _ _ _ hb ?_)
  show Wp (WpD (e + 1)) hcX12_isLayer Q (11, [some (.inr (.inr (12, 0))), some (.inl a1)], [.inl q1.1]) q1.2
  obtain ⟨hc, h⟩ := ite_yy h
  cases h
  exact Wp.retZ (WpD.mono _) rfl hc hQ

set_option maxRecDepth 100000 in
set_option maxHeartbeats 4000000 in
theorem T_X12_waterOf (e N : Nat)  (a1 : Int32) (a2 : Int32) (σ : Mem) (r : Int32) (τ : Mem) (Q : Pst) (h : F_X12_waterOf N a1 a2 σ = some (r, τ)) (hQ : Q (some (.inl r)) τ) : WpD (e + 3) mX12_waterOf [.inr (.inr (12, 0)), .inl a1, .inl a2] σ Q := by
  refine WpD.of (d := e + 2) (Nat.le_of_ble_eq_true rfl) (Nat.le_of_ble_eq_true rfl) ?_
  show Wp (WpD (e + 2)) hcX12_waterOf Q (0, [some (.inr (.inr (12, 0))), some (.inl a1), some (.inl a2)], []) σ
  unfold F_X12_waterOf at h
  refine Wp.run (WpD.mono _) 2 (q := ((3, [some (.inr (.inr (12, 0))), some (.inl a1), some (.inl a2)], [.inl (0 : Int32), .inl a1, .inr (.inr (12, 0))]), σ)) rfl ?_
  obtain ⟨q1, hb, h⟩ := bind_some h
  refine Wp.call (WpD.mono _) rfl (T_X12_names (e + 1) N a1 (0 : Int32) σ _ _ _ hb ?_)
  show Wp (WpD (e + 2)) hcX12_waterOf Q (6, [some (.inr (.inr (12, 0))), some (.inl a1), some (.inl a2)], []) q1.2
  obtain ⟨hc, h⟩ := ite_nn h
  refine Wp.no (WpD.mono _) 11 (c := hwOut a2 5) (q := ((24, [some (.inr (.inr (12, 0))), some (.inl a1), some (.inl a2)], [.inl (q1.2.2.2.1 72 0 (a2).toNatClampNeg), .inl (2 : Int32), .inr (.inr (101, 0))]), (q1.2.1, q1.2.2.1, (hwU3 q1.2.2.2.1 101 0 1 a2), q1.2.2.2.2.1, q1.2.2.2.2.2))) rfl hc ?_
  obtain ⟨hc, h⟩ := ite_nn h
  refine Wp.no (WpD.mono _) 7 (c := hwOut a2 5) (q := ((36, [some (.inr (.inr (12, 0))), some (.inl a1), some (.inl a2)], [.inl (q1.2.2.2.1 73 0 (a2).toNatClampNeg), .inl (3 : Int32), .inr (.inr (101, 0))]), (q1.2.1, q1.2.2.1, (hwU3 (hwU3 q1.2.2.2.1 101 0 1 a2) 101 0 2 (q1.2.2.2.1 72 0 (a2).toNatClampNeg)), q1.2.2.2.2.1, q1.2.2.2.2.2))) rfl hc ?_
  refine Wp.run (WpD.mono _) 2 (q := ((39, [some (.inr (.inr (12, 0))), some (.inl a1), some (.inl a2)], [.inl (1 : Int32), .inr (.inr (12, 0))]), (q1.2.1, q1.2.2.1, (hwU3 (hwU3 (hwU3 q1.2.2.2.1 101 0 1 a2) 101 0 2 (q1.2.2.2.1 72 0 (a2).toNatClampNeg)) 101 0 3 (q1.2.2.2.1 73 0 (a2).toNatClampNeg)), q1.2.2.2.2.1, q1.2.2.2.2.2))) rfl ?_
  obtain ⟨q2, hb, h⟩ := bind_some h
  refine Wp.call (WpD.mono _) rfl (T_X12_worth (e + 0) N (1 : Int32) (q1.2.1, q1.2.2.1, (hwU3 (hwU3 (hwU3 q1.2.2.2.1 101 0 1 a2) 101 0 2 (q1.2.2.2.1 72 0 (a2).toNatClampNeg)) 101 0 3 (q1.2.2.2.1 73 0 (a2).toNatClampNeg)), q1.2.2.2.2.1, q1.2.2.2.2.2) _ _ _ hb ?_)
  show Wp (WpD (e + 2)) hcX12_waterOf Q (42, [some (.inr (.inr (12, 0))), some (.inl a1), some (.inl a2)], [.inl q2.1]) q2.2
  cases h
  exact Wp.ret (WpD.mono _) rfl hQ

set_option maxRecDepth 100000 in
set_option maxHeartbeats 4000000 in
theorem T_X12_asks_b47 (e N : Nat)   (r : Int32) (τ : Mem) (Q : Pst) (hQ : Q (some (.inl r)) τ) : ∀ (x1 : Int32) (x2 : Int32) (x3 : Int32) (x4 : Int32) (σ : Mem), F_X12_asks_b47 N x1 x2 x3 x4 σ = some (r, τ) → Wp (WpD (e + 3)) hcX12_asks Q (47, [some (.inr (.inr (12, 0))), some (.inl x1), some (.inl x2), some (.inl x3), some (.inl x4)], []) σ := by
  intro x1 x2 x3 x4 σ h
  unfold F_X12_asks_b47 at h
  refine Wp.br (WpD.mono _) 1 (c := x1 = 0) (q1 := ((51, [some (.inr (.inr (12, 0))), some (.inl x1), some (.inl x2), some (.inl x3), some (.inl x4)], []), σ)) (q2 := ((59, [some (.inr (.inr (12, 0))), some (.inl x1), some (.inl x2), some (.inl x3), some (.inl x4)], []), σ)) rfl (fun hc => ?_) (fun hc => ?_)
  · have h := (if_pos hc).symm.trans h
    refine Wp.run (WpD.mono _) 1 (q := ((53, [some (.inr (.inr (12, 0))), some (.inl x1), some (.inl x2), some (.inl x3), some (.inl x4)], [.inl x2, .inr (.inr (12, 0))]), σ)) rfl ?_
    obtain ⟨q5, hb, h⟩ := bind_some h
    refine Wp.call (WpD.mono _) rfl (T_X12_costOf (e + 0) N x2 σ _ _ _ hb ?_)
    show Wp (WpD (e + 3)) hcX12_asks Q (56, [some (.inr (.inr (12, 0))), some (.inl x1), some (.inl x2), some (.inl x3), some (.inl x4)], [.inl q5.1]) q5.2
    refine Wp.run (WpD.mono _) 0 (q := ((80, [some (.inr (.inr (12, 0))), some (.inl x1), some (.inl x2), some (.inl x3), some (.inl x4)], [.inl q5.1]), q5.2)) rfl ?_
    cases h
    exact Wp.ret (WpD.mono _) rfl hQ
  · have h := (if_neg hc).symm.trans h
    refine Wp.br (WpD.mono _) 2 (c := x1 = (1 : Int32)) (q1 := ((64, [some (.inr (.inr (12, 0))), some (.inl x1), some (.inl x2), some (.inl x3), some (.inl x4)], []), σ)) (q2 := ((73, [some (.inr (.inr (12, 0))), some (.inl x1), some (.inl x2), some (.inl x3), some (.inl x4)], []), σ)) rfl (fun hc => ?_) (fun hc => ?_)
    · have h := (if_pos hc).symm.trans h
      refine Wp.run (WpD.mono _) 2 (q := ((67, [some (.inr (.inr (12, 0))), some (.inl x1), some (.inl x2), some (.inl x3), some (.inl x4)], [.inl x3, .inl x2, .inr (.inr (12, 0))]), σ)) rfl ?_
      obtain ⟨q6, hb, h⟩ := bind_some h
      refine Wp.call (WpD.mono _) rfl (T_X12_waterOf (e + 0) N x2 x3 σ _ _ _ hb ?_)
      show Wp (WpD (e + 3)) hcX12_asks Q (70, [some (.inr (.inr (12, 0))), some (.inl x1), some (.inl x2), some (.inl x3), some (.inl x4)], [.inl q6.1]) q6.2
      refine Wp.run (WpD.mono _) 0 (q := ((80, [some (.inr (.inr (12, 0))), some (.inl x1), some (.inl x2), some (.inl x3), some (.inl x4)], [.inl q6.1]), q6.2)) rfl ?_
      cases h
      exact Wp.ret (WpD.mono _) rfl hQ
    · have h := (if_neg hc).symm.trans h
      refine Wp.run (WpD.mono _) 2 (q := ((77, [some (.inr (.inr (12, 0))), some (.inl x1), some (.inl x2), some (.inl x3), some (.inl x4)], [.inl x4, .inl x2, .inr (.inr (12, 0))]), σ)) rfl ?_
      obtain ⟨q7, hb, h⟩ := bind_some h
      refine Wp.call (WpD.mono _) rfl (T_X12_fallOf (e + 0) N x2 x4 σ _ _ _ hb ?_)
      show Wp (WpD (e + 3)) hcX12_asks Q (80, [some (.inr (.inr (12, 0))), some (.inl x1), some (.inl x2), some (.inl x3), some (.inl x4)], [.inl q7.1]) q7.2
      cases h
      exact Wp.ret (WpD.mono _) rfl hQ

set_option maxRecDepth 100000 in
set_option maxHeartbeats 4000000 in
theorem T_X12_asks (e N : Nat)  (a1 : Int32) (a2 : Int32) (a3 : Int32) (a4 : Int32) (σ : Mem) (r : Int32) (τ : Mem) (Q : Pst) (h : F_X12_asks N a1 a2 a3 a4 σ = some (r, τ)) (hQ : Q (some (.inl r)) τ) : WpD (e + 4) mX12_asks [.inr (.inr (12, 0)), .inl a1, .inl a2, .inl a3, .inl a4] σ Q := by
  refine WpD.of (d := e + 3) (Nat.le_of_ble_eq_true rfl) (Nat.le_of_ble_eq_true rfl) ?_
  show Wp (WpD (e + 3)) hcX12_asks Q (0, [some (.inr (.inr (12, 0))), some (.inl a1), some (.inl a2), some (.inl a3), some (.inl a4)], []) σ
  unfold F_X12_asks at h
  refine Wp.run (WpD.mono _) 2 (q := ((3, [some (.inr (.inr (12, 0))), some (.inl a1), some (.inl a2), some (.inl a3), some (.inl a4)], [.inl (2 : Int32), .inl (0 : Int32), .inl a1]), σ)) rfl ?_
  obtain ⟨q1, hb, h⟩ := bind_some h
  refine Wp.call (WpD.mono _) rfl (T_X12_in (e + 2) N a1 (0 : Int32) (2 : Int32) σ _ _ _ hb ?_)
  show Wp (WpD (e + 3)) hcX12_asks Q (6, [some (.inr (.inr (12, 0))), some (.inl a1), some (.inl a2), some (.inl a3), some (.inl a4)], [.inl q1.1]) q1.2
  refine Wp.br (WpD.mono _) 0 (c := q1.1 = 0) (q1 := ((28, [some (.inr (.inr (12, 0))), some (.inl a1), some (.inl a2), some (.inl a3), some (.inl a4)], []), q1.2)) (q2 := ((9, [some (.inr (.inr (12, 0))), some (.inl a1), some (.inl a2), some (.inl a3), some (.inl a4)], []), q1.2)) rfl (fun hc => ?_) (fun hc => ?_)
  · have h := (if_pos hc).symm.trans h
    refine Wp.run (WpD.mono _) 0 (q := ((30, [none, none, none, none, none], [.inl (-2 : Int32)]), q1.2)) rfl ?_
    cases h
    exact Wp.ret (WpD.mono _) rfl hQ
  · have h := (if_neg hc).symm.trans h
    refine Wp.run (WpD.mono _) 2 (q := ((12, [some (.inr (.inr (12, 0))), some (.inl a1), some (.inl a2), some (.inl a3), some (.inl a4)], [.inl (5 : Int32), .inl (1 : Int32), .inl a2]), q1.2)) rfl ?_
    obtain ⟨q2, hb, h⟩ := bind_some h
    refine Wp.call (WpD.mono _) rfl (T_X12_in (e + 2) N a2 (1 : Int32) (5 : Int32) q1.2 _ _ _ hb ?_)
    show Wp (WpD (e + 3)) hcX12_asks Q (15, [some (.inr (.inr (12, 0))), some (.inl a1), some (.inl a2), some (.inl a3), some (.inl a4)], [.inl q2.1]) q2.2
    refine Wp.br (WpD.mono _) 0 (c := q2.1 = 0) (q1 := ((28, [some (.inr (.inr (12, 0))), some (.inl a1), some (.inl a2), some (.inl a3), some (.inl a4)], []), q2.2)) (q2 := ((18, [some (.inr (.inr (12, 0))), some (.inl a1), some (.inl a2), some (.inl a3), some (.inl a4)], []), q2.2)) rfl (fun hc => ?_) (fun hc => ?_)
    · have h := (if_pos hc).symm.trans h
      refine Wp.run (WpD.mono _) 0 (q := ((30, [none, none, none, none, none], [.inl (-2 : Int32)]), q2.2)) rfl ?_
      cases h
      exact Wp.ret (WpD.mono _) rfl hQ
    · have h := (if_neg hc).symm.trans h
      refine Wp.run (WpD.mono _) 2 (q := ((22, [some (.inr (.inr (12, 0))), some (.inl a1), some (.inl a2), some (.inl a3), some (.inl a4)], [.inl (1 : Int32), .inl (0 : Int32), .inl a4]), q2.2)) rfl ?_
      obtain ⟨q3, hb, h⟩ := bind_some h
      refine Wp.call (WpD.mono _) rfl (T_X12_in (e + 2) N a4 (0 : Int32) (1 : Int32) q2.2 _ _ _ hb ?_)
      show Wp (WpD (e + 3)) hcX12_asks Q (25, [some (.inr (.inr (12, 0))), some (.inl a1), some (.inl a2), some (.inl a3), some (.inl a4)], [.inl q3.1]) q3.2
      refine Wp.br (WpD.mono _) 0 (c := q3.1 = 0) (q1 := ((28, [some (.inr (.inr (12, 0))), some (.inl a1), some (.inl a2), some (.inl a3), some (.inl a4)], []), q3.2)) (q2 := ((31, [some (.inr (.inr (12, 0))), some (.inl a1), some (.inl a2), some (.inl a3), some (.inl a4)], []), q3.2)) rfl (fun hc => ?_) (fun hc => ?_)
      · have h := (if_pos hc).symm.trans h
        refine Wp.run (WpD.mono _) 0 (q := ((30, [none, none, none, none, none], [.inl (-2 : Int32)]), q3.2)) rfl ?_
        cases h
        exact Wp.ret (WpD.mono _) rfl hQ
      · have h := (if_neg hc).symm.trans h
        refine Wp.br (WpD.mono _) 2 (c := a1 = (1 : Int32)) (q1 := ((36, [some (.inr (.inr (12, 0))), some (.inl a1), some (.inl a2), some (.inl a3), some (.inl a4)], []), q3.2)) (q2 := ((47, [some (.inr (.inr (12, 0))), some (.inl a1), some (.inl a2), some (.inl a3), some (.inl a4)], []), q3.2)) rfl (fun hc => ?_) (fun hc => ?_)
        · have h := (if_pos hc).symm.trans h
          refine Wp.run (WpD.mono _) 1 (q := ((38, [some (.inr (.inr (12, 0))), some (.inl a1), some (.inl a2), some (.inl a3), some (.inl a4)], [.inl a3, .inr (.inr (12, 0))]), q3.2)) rfl ?_
          obtain ⟨q4, hb, h⟩ := bind_some h
          refine Wp.call (WpD.mono _) rfl (T_X12_isLayer (e + 1) N a3 q3.2 _ _ _ hb ?_)
          show Wp (WpD (e + 3)) hcX12_asks Q (41, [some (.inr (.inr (12, 0))), some (.inl a1), some (.inl a2), some (.inl a3), some (.inl a4)], [.inl q4.1]) q4.2
          refine Wp.br (WpD.mono _) 0 (c := q4.1 = 0) (q1 := ((44, [some (.inr (.inr (12, 0))), some (.inl a1), some (.inl a2), some (.inl a3), some (.inl a4)], []), q4.2)) (q2 := ((47, [some (.inr (.inr (12, 0))), some (.inl a1), some (.inl a2), some (.inl a3), some (.inl a4)], []), q4.2)) rfl (fun hc => ?_) (fun hc => ?_)
          · have h := (if_pos hc).symm.trans h
            refine Wp.run (WpD.mono _) 0 (q := ((46, [some (.inr (.inr (12, 0))), some (.inl a1), some (.inl a2), some (.inl a3), some (.inl a4)], [.inl (-5 : Int32)]), q4.2)) rfl ?_
            cases h
            exact Wp.ret (WpD.mono _) rfl hQ
          · have h := (if_neg hc).symm.trans h
            exact Wp.jump (WpD.mono _) rfl ((T_X12_asks_b47 e N  r τ Q hQ ) a1 a2 a3 a4 q4.2 h)
        · have h := (if_neg hc).symm.trans h
          exact Wp.jump (WpD.mono _) rfl ((T_X12_asks_b47 e N  r τ Q hQ ) a1 a2 a3 a4 q3.2 h)

set_option maxRecDepth 100000 in
set_option maxHeartbeats 4000000 in
theorem T_X12_begins_b93 (e N : Nat)  (k38 : Int32 → Int32 → Int64 → Int32 → Mem → Option (Unit × Mem)) (r : Unit) (τ : Mem) (Q : Pst) (hQ : Q (none) τ) (hk38 : ∀ (x1 : Int32) (x2 : Int32) (x3 : Int64) (x5 : Int32) (σ : Mem), k38 x1 x2 x3 x5 σ = some (r, τ) → Wp (WpD (e + 0)) hcX12_begins Q (38, [some (.inr (.inr (12, 0))), some (.inl x1), some (.inl x2), some (.inr (.inl x3)), none, some (.inl x5)], []) σ) : ∀ (x1 : Int32) (x2 : Int32) (x3 : Int64) (x5 : Int32) (s0 : Int64) (s1 : Int32) (σ : Mem), F_X12_begins_b93 N k38 x1 x2 x3 x5 s0 s1 σ = some (r, τ) → Wp (WpD (e + 0)) hcX12_begins Q (93, [some (.inr (.inr (12, 0))), some (.inl x1), some (.inl x2), some (.inr (.inl x3)), none, some (.inl x5)], [.inr (.inl s0), .inl s1, .inr (.inr (102, 0))]) σ := by
  intro x1 x2 x3 x5 s0 s1 σ h
  unfold F_X12_begins_b93 at h
  obtain ⟨hc, h⟩ := ite_nn h
  refine Wp.no (WpD.mono _) 0 (c := hwOut s1 40) (q := ((94, [some (.inr (.inr (12, 0))), some (.inl x1), some (.inl x2), some (.inr (.inl x3)), none, some (.inl x5)], []), (σ.1, σ.2.1, σ.2.2.1, (hwU3 σ.2.2.2.1 102 0 (s1).toNatClampNeg s0), σ.2.2.2.2))) rfl hc ?_
  refine Wp.run (WpD.mono _) 1 (q := ((38, [some (.inr (.inr (12, 0))), some (.inl x1), some (.inl x2), some (.inr (.inl x3)), none, some (.inl (x5 + (1 : Int32)))], []), (σ.1, σ.2.1, σ.2.2.1, (hwU3 σ.2.2.2.1 102 0 (s1).toNatClampNeg s0), σ.2.2.2.2))) rfl ?_
  exact Wp.jump (WpD.mono _) rfl (hk38 x1 x2 x3 (x5 + (1 : Int32)) (σ.1, σ.2.1, σ.2.2.1, (hwU3 σ.2.2.2.1 102 0 (s1).toNatClampNeg s0), σ.2.2.2.2) h)

set_option maxRecDepth 100000 in
set_option maxHeartbeats 4000000 in
theorem T_X12_begins_b38 (e N : Nat)   (r : Unit) (τ : Mem) (Q : Pst) (hQ : Q (none) τ) : ∀ n, ∀ (x1 : Int32) (x2 : Int32) (x3 : Int64) (x5 : Int32) (σ : Mem), F_X12_begins_b38 N n x1 x2 x3 x5 σ = some (r, τ) → Wp (WpD (e + 0)) hcX12_begins Q (38, [some (.inr (.inr (12, 0))), some (.inl x1), some (.inl x2), some (.inr (.inl x3)), none, some (.inl x5)], []) σ := by
  intro n
  induction n with
  | zero => intro x1 x2 x3 x5 σ h; cases h
  | succ n ih =>
    intro x1 x2 x3 x5 σ h
    unfold F_X12_begins_b38 at h
    refine Wp.br (WpD.mono _) 3 (c := (σ.1 12 5) ≤ x5) (q1 := ((100, [some (.inr (.inr (12, 0))), some (.inl x1), some (.inl x2), some (.inr (.inl x3)), none, some (.inl x5)], []), σ)) (q2 := ((47, [some (.inr (.inr (12, 0))), some (.inl x1), some (.inl x2), some (.inr (.inl x3)), none, some (.inl x5)], []), σ)) rfl (fun hc => ?_) (fun hc => ?_)
    · have h := (if_pos hc).symm.trans h
      cases h
      exact Wp.ret (WpD.mono _) rfl hQ
    · have h := (if_neg hc).symm.trans h
      refine Wp.br (WpD.mono _) 10 (c := (lg_cmp x3 (0 : Int64)) = 0) (q1 := ((63, [some (.inr (.inr (12, 0))), some (.inl x1), some (.inl x2), some (.inr (.inl x3)), none, some (.inl x5)], [.inl (((5 : Int32) * x2) + x5), .inr (.inr (102, 0))]), σ)) (q2 := ((75, [some (.inr (.inr (12, 0))), some (.inl x1), some (.inl x2), some (.inr (.inl x3)), none, some (.inl x5)], [.inl (((5 : Int32) * x2) + x5), .inr (.inr (102, 0))]), σ)) rfl (fun hc => ?_) (fun hc => ?_)
      · have h := (if_pos hc).symm.trans h
        obtain ⟨hc, h⟩ := ite_nn h
        refine Wp.no (WpD.mono _) 4 (c := (σ.1 12 5).toInt64 = 0) (q := ((72, [some (.inr (.inr (12, 0))), some (.inl x1), some (.inl x2), some (.inr (.inl x3)), none, some (.inl x5)], [.inr (.inl ((1000000 : Int64) / (σ.1 12 5).toInt64)), .inl (((5 : Int32) * x2) + x5), .inr (.inr (102, 0))]), σ)) rfl hc ?_
        refine Wp.run (WpD.mono _) 0 (q := ((93, [some (.inr (.inr (12, 0))), some (.inl x1), some (.inl x2), some (.inr (.inl x3)), none, some (.inl x5)], [.inr (.inl ((1000000 : Int64) / (σ.1 12 5).toInt64)), .inl (((5 : Int32) * x2) + x5), .inr (.inr (102, 0))]), σ)) rfl ?_
        exact Wp.jump (WpD.mono _) rfl ((T_X12_begins_b93 e N (F_X12_begins_b38 N n) r τ Q hQ ih) x1 x2 x3 x5 ((1000000 : Int64) / (σ.1 12 5).toInt64) (((5 : Int32) * x2) + x5) σ h)
      · have h := (if_neg hc).symm.trans h
        obtain ⟨hc, h⟩ := ite_nn h
        refine Wp.no (WpD.mono _) 7 (c := hwOut (((5 : Int32) * x1) + x5) 20) (q := ((86, [some (.inr (.inr (12, 0))), some (.inl x1), some (.inl x2), some (.inr (.inl x3)), none, some (.inl x5)], [.inl (σ.2.2.1 76 0 ((((5 : Int32) * x1) + x5)).toNatClampNeg), .inl (((5 : Int32) * x2) + x5), .inr (.inr (102, 0))]), σ)) rfl hc ?_
        obtain ⟨hc, h⟩ := ite_nn h
        refine Wp.no (WpD.mono _) 4 (c := x3 = 0) (q := ((93, [some (.inr (.inr (12, 0))), some (.inl x1), some (.inl x2), some (.inr (.inl x3)), none, some (.inl x5)], [.inr (.inl (((σ.2.2.1 76 0 ((((5 : Int32) * x1) + x5)).toNatClampNeg).toInt64 * (1000000 : Int64)) / x3)), .inl (((5 : Int32) * x2) + x5), .inr (.inr (102, 0))]), σ)) rfl hc ?_
        exact Wp.jump (WpD.mono _) rfl ((T_X12_begins_b93 e N (F_X12_begins_b38 N n) r τ Q hQ ih) x1 x2 x3 x5 (((σ.2.2.1 76 0 ((((5 : Int32) * x1) + x5)).toNatClampNeg).toInt64 * (1000000 : Int64)) / x3) (((5 : Int32) * x2) + x5) σ h)

set_option maxRecDepth 100000 in
set_option maxHeartbeats 4000000 in
theorem T_X12_begins_b5 (e N : Nat)   (r : Unit) (τ : Mem) (Q : Pst) (hQ : Q (none) τ) : ∀ n, ∀ (x1 : Int32) (x2 : Int32) (x3 : Int64) (x5 : Int32) (σ : Mem), F_X12_begins_b5 N n x1 x2 x3 x5 σ = some (r, τ) → Wp (WpD (e + 0)) hcX12_begins Q (5, [some (.inr (.inr (12, 0))), some (.inl x1), some (.inl x2), some (.inr (.inl x3)), none, some (.inl x5)], []) σ := by
  intro n
  induction n with
  | zero => intro x1 x2 x3 x5 σ h; cases h
  | succ n ih =>
    intro x1 x2 x3 x5 σ h
    unfold F_X12_begins_b5 at h
    refine Wp.br (WpD.mono _) 3 (c := (σ.1 12 5) ≤ x5) (q1 := ((35, [some (.inr (.inr (12, 0))), some (.inl x1), some (.inl x2), some (.inr (.inl x3)), none, some (.inl x5)], []), σ)) (q2 := ((14, [some (.inr (.inr (12, 0))), some (.inl x1), some (.inl x2), some (.inr (.inl x3)), none, some (.inl x5)], []), σ)) rfl (fun hc => ?_) (fun hc => ?_)
    · have h := (if_pos hc).symm.trans h
      refine Wp.run (WpD.mono _) 1 (q := ((38, [some (.inr (.inr (12, 0))), some (.inl x1), some (.inl x2), some (.inr (.inl x3)), none, some (.inl (0 : Int32))], []), σ)) rfl ?_
      exact Wp.jump (WpD.mono _) rfl ((T_X12_begins_b38 e N  r τ Q hQ  N) x1 x2 x3 (0 : Int32) σ h)
    · have h := (if_neg hc).symm.trans h
      obtain ⟨hc, h⟩ := ite_nn h
      refine Wp.no (WpD.mono _) 8 (c := hwOut (((5 : Int32) * x1) + x5) 20) (q := ((26, [some (.inr (.inr (12, 0))), some (.inl x1), some (.inl x2), some (.inr (.inl x3)), none, some (.inl x5)], [.inl (σ.2.2.1 76 0 ((((5 : Int32) * x1) + x5)).toNatClampNeg), .inr (.inl x3)]), σ)) rfl hc ?_
      refine Wp.run (WpD.mono _) 4 (q := ((5, [some (.inr (.inr (12, 0))), some (.inl x1), some (.inl x2), some (.inr (.inl (x3 + (σ.2.2.1 76 0 ((((5 : Int32) * x1) + x5)).toNatClampNeg).toInt64))), none, some (.inl (x5 + (1 : Int32)))], []), σ)) rfl ?_
      exact Wp.jump (WpD.mono _) rfl (ih x1 x2 (x3 + (σ.2.2.1 76 0 ((((5 : Int32) * x1) + x5)).toNatClampNeg).toInt64) (x5 + (1 : Int32)) σ h)

set_option maxRecDepth 100000 in
set_option maxHeartbeats 4000000 in
theorem T_X12_begins (e N : Nat)  (a1 : Int32) (a2 : Int32) (σ : Mem) (r : Unit) (τ : Mem) (Q : Pst) (h : F_X12_begins N a1 a2 σ = some (r, τ)) (hQ : Q (none) τ) : WpD (e + 1) mX12_begins [.inr (.inr (12, 0)), .inl a1, .inl a2] σ Q := by
  refine WpD.of (d := e + 0) (Nat.le_of_ble_eq_true rfl) (Nat.le_of_ble_eq_true rfl) ?_
  show Wp (WpD (e + 0)) hcX12_begins Q (0, [some (.inr (.inr (12, 0))), some (.inl a1), some (.inl a2), none, none, none], []) σ
  unfold F_X12_begins at h
  refine Wp.run (WpD.mono _) 3 (q := ((5, [some (.inr (.inr (12, 0))), some (.inl a1), some (.inl a2), some (.inr (.inl (0 : Int64))), none, some (.inl (0 : Int32))], []), σ)) rfl ?_
  exact Wp.jump (WpD.mono _) rfl ((T_X12_begins_b5 e N  r τ Q hQ  N) a1 a2 (0 : Int64) (0 : Int32) σ h)

set_option maxRecDepth 100000 in
set_option maxHeartbeats 4000000 in
theorem T_X12_below_b138 (e N : Nat)  (k74 : Int32 → Int64 → Int32 → Int64 → Int32 → Int32 → Mem → Option (Unit × Mem)) (r : Unit) (τ : Mem) (Q : Pst) (hQ : Q (none) τ) (hk74 : ∀ (x1 : Int32) (x2 : Int64) (x4 : Int32) (x5 : Int64) (x7 : Int32) (x8 : Int32) (σ : Mem), k74 x1 x2 x4 x5 x7 x8 σ = some (r, τ) → Wp (WpD (e + 1)) hcX12_below Q (74, [some (.inr (.inr (12, 0))), some (.inl x1), some (.inr (.inl x2)), none, some (.inl x4), some (.inr (.inl x5)), none, some (.inl x7), some (.inl x8)], []) σ) : ∀ (x1 : Int32) (x2 : Int64) (x4 : Int32) (x5 : Int64) (x7 : Int32) (x8 : Int32) (s0 : Int64) (s1 : Int64) (s2 : Int32) (σ : Mem), F_X12_below_b138 N k74 x1 x2 x4 x5 x7 x8 s0 s1 s2 σ = some (r, τ) → Wp (WpD (e + 1)) hcX12_below Q (138, [some (.inr (.inr (12, 0))), some (.inl x1), some (.inr (.inl x2)), none, some (.inl x4), some (.inr (.inl x5)), none, some (.inl x7), some (.inl x8)], [.inr (.inl s0), .inr (.inl s1), .inl s2, .inr (.inr (102, 0))]) σ := by
  intro x1 x2 x4 x5 x7 x8 s0 s1 s2 σ h
  unfold F_X12_below_b138 at h
  obtain ⟨hc, h⟩ := ite_nn h
  refine Wp.no (WpD.mono _) 1 (c := hwOut s2 40) (q := ((140, [some (.inr (.inr (12, 0))), some (.inl x1), some (.inr (.inl x2)), none, some (.inl x4), some (.inr (.inl x5)), none, some (.inl x7), some (.inl x8)], []), (σ.1, σ.2.1, σ.2.2.1, (hwU3 σ.2.2.2.1 102 0 (s2).toNatClampNeg (s1 + s0)), σ.2.2.2.2))) rfl hc ?_
  refine Wp.run (WpD.mono _) 1 (q := ((74, [some (.inr (.inr (12, 0))), some (.inl x1), some (.inr (.inl x2)), none, some (.inl x4), some (.inr (.inl x5)), none, some (.inl x7), some (.inl (x8 + (1 : Int32)))], []), (σ.1, σ.2.1, σ.2.2.1, (hwU3 σ.2.2.2.1 102 0 (s2).toNatClampNeg (s1 + s0)), σ.2.2.2.2))) rfl ?_
  exact Wp.jump (WpD.mono _) rfl (hk74 x1 x2 x4 x5 x7 (x8 + (1 : Int32)) (σ.1, σ.2.1, σ.2.2.1, (hwU3 σ.2.2.2.1 102 0 (s2).toNatClampNeg (s1 + s0)), σ.2.2.2.2) h)

set_option maxRecDepth 100000 in
set_option maxHeartbeats 4000000 in
theorem T_X12_below_b74 (e N : Nat)  (k35 : Int32 → Int64 → Int32 → Mem → Option (Unit × Mem)) (r : Unit) (τ : Mem) (Q : Pst) (hQ : Q (none) τ) (hk35 : ∀ (x1 : Int32) (x2 : Int64) (x4 : Int32) (σ : Mem), k35 x1 x2 x4 σ = some (r, τ) → Wp (WpD (e + 1)) hcX12_below Q (35, [some (.inr (.inr (12, 0))), some (.inl x1), some (.inr (.inl x2)), none, some (.inl x4), none, none, none, none], []) σ) : ∀ n, ∀ (x1 : Int32) (x2 : Int64) (x4 : Int32) (x5 : Int64) (x7 : Int32) (x8 : Int32) (σ : Mem), F_X12_below_b74 N k35 n x1 x2 x4 x5 x7 x8 σ = some (r, τ) → Wp (WpD (e + 1)) hcX12_below Q (74, [some (.inr (.inr (12, 0))), some (.inl x1), some (.inr (.inl x2)), none, some (.inl x4), some (.inr (.inl x5)), none, some (.inl x7), some (.inl x8)], []) σ := by
  intro n
  induction n with
  | zero => intro x1 x2 x4 x5 x7 x8 σ h; cases h
  | succ n ih =>
    intro x1 x2 x4 x5 x7 x8 σ h
    unfold F_X12_below_b74 at h
    refine Wp.br (WpD.mono _) 3 (c := (σ.1 12 5) ≤ x8) (q1 := ((146, [some (.inr (.inr (12, 0))), some (.inl x1), some (.inr (.inl x2)), none, some (.inl x4), some (.inr (.inl x5)), none, some (.inl x7), some (.inl x8)], []), σ)) (q2 := ((83, [some (.inr (.inr (12, 0))), some (.inl x1), some (.inr (.inl x2)), none, some (.inl x4), some (.inr (.inl x5)), none, some (.inl x7), some (.inl x8)], []), σ)) rfl (fun hc => ?_) (fun hc => ?_)
    · have h := (if_pos hc).symm.trans h
      refine Wp.run (WpD.mono _) 1 (q := ((35, [some (.inr (.inr (12, 0))), some (.inl x1), some (.inr (.inl x2)), none, some (.inl (x4 + (1 : Int32))), some (.inr (.inl x5)), none, some (.inl x7), some (.inl x8)], []), σ)) rfl ?_
      exact Wp.jump (WpD.mono _) rfl (hk35 x1 x2 (x4 + (1 : Int32)) σ h)
    · have h := (if_neg hc).symm.trans h
      obtain ⟨hc, h⟩ := ite_nn h
      refine Wp.no (WpD.mono _) 10 (c := hwOut ((((5 : Int32) * x1) + (5 : Int32)) + x8) 40) (q := ((97, [some (.inr (.inr (12, 0))), some (.inl x1), some (.inr (.inl x2)), none, some (.inl x4), some (.inr (.inl x5)), none, some (.inl x7), some (.inl x8)], [.inr (.inl (σ.2.2.2.1 102 0 (((((5 : Int32) * x1) + (5 : Int32)) + x8)).toNatClampNeg)), .inl ((((5 : Int32) * x1) + (5 : Int32)) + x8), .inr (.inr (102, 0))]), σ)) rfl hc ?_
      refine Wp.br (WpD.mono _) 1 (c := x7 = 0) (q1 := ((102, [some (.inr (.inr (12, 0))), some (.inl x1), some (.inr (.inl x2)), none, some (.inl x4), some (.inr (.inl x5)), none, some (.inl x7), some (.inl x8)], [.inr (.inl (σ.2.2.2.1 102 0 (((((5 : Int32) * x1) + (5 : Int32)) + x8)).toNatClampNeg)), .inl ((((5 : Int32) * x1) + (5 : Int32)) + x8), .inr (.inr (102, 0))]), σ)) (q2 := ((118, [some (.inr (.inr (12, 0))), some (.inl x1), some (.inr (.inl x2)), none, some (.inl x4), some (.inr (.inl x5)), none, some (.inl x7), some (.inl x8)], [.inr (.inl (σ.2.2.2.1 102 0 (((((5 : Int32) * x1) + (5 : Int32)) + x8)).toNatClampNeg)), .inl ((((5 : Int32) * x1) + (5 : Int32)) + x8), .inr (.inr (102, 0))]), σ)) rfl (fun hc => ?_) (fun hc => ?_)
      · have h := (if_pos hc).symm.trans h
        refine Wp.br (WpD.mono _) 2 (c := x4 = x8) (q1 := ((109, [some (.inr (.inr (12, 0))), some (.inl x1), some (.inr (.inl x2)), none, some (.inl x4), some (.inr (.inl x5)), none, some (.inl x7), some (.inl x8)], [.inr (.inl (σ.2.2.2.1 102 0 (((((5 : Int32) * x1) + (5 : Int32)) + x8)).toNatClampNeg)), .inl ((((5 : Int32) * x1) + (5 : Int32)) + x8), .inr (.inr (102, 0))]), σ)) (q2 := ((114, [some (.inr (.inr (12, 0))), some (.inl x1), some (.inr (.inl x2)), none, some (.inl x4), some (.inr (.inl x5)), none, some (.inl x7), some (.inl x8)], [.inr (.inl (σ.2.2.2.1 102 0 (((((5 : Int32) * x1) + (5 : Int32)) + x8)).toNatClampNeg)), .inl ((((5 : Int32) * x1) + (5 : Int32)) + x8), .inr (.inr (102, 0))]), σ)) rfl (fun hc => ?_) (fun hc => ?_)
        · have h := (if_pos hc).symm.trans h
          refine Wp.run (WpD.mono _) 1 (q := ((138, [some (.inr (.inr (12, 0))), some (.inl x1), some (.inr (.inl x2)), none, some (.inl x4), some (.inr (.inl x5)), none, some (.inl x7), some (.inl x8)], [.inr (.inl x5), .inr (.inl (σ.2.2.2.1 102 0 (((((5 : Int32) * x1) + (5 : Int32)) + x8)).toNatClampNeg)), .inl ((((5 : Int32) * x1) + (5 : Int32)) + x8), .inr (.inr (102, 0))]), σ)) rfl ?_
          exact Wp.jump (WpD.mono _) rfl ((T_X12_below_b138 e N (F_X12_below_b74 N k35 n) r τ Q hQ ih) x1 x2 x4 x5 x7 x8 x5 (σ.2.2.2.1 102 0 (((((5 : Int32) * x1) + (5 : Int32)) + x8)).toNatClampNeg) ((((5 : Int32) * x1) + (5 : Int32)) + x8) σ h)
        · have h := (if_neg hc).symm.trans h
          refine Wp.run (WpD.mono _) 1 (q := ((138, [some (.inr (.inr (12, 0))), some (.inl x1), some (.inr (.inl x2)), none, some (.inl x4), some (.inr (.inl x5)), none, some (.inl x7), some (.inl x8)], [.inr (.inl (0 : Int64)), .inr (.inl (σ.2.2.2.1 102 0 (((((5 : Int32) * x1) + (5 : Int32)) + x8)).toNatClampNeg)), .inl ((((5 : Int32) * x1) + (5 : Int32)) + x8), .inr (.inr (102, 0))]), σ)) rfl ?_
          exact Wp.jump (WpD.mono _) rfl ((T_X12_below_b138 e N (F_X12_below_b74 N k35 n) r τ Q hQ ih) x1 x2 x4 x5 x7 x8 (0 : Int64) (σ.2.2.2.1 102 0 (((((5 : Int32) * x1) + (5 : Int32)) + x8)).toNatClampNeg) ((((5 : Int32) * x1) + (5 : Int32)) + x8) σ h)
      · have h := (if_neg hc).symm.trans h
        obtain ⟨hc, h⟩ := ite_nn h
        refine Wp.no (WpD.mono _) 8 (c := hwOut (((5 : Int32) * x4) + x8) 25) (q := ((132, [some (.inr (.inr (12, 0))), some (.inl x1), some (.inr (.inl x2)), none, some (.inl x4), some (.inr (.inl x5)), none, some (.inl x7), some (.inl x8)], [.inl (σ.2.2.1 75 0 ((((5 : Int32) * x4) + x8)).toNatClampNeg), .inr (.inl x5), .inr (.inl (σ.2.2.2.1 102 0 (((((5 : Int32) * x1) + (5 : Int32)) + x8)).toNatClampNeg)), .inl ((((5 : Int32) * x1) + (5 : Int32)) + x8), .inr (.inr (102, 0))]), σ)) rfl hc ?_
        obtain ⟨hc, h⟩ := ite_nn h
        refine Wp.no (WpD.mono _) 4 (c := x7.toInt64 = 0) (q := ((138, [some (.inr (.inr (12, 0))), some (.inl x1), some (.inr (.inl x2)), none, some (.inl x4), some (.inr (.inl x5)), none, some (.inl x7), some (.inl x8)], [.inr (.inl ((x5 * (σ.2.2.1 75 0 ((((5 : Int32) * x4) + x8)).toNatClampNeg).toInt64) / x7.toInt64)), .inr (.inl (σ.2.2.2.1 102 0 (((((5 : Int32) * x1) + (5 : Int32)) + x8)).toNatClampNeg)), .inl ((((5 : Int32) * x1) + (5 : Int32)) + x8), .inr (.inr (102, 0))]), σ)) rfl hc ?_
        exact Wp.jump (WpD.mono _) rfl ((T_X12_below_b138 e N (F_X12_below_b74 N k35 n) r τ Q hQ ih) x1 x2 x4 x5 x7 x8 ((x5 * (σ.2.2.1 75 0 ((((5 : Int32) * x4) + x8)).toNatClampNeg).toInt64) / x7.toInt64) (σ.2.2.2.1 102 0 (((((5 : Int32) * x1) + (5 : Int32)) + x8)).toNatClampNeg) ((((5 : Int32) * x1) + (5 : Int32)) + x8) σ h)

set_option maxRecDepth 100000 in
set_option maxHeartbeats 4000000 in
theorem T_X12_below_b35 (e N : Nat)   (r : Unit) (τ : Mem) (Q : Pst) (hQ : Q (none) τ) : ∀ n, ∀ (x1 : Int32) (x2 : Int64) (x4 : Int32) (σ : Mem), F_X12_below_b35 N n x1 x2 x4 σ = some (r, τ) → Wp (WpD (e + 1)) hcX12_below Q (35, [some (.inr (.inr (12, 0))), some (.inl x1), some (.inr (.inl x2)), none, some (.inl x4), none, none, none, none], []) σ := by
  intro n
  induction n with
  | zero => intro x1 x2 x4 σ h; cases h
  | succ n ih =>
    intro x1 x2 x4 σ h
    unfold F_X12_below_b35 at h
    refine Wp.br (WpD.mono _) 3 (c := (σ.1 12 5) ≤ x4) (q1 := ((152, [some (.inr (.inr (12, 0))), some (.inl x1), some (.inr (.inl x2)), none, some (.inl x4), none, none, none, none], []), σ)) (q2 := ((44, [some (.inr (.inr (12, 0))), some (.inl x1), some (.inr (.inl x2)), none, some (.inl x4), none, none, none, none], []), σ)) rfl (fun hc => ?_) (fun hc => ?_)
    · have h := (if_pos hc).symm.trans h
      cases h
      exact Wp.ret (WpD.mono _) rfl hQ
    · have h := (if_neg hc).symm.trans h
      obtain ⟨hc, h⟩ := ite_nn h
      refine Wp.no (WpD.mono _) 7 (c := hwOut (((5 : Int32) * x1) + x4) 40) (q := ((55, [some (.inr (.inr (12, 0))), some (.inl x1), some (.inr (.inl x2)), none, some (.inl x4), none, none, none, none], [.inr (.inl (σ.2.2.2.1 103 0 ((((5 : Int32) * x1) + x4)).toNatClampNeg))]), σ)) rfl hc ?_
      obtain ⟨hc, h⟩ := ite_nn h
      refine Wp.no (WpD.mono _) 3 (c := x2 = 0) (q := ((61, [some (.inr (.inr (12, 0))), some (.inl x1), some (.inr (.inl x2)), none, some (.inl x4), none, none, none, none], [.inr (.inl (((σ.2.2.2.1 103 0 ((((5 : Int32) * x1) + x4)).toNatClampNeg) * (1000000 : Int64)) / x2))]), σ)) rfl hc ?_
      refine Wp.run (WpD.mono _) 2 (q := ((66, [some (.inr (.inr (12, 0))), some (.inl x1), some (.inr (.inl x2)), none, some (.inl x4), some (.inr (.inl (((σ.2.2.2.1 103 0 ((((5 : Int32) * x1) + x4)).toNatClampNeg) * (1000000 : Int64)) / x2))), none, none, none], [.inl x4, .inr (.inr (12, 0))]), σ)) rfl ?_
      obtain ⟨q1, hb, h⟩ := bind_some h
      refine Wp.call (WpD.mono _) rfl (T_X12_allBelow (e + 0) N x4 σ _ _ _ hb ?_)
      show Wp (WpD (e + 1)) hcX12_below Q (69, [some (.inr (.inr (12, 0))), some (.inl x1), some (.inr (.inl x2)), none, some (.inl x4), some (.inr (.inl (((σ.2.2.2.1 103 0 ((((5 : Int32) * x1) + x4)).toNatClampNeg) * (1000000 : Int64)) / x2))), none, none, none], [.inl q1.1]) q1.2
      refine Wp.run (WpD.mono _) 2 (q := ((74, [some (.inr (.inr (12, 0))), some (.inl x1), some (.inr (.inl x2)), none, some (.inl x4), some (.inr (.inl (((σ.2.2.2.1 103 0 ((((5 : Int32) * x1) + x4)).toNatClampNeg) * (1000000 : Int64)) / x2))), none, some (.inl q1.1), some (.inl (0 : Int32))], []), q1.2)) rfl ?_
      exact Wp.jump (WpD.mono _) rfl ((T_X12_below_b74 e N (F_X12_below_b35 N n) r τ Q hQ ih N) x1 x2 x4 (((σ.2.2.2.1 103 0 ((((5 : Int32) * x1) + x4)).toNatClampNeg) * (1000000 : Int64)) / x2) q1.1 (0 : Int32) q1.2 h)

set_option maxRecDepth 100000 in
set_option maxHeartbeats 4000000 in
theorem T_X12_below_b3 (e N : Nat)   (r : Unit) (τ : Mem) (Q : Pst) (hQ : Q (none) τ) : ∀ n, ∀ (x1 : Int32) (x2 : Int64) (x4 : Int32) (σ : Mem), F_X12_below_b3 N n x1 x2 x4 σ = some (r, τ) → Wp (WpD (e + 1)) hcX12_below Q (3, [some (.inr (.inr (12, 0))), some (.inl x1), some (.inr (.inl x2)), none, some (.inl x4), none, none, none, none], []) σ := by
  intro n
  induction n with
  | zero => intro x1 x2 x4 σ h; cases h
  | succ n ih =>
    intro x1 x2 x4 σ h
    unfold F_X12_below_b3 at h
    refine Wp.br (WpD.mono _) 3 (c := (σ.1 12 5) ≤ x4) (q1 := ((32, [some (.inr (.inr (12, 0))), some (.inl x1), some (.inr (.inl x2)), none, some (.inl x4), none, none, none, none], []), σ)) (q2 := ((12, [some (.inr (.inr (12, 0))), some (.inl x1), some (.inr (.inl x2)), none, some (.inl x4), none, none, none, none], []), σ)) rfl (fun hc => ?_) (fun hc => ?_)
    · have h := (if_pos hc).symm.trans h
      refine Wp.run (WpD.mono _) 1 (q := ((35, [some (.inr (.inr (12, 0))), some (.inl x1), some (.inr (.inl x2)), none, some (.inl (0 : Int32)), none, none, none, none], []), σ)) rfl ?_
      exact Wp.jump (WpD.mono _) rfl ((T_X12_below_b35 e N  r τ Q hQ  N) x1 x2 (0 : Int32) σ h)
    · have h := (if_neg hc).symm.trans h
      obtain ⟨hc, h⟩ := ite_nn h
      refine Wp.no (WpD.mono _) 10 (c := hwOut ((((5 : Int32) * x1) + (5 : Int32)) + x4) 40) (q := ((26, [some (.inr (.inr (12, 0))), some (.inl x1), some (.inr (.inl x2)), none, some (.inl x4), none, none, none, none], []), (σ.1, σ.2.1, σ.2.2.1, (hwU3 σ.2.2.2.1 102 0 (((((5 : Int32) * x1) + (5 : Int32)) + x4)).toNatClampNeg (0 : Int64)), σ.2.2.2.2))) rfl hc ?_
      refine Wp.run (WpD.mono _) 1 (q := ((3, [some (.inr (.inr (12, 0))), some (.inl x1), some (.inr (.inl x2)), none, some (.inl (x4 + (1 : Int32))), none, none, none, none], []), (σ.1, σ.2.1, σ.2.2.1, (hwU3 σ.2.2.2.1 102 0 (((((5 : Int32) * x1) + (5 : Int32)) + x4)).toNatClampNeg (0 : Int64)), σ.2.2.2.2))) rfl ?_
      exact Wp.jump (WpD.mono _) rfl (ih x1 x2 (x4 + (1 : Int32)) (σ.1, σ.2.1, σ.2.2.1, (hwU3 σ.2.2.2.1 102 0 (((((5 : Int32) * x1) + (5 : Int32)) + x4)).toNatClampNeg (0 : Int64)), σ.2.2.2.2) h)

set_option maxRecDepth 100000 in
set_option maxHeartbeats 4000000 in
theorem T_X12_below (e N : Nat)  (a1 : Int32) (a2 : Int64) (σ : Mem) (r : Unit) (τ : Mem) (Q : Pst) (h : F_X12_below N a1 a2 σ = some (r, τ)) (hQ : Q (none) τ) : WpD (e + 2) mX12_below [.inr (.inr (12, 0)), .inl a1, .inr (.inl a2)] σ Q := by
  refine WpD.of (d := e + 1) (Nat.le_of_ble_eq_true rfl) (Nat.le_of_ble_eq_true rfl) ?_
  show Wp (WpD (e + 1)) hcX12_below Q (0, [some (.inr (.inr (12, 0))), some (.inl a1), some (.inr (.inl a2)), none, none, none, none, none, none], []) σ
  unfold F_X12_below at h
  refine Wp.run (WpD.mono _) 1 (q := ((3, [some (.inr (.inr (12, 0))), some (.inl a1), some (.inr (.inl a2)), none, some (.inl (0 : Int32)), none, none, none, none], []), σ)) rfl ?_
  exact Wp.jump (WpD.mono _) rfl ((T_X12_below_b3 e N  r τ Q hQ  N) a1 a2 (0 : Int32) σ h)

set_option maxRecDepth 100000 in
set_option maxHeartbeats 4000000 in
theorem T_X12_dries_b71 (e N : Nat)  (k6 : Int32 → Int32 → Int32 → Int64 → Int32 → Mem → Option (Int64 × Mem)) (r : Int64) (τ : Mem) (Q : Pst) (hQ : Q (some (.inr (.inl r))) τ) (hk6 : ∀ (x1 : Int32) (x2 : Int32) (x3 : Int32) (x4 : Int64) (x6 : Int32) (σ : Mem), k6 x1 x2 x3 x4 x6 σ = some (r, τ) → Wp (WpD (e + 3)) hcX12_dries Q (6, [some (.inr (.inr (12, 0))), some (.inl x1), some (.inl x2), some (.inl x3), some (.inr (.inl x4)), none, some (.inl x6), none, none], []) σ) : ∀ (x1 : Int32) (x2 : Int32) (x3 : Int32) (x4 : Int64) (x6 : Int32) (s0 : Int64) (s1 : Int32) (σ : Mem), F_X12_dries_b71 N k6 x1 x2 x3 x4 x6 s0 s1 σ = some (r, τ) → Wp (WpD (e + 3)) hcX12_dries Q (71, [some (.inr (.inr (12, 0))), some (.inl x1), some (.inl x2), some (.inl x3), some (.inr (.inl x4)), none, some (.inl x6), none, none], [.inr (.inl s0), .inl s1, .inr (.inr (103, 0))]) σ := by
  intro x1 x2 x3 x4 x6 s0 s1 σ h
  unfold F_X12_dries_b71 at h
  obtain ⟨hc, h⟩ := ite_nn h
  refine Wp.no (WpD.mono _) 0 (c := hwOut s1 40) (q := ((72, [some (.inr (.inr (12, 0))), some (.inl x1), some (.inl x2), some (.inl x3), some (.inr (.inl x4)), none, some (.inl x6), none, none], []), (σ.1, σ.2.1, σ.2.2.1, (hwU3 σ.2.2.2.1 103 0 (s1).toNatClampNeg s0), σ.2.2.2.2))) rfl hc ?_
  obtain ⟨hc, h⟩ := ite_nn h
  refine Wp.no (WpD.mono _) 8 (c := hwOut (((5 : Int32) * x1) + x6) 40) (q := ((85, [some (.inr (.inr (12, 0))), some (.inl x1), some (.inl x2), some (.inl x3), some (.inr (.inl x4)), none, some (.inl x6), none, none], [.inr (.inl ((hwU3 σ.2.2.2.1 103 0 (s1).toNatClampNeg s0) 103 0 ((((5 : Int32) * x1) + x6)).toNatClampNeg)), .inr (.inl x4)]), (σ.1, σ.2.1, σ.2.2.1, (hwU3 σ.2.2.2.1 103 0 (s1).toNatClampNeg s0), σ.2.2.2.2))) rfl hc ?_
  refine Wp.run (WpD.mono _) 3 (q := ((6, [some (.inr (.inr (12, 0))), some (.inl x1), some (.inl x2), some (.inl x3), some (.inr (.inl (x4 + ((hwU3 σ.2.2.2.1 103 0 (s1).toNatClampNeg s0) 103 0 ((((5 : Int32) * x1) + x6)).toNatClampNeg)))), none, some (.inl (x6 + (1 : Int32))), none, none], []), (σ.1, σ.2.1, σ.2.2.1, (hwU3 σ.2.2.2.1 103 0 (s1).toNatClampNeg s0), σ.2.2.2.2))) rfl ?_
  exact Wp.jump (WpD.mono _) rfl (hk6 x1 x2 x3 (x4 + ((hwU3 σ.2.2.2.1 103 0 (s1).toNatClampNeg s0) 103 0 ((((5 : Int32) * x1) + x6)).toNatClampNeg)) (x6 + (1 : Int32)) (σ.1, σ.2.1, σ.2.2.1, (hwU3 σ.2.2.2.1 103 0 (s1).toNatClampNeg s0), σ.2.2.2.2) h)

set_option maxRecDepth 100000 in
set_option maxHeartbeats 4000000 in
theorem T_X12_dries_b6 (e N : Nat)   (r : Int64) (τ : Mem) (Q : Pst) (hQ : Q (some (.inr (.inl r))) τ) : ∀ n, ∀ (x1 : Int32) (x2 : Int32) (x3 : Int32) (x4 : Int64) (x6 : Int32) (σ : Mem), F_X12_dries_b6 N n x1 x2 x3 x4 x6 σ = some (r, τ) → Wp (WpD (e + 3)) hcX12_dries Q (6, [some (.inr (.inr (12, 0))), some (.inl x1), some (.inl x2), some (.inl x3), some (.inr (.inl x4)), none, some (.inl x6), none, none], []) σ := by
  intro n
  induction n with
  | zero => intro x1 x2 x3 x4 x6 σ h; cases h
  | succ n ih =>
    intro x1 x2 x3 x4 x6 σ h
    unfold F_X12_dries_b6 at h
    refine Wp.br (WpD.mono _) 3 (c := (σ.1 12 5) ≤ x6) (q1 := ((94, [some (.inr (.inr (12, 0))), some (.inl x1), some (.inl x2), some (.inl x3), some (.inr (.inl x4)), none, some (.inl x6), none, none], []), σ)) (q2 := ((15, [some (.inr (.inr (12, 0))), some (.inl x1), some (.inl x2), some (.inl x3), some (.inr (.inl x4)), none, some (.inl x6), none, none], []), σ)) rfl (fun hc => ?_) (fun hc => ?_)
    · have h := (if_pos hc).symm.trans h
      refine Wp.run (WpD.mono _) 0 (q := ((96, [some (.inr (.inr (12, 0))), some (.inl x1), some (.inl x2), some (.inl x3), some (.inr (.inl x4)), none, some (.inl x6), none, none], [.inr (.inl x4)]), σ)) rfl ?_
      cases h
      exact Wp.ret (WpD.mono _) rfl hQ
    · have h := (if_neg hc).symm.trans h
      obtain ⟨hc, h⟩ := ite_nn h
      refine Wp.no (WpD.mono _) 7 (c := hwOut (((5 : Int32) * x1) + x6) 40) (q := ((26, [some (.inr (.inr (12, 0))), some (.inl x1), some (.inl x2), some (.inl x3), some (.inr (.inl x4)), none, some (.inl x6), none, none], [.inr (.inl (σ.2.2.2.1 102 0 ((((5 : Int32) * x1) + x6)).toNatClampNeg))]), σ)) rfl hc ?_
      obtain ⟨hc, h⟩ := ite_nn h
      refine Wp.no (WpD.mono _) 11 (c := hwOut x6 5) (q := ((45, [some (.inr (.inr (12, 0))), some (.inl x1), some (.inl x2), some (.inl x3), some (.inr (.inl x4)), none, some (.inl x6), some (.inr (.inl (σ.2.2.2.1 102 0 ((((5 : Int32) * x1) + x6)).toNatClampNeg))), none], [.inl (σ.2.2.1 74 0 (x6).toNatClampNeg), .inl (((5 : Int32) * x1) + x6), .inr (.inr (103, 0))]), σ)) rfl hc ?_
      refine Wp.br (WpD.mono _) 1 (c := (σ.2.2.1 74 0 (x6).toNatClampNeg) = x3) (q1 := ((49, [some (.inr (.inr (12, 0))), some (.inl x1), some (.inl x2), some (.inl x3), some (.inr (.inl x4)), none, some (.inl x6), some (.inr (.inl (σ.2.2.2.1 102 0 ((((5 : Int32) * x1) + x6)).toNatClampNeg))), none], [.inl (((5 : Int32) * x1) + x6), .inr (.inr (103, 0))]), σ)) (q2 := ((70, [some (.inr (.inr (12, 0))), some (.inl x1), some (.inl x2), some (.inl x3), some (.inr (.inl x4)), none, some (.inl x6), some (.inr (.inl (σ.2.2.2.1 102 0 ((((5 : Int32) * x1) + x6)).toNatClampNeg))), none], [.inl (((5 : Int32) * x1) + x6), .inr (.inr (103, 0))]), σ)) rfl (fun hc => ?_) (fun hc => ?_)
      · have h := (if_pos hc).symm.trans h
        refine Wp.run (WpD.mono _) 4 (q := ((57, [some (.inr (.inr (12, 0))), some (.inl x1), some (.inl x2), some (.inl x3), some (.inr (.inl x4)), none, some (.inl x6), some (.inr (.inl (σ.2.2.2.1 102 0 ((((5 : Int32) * x1) + x6)).toNatClampNeg))), none], [.inl x6, .inl x2, .inr (.inr (12, 0)), .inr (.inl (σ.2.2.2.1 102 0 ((((5 : Int32) * x1) + x6)).toNatClampNeg)), .inr (.inl (σ.2.2.2.1 102 0 ((((5 : Int32) * x1) + x6)).toNatClampNeg)), .inl (((5 : Int32) * x1) + x6), .inr (.inr (103, 0))]), σ)) rfl ?_
        obtain ⟨q1, hb, h⟩ := bind_some h
        refine Wp.call (WpD.mono _) rfl (T_X12_waterOf (e + 0) N x2 x6 σ _ _ _ hb ?_)
        show Wp (WpD (e + 3)) hcX12_dries Q (60, [some (.inr (.inr (12, 0))), some (.inl x1), some (.inl x2), some (.inl x3), some (.inr (.inl x4)), none, some (.inl x6), some (.inr (.inl (σ.2.2.2.1 102 0 ((((5 : Int32) * x1) + x6)).toNatClampNeg))), none], [.inl q1.1, .inr (.inl (σ.2.2.2.1 102 0 ((((5 : Int32) * x1) + x6)).toNatClampNeg)), .inr (.inl (σ.2.2.2.1 102 0 ((((5 : Int32) * x1) + x6)).toNatClampNeg)), .inl (((5 : Int32) * x1) + x6), .inr (.inr (103, 0))]) q1.2
        refine Wp.run (WpD.mono _) 5 (q := ((71, [some (.inr (.inr (12, 0))), some (.inl x1), some (.inl x2), some (.inl x3), some (.inr (.inl x4)), none, some (.inl x6), some (.inr (.inl (σ.2.2.2.1 102 0 ((((5 : Int32) * x1) + x6)).toNatClampNeg))), none], [.inr (.inl ((σ.2.2.2.1 102 0 ((((5 : Int32) * x1) + x6)).toNatClampNeg) - (((σ.2.2.2.1 102 0 ((((5 : Int32) * x1) + x6)).toNatClampNeg) * q1.1.toInt64) / (100 : Int64)))), .inl (((5 : Int32) * x1) + x6), .inr (.inr (103, 0))]), q1.2)) rfl ?_
        exact Wp.jump (WpD.mono _) rfl ((T_X12_dries_b71 e N (F_X12_dries_b6 N n) r τ Q hQ ih) x1 x2 x3 x4 x6 ((σ.2.2.2.1 102 0 ((((5 : Int32) * x1) + x6)).toNatClampNeg) - (((σ.2.2.2.1 102 0 ((((5 : Int32) * x1) + x6)).toNatClampNeg) * q1.1.toInt64) / (100 : Int64))) (((5 : Int32) * x1) + x6) q1.2 h)
      · have h := (if_neg hc).symm.trans h
        refine Wp.run (WpD.mono _) 0 (q := ((71, [some (.inr (.inr (12, 0))), some (.inl x1), some (.inl x2), some (.inl x3), some (.inr (.inl x4)), none, some (.inl x6), some (.inr (.inl (σ.2.2.2.1 102 0 ((((5 : Int32) * x1) + x6)).toNatClampNeg))), none], [.inr (.inl (0 : Int64)), .inl (((5 : Int32) * x1) + x6), .inr (.inr (103, 0))]), σ)) rfl ?_
        exact Wp.jump (WpD.mono _) rfl ((T_X12_dries_b71 e N (F_X12_dries_b6 N n) r τ Q hQ ih) x1 x2 x3 x4 x6 (0 : Int64) (((5 : Int32) * x1) + x6) σ h)

set_option maxRecDepth 100000 in
set_option maxHeartbeats 4000000 in
theorem T_X12_dries (e N : Nat)  (a1 : Int32) (a2 : Int32) (a3 : Int32) (σ : Mem) (r : Int64) (τ : Mem) (Q : Pst) (h : F_X12_dries N a1 a2 a3 σ = some (r, τ)) (hQ : Q (some (.inr (.inl r))) τ) : WpD (e + 4) mX12_dries [.inr (.inr (12, 0)), .inl a1, .inl a2, .inl a3] σ Q := by
  refine WpD.of (d := e + 3) (Nat.le_of_ble_eq_true rfl) (Nat.le_of_ble_eq_true rfl) ?_
  show Wp (WpD (e + 3)) hcX12_dries Q (0, [some (.inr (.inr (12, 0))), some (.inl a1), some (.inl a2), some (.inl a3), none, none, none, none, none], []) σ
  unfold F_X12_dries at h
  refine Wp.run (WpD.mono _) 3 (q := ((6, [some (.inr (.inr (12, 0))), some (.inl a1), some (.inl a2), some (.inl a3), some (.inr (.inl (0 : Int64))), none, some (.inl (0 : Int32)), none, none], []), σ)) rfl ?_
  exact Wp.jump (WpD.mono _) rfl ((T_X12_dries_b6 e N  r τ Q hQ  N) a1 a2 a3 (0 : Int64) (0 : Int32) σ h)

set_option maxRecDepth 100000 in
set_option maxHeartbeats 4000000 in
theorem T_X12_thinks_b54 (e N : Nat)  (k8 : Int32 → Int32 → Mem → Option (Int32 × Mem)) (r : Int32) (τ : Mem) (Q : Pst) (hQ : Q (some (.inl r)) τ) (hk8 : ∀ (x1 : Int32) (x2 : Int32) (σ : Mem), k8 x1 x2 σ = some (r, τ) → Wp (WpD (e + 4)) hcX12_thinks Q (8, [some (.inr (.inr (12, 0))), some (.inl x1), some (.inl x2), none, none, none], []) σ) : ∀ n, ∀ (x1 : Int32) (x2 : Int32) (x5 : Int32) (σ : Mem), F_X12_thinks_b54 N k8 n x1 x2 x5 σ = some (r, τ) → Wp (WpD (e + 4)) hcX12_thinks Q (54, [some (.inr (.inr (12, 0))), some (.inl x1), some (.inl x2), none, none, some (.inl x5)], []) σ := by
  intro n
  induction n with
  | zero => intro x1 x2 x5 σ h; cases h
  | succ n ih =>
    intro x1 x2 x5 σ h
    unfold F_X12_thinks_b54 at h
    refine Wp.br (WpD.mono _) 3 (c := (σ.1 12 5) ≤ x5) (q1 := ((85, [some (.inr (.inr (12, 0))), some (.inl x1), some (.inl x2), none, none, some (.inl x5)], []), σ)) (q2 := ((63, [some (.inr (.inr (12, 0))), some (.inl x1), some (.inl x2), none, none, some (.inl x5)], []), σ)) rfl (fun hc => ?_) (fun hc => ?_)
    · have h := (if_pos hc).symm.trans h
      refine Wp.run (WpD.mono _) 1 (q := ((8, [some (.inr (.inr (12, 0))), some (.inl x1), some (.inl (x2 + (1 : Int32))), none, none, some (.inl x5)], []), σ)) rfl ?_
      exact Wp.jump (WpD.mono _) rfl (hk8 x1 (x2 + (1 : Int32)) σ h)
    · have h := (if_neg hc).symm.trans h
      obtain ⟨hc, h⟩ := ite_nn h
      refine Wp.no (WpD.mono _) 8 (c := hwOut ((5 : Int32) + x5) 40) (q := ((78, [some (.inr (.inr (12, 0))), some (.inl x1), some (.inl x2), none, none, some (.inl x5)], [.inr (.inl (σ.2.2.2.1 102 0 (((5 : Int32) + x5)).toNatClampNeg)), .inl x5, .inr (.inr (102, 0))]), σ)) rfl hc ?_
      obtain ⟨hc, h⟩ := ite_nn h
      refine Wp.no (WpD.mono _) 0 (c := hwOut x5 40) (q := ((79, [some (.inr (.inr (12, 0))), some (.inl x1), some (.inl x2), none, none, some (.inl x5)], []), (σ.1, σ.2.1, σ.2.2.1, (hwU3 σ.2.2.2.1 102 0 (x5).toNatClampNeg (σ.2.2.2.1 102 0 (((5 : Int32) + x5)).toNatClampNeg)), σ.2.2.2.2))) rfl hc ?_
      refine Wp.run (WpD.mono _) 1 (q := ((54, [some (.inr (.inr (12, 0))), some (.inl x1), some (.inl x2), none, none, some (.inl (x5 + (1 : Int32)))], []), (σ.1, σ.2.1, σ.2.2.1, (hwU3 σ.2.2.2.1 102 0 (x5).toNatClampNeg (σ.2.2.2.1 102 0 (((5 : Int32) + x5)).toNatClampNeg)), σ.2.2.2.2))) rfl ?_
      exact Wp.jump (WpD.mono _) rfl (ih x1 x2 (x5 + (1 : Int32)) (σ.1, σ.2.1, σ.2.2.1, (hwU3 σ.2.2.2.1 102 0 (x5).toNatClampNeg (σ.2.2.2.1 102 0 (((5 : Int32) + x5)).toNatClampNeg)), σ.2.2.2.2) h)

set_option maxRecDepth 100000 in
set_option maxHeartbeats 4000000 in
theorem T_X12_thinks_b8 (e N : Nat)   (r : Int32) (τ : Mem) (Q : Pst) (hQ : Q (some (.inl r)) τ) : ∀ n, ∀ (x1 : Int32) (x2 : Int32) (σ : Mem), F_X12_thinks_b8 N n x1 x2 σ = some (r, τ) → Wp (WpD (e + 4)) hcX12_thinks Q (8, [some (.inr (.inr (12, 0))), some (.inl x1), some (.inl x2), none, none, none], []) σ := by
  intro n
  induction n with
  | zero => intro x1 x2 σ h; cases h
  | succ n ih =>
    intro x1 x2 σ h
    unfold F_X12_thinks_b8 at h
    obtain ⟨hc, h⟩ := ite_nn h
    refine Wp.no (WpD.mono _) 4 (c := hwOut x1 4) (q := ((15, [some (.inr (.inr (12, 0))), some (.inl x1), some (.inl x2), none, none, none], [.inl (σ.2.2.1 77 0 (x1).toNatClampNeg), .inl x2]), σ)) rfl hc ?_
    refine Wp.br (WpD.mono _) 0 (c := (σ.2.2.1 77 0 (x1).toNatClampNeg) ≤ x2) (q1 := ((91, [some (.inr (.inr (12, 0))), some (.inl x1), some (.inl x2), none, none, none], []), σ)) (q2 := ((18, [some (.inr (.inr (12, 0))), some (.inl x1), some (.inl x2), none, none, none], []), σ)) rfl (fun hc => ?_) (fun hc => ?_)
    · have h := (if_pos hc).symm.trans h
      refine Wp.run (WpD.mono _) 0 (q := ((92, [some (.inr (.inr (12, 0))), some (.inl x1), some (.inl x2), none, none, none], [.inl (1 : Int32)]), σ)) rfl ?_
      cases h
      exact Wp.ret (WpD.mono _) rfl hQ
    · have h := (if_neg hc).symm.trans h
      obtain ⟨hc, h⟩ := ite_nn h
      refine Wp.no (WpD.mono _) 12 (c := hwOut (((5 : Int32) * x1) + x2) 20) (q := ((33, [some (.inr (.inr (12, 0))), some (.inl x1), some (.inl x2), none, none, none], [.inl (σ.2.2.1 79 0 ((((5 : Int32) * x1) + x2)).toNatClampNeg), .inl (x2 + (1 : Int32)), .inl (0 : Int32), .inr (.inr (12, 0))]), σ)) rfl hc ?_
      obtain ⟨q2, hb, h⟩ := bind_some h
      refine Wp.call (WpD.mono _) rfl (T_X12_dries (e + 0) N (0 : Int32) (x2 + (1 : Int32)) (σ.2.2.1 79 0 ((((5 : Int32) * x1) + x2)).toNatClampNeg) σ _ _ _ hb ?_)
      show Wp (WpD (e + 4)) hcX12_thinks Q (36, [some (.inr (.inr (12, 0))), some (.inl x1), some (.inl x2), none, none, none], [.inr (.inl q2.1)]) q2.2
      refine Wp.br (WpD.mono _) 4 (c := (lg_cmp q2.1 (0 : Int64)) = 0) (q1 := ((43, [some (.inr (.inr (12, 0))), some (.inl x1), some (.inl x2), some (.inr (.inl q2.1)), none, none], []), q2.2)) (q2 := ((45, [some (.inr (.inr (12, 0))), some (.inl x1), some (.inl x2), some (.inr (.inl q2.1)), none, none], []), q2.2)) rfl (fun hc => ?_) (fun hc => ?_)
      · have h := (if_pos hc).symm.trans h
        refine Wp.run (WpD.mono _) 0 (q := ((44, [some (.inr (.inr (12, 0))), some (.inl x1), some (.inl x2), some (.inr (.inl q2.1)), none, none], [.inl (0 : Int32)]), q2.2)) rfl ?_
        cases h
        exact Wp.ret (WpD.mono _) rfl hQ
      · have h := (if_neg hc).symm.trans h
        refine Wp.run (WpD.mono _) 2 (q := ((48, [some (.inr (.inr (12, 0))), some (.inl x1), some (.inl x2), some (.inr (.inl q2.1)), none, none], [.inr (.inl q2.1), .inl (0 : Int32), .inr (.inr (12, 0))]), q2.2)) rfl ?_
        obtain ⟨q3, hb, h⟩ := bind_some h
        refine Wp.call (WpD.mono _) rfl (T_X12_below (e + 2) N (0 : Int32) q2.1 q2.2 _ _ _ hb ?_)
        show Wp (WpD (e + 4)) hcX12_thinks Q (51, [some (.inr (.inr (12, 0))), some (.inl x1), some (.inl x2), some (.inr (.inl q2.1)), none, none], []) q3.2
        refine Wp.run (WpD.mono _) 1 (q := ((54, [some (.inr (.inr (12, 0))), some (.inl x1), some (.inl x2), some (.inr (.inl q2.1)), none, some (.inl (0 : Int32))], []), q3.2)) rfl ?_
        exact Wp.jump (WpD.mono _) rfl ((T_X12_thinks_b54 e N (F_X12_thinks_b8 N n) r τ Q hQ ih N) x1 x2 (0 : Int32) q3.2 h)

set_option maxRecDepth 100000 in
set_option maxHeartbeats 4000000 in
theorem T_X12_thinks (e N : Nat)  (a1 : Int32) (σ : Mem) (r : Int32) (τ : Mem) (Q : Pst) (h : F_X12_thinks N a1 σ = some (r, τ)) (hQ : Q (some (.inl r)) τ) : WpD (e + 5) mX12_thinks [.inr (.inr (12, 0)), .inl a1] σ Q := by
  refine WpD.of (d := e + 4) (Nat.le_of_ble_eq_true rfl) (Nat.le_of_ble_eq_true rfl) ?_
  show Wp (WpD (e + 4)) hcX12_thinks Q (0, [some (.inr (.inr (12, 0))), some (.inl a1), none, none, none, none], []) σ
  unfold F_X12_thinks at h
  refine Wp.run (WpD.mono _) 2 (q := ((3, [some (.inr (.inr (12, 0))), some (.inl a1), none, none, none, none], [.inl (0 : Int32), .inl a1, .inr (.inr (12, 0))]), σ)) rfl ?_
  obtain ⟨q1, hb, h⟩ := bind_some h
  refine Wp.call (WpD.mono _) rfl (T_X12_begins (e + 3) N a1 (0 : Int32) σ _ _ _ hb ?_)
  show Wp (WpD (e + 4)) hcX12_thinks Q (6, [some (.inr (.inr (12, 0))), some (.inl a1), none, none, none, none], []) q1.2
  refine Wp.run (WpD.mono _) 1 (q := ((8, [some (.inr (.inr (12, 0))), some (.inl a1), some (.inl (0 : Int32)), none, none, none], []), q1.2)) rfl ?_
  exact Wp.jump (WpD.mono _) rfl ((T_X12_thinks_b8 e N  r τ Q hQ  N) a1 (0 : Int32) q1.2 h)

set_option maxRecDepth 100000 in
set_option maxHeartbeats 4000000 in
theorem T_X12_goesHere (e N : Nat)  (a1 : Int32) (σ : Mem) (r : Int32) (τ : Mem) (Q : Pst) (h : F_X12_goesHere N a1 σ = some (r, τ)) (hQ : Q (some (.inl r)) τ) : WpD (e + 6) mX12_goesHere [.inr (.inr (12, 0)), .inl a1] σ Q := by
  refine WpD.of (d := e + 5) (Nat.le_of_ble_eq_true rfl) (Nat.le_of_ble_eq_true rfl) ?_
  show Wp (WpD (e + 5)) hcX12_goesHere Q (0, [some (.inr (.inr (12, 0))), some (.inl a1)], []) σ
  unfold F_X12_goesHere at h
  obtain ⟨hc, h⟩ := ite_nn h
  refine Wp.no (WpD.mono _) 3 (c := hwOut a1 4) (q := ((6, [some (.inr (.inr (12, 0))), some (.inl a1)], [.inl (σ.2.2.1 78 0 (a1).toNatClampNeg)]), σ)) rfl hc ?_
  refine Wp.br (WpD.mono _) 0 (c := (σ.2.2.1 78 0 (a1).toNatClampNeg) = 0) (q1 := ((9, [some (.inr (.inr (12, 0))), some (.inl a1)], []), σ)) (q2 := ((21, [some (.inr (.inr (12, 0))), some (.inl a1)], []), σ)) rfl (fun hc => ?_) (fun hc => ?_)
  · have h := (if_pos hc).symm.trans h
    refine Wp.run (WpD.mono _) 1 (q := ((11, [some (.inr (.inr (12, 0))), some (.inl a1)], [.inl a1, .inr (.inr (12, 0))]), σ)) rfl ?_
    obtain ⟨q1, hb, h⟩ := bind_some h
    refine Wp.call (WpD.mono _) rfl (T_X12_thinks (e + 0) N a1 σ _ _ _ hb ?_)
    show Wp (WpD (e + 5)) hcX12_goesHere Q (14, [some (.inr (.inr (12, 0))), some (.inl a1)], [.inl q1.1]) q1.2
    refine Wp.br (WpD.mono _) 0 (c := q1.1 = 0) (q1 := ((21, [some (.inr (.inr (12, 0))), some (.inl a1)], []), q1.2)) (q2 := ((17, [some (.inr (.inr (12, 0))), some (.inl a1)], []), q1.2)) rfl (fun hc => ?_) (fun hc => ?_)
    · have h := (if_pos hc).symm.trans h
      refine Wp.run (WpD.mono _) 0 (q := ((22, [none, none], [.inl (0 : Int32)]), q1.2)) rfl ?_
      cases h
      exact Wp.ret (WpD.mono _) rfl hQ
    · have h := (if_neg hc).symm.trans h
      refine Wp.run (WpD.mono _) 1 (q := ((22, [some (.inr (.inr (12, 0))), some (.inl a1)], [.inl (1 : Int32)]), q1.2)) rfl ?_
      cases h
      exact Wp.ret (WpD.mono _) rfl hQ
  · have h := (if_neg hc).symm.trans h
    refine Wp.run (WpD.mono _) 0 (q := ((22, [none, none], [.inl (0 : Int32)]), σ)) rfl ?_
    cases h
    exact Wp.ret (WpD.mono _) rfl hQ

set_option maxRecDepth 100000 in
set_option maxHeartbeats 4000000 in
theorem T_X12_worthOf (e N : Nat)  (a1 : Int32) (σ : Mem) (r : Int64) (τ : Mem) (Q : Pst) (h : F_X12_worthOf N a1 σ = some (r, τ)) (hQ : Q (some (.inr (.inl r))) τ) : WpD (e + 1) mX12_worthOf [.inr (.inr (12, 0)), .inl a1] σ Q := by
  refine WpD.of (d := e + 0) (Nat.le_of_ble_eq_true rfl) (Nat.le_of_ble_eq_true rfl) ?_
  show Wp (WpD (e + 0)) hcX12_worthOf Q (0, [some (.inr (.inr (12, 0))), some (.inl a1)], []) σ
  unfold F_X12_worthOf at h
  obtain ⟨hc, h⟩ := ite_nn h
  refine Wp.no (WpD.mono _) 5 (c := hwOut a1 5) (q := ((10, [some (.inr (.inr (12, 0))), some (.inl a1)], [.inl (σ.2.2.1 73 0 (a1).toNatClampNeg), .inl (σ.1 12 1)]), σ)) rfl hc ?_
  refine Wp.br (WpD.mono _) 0 (c := (σ.1 12 1) ≤ (σ.2.2.1 73 0 (a1).toNatClampNeg)) (q1 := ((28, [some (.inr (.inr (12, 0))), some (.inl a1)], []), σ)) (q2 := ((13, [some (.inr (.inr (12, 0))), some (.inl a1)], []), σ)) rfl (fun hc => ?_) (fun hc => ?_)
  · have h := (if_pos hc).symm.trans h
    refine Wp.run (WpD.mono _) 0 (q := ((29, [some (.inr (.inr (12, 0))), some (.inl a1)], [.inr (.inl (0 : Int64))]), σ)) rfl ?_
    cases h
    exact Wp.ret (WpD.mono _) rfl hQ
  · have h := (if_neg hc).symm.trans h
    obtain ⟨hc, h⟩ := ite_nn h
    refine Wp.no (WpD.mono _) 5 (c := hwOut a1 5) (q := ((23, [some (.inr (.inr (12, 0))), some (.inl a1)], [.inl (σ.2.2.1 73 0 (a1).toNatClampNeg), .inl (σ.1 12 1)]), σ)) rfl hc ?_
    refine Wp.run (WpD.mono _) 2 (q := ((29, [some (.inr (.inr (12, 0))), some (.inl a1)], [.inr (.inl ((σ.1 12 1) - (σ.2.2.1 73 0 (a1).toNatClampNeg)).toInt64)]), σ)) rfl ?_
    cases h
    exact Wp.ret (WpD.mono _) rfl hQ

set_option maxRecDepth 100000 in
set_option maxHeartbeats 4000000 in
theorem T_X12_goesOn_b76 (e N : Nat) (g0 : Int32 → Int32 → Mem → Option (Int64 × Mem)) (g1 : Int32 → Int32 → Mem → Option (Int64 × Mem)) (hg0 : ∀ (a1 : Int32) (a2 : Int32) (σ : Mem) (r : Int64) (τ : Mem) (Q : Pst), g0 a1 a2 σ = some (r, τ) → Q (some (.inr (.inl r))) τ → WpD (e + 4) mX12_goesOn [.inr (.inr (12, 0)), .inl a1, .inl a2] σ Q) (hg1 : ∀ (a1 : Int32) (a2 : Int32) (σ : Mem) (r : Int64) (τ : Mem) (Q : Pst), g1 a1 a2 σ = some (r, τ) → Q (some (.inr (.inl r))) τ → WpD (e + 4) mX12_valueOf [.inr (.inr (12, 0)), .inl a1, .inl a2] σ Q)  (r : Int64) (τ : Mem) (Q : Pst) (hQ : Q (some (.inr (.inl r))) τ) : ∀ n, ∀ (x1 : Int32) (x2 : Int32) (x3 : Int64) (x5 : Int32) (σ : Mem), F_X12_goesOn_b76 N g0 g1 n x1 x2 x3 x5 σ = some (r, τ) → Wp (WpD (e + 4)) hcX12_goesOn Q (76, [some (.inr (.inr (12, 0))), some (.inl x1), some (.inl x2), some (.inr (.inl x3)), none, some (.inl x5), none, none], []) σ := by
  intro n
  induction n with
  | zero => intro x1 x2 x3 x5 σ h; cases h
  | succ n ih =>
    intro x1 x2 x3 x5 σ h
    unfold F_X12_goesOn_b76 at h
    refine Wp.br (WpD.mono _) 2 (c := (3 : Int32) ≤ x5) (q1 := ((140, [some (.inr (.inr (12, 0))), some (.inl x1), some (.inl x2), some (.inr (.inl x3)), none, some (.inl x5), none, none], []), σ)) (q2 := ((82, [some (.inr (.inr (12, 0))), some (.inl x1), some (.inl x2), some (.inr (.inl x3)), none, some (.inl x5), none, none], []), σ)) rfl (fun hc => ?_) (fun hc => ?_)
    · have h := (if_pos hc).symm.trans h
      refine Wp.run (WpD.mono _) 0 (q := ((141, [none, none, none, some (.inr (.inl x3)), none, none, none, none], [.inr (.inl x3)]), σ)) rfl ?_
      cases h
      exact Wp.ret (WpD.mono _) rfl hQ
    · have h := (if_neg hc).symm.trans h
      refine Wp.br (WpD.mono _) 3 (c := (σ.1 12 0) ≤ x1) (q1 := ((140, [some (.inr (.inr (12, 0))), some (.inl x1), some (.inl x2), some (.inr (.inl x3)), none, some (.inl x5), none, none], []), σ)) (q2 := ((90, [some (.inr (.inr (12, 0))), some (.inl x1), some (.inl x2), some (.inr (.inl x3)), none, some (.inl x5), none, none], []), σ)) rfl (fun hc => ?_) (fun hc => ?_)
      · have h := (if_pos hc).symm.trans h
        refine Wp.run (WpD.mono _) 0 (q := ((141, [none, none, none, some (.inr (.inl x3)), none, none, none, none], [.inr (.inl x3)]), σ)) rfl ?_
        cases h
        exact Wp.ret (WpD.mono _) rfl hQ
      · have h := (if_neg hc).symm.trans h
        refine Wp.run (WpD.mono _) 3 (q := ((95, [some (.inr (.inr (12, 0))), some (.inl x1), some (.inl x2), some (.inr (.inl x3)), none, some (.inl x5), none, none], [.inl x5, .inl x1, .inl x2, .inr (.inr (12, 0))]), σ)) rfl ?_
        obtain ⟨q4, hb, h⟩ := bind_some h
        refine Wp.call (WpD.mono _) rfl (T_X12_dries (e + 0) N x2 x1 x5 σ _ _ _ hb ?_)
        show Wp (WpD (e + 4)) hcX12_goesOn Q (98, [some (.inr (.inr (12, 0))), some (.inl x1), some (.inl x2), some (.inr (.inl x3)), none, some (.inl x5), none, none], [.inr (.inl q4.1)]) q4.2
        refine Wp.br (WpD.mono _) 4 (c := (lg_cmp q4.1 (0 : Int64)) ≤ 0) (q1 := ((134, [some (.inr (.inr (12, 0))), some (.inl x1), some (.inl x2), some (.inr (.inl x3)), none, some (.inl x5), some (.inr (.inl q4.1)), none], []), q4.2)) (q2 := ((107, [some (.inr (.inr (12, 0))), some (.inl x1), some (.inl x2), some (.inr (.inl x3)), none, some (.inl x5), some (.inr (.inl q4.1)), none], []), q4.2)) rfl (fun hc => ?_) (fun hc => ?_)
        · have h := (if_pos hc).symm.trans h
          refine Wp.run (WpD.mono _) 1 (q := ((76, [some (.inr (.inr (12, 0))), some (.inl x1), some (.inl x2), some (.inr (.inl x3)), none, some (.inl (x5 + (1 : Int32))), none, none], []), q4.2)) rfl ?_
          exact Wp.jump (WpD.mono _) rfl (ih x1 x2 x3 (x5 + (1 : Int32)) q4.2 h)
        · have h := (if_neg hc).symm.trans h
          refine Wp.run (WpD.mono _) 2 (q := ((111, [some (.inr (.inr (12, 0))), some (.inl x1), some (.inl x2), some (.inr (.inl x3)), none, some (.inl x5), some (.inr (.inl q4.1)), none], [.inr (.inl q4.1), .inl x2, .inr (.inr (12, 0))]), q4.2)) rfl ?_
          obtain ⟨q5, hb, h⟩ := bind_some h
          refine Wp.call (WpD.mono _) rfl (T_X12_below (e + 2) N x2 q4.1 q4.2 _ _ _ hb ?_)
          show Wp (WpD (e + 4)) hcX12_goesOn Q (114, [some (.inr (.inr (12, 0))), some (.inl x1), some (.inl x2), some (.inr (.inl x3)), none, some (.inl x5), some (.inr (.inl q4.1)), none], []) q5.2
          refine Wp.run (WpD.mono _) 8 (q := ((124, [some (.inr (.inr (12, 0))), some (.inl x1), some (.inl x2), some (.inr (.inl x3)), none, some (.inl x5), some (.inr (.inl q4.1)), none], [.inl (x2 + (1 : Int32)), .inl (x1 + (1 : Int32)), .inr (.inr (12, 0)), .inr (.inl q4.1), .inr (.inl x3)]), q5.2)) rfl ?_
          obtain ⟨q6, hb, h⟩ := bind_some h
          refine Wp.call (WpD.mono _) rfl (hg1 (x1 + (1 : Int32)) (x2 + (1 : Int32)) q5.2 _ _ _ hb ?_)
          show Wp (WpD (e + 4)) hcX12_goesOn Q (127, [some (.inr (.inr (12, 0))), some (.inl x1), some (.inl x2), some (.inr (.inl x3)), none, some (.inl x5), some (.inr (.inl q4.1)), none], [.inr (.inl q6.1), .inr (.inl q4.1), .inr (.inl x3)]) q6.2
          refine Wp.run (WpD.mono _) 6 (q := ((76, [some (.inr (.inr (12, 0))), some (.inl x1), some (.inl x2), some (.inr (.inl (x3 + ((q4.1 * q6.1) / (1000000 : Int64))))), none, some (.inl (x5 + (1 : Int32))), none, none], []), q6.2)) rfl ?_
          exact Wp.jump (WpD.mono _) rfl (ih x1 x2 (x3 + ((q4.1 * q6.1) / (1000000 : Int64))) (x5 + (1 : Int32)) q6.2 h)

set_option maxRecDepth 100000 in
set_option maxHeartbeats 4000000 in
theorem T_X12_goesOn_b24 (e N : Nat) (g0 : Int32 → Int32 → Mem → Option (Int64 × Mem)) (g1 : Int32 → Int32 → Mem → Option (Int64 × Mem)) (hg0 : ∀ (a1 : Int32) (a2 : Int32) (σ : Mem) (r : Int64) (τ : Mem) (Q : Pst), g0 a1 a2 σ = some (r, τ) → Q (some (.inr (.inl r))) τ → WpD (e + 4) mX12_goesOn [.inr (.inr (12, 0)), .inl a1, .inl a2] σ Q) (hg1 : ∀ (a1 : Int32) (a2 : Int32) (σ : Mem) (r : Int64) (τ : Mem) (Q : Pst), g1 a1 a2 σ = some (r, τ) → Q (some (.inr (.inl r))) τ → WpD (e + 4) mX12_valueOf [.inr (.inr (12, 0)), .inl a1, .inl a2] σ Q)  (r : Int64) (τ : Mem) (Q : Pst) (hQ : Q (some (.inr (.inl r))) τ) : ∀ n, ∀ (x1 : Int32) (x2 : Int32) (x3 : Int64) (x5 : Int32) (σ : Mem), F_X12_goesOn_b24 N g0 g1 n x1 x2 x3 x5 σ = some (r, τ) → Wp (WpD (e + 4)) hcX12_goesOn Q (24, [some (.inr (.inr (12, 0))), some (.inl x1), some (.inl x2), some (.inr (.inl x3)), none, some (.inl x5), none, none], []) σ := by
  intro n
  induction n with
  | zero => intro x1 x2 x3 x5 σ h; cases h
  | succ n ih =>
    intro x1 x2 x3 x5 σ h
    unfold F_X12_goesOn_b24 at h
    refine Wp.br (WpD.mono _) 3 (c := (σ.1 12 5) ≤ x5) (q1 := ((73, [some (.inr (.inr (12, 0))), some (.inl x1), some (.inl x2), some (.inr (.inl x3)), none, some (.inl x5), none, none], []), σ)) (q2 := ((33, [some (.inr (.inr (12, 0))), some (.inl x1), some (.inl x2), some (.inr (.inl x3)), none, some (.inl x5), none, none], []), σ)) rfl (fun hc => ?_) (fun hc => ?_)
    · have h := (if_pos hc).symm.trans h
      refine Wp.run (WpD.mono _) 1 (q := ((76, [some (.inr (.inr (12, 0))), some (.inl x1), some (.inl x2), some (.inr (.inl x3)), none, some (.inl (0 : Int32)), none, none], []), σ)) rfl ?_
      exact Wp.jump (WpD.mono _) rfl ((T_X12_goesOn_b76 e N g0 g1 hg0 hg1 r τ Q hQ  N) x1 x2 x3 (0 : Int32) σ h)
    · have h := (if_neg hc).symm.trans h
      obtain ⟨hc, h⟩ := ite_nn h
      refine Wp.no (WpD.mono _) 8 (c := hwOut (((5 : Int32) * x2) + x5) 40) (q := ((45, [some (.inr (.inr (12, 0))), some (.inl x1), some (.inl x2), some (.inr (.inl x3)), none, some (.inl x5), none, none], [.inr (.inl (σ.2.2.2.1 102 0 ((((5 : Int32) * x2) + x5)).toNatClampNeg)), .inr (.inl x3)]), σ)) rfl hc ?_
      refine Wp.run (WpD.mono _) 2 (q := ((49, [some (.inr (.inr (12, 0))), some (.inl x1), some (.inl x2), some (.inr (.inl x3)), none, some (.inl x5), none, none], [.inl x5, .inl x1, .inr (.inr (12, 0)), .inr (.inl (σ.2.2.2.1 102 0 ((((5 : Int32) * x2) + x5)).toNatClampNeg)), .inr (.inl x3)]), σ)) rfl ?_
      obtain ⟨q2, hb, h⟩ := bind_some h
      refine Wp.call (WpD.mono _) rfl (T_X12_waterOf (e + 1) N x1 x5 σ _ _ _ hb ?_)
      show Wp (WpD (e + 4)) hcX12_goesOn Q (52, [some (.inr (.inr (12, 0))), some (.inl x1), some (.inl x2), some (.inr (.inl x3)), none, some (.inl x5), none, none], [.inl q2.1, .inr (.inl (σ.2.2.2.1 102 0 ((((5 : Int32) * x2) + x5)).toNatClampNeg)), .inr (.inl x3)]) q2.2
      refine Wp.run (WpD.mono _) 5 (q := ((61, [some (.inr (.inr (12, 0))), some (.inl x1), some (.inl x2), some (.inr (.inl x3)), none, some (.inl x5), none, none], [.inl x5, .inr (.inr (12, 0)), .inr (.inl (((σ.2.2.2.1 102 0 ((((5 : Int32) * x2) + x5)).toNatClampNeg) * q2.1.toInt64) / (100 : Int64))), .inr (.inl x3)]), q2.2)) rfl ?_
      obtain ⟨q3, hb, h⟩ := bind_some h
      refine Wp.call (WpD.mono _) rfl (T_X12_worthOf (e + 3) N x5 q2.2 _ _ _ hb ?_)
      show Wp (WpD (e + 4)) hcX12_goesOn Q (64, [some (.inr (.inr (12, 0))), some (.inl x1), some (.inl x2), some (.inr (.inl x3)), none, some (.inl x5), none, none], [.inr (.inl q3.1), .inr (.inl (((σ.2.2.2.1 102 0 ((((5 : Int32) * x2) + x5)).toNatClampNeg) * q2.1.toInt64) / (100 : Int64))), .inr (.inl x3)]) q3.2
      refine Wp.run (WpD.mono _) 4 (q := ((24, [some (.inr (.inr (12, 0))), some (.inl x1), some (.inl x2), some (.inr (.inl (x3 + ((((σ.2.2.2.1 102 0 ((((5 : Int32) * x2) + x5)).toNatClampNeg) * q2.1.toInt64) / (100 : Int64)) * q3.1)))), none, some (.inl (x5 + (1 : Int32))), none, none], []), q3.2)) rfl ?_
      exact Wp.jump (WpD.mono _) rfl (ih x1 x2 (x3 + ((((σ.2.2.2.1 102 0 ((((5 : Int32) * x2) + x5)).toNatClampNeg) * q2.1.toInt64) / (100 : Int64)) * q3.1)) (x5 + (1 : Int32)) q3.2 h)

set_option maxRecDepth 100000 in
set_option maxHeartbeats 4000000 in
theorem TB_X12_goesOn (e N : Nat) (g0 : Int32 → Int32 → Mem → Option (Int64 × Mem)) (g1 : Int32 → Int32 → Mem → Option (Int64 × Mem)) (hg0 : ∀ (a1 : Int32) (a2 : Int32) (σ : Mem) (r : Int64) (τ : Mem) (Q : Pst), g0 a1 a2 σ = some (r, τ) → Q (some (.inr (.inl r))) τ → WpD (e + 4) mX12_goesOn [.inr (.inr (12, 0)), .inl a1, .inl a2] σ Q) (hg1 : ∀ (a1 : Int32) (a2 : Int32) (σ : Mem) (r : Int64) (τ : Mem) (Q : Pst), g1 a1 a2 σ = some (r, τ) → Q (some (.inr (.inl r))) τ → WpD (e + 4) mX12_valueOf [.inr (.inr (12, 0)), .inl a1, .inl a2] σ Q) (a1 : Int32) (a2 : Int32) (σ : Mem) (r : Int64) (τ : Mem) (Q : Pst) (h : B_X12_goesOn N g0 g1 a1 a2 σ = some (r, τ)) (hQ : Q (some (.inr (.inl r))) τ) : WpD (e + 1 + 4) mX12_goesOn [.inr (.inr (12, 0)), .inl a1, .inl a2] σ Q := by
  refine WpD.of (d := e + 4) (Nat.le_of_ble_eq_true rfl) (Nat.le_of_ble_eq_true rfl) ?_
  show Wp (WpD (e + 4)) hcX12_goesOn Q (0, [some (.inr (.inr (12, 0))), some (.inl a1), some (.inl a2), none, none, none, none, none], []) σ
  unfold B_X12_goesOn at h
  refine Wp.br (WpD.mono _) 3 (c := a1 ≤ (σ.1 12 0)) (q1 := ((10, [some (.inr (.inr (12, 0))), some (.inl a1), some (.inl a2), none, none, none, none, none], []), σ)) (q2 := ((8, [some (.inr (.inr (12, 0))), some (.inl a1), some (.inl a2), none, none, none, none, none], []), σ)) rfl (fun hc => ?_) (fun hc => ?_)
  · have h := (if_pos hc).symm.trans h
    refine Wp.run (WpD.mono _) 2 (q := ((15, [some (.inr (.inr (12, 0))), some (.inl a1), some (.inl a2), none, none, none, none, none], [.inl a1, .inr (.inr (12, 0)), .inr (.inl (-1000000 : Int64))]), σ)) rfl ?_
    obtain ⟨q1, hb, h⟩ := bind_some h
    refine Wp.call (WpD.mono _) rfl (T_X12_costOf (e + 1) N a1 σ _ _ _ hb ?_)
    show Wp (WpD (e + 4)) hcX12_goesOn Q (18, [some (.inr (.inr (12, 0))), some (.inl a1), some (.inl a2), none, none, none, none, none], [.inl q1.1, .inr (.inl (-1000000 : Int64))]) q1.2
    refine Wp.run (WpD.mono _) 4 (q := ((24, [some (.inr (.inr (12, 0))), some (.inl a1), some (.inl a2), some (.inr (.inl ((-1000000 : Int64) * q1.1.toInt64))), none, some (.inl (0 : Int32)), none, none], []), q1.2)) rfl ?_
    exact Wp.jump (WpD.mono _) rfl ((T_X12_goesOn_b24 e N g0 g1 hg0 hg1 r τ Q hQ  N) a1 a2 ((-1000000 : Int64) * q1.1.toInt64) (0 : Int32) q1.2 h)
  · have h := (if_neg hc).symm.trans h
    refine Wp.run (WpD.mono _) 0 (q := ((9, [some (.inr (.inr (12, 0))), some (.inl a1), some (.inl a2), none, none, none, none, none], [.inr (.inl (0 : Int64))]), σ)) rfl ?_
    cases h
    exact Wp.ret (WpD.mono _) rfl hQ

set_option maxRecDepth 100000 in
set_option maxHeartbeats 4000000 in
theorem TB_X12_valueOf (e N : Nat) (g0 : Int32 → Int32 → Mem → Option (Int64 × Mem)) (g1 : Int32 → Int32 → Mem → Option (Int64 × Mem)) (hg0 : ∀ (a1 : Int32) (a2 : Int32) (σ : Mem) (r : Int64) (τ : Mem) (Q : Pst), g0 a1 a2 σ = some (r, τ) → Q (some (.inr (.inl r))) τ → WpD (e + 4) mX12_goesOn [.inr (.inr (12, 0)), .inl a1, .inl a2] σ Q) (hg1 : ∀ (a1 : Int32) (a2 : Int32) (σ : Mem) (r : Int64) (τ : Mem) (Q : Pst), g1 a1 a2 σ = some (r, τ) → Q (some (.inr (.inl r))) τ → WpD (e + 4) mX12_valueOf [.inr (.inr (12, 0)), .inl a1, .inl a2] σ Q) (a1 : Int32) (a2 : Int32) (σ : Mem) (r : Int64) (τ : Mem) (Q : Pst) (h : B_X12_valueOf N g0 g1 a1 a2 σ = some (r, τ)) (hQ : Q (some (.inr (.inl r))) τ) : WpD (e + 1 + 4) mX12_valueOf [.inr (.inr (12, 0)), .inl a1, .inl a2] σ Q := by
  refine WpD.of (d := e + 4) (Nat.le_of_ble_eq_true rfl) (Nat.le_of_ble_eq_true rfl) ?_
  show Wp (WpD (e + 4)) hcX12_valueOf Q (0, [some (.inr (.inr (12, 0))), some (.inl a1), some (.inl a2), none, none], []) σ
  unfold B_X12_valueOf at h
  refine Wp.run (WpD.mono _) 2 (q := ((3, [some (.inr (.inr (12, 0))), some (.inl a1), some (.inl a2), none, none], [.inl a2, .inl a1, .inr (.inr (12, 0))]), σ)) rfl ?_
  obtain ⟨q1, hb, h⟩ := bind_some h
  refine Wp.call (WpD.mono _) rfl (hg0 a1 a2 σ _ _ _ hb ?_)
  show Wp (WpD (e + 4)) hcX12_valueOf Q (6, [some (.inr (.inr (12, 0))), some (.inl a1), some (.inl a2), none, none], [.inr (.inl q1.1)]) q1.2
  refine Wp.br (WpD.mono _) 4 (c := 0 ≤ (lg_cmp q1.1 (0 : Int64))) (q1 := ((17, [some (.inr (.inr (12, 0))), some (.inl a1), some (.inl a2), some (.inr (.inl q1.1)), none], []), q1.2)) (q2 := ((13, [some (.inr (.inr (12, 0))), some (.inl a1), some (.inl a2), some (.inr (.inl q1.1)), none], []), q1.2)) rfl (fun hc => ?_) (fun hc => ?_)
  · have h := (if_pos hc).symm.trans h
    refine Wp.run (WpD.mono _) 0 (q := ((18, [some (.inr (.inr (12, 0))), some (.inl a1), some (.inl a2), some (.inr (.inl q1.1)), none], [.inr (.inl q1.1)]), q1.2)) rfl ?_
    cases h
    exact Wp.ret (WpD.mono _) rfl hQ
  · have h := (if_neg hc).symm.trans h
    refine Wp.run (WpD.mono _) 1 (q := ((18, [some (.inr (.inr (12, 0))), some (.inl a1), some (.inl a2), some (.inr (.inl q1.1)), none], [.inr (.inl (0 : Int64))]), q1.2)) rfl ?_
    cases h
    exact Wp.ret (WpD.mono _) rfl hQ

set_option maxRecDepth 100000 in
theorem TG_X12_goesOn (e N : Nat) : ∀ d : Nat, (∀ (a1 : Int32) (a2 : Int32) (σ : Mem) (r : Int64) (τ : Mem) (Q : Pst), (G_X12_goesOn N d).1 a1 a2 σ = some (r, τ) → Q (some (.inr (.inl r))) τ → WpD (e + d + 4) mX12_goesOn [.inr (.inr (12, 0)), .inl a1, .inl a2] σ Q) ∧ (∀ (a1 : Int32) (a2 : Int32) (σ : Mem) (r : Int64) (τ : Mem) (Q : Pst), (G_X12_goesOn N d).2 a1 a2 σ = some (r, τ) → Q (some (.inr (.inl r))) τ → WpD (e + d + 4) mX12_valueOf [.inr (.inr (12, 0)), .inl a1, .inl a2] σ Q) := by
  intro d
  induction d with
  | zero =>
    exact ⟨fun _ _ _ _ _ _ h => nomatch h, fun _ _ _ _ _ _ h => nomatch h⟩
  | succ d ih =>
    exact ⟨fun a1 a2 σ r τ Q h hQ => TB_X12_goesOn (e + d) N (G_X12_goesOn N d).1 (G_X12_goesOn N d).2 ih.1 ih.2 a1 a2 σ r τ Q h hQ, fun a1 a2 σ r τ Q h hQ => TB_X12_valueOf (e + d) N (G_X12_goesOn N d).1 (G_X12_goesOn N d).2 ih.1 ih.2 a1 a2 σ r τ Q h hQ⟩

theorem T_X12_goesOn (e N : Nat) (a1 : Int32) (a2 : Int32) (σ : Mem) (r : Int64) (τ : Mem) (Q : Pst) (h : F_X12_goesOn N a1 a2 σ = some (r, τ)) (hQ : Q (some (.inr (.inl r))) τ) : WpD (e + 24) mX12_goesOn [.inr (.inr (12, 0)), .inl a1, .inl a2] σ Q := (TG_X12_goesOn e N 20).1 a1 a2 σ r τ Q h hQ
theorem T_X12_valueOf (e N : Nat) (a1 : Int32) (a2 : Int32) (σ : Mem) (r : Int64) (τ : Mem) (Q : Pst) (h : F_X12_valueOf N a1 a2 σ = some (r, τ)) (hQ : Q (some (.inr (.inl r))) τ) : WpD (e + 24) mX12_valueOf [.inr (.inr (12, 0)), .inl a1, .inl a2] σ Q := (TG_X12_goesOn e N 20).2 a1 a2 σ r τ Q h hQ
set_option maxRecDepth 100000 in
set_option maxHeartbeats 4000000 in
theorem T_X12_isPlace (e N : Nat)  (a1 : Int32) (σ : Mem) (r : Int32) (τ : Mem) (Q : Pst) (h : F_X12_isPlace N a1 σ = some (r, τ)) (hQ : Q (some (.inl r)) τ) : WpD (e + 2) mX12_isPlace [.inr (.inr (12, 0)), .inl a1] σ Q := by
  refine WpD.of (d := e + 1) (Nat.le_of_ble_eq_true rfl) (Nat.le_of_ble_eq_true rfl) ?_
  show Wp (WpD (e + 1)) hcX12_isPlace Q (0, [some (.inr (.inr (12, 0))), some (.inl a1)], []) σ
  unfold F_X12_isPlace at h
  refine Wp.run (WpD.mono _) 5 (q := ((8, [some (.inr (.inr (12, 0))), some (.inl a1)], [.inl ((σ.1 12 10) - (1 : Int32)), .inl (0 : Int32), .inl a1]), σ)) rfl ?_
  obtain ⟨q1, hb, h⟩ := bind_some h
  refine Wp.call (WpD.mono _) rfl (T_X12_in (e + 0) N a1 (0 : Int32) ((σ.1 12 10) - (1 : Int32)) σ _ _ _ hb ?_)
  show Wp (WpD (e + 1)) hcX12_isPlace Q (11, [some (.inr (.inr (12, 0))), some (.inl a1)], [.inl q1.1]) q1.2
  obtain ⟨hc, h⟩ := ite_yy h
  cases h
  exact Wp.retZ (WpD.mono _) rfl hc hQ

set_option maxRecDepth 100000 in
set_option maxHeartbeats 4000000 in
theorem T_X12_back (e N : Nat)  (a1 : Int32) (σ : Mem) (r : Int32) (τ : Mem) (Q : Pst) (h : F_X12_back N a1 σ = some (r, τ)) (hQ : Q (some (.inl r)) τ) : WpD (e + 25) mX12_back [.inr (.inr (12, 0)), .inl a1] σ Q := by
  refine WpD.of (d := e + 24) (Nat.le_of_ble_eq_true rfl) (Nat.le_of_ble_eq_true rfl) ?_
  show Wp (WpD (e + 24)) hcX12_back Q (0, [some (.inr (.inr (12, 0))), some (.inl a1)], []) σ
  unfold F_X12_back at h
  refine Wp.run (WpD.mono _) 1 (q := ((2, [some (.inr (.inr (12, 0))), some (.inl a1)], [.inl a1, .inr (.inr (12, 0))]), σ)) rfl ?_
  obtain ⟨q1, hb, h⟩ := bind_some h
  refine Wp.call (WpD.mono _) rfl (T_X12_isPlace (e + 22) N a1 σ _ _ _ hb ?_)
  show Wp (WpD (e + 24)) hcX12_back Q (5, [some (.inr (.inr (12, 0))), some (.inl a1)], [.inl q1.1]) q1.2
  refine Wp.br (WpD.mono _) 0 (c := q1.1 = 0) (q1 := ((8, [some (.inr (.inr (12, 0))), some (.inl a1)], []), q1.2)) (q2 := ((10, [some (.inr (.inr (12, 0))), some (.inl a1)], []), q1.2)) rfl (fun hc => ?_) (fun hc => ?_)
  · have h := (if_pos hc).symm.trans h
    refine Wp.run (WpD.mono _) 0 (q := ((9, [some (.inr (.inr (12, 0))), some (.inl a1)], [.inl (-1 : Int32)]), q1.2)) rfl ?_
    cases h
    exact Wp.ret (WpD.mono _) rfl hQ
  · have h := (if_neg hc).symm.trans h
    refine Wp.run (WpD.mono _) 1 (q := ((12, [some (.inr (.inr (12, 0))), some (.inl a1)], [.inl a1, .inr (.inr (12, 0))]), q1.2)) rfl ?_
    obtain ⟨q2, hb, h⟩ := bind_some h
    refine Wp.call (WpD.mono _) rfl (T_X12_goesHere (e + 18) N a1 q1.2 _ _ _ hb ?_)
    show Wp (WpD (e + 24)) hcX12_back Q (15, [some (.inr (.inr (12, 0))), some (.inl a1)], [.inl q2.1]) q2.2
    refine Wp.br (WpD.mono _) 0 (c := q2.1 = 0) (q1 := ((18, [some (.inr (.inr (12, 0))), some (.inl a1)], []), q2.2)) (q2 := ((23, [some (.inr (.inr (12, 0))), some (.inl a1)], []), q2.2)) rfl (fun hc => ?_) (fun hc => ?_)
    · have h := (if_pos hc).symm.trans h
      refine Wp.run (WpD.mono _) 1 (q := ((46, [some (.inr (.inr (12, 0))), some (.inl a1)], [.inl (-3 : Int32)]), q2.2)) rfl ?_
      cases h
      exact Wp.ret (WpD.mono _) rfl hQ
    · have h := (if_neg hc).symm.trans h
      obtain ⟨hc, h⟩ := ite_nn h
      refine Wp.no (WpD.mono _) 4 (c := hwOut a1 4) (q := ((30, [some (.inr (.inr (12, 0))), some (.inl a1)], [.inl (q2.2.2.2.1 77 0 (a1).toNatClampNeg), .inr (.inr (12, 0))]), q2.2)) rfl hc ?_
      refine Wp.run (WpD.mono _) 2 (q := ((33, [some (.inr (.inr (12, 0))), some (.inl a1)], [.inl (0 : Int32), .inl ((q2.2.2.2.1 77 0 (a1).toNatClampNeg) + (1 : Int32)), .inr (.inr (12, 0))]), q2.2)) rfl ?_
      obtain ⟨q3, hb, h⟩ := bind_some h
      refine Wp.call (WpD.mono _) rfl (T_X12_goesOn (e + 0) N ((q2.2.2.2.1 77 0 (a1).toNatClampNeg) + (1 : Int32)) (0 : Int32) q2.2 _ _ _ hb ?_)
      show Wp (WpD (e + 24)) hcX12_back Q (36, [some (.inr (.inr (12, 0))), some (.inl a1)], [.inr (.inl q3.1)]) q3.2
      refine Wp.br (WpD.mono _) 2 (c := (lg_cmp q3.1 (0 : Int64)) ≤ 0) (q1 := ((45, [some (.inr (.inr (12, 0))), some (.inl a1)], []), q3.2)) (q2 := ((41, [some (.inr (.inr (12, 0))), some (.inl a1)], []), q3.2)) rfl (fun hc => ?_) (fun hc => ?_)
      · have h := (if_pos hc).symm.trans h
        refine Wp.run (WpD.mono _) 0 (q := ((46, [some (.inr (.inr (12, 0))), some (.inl a1)], [.inl (0 : Int32)]), q3.2)) rfl ?_
        cases h
        exact Wp.ret (WpD.mono _) rfl hQ
      · have h := (if_neg hc).symm.trans h
        refine Wp.run (WpD.mono _) 1 (q := ((46, [some (.inr (.inr (12, 0))), some (.inl a1)], [.inl (1 : Int32)]), q3.2)) rfl ?_
        cases h
        exact Wp.ret (WpD.mono _) rfl hQ

set_option maxRecDepth 100000 in
set_option maxHeartbeats 4000000 in
theorem T_X12_wetOf_b5 (e N : Nat)   (r : Int64) (τ : Mem) (Q : Pst) (hQ : Q (some (.inr (.inl r))) τ) : ∀ n, ∀ (x1 : Int32) (x2 : Int32) (x3 : Int64) (x5 : Int32) (σ : Mem), F_X12_wetOf_b5 N n x1 x2 x3 x5 σ = some (r, τ) → Wp (WpD (e + 3)) hcX12_wetOf Q (5, [some (.inr (.inr (12, 0))), some (.inl x1), some (.inl x2), some (.inr (.inl x3)), none, some (.inl x5)], []) σ := by
  intro n
  induction n with
  | zero => intro x1 x2 x3 x5 σ h; cases h
  | succ n ih =>
    intro x1 x2 x3 x5 σ h
    unfold F_X12_wetOf_b5 at h
    refine Wp.br (WpD.mono _) 3 (c := (σ.1 12 5) ≤ x5) (q1 := ((47, [some (.inr (.inr (12, 0))), some (.inl x1), some (.inl x2), some (.inr (.inl x3)), none, some (.inl x5)], []), σ)) (q2 := ((14, [some (.inr (.inr (12, 0))), some (.inl x1), some (.inl x2), some (.inr (.inl x3)), none, some (.inl x5)], []), σ)) rfl (fun hc => ?_) (fun hc => ?_)
    · have h := (if_pos hc).symm.trans h
      refine Wp.run (WpD.mono _) 0 (q := ((48, [some (.inr (.inr (12, 0))), some (.inl x1), some (.inl x2), some (.inr (.inl x3)), none, some (.inl x5)], [.inr (.inl x3)]), σ)) rfl ?_
      cases h
      exact Wp.ret (WpD.mono _) rfl hQ
    · have h := (if_neg hc).symm.trans h
      obtain ⟨hc, h⟩ := ite_nn h
      refine Wp.no (WpD.mono _) 8 (c := hwOut (((5 : Int32) * x1) + x5) 40) (q := ((26, [some (.inr (.inr (12, 0))), some (.inl x1), some (.inl x2), some (.inr (.inl x3)), none, some (.inl x5)], [.inr (.inl (σ.2.2.2.1 102 0 ((((5 : Int32) * x1) + x5)).toNatClampNeg)), .inr (.inl x3)]), σ)) rfl hc ?_
      refine Wp.run (WpD.mono _) 2 (q := ((30, [some (.inr (.inr (12, 0))), some (.inl x1), some (.inl x2), some (.inr (.inl x3)), none, some (.inl x5)], [.inl x5, .inl x2, .inr (.inr (12, 0)), .inr (.inl (σ.2.2.2.1 102 0 ((((5 : Int32) * x1) + x5)).toNatClampNeg)), .inr (.inl x3)]), σ)) rfl ?_
      obtain ⟨q1, hb, h⟩ := bind_some h
      refine Wp.call (WpD.mono _) rfl (T_X12_waterOf (e + 0) N x2 x5 σ _ _ _ hb ?_)
      show Wp (WpD (e + 3)) hcX12_wetOf Q (33, [some (.inr (.inr (12, 0))), some (.inl x1), some (.inl x2), some (.inr (.inl x3)), none, some (.inl x5)], [.inl q1.1, .inr (.inl (σ.2.2.2.1 102 0 ((((5 : Int32) * x1) + x5)).toNatClampNeg)), .inr (.inl x3)]) q1.2
      refine Wp.run (WpD.mono _) 7 (q := ((5, [some (.inr (.inr (12, 0))), some (.inl x1), some (.inl x2), some (.inr (.inl (x3 + (((σ.2.2.2.1 102 0 ((((5 : Int32) * x1) + x5)).toNatClampNeg) * q1.1.toInt64) / (100 : Int64))))), none, some (.inl (x5 + (1 : Int32)))], []), q1.2)) rfl ?_
      exact Wp.jump (WpD.mono _) rfl (ih x1 x2 (x3 + (((σ.2.2.2.1 102 0 ((((5 : Int32) * x1) + x5)).toNatClampNeg) * q1.1.toInt64) / (100 : Int64))) (x5 + (1 : Int32)) q1.2 h)

set_option maxRecDepth 100000 in
set_option maxHeartbeats 4000000 in
theorem T_X12_wetOf (e N : Nat)  (a1 : Int32) (a2 : Int32) (σ : Mem) (r : Int64) (τ : Mem) (Q : Pst) (h : F_X12_wetOf N a1 a2 σ = some (r, τ)) (hQ : Q (some (.inr (.inl r))) τ) : WpD (e + 4) mX12_wetOf [.inr (.inr (12, 0)), .inl a1, .inl a2] σ Q := by
  refine WpD.of (d := e + 3) (Nat.le_of_ble_eq_true rfl) (Nat.le_of_ble_eq_true rfl) ?_
  show Wp (WpD (e + 3)) hcX12_wetOf Q (0, [some (.inr (.inr (12, 0))), some (.inl a1), some (.inl a2), none, none, none], []) σ
  unfold F_X12_wetOf at h
  refine Wp.run (WpD.mono _) 3 (q := ((5, [some (.inr (.inr (12, 0))), some (.inl a1), some (.inl a2), some (.inr (.inl (0 : Int64))), none, some (.inl (0 : Int32))], []), σ)) rfl ?_
  exact Wp.jump (WpD.mono _) rfl ((T_X12_wetOf_b5 e N  r τ Q hQ  N) a1 a2 (0 : Int64) (0 : Int32) σ h)

set_option maxRecDepth 100000 in
set_option maxHeartbeats 4000000 in
theorem T_X12_divines_b240 (e N : Nat)   (r : Int64) (τ : Mem) (Q : Pst) (hQ : Q (some (.inr (.inl r))) τ) : ∀ (x8 : Int64) (s0 : Int64) (s1 : Int64) (σ : Mem), F_X12_divines_b240 N x8 s0 s1 σ = some (r, τ) → Wp (WpD (e + 24)) hcX12_divines Q (240, [none, none, none, none, none, none, none, none, some (.inr (.inl x8)), none, none, none, none, none, none, none, none, none, none, none], [.inr (.inl s0), .inr (.inl s1)]) σ := by
  intro x8 s0 s1 σ h
  unfold F_X12_divines_b240 at h
  refine Wp.br (WpD.mono _) 4 (c := 0 ≤ (lg_cmp x8 (0 : Int64))) (q1 := ((252, [none, none, none, none, none, none, none, none, some (.inr (.inl x8)), none, none, none, none, none, none, none, none, none, none, none], [.inr (.inl (s1 + s0))]), σ)) (q2 := ((248, [none, none, none, none, none, none, none, none, some (.inr (.inl x8)), none, none, none, none, none, none, none, none, none, none, none], [.inr (.inl (s1 + s0))]), σ)) rfl (fun hc => ?_) (fun hc => ?_)
  · have h := (if_pos hc).symm.trans h
    refine Wp.run (WpD.mono _) 1 (q := ((255, [none, none, none, none, none, none, none, none, none, none, none, none, none, none, none, none, none, none, none, none], [.inr (.inl ((s1 + s0) - x8))]), σ)) rfl ?_
    cases h
    exact Wp.ret (WpD.mono _) rfl hQ
  · have h := (if_neg hc).symm.trans h
    refine Wp.run (WpD.mono _) 2 (q := ((255, [none, none, none, none, none, none, none, none, none, none, none, none, none, none, none, none, none, none, none, none], [.inr (.inl ((s1 + s0) - (0 : Int64)))]), σ)) rfl ?_
    cases h
    exact Wp.ret (WpD.mono _) rfl hQ

set_option maxRecDepth 100000 in
set_option maxHeartbeats 4000000 in
theorem T_X12_divines_b227 (e N : Nat)   (r : Int64) (τ : Mem) (Q : Pst) (hQ : Q (some (.inr (.inl r))) τ) : ∀ (x8 : Int64) (x18 : Int64) (s0 : Int64) (σ : Mem), F_X12_divines_b227 N x8 x18 s0 σ = some (r, τ) → Wp (WpD (e + 24)) hcX12_divines Q (227, [none, none, none, none, none, none, none, none, some (.inr (.inl x8)), none, none, none, none, none, none, none, none, none, some (.inr (.inl x18)), none], [.inr (.inl s0)]) σ := by
  intro x8 x18 s0 σ h
  unfold F_X12_divines_b227 at h
  refine Wp.br (WpD.mono _) 3 (c := 0 ≤ (lg_cmp x18 (0 : Int64))) (q1 := ((238, [none, none, none, none, none, none, none, none, some (.inr (.inl x8)), none, none, none, none, none, none, none, none, none, some (.inr (.inl x18)), none], [.inr (.inl s0)]), σ)) (q2 := ((234, [none, none, none, none, none, none, none, none, some (.inr (.inl x8)), none, none, none, none, none, none, none, none, none, some (.inr (.inl x18)), none], [.inr (.inl s0)]), σ)) rfl (fun hc => ?_) (fun hc => ?_)
  · have h := (if_pos hc).symm.trans h
    refine Wp.run (WpD.mono _) 0 (q := ((240, [none, none, none, none, none, none, none, none, some (.inr (.inl x8)), none, none, none, none, none, none, none, none, none, some (.inr (.inl x18)), none], [.inr (.inl x18), .inr (.inl s0)]), σ)) rfl ?_
    exact Wp.jump (WpD.mono _) rfl ((T_X12_divines_b240 e N  r τ Q hQ ) x8 x18 s0 σ h)
  · have h := (if_neg hc).symm.trans h
    refine Wp.run (WpD.mono _) 1 (q := ((240, [none, none, none, none, none, none, none, none, some (.inr (.inl x8)), none, none, none, none, none, none, none, none, none, some (.inr (.inl x18)), none], [.inr (.inl (0 : Int64)), .inr (.inl s0)]), σ)) rfl ?_
    exact Wp.jump (WpD.mono _) rfl ((T_X12_divines_b240 e N  r τ Q hQ ) x8 (0 : Int64) s0 σ h)

set_option maxRecDepth 100000 in
set_option maxHeartbeats 4000000 in
theorem T_X12_divines_b25 (e N : Nat)   (r : Int64) (τ : Mem) (Q : Pst) (hQ : Q (some (.inr (.inl r))) τ) : ∀ n, ∀ (x2 : Int32) (x3 : Int32) (x4 : Int64) (x6 : Int32) (σ : Mem), F_X12_divines_b25 N n x2 x3 x4 x6 σ = some (r, τ) → Wp (WpD (e + 24)) hcX12_divines Q (25, [some (.inr (.inr (12, 0))), none, some (.inl x2), some (.inl x3), some (.inr (.inl x4)), none, some (.inl x6), none, none, none, none, none, none, none, none, none, none, none, none, none], []) σ := by
  intro n
  induction n with
  | zero => intro x2 x3 x4 x6 σ h; cases h
  | succ n ih =>
    intro x2 x3 x4 x6 σ h
    unfold F_X12_divines_b25 at h
    refine Wp.br (WpD.mono _) 3 (c := (σ.1 12 5) ≤ x6) (q1 := ((72, [some (.inr (.inr (12, 0))), none, some (.inl x2), some (.inl x3), some (.inr (.inl x4)), none, some (.inl x6), none, none, none, none, none, none, none, none, none, none, none, none, none], []), σ)) (q2 := ((34, [some (.inr (.inr (12, 0))), none, some (.inl x2), some (.inl x3), some (.inr (.inl x4)), none, some (.inl x6), none, none, none, none, none, none, none, none, none, none, none, none, none], []), σ)) rfl (fun hc => ?_) (fun hc => ?_)
    · have h := (if_pos hc).symm.trans h
      refine Wp.run (WpD.mono _) 2 (q := ((77, [some (.inr (.inr (12, 0))), none, some (.inl x2), some (.inl x3), some (.inr (.inl x4)), none, some (.inl x6), none, none, none, none, none, none, none, none, none, none, none, none, none], [.inl x3, .inr (.inr (12, 0)), .inr (.inl (1000000 : Int64))]), σ)) rfl ?_
      obtain ⟨q1, hb, h⟩ := bind_some h
      refine Wp.call (WpD.mono _) rfl (T_X12_costOf (e + 21) N x3 σ _ _ _ hb ?_)
      show Wp (WpD (e + 24)) hcX12_divines Q (80, [some (.inr (.inr (12, 0))), none, some (.inl x2), some (.inl x3), some (.inr (.inl x4)), none, some (.inl x6), none, none, none, none, none, none, none, none, none, none, none, none, none], [.inl q1.1, .inr (.inl (1000000 : Int64))]) q1.2
      refine Wp.run (WpD.mono _) 5 (q := ((87, [some (.inr (.inr (12, 0))), none, some (.inl x2), some (.inl x3), some (.inr (.inl x4)), none, some (.inr (.inl ((1000000 : Int64) * q1.1.toInt64))), none, none, none, none, none, none, none, none, none, none, none, none, none], [.inl (0 : Int32), .inl x3, .inr (.inr (12, 0))]), q1.2)) rfl ?_
      obtain ⟨q2, hb, h⟩ := bind_some h
      refine Wp.call (WpD.mono _) rfl (T_X12_goesOn (e + 0) N x3 (0 : Int32) q1.2 _ _ _ hb ?_)
      show Wp (WpD (e + 24)) hcX12_divines Q (90, [some (.inr (.inr (12, 0))), none, some (.inl x2), some (.inl x3), some (.inr (.inl x4)), none, some (.inr (.inl ((1000000 : Int64) * q1.1.toInt64))), none, none, none, none, none, none, none, none, none, none, none, none, none], [.inr (.inl q2.1)]) q2.2
      refine Wp.run (WpD.mono _) 9 (q := ((105, [some (.inr (.inr (12, 0))), none, some (.inl x2), some (.inl x3), some (.inr (.inl x4)), none, some (.inr (.inl ((1000000 : Int64) * q1.1.toInt64))), none, some (.inr (.inl q2.1)), none, some (.inr (.inl ((q2.1 - x4) + ((1000000 : Int64) * q1.1.toInt64)))), none, none, none, none, none, none, none, none, none], [.inl x3, .inl (0 : Int32), .inr (.inr (12, 0))]), q2.2)) rfl ?_
      obtain ⟨q3, hb, h⟩ := bind_some h
      refine Wp.call (WpD.mono _) rfl (T_X12_wetOf (e + 20) N (0 : Int32) x3 q2.2 _ _ _ hb ?_)
      show Wp (WpD (e + 24)) hcX12_divines Q (108, [some (.inr (.inr (12, 0))), none, some (.inl x2), some (.inl x3), some (.inr (.inl x4)), none, some (.inr (.inl ((1000000 : Int64) * q1.1.toInt64))), none, some (.inr (.inl q2.1)), none, some (.inr (.inl ((q2.1 - x4) + ((1000000 : Int64) * q1.1.toInt64)))), none, none, none, none, none, none, none, none, none], [.inr (.inl q3.1)]) q3.2
      refine Wp.br (WpD.mono _) 69 (c := 0 ≤ (lg_cmp ((((x4 * x2.toInt64) / (100 : Int64)) + ((((q2.1 - x4) + ((1000000 : Int64) * q1.1.toInt64)) * ((100 : Int64) - x2.toInt64)) / (100 : Int64))) - (((((1000000 : Int64) * q1.1.toInt64) * ((q3.1 * x2.toInt64) + (((1000000 : Int64) - q3.1) * ((100 : Int64) - x2.toInt64)))) / (100 : Int64)) / (1000000 : Int64))) (0 : Int64))) (q1 := ((225, [some (.inr (.inr (12, 0))), none, some (.inl x2), some (.inl x3), some (.inr (.inl x4)), none, some (.inr (.inl ((1000000 : Int64) * q1.1.toInt64))), none, some (.inr (.inl q2.1)), none, some (.inr (.inl ((q2.1 - x4) + ((1000000 : Int64) * q1.1.toInt64)))), none, some (.inr (.inl q3.1)), none, some (.inr (.inl ((100 : Int64) - x2.toInt64))), none, some (.inr (.inl ((((x4 * x2.toInt64) / (100 : Int64)) + ((((q2.1 - x4) + ((1000000 : Int64) * q1.1.toInt64)) * ((100 : Int64) - x2.toInt64)) / (100 : Int64))) - (((((1000000 : Int64) * q1.1.toInt64) * ((q3.1 * x2.toInt64) + (((1000000 : Int64) - q3.1) * ((100 : Int64) - x2.toInt64)))) / (100 : Int64)) / (1000000 : Int64))))), none, some (.inr (.inl ((((x4 * ((100 : Int64) - x2.toInt64)) / (100 : Int64)) + ((((q2.1 - x4) + ((1000000 : Int64) * q1.1.toInt64)) * x2.toInt64) / (100 : Int64))) - (((((1000000 : Int64) * q1.1.toInt64) * ((q3.1 * ((100 : Int64) - x2.toInt64)) + (((1000000 : Int64) - q3.1) * x2.toInt64))) / (100 : Int64)) / (1000000 : Int64))))), none], []), q3.2)) (q2 := ((221, [some (.inr (.inr (12, 0))), none, some (.inl x2), some (.inl x3), some (.inr (.inl x4)), none, some (.inr (.inl ((1000000 : Int64) * q1.1.toInt64))), none, some (.inr (.inl q2.1)), none, some (.inr (.inl ((q2.1 - x4) + ((1000000 : Int64) * q1.1.toInt64)))), none, some (.inr (.inl q3.1)), none, some (.inr (.inl ((100 : Int64) - x2.toInt64))), none, some (.inr (.inl ((((x4 * x2.toInt64) / (100 : Int64)) + ((((q2.1 - x4) + ((1000000 : Int64) * q1.1.toInt64)) * ((100 : Int64) - x2.toInt64)) / (100 : Int64))) - (((((1000000 : Int64) * q1.1.toInt64) * ((q3.1 * x2.toInt64) + (((1000000 : Int64) - q3.1) * ((100 : Int64) - x2.toInt64)))) / (100 : Int64)) / (1000000 : Int64))))), none, some (.inr (.inl ((((x4 * ((100 : Int64) - x2.toInt64)) / (100 : Int64)) + ((((q2.1 - x4) + ((1000000 : Int64) * q1.1.toInt64)) * x2.toInt64) / (100 : Int64))) - (((((1000000 : Int64) * q1.1.toInt64) * ((q3.1 * ((100 : Int64) - x2.toInt64)) + (((1000000 : Int64) - q3.1) * x2.toInt64))) / (100 : Int64)) / (1000000 : Int64))))), none], []), q3.2)) rfl (fun hc => ?_) (fun hc => ?_)
      · have h := (if_pos hc).symm.trans h
        refine Wp.run (WpD.mono _) 0 (q := ((227, [some (.inr (.inr (12, 0))), none, some (.inl x2), some (.inl x3), some (.inr (.inl x4)), none, some (.inr (.inl ((1000000 : Int64) * q1.1.toInt64))), none, some (.inr (.inl q2.1)), none, some (.inr (.inl ((q2.1 - x4) + ((1000000 : Int64) * q1.1.toInt64)))), none, some (.inr (.inl q3.1)), none, some (.inr (.inl ((100 : Int64) - x2.toInt64))), none, some (.inr (.inl ((((x4 * x2.toInt64) / (100 : Int64)) + ((((q2.1 - x4) + ((1000000 : Int64) * q1.1.toInt64)) * ((100 : Int64) - x2.toInt64)) / (100 : Int64))) - (((((1000000 : Int64) * q1.1.toInt64) * ((q3.1 * x2.toInt64) + (((1000000 : Int64) - q3.1) * ((100 : Int64) - x2.toInt64)))) / (100 : Int64)) / (1000000 : Int64))))), none, some (.inr (.inl ((((x4 * ((100 : Int64) - x2.toInt64)) / (100 : Int64)) + ((((q2.1 - x4) + ((1000000 : Int64) * q1.1.toInt64)) * x2.toInt64) / (100 : Int64))) - (((((1000000 : Int64) * q1.1.toInt64) * ((q3.1 * ((100 : Int64) - x2.toInt64)) + (((1000000 : Int64) - q3.1) * x2.toInt64))) / (100 : Int64)) / (1000000 : Int64))))), none], [.inr (.inl ((((x4 * x2.toInt64) / (100 : Int64)) + ((((q2.1 - x4) + ((1000000 : Int64) * q1.1.toInt64)) * ((100 : Int64) - x2.toInt64)) / (100 : Int64))) - (((((1000000 : Int64) * q1.1.toInt64) * ((q3.1 * x2.toInt64) + (((1000000 : Int64) - q3.1) * ((100 : Int64) - x2.toInt64)))) / (100 : Int64)) / (1000000 : Int64))))]), q3.2)) rfl ?_
        exact Wp.jump (WpD.mono _) rfl ((T_X12_divines_b227 e N  r τ Q hQ ) q2.1 ((((x4 * ((100 : Int64) - x2.toInt64)) / (100 : Int64)) + ((((q2.1 - x4) + ((1000000 : Int64) * q1.1.toInt64)) * x2.toInt64) / (100 : Int64))) - (((((1000000 : Int64) * q1.1.toInt64) * ((q3.1 * ((100 : Int64) - x2.toInt64)) + (((1000000 : Int64) - q3.1) * x2.toInt64))) / (100 : Int64)) / (1000000 : Int64))) ((((x4 * x2.toInt64) / (100 : Int64)) + ((((q2.1 - x4) + ((1000000 : Int64) * q1.1.toInt64)) * ((100 : Int64) - x2.toInt64)) / (100 : Int64))) - (((((1000000 : Int64) * q1.1.toInt64) * ((q3.1 * x2.toInt64) + (((1000000 : Int64) - q3.1) * ((100 : Int64) - x2.toInt64)))) / (100 : Int64)) / (1000000 : Int64))) q3.2 h)
      · have h := (if_neg hc).symm.trans h
        refine Wp.run (WpD.mono _) 1 (q := ((227, [some (.inr (.inr (12, 0))), none, some (.inl x2), some (.inl x3), some (.inr (.inl x4)), none, some (.inr (.inl ((1000000 : Int64) * q1.1.toInt64))), none, some (.inr (.inl q2.1)), none, some (.inr (.inl ((q2.1 - x4) + ((1000000 : Int64) * q1.1.toInt64)))), none, some (.inr (.inl q3.1)), none, some (.inr (.inl ((100 : Int64) - x2.toInt64))), none, some (.inr (.inl ((((x4 * x2.toInt64) / (100 : Int64)) + ((((q2.1 - x4) + ((1000000 : Int64) * q1.1.toInt64)) * ((100 : Int64) - x2.toInt64)) / (100 : Int64))) - (((((1000000 : Int64) * q1.1.toInt64) * ((q3.1 * x2.toInt64) + (((1000000 : Int64) - q3.1) * ((100 : Int64) - x2.toInt64)))) / (100 : Int64)) / (1000000 : Int64))))), none, some (.inr (.inl ((((x4 * ((100 : Int64) - x2.toInt64)) / (100 : Int64)) + ((((q2.1 - x4) + ((1000000 : Int64) * q1.1.toInt64)) * x2.toInt64) / (100 : Int64))) - (((((1000000 : Int64) * q1.1.toInt64) * ((q3.1 * ((100 : Int64) - x2.toInt64)) + (((1000000 : Int64) - q3.1) * x2.toInt64))) / (100 : Int64)) / (1000000 : Int64))))), none], [.inr (.inl (0 : Int64))]), q3.2)) rfl ?_
        exact Wp.jump (WpD.mono _) rfl ((T_X12_divines_b227 e N  r τ Q hQ ) q2.1 ((((x4 * ((100 : Int64) - x2.toInt64)) / (100 : Int64)) + ((((q2.1 - x4) + ((1000000 : Int64) * q1.1.toInt64)) * x2.toInt64) / (100 : Int64))) - (((((1000000 : Int64) * q1.1.toInt64) * ((q3.1 * ((100 : Int64) - x2.toInt64)) + (((1000000 : Int64) - q3.1) * x2.toInt64))) / (100 : Int64)) / (1000000 : Int64))) (0 : Int64) q3.2 h)
    · have h := (if_neg hc).symm.trans h
      obtain ⟨hc, h⟩ := ite_nn h
      refine Wp.no (WpD.mono _) 4 (c := hwOut x6 40) (q := ((43, [some (.inr (.inr (12, 0))), none, some (.inl x2), some (.inl x3), some (.inr (.inl x4)), none, some (.inl x6), none, none, none, none, none, none, none, none, none, none, none, none, none], [.inr (.inl (σ.2.2.2.1 102 0 (x6).toNatClampNeg)), .inr (.inl x4)]), σ)) rfl hc ?_
      refine Wp.run (WpD.mono _) 2 (q := ((47, [some (.inr (.inr (12, 0))), none, some (.inl x2), some (.inl x3), some (.inr (.inl x4)), none, some (.inl x6), none, none, none, none, none, none, none, none, none, none, none, none, none], [.inl x6, .inl x3, .inr (.inr (12, 0)), .inr (.inl (σ.2.2.2.1 102 0 (x6).toNatClampNeg)), .inr (.inl x4)]), σ)) rfl ?_
      obtain ⟨q4, hb, h⟩ := bind_some h
      refine Wp.call (WpD.mono _) rfl (T_X12_waterOf (e + 21) N x3 x6 σ _ _ _ hb ?_)
      show Wp (WpD (e + 24)) hcX12_divines Q (50, [some (.inr (.inr (12, 0))), none, some (.inl x2), some (.inl x3), some (.inr (.inl x4)), none, some (.inl x6), none, none, none, none, none, none, none, none, none, none, none, none, none], [.inl q4.1, .inr (.inl (σ.2.2.2.1 102 0 (x6).toNatClampNeg)), .inr (.inl x4)]) q4.2
      refine Wp.run (WpD.mono _) 5 (q := ((59, [some (.inr (.inr (12, 0))), none, some (.inl x2), some (.inl x3), some (.inr (.inl x4)), none, some (.inl x6), none, none, none, none, none, none, none, none, none, none, none, none, none], [.inl x6, .inr (.inr (12, 0)), .inr (.inl (((σ.2.2.2.1 102 0 (x6).toNatClampNeg) * q4.1.toInt64) / (100 : Int64))), .inr (.inl x4)]), q4.2)) rfl ?_
      obtain ⟨q5, hb, h⟩ := bind_some h
      refine Wp.call (WpD.mono _) rfl (T_X12_worthOf (e + 23) N x6 q4.2 _ _ _ hb ?_)
      show Wp (WpD (e + 24)) hcX12_divines Q (62, [some (.inr (.inr (12, 0))), none, some (.inl x2), some (.inl x3), some (.inr (.inl x4)), none, some (.inl x6), none, none, none, none, none, none, none, none, none, none, none, none, none], [.inr (.inl q5.1), .inr (.inl (((σ.2.2.2.1 102 0 (x6).toNatClampNeg) * q4.1.toInt64) / (100 : Int64))), .inr (.inl x4)]) q5.2
      refine Wp.run (WpD.mono _) 4 (q := ((25, [some (.inr (.inr (12, 0))), none, some (.inl x2), some (.inl x3), some (.inr (.inl (x4 + ((((σ.2.2.2.1 102 0 (x6).toNatClampNeg) * q4.1.toInt64) / (100 : Int64)) * q5.1)))), none, some (.inl (x6 + (1 : Int32))), none, none, none, none, none, none, none, none, none, none, none, none, none], []), q5.2)) rfl ?_
      exact Wp.jump (WpD.mono _) rfl (ih x2 x3 (x4 + ((((σ.2.2.2.1 102 0 (x6).toNatClampNeg) * q4.1.toInt64) / (100 : Int64)) * q5.1)) (x6 + (1 : Int32)) q5.2 h)

set_option maxRecDepth 100000 in
set_option maxHeartbeats 4000000 in
theorem T_X12_divines (e N : Nat)  (a1 : Int32) (a2 : Int32) (σ : Mem) (r : Int64) (τ : Mem) (Q : Pst) (h : F_X12_divines N a1 a2 σ = some (r, τ)) (hQ : Q (some (.inr (.inl r))) τ) : WpD (e + 25) mX12_divines [.inr (.inr (12, 0)), .inl a1, .inl a2] σ Q := by
  refine WpD.of (d := e + 24) (Nat.le_of_ble_eq_true rfl) (Nat.le_of_ble_eq_true rfl) ?_
  show Wp (WpD (e + 24)) hcX12_divines Q (0, [some (.inr (.inr (12, 0))), some (.inl a1), some (.inl a2), none, none, none, none, none, none, none, none, none, none, none, none, none, none, none, none, none], []) σ
  unfold F_X12_divines at h
  obtain ⟨hc, h⟩ := ite_nn h
  refine Wp.no (WpD.mono _) 3 (c := hwOut a1 4) (q := ((6, [some (.inr (.inr (12, 0))), some (.inl a1), some (.inl a2), none, none, none, none, none, none, none, none, none, none, none, none, none, none, none, none, none], [.inl (σ.2.2.1 77 0 (a1).toNatClampNeg)]), σ)) rfl hc ?_
  refine Wp.br (WpD.mono _) 6 (c := ((σ.2.2.1 77 0 (a1).toNatClampNeg) + (1 : Int32)) ≤ (σ.1 12 0)) (q1 := ((19, [some (.inr (.inr (12, 0))), some (.inl a1), some (.inl a2), some (.inl ((σ.2.2.1 77 0 (a1).toNatClampNeg) + (1 : Int32))), none, none, none, none, none, none, none, none, none, none, none, none, none, none, none, none], []), σ)) (q2 := ((17, [some (.inr (.inr (12, 0))), some (.inl a1), some (.inl a2), some (.inl ((σ.2.2.1 77 0 (a1).toNatClampNeg) + (1 : Int32))), none, none, none, none, none, none, none, none, none, none, none, none, none, none, none, none], []), σ)) rfl (fun hc => ?_) (fun hc => ?_)
  · have h := (if_pos hc).symm.trans h
    refine Wp.run (WpD.mono _) 3 (q := ((25, [some (.inr (.inr (12, 0))), some (.inl a1), some (.inl a2), some (.inl ((σ.2.2.1 77 0 (a1).toNatClampNeg) + (1 : Int32))), some (.inr (.inl (0 : Int64))), none, some (.inl (0 : Int32)), none, none, none, none, none, none, none, none, none, none, none, none, none], []), σ)) rfl ?_
    exact Wp.jump (WpD.mono _) rfl ((T_X12_divines_b25 e N  r τ Q hQ  N) a2 ((σ.2.2.1 77 0 (a1).toNatClampNeg) + (1 : Int32)) (0 : Int64) (0 : Int32) σ h)
  · have h := (if_neg hc).symm.trans h
    refine Wp.run (WpD.mono _) 0 (q := ((18, [some (.inr (.inr (12, 0))), some (.inl a1), some (.inl a2), some (.inl ((σ.2.2.1 77 0 (a1).toNatClampNeg) + (1 : Int32))), none, none, none, none, none, none, none, none, none, none, none, none, none, none, none, none], [.inr (.inl (0 : Int64))]), σ)) rfl ?_
    cases h
    exact Wp.ret (WpD.mono _) rfl hQ

set_option maxRecDepth 100000 in
set_option maxHeartbeats 4000000 in
theorem T_X12_believe_b25 (e N : Nat)   (r : Int32) (τ : Mem) (Q : Pst) (hQ : Q (some (.inl r)) τ) : ∀ n, ∀ (x1 : Int32) (x2 : Int32) (σ : Mem), F_X12_believe_b25 N n x1 x2 σ = some (r, τ) → Wp (WpD (e + 25)) hcX12_believe Q (25, [some (.inr (.inr (12, 0))), some (.inl x1), some (.inl x2)], []) σ := by
  intro n
  induction n with
  | zero => intro x1 x2 σ h; cases h
  | succ n ih =>
    intro x1 x2 σ h
    unfold F_X12_believe_b25 at h
    refine Wp.br (WpD.mono _) 2 (c := (100 : Int32) < x2) (q1 := ((50, [some (.inr (.inr (12, 0))), some (.inl x1), some (.inl x2)], []), σ)) (q2 := ((31, [some (.inr (.inr (12, 0))), some (.inl x1), some (.inl x2)], []), σ)) rfl (fun hc => ?_) (fun hc => ?_)
    · have h := (if_pos hc).symm.trans h
      refine Wp.run (WpD.mono _) 0 (q := ((51, [some (.inr (.inr (12, 0))), some (.inl x1), some (.inl x2)], [.inl (-1 : Int32)]), σ)) rfl ?_
      cases h
      exact Wp.ret (WpD.mono _) rfl hQ
    · have h := (if_neg hc).symm.trans h
      refine Wp.run (WpD.mono _) 2 (q := ((34, [some (.inr (.inr (12, 0))), some (.inl x1), some (.inl x2)], [.inl x2, .inl x1, .inr (.inr (12, 0))]), σ)) rfl ?_
      obtain ⟨q3, hb, h⟩ := bind_some h
      refine Wp.call (WpD.mono _) rfl (T_X12_divines (e + 0) N x1 x2 σ _ _ _ hb ?_)
      show Wp (WpD (e + 25)) hcX12_believe Q (37, [some (.inr (.inr (12, 0))), some (.inl x1), some (.inl x2)], [.inr (.inl q3.1)]) q3.2
      refine Wp.br (WpD.mono _) 2 (c := (lg_cmp q3.1 (0 : Int64)) ≤ 0) (q1 := ((44, [some (.inr (.inr (12, 0))), some (.inl x1), some (.inl x2)], []), q3.2)) (q2 := ((42, [some (.inr (.inr (12, 0))), some (.inl x1), some (.inl x2)], []), q3.2)) rfl (fun hc => ?_) (fun hc => ?_)
      · have h := (if_pos hc).symm.trans h
        refine Wp.run (WpD.mono _) 1 (q := ((25, [some (.inr (.inr (12, 0))), some (.inl x1), some (.inl (x2 + (1 : Int32)))], []), q3.2)) rfl ?_
        exact Wp.jump (WpD.mono _) rfl (ih x1 (x2 + (1 : Int32)) q3.2 h)
      · have h := (if_neg hc).symm.trans h
        refine Wp.run (WpD.mono _) 0 (q := ((43, [some (.inr (.inr (12, 0))), some (.inl x1), some (.inl x2)], [.inl x2]), q3.2)) rfl ?_
        cases h
        exact Wp.ret (WpD.mono _) rfl hQ

set_option maxRecDepth 100000 in
set_option maxHeartbeats 4000000 in
theorem T_X12_believe (e N : Nat)  (a1 : Int32) (σ : Mem) (r : Int32) (τ : Mem) (Q : Pst) (h : F_X12_believe N a1 σ = some (r, τ)) (hQ : Q (some (.inl r)) τ) : WpD (e + 26) mX12_believe [.inr (.inr (12, 0)), .inl a1] σ Q := by
  refine WpD.of (d := e + 25) (Nat.le_of_ble_eq_true rfl) (Nat.le_of_ble_eq_true rfl) ?_
  show Wp (WpD (e + 25)) hcX12_believe Q (0, [some (.inr (.inr (12, 0))), some (.inl a1), none], []) σ
  unfold F_X12_believe at h
  refine Wp.run (WpD.mono _) 1 (q := ((2, [some (.inr (.inr (12, 0))), some (.inl a1), none], [.inl a1, .inr (.inr (12, 0))]), σ)) rfl ?_
  obtain ⟨q1, hb, h⟩ := bind_some h
  refine Wp.call (WpD.mono _) rfl (T_X12_isPlace (e + 23) N a1 σ _ _ _ hb ?_)
  show Wp (WpD (e + 25)) hcX12_believe Q (5, [some (.inr (.inr (12, 0))), some (.inl a1), none], [.inl q1.1]) q1.2
  refine Wp.br (WpD.mono _) 0 (c := q1.1 = 0) (q1 := ((8, [some (.inr (.inr (12, 0))), some (.inl a1), none], []), q1.2)) (q2 := ((11, [some (.inr (.inr (12, 0))), some (.inl a1), none], []), q1.2)) rfl (fun hc => ?_) (fun hc => ?_)
  · have h := (if_pos hc).symm.trans h
    refine Wp.run (WpD.mono _) 0 (q := ((10, [some (.inr (.inr (12, 0))), some (.inl a1), none], [.inl (-5 : Int32)]), q1.2)) rfl ?_
    cases h
    exact Wp.ret (WpD.mono _) rfl hQ
  · have h := (if_neg hc).symm.trans h
    refine Wp.run (WpD.mono _) 1 (q := ((13, [some (.inr (.inr (12, 0))), some (.inl a1), none], [.inl a1, .inr (.inr (12, 0))]), q1.2)) rfl ?_
    obtain ⟨q2, hb, h⟩ := bind_some h
    refine Wp.call (WpD.mono _) rfl (T_X12_goesHere (e + 19) N a1 q1.2 _ _ _ hb ?_)
    show Wp (WpD (e + 25)) hcX12_believe Q (16, [some (.inr (.inr (12, 0))), some (.inl a1), none], [.inl q2.1]) q2.2
    refine Wp.br (WpD.mono _) 0 (c := q2.1 = 0) (q1 := ((19, [some (.inr (.inr (12, 0))), some (.inl a1), none], []), q2.2)) (q2 := ((22, [some (.inr (.inr (12, 0))), some (.inl a1), none], []), q2.2)) rfl (fun hc => ?_) (fun hc => ?_)
    · have h := (if_pos hc).symm.trans h
      refine Wp.run (WpD.mono _) 0 (q := ((21, [some (.inr (.inr (12, 0))), some (.inl a1), none], [.inl (-3 : Int32)]), q2.2)) rfl ?_
      cases h
      exact Wp.ret (WpD.mono _) rfl hQ
    · have h := (if_neg hc).symm.trans h
      refine Wp.run (WpD.mono _) 1 (q := ((25, [some (.inr (.inr (12, 0))), some (.inl a1), some (.inl (50 : Int32))], []), q2.2)) rfl ?_
      exact Wp.jump (WpD.mono _) rfl ((T_X12_believe_b25 e N  r τ Q hQ  N) a1 (50 : Int32) q2.2 h)

set_option maxRecDepth 100000 in
set_option maxHeartbeats 4000000 in
theorem T_X12_best (e N : Nat)  (a1 : Int32) (σ : Mem) (r : Int64) (τ : Mem) (Q : Pst) (h : F_X12_best N a1 σ = some (r, τ)) (hQ : Q (some (.inr (.inl r))) τ) : WpD (e + 25) mX12_best [.inr (.inr (12, 0)), .inl a1] σ Q := by
  refine WpD.of (d := e + 24) (Nat.le_of_ble_eq_true rfl) (Nat.le_of_ble_eq_true rfl) ?_
  show Wp (WpD (e + 24)) hcX12_best Q (0, [some (.inr (.inr (12, 0))), some (.inl a1)], []) σ
  unfold F_X12_best at h
  refine Wp.run (WpD.mono _) 1 (q := ((2, [some (.inr (.inr (12, 0))), some (.inl a1)], [.inl a1, .inr (.inr (12, 0))]), σ)) rfl ?_
  obtain ⟨q1, hb, h⟩ := bind_some h
  refine Wp.call (WpD.mono _) rfl (T_X12_isPlace (e + 22) N a1 σ _ _ _ hb ?_)
  show Wp (WpD (e + 24)) hcX12_best Q (5, [some (.inr (.inr (12, 0))), some (.inl a1)], [.inl q1.1]) q1.2
  refine Wp.br (WpD.mono _) 0 (c := q1.1 = 0) (q1 := ((8, [some (.inr (.inr (12, 0))), some (.inl a1)], []), q1.2)) (q2 := ((12, [some (.inr (.inr (12, 0))), some (.inl a1)], []), q1.2)) rfl (fun hc => ?_) (fun hc => ?_)
  · have h := (if_pos hc).symm.trans h
    refine Wp.run (WpD.mono _) 0 (q := ((11, [some (.inr (.inr (12, 0))), some (.inl a1)], [.inr (.inl (-4611686018427387904 : Int64))]), q1.2)) rfl ?_
    cases h
    exact Wp.ret (WpD.mono _) rfl hQ
  · have h := (if_neg hc).symm.trans h
    refine Wp.run (WpD.mono _) 1 (q := ((14, [some (.inr (.inr (12, 0))), some (.inl a1)], [.inl a1, .inr (.inr (12, 0))]), q1.2)) rfl ?_
    obtain ⟨q2, hb, h⟩ := bind_some h
    refine Wp.call (WpD.mono _) rfl (T_X12_goesHere (e + 18) N a1 q1.2 _ _ _ hb ?_)
    show Wp (WpD (e + 24)) hcX12_best Q (17, [some (.inr (.inr (12, 0))), some (.inl a1)], [.inl q2.1]) q2.2
    refine Wp.br (WpD.mono _) 0 (c := q2.1 = 0) (q1 := ((36, [some (.inr (.inr (12, 0))), some (.inl a1)], []), q2.2)) (q2 := ((20, [some (.inr (.inr (12, 0))), some (.inl a1)], []), q2.2)) rfl (fun hc => ?_) (fun hc => ?_)
    · have h := (if_pos hc).symm.trans h
      refine Wp.run (WpD.mono _) 0 (q := ((39, [some (.inr (.inr (12, 0))), some (.inl a1)], [.inr (.inl (-3 : Int64))]), q2.2)) rfl ?_
      cases h
      exact Wp.ret (WpD.mono _) rfl hQ
    · have h := (if_neg hc).symm.trans h
      obtain ⟨hc, h⟩ := ite_nn h
      refine Wp.no (WpD.mono _) 4 (c := hwOut a1 4) (q := ((27, [some (.inr (.inr (12, 0))), some (.inl a1)], [.inl (q2.2.2.2.1 77 0 (a1).toNatClampNeg), .inr (.inr (12, 0))]), q2.2)) rfl hc ?_
      refine Wp.run (WpD.mono _) 2 (q := ((30, [some (.inr (.inr (12, 0))), some (.inl a1)], [.inl (0 : Int32), .inl ((q2.2.2.2.1 77 0 (a1).toNatClampNeg) + (1 : Int32)), .inr (.inr (12, 0))]), q2.2)) rfl ?_
      obtain ⟨q3, hb, h⟩ := bind_some h
      refine Wp.call (WpD.mono _) rfl (T_X12_valueOf (e + 0) N ((q2.2.2.2.1 77 0 (a1).toNatClampNeg) + (1 : Int32)) (0 : Int32) q2.2 _ _ _ hb ?_)
      show Wp (WpD (e + 24)) hcX12_best Q (33, [some (.inr (.inr (12, 0))), some (.inl a1)], [.inr (.inl q3.1)]) q3.2
      refine Wp.run (WpD.mono _) 0 (q := ((39, [some (.inr (.inr (12, 0))), some (.inl a1)], [.inr (.inl q3.1)]), q3.2)) rfl ?_
      cases h
      exact Wp.ret (WpD.mono _) rfl hQ

set_option maxRecDepth 100000 in
set_option maxHeartbeats 4000000 in
theorem T_X12_holds_ (e N : Nat)  (a1 : Int32) (σ : Mem) (r : Unit) (τ : Mem) (Q : Pst) (h : F_X12_holds_ N a1 σ = some (r, τ)) (hQ : Q (none) τ) : WpD (e + 1) mX12_holds_ [.inr (.inr (12, 0)), .inl a1] σ Q := by
  refine WpD.of (d := e + 0) (Nat.le_of_ble_eq_true rfl) (Nat.le_of_ble_eq_true rfl) ?_
  show Wp (WpD (e + 0)) hcX12_holds_ Q (0, [some (.inr (.inr (12, 0))), some (.inl a1)], []) σ
  unfold F_X12_holds_ at h
  obtain ⟨hc, h⟩ := ite_nn h
  refine Wp.no (WpD.mono _) 5 (c := hwOut (σ.1 12 48) 200) (q := ((10, [some (.inr (.inr (12, 0))), some (.inl a1)], []), (σ.1, σ.2.1, (hwU3 σ.2.2.1 99 0 ((σ.1 12 48)).toNatClampNeg a1), σ.2.2.2.1, σ.2.2.2.2))) rfl hc ?_
  refine Wp.run (WpD.mono _) 5 (q := ((20, [some (.inr (.inr (12, 0))), some (.inl a1)], []), ((hwU2 σ.1 12 48 ((σ.1 12 48) + (1 : Int32))), σ.2.1, (hwU3 σ.2.2.1 99 0 ((σ.1 12 48)).toNatClampNeg a1), σ.2.2.2.1, σ.2.2.2.2))) rfl ?_
  cases h
  exact Wp.ret (WpD.mono _) rfl hQ

set_option maxRecDepth 100000 in
set_option maxHeartbeats 4000000 in
theorem T_X12_rank (e N : Nat)  (a1 : Int32) (σ : Mem) (r : Int32) (τ : Mem) (Q : Pst) (h : F_X12_rank N a1 σ = some (r, τ)) (hQ : Q (some (.inl r)) τ) : WpD (e + 1) mX12_rank [.inl a1] σ Q := by
  refine WpD.of (d := e + 0) (Nat.le_of_ble_eq_true rfl) (Nat.le_of_ble_eq_true rfl) ?_
  show Wp (WpD (e + 0)) hcX12_rank Q (0, [some (.inl a1)], []) σ
  unfold F_X12_rank at h
  refine Wp.br (WpD.mono _) 1 (c := a1 = 0) (q1 := ((4, [some (.inl a1)], []), σ)) (q2 := ((8, [some (.inl a1)], []), σ)) rfl (fun hc => ?_) (fun hc => ?_)
  · have h := (if_pos hc).symm.trans h
    refine Wp.run (WpD.mono _) 1 (q := ((71, [some (.inl a1)], [.inl (0 : Int32)]), σ)) rfl ?_
    cases h
    exact Wp.ret (WpD.mono _) rfl hQ
  · have h := (if_neg hc).symm.trans h
    refine Wp.br (WpD.mono _) 2 (c := a1 = (11 : Int32)) (q1 := ((14, [some (.inl a1)], []), σ)) (q2 := ((18, [some (.inl a1)], []), σ)) rfl (fun hc => ?_) (fun hc => ?_)
    · have h := (if_pos hc).symm.trans h
      refine Wp.run (WpD.mono _) 1 (q := ((71, [some (.inl a1)], [.inl (1 : Int32)]), σ)) rfl ?_
      cases h
      exact Wp.ret (WpD.mono _) rfl hQ
    · have h := (if_neg hc).symm.trans h
      refine Wp.br (WpD.mono _) 2 (c := a1 = (12 : Int32)) (q1 := ((24, [some (.inl a1)], []), σ)) (q2 := ((28, [some (.inl a1)], []), σ)) rfl (fun hc => ?_) (fun hc => ?_)
      · have h := (if_pos hc).symm.trans h
        refine Wp.run (WpD.mono _) 1 (q := ((71, [some (.inl a1)], [.inl (2 : Int32)]), σ)) rfl ?_
        cases h
        exact Wp.ret (WpD.mono _) rfl hQ
      · have h := (if_neg hc).symm.trans h
        refine Wp.br (WpD.mono _) 2 (c := a1 = (13 : Int32)) (q1 := ((34, [some (.inl a1)], []), σ)) (q2 := ((38, [some (.inl a1)], []), σ)) rfl (fun hc => ?_) (fun hc => ?_)
        · have h := (if_pos hc).symm.trans h
          refine Wp.run (WpD.mono _) 1 (q := ((71, [some (.inl a1)], [.inl (3 : Int32)]), σ)) rfl ?_
          cases h
          exact Wp.ret (WpD.mono _) rfl hQ
        · have h := (if_neg hc).symm.trans h
          refine Wp.br (WpD.mono _) 2 (c := (15 : Int32) < a1) (q1 := ((48, [some (.inl a1)], []), σ)) (q2 := ((44, [some (.inl a1)], []), σ)) rfl (fun hc => ?_) (fun hc => ?_)
          · have h := (if_pos hc).symm.trans h
            refine Wp.br (WpD.mono _) 2 (c := (17 : Int32) < a1) (q1 := ((58, [some (.inl a1)], []), σ)) (q2 := ((54, [some (.inl a1)], []), σ)) rfl (fun hc => ?_) (fun hc => ?_)
            · have h := (if_pos hc).symm.trans h
              refine Wp.br (WpD.mono _) 2 (c := a1 = (18 : Int32)) (q1 := ((64, [some (.inl a1)], []), σ)) (q2 := ((69, [some (.inl a1)], []), σ)) rfl (fun hc => ?_) (fun hc => ?_)
              · have h := (if_pos hc).symm.trans h
                refine Wp.run (WpD.mono _) 1 (q := ((71, [some (.inl a1)], [.inl (6 : Int32)]), σ)) rfl ?_
                cases h
                exact Wp.ret (WpD.mono _) rfl hQ
              · have h := (if_neg hc).symm.trans h
                refine Wp.run (WpD.mono _) 0 (q := ((71, [some (.inl a1)], [.inl (7 : Int32)]), σ)) rfl ?_
                cases h
                exact Wp.ret (WpD.mono _) rfl hQ
            · have h := (if_neg hc).symm.trans h
              refine Wp.run (WpD.mono _) 1 (q := ((71, [some (.inl a1)], [.inl (5 : Int32)]), σ)) rfl ?_
              cases h
              exact Wp.ret (WpD.mono _) rfl hQ
          · have h := (if_neg hc).symm.trans h
            refine Wp.run (WpD.mono _) 1 (q := ((71, [some (.inl a1)], [.inl (4 : Int32)]), σ)) rfl ?_
            cases h
            exact Wp.ret (WpD.mono _) rfl hQ

set_option maxRecDepth 100000 in
set_option maxHeartbeats 4000000 in
theorem T_X12_puts (e N : Nat)  (a1 : Int32) (σ : Mem) (r : Unit) (τ : Mem) (Q : Pst) (h : F_X12_puts N a1 σ = some (r, τ)) (hQ : Q (none) τ) : WpD (e + 1) mX12_puts [.inr (.inr (12, 0)), .inl a1] σ Q := by
  refine WpD.of (d := e + 0) (Nat.le_of_ble_eq_true rfl) (Nat.le_of_ble_eq_true rfl) ?_
  show Wp (WpD (e + 0)) hcX12_puts Q (0, [some (.inr (.inr (12, 0))), some (.inl a1)], []) σ
  unfold F_X12_puts at h
  obtain ⟨hc, h⟩ := ite_nn h
  refine Wp.no (WpD.mono _) 10 (c := hwOut (((200 : Int32) * (σ.1 12 27)) + (σ.1 12 50)) 1200) (q := ((19, [some (.inr (.inr (12, 0))), some (.inl a1)], []), (σ.1, σ.2.1, (hwU3 σ.2.2.1 87 0 ((((200 : Int32) * (σ.1 12 27)) + (σ.1 12 50))).toNatClampNeg a1), σ.2.2.2.1, σ.2.2.2.2))) rfl hc ?_
  refine Wp.run (WpD.mono _) 5 (q := ((29, [some (.inr (.inr (12, 0))), some (.inl a1)], []), ((hwU2 σ.1 12 50 ((σ.1 12 50) + (1 : Int32))), σ.2.1, (hwU3 σ.2.2.1 87 0 ((((200 : Int32) * (σ.1 12 27)) + (σ.1 12 50))).toNatClampNeg a1), σ.2.2.2.1, σ.2.2.2.2))) rfl ?_
  cases h
  exact Wp.ret (WpD.mono _) rfl hQ

set_option maxRecDepth 100000 in
set_option maxHeartbeats 4000000 in
theorem T_X12_unwinds_b67 (e N : Nat)  (k0 : Int32 → Mem → Option (Unit × Mem)) (r : Unit) (τ : Mem) (Q : Pst) (hQ : Q (none) τ) (hk0 : ∀ (x1 : Int32) (σ : Mem), k0 x1 σ = some (r, τ) → Wp (WpD (e + 1)) hcX12_unwinds Q (0, [some (.inr (.inr (12, 0))), some (.inl x1), none], []) σ) : ∀ (x1 : Int32) (x2 : Int32) (s0 : Int32) (s1 : Int32) (σ : Mem), F_X12_unwinds_b67 N k0 x1 x2 s0 s1 σ = some (r, τ) → Wp (WpD (e + 1)) hcX12_unwinds Q (67, [some (.inr (.inr (12, 0))), some (.inl x1), some (.inl x2)], [.inl s0, .inl s1, .inr (.inr (12, 0))]) σ := by
  intro x1 x2 s0 s1 σ h
  unfold F_X12_unwinds_b67 at h
  refine Wp.run (WpD.mono _) 3 (q := ((73, [some (.inr (.inr (12, 0))), some (.inl x1), some (.inl x2)], [.inl x2, .inr (.inr (12, 0))]), ((hwU2 σ.1 12 49 (s1 - s0)), σ.2.1, σ.2.2.1, σ.2.2.2.1, σ.2.2.2.2))) rfl ?_
  obtain ⟨q2, hb, h⟩ := bind_some h
  refine Wp.call (WpD.mono _) rfl (T_X12_puts (e + 0) N x2 ((hwU2 σ.1 12 49 (s1 - s0)), σ.2.1, σ.2.2.1, σ.2.2.2.1, σ.2.2.2.2) _ _ _ hb ?_)
  show Wp (WpD (e + 1)) hcX12_unwinds Q (76, [some (.inr (.inr (12, 0))), some (.inl x1), some (.inl x2)], []) q2.2
  refine Wp.run (WpD.mono _) 0 (q := ((0, [some (.inr (.inr (12, 0))), some (.inl x1), some (.inl x2)], []), q2.2)) rfl ?_
  exact Wp.jump (WpD.mono _) rfl (hk0 x1 q2.2 h)

set_option maxRecDepth 100000 in
set_option maxHeartbeats 4000000 in
theorem T_X12_unwinds_b62 (e N : Nat)  (k67 : Int32 → Int32 → Int32 → Int32 → Mem → Option (Unit × Mem)) (r : Unit) (τ : Mem) (Q : Pst) (hQ : Q (none) τ) (hk67 : ∀ (x1 : Int32) (x2 : Int32) (s0 : Int32) (s1 : Int32) (σ : Mem), k67 x1 x2 s0 s1 σ = some (r, τ) → Wp (WpD (e + 1)) hcX12_unwinds Q (67, [some (.inr (.inr (12, 0))), some (.inl x1), some (.inl x2)], [.inl s0, .inl s1, .inr (.inr (12, 0))]) σ) : ∀ (x1 : Int32) (x2 : Int32) (s0 : Int32) (σ : Mem), F_X12_unwinds_b62 N k67 x1 x2 s0 σ = some (r, τ) → Wp (WpD (e + 1)) hcX12_unwinds Q (62, [some (.inr (.inr (12, 0))), some (.inl x1), some (.inl x2)], [.inl s0, .inr (.inr (12, 0))]) σ := by
  intro x1 x2 s0 σ h
  unfold F_X12_unwinds_b62 at h
  refine Wp.run (WpD.mono _) 1 (q := ((67, [some (.inr (.inr (12, 0))), some (.inl x1), some (.inl x2)], [.inl (1 : Int32), .inl s0, .inr (.inr (12, 0))]), σ)) rfl ?_
  exact Wp.jump (WpD.mono _) rfl (hk67 x1 x2 (1 : Int32) s0 σ h)

set_option maxRecDepth 100000 in
set_option maxHeartbeats 4000000 in
theorem T_X12_unwinds_b0 (e N : Nat)   (r : Unit) (τ : Mem) (Q : Pst) (hQ : Q (none) τ) : ∀ n, ∀ (x1 : Int32) (σ : Mem), F_X12_unwinds_b0 N n x1 σ = some (r, τ) → Wp (WpD (e + 1)) hcX12_unwinds Q (0, [some (.inr (.inr (12, 0))), some (.inl x1), none], []) σ := by
  intro n
  induction n with
  | zero => intro x1 σ h; cases h
  | succ n ih =>
    intro x1 σ h
    unfold F_X12_unwinds_b0 at h
    refine Wp.br (WpD.mono _) 2 (c := (σ.1 12 48) ≤ 0) (q1 := ((79, [some (.inr (.inr (12, 0))), some (.inl x1), none], []), σ)) (q2 := ((7, [some (.inr (.inr (12, 0))), some (.inl x1), none], []), σ)) rfl (fun hc => ?_) (fun hc => ?_)
    · have h := (if_pos hc).symm.trans h
      cases h
      exact Wp.ret (WpD.mono _) rfl hQ
    · have h := (if_neg hc).symm.trans h
      obtain ⟨hc, h⟩ := ite_nn h
      refine Wp.no (WpD.mono _) 6 (c := hwOut ((σ.1 12 48) - (1 : Int32)) 200) (q := ((18, [some (.inr (.inr (12, 0))), some (.inl x1), none], [.inl (σ.2.2.1 99 0 (((σ.1 12 48) - (1 : Int32))).toNatClampNeg)]), σ)) rfl hc ?_
      obtain ⟨q1, hb, h⟩ := bind_some h
      refine Wp.call (WpD.mono _) rfl (T_X12_rank (e + 0) N (σ.2.2.1 99 0 (((σ.1 12 48) - (1 : Int32))).toNatClampNeg) σ _ _ _ hb ?_)
      show Wp (WpD (e + 1)) hcX12_unwinds Q (21, [some (.inr (.inr (12, 0))), some (.inl x1), none], [.inl q1.1]) q1.2
      refine Wp.br (WpD.mono _) 1 (c := q1.1 < x1) (q1 := ((79, [some (.inr (.inr (12, 0))), some (.inl x1), none], []), q1.2)) (q2 := ((25, [some (.inr (.inr (12, 0))), some (.inl x1), none], []), q1.2)) rfl (fun hc => ?_) (fun hc => ?_)
      · have h := (if_pos hc).symm.trans h
        cases h
        exact Wp.ret (WpD.mono _) rfl hQ
      · have h := (if_neg hc).symm.trans h
        obtain ⟨hc, h⟩ := ite_nn h
        refine Wp.no (WpD.mono _) 10 (c := hwOut ((q1.2.1 12 48) - (1 : Int32)) 200) (q := ((44, [some (.inr (.inr (12, 0))), some (.inl x1), none], [.inl (q1.2.2.2.1 99 0 (((q1.2.1 12 48) - (1 : Int32))).toNatClampNeg)]), ((hwU2 q1.2.1 12 48 ((q1.2.1 12 48) - (1 : Int32))), q1.2.2.1, q1.2.2.2.1, q1.2.2.2.2.1, q1.2.2.2.2.2))) rfl hc ?_
        refine Wp.br (WpD.mono _) 6 (c := (q1.2.2.2.1 99 0 (((q1.2.1 12 48) - (1 : Int32))).toNatClampNeg) = (13 : Int32)) (q1 := ((62, [some (.inr (.inr (12, 0))), some (.inl x1), some (.inl (q1.2.2.2.1 99 0 (((q1.2.1 12 48) - (1 : Int32))).toNatClampNeg))], [.inl (q1.2.1 12 49), .inr (.inr (12, 0))]), ((hwU2 q1.2.1 12 48 ((q1.2.1 12 48) - (1 : Int32))), q1.2.2.1, q1.2.2.2.1, q1.2.2.2.2.1, q1.2.2.2.2.2))) (q2 := ((56, [some (.inr (.inr (12, 0))), some (.inl x1), some (.inl (q1.2.2.2.1 99 0 (((q1.2.1 12 48) - (1 : Int32))).toNatClampNeg))], [.inl (q1.2.1 12 49), .inr (.inr (12, 0))]), ((hwU2 q1.2.1 12 48 ((q1.2.1 12 48) - (1 : Int32))), q1.2.2.1, q1.2.2.2.1, q1.2.2.2.2.1, q1.2.2.2.2.2))) rfl (fun hc => ?_) (fun hc => ?_)
        · have h := (if_pos hc).symm.trans h
          exact Wp.jump (WpD.mono _) rfl ((T_X12_unwinds_b62 e N (F_X12_unwinds_b67 N (F_X12_unwinds_b0 N n)) r τ Q hQ (T_X12_unwinds_b67 e N (F_X12_unwinds_b0 N n) r τ Q hQ ih)) x1 (q1.2.2.2.1 99 0 (((q1.2.1 12 48) - (1 : Int32))).toNatClampNeg) (q1.2.1 12 49) ((hwU2 q1.2.1 12 48 ((q1.2.1 12 48) - (1 : Int32))), q1.2.2.1, q1.2.2.2.1, q1.2.2.2.2.1, q1.2.2.2.2.2) h)
        · have h := (if_neg hc).symm.trans h
          refine Wp.br (WpD.mono _) 2 (c := (q1.2.2.2.1 99 0 (((q1.2.1 12 48) - (1 : Int32))).toNatClampNeg) = (19 : Int32)) (q1 := ((62, [some (.inr (.inr (12, 0))), some (.inl x1), some (.inl (q1.2.2.2.1 99 0 (((q1.2.1 12 48) - (1 : Int32))).toNatClampNeg))], [.inl (q1.2.1 12 49), .inr (.inr (12, 0))]), ((hwU2 q1.2.1 12 48 ((q1.2.1 12 48) - (1 : Int32))), q1.2.2.1, q1.2.2.2.1, q1.2.2.2.2.1, q1.2.2.2.2.2))) (q2 := ((66, [some (.inr (.inr (12, 0))), some (.inl x1), some (.inl (q1.2.2.2.1 99 0 (((q1.2.1 12 48) - (1 : Int32))).toNatClampNeg))], [.inl (q1.2.1 12 49), .inr (.inr (12, 0))]), ((hwU2 q1.2.1 12 48 ((q1.2.1 12 48) - (1 : Int32))), q1.2.2.1, q1.2.2.2.1, q1.2.2.2.2.1, q1.2.2.2.2.2))) rfl (fun hc => ?_) (fun hc => ?_)
          · have h := (if_pos hc).symm.trans h
            exact Wp.jump (WpD.mono _) rfl ((T_X12_unwinds_b62 e N (F_X12_unwinds_b67 N (F_X12_unwinds_b0 N n)) r τ Q hQ (T_X12_unwinds_b67 e N (F_X12_unwinds_b0 N n) r τ Q hQ ih)) x1 (q1.2.2.2.1 99 0 (((q1.2.1 12 48) - (1 : Int32))).toNatClampNeg) (q1.2.1 12 49) ((hwU2 q1.2.1 12 48 ((q1.2.1 12 48) - (1 : Int32))), q1.2.2.1, q1.2.2.2.1, q1.2.2.2.2.1, q1.2.2.2.2.2) h)
          · have h := (if_neg hc).symm.trans h
            refine Wp.run (WpD.mono _) 0 (q := ((67, [some (.inr (.inr (12, 0))), some (.inl x1), some (.inl (q1.2.2.2.1 99 0 (((q1.2.1 12 48) - (1 : Int32))).toNatClampNeg))], [.inl (0 : Int32), .inl (q1.2.1 12 49), .inr (.inr (12, 0))]), ((hwU2 q1.2.1 12 48 ((q1.2.1 12 48) - (1 : Int32))), q1.2.2.1, q1.2.2.2.1, q1.2.2.2.2.1, q1.2.2.2.2.2))) rfl ?_
            exact Wp.jump (WpD.mono _) rfl ((T_X12_unwinds_b67 e N (F_X12_unwinds_b0 N n) r τ Q hQ ih) x1 (q1.2.2.2.1 99 0 (((q1.2.1 12 48) - (1 : Int32))).toNatClampNeg) (0 : Int32) (q1.2.1 12 49) ((hwU2 q1.2.1 12 48 ((q1.2.1 12 48) - (1 : Int32))), q1.2.2.1, q1.2.2.2.1, q1.2.2.2.2.1, q1.2.2.2.2.2) h)

set_option maxRecDepth 100000 in
set_option maxHeartbeats 4000000 in
theorem T_X12_unwinds (e N : Nat)  (a1 : Int32) (σ : Mem) (r : Unit) (τ : Mem) (Q : Pst) (h : F_X12_unwinds N a1 σ = some (r, τ)) (hQ : Q (none) τ) : WpD (e + 2) mX12_unwinds [.inr (.inr (12, 0)), .inl a1] σ Q := by
  refine WpD.of (d := e + 1) (Nat.le_of_ble_eq_true rfl) (Nat.le_of_ble_eq_true rfl) ?_
  show Wp (WpD (e + 1)) hcX12_unwinds Q (0, [some (.inr (.inr (12, 0))), some (.inl a1), none], []) σ
  unfold F_X12_unwinds at h
  exact Wp.jump (WpD.mono _) rfl ((T_X12_unwinds_b0 e N  r τ Q hQ  N) a1 σ h)

set_option maxRecDepth 100000 in
set_option maxHeartbeats 4000000 in
theorem T_X12_between_b55 (e N : Nat)   (r : Int32) (τ : Mem) (Q : Pst) (hQ : Q (some (.inl r)) τ) : ∀ (x1 : Int32) (σ : Mem), F_X12_between_b55 N x1 σ = some (r, τ) → Wp (WpD (e + 2)) hcX12_between Q (55, [some (.inr (.inr (12, 0))), some (.inl x1)], []) σ := by
  intro x1 σ h
  unfold F_X12_between_b55 at h
  refine Wp.run (WpD.mono _) 1 (q := ((57, [some (.inr (.inr (12, 0))), some (.inl x1)], [.inl x1, .inr (.inr (12, 0))]), σ)) rfl ?_
  obtain ⟨q6, hb, h⟩ := bind_some h
  refine Wp.call (WpD.mono _) rfl (T_X12_holds_ (e + 1) N x1 σ _ _ _ hb ?_)
  show Wp (WpD (e + 2)) hcX12_between Q (60, [some (.inr (.inr (12, 0))), some (.inl x1)], []) q6.2
  refine Wp.run (WpD.mono _) 0 (q := ((61, [some (.inr (.inr (12, 0))), some (.inl x1)], [.inl (1 : Int32)]), q6.2)) rfl ?_
  cases h
  exact Wp.ret (WpD.mono _) rfl hQ

set_option maxRecDepth 100000 in
set_option maxHeartbeats 4000000 in
theorem T_X12_between_b17 (e N : Nat)   (r : Int32) (τ : Mem) (Q : Pst) (hQ : Q (some (.inl r)) τ) : ∀ (x1 : Int32) (s0 : Int32) (σ : Mem), F_X12_between_b17 N x1 s0 σ = some (r, τ) → Wp (WpD (e + 2)) hcX12_between Q (17, [some (.inr (.inr (12, 0))), some (.inl x1)], [.inl s0, .inr (.inr (12, 0))]) σ := by
  intro x1 s0 σ h
  unfold F_X12_between_b17 at h
  obtain ⟨q3, hb, h⟩ := bind_some h
  refine Wp.call (WpD.mono _) rfl (T_X12_unwinds (e + 0) N s0 σ _ _ _ hb ?_)
  show Wp (WpD (e + 2)) hcX12_between Q (20, [some (.inr (.inr (12, 0))), some (.inl x1)], []) q3.2
  refine Wp.run (WpD.mono _) 0 (q := ((21, [some (.inr (.inr (12, 0))), some (.inl x1)], [.inl x1]), q3.2)) rfl ?_
  obtain ⟨q4, hb, h⟩ := bind_some h
  refine Wp.call (WpD.mono _) rfl (T_X12_rank (e + 1) N x1 q3.2 _ _ _ hb ?_)
  show Wp (WpD (e + 2)) hcX12_between Q (24, [some (.inr (.inr (12, 0))), some (.inl x1)], [.inl q4.1]) q4.2
  refine Wp.br (WpD.mono _) 1 (c := q4.1 = (4 : Int32)) (q1 := ((28, [some (.inr (.inr (12, 0))), some (.inl x1)], []), q4.2)) (q2 := ((55, [some (.inr (.inr (12, 0))), some (.inl x1)], []), q4.2)) rfl (fun hc => ?_) (fun hc => ?_)
  · have h := (if_pos hc).symm.trans h
    refine Wp.br (WpD.mono _) 2 (c := (q4.2.1 12 48) ≤ 0) (q1 := ((55, [some (.inr (.inr (12, 0))), some (.inl x1)], []), q4.2)) (q2 := ((35, [some (.inr (.inr (12, 0))), some (.inl x1)], []), q4.2)) rfl (fun hc => ?_) (fun hc => ?_)
    · have h := (if_pos hc).symm.trans h
      exact Wp.jump (WpD.mono _) rfl ((T_X12_between_b55 e N  r τ Q hQ ) x1 q4.2 h)
    · have h := (if_neg hc).symm.trans h
      obtain ⟨hc, h⟩ := ite_nn h
      refine Wp.no (WpD.mono _) 6 (c := hwOut ((q4.2.1 12 48) - (1 : Int32)) 200) (q := ((46, [some (.inr (.inr (12, 0))), some (.inl x1)], [.inl (q4.2.2.2.1 99 0 (((q4.2.1 12 48) - (1 : Int32))).toNatClampNeg)]), q4.2)) rfl hc ?_
      obtain ⟨q5, hb, h⟩ := bind_some h
      refine Wp.call (WpD.mono _) rfl (T_X12_rank (e + 1) N (q4.2.2.2.1 99 0 (((q4.2.1 12 48) - (1 : Int32))).toNatClampNeg) q4.2 _ _ _ hb ?_)
      show Wp (WpD (e + 2)) hcX12_between Q (49, [some (.inr (.inr (12, 0))), some (.inl x1)], [.inl q5.1]) q5.2
      refine Wp.br (WpD.mono _) 1 (c := q5.1 = (4 : Int32)) (q1 := ((53, [some (.inr (.inr (12, 0))), some (.inl x1)], []), q5.2)) (q2 := ((55, [some (.inr (.inr (12, 0))), some (.inl x1)], []), q5.2)) rfl (fun hc => ?_) (fun hc => ?_)
      · have h := (if_pos hc).symm.trans h
        refine Wp.run (WpD.mono _) 0 (q := ((54, [some (.inr (.inr (12, 0))), some (.inl x1)], [.inl (0 : Int32)]), q5.2)) rfl ?_
        cases h
        exact Wp.ret (WpD.mono _) rfl hQ
      · have h := (if_neg hc).symm.trans h
        exact Wp.jump (WpD.mono _) rfl ((T_X12_between_b55 e N  r τ Q hQ ) x1 q5.2 h)
  · have h := (if_neg hc).symm.trans h
    exact Wp.jump (WpD.mono _) rfl ((T_X12_between_b55 e N  r τ Q hQ ) x1 q4.2 h)

set_option maxRecDepth 100000 in
set_option maxHeartbeats 4000000 in
theorem T_X12_between (e N : Nat)  (a1 : Int32) (σ : Mem) (r : Int32) (τ : Mem) (Q : Pst) (h : F_X12_between N a1 σ = some (r, τ)) (hQ : Q (some (.inl r)) τ) : WpD (e + 3) mX12_between [.inr (.inr (12, 0)), .inl a1] σ Q := by
  refine WpD.of (d := e + 2) (Nat.le_of_ble_eq_true rfl) (Nat.le_of_ble_eq_true rfl) ?_
  show Wp (WpD (e + 2)) hcX12_between Q (0, [some (.inr (.inr (12, 0))), some (.inl a1)], []) σ
  unfold F_X12_between at h
  refine Wp.run (WpD.mono _) 1 (q := ((2, [some (.inr (.inr (12, 0))), some (.inl a1)], [.inl a1, .inr (.inr (12, 0))]), σ)) rfl ?_
  obtain ⟨q1, hb, h⟩ := bind_some h
  refine Wp.call (WpD.mono _) rfl (T_X12_rank (e + 1) N a1 σ _ _ _ hb ?_)
  show Wp (WpD (e + 2)) hcX12_between Q (5, [some (.inr (.inr (12, 0))), some (.inl a1)], [.inl q1.1, .inr (.inr (12, 0))]) q1.2
  refine Wp.br (WpD.mono _) 1 (c := q1.1 = (4 : Int32)) (q1 := ((9, [some (.inr (.inr (12, 0))), some (.inl a1)], [.inr (.inr (12, 0))]), q1.2)) (q2 := ((13, [some (.inr (.inr (12, 0))), some (.inl a1)], [.inr (.inr (12, 0))]), q1.2)) rfl (fun hc => ?_) (fun hc => ?_)
  · have h := (if_pos hc).symm.trans h
    refine Wp.run (WpD.mono _) 1 (q := ((17, [some (.inr (.inr (12, 0))), some (.inl a1)], [.inl (5 : Int32), .inr (.inr (12, 0))]), q1.2)) rfl ?_
    exact Wp.jump (WpD.mono _) rfl ((T_X12_between_b17 e N  r τ Q hQ ) a1 (5 : Int32) q1.2 h)
  · have h := (if_neg hc).symm.trans h
    refine Wp.run (WpD.mono _) 0 (q := ((14, [some (.inr (.inr (12, 0))), some (.inl a1)], [.inl a1, .inr (.inr (12, 0))]), q1.2)) rfl ?_
    obtain ⟨q2, hb, h⟩ := bind_some h
    refine Wp.call (WpD.mono _) rfl (T_X12_rank (e + 1) N a1 q1.2 _ _ _ hb ?_)
    show Wp (WpD (e + 2)) hcX12_between Q (17, [some (.inr (.inr (12, 0))), some (.inl a1)], [.inl q2.1, .inr (.inr (12, 0))]) q2.2
    exact Wp.jump (WpD.mono _) rfl ((T_X12_between_b17 e N  r τ Q hQ ) a1 q2.1 q2.2 h)

set_option maxRecDepth 100000 in
set_option maxHeartbeats 4000000 in
theorem T_X12_tells_b131 (e N : Nat) (g0 : Int32 → Int32 → Int32 → Int32 → Mem → Option (Int64 × Mem)) (hg0 : ∀ (a1 : Int32) (a2 : Int32) (a3 : Int32) (a4 : Int32) (σ : Mem) (r : Int64) (τ : Mem) (Q : Pst), g0 a1 a2 a3 a4 σ = some (r, τ) → Q (some (.inr (.inl r))) τ → WpD (e + 24) mX12_tells [.inr (.inr (12, 0)), .inl a1, .inl a2, .inl a3, .inl a4] σ Q)  (r : Int64) (τ : Mem) (Q : Pst) (hQ : Q (some (.inr (.inl r))) τ) : ∀ n, ∀ (x1 : Int32) (x2 : Int32) (x3 : Int32) (x5 : Int32) (x6 : Int64) (x8 : Int32) (σ : Mem), F_X12_tells_b131 N g0 n x1 x2 x3 x5 x6 x8 σ = some (r, τ) → Wp (WpD (e + 24)) hcX12_tells Q (131, [some (.inr (.inr (12, 0))), some (.inl x1), some (.inl x2), some (.inl x3), none, some (.inl x5), some (.inr (.inl x6)), none, some (.inl x8), none, none], []) σ := by
  intro n
  induction n with
  | zero => intro x1 x2 x3 x5 x6 x8 σ h; cases h
  | succ n ih =>
    intro x1 x2 x3 x5 x6 x8 σ h
    unfold F_X12_tells_b131 at h
    refine Wp.br (WpD.mono _) 2 (c := (3 : Int32) ≤ x8) (q1 := ((194, [some (.inr (.inr (12, 0))), some (.inl x1), some (.inl x2), some (.inl x3), none, some (.inl x5), some (.inr (.inl x6)), none, some (.inl x8), none, none], []), σ)) (q2 := ((137, [some (.inr (.inr (12, 0))), some (.inl x1), some (.inl x2), some (.inl x3), none, some (.inl x5), some (.inr (.inl x6)), none, some (.inl x8), none, none], []), σ)) rfl (fun hc => ?_) (fun hc => ?_)
    · have h := (if_pos hc).symm.trans h
      refine Wp.run (WpD.mono _) 0 (q := ((196, [some (.inr (.inr (12, 0))), some (.inl x1), some (.inl x2), some (.inl x3), none, some (.inl x5), some (.inr (.inl x6)), none, some (.inl x8), none, none], [.inr (.inl x6)]), σ)) rfl ?_
      cases h
      exact Wp.ret (WpD.mono _) rfl hQ
    · have h := (if_neg hc).symm.trans h
      refine Wp.run (WpD.mono _) 3 (q := ((142, [some (.inr (.inr (12, 0))), some (.inl x1), some (.inl x2), some (.inl x3), none, some (.inl x5), some (.inr (.inl x6)), none, some (.inl x8), none, none], [.inl x8, .inl x1, .inl x2, .inr (.inr (12, 0))]), σ)) rfl ?_
      obtain ⟨q4, hb, h⟩ := bind_some h
      refine Wp.call (WpD.mono _) rfl (T_X12_dries (e + 20) N x2 x1 x8 σ _ _ _ hb ?_)
      show Wp (WpD (e + 24)) hcX12_tells Q (145, [some (.inr (.inr (12, 0))), some (.inl x1), some (.inl x2), some (.inl x3), none, some (.inl x5), some (.inr (.inl x6)), none, some (.inl x8), none, none], [.inr (.inl q4.1)]) q4.2
      refine Wp.br (WpD.mono _) 4 (c := (lg_cmp q4.1 (0 : Int64)) ≤ 0) (q1 := ((188, [some (.inr (.inr (12, 0))), some (.inl x1), some (.inl x2), some (.inl x3), none, some (.inl x5), some (.inr (.inl x6)), none, some (.inl x8), some (.inr (.inl q4.1)), none], []), q4.2)) (q2 := ((154, [some (.inr (.inr (12, 0))), some (.inl x1), some (.inl x2), some (.inl x3), none, some (.inl x5), some (.inr (.inl x6)), none, some (.inl x8), some (.inr (.inl q4.1)), none], []), q4.2)) rfl (fun hc => ?_) (fun hc => ?_)
      · have h := (if_pos hc).symm.trans h
        refine Wp.run (WpD.mono _) 1 (q := ((131, [some (.inr (.inr (12, 0))), some (.inl x1), some (.inl x2), some (.inl x3), none, some (.inl x5), some (.inr (.inl x6)), none, some (.inl (x8 + (1 : Int32))), none, none], []), q4.2)) rfl ?_
        exact Wp.jump (WpD.mono _) rfl (ih x1 x2 x3 x5 x6 (x8 + (1 : Int32)) q4.2 h)
      · have h := (if_neg hc).symm.trans h
        refine Wp.run (WpD.mono _) 2 (q := ((158, [some (.inr (.inr (12, 0))), some (.inl x1), some (.inl x2), some (.inl x3), none, some (.inl x5), some (.inr (.inl x6)), none, some (.inl x8), some (.inr (.inl q4.1)), none], [.inr (.inl q4.1), .inl x2, .inr (.inr (12, 0))]), q4.2)) rfl ?_
        obtain ⟨q5, hb, h⟩ := bind_some h
        refine Wp.call (WpD.mono _) rfl (T_X12_below (e + 22) N x2 q4.1 q4.2 _ _ _ hb ?_)
        show Wp (WpD (e + 24)) hcX12_tells Q (161, [some (.inr (.inr (12, 0))), some (.inl x1), some (.inl x2), some (.inl x3), none, some (.inl x5), some (.inr (.inl x6)), none, some (.inl x8), some (.inr (.inl q4.1)), none], []) q5.2
        refine Wp.run (WpD.mono _) 12 (q := ((177, [some (.inr (.inr (12, 0))), some (.inl x1), some (.inl x2), some (.inl x3), none, some (.inl x5), some (.inr (.inl x6)), none, some (.inl x8), some (.inr (.inl q4.1)), none], [.inl x5, .inl (x3 - (1 : Int32)), .inl (x2 + (1 : Int32)), .inl (x1 + (1 : Int32)), .inr (.inr (12, 0)), .inr (.inl q4.1), .inr (.inl x6)]), q5.2)) rfl ?_
        obtain ⟨q6, hb, h⟩ := bind_some h
        refine Wp.call (WpD.mono _) rfl (hg0 (x1 + (1 : Int32)) (x2 + (1 : Int32)) (x3 - (1 : Int32)) x5 q5.2 _ _ _ hb ?_)
        show Wp (WpD (e + 24)) hcX12_tells Q (180, [some (.inr (.inr (12, 0))), some (.inl x1), some (.inl x2), some (.inl x3), none, some (.inl x5), some (.inr (.inl x6)), none, some (.inl x8), some (.inr (.inl q4.1)), none], [.inr (.inl q6.1), .inr (.inl q4.1), .inr (.inl x6)]) q6.2
        refine Wp.run (WpD.mono _) 6 (q := ((131, [some (.inr (.inr (12, 0))), some (.inl x1), some (.inl x2), some (.inl x3), none, some (.inl x5), some (.inr (.inl (x6 + ((q4.1 * q6.1) / (1000000 : Int64))))), none, some (.inl (x8 + (1 : Int32))), none, none], []), q6.2)) rfl ?_
        exact Wp.jump (WpD.mono _) rfl (ih x1 x2 x3 x5 (x6 + ((q4.1 * q6.1) / (1000000 : Int64))) (x8 + (1 : Int32)) q6.2 h)

set_option maxRecDepth 100000 in
set_option maxHeartbeats 4000000 in
theorem T_X12_tells_b58 (e N : Nat) (g0 : Int32 → Int32 → Int32 → Int32 → Mem → Option (Int64 × Mem)) (hg0 : ∀ (a1 : Int32) (a2 : Int32) (a3 : Int32) (a4 : Int32) (σ : Mem) (r : Int64) (τ : Mem) (Q : Pst), g0 a1 a2 a3 a4 σ = some (r, τ) → Q (some (.inr (.inl r))) τ → WpD (e + 24) mX12_tells [.inr (.inr (12, 0)), .inl a1, .inl a2, .inl a3, .inl a4] σ Q)  (r : Int64) (τ : Mem) (Q : Pst) (hQ : Q (some (.inr (.inl r))) τ) : ∀ n, ∀ (x1 : Int32) (x2 : Int32) (x3 : Int32) (x5 : Int32) (x6 : Int64) (x8 : Int32) (σ : Mem), F_X12_tells_b58 N g0 n x1 x2 x3 x5 x6 x8 σ = some (r, τ) → Wp (WpD (e + 24)) hcX12_tells Q (58, [some (.inr (.inr (12, 0))), some (.inl x1), some (.inl x2), some (.inl x3), none, some (.inl x5), some (.inr (.inl x6)), none, some (.inl x8), none, none], []) σ := by
  intro n
  induction n with
  | zero => intro x1 x2 x3 x5 x6 x8 σ h; cases h
  | succ n ih =>
    intro x1 x2 x3 x5 x6 x8 σ h
    unfold F_X12_tells_b58 at h
    refine Wp.br (WpD.mono _) 3 (c := (σ.1 12 5) ≤ x8) (q1 := ((128, [some (.inr (.inr (12, 0))), some (.inl x1), some (.inl x2), some (.inl x3), none, some (.inl x5), some (.inr (.inl x6)), none, some (.inl x8), none, none], []), σ)) (q2 := ((67, [some (.inr (.inr (12, 0))), some (.inl x1), some (.inl x2), some (.inl x3), none, some (.inl x5), some (.inr (.inl x6)), none, some (.inl x8), none, none], []), σ)) rfl (fun hc => ?_) (fun hc => ?_)
    · have h := (if_pos hc).symm.trans h
      refine Wp.run (WpD.mono _) 1 (q := ((131, [some (.inr (.inr (12, 0))), some (.inl x1), some (.inl x2), some (.inl x3), none, some (.inl x5), some (.inr (.inl x6)), none, some (.inl (0 : Int32)), none, none], []), σ)) rfl ?_
      exact Wp.jump (WpD.mono _) rfl ((T_X12_tells_b131 e N g0 hg0 r τ Q hQ  N) x1 x2 x3 x5 x6 (0 : Int32) σ h)
    · have h := (if_neg hc).symm.trans h
      refine Wp.run (WpD.mono _) 1 (q := ((70, [some (.inr (.inr (12, 0))), some (.inl x1), some (.inl x2), some (.inl x3), none, some (.inl x5), some (.inr (.inl x6)), none, some (.inl x8), none, none], [.inl x8, .inr (.inr (12, 0))]), σ)) rfl ?_
      obtain ⟨q2, hb, h⟩ := bind_some h
      refine Wp.call (WpD.mono _) rfl (T_X12_worthOf (e + 23) N x8 σ _ _ _ hb ?_)
      show Wp (WpD (e + 24)) hcX12_tells Q (73, [some (.inr (.inr (12, 0))), some (.inl x1), some (.inl x2), some (.inl x3), none, some (.inl x5), some (.inr (.inl x6)), none, some (.inl x8), none, none], [.inr (.inl q2.1)]) q2.2
      obtain ⟨hc, h⟩ := ite_nn h
      refine Wp.no (WpD.mono _) 12 (c := hwOut (((5 : Int32) * x2) + x8) 40) (q := ((92, [some (.inr (.inr (12, 0))), some (.inl x1), some (.inl x2), some (.inl x3), none, some (.inl x5), some (.inr (.inl x6)), none, some (.inl x8), some (.inr (.inl (q2.1 - x5.toInt64))), none], [.inr (.inl (q2.2.2.2.2.1 102 0 ((((5 : Int32) * x2) + x8)).toNatClampNeg)), .inr (.inl x6)]), q2.2)) rfl hc ?_
      refine Wp.run (WpD.mono _) 2 (q := ((96, [some (.inr (.inr (12, 0))), some (.inl x1), some (.inl x2), some (.inl x3), none, some (.inl x5), some (.inr (.inl x6)), none, some (.inl x8), some (.inr (.inl (q2.1 - x5.toInt64))), none], [.inl x8, .inl x1, .inr (.inr (12, 0)), .inr (.inl (q2.2.2.2.2.1 102 0 ((((5 : Int32) * x2) + x8)).toNatClampNeg)), .inr (.inl x6)]), q2.2)) rfl ?_
      obtain ⟨q3, hb, h⟩ := bind_some h
      refine Wp.call (WpD.mono _) rfl (T_X12_waterOf (e + 21) N x1 x8 q2.2 _ _ _ hb ?_)
      show Wp (WpD (e + 24)) hcX12_tells Q (99, [some (.inr (.inr (12, 0))), some (.inl x1), some (.inl x2), some (.inl x3), none, some (.inl x5), some (.inr (.inl x6)), none, some (.inl x8), some (.inr (.inl (q2.1 - x5.toInt64))), none], [.inl q3.1, .inr (.inl (q2.2.2.2.2.1 102 0 ((((5 : Int32) * x2) + x8)).toNatClampNeg)), .inr (.inl x6)]) q3.2
      refine Wp.br (WpD.mono _) 7 (c := 0 ≤ (lg_cmp (q2.1 - x5.toInt64) (0 : Int64))) (q1 := ((116, [some (.inr (.inr (12, 0))), some (.inl x1), some (.inl x2), some (.inl x3), none, some (.inl x5), some (.inr (.inl x6)), none, some (.inl x8), some (.inr (.inl (q2.1 - x5.toInt64))), none], [.inr (.inl (((q2.2.2.2.2.1 102 0 ((((5 : Int32) * x2) + x8)).toNatClampNeg) * q3.1.toInt64) / (100 : Int64))), .inr (.inl x6)]), q3.2)) (q2 := ((112, [some (.inr (.inr (12, 0))), some (.inl x1), some (.inl x2), some (.inl x3), none, some (.inl x5), some (.inr (.inl x6)), none, some (.inl x8), some (.inr (.inl (q2.1 - x5.toInt64))), none], [.inr (.inl (((q2.2.2.2.2.1 102 0 ((((5 : Int32) * x2) + x8)).toNatClampNeg) * q3.1.toInt64) / (100 : Int64))), .inr (.inl x6)]), q3.2)) rfl (fun hc => ?_) (fun hc => ?_)
      · have h := (if_pos hc).symm.trans h
        refine Wp.run (WpD.mono _) 5 (q := ((58, [some (.inr (.inr (12, 0))), some (.inl x1), some (.inl x2), some (.inl x3), none, some (.inl x5), some (.inr (.inl (x6 + ((((q2.2.2.2.2.1 102 0 ((((5 : Int32) * x2) + x8)).toNatClampNeg) * q3.1.toInt64) / (100 : Int64)) * (q2.1 - x5.toInt64))))), none, some (.inl (x8 + (1 : Int32))), none, none], []), q3.2)) rfl ?_
        exact Wp.jump (WpD.mono _) rfl (ih x1 x2 x3 x5 (x6 + ((((q2.2.2.2.2.1 102 0 ((((5 : Int32) * x2) + x8)).toNatClampNeg) * q3.1.toInt64) / (100 : Int64)) * (q2.1 - x5.toInt64))) (x8 + (1 : Int32)) q3.2 h)
      · have h := (if_neg hc).symm.trans h
        refine Wp.run (WpD.mono _) 6 (q := ((58, [some (.inr (.inr (12, 0))), some (.inl x1), some (.inl x2), some (.inl x3), none, some (.inl x5), some (.inr (.inl (x6 + ((((q2.2.2.2.2.1 102 0 ((((5 : Int32) * x2) + x8)).toNatClampNeg) * q3.1.toInt64) / (100 : Int64)) * (0 : Int64))))), none, some (.inl (x8 + (1 : Int32))), none, none], []), q3.2)) rfl ?_
        exact Wp.jump (WpD.mono _) rfl (ih x1 x2 x3 x5 (x6 + ((((q2.2.2.2.2.1 102 0 ((((5 : Int32) * x2) + x8)).toNatClampNeg) * q3.1.toInt64) / (100 : Int64)) * (0 : Int64))) (x8 + (1 : Int32)) q3.2 h)

set_option maxRecDepth 100000 in
set_option maxHeartbeats 4000000 in
theorem T_X12_tells_b12 (e N : Nat) (g0 : Int32 → Int32 → Int32 → Int32 → Mem → Option (Int64 × Mem)) (hg0 : ∀ (a1 : Int32) (a2 : Int32) (a3 : Int32) (a4 : Int32) (σ : Mem) (r : Int64) (τ : Mem) (Q : Pst), g0 a1 a2 a3 a4 σ = some (r, τ) → Q (some (.inr (.inl r))) τ → WpD (e + 24) mX12_tells [.inr (.inr (12, 0)), .inl a1, .inl a2, .inl a3, .inl a4] σ Q)  (r : Int64) (τ : Mem) (Q : Pst) (hQ : Q (some (.inr (.inl r))) τ) : ∀ (x1 : Int32) (x2 : Int32) (x4 : Int32) (σ : Mem), F_X12_tells_b12 N g0 x1 x2 x4 σ = some (r, τ) → Wp (WpD (e + 24)) hcX12_tells Q (12, [some (.inr (.inr (12, 0))), some (.inl x1), some (.inl x2), none, some (.inl x4), none, none, none, none, none, none], []) σ := by
  intro x1 x2 x4 σ h
  unfold F_X12_tells_b12 at h
  refine Wp.run (WpD.mono _) 2 (q := ((15, [some (.inr (.inr (12, 0))), some (.inl x1), some (.inl x2), none, some (.inl x4), none, none, none, none, none, none], [.inl x2, .inl x1, .inr (.inr (12, 0))]), σ)) rfl ?_
  obtain ⟨q7, hb, h⟩ := bind_some h
  refine Wp.call (WpD.mono _) rfl (T_X12_valueOf (e + 0) N x1 x2 σ _ _ _ hb ?_)
  show Wp (WpD (e + 24)) hcX12_tells Q (18, [some (.inr (.inr (12, 0))), some (.inl x1), some (.inl x2), none, some (.inl x4), none, none, none, none, none, none], [.inr (.inl q7.1)]) q7.2
  refine Wp.br (WpD.mono _) 9 (c := 0 ≤ (lg_cmp (q7.1 - ((1000000 : Int64) * x4.toInt64)) (0 : Int64))) (q1 := ((39, [some (.inr (.inr (12, 0))), some (.inl x1), some (.inl x2), none, some (.inl x4), some (.inr (.inl (q7.1 - ((1000000 : Int64) * x4.toInt64)))), none, none, none, none, none], []), q7.2)) (q2 := ((35, [some (.inr (.inr (12, 0))), some (.inl x1), some (.inl x2), none, some (.inl x4), some (.inr (.inl (q7.1 - ((1000000 : Int64) * x4.toInt64)))), none, none, none, none, none], []), q7.2)) rfl (fun hc => ?_) (fun hc => ?_)
  · have h := (if_pos hc).symm.trans h
    refine Wp.run (WpD.mono _) 0 (q := ((41, [some (.inr (.inr (12, 0))), some (.inl x1), some (.inl x2), none, some (.inl x4), some (.inr (.inl (q7.1 - ((1000000 : Int64) * x4.toInt64)))), none, none, none, none, none], [.inr (.inl (q7.1 - ((1000000 : Int64) * x4.toInt64)))]), q7.2)) rfl ?_
    cases h
    exact Wp.ret (WpD.mono _) rfl hQ
  · have h := (if_neg hc).symm.trans h
    refine Wp.run (WpD.mono _) 1 (q := ((41, [some (.inr (.inr (12, 0))), some (.inl x1), some (.inl x2), none, some (.inl x4), some (.inr (.inl (q7.1 - ((1000000 : Int64) * x4.toInt64)))), none, none, none, none, none], [.inr (.inl (0 : Int64))]), q7.2)) rfl ?_
    cases h
    exact Wp.ret (WpD.mono _) rfl hQ

set_option maxRecDepth 100000 in
set_option maxHeartbeats 4000000 in
theorem TB_X12_tells (e N : Nat) (g0 : Int32 → Int32 → Int32 → Int32 → Mem → Option (Int64 × Mem)) (hg0 : ∀ (a1 : Int32) (a2 : Int32) (a3 : Int32) (a4 : Int32) (σ : Mem) (r : Int64) (τ : Mem) (Q : Pst), g0 a1 a2 a3 a4 σ = some (r, τ) → Q (some (.inr (.inl r))) τ → WpD (e + 24) mX12_tells [.inr (.inr (12, 0)), .inl a1, .inl a2, .inl a3, .inl a4] σ Q) (a1 : Int32) (a2 : Int32) (a3 : Int32) (a4 : Int32) (σ : Mem) (r : Int64) (τ : Mem) (Q : Pst) (h : B_X12_tells N g0 a1 a2 a3 a4 σ = some (r, τ)) (hQ : Q (some (.inr (.inl r))) τ) : WpD (e + 1 + 24) mX12_tells [.inr (.inr (12, 0)), .inl a1, .inl a2, .inl a3, .inl a4] σ Q := by
  refine WpD.of (d := e + 24) (Nat.le_of_ble_eq_true rfl) (Nat.le_of_ble_eq_true rfl) ?_
  show Wp (WpD (e + 24)) hcX12_tells Q (0, [some (.inr (.inr (12, 0))), some (.inl a1), some (.inl a2), some (.inl a3), some (.inl a4), none, none, none, none, none, none], []) σ
  unfold B_X12_tells at h
  refine Wp.br (WpD.mono _) 1 (c := a3 = 0) (q1 := ((12, [some (.inr (.inr (12, 0))), some (.inl a1), some (.inl a2), some (.inl a3), some (.inl a4), none, none, none, none, none, none], []), σ)) (q2 := ((4, [some (.inr (.inr (12, 0))), some (.inl a1), some (.inl a2), some (.inl a3), some (.inl a4), none, none, none, none, none, none], []), σ)) rfl (fun hc => ?_) (fun hc => ?_)
  · have h := (if_pos hc).symm.trans h
    exact Wp.jump (WpD.mono _) rfl ((T_X12_tells_b12 e N g0 hg0 r τ Q hQ ) a1 a2 a4 σ h)
  · have h := (if_neg hc).symm.trans h
    refine Wp.br (WpD.mono _) 3 (c := a1 ≤ (σ.1 12 0)) (q1 := ((42, [some (.inr (.inr (12, 0))), some (.inl a1), some (.inl a2), some (.inl a3), some (.inl a4), none, none, none, none, none, none], []), σ)) (q2 := ((12, [some (.inr (.inr (12, 0))), some (.inl a1), some (.inl a2), some (.inl a3), some (.inl a4), none, none, none, none, none, none], []), σ)) rfl (fun hc => ?_) (fun hc => ?_)
    · have h := (if_pos hc).symm.trans h
      refine Wp.run (WpD.mono _) 2 (q := ((46, [some (.inr (.inr (12, 0))), some (.inl a1), some (.inl a2), some (.inl a3), some (.inl a4), none, none, none, none, none, none], [.inl a1, .inr (.inr (12, 0)), .inl a4]), σ)) rfl ?_
      obtain ⟨q1, hb, h⟩ := bind_some h
      refine Wp.call (WpD.mono _) rfl (T_X12_costOf (e + 21) N a1 σ _ _ _ hb ?_)
      show Wp (WpD (e + 24)) hcX12_tells Q (49, [some (.inr (.inr (12, 0))), some (.inl a1), some (.inl a2), some (.inl a3), some (.inl a4), none, none, none, none, none, none], [.inl q1.1, .inl a4]) q1.2
      refine Wp.run (WpD.mono _) 5 (q := ((58, [some (.inr (.inr (12, 0))), some (.inl a1), some (.inl a2), some (.inl a3), some (.inl a4), some (.inl (a4 + q1.1)), some (.inr (.inl (0 : Int64))), none, some (.inl (0 : Int32)), none, none], []), q1.2)) rfl ?_
      exact Wp.jump (WpD.mono _) rfl ((T_X12_tells_b58 e N g0 hg0 r τ Q hQ  N) a1 a2 a3 (a4 + q1.1) (0 : Int64) (0 : Int32) q1.2 h)
    · have h := (if_neg hc).symm.trans h
      exact Wp.jump (WpD.mono _) rfl ((T_X12_tells_b12 e N g0 hg0 r τ Q hQ ) a1 a2 a4 σ h)

set_option maxRecDepth 100000 in
theorem TG_X12_tells (e N : Nat) : ∀ d : Nat, (∀ (a1 : Int32) (a2 : Int32) (a3 : Int32) (a4 : Int32) (σ : Mem) (r : Int64) (τ : Mem) (Q : Pst), (G_X12_tells N d) a1 a2 a3 a4 σ = some (r, τ) → Q (some (.inr (.inl r))) τ → WpD (e + d + 24) mX12_tells [.inr (.inr (12, 0)), .inl a1, .inl a2, .inl a3, .inl a4] σ Q) := by
  intro d
  induction d with
  | zero =>
    exact fun _ _ _ _ _ _ _ _ h => nomatch h
  | succ d ih =>
    exact fun a1 a2 a3 a4 σ r τ Q h hQ => TB_X12_tells (e + d) N (G_X12_tells N d) ih a1 a2 a3 a4 σ r τ Q h hQ

theorem T_X12_tells (e N : Nat) (a1 : Int32) (a2 : Int32) (a3 : Int32) (a4 : Int32) (σ : Mem) (r : Int64) (τ : Mem) (Q : Pst) (h : F_X12_tells N a1 a2 a3 a4 σ = some (r, τ)) (hQ : Q (some (.inr (.inl r))) τ) : WpD (e + 34) mX12_tells [.inr (.inr (12, 0)), .inl a1, .inl a2, .inl a3, .inl a4] σ Q := (TG_X12_tells e N 10) a1 a2 a3 a4 σ r τ Q h hQ
set_option maxRecDepth 100000 in
set_option maxHeartbeats 4000000 in
theorem T_X12_boreOf (e N : Nat)  (a1 : Int32) (a2 : Int32) (σ : Mem) (r : Int64) (τ : Mem) (Q : Pst) (h : F_X12_boreOf N a1 a2 σ = some (r, τ)) (hQ : Q (some (.inr (.inl r))) τ) : WpD (e + 35) mX12_boreOf [.inr (.inr (12, 0)), .inl a1, .inl a2] σ Q := by
  refine WpD.of (d := e + 34) (Nat.le_of_ble_eq_true rfl) (Nat.le_of_ble_eq_true rfl) ?_
  show Wp (WpD (e + 34)) hcX12_boreOf Q (0, [some (.inr (.inr (12, 0))), some (.inl a1), some (.inl a2)], []) σ
  unfold F_X12_boreOf at h
  obtain ⟨hc, h⟩ := ite_nn h
  refine Wp.no (WpD.mono _) 4 (c := hwOut a1 4) (q := ((7, [some (.inr (.inr (12, 0))), some (.inl a1), some (.inl a2)], [.inl (σ.2.2.1 77 0 (a1).toNatClampNeg), .inr (.inr (12, 0))]), σ)) rfl hc ?_
  refine Wp.run (WpD.mono _) 4 (q := ((12, [some (.inr (.inr (12, 0))), some (.inl a1), some (.inl a2)], [.inl (0 : Int32), .inl a2, .inl (0 : Int32), .inl ((σ.2.2.1 77 0 (a1).toNatClampNeg) + (1 : Int32)), .inr (.inr (12, 0))]), σ)) rfl ?_
  obtain ⟨q1, hb, h⟩ := bind_some h
  refine Wp.call (WpD.mono _) rfl (T_X12_tells (e + 0) N ((σ.2.2.1 77 0 (a1).toNatClampNeg) + (1 : Int32)) (0 : Int32) a2 (0 : Int32) σ _ _ _ hb ?_)
  show Wp (WpD (e + 34)) hcX12_boreOf Q (15, [some (.inr (.inr (12, 0))), some (.inl a1), some (.inl a2)], [.inr (.inl q1.1)]) q1.2
  obtain ⟨hc, h⟩ := ite_nn h
  refine Wp.no (WpD.mono _) 4 (c := hwOut a1 4) (q := ((22, [some (.inr (.inr (12, 0))), some (.inl a1), some (.inl a2)], [.inl (q1.2.2.2.1 77 0 (a1).toNatClampNeg), .inr (.inr (12, 0)), .inr (.inl q1.1)]), q1.2)) rfl hc ?_
  refine Wp.run (WpD.mono _) 2 (q := ((25, [some (.inr (.inr (12, 0))), some (.inl a1), some (.inl a2)], [.inl (0 : Int32), .inl ((q1.2.2.2.1 77 0 (a1).toNatClampNeg) + (1 : Int32)), .inr (.inr (12, 0)), .inr (.inl q1.1)]), q1.2)) rfl ?_
  obtain ⟨q2, hb, h⟩ := bind_some h
  refine Wp.call (WpD.mono _) rfl (T_X12_valueOf (e + 10) N ((q1.2.2.2.1 77 0 (a1).toNatClampNeg) + (1 : Int32)) (0 : Int32) q1.2 _ _ _ hb ?_)
  show Wp (WpD (e + 34)) hcX12_boreOf Q (28, [some (.inr (.inr (12, 0))), some (.inl a1), some (.inl a2)], [.inr (.inl q2.1), .inr (.inl q1.1)]) q2.2
  refine Wp.run (WpD.mono _) 0 (q := ((29, [some (.inr (.inr (12, 0))), some (.inl a1), some (.inl a2)], [.inr (.inl (q1.1 - q2.1))]), q2.2)) rfl ?_
  cases h
  exact Wp.ret (WpD.mono _) rfl hQ

set_option maxRecDepth 100000 in
set_option maxHeartbeats 4000000 in
theorem T_X12_bore (e N : Nat)  (a1 : Int32) (a2 : Int32) (σ : Mem) (r : Int64) (τ : Mem) (Q : Pst) (h : F_X12_bore N a1 a2 σ = some (r, τ)) (hQ : Q (some (.inr (.inl r))) τ) : WpD (e + 36) mX12_bore [.inr (.inr (12, 0)), .inl a1, .inl a2] σ Q := by
  refine WpD.of (d := e + 35) (Nat.le_of_ble_eq_true rfl) (Nat.le_of_ble_eq_true rfl) ?_
  show Wp (WpD (e + 35)) hcX12_bore Q (0, [some (.inr (.inr (12, 0))), some (.inl a1), some (.inl a2)], []) σ
  unfold F_X12_bore at h
  refine Wp.run (WpD.mono _) 1 (q := ((2, [some (.inr (.inr (12, 0))), some (.inl a1), some (.inl a2)], [.inl a1, .inr (.inr (12, 0))]), σ)) rfl ?_
  obtain ⟨q1, hb, h⟩ := bind_some h
  refine Wp.call (WpD.mono _) rfl (T_X12_isPlace (e + 33) N a1 σ _ _ _ hb ?_)
  show Wp (WpD (e + 35)) hcX12_bore Q (5, [some (.inr (.inr (12, 0))), some (.inl a1), some (.inl a2)], [.inl q1.1]) q1.2
  refine Wp.br (WpD.mono _) 0 (c := q1.1 = 0) (q1 := ((17, [some (.inr (.inr (12, 0))), some (.inl a1), some (.inl a2)], []), q1.2)) (q2 := ((8, [some (.inr (.inr (12, 0))), some (.inl a1), some (.inl a2)], []), q1.2)) rfl (fun hc => ?_) (fun hc => ?_)
  · have h := (if_pos hc).symm.trans h
    refine Wp.run (WpD.mono _) 0 (q := ((20, [none, none, none], [.inr (.inl (-4611686018427387904 : Int64))]), q1.2)) rfl ?_
    cases h
    exact Wp.ret (WpD.mono _) rfl hQ
  · have h := (if_neg hc).symm.trans h
    refine Wp.run (WpD.mono _) 2 (q := ((11, [some (.inr (.inr (12, 0))), some (.inl a1), some (.inl a2)], [.inl (5 : Int32), .inl (0 : Int32), .inl a2]), q1.2)) rfl ?_
    obtain ⟨q2, hb, h⟩ := bind_some h
    refine Wp.call (WpD.mono _) rfl (T_X12_in (e + 34) N a2 (0 : Int32) (5 : Int32) q1.2 _ _ _ hb ?_)
    show Wp (WpD (e + 35)) hcX12_bore Q (14, [some (.inr (.inr (12, 0))), some (.inl a1), some (.inl a2)], [.inl q2.1]) q2.2
    refine Wp.br (WpD.mono _) 0 (c := q2.1 = 0) (q1 := ((17, [some (.inr (.inr (12, 0))), some (.inl a1), some (.inl a2)], []), q2.2)) (q2 := ((21, [some (.inr (.inr (12, 0))), some (.inl a1), some (.inl a2)], []), q2.2)) rfl (fun hc => ?_) (fun hc => ?_)
    · have h := (if_pos hc).symm.trans h
      refine Wp.run (WpD.mono _) 0 (q := ((20, [none, none, none], [.inr (.inl (-4611686018427387904 : Int64))]), q2.2)) rfl ?_
      cases h
      exact Wp.ret (WpD.mono _) rfl hQ
    · have h := (if_neg hc).symm.trans h
      refine Wp.run (WpD.mono _) 1 (q := ((23, [some (.inr (.inr (12, 0))), some (.inl a1), some (.inl a2)], [.inl a1, .inr (.inr (12, 0))]), q2.2)) rfl ?_
      obtain ⟨q3, hb, h⟩ := bind_some h
      refine Wp.call (WpD.mono _) rfl (T_X12_goesHere (e + 29) N a1 q2.2 _ _ _ hb ?_)
      show Wp (WpD (e + 35)) hcX12_bore Q (26, [some (.inr (.inr (12, 0))), some (.inl a1), some (.inl a2)], [.inl q3.1]) q3.2
      refine Wp.br (WpD.mono _) 0 (c := q3.1 = 0) (q1 := ((38, [some (.inr (.inr (12, 0))), some (.inl a1), some (.inl a2)], []), q3.2)) (q2 := ((29, [some (.inr (.inr (12, 0))), some (.inl a1), some (.inl a2)], []), q3.2)) rfl (fun hc => ?_) (fun hc => ?_)
      · have h := (if_pos hc).symm.trans h
        refine Wp.run (WpD.mono _) 0 (q := ((41, [some (.inr (.inr (12, 0))), some (.inl a1), some (.inl a2)], [.inr (.inl (-3 : Int64))]), q3.2)) rfl ?_
        cases h
        exact Wp.ret (WpD.mono _) rfl hQ
      · have h := (if_neg hc).symm.trans h
        refine Wp.run (WpD.mono _) 2 (q := ((32, [some (.inr (.inr (12, 0))), some (.inl a1), some (.inl a2)], [.inl a2, .inl a1, .inr (.inr (12, 0))]), q3.2)) rfl ?_
        obtain ⟨q4, hb, h⟩ := bind_some h
        refine Wp.call (WpD.mono _) rfl (T_X12_boreOf (e + 0) N a1 a2 q3.2 _ _ _ hb ?_)
        show Wp (WpD (e + 35)) hcX12_bore Q (35, [some (.inr (.inr (12, 0))), some (.inl a1), some (.inl a2)], [.inr (.inl q4.1)]) q4.2
        refine Wp.run (WpD.mono _) 0 (q := ((41, [some (.inr (.inr (12, 0))), some (.inl a1), some (.inl a2)], [.inr (.inl q4.1)]), q4.2)) rfl ?_
        cases h
        exact Wp.ret (WpD.mono _) rfl hQ


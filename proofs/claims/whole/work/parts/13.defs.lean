theorem Wp.exec {C : Nat → List AV → Mem → Pst → Prop} (hC : Mono C) {cd : Cd} {Q : Pst} {pc : Nat} {L : Lc} {st : List AV} {σ : Mem} {e : En} {q : Fr × Mem} (he : hwFind cd pc = some e) (hx : hwX e (hwM e.2.2.2.2 L) st σ = some q) (k : Wp C cd Q q.1 q.2) : Wp C cd Q (pc, L, st) σ :=
  Wp.step hC ⟨e, he, Or.inl ⟨q, hx, k⟩⟩
theorem Wp.if0_eq {C : Nat → List AV → Mem → Pst → Prop} (hC : Mono C) {cd : Cd} {Q : Pst} {pc pc' len t : Nat} {off : Int} {dt : Dt} {msk : List Bool} {L : Lc} {r : List AV} {σ : Mem} {x : Int32} (he : hwFind cd pc = some (pc', .ifCond .eq off, len, dt, msk)) (ht : hwT pc' off = some t) (k1 : x = 0 → Wp C cd Q (t, hwM msk L, r) σ) (k2 : ¬ x = 0 → Wp C cd Q (pc' + 3, hwM msk L, r) σ) : Wp C cd Q (pc, L, .inl x :: r) σ := by
  obtain ⟨a, b, c, d, f, z⟩ := dt
  have hx : hwX (pc', .ifCond .eq off, len, (a, b, c, d, f, z), msk) (hwM msk L) (.inl x :: r) σ = if x = 0 then some ((t, hwM msk L, r), σ) else some ((pc' + 3, hwM msk L, r), σ) := by
    show (match hwT pc' off with | some t => hwIf0 .eq t (pc' + 3) (hwM msk L) (.inl x :: r) σ | none => none) = _
    rw [ht]; rfl
  by_cases hc : x = 0
  · rw [if_pos hc] at hx; exact Wp.exec hC he hx (k1 hc)
  · rw [if_neg hc] at hx; exact Wp.exec hC he hx (k2 hc)
theorem Wp.if0_ne {C : Nat → List AV → Mem → Pst → Prop} (hC : Mono C) {cd : Cd} {Q : Pst} {pc pc' len t : Nat} {off : Int} {dt : Dt} {msk : List Bool} {L : Lc} {r : List AV} {σ : Mem} {x : Int32} (he : hwFind cd pc = some (pc', .ifCond .ne off, len, dt, msk)) (ht : hwT pc' off = some t) (k1 : x = 0 → Wp C cd Q (pc' + 3, hwM msk L, r) σ) (k2 : ¬ x = 0 → Wp C cd Q (t, hwM msk L, r) σ) : Wp C cd Q (pc, L, .inl x :: r) σ := by
  obtain ⟨a, b, c, d, f, z⟩ := dt
  have hx : hwX (pc', .ifCond .ne off, len, (a, b, c, d, f, z), msk) (hwM msk L) (.inl x :: r) σ = if x = 0 then some ((pc' + 3, hwM msk L, r), σ) else some ((t, hwM msk L, r), σ) := by
    show (match hwT pc' off with | some t => hwIf0 .ne t (pc' + 3) (hwM msk L) (.inl x :: r) σ | none => none) = _
    rw [ht]; rfl
  by_cases hc : x = 0
  · rw [if_pos hc] at hx; exact Wp.exec hC he hx (k1 hc)
  · rw [if_neg hc] at hx; exact Wp.exec hC he hx (k2 hc)
theorem Wp.if0_lt {C : Nat → List AV → Mem → Pst → Prop} (hC : Mono C) {cd : Cd} {Q : Pst} {pc pc' len t : Nat} {off : Int} {dt : Dt} {msk : List Bool} {L : Lc} {r : List AV} {σ : Mem} {x : Int32} (he : hwFind cd pc = some (pc', .ifCond .lt off, len, dt, msk)) (ht : hwT pc' off = some t) (k1 : x < 0 → Wp C cd Q (t, hwM msk L, r) σ) (k2 : ¬ x < 0 → Wp C cd Q (pc' + 3, hwM msk L, r) σ) : Wp C cd Q (pc, L, .inl x :: r) σ := by
  obtain ⟨a, b, c, d, f, z⟩ := dt
  have hx : hwX (pc', .ifCond .lt off, len, (a, b, c, d, f, z), msk) (hwM msk L) (.inl x :: r) σ = if x < 0 then some ((t, hwM msk L, r), σ) else some ((pc' + 3, hwM msk L, r), σ) := by
    show (match hwT pc' off with | some t => hwIf0 .lt t (pc' + 3) (hwM msk L) (.inl x :: r) σ | none => none) = _
    rw [ht]; rfl
  by_cases hc : x < 0
  · rw [if_pos hc] at hx; exact Wp.exec hC he hx (k1 hc)
  · rw [if_neg hc] at hx; exact Wp.exec hC he hx (k2 hc)
theorem Wp.if0_ge {C : Nat → List AV → Mem → Pst → Prop} (hC : Mono C) {cd : Cd} {Q : Pst} {pc pc' len t : Nat} {off : Int} {dt : Dt} {msk : List Bool} {L : Lc} {r : List AV} {σ : Mem} {x : Int32} (he : hwFind cd pc = some (pc', .ifCond .ge off, len, dt, msk)) (ht : hwT pc' off = some t) (k1 : 0 ≤ x → Wp C cd Q (t, hwM msk L, r) σ) (k2 : ¬ 0 ≤ x → Wp C cd Q (pc' + 3, hwM msk L, r) σ) : Wp C cd Q (pc, L, .inl x :: r) σ := by
  obtain ⟨a, b, c, d, f, z⟩ := dt
  have hx : hwX (pc', .ifCond .ge off, len, (a, b, c, d, f, z), msk) (hwM msk L) (.inl x :: r) σ = if 0 ≤ x then some ((t, hwM msk L, r), σ) else some ((pc' + 3, hwM msk L, r), σ) := by
    show (match hwT pc' off with | some t => hwIf0 .ge t (pc' + 3) (hwM msk L) (.inl x :: r) σ | none => none) = _
    rw [ht]; rfl
  by_cases hc : 0 ≤ x
  · rw [if_pos hc] at hx; exact Wp.exec hC he hx (k1 hc)
  · rw [if_neg hc] at hx; exact Wp.exec hC he hx (k2 hc)
theorem Wp.if0_gt {C : Nat → List AV → Mem → Pst → Prop} (hC : Mono C) {cd : Cd} {Q : Pst} {pc pc' len t : Nat} {off : Int} {dt : Dt} {msk : List Bool} {L : Lc} {r : List AV} {σ : Mem} {x : Int32} (he : hwFind cd pc = some (pc', .ifCond .gt off, len, dt, msk)) (ht : hwT pc' off = some t) (k1 : 0 < x → Wp C cd Q (t, hwM msk L, r) σ) (k2 : ¬ 0 < x → Wp C cd Q (pc' + 3, hwM msk L, r) σ) : Wp C cd Q (pc, L, .inl x :: r) σ := by
  obtain ⟨a, b, c, d, f, z⟩ := dt
  have hx : hwX (pc', .ifCond .gt off, len, (a, b, c, d, f, z), msk) (hwM msk L) (.inl x :: r) σ = if 0 < x then some ((t, hwM msk L, r), σ) else some ((pc' + 3, hwM msk L, r), σ) := by
    show (match hwT pc' off with | some t => hwIf0 .gt t (pc' + 3) (hwM msk L) (.inl x :: r) σ | none => none) = _
    rw [ht]; rfl
  by_cases hc : 0 < x
  · rw [if_pos hc] at hx; exact Wp.exec hC he hx (k1 hc)
  · rw [if_neg hc] at hx; exact Wp.exec hC he hx (k2 hc)
theorem Wp.if0_le {C : Nat → List AV → Mem → Pst → Prop} (hC : Mono C) {cd : Cd} {Q : Pst} {pc pc' len t : Nat} {off : Int} {dt : Dt} {msk : List Bool} {L : Lc} {r : List AV} {σ : Mem} {x : Int32} (he : hwFind cd pc = some (pc', .ifCond .le off, len, dt, msk)) (ht : hwT pc' off = some t) (k1 : x ≤ 0 → Wp C cd Q (t, hwM msk L, r) σ) (k2 : ¬ x ≤ 0 → Wp C cd Q (pc' + 3, hwM msk L, r) σ) : Wp C cd Q (pc, L, .inl x :: r) σ := by
  obtain ⟨a, b, c, d, f, z⟩ := dt
  have hx : hwX (pc', .ifCond .le off, len, (a, b, c, d, f, z), msk) (hwM msk L) (.inl x :: r) σ = if x ≤ 0 then some ((t, hwM msk L, r), σ) else some ((pc' + 3, hwM msk L, r), σ) := by
    show (match hwT pc' off with | some t => hwIf0 .le t (pc' + 3) (hwM msk L) (.inl x :: r) σ | none => none) = _
    rw [ht]; rfl
  by_cases hc : x ≤ 0
  · rw [if_pos hc] at hx; exact Wp.exec hC he hx (k1 hc)
  · rw [if_neg hc] at hx; exact Wp.exec hC he hx (k2 hc)
theorem Wp.if2_eq {C : Nat → List AV → Mem → Pst → Prop} (hC : Mono C) {cd : Cd} {Q : Pst} {pc pc' len t : Nat} {off : Int} {dt : Dt} {msk : List Bool} {L : Lc} {r : List AV} {σ : Mem} {x y : Int32} (he : hwFind cd pc = some (pc', .if_icmp .eq off, len, dt, msk)) (ht : hwT pc' off = some t) (k1 : x = y → Wp C cd Q (t, hwM msk L, r) σ) (k2 : ¬ x = y → Wp C cd Q (pc' + 3, hwM msk L, r) σ) : Wp C cd Q (pc, L, .inl y :: .inl x :: r) σ := by
  obtain ⟨a, b, c, d, f, z⟩ := dt
  have hx : hwX (pc', .if_icmp .eq off, len, (a, b, c, d, f, z), msk) (hwM msk L) (.inl y :: .inl x :: r) σ = if x = y then some ((t, hwM msk L, r), σ) else some ((pc' + 3, hwM msk L, r), σ) := by
    show (match hwT pc' off with | some t => hwIf2 .eq t (pc' + 3) (hwM msk L) (.inl y :: .inl x :: r) σ | none => none) = _
    rw [ht]; rfl
  by_cases hc : x = y
  · rw [if_pos hc] at hx; exact Wp.exec hC he hx (k1 hc)
  · rw [if_neg hc] at hx; exact Wp.exec hC he hx (k2 hc)
theorem Wp.if2_ne {C : Nat → List AV → Mem → Pst → Prop} (hC : Mono C) {cd : Cd} {Q : Pst} {pc pc' len t : Nat} {off : Int} {dt : Dt} {msk : List Bool} {L : Lc} {r : List AV} {σ : Mem} {x y : Int32} (he : hwFind cd pc = some (pc', .if_icmp .ne off, len, dt, msk)) (ht : hwT pc' off = some t) (k1 : x = y → Wp C cd Q (pc' + 3, hwM msk L, r) σ) (k2 : ¬ x = y → Wp C cd Q (t, hwM msk L, r) σ) : Wp C cd Q (pc, L, .inl y :: .inl x :: r) σ := by
  obtain ⟨a, b, c, d, f, z⟩ := dt
  have hx : hwX (pc', .if_icmp .ne off, len, (a, b, c, d, f, z), msk) (hwM msk L) (.inl y :: .inl x :: r) σ = if x = y then some ((pc' + 3, hwM msk L, r), σ) else some ((t, hwM msk L, r), σ) := by
    show (match hwT pc' off with | some t => hwIf2 .ne t (pc' + 3) (hwM msk L) (.inl y :: .inl x :: r) σ | none => none) = _
    rw [ht]; rfl
  by_cases hc : x = y
  · rw [if_pos hc] at hx; exact Wp.exec hC he hx (k1 hc)
  · rw [if_neg hc] at hx; exact Wp.exec hC he hx (k2 hc)
theorem Wp.if2_lt {C : Nat → List AV → Mem → Pst → Prop} (hC : Mono C) {cd : Cd} {Q : Pst} {pc pc' len t : Nat} {off : Int} {dt : Dt} {msk : List Bool} {L : Lc} {r : List AV} {σ : Mem} {x y : Int32} (he : hwFind cd pc = some (pc', .if_icmp .lt off, len, dt, msk)) (ht : hwT pc' off = some t) (k1 : x < y → Wp C cd Q (t, hwM msk L, r) σ) (k2 : ¬ x < y → Wp C cd Q (pc' + 3, hwM msk L, r) σ) : Wp C cd Q (pc, L, .inl y :: .inl x :: r) σ := by
  obtain ⟨a, b, c, d, f, z⟩ := dt
  have hx : hwX (pc', .if_icmp .lt off, len, (a, b, c, d, f, z), msk) (hwM msk L) (.inl y :: .inl x :: r) σ = if x < y then some ((t, hwM msk L, r), σ) else some ((pc' + 3, hwM msk L, r), σ) := by
    show (match hwT pc' off with | some t => hwIf2 .lt t (pc' + 3) (hwM msk L) (.inl y :: .inl x :: r) σ | none => none) = _
    rw [ht]; rfl
  by_cases hc : x < y
  · rw [if_pos hc] at hx; exact Wp.exec hC he hx (k1 hc)
  · rw [if_neg hc] at hx; exact Wp.exec hC he hx (k2 hc)
theorem Wp.if2_ge {C : Nat → List AV → Mem → Pst → Prop} (hC : Mono C) {cd : Cd} {Q : Pst} {pc pc' len t : Nat} {off : Int} {dt : Dt} {msk : List Bool} {L : Lc} {r : List AV} {σ : Mem} {x y : Int32} (he : hwFind cd pc = some (pc', .if_icmp .ge off, len, dt, msk)) (ht : hwT pc' off = some t) (k1 : y ≤ x → Wp C cd Q (t, hwM msk L, r) σ) (k2 : ¬ y ≤ x → Wp C cd Q (pc' + 3, hwM msk L, r) σ) : Wp C cd Q (pc, L, .inl y :: .inl x :: r) σ := by
  obtain ⟨a, b, c, d, f, z⟩ := dt
  have hx : hwX (pc', .if_icmp .ge off, len, (a, b, c, d, f, z), msk) (hwM msk L) (.inl y :: .inl x :: r) σ = if y ≤ x then some ((t, hwM msk L, r), σ) else some ((pc' + 3, hwM msk L, r), σ) := by
    show (match hwT pc' off with | some t => hwIf2 .ge t (pc' + 3) (hwM msk L) (.inl y :: .inl x :: r) σ | none => none) = _
    rw [ht]; rfl
  by_cases hc : y ≤ x
  · rw [if_pos hc] at hx; exact Wp.exec hC he hx (k1 hc)
  · rw [if_neg hc] at hx; exact Wp.exec hC he hx (k2 hc)
theorem Wp.if2_gt {C : Nat → List AV → Mem → Pst → Prop} (hC : Mono C) {cd : Cd} {Q : Pst} {pc pc' len t : Nat} {off : Int} {dt : Dt} {msk : List Bool} {L : Lc} {r : List AV} {σ : Mem} {x y : Int32} (he : hwFind cd pc = some (pc', .if_icmp .gt off, len, dt, msk)) (ht : hwT pc' off = some t) (k1 : y < x → Wp C cd Q (t, hwM msk L, r) σ) (k2 : ¬ y < x → Wp C cd Q (pc' + 3, hwM msk L, r) σ) : Wp C cd Q (pc, L, .inl y :: .inl x :: r) σ := by
  obtain ⟨a, b, c, d, f, z⟩ := dt
  have hx : hwX (pc', .if_icmp .gt off, len, (a, b, c, d, f, z), msk) (hwM msk L) (.inl y :: .inl x :: r) σ = if y < x then some ((t, hwM msk L, r), σ) else some ((pc' + 3, hwM msk L, r), σ) := by
    show (match hwT pc' off with | some t => hwIf2 .gt t (pc' + 3) (hwM msk L) (.inl y :: .inl x :: r) σ | none => none) = _
    rw [ht]; rfl
  by_cases hc : y < x
  · rw [if_pos hc] at hx; exact Wp.exec hC he hx (k1 hc)
  · rw [if_neg hc] at hx; exact Wp.exec hC he hx (k2 hc)
theorem Wp.if2_le {C : Nat → List AV → Mem → Pst → Prop} (hC : Mono C) {cd : Cd} {Q : Pst} {pc pc' len t : Nat} {off : Int} {dt : Dt} {msk : List Bool} {L : Lc} {r : List AV} {σ : Mem} {x y : Int32} (he : hwFind cd pc = some (pc', .if_icmp .le off, len, dt, msk)) (ht : hwT pc' off = some t) (k1 : x ≤ y → Wp C cd Q (t, hwM msk L, r) σ) (k2 : ¬ x ≤ y → Wp C cd Q (pc' + 3, hwM msk L, r) σ) : Wp C cd Q (pc, L, .inl y :: .inl x :: r) σ := by
  obtain ⟨a, b, c, d, f, z⟩ := dt
  have hx : hwX (pc', .if_icmp .le off, len, (a, b, c, d, f, z), msk) (hwM msk L) (.inl y :: .inl x :: r) σ = if x ≤ y then some ((t, hwM msk L, r), σ) else some ((pc' + 3, hwM msk L, r), σ) := by
    show (match hwT pc' off with | some t => hwIf2 .le t (pc' + 3) (hwM msk L) (.inl y :: .inl x :: r) σ | none => none) = _
    rw [ht]; rfl
  by_cases hc : x ≤ y
  · rw [if_pos hc] at hx; exact Wp.exec hC he hx (k1 hc)
  · rw [if_neg hc] at hx; exact Wp.exec hC he hx (k2 hc)
theorem Wp.X_ild1 {C : Nat → List AV → Mem → Pst → Prop} (hC : Mono C) {cd : Cd} {Q : Pst} {pc pc' len m b t q : Nat} {dt : Dt} {msk : List Bool} {fl : List (Nat × Nat)} {L : Lc} {r : List AV} {σ : Mem} {i : Int32} (he : hwFind cd pc = some (pc', .iaload, len, dt, msk)) (hs : hwSh t = (1, m, b, fl)) (hc : ¬ (hwOut i m)) (k : Wp C cd Q (pc' + 1, hwM msk L, .inl (σ.2.2.1 t q i.toNatClampNeg) :: r) σ) : Wp C cd Q (pc, L, .inl i :: .inr (.inr (t, q)) :: r) σ := by
  obtain ⟨a0, b0, c0, d0, f0, z0⟩ := dt
  refine Wp.exec hC he (q := ((pc' + 1, hwM msk L, .inl (σ.2.2.1 t q i.toNatClampNeg) :: r), σ)) ?_ k
  show hwILd (pc' + 1) (hwM msk L) (.inl i :: .inr (.inr (t, q)) :: r) σ = _
  unfold hwILd; simp only [hs]; exact if_neg hc
theorem Wp.X_ild6 {C : Nat → List AV → Mem → Pst → Prop} (hC : Mono C) {cd : Cd} {Q : Pst} {pc pc' len m b t q : Nat} {dt : Dt} {msk : List Bool} {fl : List (Nat × Nat)} {L : Lc} {r : List AV} {σ : Mem} {i : Int32} (he : hwFind cd pc = some (pc', .iaload, len, dt, msk)) (hs : hwSh t = (6, m, b, fl)) (hc : ¬ (hwOut i σ.2.2.2.2.1)) (k : Wp C cd Q (pc' + 1, hwM msk L, .inl (σ.2.2.2.2.2 i.toNatClampNeg) :: r) σ) : Wp C cd Q (pc, L, .inl i :: .inr (.inr (t, q)) :: r) σ := by
  obtain ⟨a0, b0, c0, d0, f0, z0⟩ := dt
  refine Wp.exec hC he (q := ((pc' + 1, hwM msk L, .inl (σ.2.2.2.2.2 i.toNatClampNeg) :: r), σ)) ?_ k
  show hwILd (pc' + 1) (hwM msk L) (.inl i :: .inr (.inr (t, q)) :: r) σ = _
  unfold hwILd; simp only [hs]; exact if_neg hc
theorem Wp.X_ild7 {C : Nat → List AV → Mem → Pst → Prop} (hC : Mono C) {cd : Cd} {Q : Pst} {pc pc' len m b t q : Nat} {dt : Dt} {msk : List Bool} {fl : List (Nat × Nat)} {L : Lc} {r : List AV} {σ : Mem} {i : Int32} (he : hwFind cd pc = some (pc', .iaload, len, dt, msk)) (hs : hwSh t = (7, m, b, fl)) (hc : ¬ (hwOut i (ntD [] hwSA m).length)) (k : Wp C cd Q (pc' + 1, hwM msk L, .inl (ntD 0 (ntD [] hwSA m) i.toNatClampNeg) :: r) σ) : Wp C cd Q (pc, L, .inl i :: .inr (.inr (t, q)) :: r) σ := by
  obtain ⟨a0, b0, c0, d0, f0, z0⟩ := dt
  refine Wp.exec hC he (q := ((pc' + 1, hwM msk L, .inl (ntD 0 (ntD [] hwSA m) i.toNatClampNeg) :: r), σ)) ?_ k
  show hwILd (pc' + 1) (hwM msk L) (.inl i :: .inr (.inr (t, q)) :: r) σ = _
  unfold hwILd; simp only [hs]; exact if_neg hc
theorem Wp.X_zld {C : Nat → List AV → Mem → Pst → Prop} (hC : Mono C) {cd : Cd} {Q : Pst} {pc pc' len m b t q : Nat} {dt : Dt} {msk : List Bool} {fl : List (Nat × Nat)} {L : Lc} {r : List AV} {σ : Mem} {i : Int32} (he : hwFind cd pc = some (pc', .baload, len, dt, msk)) (hs : hwSh t = (2, m, b, fl)) (hc : ¬ (hwOut i m)) (k : Wp C cd Q (pc' + 1, hwM msk L, .inl (σ.2.2.1 t q i.toNatClampNeg) :: r) σ) : Wp C cd Q (pc, L, .inl i :: .inr (.inr (t, q)) :: r) σ := by
  obtain ⟨a0, b0, c0, d0, f0, z0⟩ := dt
  refine Wp.exec hC he (q := ((pc' + 1, hwM msk L, .inl (σ.2.2.1 t q i.toNatClampNeg) :: r), σ)) ?_ k
  show hwZLd (pc' + 1) (hwM msk L) (.inl i :: .inr (.inr (t, q)) :: r) σ = _
  unfold hwZLd; simp only [hs]; exact if_neg hc
theorem Wp.X_lld {C : Nat → List AV → Mem → Pst → Prop} (hC : Mono C) {cd : Cd} {Q : Pst} {pc pc' len m b t q : Nat} {dt : Dt} {msk : List Bool} {fl : List (Nat × Nat)} {L : Lc} {r : List AV} {σ : Mem} {i : Int32} (he : hwFind cd pc = some (pc', .laload, len, dt, msk)) (hs : hwSh t = (3, m, b, fl)) (hc : ¬ (hwOut i m)) (k : Wp C cd Q (pc' + 1, hwM msk L, .inr (.inl (σ.2.2.2.1 t q i.toNatClampNeg)) :: r) σ) : Wp C cd Q (pc, L, .inl i :: .inr (.inr (t, q)) :: r) σ := by
  obtain ⟨a0, b0, c0, d0, f0, z0⟩ := dt
  refine Wp.exec hC he (q := ((pc' + 1, hwM msk L, .inr (.inl (σ.2.2.2.1 t q i.toNatClampNeg)) :: r), σ)) ?_ k
  show hwLLd (pc' + 1) (hwM msk L) (.inl i :: .inr (.inr (t, q)) :: r) σ = _
  unfold hwLLd; simp only [hs]; exact if_neg hc
theorem Wp.X_rld4 {C : Nat → List AV → Mem → Pst → Prop} (hC : Mono C) {cd : Cd} {Q : Pst} {pc pc' len m b t q : Nat} {dt : Dt} {msk : List Bool} {fl : List (Nat × Nat)} {L : Lc} {r : List AV} {σ : Mem} {i : Int32} (he : hwFind cd pc = some (pc', .aaload, len, dt, msk)) (hs : hwSh t = (4, m, b, fl)) (hc : ¬ (hwOut i m)) (k : Wp C cd Q (pc' + 1, hwM msk L, .inr (.inr (b, i.toNatClampNeg)) :: r) σ) : Wp C cd Q (pc, L, .inl i :: .inr (.inr (t, q)) :: r) σ := by
  obtain ⟨a0, b0, c0, d0, f0, z0⟩ := dt
  refine Wp.exec hC he (q := ((pc' + 1, hwM msk L, .inr (.inr (b, i.toNatClampNeg)) :: r), σ)) ?_ k
  show hwRLd (pc' + 1) (hwM msk L) (.inl i :: .inr (.inr (t, q)) :: r) σ = _
  unfold hwRLd; simp only [hs]; exact if_neg hc
theorem Wp.X_rld5 {C : Nat → List AV → Mem → Pst → Prop} (hC : Mono C) {cd : Cd} {Q : Pst} {pc pc' len m b t q : Nat} {dt : Dt} {msk : List Bool} {fl : List (Nat × Nat)} {L : Lc} {r : List AV} {σ : Mem} {i : Int32} (he : hwFind cd pc = some (pc', .aaload, len, dt, msk)) (hs : hwSh t = (5, m, b, fl)) (hc : ¬ (hwOut i m)) (k : Wp C cd Q (pc' + 1, hwM msk L, .inr (.inr (b, i.toNatClampNeg)) :: r) σ) : Wp C cd Q (pc, L, .inl i :: .inr (.inr (t, q)) :: r) σ := by
  obtain ⟨a0, b0, c0, d0, f0, z0⟩ := dt
  refine Wp.exec hC he (q := ((pc' + 1, hwM msk L, .inr (.inr (b, i.toNatClampNeg)) :: r), σ)) ?_ k
  show hwRLd (pc' + 1) (hwM msk L) (.inl i :: .inr (.inr (t, q)) :: r) σ = _
  unfold hwRLd; simp only [hs]; exact if_neg hc
theorem Wp.X_ist {C : Nat → List AV → Mem → Pst → Prop} (hC : Mono C) {cd : Cd} {Q : Pst} {pc pc' len m b t q : Nat} {dt : Dt} {msk : List Bool} {fl : List (Nat × Nat)} {L : Lc} {r : List AV} {σ : Mem} {i : Int32} {x : Int32} (he : hwFind cd pc = some (pc', .iastore, len, dt, msk)) (hs : hwSh t = (1, m, b, fl)) (hc : ¬ (hwOut i m)) (k : Wp C cd Q (pc' + 1, hwM msk L, r) (σ.1, σ.2.1, hwU3 σ.2.2.1 t q i.toNatClampNeg x, σ.2.2.2)) : Wp C cd Q (pc, L, .inl x :: .inl i :: .inr (.inr (t, q)) :: r) σ := by
  obtain ⟨a0, b0, c0, d0, f0, z0⟩ := dt
  refine Wp.exec hC he (q := ((pc' + 1, hwM msk L, r), (σ.1, σ.2.1, hwU3 σ.2.2.1 t q i.toNatClampNeg x, σ.2.2.2))) ?_ k
  show hwISt (pc' + 1) (hwM msk L) (.inl x :: .inl i :: .inr (.inr (t, q)) :: r) σ = _
  unfold hwISt; simp only [hs]; exact if_neg hc
theorem Wp.X_zst {C : Nat → List AV → Mem → Pst → Prop} (hC : Mono C) {cd : Cd} {Q : Pst} {pc pc' len m b t q : Nat} {dt : Dt} {msk : List Bool} {fl : List (Nat × Nat)} {L : Lc} {r : List AV} {σ : Mem} {i : Int32} {x : Int32} (he : hwFind cd pc = some (pc', .bastore, len, dt, msk)) (hs : hwSh t = (2, m, b, fl)) (hc : ¬ (hwOut i m)) (k : Wp C cd Q (pc' + 1, hwM msk L, r) (σ.1, σ.2.1, hwU3 σ.2.2.1 t q i.toNatClampNeg (vp_nar .boolean x), σ.2.2.2)) : Wp C cd Q (pc, L, .inl x :: .inl i :: .inr (.inr (t, q)) :: r) σ := by
  obtain ⟨a0, b0, c0, d0, f0, z0⟩ := dt
  refine Wp.exec hC he (q := ((pc' + 1, hwM msk L, r), (σ.1, σ.2.1, hwU3 σ.2.2.1 t q i.toNatClampNeg (vp_nar .boolean x), σ.2.2.2))) ?_ k
  show hwZSt (pc' + 1) (hwM msk L) (.inl x :: .inl i :: .inr (.inr (t, q)) :: r) σ = _
  unfold hwZSt; simp only [hs]; exact if_neg hc
theorem Wp.X_lst {C : Nat → List AV → Mem → Pst → Prop} (hC : Mono C) {cd : Cd} {Q : Pst} {pc pc' len m b t q : Nat} {dt : Dt} {msk : List Bool} {fl : List (Nat × Nat)} {L : Lc} {r : List AV} {σ : Mem} {i : Int32} {x : Int64} (he : hwFind cd pc = some (pc', .lastore, len, dt, msk)) (hs : hwSh t = (3, m, b, fl)) (hc : ¬ (hwOut i m)) (k : Wp C cd Q (pc' + 1, hwM msk L, r) (σ.1, σ.2.1, σ.2.2.1, hwU3 σ.2.2.2.1 t q i.toNatClampNeg x, σ.2.2.2.2)) : Wp C cd Q (pc, L, .inr (.inl x) :: .inl i :: .inr (.inr (t, q)) :: r) σ := by
  obtain ⟨a0, b0, c0, d0, f0, z0⟩ := dt
  refine Wp.exec hC he (q := ((pc' + 1, hwM msk L, r), (σ.1, σ.2.1, σ.2.2.1, hwU3 σ.2.2.2.1 t q i.toNatClampNeg x, σ.2.2.2.2))) ?_ k
  show hwLSt (pc' + 1) (hwM msk L) (.inr (.inl x) :: .inl i :: .inr (.inr (t, q)) :: r) σ = _
  unfold hwLSt; simp only [hs]; exact if_neg hc
theorem Wp.X_idiv {C : Nat → List AV → Mem → Pst → Prop} (hC : Mono C) {cd : Cd} {Q : Pst} {pc pc' len : Nat} {dt : Dt} {msk : List Bool} {L : Lc} {r : List AV} {σ : Mem} {x y : Int32} (he : hwFind cd pc = some (pc', .idiv, len, dt, msk)) (hc : ¬ y = 0) (k : Wp C cd Q (pc' + 1, hwM msk L, .inl (x / y) :: r) σ) : Wp C cd Q (pc, L, .inl y :: .inl x :: r) σ := by
  obtain ⟨a0, b0, c0, d0, f0, z0⟩ := dt
  exact Wp.exec hC he (q := ((pc' + 1, hwM msk L, .inl (x / y) :: r), σ)) (if_neg hc) k
theorem Wp.X_irem {C : Nat → List AV → Mem → Pst → Prop} (hC : Mono C) {cd : Cd} {Q : Pst} {pc pc' len : Nat} {dt : Dt} {msk : List Bool} {L : Lc} {r : List AV} {σ : Mem} {x y : Int32} (he : hwFind cd pc = some (pc', .irem, len, dt, msk)) (hc : ¬ y = 0) (k : Wp C cd Q (pc' + 1, hwM msk L, .inl (x - x / y * y) :: r) σ) : Wp C cd Q (pc, L, .inl y :: .inl x :: r) σ := by
  obtain ⟨a0, b0, c0, d0, f0, z0⟩ := dt
  exact Wp.exec hC he (q := ((pc' + 1, hwM msk L, .inl (x - x / y * y) :: r), σ)) (if_neg hc) k
theorem Wp.X_ldiv {C : Nat → List AV → Mem → Pst → Prop} (hC : Mono C) {cd : Cd} {Q : Pst} {pc pc' len : Nat} {dt : Dt} {msk : List Bool} {L : Lc} {r : List AV} {σ : Mem} {x y : Int64} (he : hwFind cd pc = some (pc', .ldiv, len, dt, msk)) (hc : ¬ y = 0) (k : Wp C cd Q (pc' + 1, hwM msk L, .inr (.inl (x / y)) :: r) σ) : Wp C cd Q (pc, L, .inr (.inl y) :: .inr (.inl x) :: r) σ := by
  obtain ⟨a0, b0, c0, d0, f0, z0⟩ := dt
  exact Wp.exec hC he (q := ((pc' + 1, hwM msk L, .inr (.inl (x / y)) :: r), σ)) (if_neg hc) k
theorem Wp.X_lrem {C : Nat → List AV → Mem → Pst → Prop} (hC : Mono C) {cd : Cd} {Q : Pst} {pc pc' len : Nat} {dt : Dt} {msk : List Bool} {L : Lc} {r : List AV} {σ : Mem} {x y : Int64} (he : hwFind cd pc = some (pc', .lrem, len, dt, msk)) (hc : ¬ y = 0) (k : Wp C cd Q (pc' + 1, hwM msk L, .inr (.inl (x - x / y * y)) :: r) σ) : Wp C cd Q (pc, L, .inr (.inl y) :: .inr (.inl x) :: r) σ := by
  obtain ⟨a0, b0, c0, d0, f0, z0⟩ := dt
  exact Wp.exec hC he (q := ((pc' + 1, hwM msk L, .inr (.inl (x - x / y * y)) :: r), σ)) (if_neg hc) k
theorem Wp.X_putZ {C : Nat → List AV → Mem → Pst → Prop} (hC : Mono C) {cd : Cd} {Q : Pst} {pc pc' len idx t q m b u a0 ci kk d0 f0 : Nat} {z0 : Int} {msk : List Bool} {fl : List (Nat × Nat)} {L : Lc} {r : List AV} {σ : Mem} {x : Int32} (he : hwFind cd pc = some (pc', .putfield idx, len, (a0, ci, kk, d0, f0, z0), msk)) (hs : hwSh t = (0, ci, b, fl)) (hf : ntD (9, 0) fl kk = (3, u)) (hc : x = 0 ∨ x = 1) (k : Wp C cd Q (pc' + 3, hwM msk L, r) (hwU2 σ.1 t kk x, σ.2)) : Wp C cd Q (pc, L, .inl x :: .inr (.inr (t, q)) :: r) σ := by
  refine Wp.exec hC he (q := ((pc' + 3, hwM msk L, r), (hwU2 σ.1 t kk x, σ.2))) ?_ k
  show hwPut ci kk (pc' + 3) (hwM msk L) (.inl x :: .inr (.inr (t, q)) :: r) σ = _
  unfold hwPut
  have e : Nat.beq ci ci = true := by simp
  simp only [hs, e, cond_true, hf]
  exact if_pos hc
theorem Wp.X_chr {C : Nat → List AV → Mem → Pst → Prop} (hC : Mono C) {cd : Cd} {Q : Pst} {pc pc' len idx t q a b b1 c1 d0 f0 : Nat} {z0 : Int} {msk : List Bool} {fl : List (Nat × Nat)} {L : Lc} {r : List AV} {σ : Mem} {i : Int32} (he : hwFind cd pc = some (pc', .invokevirtual idx, len, (20, b1, c1, d0, f0, z0), msk)) (hs : hwSh t = (8, a, b, fl)) (h8 : Nat.ble (hwCats r) 8 = true) (hc : ¬ hwOut i (ntD [] hwST a).length) (k : Wp C cd Q (pc' + 3, hwM msk L, .inl (nI (ntD 0 (ntD [] hwST a) i.toNatClampNeg)) :: r) σ) : Wp C cd Q (pc, L, .inl i :: .inr (.inr (t, q)) :: r) σ := by
  refine Wp.exec hC he (q := ((pc' + 3, hwM msk L, .inl (nI (ntD 0 (ntD [] hwST a) i.toNatClampNeg)) :: r), σ)) ?_ k
  show hwPrim 20 (pc' + 3) (hwM msk L) (.inl i :: .inr (.inr (t, q)) :: r) σ = _
  unfold hwPrim
  simp only [hs, h8, cond_true]
  exact if_neg hc
theorem Wp.X_cpyI {C : Nat → List AV → Mem → Pst → Prop} (hC : Mono C) {cd : Cd} {Q : Pst} {pc pc' len idx m0 m1 b0 b1 t0 q0 t1 q1 a1 c1 d1 f2 : Nat} {z0 : Int} {msk : List Bool} {f0 f1 : List (Nat × Nat)} {L : Lc} {r : List AV} {σ : Mem} {z dp sp : Int32} (he : hwFind cd pc = some (pc', .invokestatic idx, len, (14, a1, c1, d1, f2, z0), msk)) (hs : hwSh t0 = (1, m0, b0, f0)) (hs1 : hwSh t1 = (1, m1, b1, f1)) (h8 : Nat.ble (hwCats r) 8 = true) (hc : ¬ (sp < 0 ∨ dp < 0 ∨ z < 0 ∨ m0 < sp.toNatClampNeg + z.toNatClampNeg ∨ m1 < dp.toNatClampNeg + z.toNatClampNeg)) (k : Wp C cd Q (pc' + 3, hwM msk L, r) (σ.1, σ.2.1, hwR3 σ.2.2.1 t1 q1 (va_cpy (σ.2.2.1 t0 q0) (σ.2.2.1 t1 q1) sp.toNatClampNeg dp.toNatClampNeg z.toNatClampNeg), σ.2.2.2)) : Wp C cd Q (pc, L, .inl z :: .inl dp :: .inr (.inr (t1, q1)) :: .inl sp :: .inr (.inr (t0, q0)) :: r) σ := by
  refine Wp.exec hC he (q := ((pc' + 3, hwM msk L, r), (σ.1, σ.2.1, hwR3 σ.2.2.1 t1 q1 (va_cpy (σ.2.2.1 t0 q0) (σ.2.2.1 t1 q1) sp.toNatClampNeg dp.toNatClampNeg z.toNatClampNeg), σ.2.2.2))) ?_ k
  show hwPrim 14 (pc' + 3) (hwM msk L) (.inl z :: .inl dp :: .inr (.inr (t1, q1)) :: .inl sp :: .inr (.inr (t0, q0)) :: r) σ = _
  unfold hwPrim
  simp only [hs, hs1, h8, cond_true]
  exact if_neg hc
theorem Wp.X_cpyL {C : Nat → List AV → Mem → Pst → Prop} (hC : Mono C) {cd : Cd} {Q : Pst} {pc pc' len idx m0 m1 b0 b1 t0 q0 t1 q1 a1 c1 d1 f2 : Nat} {z0 : Int} {msk : List Bool} {f0 f1 : List (Nat × Nat)} {L : Lc} {r : List AV} {σ : Mem} {z dp sp : Int32} (he : hwFind cd pc = some (pc', .invokestatic idx, len, (14, a1, c1, d1, f2, z0), msk)) (hs : hwSh t0 = (3, m0, b0, f0)) (hs1 : hwSh t1 = (3, m1, b1, f1)) (h8 : Nat.ble (hwCats r) 8 = true) (hc : ¬ (sp < 0 ∨ dp < 0 ∨ z < 0 ∨ m0 < sp.toNatClampNeg + z.toNatClampNeg ∨ m1 < dp.toNatClampNeg + z.toNatClampNeg)) (k : Wp C cd Q (pc' + 3, hwM msk L, r) (σ.1, σ.2.1, σ.2.2.1, hwR3 σ.2.2.2.1 t1 q1 (va_cpy (σ.2.2.2.1 t0 q0) (σ.2.2.2.1 t1 q1) sp.toNatClampNeg dp.toNatClampNeg z.toNatClampNeg), σ.2.2.2.2)) : Wp C cd Q (pc, L, .inl z :: .inl dp :: .inr (.inr (t1, q1)) :: .inl sp :: .inr (.inr (t0, q0)) :: r) σ := by
  refine Wp.exec hC he (q := ((pc' + 3, hwM msk L, r), (σ.1, σ.2.1, σ.2.2.1, hwR3 σ.2.2.2.1 t1 q1 (va_cpy (σ.2.2.2.1 t0 q0) (σ.2.2.2.1 t1 q1) sp.toNatClampNeg dp.toNatClampNeg z.toNatClampNeg), σ.2.2.2.2))) ?_ k
  show hwPrim 14 (pc' + 3) (hwM msk L) (.inl z :: .inl dp :: .inr (.inr (t1, q1)) :: .inl sp :: .inr (.inr (t0, q0)) :: r) σ = _
  unfold hwPrim
  simp only [hs, hs1, h8, cond_true]
  exact if_neg hc
def hwIx (a : Nat) (x : Int32) : Int32 := match (ntD [] hwST a).findIdx? (fun c => decide (nI c = x)) with | some i => nI i | none => -1
theorem ret_inj {α : Type} {a r : α} {b τ : Mem} (h : some (a, b) = some (r, τ)) : r = a ∧ τ = b := ⟨(Prod.mk.inj (Option.some.inj h)).1.symm, (Prod.mk.inj (Option.some.inj h)).2.symm⟩
theorem WpD.of {d m : Nat} {as : List AV} {σ : Mem} {Q : Pst} (h1 : m < hwLw) (h2 : hwCats as ≤ hwN m) (h3 : Wp (WpD d) (hwCd m) Q (0, hwEn as (hwN m), []) σ) : WpD (d + 1) m as σ Q := ⟨h1, h2, h3⟩

def F_X0_lots (N : Nat)   (σ : Mem) : Option (Int64 × Mem) :=
  some ((((σ.2.1 10 2) * (48271 : Int64)) - ((σ.2.1 10 2) * (48271 : Int64)) / (2147483647 : Int64) * (2147483647 : Int64)), (σ.1, (hwU2 σ.2.1 10 2 (((σ.2.1 10 2) * (48271 : Int64)) - ((σ.2.1 10 2) * (48271 : Int64)) / (2147483647 : Int64) * (2147483647 : Int64))), σ.2.2.1, σ.2.2.2.1, σ.2.2.2.2))
def F_X0_pick_t26_b21 (N : Nat)   : Nat → Nat → Int32 → Int64 → Int64 → Int32 → Mem → Option (Int32 × Mem)
  | 0, _, _, _, _, _, _ => none
  | n + 1, x1, x3, x4, x6, x8, σ =>
    if (σ.1 1 6) ≤ x8 then
      some (x3, σ)
    else
      if (5 : Int32) ≤ x8 then
        some (x3, σ)
      else
        if hwOut x8 5 then none else
        if (lg_cmp (x6 + (σ.2.2.1 26 x1 (x8).toNatClampNeg).toInt64) x4) ≤ 0 then
          (F_X0_pick_t26_b21 N n) x1 x3 x4 (x6 + (σ.2.2.1 26 x1 (x8).toNatClampNeg).toInt64) (x8 + (1 : Int32)) σ
        else
          some (x8, σ)
def F_X0_pick_t26 (N : Nat)  (a1 : Nat) (a2 : Int32) (a3 : Int32) (σ : Mem) : Option (Int32 × Mem) :=
  if 0 < a2 then
    (F_X0_lots N σ).bind (fun q1 =>
    if a2.toInt64 = 0 then none else
    (F_X0_pick_t26_b21 N N) a1 a3 (q1.1 - q1.1 / a2.toInt64 * a2.toInt64) (0 : Int64) (0 : Int32) q1.2)
  else
    some (a3, σ)
def F_X0_pick_t55_b21 (N : Nat)   : Nat → Nat → Int32 → Int64 → Int64 → Int32 → Mem → Option (Int32 × Mem)
  | 0, _, _, _, _, _, _ => none
  | n + 1, x1, x3, x4, x6, x8, σ =>
    if (σ.1 1 6) ≤ x8 then
      some (x3, σ)
    else
      if (5 : Int32) ≤ x8 then
        some (x3, σ)
      else
        if hwOut x8 5 then none else
        if (lg_cmp (x6 + (σ.2.2.1 55 x1 (x8).toNatClampNeg).toInt64) x4) ≤ 0 then
          (F_X0_pick_t55_b21 N n) x1 x3 x4 (x6 + (σ.2.2.1 55 x1 (x8).toNatClampNeg).toInt64) (x8 + (1 : Int32)) σ
        else
          some (x8, σ)
def F_X0_pick_t55 (N : Nat)  (a1 : Nat) (a2 : Int32) (a3 : Int32) (σ : Mem) : Option (Int32 × Mem) :=
  if 0 < a2 then
    (F_X0_lots N σ).bind (fun q1 =>
    if a2.toInt64 = 0 then none else
    (F_X0_pick_t55_b21 N N) a1 a3 (q1.1 - q1.1 / a2.toInt64 * a2.toInt64) (0 : Int64) (0 : Int32) q1.2)
  else
    some (a3, σ)
def F_X7_allFirst_b4 (N : Nat)   : Nat → Int32 → Int32 → Int32 → Mem → Option (Int32 × Mem)
  | 0, _, _, _, _ => none
  | n + 1, x1, x2, x3, σ =>
    if (5 : Int32) ≤ x3 then
      some (x2, σ)
    else
      if hwOut x1 4 then none else
      if hwOut x3 5 then none else
      (F_X7_allFirst_b4 N n) x1 (x2 + (σ.2.2.1 55 (x1).toNatClampNeg (x3).toNatClampNeg)) (x3 + (1 : Int32)) σ
def F_X7_allFirst (N : Nat)  (a1 : Int32) (σ : Mem) : Option (Int32 × Mem) :=
  (F_X7_allFirst_b4 N N) a1 (0 : Int32) (0 : Int32) σ
def F_X6_begin_b67 (N : Nat)  (k11 : Int32 → Int32 → Int32 → Mem → Option (Unit × Mem)) (x1 : Int32) (x2 : Int32) (x3 : Int32) (s0 : Int64) (s1 : Int32) (s2 : Nat) (σ : Mem) : Option (Unit × Mem) :=
  if hwOut s1 5 then none else
  k11 x1 x2 (x3 + (1 : Int32)) (σ.1, σ.2.1, σ.2.2.1, (hwU3 σ.2.2.2.1 50 s2 (s1).toNatClampNeg s0), σ.2.2.2.2)
def F_X6_begin_b11 (N : Nat)   : Nat → Int32 → Int32 → Int32 → Mem → Option (Unit × Mem)
  | 0, _, _, _, _ => none
  | n + 1, x1, x2, x3, σ =>
    if (σ.1 1 6) ≤ x3 then
      some ((), σ)
    else
      if x2 ≤ 0 then
        if (σ.1 1 6).toInt64 = 0 then none else
        (F_X6_begin_b67 N (F_X6_begin_b11 N n)) x1 x2 x3 ((1000000 : Int64) / (σ.1 1 6).toInt64) x3 1 σ
      else
        if hwOut x1 4 then none else
        if hwOut x3 5 then none else
        if x2.toInt64 = 0 then none else
        (F_X6_begin_b67 N (F_X6_begin_b11 N n)) x1 x2 x3 (((σ.2.2.1 55 (x1).toNatClampNeg (x3).toNatClampNeg).toInt64 * (1000000 : Int64)) / x2.toInt64) x3 1 σ
def F_X6_begin (N : Nat)  (a1 : Int32) (σ : Mem) : Option (Unit × Mem) :=
  (F_X7_allFirst N a1 σ).bind (fun q1 =>
  (F_X6_begin_b11 N N) a1 q1.1 (0 : Int32) q1.2)
def F_X6_dryWith_t50_b73 (N : Nat)  (k17 : Nat → Int32 → Nat → Int64 → Int32 → Mem → Option (Int64 × Mem)) (x1 : Nat) (x3 : Int32) (x4 : Nat) (x5 : Int64) (x7 : Int32) (s0 : Int64) (s1 : Int32) (σ : Mem) : Option (Int64 × Mem) :=
  if hwOut s1 5 then none else
  if hwOut x7 5 then none else
  k17 x1 x3 x4 (x5 + ((hwU3 σ.2.2.2.1 51 0 (s1).toNatClampNeg s0) 51 0 (x7).toNatClampNeg)) (x7 + (1 : Int32)) (σ.1, σ.2.1, σ.2.2.1, (hwU3 σ.2.2.2.1 51 0 (s1).toNatClampNeg s0), σ.2.2.2.2)
def F_X6_dryWith_t50_b104 (N : Nat)   : Nat → Int64 → Int32 → Mem → Option (Int64 × Mem)
  | 0, _, _, _ => none
  | n + 1, x5, x7, σ =>
    if (σ.1 1 6) ≤ x7 then
      some (x5, σ)
    else
      if hwOut x7 5 then none else
      if x5 = 0 then none else
      if hwOut x7 5 then none else
      (F_X6_dryWith_t50_b104 N n) x5 (x7 + (1 : Int32)) (σ.1, σ.2.1, σ.2.2.1, (hwU3 σ.2.2.2.1 51 0 (x7).toNatClampNeg (((σ.2.2.2.1 51 0 (x7).toNatClampNeg) * (1000000 : Int64)) / x5)), σ.2.2.2.2)
def F_X6_dryWith_t50_b17 (N : Nat)   : Nat → Nat → Int32 → Nat → Int64 → Int32 → Mem → Option (Int64 × Mem)
  | 0, _, _, _, _, _, _ => none
  | n + 1, x1, x3, x4, x5, x7, σ =>
    if (σ.1 1 6) ≤ x7 then
      if 0 < (lg_cmp x5 (0 : Int64)) then
        (F_X6_dryWith_t50_b104 N N) x5 (0 : Int32) σ
      else
        some ((0 : Int64), σ)
    else
      if hwOut x7 5 then none else
      if (σ.2.2.1 24 0 (x7).toNatClampNeg) = x3 then
        if hwOut x7 5 then none else
        if hwOut x7 5 then none else
        if hwOut x7 5 then none else
        (F_X6_dryWith_t50_b73 N (F_X6_dryWith_t50_b17 N n)) x1 x3 x4 x5 x7 ((σ.2.2.2.1 50 x1 (x7).toNatClampNeg) - (((σ.2.2.2.1 50 x1 (x7).toNatClampNeg) * (σ.2.2.1 44 x4 (x7).toNatClampNeg).toInt64) / (100 : Int64))) x7 σ
      else
        (F_X6_dryWith_t50_b73 N (F_X6_dryWith_t50_b17 N n)) x1 x3 x4 x5 x7 (0 : Int64) x7 σ
def F_X6_dryWith_t50 (N : Nat)  (a1 : Nat) (a2 : Int32) (a3 : Int32) (σ : Mem) : Option (Int64 × Mem) :=
  if hwOut a2 6 then none else
  (F_X6_dryWith_t50_b17 N N) a1 a3 (a2).toNatClampNeg (0 : Int64) (0 : Int32) σ
def F_X6_sink_t50_b68 (N : Nat)  (k25 : Nat → Int32 → Mem → Option (Unit × Mem)) : Nat → Nat → Int32 → Int32 → Int32 → Mem → Option (Unit × Mem)
  | 0, _, _, _, _, _ => none
  | n + 1, x1, x2, x3, x4, σ =>
    if (σ.1 1 6) ≤ x4 then
      k25 x1 (x2 + (1 : Int32)) σ
    else
      if hwOut x4 5 then none else
      if hwOut x2 5 then none else
      if hwOut x2 5 then none else
      if hwOut x4 5 then none else
      if x3.toInt64 = 0 then none else
      if hwOut x4 5 then none else
      (F_X6_sink_t50_b68 N k25 n) x1 x2 x3 (x4 + (1 : Int32)) (σ.1, σ.2.1, σ.2.2.1, (hwU3 σ.2.2.2.1 50 x1 (x4).toNatClampNeg ((σ.2.2.2.1 50 x1 (x4).toNatClampNeg) + (((σ.2.2.2.1 51 0 (x2).toNatClampNeg) * (σ.2.2.1 26 (x2).toNatClampNeg (x4).toNatClampNeg).toInt64) / x3.toInt64))), σ.2.2.2.2)
def F_X6_sink_t50_b25 (N : Nat)   : Nat → Nat → Int32 → Mem → Option (Unit × Mem)
  | 0, _, _, _ => none
  | n + 1, x1, x2, σ =>
    if (σ.1 1 6) ≤ x2 then
      some ((), σ)
    else
      if hwOut x2 5 then none else
      if 0 < (σ.2.2.1 27 0 (x2).toNatClampNeg) then
        (F_X6_sink_t50_b68 N (F_X6_sink_t50_b25 N n) N) x1 x2 (σ.2.2.1 27 0 (x2).toNatClampNeg) (0 : Int32) σ
      else
        if hwOut x2 5 then none else
        if hwOut x2 5 then none else
        if hwOut x2 5 then none else
        (F_X6_sink_t50_b25 N n) x1 (x2 + (1 : Int32)) (σ.1, σ.2.1, σ.2.2.1, (hwU3 σ.2.2.2.1 50 x1 (x2).toNatClampNeg ((σ.2.2.2.1 50 x1 (x2).toNatClampNeg) + (σ.2.2.2.1 51 0 (x2).toNatClampNeg))), σ.2.2.2.2)
def F_X6_sink_t50_b2 (N : Nat)   : Nat → Nat → Int32 → Mem → Option (Unit × Mem)
  | 0, _, _, _ => none
  | n + 1, x1, x2, σ =>
    if (σ.1 1 6) ≤ x2 then
      (F_X6_sink_t50_b25 N N) x1 (0 : Int32) σ
    else
      if hwOut x2 5 then none else
      (F_X6_sink_t50_b2 N n) x1 (x2 + (1 : Int32)) (σ.1, σ.2.1, σ.2.2.1, (hwU3 σ.2.2.2.1 50 x1 (x2).toNatClampNeg (0 : Int64)), σ.2.2.2.2)
def F_X6_sink_t50 (N : Nat)  (a1 : Nat) (σ : Mem) : Option (Unit × Mem) :=
  (F_X6_sink_t50_b2 N N) a1 (0 : Int32) σ
def F_X6_pass (N : Nat)  (a1 : Int32) (a2 : Int32) (σ : Mem) : Option (Int64 × Mem) :=
  if a1 < (1 : Int32) then
    some ((0 : Int64), σ)
  else
    if a1 ≤ (5 : Int32) then
      if hwOut a1 7 then none else
      (F_X6_dryWith_t50 N (a1).toNatClampNeg a1 a2 σ).bind (fun q1 =>
      if (lg_cmp q1.1 (0 : Int64)) ≤ 0 then
        some (q1.1, q1.2)
      else
        if hwOut (a1 + (1 : Int32)) 7 then none else
        (F_X6_sink_t50 N ((a1 + (1 : Int32))).toNatClampNeg q1.2).bind (fun q2 =>
        some (q1.1, q2.2)))
    else
      some ((0 : Int64), σ)
def F_X2_deepest (N : Nat)   (σ : Mem) : Option (Int32 × Mem) :=
  some ((σ.2.2.1 28 0 0), σ)
def F_X2_worth (N : Nat)   (σ : Mem) : Option (Int32 × Mem) :=
  some ((σ.2.2.1 28 0 1), σ)
def F_X6_wetOf (N : Nat)  (a1 : Int32) (a2 : Int32) (σ : Mem) : Option (Int64 × Mem) :=
  if a1 < (1 : Int32) then
    some ((0 : Int64), σ)
  else
    if a1 ≤ (5 : Int32) then
      if hwOut a1 7 then none else
      if hwOut a2 5 then none else
      if hwOut a1 6 then none else
      if hwOut a2 5 then none else
      some ((((σ.2.2.2.1 50 (a1).toNatClampNeg (a2).toNatClampNeg) * (σ.2.2.1 44 (a1).toNatClampNeg (a2).toNatClampNeg).toInt64) / (100 : Int64)), σ)
    else
      some ((0 : Int64), σ)
def F_X6_gain_b6 (N : Nat)   : Nat → Int32 → Int32 → Int32 → Int64 → Int32 → Mem → Option (Int64 × Mem)
  | 0, _, _, _, _, _, _ => none
  | n + 1, x1, x2, x3, x4, x6, σ =>
    if (σ.1 1 6) ≤ x6 then
      some (x4, σ)
    else
      (F_X6_wetOf N x1 x6 σ).bind (fun q1 =>
      if hwOut x6 5 then none else
      (F_X6_gain_b6 N n) x1 x2 x3 (x4 + (q1.1 * (if (0 : Int32) < ((x2 - (q1.2.2.2.1 23 0 (x6).toNatClampNeg)) - x3) then ((x2 - (q1.2.2.2.1 23 0 (x6).toNatClampNeg)) - x3) else (0 : Int32)).toInt64)) (x6 + (1 : Int32)) q1.2)
def F_X6_gain (N : Nat)  (a1 : Int32) (a2 : Int32) (a3 : Int32) (σ : Mem) : Option (Int64 × Mem) :=
  (F_X6_gain_b6 N N) a1 a2 a3 (0 : Int64) (0 : Int32) σ
def F_X6_goingOn_b44 (N : Nat) (g0 : Int32 → Int32 → Mem → Option (Int64 × Mem))  : Nat → Int32 → Int32 → Int64 → Int32 → Mem → Option (Int64 × Mem)
  | 0, _, _, _, _, _ => none
  | n + 1, x1, x2, x3, x5, σ =>
    if (3 : Int32) ≤ x5 then
      some (x3, σ)
    else
      (F_X2_deepest N σ).bind (fun q3 =>
      if q3.1 ≤ x1 then
        some (x3, q3.2)
      else
        (F_X6_pass N x1 x5 q3.2).bind (fun q4 =>
        if (lg_cmp q4.1 (0 : Int64)) ≤ 0 then
          (F_X6_goingOn_b44 N g0 n) x1 x2 x3 (x5 + (1 : Int32)) q4.2
        else
          (g0 (x1 + (1 : Int32)) x2 q4.2).bind (fun q5 =>
          (F_X6_goingOn_b44 N g0 n) x1 x2 (x3 + ((q4.1 * (if q5.1 < (0 : Int64) then (0 : Int64) else q5.1)) / (1000000 : Int64))) (x5 + (1 : Int32)) q5.2)))
def B_X6_goingOn (N : Nat) (g0 : Int32 → Int32 → Mem → Option (Int64 × Mem)) (a1 : Int32) (a2 : Int32) (σ : Mem) : Option (Int64 × Mem) :=
  if a1 < (1 : Int32) then
    some ((0 : Int64), σ)
  else
    (F_X2_deepest N σ).bind (fun q1 =>
    if a1 ≤ q1.1 then
      (F_X6_gain N a1 a2 (0 : Int32) q1.2).bind (fun q2 =>
      if hwOut a1 6 then none else
      (F_X6_goingOn_b44 N g0 N) a1 a2 (q2.1 - ((1000000 : Int64) * (q2.2.2.2.1 42 0 (a1).toNatClampNeg).toInt64)) (0 : Int32) q2.2)
    else
      some ((0 : Int64), q1.2))
def G_X6_goingOn (N : Nat) : Nat → (Int32 → Int32 → Mem → Option (Int64 × Mem))
  | 0 => (fun _ _ _ => none)
  | d + 1 => (B_X6_goingOn N (G_X6_goingOn N d))
def F_X6_goingOn (N : Nat) (a1 : Int32) (a2 : Int32) (σ : Mem) : Option (Int64 × Mem) := (G_X6_goingOn N 10) a1 a2 σ
def F_X6_wet_b5 (N : Nat)   : Nat → Int32 → Int64 → Int32 → Mem → Option (Int64 × Mem)
  | 0, _, _, _, _ => none
  | n + 1, x1, x2, x4, σ =>
    if (σ.1 1 6) ≤ x4 then
      some (x2, σ)
    else
      (F_X6_wetOf N x1 x4 σ).bind (fun q1 =>
      (F_X6_wet_b5 N n) x1 (x2 + q1.1) (x4 + (1 : Int32)) q1.2)
def F_X6_wet (N : Nat)  (a1 : Int32) (σ : Mem) : Option (Int64 × Mem) :=
  (F_X6_wet_b5 N N) a1 (0 : Int64) (0 : Int32) σ
def F_X9_goesOn_b56 (N : Nat)   (x1 : Int32) (x2 : Int32) (x4 : Int32) (s0 : Int32) (σ : Mem) : Option (Int32 × Mem) :=
  if hwOut x1 8 then none else
  if (σ.2.2.1 65 0 (x1).toNatClampNeg) = 1 then
    if x4 = 0 ∨ x4 = 1 then some (x4, σ) else none
  else
  if (σ.2.2.1 65 0 (x1).toNatClampNeg) = 2 then
    if x4 = 0 then
      some ((0 : Int32), σ)
    else
      if s0 = 0 then
        some ((1 : Int32), σ)
      else
        some ((0 : Int32), σ)
  else
  if (σ.2.2.1 65 0 (x1).toNatClampNeg) = 3 then
    (F_X2_worth N σ).bind (fun q2 =>
    (F_X6_goingOn N (x2 + (1 : Int32)) q2.1 q2.2).bind (fun q3 =>
    if (lg_cmp q3.1 (0 : Int64)) ≤ 0 then
      some ((0 : Int32), q3.2)
    else
      some ((1 : Int32), q3.2)))
  else
  if (σ.2.2.1 65 0 (x1).toNatClampNeg) = 4 then
    if x4 = 0 then
      some ((0 : Int32), σ)
    else
      (F_X6_wet N (x2 + (1 : Int32)) σ).bind (fun q4 =>
      if hwOut x1 8 then none else
      if (lg_cmp q4.1 ((100000 : Int32) * (q4.2.2.2.1 67 0 (x1).toNatClampNeg)).toInt64) < 0 then
        some ((0 : Int32), q4.2)
      else
        some ((1 : Int32), q4.2))
  else
  if (σ.2.2.1 65 0 (x1).toNatClampNeg) = 5 then
    if x2 = (1 : Int32) then
      some ((1 : Int32), σ)
    else
      if x4 = 0 then
        some ((0 : Int32), σ)
      else
        if s0 = 0 then
          some ((1 : Int32), σ)
        else
          some ((0 : Int32), σ)
  else
  some ((0 : Int32), σ)
def F_X9_goesOn_b55 (N : Nat)  (k56 : Int32 → Int32 → Int32 → Int32 → Mem → Option (Int32 × Mem)) (x1 : Int32) (x2 : Int32) (x4 : Int32) (σ : Mem) : Option (Int32 × Mem) :=
  k56 x1 x2 x4 (0 : Int32) σ
def F_X9_goesOn_b31 (N : Nat)   (x1 : Int32) (x2 : Int32) (x3 : Int32) (s0 : Int32) (σ : Mem) : Option (Int32 × Mem) :=
  if x3 < 0 then
    (F_X9_goesOn_b55 N (F_X9_goesOn_b56 N)) x1 x2 s0 σ
  else
    if hwOut x1 8 then none else
    if (((σ.2.2.1 67 0 (x1).toNatClampNeg) >>> (x3 &&& 31)) &&& (1 : Int32)) = (1 : Int32) then
      (F_X9_goesOn_b56 N) x1 x2 s0 (1 : Int32) σ
    else
      (F_X9_goesOn_b55 N (F_X9_goesOn_b56 N)) x1 x2 s0 σ
def F_X9_goesOn (N : Nat)  (a1 : Int32) (a2 : Int32) (a3 : Int32) (σ : Mem) : Option (Int32 × Mem) :=
  (F_X2_deepest N σ).bind (fun q1 =>
  if a2 < q1.1 then
    if hwOut a1 8 then none else
    if (q1.2.2.2.1 66 0 (a1).toNatClampNeg) ≤ a2 then
      (F_X9_goesOn_b31 N) a1 a2 a3 (0 : Int32) q1.2
    else
      (F_X9_goesOn_b31 N) a1 a2 a3 (1 : Int32) q1.2
  else
    some ((0 : Int32), q1.2))
def F_X0_work_b76 (N : Nat)   : Nat → Int32 → Int32 → Int32 → Int32 → Mem → Option (Unit × Mem)
  | 0, _, _, _, _, _ => none
  | n + 1, x1, x5, x6, x7, σ =>
    if (5 : Int32) < x7 then
      some ((), σ)
    else
      (F_X9_goesOn N x1 (σ.1 10 5) x6 σ).bind (fun q4 =>
      if q4.1 = 0 then
        some ((), q4.2)
      else
        if hwOut x7 6 then none else
        (F_X0_lots N ((hwU2 (hwU2 q4.2.1 10 3 ((q4.2.1 10 3) + (q4.2.2.2.1 42 0 (x7).toNatClampNeg))) 10 5 x7), q4.2.2.1, q4.2.2.2.1, q4.2.2.2.2.1, q4.2.2.2.2.2)).bind (fun q5 =>
        if hwOut x7 6 then none else
        if hwOut x5 5 then none else
        if 0 ≤ (lg_cmp (q5.1 - q5.1 / (100 : Int64) * (100 : Int64)) (q5.2.2.2.1 44 (x7).toNatClampNeg (x5).toNatClampNeg).toInt64) then
          if hwOut x5 5 then none else
          (F_X6_pass N x7 (q5.2.2.2.1 24 0 (x5).toNatClampNeg) q5.2).bind (fun q6 =>
          if (lg_cmp q6.1 (0 : Int64)) = 0 then
            some ((), q6.2)
          else
            if hwOut x5 5 then none else
            if hwOut x5 5 then none else
            (F_X0_pick_t26 N (x5).toNatClampNeg (q6.2.2.2.1 27 0 (x5).toNatClampNeg) x5 q6.2).bind (fun q7 =>
            (F_X0_work_b76 N n) x1 q7.1 (q5.2.2.2.1 24 0 (x5).toNatClampNeg) (x7 + (1 : Int32)) q7.2))
        else
          some ((), ((hwU2 q5.2.1 10 4 x7), q5.2.2.1, q5.2.2.2.1, q5.2.2.2.2.1, q5.2.2.2.2.2))))
def F_X0_work (N : Nat)  (a1 : Int32) (a2 : Int32) (a3 : Int32) (σ : Mem) : Option (Unit × Mem) :=
  (F_X6_begin N a2 ((hwU2 (hwU2 (hwU2 σ.1 10 3 (0 : Int32)) 10 4 (Int32.ofInt (-1))) 10 5 (0 : Int32)), (hwU2 σ.2.1 10 2 (a3 + (1 : Int32)).toInt64), σ.2.2.1, σ.2.2.2.1, σ.2.2.2.2)).bind (fun q1 =>
  if hwOut a2 4 then none else
  (F_X7_allFirst N a2 q1.2).bind (fun q2 =>
  (F_X0_pick_t55 N (a2).toNatClampNeg q2.1 (0 : Int32) q2.2).bind (fun q3 =>
  (F_X0_work_b76 N N) a1 q3.1 (Int32.ofInt (-1)) (1 : Int32) q3.2)))
def F_X11_within (N : Nat)  (a1 : Int32) (a2 : Int32) (a3 : Int32) (σ : Mem) : Option (Int32 × Mem) :=
  if a1 < a2 then
    some ((0 : Int32), σ)
  else
    if a3 < a1 then
      some ((0 : Int32), σ)
    else
      some ((1 : Int32), σ)
def F_X10_allWithin_b3 (N : Nat)   : Nat → Int32 → Int32 → Int32 → Int32 → Mem → Option (Int32 × Mem)
  | 0, _, _, _, _, _ => none
  | n + 1, x1, x2, x3, x4, σ =>
    if hwOut x1 4 then none else
    if (σ.2.2.1 71 0 (x1).toNatClampNeg) ≤ x4 then
      some ((1 : Int32), σ)
    else
      if hwOut x1 4 then none else
      if hwOut x4 40 then none else
      (F_X11_within N (σ.2.2.1 69 (x1).toNatClampNeg (x4).toNatClampNeg) x2 x3 σ).bind (fun q1 =>
      if q1.1 = 0 then
        some ((0 : Int32), q1.2)
      else
        (F_X10_allWithin_b3 N n) x1 x2 x3 (x4 + (1 : Int32)) q1.2)
def F_X10_allWithin (N : Nat)  (a1 : Int32) (a2 : Int32) (a3 : Int32) (σ : Mem) : Option (Int32 × Mem) :=
  (F_X10_allWithin_b3 N N) a1 a2 a3 (0 : Int32) σ
def F_X10_has (N : Nat)  (a1 : Int32) (a2 : Int32) (σ : Mem) : Option (Int32 × Mem) :=
  if a2 < 0 then
    some ((0 : Int32), σ)
  else
    if hwOut a1 4 then none else
    if (σ.2.2.1 71 0 (a1).toNatClampNeg) ≤ a2 then
      some ((0 : Int32), σ)
    else
      some ((1 : Int32), σ)
def F_X10_holds (N : Nat)  (a1 : Int32) (a2 : Int32) (a3 : Int32) (σ : Mem) : Option (Int32 × Mem) :=
  if a2 < 0 then
    some ((0 : Int32), σ)
  else
    if a3 < 0 then
      some ((0 : Int32), σ)
    else
      if hwOut a1 4 then none else
      if (σ.2.2.1 71 0 (a1).toNatClampNeg) < a2 then
        some ((0 : Int32), σ)
      else
        if hwOut a1 4 then none else
        if ((σ.2.2.1 71 0 (a1).toNatClampNeg) - a2) < a3 then
          some ((0 : Int32), σ)
        else
          some ((1 : Int32), σ)
def F_X10_isMissing (N : Nat)  (a1 : Int32) (σ : Mem) : Option (Int32 × Mem) :=
  if hwOut a1 4 then none else
  if 0 ≤ (σ.2.2.1 70 0 (a1).toNatClampNeg) then
    some ((0 : Int32), σ)
  else
    some ((1 : Int32), σ)
def F_X10_lay_b17 (N : Nat)   : Nat → Int32 → Int32 → Mem → Option (Unit × Mem)
  | 0, _, _, _ => none
  | n + 1, x1, x4, σ =>
    if (40 : Int32) ≤ x4 then
      some ((), σ)
    else
      if hwOut x1 4 then none else
      if hwOut x4 40 then none else
      (F_X10_lay_b17 N n) x1 (x4 + (1 : Int32)) (σ.1, σ.2.1, (hwU3 σ.2.2.1 69 (x1).toNatClampNeg (x4).toNatClampNeg (0 : Int32)), σ.2.2.2.1, σ.2.2.2.2)
def F_X10_lay (N : Nat)  (a1 : Int32) (a2 : Int32) (a3 : Int32) (σ : Mem) : Option (Unit × Mem) :=
  if hwOut a1 4 then none else
  if hwOut a1 4 then none else
  (F_X10_lay_b17 N N) a1 (0 : Int32) (σ.1, σ.2.1, (hwU3 (hwU3 σ.2.2.1 70 0 (a1).toNatClampNeg a2) 71 0 (a1).toNatClampNeg a3), σ.2.2.2.1, σ.2.2.2.2)
def F_X10_write (N : Nat)  (a1 : Int32) (a2 : Int32) (a3 : Int32) (σ : Mem) : Option (Unit × Mem) :=
  if hwOut a1 4 then none else
  if (σ.2.2.1 70 0 (a1).toNatClampNeg) = 0 then
    if hwOut a1 4 then none else
    if hwOut a2 40 then none else
    some ((), (σ.1, σ.2.1, (hwU3 σ.2.2.1 69 (a1).toNatClampNeg (a2).toNatClampNeg a3.toInt8.toInt32), σ.2.2.2.1, σ.2.2.2.2))
  else
  if (σ.2.2.1 70 0 (a1).toNatClampNeg) = 1 then
    if hwOut a1 4 then none else
    if hwOut a2 40 then none else
    some ((), (σ.1, σ.2.1, (hwU3 σ.2.2.1 69 (a1).toNatClampNeg (a2).toNatClampNeg a3.toInt16.toInt32), σ.2.2.2.1, σ.2.2.2.2))
  else
  if hwOut a1 4 then none else
  if hwOut a2 40 then none else
  some ((), (σ.1, σ.2.1, (hwU3 σ.2.2.1 69 (a1).toNatClampNeg (a2).toNatClampNeg a3), σ.2.2.2.1, σ.2.2.2.2))
def F_X11_isLayer (N : Nat)  (a1 : Int32) (σ : Mem) : Option (Int32 × Mem) :=
  (F_X11_within N a1 (0 : Int32) ((σ.1 1 6) - (1 : Int32)) σ).bind (fun q1 =>
  if q1.1 = 0 ∨ q1.1 = 1 then some (q1.1, q1.2) else none)
def F_X11_asks (N : Nat)  (a1 : Int32) (a2 : Int32) (a3 : Int32) (a4 : Int32) (σ : Mem) : Option (Int32 × Mem) :=
  (F_X11_within N a1 (0 : Int32) (2 : Int32) σ).bind (fun q1 =>
  if q1.1 = 0 then
    some ((Int32.ofInt (-2)), q1.2)
  else
    (F_X11_within N a2 (1 : Int32) (5 : Int32) q1.2).bind (fun q2 =>
    if q2.1 = 0 then
      some ((Int32.ofInt (-2)), q2.2)
    else
      (F_X11_within N a4 (0 : Int32) (1 : Int32) q2.2).bind (fun q3 =>
      if q3.1 = 0 then
        some ((Int32.ofInt (-2)), q3.2)
      else
        if a1 = 0 then
          if hwOut a2 6 then none else
          some ((q3.2.2.2.1 42 0 (a2).toNatClampNeg), q3.2)
        else
          if a1 = (2 : Int32) then
            if hwOut a4 2 then none else
            if hwOut a2 6 then none else
            some ((q3.2.2.2.1 46 (a4).toNatClampNeg (a2).toNatClampNeg), q3.2)
          else
            (F_X11_isLayer N a3 q3.2).bind (fun q4 =>
            if q4.1 = 0 then
              some ((Int32.ofInt (-5)), q4.2)
            else
              if hwOut a2 6 then none else
              if hwOut a3 5 then none else
              some ((q4.2.2.2.1 44 (a2).toNatClampNeg (a3).toNatClampNeg), q4.2)))))
def F_X11_isPlace (N : Nat)  (a1 : Int32) (σ : Mem) : Option (Int32 × Mem) :=
  (F_X11_within N a1 (0 : Int32) ((σ.1 4 5) - (1 : Int32)) σ).bind (fun q1 =>
  if q1.1 = 0 ∨ q1.1 = 1 then some (q1.1, q1.2) else none)
def F_X7_signOf (N : Nat)  (a1 : Int32) (a2 : Int32) (σ : Mem) : Option (Int32 × Mem) :=
  if a2 < (1 : Int32) then
    some ((Int32.ofInt (-1)), σ)
  else
    if hwOut a1 4 then none else
    if (σ.2.2.1 58 0 (a1).toNatClampNeg) < a2 then
      some ((Int32.ofInt (-1)), σ)
    else
      if hwOut a1 4 then none else
      if hwOut (a2 - (1 : Int32)) 5 then none else
      some ((σ.2.2.1 57 (a1).toNatClampNeg ((a2 - (1 : Int32))).toNatClampNeg), σ)
def F_X6_nextYard_b7 (N : Nat)   : Nat → Int32 → Int32 → Mem → Option (Int32 × Mem)
  | 0, _, _, _ => none
  | n + 1, x1, x2, σ =>
    if hwOut x1 4 then none else
    if (σ.2.2.1 58 0 (x1).toNatClampNeg) < x2 then
      if hwOut x1 4 then none else
      some (((σ.2.2.1 58 0 (x1).toNatClampNeg) + (1 : Int32)), σ)
    else
      (F_X7_signOf N x1 x2 σ).bind (fun q2 =>
      (F_X6_pass N x2 q2.1 q2.2).bind (fun q3 =>
      if (lg_cmp q3.1 (0 : Int64)) = 0 then
        some ((0 : Int32), q3.2)
      else
        (F_X6_nextYard_b7 N n) x1 (x2 + (1 : Int32)) q3.2))
def F_X6_nextYard (N : Nat)  (a1 : Int32) (σ : Mem) : Option (Int32 × Mem) :=
  (F_X6_begin N a1 σ).bind (fun q1 =>
  (F_X6_nextYard_b7 N N) a1 (1 : Int32) q1.2)
def F_X6_openYard (N : Nat)  (a1 : Int32) (σ : Mem) : Option (Int32 × Mem) :=
  if hwOut a1 4 then none else
  if (σ.2.2.1 59 0 (a1).toNatClampNeg) = 0 then
    (F_X6_nextYard N a1 σ).bind (fun q1 =>
    some (q1.1, q1.2))
  else
    some ((0 : Int32), σ)
def F_X11_back (N : Nat)  (a1 : Int32) (σ : Mem) : Option (Int32 × Mem) :=
  (F_X11_isPlace N a1 σ).bind (fun q1 =>
  if q1.1 = 0 then
    some ((Int32.ofInt (-1)), q1.2)
  else
    (F_X6_openYard N a1 q1.2).bind (fun q2 =>
    if q2.1 = 0 then
      some ((Int32.ofInt (-3)), q2.2)
    else
      (F_X2_worth N q2.2).bind (fun q3 =>
      (F_X6_goingOn N q2.1 q3.1 q3.2).bind (fun q4 =>
      if (lg_cmp q4.1 (0 : Int64)) ≤ 0 then
        some ((0 : Int32), q4.2)
      else
        some ((1 : Int32), q4.2)))))
def F_X6_heeded (N : Nat)  (a1 : Int64) (a2 : Int64) (a3 : Int64) (a4 : Int64) (a5 : Int32) (σ : Mem) : Option (Int64 × Mem) :=
  some (((((a1 * a5.toInt64) / (100 : Int64)) + ((a2 * ((100 : Int32) - a5).toInt64) / (100 : Int64))) - (((a3 * ((a4 * a5.toInt64) + (((1000000 : Int64) - a4) * ((100 : Int32) - a5).toInt64))) / (100 : Int64)) / (1000000 : Int64))), σ)
def F_X6_spoken (N : Nat)  (a1 : Int64) (a2 : Int64) (a3 : Int64) (a4 : Int64) (a5 : Int32) (σ : Mem) : Option (Int64 × Mem) :=
  (F_X6_heeded N a2 ((a1 - a2) + a3) a3 a4 a5 σ).bind (fun q1 =>
  (F_X6_heeded N a2 ((a1 - a2) + a3) a3 a4 ((100 : Int32) - a5) q1.2).bind (fun q2 =>
  some ((((if q1.1 < (0 : Int64) then (0 : Int64) else q1.1) + (if q2.1 < (0 : Int64) then (0 : Int64) else q2.1)) - (if a1 < (0 : Int64) then (0 : Int64) else a1)), q2.2)))
def F_X6_leastRight_b32 (N : Nat)   : Nat → Int32 → Int64 → Int64 → Int32 → Mem → Option (Int32 × Mem)
  | 0, _, _, _, _, _ => none
  | n + 1, x1, x2, x4, x6, σ =>
    if (100 : Int32) < x6 then
      some ((Int32.ofInt (-1)), σ)
    else
      if hwOut x1 6 then none else
      (F_X6_wet N x1 σ).bind (fun q5 =>
      (F_X6_spoken N x2 x4 ((1000000 : Int64) * (σ.2.2.1 42 0 (x1).toNatClampNeg).toInt64) q5.1 x6 q5.2).bind (fun q6 =>
      if (lg_cmp q6.1 (0 : Int64)) ≤ 0 then
        (F_X6_leastRight_b32 N n) x1 x2 x4 (x6 + (1 : Int32)) q6.2
      else
        some (x6, q6.2)))
def F_X6_leastRight (N : Nat)  (a1 : Int32) (σ : Mem) : Option (Int32 × Mem) :=
  (F_X2_worth N σ).bind (fun q1 =>
  (F_X6_goingOn N a1 q1.1 q1.2).bind (fun q2 =>
  (F_X2_worth N q2.2).bind (fun q3 =>
  (F_X6_gain N a1 q3.1 (0 : Int32) q3.2).bind (fun q4 =>
  (F_X6_leastRight_b32 N N) a1 q2.1 q4.1 (50 : Int32) q4.2))))
def F_X11_believe (N : Nat)  (a1 : Int32) (σ : Mem) : Option (Int32 × Mem) :=
  (F_X11_isPlace N a1 σ).bind (fun q1 =>
  if q1.1 = 0 then
    some ((Int32.ofInt (-5)), q1.2)
  else
    (F_X6_openYard N a1 q1.2).bind (fun q2 =>
    if q2.1 = 0 then
      some ((Int32.ofInt (-3)), q2.2)
    else
      (F_X2_deepest N q2.2).bind (fun q3 =>
      if q2.1 ≤ q3.1 then
        (F_X6_leastRight N q2.1 q3.2).bind (fun q4 =>
        some (q4.1, q4.2))
      else
        some ((Int32.ofInt (-1)), q3.2))))
def F_X6_worthOf (N : Nat)  (a1 : Int32) (σ : Mem) : Option (Int64 × Mem) :=
  (F_X2_worth N σ).bind (fun q1 =>
  (F_X6_goingOn N a1 q1.1 q1.2).bind (fun q2 =>
  some ((if q2.1 < (0 : Int64) then (0 : Int64) else q2.1), q2.2)))
def F_X11_best (N : Nat)  (a1 : Int32) (σ : Mem) : Option (Int64 × Mem) :=
  (F_X11_isPlace N a1 σ).bind (fun q1 =>
  if q1.1 = 0 then
    some ((Int64.ofInt (-4611686018427387904)), q1.2)
  else
    (F_X6_openYard N a1 q1.2).bind (fun q2 =>
    if q2.1 = 0 then
      some ((Int64.ofInt (-3)), q2.2)
    else
      (F_X6_worthOf N q2.1 q2.2).bind (fun q3 =>
      some (q3.1, q3.2))))
def F_X6_toldBy_b69 (N : Nat) (g0 : Int32 → Int32 → Int32 → Mem → Option (Int64 × Mem))  : Nat → Int32 → Int32 → Int32 → Int64 → Int32 → Mem → Option (Int64 × Mem)
  | 0, _, _, _, _, _, _ => none
  | n + 1, x1, x2, x4, x5, x7, σ =>
    if (3 : Int32) ≤ x7 then
      some (x5, σ)
    else
      (F_X6_pass N x2 x7 σ).bind (fun q4 =>
      if (lg_cmp q4.1 (0 : Int64)) ≤ 0 then
        (F_X6_toldBy_b69 N g0 n) x1 x2 x4 x5 (x7 + (1 : Int32)) q4.2
      else
        (g0 (x1 - (1 : Int32)) (x2 + (1 : Int32)) x4 q4.2).bind (fun q5 =>
        (F_X6_toldBy_b69 N g0 n) x1 x2 x4 (x5 + ((q4.1 * q5.1) / (1000000 : Int64))) (x7 + (1 : Int32)) q5.2))
def F_X6_toldBy_b20 (N : Nat) (g0 : Int32 → Int32 → Int32 → Mem → Option (Int64 × Mem))  (x2 : Int32) (x3 : Int32) (σ : Mem) : Option (Int64 × Mem) :=
  (F_X6_worthOf N x2 σ).bind (fun q6 =>
  some ((if (q6.1 - ((1000000 : Int64) * x3.toInt64)) < (0 : Int64) then (0 : Int64) else (q6.1 - ((1000000 : Int64) * x3.toInt64))), q6.2))
def B_X6_toldBy (N : Nat) (g0 : Int32 → Int32 → Int32 → Mem → Option (Int64 × Mem)) (a1 : Int32) (a2 : Int32) (a3 : Int32) (σ : Mem) : Option (Int64 × Mem) :=
  if a1 ≤ 0 then
    (F_X6_toldBy_b20 N g0) a2 a3 σ
  else
    if a2 < (1 : Int32) then
      (F_X6_toldBy_b20 N g0) a2 a3 σ
    else
      (F_X2_deepest N σ).bind (fun q1 =>
      if a2 ≤ q1.1 then
        if hwOut a2 6 then none else
        (F_X2_worth N q1.2).bind (fun q2 =>
        (F_X6_gain N a2 q2.1 (a3 + (q1.2.2.2.1 42 0 (a2).toNatClampNeg)) q2.2).bind (fun q3 =>
        (F_X6_toldBy_b69 N g0 N) a1 a2 (a3 + (q1.2.2.2.1 42 0 (a2).toNatClampNeg)) q3.1 (0 : Int32) q3.2))
      else
        (F_X6_toldBy_b20 N g0) a2 a3 q1.2)
def G_X6_toldBy (N : Nat) : Nat → (Int32 → Int32 → Int32 → Mem → Option (Int64 × Mem))
  | 0 => (fun _ _ _ _ => none)
  | d + 1 => (B_X6_toldBy N (G_X6_toldBy N d))
def F_X6_toldBy (N : Nat) (a1 : Int32) (a2 : Int32) (a3 : Int32) (σ : Mem) : Option (Int64 × Mem) := (G_X6_toldBy N 10) a1 a2 a3 σ
def F_X6_boreWorth (N : Nat)  (a1 : Int32) (a2 : Int32) (σ : Mem) : Option (Int64 × Mem) :=
  (F_X6_toldBy N a2 a1 (0 : Int32) σ).bind (fun q1 =>
  (F_X6_worthOf N a1 q1.2).bind (fun q2 =>
  some ((q1.1 - q2.1), q2.2)))
def F_X11_bore (N : Nat)  (a1 : Int32) (a2 : Int32) (σ : Mem) : Option (Int64 × Mem) :=
  (F_X11_isPlace N a1 σ).bind (fun q1 =>
  if q1.1 = 0 then
    some ((Int64.ofInt (-4611686018427387904)), q1.2)
  else
    (F_X11_within N a2 (0 : Int32) (5 : Int32) q1.2).bind (fun q2 =>
    if q2.1 = 0 then
      some ((Int64.ofInt (-4611686018427387904)), q2.2)
    else
      (F_X6_openYard N a1 q2.2).bind (fun q3 =>
      if q3.1 = 0 then
        some ((Int64.ofInt (-3)), q3.2)
      else
        (F_X6_boreWorth N q3.1 a2 q3.2).bind (fun q4 =>
        some (q4.1, q4.2)))))
def F_X11_isSheet (N : Nat)  (a1 : Int32) (σ : Mem) : Option (Int32 × Mem) :=
  (F_X11_within N a1 (0 : Int32) (3 : Int32) σ).bind (fun q1 =>
  if q1.1 = 0 ∨ q1.1 = 1 then some (q1.1, q1.2) else none)
def F_X11_cell (N : Nat)  (a1 : Int32) (a2 : Int32) (a3 : Int32) (σ : Mem) : Option (Int32 × Mem) :=
  (F_X11_isSheet N a1 σ).bind (fun q1 =>
  if q1.1 = 0 then
    some ((Int32.ofInt (-2)), q1.2)
  else
    (F_X10_isMissing N a1 q1.2).bind (fun q2 =>
    if q2.1 = 0 then
      (F_X10_has N a1 a2 q2.2).bind (fun q3 =>
      if q3.1 = 0 then
        some ((Int32.ofInt (-12)), q3.2)
      else
        (F_X10_write N a1 a2 a3 q3.2).bind (fun q4 =>
        some ((1 : Int32), q4.2)))
    else
      some ((Int32.ofInt (-11)), q2.2)))
def F_X11_copy (N : Nat)  (a1 : Int32) (a2 : Int32) (a3 : Int32) (a4 : Int32) (a5 : Int32) (σ : Mem) : Option (Int32 × Mem) :=
  (F_X11_isSheet N a1 σ).bind (fun q1 =>
  if q1.1 = 0 then
    some ((Int32.ofInt (-2)), q1.2)
  else
    (F_X11_isSheet N a3 q1.2).bind (fun q2 =>
    if q2.1 = 0 then
      some ((Int32.ofInt (-2)), q2.2)
    else
      (F_X10_isMissing N a1 q2.2).bind (fun q3 =>
      if q3.1 = 0 then
        (F_X10_isMissing N a3 q3.2).bind (fun q4 =>
        if q4.1 = 0 then
          if hwOut a1 4 then none else
          if hwOut a3 4 then none else
          if (q4.2.2.2.1 70 0 (a1).toNatClampNeg) = (q4.2.2.2.1 70 0 (a3).toNatClampNeg) then
            (F_X10_holds N a1 a2 a5 q4.2).bind (fun q5 =>
            if q5.1 = 0 then
              some ((Int32.ofInt (-12)), q5.2)
            else
              (F_X10_holds N a3 a4 a5 q5.2).bind (fun q6 =>
              if q6.1 = 0 then
                some ((Int32.ofInt (-12)), q6.2)
              else
                if hwOut a1 4 then none else
                if hwOut a3 4 then none else
                if a2 < 0 ∨ a4 < 0 ∨ a5 < 0 ∨ 40 < (a2).toNatClampNeg + (a5).toNatClampNeg ∨ 40 < (a4).toNatClampNeg + (a5).toNatClampNeg then none else
                some (a5, (q6.2.1, q6.2.2.1, (hwR3 q6.2.2.2.1 69 (a3).toNatClampNeg (va_cpy (q6.2.2.2.1 69 (a1).toNatClampNeg) (q6.2.2.2.1 69 (a3).toNatClampNeg) (a2).toNatClampNeg (a4).toNatClampNeg (a5).toNatClampNeg)), q6.2.2.2.2.1, q6.2.2.2.2.2))))
          else
            some ((Int32.ofInt (-13)), q4.2)
        else
          some ((Int32.ofInt (-11)), q4.2))
      else
        some ((Int32.ofInt (-11)), q3.2))))
def F_X11_count (N : Nat)  (a1 : Int32) (σ : Mem) : Option (Int32 × Mem) :=
  (F_X11_within N a1 (0 : Int32) (4 : Int32) σ).bind (fun q1 =>
  if q1.1 = 0 then
    if a1 = 5 then
      some ((q1.2.1 1 6), q1.2)
    else
    if a1 = 6 then
      some ((q1.2.1 4 5), q1.2)
    else
    if a1 = 7 then
      some ((q1.2.1 6 4), q1.2)
    else
    if a1 = 8 then
      some ((q1.2.1 7 2), q1.2)
    else
    if a1 = 9 then
      some ((q1.2.1 2 9), q1.2)
    else
    if a1 = 10 then
      some ((q1.2.1 2 10), q1.2)
    else
    if a1 = 11 then
      some ((q1.2.1 3 3), q1.2)
    else
    some ((Int32.ofInt (-2)), q1.2)
  else
    if hwOut a1 5 then none else
    some ((q1.2.2.2.1 28 0 (a1).toNatClampNeg), q1.2))
def F_X7_deepen_b49 (N : Nat)   (x1 : Int32) (σ : Mem) : Option (Int32 × Mem) :=
  if hwOut x1 4 then none else
  some ((σ.2.2.1 58 0 (x1).toNatClampNeg), σ)
def F_X7_deepen (N : Nat)  (a1 : Int32) (a2 : Int32) (σ : Mem) : Option (Int32 × Mem) :=
  if a2 = (3 : Int32) then
    if hwOut a1 4 then none else
    (F_X7_deepen_b49 N) a1 (σ.1, σ.2.1, (hwU3 σ.2.2.1 59 0 (a1).toNatClampNeg (1 : Int32)), σ.2.2.2.1, σ.2.2.2.2)
  else
    if hwOut a1 4 then none else
    if (5 : Int32) ≤ (σ.2.2.1 58 0 (a1).toNatClampNeg) then
      (F_X7_deepen_b49 N) a1 σ
    else
      if hwOut a1 4 then none else
      if hwOut a1 4 then none else
      if hwOut (σ.2.2.1 58 0 (a1).toNatClampNeg) 5 then none else
      if hwOut a1 4 then none else
      if hwOut a1 4 then none else
      (F_X7_deepen_b49 N) a1 (σ.1, σ.2.1, (hwU3 (hwU3 σ.2.2.1 57 (a1).toNatClampNeg ((σ.2.2.1 58 0 (a1).toNatClampNeg)).toNatClampNeg a2) 58 0 (a1).toNatClampNeg ((σ.2.2.1 58 0 (a1).toNatClampNeg) + (1 : Int32))), σ.2.2.2.1, σ.2.2.2.2)
def F_X11_dig (N : Nat)  (a1 : Int32) (a2 : Int32) (σ : Mem) : Option (Int32 × Mem) :=
  (F_X11_isPlace N a1 σ).bind (fun q1 =>
  if q1.1 = 0 then
    some ((Int32.ofInt (-1)), q1.2)
  else
    (F_X11_within N a2 (0 : Int32) (3 : Int32) q1.2).bind (fun q2 =>
    if q2.1 = 0 then
      some ((Int32.ofInt (-2)), q2.2)
    else
      if hwOut a1 4 then none else
      if (q2.2.2.2.1 59 0 (a1).toNatClampNeg) = 0 then
        if hwOut a1 4 then none else
        (F_X2_deepest N q2.2).bind (fun q3 =>
        if (q2.2.2.2.1 58 0 (a1).toNatClampNeg) < q3.1 then
          (F_X7_deepen N a1 a2 q3.2).bind (fun q4 =>
          some (q4.1, q4.2))
        else
          some ((Int32.ofInt (-3)), q3.2))
      else
        some ((Int32.ofInt (-3)), q2.2)))
def F_X6_wordWorth (N : Nat)  (a1 : Int32) (a2 : Int32) (σ : Mem) : Option (Int64 × Mem) :=
  (F_X2_worth N σ).bind (fun q1 =>
  (F_X6_goingOn N a1 q1.1 q1.2).bind (fun q2 =>
  (F_X2_worth N q2.2).bind (fun q3 =>
  (F_X6_gain N a1 q3.1 (0 : Int32) q3.2).bind (fun q4 =>
  if hwOut a1 6 then none else
  (F_X6_wet N a1 q4.2).bind (fun q5 =>
  (F_X6_spoken N q2.1 q4.1 ((1000000 : Int64) * (q4.2.2.2.1 42 0 (a1).toNatClampNeg).toInt64) q5.1 a2 q5.2).bind (fun q6 =>
  some (q6.1, q6.2)))))))
def F_X11_diviner (N : Nat)  (a1 : Int32) (a2 : Int32) (σ : Mem) : Option (Int64 × Mem) :=
  (F_X11_isPlace N a1 σ).bind (fun q1 =>
  if q1.1 = 0 then
    some ((Int64.ofInt (-4611686018427387904)), q1.2)
  else
    (F_X11_within N a2 (0 : Int32) (100 : Int32) q1.2).bind (fun q2 =>
    if q2.1 = 0 then
      some ((Int64.ofInt (-4611686018427387904)), q2.2)
    else
      (F_X6_openYard N a1 q2.2).bind (fun q3 =>
      if q3.1 = 0 then
        some ((Int64.ofInt (-3)), q3.2)
      else
        (F_X2_deepest N q3.2).bind (fun q4 =>
        if q3.1 ≤ q4.1 then
          (F_X6_wordWorth N q3.1 a2 q4.2).bind (fun q5 =>
          some (q5.1, q5.2))
        else
          some ((0 : Int64), q4.2)))))
def F_X11_isRule (N : Nat)  (a1 : Int32) (σ : Mem) : Option (Int32 × Mem) :=
  (F_X11_within N a1 (0 : Int32) ((σ.1 6 4) - (1 : Int32)) σ).bind (fun q1 =>
  if q1.1 = 0 ∨ q1.1 = 1 then some (q1.1, q1.2) else none)
def F_X11_drawn (N : Nat)  (a1 : Int32) (a2 : Int32) (a3 : Int32) (a4 : Int32) (σ : Mem) : Option (Int32 × Mem) :=
  (F_X11_isRule N a1 σ).bind (fun q1 =>
  if q1.1 = 0 then
    some ((Int32.ofInt (-5)), q1.2)
  else
    (F_X11_isPlace N a2 q1.2).bind (fun q2 =>
    if q2.1 = 0 then
      some ((Int32.ofInt (-5)), q2.2)
    else
      (F_X11_within N a3 (0 : Int32) (99999 : Int32) q2.2).bind (fun q3 =>
      if q3.1 = 0 then
        some ((Int32.ofInt (-7)), q3.2)
      else
        (F_X11_within N a4 (0 : Int32) (2 : Int32) q3.2).bind (fun q4 =>
        if q4.1 = 0 then
          some ((Int32.ofInt (-7)), q4.2)
        else
          (F_X0_work N a1 a2 a3 q4.2).bind (fun q5 =>
          if a4 = 0 then
            some ((q5.2.1 10 3), q5.2)
          else
            if a4 = (1 : Int32) then
              some ((q5.2.1 10 4), q5.2)
            else
              some ((q5.2.1 10 5), q5.2))))))
def F_X4_fallen_b34 (N : Nat)  (k7 : Int32 → Int32 → Int64 → Int32 → Mem → Option (Int64 × Mem)) (x1 : Int32) (x2 : Int32) (x3 : Int64) (x5 : Int32) (s0 : Int32) (σ : Mem) : Option (Int64 × Mem) :=
  if hwOut s0 2 then none else
  if hwOut x5 6 then none else
  k7 x1 x2 ((x3 * ((100 : Int32) - (σ.2.2.1 46 (s0).toNatClampNeg (x5).toNatClampNeg)).toInt64) / (100 : Int64)) (x5 + (1 : Int32)) σ
def F_X4_fallen_b7 (N : Nat)   : Nat → Int32 → Int32 → Int64 → Int32 → Mem → Option (Int64 × Mem)
  | 0, _, _, _, _, _ => none
  | n + 1, x1, x2, x3, x5, σ =>
    if x1 < x5 then
      some (((1000000 : Int64) - x3), σ)
    else
      if (5 : Int32) < x5 then
        some (((1000000 : Int64) - x3), σ)
      else
        if x5 ≤ x2 then
          (F_X4_fallen_b34 N (F_X4_fallen_b7 N n)) x1 x2 x3 x5 (0 : Int32) σ
        else
          (F_X4_fallen_b34 N (F_X4_fallen_b7 N n)) x1 x2 x3 x5 (1 : Int32) σ
def F_X4_fallen (N : Nat)  (a1 : Int32) (a2 : Int32) (σ : Mem) : Option (Int64 × Mem) :=
  (F_X4_fallen_b7 N N) a1 a2 (1000000 : Int64) (1 : Int32) σ
def F_X11_fall (N : Nat)  (a1 : Int32) (a2 : Int32) (σ : Mem) : Option (Int64 × Mem) :=
  (F_X11_within N a1 (0 : Int32) (5 : Int32) σ).bind (fun q1 =>
  if q1.1 = 0 then
    some ((Int64.ofInt (-4611686018427387904)), q1.2)
  else
    (F_X11_within N a2 (0 : Int32) (5 : Int32) q1.2).bind (fun q2 =>
    if q2.1 = 0 then
      some ((Int64.ofInt (-4611686018427387904)), q2.2)
    else
      (F_X4_fallen N a1 a2 q2.2).bind (fun q3 =>
      some (q3.1, q3.2))))
def F_X6_bestBore_b8 (N : Nat)   : Nat → Int32 → Int32 → Int32 → Int64 → Int32 → Mem → Option (Int32 × Mem)
  | 0, _, _, _, _, _, _ => none
  | n + 1, x1, x2, x3, x4, x6, σ =>
    if (5 : Int32) < x6 then
      some (x3, σ)
    else
      (F_X6_boreWorth N x1 x6 σ).bind (fun q1 =>
      if x6 = 0 then
        (F_X6_bestBore_b8 N n) x1 x2 x6 (q1.1 - ((x6.toInt64 * (1000000 : Int64)) * x2.toInt64)) (x6 + (1 : Int32)) q1.2
      else
        if (lg_cmp (q1.1 - ((x6.toInt64 * (1000000 : Int64)) * x2.toInt64)) x4) ≤ 0 then
          (F_X6_bestBore_b8 N n) x1 x2 x3 x4 (x6 + (1 : Int32)) q1.2
        else
          (F_X6_bestBore_b8 N n) x1 x2 x6 (q1.1 - ((x6.toInt64 * (1000000 : Int64)) * x2.toInt64)) (x6 + (1 : Int32)) q1.2)
def F_X6_bestBore (N : Nat)  (a1 : Int32) (a2 : Int32) (σ : Mem) : Option (Int32 × Mem) :=
  (F_X6_bestBore_b8 N N) a1 a2 (0 : Int32) (0 : Int64) (0 : Int32) σ
def F_X11_far (N : Nat)  (a1 : Int32) (a2 : Int32) (σ : Mem) : Option (Int32 × Mem) :=
  (F_X11_isPlace N a1 σ).bind (fun q1 =>
  if q1.1 = 0 then
    some ((Int32.ofInt (-5)), q1.2)
  else
    (F_X11_within N a2 (0 : Int32) (999 : Int32) q1.2).bind (fun q2 =>
    if q2.1 = 0 then
      some ((Int32.ofInt (-7)), q2.2)
    else
      (F_X6_openYard N a1 q2.2).bind (fun q3 =>
      if q3.1 = 0 then
        some ((Int32.ofInt (-3)), q3.2)
      else
        (F_X6_bestBore N q3.1 a2 q3.2).bind (fun q4 =>
        some (q4.1, q4.2)))))
def F_X1_settle (N : Nat)  (a1 : Int32) (a2 : Int32) (σ : Mem) : Option (Int32 × Mem) :=
  if (σ.1 7 2) < (6 : Int32) then
    if hwOut (σ.1 7 2) 6 then none else
    if hwOut (σ.1 7 2) 6 then none else
    some ((σ.1 7 2), ((hwU2 σ.1 7 2 ((σ.1 7 2) + (1 : Int32))), σ.2.1, (hwU3 (hwU3 σ.2.2.1 20 0 ((σ.1 7 2)).toNatClampNeg a1) 21 0 ((σ.1 7 2)).toNatClampNeg a2), σ.2.2.2.1, σ.2.2.2.2))
  else
    some ((Int32.ofInt (-4)), σ)
def F_X11_farm (N : Nat)  (a1 : Int32) (a2 : Int32) (σ : Mem) : Option (Int32 × Mem) :=
  (F_X11_within N a1 (0 : Int32) (99 : Int32) σ).bind (fun q1 =>
  if q1.1 = 0 then
    some ((Int32.ofInt (-2)), q1.2)
  else
    (F_X11_within N a2 (1 : Int32) (99 : Int32) q1.2).bind (fun q2 =>
    if q2.1 = 0 then
      some ((Int32.ofInt (-2)), q2.2)
    else
      (F_X1_settle N a1 a2 q2.2).bind (fun q3 =>
      some (q3.1, q3.2))))
def F_X8_record_b20 (N : Nat)   : Nat → Int64 → Int32 → Mem → Option (Int32 × Mem)
  | 0, _, _, _ => none
  | n + 1, x1, x4, σ =>
    if x4 < 0 then
      some ((σ.1 3 3), σ)
    else
      if hwOut (σ.1 3 3) 160 then none else
      (F_X8_record_b20 N n) x1 (x4 + (Int32.ofInt (-1))) ((hwU2 σ.1 3 3 ((σ.1 3 3) + (1 : Int32))), σ.2.1, (hwU3 σ.2.2.1 62 0 ((σ.1 3 3)).toNatClampNeg ((x1 >>> ((((8 : Int32) * x4)).toInt64 &&& 63)).toInt32 &&& (255 : Int32))), σ.2.2.2.1, σ.2.2.2.2)
def F_X8_record (N : Nat)  (a1 : Int64) (a2 : Int32) (σ : Mem) : Option (Int32 × Mem) :=
  if ((σ.1 3 3) + a2) ≤ (160 : Int32) then
    (F_X8_record_b20 N N) a1 (a2 - (1 : Int32)) σ
  else
    some ((Int32.ofInt (-4)), σ)
def F_X11_feed (N : Nat)  (a1 : Int64) (a2 : Int32) (σ : Mem) : Option (Int32 × Mem) :=
  (F_X11_within N a2 (1 : Int32) (8 : Int32) σ).bind (fun q1 =>
  if q1.1 = 0 then
    some ((Int32.ofInt (-2)), q1.2)
  else
    (F_X8_record N a1 a2 q1.2).bind (fun q2 =>
    some (q2.1, q2.2)))
def F_X11_fill (N : Nat)  (a1 : Int32) (σ : Mem) : Option (Int32 × Mem) :=
  (F_X11_isPlace N a1 σ).bind (fun q1 =>
  if q1.1 = 0 then
    some ((Int32.ofInt (-1)), q1.2)
  else
    if hwOut a1 4 then none else
    if hwOut a1 4 then none else
    if hwOut a1 4 then none else
    some ((q1.2.2.2.1 58 0 (a1).toNatClampNeg), (q1.2.1, q1.2.2.1, (hwU3 (hwU3 q1.2.2.2.1 58 0 (a1).toNatClampNeg (0 : Int32)) 59 0 (a1).toNatClampNeg (0 : Int32)), q1.2.2.2.2.1, q1.2.2.2.2.2)))
def F_X6_dryWith_t52_b73 (N : Nat)  (k17 : Int32 → Nat → Int64 → Int32 → Mem → Option (Int64 × Mem)) (x3 : Int32) (x4 : Nat) (x5 : Int64) (x7 : Int32) (s0 : Int64) (s1 : Int32) (σ : Mem) : Option (Int64 × Mem) :=
  if hwOut s1 5 then none else
  if hwOut x7 5 then none else
  k17 x3 x4 (x5 + ((hwU3 σ.2.2.2.1 51 0 (s1).toNatClampNeg s0) 51 0 (x7).toNatClampNeg)) (x7 + (1 : Int32)) (σ.1, σ.2.1, σ.2.2.1, (hwU3 σ.2.2.2.1 51 0 (s1).toNatClampNeg s0), σ.2.2.2.2)
def F_X6_dryWith_t52_b104 (N : Nat)   : Nat → Int64 → Int32 → Mem → Option (Int64 × Mem)
  | 0, _, _, _ => none
  | n + 1, x5, x7, σ =>
    if (σ.1 1 6) ≤ x7 then
      some (x5, σ)
    else
      if hwOut x7 5 then none else
      if x5 = 0 then none else
      if hwOut x7 5 then none else
      (F_X6_dryWith_t52_b104 N n) x5 (x7 + (1 : Int32)) (σ.1, σ.2.1, σ.2.2.1, (hwU3 σ.2.2.2.1 51 0 (x7).toNatClampNeg (((σ.2.2.2.1 51 0 (x7).toNatClampNeg) * (1000000 : Int64)) / x5)), σ.2.2.2.2)
def F_X6_dryWith_t52_b17 (N : Nat)   : Nat → Int32 → Nat → Int64 → Int32 → Mem → Option (Int64 × Mem)
  | 0, _, _, _, _, _ => none
  | n + 1, x3, x4, x5, x7, σ =>
    if (σ.1 1 6) ≤ x7 then
      if 0 < (lg_cmp x5 (0 : Int64)) then
        (F_X6_dryWith_t52_b104 N N) x5 (0 : Int32) σ
      else
        some ((0 : Int64), σ)
    else
      if hwOut x7 5 then none else
      if (σ.2.2.1 24 0 (x7).toNatClampNeg) = x3 then
        if hwOut x7 5 then none else
        if hwOut x7 5 then none else
        if hwOut x7 5 then none else
        (F_X6_dryWith_t52_b73 N (F_X6_dryWith_t52_b17 N n)) x3 x4 x5 x7 ((σ.2.2.2.1 52 0 (x7).toNatClampNeg) - (((σ.2.2.2.1 52 0 (x7).toNatClampNeg) * (σ.2.2.1 44 x4 (x7).toNatClampNeg).toInt64) / (100 : Int64))) x7 σ
      else
        (F_X6_dryWith_t52_b73 N (F_X6_dryWith_t52_b17 N n)) x3 x4 x5 x7 (0 : Int64) x7 σ
def F_X6_dryWith_t52 (N : Nat)  (a2 : Int32) (a3 : Int32) (σ : Mem) : Option (Int64 × Mem) :=
  if hwOut a2 6 then none else
  (F_X6_dryWith_t52_b17 N N) a3 (a2).toNatClampNeg (0 : Int64) (0 : Int32) σ
def F_X6_mix_b2 (N : Nat)   : Nat → Int32 → Int32 → Mem → Option (Unit × Mem)
  | 0, _, _, _ => none
  | n + 1, x1, x2, σ =>
    if (σ.1 1 6) ≤ x2 then
      some ((), σ)
    else
      if hwOut x2 5 then none else
      if hwOut x2 5 then none else
      if hwOut x2 5 then none else
      (F_X6_mix_b2 N n) x1 (x2 + (1 : Int32)) (σ.1, σ.2.1, σ.2.2.1, (hwU3 σ.2.2.2.1 50 1 (x2).toNatClampNeg ((((σ.2.2.2.1 53 0 (x2).toNatClampNeg) * ((100 : Int32) - x1).toInt64) + ((σ.2.2.2.1 51 0 (x2).toNatClampNeg) * x1.toInt64)) / (100 : Int64))), σ.2.2.2.2)
def F_X6_mix (N : Nat)  (a1 : Int32) (σ : Mem) : Option (Unit × Mem) :=
  (F_X6_mix_b2 N N) a1 (0 : Int32) σ
def F_X6_teaches_b33 (N : Nat)   : Nat → Int32 → Int32 → Int64 → Int64 → Int32 → Mem → Option (Int64 × Mem)
  | 0, _, _, _, _, _, _ => none
  | n + 1, x1, x2, x3, x5, x7, σ =>
    if (3 : Int32) ≤ x7 then
      some (x5, σ)
    else
      (F_X6_dryWith_t52 N (1 : Int32) x7 σ).bind (fun q3 =>
      if (lg_cmp q3.1 (0 : Int64)) ≤ 0 then
        (F_X6_teaches_b33 N n) x1 x2 x3 x5 (x7 + (1 : Int32)) q3.2
      else
        if hwOut x1 4 then none else
        if hwOut x2 4 then none else
        (F_X6_mix N (q3.2.2.2.1 61 (x1).toNatClampNeg (x2).toNatClampNeg) q3.2).bind (fun q4 =>
        (F_X6_worthOf N (1 : Int32) q4.2).bind (fun q5 =>
        (F_X6_teaches_b33 N n) x1 x2 x3 (x5 + ((q3.1 * (q5.1 - x3)) / (1000000 : Int64))) (x7 + (1 : Int32)) q5.2)))
def F_X6_teaches (N : Nat)  (a1 : Int32) (a2 : Int32) (σ : Mem) : Option (Int64 × Mem) :=
  (F_X6_begin N a2 σ).bind (fun q1 =>
  (F_X6_worthOf N (1 : Int32) (q1.2.1, q1.2.2.1, q1.2.2.2.1, (hwR3 q1.2.2.2.2.1 53 0 (va_cpy (q1.2.2.2.2.1 50 1) (q1.2.2.2.2.1 53 0) 0 0 5)), q1.2.2.2.2.2)).bind (fun q2 =>
  (F_X6_teaches_b33 N N) a1 a2 q2.1 (0 : Int64) (0 : Int32) q2.2))
def F_X6_learning_b26 (N : Nat)   : Nat → Int32 → Int64 → Int32 → Mem → Option (Int64 × Mem)
  | 0, _, _, _, _ => none
  | n + 1, x1, x2, x4, σ =>
    if (σ.1 4 5) ≤ x4 then
      some (x2, σ)
    else
      if x4 = x1 then
        (F_X6_learning_b26 N n) x1 x2 (x4 + (1 : Int32)) σ
      else
        (F_X6_teaches N x1 x4 σ).bind (fun q2 =>
        (F_X6_learning_b26 N n) x1 (x2 + q2.1) (x4 + (1 : Int32)) q2.2)
def F_X6_learning (N : Nat)  (a1 : Int32) (σ : Mem) : Option (Int64 × Mem) :=
  (F_X6_begin N a1 σ).bind (fun q1 =>
  (F_X6_learning_b26 N N) a1 (0 : Int64) (0 : Int32) (q1.2.1, q1.2.2.1, q1.2.2.2.1, (hwR3 q1.2.2.2.2.1 52 0 (va_cpy (q1.2.2.2.2.1 50 1) (q1.2.2.2.2.1 52 0) 0 0 5)), q1.2.2.2.2.2))
def F_X11_first_b7 (N : Nat)   : Nat → Int32 → Int64 → Int32 → Mem → Option (Int32 × Mem)
  | 0, _, _, _, _ => none
  | n + 1, x1, x2, x4, σ =>
    if (σ.1 4 5) ≤ x4 then
      some (x1, σ)
    else
      (F_X6_learning N x4 σ).bind (fun q1 =>
      (F_X6_begin N x4 q1.2).bind (fun q2 =>
      (F_X6_worthOf N (1 : Int32) q2.2).bind (fun q3 =>
      if x1 < 0 then
        (F_X11_first_b7 N n) x4 (q1.1 + q3.1) (x4 + (1 : Int32)) q3.2
      else
        if (lg_cmp (q1.1 + q3.1) x2) ≤ 0 then
          (F_X11_first_b7 N n) x1 x2 (x4 + (1 : Int32)) q3.2
        else
          (F_X11_first_b7 N n) x4 (q1.1 + q3.1) (x4 + (1 : Int32)) q3.2)))
def F_X11_first (N : Nat)   (σ : Mem) : Option (Int32 × Mem) :=
  (F_X11_first_b7 N N) (Int32.ofInt (-1)) (0 : Int64) (0 : Int32) σ
def F_X2_reweigh (N : Nat)  (a1 : Int32) (a2 : Int32) (a3 : Int32) (σ : Mem) : Option (Int32 × Mem) :=
  if hwOut a1 5 then none else
  if hwOut a2 5 then none else
  if hwOut a1 5 then none else
  if hwOut a2 5 then none else
  if hwOut a1 5 then none else
  if hwOut a1 5 then none else
  some ((σ.2.2.1 26 (a1).toNatClampNeg (a2).toNatClampNeg), (σ.1, σ.2.1, (hwU3 (hwU3 σ.2.2.1 26 (a1).toNatClampNeg (a2).toNatClampNeg a3) 27 0 (a1).toNatClampNeg ((σ.2.2.1 27 0 (a1).toNatClampNeg) + (a3 - (σ.2.2.1 26 (a1).toNatClampNeg (a2).toNatClampNeg)))), σ.2.2.2.1, σ.2.2.2.2))
def F_X11_follow (N : Nat)  (a1 : Int32) (a2 : Int32) (a3 : Int32) (σ : Mem) : Option (Int32 × Mem) :=
  (F_X11_isLayer N a1 σ).bind (fun q1 =>
  if q1.1 = 0 then
    some ((Int32.ofInt (-1)), q1.2)
  else
    (F_X11_isLayer N a2 q1.2).bind (fun q2 =>
    if q2.1 = 0 then
      some ((Int32.ofInt (-1)), q2.2)
    else
      (F_X11_within N a3 (0 : Int32) (9 : Int32) q2.2).bind (fun q3 =>
      if q3.1 = 0 then
        some ((Int32.ofInt (-2)), q3.2)
      else
        (F_X2_reweigh N a1 a2 a3 q3.2).bind (fun q4 =>
        some (q4.1, q4.2)))))
def F_X4_truth (N : Nat)  (a1 : Int32) (σ : Mem) : Option (Int32 × Mem) :=
  if a1 = 0 then
    some ((0 : Int32), σ)
  else
    some ((1 : Int32), σ)
def F_X4_joined_b118 (N : Nat)   (s0 : Int32) (σ : Mem) : Option (Int32 × Mem) :=
  (F_X4_truth N s0 σ).bind (fun q1 =>
  some (q1.1, q1.2))
def F_X4_joined_b104 (N : Nat)   (s0 : Int32) (σ : Mem) : Option (Int32 × Mem) :=
  (F_X4_truth N s0 σ).bind (fun q2 =>
  some (q2.1, q2.2))
def F_X4_joined_b90 (N : Nat)   (s0 : Int32) (σ : Mem) : Option (Int32 × Mem) :=
  (F_X4_truth N s0 σ).bind (fun q3 =>
  some (q3.1, q3.2))
def F_X4_joined_b89 (N : Nat)  (k90 : Int32 → Mem → Option (Int32 × Mem))  (σ : Mem) : Option (Int32 × Mem) :=
  k90 (0 : Int32) σ
def F_X4_joined_b68 (N : Nat)  (k73 : Int32 → Mem → Option (Int32 × Mem))  (σ : Mem) : Option (Int32 × Mem) :=
  k73 (1 : Int32) σ
def F_X4_joined_b73 (N : Nat)   (s0 : Int32) (σ : Mem) : Option (Int32 × Mem) :=
  (F_X4_truth N s0 σ).bind (fun q4 =>
  some (q4.1, q4.2))
def F_X4_joined (N : Nat)  (a1 : Int32) (a2 : Int32) (a3 : Int32) (σ : Mem) : Option (Int32 × Mem) :=
  if a1 = 7 then
    if a2 = 0 then
      if a3 = 0 then
        (F_X4_joined_b73 N) (0 : Int32) σ
      else
        (F_X4_joined_b68 N (F_X4_joined_b73 N)) σ
    else
      (F_X4_joined_b68 N (F_X4_joined_b73 N)) σ
  else
  if a1 = 8 then
    if a2 = 0 then
      (F_X4_joined_b89 N (F_X4_joined_b90 N)) σ
    else
      if a3 = 0 then
        (F_X4_joined_b89 N (F_X4_joined_b90 N)) σ
      else
        (F_X4_joined_b90 N) (1 : Int32) σ
  else
  if a1 = 43 then
    some ((a2 + a3), σ)
  else
  if a1 = 45 then
    some ((a2 - a3), σ)
  else
  if a1 = 60 then
    if a3 ≤ a2 then
      (F_X4_joined_b104 N) (0 : Int32) σ
    else
      (F_X4_joined_b104 N) (1 : Int32) σ
  else
  if a1 = 61 then
    if a2 = a3 then
      (F_X4_joined_b118 N) (1 : Int32) σ
    else
      (F_X4_joined_b118 N) (0 : Int32) σ
  else
  some ((a2 * a3), σ)
def F_X4_turned_b15 (N : Nat)   (s0 : Int32) (σ : Mem) : Option (Int32 × Mem) :=
  (F_X4_truth N s0 σ).bind (fun q1 =>
  some (q1.1, q1.2))
def F_X4_turned (N : Nat)  (a1 : Int32) (a2 : Int32) (σ : Mem) : Option (Int32 × Mem) :=
  if a1 = (9 : Int32) then
    if a2 = 0 then
      (F_X4_turned_b15 N) (1 : Int32) σ
    else
      (F_X4_turned_b15 N) (0 : Int32) σ
  else
    some ((-a2), σ)
def F_X4_valueOf (N : Nat)  (a1 : Int32) (σ : Mem) : Option (Int32 × Mem) :=
  if a1 < 0 then
    some ((0 : Int32), σ)
  else
    if (6 : Int32) ≤ a1 then
      some ((0 : Int32), σ)
    else
      if hwOut a1 6 then none else
      some ((σ.2.2.1 47 0 (a1).toNatClampNeg), σ)
def F_X4_worked_t39_b76 (N : Nat)  (k9 : Nat → Int32 → Int32 → Mem → Option (Int32 × Mem)) (x1 : Nat) (x3 : Int32) (x4 : Int32) (s0 : Int32) (s1 : Int32) (σ : Mem) : Option (Int32 × Mem) :=
  if hwOut s1 160 then none else
  k9 x1 (x3 + (1 : Int32)) (x4 + (1 : Int32)) (σ.1, σ.2.1, (hwU3 σ.2.2.1 48 0 (s1).toNatClampNeg s0), σ.2.2.2.1, σ.2.2.2.2)
def F_X4_worked_t39_b168 (N : Nat)   (x3 : Int32) (σ : Mem) : Option (Int32 × Mem) :=
  if x3 ≤ 0 then
    some ((0 : Int32), σ)
  else
    some ((σ.2.2.1 48 0 0), σ)
def F_X4_worked_t39_b9 (N : Nat)   : Nat → Nat → Int32 → Int32 → Mem → Option (Int32 × Mem)
  | 0, _, _, _, _ => none
  | n + 1, x1, x3, x4, σ =>
    if (160 : Int32) ≤ x4 then
      (F_X4_worked_t39_b168 N) x3 σ
    else
      if hwOut x4 160 then none else
      if (σ.2.2.1 39 x1 (x4).toNatClampNeg) = (40000 : Int32) then
        (F_X4_worked_t39_b168 N) x3 σ
      else
        if hwOut x4 160 then none else
        if (20000 : Int32) ≤ (σ.2.2.1 39 x1 (x4).toNatClampNeg) then
          if (σ.2.2.1 39 x1 (x4).toNatClampNeg) < (30000 : Int32) then
            if x3 ≤ (1 : Int32) then
              (F_X4_worked_t39_b9 N n) x1 x3 (x4 + (1 : Int32)) σ
            else
              if hwOut ((x3 + (Int32.ofInt (-1))) - (1 : Int32)) 160 then none else
              if hwOut (x3 + (Int32.ofInt (-1))) 160 then none else
              (F_X4_joined N ((σ.2.2.1 39 x1 (x4).toNatClampNeg) - (20000 : Int32)) (σ.2.2.1 48 0 (((x3 + (Int32.ofInt (-1))) - (1 : Int32))).toNatClampNeg) (σ.2.2.1 48 0 ((x3 + (Int32.ofInt (-1)))).toNatClampNeg) σ).bind (fun q1 =>
              if hwOut ((x3 + (Int32.ofInt (-1))) - (1 : Int32)) 160 then none else
              (F_X4_worked_t39_b9 N n) x1 (x3 + (Int32.ofInt (-1))) (x4 + (1 : Int32)) (q1.2.1, q1.2.2.1, (hwU3 q1.2.2.2.1 48 0 (((x3 + (Int32.ofInt (-1))) - (1 : Int32))).toNatClampNeg q1.1), q1.2.2.2.2.1, q1.2.2.2.2.2))
          else
            if x3 ≤ 0 then
              (F_X4_worked_t39_b9 N n) x1 x3 (x4 + (1 : Int32)) σ
            else
              if hwOut (x3 - (1 : Int32)) 160 then none else
              (F_X4_turned N ((σ.2.2.1 39 x1 (x4).toNatClampNeg) - (30000 : Int32)) (σ.2.2.1 48 0 ((x3 - (1 : Int32))).toNatClampNeg) σ).bind (fun q2 =>
              if hwOut (x3 - (1 : Int32)) 160 then none else
              (F_X4_worked_t39_b9 N n) x1 x3 (x4 + (1 : Int32)) (q2.2.1, q2.2.2.1, (hwU3 q2.2.2.2.1 48 0 ((x3 - (1 : Int32))).toNatClampNeg q2.1), q2.2.2.2.2.1, q2.2.2.2.2.2))
        else
          if (160 : Int32) ≤ x3 then
            (F_X4_worked_t39_b9 N n) x1 x3 (x4 + (1 : Int32)) σ
          else
            if (10000 : Int32) ≤ (σ.2.2.1 39 x1 (x4).toNatClampNeg) then
              (F_X4_valueOf N ((σ.2.2.1 39 x1 (x4).toNatClampNeg) - (10000 : Int32)) σ).bind (fun q3 =>
              (F_X4_worked_t39_b76 N (F_X4_worked_t39_b9 N n)) x1 x3 x4 q3.1 x3 q3.2)
            else
              (F_X4_worked_t39_b76 N (F_X4_worked_t39_b9 N n)) x1 x3 x4 (σ.2.2.1 39 x1 (x4).toNatClampNeg) x3 σ
def F_X4_worked_t39 (N : Nat)  (a1 : Nat) (a2 : Int32) (σ : Mem) : Option (Int32 × Mem) :=
  (F_X4_worked_t39_b9 N N) a1 (0 : Int32) (if (0 : Int32) < a2 then a2 else (0 : Int32)) σ
def F_X4_part (N : Nat)  (a1 : Int32) (a2 : Int32) (σ : Mem) : Option (Int32 × Mem) :=
  if hwOut (σ.1 2 10) 6 then none else
  if hwOut (σ.1 2 10) 6 then none else
  if hwOut a1 3 then none else
  (F_X4_worked_t39 N ((σ.1 2 10)).toNatClampNeg (σ.2.2.1 41 ((σ.1 2 10)).toNatClampNeg (a1).toNatClampNeg) σ).bind (fun q1 =>
  some ((if (0 : Int32) < (if q1.1 < a2 then q1.1 else a2) then (if q1.1 < a2 then q1.1 else a2) else (0 : Int32)), q1.2))
def F_X4_weighLayers_t44_b2 (N : Nat)   : Nat → Nat → Int32 → Mem → Option (Unit × Mem)
  | 0, _, _, _ => none
  | n + 1, x1, x2, σ =>
    if (σ.1 1 6) ≤ x2 then
      some ((), (σ.1, σ.2.1, (hwU3 (hwU3 (hwU3 σ.2.2.1 47 0 1 (0 : Int32)) 47 0 2 (0 : Int32)) 47 0 3 (0 : Int32)), σ.2.2.2.1, σ.2.2.2.2))
    else
      if hwOut x2 5 then none else
      if hwOut x2 5 then none else
      (F_X4_part N (1 : Int32) (100 : Int32) (σ.1, σ.2.1, (hwU3 (hwU3 (hwU3 σ.2.2.1 47 0 1 x2) 47 0 2 (σ.2.2.1 22 0 (x2).toNatClampNeg)) 47 0 3 (σ.2.2.1 23 0 (x2).toNatClampNeg)), σ.2.2.2.1, σ.2.2.2.2)).bind (fun q1 =>
      if hwOut x2 5 then none else
      (F_X4_weighLayers_t44_b2 N n) x1 (x2 + (1 : Int32)) (q1.2.1, q1.2.2.1, (hwU3 q1.2.2.2.1 44 x1 (x2).toNatClampNeg q1.1), q1.2.2.2.2.1, q1.2.2.2.2.2))
def F_X4_weighLayers_t44 (N : Nat)  (a1 : Nat) (σ : Mem) : Option (Unit × Mem) :=
  (F_X4_weighLayers_t44_b2 N N) a1 (0 : Int32) σ
def F_X4_weigh_b38 (N : Nat)   : Nat → Int32 → Mem → Option (Unit × Mem)
  | 0, _, _ => none
  | n + 1, x1, σ =>
    if (5 : Int32) < x1 then
      some ((), σ)
    else
      (F_X4_part N (0 : Int32) (999 : Int32) (σ.1, σ.2.1, (hwU3 σ.2.2.1 47 0 0 x1), σ.2.2.2.1, σ.2.2.2.2)).bind (fun q1 =>
      if hwOut x1 6 then none else
      (F_X4_part N (2 : Int32) (100 : Int32) (q1.2.1, q1.2.2.1, (hwU3 q1.2.2.2.1 42 0 (x1).toNatClampNeg q1.1), q1.2.2.2.2.1, q1.2.2.2.2.2)).bind (fun q2 =>
      if hwOut x1 6 then none else
      (F_X4_part N (2 : Int32) (100 : Int32) (q2.2.1, q2.2.2.1, (hwU3 (hwU3 q2.2.2.2.1 46 0 (x1).toNatClampNeg q2.1) 47 0 5 (1 : Int32)), q2.2.2.2.2.1, q2.2.2.2.2.2)).bind (fun q3 =>
      if hwOut x1 6 then none else
      if hwOut x1 6 then none else
      (F_X4_weighLayers_t44 N (x1).toNatClampNeg (q3.2.1, q3.2.2.1, (hwU3 (hwU3 q3.2.2.2.1 46 1 (x1).toNatClampNeg q3.1) 47 0 5 (0 : Int32)), q3.2.2.2.2.1, q3.2.2.2.2.2)).bind (fun q4 =>
      (F_X4_weigh_b38 N n) (x1 + (1 : Int32)) q4.2))))
def F_X4_weigh_b2 (N : Nat)   : Nat → Int32 → Mem → Option (Unit × Mem)
  | 0, _, _ => none
  | n + 1, x1, σ =>
    if (6 : Int32) ≤ x1 then
      (F_X4_weigh_b38 N N) (1 : Int32) (σ.1, σ.2.1, (hwU3 σ.2.2.1 47 0 4 (σ.2.2.1 28 0 2)), σ.2.2.2.1, σ.2.2.2.2)
    else
      if hwOut x1 6 then none else
      (F_X4_weigh_b2 N n) (x1 + (1 : Int32)) (σ.1, σ.2.1, (hwU3 σ.2.2.1 47 0 (x1).toNatClampNeg (0 : Int32)), σ.2.2.2.1, σ.2.2.2.2)
def F_X4_weigh (N : Nat)   (σ : Mem) : Option (Unit × Mem) :=
  (F_X4_weigh_b2 N N) (0 : Int32) σ
def F_X11_force (N : Nat)  (a1 : Int32) (σ : Mem) : Option (Int32 × Mem) :=
  (F_X11_within N a1 (0 : Int32) ((σ.1 2 9) - (1 : Int32)) σ).bind (fun q1 =>
  if q1.1 = 0 then
    some ((Int32.ofInt (-2)), q1.2)
  else
    (F_X4_weigh N ((hwU2 q1.2.1 2 10 a1), q1.2.2.1, q1.2.2.2.1, q1.2.2.2.2.1, q1.2.2.2.2.2)).bind (fun q2 =>
    some ((q1.2.1 2 10), q2.2)))
def F_X11_goesBy (N : Nat)  (a1 : Int32) (a2 : Int32) (σ : Mem) : Option (Int32 × Mem) :=
  (F_X11_isRule N a1 σ).bind (fun q1 =>
  if q1.1 = 0 then
    some ((Int32.ofInt (-5)), q1.2)
  else
    (F_X11_isPlace N a2 q1.2).bind (fun q2 =>
    if q2.1 = 0 then
      some ((Int32.ofInt (-5)), q2.2)
    else
      (F_X6_openYard N a2 q2.2).bind (fun q3 =>
      if q3.1 = 0 then
        some ((Int32.ofInt (-3)), q3.2)
      else
        if hwOut a2 4 then none else
        (F_X7_signOf N a2 (q3.2.2.2.1 58 0 (a2).toNatClampNeg) q3.2).bind (fun q4 =>
        (F_X9_goesOn N a1 (q3.2.2.2.1 58 0 (a2).toNatClampNeg) q4.1 q4.2).bind (fun q5 =>
        if q5.1 = 0 then
          some ((0 : Int32), q5.2)
        else
          some ((1 : Int32), q5.2))))))
def F_X3_carry_t25_t30_b2 (N : Nat)   : Nat → Int32 → Int32 → Mem → Option (Unit × Mem)
  | 0, _, _, _ => none
  | n + 1, x2, x3, σ =>
    if (5 : Int32) ≤ x3 then
      some ((), σ)
    else
      if (5 : Int32) ≤ x3 then
        some ((), σ)
      else
        if hwOut x3 5 then none else
        if hwOut x3 5 then none else
        if (0 : Int32) < 0 ∨ (0 : Int32) < 0 ∨ x2 < 0 ∨ 5 < 0 + (x2).toNatClampNeg ∨ 5 < 0 + (x2).toNatClampNeg then none else
        (F_X3_carry_t25_t30_b2 N n) x2 (x3 + (1 : Int32)) (σ.1, σ.2.1, (hwR3 σ.2.2.1 31 (x3).toNatClampNeg (va_cpy (σ.2.2.1 26 (x3).toNatClampNeg) (σ.2.2.1 31 (x3).toNatClampNeg) 0 0 (x2).toNatClampNeg)), σ.2.2.2.1, σ.2.2.2.2)
def F_X3_carry_t25_t30 (N : Nat)  (a3 : Int32) (σ : Mem) : Option (Unit × Mem) :=
  (F_X3_carry_t25_t30_b2 N N) a3 (0 : Int32) σ
def F_X3_carry_t56_t32_b2 (N : Nat)   : Nat → Int32 → Int32 → Mem → Option (Unit × Mem)
  | 0, _, _, _ => none
  | n + 1, x2, x3, σ =>
    if (4 : Int32) ≤ x3 then
      some ((), σ)
    else
      if (4 : Int32) ≤ x3 then
        some ((), σ)
      else
        if hwOut x3 4 then none else
        if hwOut x3 4 then none else
        if (0 : Int32) < 0 ∨ (0 : Int32) < 0 ∨ x2 < 0 ∨ 5 < 0 + (x2).toNatClampNeg ∨ 5 < 0 + (x2).toNatClampNeg then none else
        (F_X3_carry_t56_t32_b2 N n) x2 (x3 + (1 : Int32)) (σ.1, σ.2.1, (hwR3 σ.2.2.1 33 (x3).toNatClampNeg (va_cpy (σ.2.2.1 57 (x3).toNatClampNeg) (σ.2.2.1 33 (x3).toNatClampNeg) 0 0 (x2).toNatClampNeg)), σ.2.2.2.1, σ.2.2.2.2)
def F_X3_carry_t56_t32 (N : Nat)  (a3 : Int32) (σ : Mem) : Option (Unit × Mem) :=
  (F_X3_carry_t56_t32_b2 N N) a3 (0 : Int32) σ
def F_X3_carry_t60_t36_b2 (N : Nat)   : Nat → Int32 → Int32 → Mem → Option (Unit × Mem)
  | 0, _, _, _ => none
  | n + 1, x2, x3, σ =>
    if (4 : Int32) ≤ x3 then
      some ((), σ)
    else
      if (4 : Int32) ≤ x3 then
        some ((), σ)
      else
        if hwOut x3 4 then none else
        if hwOut x3 4 then none else
        if (0 : Int32) < 0 ∨ (0 : Int32) < 0 ∨ x2 < 0 ∨ 4 < 0 + (x2).toNatClampNeg ∨ 4 < 0 + (x2).toNatClampNeg then none else
        (F_X3_carry_t60_t36_b2 N n) x2 (x3 + (1 : Int32)) (σ.1, σ.2.1, (hwR3 σ.2.2.1 37 (x3).toNatClampNeg (va_cpy (σ.2.2.1 61 (x3).toNatClampNeg) (σ.2.2.1 37 (x3).toNatClampNeg) 0 0 (x2).toNatClampNeg)), σ.2.2.2.1, σ.2.2.2.2)
def F_X3_carry_t60_t36 (N : Nat)  (a3 : Int32) (σ : Mem) : Option (Unit × Mem) :=
  (F_X3_carry_t60_t36_b2 N N) a3 (0 : Int32) σ
def F_X3_keep_b96 (N : Nat)   : Nat → Int32 → Mem → Option (Unit × Mem)
  | 0, _, _ => none
  | n + 1, x2, σ =>
    if (4 : Int32) ≤ x2 then
      some ((), σ)
    else
      if hwOut x2 4 then none else
      if hwOut x2 4 then none else
      if hwOut x2 4 then none else
      if hwOut x2 4 then none else
      (F_X3_keep_b96 N n) (x2 + (1 : Int32)) (σ.1, σ.2.1, (hwU3 (hwU3 σ.2.2.1 34 0 (x2).toNatClampNeg (σ.2.2.1 58 0 (x2).toNatClampNeg)) 35 0 (x2).toNatClampNeg (vp_nar .boolean (σ.2.2.1 59 0 (x2).toNatClampNeg))), σ.2.2.2.1, σ.2.2.2.2)
def F_X3_keep (N : Nat)  (a1 : Int32) (σ : Mem) : Option (Unit × Mem) :=
  (F_X3_carry_t25_t30 N (5 : Int32) ((hwU2 (hwU2 (hwU2 (hwU2 σ.1 11 11 (1 : Int32)) 11 10 a1) 11 8 (σ.1 1 6)) 11 9 (σ.1 4 5)), σ.2.1, (hwR3 σ.2.2.1 29 0 (va_cpy (σ.2.2.1 28 0) (σ.2.2.1 29 0) 0 0 5)), σ.2.2.2.1, σ.2.2.2.2)).bind (fun q1 =>
  (F_X3_carry_t56_t32 N (5 : Int32) q1.2).bind (fun q2 =>
  (F_X3_carry_t60_t36 N (4 : Int32) q2.2).bind (fun q3 =>
  (F_X3_keep_b96 N N) (0 : Int32) q3.2)))
def F_X11_image (N : Nat)   (σ : Mem) : Option (Int32 × Mem) :=
  (F_X3_keep N (σ.1 2 10) σ).bind (fun q1 =>
  some ((q1.2.1 4 5), q1.2))
def F_X6_leastWorth_b24 (N : Nat)   : Nat → Int32 → Int32 → Int32 → Int32 → Mem → Option (Int32 × Mem)
  | 0, _, _, _, _, _ => none
  | n + 1, x1, x2, x3, x4, σ =>
    if (32 : Int32) ≤ x4 then
      some (x2, σ)
    else
      if x3 ≤ x2 then
        some (x2, σ)
      else
        (F_X6_goingOn N x1 ((x2 + x3) / (2 : Int32)) σ).bind (fun q2 =>
        if (lg_cmp q2.1 (0 : Int64)) ≤ 0 then
          (F_X6_leastWorth_b24 N n) x1 (((x2 + x3) / (2 : Int32)) + (1 : Int32)) x3 (x4 + (1 : Int32)) q2.2
        else
          (F_X6_leastWorth_b24 N n) x1 x2 ((x2 + x3) / (2 : Int32)) (x4 + (1 : Int32)) q2.2)
def F_X6_leastWorth (N : Nat)  (a1 : Int32) (σ : Mem) : Option (Int32 × Mem) :=
  (F_X6_goingOn N a1 (9999 : Int32) σ).bind (fun q1 =>
  if 0 < (lg_cmp q1.1 (0 : Int64)) then
    (F_X6_leastWorth_b24 N N) a1 (0 : Int32) (9999 : Int32) (0 : Int32) q1.2
  else
    some ((Int32.ofInt (-1)), q1.2))
def F_X11_index (N : Nat)  (a1 : Int32) (σ : Mem) : Option (Int32 × Mem) :=
  (F_X11_isPlace N a1 σ).bind (fun q1 =>
  if q1.1 = 0 then
    some ((Int32.ofInt (-5)), q1.2)
  else
    (F_X6_openYard N a1 q1.2).bind (fun q2 =>
    if q2.1 = 0 then
      some ((Int32.ofInt (-3)), q2.2)
    else
      (F_X6_leastWorth N q2.1 q2.2).bind (fun q3 =>
      some (q3.1, q3.2))))
def F_X1_all (N : Nat)   (σ : Mem) : Option (Int32 × Mem) :=
  some ((((1 : Int32) <<< ((σ.1 7 2) &&& 31)) - (1 : Int32)), σ)
def F_X1_has (N : Nat)  (a1 : Int32) (a2 : Int32) (σ : Mem) : Option (Int32 × Mem) :=
  if ((a1 >>> (a2 &&& 31)) &&& (1 : Int32)) = (1 : Int32) then
    some ((1 : Int32), σ)
  else
    some ((0 : Int32), σ)
def F_X1_given_t69_b5 (N : Nat)   : Nat → Nat → Int32 → Int32 → Int32 → Mem → Option (Int32 × Mem)
  | 0, _, _, _, _, _ => none
  | n + 1, x1, x2, x3, x4, σ =>
    if (σ.1 7 2) ≤ x4 then
      some (x3, σ)
    else
      if (40 : Int32) ≤ x4 then
        some (x3, σ)
      else
        (F_X1_has N x2 x4 σ).bind (fun q1 =>
        if q1.1 = 0 then
          (F_X1_given_t69_b5 N n) x1 x2 x3 (x4 + (1 : Int32)) q1.2
        else
          if hwOut x4 40 then none else
          (F_X1_given_t69_b5 N n) x1 x2 (x3 + (q1.2.2.2.1 69 x1 (x4).toNatClampNeg)) (x4 + (1 : Int32)) q1.2)
def F_X1_given_t69 (N : Nat)  (a1 : Nat) (a2 : Int32) (σ : Mem) : Option (Int32 × Mem) :=
  (F_X1_given_t69_b5 N N) a1 a2 (0 : Int32) (0 : Int32) σ
def F_X1_walk_b5 (N : Nat)   : Nat → Int32 → Int32 → Int32 → Int32 → Mem → Option (Int32 × Mem)
  | 0, _, _, _, _, _ => none
  | n + 1, x1, x2, x3, x4, σ =>
    if (σ.1 7 2) ≤ x4 then
      some (x3, σ)
    else
      (F_X1_has N x1 x4 σ).bind (fun q1 =>
      if q1.1 = 0 then
        (F_X1_walk_b5 N n) x1 x2 x3 (x4 + (1 : Int32)) q1.2
      else
        if hwOut x4 6 then none else
        if hwOut x4 6 then none else
        (F_X1_walk_b5 N n) x1 x2 (x3 + ((q1.2.2.2.1 21 0 (x4).toNatClampNeg) * (if 0 ≤ ((q1.2.2.2.1 20 0 (x4).toNatClampNeg) - x2) then ((q1.2.2.2.1 20 0 (x4).toNatClampNeg) - x2) else 0 - ((q1.2.2.2.1 20 0 (x4).toNatClampNeg) - x2)))) (x4 + (1 : Int32)) q1.2)
def F_X1_walk (N : Nat)  (a1 : Int32) (a2 : Int32) (σ : Mem) : Option (Int32 × Mem) :=
  (F_X1_walk_b5 N N) a1 a2 (0 : Int32) (0 : Int32) σ
def F_X1_wellOf_b66 (N : Nat)  (k7 : Int32 → Int32 → Int32 → Int32 → Mem → Option (Int32 × Mem)) (x1 : Int32) (x4 : Int32) (x5 : Int32) (σ : Mem) : Option (Int32 × Mem) :=
  if hwOut x4 6 then none else
  k7 x1 (σ.2.2.1 20 0 (x4).toNatClampNeg) x5 (x4 + (1 : Int32)) σ
def F_X1_wellOf_b7 (N : Nat)   : Nat → Int32 → Int32 → Int32 → Int32 → Mem → Option (Int32 × Mem)
  | 0, _, _, _, _, _ => none
  | n + 1, x1, x2, x3, x4, σ =>
    if (σ.1 7 2) ≤ x4 then
      some (x2, σ)
    else
      (F_X1_has N x1 x4 σ).bind (fun q1 =>
      if q1.1 = 0 then
        (F_X1_wellOf_b7 N n) x1 x2 x3 (x4 + (1 : Int32)) q1.2
      else
        if hwOut x4 6 then none else
        (F_X1_walk N x1 (q1.2.2.2.1 20 0 (x4).toNatClampNeg) q1.2).bind (fun q2 =>
        if x2 < 0 then
          (F_X1_wellOf_b66 N (F_X1_wellOf_b7 N n)) x1 x4 q2.1 q2.2
        else
          if q2.1 < x3 then
            (F_X1_wellOf_b66 N (F_X1_wellOf_b7 N n)) x1 x4 q2.1 q2.2
          else
            if q2.1 = x3 then
              if hwOut x4 6 then none else
              if x2 ≤ (q2.2.2.2.1 20 0 (x4).toNatClampNeg) then
                (F_X1_wellOf_b7 N n) x1 x2 x3 (x4 + (1 : Int32)) q2.2
              else
                (F_X1_wellOf_b66 N (F_X1_wellOf_b7 N n)) x1 x4 q2.1 q2.2
            else
              (F_X1_wellOf_b7 N n) x1 x2 x3 (x4 + (1 : Int32)) q2.2))
def F_X1_wellOf (N : Nat)  (a1 : Int32) (σ : Mem) : Option (Int32 × Mem) :=
  (F_X1_wellOf_b7 N N) a1 (Int32.ofInt (-1)) (0 : Int32) (0 : Int32) σ
def F_X1_leaving_t69_b8 (N : Nat)   : Nat → Nat → Int32 → Int32 → Int32 → Mem → Option (Int32 × Mem)
  | 0, _, _, _, _, _ => none
  | n + 1, x1, x2, x3, x4, σ =>
    if x3 < x4 then
      some ((Int32.ofInt (-1)), σ)
    else
      (F_X1_given_t69 N x1 x4 σ).bind (fun q2 =>
      (F_X1_wellOf N x4 q2.2).bind (fun q3 =>
      (F_X1_walk N x4 q3.1 q3.2).bind (fun q4 =>
      if (q4.1 + x2) < q2.1 then
        some (x4, q4.2)
      else
        if x4 = x3 then
          if (q4.1 + x2) ≤ q2.1 then
            (F_X1_leaving_t69_b8 N n) x1 x2 x3 (x4 + (1 : Int32)) q4.2
          else
            some (x4, q4.2)
        else
          (F_X1_leaving_t69_b8 N n) x1 x2 x3 (x4 + (1 : Int32)) q4.2)))
def F_X1_leaving_t69 (N : Nat)  (a1 : Nat) (a2 : Int32) (σ : Mem) : Option (Int32 × Mem) :=
  (F_X1_all N σ).bind (fun q1 =>
  (F_X1_leaving_t69_b8 N N) a1 a2 q1.1 (1 : Int32) q1.2)
def F_X4_costsOf_b4 (N : Nat)   : Nat → Int32 → Int32 → Int32 → Mem → Option (Int32 × Mem)
  | 0, _, _, _, _ => none
  | n + 1, x1, x2, x3, σ =>
    if x1 < x3 then
      some (x2, σ)
    else
      if (5 : Int32) < x3 then
        some (x2, σ)
      else
        if hwOut x3 6 then none else
        (F_X4_costsOf_b4 N n) x1 (x2 + (σ.2.2.1 42 0 (x3).toNatClampNeg)) (x3 + (1 : Int32)) σ
def F_X4_costsOf (N : Nat)  (a1 : Int32) (σ : Mem) : Option (Int32 × Mem) :=
  (F_X4_costsOf_b4 N N) a1 (0 : Int32) (1 : Int32) σ
def F_X11_join (N : Nat)  (a1 : Int32) (a2 : Int32) (σ : Mem) : Option (Int32 × Mem) :=
  (F_X11_isSheet N a1 σ).bind (fun q1 =>
  if q1.1 = 0 then
    some ((Int32.ofInt (-2)), q1.2)
  else
    (F_X11_within N a2 (1 : Int32) (5 : Int32) q1.2).bind (fun q2 =>
    if q2.1 = 0 then
      some ((Int32.ofInt (-2)), q2.2)
    else
      (F_X10_isMissing N a1 q2.2).bind (fun q3 =>
      if q3.1 = 0 then
        if hwOut a1 4 then none else
        if (q3.2.2.2.1 71 0 (a1).toNatClampNeg) = (q3.2.1 7 2) then
          (F_X10_allWithin N a1 (0 : Int32) (999999 : Int32) q3.2).bind (fun q4 =>
          if q4.1 = 0 then
            some ((Int32.ofInt (-2)), q4.2)
          else
            if hwOut a1 4 then none else
            (F_X4_costsOf N a2 q4.2).bind (fun q5 =>
            (F_X1_leaving_t69 N (a1).toNatClampNeg q5.1 q5.2).bind (fun q6 =>
            some (q6.1, q6.2))))
        else
          some ((Int32.ofInt (-2)), q3.2)
      else
        some ((Int32.ofInt (-11)), q3.2))))
def F_X6_firstWrong_t69_b8 (N : Nat)   : Nat → Nat → Int32 → Int32 → Mem → Option (Int32 × Mem)
  | 0, _, _, _, _ => none
  | n + 1, x2, x3, x4, σ =>
    if x3 ≤ x4 then
      some ((Int32.ofInt (-1)), σ)
    else
      if (5 : Int32) ≤ x4 then
        some ((Int32.ofInt (-1)), σ)
      else
        if hwOut x4 40 then none else
        (F_X11_within N (σ.2.2.1 69 x2 (x4).toNatClampNeg) (0 : Int32) (2 : Int32) σ).bind (fun q2 =>
        if q2.1 = 0 then
          some (x4, q2.2)
        else
          if hwOut x4 40 then none else
          (F_X6_pass N (x4 + (1 : Int32)) (q2.2.2.2.1 69 x2 (x4).toNatClampNeg) q2.2).bind (fun q3 =>
          if (lg_cmp q3.1 (0 : Int64)) = 0 then
            some (x4, q3.2)
          else
            (F_X6_firstWrong_t69_b8 N n) x2 x3 (x4 + (1 : Int32)) q3.2))
def F_X6_firstWrong_t69 (N : Nat)  (a1 : Int32) (a2 : Nat) (a3 : Int32) (σ : Mem) : Option (Int32 × Mem) :=
  (F_X6_begin N a1 σ).bind (fun q1 =>
  (F_X6_firstWrong_t69_b8 N N) a2 a3 (0 : Int32) q1.2)
def F_X11_judge (N : Nat)  (a1 : Int32) (a2 : Int32) (σ : Mem) : Option (Int32 × Mem) :=
  (F_X11_isPlace N a1 σ).bind (fun q1 =>
  if q1.1 = 0 then
    some ((Int32.ofInt (-5)), q1.2)
  else
    (F_X11_isSheet N a2 q1.2).bind (fun q2 =>
    if q2.1 = 0 then
      some ((Int32.ofInt (-2)), q2.2)
    else
      (F_X10_isMissing N a2 q2.2).bind (fun q3 =>
      if q3.1 = 0 then
        if hwOut a2 4 then none else
        (F_X2_deepest N q3.2).bind (fun q4 =>
        if (q3.2.2.2.1 71 0 (a2).toNatClampNeg) ≤ q4.1 then
          if hwOut a2 4 then none else
          if hwOut a2 4 then none else
          (F_X6_firstWrong_t69 N a1 (a2).toNatClampNeg (q4.2.2.2.1 71 0 (a2).toNatClampNeg) q4.2).bind (fun q5 =>
          some (q5.1, q5.2))
        else
          some ((Int32.ofInt (-2)), q4.2))
      else
        some ((Int32.ofInt (-11)), q3.2))))
def F_X2_lay (N : Nat)  (a1 : Int32) (a2 : Int32) (a3 : Int32) (σ : Mem) : Option (Int32 × Mem) :=
  if hwOut (σ.1 1 6) 5 then none else
  if hwOut (σ.1 1 6) 5 then none else
  if hwOut (σ.1 1 6) 5 then none else
  some ((σ.1 1 6), ((hwU2 σ.1 1 6 ((σ.1 1 6) + (1 : Int32))), σ.2.1, (hwU3 (hwU3 (hwU3 σ.2.2.1 22 0 ((σ.1 1 6)).toNatClampNeg a1) 23 0 ((σ.1 1 6)).toNatClampNeg a2) 24 0 ((σ.1 1 6)).toNatClampNeg a3), σ.2.2.2.1, σ.2.2.2.2))
def F_X11_newLayer (N : Nat)  (a1 : Int32) (a2 : Int32) (a3 : Int32) (σ : Mem) : Option (Int32 × Mem) :=
  (F_X11_within N a1 (0 : Int32) (100 : Int32) σ).bind (fun q1 =>
  if q1.1 = 0 then
    some ((Int32.ofInt (-2)), q1.2)
  else
    (F_X11_within N a2 (0 : Int32) (9 : Int32) q1.2).bind (fun q2 =>
    if q2.1 = 0 then
      some ((Int32.ofInt (-2)), q2.2)
    else
      (F_X11_within N a3 (0 : Int32) (2 : Int32) q2.2).bind (fun q3 =>
      if q3.1 = 0 then
        some ((Int32.ofInt (-2)), q3.2)
      else
        if (q3.2.1 1 6) < (5 : Int32) then
          if (q3.2.1 4 5) ≤ 0 then
            (F_X2_lay N a1 a2 a3 q3.2).bind (fun q4 =>
            some (q4.1, q4.2))
          else
            some ((Int32.ofInt (-3)), q3.2)
        else
          some ((Int32.ofInt (-4)), q3.2))))
def F_X11_layer (N : Nat)  (a1 : Int32) (a2 : Int32) (a3 : Int32) (σ : Mem) : Option (Int32 × Mem) :=
  (F_X11_newLayer N a1 a2 a3 σ).bind (fun q1 =>
  if q1.1 < 0 then
    some (q1.1, q1.2)
  else
    (F_X4_weigh N q1.2).bind (fun q2 =>
    some (q1.1, q2.2)))
def F_X11_layersBy_b68 (N : Nat)   : Nat → Int32 → Int32 → Int32 → Int32 → Int32 → Mem → Option (Int32 × Mem)
  | 0, _, _, _, _, _, _ => none
  | n + 1, x1, x4, x5, x6, x7, σ =>
    if x4 ≤ x6 then
      some (x5, σ)
    else
      (F_X10_holds N x1 x7 (3 : Int32) σ).bind (fun q5 =>
      if q5.1 = 0 then
        some ((Int32.ofInt (-12)), q5.2)
      else
        if hwOut x1 4 then none else
        if hwOut x7 40 then none else
        if hwOut (x7 + (1 : Int32)) 40 then none else
        if hwOut (x7 + (2 : Int32)) 40 then none else
        (F_X11_layer N (q5.2.2.2.1 69 (x1).toNatClampNeg (x7).toNatClampNeg) (q5.2.2.2.1 69 (x1).toNatClampNeg ((x7 + (1 : Int32))).toNatClampNeg) (q5.2.2.2.1 69 (x1).toNatClampNeg ((x7 + (2 : Int32))).toNatClampNeg) q5.2).bind (fun q6 =>
        if q6.1 < 0 then
          (F_X11_layersBy_b68 N n) x1 x4 x5 (x6 + (1 : Int32)) (x7 + (3 : Int32)) q6.2
        else
          (F_X11_layersBy_b68 N n) x1 x4 (x5 + (1 : Int32)) (x6 + (1 : Int32)) (x7 + (3 : Int32)) q6.2))
def F_X11_layersBy (N : Nat)  (a1 : Int32) (a2 : Int32) (a3 : Int32) (a4 : Int32) (σ : Mem) : Option (Int32 × Mem) :=
  (F_X11_isSheet N a1 σ).bind (fun q1 =>
  if q1.1 = 0 then
    some ((Int32.ofInt (-2)), q1.2)
  else
    (F_X11_within N a2 (0 : Int32) (2 : Int32) q1.2).bind (fun q2 =>
    if q2.1 = 0 then
      some ((Int32.ofInt (-2)), q2.2)
    else
      (F_X11_within N a4 (0 : Int32) (5 : Int32) q2.2).bind (fun q3 =>
      if q3.1 = 0 then
        some ((Int32.ofInt (-2)), q3.2)
      else
        (F_X10_isMissing N a1 q3.2).bind (fun q4 =>
        if q4.1 = 0 then
          if hwOut a1 4 then none else
          if (q4.2.2.2.1 70 0 (a1).toNatClampNeg) = a2 then
            (F_X11_layersBy_b68 N N) a1 a4 (0 : Int32) (0 : Int32) a3 q4.2
          else
            some ((Int32.ofInt (-13)), q4.2)
        else
          some ((Int32.ofInt (-11)), q4.2)))))
def F_X11_learn (N : Nat)  (a1 : Int32) (σ : Mem) : Option (Int64 × Mem) :=
  (F_X11_isPlace N a1 σ).bind (fun q1 =>
  if q1.1 = 0 then
    some ((Int64.ofInt (-4611686018427387904)), q1.2)
  else
    (F_X6_learning N a1 q1.2).bind (fun q2 =>
    some (q2.1, q2.2)))
def F_X11_likely (N : Nat)  (a1 : Int32) (σ : Mem) : Option (Int64 × Mem) :=
  (F_X11_isPlace N a1 σ).bind (fun q1 =>
  if q1.1 = 0 then
    some ((Int64.ofInt (-4611686018427387904)), q1.2)
  else
    (F_X6_nextYard N a1 q1.2).bind (fun q2 =>
    if q2.1 = 0 then
      some ((Int64.ofInt (-3)), q2.2)
    else
      (F_X2_deepest N q2.2).bind (fun q3 =>
      if q2.1 ≤ q3.1 then
        (F_X6_wet N q2.1 q3.2).bind (fun q4 =>
        some (q4.1, q4.2))
      else
        some ((0 : Int64), q3.2))))
def F_X4_bestLining_b7 (N : Nat)   : Nat → Int32 → Int32 → Int64 → Int32 → Mem → Option (Int32 × Mem)
  | 0, _, _, _, _, _ => none
  | n + 1, x1, x2, x3, x5, σ =>
    if x1 < x5 then
      some (x2, σ)
    else
      (F_X4_fallen N x1 x5 σ).bind (fun q1 =>
      (F_X4_costsOf N x1 q1.2).bind (fun q2 =>
      if x5 = 0 then
        (F_X4_bestLining_b7 N n) x1 x5 ((q1.1 * q2.1.toInt64) + (((1000000 : Int64) * (q2.2.2.2.1 28 0 4).toInt64) * (x1 - x5).toInt64)) (x5 + (1 : Int32)) q2.2
      else
        if 0 ≤ (lg_cmp ((q1.1 * q2.1.toInt64) + (((1000000 : Int64) * (q2.2.2.2.1 28 0 4).toInt64) * (x1 - x5).toInt64)) x3) then
          (F_X4_bestLining_b7 N n) x1 x2 x3 (x5 + (1 : Int32)) q2.2
        else
          (F_X4_bestLining_b7 N n) x1 x5 ((q1.1 * q2.1.toInt64) + (((1000000 : Int64) * (q2.2.2.2.1 28 0 4).toInt64) * (x1 - x5).toInt64)) (x5 + (1 : Int32)) q2.2))
def F_X4_bestLining (N : Nat)  (a1 : Int32) (σ : Mem) : Option (Int32 × Mem) :=
  (F_X4_bestLining_b7 N N) a1 (0 : Int32) (0 : Int64) (0 : Int32) σ
def F_X11_line (N : Nat)  (a1 : Int32) (σ : Mem) : Option (Int32 × Mem) :=
  (F_X11_within N a1 (0 : Int32) (5 : Int32) σ).bind (fun q1 =>
  if q1.1 = 0 then
    some ((Int32.ofInt (-2)), q1.2)
  else
    (F_X4_bestLining N a1 q1.2).bind (fun q2 =>
    some (q2.1, q2.2)))
def F_X2_goodOf (N : Nat)  (a1 : Int32) (a2 : Int32) (σ : Mem) : Option (Int32 × Mem) :=
  if hwOut a1 5 then none else
  some ((if (0 : Int32) < (a2 - (σ.2.2.1 23 0 (a1).toNatClampNeg)) then (a2 - (σ.2.2.1 23 0 (a1).toNatClampNeg)) else (0 : Int32)), σ)
def F_X5_find_b12 (N : Nat)   : Nat → Int32 → Int64 → Int32 → Int32 → Mem → Option (Unit × Mem)
  | 0, _, _, _, _, _ => none
  | n + 1, x1, x2, x4, x6, σ =>
    if (σ.1 1 6) ≤ x6 then
      some ((), σ)
    else
      (F_X6_wetOf N x1 x6 σ).bind (fun q1 =>
      (F_X2_worth N (q1.2.1, (hwU2 (hwU2 q1.2.2.1 9 4 ((q1.2.2.1 9 4) + ((q1.1 * x2) / (1000000 : Int64)))) 9 3 ((q1.2.2.1 9 3) + (((q1.1 * x2) / (1000000 : Int64)) * x4.toInt64))), q1.2.2.2.1, q1.2.2.2.2.1, q1.2.2.2.2.2)).bind (fun q2 =>
      (F_X2_goodOf N x6 q2.1 q2.2).bind (fun q3 =>
      (F_X5_find_b12 N n) x1 x2 x4 (x6 + (1 : Int32)) (q3.2.1, (hwU2 q3.2.2.1 9 6 ((q1.2.2.1 9 6) + (((q1.1 * x2) / (1000000 : Int64)) * q3.1.toInt64))), q3.2.2.2.1, q3.2.2.2.2.1, q3.2.2.2.2.2))))
def F_X5_find (N : Nat)  (a1 : Int32) (a2 : Int64) (a3 : Int32) (σ : Mem) : Option (Unit × Mem) :=
  (F_X5_find_b12 N N) a1 a2 a3 (0 : Int32) σ
def F_X5_descend_b98 (N : Nat) (g0 : Int32 → Int32 → Int64 → Int32 → Mem → Option (Unit × Mem))  : Nat → Int64 → Int32 → Int32 → Int32 → Mem → Option (Unit × Mem)
  | 0, _, _, _, _, _ => none
  | n + 1, x3, x6, x7, x8, σ =>
    if (3 : Int32) ≤ x8 then
      some ((), σ)
    else
      (F_X6_pass N x6 x8 σ).bind (fun q3 =>
      if (lg_cmp q3.1 (0 : Int64)) ≤ 0 then
        (F_X5_descend_b98 N g0 n) x3 x6 x7 (x8 + (1 : Int32)) q3.2
      else
        (g0 x6 x8 ((x3 * q3.1) / (1000000 : Int64)) x7 q3.2).bind (fun q4 =>
        (F_X5_descend_b98 N g0 n) x3 x6 x7 (x8 + (1 : Int32)) q4.2))
def F_X5_descend_b21 (N : Nat) (g0 : Int32 → Int32 → Int64 → Int32 → Mem → Option (Unit × Mem))  (x3 : Int64) (x5 : Int32) (σ : Mem) : Option (Unit × Mem) :=
  if x5 ≤ (σ.2.2.1 28 0 3) then
    some ((), (σ.1, (hwU2 σ.2.1 9 3 ((σ.2.1 9 3) + (x3 * x5.toInt64))), σ.2.2.1, σ.2.2.2.1, σ.2.2.2.2))
  else
    some ((), (σ.1, (hwU2 (hwU2 σ.2.1 9 3 ((σ.2.1 9 3) + (x3 * x5.toInt64))) 9 5 ((σ.2.1 9 5) + x3)), σ.2.2.1, σ.2.2.2.1, σ.2.2.2.2))
def B_X5_descend (N : Nat) (g0 : Int32 → Int32 → Int64 → Int32 → Mem → Option (Unit × Mem)) (a1 : Int32) (a2 : Int32) (a3 : Int64) (a4 : Int32) (σ : Mem) : Option (Unit × Mem) :=
  if (5 : Int32) ≤ a1 then
    (F_X5_descend_b21 N g0) a3 a4 σ
  else
    (F_X9_goesOn N (σ.1 9 2) a1 a2 σ).bind (fun q1 =>
    if q1.1 = 0 then
      (F_X5_descend_b21 N g0) a3 a4 q1.2
    else
      if hwOut (a1 + (1 : Int32)) 6 then none else
      (F_X5_find N (a1 + (1 : Int32)) a3 (a4 + (q1.2.2.2.1 42 0 ((a1 + (1 : Int32))).toNatClampNeg)) q1.2).bind (fun q2 =>
      (F_X5_descend_b98 N g0 N) a3 (a1 + (1 : Int32)) (a4 + (q1.2.2.2.1 42 0 ((a1 + (1 : Int32))).toNatClampNeg)) (0 : Int32) q2.2))
def G_X5_descend (N : Nat) : Nat → (Int32 → Int32 → Int64 → Int32 → Mem → Option (Unit × Mem))
  | 0 => (fun _ _ _ _ _ => none)
  | d + 1 => (B_X5_descend N (G_X5_descend N d))
def F_X5_descend (N : Nat) (a1 : Int32) (a2 : Int32) (a3 : Int64) (a4 : Int32) (σ : Mem) : Option (Unit × Mem) := (G_X5_descend N 10) a1 a2 a3 a4 σ
def F_X5_reckon (N : Nat)  (a1 : Int32) (a2 : Int32) (σ : Mem) : Option (Unit × Mem) :=
  (F_X6_begin N a2 ((hwU2 σ.1 9 2 a1), (hwU2 (hwU2 (hwU2 (hwU2 σ.2.1 9 3 (0 : Int64)) 9 4 (0 : Int64)) 9 5 (0 : Int64)) 9 6 (0 : Int64)), σ.2.2.1, σ.2.2.2.1, σ.2.2.2.2)).bind (fun q1 =>
  (F_X5_descend N (0 : Int32) (Int32.ofInt (-1)) (1000000 : Int64) (0 : Int32) q1.2).bind (fun q2 =>
  some ((), q2.2)))
def F_X11_mean (N : Nat)  (a1 : Int32) (a2 : Int32) (a3 : Int32) (σ : Mem) : Option (Int64 × Mem) :=
  (F_X11_isRule N a1 σ).bind (fun q1 =>
  if q1.1 = 0 then
    some ((Int64.ofInt (-4611686018427387904)), q1.2)
  else
    (F_X11_isPlace N a2 q1.2).bind (fun q2 =>
    if q2.1 = 0 then
      some ((Int64.ofInt (-4611686018427387904)), q2.2)
    else
      (F_X11_within N a3 (0 : Int32) (3 : Int32) q2.2).bind (fun q3 =>
      if q3.1 = 0 then
        some ((Int64.ofInt (-4611686018427387904)), q3.2)
      else
        (F_X5_reckon N a1 a2 q3.2).bind (fun q4 =>
        if a3 = 0 then
          some ((q4.2.2.1 9 3), q4.2)
        else
        if a3 = 1 then
          some ((q4.2.2.1 9 4), q4.2)
        else
        if a3 = 2 then
          some ((q4.2.2.1 9 5), q4.2)
        else
        some ((q4.2.2.1 9 6), q4.2)))))
def F_X11_next_b53 (N : Nat)  (k14 : Int32 → Int32 → Int32 → Mem → Option (Int32 × Mem)) (x1 : Int32) (x2 : Int32) (x3 : Int32) (s0 : Int32) (σ : Mem) : Option (Int32 × Mem) :=
  if s0 < 0 then
    k14 x1 x2 (x3 + (1 : Int32)) σ
  else
    if x2 ≤ s0 then
      k14 x1 x2 (x3 + (1 : Int32)) σ
    else
      k14 x3 s0 (x3 + (1 : Int32)) σ
def F_X11_next_b14 (N : Nat)   : Nat → Int32 → Int32 → Int32 → Mem → Option (Int32 × Mem)
  | 0, _, _, _, _ => none
  | n + 1, x1, x2, x3, σ =>
    if (σ.1 4 5) ≤ x3 then
      some (x1, σ)
    else
      (F_X6_openYard N x3 σ).bind (fun q2 =>
      if q2.1 = 0 then
        (F_X11_next_b53 N (F_X11_next_b14 N n)) x1 x2 x3 (Int32.ofInt (-1)) q2.2
      else
        (F_X6_leastWorth N q2.1 q2.2).bind (fun q3 =>
        (F_X11_next_b53 N (F_X11_next_b14 N n)) x1 x2 x3 q3.1 q3.2))
def F_X11_next (N : Nat)   (σ : Mem) : Option (Int32 × Mem) :=
  (F_X2_worth N σ).bind (fun q1 =>
  (F_X11_next_b14 N N) (Int32.ofInt (-1)) (q1.1 + (1 : Int32)) (0 : Int32) q1.2)
def F_X7_found_t69_b16 (N : Nat)   : Nat → Nat → Int32 → Int32 → Int32 → Mem → Option (Int32 × Mem)
  | 0, _, _, _, _, _ => none
  | n + 1, x1, x2, x3, x4, σ =>
    if x2 ≤ x4 then
      some (x3, ((hwU2 σ.1 4 5 (x3 + (1 : Int32))), σ.2.1, σ.2.2.1, σ.2.2.2.1, σ.2.2.2.2))
    else
      if (40 : Int32) ≤ x4 then
        some (x3, ((hwU2 σ.1 4 5 (x3 + (1 : Int32))), σ.2.1, σ.2.2.1, σ.2.2.2.1, σ.2.2.2.2))
      else
        if hwOut x3 4 then none else
        if hwOut x4 40 then none else
        if hwOut x4 5 then none else
        (F_X7_found_t69_b16 N n) x1 x2 x3 (x4 + (1 : Int32)) (σ.1, σ.2.1, (hwU3 σ.2.2.1 55 (x3).toNatClampNeg (x4).toNatClampNeg (σ.2.2.1 69 x1 (x4).toNatClampNeg)), σ.2.2.2.1, σ.2.2.2.2)
def F_X7_found_t69 (N : Nat)  (a1 : Nat) (a2 : Int32) (σ : Mem) : Option (Int32 × Mem) :=
  if (σ.1 4 5) < (4 : Int32) then
    (F_X7_found_t69_b16 N N) a1 a2 (σ.1 4 5) (0 : Int32) σ
  else
    some ((Int32.ofInt (-4)), σ)
def F_X11_place (N : Nat)  (a1 : Int32) (σ : Mem) : Option (Int32 × Mem) :=
  (F_X11_isSheet N a1 σ).bind (fun q1 =>
  if q1.1 = 0 then
    some ((Int32.ofInt (-2)), q1.2)
  else
    (F_X10_isMissing N a1 q1.2).bind (fun q2 =>
    if q2.1 = 0 then
      if (q2.2.1 1 6) = 0 then
        some ((Int32.ofInt (-2)), q2.2)
      else
        if hwOut a1 4 then none else
        if (q2.2.2.2.1 71 0 (a1).toNatClampNeg) = (q2.2.1 1 6) then
          (F_X10_allWithin N a1 (0 : Int32) (99 : Int32) q2.2).bind (fun q3 =>
          if q3.1 = 0 then
            some ((Int32.ofInt (-2)), q3.2)
          else
            if hwOut a1 4 then none else
            (F_X7_found_t69 N (a1).toNatClampNeg (q3.2.1 1 6) q3.2).bind (fun q4 =>
            some (q4.1, q4.2)))
        else
          some ((Int32.ofInt (-2)), q2.2)
    else
      some ((Int32.ofInt (-11)), q2.2)))
def F_X11_right_b18 (N : Nat)   : Nat → Int32 → Int32 → Int64 → Int32 → Mem → Option (Int32 × Mem)
  | 0, _, _, _, _, _ => none
  | n + 1, x1, x2, x3, x5, σ =>
    if (σ.1 6 4) ≤ x5 then
      some (x2, σ)
    else
      (F_X5_reckon N x5 x1 σ).bind (fun q2 =>
      if x2 < 0 then
        (F_X11_right_b18 N n) x1 x5 ((q2.2.2.1 9 6) - (q2.2.2.1 9 3)) (x5 + (1 : Int32)) q2.2
      else
        if (lg_cmp ((q2.2.2.1 9 6) - (q2.2.2.1 9 3)) x3) ≤ 0 then
          (F_X11_right_b18 N n) x1 x2 x3 (x5 + (1 : Int32)) q2.2
        else
          (F_X11_right_b18 N n) x1 x5 ((q2.2.2.1 9 6) - (q2.2.2.1 9 3)) (x5 + (1 : Int32)) q2.2)
def F_X11_right (N : Nat)  (a1 : Int32) (σ : Mem) : Option (Int32 × Mem) :=
  (F_X11_isPlace N a1 σ).bind (fun q1 =>
  if q1.1 = 0 then
    some ((Int32.ofInt (-5)), q1.2)
  else
    (F_X11_right_b18 N N) a1 (Int32.ofInt (-1)) (0 : Int64) (0 : Int32) q1.2)
def F_X6_chanceOf_t69_b53 (N : Nat)  (k13 : Nat → Int32 → Int64 → Int32 → Mem → Option (Int64 × Mem)) (x2 : Nat) (x3 : Int32) (x4 : Int64) (x6 : Int32) (s0 : Int64) (σ : Mem) : Option (Int64 × Mem) :=
  if (lg_cmp s0 (0 : Int64)) = 0 then
    some ((0 : Int64), σ)
  else
    k13 x2 x3 ((x4 * s0) / (1000000 : Int64)) (x6 + (1 : Int32)) σ
def F_X6_chanceOf_t69_b13 (N : Nat)   : Nat → Nat → Int32 → Int64 → Int32 → Mem → Option (Int64 × Mem)
  | 0, _, _, _, _, _ => none
  | n + 1, x2, x3, x4, x6, σ =>
    if x3 ≤ x6 then
      some (x4, σ)
    else
      if (5 : Int32) ≤ x6 then
        some (x4, σ)
      else
        if hwOut x6 40 then none else
        (F_X11_within N (σ.2.2.1 69 x2 (x6).toNatClampNeg) (0 : Int32) (2 : Int32) σ).bind (fun q2 =>
        if q2.1 = 0 then
          (F_X6_chanceOf_t69_b53 N (F_X6_chanceOf_t69_b13 N n)) x2 x3 x4 x6 (0 : Int64) q2.2
        else
          if hwOut x6 40 then none else
          (F_X6_pass N (x6 + (1 : Int32)) (q2.2.2.2.1 69 x2 (x6).toNatClampNeg) q2.2).bind (fun q3 =>
          (F_X6_chanceOf_t69_b53 N (F_X6_chanceOf_t69_b13 N n)) x2 x3 x4 x6 q3.1 q3.2))
def F_X6_chanceOf_t69 (N : Nat)  (a1 : Int32) (a2 : Nat) (a3 : Int32) (σ : Mem) : Option (Int64 × Mem) :=
  (F_X6_begin N a1 σ).bind (fun q1 =>
  (F_X6_chanceOf_t69_b13 N N) a2 a3 (1000000 : Int64) (0 : Int32) q1.2)
def F_X11_row (N : Nat)  (a1 : Int32) (a2 : Int32) (σ : Mem) : Option (Int64 × Mem) :=
  (F_X11_isPlace N a1 σ).bind (fun q1 =>
  if q1.1 = 0 then
    some ((Int64.ofInt (-4611686018427387904)), q1.2)
  else
    (F_X11_isSheet N a2 q1.2).bind (fun q2 =>
    if q2.1 = 0 then
      some ((Int64.ofInt (-4611686018427387904)), q2.2)
    else
      (F_X10_isMissing N a2 q2.2).bind (fun q3 =>
      if q3.1 = 0 then
        if hwOut a2 4 then none else
        (F_X2_deepest N q3.2).bind (fun q4 =>
        if (q3.2.2.2.1 71 0 (a2).toNatClampNeg) ≤ q4.1 then
          if hwOut a2 4 then none else
          if hwOut a2 4 then none else
          (F_X6_chanceOf_t69 N a1 (a2).toNatClampNeg (q4.2.2.2.1 71 0 (a2).toNatClampNeg) q4.2).bind (fun q5 =>
          some (q5.1, q5.2))
        else
          some ((Int64.ofInt (-4611686018427387904)), q4.2))
      else
        some ((Int64.ofInt (-4611686018427387904)), q3.2))))
def F_X9_make (N : Nat)  (a1 : Int32) (a2 : Int32) (a3 : Int32) (σ : Mem) : Option (Int32 × Mem) :=
  if (σ.1 6 4) < (8 : Int32) then
    if hwOut (σ.1 6 4) 8 then none else
    if hwOut (σ.1 6 4) 8 then none else
    if hwOut (σ.1 6 4) 8 then none else
    some ((σ.1 6 4), ((hwU2 σ.1 6 4 ((σ.1 6 4) + (1 : Int32))), σ.2.1, (hwU3 (hwU3 (hwU3 σ.2.2.1 65 0 ((σ.1 6 4)).toNatClampNeg a1) 66 0 ((σ.1 6 4)).toNatClampNeg a2) 67 0 ((σ.1 6 4)).toNatClampNeg a3), σ.2.2.2.1, σ.2.2.2.2))
  else
    some ((Int32.ofInt (-4)), σ)
def F_X11_rule (N : Nat)  (a1 : Int32) (a2 : Int32) (a3 : Int32) (σ : Mem) : Option (Int32 × Mem) :=
  (F_X11_within N a1 (0 : Int32) (5 : Int32) σ).bind (fun q1 =>
  if q1.1 = 0 then
    some ((Int32.ofInt (-2)), q1.2)
  else
    (F_X11_within N a2 (0 : Int32) (5 : Int32) q1.2).bind (fun q2 =>
    if q2.1 = 0 then
      some ((Int32.ofInt (-2)), q2.2)
    else
      (F_X11_within N a3 (0 : Int32) (7 : Int32) q2.2).bind (fun q3 =>
      if q3.1 = 0 then
        some ((Int32.ofInt (-2)), q3.2)
      else
        (F_X9_make N a1 a2 a3 q3.2).bind (fun q4 =>
        some (q4.1, q4.2)))))
def F_X11_ruleTold (N : Nat)  (a1 : Int32) (a2 : Int32) (σ : Mem) : Option (Int32 × Mem) :=
  (F_X11_isRule N a1 σ).bind (fun q1 =>
  if q1.1 = 0 then
    some ((Int32.ofInt (-5)), q1.2)
  else
    if a2 = 0 then
      if hwOut a1 8 then none else
      some ((q1.2.2.2.1 65 0 (a1).toNatClampNeg), q1.2)
    else
    if a2 = 1 then
      if hwOut a1 8 then none else
      some ((q1.2.2.2.1 66 0 (a1).toNatClampNeg), q1.2)
    else
    if a2 = 2 then
      if hwOut a1 8 then none else
      some ((q1.2.2.2.1 67 0 (a1).toNatClampNeg), q1.2)
    else
    some ((Int32.ofInt (-7)), q1.2))
def F_X11_set (N : Nat)  (a1 : Int32) (a2 : Int32) (σ : Mem) : Option (Int32 × Mem) :=
  (F_X11_within N a1 (0 : Int32) (4 : Int32) σ).bind (fun q1 =>
  if q1.1 = 0 then
    some ((Int32.ofInt (-1)), q1.2)
  else
    if hwOut a1 5 then none else
    if hwOut a1 5 then none else
    (F_X11_within N a2 (ntD 0 [1, 0, 0, 0, 0] (a1).toNatClampNeg) (ntD 0 [5, 9999, 9, 9999, 9999] (a1).toNatClampNeg) q1.2).bind (fun q2 =>
    if q2.1 = 0 then
      some ((Int32.ofInt (-2)), q2.2)
    else
      if hwOut a1 5 then none else
      if hwOut a1 5 then none else
      if a1 = (2 : Int32) then
        (F_X4_weigh N (q2.2.1, q2.2.2.1, (hwU3 q2.2.2.2.1 28 0 (a1).toNatClampNeg a2), q2.2.2.2.2.1, q2.2.2.2.2.2)).bind (fun q3 =>
        some ((q2.2.2.2.1 28 0 (a1).toNatClampNeg), q3.2))
      else
        some ((q2.2.2.2.1 28 0 (a1).toNatClampNeg), (q2.2.1, q2.2.2.1, (hwU3 q2.2.2.2.1 28 0 (a1).toNatClampNeg a2), q2.2.2.2.2.1, q2.2.2.2.2.2))))
def F_X11_share (N : Nat)  (a1 : Int32) (a2 : Int32) (σ : Mem) : Option (Int32 × Mem) :=
  (F_X1_all N σ).bind (fun q1 =>
  (F_X11_within N a1 (1 : Int32) q1.1 q1.2).bind (fun q2 =>
  if q2.1 = 0 then
    some ((Int32.ofInt (-2)), q2.2)
  else
    (F_X11_within N a2 (0 : Int32) (1 : Int32) q2.2).bind (fun q3 =>
    if q3.1 = 0 then
      some ((Int32.ofInt (-2)), q3.2)
    else
      (F_X1_wellOf N a1 q3.2).bind (fun q4 =>
      if a2 = 0 then
        some (q4.1, q4.2)
      else
        (F_X1_walk N a1 q4.1 q4.2).bind (fun q5 =>
        some (q5.1, q5.2))))))
def F_X11_sheet_b58 (N : Nat)   (s0 : Int32) (s1 : Int32) (s2 : Int32) (σ : Mem) : Option (Int32 × Mem) :=
  (F_X10_lay N s2 s1 s0 σ).bind (fun q3 =>
  some ((1 : Int32), q3.2))
def F_X11_sheet_b43 (N : Nat)   (x1 : Int32) (x2 : Int32) (x3 : Int32) (σ : Mem) : Option (Int32 × Mem) :=
  if 0 ≤ x2 then
    (F_X11_sheet_b58 N) x3 x2 x1 σ
  else
    (F_X11_sheet_b58 N) (0 : Int32) x2 x1 σ
def F_X11_sheet_b32 (N : Nat)   (x1 : Int32) (x2 : Int32) (x3 : Int32) (σ : Mem) : Option (Int32 × Mem) :=
  if x2 < 0 then
    (F_X11_sheet_b43 N) x1 x2 x3 σ
  else
    if 0 ≤ x3 then
      (F_X11_sheet_b43 N) x1 x2 x3 σ
    else
      some ((Int32.ofInt (-14)), σ)
def F_X11_sheet (N : Nat)  (a1 : Int32) (a2 : Int32) (a3 : Int32) (σ : Mem) : Option (Int32 × Mem) :=
  (F_X11_isSheet N a1 σ).bind (fun q1 =>
  if q1.1 = 0 then
    some ((Int32.ofInt (-2)), q1.2)
  else
    (F_X11_within N a2 (Int32.ofInt (-1)) (2 : Int32) q1.2).bind (fun q2 =>
    if q2.1 = 0 then
      some ((Int32.ofInt (-2)), q2.2)
    else
      if a2 < 0 then
        (F_X11_sheet_b32 N) a1 a2 a3 q2.2
      else
        if a3 ≤ (40 : Int32) then
          (F_X11_sheet_b32 N) a1 a2 a3 q2.2
        else
          some ((Int32.ofInt (-2)), q2.2)))
def F_X9_isOne_b10 (N : Nat)   : Nat → Int32 → Int32 → Int32 → Mem → Option (Int32 × Mem)
  | 0, _, _, _, _ => none
  | n + 1, x2, x3, x4, σ =>
    if (6 : Int32) ≤ x4 then
      some ((0 : Int32), σ)
    else
      if x3 < 0 then
        some ((0 : Int32), σ)
      else
        if (6 : Int32) ≤ x3 then
          some ((0 : Int32), σ)
        else
          if x3 = x2 then
            some ((1 : Int32), σ)
          else
            if hwOut x3 6 then none else
            (F_X9_isOne_b10 N n) x2 (ntD 0 [-1, 0, 1, 0, 1, 2] (x3).toNatClampNeg) (x4 + (1 : Int32)) σ
def F_X9_isOne (N : Nat)  (a1 : Int32) (a2 : Int32) (σ : Mem) : Option (Int32 × Mem) :=
  if hwOut a1 8 then none else
  (F_X9_isOne_b10 N N) a2 (σ.2.2.1 65 0 (a1).toNatClampNeg) (0 : Int32) σ
def F_X11_taken_b56 (N : Nat)   (x1 : Int32) (x2 : Int32) (x3 : Int32) (σ : Mem) : Option (Int32 × Mem) :=
  if 0 ≤ x3 then
    if (5 : Int32) < x2 then
      some ((Int32.ofInt (-13)), σ)
    else
      (F_X9_isOne N x3 x2 σ).bind (fun q5 =>
      if q5.1 = 0 then
        some ((Int32.ofInt (-13)), q5.2)
      else
        some (x3, q5.2))
  else
    if x2 ≤ (5 : Int32) then
      some ((Int32.ofInt (-13)), σ)
    else
      if hwOut x1 5 then none else
      some ((σ.2.2.1 22 0 (x1).toNatClampNeg), σ)
def F_X11_taken (N : Nat)  (a1 : Int32) (a2 : Int32) (σ : Mem) : Option (Int32 × Mem) :=
  (F_X11_within N a2 (0 : Int32) (6 : Int32) σ).bind (fun q1 =>
  if q1.1 = 0 then
    some ((Int32.ofInt (-2)), q1.2)
  else
    (F_X11_within N a1 (0 : Int32) (12 : Int32) q1.2).bind (fun q2 =>
    if q2.1 = 0 then
      some ((Int32.ofInt (-12)), q2.2)
    else
      if 0 ≤ (a1 - (5 : Int32)) then
        (F_X11_isRule N (a1 - (5 : Int32)) q2.2).bind (fun q3 =>
        if q3.1 = 0 then
          some ((Int32.ofInt (-11)), q3.2)
        else
          (F_X11_taken_b56 N) a1 a2 (a1 - (5 : Int32)) q3.2)
      else
        (F_X11_isLayer N a1 q2.2).bind (fun q4 =>
        if q4.1 = 0 then
          some ((Int32.ofInt (-11)), q4.2)
        else
          (F_X11_taken_b56 N) a1 a2 (a1 - (5 : Int32)) q4.2)))
def F_X8_emit (N : Nat)  (a1 : Int32) (σ : Mem) : Option (Unit × Mem) :=
  if (160 : Int32) ≤ (σ.1 3 4) then
    some ((), σ)
  else
    if hwOut (σ.1 3 4) 160 then none else
    some ((), ((hwU2 σ.1 3 4 ((σ.1 3 4) + (1 : Int32))), σ.2.1, (hwU3 σ.2.2.1 63 0 ((σ.1 3 4)).toNatClampNeg a1), σ.2.2.2.1, σ.2.2.2.2))
def F_X8_joins (N : Nat)  (a1 : Int32) (σ : Mem) : Option (Int32 × Mem) :=
  if a1 = 0 then
    if (σ.1 3 7) = (7 : Int32) then
      some ((1 : Int32), σ)
    else
      some ((0 : Int32), σ)
  else
  if a1 = 1 then
    if (σ.1 3 7) = (8 : Int32) then
      some ((1 : Int32), σ)
    else
      some ((0 : Int32), σ)
  else
  if a1 = 2 then
    if (σ.1 3 7) = (43 : Int32) then
      some ((1 : Int32), σ)
    else
      if (σ.1 3 7) = (45 : Int32) then
        some ((1 : Int32), σ)
      else
        some ((0 : Int32), σ)
  else
  if (σ.1 3 7) = (42 : Int32) then
    some ((1 : Int32), σ)
  else
    some ((0 : Int32), σ)
def F_X8_isDigit (N : Nat)  (a1 : Int32) (σ : Mem) : Option (Int32 × Mem) :=
  if a1 < (48 : Int32) then
    some ((0 : Int32), σ)
  else
    if (57 : Int32) < a1 then
      some ((0 : Int32), σ)
    else
      some ((1 : Int32), σ)
def F_X8_isLetter (N : Nat)  (a1 : Int32) (σ : Mem) : Option (Int32 × Mem) :=
  if a1 < (97 : Int32) then
    some ((0 : Int32), σ)
  else
    if (122 : Int32) < a1 then
      some ((0 : Int32), σ)
    else
      some ((1 : Int32), σ)
def F_X8_readNumber_b81 (N : Nat)    (σ : Mem) : Option (Unit × Mem) :=
  if ((σ.1 3 5) - (σ.1 3 6)) ≤ (4 : Int32) then
    some ((), ((hwU2 σ.1 3 7 (2 : Int32)), σ.2.1, σ.2.2.1, σ.2.2.2.1, σ.2.2.2.2))
  else
    some ((), ((hwU2 σ.1 3 7 (1 : Int32)), σ.2.1, σ.2.2.1, σ.2.2.2.1, σ.2.2.2.2))
def F_X8_readNumber_b5 (N : Nat)   : Nat → Mem → Option (Unit × Mem)
  | 0, _ => none
  | n + 1, σ =>
    if (σ.1 3 3) ≤ (σ.1 3 5) then
      (F_X8_readNumber_b81 N) σ
    else
      if hwOut (σ.1 3 5) 160 then none else
      (F_X8_isDigit N (σ.2.2.1 62 0 ((σ.1 3 5)).toNatClampNeg) σ).bind (fun q1 =>
      if q1.1 = 0 then
        (F_X8_readNumber_b81 N) q1.2
      else
        if (4 : Int32) ≤ ((q1.2.1 3 5) - (q1.2.1 3 6)) then
          (F_X8_readNumber_b5 N n) ((hwU2 q1.2.1 3 5 ((q1.2.1 3 5) + (1 : Int32))), q1.2.2.1, q1.2.2.2.1, q1.2.2.2.2.1, q1.2.2.2.2.2)
        else
          if hwOut (q1.2.1 3 5) 160 then none else
          (F_X8_readNumber_b5 N n) ((hwU2 (hwU2 q1.2.1 3 8 ((((q1.2.1 3 8) * (10 : Int32)) + (q1.2.2.2.1 62 0 ((q1.2.1 3 5)).toNatClampNeg)) - (48 : Int32))) 3 5 ((q1.2.1 3 5) + (1 : Int32))), q1.2.2.1, q1.2.2.2.1, q1.2.2.2.2.1, q1.2.2.2.2.2))
def F_X8_readNumber (N : Nat)   (σ : Mem) : Option (Unit × Mem) :=
  (F_X8_readNumber_b5 N N) ((hwU2 σ.1 3 8 (0 : Int32)), σ.2.1, σ.2.2.1, σ.2.2.2.1, σ.2.2.2.2)
def F_X8_isWord_b47 (N : Nat)  (k20 : Int32 → Int32 → Int32 → Mem → Option (Int32 × Mem)) (x1 : Int32) (x2 : Int32) (x3 : Int32) (s0 : Int32) (σ : Mem) : Option (Int32 × Mem) :=
  if hwOut ((x1 * (6 : Int32)) + x3) 72 then none else
  if s0 = (nI (ntD 0 (ntD [] hwST 2) (((x1 * (6 : Int32)) + x3)).toNatClampNeg)) then
    k20 x1 x2 (x3 + (1 : Int32)) σ
  else
    some ((0 : Int32), σ)
def F_X8_isWord_b20 (N : Nat)   : Nat → Int32 → Int32 → Int32 → Mem → Option (Int32 × Mem)
  | 0, _, _, _, _ => none
  | n + 1, x1, x2, x3, σ =>
    if (6 : Int32) ≤ x3 then
      some ((1 : Int32), σ)
    else
      if x2 ≤ x3 then
        (F_X8_isWord_b47 N (F_X8_isWord_b20 N n)) x1 x2 x3 (32 : Int32) σ
      else
        if hwOut ((σ.1 3 6) + x3) 160 then none else
        (F_X8_isWord_b47 N (F_X8_isWord_b20 N n)) x1 x2 x3 (σ.2.2.1 62 0 (((σ.1 3 6) + x3)).toNatClampNeg) σ
def F_X8_isWord (N : Nat)  (a1 : Int32) (σ : Mem) : Option (Int32 × Mem) :=
  if ((σ.1 3 5) - (σ.1 3 6)) ≤ (6 : Int32) then
    (F_X8_isWord_b20 N N) a1 ((σ.1 3 5) - (σ.1 3 6)) (0 : Int32) σ
  else
    some ((0 : Int32), σ)
def F_X8_readWord_b46 (N : Nat)   : Nat → Int32 → Mem → Option (Unit × Mem)
  | 0, _, _ => none
  | n + 1, x1, σ =>
    if (12 : Int32) ≤ x1 then
      some ((), σ)
    else
      (F_X8_isWord N x1 σ).bind (fun q2 =>
      if q2.1 = 0 then
        (F_X8_readWord_b46 N n) (x1 + (1 : Int32)) q2.2
      else
        if (6 : Int32) ≤ x1 then
          (F_X8_readWord_b46 N n) (x1 + (1 : Int32)) ((hwU2 (hwU2 q2.2.1 3 7 (3 : Int32)) 3 8 (x1 - (6 : Int32))), q2.2.2.1, q2.2.2.2.1, q2.2.2.2.2.1, q2.2.2.2.2.2)
        else
          (F_X8_readWord_b46 N n) (x1 + (1 : Int32)) ((hwU2 (hwU2 q2.2.1 3 7 ((4 : Int32) + x1)) 3 8 (x1 - (6 : Int32))), q2.2.2.1, q2.2.2.2.1, q2.2.2.2.2.1, q2.2.2.2.2.2))
def F_X8_readWord_b0 (N : Nat)   : Nat → Mem → Option (Unit × Mem)
  | 0, _ => none
  | n + 1, σ =>
    if (σ.1 3 3) ≤ (σ.1 3 5) then
      (F_X8_readWord_b46 N N) (0 : Int32) ((hwU2 σ.1 3 7 (1 : Int32)), σ.2.1, σ.2.2.1, σ.2.2.2.1, σ.2.2.2.2)
    else
      if hwOut (σ.1 3 5) 160 then none else
      (F_X8_isLetter N (σ.2.2.1 62 0 ((σ.1 3 5)).toNatClampNeg) σ).bind (fun q1 =>
      if q1.1 = 0 then
        (F_X8_readWord_b46 N N) (0 : Int32) ((hwU2 q1.2.1 3 7 (1 : Int32)), q1.2.2.1, q1.2.2.2.1, q1.2.2.2.2.1, q1.2.2.2.2.2)
      else
        (F_X8_readWord_b0 N n) ((hwU2 q1.2.1 3 5 ((q1.2.1 3 5) + (1 : Int32))), q1.2.2.1, q1.2.2.2.1, q1.2.2.2.2.1, q1.2.2.2.2.2))
def F_X8_readWord (N : Nat)   (σ : Mem) : Option (Unit × Mem) :=
  (F_X8_readWord_b0 N N) σ
def F_X8_step_b52 (N : Nat)    (σ : Mem) : Option (Unit × Mem) :=
  if (σ.1 3 5) < (σ.1 3 3) then
    if hwOut (σ.1 3 5) 160 then none else
    (F_X8_isLetter N (σ.2.2.1 62 0 ((σ.1 3 5)).toNatClampNeg) ((hwU2 σ.1 3 6 (σ.1 3 5)), σ.2.1, σ.2.2.1, σ.2.2.2.1, σ.2.2.2.2)).bind (fun q1 =>
    if q1.1 = 0 then
      if hwOut (q1.2.1 3 5) 160 then none else
      (F_X8_isDigit N (q1.2.2.2.1 62 0 ((q1.2.1 3 5)).toNatClampNeg) q1.2).bind (fun q2 =>
      if q2.1 = 0 then
        if hwOut (q2.2.1 3 5) 160 then none else
        if (hwIx 1 ((q2.2.2.2.1 62 0 ((q2.2.1 3 5)).toNatClampNeg).toUInt32 % 65536).toInt32) < 0 then
          some ((), ((hwU2 (hwU2 q2.2.1 3 7 (1 : Int32)) 3 5 ((q2.2.1 3 5) + (1 : Int32))), q2.2.2.1, q2.2.2.2.1, q2.2.2.2.2.1, q2.2.2.2.2.2))
        else
          if hwOut (q2.2.1 3 5) 160 then none else
          some ((), ((hwU2 (hwU2 q2.2.1 3 7 (q2.2.2.2.1 62 0 ((q2.2.1 3 5)).toNatClampNeg)) 3 5 ((q2.2.1 3 5) + (1 : Int32))), q2.2.2.1, q2.2.2.2.1, q2.2.2.2.2.1, q2.2.2.2.2.2))
      else
        (F_X8_readNumber N q2.2).bind (fun q3 =>
        some ((), q3.2)))
    else
      (F_X8_readWord N q1.2).bind (fun q4 =>
      some ((), q4.2)))
  else
    some ((), ((hwU2 (hwU2 σ.1 3 6 (σ.1 3 5)) 3 7 (0 : Int32)), σ.2.1, σ.2.2.1, σ.2.2.2.1, σ.2.2.2.2))
def F_X8_step_b0 (N : Nat)   : Nat → Mem → Option (Unit × Mem)
  | 0, _ => none
  | n + 1, σ =>
    if (σ.1 3 3) ≤ (σ.1 3 5) then
      (F_X8_step_b52 N) σ
    else
      if hwOut (σ.1 3 5) 160 then none else
      if (σ.2.2.1 62 0 ((σ.1 3 5)).toNatClampNeg) = (32 : Int32) then
        (F_X8_step_b0 N n) ((hwU2 σ.1 3 5 ((σ.1 3 5) + (1 : Int32))), σ.2.1, σ.2.2.1, σ.2.2.2.1, σ.2.2.2.2)
      else
        if hwOut (σ.1 3 5) 160 then none else
        if (σ.2.2.1 62 0 ((σ.1 3 5)).toNatClampNeg) = (10 : Int32) then
          (F_X8_step_b0 N n) ((hwU2 σ.1 3 5 ((σ.1 3 5) + (1 : Int32))), σ.2.1, σ.2.2.1, σ.2.2.2.1, σ.2.2.2.2)
        else
          (F_X8_step_b52 N) σ
def F_X8_step (N : Nat)   (σ : Mem) : Option (Unit × Mem) :=
  (F_X8_step_b0 N N) σ
def F_X8_reads_b13 (N : Nat) (g0 : Int32 → Int32 → Mem → Option (Int32 × Mem)) (g1 : Int32 → Mem → Option (Int32 × Mem)) (g2 : Int32 → Mem → Option (Int32 × Mem)) (g3 : Int32 → Int32 → Mem → Option (Int32 × Mem))  : Nat → Int32 → Int32 → Int32 → Mem → Option (Int32 × Mem)
  | 0, _, _, _, _ => none
  | n + 1, x1, x2, x3, σ =>
    if (160 : Int32) ≤ x3 then
      some ((1 : Int32), σ)
    else
      (F_X8_joins N x1 σ).bind (fun q2 =>
      if q2.1 = 0 then
        some ((1 : Int32), q2.2)
      else
        (F_X8_step N q2.2).bind (fun q3 =>
        (g3 x1 x2 q3.2).bind (fun q4 =>
        if q4.1 = 0 then
          some ((0 : Int32), q4.2)
        else
          (F_X8_emit N ((20000 : Int32) + (q2.2.1 3 7)) q4.2).bind (fun q5 =>
          (F_X8_reads_b13 N g0 g1 g2 g3 n) x1 x2 (x3 + (1 : Int32)) q5.2))))
def B_X8_reads (N : Nat) (g0 : Int32 → Int32 → Mem → Option (Int32 × Mem)) (g1 : Int32 → Mem → Option (Int32 × Mem)) (g2 : Int32 → Mem → Option (Int32 × Mem)) (g3 : Int32 → Int32 → Mem → Option (Int32 × Mem)) (a1 : Int32) (a2 : Int32) (σ : Mem) : Option (Int32 × Mem) :=
  (g3 a1 a2 σ).bind (fun q1 =>
  if q1.1 = 0 then
    some ((0 : Int32), q1.2)
  else
    (F_X8_reads_b13 N g0 g1 g2 g3 N) a1 a2 (0 : Int32) q1.2)
def F_X8_readsNot_b72 (N : Nat) (g0 : Int32 → Int32 → Mem → Option (Int32 × Mem)) (g1 : Int32 → Mem → Option (Int32 × Mem)) (g2 : Int32 → Mem → Option (Int32 × Mem)) (g3 : Int32 → Int32 → Mem → Option (Int32 × Mem))  (x1 : Int32) (σ : Mem) : Option (Int32 × Mem) :=
  (F_X8_step N σ).bind (fun q5 =>
  (g0 (2 : Int32) x1 q5.2).bind (fun q6 =>
  if q6.1 = 0 then
    some ((0 : Int32), q6.2)
  else
    (F_X8_emit N ((20000 : Int32) + (σ.1 3 7)) q6.2).bind (fun q7 =>
    some ((1 : Int32), q7.2))))
def B_X8_readsNot (N : Nat) (g0 : Int32 → Int32 → Mem → Option (Int32 × Mem)) (g1 : Int32 → Mem → Option (Int32 × Mem)) (g2 : Int32 → Mem → Option (Int32 × Mem)) (g3 : Int32 → Int32 → Mem → Option (Int32 × Mem)) (a1 : Int32) (σ : Mem) : Option (Int32 × Mem) :=
  if (σ.1 3 7) = (9 : Int32) then
    if a1 < (5 : Int32) then
      (F_X8_step N σ).bind (fun q1 =>
      (g1 (a1 + (1 : Int32)) q1.2).bind (fun q2 =>
      if q2.1 = 0 then
        some ((0 : Int32), q2.2)
      else
        (F_X8_emit N (30009 : Int32) q2.2).bind (fun q3 =>
        some ((1 : Int32), q3.2))))
    else
      some ((0 : Int32), σ)
  else
    (g0 (2 : Int32) a1 σ).bind (fun q4 =>
    if q4.1 = 0 then
      some ((0 : Int32), q4.2)
    else
      if (q4.2.1 3 7) = (60 : Int32) then
        (F_X8_readsNot_b72 N g0 g1 g2 g3) a1 q4.2
      else
        if (q4.2.1 3 7) = (61 : Int32) then
          (F_X8_readsNot_b72 N g0 g1 g2 g3) a1 q4.2
        else
          some ((1 : Int32), q4.2))
def F_X8_readsOne_b88 (N : Nat) (g0 : Int32 → Int32 → Mem → Option (Int32 × Mem)) (g1 : Int32 → Mem → Option (Int32 × Mem)) (g2 : Int32 → Mem → Option (Int32 × Mem)) (g3 : Int32 → Int32 → Mem → Option (Int32 × Mem))  (x1 : Int32) (s0 : Int32) (σ : Mem) : Option (Int32 × Mem) :=
  (F_X8_step N σ).bind (fun q1 =>
  if s0 = 0 then
    (g0 (0 : Int32) (x1 + (1 : Int32)) q1.2).bind (fun q2 =>
    if q2.1 = 0 then
      some ((0 : Int32), q2.2)
    else
      if (q2.2.1 3 7) = (41 : Int32) then
        (F_X8_step N q2.2).bind (fun q3 =>
        some ((1 : Int32), q3.2))
      else
        some ((0 : Int32), q2.2))
  else
    (g2 (x1 + (1 : Int32)) q1.2).bind (fun q4 =>
    if q4.1 = 0 then
      some ((0 : Int32), q4.2)
    else
      (F_X8_emit N (30045 : Int32) q4.2).bind (fun q5 =>
      some ((1 : Int32), q5.2))))
def F_X8_readsOne_b74 (N : Nat) (g0 : Int32 → Int32 → Mem → Option (Int32 × Mem)) (g1 : Int32 → Mem → Option (Int32 × Mem)) (g2 : Int32 → Mem → Option (Int32 × Mem)) (g3 : Int32 → Int32 → Mem → Option (Int32 × Mem))  (x1 : Int32) (σ : Mem) : Option (Int32 × Mem) :=
  if (σ.1 3 7) = (45 : Int32) then
    (F_X8_readsOne_b88 N g0 g1 g2 g3) x1 (1 : Int32) σ
  else
    (F_X8_readsOne_b88 N g0 g1 g2 g3) x1 (0 : Int32) σ
def F_X8_readsOne_b40 (N : Nat) (g0 : Int32 → Int32 → Mem → Option (Int32 × Mem)) (g1 : Int32 → Mem → Option (Int32 × Mem)) (g2 : Int32 → Mem → Option (Int32 × Mem)) (g3 : Int32 → Int32 → Mem → Option (Int32 × Mem))  (s0 : Int32) (σ : Mem) : Option (Int32 × Mem) :=
  (F_X8_emit N s0 σ).bind (fun q6 =>
  (F_X8_step N q6.2).bind (fun q7 =>
  some ((1 : Int32), q7.2)))
def F_X8_readsOne_b16 (N : Nat) (g0 : Int32 → Int32 → Mem → Option (Int32 × Mem)) (g1 : Int32 → Mem → Option (Int32 × Mem)) (g2 : Int32 → Mem → Option (Int32 × Mem)) (g3 : Int32 → Int32 → Mem → Option (Int32 × Mem))   (σ : Mem) : Option (Int32 × Mem) :=
  if (σ.1 3 7) = (3 : Int32) then
    (F_X8_readsOne_b40 N g0 g1 g2 g3) ((10000 : Int32) + (σ.1 3 8)) σ
  else
    (F_X8_readsOne_b40 N g0 g1 g2 g3) (σ.1 3 8) σ
def B_X8_readsOne (N : Nat) (g0 : Int32 → Int32 → Mem → Option (Int32 × Mem)) (g1 : Int32 → Mem → Option (Int32 × Mem)) (g2 : Int32 → Mem → Option (Int32 × Mem)) (g3 : Int32 → Int32 → Mem → Option (Int32 × Mem)) (a1 : Int32) (σ : Mem) : Option (Int32 × Mem) :=
  if (σ.1 3 7) = (2 : Int32) then
    (F_X8_readsOne_b16 N g0 g1 g2 g3) σ
  else
    if (σ.1 3 7) = (3 : Int32) then
      (F_X8_readsOne_b16 N g0 g1 g2 g3) σ
    else
      if (5 : Int32) ≤ a1 then
        some ((0 : Int32), σ)
      else
        if (σ.1 3 7) = (45 : Int32) then
          (F_X8_readsOne_b74 N g0 g1 g2 g3) a1 σ
        else
          if (σ.1 3 7) = (40 : Int32) then
            (F_X8_readsOne_b74 N g0 g1 g2 g3) a1 σ
          else
            some ((0 : Int32), σ)
def B_X8_readsPart (N : Nat) (g0 : Int32 → Int32 → Mem → Option (Int32 × Mem)) (g1 : Int32 → Mem → Option (Int32 × Mem)) (g2 : Int32 → Mem → Option (Int32 × Mem)) (g3 : Int32 → Int32 → Mem → Option (Int32 × Mem)) (a1 : Int32) (a2 : Int32) (σ : Mem) : Option (Int32 × Mem) :=
  if a1 = 0 then
    (g0 (1 : Int32) a2 σ).bind (fun q1 =>
    if q1.1 = 0 ∨ q1.1 = 1 then some (q1.1, q1.2) else none)
  else
  if a1 = 1 then
    (g1 a2 σ).bind (fun q2 =>
    if q2.1 = 0 ∨ q2.1 = 1 then some (q2.1, q2.2) else none)
  else
  if a1 = 2 then
    (g0 (3 : Int32) a2 σ).bind (fun q3 =>
    if q3.1 = 0 ∨ q3.1 = 1 then some (q3.1, q3.2) else none)
  else
  (g2 a2 σ).bind (fun q4 =>
  if q4.1 = 0 ∨ q4.1 = 1 then some (q4.1, q4.2) else none)
def G_X8_reads (N : Nat) : Nat → (Int32 → Int32 → Mem → Option (Int32 × Mem)) × (Int32 → Mem → Option (Int32 × Mem)) × (Int32 → Mem → Option (Int32 × Mem)) × (Int32 → Int32 → Mem → Option (Int32 × Mem))
  | 0 => (fun _ _ _ => none, fun _ _ => none, fun _ _ => none, fun _ _ _ => none)
  | d + 1 => (B_X8_reads N (G_X8_reads N d).1 (G_X8_reads N d).2.1 (G_X8_reads N d).2.2.1 (G_X8_reads N d).2.2.2, B_X8_readsNot N (G_X8_reads N d).1 (G_X8_reads N d).2.1 (G_X8_reads N d).2.2.1 (G_X8_reads N d).2.2.2, B_X8_readsOne N (G_X8_reads N d).1 (G_X8_reads N d).2.1 (G_X8_reads N d).2.2.1 (G_X8_reads N d).2.2.2, B_X8_readsPart N (G_X8_reads N d).1 (G_X8_reads N d).2.1 (G_X8_reads N d).2.2.1 (G_X8_reads N d).2.2.2)
def F_X8_reads (N : Nat) (a1 : Int32) (a2 : Int32) (σ : Mem) : Option (Int32 × Mem) := (G_X8_reads N 90).1 a1 a2 σ
def F_X8_readsNot (N : Nat) (a1 : Int32) (σ : Mem) : Option (Int32 × Mem) := (G_X8_reads N 90).2.1 a1 σ
def F_X8_readsOne (N : Nat) (a1 : Int32) (σ : Mem) : Option (Int32 × Mem) := (G_X8_reads N 90).2.2.1 a1 σ
def F_X8_readsPart (N : Nat) (a1 : Int32) (a2 : Int32) (σ : Mem) : Option (Int32 × Mem) := (G_X8_reads N 90).2.2.2 a1 a2 σ
def F_X8_readsText_b16 (N : Nat)   : Nat → Int32 → Mem → Option (Int32 × Mem)
  | 0, _, _ => none
  | n + 1, x1, σ =>
    if (3 : Int32) ≤ x1 then
      if (σ.1 3 7) = 0 then
        some ((1 : Int32), σ)
      else
        some ((0 : Int32), σ)
    else
      if (σ.1 3 7) = ((4 : Int32) + x1) then
        if hwOut x1 3 then none else
        (F_X8_step N (σ.1, σ.2.1, (hwU3 σ.2.2.1 64 0 (x1).toNatClampNeg (σ.1 3 4)), σ.2.2.2.1, σ.2.2.2.2)).bind (fun q2 =>
        (F_X8_reads N (0 : Int32) (0 : Int32) q2.2).bind (fun q3 =>
        if q3.1 = 0 then
          some ((0 : Int32), q3.2)
        else
          if (q3.2.1 3 7) = (59 : Int32) then
            (F_X8_emit N (40000 : Int32) q3.2).bind (fun q4 =>
            (F_X8_step N q4.2).bind (fun q5 =>
            (F_X8_readsText_b16 N n) (x1 + (1 : Int32)) q5.2))
          else
            some ((0 : Int32), q3.2)))
      else
        some ((0 : Int32), σ)
def F_X8_readsText (N : Nat)   (σ : Mem) : Option (Int32 × Mem) :=
  (F_X8_step N ((hwU2 (hwU2 σ.1 3 5 (0 : Int32)) 3 4 (0 : Int32)), σ.2.1, σ.2.2.1, σ.2.2.2.1, σ.2.2.2.2)).bind (fun q1 =>
  (F_X8_readsText_b16 N N) (0 : Int32) q1.2)
def F_X4_readTape (N : Nat)   (σ : Mem) : Option (Int32 × Mem) :=
  if (σ.1 2 9) < (6 : Int32) then
    (F_X8_readsText N σ).bind (fun q1 =>
    if q1.1 = 0 then
      some (((Int32.ofInt (-100)) - (q1.2.1 3 6)), ((hwU2 q1.2.1 3 3 (0 : Int32)), q1.2.2.1, q1.2.2.2.1, q1.2.2.2.2.1, q1.2.2.2.2.2))
    else
      if hwOut (σ.1 2 9) 6 then none else
      if hwOut (σ.1 2 9) 6 then none else
      some ((σ.1 2 9), ((hwU2 (hwU2 q1.2.1 3 3 (0 : Int32)) 2 9 ((σ.1 2 9) + (1 : Int32))), q1.2.2.1, (hwR3 (hwR3 q1.2.2.2.1 39 ((σ.1 2 9)).toNatClampNeg (va_cpy (q1.2.2.2.1 63 0) (q1.2.2.2.1 39 ((σ.1 2 9)).toNatClampNeg) 0 0 160)) 41 ((σ.1 2 9)).toNatClampNeg (va_cpy ((hwR3 q1.2.2.2.1 39 ((σ.1 2 9)).toNatClampNeg (va_cpy (q1.2.2.2.1 63 0) (q1.2.2.2.1 39 ((σ.1 2 9)).toNatClampNeg) 0 0 160)) 64 0) ((hwR3 q1.2.2.2.1 39 ((σ.1 2 9)).toNatClampNeg (va_cpy (q1.2.2.2.1 63 0) (q1.2.2.2.1 39 ((σ.1 2 9)).toNatClampNeg) 0 0 160)) 41 ((σ.1 2 9)).toNatClampNeg) 0 0 3)), q1.2.2.2.2.1, q1.2.2.2.2.2)))
  else
    some ((Int32.ofInt (-4)), σ)
def F_X11_text (N : Nat)   (σ : Mem) : Option (Int32 × Mem) :=
  (F_X4_readTape N σ).bind (fun q1 =>
  some (q1.1, q1.2))
def F_X11_think (N : Nat)  (a1 : Int32) (a2 : Int32) (σ : Mem) : Option (Int64 × Mem) :=
  (F_X11_isPlace N a1 σ).bind (fun q1 =>
  if q1.1 = 0 then
    some ((Int64.ofInt (-4611686018427387904)), q1.2)
  else
    (F_X11_isLayer N a2 q1.2).bind (fun q2 =>
    if q2.1 = 0 then
      some ((Int64.ofInt (-4611686018427387904)), q2.2)
    else
      (F_X6_nextYard N a1 q2.2).bind (fun q3 =>
      if q3.1 = 0 then
        some ((Int64.ofInt (-3)), q3.2)
      else
        if hwOut q3.1 7 then none else
        if hwOut a2 5 then none else
        some ((q3.2.2.2.2.1 50 (q3.1).toNatClampNeg (a2).toNatClampNeg), q3.2))))
def F_X11_ties (N : Nat)  (a1 : Int32) (a2 : Int32) (a3 : Int32) (σ : Mem) : Option (Int32 × Mem) :=
  (F_X11_isPlace N a1 σ).bind (fun q1 =>
  if q1.1 = 0 then
    some ((Int32.ofInt (-1)), q1.2)
  else
    (F_X11_isPlace N a2 q1.2).bind (fun q2 =>
    if q2.1 = 0 then
      some ((Int32.ofInt (-1)), q2.2)
    else
      if a1 = a2 then
        some ((Int32.ofInt (-1)), q2.2)
      else
        (F_X11_within N a3 (0 : Int32) (100 : Int32) q2.2).bind (fun q3 =>
        if q3.1 = 0 then
          some ((Int32.ofInt (-2)), q3.2)
        else
          if hwOut a1 4 then none else
          if hwOut a2 4 then none else
          if hwOut a1 4 then none else
          if hwOut a2 4 then none else
          if hwOut a2 4 then none else
          if hwOut a1 4 then none else
          some ((q3.2.2.2.1 61 (a1).toNatClampNeg (a2).toNatClampNeg), (q3.2.1, q3.2.2.1, (hwU3 (hwU3 q3.2.2.2.1 61 (a1).toNatClampNeg (a2).toNatClampNeg a3) 61 (a2).toNatClampNeg (a1).toNatClampNeg a3), q3.2.2.2.2.1, q3.2.2.2.2.2)))))
def F_X11_told (N : Nat)  (a1 : Int32) (a2 : Int32) (σ : Mem) : Option (Int32 × Mem) :=
  (F_X11_isPlace N a1 σ).bind (fun q1 =>
  if q1.1 = 0 then
    some ((Int32.ofInt (-5)), q1.2)
  else
    if a2 = 0 then
      if hwOut a1 4 then none else
      some ((q1.2.2.2.1 58 0 (a1).toNatClampNeg), q1.2)
    else
      if a2 = (1 : Int32) then
        if hwOut a1 4 then none else
        if (q1.2.2.2.1 59 0 (a1).toNatClampNeg) = 0 then
          some ((0 : Int32), q1.2)
        else
          some ((1 : Int32), q1.2)
      else
        (F_X11_within N a2 (2 : Int32) (6 : Int32) q1.2).bind (fun q2 =>
        if q2.1 = 0 then
          (F_X11_within N a2 (7 : Int32) (11 : Int32) q2.2).bind (fun q3 =>
          if q3.1 = 0 then
            some ((Int32.ofInt (-7)), q3.2)
          else
            (F_X11_isLayer N (a2 - (7 : Int32)) q3.2).bind (fun q4 =>
            if q4.1 = 0 then
              some ((0 : Int32), q4.2)
            else
              if hwOut a1 4 then none else
              if hwOut (a2 - (7 : Int32)) 5 then none else
              some ((q4.2.2.2.1 55 (a1).toNatClampNeg ((a2 - (7 : Int32))).toNatClampNeg), q4.2)))
        else
          (F_X7_signOf N a1 (a2 - (1 : Int32)) q2.2).bind (fun q5 =>
          some (q5.1, q5.2))))
def F_X3_restore_b29 (N : Nat)  (k19 : Int32 → Mem → Option (Unit × Mem)) : Nat → Int32 → Int32 → Mem → Option (Unit × Mem)
  | 0, _, _, _ => none
  | n + 1, x1, x2, σ =>
    if (σ.1 11 8) ≤ x2 then
      k19 (x1 + (1 : Int32)) σ
    else
      if hwOut x1 5 then none else
      if hwOut x2 5 then none else
      (F_X2_reweigh N x1 x2 (σ.2.2.1 31 (x1).toNatClampNeg (x2).toNatClampNeg) σ).bind (fun q1 =>
      (F_X3_restore_b29 N k19 n) x1 (x2 + (1 : Int32)) q1.2)
def F_X3_restore_b69 (N : Nat)   : Nat → Int32 → Mem → Option (Unit × Mem)
  | 0, _, _ => none
  | n + 1, x1, σ =>
    if (σ.1 11 9) ≤ x1 then
      some ((), σ)
    else
      if hwOut x1 4 then none else
      if hwOut x1 4 then none else
      if hwOut x1 4 then none else
      if hwOut x1 4 then none else
      if (0 : Int32) < 0 ∨ (0 : Int32) < 0 ∨ (σ.1 11 9) < 0 ∨ 4 < 0 + ((σ.1 11 9)).toNatClampNeg ∨ 4 < 0 + ((σ.1 11 9)).toNatClampNeg then none else
      if hwOut x1 4 then none else
      if hwOut x1 4 then none else
      if hwOut x1 4 then none else
      if hwOut x1 4 then none else
      (F_X3_restore_b69 N n) (x1 + (1 : Int32)) (σ.1, σ.2.1, (hwU3 (hwU3 (hwR3 (hwR3 σ.2.2.1 57 (x1).toNatClampNeg (va_cpy (σ.2.2.1 33 (x1).toNatClampNeg) (σ.2.2.1 57 (x1).toNatClampNeg) 0 0 5)) 61 (x1).toNatClampNeg (va_cpy ((hwR3 σ.2.2.1 57 (x1).toNatClampNeg (va_cpy (σ.2.2.1 33 (x1).toNatClampNeg) (σ.2.2.1 57 (x1).toNatClampNeg) 0 0 5)) 37 (x1).toNatClampNeg) ((hwR3 σ.2.2.1 57 (x1).toNatClampNeg (va_cpy (σ.2.2.1 33 (x1).toNatClampNeg) (σ.2.2.1 57 (x1).toNatClampNeg) 0 0 5)) 61 (x1).toNatClampNeg) 0 0 ((σ.1 11 9)).toNatClampNeg)) 58 0 (x1).toNatClampNeg (σ.2.2.1 34 0 (x1).toNatClampNeg)) 59 0 (x1).toNatClampNeg (vp_nar .boolean (σ.2.2.1 35 0 (x1).toNatClampNeg))), σ.2.2.2.1, σ.2.2.2.2)
def F_X3_restore_b19 (N : Nat)   : Nat → Int32 → Mem → Option (Unit × Mem)
  | 0, _, _ => none
  | n + 1, x1, σ =>
    if (σ.1 11 8) ≤ x1 then
      (F_X3_restore_b69 N N) (0 : Int32) σ
    else
      (F_X3_restore_b29 N (F_X3_restore_b19 N n) N) x1 (0 : Int32) σ
def F_X3_restore (N : Nat)   (σ : Mem) : Option (Unit × Mem) :=
  (F_X3_restore_b19 N N) (0 : Int32) (σ.1, σ.2.1, (hwR3 σ.2.2.1 28 0 (va_cpy (σ.2.2.1 29 0) (σ.2.2.1 28 0) 0 0 5)), σ.2.2.2.1, σ.2.2.2.2)
def F_X11_undo (N : Nat)   (σ : Mem) : Option (Int32 × Mem) :=
  if (σ.1 11 11) = 0 then
    some ((Int32.ofInt (-3)), σ)
  else
    (F_X3_restore N σ).bind (fun q1 =>
    (F_X4_weigh N ((hwU2 q1.2.1 2 10 (q1.2.1 11 10)), q1.2.2.1, q1.2.2.2.1, q1.2.2.2.2.1, q1.2.2.2.2.2)).bind (fun q2 =>
    some ((q2.2.1 4 5), q2.2)))
def F_X12_allBelow_b4 (N : Nat)   : Nat → Int32 → Int32 → Int32 → Mem → Option (Int32 × Mem)
  | 0, _, _, _, _ => none
  | n + 1, x1, x2, x3, σ =>
    if (σ.1 12 5) ≤ x3 then
      some (x2, σ)
    else
      if hwOut (((5 : Int32) * x1) + x3) 25 then none else
      (F_X12_allBelow_b4 N n) x1 (x2 + (σ.2.2.1 75 0 ((((5 : Int32) * x1) + x3)).toNatClampNeg)) (x3 + (1 : Int32)) σ
def F_X12_allBelow (N : Nat)  (a1 : Int32) (σ : Mem) : Option (Int32 × Mem) :=
  (F_X12_allBelow_b4 N N) a1 (0 : Int32) (0 : Int32) σ
def F_X12_names (N : Nat)  (a1 : Int32) (a2 : Int32) (σ : Mem) : Option (Unit × Mem) :=
  some ((), (σ.1, σ.2.1, (hwU3 (hwU3 (hwU3 (hwU3 (hwU3 (hwU3 σ.2.2.1 101 0 0 a1) 101 0 1 (0 : Int32)) 101 0 2 (0 : Int32)) 101 0 3 (0 : Int32)) 101 0 4 (σ.1 12 2)) 101 0 5 a2), σ.2.2.2.1, σ.2.2.2.2))
def F_X12_two (N : Nat)  (a1 : Int32) (a2 : Int32) (a3 : Int32) (σ : Mem) : Option (Int32 × Mem) :=
  if a1 = 11 then
    if a2 = 0 then
      if a3 = 0 then
        some ((0 : Int32), σ)
      else
        some ((1 : Int32), σ)
    else
      some ((1 : Int32), σ)
  else
  if a1 = 12 then
    if a2 = 0 then
      some ((0 : Int32), σ)
    else
      if a3 = 0 then
        some ((0 : Int32), σ)
      else
        some ((1 : Int32), σ)
  else
  if a1 = 13 then
    some ((a2 * a3), σ)
  else
  if a1 = 14 then
    if a3 ≤ a2 then
      some ((0 : Int32), σ)
    else
      some ((1 : Int32), σ)
  else
  if a1 = 15 then
    if a2 = a3 then
      some ((1 : Int32), σ)
    else
      some ((0 : Int32), σ)
  else
  if a1 = 16 then
    some ((a2 + a3), σ)
  else
  if a1 = 17 then
    some ((a2 - a3), σ)
  else
  some ((a2 * a3), σ)
def F_X12_worth_b130 (N : Nat)  (k16 : Int32 → Int32 → Int32 → Mem → Option (Int32 × Mem)) (x1 : Int32) (x2 : Int32) (x3 : Int32) (s0 : Int32) (s1 : Int32) (σ : Mem) : Option (Int32 × Mem) :=
  if hwOut s1 200 then none else
  k16 x1 x2 (x3 + (1 : Int32)) (σ.1, σ.2.1, (hwU3 σ.2.2.1 100 0 (s1).toNatClampNeg s0), σ.2.2.2.1, σ.2.2.2.2)
def F_X12_worth_b93 (N : Nat)  (k16 : Int32 → Int32 → Int32 → Mem → Option (Int32 × Mem)) (x1 : Int32) (x2 : Int32) (x3 : Int32) (s0 : Int32) (s1 : Int32) (σ : Mem) : Option (Int32 × Mem) :=
  if hwOut s1 200 then none else
  k16 x1 (x2 + (1 : Int32)) (x3 + (1 : Int32)) (σ.1, σ.2.1, (hwU3 σ.2.2.1 100 0 (s1).toNatClampNeg s0), σ.2.2.2.1, σ.2.2.2.2)
def F_X12_worth_b66 (N : Nat)  (k16 : Int32 → Int32 → Int32 → Mem → Option (Int32 × Mem)) (x1 : Int32) (x2 : Int32) (x3 : Int32) (x4 : Int32) (σ : Mem) : Option (Int32 × Mem) :=
  if (11 : Int32) ≤ x4 then
    (F_X12_worth_b93 N k16) x1 x2 x3 (x4 - (100000 : Int32)) x2 σ
  else
    if hwOut x4 6 then none else
    (F_X12_worth_b93 N k16) x1 x2 x3 (σ.2.2.1 101 0 (x4).toNatClampNeg) x2 σ
def F_X12_worth_b209 (N : Nat)   (s0 : Int32) (σ : Mem) : Option (Int32 × Mem) :=
  if 0 ≤ (σ.2.2.1 100 0 0) then
    if (σ.2.2.1 100 0 0) ≤ s0 then
      some ((σ.2.2.1 100 0 0), σ)
    else
      some (s0, σ)
  else
    some ((0 : Int32), σ)
def F_X12_worth_b16 (N : Nat)   : Nat → Int32 → Int32 → Int32 → Mem → Option (Int32 × Mem)
  | 0, _, _, _, _ => none
  | n + 1, x1, x2, x3, σ =>
    if hwOut ((((4 : Int32) * (σ.1 12 28)) + x1) + (1 : Int32)) 24 then none else
    if (σ.2.2.1 88 0 (((((4 : Int32) * (σ.1 12 28)) + x1) + (1 : Int32))).toNatClampNeg) ≤ x3 then
      if x1 = 0 then
        (F_X12_worth_b209 N) (999 : Int32) σ
      else
        (F_X12_worth_b209 N) (100 : Int32) σ
    else
      if hwOut (((200 : Int32) * (σ.1 12 28)) + x3) 1200 then none else
      if (100000 : Int32) ≤ (σ.2.2.1 87 0 ((((200 : Int32) * (σ.1 12 28)) + x3)).toNatClampNeg) then
        (F_X12_worth_b66 N (F_X12_worth_b16 N n)) x1 x2 x3 (σ.2.2.1 87 0 ((((200 : Int32) * (σ.1 12 28)) + x3)).toNatClampNeg) σ
      else
        if (11 : Int32) ≤ (σ.2.2.1 87 0 ((((200 : Int32) * (σ.1 12 28)) + x3)).toNatClampNeg) then
          if (σ.2.2.1 87 0 ((((200 : Int32) * (σ.1 12 28)) + x3)).toNatClampNeg) = (13 : Int32) then
            if hwOut (x2 - (1 : Int32)) 200 then none else
            if (σ.2.2.1 100 0 ((x2 - (1 : Int32))).toNatClampNeg) = 0 then
              (F_X12_worth_b130 N (F_X12_worth_b16 N n)) x1 x2 x3 (1 : Int32) (x2 - (1 : Int32)) σ
            else
              (F_X12_worth_b130 N (F_X12_worth_b16 N n)) x1 x2 x3 (0 : Int32) (x2 - (1 : Int32)) σ
          else
            if (σ.2.2.1 87 0 ((((200 : Int32) * (σ.1 12 28)) + x3)).toNatClampNeg) = (19 : Int32) then
              if hwOut (x2 - (1 : Int32)) 200 then none else
              if hwOut (x2 - (1 : Int32)) 200 then none else
              (F_X12_worth_b16 N n) x1 x2 (x3 + (1 : Int32)) (σ.1, σ.2.1, (hwU3 σ.2.2.1 100 0 ((x2 - (1 : Int32))).toNatClampNeg (-(σ.2.2.1 100 0 ((x2 - (1 : Int32))).toNatClampNeg))), σ.2.2.2.1, σ.2.2.2.2)
            else
              if hwOut ((x2 + (Int32.ofInt (-1))) - (1 : Int32)) 200 then none else
              if hwOut (x2 + (Int32.ofInt (-1))) 200 then none else
              (F_X12_two N (σ.2.2.1 87 0 ((((200 : Int32) * (σ.1 12 28)) + x3)).toNatClampNeg) (σ.2.2.1 100 0 (((x2 + (Int32.ofInt (-1))) - (1 : Int32))).toNatClampNeg) (σ.2.2.1 100 0 ((x2 + (Int32.ofInt (-1)))).toNatClampNeg) σ).bind (fun q1 =>
              if hwOut ((x2 + (Int32.ofInt (-1))) - (1 : Int32)) 200 then none else
              (F_X12_worth_b16 N n) x1 (x2 + (Int32.ofInt (-1))) (x3 + (1 : Int32)) (q1.2.1, q1.2.2.1, (hwU3 q1.2.2.2.1 100 0 (((x2 + (Int32.ofInt (-1))) - (1 : Int32))).toNatClampNeg q1.1), q1.2.2.2.2.1, q1.2.2.2.2.2))
        else
          (F_X12_worth_b66 N (F_X12_worth_b16 N n)) x1 x2 x3 (σ.2.2.1 87 0 ((((200 : Int32) * (σ.1 12 28)) + x3)).toNatClampNeg) σ
def F_X12_worth (N : Nat)  (a1 : Int32) (σ : Mem) : Option (Int32 × Mem) :=
  if hwOut (((4 : Int32) * (σ.1 12 28)) + a1) 24 then none else
  (F_X12_worth_b16 N N) a1 (0 : Int32) (σ.2.2.1 88 0 ((((4 : Int32) * (σ.1 12 28)) + a1)).toNatClampNeg) σ
def F_X12_costOf (N : Nat)  (a1 : Int32) (σ : Mem) : Option (Int32 × Mem) :=
  (F_X12_names N a1 (0 : Int32) σ).bind (fun q1 =>
  (F_X12_worth N (0 : Int32) q1.2).bind (fun q2 =>
  some (q2.1, q2.2)))
def F_X12_fallOf (N : Nat)  (a1 : Int32) (a2 : Int32) (σ : Mem) : Option (Int32 × Mem) :=
  (F_X12_names N a1 a2 σ).bind (fun q1 =>
  (F_X12_worth N (2 : Int32) q1.2).bind (fun q2 =>
  some (q2.1, q2.2)))
def F_X12_in (N : Nat)  (a1 : Int32) (a2 : Int32) (a3 : Int32) (σ : Mem) : Option (Int32 × Mem) :=
  if a1 < a2 then
    some ((0 : Int32), σ)
  else
    if a3 < a1 then
      some ((0 : Int32), σ)
    else
      some ((1 : Int32), σ)
def F_X12_isLayer (N : Nat)  (a1 : Int32) (σ : Mem) : Option (Int32 × Mem) :=
  (F_X12_in N a1 (0 : Int32) ((σ.1 12 5) - (1 : Int32)) σ).bind (fun q1 =>
  if q1.1 = 0 ∨ q1.1 = 1 then some (q1.1, q1.2) else none)
def F_X12_waterOf (N : Nat)  (a1 : Int32) (a2 : Int32) (σ : Mem) : Option (Int32 × Mem) :=
  (F_X12_names N a1 (0 : Int32) σ).bind (fun q1 =>
  if hwOut a2 5 then none else
  if hwOut a2 5 then none else
  (F_X12_worth N (1 : Int32) (q1.2.1, q1.2.2.1, (hwU3 (hwU3 (hwU3 q1.2.2.2.1 101 0 1 a2) 101 0 2 (q1.2.2.2.1 72 0 (a2).toNatClampNeg)) 101 0 3 (q1.2.2.2.1 73 0 (a2).toNatClampNeg)), q1.2.2.2.2.1, q1.2.2.2.2.2)).bind (fun q2 =>
  some (q2.1, q2.2)))
def F_X12_asks_b47 (N : Nat)   (x1 : Int32) (x2 : Int32) (x3 : Int32) (x4 : Int32) (σ : Mem) : Option (Int32 × Mem) :=
  if x1 = 0 then
    (F_X12_costOf N x2 σ).bind (fun q5 =>
    some (q5.1, q5.2))
  else
    if x1 = (1 : Int32) then
      (F_X12_waterOf N x2 x3 σ).bind (fun q6 =>
      some (q6.1, q6.2))
    else
      (F_X12_fallOf N x2 x4 σ).bind (fun q7 =>
      some (q7.1, q7.2))
def F_X12_asks (N : Nat)  (a1 : Int32) (a2 : Int32) (a3 : Int32) (a4 : Int32) (σ : Mem) : Option (Int32 × Mem) :=
  (F_X12_in N a1 (0 : Int32) (2 : Int32) σ).bind (fun q1 =>
  if q1.1 = 0 then
    some ((Int32.ofInt (-2)), q1.2)
  else
    (F_X12_in N a2 (1 : Int32) (5 : Int32) q1.2).bind (fun q2 =>
    if q2.1 = 0 then
      some ((Int32.ofInt (-2)), q2.2)
    else
      (F_X12_in N a4 (0 : Int32) (1 : Int32) q2.2).bind (fun q3 =>
      if q3.1 = 0 then
        some ((Int32.ofInt (-2)), q3.2)
      else
        if a1 = (1 : Int32) then
          (F_X12_isLayer N a3 q3.2).bind (fun q4 =>
          if q4.1 = 0 then
            some ((Int32.ofInt (-5)), q4.2)
          else
            (F_X12_asks_b47 N) a1 a2 a3 a4 q4.2)
        else
          (F_X12_asks_b47 N) a1 a2 a3 a4 q3.2)))
def F_X12_begins_b93 (N : Nat)  (k38 : Int32 → Int32 → Int64 → Int32 → Mem → Option (Unit × Mem)) (x1 : Int32) (x2 : Int32) (x3 : Int64) (x5 : Int32) (s0 : Int64) (s1 : Int32) (σ : Mem) : Option (Unit × Mem) :=
  if hwOut s1 40 then none else
  k38 x1 x2 x3 (x5 + (1 : Int32)) (σ.1, σ.2.1, σ.2.2.1, (hwU3 σ.2.2.2.1 102 0 (s1).toNatClampNeg s0), σ.2.2.2.2)
def F_X12_begins_b38 (N : Nat)   : Nat → Int32 → Int32 → Int64 → Int32 → Mem → Option (Unit × Mem)
  | 0, _, _, _, _, _ => none
  | n + 1, x1, x2, x3, x5, σ =>
    if (σ.1 12 5) ≤ x5 then
      some ((), σ)
    else
      if (lg_cmp x3 (0 : Int64)) = 0 then
        if (σ.1 12 5).toInt64 = 0 then none else
        (F_X12_begins_b93 N (F_X12_begins_b38 N n)) x1 x2 x3 x5 ((1000000 : Int64) / (σ.1 12 5).toInt64) (((5 : Int32) * x2) + x5) σ
      else
        if hwOut (((5 : Int32) * x1) + x5) 20 then none else
        if x3 = 0 then none else
        (F_X12_begins_b93 N (F_X12_begins_b38 N n)) x1 x2 x3 x5 (((σ.2.2.1 76 0 ((((5 : Int32) * x1) + x5)).toNatClampNeg).toInt64 * (1000000 : Int64)) / x3) (((5 : Int32) * x2) + x5) σ
def F_X12_begins_b5 (N : Nat)   : Nat → Int32 → Int32 → Int64 → Int32 → Mem → Option (Unit × Mem)
  | 0, _, _, _, _, _ => none
  | n + 1, x1, x2, x3, x5, σ =>
    if (σ.1 12 5) ≤ x5 then
      (F_X12_begins_b38 N N) x1 x2 x3 (0 : Int32) σ
    else
      if hwOut (((5 : Int32) * x1) + x5) 20 then none else
      (F_X12_begins_b5 N n) x1 x2 (x3 + (σ.2.2.1 76 0 ((((5 : Int32) * x1) + x5)).toNatClampNeg).toInt64) (x5 + (1 : Int32)) σ
def F_X12_begins (N : Nat)  (a1 : Int32) (a2 : Int32) (σ : Mem) : Option (Unit × Mem) :=
  (F_X12_begins_b5 N N) a1 a2 (0 : Int64) (0 : Int32) σ
def F_X12_below_b138 (N : Nat)  (k74 : Int32 → Int64 → Int32 → Int64 → Int32 → Int32 → Mem → Option (Unit × Mem)) (x1 : Int32) (x2 : Int64) (x4 : Int32) (x5 : Int64) (x7 : Int32) (x8 : Int32) (s0 : Int64) (s1 : Int64) (s2 : Int32) (σ : Mem) : Option (Unit × Mem) :=
  if hwOut s2 40 then none else
  k74 x1 x2 x4 x5 x7 (x8 + (1 : Int32)) (σ.1, σ.2.1, σ.2.2.1, (hwU3 σ.2.2.2.1 102 0 (s2).toNatClampNeg (s1 + s0)), σ.2.2.2.2)
def F_X12_below_b74 (N : Nat)  (k35 : Int32 → Int64 → Int32 → Mem → Option (Unit × Mem)) : Nat → Int32 → Int64 → Int32 → Int64 → Int32 → Int32 → Mem → Option (Unit × Mem)
  | 0, _, _, _, _, _, _, _ => none
  | n + 1, x1, x2, x4, x5, x7, x8, σ =>
    if (σ.1 12 5) ≤ x8 then
      k35 x1 x2 (x4 + (1 : Int32)) σ
    else
      if hwOut ((((5 : Int32) * x1) + (5 : Int32)) + x8) 40 then none else
      if x7 = 0 then
        if x4 = x8 then
          (F_X12_below_b138 N (F_X12_below_b74 N k35 n)) x1 x2 x4 x5 x7 x8 x5 (σ.2.2.2.1 102 0 (((((5 : Int32) * x1) + (5 : Int32)) + x8)).toNatClampNeg) ((((5 : Int32) * x1) + (5 : Int32)) + x8) σ
        else
          (F_X12_below_b138 N (F_X12_below_b74 N k35 n)) x1 x2 x4 x5 x7 x8 (0 : Int64) (σ.2.2.2.1 102 0 (((((5 : Int32) * x1) + (5 : Int32)) + x8)).toNatClampNeg) ((((5 : Int32) * x1) + (5 : Int32)) + x8) σ
      else
        if hwOut (((5 : Int32) * x4) + x8) 25 then none else
        if x7.toInt64 = 0 then none else
        (F_X12_below_b138 N (F_X12_below_b74 N k35 n)) x1 x2 x4 x5 x7 x8 ((x5 * (σ.2.2.1 75 0 ((((5 : Int32) * x4) + x8)).toNatClampNeg).toInt64) / x7.toInt64) (σ.2.2.2.1 102 0 (((((5 : Int32) * x1) + (5 : Int32)) + x8)).toNatClampNeg) ((((5 : Int32) * x1) + (5 : Int32)) + x8) σ
def F_X12_below_b35 (N : Nat)   : Nat → Int32 → Int64 → Int32 → Mem → Option (Unit × Mem)
  | 0, _, _, _, _ => none
  | n + 1, x1, x2, x4, σ =>
    if (σ.1 12 5) ≤ x4 then
      some ((), σ)
    else
      if hwOut (((5 : Int32) * x1) + x4) 40 then none else
      if x2 = 0 then none else
      (F_X12_allBelow N x4 σ).bind (fun q1 =>
      (F_X12_below_b74 N (F_X12_below_b35 N n) N) x1 x2 x4 (((σ.2.2.2.1 103 0 ((((5 : Int32) * x1) + x4)).toNatClampNeg) * (1000000 : Int64)) / x2) q1.1 (0 : Int32) q1.2)
def F_X12_below_b3 (N : Nat)   : Nat → Int32 → Int64 → Int32 → Mem → Option (Unit × Mem)
  | 0, _, _, _, _ => none
  | n + 1, x1, x2, x4, σ =>
    if (σ.1 12 5) ≤ x4 then
      (F_X12_below_b35 N N) x1 x2 (0 : Int32) σ
    else
      if hwOut ((((5 : Int32) * x1) + (5 : Int32)) + x4) 40 then none else
      (F_X12_below_b3 N n) x1 x2 (x4 + (1 : Int32)) (σ.1, σ.2.1, σ.2.2.1, (hwU3 σ.2.2.2.1 102 0 (((((5 : Int32) * x1) + (5 : Int32)) + x4)).toNatClampNeg (0 : Int64)), σ.2.2.2.2)
def F_X12_below (N : Nat)  (a1 : Int32) (a2 : Int64) (σ : Mem) : Option (Unit × Mem) :=
  (F_X12_below_b3 N N) a1 a2 (0 : Int32) σ
def F_X12_dries_b71 (N : Nat)  (k6 : Int32 → Int32 → Int32 → Int64 → Int32 → Mem → Option (Int64 × Mem)) (x1 : Int32) (x2 : Int32) (x3 : Int32) (x4 : Int64) (x6 : Int32) (s0 : Int64) (s1 : Int32) (σ : Mem) : Option (Int64 × Mem) :=
  if hwOut s1 40 then none else
  if hwOut (((5 : Int32) * x1) + x6) 40 then none else
  k6 x1 x2 x3 (x4 + ((hwU3 σ.2.2.2.1 103 0 (s1).toNatClampNeg s0) 103 0 ((((5 : Int32) * x1) + x6)).toNatClampNeg)) (x6 + (1 : Int32)) (σ.1, σ.2.1, σ.2.2.1, (hwU3 σ.2.2.2.1 103 0 (s1).toNatClampNeg s0), σ.2.2.2.2)
def F_X12_dries_b6 (N : Nat)   : Nat → Int32 → Int32 → Int32 → Int64 → Int32 → Mem → Option (Int64 × Mem)
  | 0, _, _, _, _, _, _ => none
  | n + 1, x1, x2, x3, x4, x6, σ =>
    if (σ.1 12 5) ≤ x6 then
      some (x4, σ)
    else
      if hwOut (((5 : Int32) * x1) + x6) 40 then none else
      if hwOut x6 5 then none else
      if (σ.2.2.1 74 0 (x6).toNatClampNeg) = x3 then
        (F_X12_waterOf N x2 x6 σ).bind (fun q1 =>
        (F_X12_dries_b71 N (F_X12_dries_b6 N n)) x1 x2 x3 x4 x6 ((σ.2.2.2.1 102 0 ((((5 : Int32) * x1) + x6)).toNatClampNeg) - (((σ.2.2.2.1 102 0 ((((5 : Int32) * x1) + x6)).toNatClampNeg) * q1.1.toInt64) / (100 : Int64))) (((5 : Int32) * x1) + x6) q1.2)
      else
        (F_X12_dries_b71 N (F_X12_dries_b6 N n)) x1 x2 x3 x4 x6 (0 : Int64) (((5 : Int32) * x1) + x6) σ
def F_X12_dries (N : Nat)  (a1 : Int32) (a2 : Int32) (a3 : Int32) (σ : Mem) : Option (Int64 × Mem) :=
  (F_X12_dries_b6 N N) a1 a2 a3 (0 : Int64) (0 : Int32) σ
def F_X12_thinks_b54 (N : Nat)  (k8 : Int32 → Int32 → Mem → Option (Int32 × Mem)) : Nat → Int32 → Int32 → Int32 → Mem → Option (Int32 × Mem)
  | 0, _, _, _, _ => none
  | n + 1, x1, x2, x5, σ =>
    if (σ.1 12 5) ≤ x5 then
      k8 x1 (x2 + (1 : Int32)) σ
    else
      if hwOut ((5 : Int32) + x5) 40 then none else
      if hwOut x5 40 then none else
      (F_X12_thinks_b54 N k8 n) x1 x2 (x5 + (1 : Int32)) (σ.1, σ.2.1, σ.2.2.1, (hwU3 σ.2.2.2.1 102 0 (x5).toNatClampNeg (σ.2.2.2.1 102 0 (((5 : Int32) + x5)).toNatClampNeg)), σ.2.2.2.2)
def F_X12_thinks_b8 (N : Nat)   : Nat → Int32 → Int32 → Mem → Option (Int32 × Mem)
  | 0, _, _, _ => none
  | n + 1, x1, x2, σ =>
    if hwOut x1 4 then none else
    if (σ.2.2.1 77 0 (x1).toNatClampNeg) ≤ x2 then
      some ((1 : Int32), σ)
    else
      if hwOut (((5 : Int32) * x1) + x2) 20 then none else
      (F_X12_dries N (0 : Int32) (x2 + (1 : Int32)) (σ.2.2.1 79 0 ((((5 : Int32) * x1) + x2)).toNatClampNeg) σ).bind (fun q2 =>
      if (lg_cmp q2.1 (0 : Int64)) = 0 then
        some ((0 : Int32), q2.2)
      else
        (F_X12_below N (0 : Int32) q2.1 q2.2).bind (fun q3 =>
        (F_X12_thinks_b54 N (F_X12_thinks_b8 N n) N) x1 x2 (0 : Int32) q3.2))
def F_X12_thinks (N : Nat)  (a1 : Int32) (σ : Mem) : Option (Int32 × Mem) :=
  (F_X12_begins N a1 (0 : Int32) σ).bind (fun q1 =>
  (F_X12_thinks_b8 N N) a1 (0 : Int32) q1.2)
def F_X12_goesHere (N : Nat)  (a1 : Int32) (σ : Mem) : Option (Int32 × Mem) :=
  if hwOut a1 4 then none else
  if (σ.2.2.1 78 0 (a1).toNatClampNeg) = 0 then
    (F_X12_thinks N a1 σ).bind (fun q1 =>
    if q1.1 = 0 then
      some ((0 : Int32), q1.2)
    else
      some ((1 : Int32), q1.2))
  else
    some ((0 : Int32), σ)
def F_X12_worthOf (N : Nat)  (a1 : Int32) (σ : Mem) : Option (Int64 × Mem) :=
  if hwOut a1 5 then none else
  if (σ.1 12 1) ≤ (σ.2.2.1 73 0 (a1).toNatClampNeg) then
    some ((0 : Int64), σ)
  else
    if hwOut a1 5 then none else
    some (((σ.1 12 1) - (σ.2.2.1 73 0 (a1).toNatClampNeg)).toInt64, σ)
def F_X12_goesOn_b76 (N : Nat) (g0 : Int32 → Int32 → Mem → Option (Int64 × Mem)) (g1 : Int32 → Int32 → Mem → Option (Int64 × Mem))  : Nat → Int32 → Int32 → Int64 → Int32 → Mem → Option (Int64 × Mem)
  | 0, _, _, _, _, _ => none
  | n + 1, x1, x2, x3, x5, σ =>
    if (3 : Int32) ≤ x5 then
      some (x3, σ)
    else
      if (σ.1 12 0) ≤ x1 then
        some (x3, σ)
      else
        (F_X12_dries N x2 x1 x5 σ).bind (fun q4 =>
        if (lg_cmp q4.1 (0 : Int64)) ≤ 0 then
          (F_X12_goesOn_b76 N g0 g1 n) x1 x2 x3 (x5 + (1 : Int32)) q4.2
        else
          (F_X12_below N x2 q4.1 q4.2).bind (fun q5 =>
          (g1 (x1 + (1 : Int32)) (x2 + (1 : Int32)) q5.2).bind (fun q6 =>
          (F_X12_goesOn_b76 N g0 g1 n) x1 x2 (x3 + ((q4.1 * q6.1) / (1000000 : Int64))) (x5 + (1 : Int32)) q6.2)))
def F_X12_goesOn_b24 (N : Nat) (g0 : Int32 → Int32 → Mem → Option (Int64 × Mem)) (g1 : Int32 → Int32 → Mem → Option (Int64 × Mem))  : Nat → Int32 → Int32 → Int64 → Int32 → Mem → Option (Int64 × Mem)
  | 0, _, _, _, _, _ => none
  | n + 1, x1, x2, x3, x5, σ =>
    if (σ.1 12 5) ≤ x5 then
      (F_X12_goesOn_b76 N g0 g1 N) x1 x2 x3 (0 : Int32) σ
    else
      if hwOut (((5 : Int32) * x2) + x5) 40 then none else
      (F_X12_waterOf N x1 x5 σ).bind (fun q2 =>
      (F_X12_worthOf N x5 q2.2).bind (fun q3 =>
      (F_X12_goesOn_b24 N g0 g1 n) x1 x2 (x3 + ((((σ.2.2.2.1 102 0 ((((5 : Int32) * x2) + x5)).toNatClampNeg) * q2.1.toInt64) / (100 : Int64)) * q3.1)) (x5 + (1 : Int32)) q3.2))
def B_X12_goesOn (N : Nat) (g0 : Int32 → Int32 → Mem → Option (Int64 × Mem)) (g1 : Int32 → Int32 → Mem → Option (Int64 × Mem)) (a1 : Int32) (a2 : Int32) (σ : Mem) : Option (Int64 × Mem) :=
  if a1 ≤ (σ.1 12 0) then
    (F_X12_costOf N a1 σ).bind (fun q1 =>
    (F_X12_goesOn_b24 N g0 g1 N) a1 a2 ((Int64.ofInt (-1000000)) * q1.1.toInt64) (0 : Int32) q1.2)
  else
    some ((0 : Int64), σ)
def B_X12_valueOf (N : Nat) (g0 : Int32 → Int32 → Mem → Option (Int64 × Mem)) (g1 : Int32 → Int32 → Mem → Option (Int64 × Mem)) (a1 : Int32) (a2 : Int32) (σ : Mem) : Option (Int64 × Mem) :=
  (g0 a1 a2 σ).bind (fun q1 =>
  if 0 ≤ (lg_cmp q1.1 (0 : Int64)) then
    some (q1.1, q1.2)
  else
    some ((0 : Int64), q1.2))
def G_X12_goesOn (N : Nat) : Nat → (Int32 → Int32 → Mem → Option (Int64 × Mem)) × (Int32 → Int32 → Mem → Option (Int64 × Mem))
  | 0 => (fun _ _ _ => none, fun _ _ _ => none)
  | d + 1 => (B_X12_goesOn N (G_X12_goesOn N d).1 (G_X12_goesOn N d).2, B_X12_valueOf N (G_X12_goesOn N d).1 (G_X12_goesOn N d).2)
def F_X12_goesOn (N : Nat) (a1 : Int32) (a2 : Int32) (σ : Mem) : Option (Int64 × Mem) := (G_X12_goesOn N 20).1 a1 a2 σ
def F_X12_valueOf (N : Nat) (a1 : Int32) (a2 : Int32) (σ : Mem) : Option (Int64 × Mem) := (G_X12_goesOn N 20).2 a1 a2 σ
def F_X12_isPlace (N : Nat)  (a1 : Int32) (σ : Mem) : Option (Int32 × Mem) :=
  (F_X12_in N a1 (0 : Int32) ((σ.1 12 10) - (1 : Int32)) σ).bind (fun q1 =>
  if q1.1 = 0 ∨ q1.1 = 1 then some (q1.1, q1.2) else none)
def F_X12_back (N : Nat)  (a1 : Int32) (σ : Mem) : Option (Int32 × Mem) :=
  (F_X12_isPlace N a1 σ).bind (fun q1 =>
  if q1.1 = 0 then
    some ((Int32.ofInt (-1)), q1.2)
  else
    (F_X12_goesHere N a1 q1.2).bind (fun q2 =>
    if q2.1 = 0 then
      some ((Int32.ofInt (-3)), q2.2)
    else
      if hwOut a1 4 then none else
      (F_X12_goesOn N ((q2.2.2.2.1 77 0 (a1).toNatClampNeg) + (1 : Int32)) (0 : Int32) q2.2).bind (fun q3 =>
      if (lg_cmp q3.1 (0 : Int64)) ≤ 0 then
        some ((0 : Int32), q3.2)
      else
        some ((1 : Int32), q3.2))))
def F_X12_wetOf_b5 (N : Nat)   : Nat → Int32 → Int32 → Int64 → Int32 → Mem → Option (Int64 × Mem)
  | 0, _, _, _, _, _ => none
  | n + 1, x1, x2, x3, x5, σ =>
    if (σ.1 12 5) ≤ x5 then
      some (x3, σ)
    else
      if hwOut (((5 : Int32) * x1) + x5) 40 then none else
      (F_X12_waterOf N x2 x5 σ).bind (fun q1 =>
      (F_X12_wetOf_b5 N n) x1 x2 (x3 + (((σ.2.2.2.1 102 0 ((((5 : Int32) * x1) + x5)).toNatClampNeg) * q1.1.toInt64) / (100 : Int64))) (x5 + (1 : Int32)) q1.2)
def F_X12_wetOf (N : Nat)  (a1 : Int32) (a2 : Int32) (σ : Mem) : Option (Int64 × Mem) :=
  (F_X12_wetOf_b5 N N) a1 a2 (0 : Int64) (0 : Int32) σ
def F_X12_divines_b240 (N : Nat)   (x8 : Int64) (s0 : Int64) (s1 : Int64) (σ : Mem) : Option (Int64 × Mem) :=
  if 0 ≤ (lg_cmp x8 (0 : Int64)) then
    some (((s1 + s0) - x8), σ)
  else
    some (((s1 + s0) - (0 : Int64)), σ)
def F_X12_divines_b227 (N : Nat)   (x8 : Int64) (x18 : Int64) (s0 : Int64) (σ : Mem) : Option (Int64 × Mem) :=
  if 0 ≤ (lg_cmp x18 (0 : Int64)) then
    (F_X12_divines_b240 N) x8 x18 s0 σ
  else
    (F_X12_divines_b240 N) x8 (0 : Int64) s0 σ
def F_X12_divines_b25 (N : Nat)   : Nat → Int32 → Int32 → Int64 → Int32 → Mem → Option (Int64 × Mem)
  | 0, _, _, _, _, _ => none
  | n + 1, x2, x3, x4, x6, σ =>
    if (σ.1 12 5) ≤ x6 then
      (F_X12_costOf N x3 σ).bind (fun q1 =>
      (F_X12_goesOn N x3 (0 : Int32) q1.2).bind (fun q2 =>
      (F_X12_wetOf N (0 : Int32) x3 q2.2).bind (fun q3 =>
      if 0 ≤ (lg_cmp ((((x4 * x2.toInt64) / (100 : Int64)) + ((((q2.1 - x4) + ((1000000 : Int64) * q1.1.toInt64)) * ((100 : Int64) - x2.toInt64)) / (100 : Int64))) - (((((1000000 : Int64) * q1.1.toInt64) * ((q3.1 * x2.toInt64) + (((1000000 : Int64) - q3.1) * ((100 : Int64) - x2.toInt64)))) / (100 : Int64)) / (1000000 : Int64))) (0 : Int64)) then
        (F_X12_divines_b227 N) q2.1 ((((x4 * ((100 : Int64) - x2.toInt64)) / (100 : Int64)) + ((((q2.1 - x4) + ((1000000 : Int64) * q1.1.toInt64)) * x2.toInt64) / (100 : Int64))) - (((((1000000 : Int64) * q1.1.toInt64) * ((q3.1 * ((100 : Int64) - x2.toInt64)) + (((1000000 : Int64) - q3.1) * x2.toInt64))) / (100 : Int64)) / (1000000 : Int64))) ((((x4 * x2.toInt64) / (100 : Int64)) + ((((q2.1 - x4) + ((1000000 : Int64) * q1.1.toInt64)) * ((100 : Int64) - x2.toInt64)) / (100 : Int64))) - (((((1000000 : Int64) * q1.1.toInt64) * ((q3.1 * x2.toInt64) + (((1000000 : Int64) - q3.1) * ((100 : Int64) - x2.toInt64)))) / (100 : Int64)) / (1000000 : Int64))) q3.2
      else
        (F_X12_divines_b227 N) q2.1 ((((x4 * ((100 : Int64) - x2.toInt64)) / (100 : Int64)) + ((((q2.1 - x4) + ((1000000 : Int64) * q1.1.toInt64)) * x2.toInt64) / (100 : Int64))) - (((((1000000 : Int64) * q1.1.toInt64) * ((q3.1 * ((100 : Int64) - x2.toInt64)) + (((1000000 : Int64) - q3.1) * x2.toInt64))) / (100 : Int64)) / (1000000 : Int64))) (0 : Int64) q3.2)))
    else
      if hwOut x6 40 then none else
      (F_X12_waterOf N x3 x6 σ).bind (fun q4 =>
      (F_X12_worthOf N x6 q4.2).bind (fun q5 =>
      (F_X12_divines_b25 N n) x2 x3 (x4 + ((((σ.2.2.2.1 102 0 (x6).toNatClampNeg) * q4.1.toInt64) / (100 : Int64)) * q5.1)) (x6 + (1 : Int32)) q5.2))
def F_X12_divines (N : Nat)  (a1 : Int32) (a2 : Int32) (σ : Mem) : Option (Int64 × Mem) :=
  if hwOut a1 4 then none else
  if ((σ.2.2.1 77 0 (a1).toNatClampNeg) + (1 : Int32)) ≤ (σ.1 12 0) then
    (F_X12_divines_b25 N N) a2 ((σ.2.2.1 77 0 (a1).toNatClampNeg) + (1 : Int32)) (0 : Int64) (0 : Int32) σ
  else
    some ((0 : Int64), σ)
def F_X12_believe_b25 (N : Nat)   : Nat → Int32 → Int32 → Mem → Option (Int32 × Mem)
  | 0, _, _, _ => none
  | n + 1, x1, x2, σ =>
    if (100 : Int32) < x2 then
      some ((Int32.ofInt (-1)), σ)
    else
      (F_X12_divines N x1 x2 σ).bind (fun q3 =>
      if (lg_cmp q3.1 (0 : Int64)) ≤ 0 then
        (F_X12_believe_b25 N n) x1 (x2 + (1 : Int32)) q3.2
      else
        some (x2, q3.2))
def F_X12_believe (N : Nat)  (a1 : Int32) (σ : Mem) : Option (Int32 × Mem) :=
  (F_X12_isPlace N a1 σ).bind (fun q1 =>
  if q1.1 = 0 then
    some ((Int32.ofInt (-5)), q1.2)
  else
    (F_X12_goesHere N a1 q1.2).bind (fun q2 =>
    if q2.1 = 0 then
      some ((Int32.ofInt (-3)), q2.2)
    else
      (F_X12_believe_b25 N N) a1 (50 : Int32) q2.2))
def F_X12_best (N : Nat)  (a1 : Int32) (σ : Mem) : Option (Int64 × Mem) :=
  (F_X12_isPlace N a1 σ).bind (fun q1 =>
  if q1.1 = 0 then
    some ((Int64.ofInt (-4611686018427387904)), q1.2)
  else
    (F_X12_goesHere N a1 q1.2).bind (fun q2 =>
    if q2.1 = 0 then
      some ((Int64.ofInt (-3)), q2.2)
    else
      if hwOut a1 4 then none else
      (F_X12_valueOf N ((q2.2.2.2.1 77 0 (a1).toNatClampNeg) + (1 : Int32)) (0 : Int32) q2.2).bind (fun q3 =>
      some (q3.1, q3.2))))
def F_X12_holds_ (N : Nat)  (a1 : Int32) (σ : Mem) : Option (Unit × Mem) :=
  if hwOut (σ.1 12 48) 200 then none else
  some ((), ((hwU2 σ.1 12 48 ((σ.1 12 48) + (1 : Int32))), σ.2.1, (hwU3 σ.2.2.1 99 0 ((σ.1 12 48)).toNatClampNeg a1), σ.2.2.2.1, σ.2.2.2.2))
def F_X12_rank (N : Nat)  (a1 : Int32) (σ : Mem) : Option (Int32 × Mem) :=
  if a1 = 0 then
    some ((0 : Int32), σ)
  else
    if a1 = (11 : Int32) then
      some ((1 : Int32), σ)
    else
      if a1 = (12 : Int32) then
        some ((2 : Int32), σ)
      else
        if a1 = (13 : Int32) then
          some ((3 : Int32), σ)
        else
          if (15 : Int32) < a1 then
            if (17 : Int32) < a1 then
              if a1 = (18 : Int32) then
                some ((6 : Int32), σ)
              else
                some ((7 : Int32), σ)
            else
              some ((5 : Int32), σ)
          else
            some ((4 : Int32), σ)
def F_X12_puts (N : Nat)  (a1 : Int32) (σ : Mem) : Option (Unit × Mem) :=
  if hwOut (((200 : Int32) * (σ.1 12 27)) + (σ.1 12 50)) 1200 then none else
  some ((), ((hwU2 σ.1 12 50 ((σ.1 12 50) + (1 : Int32))), σ.2.1, (hwU3 σ.2.2.1 87 0 ((((200 : Int32) * (σ.1 12 27)) + (σ.1 12 50))).toNatClampNeg a1), σ.2.2.2.1, σ.2.2.2.2))
def F_X12_unwinds_b67 (N : Nat)  (k0 : Int32 → Mem → Option (Unit × Mem)) (x1 : Int32) (x2 : Int32) (s0 : Int32) (s1 : Int32) (σ : Mem) : Option (Unit × Mem) :=
  (F_X12_puts N x2 ((hwU2 σ.1 12 49 (s1 - s0)), σ.2.1, σ.2.2.1, σ.2.2.2.1, σ.2.2.2.2)).bind (fun q2 =>
  k0 x1 q2.2)
def F_X12_unwinds_b62 (N : Nat)  (k67 : Int32 → Int32 → Int32 → Int32 → Mem → Option (Unit × Mem)) (x1 : Int32) (x2 : Int32) (s0 : Int32) (σ : Mem) : Option (Unit × Mem) :=
  k67 x1 x2 (1 : Int32) s0 σ
def F_X12_unwinds_b0 (N : Nat)   : Nat → Int32 → Mem → Option (Unit × Mem)
  | 0, _, _ => none
  | n + 1, x1, σ =>
    if (σ.1 12 48) ≤ 0 then
      some ((), σ)
    else
      if hwOut ((σ.1 12 48) - (1 : Int32)) 200 then none else
      (F_X12_rank N (σ.2.2.1 99 0 (((σ.1 12 48) - (1 : Int32))).toNatClampNeg) σ).bind (fun q1 =>
      if q1.1 < x1 then
        some ((), q1.2)
      else
        if hwOut ((q1.2.1 12 48) - (1 : Int32)) 200 then none else
        if (q1.2.2.2.1 99 0 (((q1.2.1 12 48) - (1 : Int32))).toNatClampNeg) = (13 : Int32) then
          (F_X12_unwinds_b62 N (F_X12_unwinds_b67 N (F_X12_unwinds_b0 N n))) x1 (q1.2.2.2.1 99 0 (((q1.2.1 12 48) - (1 : Int32))).toNatClampNeg) (q1.2.1 12 49) ((hwU2 q1.2.1 12 48 ((q1.2.1 12 48) - (1 : Int32))), q1.2.2.1, q1.2.2.2.1, q1.2.2.2.2.1, q1.2.2.2.2.2)
        else
          if (q1.2.2.2.1 99 0 (((q1.2.1 12 48) - (1 : Int32))).toNatClampNeg) = (19 : Int32) then
            (F_X12_unwinds_b62 N (F_X12_unwinds_b67 N (F_X12_unwinds_b0 N n))) x1 (q1.2.2.2.1 99 0 (((q1.2.1 12 48) - (1 : Int32))).toNatClampNeg) (q1.2.1 12 49) ((hwU2 q1.2.1 12 48 ((q1.2.1 12 48) - (1 : Int32))), q1.2.2.1, q1.2.2.2.1, q1.2.2.2.2.1, q1.2.2.2.2.2)
          else
            (F_X12_unwinds_b67 N (F_X12_unwinds_b0 N n)) x1 (q1.2.2.2.1 99 0 (((q1.2.1 12 48) - (1 : Int32))).toNatClampNeg) (0 : Int32) (q1.2.1 12 49) ((hwU2 q1.2.1 12 48 ((q1.2.1 12 48) - (1 : Int32))), q1.2.2.1, q1.2.2.2.1, q1.2.2.2.2.1, q1.2.2.2.2.2))
def F_X12_unwinds (N : Nat)  (a1 : Int32) (σ : Mem) : Option (Unit × Mem) :=
  (F_X12_unwinds_b0 N N) a1 σ
def F_X12_between_b55 (N : Nat)   (x1 : Int32) (σ : Mem) : Option (Int32 × Mem) :=
  (F_X12_holds_ N x1 σ).bind (fun q6 =>
  some ((1 : Int32), q6.2))
def F_X12_between_b17 (N : Nat)   (x1 : Int32) (s0 : Int32) (σ : Mem) : Option (Int32 × Mem) :=
  (F_X12_unwinds N s0 σ).bind (fun q3 =>
  (F_X12_rank N x1 q3.2).bind (fun q4 =>
  if q4.1 = (4 : Int32) then
    if (q4.2.1 12 48) ≤ 0 then
      (F_X12_between_b55 N) x1 q4.2
    else
      if hwOut ((q4.2.1 12 48) - (1 : Int32)) 200 then none else
      (F_X12_rank N (q4.2.2.2.1 99 0 (((q4.2.1 12 48) - (1 : Int32))).toNatClampNeg) q4.2).bind (fun q5 =>
      if q5.1 = (4 : Int32) then
        some ((0 : Int32), q5.2)
      else
        (F_X12_between_b55 N) x1 q5.2)
  else
    (F_X12_between_b55 N) x1 q4.2))
def F_X12_between (N : Nat)  (a1 : Int32) (σ : Mem) : Option (Int32 × Mem) :=
  (F_X12_rank N a1 σ).bind (fun q1 =>
  if q1.1 = (4 : Int32) then
    (F_X12_between_b17 N) a1 (5 : Int32) q1.2
  else
    (F_X12_rank N a1 q1.2).bind (fun q2 =>
    (F_X12_between_b17 N) a1 q2.1 q2.2))
def F_X12_tells_b131 (N : Nat) (g0 : Int32 → Int32 → Int32 → Int32 → Mem → Option (Int64 × Mem))  : Nat → Int32 → Int32 → Int32 → Int32 → Int64 → Int32 → Mem → Option (Int64 × Mem)
  | 0, _, _, _, _, _, _, _ => none
  | n + 1, x1, x2, x3, x5, x6, x8, σ =>
    if (3 : Int32) ≤ x8 then
      some (x6, σ)
    else
      (F_X12_dries N x2 x1 x8 σ).bind (fun q4 =>
      if (lg_cmp q4.1 (0 : Int64)) ≤ 0 then
        (F_X12_tells_b131 N g0 n) x1 x2 x3 x5 x6 (x8 + (1 : Int32)) q4.2
      else
        (F_X12_below N x2 q4.1 q4.2).bind (fun q5 =>
        (g0 (x1 + (1 : Int32)) (x2 + (1 : Int32)) (x3 - (1 : Int32)) x5 q5.2).bind (fun q6 =>
        (F_X12_tells_b131 N g0 n) x1 x2 x3 x5 (x6 + ((q4.1 * q6.1) / (1000000 : Int64))) (x8 + (1 : Int32)) q6.2)))
def F_X12_tells_b58 (N : Nat) (g0 : Int32 → Int32 → Int32 → Int32 → Mem → Option (Int64 × Mem))  : Nat → Int32 → Int32 → Int32 → Int32 → Int64 → Int32 → Mem → Option (Int64 × Mem)
  | 0, _, _, _, _, _, _, _ => none
  | n + 1, x1, x2, x3, x5, x6, x8, σ =>
    if (σ.1 12 5) ≤ x8 then
      (F_X12_tells_b131 N g0 N) x1 x2 x3 x5 x6 (0 : Int32) σ
    else
      (F_X12_worthOf N x8 σ).bind (fun q2 =>
      if hwOut (((5 : Int32) * x2) + x8) 40 then none else
      (F_X12_waterOf N x1 x8 q2.2).bind (fun q3 =>
      if 0 ≤ (lg_cmp (q2.1 - x5.toInt64) (0 : Int64)) then
        (F_X12_tells_b58 N g0 n) x1 x2 x3 x5 (x6 + ((((q2.2.2.2.2.1 102 0 ((((5 : Int32) * x2) + x8)).toNatClampNeg) * q3.1.toInt64) / (100 : Int64)) * (q2.1 - x5.toInt64))) (x8 + (1 : Int32)) q3.2
      else
        (F_X12_tells_b58 N g0 n) x1 x2 x3 x5 (x6 + ((((q2.2.2.2.2.1 102 0 ((((5 : Int32) * x2) + x8)).toNatClampNeg) * q3.1.toInt64) / (100 : Int64)) * (0 : Int64))) (x8 + (1 : Int32)) q3.2))
def F_X12_tells_b12 (N : Nat) (g0 : Int32 → Int32 → Int32 → Int32 → Mem → Option (Int64 × Mem))  (x1 : Int32) (x2 : Int32) (x4 : Int32) (σ : Mem) : Option (Int64 × Mem) :=
  (F_X12_valueOf N x1 x2 σ).bind (fun q7 =>
  if 0 ≤ (lg_cmp (q7.1 - ((1000000 : Int64) * x4.toInt64)) (0 : Int64)) then
    some ((q7.1 - ((1000000 : Int64) * x4.toInt64)), q7.2)
  else
    some ((0 : Int64), q7.2))
def B_X12_tells (N : Nat) (g0 : Int32 → Int32 → Int32 → Int32 → Mem → Option (Int64 × Mem)) (a1 : Int32) (a2 : Int32) (a3 : Int32) (a4 : Int32) (σ : Mem) : Option (Int64 × Mem) :=
  if a3 = 0 then
    (F_X12_tells_b12 N g0) a1 a2 a4 σ
  else
    if a1 ≤ (σ.1 12 0) then
      (F_X12_costOf N a1 σ).bind (fun q1 =>
      (F_X12_tells_b58 N g0 N) a1 a2 a3 (a4 + q1.1) (0 : Int64) (0 : Int32) q1.2)
    else
      (F_X12_tells_b12 N g0) a1 a2 a4 σ
def G_X12_tells (N : Nat) : Nat → (Int32 → Int32 → Int32 → Int32 → Mem → Option (Int64 × Mem))
  | 0 => (fun _ _ _ _ _ => none)
  | d + 1 => (B_X12_tells N (G_X12_tells N d))
def F_X12_tells (N : Nat) (a1 : Int32) (a2 : Int32) (a3 : Int32) (a4 : Int32) (σ : Mem) : Option (Int64 × Mem) := (G_X12_tells N 10) a1 a2 a3 a4 σ
def F_X12_boreOf (N : Nat)  (a1 : Int32) (a2 : Int32) (σ : Mem) : Option (Int64 × Mem) :=
  if hwOut a1 4 then none else
  (F_X12_tells N ((σ.2.2.1 77 0 (a1).toNatClampNeg) + (1 : Int32)) (0 : Int32) a2 (0 : Int32) σ).bind (fun q1 =>
  if hwOut a1 4 then none else
  (F_X12_valueOf N ((q1.2.2.2.1 77 0 (a1).toNatClampNeg) + (1 : Int32)) (0 : Int32) q1.2).bind (fun q2 =>
  some ((q1.1 - q2.1), q2.2)))
def F_X12_bore (N : Nat)  (a1 : Int32) (a2 : Int32) (σ : Mem) : Option (Int64 × Mem) :=
  (F_X12_isPlace N a1 σ).bind (fun q1 =>
  if q1.1 = 0 then
    some ((Int64.ofInt (-4611686018427387904)), q1.2)
  else
    (F_X12_in N a2 (0 : Int32) (5 : Int32) q1.2).bind (fun q2 =>
    if q2.1 = 0 then
      some ((Int64.ofInt (-4611686018427387904)), q2.2)
    else
      (F_X12_goesHere N a1 q2.2).bind (fun q3 =>
      if q3.1 = 0 then
        some ((Int64.ofInt (-3)), q3.2)
      else
        (F_X12_boreOf N a1 a2 q3.2).bind (fun q4 =>
        some (q4.1, q4.2)))))
def F_X12_cell_b84 (N : Nat)   (s0 : Int32) (s1 : Int32) (σ : Mem) : Option (Int32 × Mem) :=
  if hwOut s1 160 then none else
  some ((1 : Int32), (σ.1, σ.2.1, (hwU3 σ.2.2.1 97 0 (s1).toNatClampNeg s0), σ.2.2.2.1, σ.2.2.2.2))
def F_X12_cell (N : Nat)  (a1 : Int32) (a2 : Int32) (a3 : Int32) (σ : Mem) : Option (Int32 × Mem) :=
  (F_X12_in N a1 (0 : Int32) (3 : Int32) σ).bind (fun q1 =>
  if q1.1 = 0 then
    some ((Int32.ofInt (-2)), q1.2)
  else
    if hwOut a1 4 then none else
    if (q1.2.2.2.1 95 0 (a1).toNatClampNeg) = (Int32.ofInt (-1)) then
      some ((Int32.ofInt (-11)), q1.2)
    else
      if hwOut a1 4 then none else
      (F_X12_in N a2 (0 : Int32) ((q1.2.2.2.1 96 0 (a1).toNatClampNeg) - (1 : Int32)) q1.2).bind (fun q2 =>
      if q2.1 = 0 then
        some ((Int32.ofInt (-12)), q2.2)
      else
        if hwOut a1 4 then none else
        if (q2.2.2.2.1 95 0 (a1).toNatClampNeg) = 0 then
          (F_X12_cell_b84 N) a3.toInt8.toInt32 (((40 : Int32) * a1) + a2) q2.2
        else
          if hwOut a1 4 then none else
          if (q2.2.2.2.1 95 0 (a1).toNatClampNeg) = (1 : Int32) then
            (F_X12_cell_b84 N) a3.toInt16.toInt32 (((40 : Int32) * a1) + a2) q2.2
          else
            (F_X12_cell_b84 N) a3 (((40 : Int32) * a1) + a2) q2.2))
def F_X12_copy_b173 (N : Nat)  (k147 : Int32 → Int32 → Int32 → Int32 → Mem → Option (Int32 × Mem)) (x5 : Int32) (x6 : Int32) (x7 : Int32) (x8 : Int32) (s0 : Int32) (σ : Mem) : Option (Int32 × Mem) :=
  if hwOut (x6 + s0) 160 then none else
  if hwOut (x7 + s0) 160 then none else
  k147 x5 x6 x7 (x8 + (1 : Int32)) (σ.1, σ.2.1, (hwU3 σ.2.2.1 97 0 ((x7 + s0)).toNatClampNeg (σ.2.2.1 97 0 ((x6 + s0)).toNatClampNeg)), σ.2.2.2.1, σ.2.2.2.2)
def F_X12_copy_b147 (N : Nat)   : Nat → Int32 → Int32 → Int32 → Int32 → Mem → Option (Int32 × Mem)
  | 0, _, _, _, _, _ => none
  | n + 1, x5, x6, x7, x8, σ =>
    if x5 ≤ x8 then
      some (x5, σ)
    else
      if x7 ≤ x6 then
        (F_X12_copy_b173 N (F_X12_copy_b147 N n)) x5 x6 x7 x8 x8 σ
      else
        (F_X12_copy_b173 N (F_X12_copy_b147 N n)) x5 x6 x7 x8 ((x5 - (1 : Int32)) - x8) σ
def F_X12_copy (N : Nat)  (a1 : Int32) (a2 : Int32) (a3 : Int32) (a4 : Int32) (a5 : Int32) (σ : Mem) : Option (Int32 × Mem) :=
  (F_X12_in N a1 (0 : Int32) (3 : Int32) σ).bind (fun q1 =>
  if q1.1 = 0 then
    some ((Int32.ofInt (-2)), q1.2)
  else
    (F_X12_in N a3 (0 : Int32) (3 : Int32) q1.2).bind (fun q2 =>
    if q2.1 = 0 then
      some ((Int32.ofInt (-2)), q2.2)
    else
      if hwOut a1 4 then none else
      if (q2.2.2.2.1 95 0 (a1).toNatClampNeg) = (Int32.ofInt (-1)) then
        some ((Int32.ofInt (-11)), q2.2)
      else
        if hwOut a3 4 then none else
        if (q2.2.2.2.1 95 0 (a3).toNatClampNeg) = (Int32.ofInt (-1)) then
          some ((Int32.ofInt (-11)), q2.2)
        else
          if hwOut a1 4 then none else
          if hwOut a3 4 then none else
          if (q2.2.2.2.1 95 0 (a1).toNatClampNeg) = (q2.2.2.2.1 95 0 (a3).toNatClampNeg) then
            if a5 < 0 then
              some ((Int32.ofInt (-12)), q2.2)
            else
              if a2 < 0 then
                some ((Int32.ofInt (-12)), q2.2)
              else
                if a4 < 0 then
                  some ((Int32.ofInt (-12)), q2.2)
                else
                  if hwOut a1 4 then none else
                  if (q2.2.2.2.1 96 0 (a1).toNatClampNeg) < a2 then
                    some ((Int32.ofInt (-12)), q2.2)
                  else
                    if hwOut a3 4 then none else
                    if (q2.2.2.2.1 96 0 (a3).toNatClampNeg) < a4 then
                      some ((Int32.ofInt (-12)), q2.2)
                    else
                      if hwOut a1 4 then none else
                      if ((q2.2.2.2.1 96 0 (a1).toNatClampNeg) - a2) < a5 then
                        some ((Int32.ofInt (-12)), q2.2)
                      else
                        if hwOut a3 4 then none else
                        if a5 ≤ ((q2.2.2.2.1 96 0 (a3).toNatClampNeg) - a4) then
                          (F_X12_copy_b147 N N) a5 (((40 : Int32) * a1) + a2) (((40 : Int32) * a3) + a4) (0 : Int32) q2.2
                        else
                          some ((Int32.ofInt (-12)), q2.2)
          else
            some ((Int32.ofInt (-13)), q2.2)))
def F_X12_costsTo_b4 (N : Nat)   : Nat → Int32 → Int32 → Int32 → Mem → Option (Int32 × Mem)
  | 0, _, _, _, _ => none
  | n + 1, x1, x2, x3, σ =>
    if x1 < x3 then
      some (x2, σ)
    else
      (F_X12_costOf N x3 σ).bind (fun q1 =>
      (F_X12_costsTo_b4 N n) x1 (x2 + q1.1) (x3 + (1 : Int32)) q1.2)
def F_X12_costsTo (N : Nat)  (a1 : Int32) (σ : Mem) : Option (Int32 × Mem) :=
  (F_X12_costsTo_b4 N N) a1 (0 : Int32) (1 : Int32) σ
def F_X12_count (N : Nat)  (a1 : Int32) (σ : Mem) : Option (Int32 × Mem) :=
  if a1 = 0 then
    some ((σ.1 12 0), σ)
  else
  if a1 = 1 then
    some ((σ.1 12 1), σ)
  else
  if a1 = 2 then
    some ((σ.1 12 2), σ)
  else
  if a1 = 3 then
    some ((σ.1 12 3), σ)
  else
  if a1 = 4 then
    some ((σ.1 12 4), σ)
  else
  if a1 = 5 then
    some ((σ.1 12 5), σ)
  else
  if a1 = 6 then
    some ((σ.1 12 10), σ)
  else
  if a1 = 7 then
    some ((σ.1 12 16), σ)
  else
  if a1 = 8 then
    some ((σ.1 12 20), σ)
  else
  if a1 = 9 then
    some ((σ.1 12 27), σ)
  else
  if a1 = 10 then
    some ((σ.1 12 28), σ)
  else
  if a1 = 11 then
    some ((σ.1 12 24), σ)
  else
  some ((Int32.ofInt (-2)), σ)
def F_X12_dig_b89 (N : Nat)   (x1 : Int32) (σ : Mem) : Option (Int32 × Mem) :=
  if hwOut x1 4 then none else
  some ((σ.2.2.1 77 0 (x1).toNatClampNeg), σ)
def F_X12_dig (N : Nat)  (a1 : Int32) (a2 : Int32) (σ : Mem) : Option (Int32 × Mem) :=
  (F_X12_isPlace N a1 σ).bind (fun q1 =>
  if q1.1 = 0 then
    some ((Int32.ofInt (-1)), q1.2)
  else
    (F_X12_in N a2 (0 : Int32) (3 : Int32) q1.2).bind (fun q2 =>
    if q2.1 = 0 then
      some ((Int32.ofInt (-2)), q2.2)
    else
      if hwOut a1 4 then none else
      if (q2.2.2.2.1 78 0 (a1).toNatClampNeg) = (1 : Int32) then
        some ((Int32.ofInt (-3)), q2.2)
      else
        if hwOut a1 4 then none else
        if (q2.2.2.2.1 77 0 (a1).toNatClampNeg) < (q2.2.1 12 0) then
          if a2 = (3 : Int32) then
            if hwOut a1 4 then none else
            (F_X12_dig_b89 N) a1 (q2.2.1, q2.2.2.1, (hwU3 q2.2.2.2.1 78 0 (a1).toNatClampNeg (1 : Int32)), q2.2.2.2.2.1, q2.2.2.2.2.2)
          else
            if hwOut a1 4 then none else
            if hwOut (((5 : Int32) * a1) + (q2.2.2.2.1 77 0 (a1).toNatClampNeg)) 20 then none else
            if hwOut a1 4 then none else
            if hwOut a1 4 then none else
            (F_X12_dig_b89 N) a1 (q2.2.1, q2.2.2.1, (hwU3 (hwU3 q2.2.2.2.1 79 0 ((((5 : Int32) * a1) + (q2.2.2.2.1 77 0 (a1).toNatClampNeg))).toNatClampNeg a2) 77 0 (a1).toNatClampNeg ((q2.2.2.2.1 77 0 (a1).toNatClampNeg) + (1 : Int32))), q2.2.2.2.2.1, q2.2.2.2.2.2)
        else
          some ((Int32.ofInt (-3)), q2.2)))
def F_X12_doesDig_b50 (N : Nat)  (k55 : Int32 → Int32 → Int32 → Int32 → Int32 → Mem → Option (Int32 × Mem)) (x1 : Int32) (x2 : Int32) (x4 : Int32) (x5 : Int32) (σ : Mem) : Option (Int32 × Mem) :=
  k55 x1 x2 x4 x5 (1 : Int32) σ
def F_X12_doesDig_b55 (N : Nat)   (x1 : Int32) (x2 : Int32) (x4 : Int32) (x5 : Int32) (s0 : Int32) (σ : Mem) : Option (Int32 × Mem) :=
  if hwOut x1 8 then none else
  if (σ.2.2.1 81 0 (x1).toNatClampNeg) = 1 then
    if x5 = 0 ∨ x5 = 1 then some (x5, σ) else none
  else
  if (σ.2.2.1 81 0 (x1).toNatClampNeg) = 2 then
    if s0 = 0 ∨ s0 = 1 then some (s0, σ) else none
  else
  if (σ.2.2.1 81 0 (x1).toNatClampNeg) = 3 then
    (F_X12_goesOn N (x2 + (1 : Int32)) x4 σ).bind (fun q1 =>
    if (lg_cmp q1.1 (0 : Int64)) ≤ 0 then
      some ((0 : Int32), q1.2)
    else
      some ((1 : Int32), q1.2))
  else
  if (σ.2.2.1 81 0 (x1).toNatClampNeg) = 4 then
    if x5 = 0 then
      some ((0 : Int32), σ)
    else
      (F_X12_wetOf N x4 (x2 + (1 : Int32)) σ).bind (fun q2 =>
      if hwOut x1 8 then none else
      if (lg_cmp q2.1 ((100000 : Int64) * (q2.2.2.2.1 83 0 (x1).toNatClampNeg).toInt64)) < 0 then
        some ((0 : Int32), q2.2)
      else
        some ((1 : Int32), q2.2))
  else
  if (σ.2.2.1 81 0 (x1).toNatClampNeg) = 5 then
    if s0 = 0 then
      if x2 = (1 : Int32) then
        some ((1 : Int32), σ)
      else
        some ((0 : Int32), σ)
    else
      some ((1 : Int32), σ)
  else
  some ((0 : Int32), σ)
def F_X12_doesDig_b54 (N : Nat)  (k55 : Int32 → Int32 → Int32 → Int32 → Int32 → Mem → Option (Int32 × Mem)) (x1 : Int32) (x2 : Int32) (x4 : Int32) (x5 : Int32) (σ : Mem) : Option (Int32 × Mem) :=
  k55 x1 x2 x4 x5 (0 : Int32) σ
def F_X12_doesDig_b25 (N : Nat)   (x1 : Int32) (x2 : Int32) (x3 : Int32) (x4 : Int32) (s0 : Int32) (σ : Mem) : Option (Int32 × Mem) :=
  if s0 = 0 then
    (F_X12_doesDig_b54 N (F_X12_doesDig_b55 N)) x1 x2 x4 s0 σ
  else
    if x3 = (Int32.ofInt (-1)) then
      (F_X12_doesDig_b50 N (F_X12_doesDig_b55 N)) x1 x2 x4 s0 σ
    else
      if hwOut x1 8 then none else
      if (((σ.2.2.1 83 0 (x1).toNatClampNeg) >>> (x3 &&& 31)) &&& (1 : Int32)) = 0 then
        (F_X12_doesDig_b50 N (F_X12_doesDig_b55 N)) x1 x2 x4 s0 σ
      else
        (F_X12_doesDig_b54 N (F_X12_doesDig_b55 N)) x1 x2 x4 s0 σ
def F_X12_doesDig (N : Nat)  (a1 : Int32) (a2 : Int32) (a3 : Int32) (a4 : Int32) (σ : Mem) : Option (Int32 × Mem) :=
  if a2 < (σ.1 12 0) then
    if hwOut a1 8 then none else
    if (σ.2.2.1 82 0 (a1).toNatClampNeg) ≤ a2 then
      (F_X12_doesDig_b25 N) a1 a2 a3 a4 (0 : Int32) σ
    else
      (F_X12_doesDig_b25 N) a1 a2 a3 a4 (1 : Int32) σ
  else
    some ((0 : Int32), σ)
def F_X12_digs_b165 (N : Nat) (g0 : Int32 → Int32 → Int32 → Int32 → Int64 → Int32 → Mem → Option (Unit × Mem))  : Nat → Int32 → Int32 → Int32 → Int64 → Int32 → Int32 → Mem → Option (Unit × Mem)
  | 0, _, _, _, _, _, _, _ => none
  | n + 1, x1, x2, x4, x5, x8, x9, σ =>
    if (3 : Int32) ≤ x9 then
      some ((), σ)
    else
      (F_X12_dries N x4 (x2 + (1 : Int32)) x9 σ).bind (fun q5 =>
      if (lg_cmp q5.1 (0 : Int64)) ≤ 0 then
        (F_X12_digs_b165 N g0 n) x1 x2 x4 x5 x8 (x9 + (1 : Int32)) q5.2
      else
        (F_X12_below N x4 q5.1 q5.2).bind (fun q6 =>
        (g0 x1 (x2 + (1 : Int32)) x9 (x4 + (1 : Int32)) ((x5 * q5.1) / (1000000 : Int64)) x8 q6.2).bind (fun q7 =>
        (F_X12_digs_b165 N g0 n) x1 x2 x4 x5 x8 (x9 + (1 : Int32)) q7.2)))
def F_X12_digs_b67 (N : Nat) (g0 : Int32 → Int32 → Int32 → Int32 → Int64 → Int32 → Mem → Option (Unit × Mem))  : Nat → Int32 → Int32 → Int32 → Int64 → Int32 → Int32 → Mem → Option (Unit × Mem)
  | 0, _, _, _, _, _, _, _ => none
  | n + 1, x1, x2, x4, x5, x8, x9, σ =>
    if (σ.1 12 5) ≤ x9 then
      (F_X12_digs_b165 N g0 N) x1 x2 x4 x5 x8 (0 : Int32) σ
    else
      if hwOut (((5 : Int32) * x4) + x9) 40 then none else
      (F_X12_waterOf N (x2 + (1 : Int32)) x9 σ).bind (fun q3 =>
      (F_X12_worthOf N x9 (q3.2.1, (hwU2 (hwU2 q3.2.2.1 12 56 ((q3.2.2.1 12 56) + (((((σ.2.2.2.1 102 0 ((((5 : Int32) * x4) + x9)).toNatClampNeg) * q3.1.toInt64) / (100 : Int64)) * x5) / (1000000 : Int64)))) 12 55 ((q3.2.2.1 12 55) + ((((((σ.2.2.2.1 102 0 ((((5 : Int32) * x4) + x9)).toNatClampNeg) * q3.1.toInt64) / (100 : Int64)) * x5) / (1000000 : Int64)) * x8.toInt64))), q3.2.2.2.1, q3.2.2.2.2.1, q3.2.2.2.2.2)).bind (fun q4 =>
      (F_X12_digs_b67 N g0 n) x1 x2 x4 x5 x8 (x9 + (1 : Int32)) (q4.2.1, (hwU2 q4.2.2.1 12 58 ((q3.2.2.1 12 58) + ((((((σ.2.2.2.1 102 0 ((((5 : Int32) * x4) + x9)).toNatClampNeg) * q3.1.toInt64) / (100 : Int64)) * x5) / (1000000 : Int64)) * q4.1))), q4.2.2.2.1, q4.2.2.2.2.1, q4.2.2.2.2.2)))
def B_X12_digs (N : Nat) (g0 : Int32 → Int32 → Int32 → Int32 → Int64 → Int32 → Mem → Option (Unit × Mem)) (a1 : Int32) (a2 : Int32) (a3 : Int32) (a4 : Int32) (a5 : Int64) (a6 : Int32) (σ : Mem) : Option (Unit × Mem) :=
  (F_X12_doesDig N a1 a2 a3 a4 σ).bind (fun q1 =>
  if q1.1 = 0 then
    if a6 ≤ (q1.2.1 12 3) then
      some ((), (q1.2.1, (hwU2 (hwU2 q1.2.2.1 12 55 ((q1.2.2.1 12 55) + (a5 * a6.toInt64))) 12 57 ((q1.2.2.1 12 57) + (0 : Int64))), q1.2.2.2.1, q1.2.2.2.2.1, q1.2.2.2.2.2))
    else
      some ((), (q1.2.1, (hwU2 (hwU2 q1.2.2.1 12 55 ((q1.2.2.1 12 55) + (a5 * a6.toInt64))) 12 57 ((q1.2.2.1 12 57) + a5)), q1.2.2.2.1, q1.2.2.2.2.1, q1.2.2.2.2.2))
  else
    (F_X12_costOf N (a2 + (1 : Int32)) q1.2).bind (fun q2 =>
    (F_X12_digs_b67 N g0 N) a1 a2 a4 a5 (a6 + q2.1) (0 : Int32) q2.2))
def G_X12_digs (N : Nat) : Nat → (Int32 → Int32 → Int32 → Int32 → Int64 → Int32 → Mem → Option (Unit × Mem))
  | 0 => (fun _ _ _ _ _ _ _ => none)
  | d + 1 => (B_X12_digs N (G_X12_digs N d))
def F_X12_digs (N : Nat) (a1 : Int32) (a2 : Int32) (a3 : Int32) (a4 : Int32) (a5 : Int64) (a6 : Int32) (σ : Mem) : Option (Unit × Mem) := (G_X12_digs N 10) a1 a2 a3 a4 a5 a6 σ
def F_X12_diviner (N : Nat)  (a1 : Int32) (a2 : Int32) (σ : Mem) : Option (Int64 × Mem) :=
  (F_X12_isPlace N a1 σ).bind (fun q1 =>
  if q1.1 = 0 then
    some ((Int64.ofInt (-4611686018427387904)), q1.2)
  else
    (F_X12_in N a2 (0 : Int32) (100 : Int32) q1.2).bind (fun q2 =>
    if q2.1 = 0 then
      some ((Int64.ofInt (-4611686018427387904)), q2.2)
    else
      (F_X12_goesHere N a1 q2.2).bind (fun q3 =>
      if q3.1 = 0 then
        some ((Int64.ofInt (-3)), q3.2)
      else
        (F_X12_divines N a1 a2 q3.2).bind (fun q4 =>
        some (q4.1, q4.2)))))
def F_X12_draws (N : Nat)  (a1 : Int32) (σ : Mem) : Option (Int32 × Mem) :=
  if a1.toInt64 = 0 then none else
  some (((((σ.2.1 12 61) * (48271 : Int64)) - ((σ.2.1 12 61) * (48271 : Int64)) / (2147483647 : Int64) * (2147483647 : Int64)) - (((σ.2.1 12 61) * (48271 : Int64)) - ((σ.2.1 12 61) * (48271 : Int64)) / (2147483647 : Int64) * (2147483647 : Int64)) / a1.toInt64 * a1.toInt64).toInt32, (σ.1, (hwU2 σ.2.1 12 61 (((σ.2.1 12 61) * (48271 : Int64)) - ((σ.2.1 12 61) * (48271 : Int64)) / (2147483647 : Int64) * (2147483647 : Int64))), σ.2.2.1, σ.2.2.2.1, σ.2.2.2.2))
def F_X12_drawsLayer_b36 (N : Nat)   : Nat → Int32 → Int32 → Int32 → Int32 → Int32 → Mem → Option (Int32 × Mem)
  | 0, _, _, _, _, _, _ => none
  | n + 1, x1, x2, x4, x5, x6, σ =>
    if x4 < x6 then
      some (x5, σ)
    else
      if x2 = (Int32.ofInt (-1)) then
        if hwOut (((5 : Int32) * x1) + (x5 + (1 : Int32))) 20 then none else
        (F_X12_drawsLayer_b36 N n) x1 x2 x4 (x5 + (1 : Int32)) (x6 + (σ.2.2.1 76 0 ((((5 : Int32) * x1) + (x5 + (1 : Int32)))).toNatClampNeg)) σ
      else
        if hwOut (((5 : Int32) * x2) + (x5 + (1 : Int32))) 25 then none else
        (F_X12_drawsLayer_b36 N n) x1 x2 x4 (x5 + (1 : Int32)) (x6 + (σ.2.2.1 75 0 ((((5 : Int32) * x2) + (x5 + (1 : Int32)))).toNatClampNeg)) σ
def F_X12_drawsLayer (N : Nat)  (a1 : Int32) (a2 : Int32) (a3 : Int32) (σ : Mem) : Option (Int32 × Mem) :=
  (F_X12_draws N a3 σ).bind (fun q1 =>
  if a2 = (Int32.ofInt (-1)) then
    if hwOut ((5 : Int32) * a1) 20 then none else
    (F_X12_drawsLayer_b36 N N) a1 a2 q1.1 (0 : Int32) (q1.2.2.2.1 76 0 (((5 : Int32) * a1)).toNatClampNeg) q1.2
  else
    if hwOut ((5 : Int32) * a2) 25 then none else
    (F_X12_drawsLayer_b36 N N) a1 a2 q1.1 (0 : Int32) (q1.2.2.2.1 75 0 (((5 : Int32) * a2)).toNatClampNeg) q1.2)
def F_X12_isRule (N : Nat)  (a1 : Int32) (σ : Mem) : Option (Int32 × Mem) :=
  (F_X12_in N a1 (0 : Int32) ((σ.1 12 16) - (1 : Int32)) σ).bind (fun q1 =>
  if q1.1 = 0 ∨ q1.1 = 1 then some (q1.1, q1.2) else none)
def F_X12_drawn_b239 (N : Nat)  (k128 : Int32 → Int32 → Int32 → Int32 → Int32 → Int32 → Int32 → Int32 → Int32 → Mem → Option (Int32 × Mem)) : Nat → Int32 → Int32 → Int32 → Int32 → Int32 → Int32 → Int32 → Int32 → Int32 → Int32 → Mem → Option (Int32 × Mem)
  | 0, _, _, _, _, _, _, _, _, _, _, _ => none
  | n + 1, x1, x2, x4, x6, x7, x8, x9, x10, x11, x14, σ =>
    if (σ.1 12 5) ≤ x14 then
      (F_X12_allBelow N x6 σ).bind (fun q13 =>
      if q13.1 = 0 then
        k128 x1 x2 x4 x6 x7 x8 x9 x10 x11 q13.2
      else
        (F_X12_drawsLayer N x2 x6 q13.1 q13.2).bind (fun q14 =>
        k128 x1 x2 x4 q14.1 x7 x8 x9 x10 x11 q14.2))
    else
      if hwOut ((5 : Int32) + x14) 40 then none else
      if hwOut x14 40 then none else
      (F_X12_drawn_b239 N k128 n) x1 x2 x4 x6 x7 x8 x9 x10 x11 (x14 + (1 : Int32)) (σ.1, σ.2.1, σ.2.2.1, (hwU3 σ.2.2.2.1 102 0 (x14).toNatClampNeg (σ.2.2.2.1 102 0 (((5 : Int32) + x14)).toNatClampNeg)), σ.2.2.2.2)
def F_X12_drawn_b222 (N : Nat)  (k128 : Int32 → Int32 → Int32 → Int32 → Int32 → Int32 → Int32 → Int32 → Int32 → Mem → Option (Int32 × Mem)) (x1 : Int32) (x2 : Int32) (x4 : Int32) (x6 : Int32) (x7 : Int32) (x8 : Int32) (x9 : Int32) (x10 : Int32) (x12 : Int64) (s0 : Int32) (σ : Mem) : Option (Int32 × Mem) :=
  if s0 = 0 then
    k128 x1 x2 x4 x6 x7 x8 x9 x10 s0 σ
  else
    (F_X12_below N (0 : Int32) x12 σ).bind (fun q12 =>
    (F_X12_drawn_b239 N k128 N) x1 x2 x4 x6 x7 x8 x9 x10 s0 (0 : Int32) q12.2)
def F_X12_drawn_b302 (N : Nat)   (x4 : Int32) (x7 : Int32) (x8 : Int32) (x10 : Int32) (σ : Mem) : Option (Int32 × Mem) :=
  if x4 = 0 then
    some (x8, σ)
  else
    if x4 = (1 : Int32) then
      some (x10, σ)
    else
      some (x7, σ)
def F_X12_drawn_b128 (N : Nat)   : Nat → Int32 → Int32 → Int32 → Int32 → Int32 → Int32 → Int32 → Int32 → Int32 → Mem → Option (Int32 × Mem)
  | 0, _, _, _, _, _, _, _, _, _, _ => none
  | n + 1, x1, x2, x4, x6, x7, x8, x9, x10, x11, σ =>
    if x11 = 0 then
      (F_X12_drawn_b302 N) x4 x7 x8 x10 σ
    else
      if x10 = (Int32.ofInt (-1)) then
        (F_X12_doesDig N x1 x7 x9 (0 : Int32) σ).bind (fun q7 =>
        if q7.1 = 0 then
          (F_X12_drawn_b302 N) x4 x7 x8 x10 q7.2
        else
          (F_X12_costOf N (x7 + (1 : Int32)) q7.2).bind (fun q8 =>
          (F_X12_draws N (100 : Int32) q8.2).bind (fun q9 =>
          (F_X12_waterOf N (x7 + (1 : Int32)) x6 q9.2).bind (fun q10 =>
          if q10.1 ≤ q9.1 then
            if hwOut x6 5 then none else
            (F_X12_dries N (0 : Int32) (x7 + (1 : Int32)) (q10.2.2.2.1 74 0 (x6).toNatClampNeg) q10.2).bind (fun q11 =>
            if (lg_cmp q11.1 (0 : Int64)) ≤ 0 then
              (F_X12_drawn_b222 N (F_X12_drawn_b128 N n)) x1 x2 x4 x6 (x7 + (1 : Int32)) (x8 + q8.1) (q10.2.2.2.1 74 0 (x6).toNatClampNeg) x10 q11.1 (0 : Int32) q11.2
            else
              (F_X12_drawn_b222 N (F_X12_drawn_b128 N n)) x1 x2 x4 x6 (x7 + (1 : Int32)) (x8 + q8.1) (q10.2.2.2.1 74 0 (x6).toNatClampNeg) x10 q11.1 (1 : Int32) q11.2)
          else
            (F_X12_drawn_b128 N n) x1 x2 x4 x6 (x7 + (1 : Int32)) (x8 + q8.1) x9 (x7 + (1 : Int32)) x11 q10.2))))
      else
        (F_X12_drawn_b302 N) x4 x7 x8 x10 σ
def F_X12_drawn_b105 (N : Nat)   (x1 : Int32) (x2 : Int32) (x4 : Int32) (s0 : Int32) (σ : Mem) : Option (Int32 × Mem) :=
  (F_X12_begins N x2 (0 : Int32) σ).bind (fun q6 =>
  (F_X12_drawn_b128 N N) x1 x2 x4 s0 (0 : Int32) (0 : Int32) (Int32.ofInt (-1)) (Int32.ofInt (-1)) (1 : Int32) q6.2)
def F_X12_drawn_b57 (N : Nat)   : Nat → Int32 → Int32 → Int32 → Int32 → Int32 → Mem → Option (Int32 × Mem)
  | 0, _, _, _, _, _, _ => none
  | n + 1, x1, x2, x4, x5, x6, σ =>
    if (σ.1 12 5) ≤ x6 then
      if x5 = 0 then
        (F_X12_drawn_b105 N) x1 x2 x4 (0 : Int32) σ
      else
        (F_X12_drawsLayer N x2 (Int32.ofInt (-1)) x5 σ).bind (fun q5 =>
        (F_X12_drawn_b105 N) x1 x2 x4 q5.1 q5.2)
    else
      if hwOut (((5 : Int32) * x2) + x6) 20 then none else
      (F_X12_drawn_b57 N n) x1 x2 x4 (x5 + (σ.2.2.1 76 0 ((((5 : Int32) * x2) + x6)).toNatClampNeg)) (x6 + (1 : Int32)) σ
def F_X12_drawn (N : Nat)  (a1 : Int32) (a2 : Int32) (a3 : Int32) (a4 : Int32) (σ : Mem) : Option (Int32 × Mem) :=
  (F_X12_isRule N a1 σ).bind (fun q1 =>
  if q1.1 = 0 then
    some ((Int32.ofInt (-5)), q1.2)
  else
    (F_X12_isPlace N a2 q1.2).bind (fun q2 =>
    if q2.1 = 0 then
      some ((Int32.ofInt (-5)), q2.2)
    else
      (F_X12_in N a3 (0 : Int32) (99999 : Int32) q2.2).bind (fun q3 =>
      if q3.1 = 0 then
        some ((Int32.ofInt (-7)), q3.2)
      else
        (F_X12_in N a4 (0 : Int32) (2 : Int32) q3.2).bind (fun q4 =>
        if q4.1 = 0 then
          some ((Int32.ofInt (-7)), q4.2)
        else
          (F_X12_drawn_b57 N N) a1 a2 a4 (0 : Int32) (0 : Int32) (q4.2.1, (hwU2 q4.2.2.1 12 61 (a3.toInt64 + (1 : Int64))), q4.2.2.2.1, q4.2.2.2.2.1, q4.2.2.2.2.2)))))
def F_X12_letters_b59 (N : Nat)  (k4 : Int64 → Int32 → Mem → Option (Int64 × Mem)) (x3 : Int32) (s0 : Int64) (σ : Mem) : Option (Int64 × Mem) :=
  k4 s0 (x3 + (1 : Int32)) ((hwU2 σ.1 12 42 ((σ.1 12 42) + (1 : Int32))), σ.2.1, σ.2.2.1, σ.2.2.2.1, σ.2.2.2.2)
def F_X12_letters_b76 (N : Nat)   (x1 : Int64) (x3 : Int32) (σ : Mem) : Option (Int64 × Mem) :=
  if x3 ≤ (6 : Int32) then
    some (x1, σ)
  else
    some ((0 : Int64), σ)
def F_X12_letters_b4 (N : Nat)   : Nat → Int64 → Int32 → Mem → Option (Int64 × Mem)
  | 0, _, _, _ => none
  | n + 1, x1, x3, σ =>
    if (σ.1 12 24) ≤ (σ.1 12 42) then
      (F_X12_letters_b76 N) x1 x3 σ
    else
      if hwOut (σ.1 12 42) 160 then none else
      (F_X12_in N (σ.2.2.1 86 0 ((σ.1 12 42)).toNatClampNeg) (97 : Int32) (122 : Int32) σ).bind (fun q1 =>
      if q1.1 = 0 then
        (F_X12_letters_b76 N) x1 x3 q1.2
      else
        if (8 : Int32) ≤ x3 then
          (F_X12_letters_b59 N (F_X12_letters_b4 N n)) x3 x1 q1.2
        else
          if hwOut (q1.2.1 12 42) 160 then none else
          (F_X12_letters_b59 N (F_X12_letters_b4 N n)) x3 ((x1 <<< (((8 : Int32)).toInt64 &&& 63)) ||| (q1.2.2.2.1 86 0 ((q1.2.1 12 42)).toNatClampNeg).toInt64) q1.2)
def F_X12_letters (N : Nat)   (σ : Mem) : Option (Int64 × Mem) :=
  (F_X12_letters_b4 N N) (0 : Int64) (0 : Int32) σ
def F_X12_nextToken_b176 (N : Nat)   (x4 : Int32) (s0 : Int32) (σ : Mem) : Option (Unit × Mem) :=
  if (3 : Int32) ≤ x4 then
    some ((), ((hwU2 (hwU2 σ.1 12 44 s0) 12 45 (x4 - (3 : Int32))), σ.2.1, σ.2.2.1, σ.2.2.2.1, σ.2.2.2.2))
  else
    some ((), ((hwU2 (hwU2 σ.1 12 44 s0) 12 45 x4), σ.2.1, σ.2.2.1, σ.2.2.2.1, σ.2.2.2.2))
def F_X12_nextToken_b136 (N : Nat)   (x4 : Int32) (σ : Mem) : Option (Unit × Mem) :=
  if (3 : Int32) ≤ x4 then
    if (9 : Int32) ≤ x4 then
      if x4 = (12 : Int32) then
        (F_X12_nextToken_b176 N) x4 (Int32.ofInt (-1)) σ
      else
        (F_X12_nextToken_b176 N) x4 (((4 : Int32) + x4) - (9 : Int32)) σ
    else
      (F_X12_nextToken_b176 N) x4 (2 : Int32) σ
  else
    (F_X12_nextToken_b176 N) x4 (3 : Int32) σ
def F_X12_nextToken_b111 (N : Nat)   : Nat → Int64 → Int32 → Mem → Option (Unit × Mem)
  | 0, _, _, _ => none
  | n + 1, x2, x4, σ =>
    if (12 : Int32) ≤ x4 then
      (F_X12_nextToken_b136 N) x4 σ
    else
      if hwOut x4 12 then none else
      if (lg_cmp (σ.2.2.2.1 98 0 (x4).toNatClampNeg) x2) = 0 then
        (F_X12_nextToken_b136 N) x4 σ
      else
        (F_X12_nextToken_b111 N n) x2 (x4 + (1 : Int32)) σ
def F_X12_nextToken_b274 (N : Nat)  (k214 : Int32 → Mem → Option (Unit × Mem)) (x2 : Int32) (s0 : Int32) (σ : Mem) : Option (Unit × Mem) :=
  k214 (x2 + (1 : Int32)) ((hwU2 (hwU2 σ.1 12 45 s0) 12 42 ((σ.1 12 42) + (1 : Int32))), σ.2.1, σ.2.2.1, σ.2.2.2.1, σ.2.2.2.2)
def F_X12_nextToken_b293 (N : Nat)   (x2 : Int32) (σ : Mem) : Option (Unit × Mem) :=
  if x2 ≤ (4 : Int32) then
    some ((), ((hwU2 σ.1 12 44 (1 : Int32)), σ.2.1, σ.2.2.1, σ.2.2.2.1, σ.2.2.2.2))
  else
    some ((), ((hwU2 σ.1 12 44 (Int32.ofInt (-1))), σ.2.1, σ.2.2.1, σ.2.2.2.1, σ.2.2.2.2))
def F_X12_nextToken_b214 (N : Nat)   : Nat → Int32 → Mem → Option (Unit × Mem)
  | 0, _, _ => none
  | n + 1, x2, σ =>
    if (σ.1 12 24) ≤ (σ.1 12 42) then
      (F_X12_nextToken_b293 N) x2 σ
    else
      if hwOut (σ.1 12 42) 160 then none else
      (F_X12_in N (σ.2.2.1 86 0 ((σ.1 12 42)).toNatClampNeg) (48 : Int32) (57 : Int32) σ).bind (fun q4 =>
      if q4.1 = 0 then
        (F_X12_nextToken_b293 N) x2 q4.2
      else
        if (4 : Int32) ≤ x2 then
          (F_X12_nextToken_b274 N (F_X12_nextToken_b214 N n)) x2 (0 : Int32) q4.2
        else
          if hwOut (q4.2.1 12 42) 160 then none else
          (F_X12_nextToken_b274 N (F_X12_nextToken_b214 N n)) x2 ((((10 : Int32) * (q4.2.1 12 45)) + (q4.2.2.2.1 86 0 ((q4.2.1 12 42)).toNatClampNeg)) - (48 : Int32)) q4.2)
def F_X12_nextToken_b363 (N : Nat)   (x1 : Int32) (s0 : Int32) (σ : Mem) : Option (Unit × Mem) :=
  if s0 = 0 then
    some ((), ((hwU2 (hwU2 σ.1 12 44 (Int32.ofInt (-1))) 12 42 ((σ.1 12 42) + (1 : Int32))), σ.2.1, σ.2.2.1, σ.2.2.2.1, σ.2.2.2.2))
  else
    some ((), ((hwU2 (hwU2 σ.1 12 44 x1) 12 42 ((σ.1 12 42) + (1 : Int32))), σ.2.1, σ.2.2.1, σ.2.2.2.1, σ.2.2.2.2))
def F_X12_nextToken_b358 (N : Nat)  (k363 : Int32 → Int32 → Mem → Option (Unit × Mem)) (x1 : Int32) (σ : Mem) : Option (Unit × Mem) :=
  k363 x1 (1 : Int32) σ
def F_X12_nextToken_b52 (N : Nat)    (σ : Mem) : Option (Unit × Mem) :=
  if (σ.1 12 42) = (σ.1 12 24) then
    some ((), ((hwU2 (hwU2 (hwU2 σ.1 12 43 (σ.1 12 42)) 12 44 (0 : Int32)) 12 45 (0 : Int32)), σ.2.1, σ.2.2.1, σ.2.2.2.1, σ.2.2.2.2))
  else
    if hwOut (σ.1 12 42) 160 then none else
    (F_X12_in N (σ.2.2.1 86 0 ((σ.1 12 42)).toNatClampNeg) (97 : Int32) (122 : Int32) ((hwU2 (hwU2 (hwU2 σ.1 12 43 (σ.1 12 42)) 12 44 (0 : Int32)) 12 45 (0 : Int32)), σ.2.1, σ.2.2.1, σ.2.2.2.1, σ.2.2.2.2)).bind (fun q1 =>
    if q1.1 = 0 then
      (F_X12_in N (σ.2.2.1 86 0 ((σ.1 12 42)).toNatClampNeg) (48 : Int32) (57 : Int32) q1.2).bind (fun q2 =>
      if q2.1 = 0 then
        if (σ.2.2.1 86 0 ((σ.1 12 42)).toNatClampNeg) = (40 : Int32) then
          (F_X12_nextToken_b358 N (F_X12_nextToken_b363 N)) (σ.2.2.1 86 0 ((σ.1 12 42)).toNatClampNeg) q2.2
        else
          if (σ.2.2.1 86 0 ((σ.1 12 42)).toNatClampNeg) = (41 : Int32) then
            (F_X12_nextToken_b358 N (F_X12_nextToken_b363 N)) (σ.2.2.1 86 0 ((σ.1 12 42)).toNatClampNeg) q2.2
          else
            if (σ.2.2.1 86 0 ((σ.1 12 42)).toNatClampNeg) = (59 : Int32) then
              (F_X12_nextToken_b358 N (F_X12_nextToken_b363 N)) (σ.2.2.1 86 0 ((σ.1 12 42)).toNatClampNeg) q2.2
            else
              if (σ.2.2.1 86 0 ((σ.1 12 42)).toNatClampNeg) = (43 : Int32) then
                (F_X12_nextToken_b358 N (F_X12_nextToken_b363 N)) (σ.2.2.1 86 0 ((σ.1 12 42)).toNatClampNeg) q2.2
              else
                if (σ.2.2.1 86 0 ((σ.1 12 42)).toNatClampNeg) = (45 : Int32) then
                  (F_X12_nextToken_b358 N (F_X12_nextToken_b363 N)) (σ.2.2.1 86 0 ((σ.1 12 42)).toNatClampNeg) q2.2
                else
                  if (σ.2.2.1 86 0 ((σ.1 12 42)).toNatClampNeg) = (42 : Int32) then
                    (F_X12_nextToken_b358 N (F_X12_nextToken_b363 N)) (σ.2.2.1 86 0 ((σ.1 12 42)).toNatClampNeg) q2.2
                  else
                    if (σ.2.2.1 86 0 ((σ.1 12 42)).toNatClampNeg) = (60 : Int32) then
                      (F_X12_nextToken_b358 N (F_X12_nextToken_b363 N)) (σ.2.2.1 86 0 ((σ.1 12 42)).toNatClampNeg) q2.2
                    else
                      if (σ.2.2.1 86 0 ((σ.1 12 42)).toNatClampNeg) = (61 : Int32) then
                        (F_X12_nextToken_b358 N (F_X12_nextToken_b363 N)) (σ.2.2.1 86 0 ((σ.1 12 42)).toNatClampNeg) q2.2
                      else
                        (F_X12_nextToken_b363 N) (σ.2.2.1 86 0 ((σ.1 12 42)).toNatClampNeg) (0 : Int32) q2.2
      else
        (F_X12_nextToken_b214 N N) (0 : Int32) q2.2)
    else
      (F_X12_letters N q1.2).bind (fun q3 =>
      (F_X12_nextToken_b111 N N) q3.1 (0 : Int32) q3.2))
def F_X12_nextToken_b0 (N : Nat)   : Nat → Mem → Option (Unit × Mem)
  | 0, _ => none
  | n + 1, σ =>
    if (σ.1 12 24) ≤ (σ.1 12 42) then
      (F_X12_nextToken_b52 N) σ
    else
      if hwOut (σ.1 12 42) 160 then none else
      if (σ.2.2.1 86 0 ((σ.1 12 42)).toNatClampNeg) = (32 : Int32) then
        (F_X12_nextToken_b0 N n) ((hwU2 σ.1 12 42 ((σ.1 12 42) + (1 : Int32))), σ.2.1, σ.2.2.1, σ.2.2.2.1, σ.2.2.2.2)
      else
        if hwOut (σ.1 12 42) 160 then none else
        if (σ.2.2.1 86 0 ((σ.1 12 42)).toNatClampNeg) = (10 : Int32) then
          (F_X12_nextToken_b0 N n) ((hwU2 σ.1 12 42 ((σ.1 12 42) + (1 : Int32))), σ.2.1, σ.2.2.1, σ.2.2.2.1, σ.2.2.2.2)
        else
          (F_X12_nextToken_b52 N) σ
def F_X12_nextToken (N : Nat)   (σ : Mem) : Option (Unit × Mem) :=
  (F_X12_nextToken_b0 N N) σ
def F_X12_opensOne (N : Nat)  (a1 : Int32) (σ : Mem) : Option (Int32 × Mem) :=
  if (σ.1 12 49) = (5 : Int32) then
    some ((0 : Int32), σ)
  else
    (F_X12_holds_ N a1 ((hwU2 σ.1 12 49 ((σ.1 12 49) + (1 : Int32))), σ.2.1, σ.2.2.1, σ.2.2.2.1, σ.2.2.2.2)).bind (fun q1 =>
    some ((1 : Int32), q1.2))
def F_X12_signOf (N : Nat)   (σ : Mem) : Option (Int32 × Mem) :=
  if (σ.1 12 44) = (4 : Int32) then
    some ((11 : Int32), σ)
  else
    if (σ.1 12 44) = (5 : Int32) then
      some ((12 : Int32), σ)
    else
      if (σ.1 12 44) = (60 : Int32) then
        some ((14 : Int32), σ)
      else
        if (σ.1 12 44) = (61 : Int32) then
          some ((15 : Int32), σ)
        else
          if (σ.1 12 44) = (43 : Int32) then
            some ((16 : Int32), σ)
          else
            if (σ.1 12 44) = (45 : Int32) then
              some ((17 : Int32), σ)
            else
              if (σ.1 12 44) = (42 : Int32) then
                some ((18 : Int32), σ)
              else
                some ((Int32.ofInt (-1)), σ)
def F_X12_eRead_b99 (N : Nat)  (k14 : Int32 → Int32 → Mem → Option (Int32 × Mem)) (x1 : Int32) (σ : Mem) : Option (Int32 × Mem) :=
  if (σ.1 12 44) = (45 : Int32) then
    (F_X12_opensOne N (19 : Int32) σ).bind (fun q8 =>
    if q8.1 = 0 then
      some ((0 : Int32), q8.2)
    else
      k14 x1 (0 : Int32) q8.2)
  else
    if (σ.1 12 44) = (40 : Int32) then
      (F_X12_opensOne N (0 : Int32) σ).bind (fun q9 =>
      if q9.1 = 0 then
        some ((0 : Int32), q9.2)
      else
        k14 x1 (1 : Int32) q9.2)
    else
      some ((0 : Int32), σ)
def F_X12_eRead_b61 (N : Nat)  (k14 : Int32 → Int32 → Mem → Option (Int32 × Mem)) (x2 : Int32) (s0 : Int32) (σ : Mem) : Option (Int32 × Mem) :=
  (F_X12_puts N s0 σ).bind (fun q10 =>
  (F_X12_unwinds N (7 : Int32) q10.2).bind (fun q11 =>
  k14 (0 : Int32) x2 q11.2))
def F_X12_eRead_b38 (N : Nat)  (k14 : Int32 → Int32 → Mem → Option (Int32 × Mem)) (x2 : Int32) (σ : Mem) : Option (Int32 × Mem) :=
  if (σ.1 12 44) = (1 : Int32) then
    (F_X12_eRead_b61 N k14) x2 ((100000 : Int32) + (σ.1 12 45)) σ
  else
    (F_X12_eRead_b61 N k14) x2 (σ.1 12 45) σ
def F_X12_eRead_b14 (N : Nat)   : Nat → Int32 → Int32 → Mem → Option (Int32 × Mem)
  | 0, _, _, _ => none
  | n + 1, x1, x2, σ =>
    (F_X12_nextToken N σ).bind (fun q1 =>
    if x1 = 0 then
      if (q1.2.1 12 44) = (59 : Int32) then
        (F_X12_unwinds N (1 : Int32) q1.2).bind (fun q2 =>
        if (q2.2.1 12 48) = 0 then
          some ((1 : Int32), q2.2)
        else
          some ((0 : Int32), q2.2))
      else
        if (q1.2.1 12 44) = (41 : Int32) then
          (F_X12_unwinds N (1 : Int32) q1.2).bind (fun q3 =>
          if (q3.2.1 12 48) = 0 then
            some ((0 : Int32), q3.2)
          else
            (F_X12_unwinds N (7 : Int32) ((hwU2 (hwU2 q3.2.1 12 48 ((q3.2.1 12 48) - (1 : Int32))) 12 49 ((q3.2.1 12 49) - (1 : Int32))), q3.2.2.1, q3.2.2.2.1, q3.2.2.2.2.1, q3.2.2.2.2.2)).bind (fun q4 =>
            (F_X12_eRead_b14 N n) x1 x2 q4.2))
        else
          (F_X12_signOf N q1.2).bind (fun q5 =>
          if q5.1 = (Int32.ofInt (-1)) then
            some ((0 : Int32), q5.2)
          else
            (F_X12_between N q5.1 q5.2).bind (fun q6 =>
            if q6.1 = 0 then
              some ((0 : Int32), q6.2)
            else
              if (12 : Int32) < q5.1 then
                (F_X12_eRead_b14 N n) (1 : Int32) (0 : Int32) q6.2
              else
                (F_X12_eRead_b14 N n) (1 : Int32) (1 : Int32) q6.2))
    else
      if (q1.2.1 12 44) = (1 : Int32) then
        (F_X12_eRead_b38 N (F_X12_eRead_b14 N n)) x2 q1.2
      else
        if (q1.2.1 12 44) = (2 : Int32) then
          (F_X12_eRead_b38 N (F_X12_eRead_b14 N n)) x2 q1.2
        else
          if (q1.2.1 12 44) = (6 : Int32) then
            if x2 = 0 then
              (F_X12_eRead_b99 N (F_X12_eRead_b14 N n)) x1 q1.2
            else
              (F_X12_opensOne N (13 : Int32) q1.2).bind (fun q7 =>
              if q7.1 = 0 then
                some ((0 : Int32), q7.2)
              else
                (F_X12_eRead_b14 N n) x1 x2 q7.2)
          else
            (F_X12_eRead_b99 N (F_X12_eRead_b14 N n)) x1 q1.2)
def F_X12_eRead (N : Nat)   (σ : Mem) : Option (Int32 × Mem) :=
  (F_X12_eRead_b14 N N) (1 : Int32) (1 : Int32) ((hwU2 (hwU2 σ.1 12 48 (0 : Int32)) 12 49 (0 : Int32)), σ.2.1, σ.2.2.1, σ.2.2.2.1, σ.2.2.2.2)
def F_X12_fallen_b30 (N : Nat)  (k7 : Int32 → Int32 → Int64 → Int32 → Mem → Option (Int64 × Mem)) (x1 : Int32) (x2 : Int32) (x5 : Int32) (s0 : Int32) (s1 : Int32) (s3 : Int32) (s4 : Int64) (σ : Mem) : Option (Int64 × Mem) :=
  (F_X12_fallOf N s1 s0 σ).bind (fun q1 =>
  k7 x1 x2 ((s4 * (s3 - q1.1).toInt64) / (100 : Int64)) (x5 + (1 : Int32)) q1.2)
def F_X12_fallen_b7 (N : Nat)   : Nat → Int32 → Int32 → Int64 → Int32 → Mem → Option (Int64 × Mem)
  | 0, _, _, _, _, _ => none
  | n + 1, x1, x2, x3, x5, σ =>
    if x1 < x5 then
      some (((1000000 : Int64) - x3), σ)
    else
      if x5 ≤ x2 then
        (F_X12_fallen_b30 N (F_X12_fallen_b7 N n)) x1 x2 x5 (0 : Int32) x5 (100 : Int32) x3 σ
      else
        (F_X12_fallen_b30 N (F_X12_fallen_b7 N n)) x1 x2 x5 (1 : Int32) x5 (100 : Int32) x3 σ
def F_X12_fallen (N : Nat)  (a1 : Int32) (a2 : Int32) (σ : Mem) : Option (Int64 × Mem) :=
  (F_X12_fallen_b7 N N) a1 a2 (1000000 : Int64) (1 : Int32) σ
def F_X12_fall (N : Nat)  (a1 : Int32) (a2 : Int32) (σ : Mem) : Option (Int64 × Mem) :=
  (F_X12_in N a1 (0 : Int32) (5 : Int32) σ).bind (fun q1 =>
  if q1.1 = 0 then
    some ((Int64.ofInt (-4611686018427387904)), q1.2)
  else
    (F_X12_in N a2 (0 : Int32) (5 : Int32) q1.2).bind (fun q2 =>
    if q2.1 = 0 then
      some ((Int64.ofInt (-4611686018427387904)), q2.2)
    else
      (F_X12_fallen N a1 a2 q2.2).bind (fun q3 =>
      some (q3.1, q3.2))))
def F_X12_far_b44 (N : Nat)   : Nat → Int32 → Int32 → Int32 → Int64 → Int32 → Mem → Option (Int32 × Mem)
  | 0, _, _, _, _, _, _ => none
  | n + 1, x1, x2, x3, x4, x6, σ =>
    if (5 : Int32) < x6 then
      some (x3, σ)
    else
      (F_X12_boreOf N x1 x6 σ).bind (fun q4 =>
      if x6 = 0 then
        (F_X12_far_b44 N n) x1 x2 x6 (q4.1 - ((x6.toInt64 * (1000000 : Int64)) * x2.toInt64)) (x6 + (1 : Int32)) q4.2
      else
        if (lg_cmp (q4.1 - ((x6.toInt64 * (1000000 : Int64)) * x2.toInt64)) x4) ≤ 0 then
          (F_X12_far_b44 N n) x1 x2 x3 x4 (x6 + (1 : Int32)) q4.2
        else
          (F_X12_far_b44 N n) x1 x2 x6 (q4.1 - ((x6.toInt64 * (1000000 : Int64)) * x2.toInt64)) (x6 + (1 : Int32)) q4.2)
def F_X12_far (N : Nat)  (a1 : Int32) (a2 : Int32) (σ : Mem) : Option (Int32 × Mem) :=
  (F_X12_isPlace N a1 σ).bind (fun q1 =>
  if q1.1 = 0 then
    some ((Int32.ofInt (-5)), q1.2)
  else
    (F_X12_in N a2 (0 : Int32) (999 : Int32) q1.2).bind (fun q2 =>
    if q2.1 = 0 then
      some ((Int32.ofInt (-7)), q2.2)
    else
      (F_X12_goesHere N a1 q2.2).bind (fun q3 =>
      if q3.1 = 0 then
        some ((Int32.ofInt (-3)), q3.2)
      else
        (F_X12_far_b44 N N) a1 a2 (0 : Int32) (0 : Int64) (0 : Int32) q3.2)))
def F_X12_farm (N : Nat)  (a1 : Int32) (a2 : Int32) (σ : Mem) : Option (Int32 × Mem) :=
  (F_X12_in N a1 (0 : Int32) (99 : Int32) σ).bind (fun q1 =>
  if q1.1 = 0 then
    some ((Int32.ofInt (-2)), q1.2)
  else
    (F_X12_in N a2 (1 : Int32) (99 : Int32) q1.2).bind (fun q2 =>
    if q2.1 = 0 then
      some ((Int32.ofInt (-2)), q2.2)
    else
      if (q2.2.1 12 20) = (6 : Int32) then
        some ((Int32.ofInt (-4)), q2.2)
      else
        if hwOut (q2.2.1 12 20) 6 then none else
        if hwOut (q2.2.1 12 20) 6 then none else
        some ((((q2.2.1 12 20) + (1 : Int32)) - (1 : Int32)), ((hwU2 q2.2.1 12 20 ((q2.2.1 12 20) + (1 : Int32))), q2.2.2.1, (hwU3 (hwU3 q2.2.2.2.1 84 0 ((q2.2.1 12 20)).toNatClampNeg a1) 85 0 ((q2.2.1 12 20)).toNatClampNeg a2), q2.2.2.2.2.1, q2.2.2.2.2.2))))
def F_X12_feed_b33 (N : Nat)   : Nat → Int64 → Int32 → Mem → Option (Int32 × Mem)
  | 0, _, _, _ => none
  | n + 1, x1, x4, σ =>
    if x4 < 0 then
      some ((σ.1 12 24), σ)
    else
      if hwOut (σ.1 12 24) 160 then none else
      (F_X12_feed_b33 N n) x1 (x4 + (Int32.ofInt (-1))) ((hwU2 σ.1 12 24 ((σ.1 12 24) + (1 : Int32))), σ.2.1, (hwU3 σ.2.2.1 86 0 ((σ.1 12 24)).toNatClampNeg ((x1 >>> ((((8 : Int32) * x4)).toInt64 &&& 63)) &&& (255 : Int64)).toInt32), σ.2.2.2.1, σ.2.2.2.2)
def F_X12_feed (N : Nat)  (a1 : Int64) (a2 : Int32) (σ : Mem) : Option (Int32 × Mem) :=
  (F_X12_in N a2 (1 : Int32) (8 : Int32) σ).bind (fun q1 =>
  if q1.1 = 0 then
    some ((Int32.ofInt (-2)), q1.2)
  else
    if ((q1.2.1 12 24) + a2) ≤ (160 : Int32) then
      (F_X12_feed_b33 N N) a1 (a2 - (1 : Int32)) q1.2
    else
      some ((Int32.ofInt (-4)), q1.2))
def F_X12_fill (N : Nat)  (a1 : Int32) (σ : Mem) : Option (Int32 × Mem) :=
  (F_X12_isPlace N a1 σ).bind (fun q1 =>
  if q1.1 = 0 then
    some ((Int32.ofInt (-1)), q1.2)
  else
    if hwOut a1 4 then none else
    if hwOut a1 4 then none else
    if hwOut a1 4 then none else
    some ((q1.2.2.2.1 77 0 (a1).toNatClampNeg), (q1.2.1, q1.2.2.1, (hwU3 (hwU3 q1.2.2.2.1 77 0 (a1).toNatClampNeg (0 : Int32)) 78 0 (a1).toNatClampNeg (0 : Int32)), q1.2.2.2.2.1, q1.2.2.2.2.2)))
def F_X12_findsWell_b23 (N : Nat)  (k12 : Int32 → Int32 → Mem → Option (Unit × Mem)) : Nat → Int32 → Int32 → Int32 → Int32 → Mem → Option (Unit × Mem)
  | 0, _, _, _, _, _ => none
  | n + 1, x1, x2, x3, x4, σ =>
    if (σ.1 12 20) ≤ x4 then
      if (σ.1 12 59) = (Int32.ofInt (-1)) then
        k12 x1 (x2 + (1 : Int32)) ((hwU2 (hwU2 σ.1 12 59 x2) 12 60 x3), σ.2.1, σ.2.2.1, σ.2.2.2.1, σ.2.2.2.2)
      else
        if (σ.1 12 60) ≤ x3 then
          k12 x1 (x2 + (1 : Int32)) σ
        else
          k12 x1 (x2 + (1 : Int32)) ((hwU2 (hwU2 σ.1 12 59 x2) 12 60 x3), σ.2.1, σ.2.2.1, σ.2.2.2.1, σ.2.2.2.2)
    else
      if ((x1 >>> (x4 &&& 31)) &&& (1 : Int32)) = 0 then
        (F_X12_findsWell_b23 N k12 n) x1 x2 (x3 + (0 : Int32)) (x4 + (1 : Int32)) σ
      else
        if hwOut x4 6 then none else
        if hwOut x4 6 then none else
        if (σ.2.2.1 84 0 (x4).toNatClampNeg) ≤ x2 then
          if hwOut x4 6 then none else
          (F_X12_findsWell_b23 N k12 n) x1 x2 (x3 + ((σ.2.2.1 85 0 (x4).toNatClampNeg) * (x2 - (σ.2.2.1 84 0 (x4).toNatClampNeg)))) (x4 + (1 : Int32)) σ
        else
          if hwOut x4 6 then none else
          (F_X12_findsWell_b23 N k12 n) x1 x2 (x3 + ((σ.2.2.1 85 0 (x4).toNatClampNeg) * ((σ.2.2.1 84 0 (x4).toNatClampNeg) - x2))) (x4 + (1 : Int32)) σ
def F_X12_findsWell_b12 (N : Nat)   : Nat → Int32 → Int32 → Mem → Option (Unit × Mem)
  | 0, _, _, _ => none
  | n + 1, x1, x2, σ =>
    if (100 : Int32) ≤ x2 then
      some ((), σ)
    else
      (F_X12_findsWell_b23 N (F_X12_findsWell_b12 N n) N) x1 x2 (0 : Int32) (0 : Int32) σ
def F_X12_findsWell (N : Nat)  (a1 : Int32) (σ : Mem) : Option (Unit × Mem) :=
  (F_X12_findsWell_b12 N N) a1 (0 : Int32) ((hwU2 (hwU2 σ.1 12 59 (Int32.ofInt (-1))) 12 60 (0 : Int32)), σ.2.1, σ.2.2.1, σ.2.2.2.1, σ.2.2.2.2)
def F_X12_first (N : Nat)  (a1 : Int32) (a2 : Int32) (a3 : Int32) (a4 : Int32) (a5 : Int32) (σ : Mem) : Option (Unit × Mem) :=
  if hwOut a1 1200 then none else
  if hwOut (a1 + (1 : Int32)) 1200 then none else
  if hwOut (a1 + (2 : Int32)) 1200 then none else
  if hwOut (a1 + (3 : Int32)) 1200 then none else
  some ((), (σ.1, σ.2.1, (hwU3 (hwU3 (hwU3 (hwU3 σ.2.2.1 87 0 (a1).toNatClampNeg a2) 87 0 ((a1 + (1 : Int32))).toNatClampNeg a3) 87 0 ((a1 + (2 : Int32))).toNatClampNeg a4) 87 0 ((a1 + (3 : Int32))).toNatClampNeg a5), σ.2.2.2.1, σ.2.2.2.2))
def F_X12_learns_b92 (N : Nat)  (k17 : Int32 → Int64 → Int32 → Int32 → Mem → Option (Int64 × Mem)) : Nat → Int32 → Int64 → Int32 → Int32 → Int64 → Int64 → Int32 → Int32 → Mem → Option (Int64 × Mem)
  | 0, _, _, _, _, _, _, _, _, _ => none
  | n + 1, x1, x2, x4, x5, x6, x8, x10, x11, σ =>
    if (σ.1 12 5) ≤ x11 then
      (F_X12_valueOf N (1 : Int32) (0 : Int32) σ).bind (fun q6 =>
      k17 x1 (x2 + ((x6 * (q6.1 - x8)) / (1000000 : Int64))) x4 (x5 + (1 : Int32)) q6.2)
    else
      if hwOut x11 40 then none else
      if hwOut ((30 : Int32) + x11) 40 then none else
      if x6 = 0 then none else
      if hwOut x11 40 then none else
      (F_X12_learns_b92 N k17 n) x1 x2 x4 x5 x6 x8 x10 (x11 + (1 : Int32)) (σ.1, σ.2.1, σ.2.2.1, (hwU3 σ.2.2.2.1 102 0 (x11).toNatClampNeg ((((σ.2.2.2.1 102 0 (x11).toNatClampNeg) * ((100 : Int32) - x10).toInt64) + ((((σ.2.2.2.1 103 0 (((30 : Int32) + x11)).toNatClampNeg) * (1000000 : Int64)) / x6) * x10.toInt64)) / (100 : Int64))), σ.2.2.2.2)
def F_X12_learns_b17 (N : Nat)  (k5 : Int32 → Int64 → Int32 → Mem → Option (Int64 × Mem)) : Nat → Int32 → Int64 → Int32 → Int32 → Mem → Option (Int64 × Mem)
  | 0, _, _, _, _, _ => none
  | n + 1, x1, x2, x4, x5, σ =>
    if (3 : Int32) ≤ x5 then
      k5 x1 x2 (x4 + (1 : Int32)) σ
    else
      if x4 = x1 then
        k5 x1 x2 (x4 + (1 : Int32)) σ
      else
        (F_X12_begins N x1 (6 : Int32) σ).bind (fun q1 =>
        (F_X12_dries N (6 : Int32) (1 : Int32) x5 q1.2).bind (fun q2 =>
        if (lg_cmp q2.1 (0 : Int64)) ≤ 0 then
          (F_X12_learns_b17 N k5 n) x1 x2 x4 (x5 + (1 : Int32)) q2.2
        else
          (F_X12_begins N x4 (0 : Int32) q2.2).bind (fun q3 =>
          (F_X12_valueOf N (1 : Int32) (0 : Int32) q3.2).bind (fun q4 =>
          (F_X12_begins N x4 (0 : Int32) q4.2).bind (fun q5 =>
          if hwOut (((4 : Int32) * x1) + x4) 16 then none else
          (F_X12_learns_b92 N (F_X12_learns_b17 N k5 n) N) x1 x2 x4 x5 q2.1 q4.1 (q5.2.2.2.1 80 0 ((((4 : Int32) * x1) + x4)).toNatClampNeg) (0 : Int32) q5.2)))))
def F_X12_learns_b5 (N : Nat)   : Nat → Int32 → Int64 → Int32 → Mem → Option (Int64 × Mem)
  | 0, _, _, _, _ => none
  | n + 1, x1, x2, x4, σ =>
    if (σ.1 12 10) ≤ x4 then
      some (x2, σ)
    else
      (F_X12_learns_b17 N (F_X12_learns_b5 N n) N) x1 x2 x4 (0 : Int32) σ
def F_X12_learns (N : Nat)  (a1 : Int32) (σ : Mem) : Option (Int64 × Mem) :=
  (F_X12_learns_b5 N N) a1 (0 : Int64) (0 : Int32) σ
def F_X12_first__b7 (N : Nat)   : Nat → Int32 → Int64 → Int32 → Mem → Option (Int32 × Mem)
  | 0, _, _, _, _ => none
  | n + 1, x1, x2, x4, σ =>
    if (σ.1 12 10) ≤ x4 then
      some (x1, σ)
    else
      (F_X12_learns N x4 σ).bind (fun q1 =>
      (F_X12_begins N x4 (0 : Int32) q1.2).bind (fun q2 =>
      (F_X12_valueOf N (1 : Int32) (0 : Int32) q2.2).bind (fun q3 =>
      if x1 = (Int32.ofInt (-1)) then
        (F_X12_first__b7 N n) x4 (q1.1 + q3.1) (x4 + (1 : Int32)) q3.2
      else
        if (lg_cmp (q1.1 + q3.1) x2) ≤ 0 then
          (F_X12_first__b7 N n) x1 x2 (x4 + (1 : Int32)) q3.2
        else
          (F_X12_first__b7 N n) x4 (q1.1 + q3.1) (x4 + (1 : Int32)) q3.2)))
def F_X12_first_ (N : Nat)   (σ : Mem) : Option (Int32 × Mem) :=
  (F_X12_first__b7 N N) (Int32.ofInt (-1)) (0 : Int64) (0 : Int32) σ
def F_X12_follow (N : Nat)  (a1 : Int32) (a2 : Int32) (a3 : Int32) (σ : Mem) : Option (Int32 × Mem) :=
  (F_X12_isLayer N a1 σ).bind (fun q1 =>
  if q1.1 = 0 then
    some ((Int32.ofInt (-1)), q1.2)
  else
    (F_X12_isLayer N a2 q1.2).bind (fun q2 =>
    if q2.1 = 0 then
      some ((Int32.ofInt (-1)), q2.2)
    else
      (F_X12_in N a3 (0 : Int32) (9 : Int32) q2.2).bind (fun q3 =>
      if q3.1 = 0 then
        some ((Int32.ofInt (-2)), q3.2)
      else
        if hwOut (((5 : Int32) * a1) + a2) 25 then none else
        if hwOut (((5 : Int32) * a1) + a2) 25 then none else
        some ((q3.2.2.2.1 75 0 ((((5 : Int32) * a1) + a2)).toNatClampNeg), (q3.2.1, q3.2.2.1, (hwU3 q3.2.2.2.1 75 0 ((((5 : Int32) * a1) + a2)).toNatClampNeg a3), q3.2.2.2.2.1, q3.2.2.2.2.2)))))
def F_X12_force (N : Nat)  (a1 : Int32) (σ : Mem) : Option (Int32 × Mem) :=
  (F_X12_in N a1 (0 : Int32) ((σ.1 12 27) - (1 : Int32)) σ).bind (fun q1 =>
  if q1.1 = 0 then
    some ((Int32.ofInt (-2)), q1.2)
  else
    some ((q1.2.1 12 28), ((hwU2 q1.2.1 12 28 a1), q1.2.2.1, q1.2.2.2.1, q1.2.2.2.2.1, q1.2.2.2.2.2)))
def F_X12_goesBy_b68 (N : Nat)   (s0 : Int32) (s1 : Int32) (s2 : Int32) (σ : Mem) : Option (Int32 × Mem) :=
  (F_X12_doesDig N s2 s1 s0 (0 : Int32) σ).bind (fun q4 =>
  if q4.1 = 0 then
    some ((0 : Int32), q4.2)
  else
    some ((1 : Int32), q4.2))
def F_X12_goesBy (N : Nat)  (a1 : Int32) (a2 : Int32) (σ : Mem) : Option (Int32 × Mem) :=
  (F_X12_isRule N a1 σ).bind (fun q1 =>
  if q1.1 = 0 then
    some ((Int32.ofInt (-5)), q1.2)
  else
    (F_X12_isPlace N a2 q1.2).bind (fun q2 =>
    if q2.1 = 0 then
      some ((Int32.ofInt (-5)), q2.2)
    else
      (F_X12_goesHere N a2 q2.2).bind (fun q3 =>
      if q3.1 = 0 then
        some ((Int32.ofInt (-3)), q3.2)
      else
        if hwOut a2 4 then none else
        if hwOut a2 4 then none else
        if (q3.2.2.2.1 77 0 (a2).toNatClampNeg) = 0 then
          (F_X12_goesBy_b68 N) (Int32.ofInt (-1)) (q3.2.2.2.1 77 0 (a2).toNatClampNeg) a1 q3.2
        else
          if hwOut a2 4 then none else
          if hwOut ((((5 : Int32) * a2) + (q3.2.2.2.1 77 0 (a2).toNatClampNeg)) - (1 : Int32)) 20 then none else
          (F_X12_goesBy_b68 N) (q3.2.2.2.1 79 0 (((((5 : Int32) * a2) + (q3.2.2.2.1 77 0 (a2).toNatClampNeg)) - (1 : Int32))).toNatClampNeg) (q3.2.2.2.1 77 0 (a2).toNatClampNeg) a1 q3.2)))
def F_X12_holds_b64 (N : Nat)   (x1 : Int32) (x2 : Int32) (s0 : Int32) (σ : Mem) : Option (Unit × Mem) :=
  if x1 = (4 : Int32) then
    some ((), ((hwU2 (hwU2 σ.1 12 3 s0) 12 4 x2), σ.2.1, σ.2.2.1, σ.2.2.2.1, σ.2.2.2.2))
  else
    some ((), ((hwU2 (hwU2 σ.1 12 3 s0) 12 4 (σ.1 12 4)), σ.2.1, σ.2.2.1, σ.2.2.2.1, σ.2.2.2.2))
def F_X12_holds_b47 (N : Nat)   (x1 : Int32) (x2 : Int32) (s0 : Int32) (σ : Mem) : Option (Unit × Mem) :=
  if x1 = (3 : Int32) then
    (F_X12_holds_b64 N) x1 x2 x2 ((hwU2 σ.1 12 2 s0), σ.2.1, σ.2.2.1, σ.2.2.2.1, σ.2.2.2.2)
  else
    (F_X12_holds_b64 N) x1 x2 (σ.1 12 3) ((hwU2 σ.1 12 2 s0), σ.2.1, σ.2.2.1, σ.2.2.2.1, σ.2.2.2.2)
def F_X12_holds_b30 (N : Nat)   (x1 : Int32) (x2 : Int32) (s0 : Int32) (σ : Mem) : Option (Unit × Mem) :=
  if x1 = (2 : Int32) then
    (F_X12_holds_b47 N) x1 x2 x2 ((hwU2 σ.1 12 1 s0), σ.2.1, σ.2.2.1, σ.2.2.2.1, σ.2.2.2.2)
  else
    (F_X12_holds_b47 N) x1 x2 (σ.1 12 2) ((hwU2 σ.1 12 1 s0), σ.2.1, σ.2.2.1, σ.2.2.2.1, σ.2.2.2.2)
def F_X12_holds_b13 (N : Nat)   (x1 : Int32) (x2 : Int32) (s0 : Int32) (σ : Mem) : Option (Unit × Mem) :=
  if x1 = (1 : Int32) then
    (F_X12_holds_b30 N) x1 x2 x2 ((hwU2 σ.1 12 0 s0), σ.2.1, σ.2.2.1, σ.2.2.2.1, σ.2.2.2.2)
  else
    (F_X12_holds_b30 N) x1 x2 (σ.1 12 1) ((hwU2 σ.1 12 0 s0), σ.2.1, σ.2.2.1, σ.2.2.2.1, σ.2.2.2.2)
def F_X12_holds (N : Nat)  (a1 : Int32) (a2 : Int32) (σ : Mem) : Option (Unit × Mem) :=
  if a1 = 0 then
    (F_X12_holds_b13 N) a1 a2 a2 σ
  else
    (F_X12_holds_b13 N) a1 a2 (σ.1 12 0) σ
def F_X12_image_b134 (N : Nat)   : Nat → Int32 → Mem → Option (Int32 × Mem)
  | 0, _, _ => none
  | n + 1, x1, σ =>
    if (4 : Int32) ≤ x1 then
      some ((σ.1 12 10), σ)
    else
      if hwOut x1 4 then none else
      if hwOut x1 4 then none else
      if hwOut x1 4 then none else
      if hwOut x1 4 then none else
      (F_X12_image_b134 N n) (x1 + (1 : Int32)) (σ.1, σ.2.1, (hwU3 (hwU3 σ.2.2.1 91 0 (x1).toNatClampNeg (σ.2.2.1 77 0 (x1).toNatClampNeg)) 92 0 (x1).toNatClampNeg (σ.2.2.1 78 0 (x1).toNatClampNeg)), σ.2.2.2.1, σ.2.2.2.2)
def F_X12_image_b108 (N : Nat)   : Nat → Int32 → Mem → Option (Int32 × Mem)
  | 0, _, _ => none
  | n + 1, x1, σ =>
    if (16 : Int32) ≤ x1 then
      (F_X12_image_b134 N N) (0 : Int32) σ
    else
      if hwOut x1 16 then none else
      if hwOut x1 16 then none else
      (F_X12_image_b108 N n) (x1 + (1 : Int32)) (σ.1, σ.2.1, (hwU3 σ.2.2.1 94 0 (x1).toNatClampNeg (σ.2.2.1 80 0 (x1).toNatClampNeg)), σ.2.2.2.1, σ.2.2.2.2)
def F_X12_image_b82 (N : Nat)   : Nat → Int32 → Mem → Option (Int32 × Mem)
  | 0, _, _ => none
  | n + 1, x1, σ =>
    if (20 : Int32) ≤ x1 then
      (F_X12_image_b108 N N) (0 : Int32) σ
    else
      if hwOut x1 20 then none else
      if hwOut x1 20 then none else
      (F_X12_image_b82 N n) (x1 + (1 : Int32)) (σ.1, σ.2.1, (hwU3 σ.2.2.1 93 0 (x1).toNatClampNeg (σ.2.2.1 79 0 (x1).toNatClampNeg)), σ.2.2.2.1, σ.2.2.2.2)
def F_X12_image_b56 (N : Nat)   : Nat → Int32 → Mem → Option (Int32 × Mem)
  | 0, _, _ => none
  | n + 1, x1, σ =>
    if (25 : Int32) ≤ x1 then
      (F_X12_image_b82 N N) (0 : Int32) σ
    else
      if hwOut x1 25 then none else
      if hwOut x1 25 then none else
      (F_X12_image_b56 N n) (x1 + (1 : Int32)) (σ.1, σ.2.1, (hwU3 σ.2.2.1 90 0 (x1).toNatClampNeg (σ.2.2.1 75 0 (x1).toNatClampNeg)), σ.2.2.2.1, σ.2.2.2.2)
def F_X12_image_b32 (N : Nat)   : Nat → Int32 → Mem → Option (Int32 × Mem)
  | 0, _, _ => none
  | n + 1, x1, σ =>
    if (5 : Int32) ≤ x1 then
      (F_X12_image_b56 N N) (0 : Int32) σ
    else
      (F_X12_count N x1 σ).bind (fun q2 =>
      if hwOut x1 5 then none else
      (F_X12_image_b32 N n) (x1 + (1 : Int32)) (q2.2.1, q2.2.2.1, (hwU3 q2.2.2.2.1 89 0 (x1).toNatClampNeg q2.1), q2.2.2.2.2.1, q2.2.2.2.2.2))
def F_X12_image (N : Nat)   (σ : Mem) : Option (Int32 × Mem) :=
  (F_X12_count N (5 : Int32) ((hwU2 (hwU2 σ.1 12 29 (1 : Int32)) 12 30 (σ.1 12 10)), σ.2.1, σ.2.2.1, σ.2.2.2.1, σ.2.2.2.2)).bind (fun q1 =>
  (F_X12_image_b32 N N) (0 : Int32) ((hwU2 (hwU2 q1.2.1 12 34 q1.1) 12 31 (q1.2.1 12 28)), q1.2.2.1, q1.2.2.2.1, q1.2.2.2.2.1, q1.2.2.2.2.2))
def F_X12_indexOf_b12 (N : Nat)   : Nat → Int32 → Int32 → Int32 → Int32 → Mem → Option (Int32 × Mem)
  | 0, _, _, _, _, _ => none
  | n + 1, x1, x2, x3, x4, σ =>
    if x4 ≤ x3 then
      if x3 ≤ (9999 : Int32) then
        some (x3, ((hwU2 σ.1 12 1 x2), σ.2.1, σ.2.2.1, σ.2.2.2.1, σ.2.2.2.2))
      else
        some ((Int32.ofInt (-1)), ((hwU2 σ.1 12 1 x2), σ.2.1, σ.2.2.1, σ.2.2.2.1, σ.2.2.2.2))
    else
      if hwOut x1 4 then none else
      (F_X12_goesOn N ((σ.2.2.1 77 0 (x1).toNatClampNeg) + (1 : Int32)) (0 : Int32) ((hwU2 σ.1 12 1 ((x3 + x4) / (2 : Int32))), σ.2.1, σ.2.2.1, σ.2.2.2.1, σ.2.2.2.2)).bind (fun q1 =>
      if (lg_cmp q1.1 (0 : Int64)) ≤ 0 then
        (F_X12_indexOf_b12 N n) x1 x2 (((x3 + x4) / (2 : Int32)) + (1 : Int32)) x4 q1.2
      else
        (F_X12_indexOf_b12 N n) x1 x2 x3 ((x3 + x4) / (2 : Int32)) q1.2)
def F_X12_indexOf (N : Nat)  (a1 : Int32) (σ : Mem) : Option (Int32 × Mem) :=
  (F_X12_indexOf_b12 N N) a1 (σ.1 12 1) (0 : Int32) (10000 : Int32) σ
def F_X12_index (N : Nat)  (a1 : Int32) (σ : Mem) : Option (Int32 × Mem) :=
  (F_X12_isPlace N a1 σ).bind (fun q1 =>
  if q1.1 = 0 then
    some ((Int32.ofInt (-5)), q1.2)
  else
    (F_X12_goesHere N a1 q1.2).bind (fun q2 =>
    if q2.1 = 0 then
      some ((Int32.ofInt (-3)), q2.2)
    else
      (F_X12_indexOf N a1 q2.2).bind (fun q3 =>
      some (q3.1, q3.2))))
def F_X12_isUnder_b29 (N : Nat)   (x0 : Int32) (x1 : Int32) (σ : Mem) : Option (Int32 × Mem) :=
  if x1 = (2 : Int32) then
    if x0 = (5 : Int32) then
      some ((1 : Int32), σ)
    else
      some ((0 : Int32), σ)
  else
    some ((0 : Int32), σ)
def F_X12_isUnder (N : Nat)  (a1 : Int32) (a2 : Int32) (σ : Mem) : Option (Int32 × Mem) :=
  if a2 = 0 then
    some ((1 : Int32), σ)
  else
    if a1 = a2 then
      some ((1 : Int32), σ)
    else
      if a2 = (1 : Int32) then
        if a1 = (2 : Int32) then
          some ((1 : Int32), σ)
        else
          if a1 = (4 : Int32) then
            some ((1 : Int32), σ)
          else
            if a1 = (5 : Int32) then
              some ((1 : Int32), σ)
            else
              (F_X12_isUnder_b29 N) a1 a2 σ
      else
        (F_X12_isUnder_b29 N) a1 a2 σ
def F_X12_partsOf_b5 (N : Nat)   : Nat → Int32 → Int32 → Int32 → Int32 → Mem → Option (Int32 × Mem)
  | 0, _, _, _, _, _ => none
  | n + 1, x1, x2, x3, x4, σ =>
    if (σ.1 12 20) ≤ x4 then
      some (x3, σ)
    else
      if ((x2 >>> (x4 &&& 31)) &&& (1 : Int32)) = 0 then
        (F_X12_partsOf_b5 N n) x1 x2 (x3 + (0 : Int32)) (x4 + (1 : Int32)) σ
      else
        if hwOut (((40 : Int32) * x1) + x4) 160 then none else
        (F_X12_partsOf_b5 N n) x1 x2 (x3 + (σ.2.2.1 97 0 ((((40 : Int32) * x1) + x4)).toNatClampNeg)) (x4 + (1 : Int32)) σ
def F_X12_partsOf (N : Nat)  (a1 : Int32) (a2 : Int32) (σ : Mem) : Option (Int32 × Mem) :=
  (F_X12_partsOf_b5 N N) a1 a2 (0 : Int32) (0 : Int32) σ
def F_X12_join_b174 (N : Nat)   (x1 : Int32) (x4 : Int32) (x5 : Int32) (σ : Mem) : Option (Int32 × Mem) :=
  if (σ.1 12 20) ≤ 0 then
    some ((Int32.ofInt (-1)), σ)
  else
    (F_X12_partsOf N x1 x5 σ).bind (fun q8 =>
    if ((q8.2.1 12 60) + x4) ≤ q8.1 then
      some ((Int32.ofInt (-1)), q8.2)
    else
      some (x5, q8.2))
def F_X12_join_b122 (N : Nat)   : Nat → Int32 → Int32 → Int32 → Int32 → Mem → Option (Int32 × Mem)
  | 0, _, _, _, _, _ => none
  | n + 1, x1, x4, x5, x6, σ =>
    if x5 < x6 then
      if (σ.1 12 20) ≤ 0 then
        (F_X12_join_b174 N) x1 x4 x5 σ
      else
        (F_X12_findsWell N x5 σ).bind (fun q5 =>
        (F_X12_join_b174 N) x1 x4 x5 q5.2)
    else
      (F_X12_findsWell N x6 σ).bind (fun q6 =>
      (F_X12_partsOf N x1 x6 q6.2).bind (fun q7 =>
      if q7.1 ≤ ((q7.2.1 12 60) + x4) then
        (F_X12_join_b122 N n) x1 x4 x5 (x6 + (1 : Int32)) q7.2
      else
        some (x6, q7.2)))
def F_X12_join_b95 (N : Nat)   (x1 : Int32) (x2 : Int32) (x3 : Int32) (σ : Mem) : Option (Int32 × Mem) :=
  if x3 = 0 then
    some ((Int32.ofInt (-2)), σ)
  else
    (F_X12_costsTo N x2 σ).bind (fun q4 =>
    (F_X12_join_b122 N N) x1 q4.1 (((1 : Int32) <<< ((q4.2.1 12 20) &&& 31)) - (1 : Int32)) (1 : Int32) q4.2)
def F_X12_join_b56 (N : Nat)   : Nat → Int32 → Int32 → Int32 → Int32 → Mem → Option (Int32 × Mem)
  | 0, _, _, _, _, _ => none
  | n + 1, x1, x2, x3, x4, σ =>
    if (σ.1 12 20) ≤ x4 then
      (F_X12_join_b95 N) x1 x2 x3 σ
    else
      if x3 = 0 then
        (F_X12_join_b95 N) x1 x2 x3 σ
      else
        if hwOut (((40 : Int32) * x1) + x4) 160 then none else
        (F_X12_in N (σ.2.2.1 97 0 ((((40 : Int32) * x1) + x4)).toNatClampNeg) (0 : Int32) (999999 : Int32) σ).bind (fun q3 =>
        (F_X12_join_b56 N n) x1 x2 q3.1 (x4 + (1 : Int32)) q3.2)
def F_X12_join (N : Nat)  (a1 : Int32) (a2 : Int32) (σ : Mem) : Option (Int32 × Mem) :=
  (F_X12_in N a1 (0 : Int32) (3 : Int32) σ).bind (fun q1 =>
  if q1.1 = 0 then
    some ((Int32.ofInt (-2)), q1.2)
  else
    (F_X12_in N a2 (1 : Int32) (5 : Int32) q1.2).bind (fun q2 =>
    if q2.1 = 0 then
      some ((Int32.ofInt (-2)), q2.2)
    else
      if hwOut a1 4 then none else
      if (q2.2.2.2.1 95 0 (a1).toNatClampNeg) = (Int32.ofInt (-1)) then
        some ((Int32.ofInt (-11)), q2.2)
      else
        if hwOut a1 4 then none else
        if (q2.2.2.2.1 96 0 (a1).toNatClampNeg) = (q2.2.1 12 20) then
          (F_X12_join_b56 N N) a1 a2 (1 : Int32) (0 : Int32) q2.2
        else
          (F_X12_join_b56 N N) a1 a2 (0 : Int32) (0 : Int32) q2.2))
def F_X12_judge_b128 (N : Nat)  (k60 : Int32 → Int32 → Mem → Option (Int32 × Mem)) : Nat → Int32 → Int32 → Int32 → Mem → Option (Int32 × Mem)
  | 0, _, _, _, _ => none
  | n + 1, x2, x3, x7, σ =>
    if (σ.1 12 5) ≤ x7 then
      k60 x2 (x3 + (1 : Int32)) σ
    else
      if hwOut ((5 : Int32) + x7) 40 then none else
      if hwOut x7 40 then none else
      (F_X12_judge_b128 N k60 n) x2 x3 (x7 + (1 : Int32)) (σ.1, σ.2.1, σ.2.2.1, (hwU3 σ.2.2.2.1 102 0 (x7).toNatClampNeg (σ.2.2.2.1 102 0 (((5 : Int32) + x7)).toNatClampNeg)), σ.2.2.2.2)
def F_X12_judge_b107 (N : Nat)  (k60 : Int32 → Int32 → Mem → Option (Int32 × Mem)) (x2 : Int32) (x3 : Int32) (s0 : Int64) (σ : Mem) : Option (Int32 × Mem) :=
  if (lg_cmp s0 (0 : Int64)) = 0 then
    some (x3, σ)
  else
    (F_X12_below N (0 : Int32) s0 σ).bind (fun q6 =>
    (F_X12_judge_b128 N k60 N) x2 x3 (0 : Int32) q6.2)
def F_X12_judge_b60 (N : Nat)   : Nat → Int32 → Int32 → Mem → Option (Int32 × Mem)
  | 0, _, _, _ => none
  | n + 1, x2, x3, σ =>
    if hwOut x2 4 then none else
    if (σ.2.2.1 96 0 (x2).toNatClampNeg) ≤ x3 then
      some ((Int32.ofInt (-1)), σ)
    else
      if hwOut (((40 : Int32) * x2) + x3) 160 then none else
      (F_X12_in N (σ.2.2.1 97 0 ((((40 : Int32) * x2) + x3)).toNatClampNeg) (0 : Int32) (2 : Int32) σ).bind (fun q4 =>
      if q4.1 = 0 then
        (F_X12_judge_b107 N (F_X12_judge_b60 N n)) x2 x3 (0 : Int64) q4.2
      else
        (F_X12_dries N (0 : Int32) (x3 + (1 : Int32)) (σ.2.2.1 97 0 ((((40 : Int32) * x2) + x3)).toNatClampNeg) q4.2).bind (fun q5 =>
        (F_X12_judge_b107 N (F_X12_judge_b60 N n)) x2 x3 q5.1 q5.2))
def F_X12_judge (N : Nat)  (a1 : Int32) (a2 : Int32) (σ : Mem) : Option (Int32 × Mem) :=
  (F_X12_isPlace N a1 σ).bind (fun q1 =>
  if q1.1 = 0 then
    some ((Int32.ofInt (-5)), q1.2)
  else
    (F_X12_in N a2 (0 : Int32) (3 : Int32) q1.2).bind (fun q2 =>
    if q2.1 = 0 then
      some ((Int32.ofInt (-2)), q2.2)
    else
      if hwOut a2 4 then none else
      if (q2.2.2.2.1 95 0 (a2).toNatClampNeg) = (Int32.ofInt (-1)) then
        some ((Int32.ofInt (-11)), q2.2)
      else
        if hwOut a2 4 then none else
        if (q2.2.2.2.1 96 0 (a2).toNatClampNeg) ≤ (q2.2.1 12 0) then
          (F_X12_begins N a1 (0 : Int32) q2.2).bind (fun q3 =>
          (F_X12_judge_b60 N N) a2 (0 : Int32) q3.2)
        else
          some ((Int32.ofInt (-2)), q2.2)))
def F_X12_layer (N : Nat)  (a1 : Int32) (a2 : Int32) (a3 : Int32) (σ : Mem) : Option (Int32 × Mem) :=
  (F_X12_in N a1 (0 : Int32) (100 : Int32) σ).bind (fun q1 =>
  if q1.1 = 0 then
    some ((Int32.ofInt (-2)), q1.2)
  else
    (F_X12_in N a2 (0 : Int32) (9 : Int32) q1.2).bind (fun q2 =>
    if q2.1 = 0 then
      some ((Int32.ofInt (-2)), q2.2)
    else
      (F_X12_in N a3 (0 : Int32) (2 : Int32) q2.2).bind (fun q3 =>
      if q3.1 = 0 then
        some ((Int32.ofInt (-2)), q3.2)
      else
        if (q3.2.1 12 5) = (5 : Int32) then
          some ((Int32.ofInt (-4)), q3.2)
        else
          if (q3.2.1 12 10) ≤ 0 then
            if hwOut (q3.2.1 12 5) 5 then none else
            if hwOut (q3.2.1 12 5) 5 then none else
            if hwOut (q3.2.1 12 5) 5 then none else
            some ((((q3.2.1 12 5) + (1 : Int32)) - (1 : Int32)), ((hwU2 q3.2.1 12 5 ((q3.2.1 12 5) + (1 : Int32))), q3.2.2.1, (hwU3 (hwU3 (hwU3 q3.2.2.2.1 72 0 ((q3.2.1 12 5)).toNatClampNeg a1) 73 0 ((q3.2.1 12 5)).toNatClampNeg a2) 74 0 ((q3.2.1 12 5)).toNatClampNeg a3), q3.2.2.2.2.1, q3.2.2.2.2.2))
          else
            some ((Int32.ofInt (-3)), q3.2))))
def F_X12_layersBy_b63 (N : Nat)   : Nat → Int32 → Int32 → Int32 → Int32 → Int32 → Mem → Option (Int32 × Mem)
  | 0, _, _, _, _, _, _ => none
  | n + 1, x1, x3, x4, x5, x6, σ =>
    if x4 ≤ x6 then
      some (x5, σ)
    else
      if x3 < 0 then
        some ((Int32.ofInt (-12)), σ)
      else
        if (x3 + ((3 : Int32) * x6)) < x3 then
          some ((Int32.ofInt (-12)), σ)
        else
          if hwOut x1 4 then none else
          if (x3 + ((3 : Int32) * x6)) ≤ ((σ.2.2.1 96 0 (x1).toNatClampNeg) - (3 : Int32)) then
            if hwOut (((40 : Int32) * x1) + (x3 + ((3 : Int32) * x6))) 160 then none else
            if hwOut ((((40 : Int32) * x1) + (x3 + ((3 : Int32) * x6))) + (1 : Int32)) 160 then none else
            if hwOut ((((40 : Int32) * x1) + (x3 + ((3 : Int32) * x6))) + (2 : Int32)) 160 then none else
            (F_X12_layer N (σ.2.2.1 97 0 ((((40 : Int32) * x1) + (x3 + ((3 : Int32) * x6)))).toNatClampNeg) (σ.2.2.1 97 0 (((((40 : Int32) * x1) + (x3 + ((3 : Int32) * x6))) + (1 : Int32))).toNatClampNeg) (σ.2.2.1 97 0 (((((40 : Int32) * x1) + (x3 + ((3 : Int32) * x6))) + (2 : Int32))).toNatClampNeg) σ).bind (fun q4 =>
            if q4.1 < 0 then
              (F_X12_layersBy_b63 N n) x1 x3 x4 (x5 + (0 : Int32)) (x6 + (1 : Int32)) q4.2
            else
              (F_X12_layersBy_b63 N n) x1 x3 x4 (x5 + (1 : Int32)) (x6 + (1 : Int32)) q4.2)
          else
            some ((Int32.ofInt (-12)), σ)
def F_X12_layersBy (N : Nat)  (a1 : Int32) (a2 : Int32) (a3 : Int32) (a4 : Int32) (σ : Mem) : Option (Int32 × Mem) :=
  (F_X12_in N a1 (0 : Int32) (3 : Int32) σ).bind (fun q1 =>
  if q1.1 = 0 then
    some ((Int32.ofInt (-2)), q1.2)
  else
    (F_X12_in N a2 (0 : Int32) (2 : Int32) q1.2).bind (fun q2 =>
    if q2.1 = 0 then
      some ((Int32.ofInt (-2)), q2.2)
    else
      (F_X12_in N a4 (0 : Int32) (5 : Int32) q2.2).bind (fun q3 =>
      if q3.1 = 0 then
        some ((Int32.ofInt (-2)), q3.2)
      else
        if hwOut a1 4 then none else
        if (q3.2.2.2.1 95 0 (a1).toNatClampNeg) = (Int32.ofInt (-1)) then
          some ((Int32.ofInt (-11)), q3.2)
        else
          if hwOut a1 4 then none else
          if (q3.2.2.2.1 95 0 (a1).toNatClampNeg) = a2 then
            (F_X12_layersBy_b63 N N) a1 a3 a4 (0 : Int32) (0 : Int32) q3.2
          else
            some ((Int32.ofInt (-13)), q3.2))))
def F_X12_learn (N : Nat)  (a1 : Int32) (σ : Mem) : Option (Int64 × Mem) :=
  (F_X12_isPlace N a1 σ).bind (fun q1 =>
  if q1.1 = 0 then
    some ((Int64.ofInt (-4611686018427387904)), q1.2)
  else
    (F_X12_learns N a1 q1.2).bind (fun q2 =>
    some (q2.1, q2.2)))
def F_X12_likely (N : Nat)  (a1 : Int32) (σ : Mem) : Option (Int64 × Mem) :=
  (F_X12_isPlace N a1 σ).bind (fun q1 =>
  if q1.1 = 0 then
    some ((Int64.ofInt (-4611686018427387904)), q1.2)
  else
    (F_X12_thinks N a1 q1.2).bind (fun q2 =>
    if q2.1 = 0 then
      some ((Int64.ofInt (-3)), q2.2)
    else
      if hwOut a1 4 then none else
      if (q2.2.2.2.1 77 0 (a1).toNatClampNeg) < (q2.2.1 12 0) then
        if hwOut a1 4 then none else
        (F_X12_wetOf N (0 : Int32) ((q2.2.2.2.1 77 0 (a1).toNatClampNeg) + (1 : Int32)) q2.2).bind (fun q3 =>
        some (q3.1, q3.2))
      else
        some ((0 : Int64), q2.2)))
def F_X12_line_b19 (N : Nat)   : Nat → Int32 → Int32 → Int64 → Int32 → Mem → Option (Int32 × Mem)
  | 0, _, _, _, _, _ => none
  | n + 1, x1, x2, x3, x5, σ =>
    if x1 < x5 then
      some (x2, σ)
    else
      (F_X12_fallen N x1 x5 σ).bind (fun q2 =>
      (F_X12_costsTo N x1 q2.2).bind (fun q3 =>
      if x5 = 0 then
        (F_X12_line_b19 N n) x1 x5 ((q2.1 * q3.1.toInt64) + (((1000000 : Int64) * (q3.2.1 12 4).toInt64) * (x1 - x5).toInt64)) (x5 + (1 : Int32)) q3.2
      else
        if 0 ≤ (lg_cmp ((q2.1 * q3.1.toInt64) + (((1000000 : Int64) * (q3.2.1 12 4).toInt64) * (x1 - x5).toInt64)) x3) then
          (F_X12_line_b19 N n) x1 x2 x3 (x5 + (1 : Int32)) q3.2
        else
          (F_X12_line_b19 N n) x1 x5 ((q2.1 * q3.1.toInt64) + (((1000000 : Int64) * (q3.2.1 12 4).toInt64) * (x1 - x5).toInt64)) (x5 + (1 : Int32)) q3.2))
def F_X12_line (N : Nat)  (a1 : Int32) (σ : Mem) : Option (Int32 × Mem) :=
  (F_X12_in N a1 (0 : Int32) (5 : Int32) σ).bind (fun q1 =>
  if q1.1 = 0 then
    some ((Int32.ofInt (-2)), q1.2)
  else
    (F_X12_line_b19 N N) a1 (0 : Int32) (0 : Int64) (0 : Int32) q1.2)
def F_X12_means (N : Nat)  (a1 : Int32) (a2 : Int32) (σ : Mem) : Option (Unit × Mem) :=
  (F_X12_begins N a2 (0 : Int32) (σ.1, (hwU2 (hwU2 (hwU2 (hwU2 σ.2.1 12 55 (0 : Int64)) 12 56 (0 : Int64)) 12 57 (0 : Int64)) 12 58 (0 : Int64)), σ.2.2.1, σ.2.2.2.1, σ.2.2.2.2)).bind (fun q1 =>
  (F_X12_digs N a1 (0 : Int32) (Int32.ofInt (-1)) (0 : Int32) (1000000 : Int64) (0 : Int32) q1.2).bind (fun q2 =>
  some ((), q2.2)))
def F_X12_mean (N : Nat)  (a1 : Int32) (a2 : Int32) (a3 : Int32) (σ : Mem) : Option (Int64 × Mem) :=
  (F_X12_isRule N a1 σ).bind (fun q1 =>
  if q1.1 = 0 then
    some ((Int64.ofInt (-4611686018427387904)), q1.2)
  else
    (F_X12_isPlace N a2 q1.2).bind (fun q2 =>
    if q2.1 = 0 then
      some ((Int64.ofInt (-4611686018427387904)), q2.2)
    else
      (F_X12_in N a3 (0 : Int32) (3 : Int32) q2.2).bind (fun q3 =>
      if q3.1 = 0 then
        some ((Int64.ofInt (-4611686018427387904)), q3.2)
      else
        (F_X12_means N a1 a2 q3.2).bind (fun q4 =>
        if a3 = 0 then
          some ((q4.2.2.1 12 55), q4.2)
        else
          if a3 = (1 : Int32) then
            some ((q4.2.2.1 12 56), q4.2)
          else
            if a3 = (2 : Int32) then
              some ((q4.2.2.1 12 57), q4.2)
            else
              some ((q4.2.2.1 12 58), q4.2)))))
def F_X12_next_b31 (N : Nat)  (k6 : Int32 → Int32 → Int32 → Mem → Option (Int32 × Mem)) (x1 : Int32) (x2 : Int32) (x3 : Int32) (s0 : Int32) (σ : Mem) : Option (Int32 × Mem) :=
  if s0 < 0 then
    k6 x1 x2 (x3 + (1 : Int32)) σ
  else
    if (σ.1 12 1) < s0 then
      k6 x1 x2 (x3 + (1 : Int32)) σ
    else
      if x1 = (Int32.ofInt (-1)) then
        k6 x3 s0 (x3 + (1 : Int32)) σ
      else
        if x2 ≤ s0 then
          k6 x1 x2 (x3 + (1 : Int32)) σ
        else
          k6 x3 s0 (x3 + (1 : Int32)) σ
def F_X12_next_b6 (N : Nat)   : Nat → Int32 → Int32 → Int32 → Mem → Option (Int32 × Mem)
  | 0, _, _, _, _ => none
  | n + 1, x1, x2, x3, σ =>
    if (σ.1 12 10) ≤ x3 then
      some (x1, σ)
    else
      (F_X12_goesHere N x3 σ).bind (fun q1 =>
      if q1.1 = 0 then
        (F_X12_next_b31 N (F_X12_next_b6 N n)) x1 x2 x3 (Int32.ofInt (-1)) q1.2
      else
        (F_X12_indexOf N x3 q1.2).bind (fun q2 =>
        (F_X12_next_b31 N (F_X12_next_b6 N n)) x1 x2 x3 q2.1 q2.2))
def F_X12_next (N : Nat)   (σ : Mem) : Option (Int32 × Mem) :=
  (F_X12_next_b6 N N) (Int32.ofInt (-1)) (0 : Int32) (0 : Int32) σ
def F_X12_place_b109 (N : Nat)   : Nat → Int32 → Int32 → Mem → Option (Int32 × Mem)
  | 0, _, _, _ => none
  | n + 1, x1, x3, σ =>
    if (σ.1 12 5) ≤ x3 then
      some ((((σ.1 12 10) + (1 : Int32)) - (1 : Int32)), ((hwU2 σ.1 12 10 ((σ.1 12 10) + (1 : Int32))), σ.2.1, σ.2.2.1, σ.2.2.2.1, σ.2.2.2.2))
    else
      if hwOut (((40 : Int32) * x1) + x3) 160 then none else
      if hwOut (((5 : Int32) * (σ.1 12 10)) + x3) 20 then none else
      (F_X12_place_b109 N n) x1 (x3 + (1 : Int32)) (σ.1, σ.2.1, (hwU3 σ.2.2.1 76 0 ((((5 : Int32) * (σ.1 12 10)) + x3)).toNatClampNeg (σ.2.2.1 97 0 ((((40 : Int32) * x1) + x3)).toNatClampNeg)), σ.2.2.2.1, σ.2.2.2.2)
def F_X12_place_b89 (N : Nat)   (x1 : Int32) (x2 : Int32) (σ : Mem) : Option (Int32 × Mem) :=
  if x2 = 0 then
    some ((Int32.ofInt (-2)), σ)
  else
    if (σ.1 12 10) = (4 : Int32) then
      some ((Int32.ofInt (-4)), σ)
    else
      (F_X12_place_b109 N N) x1 (0 : Int32) σ
def F_X12_place_b53 (N : Nat)   : Nat → Int32 → Int32 → Int32 → Mem → Option (Int32 × Mem)
  | 0, _, _, _, _ => none
  | n + 1, x1, x2, x3, σ =>
    if (σ.1 12 5) ≤ x3 then
      (F_X12_place_b89 N) x1 x2 σ
    else
      if x2 = 0 then
        (F_X12_place_b89 N) x1 x2 σ
      else
        if hwOut (((40 : Int32) * x1) + x3) 160 then none else
        (F_X12_in N (σ.2.2.1 97 0 ((((40 : Int32) * x1) + x3)).toNatClampNeg) (0 : Int32) (99 : Int32) σ).bind (fun q2 =>
        (F_X12_place_b53 N n) x1 q2.1 (x3 + (1 : Int32)) q2.2)
def F_X12_place (N : Nat)  (a1 : Int32) (σ : Mem) : Option (Int32 × Mem) :=
  (F_X12_in N a1 (0 : Int32) (3 : Int32) σ).bind (fun q1 =>
  if q1.1 = 0 then
    some ((Int32.ofInt (-2)), q1.2)
  else
    if hwOut a1 4 then none else
    if (q1.2.2.2.1 95 0 (a1).toNatClampNeg) = (Int32.ofInt (-1)) then
      some ((Int32.ofInt (-11)), q1.2)
    else
      if hwOut a1 4 then none else
      if (q1.2.2.2.1 96 0 (a1).toNatClampNeg) = (q1.2.1 12 5) then
        if (q1.2.1 12 5) ≤ 0 then
          (F_X12_place_b53 N N) a1 (0 : Int32) (0 : Int32) q1.2
        else
          (F_X12_place_b53 N N) a1 (1 : Int32) (0 : Int32) q1.2
      else
        (F_X12_place_b53 N N) a1 (0 : Int32) (0 : Int32) q1.2)
def F_X12_right_b53 (N : Nat)  (k18 : Int32 → Int32 → Int64 → Int32 → Mem → Option (Int32 × Mem)) (x1 : Int32) (x5 : Int32) (σ : Mem) : Option (Int32 × Mem) :=
  k18 x1 x5 ((σ.2.1 12 58) - (σ.2.1 12 55)) (x5 + (1 : Int32)) σ
def F_X12_right_b18 (N : Nat)   : Nat → Int32 → Int32 → Int64 → Int32 → Mem → Option (Int32 × Mem)
  | 0, _, _, _, _, _ => none
  | n + 1, x1, x2, x3, x5, σ =>
    if (σ.1 12 16) ≤ x5 then
      some (x2, σ)
    else
      (F_X12_means N x5 x1 σ).bind (fun q2 =>
      if x2 = (Int32.ofInt (-1)) then
        (F_X12_right_b53 N (F_X12_right_b18 N n)) x1 x5 q2.2
      else
        if (lg_cmp ((q2.2.2.1 12 58) - (q2.2.2.1 12 55)) x3) ≤ 0 then
          (F_X12_right_b18 N n) x1 x2 x3 (x5 + (1 : Int32)) q2.2
        else
          (F_X12_right_b53 N (F_X12_right_b18 N n)) x1 x5 q2.2)
def F_X12_right (N : Nat)  (a1 : Int32) (σ : Mem) : Option (Int32 × Mem) :=
  (F_X12_isPlace N a1 σ).bind (fun q1 =>
  if q1.1 = 0 then
    some ((Int32.ofInt (-5)), q1.2)
  else
    (F_X12_right_b18 N N) a1 (Int32.ofInt (-1)) (0 : Int64) (0 : Int32) q1.2)
def F_X12_row_b163 (N : Nat)  (k83 : Int32 → Int64 → Int32 → Mem → Option (Int64 × Mem)) : Nat → Int32 → Int64 → Int32 → Int32 → Mem → Option (Int64 × Mem)
  | 0, _, _, _, _, _ => none
  | n + 1, x2, x3, x5, x9, σ =>
    if (σ.1 12 5) ≤ x9 then
      k83 x2 x3 (x5 + (1 : Int32)) σ
    else
      if hwOut ((5 : Int32) + x9) 40 then none else
      if hwOut x9 40 then none else
      (F_X12_row_b163 N k83 n) x2 x3 x5 (x9 + (1 : Int32)) (σ.1, σ.2.1, σ.2.2.1, (hwU3 σ.2.2.2.1 102 0 (x9).toNatClampNeg (σ.2.2.2.1 102 0 (((5 : Int32) + x9)).toNatClampNeg)), σ.2.2.2.2)
def F_X12_row_b133 (N : Nat)  (k83 : Int32 → Int64 → Int32 → Mem → Option (Int64 × Mem)) (x2 : Int32) (x3 : Int64) (x5 : Int32) (s0 : Int64) (σ : Mem) : Option (Int64 × Mem) :=
  if (lg_cmp s0 (0 : Int64)) = 0 then
    some ((0 : Int64), σ)
  else
    (F_X12_below N (0 : Int32) s0 σ).bind (fun q8 =>
    (F_X12_row_b163 N k83 N) x2 ((x3 * s0) / (1000000 : Int64)) x5 (0 : Int32) q8.2)
def F_X12_row_b83 (N : Nat)   : Nat → Int32 → Int64 → Int32 → Mem → Option (Int64 × Mem)
  | 0, _, _, _, _ => none
  | n + 1, x2, x3, x5, σ =>
    if hwOut x2 4 then none else
    if (σ.2.2.1 96 0 (x2).toNatClampNeg) ≤ x5 then
      some (x3, σ)
    else
      if hwOut (((40 : Int32) * x2) + x5) 160 then none else
      (F_X12_in N (σ.2.2.1 97 0 ((((40 : Int32) * x2) + x5)).toNatClampNeg) (0 : Int32) (2 : Int32) σ).bind (fun q6 =>
      if q6.1 = 0 then
        (F_X12_row_b133 N (F_X12_row_b83 N n)) x2 x3 x5 (0 : Int64) q6.2
      else
        (F_X12_dries N (0 : Int32) (x5 + (1 : Int32)) (σ.2.2.1 97 0 ((((40 : Int32) * x2) + x5)).toNatClampNeg) q6.2).bind (fun q7 =>
        (F_X12_row_b133 N (F_X12_row_b83 N n)) x2 x3 x5 q7.1 q7.2))
def F_X12_row_b58 (N : Nat)   (x1 : Int32) (x2 : Int32) (s0 : Int32) (σ : Mem) : Option (Int64 × Mem) :=
  if hwOut s0 4 then none else
  if (σ.2.2.1 96 0 (s0).toNatClampNeg) ≤ (σ.1 12 0) then
    (F_X12_begins N x1 (0 : Int32) σ).bind (fun q5 =>
    (F_X12_row_b83 N N) x2 (1000000 : Int64) (0 : Int32) q5.2)
  else
    some ((Int64.ofInt (-4611686018427387904)), σ)
def F_X12_row_b35 (N : Nat)   (x1 : Int32) (x2 : Int32) (s0 : Int32) (σ : Mem) : Option (Int64 × Mem) :=
  if hwOut s0 4 then none else
  if (σ.2.2.1 95 0 (s0).toNatClampNeg) = (Int32.ofInt (-1)) then
    some ((Int64.ofInt (-4611686018427387904)), σ)
  else
    (F_X12_in N x2 (0 : Int32) (3 : Int32) σ).bind (fun q4 =>
    if q4.1 = 0 then
      (F_X12_row_b58 N) x1 x2 (0 : Int32) q4.2
    else
      (F_X12_row_b58 N) x1 x2 x2 q4.2)
def F_X12_row (N : Nat)  (a1 : Int32) (a2 : Int32) (σ : Mem) : Option (Int64 × Mem) :=
  (F_X12_isPlace N a1 σ).bind (fun q1 =>
  if q1.1 = 0 then
    some ((Int64.ofInt (-4611686018427387904)), q1.2)
  else
    (F_X12_in N a2 (0 : Int32) (3 : Int32) q1.2).bind (fun q2 =>
    if q2.1 = 0 then
      some ((Int64.ofInt (-4611686018427387904)), q2.2)
    else
      (F_X12_in N a2 (0 : Int32) (3 : Int32) q2.2).bind (fun q3 =>
      if q3.1 = 0 then
        (F_X12_row_b35 N) a1 a2 (0 : Int32) q3.2
      else
        (F_X12_row_b35 N) a1 a2 a2 q3.2)))
def F_X12_rule (N : Nat)  (a1 : Int32) (a2 : Int32) (a3 : Int32) (σ : Mem) : Option (Int32 × Mem) :=
  (F_X12_in N a1 (0 : Int32) (5 : Int32) σ).bind (fun q1 =>
  if q1.1 = 0 then
    some ((Int32.ofInt (-2)), q1.2)
  else
    (F_X12_in N a2 (0 : Int32) (5 : Int32) q1.2).bind (fun q2 =>
    if q2.1 = 0 then
      some ((Int32.ofInt (-2)), q2.2)
    else
      (F_X12_in N a3 (0 : Int32) (7 : Int32) q2.2).bind (fun q3 =>
      if q3.1 = 0 then
        some ((Int32.ofInt (-2)), q3.2)
      else
        if (q3.2.1 12 16) = (8 : Int32) then
          some ((Int32.ofInt (-4)), q3.2)
        else
          if hwOut (q3.2.1 12 16) 8 then none else
          if hwOut (q3.2.1 12 16) 8 then none else
          if hwOut (q3.2.1 12 16) 8 then none else
          some ((((q3.2.1 12 16) + (1 : Int32)) - (1 : Int32)), ((hwU2 q3.2.1 12 16 ((q3.2.1 12 16) + (1 : Int32))), q3.2.2.1, (hwU3 (hwU3 (hwU3 q3.2.2.2.1 81 0 ((q3.2.1 12 16)).toNatClampNeg a1) 82 0 ((q3.2.1 12 16)).toNatClampNeg a2) 83 0 ((q3.2.1 12 16)).toNatClampNeg a3), q3.2.2.2.2.1, q3.2.2.2.2.2)))))
def F_X12_ruleTold (N : Nat)  (a1 : Int32) (a2 : Int32) (σ : Mem) : Option (Int32 × Mem) :=
  (F_X12_isRule N a1 σ).bind (fun q1 =>
  if q1.1 = 0 then
    some ((Int32.ofInt (-5)), q1.2)
  else
    if a2 = 0 then
      if hwOut a1 8 then none else
      some ((q1.2.2.2.1 81 0 (a1).toNatClampNeg), q1.2)
    else
      if a2 = (1 : Int32) then
        if hwOut a1 8 then none else
        some ((q1.2.2.2.1 82 0 (a1).toNatClampNeg), q1.2)
      else
        if a2 = (2 : Int32) then
          if hwOut a1 8 then none else
          some ((q1.2.2.2.1 83 0 (a1).toNatClampNeg), q1.2)
        else
          some ((Int32.ofInt (-7)), q1.2))
def F_X12_set_b42 (N : Nat)   (x1 : Int32) (x2 : Int32) (s0 : Int32) (s1 : Int32) (s2 : Int32) (σ : Mem) : Option (Int32 × Mem) :=
  (F_X12_in N s2 s1 s0 σ).bind (fun q2 =>
  if q2.1 = 0 then
    some ((Int32.ofInt (-2)), q2.2)
  else
    (F_X12_count N x1 q2.2).bind (fun q3 =>
    (F_X12_holds N x1 x2 q3.2).bind (fun q4 =>
    some (q3.1, q4.2))))
def F_X12_set_b21 (N : Nat)   (x1 : Int32) (x2 : Int32) (s0 : Int32) (s1 : Int32) (σ : Mem) : Option (Int32 × Mem) :=
  if x1 = 0 then
    (F_X12_set_b42 N) x1 x2 (5 : Int32) s0 s1 σ
  else
    if x1 = (2 : Int32) then
      (F_X12_set_b42 N) x1 x2 (9 : Int32) s0 s1 σ
    else
      (F_X12_set_b42 N) x1 x2 (9999 : Int32) s0 s1 σ
def F_X12_set (N : Nat)  (a1 : Int32) (a2 : Int32) (σ : Mem) : Option (Int32 × Mem) :=
  (F_X12_in N a1 (0 : Int32) (4 : Int32) σ).bind (fun q1 =>
  if q1.1 = 0 then
    some ((Int32.ofInt (-1)), q1.2)
  else
    if a1 = 0 then
      (F_X12_set_b21 N) a1 a2 (1 : Int32) a2 q1.2
    else
      (F_X12_set_b21 N) a1 a2 (0 : Int32) a2 q1.2)
def F_X12_share (N : Nat)  (a1 : Int32) (a2 : Int32) (σ : Mem) : Option (Int32 × Mem) :=
  (F_X12_in N a1 (1 : Int32) (((1 : Int32) <<< ((σ.1 12 20) &&& 31)) - (1 : Int32)) σ).bind (fun q1 =>
  if q1.1 = 0 then
    some ((Int32.ofInt (-2)), q1.2)
  else
    (F_X12_in N a2 (0 : Int32) (1 : Int32) q1.2).bind (fun q2 =>
    if q2.1 = 0 then
      some ((Int32.ofInt (-2)), q2.2)
    else
      (F_X12_findsWell N a1 q2.2).bind (fun q3 =>
      if a2 = 0 then
        some ((q3.2.1 12 59), q3.2)
      else
        some ((q3.2.1 12 60), q3.2))))
def F_X12_sheet_b70 (N : Nat)   : Nat → Int32 → Int32 → Mem → Option (Int32 × Mem)
  | 0, _, _, _ => none
  | n + 1, x1, x4, σ =>
    if (40 : Int32) ≤ x4 then
      some ((1 : Int32), σ)
    else
      if hwOut (((40 : Int32) * x1) + x4) 160 then none else
      (F_X12_sheet_b70 N n) x1 (x4 + (1 : Int32)) (σ.1, σ.2.1, (hwU3 σ.2.2.1 97 0 ((((40 : Int32) * x1) + x4)).toNatClampNeg (0 : Int32)), σ.2.2.2.1, σ.2.2.2.2)
def F_X12_sheet_b66 (N : Nat)   (x1 : Int32) (s0 : Int32) (s1 : Int32) (σ : Mem) : Option (Int32 × Mem) :=
  if hwOut s1 4 then none else
  (F_X12_sheet_b70 N N) x1 (0 : Int32) (σ.1, σ.2.1, (hwU3 σ.2.2.1 96 0 (s1).toNatClampNeg s0), σ.2.2.2.1, σ.2.2.2.2)
def F_X12_sheet_b44 (N : Nat)   (x1 : Int32) (x2 : Int32) (x3 : Int32) (σ : Mem) : Option (Int32 × Mem) :=
  if hwOut x1 4 then none else
  if x2 = (Int32.ofInt (-1)) then
    (F_X12_sheet_b66 N) x1 (0 : Int32) x1 (σ.1, σ.2.1, (hwU3 σ.2.2.1 95 0 (x1).toNatClampNeg x2), σ.2.2.2.1, σ.2.2.2.2)
  else
    (F_X12_sheet_b66 N) x1 x3 x1 (σ.1, σ.2.1, (hwU3 σ.2.2.1 95 0 (x1).toNatClampNeg x2), σ.2.2.2.1, σ.2.2.2.2)
def F_X12_sheet_b32 (N : Nat)   (x1 : Int32) (x2 : Int32) (x3 : Int32) (σ : Mem) : Option (Int32 × Mem) :=
  if x2 = (Int32.ofInt (-1)) then
    (F_X12_sheet_b44 N) x1 x2 x3 σ
  else
    if 0 ≤ x3 then
      (F_X12_sheet_b44 N) x1 x2 x3 σ
    else
      some ((Int32.ofInt (-14)), σ)
def F_X12_sheet (N : Nat)  (a1 : Int32) (a2 : Int32) (a3 : Int32) (σ : Mem) : Option (Int32 × Mem) :=
  (F_X12_in N a1 (0 : Int32) (3 : Int32) σ).bind (fun q1 =>
  if q1.1 = 0 then
    some ((Int32.ofInt (-2)), q1.2)
  else
    (F_X12_in N a2 (Int32.ofInt (-1)) (2 : Int32) q1.2).bind (fun q2 =>
    if q2.1 = 0 then
      some ((Int32.ofInt (-2)), q2.2)
    else
      if a2 = (Int32.ofInt (-1)) then
        (F_X12_sheet_b32 N) a1 a2 a3 q2.2
      else
        if a3 ≤ (40 : Int32) then
          (F_X12_sheet_b32 N) a1 a2 a3 q2.2
        else
          some ((Int32.ofInt (-2)), q2.2)))
def F_X12_taken (N : Nat)  (a1 : Int32) (a2 : Int32) (σ : Mem) : Option (Int32 × Mem) :=
  (F_X12_in N a2 (0 : Int32) (6 : Int32) σ).bind (fun q1 =>
  if q1.1 = 0 then
    some ((Int32.ofInt (-2)), q1.2)
  else
    (F_X12_in N a1 (0 : Int32) (12 : Int32) q1.2).bind (fun q2 =>
    if q2.1 = 0 then
      some ((Int32.ofInt (-12)), q2.2)
    else
      if (5 : Int32) ≤ a1 then
        if (a1 - (5 : Int32)) < (q2.2.1 12 16) then
          if (6 : Int32) ≤ a2 then
            some ((Int32.ofInt (-13)), q2.2)
          else
            if hwOut (a1 - (5 : Int32)) 8 then none else
            (F_X12_isUnder N (q2.2.2.2.1 81 0 ((a1 - (5 : Int32))).toNatClampNeg) a2 q2.2).bind (fun q3 =>
            if q3.1 = 0 then
              some ((Int32.ofInt (-13)), q3.2)
            else
              some ((a1 - (5 : Int32)), q3.2))
        else
          some ((Int32.ofInt (-11)), q2.2)
      else
        if a1 < (q2.2.1 12 5) then
          if a2 = (6 : Int32) then
            if hwOut a1 5 then none else
            some ((q2.2.2.2.1 72 0 (a1).toNatClampNeg), q2.2)
          else
            some ((Int32.ofInt (-13)), q2.2)
        else
          some ((Int32.ofInt (-11)), q2.2)))
def F_X12_text_b59 (N : Nat)  (k60 : Int32 → Int32 → Mem → Option (Int32 × Mem)) (x2 : Int32) (σ : Mem) : Option (Int32 × Mem) :=
  k60 x2 (0 : Int32) σ
def F_X12_text_b60 (N : Nat)  (k26 : Int32 → Int32 → Mem → Option (Int32 × Mem)) (x2 : Int32) (s0 : Int32) (σ : Mem) : Option (Int32 × Mem) :=
  if hwOut (((4 : Int32) * (σ.1 12 27)) + x2) 24 then none else
  if s0 = 0 then
    k26 (0 : Int32) (x2 + (1 : Int32)) (σ.1, σ.2.1, (hwU3 σ.2.2.1 88 0 ((((4 : Int32) * (σ.1 12 27)) + x2)).toNatClampNeg (σ.1 12 50)), σ.2.2.2.1, σ.2.2.2.2)
  else
    (F_X12_eRead N (σ.1, σ.2.1, (hwU3 σ.2.2.1 88 0 ((((4 : Int32) * (σ.1 12 27)) + x2)).toNatClampNeg (σ.1 12 50)), σ.2.2.2.1, σ.2.2.2.2)).bind (fun q2 =>
    if q2.1 = 0 then
      k26 (0 : Int32) (x2 + (1 : Int32)) q2.2
    else
      k26 (1 : Int32) (x2 + (1 : Int32)) q2.2)
def F_X12_text_b121 (N : Nat)  (k122 : Int32 → Mem → Option (Int32 × Mem)) (s0 : Int32) (σ : Mem) : Option (Int32 × Mem) :=
  k122 s0 σ
def F_X12_text_b122 (N : Nat)   (x1 : Int32) (σ : Mem) : Option (Int32 × Mem) :=
  if hwOut (((4 : Int32) * (σ.1 12 27)) + (3 : Int32)) 24 then none else
  if x1 = 0 then
    some (((Int32.ofInt (-100)) - (σ.1 12 43)), ((hwU2 σ.1 12 24 (0 : Int32)), σ.2.1, (hwU3 σ.2.2.1 88 0 ((((4 : Int32) * (σ.1 12 27)) + (3 : Int32))).toNatClampNeg (σ.1 12 50)), σ.2.2.2.1, σ.2.2.2.2))
  else
    some ((((σ.1 12 27) + (1 : Int32)) - (1 : Int32)), ((hwU2 (hwU2 σ.1 12 24 (0 : Int32)) 12 27 ((σ.1 12 27) + (1 : Int32))), σ.2.1, (hwU3 σ.2.2.1 88 0 ((((4 : Int32) * (σ.1 12 27)) + (3 : Int32))).toNatClampNeg (σ.1 12 50)), σ.2.2.2.1, σ.2.2.2.2))
def F_X12_text_b101 (N : Nat)   (x1 : Int32) (σ : Mem) : Option (Int32 × Mem) :=
  if x1 = 0 then
    (F_X12_text_b122 N) x1 σ
  else
    (F_X12_nextToken N σ).bind (fun q3 =>
    if (q3.2.1 12 44) = 0 then
      (F_X12_text_b121 N (F_X12_text_b122 N)) (1 : Int32) q3.2
    else
      (F_X12_text_b121 N (F_X12_text_b122 N)) (0 : Int32) q3.2)
def F_X12_text_b26 (N : Nat)   : Nat → Int32 → Int32 → Mem → Option (Int32 × Mem)
  | 0, _, _, _ => none
  | n + 1, x1, x2, σ =>
    if (3 : Int32) ≤ x2 then
      (F_X12_text_b101 N) x1 σ
    else
      if x1 = 0 then
        (F_X12_text_b101 N) x1 σ
      else
        (F_X12_nextToken N σ).bind (fun q1 =>
        if (q1.2.1 12 44) = (3 : Int32) then
          if (q1.2.1 12 45) = x2 then
            (F_X12_text_b60 N (F_X12_text_b26 N n)) x2 (1 : Int32) q1.2
          else
            (F_X12_text_b59 N (F_X12_text_b60 N (F_X12_text_b26 N n))) x2 q1.2
        else
          (F_X12_text_b59 N (F_X12_text_b60 N (F_X12_text_b26 N n))) x2 q1.2)
def F_X12_text (N : Nat)   (σ : Mem) : Option (Int32 × Mem) :=
  if (σ.1 12 27) = (6 : Int32) then
    some ((Int32.ofInt (-4)), σ)
  else
    (F_X12_text_b26 N N) (1 : Int32) (0 : Int32) ((hwU2 (hwU2 σ.1 12 42 (0 : Int32)) 12 50 (0 : Int32)), σ.2.1, σ.2.2.1, σ.2.2.2.1, σ.2.2.2.2)
def F_X12_think (N : Nat)  (a1 : Int32) (a2 : Int32) (σ : Mem) : Option (Int64 × Mem) :=
  (F_X12_isPlace N a1 σ).bind (fun q1 =>
  if q1.1 = 0 then
    some ((Int64.ofInt (-4611686018427387904)), q1.2)
  else
    (F_X12_isLayer N a2 q1.2).bind (fun q2 =>
    if q2.1 = 0 then
      some ((Int64.ofInt (-4611686018427387904)), q2.2)
    else
      (F_X12_thinks N a1 q2.2).bind (fun q3 =>
      if q3.1 = 0 then
        some ((Int64.ofInt (-3)), q3.2)
      else
        if hwOut a2 40 then none else
        some ((q3.2.2.2.2.1 102 0 (a2).toNatClampNeg), q3.2))))
def F_X12_ties (N : Nat)  (a1 : Int32) (a2 : Int32) (a3 : Int32) (σ : Mem) : Option (Int32 × Mem) :=
  (F_X12_isPlace N a1 σ).bind (fun q1 =>
  if q1.1 = 0 then
    some ((Int32.ofInt (-1)), q1.2)
  else
    (F_X12_isPlace N a2 q1.2).bind (fun q2 =>
    if q2.1 = 0 then
      some ((Int32.ofInt (-1)), q2.2)
    else
      if a1 = a2 then
        some ((Int32.ofInt (-1)), q2.2)
      else
        (F_X12_in N a3 (0 : Int32) (100 : Int32) q2.2).bind (fun q3 =>
        if q3.1 = 0 then
          some ((Int32.ofInt (-2)), q3.2)
        else
          if hwOut (((4 : Int32) * a1) + a2) 16 then none else
          if hwOut (((4 : Int32) * a1) + a2) 16 then none else
          if hwOut (((4 : Int32) * a2) + a1) 16 then none else
          some ((q3.2.2.2.1 80 0 ((((4 : Int32) * a1) + a2)).toNatClampNeg), (q3.2.1, q3.2.2.1, (hwU3 (hwU3 q3.2.2.2.1 80 0 ((((4 : Int32) * a1) + a2)).toNatClampNeg a3) 80 0 ((((4 : Int32) * a2) + a1)).toNatClampNeg a3), q3.2.2.2.2.1, q3.2.2.2.2.2)))))
def F_X12_told (N : Nat)  (a1 : Int32) (a2 : Int32) (σ : Mem) : Option (Int32 × Mem) :=
  (F_X12_isPlace N a1 σ).bind (fun q1 =>
  if q1.1 = 0 then
    some ((Int32.ofInt (-5)), q1.2)
  else
    if a2 = 0 then
      if hwOut a1 4 then none else
      some ((q1.2.2.2.1 77 0 (a1).toNatClampNeg), q1.2)
    else
      if a2 = (1 : Int32) then
        if hwOut a1 4 then none else
        some ((q1.2.2.2.1 78 0 (a1).toNatClampNeg), q1.2)
      else
        (F_X12_in N a2 (2 : Int32) (6 : Int32) q1.2).bind (fun q2 =>
        if q2.1 = 0 then
          (F_X12_in N a2 (7 : Int32) (11 : Int32) q2.2).bind (fun q3 =>
          if q3.1 = 0 then
            some ((Int32.ofInt (-7)), q3.2)
          else
            if hwOut ((((5 : Int32) * a1) + a2) - (7 : Int32)) 20 then none else
            some ((q3.2.2.2.1 76 0 (((((5 : Int32) * a1) + a2) - (7 : Int32))).toNatClampNeg), q3.2))
        else
          if hwOut a1 4 then none else
          if (q2.2.2.2.1 77 0 (a1).toNatClampNeg) ≤ (a2 - (2 : Int32)) then
            some ((Int32.ofInt (-1)), q2.2)
          else
            if hwOut ((((5 : Int32) * a1) + a2) - (2 : Int32)) 20 then none else
            some ((q2.2.2.2.1 79 0 (((((5 : Int32) * a1) + a2) - (2 : Int32))).toNatClampNeg), q2.2)))
def F_X12_undo_b90 (N : Nat)  (k44 : Int32 → Mem → Option (Int32 × Mem)) (x1 : Int32) (s0 : Int32) (s1 : Int32) (σ : Mem) : Option (Int32 × Mem) :=
  if hwOut s1 25 then none else
  k44 (x1 + (1 : Int32)) (σ.1, σ.2.1, (hwU3 σ.2.2.1 75 0 (s1).toNatClampNeg s0), σ.2.2.2.1, σ.2.2.2.2)
def F_X12_undo_b84 (N : Nat)  (k90 : Int32 → Int32 → Int32 → Mem → Option (Int32 × Mem)) (x1 : Int32) (s0 : Int32) (σ : Mem) : Option (Int32 × Mem) :=
  if hwOut x1 25 then none else
  k90 x1 (σ.2.2.1 75 0 (x1).toNatClampNeg) s0 σ
def F_X12_undo_b166 (N : Nat)  (k99 : Int32 → Mem → Option (Int32 × Mem)) : Nat → Int32 → Int32 → Mem → Option (Int32 × Mem)
  | 0, _, _, _ => none
  | n + 1, x1, x2, σ =>
    if (σ.1 12 30) ≤ x2 then
      k99 (x1 + (1 : Int32)) σ
    else
      if hwOut (((4 : Int32) * x1) + x2) 16 then none else
      if hwOut (((4 : Int32) * x1) + x2) 16 then none else
      (F_X12_undo_b166 N k99 n) x1 (x2 + (1 : Int32)) (σ.1, σ.2.1, (hwU3 σ.2.2.1 80 0 ((((4 : Int32) * x1) + x2)).toNatClampNeg (σ.2.2.1 94 0 ((((4 : Int32) * x1) + x2)).toNatClampNeg)), σ.2.2.2.1, σ.2.2.2.2)
def F_X12_undo_b133 (N : Nat)  (k99 : Int32 → Mem → Option (Int32 × Mem)) : Nat → Int32 → Int32 → Mem → Option (Int32 × Mem)
  | 0, _, _, _ => none
  | n + 1, x1, x2, σ =>
    if (5 : Int32) ≤ x2 then
      (F_X12_undo_b166 N k99 N) x1 (0 : Int32) σ
    else
      if hwOut (((5 : Int32) * x1) + x2) 20 then none else
      if hwOut (((5 : Int32) * x1) + x2) 20 then none else
      (F_X12_undo_b133 N k99 n) x1 (x2 + (1 : Int32)) (σ.1, σ.2.1, (hwU3 σ.2.2.1 79 0 ((((5 : Int32) * x1) + x2)).toNatClampNeg (σ.2.2.1 93 0 ((((5 : Int32) * x1) + x2)).toNatClampNeg)), σ.2.2.2.1, σ.2.2.2.2)
def F_X12_undo_b99 (N : Nat)   : Nat → Int32 → Mem → Option (Int32 × Mem)
  | 0, _, _ => none
  | n + 1, x1, σ =>
    if (σ.1 12 30) ≤ x1 then
      some ((σ.1 12 10), σ)
    else
      if hwOut x1 4 then none else
      if hwOut x1 4 then none else
      if hwOut x1 4 then none else
      if hwOut x1 4 then none else
      (F_X12_undo_b133 N (F_X12_undo_b99 N n) N) x1 (0 : Int32) (σ.1, σ.2.1, (hwU3 (hwU3 σ.2.2.1 77 0 (x1).toNatClampNeg (σ.2.2.1 91 0 (x1).toNatClampNeg)) 78 0 (x1).toNatClampNeg (σ.2.2.1 92 0 (x1).toNatClampNeg)), σ.2.2.2.1, σ.2.2.2.2)
def F_X12_undo_b44 (N : Nat)   : Nat → Int32 → Mem → Option (Int32 × Mem)
  | 0, _, _ => none
  | n + 1, x1, σ =>
    if (25 : Int32) ≤ x1 then
      (F_X12_undo_b99 N N) (0 : Int32) σ
    else
      if (σ.1 12 34) ≤ (x1 / (5 : Int32)) then
        (F_X12_undo_b84 N (F_X12_undo_b90 N (F_X12_undo_b44 N n))) x1 x1 σ
      else
        if (σ.1 12 34) ≤ (x1 - x1 / (5 : Int32) * (5 : Int32)) then
          (F_X12_undo_b84 N (F_X12_undo_b90 N (F_X12_undo_b44 N n))) x1 x1 σ
        else
          if hwOut x1 25 then none else
          (F_X12_undo_b90 N (F_X12_undo_b44 N n)) x1 (σ.2.2.1 90 0 (x1).toNatClampNeg) x1 σ
def F_X12_undo_b20 (N : Nat)   : Nat → Int32 → Mem → Option (Int32 × Mem)
  | 0, _, _ => none
  | n + 1, x1, σ =>
    if (5 : Int32) ≤ x1 then
      (F_X12_undo_b44 N N) (0 : Int32) σ
    else
      if hwOut x1 5 then none else
      (F_X12_holds N x1 (σ.2.2.1 89 0 (x1).toNatClampNeg) σ).bind (fun q1 =>
      (F_X12_undo_b20 N n) (x1 + (1 : Int32)) q1.2)
def F_X12_undo (N : Nat)   (σ : Mem) : Option (Int32 × Mem) :=
  if (σ.1 12 29) = 0 then
    some ((Int32.ofInt (-3)), σ)
  else
    (F_X12_undo_b20 N N) (0 : Int32) ((hwU2 σ.1 12 28 (σ.1 12 31)), σ.2.1, σ.2.2.1, σ.2.2.2.1, σ.2.2.2.2)

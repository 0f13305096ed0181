/-! THE PURE SIDE, 58: the law, case by case -/
theorem lg_self (r : Int64) : lg_cmp r r = 0 := by
  have n : ¬ r < r := fun q => by have := Int64.lt_iff_toInt_lt.mp q; omega
  unfold lg_cmp
  simp [n]
theorem lw_go {α : Type} [DecidableEq α] {F1 F2 : Mem → Option (α × Mem)} {σ : Mem} (t : Ac F1 F2 σ) (hd : Wd σ) {G : Mem → Option (Int32 × Mem)} {k : α × Mem → Option (Int32 × Mem)} (hk : ∀ r τ, τ.2.2.2.2 = σ.2.2.2.2 → k (r, τ) = (F2 τ).bind (fun q2 => if r = q2.1 then G q2.2 else some ((0 : Int32), q2.2))) (ih : ∀ τ, τ.2.2.2.2 = σ.2.2.2.2 → Ag τ → Wd τ → ∃ υ, G τ = some (1, υ)) : ∃ υ, (F1 σ).bind k = some (1, υ) := by
  obtain ⟨r, τ1, τ2, e1, e2, s1, s2, w, ag⟩ := t
  have hd2 : Wd τ2 := by unfold Wd; rw [w]; exact hd
  obtain ⟨υ, e⟩ := ih τ2 s2 ag hd2
  refine ⟨υ, ?_⟩
  rw [e1, Option.bind_some, hk r τ1 s1, e2, Option.bind_some, if_pos rfl]
  exact e
theorem lw_goL {F1 F2 : Mem → Option (Int64 × Mem)} {σ : Mem} (t : Ac F1 F2 σ) (hd : Wd σ) {G : Mem → Option (Int32 × Mem)} {k : Int64 × Mem → Option (Int32 × Mem)} (hk : ∀ r τ, τ.2.2.2.2 = σ.2.2.2.2 → k (r, τ) = (F2 τ).bind (fun q2 => if lg_cmp r q2.1 = 0 then G q2.2 else some ((0 : Int32), q2.2))) (ih : ∀ τ, τ.2.2.2.2 = σ.2.2.2.2 → Ag τ → Wd τ → ∃ υ, G τ = some (1, υ)) : ∃ υ, (F1 σ).bind k = some (1, υ) := by
  obtain ⟨r, τ1, τ2, e1, e2, s1, s2, w, ag⟩ := t
  have hd2 : Wd τ2 := by unfold Wd; rw [w]; exact hd
  obtain ⟨υ, e⟩ := ih τ2 s2 ag hd2
  refine ⟨υ, ?_⟩
  rw [e1, Option.bind_some, hk r τ1 s1, e2, Option.bind_some, if_pos (lg_self r)]
  exact e
def lwC_0 (N : Nat) (G : Int32 → Mem → Option (Int32 × Mem)) (x3 : Int32) (σ : Mem) : Option (Int32 × Mem) :=
  if hwOut (x3 + (1 : Int32)) σ.2.2.2.2.1 then none else
  if hwOut (x3 + (2 : Int32)) σ.2.2.2.2.1 then none else
  if hwOut (x3 + (3 : Int32)) σ.2.2.2.2.1 then none else
  (F_X11_layer N (σ.2.2.2.2.2 ((x3 + (1 : Int32))).toNatClampNeg) (σ.2.2.2.2.2 ((x3 + (2 : Int32))).toNatClampNeg) (σ.2.2.2.2.2 ((x3 + (3 : Int32))).toNatClampNeg) σ).bind (fun q1 =>
  if hwOut (x3 + (1 : Int32)) q1.2.2.2.2.2.1 then none else
  if hwOut (x3 + (2 : Int32)) q1.2.2.2.2.2.1 then none else
  if hwOut (x3 + (3 : Int32)) q1.2.2.2.2.2.1 then none else
  (F_X12_layer N (q1.2.2.2.2.2.2 ((x3 + (1 : Int32))).toNatClampNeg) (q1.2.2.2.2.2.2 ((x3 + (2 : Int32))).toNatClampNeg) (q1.2.2.2.2.2.2 ((x3 + (3 : Int32))).toNatClampNeg) q1.2).bind (fun q2 =>
  if q1.1 = q2.1 then
    G (x3 + (6 : Int32)) q2.2
  else
    some ((0 : Int32), q2.2)))
theorem lwc_0 (N : Nat) (hN : 200 ≤ N) (G : Int32 → Mem → Option (Int32 × Mem)) (x3 : Int32) (σ : Mem) (h : Ag σ) (hd : Wd σ) (o : ∀ j : Nat, j < 6 → ¬ hwOut (x3 + nI j) σ.2.2.2.2.1) (ih : ∀ τ, τ.2.2.2.2 = σ.2.2.2.2 → Ag τ → Wd τ → ∃ υ, G (x3 + 6) τ = some (1, υ)) : ∃ υ, lwC_0 N G x3 σ = some (1, υ) := by
  unfold lwC_0
  have o1 : ¬ hwOut (x3 + (1 : Int32)) σ.2.2.2.2.1 := o 1 (by decide)
  have o2 : ¬ hwOut (x3 + (2 : Int32)) σ.2.2.2.2.1 := o 2 (by decide)
  have o3 : ¬ hwOut (x3 + (3 : Int32)) σ.2.2.2.2.1 := o 3 (by decide)
  rw [if_neg o1, if_neg o2, if_neg o3]
  refine lw_go (Tw.ac h (w_layer N (by omega) h.2 (σ.2.2.2.2.2 ((x3 + (1 : Int32))).toNatClampNeg) (σ.2.2.2.2.2 ((x3 + (2 : Int32))).toNatClampNeg) (σ.2.2.2.2.2 ((x3 + (3 : Int32))).toNatClampNeg))) hd (fun r τ e => ?_) ih
  dsimp only
  rw [e, if_neg o1, if_neg o2, if_neg o3]
def lwC_1 (N : Nat) (G : Int32 → Mem → Option (Int32 × Mem)) (x3 : Int32) (σ : Mem) : Option (Int32 × Mem) :=
  if hwOut (x3 + (1 : Int32)) σ.2.2.2.2.1 then none else
  if hwOut (x3 + (2 : Int32)) σ.2.2.2.2.1 then none else
  if hwOut (x3 + (3 : Int32)) σ.2.2.2.2.1 then none else
  (F_X11_follow N (σ.2.2.2.2.2 ((x3 + (1 : Int32))).toNatClampNeg) (σ.2.2.2.2.2 ((x3 + (2 : Int32))).toNatClampNeg) (σ.2.2.2.2.2 ((x3 + (3 : Int32))).toNatClampNeg) σ).bind (fun q3 =>
  if hwOut (x3 + (1 : Int32)) q3.2.2.2.2.2.1 then none else
  if hwOut (x3 + (2 : Int32)) q3.2.2.2.2.2.1 then none else
  if hwOut (x3 + (3 : Int32)) q3.2.2.2.2.2.1 then none else
  (F_X12_follow N (q3.2.2.2.2.2.2 ((x3 + (1 : Int32))).toNatClampNeg) (q3.2.2.2.2.2.2 ((x3 + (2 : Int32))).toNatClampNeg) (q3.2.2.2.2.2.2 ((x3 + (3 : Int32))).toNatClampNeg) q3.2).bind (fun q4 =>
  if q3.1 = q4.1 then
    G (x3 + (6 : Int32)) q4.2
  else
    some ((0 : Int32), q4.2)))
theorem lwc_1 (N : Nat) (hN : 200 ≤ N) (G : Int32 → Mem → Option (Int32 × Mem)) (x3 : Int32) (σ : Mem) (h : Ag σ) (hd : Wd σ) (o : ∀ j : Nat, j < 6 → ¬ hwOut (x3 + nI j) σ.2.2.2.2.1) (ih : ∀ τ, τ.2.2.2.2 = σ.2.2.2.2 → Ag τ → Wd τ → ∃ υ, G (x3 + 6) τ = some (1, υ)) : ∃ υ, lwC_1 N G x3 σ = some (1, υ) := by
  unfold lwC_1
  have o1 : ¬ hwOut (x3 + (1 : Int32)) σ.2.2.2.2.1 := o 1 (by decide)
  have o2 : ¬ hwOut (x3 + (2 : Int32)) σ.2.2.2.2.1 := o 2 (by decide)
  have o3 : ¬ hwOut (x3 + (3 : Int32)) σ.2.2.2.2.1 := o 3 (by decide)
  rw [if_neg o1, if_neg o2, if_neg o3]
  refine lw_go (Tw.ac h (w_follow N h.2 (σ.2.2.2.2.2 ((x3 + (1 : Int32))).toNatClampNeg) (σ.2.2.2.2.2 ((x3 + (2 : Int32))).toNatClampNeg) (σ.2.2.2.2.2 ((x3 + (3 : Int32))).toNatClampNeg))) hd (fun r τ e => ?_) ih
  dsimp only
  rw [e, if_neg o1, if_neg o2, if_neg o3]
def lwC_2 (N : Nat) (G : Int32 → Mem → Option (Int32 × Mem)) (x3 : Int32) (σ : Mem) : Option (Int32 × Mem) :=
  if hwOut (x3 + (1 : Int32)) σ.2.2.2.2.1 then none else
  if hwOut (x3 + (2 : Int32)) σ.2.2.2.2.1 then none else
  (F_X11_set N (σ.2.2.2.2.2 ((x3 + (1 : Int32))).toNatClampNeg) (σ.2.2.2.2.2 ((x3 + (2 : Int32))).toNatClampNeg) σ).bind (fun q5 =>
  if hwOut (x3 + (1 : Int32)) q5.2.2.2.2.2.1 then none else
  if hwOut (x3 + (2 : Int32)) q5.2.2.2.2.2.1 then none else
  (F_X12_set N (q5.2.2.2.2.2.2 ((x3 + (1 : Int32))).toNatClampNeg) (q5.2.2.2.2.2.2 ((x3 + (2 : Int32))).toNatClampNeg) q5.2).bind (fun q6 =>
  if q5.1 = q6.1 then
    G (x3 + (6 : Int32)) q6.2
  else
    some ((0 : Int32), q6.2)))
theorem lwc_2 (N : Nat) (hN : 200 ≤ N) (G : Int32 → Mem → Option (Int32 × Mem)) (x3 : Int32) (σ : Mem) (h : Ag σ) (hd : Wd σ) (o : ∀ j : Nat, j < 6 → ¬ hwOut (x3 + nI j) σ.2.2.2.2.1) (ih : ∀ τ, τ.2.2.2.2 = σ.2.2.2.2 → Ag τ → Wd τ → ∃ υ, G (x3 + 6) τ = some (1, υ)) : ∃ υ, lwC_2 N G x3 σ = some (1, υ) := by
  unfold lwC_2
  have o1 : ¬ hwOut (x3 + (1 : Int32)) σ.2.2.2.2.1 := o 1 (by decide)
  have o2 : ¬ hwOut (x3 + (2 : Int32)) σ.2.2.2.2.1 := o 2 (by decide)
  rw [if_neg o1, if_neg o2]
  refine lw_go (Tw.ac h (w_set N (by omega) h.2 (σ.2.2.2.2.2 ((x3 + (1 : Int32))).toNatClampNeg) (σ.2.2.2.2.2 ((x3 + (2 : Int32))).toNatClampNeg))) hd (fun r τ e => ?_) ih
  dsimp only
  rw [e, if_neg o1, if_neg o2]
def lwC_3 (N : Nat) (G : Int32 → Mem → Option (Int32 × Mem)) (x3 : Int32) (σ : Mem) : Option (Int32 × Mem) :=
  if hwOut (x3 + (1 : Int32)) σ.2.2.2.2.1 then none else
  (F_X11_count N (σ.2.2.2.2.2 ((x3 + (1 : Int32))).toNatClampNeg) σ).bind (fun q7 =>
  if hwOut (x3 + (1 : Int32)) q7.2.2.2.2.2.1 then none else
  (F_X12_count N (q7.2.2.2.2.2.2 ((x3 + (1 : Int32))).toNatClampNeg) q7.2).bind (fun q8 =>
  if q7.1 = q8.1 then
    G (x3 + (6 : Int32)) q8.2
  else
    some ((0 : Int32), q8.2)))
theorem lwc_3 (N : Nat) (hN : 200 ≤ N) (G : Int32 → Mem → Option (Int32 × Mem)) (x3 : Int32) (σ : Mem) (h : Ag σ) (hd : Wd σ) (o : ∀ j : Nat, j < 6 → ¬ hwOut (x3 + nI j) σ.2.2.2.2.1) (ih : ∀ τ, τ.2.2.2.2 = σ.2.2.2.2 → Ag τ → Wd τ → ∃ υ, G (x3 + 6) τ = some (1, υ)) : ∃ υ, lwC_3 N G x3 σ = some (1, υ) := by
  unfold lwC_3
  have o1 : ¬ hwOut (x3 + (1 : Int32)) σ.2.2.2.2.1 := o 1 (by decide)
  rw [if_neg o1]
  refine lw_go (c_count N (σ.2.2.2.2.2 ((x3 + (1 : Int32))).toNatClampNeg) σ h) hd (fun r τ e => ?_) ih
  dsimp only
  rw [e, if_neg o1]
def lwC_4 (N : Nat) (G : Int32 → Mem → Option (Int32 × Mem)) (x3 : Int32) (σ : Mem) : Option (Int32 × Mem) :=
  if hwOut (x3 + (1 : Int32)) σ.2.2.2.2.1 then none else
  if hwOut (x3 + (2 : Int32)) σ.2.2.2.2.1 then none else
  if hwOut (x3 + (3 : Int32)) σ.2.2.2.2.1 then none else
  (F_X11_feed N (((σ.2.2.2.2.2 ((x3 + (1 : Int32))).toNatClampNeg).toInt64 <<< (((32 : Int32)).toInt64 &&& 63)) ||| ((σ.2.2.2.2.2 ((x3 + (2 : Int32))).toNatClampNeg).toInt64 &&& (4294967295 : Int64))) (σ.2.2.2.2.2 ((x3 + (3 : Int32))).toNatClampNeg) σ).bind (fun q9 =>
  if hwOut (x3 + (1 : Int32)) q9.2.2.2.2.2.1 then none else
  if hwOut (x3 + (2 : Int32)) q9.2.2.2.2.2.1 then none else
  if hwOut (x3 + (3 : Int32)) q9.2.2.2.2.2.1 then none else
  (F_X12_feed N (((q9.2.2.2.2.2.2 ((x3 + (1 : Int32))).toNatClampNeg).toInt64 <<< (((32 : Int32)).toInt64 &&& 63)) ||| ((q9.2.2.2.2.2.2 ((x3 + (2 : Int32))).toNatClampNeg).toInt64 &&& (4294967295 : Int64))) (q9.2.2.2.2.2.2 ((x3 + (3 : Int32))).toNatClampNeg) q9.2).bind (fun q10 =>
  if q9.1 = q10.1 then
    G (x3 + (6 : Int32)) q10.2
  else
    some ((0 : Int32), q10.2)))
theorem lwc_4 (N : Nat) (hN : 200 ≤ N) (G : Int32 → Mem → Option (Int32 × Mem)) (x3 : Int32) (σ : Mem) (h : Ag σ) (hd : Wd σ) (o : ∀ j : Nat, j < 6 → ¬ hwOut (x3 + nI j) σ.2.2.2.2.1) (ih : ∀ τ, τ.2.2.2.2 = σ.2.2.2.2 → Ag τ → Wd τ → ∃ υ, G (x3 + 6) τ = some (1, υ)) : ∃ υ, lwC_4 N G x3 σ = some (1, υ) := by
  unfold lwC_4
  have o1 : ¬ hwOut (x3 + (1 : Int32)) σ.2.2.2.2.1 := o 1 (by decide)
  have o2 : ¬ hwOut (x3 + (2 : Int32)) σ.2.2.2.2.1 := o 2 (by decide)
  have o3 : ¬ hwOut (x3 + (3 : Int32)) σ.2.2.2.2.1 := o 3 (by decide)
  rw [if_neg o1, if_neg o2, if_neg o3]
  refine lw_go (Tw.ac h (w_feed N (by omega) h.2 (((σ.2.2.2.2.2 ((x3 + (1 : Int32))).toNatClampNeg).toInt64 <<< (((32 : Int32)).toInt64 &&& 63)) ||| ((σ.2.2.2.2.2 ((x3 + (2 : Int32))).toNatClampNeg).toInt64 &&& (4294967295 : Int64))) (σ.2.2.2.2.2 ((x3 + (3 : Int32))).toNatClampNeg))) hd (fun r τ e => ?_) ih
  dsimp only
  rw [e, if_neg o1, if_neg o2, if_neg o3]
def lwC_5 (N : Nat) (G : Int32 → Mem → Option (Int32 × Mem)) (x3 : Int32) (σ : Mem) : Option (Int32 × Mem) :=
  (F_X11_text N σ).bind (fun q11 =>
  (F_X12_text N q11.2).bind (fun q12 =>
  if q11.1 = q12.1 then
    G (x3 + (6 : Int32)) q12.2
  else
    some ((0 : Int32), q12.2)))
theorem lwc_5 (N : Nat) (hN : 200 ≤ N) (G : Int32 → Mem → Option (Int32 × Mem)) (x3 : Int32) (σ : Mem) (h : Ag σ) (hd : Wd σ) (o : ∀ j : Nat, j < 6 → ¬ hwOut (x3 + nI j) σ.2.2.2.2.1) (ih : ∀ τ, τ.2.2.2.2 = σ.2.2.2.2 → Ag τ → Wd τ → ∃ υ, G (x3 + 6) τ = some (1, υ)) : ∃ υ, lwC_5 N G x3 σ = some (1, υ) := by
  unfold lwC_5
  exact lw_go (c_text N hN σ h hd) hd (fun r τ e => rfl) ih
def lwC_6 (N : Nat) (G : Int32 → Mem → Option (Int32 × Mem)) (x3 : Int32) (σ : Mem) : Option (Int32 × Mem) :=
  if hwOut (x3 + (1 : Int32)) σ.2.2.2.2.1 then none else
  (F_X11_force N (σ.2.2.2.2.2 ((x3 + (1 : Int32))).toNatClampNeg) σ).bind (fun q13 =>
  if hwOut (x3 + (1 : Int32)) q13.2.2.2.2.2.1 then none else
  (F_X12_force N (q13.2.2.2.2.2.2 ((x3 + (1 : Int32))).toNatClampNeg) q13.2).bind (fun q14 =>
  if q13.1 = q14.1 then
    G (x3 + (6 : Int32)) q14.2
  else
    some ((0 : Int32), q14.2)))
theorem lwc_6 (N : Nat) (hN : 200 ≤ N) (G : Int32 → Mem → Option (Int32 × Mem)) (x3 : Int32) (σ : Mem) (h : Ag σ) (hd : Wd σ) (o : ∀ j : Nat, j < 6 → ¬ hwOut (x3 + nI j) σ.2.2.2.2.1) (ih : ∀ τ, τ.2.2.2.2 = σ.2.2.2.2 → Ag τ → Wd τ → ∃ υ, G (x3 + 6) τ = some (1, υ)) : ∃ υ, lwC_6 N G x3 σ = some (1, υ) := by
  unfold lwC_6
  have o1 : ¬ hwOut (x3 + (1 : Int32)) σ.2.2.2.2.1 := o 1 (by decide)
  rw [if_neg o1]
  refine lw_go (Tw.ac h (w_force N (by omega) h.2 (σ.2.2.2.2.2 ((x3 + (1 : Int32))).toNatClampNeg))) hd (fun r τ e => ?_) ih
  dsimp only
  rw [e, if_neg o1]
def lwC_7 (N : Nat) (G : Int32 → Mem → Option (Int32 × Mem)) (x3 : Int32) (σ : Mem) : Option (Int32 × Mem) :=
  if hwOut (x3 + (1 : Int32)) σ.2.2.2.2.1 then none else
  if hwOut (x3 + (2 : Int32)) σ.2.2.2.2.1 then none else
  if hwOut (x3 + (3 : Int32)) σ.2.2.2.2.1 then none else
  if hwOut (x3 + (4 : Int32)) σ.2.2.2.2.1 then none else
  (F_X11_asks N (σ.2.2.2.2.2 ((x3 + (1 : Int32))).toNatClampNeg) (σ.2.2.2.2.2 ((x3 + (2 : Int32))).toNatClampNeg) (σ.2.2.2.2.2 ((x3 + (3 : Int32))).toNatClampNeg) (σ.2.2.2.2.2 ((x3 + (4 : Int32))).toNatClampNeg) σ).bind (fun q15 =>
  if hwOut (x3 + (1 : Int32)) q15.2.2.2.2.2.1 then none else
  if hwOut (x3 + (2 : Int32)) q15.2.2.2.2.2.1 then none else
  if hwOut (x3 + (3 : Int32)) q15.2.2.2.2.2.1 then none else
  if hwOut (x3 + (4 : Int32)) q15.2.2.2.2.2.1 then none else
  (F_X12_asks N (q15.2.2.2.2.2.2 ((x3 + (1 : Int32))).toNatClampNeg) (q15.2.2.2.2.2.2 ((x3 + (2 : Int32))).toNatClampNeg) (q15.2.2.2.2.2.2 ((x3 + (3 : Int32))).toNatClampNeg) (q15.2.2.2.2.2.2 ((x3 + (4 : Int32))).toNatClampNeg) q15.2).bind (fun q16 =>
  if q15.1 = q16.1 then
    G (x3 + (6 : Int32)) q16.2
  else
    some ((0 : Int32), q16.2)))
theorem lwc_7 (N : Nat) (hN : 200 ≤ N) (G : Int32 → Mem → Option (Int32 × Mem)) (x3 : Int32) (σ : Mem) (h : Ag σ) (hd : Wd σ) (o : ∀ j : Nat, j < 6 → ¬ hwOut (x3 + nI j) σ.2.2.2.2.1) (ih : ∀ τ, τ.2.2.2.2 = σ.2.2.2.2 → Ag τ → Wd τ → ∃ υ, G (x3 + 6) τ = some (1, υ)) : ∃ υ, lwC_7 N G x3 σ = some (1, υ) := by
  unfold lwC_7
  have o1 : ¬ hwOut (x3 + (1 : Int32)) σ.2.2.2.2.1 := o 1 (by decide)
  have o2 : ¬ hwOut (x3 + (2 : Int32)) σ.2.2.2.2.1 := o 2 (by decide)
  have o3 : ¬ hwOut (x3 + (3 : Int32)) σ.2.2.2.2.1 := o 3 (by decide)
  have o4 : ¬ hwOut (x3 + (4 : Int32)) σ.2.2.2.2.1 := o 4 (by decide)
  rw [if_neg o1, if_neg o2, if_neg o3, if_neg o4]
  refine lw_go (c_asks N (by omega) (σ.2.2.2.2.2 ((x3 + (1 : Int32))).toNatClampNeg) (σ.2.2.2.2.2 ((x3 + (2 : Int32))).toNatClampNeg) (σ.2.2.2.2.2 ((x3 + (3 : Int32))).toNatClampNeg) (σ.2.2.2.2.2 ((x3 + (4 : Int32))).toNatClampNeg) σ h) hd (fun r τ e => ?_) ih
  dsimp only
  rw [e, if_neg o1, if_neg o2, if_neg o3, if_neg o4]
def lwC_8 (N : Nat) (G : Int32 → Mem → Option (Int32 × Mem)) (x3 : Int32) (σ : Mem) : Option (Int32 × Mem) :=
  if hwOut (x3 + (1 : Int32)) σ.2.2.2.2.1 then none else
  (F_X11_place N (σ.2.2.2.2.2 ((x3 + (1 : Int32))).toNatClampNeg) σ).bind (fun q17 =>
  if hwOut (x3 + (1 : Int32)) q17.2.2.2.2.2.1 then none else
  (F_X12_place N (q17.2.2.2.2.2.2 ((x3 + (1 : Int32))).toNatClampNeg) q17.2).bind (fun q18 =>
  if q17.1 = q18.1 then
    G (x3 + (6 : Int32)) q18.2
  else
    some ((0 : Int32), q18.2)))
theorem lwc_8 (N : Nat) (hN : 200 ≤ N) (G : Int32 → Mem → Option (Int32 × Mem)) (x3 : Int32) (σ : Mem) (h : Ag σ) (hd : Wd σ) (o : ∀ j : Nat, j < 6 → ¬ hwOut (x3 + nI j) σ.2.2.2.2.1) (ih : ∀ τ, τ.2.2.2.2 = σ.2.2.2.2 → Ag τ → Wd τ → ∃ υ, G (x3 + 6) τ = some (1, υ)) : ∃ υ, lwC_8 N G x3 σ = some (1, υ) := by
  unfold lwC_8
  have o1 : ¬ hwOut (x3 + (1 : Int32)) σ.2.2.2.2.1 := o 1 (by decide)
  rw [if_neg o1]
  refine lw_go (Tw.ac h (w_place N (by omega) h.2 (σ.2.2.2.2.2 ((x3 + (1 : Int32))).toNatClampNeg))) hd (fun r τ e => ?_) ih
  dsimp only
  rw [e, if_neg o1]
def lwC_9 (N : Nat) (G : Int32 → Mem → Option (Int32 × Mem)) (x3 : Int32) (σ : Mem) : Option (Int32 × Mem) :=
  if hwOut (x3 + (1 : Int32)) σ.2.2.2.2.1 then none else
  if hwOut (x3 + (2 : Int32)) σ.2.2.2.2.1 then none else
  if hwOut (x3 + (3 : Int32)) σ.2.2.2.2.1 then none else
  (F_X11_ties N (σ.2.2.2.2.2 ((x3 + (1 : Int32))).toNatClampNeg) (σ.2.2.2.2.2 ((x3 + (2 : Int32))).toNatClampNeg) (σ.2.2.2.2.2 ((x3 + (3 : Int32))).toNatClampNeg) σ).bind (fun q19 =>
  if hwOut (x3 + (1 : Int32)) q19.2.2.2.2.2.1 then none else
  if hwOut (x3 + (2 : Int32)) q19.2.2.2.2.2.1 then none else
  if hwOut (x3 + (3 : Int32)) q19.2.2.2.2.2.1 then none else
  (F_X12_ties N (q19.2.2.2.2.2.2 ((x3 + (1 : Int32))).toNatClampNeg) (q19.2.2.2.2.2.2 ((x3 + (2 : Int32))).toNatClampNeg) (q19.2.2.2.2.2.2 ((x3 + (3 : Int32))).toNatClampNeg) q19.2).bind (fun q20 =>
  if q19.1 = q20.1 then
    G (x3 + (6 : Int32)) q20.2
  else
    some ((0 : Int32), q20.2)))
theorem lwc_9 (N : Nat) (hN : 200 ≤ N) (G : Int32 → Mem → Option (Int32 × Mem)) (x3 : Int32) (σ : Mem) (h : Ag σ) (hd : Wd σ) (o : ∀ j : Nat, j < 6 → ¬ hwOut (x3 + nI j) σ.2.2.2.2.1) (ih : ∀ τ, τ.2.2.2.2 = σ.2.2.2.2 → Ag τ → Wd τ → ∃ υ, G (x3 + 6) τ = some (1, υ)) : ∃ υ, lwC_9 N G x3 σ = some (1, υ) := by
  unfold lwC_9
  have o1 : ¬ hwOut (x3 + (1 : Int32)) σ.2.2.2.2.1 := o 1 (by decide)
  have o2 : ¬ hwOut (x3 + (2 : Int32)) σ.2.2.2.2.1 := o 2 (by decide)
  have o3 : ¬ hwOut (x3 + (3 : Int32)) σ.2.2.2.2.1 := o 3 (by decide)
  rw [if_neg o1, if_neg o2, if_neg o3]
  refine lw_go (Tw.ac h (w_ties N h.2 (σ.2.2.2.2.2 ((x3 + (1 : Int32))).toNatClampNeg) (σ.2.2.2.2.2 ((x3 + (2 : Int32))).toNatClampNeg) (σ.2.2.2.2.2 ((x3 + (3 : Int32))).toNatClampNeg))) hd (fun r τ e => ?_) ih
  dsimp only
  rw [e, if_neg o1, if_neg o2, if_neg o3]
def lwC_10 (N : Nat) (G : Int32 → Mem → Option (Int32 × Mem)) (x3 : Int32) (σ : Mem) : Option (Int32 × Mem) :=
  if hwOut (x3 + (1 : Int32)) σ.2.2.2.2.1 then none else
  if hwOut (x3 + (2 : Int32)) σ.2.2.2.2.1 then none else
  (F_X11_dig N (σ.2.2.2.2.2 ((x3 + (1 : Int32))).toNatClampNeg) (σ.2.2.2.2.2 ((x3 + (2 : Int32))).toNatClampNeg) σ).bind (fun q21 =>
  if hwOut (x3 + (1 : Int32)) q21.2.2.2.2.2.1 then none else
  if hwOut (x3 + (2 : Int32)) q21.2.2.2.2.2.1 then none else
  (F_X12_dig N (q21.2.2.2.2.2.2 ((x3 + (1 : Int32))).toNatClampNeg) (q21.2.2.2.2.2.2 ((x3 + (2 : Int32))).toNatClampNeg) q21.2).bind (fun q22 =>
  if q21.1 = q22.1 then
    G (x3 + (6 : Int32)) q22.2
  else
    some ((0 : Int32), q22.2)))
theorem lwc_10 (N : Nat) (hN : 200 ≤ N) (G : Int32 → Mem → Option (Int32 × Mem)) (x3 : Int32) (σ : Mem) (h : Ag σ) (hd : Wd σ) (o : ∀ j : Nat, j < 6 → ¬ hwOut (x3 + nI j) σ.2.2.2.2.1) (ih : ∀ τ, τ.2.2.2.2 = σ.2.2.2.2 → Ag τ → Wd τ → ∃ υ, G (x3 + 6) τ = some (1, υ)) : ∃ υ, lwC_10 N G x3 σ = some (1, υ) := by
  unfold lwC_10
  have o1 : ¬ hwOut (x3 + (1 : Int32)) σ.2.2.2.2.1 := o 1 (by decide)
  have o2 : ¬ hwOut (x3 + (2 : Int32)) σ.2.2.2.2.1 := o 2 (by decide)
  rw [if_neg o1, if_neg o2]
  refine lw_go (Tw.ac h (w_dig N h.2 (σ.2.2.2.2.2 ((x3 + (1 : Int32))).toNatClampNeg) (σ.2.2.2.2.2 ((x3 + (2 : Int32))).toNatClampNeg))) hd (fun r τ e => ?_) ih
  dsimp only
  rw [e, if_neg o1, if_neg o2]
def lwC_11 (N : Nat) (G : Int32 → Mem → Option (Int32 × Mem)) (x3 : Int32) (σ : Mem) : Option (Int32 × Mem) :=
  if hwOut (x3 + (1 : Int32)) σ.2.2.2.2.1 then none else
  (F_X11_fill N (σ.2.2.2.2.2 ((x3 + (1 : Int32))).toNatClampNeg) σ).bind (fun q23 =>
  if hwOut (x3 + (1 : Int32)) q23.2.2.2.2.2.1 then none else
  (F_X12_fill N (q23.2.2.2.2.2.2 ((x3 + (1 : Int32))).toNatClampNeg) q23.2).bind (fun q24 =>
  if q23.1 = q24.1 then
    G (x3 + (6 : Int32)) q24.2
  else
    some ((0 : Int32), q24.2)))
theorem lwc_11 (N : Nat) (hN : 200 ≤ N) (G : Int32 → Mem → Option (Int32 × Mem)) (x3 : Int32) (σ : Mem) (h : Ag σ) (hd : Wd σ) (o : ∀ j : Nat, j < 6 → ¬ hwOut (x3 + nI j) σ.2.2.2.2.1) (ih : ∀ τ, τ.2.2.2.2 = σ.2.2.2.2 → Ag τ → Wd τ → ∃ υ, G (x3 + 6) τ = some (1, υ)) : ∃ υ, lwC_11 N G x3 σ = some (1, υ) := by
  unfold lwC_11
  have o1 : ¬ hwOut (x3 + (1 : Int32)) σ.2.2.2.2.1 := o 1 (by decide)
  rw [if_neg o1]
  refine lw_go (Tw.ac h (w_fill N h.2 (σ.2.2.2.2.2 ((x3 + (1 : Int32))).toNatClampNeg))) hd (fun r τ e => ?_) ih
  dsimp only
  rw [e, if_neg o1]
def lwC_12 (N : Nat) (G : Int32 → Mem → Option (Int32 × Mem)) (x3 : Int32) (σ : Mem) : Option (Int32 × Mem) :=
  if hwOut (x3 + (1 : Int32)) σ.2.2.2.2.1 then none else
  if hwOut (x3 + (2 : Int32)) σ.2.2.2.2.1 then none else
  (F_X11_told N (σ.2.2.2.2.2 ((x3 + (1 : Int32))).toNatClampNeg) (σ.2.2.2.2.2 ((x3 + (2 : Int32))).toNatClampNeg) σ).bind (fun q25 =>
  if hwOut (x3 + (1 : Int32)) q25.2.2.2.2.2.1 then none else
  if hwOut (x3 + (2 : Int32)) q25.2.2.2.2.2.1 then none else
  (F_X12_told N (q25.2.2.2.2.2.2 ((x3 + (1 : Int32))).toNatClampNeg) (q25.2.2.2.2.2.2 ((x3 + (2 : Int32))).toNatClampNeg) q25.2).bind (fun q26 =>
  if q25.1 = q26.1 then
    G (x3 + (6 : Int32)) q26.2
  else
    some ((0 : Int32), q26.2)))
theorem lwc_12 (N : Nat) (hN : 200 ≤ N) (G : Int32 → Mem → Option (Int32 × Mem)) (x3 : Int32) (σ : Mem) (h : Ag σ) (hd : Wd σ) (o : ∀ j : Nat, j < 6 → ¬ hwOut (x3 + nI j) σ.2.2.2.2.1) (ih : ∀ τ, τ.2.2.2.2 = σ.2.2.2.2 → Ag τ → Wd τ → ∃ υ, G (x3 + 6) τ = some (1, υ)) : ∃ υ, lwC_12 N G x3 σ = some (1, υ) := by
  unfold lwC_12
  have o1 : ¬ hwOut (x3 + (1 : Int32)) σ.2.2.2.2.1 := o 1 (by decide)
  have o2 : ¬ hwOut (x3 + (2 : Int32)) σ.2.2.2.2.1 := o 2 (by decide)
  rw [if_neg o1, if_neg o2]
  refine lw_go (c_told N (σ.2.2.2.2.2 ((x3 + (1 : Int32))).toNatClampNeg) (σ.2.2.2.2.2 ((x3 + (2 : Int32))).toNatClampNeg) σ h) hd (fun r τ e => ?_) ih
  dsimp only
  rw [e, if_neg o1, if_neg o2]
def lwC_13 (N : Nat) (G : Int32 → Mem → Option (Int32 × Mem)) (x3 : Int32) (σ : Mem) : Option (Int32 × Mem) :=
  if hwOut (x3 + (1 : Int32)) σ.2.2.2.2.1 then none else
  if hwOut (x3 + (2 : Int32)) σ.2.2.2.2.1 then none else
  (F_X11_think N (σ.2.2.2.2.2 ((x3 + (1 : Int32))).toNatClampNeg) (σ.2.2.2.2.2 ((x3 + (2 : Int32))).toNatClampNeg) σ).bind (fun q27 =>
  if hwOut (x3 + (1 : Int32)) q27.2.2.2.2.2.1 then none else
  if hwOut (x3 + (2 : Int32)) q27.2.2.2.2.2.1 then none else
  (F_X12_think N (q27.2.2.2.2.2.2 ((x3 + (1 : Int32))).toNatClampNeg) (q27.2.2.2.2.2.2 ((x3 + (2 : Int32))).toNatClampNeg) q27.2).bind (fun q28 =>
  if (lg_cmp q27.1 q28.1) = 0 then
    G (x3 + (6 : Int32)) q28.2
  else
    some ((0 : Int32), q28.2)))
theorem lwc_13 (N : Nat) (hN : 200 ≤ N) (G : Int32 → Mem → Option (Int32 × Mem)) (x3 : Int32) (σ : Mem) (h : Ag σ) (hd : Wd σ) (o : ∀ j : Nat, j < 6 → ¬ hwOut (x3 + nI j) σ.2.2.2.2.1) (ih : ∀ τ, τ.2.2.2.2 = σ.2.2.2.2 → Ag τ → Wd τ → ∃ υ, G (x3 + 6) τ = some (1, υ)) : ∃ υ, lwC_13 N G x3 σ = some (1, υ) := by
  unfold lwC_13
  have o1 : ¬ hwOut (x3 + (1 : Int32)) σ.2.2.2.2.1 := o 1 (by decide)
  have o2 : ¬ hwOut (x3 + (2 : Int32)) σ.2.2.2.2.1 := o 2 (by decide)
  rw [if_neg o1, if_neg o2]
  refine lw_goL (c_think N (by omega) (σ.2.2.2.2.2 ((x3 + (1 : Int32))).toNatClampNeg) (σ.2.2.2.2.2 ((x3 + (2 : Int32))).toNatClampNeg) σ h) hd (fun r τ e => ?_) ih
  dsimp only
  rw [e, if_neg o1, if_neg o2]
def lwC_14 (N : Nat) (G : Int32 → Mem → Option (Int32 × Mem)) (x3 : Int32) (σ : Mem) : Option (Int32 × Mem) :=
  if hwOut (x3 + (1 : Int32)) σ.2.2.2.2.1 then none else
  (F_X11_likely N (σ.2.2.2.2.2 ((x3 + (1 : Int32))).toNatClampNeg) σ).bind (fun q29 =>
  if hwOut (x3 + (1 : Int32)) q29.2.2.2.2.2.1 then none else
  (F_X12_likely N (q29.2.2.2.2.2.2 ((x3 + (1 : Int32))).toNatClampNeg) q29.2).bind (fun q30 =>
  if (lg_cmp q29.1 q30.1) = 0 then
    G (x3 + (6 : Int32)) q30.2
  else
    some ((0 : Int32), q30.2)))
theorem lwc_14 (N : Nat) (hN : 200 ≤ N) (G : Int32 → Mem → Option (Int32 × Mem)) (x3 : Int32) (σ : Mem) (h : Ag σ) (hd : Wd σ) (o : ∀ j : Nat, j < 6 → ¬ hwOut (x3 + nI j) σ.2.2.2.2.1) (ih : ∀ τ, τ.2.2.2.2 = σ.2.2.2.2 → Ag τ → Wd τ → ∃ υ, G (x3 + 6) τ = some (1, υ)) : ∃ υ, lwC_14 N G x3 σ = some (1, υ) := by
  unfold lwC_14
  have o1 : ¬ hwOut (x3 + (1 : Int32)) σ.2.2.2.2.1 := o 1 (by decide)
  rw [if_neg o1]
  refine lw_goL (c_likely N (by omega) (σ.2.2.2.2.2 ((x3 + (1 : Int32))).toNatClampNeg) σ h) hd (fun r τ e => ?_) ih
  dsimp only
  rw [e, if_neg o1]
def lwC_15 (N : Nat) (G : Int32 → Mem → Option (Int32 × Mem)) (x3 : Int32) (σ : Mem) : Option (Int32 × Mem) :=
  if hwOut (x3 + (1 : Int32)) σ.2.2.2.2.1 then none else
  if hwOut (x3 + (2 : Int32)) σ.2.2.2.2.1 then none else
  (F_X11_judge N (σ.2.2.2.2.2 ((x3 + (1 : Int32))).toNatClampNeg) (σ.2.2.2.2.2 ((x3 + (2 : Int32))).toNatClampNeg) σ).bind (fun q31 =>
  if hwOut (x3 + (1 : Int32)) q31.2.2.2.2.2.1 then none else
  if hwOut (x3 + (2 : Int32)) q31.2.2.2.2.2.1 then none else
  (F_X12_judge N (q31.2.2.2.2.2.2 ((x3 + (1 : Int32))).toNatClampNeg) (q31.2.2.2.2.2.2 ((x3 + (2 : Int32))).toNatClampNeg) q31.2).bind (fun q32 =>
  if q31.1 = q32.1 then
    G (x3 + (6 : Int32)) q32.2
  else
    some ((0 : Int32), q32.2)))
theorem lwc_15 (N : Nat) (hN : 200 ≤ N) (G : Int32 → Mem → Option (Int32 × Mem)) (x3 : Int32) (σ : Mem) (h : Ag σ) (hd : Wd σ) (o : ∀ j : Nat, j < 6 → ¬ hwOut (x3 + nI j) σ.2.2.2.2.1) (ih : ∀ τ, τ.2.2.2.2 = σ.2.2.2.2 → Ag τ → Wd τ → ∃ υ, G (x3 + 6) τ = some (1, υ)) : ∃ υ, lwC_15 N G x3 σ = some (1, υ) := by
  unfold lwC_15
  have o1 : ¬ hwOut (x3 + (1 : Int32)) σ.2.2.2.2.1 := o 1 (by decide)
  have o2 : ¬ hwOut (x3 + (2 : Int32)) σ.2.2.2.2.1 := o 2 (by decide)
  rw [if_neg o1, if_neg o2]
  refine lw_go (c_judge N (by omega) (σ.2.2.2.2.2 ((x3 + (1 : Int32))).toNatClampNeg) (σ.2.2.2.2.2 ((x3 + (2 : Int32))).toNatClampNeg) σ h) hd (fun r τ e => ?_) ih
  dsimp only
  rw [e, if_neg o1, if_neg o2]
def lwC_16 (N : Nat) (G : Int32 → Mem → Option (Int32 × Mem)) (x3 : Int32) (σ : Mem) : Option (Int32 × Mem) :=
  if hwOut (x3 + (1 : Int32)) σ.2.2.2.2.1 then none else
  if hwOut (x3 + (2 : Int32)) σ.2.2.2.2.1 then none else
  (F_X11_row N (σ.2.2.2.2.2 ((x3 + (1 : Int32))).toNatClampNeg) (σ.2.2.2.2.2 ((x3 + (2 : Int32))).toNatClampNeg) σ).bind (fun q33 =>
  if hwOut (x3 + (1 : Int32)) q33.2.2.2.2.2.1 then none else
  if hwOut (x3 + (2 : Int32)) q33.2.2.2.2.2.1 then none else
  (F_X12_row N (q33.2.2.2.2.2.2 ((x3 + (1 : Int32))).toNatClampNeg) (q33.2.2.2.2.2.2 ((x3 + (2 : Int32))).toNatClampNeg) q33.2).bind (fun q34 =>
  if (lg_cmp q33.1 q34.1) = 0 then
    G (x3 + (6 : Int32)) q34.2
  else
    some ((0 : Int32), q34.2)))
theorem lwc_16 (N : Nat) (hN : 200 ≤ N) (G : Int32 → Mem → Option (Int32 × Mem)) (x3 : Int32) (σ : Mem) (h : Ag σ) (hd : Wd σ) (o : ∀ j : Nat, j < 6 → ¬ hwOut (x3 + nI j) σ.2.2.2.2.1) (ih : ∀ τ, τ.2.2.2.2 = σ.2.2.2.2 → Ag τ → Wd τ → ∃ υ, G (x3 + 6) τ = some (1, υ)) : ∃ υ, lwC_16 N G x3 σ = some (1, υ) := by
  unfold lwC_16
  have o1 : ¬ hwOut (x3 + (1 : Int32)) σ.2.2.2.2.1 := o 1 (by decide)
  have o2 : ¬ hwOut (x3 + (2 : Int32)) σ.2.2.2.2.1 := o 2 (by decide)
  rw [if_neg o1, if_neg o2]
  refine lw_goL (c_row N (by omega) (σ.2.2.2.2.2 ((x3 + (1 : Int32))).toNatClampNeg) (σ.2.2.2.2.2 ((x3 + (2 : Int32))).toNatClampNeg) σ h) hd (fun r τ e => ?_) ih
  dsimp only
  rw [e, if_neg o1, if_neg o2]
def lwC_17 (N : Nat) (G : Int32 → Mem → Option (Int32 × Mem)) (x3 : Int32) (σ : Mem) : Option (Int32 × Mem) :=
  if hwOut (x3 + (1 : Int32)) σ.2.2.2.2.1 then none else
  (F_X11_best N (σ.2.2.2.2.2 ((x3 + (1 : Int32))).toNatClampNeg) σ).bind (fun q35 =>
  if hwOut (x3 + (1 : Int32)) q35.2.2.2.2.2.1 then none else
  (F_X12_best N (q35.2.2.2.2.2.2 ((x3 + (1 : Int32))).toNatClampNeg) q35.2).bind (fun q36 =>
  if (lg_cmp q35.1 q36.1) = 0 then
    G (x3 + (6 : Int32)) q36.2
  else
    some ((0 : Int32), q36.2)))
theorem lwc_17 (N : Nat) (hN : 200 ≤ N) (G : Int32 → Mem → Option (Int32 × Mem)) (x3 : Int32) (σ : Mem) (h : Ag σ) (hd : Wd σ) (o : ∀ j : Nat, j < 6 → ¬ hwOut (x3 + nI j) σ.2.2.2.2.1) (ih : ∀ τ, τ.2.2.2.2 = σ.2.2.2.2 → Ag τ → Wd τ → ∃ υ, G (x3 + 6) τ = some (1, υ)) : ∃ υ, lwC_17 N G x3 σ = some (1, υ) := by
  unfold lwC_17
  have o1 : ¬ hwOut (x3 + (1 : Int32)) σ.2.2.2.2.1 := o 1 (by decide)
  rw [if_neg o1]
  refine lw_goL (c_best N (by omega) (σ.2.2.2.2.2 ((x3 + (1 : Int32))).toNatClampNeg) σ h) hd (fun r τ e => ?_) ih
  dsimp only
  rw [e, if_neg o1]
def lwC_18 (N : Nat) (G : Int32 → Mem → Option (Int32 × Mem)) (x3 : Int32) (σ : Mem) : Option (Int32 × Mem) :=
  if hwOut (x3 + (1 : Int32)) σ.2.2.2.2.1 then none else
  (F_X11_back N (σ.2.2.2.2.2 ((x3 + (1 : Int32))).toNatClampNeg) σ).bind (fun q37 =>
  if hwOut (x3 + (1 : Int32)) q37.2.2.2.2.2.1 then none else
  (F_X12_back N (q37.2.2.2.2.2.2 ((x3 + (1 : Int32))).toNatClampNeg) q37.2).bind (fun q38 =>
  if q37.1 = q38.1 then
    G (x3 + (6 : Int32)) q38.2
  else
    some ((0 : Int32), q38.2)))
theorem lwc_18 (N : Nat) (hN : 200 ≤ N) (G : Int32 → Mem → Option (Int32 × Mem)) (x3 : Int32) (σ : Mem) (h : Ag σ) (hd : Wd σ) (o : ∀ j : Nat, j < 6 → ¬ hwOut (x3 + nI j) σ.2.2.2.2.1) (ih : ∀ τ, τ.2.2.2.2 = σ.2.2.2.2 → Ag τ → Wd τ → ∃ υ, G (x3 + 6) τ = some (1, υ)) : ∃ υ, lwC_18 N G x3 σ = some (1, υ) := by
  unfold lwC_18
  have o1 : ¬ hwOut (x3 + (1 : Int32)) σ.2.2.2.2.1 := o 1 (by decide)
  rw [if_neg o1]
  refine lw_go (c_back N (by omega) (σ.2.2.2.2.2 ((x3 + (1 : Int32))).toNatClampNeg) σ h) hd (fun r τ e => ?_) ih
  dsimp only
  rw [e, if_neg o1]
def lwC_19 (N : Nat) (G : Int32 → Mem → Option (Int32 × Mem)) (x3 : Int32) (σ : Mem) : Option (Int32 × Mem) :=
  if hwOut (x3 + (1 : Int32)) σ.2.2.2.2.1 then none else
  (F_X11_index N (σ.2.2.2.2.2 ((x3 + (1 : Int32))).toNatClampNeg) σ).bind (fun q39 =>
  if hwOut (x3 + (1 : Int32)) q39.2.2.2.2.2.1 then none else
  (F_X12_index N (q39.2.2.2.2.2.2 ((x3 + (1 : Int32))).toNatClampNeg) q39.2).bind (fun q40 =>
  if q39.1 = q40.1 then
    G (x3 + (6 : Int32)) q40.2
  else
    some ((0 : Int32), q40.2)))
theorem lwc_19 (N : Nat) (hN : 200 ≤ N) (G : Int32 → Mem → Option (Int32 × Mem)) (x3 : Int32) (σ : Mem) (h : Ag σ) (hd : Wd σ) (o : ∀ j : Nat, j < 6 → ¬ hwOut (x3 + nI j) σ.2.2.2.2.1) (ih : ∀ τ, τ.2.2.2.2 = σ.2.2.2.2 → Ag τ → Wd τ → ∃ υ, G (x3 + 6) τ = some (1, υ)) : ∃ υ, lwC_19 N G x3 σ = some (1, υ) := by
  unfold lwC_19
  have o1 : ¬ hwOut (x3 + (1 : Int32)) σ.2.2.2.2.1 := o 1 (by decide)
  rw [if_neg o1]
  refine lw_go (c_index N (by omega) (σ.2.2.2.2.2 ((x3 + (1 : Int32))).toNatClampNeg) σ h) hd (fun r τ e => ?_) ih
  dsimp only
  rw [e, if_neg o1]
def lwC_20 (N : Nat) (G : Int32 → Mem → Option (Int32 × Mem)) (x3 : Int32) (σ : Mem) : Option (Int32 × Mem) :=
  (F_X11_next N σ).bind (fun q41 =>
  (F_X12_next N q41.2).bind (fun q42 =>
  if q41.1 = q42.1 then
    G (x3 + (6 : Int32)) q42.2
  else
    some ((0 : Int32), q42.2)))
theorem lwc_20 (N : Nat) (hN : 200 ≤ N) (G : Int32 → Mem → Option (Int32 × Mem)) (x3 : Int32) (σ : Mem) (h : Ag σ) (hd : Wd σ) (o : ∀ j : Nat, j < 6 → ¬ hwOut (x3 + nI j) σ.2.2.2.2.1) (ih : ∀ τ, τ.2.2.2.2 = σ.2.2.2.2 → Ag τ → Wd τ → ∃ υ, G (x3 + 6) τ = some (1, υ)) : ∃ υ, lwC_20 N G x3 σ = some (1, υ) := by
  unfold lwC_20
  exact lw_go (c_next N (by omega)  σ h) hd (fun r τ e => rfl) ih
def lwC_21 (N : Nat) (G : Int32 → Mem → Option (Int32 × Mem)) (x3 : Int32) (σ : Mem) : Option (Int32 × Mem) :=
  if hwOut (x3 + (1 : Int32)) σ.2.2.2.2.1 then none else
  if hwOut (x3 + (2 : Int32)) σ.2.2.2.2.1 then none else
  if hwOut (x3 + (3 : Int32)) σ.2.2.2.2.1 then none else
  (F_X11_rule N (σ.2.2.2.2.2 ((x3 + (1 : Int32))).toNatClampNeg) (σ.2.2.2.2.2 ((x3 + (2 : Int32))).toNatClampNeg) (σ.2.2.2.2.2 ((x3 + (3 : Int32))).toNatClampNeg) σ).bind (fun q43 =>
  if hwOut (x3 + (1 : Int32)) q43.2.2.2.2.2.1 then none else
  if hwOut (x3 + (2 : Int32)) q43.2.2.2.2.2.1 then none else
  if hwOut (x3 + (3 : Int32)) q43.2.2.2.2.2.1 then none else
  (F_X12_rule N (q43.2.2.2.2.2.2 ((x3 + (1 : Int32))).toNatClampNeg) (q43.2.2.2.2.2.2 ((x3 + (2 : Int32))).toNatClampNeg) (q43.2.2.2.2.2.2 ((x3 + (3 : Int32))).toNatClampNeg) q43.2).bind (fun q44 =>
  if q43.1 = q44.1 then
    G (x3 + (6 : Int32)) q44.2
  else
    some ((0 : Int32), q44.2)))
theorem lwc_21 (N : Nat) (hN : 200 ≤ N) (G : Int32 → Mem → Option (Int32 × Mem)) (x3 : Int32) (σ : Mem) (h : Ag σ) (hd : Wd σ) (o : ∀ j : Nat, j < 6 → ¬ hwOut (x3 + nI j) σ.2.2.2.2.1) (ih : ∀ τ, τ.2.2.2.2 = σ.2.2.2.2 → Ag τ → Wd τ → ∃ υ, G (x3 + 6) τ = some (1, υ)) : ∃ υ, lwC_21 N G x3 σ = some (1, υ) := by
  unfold lwC_21
  have o1 : ¬ hwOut (x3 + (1 : Int32)) σ.2.2.2.2.1 := o 1 (by decide)
  have o2 : ¬ hwOut (x3 + (2 : Int32)) σ.2.2.2.2.1 := o 2 (by decide)
  have o3 : ¬ hwOut (x3 + (3 : Int32)) σ.2.2.2.2.1 := o 3 (by decide)
  rw [if_neg o1, if_neg o2, if_neg o3]
  refine lw_go (Tw.ac h (w_rule N h.2 (σ.2.2.2.2.2 ((x3 + (1 : Int32))).toNatClampNeg) (σ.2.2.2.2.2 ((x3 + (2 : Int32))).toNatClampNeg) (σ.2.2.2.2.2 ((x3 + (3 : Int32))).toNatClampNeg))) hd (fun r τ e => ?_) ih
  dsimp only
  rw [e, if_neg o1, if_neg o2, if_neg o3]
def lwC_22 (N : Nat) (G : Int32 → Mem → Option (Int32 × Mem)) (x3 : Int32) (σ : Mem) : Option (Int32 × Mem) :=
  if hwOut (x3 + (1 : Int32)) σ.2.2.2.2.1 then none else
  if hwOut (x3 + (2 : Int32)) σ.2.2.2.2.1 then none else
  (F_X11_ruleTold N (σ.2.2.2.2.2 ((x3 + (1 : Int32))).toNatClampNeg) (σ.2.2.2.2.2 ((x3 + (2 : Int32))).toNatClampNeg) σ).bind (fun q45 =>
  if hwOut (x3 + (1 : Int32)) q45.2.2.2.2.2.1 then none else
  if hwOut (x3 + (2 : Int32)) q45.2.2.2.2.2.1 then none else
  (F_X12_ruleTold N (q45.2.2.2.2.2.2 ((x3 + (1 : Int32))).toNatClampNeg) (q45.2.2.2.2.2.2 ((x3 + (2 : Int32))).toNatClampNeg) q45.2).bind (fun q46 =>
  if q45.1 = q46.1 then
    G (x3 + (6 : Int32)) q46.2
  else
    some ((0 : Int32), q46.2)))
theorem lwc_22 (N : Nat) (hN : 200 ≤ N) (G : Int32 → Mem → Option (Int32 × Mem)) (x3 : Int32) (σ : Mem) (h : Ag σ) (hd : Wd σ) (o : ∀ j : Nat, j < 6 → ¬ hwOut (x3 + nI j) σ.2.2.2.2.1) (ih : ∀ τ, τ.2.2.2.2 = σ.2.2.2.2 → Ag τ → Wd τ → ∃ υ, G (x3 + 6) τ = some (1, υ)) : ∃ υ, lwC_22 N G x3 σ = some (1, υ) := by
  unfold lwC_22
  have o1 : ¬ hwOut (x3 + (1 : Int32)) σ.2.2.2.2.1 := o 1 (by decide)
  have o2 : ¬ hwOut (x3 + (2 : Int32)) σ.2.2.2.2.1 := o 2 (by decide)
  rw [if_neg o1, if_neg o2]
  refine lw_go (c_ruleTold N (σ.2.2.2.2.2 ((x3 + (1 : Int32))).toNatClampNeg) (σ.2.2.2.2.2 ((x3 + (2 : Int32))).toNatClampNeg) σ h) hd (fun r τ e => ?_) ih
  dsimp only
  rw [e, if_neg o1, if_neg o2]
def lwC_23 (N : Nat) (G : Int32 → Mem → Option (Int32 × Mem)) (x3 : Int32) (σ : Mem) : Option (Int32 × Mem) :=
  if hwOut (x3 + (1 : Int32)) σ.2.2.2.2.1 then none else
  if hwOut (x3 + (2 : Int32)) σ.2.2.2.2.1 then none else
  if hwOut (x3 + (3 : Int32)) σ.2.2.2.2.1 then none else
  (F_X11_mean N (σ.2.2.2.2.2 ((x3 + (1 : Int32))).toNatClampNeg) (σ.2.2.2.2.2 ((x3 + (2 : Int32))).toNatClampNeg) (σ.2.2.2.2.2 ((x3 + (3 : Int32))).toNatClampNeg) σ).bind (fun q47 =>
  if hwOut (x3 + (1 : Int32)) q47.2.2.2.2.2.1 then none else
  if hwOut (x3 + (2 : Int32)) q47.2.2.2.2.2.1 then none else
  if hwOut (x3 + (3 : Int32)) q47.2.2.2.2.2.1 then none else
  (F_X12_mean N (q47.2.2.2.2.2.2 ((x3 + (1 : Int32))).toNatClampNeg) (q47.2.2.2.2.2.2 ((x3 + (2 : Int32))).toNatClampNeg) (q47.2.2.2.2.2.2 ((x3 + (3 : Int32))).toNatClampNeg) q47.2).bind (fun q48 =>
  if (lg_cmp q47.1 q48.1) = 0 then
    G (x3 + (6 : Int32)) q48.2
  else
    some ((0 : Int32), q48.2)))
theorem lwc_23 (N : Nat) (hN : 200 ≤ N) (G : Int32 → Mem → Option (Int32 × Mem)) (x3 : Int32) (σ : Mem) (h : Ag σ) (hd : Wd σ) (o : ∀ j : Nat, j < 6 → ¬ hwOut (x3 + nI j) σ.2.2.2.2.1) (ih : ∀ τ, τ.2.2.2.2 = σ.2.2.2.2 → Ag τ → Wd τ → ∃ υ, G (x3 + 6) τ = some (1, υ)) : ∃ υ, lwC_23 N G x3 σ = some (1, υ) := by
  unfold lwC_23
  have o1 : ¬ hwOut (x3 + (1 : Int32)) σ.2.2.2.2.1 := o 1 (by decide)
  have o2 : ¬ hwOut (x3 + (2 : Int32)) σ.2.2.2.2.1 := o 2 (by decide)
  have o3 : ¬ hwOut (x3 + (3 : Int32)) σ.2.2.2.2.1 := o 3 (by decide)
  rw [if_neg o1, if_neg o2, if_neg o3]
  refine lw_goL (c_mean N (by omega) (σ.2.2.2.2.2 ((x3 + (1 : Int32))).toNatClampNeg) (σ.2.2.2.2.2 ((x3 + (2 : Int32))).toNatClampNeg) (σ.2.2.2.2.2 ((x3 + (3 : Int32))).toNatClampNeg) σ h) hd (fun r τ e => ?_) ih
  dsimp only
  rw [e, if_neg o1, if_neg o2, if_neg o3]
def lwC_24 (N : Nat) (G : Int32 → Mem → Option (Int32 × Mem)) (x3 : Int32) (σ : Mem) : Option (Int32 × Mem) :=
  if hwOut (x3 + (1 : Int32)) σ.2.2.2.2.1 then none else
  (F_X11_right N (σ.2.2.2.2.2 ((x3 + (1 : Int32))).toNatClampNeg) σ).bind (fun q49 =>
  if hwOut (x3 + (1 : Int32)) q49.2.2.2.2.2.1 then none else
  (F_X12_right N (q49.2.2.2.2.2.2 ((x3 + (1 : Int32))).toNatClampNeg) q49.2).bind (fun q50 =>
  if q49.1 = q50.1 then
    G (x3 + (6 : Int32)) q50.2
  else
    some ((0 : Int32), q50.2)))
theorem lwc_24 (N : Nat) (hN : 200 ≤ N) (G : Int32 → Mem → Option (Int32 × Mem)) (x3 : Int32) (σ : Mem) (h : Ag σ) (hd : Wd σ) (o : ∀ j : Nat, j < 6 → ¬ hwOut (x3 + nI j) σ.2.2.2.2.1) (ih : ∀ τ, τ.2.2.2.2 = σ.2.2.2.2 → Ag τ → Wd τ → ∃ υ, G (x3 + 6) τ = some (1, υ)) : ∃ υ, lwC_24 N G x3 σ = some (1, υ) := by
  unfold lwC_24
  have o1 : ¬ hwOut (x3 + (1 : Int32)) σ.2.2.2.2.1 := o 1 (by decide)
  rw [if_neg o1]
  refine lw_go (c_right N (by omega) (σ.2.2.2.2.2 ((x3 + (1 : Int32))).toNatClampNeg) σ h) hd (fun r τ e => ?_) ih
  dsimp only
  rw [e, if_neg o1]
def lwC_25 (N : Nat) (G : Int32 → Mem → Option (Int32 × Mem)) (x3 : Int32) (σ : Mem) : Option (Int32 × Mem) :=
  if hwOut (x3 + (1 : Int32)) σ.2.2.2.2.1 then none else
  if hwOut (x3 + (2 : Int32)) σ.2.2.2.2.1 then none else
  (F_X11_goesBy N (σ.2.2.2.2.2 ((x3 + (1 : Int32))).toNatClampNeg) (σ.2.2.2.2.2 ((x3 + (2 : Int32))).toNatClampNeg) σ).bind (fun q51 =>
  if hwOut (x3 + (1 : Int32)) q51.2.2.2.2.2.1 then none else
  if hwOut (x3 + (2 : Int32)) q51.2.2.2.2.2.1 then none else
  (F_X12_goesBy N (q51.2.2.2.2.2.2 ((x3 + (1 : Int32))).toNatClampNeg) (q51.2.2.2.2.2.2 ((x3 + (2 : Int32))).toNatClampNeg) q51.2).bind (fun q52 =>
  if q51.1 = q52.1 then
    G (x3 + (6 : Int32)) q52.2
  else
    some ((0 : Int32), q52.2)))
theorem lwc_25 (N : Nat) (hN : 200 ≤ N) (G : Int32 → Mem → Option (Int32 × Mem)) (x3 : Int32) (σ : Mem) (h : Ag σ) (hd : Wd σ) (o : ∀ j : Nat, j < 6 → ¬ hwOut (x3 + nI j) σ.2.2.2.2.1) (ih : ∀ τ, τ.2.2.2.2 = σ.2.2.2.2 → Ag τ → Wd τ → ∃ υ, G (x3 + 6) τ = some (1, υ)) : ∃ υ, lwC_25 N G x3 σ = some (1, υ) := by
  unfold lwC_25
  have o1 : ¬ hwOut (x3 + (1 : Int32)) σ.2.2.2.2.1 := o 1 (by decide)
  have o2 : ¬ hwOut (x3 + (2 : Int32)) σ.2.2.2.2.1 := o 2 (by decide)
  rw [if_neg o1, if_neg o2]
  refine lw_go (c_goesBy N (by omega) (σ.2.2.2.2.2 ((x3 + (1 : Int32))).toNatClampNeg) (σ.2.2.2.2.2 ((x3 + (2 : Int32))).toNatClampNeg) σ h) hd (fun r τ e => ?_) ih
  dsimp only
  rw [e, if_neg o1, if_neg o2]
def lwC_26 (N : Nat) (G : Int32 → Mem → Option (Int32 × Mem)) (x3 : Int32) (σ : Mem) : Option (Int32 × Mem) :=
  if hwOut (x3 + (1 : Int32)) σ.2.2.2.2.1 then none else
  if hwOut (x3 + (2 : Int32)) σ.2.2.2.2.1 then none else
  (F_X11_bore N (σ.2.2.2.2.2 ((x3 + (1 : Int32))).toNatClampNeg) (σ.2.2.2.2.2 ((x3 + (2 : Int32))).toNatClampNeg) σ).bind (fun q53 =>
  if hwOut (x3 + (1 : Int32)) q53.2.2.2.2.2.1 then none else
  if hwOut (x3 + (2 : Int32)) q53.2.2.2.2.2.1 then none else
  (F_X12_bore N (q53.2.2.2.2.2.2 ((x3 + (1 : Int32))).toNatClampNeg) (q53.2.2.2.2.2.2 ((x3 + (2 : Int32))).toNatClampNeg) q53.2).bind (fun q54 =>
  if (lg_cmp q53.1 q54.1) = 0 then
    G (x3 + (6 : Int32)) q54.2
  else
    some ((0 : Int32), q54.2)))
theorem lwc_26 (N : Nat) (hN : 200 ≤ N) (G : Int32 → Mem → Option (Int32 × Mem)) (x3 : Int32) (σ : Mem) (h : Ag σ) (hd : Wd σ) (o : ∀ j : Nat, j < 6 → ¬ hwOut (x3 + nI j) σ.2.2.2.2.1) (ih : ∀ τ, τ.2.2.2.2 = σ.2.2.2.2 → Ag τ → Wd τ → ∃ υ, G (x3 + 6) τ = some (1, υ)) : ∃ υ, lwC_26 N G x3 σ = some (1, υ) := by
  unfold lwC_26
  have o1 : ¬ hwOut (x3 + (1 : Int32)) σ.2.2.2.2.1 := o 1 (by decide)
  have o2 : ¬ hwOut (x3 + (2 : Int32)) σ.2.2.2.2.1 := o 2 (by decide)
  rw [if_neg o1, if_neg o2]
  refine lw_goL (c_bore N (by omega) (σ.2.2.2.2.2 ((x3 + (1 : Int32))).toNatClampNeg) (σ.2.2.2.2.2 ((x3 + (2 : Int32))).toNatClampNeg) σ h) hd (fun r τ e => ?_) ih
  dsimp only
  rw [e, if_neg o1, if_neg o2]
def lwC_27 (N : Nat) (G : Int32 → Mem → Option (Int32 × Mem)) (x3 : Int32) (σ : Mem) : Option (Int32 × Mem) :=
  if hwOut (x3 + (1 : Int32)) σ.2.2.2.2.1 then none else
  if hwOut (x3 + (2 : Int32)) σ.2.2.2.2.1 then none else
  (F_X11_far N (σ.2.2.2.2.2 ((x3 + (1 : Int32))).toNatClampNeg) (σ.2.2.2.2.2 ((x3 + (2 : Int32))).toNatClampNeg) σ).bind (fun q55 =>
  if hwOut (x3 + (1 : Int32)) q55.2.2.2.2.2.1 then none else
  if hwOut (x3 + (2 : Int32)) q55.2.2.2.2.2.1 then none else
  (F_X12_far N (q55.2.2.2.2.2.2 ((x3 + (1 : Int32))).toNatClampNeg) (q55.2.2.2.2.2.2 ((x3 + (2 : Int32))).toNatClampNeg) q55.2).bind (fun q56 =>
  if q55.1 = q56.1 then
    G (x3 + (6 : Int32)) q56.2
  else
    some ((0 : Int32), q56.2)))
theorem lwc_27 (N : Nat) (hN : 200 ≤ N) (G : Int32 → Mem → Option (Int32 × Mem)) (x3 : Int32) (σ : Mem) (h : Ag σ) (hd : Wd σ) (o : ∀ j : Nat, j < 6 → ¬ hwOut (x3 + nI j) σ.2.2.2.2.1) (ih : ∀ τ, τ.2.2.2.2 = σ.2.2.2.2 → Ag τ → Wd τ → ∃ υ, G (x3 + 6) τ = some (1, υ)) : ∃ υ, lwC_27 N G x3 σ = some (1, υ) := by
  unfold lwC_27
  have o1 : ¬ hwOut (x3 + (1 : Int32)) σ.2.2.2.2.1 := o 1 (by decide)
  have o2 : ¬ hwOut (x3 + (2 : Int32)) σ.2.2.2.2.1 := o 2 (by decide)
  rw [if_neg o1, if_neg o2]
  refine lw_go (c_far N (by omega) (σ.2.2.2.2.2 ((x3 + (1 : Int32))).toNatClampNeg) (σ.2.2.2.2.2 ((x3 + (2 : Int32))).toNatClampNeg) σ h) hd (fun r τ e => ?_) ih
  dsimp only
  rw [e, if_neg o1, if_neg o2]
def lwC_28 (N : Nat) (G : Int32 → Mem → Option (Int32 × Mem)) (x3 : Int32) (σ : Mem) : Option (Int32 × Mem) :=
  if hwOut (x3 + (1 : Int32)) σ.2.2.2.2.1 then none else
  if hwOut (x3 + (2 : Int32)) σ.2.2.2.2.1 then none else
  (F_X11_diviner N (σ.2.2.2.2.2 ((x3 + (1 : Int32))).toNatClampNeg) (σ.2.2.2.2.2 ((x3 + (2 : Int32))).toNatClampNeg) σ).bind (fun q57 =>
  if hwOut (x3 + (1 : Int32)) q57.2.2.2.2.2.1 then none else
  if hwOut (x3 + (2 : Int32)) q57.2.2.2.2.2.1 then none else
  (F_X12_diviner N (q57.2.2.2.2.2.2 ((x3 + (1 : Int32))).toNatClampNeg) (q57.2.2.2.2.2.2 ((x3 + (2 : Int32))).toNatClampNeg) q57.2).bind (fun q58 =>
  if (lg_cmp q57.1 q58.1) = 0 then
    G (x3 + (6 : Int32)) q58.2
  else
    some ((0 : Int32), q58.2)))
theorem lwc_28 (N : Nat) (hN : 200 ≤ N) (G : Int32 → Mem → Option (Int32 × Mem)) (x3 : Int32) (σ : Mem) (h : Ag σ) (hd : Wd σ) (o : ∀ j : Nat, j < 6 → ¬ hwOut (x3 + nI j) σ.2.2.2.2.1) (ih : ∀ τ, τ.2.2.2.2 = σ.2.2.2.2 → Ag τ → Wd τ → ∃ υ, G (x3 + 6) τ = some (1, υ)) : ∃ υ, lwC_28 N G x3 σ = some (1, υ) := by
  unfold lwC_28
  have o1 : ¬ hwOut (x3 + (1 : Int32)) σ.2.2.2.2.1 := o 1 (by decide)
  have o2 : ¬ hwOut (x3 + (2 : Int32)) σ.2.2.2.2.1 := o 2 (by decide)
  rw [if_neg o1, if_neg o2]
  refine lw_goL (c_diviner N (by omega) (σ.2.2.2.2.2 ((x3 + (1 : Int32))).toNatClampNeg) (σ.2.2.2.2.2 ((x3 + (2 : Int32))).toNatClampNeg) σ h) hd (fun r τ e => ?_) ih
  dsimp only
  rw [e, if_neg o1, if_neg o2]
def lwC_29 (N : Nat) (G : Int32 → Mem → Option (Int32 × Mem)) (x3 : Int32) (σ : Mem) : Option (Int32 × Mem) :=
  if hwOut (x3 + (1 : Int32)) σ.2.2.2.2.1 then none else
  (F_X11_believe N (σ.2.2.2.2.2 ((x3 + (1 : Int32))).toNatClampNeg) σ).bind (fun q59 =>
  if hwOut (x3 + (1 : Int32)) q59.2.2.2.2.2.1 then none else
  (F_X12_believe N (q59.2.2.2.2.2.2 ((x3 + (1 : Int32))).toNatClampNeg) q59.2).bind (fun q60 =>
  if q59.1 = q60.1 then
    G (x3 + (6 : Int32)) q60.2
  else
    some ((0 : Int32), q60.2)))
theorem lwc_29 (N : Nat) (hN : 200 ≤ N) (G : Int32 → Mem → Option (Int32 × Mem)) (x3 : Int32) (σ : Mem) (h : Ag σ) (hd : Wd σ) (o : ∀ j : Nat, j < 6 → ¬ hwOut (x3 + nI j) σ.2.2.2.2.1) (ih : ∀ τ, τ.2.2.2.2 = σ.2.2.2.2 → Ag τ → Wd τ → ∃ υ, G (x3 + 6) τ = some (1, υ)) : ∃ υ, lwC_29 N G x3 σ = some (1, υ) := by
  unfold lwC_29
  have o1 : ¬ hwOut (x3 + (1 : Int32)) σ.2.2.2.2.1 := o 1 (by decide)
  rw [if_neg o1]
  refine lw_go (c_believe N (by omega) (σ.2.2.2.2.2 ((x3 + (1 : Int32))).toNatClampNeg) σ h) hd (fun r τ e => ?_) ih
  dsimp only
  rw [e, if_neg o1]
def lwC_30 (N : Nat) (G : Int32 → Mem → Option (Int32 × Mem)) (x3 : Int32) (σ : Mem) : Option (Int32 × Mem) :=
  if hwOut (x3 + (1 : Int32)) σ.2.2.2.2.1 then none else
  if hwOut (x3 + (2 : Int32)) σ.2.2.2.2.1 then none else
  (F_X11_fall N (σ.2.2.2.2.2 ((x3 + (1 : Int32))).toNatClampNeg) (σ.2.2.2.2.2 ((x3 + (2 : Int32))).toNatClampNeg) σ).bind (fun q61 =>
  if hwOut (x3 + (1 : Int32)) q61.2.2.2.2.2.1 then none else
  if hwOut (x3 + (2 : Int32)) q61.2.2.2.2.2.1 then none else
  (F_X12_fall N (q61.2.2.2.2.2.2 ((x3 + (1 : Int32))).toNatClampNeg) (q61.2.2.2.2.2.2 ((x3 + (2 : Int32))).toNatClampNeg) q61.2).bind (fun q62 =>
  if (lg_cmp q61.1 q62.1) = 0 then
    G (x3 + (6 : Int32)) q62.2
  else
    some ((0 : Int32), q62.2)))
theorem lwc_30 (N : Nat) (hN : 200 ≤ N) (G : Int32 → Mem → Option (Int32 × Mem)) (x3 : Int32) (σ : Mem) (h : Ag σ) (hd : Wd σ) (o : ∀ j : Nat, j < 6 → ¬ hwOut (x3 + nI j) σ.2.2.2.2.1) (ih : ∀ τ, τ.2.2.2.2 = σ.2.2.2.2 → Ag τ → Wd τ → ∃ υ, G (x3 + 6) τ = some (1, υ)) : ∃ υ, lwC_30 N G x3 σ = some (1, υ) := by
  unfold lwC_30
  have o1 : ¬ hwOut (x3 + (1 : Int32)) σ.2.2.2.2.1 := o 1 (by decide)
  have o2 : ¬ hwOut (x3 + (2 : Int32)) σ.2.2.2.2.1 := o 2 (by decide)
  rw [if_neg o1, if_neg o2]
  refine lw_goL (c_fall N (by omega) (σ.2.2.2.2.2 ((x3 + (1 : Int32))).toNatClampNeg) (σ.2.2.2.2.2 ((x3 + (2 : Int32))).toNatClampNeg) σ h) hd (fun r τ e => ?_) ih
  dsimp only
  rw [e, if_neg o1, if_neg o2]
def lwC_31 (N : Nat) (G : Int32 → Mem → Option (Int32 × Mem)) (x3 : Int32) (σ : Mem) : Option (Int32 × Mem) :=
  if hwOut (x3 + (1 : Int32)) σ.2.2.2.2.1 then none else
  (F_X11_line N (σ.2.2.2.2.2 ((x3 + (1 : Int32))).toNatClampNeg) σ).bind (fun q63 =>
  if hwOut (x3 + (1 : Int32)) q63.2.2.2.2.2.1 then none else
  (F_X12_line N (q63.2.2.2.2.2.2 ((x3 + (1 : Int32))).toNatClampNeg) q63.2).bind (fun q64 =>
  if q63.1 = q64.1 then
    G (x3 + (6 : Int32)) q64.2
  else
    some ((0 : Int32), q64.2)))
theorem lwc_31 (N : Nat) (hN : 200 ≤ N) (G : Int32 → Mem → Option (Int32 × Mem)) (x3 : Int32) (σ : Mem) (h : Ag σ) (hd : Wd σ) (o : ∀ j : Nat, j < 6 → ¬ hwOut (x3 + nI j) σ.2.2.2.2.1) (ih : ∀ τ, τ.2.2.2.2 = σ.2.2.2.2 → Ag τ → Wd τ → ∃ υ, G (x3 + 6) τ = some (1, υ)) : ∃ υ, lwC_31 N G x3 σ = some (1, υ) := by
  unfold lwC_31
  have o1 : ¬ hwOut (x3 + (1 : Int32)) σ.2.2.2.2.1 := o 1 (by decide)
  rw [if_neg o1]
  refine lw_go (c_line N (by omega) (σ.2.2.2.2.2 ((x3 + (1 : Int32))).toNatClampNeg) σ h) hd (fun r τ e => ?_) ih
  dsimp only
  rw [e, if_neg o1]
def lwC_32 (N : Nat) (G : Int32 → Mem → Option (Int32 × Mem)) (x3 : Int32) (σ : Mem) : Option (Int32 × Mem) :=
  if hwOut (x3 + (1 : Int32)) σ.2.2.2.2.1 then none else
  if hwOut (x3 + (2 : Int32)) σ.2.2.2.2.1 then none else
  (F_X11_farm N (σ.2.2.2.2.2 ((x3 + (1 : Int32))).toNatClampNeg) (σ.2.2.2.2.2 ((x3 + (2 : Int32))).toNatClampNeg) σ).bind (fun q65 =>
  if hwOut (x3 + (1 : Int32)) q65.2.2.2.2.2.1 then none else
  if hwOut (x3 + (2 : Int32)) q65.2.2.2.2.2.1 then none else
  (F_X12_farm N (q65.2.2.2.2.2.2 ((x3 + (1 : Int32))).toNatClampNeg) (q65.2.2.2.2.2.2 ((x3 + (2 : Int32))).toNatClampNeg) q65.2).bind (fun q66 =>
  if q65.1 = q66.1 then
    G (x3 + (6 : Int32)) q66.2
  else
    some ((0 : Int32), q66.2)))
theorem lwc_32 (N : Nat) (hN : 200 ≤ N) (G : Int32 → Mem → Option (Int32 × Mem)) (x3 : Int32) (σ : Mem) (h : Ag σ) (hd : Wd σ) (o : ∀ j : Nat, j < 6 → ¬ hwOut (x3 + nI j) σ.2.2.2.2.1) (ih : ∀ τ, τ.2.2.2.2 = σ.2.2.2.2 → Ag τ → Wd τ → ∃ υ, G (x3 + 6) τ = some (1, υ)) : ∃ υ, lwC_32 N G x3 σ = some (1, υ) := by
  unfold lwC_32
  have o1 : ¬ hwOut (x3 + (1 : Int32)) σ.2.2.2.2.1 := o 1 (by decide)
  have o2 : ¬ hwOut (x3 + (2 : Int32)) σ.2.2.2.2.1 := o 2 (by decide)
  rw [if_neg o1, if_neg o2]
  refine lw_go (Tw.ac h (w_farm N h.2 (σ.2.2.2.2.2 ((x3 + (1 : Int32))).toNatClampNeg) (σ.2.2.2.2.2 ((x3 + (2 : Int32))).toNatClampNeg))) hd (fun r τ e => ?_) ih
  dsimp only
  rw [e, if_neg o1, if_neg o2]
def lwC_33 (N : Nat) (G : Int32 → Mem → Option (Int32 × Mem)) (x3 : Int32) (σ : Mem) : Option (Int32 × Mem) :=
  if hwOut (x3 + (1 : Int32)) σ.2.2.2.2.1 then none else
  if hwOut (x3 + (2 : Int32)) σ.2.2.2.2.1 then none else
  (F_X11_share N (σ.2.2.2.2.2 ((x3 + (1 : Int32))).toNatClampNeg) (σ.2.2.2.2.2 ((x3 + (2 : Int32))).toNatClampNeg) σ).bind (fun q67 =>
  if hwOut (x3 + (1 : Int32)) q67.2.2.2.2.2.1 then none else
  if hwOut (x3 + (2 : Int32)) q67.2.2.2.2.2.1 then none else
  (F_X12_share N (q67.2.2.2.2.2.2 ((x3 + (1 : Int32))).toNatClampNeg) (q67.2.2.2.2.2.2 ((x3 + (2 : Int32))).toNatClampNeg) q67.2).bind (fun q68 =>
  if q67.1 = q68.1 then
    G (x3 + (6 : Int32)) q68.2
  else
    some ((0 : Int32), q68.2)))
theorem lwc_33 (N : Nat) (hN : 200 ≤ N) (G : Int32 → Mem → Option (Int32 × Mem)) (x3 : Int32) (σ : Mem) (h : Ag σ) (hd : Wd σ) (o : ∀ j : Nat, j < 6 → ¬ hwOut (x3 + nI j) σ.2.2.2.2.1) (ih : ∀ τ, τ.2.2.2.2 = σ.2.2.2.2 → Ag τ → Wd τ → ∃ υ, G (x3 + 6) τ = some (1, υ)) : ∃ υ, lwC_33 N G x3 σ = some (1, υ) := by
  unfold lwC_33
  have o1 : ¬ hwOut (x3 + (1 : Int32)) σ.2.2.2.2.1 := o 1 (by decide)
  have o2 : ¬ hwOut (x3 + (2 : Int32)) σ.2.2.2.2.1 := o 2 (by decide)
  rw [if_neg o1, if_neg o2]
  refine lw_go (c_share N (by omega) (σ.2.2.2.2.2 ((x3 + (1 : Int32))).toNatClampNeg) (σ.2.2.2.2.2 ((x3 + (2 : Int32))).toNatClampNeg) σ h) hd (fun r τ e => ?_) ih
  dsimp only
  rw [e, if_neg o1, if_neg o2]
def lwC_34 (N : Nat) (G : Int32 → Mem → Option (Int32 × Mem)) (x3 : Int32) (σ : Mem) : Option (Int32 × Mem) :=
  if hwOut (x3 + (1 : Int32)) σ.2.2.2.2.1 then none else
  if hwOut (x3 + (2 : Int32)) σ.2.2.2.2.1 then none else
  (F_X11_join N (σ.2.2.2.2.2 ((x3 + (1 : Int32))).toNatClampNeg) (σ.2.2.2.2.2 ((x3 + (2 : Int32))).toNatClampNeg) σ).bind (fun q69 =>
  if hwOut (x3 + (1 : Int32)) q69.2.2.2.2.2.1 then none else
  if hwOut (x3 + (2 : Int32)) q69.2.2.2.2.2.1 then none else
  (F_X12_join N (q69.2.2.2.2.2.2 ((x3 + (1 : Int32))).toNatClampNeg) (q69.2.2.2.2.2.2 ((x3 + (2 : Int32))).toNatClampNeg) q69.2).bind (fun q70 =>
  if q69.1 = q70.1 then
    G (x3 + (6 : Int32)) q70.2
  else
    some ((0 : Int32), q70.2)))
theorem lwc_34 (N : Nat) (hN : 200 ≤ N) (G : Int32 → Mem → Option (Int32 × Mem)) (x3 : Int32) (σ : Mem) (h : Ag σ) (hd : Wd σ) (o : ∀ j : Nat, j < 6 → ¬ hwOut (x3 + nI j) σ.2.2.2.2.1) (ih : ∀ τ, τ.2.2.2.2 = σ.2.2.2.2 → Ag τ → Wd τ → ∃ υ, G (x3 + 6) τ = some (1, υ)) : ∃ υ, lwC_34 N G x3 σ = some (1, υ) := by
  unfold lwC_34
  have o1 : ¬ hwOut (x3 + (1 : Int32)) σ.2.2.2.2.1 := o 1 (by decide)
  have o2 : ¬ hwOut (x3 + (2 : Int32)) σ.2.2.2.2.1 := o 2 (by decide)
  rw [if_neg o1, if_neg o2]
  refine lw_go (c_join N (by omega) (σ.2.2.2.2.2 ((x3 + (1 : Int32))).toNatClampNeg) (σ.2.2.2.2.2 ((x3 + (2 : Int32))).toNatClampNeg) σ h) hd (fun r τ e => ?_) ih
  dsimp only
  rw [e, if_neg o1, if_neg o2]
def lwC_35 (N : Nat) (G : Int32 → Mem → Option (Int32 × Mem)) (x3 : Int32) (σ : Mem) : Option (Int32 × Mem) :=
  if hwOut (x3 + (1 : Int32)) σ.2.2.2.2.1 then none else
  (F_X11_learn N (σ.2.2.2.2.2 ((x3 + (1 : Int32))).toNatClampNeg) σ).bind (fun q71 =>
  if hwOut (x3 + (1 : Int32)) q71.2.2.2.2.2.1 then none else
  (F_X12_learn N (q71.2.2.2.2.2.2 ((x3 + (1 : Int32))).toNatClampNeg) q71.2).bind (fun q72 =>
  if (lg_cmp q71.1 q72.1) = 0 then
    G (x3 + (6 : Int32)) q72.2
  else
    some ((0 : Int32), q72.2)))
theorem lwc_35 (N : Nat) (hN : 200 ≤ N) (G : Int32 → Mem → Option (Int32 × Mem)) (x3 : Int32) (σ : Mem) (h : Ag σ) (hd : Wd σ) (o : ∀ j : Nat, j < 6 → ¬ hwOut (x3 + nI j) σ.2.2.2.2.1) (ih : ∀ τ, τ.2.2.2.2 = σ.2.2.2.2 → Ag τ → Wd τ → ∃ υ, G (x3 + 6) τ = some (1, υ)) : ∃ υ, lwC_35 N G x3 σ = some (1, υ) := by
  unfold lwC_35
  have o1 : ¬ hwOut (x3 + (1 : Int32)) σ.2.2.2.2.1 := o 1 (by decide)
  rw [if_neg o1]
  refine lw_goL (c_learn N (by omega) (σ.2.2.2.2.2 ((x3 + (1 : Int32))).toNatClampNeg) σ h) hd (fun r τ e => ?_) ih
  dsimp only
  rw [e, if_neg o1]
def lwC_36 (N : Nat) (G : Int32 → Mem → Option (Int32 × Mem)) (x3 : Int32) (σ : Mem) : Option (Int32 × Mem) :=
  (F_X11_first N σ).bind (fun q73 =>
  (F_X12_first_ N q73.2).bind (fun q74 =>
  if q73.1 = q74.1 then
    G (x3 + (6 : Int32)) q74.2
  else
    some ((0 : Int32), q74.2)))
theorem lwc_36 (N : Nat) (hN : 200 ≤ N) (G : Int32 → Mem → Option (Int32 × Mem)) (x3 : Int32) (σ : Mem) (h : Ag σ) (hd : Wd σ) (o : ∀ j : Nat, j < 6 → ¬ hwOut (x3 + nI j) σ.2.2.2.2.1) (ih : ∀ τ, τ.2.2.2.2 = σ.2.2.2.2 → Ag τ → Wd τ → ∃ υ, G (x3 + 6) τ = some (1, υ)) : ∃ υ, lwC_36 N G x3 σ = some (1, υ) := by
  unfold lwC_36
  exact lw_go (c_first N (by omega)  σ h) hd (fun r τ e => rfl) ih
def lwC_37 (N : Nat) (G : Int32 → Mem → Option (Int32 × Mem)) (x3 : Int32) (σ : Mem) : Option (Int32 × Mem) :=
  if hwOut (x3 + (1 : Int32)) σ.2.2.2.2.1 then none else
  if hwOut (x3 + (2 : Int32)) σ.2.2.2.2.1 then none else
  if hwOut (x3 + (3 : Int32)) σ.2.2.2.2.1 then none else
  if hwOut (x3 + (4 : Int32)) σ.2.2.2.2.1 then none else
  (F_X11_drawn N (σ.2.2.2.2.2 ((x3 + (1 : Int32))).toNatClampNeg) (σ.2.2.2.2.2 ((x3 + (2 : Int32))).toNatClampNeg) (σ.2.2.2.2.2 ((x3 + (3 : Int32))).toNatClampNeg) (σ.2.2.2.2.2 ((x3 + (4 : Int32))).toNatClampNeg) σ).bind (fun q75 =>
  if hwOut (x3 + (1 : Int32)) q75.2.2.2.2.2.1 then none else
  if hwOut (x3 + (2 : Int32)) q75.2.2.2.2.2.1 then none else
  if hwOut (x3 + (3 : Int32)) q75.2.2.2.2.2.1 then none else
  if hwOut (x3 + (4 : Int32)) q75.2.2.2.2.2.1 then none else
  (F_X12_drawn N (q75.2.2.2.2.2.2 ((x3 + (1 : Int32))).toNatClampNeg) (q75.2.2.2.2.2.2 ((x3 + (2 : Int32))).toNatClampNeg) (q75.2.2.2.2.2.2 ((x3 + (3 : Int32))).toNatClampNeg) (q75.2.2.2.2.2.2 ((x3 + (4 : Int32))).toNatClampNeg) q75.2).bind (fun q76 =>
  if q75.1 = q76.1 then
    G (x3 + (6 : Int32)) q76.2
  else
    some ((0 : Int32), q76.2)))
theorem lwc_37 (N : Nat) (hN : 200 ≤ N) (G : Int32 → Mem → Option (Int32 × Mem)) (x3 : Int32) (σ : Mem) (h : Ag σ) (hd : Wd σ) (o : ∀ j : Nat, j < 6 → ¬ hwOut (x3 + nI j) σ.2.2.2.2.1) (ih : ∀ τ, τ.2.2.2.2 = σ.2.2.2.2 → Ag τ → Wd τ → ∃ υ, G (x3 + 6) τ = some (1, υ)) : ∃ υ, lwC_37 N G x3 σ = some (1, υ) := by
  unfold lwC_37
  have o1 : ¬ hwOut (x3 + (1 : Int32)) σ.2.2.2.2.1 := o 1 (by decide)
  have o2 : ¬ hwOut (x3 + (2 : Int32)) σ.2.2.2.2.1 := o 2 (by decide)
  have o3 : ¬ hwOut (x3 + (3 : Int32)) σ.2.2.2.2.1 := o 3 (by decide)
  have o4 : ¬ hwOut (x3 + (4 : Int32)) σ.2.2.2.2.1 := o 4 (by decide)
  rw [if_neg o1, if_neg o2, if_neg o3, if_neg o4]
  refine lw_go (c_drawn N (by omega) (σ.2.2.2.2.2 ((x3 + (1 : Int32))).toNatClampNeg) (σ.2.2.2.2.2 ((x3 + (2 : Int32))).toNatClampNeg) (σ.2.2.2.2.2 ((x3 + (3 : Int32))).toNatClampNeg) (σ.2.2.2.2.2 ((x3 + (4 : Int32))).toNatClampNeg) σ h) hd (fun r τ e => ?_) ih
  dsimp only
  rw [e, if_neg o1, if_neg o2, if_neg o3, if_neg o4]
def lwC_38 (N : Nat) (G : Int32 → Mem → Option (Int32 × Mem)) (x3 : Int32) (σ : Mem) : Option (Int32 × Mem) :=
  (F_X11_image N σ).bind (fun q77 =>
  (F_X12_image N q77.2).bind (fun q78 =>
  if q77.1 = q78.1 then
    G (x3 + (6 : Int32)) q78.2
  else
    some ((0 : Int32), q78.2)))
theorem lwc_38 (N : Nat) (hN : 200 ≤ N) (G : Int32 → Mem → Option (Int32 × Mem)) (x3 : Int32) (σ : Mem) (h : Ag σ) (hd : Wd σ) (o : ∀ j : Nat, j < 6 → ¬ hwOut (x3 + nI j) σ.2.2.2.2.1) (ih : ∀ τ, τ.2.2.2.2 = σ.2.2.2.2 → Ag τ → Wd τ → ∃ υ, G (x3 + 6) τ = some (1, υ)) : ∃ υ, lwC_38 N G x3 σ = some (1, υ) := by
  unfold lwC_38
  exact lw_go (Tw.ac h (w_image N (by omega) h.2 )) hd (fun r τ e => rfl) ih
def lwC_39 (N : Nat) (G : Int32 → Mem → Option (Int32 × Mem)) (x3 : Int32) (σ : Mem) : Option (Int32 × Mem) :=
  (F_X11_undo N σ).bind (fun q79 =>
  (F_X12_undo N q79.2).bind (fun q80 =>
  if q79.1 = q80.1 then
    G (x3 + (6 : Int32)) q80.2
  else
    some ((0 : Int32), q80.2)))
theorem lwc_39 (N : Nat) (hN : 200 ≤ N) (G : Int32 → Mem → Option (Int32 × Mem)) (x3 : Int32) (σ : Mem) (h : Ag σ) (hd : Wd σ) (o : ∀ j : Nat, j < 6 → ¬ hwOut (x3 + nI j) σ.2.2.2.2.1) (ih : ∀ τ, τ.2.2.2.2 = σ.2.2.2.2 → Ag τ → Wd τ → ∃ υ, G (x3 + 6) τ = some (1, υ)) : ∃ υ, lwC_39 N G x3 σ = some (1, υ) := by
  unfold lwC_39
  exact lw_go (Tw.ac h (w_undo N (by omega) h.2 )) hd (fun r τ e => rfl) ih
def lwC_40 (N : Nat) (G : Int32 → Mem → Option (Int32 × Mem)) (x3 : Int32) (σ : Mem) : Option (Int32 × Mem) :=
  if hwOut (x3 + (1 : Int32)) σ.2.2.2.2.1 then none else
  if hwOut (x3 + (2 : Int32)) σ.2.2.2.2.1 then none else
  if hwOut (x3 + (3 : Int32)) σ.2.2.2.2.1 then none else
  (F_X11_sheet N (σ.2.2.2.2.2 ((x3 + (1 : Int32))).toNatClampNeg) (σ.2.2.2.2.2 ((x3 + (2 : Int32))).toNatClampNeg) (σ.2.2.2.2.2 ((x3 + (3 : Int32))).toNatClampNeg) σ).bind (fun q81 =>
  if hwOut (x3 + (1 : Int32)) q81.2.2.2.2.2.1 then none else
  if hwOut (x3 + (2 : Int32)) q81.2.2.2.2.2.1 then none else
  if hwOut (x3 + (3 : Int32)) q81.2.2.2.2.2.1 then none else
  (F_X12_sheet N (q81.2.2.2.2.2.2 ((x3 + (1 : Int32))).toNatClampNeg) (q81.2.2.2.2.2.2 ((x3 + (2 : Int32))).toNatClampNeg) (q81.2.2.2.2.2.2 ((x3 + (3 : Int32))).toNatClampNeg) q81.2).bind (fun q82 =>
  if q81.1 = q82.1 then
    G (x3 + (6 : Int32)) q82.2
  else
    some ((0 : Int32), q82.2)))
theorem lwc_40 (N : Nat) (hN : 200 ≤ N) (G : Int32 → Mem → Option (Int32 × Mem)) (x3 : Int32) (σ : Mem) (h : Ag σ) (hd : Wd σ) (o : ∀ j : Nat, j < 6 → ¬ hwOut (x3 + nI j) σ.2.2.2.2.1) (ih : ∀ τ, τ.2.2.2.2 = σ.2.2.2.2 → Ag τ → Wd τ → ∃ υ, G (x3 + 6) τ = some (1, υ)) : ∃ υ, lwC_40 N G x3 σ = some (1, υ) := by
  unfold lwC_40
  have o1 : ¬ hwOut (x3 + (1 : Int32)) σ.2.2.2.2.1 := o 1 (by decide)
  have o2 : ¬ hwOut (x3 + (2 : Int32)) σ.2.2.2.2.1 := o 2 (by decide)
  have o3 : ¬ hwOut (x3 + (3 : Int32)) σ.2.2.2.2.1 := o 3 (by decide)
  rw [if_neg o1, if_neg o2, if_neg o3]
  refine lw_go (Tw.ac h (w_sheet N (by omega) h.2 (σ.2.2.2.2.2 ((x3 + (1 : Int32))).toNatClampNeg) (σ.2.2.2.2.2 ((x3 + (2 : Int32))).toNatClampNeg) (σ.2.2.2.2.2 ((x3 + (3 : Int32))).toNatClampNeg))) hd (fun r τ e => ?_) ih
  dsimp only
  rw [e, if_neg o1, if_neg o2, if_neg o3]
def lwC_41 (N : Nat) (G : Int32 → Mem → Option (Int32 × Mem)) (x3 : Int32) (σ : Mem) : Option (Int32 × Mem) :=
  if hwOut (x3 + (1 : Int32)) σ.2.2.2.2.1 then none else
  if hwOut (x3 + (2 : Int32)) σ.2.2.2.2.1 then none else
  if hwOut (x3 + (3 : Int32)) σ.2.2.2.2.1 then none else
  (F_X11_cell N (σ.2.2.2.2.2 ((x3 + (1 : Int32))).toNatClampNeg) (σ.2.2.2.2.2 ((x3 + (2 : Int32))).toNatClampNeg) (σ.2.2.2.2.2 ((x3 + (3 : Int32))).toNatClampNeg) σ).bind (fun q83 =>
  if hwOut (x3 + (1 : Int32)) q83.2.2.2.2.2.1 then none else
  if hwOut (x3 + (2 : Int32)) q83.2.2.2.2.2.1 then none else
  if hwOut (x3 + (3 : Int32)) q83.2.2.2.2.2.1 then none else
  (F_X12_cell N (q83.2.2.2.2.2.2 ((x3 + (1 : Int32))).toNatClampNeg) (q83.2.2.2.2.2.2 ((x3 + (2 : Int32))).toNatClampNeg) (q83.2.2.2.2.2.2 ((x3 + (3 : Int32))).toNatClampNeg) q83.2).bind (fun q84 =>
  if q83.1 = q84.1 then
    G (x3 + (6 : Int32)) q84.2
  else
    some ((0 : Int32), q84.2)))
theorem lwc_41 (N : Nat) (hN : 200 ≤ N) (G : Int32 → Mem → Option (Int32 × Mem)) (x3 : Int32) (σ : Mem) (h : Ag σ) (hd : Wd σ) (o : ∀ j : Nat, j < 6 → ¬ hwOut (x3 + nI j) σ.2.2.2.2.1) (ih : ∀ τ, τ.2.2.2.2 = σ.2.2.2.2 → Ag τ → Wd τ → ∃ υ, G (x3 + 6) τ = some (1, υ)) : ∃ υ, lwC_41 N G x3 σ = some (1, υ) := by
  unfold lwC_41
  have o1 : ¬ hwOut (x3 + (1 : Int32)) σ.2.2.2.2.1 := o 1 (by decide)
  have o2 : ¬ hwOut (x3 + (2 : Int32)) σ.2.2.2.2.1 := o 2 (by decide)
  have o3 : ¬ hwOut (x3 + (3 : Int32)) σ.2.2.2.2.1 := o 3 (by decide)
  rw [if_neg o1, if_neg o2, if_neg o3]
  refine lw_go (Tw.ac h (w_cell N h.2 (σ.2.2.2.2.2 ((x3 + (1 : Int32))).toNatClampNeg) (σ.2.2.2.2.2 ((x3 + (2 : Int32))).toNatClampNeg) (σ.2.2.2.2.2 ((x3 + (3 : Int32))).toNatClampNeg))) hd (fun r τ e => ?_) ih
  dsimp only
  rw [e, if_neg o1, if_neg o2, if_neg o3]
def lwC_42 (N : Nat) (G : Int32 → Mem → Option (Int32 × Mem)) (x3 : Int32) (σ : Mem) : Option (Int32 × Mem) :=
  if hwOut (x3 + (1 : Int32)) σ.2.2.2.2.1 then none else
  if hwOut (x3 + (2 : Int32)) σ.2.2.2.2.1 then none else
  if hwOut (x3 + (3 : Int32)) σ.2.2.2.2.1 then none else
  if hwOut (x3 + (4 : Int32)) σ.2.2.2.2.1 then none else
  if hwOut (x3 + (5 : Int32)) σ.2.2.2.2.1 then none else
  (F_X11_copy N (σ.2.2.2.2.2 ((x3 + (1 : Int32))).toNatClampNeg) (σ.2.2.2.2.2 ((x3 + (2 : Int32))).toNatClampNeg) (σ.2.2.2.2.2 ((x3 + (3 : Int32))).toNatClampNeg) (σ.2.2.2.2.2 ((x3 + (4 : Int32))).toNatClampNeg) (σ.2.2.2.2.2 ((x3 + (5 : Int32))).toNatClampNeg) σ).bind (fun q85 =>
  if hwOut (x3 + (1 : Int32)) q85.2.2.2.2.2.1 then none else
  if hwOut (x3 + (2 : Int32)) q85.2.2.2.2.2.1 then none else
  if hwOut (x3 + (3 : Int32)) q85.2.2.2.2.2.1 then none else
  if hwOut (x3 + (4 : Int32)) q85.2.2.2.2.2.1 then none else
  if hwOut (x3 + (5 : Int32)) q85.2.2.2.2.2.1 then none else
  (F_X12_copy N (q85.2.2.2.2.2.2 ((x3 + (1 : Int32))).toNatClampNeg) (q85.2.2.2.2.2.2 ((x3 + (2 : Int32))).toNatClampNeg) (q85.2.2.2.2.2.2 ((x3 + (3 : Int32))).toNatClampNeg) (q85.2.2.2.2.2.2 ((x3 + (4 : Int32))).toNatClampNeg) (q85.2.2.2.2.2.2 ((x3 + (5 : Int32))).toNatClampNeg) q85.2).bind (fun q86 =>
  if q85.1 = q86.1 then
    G (x3 + (6 : Int32)) q86.2
  else
    some ((0 : Int32), q86.2)))
theorem lwc_42 (N : Nat) (hN : 200 ≤ N) (G : Int32 → Mem → Option (Int32 × Mem)) (x3 : Int32) (σ : Mem) (h : Ag σ) (hd : Wd σ) (o : ∀ j : Nat, j < 6 → ¬ hwOut (x3 + nI j) σ.2.2.2.2.1) (ih : ∀ τ, τ.2.2.2.2 = σ.2.2.2.2 → Ag τ → Wd τ → ∃ υ, G (x3 + 6) τ = some (1, υ)) : ∃ υ, lwC_42 N G x3 σ = some (1, υ) := by
  unfold lwC_42
  have o1 : ¬ hwOut (x3 + (1 : Int32)) σ.2.2.2.2.1 := o 1 (by decide)
  have o2 : ¬ hwOut (x3 + (2 : Int32)) σ.2.2.2.2.1 := o 2 (by decide)
  have o3 : ¬ hwOut (x3 + (3 : Int32)) σ.2.2.2.2.1 := o 3 (by decide)
  have o4 : ¬ hwOut (x3 + (4 : Int32)) σ.2.2.2.2.1 := o 4 (by decide)
  have o5 : ¬ hwOut (x3 + (5 : Int32)) σ.2.2.2.2.1 := o 5 (by decide)
  rw [if_neg o1, if_neg o2, if_neg o3, if_neg o4, if_neg o5]
  refine lw_go (Tw.ac h (w_copy N (by omega) h.2 (σ.2.2.2.2.2 ((x3 + (1 : Int32))).toNatClampNeg) (σ.2.2.2.2.2 ((x3 + (2 : Int32))).toNatClampNeg) (σ.2.2.2.2.2 ((x3 + (3 : Int32))).toNatClampNeg) (σ.2.2.2.2.2 ((x3 + (4 : Int32))).toNatClampNeg) (σ.2.2.2.2.2 ((x3 + (5 : Int32))).toNatClampNeg))) hd (fun r τ e => ?_) ih
  dsimp only
  rw [e, if_neg o1, if_neg o2, if_neg o3, if_neg o4, if_neg o5]
def lwC_43 (N : Nat) (G : Int32 → Mem → Option (Int32 × Mem)) (x3 : Int32) (σ : Mem) : Option (Int32 × Mem) :=
  if hwOut (x3 + (1 : Int32)) σ.2.2.2.2.1 then none else
  if hwOut (x3 + (2 : Int32)) σ.2.2.2.2.1 then none else
  if hwOut (x3 + (3 : Int32)) σ.2.2.2.2.1 then none else
  if hwOut (x3 + (4 : Int32)) σ.2.2.2.2.1 then none else
  (F_X11_layersBy N (σ.2.2.2.2.2 ((x3 + (1 : Int32))).toNatClampNeg) (σ.2.2.2.2.2 ((x3 + (2 : Int32))).toNatClampNeg) (σ.2.2.2.2.2 ((x3 + (3 : Int32))).toNatClampNeg) (σ.2.2.2.2.2 ((x3 + (4 : Int32))).toNatClampNeg) σ).bind (fun q87 =>
  if hwOut (x3 + (1 : Int32)) q87.2.2.2.2.2.1 then none else
  if hwOut (x3 + (2 : Int32)) q87.2.2.2.2.2.1 then none else
  if hwOut (x3 + (3 : Int32)) q87.2.2.2.2.2.1 then none else
  if hwOut (x3 + (4 : Int32)) q87.2.2.2.2.2.1 then none else
  (F_X12_layersBy N (q87.2.2.2.2.2.2 ((x3 + (1 : Int32))).toNatClampNeg) (q87.2.2.2.2.2.2 ((x3 + (2 : Int32))).toNatClampNeg) (q87.2.2.2.2.2.2 ((x3 + (3 : Int32))).toNatClampNeg) (q87.2.2.2.2.2.2 ((x3 + (4 : Int32))).toNatClampNeg) q87.2).bind (fun q88 =>
  if q87.1 = q88.1 then
    G (x3 + (6 : Int32)) q88.2
  else
    some ((0 : Int32), q88.2)))
theorem lwc_43 (N : Nat) (hN : 200 ≤ N) (G : Int32 → Mem → Option (Int32 × Mem)) (x3 : Int32) (σ : Mem) (h : Ag σ) (hd : Wd σ) (o : ∀ j : Nat, j < 6 → ¬ hwOut (x3 + nI j) σ.2.2.2.2.1) (ih : ∀ τ, τ.2.2.2.2 = σ.2.2.2.2 → Ag τ → Wd τ → ∃ υ, G (x3 + 6) τ = some (1, υ)) : ∃ υ, lwC_43 N G x3 σ = some (1, υ) := by
  unfold lwC_43
  have o1 : ¬ hwOut (x3 + (1 : Int32)) σ.2.2.2.2.1 := o 1 (by decide)
  have o2 : ¬ hwOut (x3 + (2 : Int32)) σ.2.2.2.2.1 := o 2 (by decide)
  have o3 : ¬ hwOut (x3 + (3 : Int32)) σ.2.2.2.2.1 := o 3 (by decide)
  have o4 : ¬ hwOut (x3 + (4 : Int32)) σ.2.2.2.2.1 := o 4 (by decide)
  rw [if_neg o1, if_neg o2, if_neg o3, if_neg o4]
  refine lw_go (Tw.ac h (w_layersBy N (by omega) h.2 (σ.2.2.2.2.2 ((x3 + (1 : Int32))).toNatClampNeg) (σ.2.2.2.2.2 ((x3 + (2 : Int32))).toNatClampNeg) (σ.2.2.2.2.2 ((x3 + (3 : Int32))).toNatClampNeg) (σ.2.2.2.2.2 ((x3 + (4 : Int32))).toNatClampNeg))) hd (fun r τ e => ?_) ih
  dsimp only
  rw [e, if_neg o1, if_neg o2, if_neg o3, if_neg o4]
def lwC_44 (N : Nat) (G : Int32 → Mem → Option (Int32 × Mem)) (x3 : Int32) (σ : Mem) : Option (Int32 × Mem) :=
  if hwOut (x3 + (1 : Int32)) σ.2.2.2.2.1 then none else
  if hwOut (x3 + (2 : Int32)) σ.2.2.2.2.1 then none else
  (F_X11_taken N (σ.2.2.2.2.2 ((x3 + (1 : Int32))).toNatClampNeg) (σ.2.2.2.2.2 ((x3 + (2 : Int32))).toNatClampNeg) σ).bind (fun q89 =>
  if hwOut (x3 + (1 : Int32)) q89.2.2.2.2.2.1 then none else
  if hwOut (x3 + (2 : Int32)) q89.2.2.2.2.2.1 then none else
  (F_X12_taken N (q89.2.2.2.2.2.2 ((x3 + (1 : Int32))).toNatClampNeg) (q89.2.2.2.2.2.2 ((x3 + (2 : Int32))).toNatClampNeg) q89.2).bind (fun q90 =>
  if q89.1 = q90.1 then
    G (x3 + (6 : Int32)) q90.2
  else
    some ((0 : Int32), q90.2)))
theorem lwc_44 (N : Nat) (hN : 200 ≤ N) (G : Int32 → Mem → Option (Int32 × Mem)) (x3 : Int32) (σ : Mem) (h : Ag σ) (hd : Wd σ) (o : ∀ j : Nat, j < 6 → ¬ hwOut (x3 + nI j) σ.2.2.2.2.1) (ih : ∀ τ, τ.2.2.2.2 = σ.2.2.2.2 → Ag τ → Wd τ → ∃ υ, G (x3 + 6) τ = some (1, υ)) : ∃ υ, lwC_44 N G x3 σ = some (1, υ) := by
  unfold lwC_44
  have o1 : ¬ hwOut (x3 + (1 : Int32)) σ.2.2.2.2.1 := o 1 (by decide)
  have o2 : ¬ hwOut (x3 + (2 : Int32)) σ.2.2.2.2.1 := o 2 (by decide)
  rw [if_neg o1, if_neg o2]
  refine lw_go (c_taken N (by omega) (σ.2.2.2.2.2 ((x3 + (1 : Int32))).toNatClampNeg) (σ.2.2.2.2.2 ((x3 + (2 : Int32))).toNatClampNeg) σ h) hd (fun r τ e => ?_) ih
  dsimp only
  rw [e, if_neg o1, if_neg o2]

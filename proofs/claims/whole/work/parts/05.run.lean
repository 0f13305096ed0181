def hwS (cd : Cd) (s : Fr × Mem) : Rs := match hwFind cd s.1.1 with
  | some e => hwX e (hwM e.2.2.2.2 s.1.2.1) s.1.2.2 s.2
  | none => none
def hwSN (cd : Cd) : Nat → Fr × Mem → Rs
  | 0, s => hwS cd s
  | n + 1, s => match hwS cd s with
    | some q => hwSN cd n q
    | none => none
theorem Wp.one {C : Nat → List AV → Mem → Pst → Prop} (hC : Mono C) {cd : Cd} {Q : Pst} {f : Fr} {σ : Mem} {q : Fr × Mem} (h : hwS cd (f, σ) = some q) (k : Wp C cd Q q.1 q.2) : Wp C cd Q f σ := by
  refine Wp.step hC ?_
  unfold hwS at h
  cases he : hwFind cd f.1 with
  | none => simp [he] at h
  | some e =>
    simp only [he] at h
    exact ⟨e, he, Or.inl ⟨q, h, k⟩⟩
theorem Wp.run {C : Nat → List AV → Mem → Pst → Prop} (hC : Mono C) {cd : Cd} {Q : Pst} (n : Nat) : ∀ {f : Fr} {σ : Mem} {q : Fr × Mem}, hwSN cd n (f, σ) = some q → Wp C cd Q q.1 q.2 → Wp C cd Q f σ := by
  induction n with
  | zero => intro f σ q h k; exact Wp.one hC h k
  | succ n ih =>
    intro f σ q h k
    cases h1 : hwS cd (f, σ) with
    | none => simp [hwSN, h1] at h
    | some q1 =>
      simp only [hwSN, h1] at h
      exact Wp.one hC h1 (ih (f := q1.1) (σ := q1.2) h k)
set_option maxRecDepth 100000 in
theorem test1 (σ : Mem) (x y : Int32) : hwSN hcX6_wetOf 2 ((0, hwEn [.inr (.inr (8, 0)), .inl x, .inl y] 3, []), σ) = if x < 1 then some ((10, [some (.inr (.inr (8, 0))), some (.inl x), some (.inl y)], []), σ) else some ((5, [some (.inr (.inr (8, 0))), some (.inl x), some (.inl y)], []), σ) := rfl

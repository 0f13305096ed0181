def hwS (cd : Cd) (s : Fr × Mem) : Rs := match hwFind cd s.1.1 with
  | some e => hwX e (hwM e.2.2.2.2 s.1.2.1) s.1.2.2 s.2
  | none => none
def hwSN (cd : Cd) : Nat → Fr × Mem → Rs
  | 0, s => hwS cd s
  | n + 1, s => match hwS cd s with
    | some q => hwSN cd n q
    | none => none
theorem Wp.one {C : Nat → List AV → Mem → Pst → Prop} (hC : Mono C) {cd : Cd} {Q : Pst} {f : Fr} {σ : Mem} {q : Fr × Mem} (h : hwS cd (f, σ) = some q) (k : Wp C cd Q q.1 q.2) : Wp C cd Q f σ := by
  refine Wp.step hC ?_
  unfold hwS at h
  cases he : hwFind cd f.1 with
  | none => simp [he] at h
  | some e =>
    simp only [he] at h
    exact ⟨e, he, Or.inl ⟨q, h, k⟩⟩
theorem Wp.run {C : Nat → List AV → Mem → Pst → Prop} (hC : Mono C) {cd : Cd} {Q : Pst} (n : Nat) : ∀ {f : Fr} {σ : Mem} {q : Fr × Mem}, hwSN cd n (f, σ) = some q → Wp C cd Q q.1 q.2 → Wp C cd Q f σ := by
  induction n with
  | zero => intro f σ q h k; exact Wp.one hC h k
  | succ n ih =>
    intro f σ q h k
    cases h1 : hwS cd (f, σ) with
    | none => simp [hwSN, h1] at h
    | some q1 =>
      simp only [hwSN, h1] at h
      exact Wp.one hC h1 (ih (f := q1.1) (σ := q1.2) h k)
theorem Wp.br {C : Nat → List AV → Mem → Pst → Prop} (hC : Mono C) {cd : Cd} {Q : Pst} (n : Nat) {f : Fr} {σ : Mem} {q1 q2 : Fr × Mem} {c : Prop} [Decidable c] (h : hwSN cd n (f, σ) = if c then some q1 else some q2) (k1 : c → Wp C cd Q q1.1 q1.2) (k2 : ¬ c → Wp C cd Q q2.1 q2.2) : Wp C cd Q f σ := by
  by_cases hc : c
  · rw [if_pos hc] at h; exact Wp.run hC n h (k1 hc)
  · rw [if_neg hc] at h; exact Wp.run hC n h (k2 hc)
theorem Wp.no {C : Nat → List AV → Mem → Pst → Prop} (hC : Mono C) {cd : Cd} {Q : Pst} (n : Nat) {f : Fr} {σ : Mem} {q : Fr × Mem} {c : Prop} [Decidable c] (h : hwSN cd n (f, σ) = if c then none else some q) (hc : ¬ c) (k : Wp C cd Q q.1 q.2) : Wp C cd Q f σ := by
  rw [if_neg hc] at h; exact Wp.run hC n h k
theorem Wp.ye {C : Nat → List AV → Mem → Pst → Prop} (hC : Mono C) {cd : Cd} {Q : Pst} (n : Nat) {f : Fr} {σ : Mem} {q : Fr × Mem} {c : Prop} [Decidable c] (h : hwSN cd n (f, σ) = if c then some q else none) (hc : c) (k : Wp C cd Q q.1 q.2) : Wp C cd Q f σ := by
  rw [if_pos hc] at h; exact Wp.run hC n h k
def hwSC (cd : Cd) (f : Fr) : Option (Nat × List AV × List AV × Lc) := match hwFind cd f.1 with
  | some e => (match hwCall e f.2.2 with
    | some q => some (q.1, q.2.1, q.2.2, hwM e.2.2.2.2 f.2.1)
    | none => none)
  | none => none
theorem Wp.call {C : Nat → List AV → Mem → Pst → Prop} (hC : Mono C) {cd : Cd} {Q : Pst} {f : Fr} {σ : Mem} {b : Nat} {as r : List AV} {L : Lc} (h : hwSC cd f = some (b, as, r, L)) (k : C b as σ (fun rv τ => Wp C cd Q (f.1 + 3, L, rv.toList ++ r) τ)) : Wp C cd Q f σ := by
  refine Wp.step hC ?_
  unfold hwSC at h
  cases he : hwFind cd f.1 with
  | none => simp [he] at h
  | some e =>
    simp only [he] at h
    cases hq : hwCall e f.2.2 with
    | none => simp [hq] at h
    | some q =>
      simp only [hq] at h
      obtain ⟨b', as', r'⟩ := q
      cases h
      exact ⟨e, he, Or.inr (Or.inl ⟨_, hq, k⟩)⟩
def hwSR (cd : Cd) (f : Fr) : Option (Option AV) := match hwFind cd f.1 with
  | some e => hwRet e f.2.2
  | none => none
theorem Wp.ret {C : Nat → List AV → Mem → Pst → Prop} (hC : Mono C) {cd : Cd} {Q : Pst} {f : Fr} {σ : Mem} {r : Option AV} (h : hwSR cd f = some r) (k : Q r σ) : Wp C cd Q f σ := by
  refine Wp.step hC ?_
  unfold hwSR at h
  cases he : hwFind cd f.1 with
  | none => simp [he] at h
  | some e =>
    simp only [he] at h
    exact ⟨e, he, Or.inr (Or.inr ⟨r, h, k⟩)⟩
/-- a boolean answer that is no written number -/
theorem Wp.retZ {C : Nat → List AV → Mem → Pst → Prop} (hC : Mono C) {cd : Cd} {Q : Pst} {f : Fr} {σ : Mem} {v : Int32} (h : hwSR cd f = if v = 0 ∨ v = 1 then some (some (.inl v)) else none) (hv : v = 0 ∨ v = 1) (k : Q (some (.inl v)) σ) : Wp C cd Q f σ := by
  rw [if_pos hv] at h
  exact Wp.ret hC h k
/-- a switch: in its table, out of it -/
theorem Wp.swIn {C : Nat → List AV → Mem → Pst → Prop} (hC : Mono C) {cd : Cd} {Q : Pst} {pc : Nat} {L : Lc} {r : List AV} {σ : Mem} {q : Fr × Mem} {x v : Int32} (hx : x = v) (h : hwS cd ((pc, L, .inl v :: r), σ) = some q) (k : Wp C cd Q q.1 q.2) : Wp C cd Q (pc, L, .inl x :: r) σ := by
  subst hx
  exact Wp.one hC h k
theorem Wp.swOut {C : Nat → List AV → Mem → Pst → Prop} (hC : Mono C) {cd : Cd} {Q : Pst} {f : Fr} {σ : Mem} {q : Fr × Mem} {pc : Nat} {L : Lc} {r : List AV} {o o' : Option Int} (h : hwS cd (f, σ) = hwSw o pc L r σ) (ho : o = o') (h2 : hwSw o' pc L r σ = some q) (k : Wp C cd Q q.1 q.2) : Wp C cd Q f σ := by
  subst ho
  exact Wp.one hC (h.trans h2) k
theorem bind_some {α β : Type} {o : Option α} {f : α → Option β} {z : β} (h : o.bind f = some z) : ∃ q, o = some q ∧ f q = some z := by
  cases o with
  | none => cases h
  | some q => exact ⟨q, rfl, h⟩
theorem ite_nn {α : Type} {P : Prop} [Decidable P] {o : Option α} {z : α} (h : (if P then none else o) = some z) : ¬ P ∧ o = some z := by
  by_cases e : P
  · rw [if_pos e] at h; cases h
  · rw [if_neg e] at h; exact ⟨e, h⟩
theorem ite_yy {α : Type} {P : Prop} [Decidable P] {o : Option α} {z : α} (h : (if P then o else none) = some z) : P ∧ o = some z := by
  by_cases e : P
  · rw [if_pos e] at h; exact ⟨e, h⟩
  · rw [if_neg e] at h; cases h
theorem Wp.un {C : Nat → List AV → Mem → Pst → Prop} (hC : Mono C) {cd : Cd} {Q : Pst} {f : Fr} {σ : Mem} (h : Wp C cd Q f σ) : hwStp C cd Q f σ (Wp C cd Q) :=
  h (fun f σ => hwStp C cd Q f σ (Wp C cd Q)) (fun _ _ hs => hwStp.mono hC (fun _ _ h => h) (fun _ _ h => Wp.step hC h) hs)
theorem hwM_idem : ∀ (b : List Bool) (L : Lc), hwM b (hwM b L) = hwM b L
  | [], _ => rfl
  | _ :: _, [] => rfl
  | true :: b, a :: l => congrArg (List.cons a) (hwM_idem b l)
  | false :: b, a :: l => congrArg (List.cons none) (hwM_idem b l)
def hwMk (cd : Cd) (pc : Nat) (L : Lc) : Option Lc := match hwFind cd pc with
  | some e => some (hwM e.2.2.2.2 L)
  | none => none
/-- a place where paths meet: what is dead there is forgotten -/
theorem Wp.jump {C : Nat → List AV → Mem → Pst → Prop} (hC : Mono C) {cd : Cd} {Q : Pst} {pc : Nat} {L L' : Lc} {st : List AV} {σ : Mem} (h : hwMk cd pc L = some L') (k : Wp C cd Q (pc, L', st) σ) : Wp C cd Q (pc, L, st) σ := by
  unfold hwMk at h
  cases he : hwFind cd pc with
  | none => simp [he] at h
  | some e =>
    simp only [he] at h
    obtain rfl := Option.some.inj h
    obtain ⟨e', he', hs⟩ := Wp.un hC k
    have he2 : hwFind cd pc = some e' := he'
    rw [he] at he2
    obtain rfl := Option.some.inj he2
    refine Wp.step hC ⟨e, he, ?_⟩
    simpa only [hwM_idem] using hs

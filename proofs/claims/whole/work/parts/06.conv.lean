/-! FROM THE ABSTRACT MACHINE TO THE MACHINE, 1: values, locals, cells -/
def hwV (ad : Nat → Nat → Nat) : AV → Value
  | .inl x => .int x
  | .inr (.inl x) => .long x
  | .inr (.inr q) => .ref (ad q.1 q.2)
theorem hwV_cat (ad : Nat → Nat → Nat) (v : AV) : (hwV ad v).category = hwCat v := by
  rcases v with x | x | q <;> rfl
def hwA (ad : Nat → Nat → Nat) : Nat → Lc → List (Nat × Value)
  | _, [] => []
  | i, none :: l => hwA ad (i + 1) l
  | i, some v :: l => (i, hwV ad v) :: hwA ad (i + 1) l
theorem hwA_mem (ad : Nat → Nat → Nat) : ∀ (L : Lc) (i j : Nat) (w : Value), (j, w) ∈ hwA ad i L ↔ ∃ (k : Nat) (v : AV), j = i + k ∧ ntD none L k = some v ∧ w = hwV ad v := by
  intro L
  induction L with
  | nil => intro i j w; constructor
           · intro h; cases h
           · rintro ⟨k, v, -, h, -⟩; cases h
  | cons a l ih =>
    intro i j w
    cases a with
    | none =>
      rw [hwA, ih]
      constructor
      · rintro ⟨k, v, h1, h2, h3⟩; exact ⟨k + 1, v, by omega, h2, h3⟩
      · rintro ⟨k, v, h1, h2, h3⟩
        cases k with
        | zero => cases h2
        | succ k => exact ⟨k, v, by omega, h2, h3⟩
    | some a =>
      rw [hwA, List.mem_cons, ih]
      constructor
      · rintro (h | ⟨k, v, h1, h2, h3⟩)
        · cases h; exact ⟨0, a, rfl, rfl, rfl⟩
        · exact ⟨k + 1, v, by omega, h2, h3⟩
      · rintro ⟨k, v, h1, h2, h3⟩
        cases k with
        | zero => left; cases h2; rw [h1, h3]; rfl
        | succ k => right; exact ⟨k, v, by omega, h2, h3⟩
theorem hwA_at {ad : Nat → Nat → Nat} {ls : Array Slot} {n : Nat} {L : Lc} (h : lv_has ls n (hwA ad 0 L)) {i : Nat} {v : AV} (hi : ntD none L i = some v) : ls[i]? = some (.val (hwV ad v)) :=
  h.2.2 (i, hwV ad v) ((hwA_mem ad L 0 i _).mpr ⟨i, v, (Nat.zero_add i).symm, hi, rfl⟩)
theorem hwA_of {ls : Array Slot} {n : Nat} {l l' : List (Nat × Value)} (h : lv_has ls n l) (hs : ∀ q ∈ l', q ∈ l) : lv_has ls n l' := ⟨h.1, h.2.1, fun q hq => h.2.2 q (hs q hq)⟩
theorem hwM_len : ∀ (b : List Bool) (L : Lc), (hwM b L).length = L.length
  | [], L => rfl
  | _ :: _, [] => rfl
  | true :: b, a :: l => congrArg Nat.succ (hwM_len b l)
  | false :: b, a :: l => congrArg Nat.succ (hwM_len b l)
theorem hwM_get : ∀ (b : List Bool) (L : Lc) (i : Nat) (v : AV), ntD none (hwM b L) i = some v → ntD none L i = some v
  | [], L, i, v, h => h
  | _ :: _, [], i, v, h => h
  | true :: b, a :: l, 0, v, h => h
  | true :: b, a :: l, i + 1, v, h => hwM_get b l i v h
  | false :: b, a :: l, 0, v, h => by cases h
  | false :: b, a :: l, i + 1, v, h => hwM_get b l i v h
theorem hwA_sub {ad : Nat → Nat → Nat} {ls : Array Slot} {n : Nat} {L L' : Lc} (h : lv_has ls n (hwA ad 0 L)) (hs : ∀ i v, ntD none L' i = some v → ntD none L i = some v) : lv_has ls n (hwA ad 0 L') := by
  refine hwA_of h fun q hq => ?_
  obtain ⟨k, v, h1, h2, h3⟩ := (hwA_mem ad L' 0 q.1 q.2).mp hq
  exact (hwA_mem ad L 0 q.1 q.2).mpr ⟨k, v, h1, hs _ _ h2, h3⟩
theorem hwC_some {a : Option AV} {n : Nat} {v : AV} (h : hwC a n = some v) : a = some v ∧ ¬ (n = 0 ∧ hwCat v = 2) := by
  cases n with
  | zero =>
    rcases a with _ | x | x | q
    · cases h
    · cases h; exact ⟨rfl, fun q => by cases q.2⟩
    · cases h
    · cases h; exact ⟨rfl, fun q => by cases q.2⟩
  | succ n =>
    have h' : a = some v := h
    exact ⟨h', fun q => by cases q.1⟩
theorem hwS1_len : ∀ (L : Lc) (i : Nat) (v : AV), (hwS1 L i v).length = L.length
  | [], _, _ => rfl
  | _ :: _, 0, _ => rfl
  | a :: l, n + 1, v => congrArg Nat.succ (hwS1_len l n v)
theorem hwS1_get : ∀ (L : Lc) (i : Nat) (v : AV) (j : Nat) (w : AV), ntD none (hwS1 L i v) j = some w → (j = i ∧ w = v) ∨ (ntD none L j = some w ∧ j ≠ i ∧ ¬ (j + 1 = i ∧ hwCat w = 2))
  | [], i, v, j, w, h => by cases h
  | _ :: l, 0, v, 0, w, h => Or.inl ⟨rfl, (Option.some.inj h).symm⟩
  | _ :: l, 0, v, j + 1, w, h => Or.inr ⟨h, by omega, by omega⟩
  | a :: l, n + 1, v, 0, w, h => by
    obtain ⟨h1, h2⟩ := hwC_some (show hwC a n = some w from h)
    exact Or.inr ⟨h1, by omega, fun q => h2 ⟨by omega, q.2⟩⟩
  | a :: l, n + 1, v, j + 1, w, h => by
    rcases hwS1_get l n v j w h with ⟨h1, h2⟩ | ⟨h1, h2, h3⟩
    · exact Or.inl ⟨by omega, h2⟩
    · exact Or.inr ⟨h1, by omega, fun q => h3 ⟨by omega, q.2⟩⟩
theorem hwS2_len : ∀ (L : Lc) (i : Nat) (v : AV), (hwS2 L i v).length = L.length
  | [], _, _ => rfl
  | _ :: [], 0, _ => rfl
  | _ :: _ :: _, 0, _ => rfl
  | a :: l, n + 1, v => congrArg Nat.succ (hwS2_len l n v)
theorem hwS2_get : ∀ (L : Lc) (i : Nat) (v : AV) (j : Nat) (w : AV), ntD none (hwS2 L i v) j = some w → (j = i ∧ w = v) ∨ (ntD none L j = some w ∧ j ≠ i ∧ j ≠ i + 1 ∧ ¬ (j + 1 = i ∧ hwCat w = 2))
  | [], i, v, j, w, h => by cases h
  | _ :: l, 0, v, 0, w, h => Or.inl ⟨rfl, (Option.some.inj h).symm⟩
  | _ :: [], 0, v, j + 1, w, h => by cases h
  | _ :: _ :: l, 0, v, 1, w, h => by cases h
  | _ :: _ :: l, 0, v, j + 2, w, h => Or.inr ⟨h, by omega, by omega, by omega⟩
  | a :: l, n + 1, v, 0, w, h => by
    obtain ⟨h1, h2⟩ := hwC_some (show hwC a n = some w from h)
    exact Or.inr ⟨h1, by omega, by omega, fun q => h2 ⟨by omega, q.2⟩⟩
  | a :: l, n + 1, v, j + 1, w, h => by
    rcases hwS2_get l n v j w h with ⟨h1, h2⟩ | ⟨h1, h2, h3, h4⟩
    · exact Or.inl ⟨by omega, h2⟩
    · exact Or.inr ⟨h1, by omega, by omega, fun q => h4 ⟨by omega, q.2⟩⟩
theorem hwS1_has {ad : Nat → Nat → Nat} {ls : Array Slot} {n i : Nat} {L : Lc} {v : AV} (h : lv_has ls n ((i, hwV ad v) :: (hwA ad 0 L).filter (fun q => !(q.1 == i) && !(q.1 + 1 == i && q.2.category == 2)))) : lv_has ls n (hwA ad 0 (hwS1 L i v)) := by
  refine hwA_of h fun q hq => ?_
  obtain ⟨k, w, h1, h2, h3⟩ := (hwA_mem ad _ 0 q.1 q.2).mp hq
  rcases hwS1_get L i v k w h2 with ⟨e1, e2⟩ | ⟨e1, e2, e3⟩
  · refine List.mem_cons.mpr (Or.inl ?_)
    rw [← e1, ← e2, ← h3]
    exact Prod.ext (by simpa using h1) rfl
  · refine List.mem_cons.mpr (Or.inr (List.mem_filter.mpr ⟨(hwA_mem ad L 0 q.1 q.2).mpr ⟨k, w, h1, e1, h3⟩, ?_⟩))
    have hk : q.1 = k := by omega
    have hc : q.2.category = hwCat w := by rw [h3, hwV_cat]
    have a1 : (q.1 == i) = false := by simp [hk, e2]
    have a2 : (q.1 + 1 == i && q.2.category == 2) = false := by
      rw [hk, hc]
      cases hb : (k + 1 == i && hwCat w == 2) with
      | false => rfl
      | true => simp at hb; exact absurd hb e3
    rw [a1, a2]; rfl
theorem hwS2_has {ad : Nat → Nat → Nat} {ls : Array Slot} {n i : Nat} {L : Lc} {v : AV} (h : lv_has ls n ((i, hwV ad v) :: (hwA ad 0 L).filter (fun q => !(q.1 == i) && (!(q.1 == i + 1) && !(q.1 + 1 == i && q.2.category == 2))))) : lv_has ls n (hwA ad 0 (hwS2 L i v)) := by
  refine hwA_of h fun q hq => ?_
  obtain ⟨k, w, h1, h2, h3⟩ := (hwA_mem ad _ 0 q.1 q.2).mp hq
  rcases hwS2_get L i v k w h2 with ⟨e1, e2⟩ | ⟨e1, e2, e2', e3⟩
  · refine List.mem_cons.mpr (Or.inl ?_)
    rw [← e1, ← e2, ← h3]
    exact Prod.ext (by simpa using h1) rfl
  · refine List.mem_cons.mpr (Or.inr (List.mem_filter.mpr ⟨(hwA_mem ad L 0 q.1 q.2).mpr ⟨k, w, h1, e1, h3⟩, ?_⟩))
    have hk : q.1 = k := by omega
    have hc : q.2.category = hwCat w := by rw [h3, hwV_cat]
    have a1 : (q.1 == i) = false := by simp [hk, e2]
    have a3 : (q.1 == i + 1) = false := by simp [hk, e2']
    have a2 : (q.1 + 1 == i && q.2.category == 2) = false := by
      rw [hk, hc]
      cases hb : (k + 1 == i && hwCat w == 2) with
      | false => rfl
      | true => simp at hb; exact absurd hb e3
    rw [a1, a2, a3]; rfl
theorem hwEn_len : ∀ (as : List AV) (n : Nat), hwCats as ≤ n → (hwEn as n).length = n
  | [], n, _ => by simp [hwEn]
  | .inl x :: r, n, h => by
    have h : 1 + hwCats r ≤ n := h
    show (hwEn r (n - 1)).length + 1 = n
    rw [hwEn_len r (n - 1) (by omega)]; omega
  | .inr (.inl x) :: r, n, h => by
    have h : 2 + hwCats r ≤ n := h
    show (hwEn r (n - 2)).length + 1 + 1 = n
    rw [hwEn_len r (n - 2) (by omega)]; omega
  | .inr (.inr q) :: r, n, h => by
    have h : 1 + hwCats r ≤ n := h
    show (hwEn r (n - 1)).length + 1 = n
    rw [hwEn_len r (n - 1) (by omega)]; omega
theorem ntD_rep (n k : Nat) : ntD (none : Option AV) (List.replicate n none) k = none := by
  induction n generalizing k with
  | zero => rfl
  | succ n ih => cases k with
    | zero => rfl
    | succ k => exact ih k
theorem hwEn_args (ad : Nat → Nat → Nat) : ∀ (as : List AV) (n i k : Nat) (v : AV), ntD none (hwEn as n) k = some v → (i + k, hwV ad v) ∈ lv_args i (as.map (hwV ad)) := by
  intro as
  induction as with
  | nil => intro n i k v h; rw [hwEn, ntD_rep] at h; cases h
  | cons a r ih =>
    intro n i k v h
    rcases a with x | x | q
    · cases k with
      | zero => cases h; exact List.mem_cons_self
      | succ k =>
        have := ih (n - 1) (i + 1) k v h
        refine List.mem_cons_of_mem _ ?_
        show (i + (k + 1), hwV ad v) ∈ lv_args (i + 1) (r.map (hwV ad))
        rw [show i + (k + 1) = i + 1 + k by omega]; exact this
    · cases k with
      | zero => cases h; exact List.mem_cons_self
      | succ k => cases k with
        | zero => cases h
        | succ k =>
          have := ih (n - 2) (i + 2) k v h
          refine List.mem_cons_of_mem _ ?_
          show (i + (k + 1 + 1), hwV ad v) ∈ lv_args (i + 2) (r.map (hwV ad))
          rw [show i + (k + 1 + 1) = i + 2 + k by omega]; exact this
    · cases k with
      | zero => cases h; exact List.mem_cons_self
      | succ k =>
        have := ih (n - 1) (i + 1) k v h
        refine List.mem_cons_of_mem _ ?_
        show (i + (k + 1), hwV ad v) ∈ lv_args (i + 1) (r.map (hwV ad))
        rw [show i + (k + 1) = i + 1 + k by omega]; exact this
theorem hwEn_has {ad : Nat → Nat → Nat} {as : List AV} {n : Nat} {ls : Array Slot} (h : lv_has ls n (lv_args 0 (as.map (hwV ad)))) : lv_has ls n (hwA ad 0 (hwEn as n)) := by
  refine hwA_of h fun q hq => ?_
  obtain ⟨k, v, h1, h2, h3⟩ := (hwA_mem ad _ 0 q.1 q.2).mp hq
  have h4 := hwEn_args ad as n 0 k v h2
  have e : q = (0 + k, hwV ad v) := Prod.ext h1 h3
  rw [e]; exact h4
theorem hwCats_sl (ad : Nat → Nat → Nat) : ∀ as : List AV, (lg_sl (as.map (hwV ad))).length = hwCats as
  | [] => rfl
  | .inl x :: r => by
    have := hwCats_sl ad r
    simp [lg_sl, hwV, Value.category, hwCats, hwCat] at this ⊢; omega
  | .inr (.inl x) :: r => by
    have := hwCats_sl ad r
    simp [lg_sl, hwV, Value.category, hwCats, hwCat] at this ⊢; omega
  | .inr (.inr q) :: r => by
    have := hwCats_sl ad r
    simp [lg_sl, hwV, Value.category, hwCats, hwCat] at this ⊢; omega
theorem hwCats_cat (ad : Nat → Nat → Nat) : ∀ as : List AV, ((as.map (hwV ad)).map fun v => v.category).sum = hwCats as
  | [] => rfl
  | v :: r => by
    have := hwCats_cat ad r
    simp only [List.map_cons, List.sum_cons, hwV_cat, hwCats] at this ⊢
    omega
/-! cells -/
abbrev Kc : Type := ClassId × ClassId × ClassId × ClassId × ClassId
def hwFv (ad : Nat → Nat → Nat) (σ : Mem) (t k : Nat) (q : Nat × Nat) : Value := match q with
  | (1, _) => .long (σ.2.1 t k)
  | (2, u) => .ref (ad u 0)
  | _ => .int (σ.1 t k)
def hwCo (ad : Nat → Nat → Nat) (K : Kc) (σ : Mem) (q : Nat × Nat) : va_E := match hwSh q.1 with
  | (0, ci, _, fl) => .inr (ci, (List.range fl.length).map (fun k => hwFv ad σ q.1 k (ntD (9, 0) fl k)))
  | (2, n, _, _) => .inl (K.2.2.1, n, .inl (σ.2.2.1 q.1 q.2))
  | (3, n, _, _) => .inl (K.2.1, n, .inr (.inl (σ.2.2.2.1 q.1 q.2)))
  | (4, n, u, _) => .inl (K.2.2.2.1, n, .inr (.inr (.inr (.inr (fun i => if i < n then some (ad u i) else none)))))
  | (5, n, u, _) => .inl (K.2.2.2.2, n, .inr (.inr (.inr (.inr (fun i => if i < n then some (ad u i) else none)))))
  | (_, n, _, _) => .inl (K.1, n, .inl (σ.2.2.1 q.1 q.2))
def hwW (ad : Nat → Nat → Nat) (K : Kc) (ks : List (Nat × Nat)) (σ : Mem) : va_W := ks.map (fun q => (ad q.1 q.2, hwCo ad K σ q))
theorem hwW_get {ad : Nat → Nat → Nat} {K : Kc} {ks : List (Nat × Nat)} {σ : Mem} {q : Nat × Nat} (h : q ∈ ks) : ∃ k : Nat, ks[k]? = some q ∧ (hwW ad K ks σ)[k]? = some (ad q.1 q.2, hwCo ad K σ q) := by
  obtain ⟨k, hk⟩ := List.getElem?_of_mem h
  exact ⟨k, hk, by unfold hwW; rw [List.getElem?_map, hk]; rfl⟩
theorem hwW_set {ad : Nat → Nat → Nat} {K : Kc} {ks : List (Nat × Nat)} {σ σ' : Mem} {q : Nat × Nat} {k : Nat} (hnd : ∀ (i j : Nat) (q : Nat × Nat), ks[i]? = some q → ks[j]? = some q → i = j) (hk : ks[k]? = some q) (hs : ∀ q', q' ∈ ks → q' ≠ q → hwCo ad K σ' q' = hwCo ad K σ q') : (hwW ad K ks σ).set k (ad q.1 q.2, hwCo ad K σ' q) = hwW ad K ks σ' := by
  apply List.ext_getElem?
  intro i
  have hkl : k < ks.length := (List.getElem?_eq_some_iff.mp hk).1
  by_cases hi : i = k
  · subst hi
    rw [List.getElem?_set_self (by unfold hwW; rw [List.length_map]; exact hkl)]
    unfold hwW
    rw [List.getElem?_map, hk]; rfl
  · rw [List.getElem?_set_ne (Ne.symm hi)]
    unfold hwW
    rw [List.getElem?_map, List.getElem?_map]
    cases hq : ks[i]? with
    | none => rfl
    | some q' =>
      have hne : q' ≠ q := by
        intro e
        rw [e] at hq
        exact hi (hnd i k q hq hk)
      simp only [Option.map_some]
      rw [hs q' (List.mem_of_getElem? hq) hne]

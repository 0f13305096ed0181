/-! FROM THE ABSTRACT MACHINE TO THE MACHINE, 2: what is given, what holds at each instruction -/
def hwTy (K : Kc) : List (ClassId × FieldType) := [(K.1, .int), (K.2.1, .long), (K.2.2.1, .boolean), (K.2.2.2.1, .array .int), (K.2.2.2.2, .array .long)]
def hwG (ad : Nat → Nat → Nat) (K : Kc) (A : Nat → Prop) (D : va_G) (sc : Nat × (Nat → Int32)) (U : State) (H : Heap) : Prop :=
  va_K D vwCl (hwTy K) U ∧ (∀ q ∈ hwNf, va_Nw (.fieldLinkNest q.1 q.2.1 q.2.2.1 q.2.2.2.1 q.2.2.2.2.1 q.2.2.2.2.2) U) ∧ (∀ q ∈ hwNm, va_Nw (.methodLinkNest q.1 q.2.1 q.2.2.1 q.2.2.2) U) ∧
  (va_X (ad 200 0) sc.1 sc.2 U H ∧ ad 200 0 < H.size ∧ ¬ A (ad 200 0)) ∧
  (∀ j : Nat, j < 3 → va_Z (ntD ("", "") hwSn j).1 (ntD ("", "") hwSn j).2 "[I" (.ref (ad (201 + j) 0)) A U H ∧ va_T .int (ad (201 + j) 0) (ntD [] hwSA j).length (fun k => .int (ntD 0 (ntD [] hwSA j) k)) A U H) ∧ hwStr ad A U H
theorem hwG.go {ad : Nat → Nat → Nat} {K : Kc} {A : Nat → Prop} {D : va_G} {sc : Nat × (Nat → Int32)} {s U : State} {H0 H : Heap} {locs : List Loc} (h : hwG ad K A D sc s H0) (hW : s.WarmedH U.vm) (hS : va_S A H0 H locs) : hwG ad K A D sc U H := by
  obtain ⟨h1, h2, h3, ⟨h4, h5, h6⟩, h7, h8⟩ := h
  refine ⟨va_K.moved hW.alike h1, fun q hq => va_Nw.warmF hW (h2 q hq), fun q hq => va_Nw.warmM hW (h3 q hq), ⟨(h4.kept (hS.2.1 _ h5 h6)).moved hW.alike, Nat.lt_of_lt_of_le h5 hS.1, h6⟩, fun j hj => ?_, hwStr.go h8 hW hS.2.1⟩
  obtain ⟨a, b⟩ := h7 j hj
  exact ⟨va_Z.moved hW.alike (a.kept hS.2.1), va_T.moved hW.alike (b.kept hS.2.1)⟩
def hwOk (ks : List (Nat × Nat)) (v : AV) : Prop := match v with
  | .inr (.inr q) => q ∈ ks ∨ (200 ≤ q.1 ∧ q.2 = 0)
  | _ => True
/-- the keys are closed: what a field or a row tells of is a key, too -/
def hwCl1 (ks : List (Nat × Nat)) (q : Nat × Nat) : Bool := Nat.ble (q.1 + 1) 200 && (match hwSh q.1 with
  | (0, ci, _, fl) => Nat.beq q.2 0 && decide ((vwCl[ci]?).map (fun r => r.2.2) = some fl.length) && fl.all (fun g => match g with
    | (2, u) => decide ((u, 0) ∈ ks)
    | _ => true)
  | (4, n, u, _) => (List.range n).all (fun i => decide ((u, i) ∈ ks))
  | (5, n, u, _) => (List.range n).all (fun i => decide ((u, i) ∈ ks))
  | _ => true)
/-- a field's descriptor, by the shape's kind -/
def hwFt (k : Nat) : FieldType := match k with
  | 1 => .long
  | 3 => .boolean
  | _ => .int
def hwCl2 (q : Nat × Nat) : Bool := match hwSh q.1 with
  | (0, ci, _, fl) => (match vwCl[ci]? with
    | some (_, T, _) => (List.range fl.length).all (fun k => match ntD (9, 0) fl k with
      | (2, _) => true
      | (g, _) => decide (parseFieldDescriptor (T k).2.2.1 = some (hwFt g)))
    | none => false)
  | _ => true
def hwCl (ks : List (Nat × Nat)) : Prop := (∀ q ∈ ks, hwCl1 ks q = true ∧ hwCl2 q = true) ∧ ∀ (i j : Nat) (q : Nat × Nat), ks[i]? = some q → ks[j]? = some q → i = j
def hwInv (ad : Nat → Nat → Nat) (K : Kc) (ks : List (Nat × Nat)) (A : Nat → Prop) (D : va_G) (N : Nat) (sc : Nat × (Nat → Int32)) (H0 : Heap) (f : Fr) (τ : Mem) (H : Heap) (ls : Array Slot) (locs : List Loc) : Prop :=
  f.2.1.length = N ∧ lv_has ls N (hwA ad 0 f.2.1) ∧ (∀ i v, ntD none f.2.1 i = some v → hwOk ks v) ∧ (∀ v ∈ f.2.2, hwOk ks v) ∧ va_P D vwCl (hwW ad K ks τ) H ∧ va_D A (hwW ad K ks τ) ∧ va_S A H0 H locs ∧ τ.2.2.2.2 = sc
section INV
variable {ad : Nat → Nat → Nat} {K : Kc} {ks : List (Nat × Nat)} {A : Nat → Prop} {D : va_G} {N : Nat} {sc : Nat × (Nat → Int32)} {H0 H : Heap} {ls : Array Slot} {locs : List Loc} {pc : Nat} {L : Lc} {st : List AV} {τ : Mem}
theorem hwInv.to (h : hwInv ad K ks A D N sc H0 (pc, L, st) τ H ls locs) (n : Nat) {st' : List AV} (hs : ∀ v ∈ st', hwOk ks v) : hwInv ad K ks A D N sc H0 (n, L, st') τ H ls locs :=
  ⟨h.1, h.2.1, h.2.2.1, hs, h.2.2.2.2⟩
theorem hwInv.mask (h : hwInv ad K ks A D N sc H0 (pc, L, st) τ H ls locs) (b : List Bool) : hwInv ad K ks A D N sc H0 (pc, hwM b L, st) τ H ls locs :=
  ⟨(hwM_len b L).trans h.1, hwA_sub h.2.1 (hwM_get b L), fun i v hv => h.2.2.1 i v (hwM_get b L i v hv), h.2.2.2⟩
theorem hwInv.ok (h : hwInv ad K ks A D N sc H0 (pc, L, st) τ H ls locs) : ∀ v ∈ st, hwOk ks v := h.2.2.2.1
theorem hwInv.s1 (h : hwInv ad K ks A D N sc H0 (pc, L, st) τ H ls locs) (n : Nat) {ls' : Array Slot} {i : Nat} {v : AV} {r : List AV} (hv : hwOk ks v) (hr : ∀ v ∈ r, hwOk ks v) (hl : lv_has ls' N ((i, hwV ad v) :: (hwA ad 0 L).filter (fun q => !(q.1 == i) && !(q.1 + 1 == i && q.2.category == 2)))) : hwInv ad K ks A D N sc H0 (n, hwS1 L i v, r) τ H ls' locs := by
  refine ⟨(hwS1_len L i v).trans h.1, hwS1_has hl, fun j w hw => ?_, hr, h.2.2.2.2⟩
  rcases hwS1_get L i v j w hw with ⟨-, e⟩ | ⟨e, -⟩
  · rw [e]; exact hv
  · exact h.2.2.1 j w e
theorem hwInv.s2 (h : hwInv ad K ks A D N sc H0 (pc, L, st) τ H ls locs) (n : Nat) {ls' : Array Slot} {i : Nat} {v : AV} {r : List AV} (hv : hwOk ks v) (hr : ∀ v ∈ r, hwOk ks v) (hl : lv_has ls' N ((i, hwV ad v) :: (hwA ad 0 L).filter (fun q => !(q.1 == i) && (!(q.1 == i + 1) && !(q.1 + 1 == i && q.2.category == 2))))) : hwInv ad K ks A D N sc H0 (n, hwS2 L i v, r) τ H ls' locs := by
  refine ⟨(hwS2_len L i v).trans h.1, hwS2_has hl, fun j w hw => ?_, hr, h.2.2.2.2⟩
  rcases hwS2_get L i v j w hw with ⟨-, e⟩ | ⟨e, -⟩
  · rw [e]; exact hv
  · exact h.2.2.1 j w e
/-- behind a write of one cell -/
theorem hwInv.put (hcl : hwCl ks) (h : hwInv ad K ks A D N sc H0 (pc, L, st) τ H ls locs) (n : Nat) {st' : List AV} (hs : ∀ v ∈ st', hwOk ks v) {τ' : Mem} {q : Nat × Nat} {k : Nat} {H1 : Heap} {locs1 : List Loc} {e : va_E} (hk : ks[k]? = some q) (he : e = hwCo ad K τ' q) (hsame : ∀ q', q' ∈ ks → q' ≠ q → hwCo ad K τ' q' = hwCo ad K τ q') (hsc : τ'.2.2.2.2 = τ.2.2.2.2)
    (hP : va_P D vwCl ((hwW ad K ks τ).set k (ad q.1 q.2, e)) H1) (hD : va_D A ((hwW ad K ks τ).set k (ad q.1 q.2, e))) (hS : va_S A H0 H1 locs1) : hwInv ad K ks A D N sc H0 (n, L, st') τ' H1 ls locs1 := by
  subst he
  rw [hwW_set hcl.2 hk hsame] at hP hD
  exact ⟨h.1, h.2.1, h.2.2.1, hs, hP, hD, hS, hsc.trans h.2.2.2.2.2.2.2⟩
end INV
theorem ntD_range {β : Type} (f : Nat → β) (n k : Nat) (h : k < n) : ((List.range n).map f)[k]? = some (f k) := by
  rw [List.getElem?_map, List.getElem?_range h]; rfl
theorem range_set {β : Type} (f g : Nat → β) (n k : Nat) (h : ∀ j, j < n → j ≠ k → g j = f j) : ((List.range n).map f).set k (g k) = (List.range n).map g := by
  apply List.ext_getElem?
  intro i
  by_cases hi : i < n
  · by_cases e : i = k
    · subst e
      rw [List.getElem?_set_self (by simpa using hi), ntD_range g n i hi]
    · rw [List.getElem?_set_ne (Ne.symm e), ntD_range f n i hi, ntD_range g n i hi, h i hi e]
  · rw [List.getElem?_eq_none (by simpa using Nat.not_lt.mp hi), List.getElem?_eq_none (by simpa using Nat.not_lt.mp hi)]
theorem ntD_mem {α : Type} (d : α) : ∀ (l : List α) (k : Nat), ntD d l k = d ∨ (k < l.length ∧ ntD d l k ∈ l)
  | [], _ => Or.inl rfl
  | a :: l, 0 => Or.inr ⟨by simp, List.mem_cons_self⟩
  | a :: l, k + 1 => (ntD_mem d l k).imp id (fun h => ⟨Nat.succ_lt_succ h.1, List.mem_cons_of_mem _ h.2⟩)
theorem hwU2_ne {α : Type} {f : Nat → Nat → α} {t k a b : Nat} {v : α} (h : ¬ (a = t ∧ b = k)) : hwU2 f t k v a b = f a b := by
  have e : (Nat.beq a t && Nat.beq b k) = false := by
    cases hb : (Nat.beq a t && Nat.beq b k) with
    | false => rfl
    | true => simp only [Bool.and_eq_true] at hb; exact absurd ⟨Nat.eq_of_beq_eq_true hb.1, Nat.eq_of_beq_eq_true hb.2⟩ h
  simp only [hwU2, e, cond_false]
theorem hwU2_eq {α : Type} {f : Nat → Nat → α} {t k : Nat} {v : α} : hwU2 f t k v t k = v := by
  simp [hwU2]
theorem hwU3_ne {α : Type} {f : Nat → Nat → Nat → α} {t r k a b : Nat} {v : α} (h : ¬ (a = t ∧ b = r)) : hwU3 f t r k v a b = f a b := by
  funext c
  have e : (Nat.beq a t && (Nat.beq b r && Nat.beq c k)) = false := by
    cases hb : (Nat.beq a t && (Nat.beq b r && Nat.beq c k)) with
    | false => rfl
    | true => simp only [Bool.and_eq_true] at hb; exact absurd ⟨Nat.eq_of_beq_eq_true hb.1, Nat.eq_of_beq_eq_true hb.2.1⟩ h
  simp only [hwU3, e, cond_false]
theorem hwU3_row {f : Nat → Nat → Nat → Int32} {t r k : Nat} {v : Int32} : hwU3 f t r k v t r = upd (f t r) k v := by
  funext c
  by_cases h : c = k
  · subst h; simp [hwU3, upd]
  · have : Nat.beq c k = false := by
      cases hb : Nat.beq c k with
      | false => rfl
      | true => exact absurd (Nat.eq_of_beq_eq_true hb) h
    simp [hwU3, upd, h, this]
theorem hwU3_rowL {f : Nat → Nat → Nat → Int64} {t r k : Nat} {v : Int64} : hwU3 f t r k v t r = vp_updL (f t r) k v := by
  funext c
  by_cases h : c = k
  · subst h; simp [hwU3, vp_updL]
  · have : Nat.beq c k = false := by
      cases hb : Nat.beq c k with
      | false => rfl
      | true => exact absurd (Nat.eq_of_beq_eq_true hb) h
    simp [hwU3, vp_updL, h, this]
theorem hwR3_ne {α : Type} {f : Nat → Nat → Nat → α} {t r a b : Nat} {g : Nat → α} (h : ¬ (a = t ∧ b = r)) : hwR3 f t r g a b = f a b := by
  funext c
  have e : (Nat.beq a t && Nat.beq b r) = false := by
    cases hb : (Nat.beq a t && Nat.beq b r) with
    | false => rfl
    | true => simp only [Bool.and_eq_true] at hb; exact absurd ⟨Nat.eq_of_beq_eq_true hb.1, Nat.eq_of_beq_eq_true hb.2⟩ h
  simp only [hwR3, e, cond_false]
theorem hwR3_eq {α : Type} {f : Nat → Nat → Nat → α} {t r : Nat} {g : Nat → α} : hwR3 f t r g t r = g := by
  funext c; simp [hwR3]
/-- the tags of tables and texts are no keys; their kinds -/
theorem hwSh_hi {t : Nat} (h : 200 ≤ t) : 6 ≤ (hwSh t).1 := by
  have hb : Nat.ble 200 t = true := Nat.ble_eq_true_of_le h
  simp only [hwSh, hb, cond_true]
  rcases ntD_mem (9, 0, 0, []) hwShB (t - 200) with h1 | ⟨-, h1⟩
  · rw [h1]; decide
  · have : ∀ s ∈ hwShB, 6 ≤ s.1 := by decide
    exact this _ h1
theorem hwSh_lo {t : Nat} (h : t < 200) : (hwSh t).1 < 6 ∨ (hwSh t).1 = 9 := by
  have hb : Nat.ble 200 t = false := by
    cases hb : Nat.ble 200 t with
    | false => rfl
    | true => have := Nat.le_of_ble_eq_true hb; omega
  simp only [hwSh, hb, cond_false]
  rcases ntD_mem (9, 0, 0, []) hwShA t with h1 | ⟨-, h1⟩
  · rw [h1]; right; rfl
  · have : ∀ s ∈ hwShA, s.1 < 6 ∨ s.1 = 9 := by decide
    exact this _ h1
theorem ntD_ge {α : Type} (d : α) : ∀ (l : List α) (k : Nat), l.length ≤ k → ntD d l k = d
  | [], _, _ => rfl
  | a :: l, 0, h => absurd h (by simp)
  | a :: l, k + 1, h => ntD_ge d l k (Nat.le_of_succ_le_succ h)
theorem hwSh_6 {t : Nat} (h : (hwSh t).1 = 6) : t = 200 := by
  by_cases h1 : t < 200
  · rcases hwSh_lo h1 with h2 | h2 <;> omega
  · have hb : Nat.ble 200 t = true := Nat.ble_eq_true_of_le (Nat.not_lt.mp h1)
    simp only [hwSh, hb, cond_true] at h
    by_cases h2 : t - 200 < 13
    · have : ∀ k, k < 13 → (ntD (9, 0, 0, []) hwShB k).1 = 6 → k = 0 := by decide
      have h9 := this _ h2 h
      clear this
      omega
    · rw [ntD_ge _ _ _ (show 13 ≤ t - 200 from Nat.not_lt.mp h2)] at h
      cases h
theorem hwSh_7 {t : Nat} (h : (hwSh t).1 = 7) : t = 201 + (hwSh t).2.1 ∧ (hwSh t).2.1 < 3 := by
  by_cases h1 : t < 200
  · rcases hwSh_lo h1 with h2 | h2 <;> omega
  · have hb : Nat.ble 200 t = true := Nat.ble_eq_true_of_le (Nat.not_lt.mp h1)
    simp only [hwSh, hb, cond_true] at h ⊢
    by_cases h2 : t - 200 < 13
    · have : ∀ k, k < 13 → (ntD (9, 0, 0, []) hwShB k).1 = 7 → k = 1 + (ntD (9, 0, 0, []) hwShB k).2.1 ∧ (ntD (9, 0, 0, []) hwShB k).2.1 < 3 := by decide
      have h9 := this _ h2 h
      clear this h
      generalize (ntD (9, 0, 0, []) hwShB (t - 200)).2.1 = z at h9 ⊢
      exact ⟨by have := h9.1; omega, h9.2⟩
    · rw [ntD_ge _ _ _ (show 13 ≤ t - 200 from Nat.not_lt.mp h2)] at h
      cases h
theorem hwSh_8 {t : Nat} (h : (hwSh t).1 = 8) : t = 210 + (hwSh t).2.1 ∧ (hwSh t).2.1 < 3 := by
  by_cases h1 : t < 200
  · rcases hwSh_lo h1 with h2 | h2 <;> omega
  · have hb : Nat.ble 200 t = true := Nat.ble_eq_true_of_le (Nat.not_lt.mp h1)
    simp only [hwSh, hb, cond_true] at h ⊢
    by_cases h2 : t - 200 < 13
    · have : ∀ k, k < 13 → (ntD (9, 0, 0, []) hwShB k).1 = 8 → k = 10 + (ntD (9, 0, 0, []) hwShB k).2.1 ∧ (ntD (9, 0, 0, []) hwShB k).2.1 < 3 := by decide
      have h9 := this _ h2 h
      clear this h
      generalize (ntD (9, 0, 0, []) hwShB (t - 200)).2.1 = z at h9 ⊢
      exact ⟨by have := h9.1; omega, h9.2⟩
    · rw [ntD_ge _ _ _ (show 13 ≤ t - 200 from Nat.not_lt.mp h2)] at h
      cases h
theorem hwCo_congr {ad : Nat → Nat → Nat} {K : Kc} {σ σ' : Mem} {q : Nat × Nat} (h1 : ∀ k, σ'.1 q.1 k = σ.1 q.1 k) (h2 : ∀ k, σ'.2.1 q.1 k = σ.2.1 q.1 k) (h3 : σ'.2.2.1 q.1 q.2 = σ.2.2.1 q.1 q.2) (h4 : σ'.2.2.2.1 q.1 q.2 = σ.2.2.2.1 q.1 q.2) : hwCo ad K σ' q = hwCo ad K σ q := by
  have h5 : ∀ k g, hwFv ad σ' q.1 k g = hwFv ad σ q.1 k g := by
    intro k g
    unfold hwFv
    split
    · rw [h2]
    · rfl
    · rw [h1]
  unfold hwCo
  split <;> simp only [h3, h4, h5]
theorem nn_in {q q' : Nat × Nat} (h : q' ≠ q) : ¬ (q'.1 = q.1 ∧ q'.2 = q.2) := fun e => h (Prod.ext e.1 e.2)
theorem hwU_of {ci : Nat} {C : String} {T : u_T} {N : Nat} (h : vwCl[ci]? = some (C, T, N)) : ∀ w ∈ u_ws C T N, w ∈ hwTB := by
  have hl : ci < 13 := (List.getElem?_eq_some_iff.mp h).1
  have h1 := okU_ok ci hl
  simp only [okU, h] at h1
  intro w hw
  obtain ⟨k, hk, rfl⟩ := List.mem_map.mp hw
  exact hwWd_mem (List.all_eq_true.mp h1 k hk)
theorem vwCl_ok {ci : Nat} {q : vw_C} (h : vwCl[ci]? = some q) : (∃ ty0 : Nat → FieldType, ∀ k, k < q.2.2 → parseFieldDescriptor (q.2.1 k).2.2.1 = some (ty0 k)) ∧ (∀ a, a < q.2.2 → ∀ b, b < q.2.2 → a ≠ b → (q.2.1 a).2.1 ≠ (q.2.1 b).2.1) := by
  have h1 := List.mem_of_getElem? h
  simp only [vwCl, List.mem_cons, List.not_mem_nil, or_false] at h1
  rcases h1 with rfl | rfl | rfl | rfl | rfl | rfl | rfl | rfl | rfl | rfl | rfl | rfl | rfl
  · exact ⟨⟨tyX0, tyX0_ok⟩, nmX0⟩
  · exact ⟨⟨tyX1, tyX1_ok⟩, nmX1⟩
  · exact ⟨⟨tyX2, tyX2_ok⟩, nmX2⟩
  · exact ⟨⟨tyX3, tyX3_ok⟩, nmX3⟩
  · exact ⟨⟨tyX4, tyX4_ok⟩, nmX4⟩
  · exact ⟨⟨tyX5, tyX5_ok⟩, nmX5⟩
  · exact ⟨⟨tyX6, tyX6_ok⟩, nmX6⟩
  · exact ⟨⟨tyX7, tyX7_ok⟩, nmX7⟩
  · exact ⟨⟨tyX8, tyX8_ok⟩, nmX8⟩
  · exact ⟨⟨tyX9, tyX9_ok⟩, nmX9⟩
  · exact ⟨⟨tyX10, tyX10_ok⟩, nmX10⟩
  · exact ⟨⟨tyX11, tyX11_ok⟩, nmX11⟩
  · exact ⟨⟨tyX12, tyX12_ok⟩, nmX12⟩

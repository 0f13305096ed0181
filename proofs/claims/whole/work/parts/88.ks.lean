/-! THE CONSTRUCTORS, 7: the class's own -/
def ksX2 : List (Nat × Nat) := [(1, 0), (22, 0), (23, 0), (24, 0), (25, 0), (26, 0), (26, 1), (26, 2), (26, 3), (26, 4), (27, 0), (28, 0)]
def ksX7 : List (Nat × Nat) := [(4, 0), (54, 0), (55, 0), (55, 1), (55, 2), (55, 3), (56, 0), (57, 0), (57, 1), (57, 2), (57, 3), (58, 0), (59, 0), (60, 0), (61, 0), (61, 1), (61, 2), (61, 3)]
def ksX10 : List (Nat × Nat) := [(5, 0), (68, 0), (69, 0), (69, 1), (69, 2), (69, 3), (70, 0), (71, 0)]
def ksX6 : List (Nat × Nat) := [(8, 0), (49, 0), (50, 0), (50, 1), (50, 2), (50, 3), (50, 4), (50, 5), (50, 6), (51, 0), (52, 0), (53, 0)]
def ksX9 : List (Nat × Nat) := [(6, 0), (65, 0), (66, 0), (67, 0)]
def ksX1 : List (Nat × Nat) := [(7, 0), (20, 0), (21, 0)]
def ksX5 : List (Nat × Nat) := [(9, 0)]
def ksX0 : List (Nat × Nat) := [(10, 0)]
def ksX3 : List (Nat × Nat) := [(11, 0), (29, 0), (30, 0), (31, 0), (31, 1), (31, 2), (31, 3), (31, 4), (32, 0), (33, 0), (33, 1), (33, 2), (33, 3), (34, 0), (35, 0), (36, 0), (37, 0), (37, 1), (37, 2), (37, 3)]
def ksGL : List (Nat × Nat) := ksX2 ++ ksL
def ksX : List (Nat × Nat) := (0, 0) :: (((((((((ksGL ++ ksX7) ++ ksX10) ++ ksX6) ++ ksX9) ++ ksX1) ++ ksX5) ++ ksX0) ++ ksX3))
def hwRefs (q : Nat × Nat) : List (Nat × Nat) := match hwSh q.1 with
  | (0, _, _, fl) => fl.filterMap (fun g => match g with
    | (2, u) => some (u, 0)
    | _ => none)
  | (4, n, u, _) => (List.range n).map (fun i => (u, i))
  | (5, n, u, _) => (List.range n).map (fun i => (u, i))
  | _ => []
def hwAll (ks : List (Nat × Nat)) : List (Nat × Nat) := ks.flatMap (fun q => q :: hwRefs q)
theorem hwFv_ad {ad ad' : Nat → Nat → Nat} {σ : Mem} {t k : Nat} {g : Nat × Nat} (h : ∀ u, g = (2, u) → ad' u 0 = ad u 0) : hwFv ad' σ t k g = hwFv ad σ t k g := by
  unfold hwFv
  split
  · rfl
  · rw [h _ rfl]
  · rfl
theorem hwCo_ad {ad ad' : Nat → Nat → Nat} {K : Kc} {σ : Mem} {q : Nat × Nat} (h : ∀ p, p ∈ hwRefs q → ad' p.1 p.2 = ad p.1 p.2) : hwCo ad' K σ q = hwCo ad K σ q := by
  unfold hwRefs at h
  unfold hwCo
  generalize hwSh q.1 = sh at h ⊢
  obtain ⟨a, n, u, fl⟩ := sh
  have row : (∀ p, p ∈ (List.range n).map (fun i => (u, i)) → ad' p.1 p.2 = ad p.1 p.2) → (fun i => if i < n then some (ad' u i) else none) = fun i => if i < n then some (ad u i) else none := fun h => by
    funext i
    by_cases c : i < n
    · rw [if_pos c, if_pos c, h (u, i) (List.mem_map.mpr ⟨i, List.mem_range.mpr c, rfl⟩)]
    · rw [if_neg c, if_neg c]
  match a with
  | 0 =>
    have e : (List.range fl.length).map (fun k => hwFv ad' σ q.1 k (ntD (9, 0) fl k)) = (List.range fl.length).map (fun k => hwFv ad σ q.1 k (ntD (9, 0) fl k)) := by
      apply List.map_congr_left
      intro k hk
      have hk : k < fl.length := List.mem_range.mp hk
      refine hwFv_ad (fun u hu => h (u, 0) (List.mem_filterMap.mpr ⟨(2, u), ?_, rfl⟩))
      rcases ntD_mem (9, 0) fl k with z | z
      · rw [z] at hu; cases hu
      · rw [hu] at z; exact z.2
    show (Sum.inr (n, (List.range fl.length).map (fun k => hwFv ad' σ q.1 k (ntD (9, 0) fl k))) : va_E) = _
    rw [e]
    rfl
  | 1 => rfl
  | 2 => rfl
  | 3 => rfl
  | 4 =>
    show (Sum.inl (K.2.2.2.1, n, .inr (.inr (.inr (.inr (fun i => if i < n then some (ad' u i) else none))))) : va_E) = _
    rw [row h]
    rfl
  | 5 =>
    show (Sum.inl (K.2.2.2.2, n, .inr (.inr (.inr (.inr (fun i => if i < n then some (ad' u i) else none))))) : va_E) = _
    rw [row h]
    rfl
  | a + 6 => rfl
theorem hwW_ad {ad ad' : Nat → Nat → Nat} {K : Kc} {σ : Mem} {ks : List (Nat × Nat)} (h : ∀ p, p ∈ hwAll ks → ad' p.1 p.2 = ad p.1 p.2) : hwW ad' K ks σ = hwW ad K ks σ := by
  unfold hwW
  apply List.map_congr_left
  intro q hq
  have m : ∀ p, p = q ∨ p ∈ hwRefs q → p ∈ hwAll ks := fun p hp => List.mem_flatMap.mpr ⟨q, hq, List.mem_cons.mpr hp⟩
  rw [h q (m q (Or.inl rfl)), hwCo_ad (fun p hp => h p (m p (Or.inr hp)))]
theorem hwW_app {ad : Nat → Nat → Nat} {K : Kc} {σ : Mem} (a b : List (Nat × Nat)) : hwW ad K (a ++ b) σ = hwW ad K a σ ++ hwW ad K b σ := List.map_append
theorem hwW_mem {ad : Nat → Nat → Nat} {K : Kc} {σ τ : Mem} {ks : List (Nat × Nat)} (h : ∀ q, q ∈ ks → (τ.1 q.1 = σ.1 q.1 ∧ τ.2.1 q.1 = σ.2.1 q.1) ∧ τ.2.2.1 q.1 = σ.2.2.1 q.1 ∧ τ.2.2.2.1 q.1 = σ.2.2.2.1 q.1) : hwW ad K ks τ = hwW ad K ks σ := by
  unfold hwW
  apply List.map_congr_left
  intro q hq
  obtain ⟨⟨h1, h2⟩, h3, h4⟩ := h q hq
  exact congrArg (fun z => (ad q.1 q.2, z)) (hwCo_congr (σ := σ) (σ' := τ) (fun k => by rw [h1]) (fun k => by rw [h2]) (by rw [h3]) (by rw [h4]))
def inL (t : Nat) : Bool := decide (t ∈ [2, 3, 39, 41, 42, 44, 46, 47, 48, 62, 63, 64])
theorem inL_no {t : Nat} (h : inL t = false) : t ≠ 2 ∧ t ≠ 3 ∧ t ≠ 39 ∧ t ≠ 41 ∧ t ≠ 42 ∧ t ≠ 44 ∧ t ≠ 46 ∧ t ≠ 47 ∧ t ≠ 48 ∧ t ≠ 62 ∧ t ≠ 63 ∧ t ≠ 64 := by
  unfold inL at h
  have := of_decide_eq_false h
  simp only [List.mem_cons, List.not_mem_nil, or_false, not_or] at this
  exact this
theorem hwW_ki {ad : Nat → Nat → Nat} {K : Kc} {σ τ : Mem} (k : KIn σ τ) (ks : List (Nat × Nat)) (h : ks.all (fun q => !(inL q.1)) = true) : hwW ad K ks τ = hwW ad K ks σ := hwW_mem (fun q hq => by
  have hi : inL q.1 = false := by
    have := List.all_eq_true.mp h q hq
    simpa using this
  obtain ⟨n1, n2, n3, n4, n5, n6, n7, n8, n9, n10, n11, n12⟩ := inL_no hi
  exact ⟨⟨k.1 _ n1 n2, by rw [k.2.1]⟩, k.2.2.1 _ n3 n4 n5 n6 n7 n8 n9 n10 n11 n12, by rw [k.2.2.2]⟩)
theorem upd28 : upd (upd (upd (upd (upd (fun _ => 0) (0 : Int32).toNatClampNeg (4 : Int32)) (1 : Int32).toNatClampNeg (200 : Int32)) (2 : Int32).toNatClampNeg (0 : Int32)) (3 : Int32).toNatClampNeg (300 : Int32)) (4 : Int32).toNatClampNeg (20 : Int32) = mIa 28 := by
  funext k
  match k with
  | 0 => rfl
  | 1 => rfl
  | 2 => rfl
  | 3 => rfl
  | 4 => rfl
  | k + 5 =>
    have e : ∀ (f : Nat → Int32) (a : Nat) (x : Int32), a < 5 → upd f a x (k + 5) = f (k + 5) := fun f a x h => if_neg (by omega)
    rw [e _ _ _ (by decide), e _ _ _ (by decide), e _ _ _ (by decide), e _ _ _ (by decide), e _ _ _ (by decide)]
    rfl
theorem upd4 (t : Nat) (ht : t = 70 ∨ t = 95) : upd (upd (upd (upd (fun _ => 0) (0 : Int32).toNatClampNeg (Int32.ofInt (-1))) (1 : Int32).toNatClampNeg (Int32.ofInt (-1))) (2 : Int32).toNatClampNeg (Int32.ofInt (-1))) (3 : Int32).toNatClampNeg (Int32.ofInt (-1)) = mIa t := by
  funext k
  have m : mIa t k = ntD 0 [Int32.ofInt (-1), Int32.ofInt (-1), Int32.ofInt (-1), Int32.ofInt (-1)] k := by rcases ht with rfl | rfl <;> rfl
  rw [m]
  match k with
  | 0 => rfl
  | 1 => rfl
  | 2 => rfl
  | 3 => rfl
  | k + 4 =>
    have e : ∀ (f : Nat → Int32) (a : Nat) (x : Int32), a < 4 → upd f a x (k + 4) = f (k + 4) := fun f a x h => if_neg (by omega)
    rw [e _ _ _ (by decide), e _ _ _ (by decide), e _ _ _ (by decide), e _ _ _ (by decide)]
    rfl
theorem rt_ok : okI mX4_readTape = true ∧ okN mX4_readTape 0 = true ∧ okI mX4_weigh = true ∧ okN mX4_weigh 0 = true := by decide +kernel
def adG (ad : Nat → Nat → Nat) (q1 : Nat) (u1 : Nat → Nat) : Nat → Nat → Nat := fun t r => bif Nat.beq t 1 then q1 else bif Nat.beq t 22 then u1 0 else bif Nat.beq t 23 then u1 1 else bif Nat.beq t 24 then u1 2 else bif Nat.beq t 25 then u1 3 else bif Nat.beq t 26 then u1 3 + 1 + r else bif Nat.beq t 27 then u1 4 else bif Nat.beq t 28 then u1 5 else ad t r
theorem adG_o {ad : Nat → Nat → Nat} {q1 : Nat} {u1 : Nat → Nat} {t : Nat} (h : t ∉ [1, 22, 23, 24, 25, 26, 27, 28]) : adG ad q1 u1 t = ad t := by
  have e : ∀ x, t ≠ x → Nat.beq t x = false := fun x hx => by
    cases q : Nat.beq t x with
    | false => rfl
    | true => exact absurd (Nat.eq_of_beq_eq_true q) hx
  simp only [List.mem_cons, List.not_mem_nil, or_false, not_or] at h
  obtain ⟨n1, n22, n23, n24, n25, n26, n27, n28⟩ := h
  funext r
  unfold adG
  rw [e 1 n1, e 22 n22, e 23 n23, e 24 n24, e 25 n25, e 26 n26, e 27 n27, e 28 n28]
  rfl
def adX (ad : Nat → Nat → Nat) (h0 q3 q4 q5 q6 q7 q8 q9 q10 : Nat) (u2 u3 u4 u5 u6 u7 u8 u9 : Nat → Nat) : Nat → Nat → Nat := fun t r => bif Nat.beq t 0 then h0 else bif Nat.beq t 4 then q3 else bif Nat.beq t 54 then u2 0 else bif Nat.beq t 55 then u2 0 + 1 + r else bif Nat.beq t 56 then u2 1 else bif Nat.beq t 57 then u2 1 + 1 + r else bif Nat.beq t 58 then u2 2 else bif Nat.beq t 59 then u2 3 else bif Nat.beq t 60 then u2 4 else bif Nat.beq t 61 then u2 4 + 1 + r else bif Nat.beq t 5 then q4 else bif Nat.beq t 68 then u3 0 else bif Nat.beq t 69 then u3 0 + 1 + r else bif Nat.beq t 70 then u3 1 else bif Nat.beq t 71 then u3 2 else bif Nat.beq t 8 then q5 else bif Nat.beq t 49 then u4 0 else bif Nat.beq t 50 then u4 0 + 1 + r else bif Nat.beq t 51 then u4 1 else bif Nat.beq t 52 then u4 2 else bif Nat.beq t 53 then u4 3 else bif Nat.beq t 6 then q6 else bif Nat.beq t 65 then u5 0 else bif Nat.beq t 66 then u5 1 else bif Nat.beq t 67 then u5 2 else bif Nat.beq t 7 then q7 else bif Nat.beq t 20 then u6 0 else bif Nat.beq t 21 then u6 1 else bif Nat.beq t 9 then q8 else bif Nat.beq t 10 then q9 else bif Nat.beq t 11 then q10 else bif Nat.beq t 29 then u9 0 else bif Nat.beq t 30 then u9 1 else bif Nat.beq t 31 then u9 1 + 1 + r else bif Nat.beq t 32 then u9 2 else bif Nat.beq t 33 then u9 2 + 1 + r else bif Nat.beq t 34 then u9 3 else bif Nat.beq t 35 then u9 4 else bif Nat.beq t 36 then u9 5 else bif Nat.beq t 37 then u9 5 + 1 + r else ad t r
theorem adX_o {ad : Nat → Nat → Nat} {h0 q3 q4 q5 q6 q7 q8 q9 q10 : Nat} {u2 u3 u4 u5 u6 u7 u8 u9 : Nat → Nat} {t : Nat} (h : t ∉ [0, 4, 54, 55, 56, 57, 58, 59, 60, 61, 5, 68, 69, 70, 71, 8, 49, 50, 51, 52, 53, 6, 65, 66, 67, 7, 20, 21, 9, 10, 11, 29, 30, 31, 32, 33, 34, 35, 36, 37]) : adX ad h0 q3 q4 q5 q6 q7 q8 q9 q10 u2 u3 u4 u5 u6 u7 u8 u9 t = ad t := by
  have e : ∀ x, t ≠ x → Nat.beq t x = false := fun x hx => by
    cases q : Nat.beq t x with
    | false => rfl
    | true => exact absurd (Nat.eq_of_beq_eq_true q) hx
  simp only [List.mem_cons, List.not_mem_nil, or_false, not_or] at h
  obtain ⟨n0, n4, n54, n55, n56, n57, n58, n59, n60, n61, n5, n68, n69, n70, n71, n8, n49, n50, n51, n52, n53, n6, n65, n66, n67, n7, n20, n21, n9, n10, n11, n29, n30, n31, n32, n33, n34, n35, n36, n37⟩ := h
  funext r
  unfold adX
  rw [e 0 n0, e 4 n4, e 54 n54, e 55 n55, e 56 n56, e 57 n57, e 58 n58, e 59 n59, e 60 n60, e 61 n61, e 5 n5, e 68 n68, e 69 n69, e 70 n70, e 71 n71, e 8 n8, e 49 n49, e 50 n50, e 51 n51, e 52 n52, e 53 n53, e 6 n6, e 65 n65, e 66 n66, e 67 n67, e 7 n7, e 20 n20, e 21 n21, e 9 n9, e 10 n10, e 11 n11, e 29 n29, e 30 n30, e 31 n31, e 32 n32, e 33 n33, e 34 n34, e 35 n35, e 36 n36, e 37 n37]
  rfl

/-! THE PURE SIDE, 26: wells that are shared -/
def sF (g : Nat → Nat → Int32) : Nat := (g 12 20).toNatClampNeg
theorem sF_eq {g : Nat → Nat → Int32} (hw : Wf g) : g 12 20 = nI (sF g) ∧ sF g ≤ 6 := hw.fa
def sXi (g : Nat → Nat → Int32) (i : Nat) : Nat := (g 84 i).toNatClampNeg
def sNi (g : Nat → Nat → Int32) (i : Nat) : Nat := (g 85 i).toNatClampNeg
def dst (a b : Nat) : Nat := if a ≤ b then b - a else a - b
def sWk (g : Nat → Nat → Int32) (m x : Nat) : Nat → Nat
  | 0 => 0
  | k + 1 => sWk g m x k + (if m.testBit k = true then sNi g k * dst (sXi g k) x else 0)
theorem bit_6 : ∀ m, m < 64 → ∀ i, i < 6 → ((nI m >>> (nI i &&& 31)) &&& (1 : Int32)) = (if m.testBit i = true then 1 else 0) := by decide +kernel
theorem bit_some : ∀ F, F < 7 → ∀ m, m < 64 → 0 < m → m < 2 ^ F → ∃ i, i < F ∧ m.testBit i = true := by decide +kernel
theorem all_6 : ∀ F, F < 7 → ((1 : Int32) <<< (nI F &&& 31)) - (1 : Int32) = nI (2 ^ F - 1) := by decide +kernel
theorem pow_6 : ∀ F, F < 7 → 2 ^ F ≤ 64 := by decide +kernel
theorem sWk_le {g : Nat → Nat → Int32} (hw : Wf g) (m x : Nat) (hx : x ≤ 99) : ∀ k, k ≤ 6 → sWk g m x k ≤ 9801 * k
  | 0, _ => Nat.le_refl _
  | k + 1, hk => by
    have ih := sWk_le hw m x hx k (by omega)
    have h1 : sXi g k ≤ 99 := (hw.fp k (by omega)).2
    have h2 : sNi g k ≤ 99 := (hw.fn k (by omega)).1.2
    have h3 : dst (sXi g k) x ≤ 99 := by unfold dst; split <;> omega
    have h4 : sNi g k * dst (sXi g k) x ≤ 99 * 99 := Nat.mul_le_mul h2 h3
    rw [sWk]
    split <;> omega
/-- between two neighbours the walk rises or falls evenly -/
theorem sWk_mid {g : Nat → Nat → Int32} (m x : Nat) (h1 : 1 ≤ x) : ∀ k, (∀ i, i < k → m.testBit i = true → sXi g i ≠ x) → sWk g m (x - 1) k + sWk g m (x + 1) k = 2 * sWk g m x k
  | 0, _ => rfl
  | k + 1, h => by
    have ih := sWk_mid m x h1 k (fun i hi => h i (by omega))
    rw [sWk, sWk, sWk]
    by_cases b : m.testBit k = true
    · have hne := h k (by omega) b
      rw [if_pos b, if_pos b, if_pos b]
      have e : dst (sXi g k) (x - 1) + dst (sXi g k) (x + 1) = 2 * dst (sXi g k) x := by unfold dst; split <;> split <;> split <;> omega
      have e2 : sNi g k * dst (sXi g k) (x - 1) + sNi g k * dst (sXi g k) (x + 1) = 2 * (sNi g k * dst (sXi g k) x) := by
        rw [← Nat.mul_add, e, ← Nat.mul_assoc, ← Nat.mul_assoc, Nat.mul_comm (sNi g k) 2]
      omega
    · rw [if_neg b, if_neg b, if_neg b]
      omega
theorem sWk_end {g : Nat → Nat → Int32} (m x y : Nat) : ∀ k, (∀ i, i < k → m.testBit i = true → dst (sXi g i) x = dst (sXi g i) y + 1) → sWk g m y k ≤ sWk g m x k ∧ ((∃ i, i < k ∧ m.testBit i = true ∧ 1 ≤ sNi g i) → sWk g m y k < sWk g m x k)
  | 0, _ => ⟨Nat.le_refl _, fun ⟨i, h, _⟩ => absurd h (Nat.not_lt_zero i)⟩
  | k + 1, h => by
    obtain ⟨a, b⟩ := sWk_end m x y k (fun i hi => h i (by omega))
    rw [sWk, sWk]
    by_cases t : m.testBit k = true
    · rw [if_pos t, if_pos t, h k (by omega) t, Nat.mul_add, Nat.mul_one]
      refine ⟨by omega, ?_⟩
      rintro ⟨i, hi, ti, ni⟩
      by_cases e : i = k
      · subst e; omega
      · have := b ⟨i, by omega, ti, ni⟩
        omega
    · rw [if_neg t, if_neg t]
      refine ⟨by omega, ?_⟩
      rintro ⟨i, hi, ti, ni⟩
      by_cases e : i = k
      · subst e; exact absurd ti t
      · have := b ⟨i, by omega, ti, ni⟩
        omega
/-- the least walk, of like ones the least place -/
def sLex (g : Nat → Nat → Int32) (m a b : Nat) : Prop := sWk g m a (sF g) < sWk g m b (sF g) ∨ (sWk g m a (sF g) = sWk g m b (sF g) ∧ a ≤ b)
theorem sLex.trans {g : Nat → Nat → Int32} {m a b c : Nat} (h : sLex g m a b) (k : sLex g m b c) : sLex g m a c := by
  unfold sLex at *; omega
theorem sLex.rfl_ (g : Nat → Nat → Int32) (m a : Nat) : sLex g m a a := Or.inr ⟨rfl, Nat.le_refl a⟩
theorem sLex.total (g : Nat → Nat → Int32) (m a b : Nat) : sLex g m a b ∨ sLex g m b a := by
  unfold sLex; omega
theorem sLex.anti {g : Nat → Nat → Int32} {m a b : Nat} (h : sLex g m a b) (k : sLex g m b a) : a = b := by
  unfold sLex at *; omega
/-- it lies at a farm -/
theorem well_at {g : Nat → Nat → Int32} (hw : Wf g) {m c : Nat} (hm0 : 0 < m) (hm : m < 2 ^ sF g) (hc : c ≤ 99) (hmin : ∀ z, z ≤ 99 → sLex g m c z) : ∃ i, i < sF g ∧ m.testBit i = true ∧ sXi g i = c := by
  have hF := (sF_eq hw).2
  have h64 := pow_6 (sF g) (by omega)
  obtain ⟨i0, hi0, t0⟩ := bit_some (sF g) (by omega) m (by omega) hm0 hm
  apply Classical.byContradiction
  intro hno
  have hne : ∀ i, i < sF g → m.testBit i = true → sXi g i ≠ c := fun i hi ti e => hno ⟨i, hi, ti, e⟩
  have some_n : ∃ i, i < sF g ∧ m.testBit i = true ∧ 1 ≤ sNi g i := ⟨i0, hi0, t0, (hw.fn i0 (by omega)).2 hi0⟩
  by_cases c0 : c = 0
  · have := (sWk_end (g := g) m c (c + 1) (sF g) (fun i hi ti => by
      have a := hne i hi ti
      unfold dst
      split <;> split <;> omega)).2 some_n
    have := hmin (c + 1) (by omega)
    unfold sLex at this
    omega
  · by_cases c9 : c = 99
    · have := (sWk_end (g := g) m c (c - 1) (sF g) (fun i hi ti => by
        have a := hne i hi ti
        have b : sXi g i ≤ 99 := (hw.fp i (by omega)).2
        unfold dst
        split <;> split <;> omega)).2 some_n
      have := hmin (c - 1) (by omega)
      unfold sLex at this
      omega
    · have e := sWk_mid (g := g) m c (by omega) (sF g) hne
      have a := hmin (c - 1) (by omega)
      have b := hmin (c + 1) (by omega)
      unfold sLex at a b
      omega
theorem i32_dst {a b : Nat} (ha : a ≤ 99) (hb : b ≤ 99) : (if 0 ≤ (nI a - nI b) then (nI a - nI b) else 0 - (nI a - nI b)) = nI (dst a b) := by
  have e : (nI a - nI b).toInt = (a : Int) - b := by rw [i32_sub (by rw [nI_toInt (by omega), nI_toInt (by omega)]; omega) (by rw [nI_toInt (by omega), nI_toInt (by omega)]; omega), nI_toInt (by omega), nI_toInt (by omega)]
  have z : (0 : Int32).toInt = 0 := by decide
  apply Int32.toInt_inj.mp
  have hd : dst a b ≤ 99 := by unfold dst; split <;> omega
  rw [nI_toInt (by omega)]
  by_cases c : b ≤ a
  · rw [if_pos (Int32.le_iff_toInt_le.mpr (by rw [e, z]; omega)), e]
    unfold dst
    split <;> omega
  · rw [if_neg (fun q => by have := Int32.le_iff_toInt_le.mp q; rw [e, z] at this; omega), i32_sub (by rw [e, z]; omega) (by rw [e, z]; omega), e, z]
    unfold dst
    split <;> omega
theorem x_has (N m i : Nat) (hm : m < 64) (hi : i < 6) (σ : Mem) : F_X1_has N (nI m) (nI i) σ = some (if m.testBit i = true then 1 else 0, σ) := by
  unfold F_X1_has
  rw [bit_6 m hm i hi]
  by_cases t : m.testBit i = true
  · rw [if_pos t, if_pos rfl]
  · rw [if_neg t, if_neg (by decide)]
theorem x_walk5 (N : Nat) {g : Nat → Nat → Int32} (hw : Wf g) (m x : Nat) (hm : m < 64) (hx : x ≤ 99) (σ : Mem) (h : HX σ g) : ∀ (q n k : Nat), k + q = sF g → q < n →
    F_X1_walk_b5 N n (nI m) (nI x) (nI (sWk g m x k)) (nI k) σ = some (nI (sWk g m x (sF g)), σ) := by
  have hF := sF_eq hw
  intro q
  induction q with
  | zero =>
    intro n k hk hn
    cases n with
    | zero => cases hn
    | succ n => rw [F_X1_walk_b5.eq_2, h.1.fa, hF.1, if_pos (nI_le (by omega) (by omega)), show k = sF g by omega]
  | succ q ih =>
    intro n k hk hn
    cases n with
    | zero => cases hn
    | succ n =>
      have e2 := ih n (k + 1) (by omega) (by omega)
      rw [sWk] at e2
      rw [F_X1_walk_b5.eq_2, h.1.fa, hF.1, if_neg (nI_ge (by omega) (by omega)), x_has N m k hm (by omega) σ, Option.bind_some, nI_1]
      by_cases t : m.testBit k = true
      · obtain ⟨p1, p2⟩ := hw.fp k (by omega)
        obtain ⟨⟨n1, n2⟩, -⟩ := hw.fn k (by omega)
        rw [if_pos t] at e2 ⊢
        show (if (1 : Int32) = 0 then _ else if hwOut (nI k) 6 then none else if hwOut (nI k) 6 then none else F_X1_walk_b5 N n (nI m) (nI x) (nI (sWk g m x k) + σ.2.2.1 21 0 (nI k).toNatClampNeg * (if 0 ≤ (σ.2.2.1 20 0 (nI k).toNatClampNeg - nI x) then (σ.2.2.1 20 0 (nI k).toNatClampNeg - nI x) else 0 - (σ.2.2.1 20 0 (nI k).toNatClampNeg - nI x))) (nI (k + 1)) σ) = _
        rw [k10, if_neg (out_nI (by omega) (by decide)), if_neg (out_nI (by omega) (by decide)), nI_clamp (by omega), h.1.fp k (by omega), h.1.fn k (by omega), p1, n1, i32_dst p2 hx, nI_mul, nI_add]
        exact e2
      · rw [if_neg t, Nat.add_zero] at e2
        rw [if_neg t]
        exact e2
theorem x_walk (N : Nat) (hN : 160 ≤ N) {g : Nat → Nat → Int32} (hw : Wf g) (m x : Nat) (hm : m < 64) (hx : x ≤ 99) (σ : Mem) (h : HX σ g) : F_X1_walk N (nI m) (nI x) σ = some (nI (sWk g m x (sF g)), σ) := by
  have hF := sF_eq hw
  exact x_walk5 N hw m x hm hx σ h (sF g) N 0 (by omega) (by omega)
/-- so far: none yet, or the best farm -/
def sBf (g : Nat → Nat → Int32) (m k : Nat) (x2 x3 : Int32) : Prop := (x2 = Int32.ofInt (-1) ∧ ∀ i, i < k → ¬ m.testBit i = true) ∨ ∃ c, (x2 = nI c ∧ x3 = nI (sWk g m c (sF g))) ∧ (∃ i, i < k ∧ m.testBit i = true ∧ sXi g i = c) ∧ ∀ i, i < k → m.testBit i = true → sLex g m c (sXi g i)
theorem x_well7 (N : Nat) (hN : 160 ≤ N) {g : Nat → Nat → Int32} (hw : Wf g) (m : Nat) (hm : m < 64) (σ : Mem) (h : HX σ g) : ∀ (q n k : Nat) (x2 x3 : Int32), k + q = sF g → q < n → sBf g m k x2 x3 →
    ∃ y2 y3, F_X1_wellOf_b7 N n (nI m) x2 x3 (nI k) σ = some (y2, σ) ∧ sBf g m (sF g) y2 y3 := by
  have hF := sF_eq hw
  intro q
  induction q with
  | zero =>
    intro n k x2 x3 hk hn hb
    cases n with
    | zero => cases hn
    | succ n =>
      have e : k = sF g := by omega
      exact ⟨x2, x3, by rw [F_X1_wellOf_b7.eq_2, h.1.fa, hF.1, if_pos (nI_le (by omega) (by omega))], by rw [← e]; exact hb⟩
  | succ q ih =>
    intro n k x2 x3 hk hn hb
    cases n with
    | zero => cases hn
    | succ n =>
      rw [F_X1_wellOf_b7.eq_2, h.1.fa, hF.1, if_neg (nI_ge (by omega) (by omega)), x_has N m k hm (by omega) σ, Option.bind_some, nI_1]
      by_cases t : m.testBit k = true
      · obtain ⟨p1, p2⟩ := hw.fp k (by omega)
        have hxk : sXi g k ≤ 99 := p2
        have hk9 := sWk_le hw m (sXi g k) hxk (sF g) hF.2
        rw [if_pos t]
        have b66 : ∃ y2 y3, (sBf g m (k + 1) (nI (sXi g k)) (nI (sWk g m (sXi g k) (sF g))) → F_X1_wellOf_b66 N (F_X1_wellOf_b7 N n) (nI m) (nI k) (nI (sWk g m (sXi g k) (sF g))) σ = some (y2, σ) ∧ sBf g m (sF g) y2 y3) := by
          by_cases hb2 : sBf g m (k + 1) (nI (sXi g k)) (nI (sWk g m (sXi g k) (sF g)))
          · obtain ⟨y2, y3, e, b⟩ := ih n (k + 1) _ _ (by omega) (by omega) hb2
            refine ⟨y2, y3, fun _ => ⟨?_, b⟩⟩
            unfold F_X1_wellOf_b66
            rw [if_neg (out_nI (by omega) (by decide)), nI_clamp (by omega), h.1.fp k (by omega), p1, nI_1]
            exact e
          · exact ⟨0, 0, fun z => absurd z hb2⟩
        obtain ⟨y2, y3, b66⟩ := b66
        have keep : sBf g m (k + 1) x2 x3 → ∃ y2 y3, F_X1_wellOf_b7 N n (nI m) x2 x3 (nI (k + 1)) σ = some (y2, σ) ∧ sBf g m (sF g) y2 y3 := fun hb2 => ih n (k + 1) x2 x3 (by omega) (by omega) hb2
        show ∃ y2 y3, (if (1 : Int32) = 0 then _ else if hwOut (nI k) 6 then none else (F_X1_walk N (nI m) (σ.2.2.1 20 0 (nI k).toNatClampNeg) σ).bind (fun q2 =>
        if x2 < 0 then
          (F_X1_wellOf_b66 N (F_X1_wellOf_b7 N n)) (nI m) (nI k) q2.1 q2.2
        else
          if q2.1 < x3 then
            (F_X1_wellOf_b66 N (F_X1_wellOf_b7 N n)) (nI m) (nI k) q2.1 q2.2
          else
            if q2.1 = x3 then
              if hwOut (nI k) 6 then none else
              if x2 ≤ (q2.2.2.2.1 20 0 (nI k).toNatClampNeg) then
                (F_X1_wellOf_b7 N n) (nI m) x2 x3 (nI (k + 1)) q2.2
              else
                (F_X1_wellOf_b66 N (F_X1_wellOf_b7 N n)) (nI m) (nI k) q2.1 q2.2
            else
              (F_X1_wellOf_b7 N n) (nI m) x2 x3 (nI (k + 1)) q2.2)) = some (y2, σ) ∧ sBf g m (sF g) y2 y3
        rw [k10, if_neg (out_nI (by omega) (by decide))]
        simp only [nI_clamp (show k < 2 ^ 31 by omega)]
        rw [h.1.fp k (by omega), p1, show F_X1_walk N (nI m) (nI (g 84 k).toNatClampNeg) σ = _ from x_walk N hN hw m (sXi g k) hm hxk σ h, Option.bind_some]
        rcases hb with ⟨b1, b2⟩ | ⟨c, ⟨b1, b2⟩, ⟨i, hi, ti, ei⟩, bm⟩
        · rw [if_pos (by rw [b1]; decide)]
          have hb2 : sBf g m (k + 1) (nI (sXi g k)) (nI (sWk g m (sXi g k) (sF g))) := Or.inr ⟨sXi g k, ⟨rfl, rfl⟩, ⟨k, by omega, t, rfl⟩, fun j hj tj => by
            by_cases e : j = k
            · rw [e]; exact sLex.rfl_ g m _
            · exact absurd tj (b2 j (by omega))⟩
          exact ⟨y2, y3, b66 hb2⟩
        · have hc9 : c ≤ 99 := by rw [← ei]; exact (hw.fp i (by omega)).2
          have hcw := sWk_le hw m c hc9 (sF g) hF.2
          have upd : sLex g m (sXi g k) c → sBf g m (k + 1) (nI (sXi g k)) (nI (sWk g m (sXi g k) (sF g))) := fun hl => Or.inr ⟨sXi g k, ⟨rfl, rfl⟩, ⟨k, by omega, t, rfl⟩, fun j hj tj => by
            by_cases e : j = k
            · rw [e]; exact sLex.rfl_ g m _
            · exact hl.trans (bm j (by omega) tj)⟩
          have kep : sLex g m c (sXi g k) → sBf g m (k + 1) x2 x3 := fun hl => Or.inr ⟨c, ⟨b1, b2⟩, ⟨i, by omega, ti, ei⟩, fun j hj tj => by
            by_cases e : j = k
            · rw [e]; exact hl
            · exact bm j (by omega) tj⟩
          rw [if_neg (by rw [b1]; exact nI_pos (by omega))]
          show ∃ y2 y3, (if nI (sWk g m (sXi g k) (sF g)) < x3 then _ else if nI (sWk g m (sXi g k) (sF g)) = x3 then (if hwOut (nI k) 6 then none else if x2 ≤ σ.2.2.1 20 0 k then _ else _) else _) = some (y2, σ) ∧ _
          rw [b2]
          by_cases c1 : sWk g m (sXi g k) (sF g) < sWk g m c (sF g)
          · rw [if_pos (nI_lt c1 (by omega))]
            exact ⟨y2, y3, b66 (upd (Or.inl c1))⟩
          rw [if_neg (nI_nlt (by omega) (by omega))]
          by_cases c2 : sWk g m (sXi g k) (sF g) = sWk g m c (sF g)
          · rw [if_pos (by rw [c2]), if_neg (out_nI (by omega) (by decide)), h.1.fp k (by omega), p1, b1]
            by_cases c3 : c ≤ sXi g k
            · rw [if_pos (show nI c ≤ nI (g 84 k).toNatClampNeg from nI_le c3 (by omega)), ← b2, ← b1]
              exact keep (kep (Or.inr ⟨c2.symm, c3⟩))
            · rw [if_neg (show ¬ nI c ≤ nI (g 84 k).toNatClampNeg from nI_ge (show sXi g k < c by omega) (by omega))]
              exact ⟨y2, y3, b66 (upd (Or.inr ⟨c2, by omega⟩))⟩
          · rw [if_neg (fun z => c2 ((nI_eq (by omega) (by omega)).mp z)), ← b2]
            exact keep (kep (Or.inl (by omega)))
      · rw [if_neg t]
        refine ih n (k + 1) x2 x3 (by omega) (by omega) ?_
        rcases hb with ⟨b1, b2⟩ | ⟨c, b1, ⟨i, hi, ti, ei⟩, bm⟩
        · exact Or.inl ⟨b1, fun j hj tj => by
            by_cases e : j = k
            · rw [e] at tj; exact t tj
            · exact b2 j (by omega) tj⟩
        · exact Or.inr ⟨c, b1, ⟨i, by omega, ti, ei⟩, fun j hj tj => by
            by_cases e : j = k
            · rw [e] at tj; exact absurd tj t
            · exact bm j (by omega) tj⟩
/-- fields of the search alone -/
def KF (σ τ : Mem) : Prop := (∀ t, t ≠ 12 → τ.1 t = σ.1 t) ∧ (∀ k, k ≠ 59 → k ≠ 60 → τ.1 12 k = σ.1 12 k) ∧ τ.2 = σ.2
theorem KF.rfl_ (σ : Mem) : KF σ σ := ⟨fun _ _ => rfl, fun _ _ _ => rfl, rfl⟩
theorem KF.trans {σ τ υ : Mem} (h : KF σ τ) (k : KF τ υ) : KF σ υ := ⟨fun t a => (k.1 t a).trans (h.1 t a), fun t a b => (k.2.1 t a b).trans (h.2.1 t a b), k.2.2.trans h.2.2⟩
theorem KF.m {σ τ : Mem} (h : KF σ τ) : KM σ τ := ⟨h.1, fun k hk => h.2.1 k (by omega) (by omega), fun t _ => by rw [h.2.2], fun t _ => by rw [h.2.2], by rw [h.2.2], fun t _ => by rw [h.2.2], by rw [h.2.2]⟩
/-- so far, x places being looked at -/
def sBx (g : Nat → Nat → Int32) (m x : Nat) (σ : Mem) : Prop := (x = 0 ∧ σ.1 12 59 = Int32.ofInt (-1)) ∨ ∃ c, (c < x ∧ σ.1 12 59 = nI c ∧ σ.1 12 60 = nI (sWk g m c (sF g))) ∧ ∀ z, z < x → sLex g m c z
theorem m_well23 (N : Nat) {g : Nat → Nat → Int32} (hw : Wf g) (kk : Int32 → Int32 → Mem → Option (Unit × Mem)) (m x : Nat) (hm : m < 64) (hx : x ≤ 99) (σ : Mem) (hg : gM σ = g) (hb : sBx g m x σ) : ∀ (q n k : Nat), k + q = sF g → q < n →
    ∃ τ, F_X12_findsWell_b23 N kk n (nI m) (nI x) (nI (sWk g m x k)) (nI k) σ = kk (nI m) (nI (x + 1)) τ ∧ KF σ τ ∧ sBx g m (x + 1) τ := by
  have hF := sF_eq hw
  have hxw := sWk_le hw m x hx (sF g) hF.2
  intro q
  induction q with
  | zero =>
    intro n k hk hn
    cases n with
    | zero => cases hn
    | succ n =>
      have e : k = sF g := by omega
      subst e
      have new : (∀ z, z < x → sLex g m x z) → sBx g m (x + 1) (hwU2 (hwU2 σ.1 12 59 (nI x)) 12 60 (nI (sWk g m x (sF g))), σ.2) := fun hz => Or.inr ⟨x, ⟨by omega, by show hwU2 (hwU2 σ.1 12 59 (nI x)) 12 60 (nI (sWk g m x (sF g))) 12 59 = _; rw [u2_k (by decide), hwU2_eq], by show hwU2 (hwU2 σ.1 12 59 (nI x)) 12 60 (nI (sWk g m x (sF g))) 12 60 = _; rw [hwU2_eq]⟩, fun z hz2 => by
        by_cases e : z = x
        · rw [e]; exact sLex.rfl_ g m x
        · exact hz z (by omega)⟩
      have kf : KF σ (hwU2 (hwU2 σ.1 12 59 (nI x)) 12 60 (nI (sWk g m x (sF g))), σ.2) := ⟨fun t ht => by show hwU2 (hwU2 σ.1 12 59 _) 12 60 _ t = _; rw [u2_t ht, u2_t ht], fun k a b => by show hwU2 (hwU2 σ.1 12 59 _) 12 60 _ 12 k = _; rw [u2_k b, u2_k a], rfl⟩
      rw [F_X12_findsWell_b23.eq_2, rF hg (by decide), hF.1, if_pos (nI_le (Nat.le_refl _) (by omega)), nI_1]
      rcases hb with ⟨b0, b1⟩ | ⟨c, ⟨hc, b1, b2⟩, bm⟩
      · rw [if_pos b1]
        exact ⟨_, rfl, kf, new (fun z hz => by omega)⟩
      · have hcw := sWk_le hw m c (by omega) (sF g) hF.2
        rw [if_neg (by rw [b1]; exact nI_n1 c (by omega)), b2]
        by_cases c1 : sWk g m c (sF g) ≤ sWk g m x (sF g)
        · rw [if_pos (nI_le c1 (by omega))]
          refine ⟨σ, rfl, KF.rfl_ σ, Or.inr ⟨c, ⟨by omega, b1, b2⟩, fun z hz => ?_⟩⟩
          by_cases e : z = x
          · rw [e]; unfold sLex; omega
          · exact bm z (by omega)
        · rw [if_neg (nI_ge (by omega) (by omega))]
          exact ⟨_, rfl, kf, new (fun z hz => (show sLex g m x c from Or.inl (by omega)).trans (bm z hz))⟩
  | succ q ih =>
    intro n k hk hn
    cases n with
    | zero => cases hn
    | succ n =>
      have e2 := ih n (k + 1) (by omega) (by omega)
      rw [sWk] at e2
      obtain ⟨p1, p2⟩ := hw.fp k (by omega)
      obtain ⟨⟨n1, n2⟩, -⟩ := hw.fn k (by omega)
      rw [F_X12_findsWell_b23.eq_2, rF hg (by decide), hF.1, if_neg (nI_ge (by omega) (by omega)), bit_6 m hm k (by omega), nI_1]
      by_cases t : m.testBit k = true
      · rw [if_pos t] at e2
        rw [if_pos t, k10, if_neg (out_nI (by omega) (by decide)), if_neg (out_nI (by omega) (by decide)), if_neg (out_nI (by omega) (by decide)), if_neg (out_nI (by omega) (by decide)), nI_clamp (by omega), rA hg (by decide) (by decide), rA hg (by decide) (by decide), p1, n1]
        by_cases c : sXi g k ≤ x
        · rw [if_pos (show nI (g 84 k).toNatClampNeg ≤ nI x from nI_le c (by omega)), k_sub (show (g 84 k).toNatClampNeg ≤ x from c), nI_mul, nI_add]
          rw [show dst (sXi g k) x = x - sXi g k by unfold dst; rw [if_pos c]] at e2
          exact e2
        · rw [if_neg (show ¬ nI (g 84 k).toNatClampNeg ≤ nI x from nI_ge (show x < sXi g k by omega) (by omega)), k_sub (show x ≤ (g 84 k).toNatClampNeg from Nat.le_of_lt (show x < sXi g k by omega)), nI_mul, nI_add]
          rw [show dst (sXi g k) x = sXi g k - x by unfold dst; rw [if_neg c]] at e2
          exact e2
      · rw [if_neg t, Nat.add_zero] at e2
        rw [if_neg t, k00, Int32.add_zero]
        exact e2
theorem m_well12 (N : Nat) (hN : 160 ≤ N) {g : Nat → Nat → Int32} (hw : Wf g) (m : Nat) (hm : m < 64) : ∀ (q n x : Nat) (σ : Mem), x + q = 100 → q < n → gM σ = g → sBx g m x σ →
    ∃ τ, F_X12_findsWell_b12 N n (nI m) (nI x) σ = some ((), τ) ∧ KF σ τ ∧ sBx g m 100 τ := by
  have hF := sF_eq hw
  intro q
  induction q with
  | zero =>
    intro n x σ hk hn hg hb
    cases n with
    | zero => cases hn
    | succ n =>
      have e : x = 100 := by omega
      subst e
      exact ⟨σ, by rw [F_X12_findsWell_b12.eq_2, if_pos (show (100 : Int32) ≤ nI 100 by decide)], KF.rfl_ σ, hb⟩
  | succ q ih =>
    intro n x σ hk hn hg hb
    cases n with
    | zero => cases hn
    | succ n =>
      obtain ⟨τ1, e1, k1, b1⟩ := m_well23 N hw (F_X12_findsWell_b12 N n) m x hm (by omega) σ hg hb (sF g) N 0 (by omega) (by omega)
      obtain ⟨τ2, e2, k2, b2⟩ := ih n (x + 1) τ1 (by omega) (by omega) (k1.m.g.trans hg) b1
      refine ⟨τ2, ?_, k1.trans k2, b2⟩
      rw [F_X12_findsWell_b12.eq_2, if_neg (geL_n 100 100 rfl (by omega) (by decide)), show F_X12_findsWell_b23 N (F_X12_findsWell_b12 N n) N (nI m) (nI x) (0 : Int32) (0 : Int32) σ = _ from e1]
      exact e2
/-- the well of a set: both find it -/
theorem wells (N : Nat) (hN : 160 ≤ N) {g : Nat → Nat → Int32} (hw : Wf g) (m : Nat) (hm0 : 0 < m) (hm : m < 2 ^ sF g) : ∃ c, c ≤ 99 ∧ (∀ σ, HX σ g → F_X1_wellOf N (nI m) σ = some (nI c, σ)) ∧ ∀ σ, gM σ = g → ∃ τ, F_X12_findsWell N (nI m) σ = some ((), τ) ∧ KF σ τ ∧ τ.1 12 59 = nI c ∧ τ.1 12 60 = nI (sWk g m c (sF g)) := by
  have hF := sF_eq hw
  have h64 := pow_6 (sF g) (by omega)
  have ref : ∀ σ, gM σ = g → ∃ τ c, F_X12_findsWell N (nI m) σ = some ((), τ) ∧ KF σ τ ∧ c ≤ 99 ∧ (τ.1 12 59 = nI c ∧ τ.1 12 60 = nI (sWk g m c (sF g))) ∧ ∀ z, z ≤ 99 → sLex g m c z := by
    intro σ hg
    have kf : KF σ (hwU2 (hwU2 σ.1 12 59 (Int32.ofInt (-1))) 12 60 (0 : Int32), σ.2) := ⟨fun t ht => by show hwU2 (hwU2 σ.1 12 59 _) 12 60 _ t = _; rw [u2_t ht, u2_t ht], fun k a b => by show hwU2 (hwU2 σ.1 12 59 _) 12 60 _ 12 k = _; rw [u2_k b, u2_k a], rfl⟩
    obtain ⟨τ, e, k1, b⟩ := m_well12 N hN hw m (by omega) 100 N 0 _ (by omega) (by omega) (kf.m.g.trans hg) (Or.inl ⟨rfl, by show hwU2 (hwU2 σ.1 12 59 (Int32.ofInt (-1))) 12 60 0 12 59 = _; rw [u2_k (by decide), hwU2_eq]⟩)
    rcases b with ⟨b0, -⟩ | ⟨c, ⟨hc, b1, b2⟩, bm⟩
    · omega
    · exact ⟨τ, c, e, kf.trans k1, by omega, ⟨b1, b2⟩, fun z hz => bm z (by omega)⟩
  have ex : ∃ c, c ≤ 99 ∧ ∀ z, z ≤ 99 → sLex g m c z := by
    have find : ∀ n, ∃ c, c ≤ n ∧ ∀ z, z ≤ n → sLex g m c z := by
      intro n
      induction n with
      | zero => exact ⟨0, Nat.le_refl _, fun z hz => by rw [Nat.le_zero.mp hz]; exact sLex.rfl_ g m 0⟩
      | succ n ih =>
        obtain ⟨c, hc, hm⟩ := ih
        rcases sLex.total g m c (n + 1) with t | t
        · exact ⟨c, by omega, fun z hz => by
            by_cases e : z = n + 1
            · rw [e]; exact t
            · exact hm z (by omega)⟩
        · exact ⟨n + 1, Nat.le_refl _, fun z hz => by
            by_cases e : z = n + 1
            · rw [e]; exact sLex.rfl_ g m _
            · exact t.trans (hm z (by omega))⟩
    exact find 99
  obtain ⟨c, hc, hmin⟩ := ex
  refine ⟨c, hc, fun σ h => ?_, fun σ hg => ?_⟩
  · obtain ⟨i, hi, ti, ei⟩ := well_at hw hm0 hm hc hmin
    obtain ⟨y2, y3, e, b⟩ := x_well7 N hN hw m (by omega) σ h (sF g) N 0 (Int32.ofInt (-1)) 0 (by omega) (by omega) (Or.inl ⟨rfl, fun i hi => absurd hi (Nat.not_lt_zero i)⟩)
    rcases b with ⟨-, b2⟩ | ⟨d, ⟨b1, b2⟩, ⟨j, hj, tj, ej⟩, bm⟩
    · exact absurd ti (b2 i hi)
    · have hd : d ≤ 99 := by rw [← ej]; exact (hw.fp j (by omega)).2
      have : d = c := (by have := bm i hi ti; rw [ei] at this; exact this : sLex g m d c).anti (hmin d hd)
      rw [this] at b1
      rw [b1] at e
      exact e
  · obtain ⟨τ, d, e, k, hd, b, bm⟩ := ref σ hg
    have : d = c := (bm c hc).anti (hmin d hd)
    rw [this] at b
    exact ⟨τ, e, k, b.1, b.2⟩

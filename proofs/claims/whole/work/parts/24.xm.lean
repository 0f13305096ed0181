/-! THE PURE SIDE, 5: what is thought, going on: the numbers; the class's rows -/
def sL (g : Nat → Nat → Int32) : Nat := (g 12 5).toNatClampNeg
def sDry (g : Nat → Nat → Int32) (y : Nat) (s : Int32) (th : Nat → Int64) (j : Nat) : Int64 := if g 74 j = s then th j - th j * (sWat g y j).toInt64 / 100 else 0
def sMuch (g : Nat → Nat → Int32) (y : Nat) (s : Int32) (th : Nat → Int64) : Int64 := hzS (sDry g y s th) (sL g)
def sMade (g : Nat → Nat → Int32) (y : Nat) (s : Int32) (th : Nat → Int64) (j : Nat) : Int64 := sDry g y s th j * 1000000 / sMuch g y s th
def sAllB (g : Nat → Nat → Int32) (i : Nat) : Int32 := hzJ (fun j => g 75 (5 * i + j)) (sL g)
def sSk (g : Nat → Nat → Int32) (d : Nat → Int64) (i j : Nat) : Int64 := if sAllB g i = 0 then (if i = j then d i else 0) else d i * (g 75 (5 * i + j)).toInt64 / (sAllB g i).toInt64
def sSink (g : Nat → Nat → Int32) (d : Nat → Int64) (j : Nat) : Int64 := hzS (fun i => sSk g d i j) (sL g)
def sNext (g : Nat → Nat → Int32) (y : Nat) (s : Int32) (th : Nat → Int64) : Nat → Int64 := sSink g (sMade g y s th)
def sWet (g : Nat → Nat → Int32) (y : Nat) (th : Nat → Int64) (j : Nat) : Int64 := th j * (sWat g y j).toInt64 / 100
theorem sL_le {g : Nat → Nat → Int32} (hw : Wf g) : sL g ≤ 5 := hw.ly.2
theorem sL_eq {g : Nat → Nat → Int32} (hw : Wf g) : g 12 5 = nI (sL g) := hw.ly.1
theorem lg_pos {x : Int64} : 0 < lg_cmp x (0 : Int64) ↔ 0 < x := by
  unfold lg_cmp
  by_cases h : x > 0
  · rw [if_pos h]; exact ⟨fun _ => h, fun _ => by decide⟩
  · rw [if_neg h]
    by_cases e : x = 0
    · rw [if_pos e]; exact ⟨fun q => absurd q (by decide), fun q => absurd q h⟩
    · rw [if_neg e]; exact ⟨fun q => absurd q (by decide), fun q => absurd q h⟩
theorem lg_npos {x : Int64} : lg_cmp x (0 : Int64) ≤ 0 ↔ ¬ 0 < x := by
  unfold lg_cmp
  by_cases h : x > 0
  · rw [if_pos h]; exact ⟨fun q => absurd q (by decide), fun q => absurd h q⟩
  · rw [if_neg h]
    by_cases e : x = 0
    · rw [if_pos e]; exact ⟨fun _ => h, fun _ => by decide⟩
    · rw [if_neg e]; exact ⟨fun _ => h, fun _ => by decide⟩
theorem lg_zero {x : Int64} : lg_cmp x (0 : Int64) = 0 ↔ x = 0 := by
  unfold lg_cmp
  by_cases h : x > 0
  · rw [if_pos h]; exact ⟨fun q => absurd q (by decide), fun q => by rw [q] at h; exact absurd h (by decide)⟩
  · rw [if_neg h]
    by_cases e : x = 0
    · rw [if_pos e]; exact ⟨fun _ => e, fun _ => rfl⟩
    · rw [if_neg e]; exact ⟨fun q => absurd q (by decide), fun q => absurd q e⟩
theorem HX.of {σ τ : Mem} {g : Nat → Nat → Int32} (h : HX σ g) (e1 : τ.1 = σ.1) (e2 : τ.2.2.1 = σ.2.2.1) : HX τ g := by
  unfold HX HX0 HC at *
  rw [e1, e2]
  exact h
theorem HX.kx {σ τ : Mem} {g : Nat → Nat → Int32} (h : HX σ g) (k : KX σ τ) : HX τ g := h.of k.1 k.2.2.1
theorem HX.L {σ : Mem} {g : Nat → Nat → Int32} (h : HX σ g) (hw : Wf g) : σ.1 1 6 = nI (sL g) := h.1.ly.trans (sL_eq hw)
theorem hzJ_zero {f : Nat → Int32} {a : Nat} : ∀ b : Nat, a ≤ b → (∀ j, a ≤ j → j < b → f j = 0) → hzJ f b = hzJ f a
  | 0, h, _ => by rw [Nat.le_zero.mp h]
  | b + 1, h, hz => by
    by_cases e : a = b + 1
    · rw [e]
    · rw [hzJ, hz b (by omega) (Nat.lt_succ_self b), Int32.add_zero, hzJ_zero b (by omega) (fun j h1 h2 => hz j h1 (Nat.lt_succ_of_lt h2))]
theorem HX.al {σ : Mem} {g : Nat → Nat → Int32} (h : HX σ g) (hw : Wf g) {i : Nat} (hi : i < 5) : σ.2.2.1 27 0 i = sAllB g i := by
  rw [h.1.al i hi]
  exact hzJ_zero 5 (sL_le hw) (fun j h1 h2 => hw.fz i j hi h2 (Or.inr h1))
/-- the sum of what follows: a small number -/
theorem hzJ_nI {f : Nat → Int32} {m : Nat} : ∀ n : Nat, (∀ j, j < n → isN (f j) m) → n * m < 2 ^ 31 → ∃ s : Nat, s ≤ n * m ∧ hzJ f n = nI s ∧ ∀ j, j < n → (f j).toNatClampNeg ≤ s
  | 0, _, _ => ⟨0, Nat.zero_le _, rfl, fun j h => absurd h (Nat.not_lt_zero j)⟩
  | n + 1, h, hb => by
    have e : (n + 1) * m = n * m + m := Nat.succ_mul n m
    obtain ⟨s, h1, h2, h3⟩ := hzJ_nI n (fun j hj => h j (Nat.lt_succ_of_lt hj)) (by omega)
    obtain ⟨k1, k2⟩ := h n (Nat.lt_succ_self n)
    refine ⟨s + (f n).toNatClampNeg, by omega, ?_, fun j hj => ?_⟩
    · rw [hzJ, h2, k1, nI_add, nI_clamp (by omega)]
    · by_cases e : j = n
      · subst e; omega
      · have := h3 j (by omega); omega
theorem sAllB_nI {g : Nat → Nat → Int32} (hw : Wf g) {i : Nat} (hi : i < 5) : ∃ s : Nat, s ≤ 45 ∧ sAllB g i = nI s ∧ ∀ j, j < sL g → (g 75 (5 * i + j)).toNatClampNeg ≤ s := by
  have hL := sL_le hw
  obtain ⟨s, h1, h2, h3⟩ := hzJ_nI (f := fun j => g 75 (5 * i + j)) (m := 9) (sL g) (fun j hj => hw.fo _ (by omega)) (by omega)
  exact ⟨s, by omega, h2, h3⟩
/-- the dry row alone -/
def KD (σ τ : Mem) : Prop := τ.1 = σ.1 ∧ τ.2.1 = σ.2.1 ∧ τ.2.2.1 = σ.2.2.1 ∧ (∀ t, t ≠ 51 → τ.2.2.2.1 t = σ.2.2.2.1 t) ∧ τ.2.2.2.2 = σ.2.2.2.2
theorem KD.rfl_ (σ : Mem) : KD σ σ := ⟨rfl, rfl, rfl, fun _ _ => rfl, rfl⟩
theorem KD.trans {σ τ υ : Mem} (h : KD σ τ) (k : KD τ υ) : KD σ υ := ⟨k.1.trans h.1, k.2.1.trans h.2.1, k.2.2.1.trans h.2.2.1, fun t a => (k.2.2.2.1 t a).trans (h.2.2.2.1 t a), k.2.2.2.2.trans h.2.2.2.2⟩
theorem KD.x {σ τ : Mem} (h : KD σ τ) : KX σ τ := ⟨h.1, h.2.1, h.2.2.1, fun t ht => h.2.2.2.1 t (by omega), h.2.2.2.2⟩
theorem KD.w {σ : Mem} {k : Nat} {v : Int64} : KD σ (σ.1, σ.2.1, σ.2.2.1, hwU3 σ.2.2.2.1 51 0 k v, σ.2.2.2.2) := ⟨rfl, rfl, rfl, fun _ h => hwU3_t h, rfl⟩
theorem x_dry104 (N : Nat) {g : Nat → Nat → Int32} (hw : Wf g) (M : Int64) (hM : 0 < M) (d : Nat → Int64) : ∀ (r n k : Nat) (σ : Mem), k + r = sL g → r < n → HX σ g → (∀ j, j < k → σ.2.2.2.1 51 0 j = d j * 1000000 / M) → (∀ j, k ≤ j → j < sL g → σ.2.2.2.1 51 0 j = d j) →
    ∃ τ, F_X6_dryWith_t50_b104 N n M (nI k) σ = some (M, τ) ∧ KD σ τ ∧ ∀ j, j < sL g → τ.2.2.2.1 51 0 j = d j * 1000000 / M := by
  intro r
  have hL := sL_le hw
  induction r with
  | zero =>
    intro n k σ hk hn h h1 h2
    cases n with
    | zero => cases hn
    | succ n =>
      refine ⟨σ, ?_, KD.rfl_ σ, fun j hj => h1 j (by omega)⟩
      unfold F_X6_dryWith_t50_b104
      rw [h.L hw, if_pos (nI_le (by omega) (by omega))]
  | succ r ih =>
    intro n k σ hk hn h h1 h2
    cases n with
    | zero => cases hn
    | succ n =>
      have hMn : ¬ M = 0 := fun e => by rw [e] at hM; exact absurd hM (by decide)
      have kd : KD σ (σ.1, σ.2.1, σ.2.2.1, hwU3 σ.2.2.2.1 51 0 k (d k * 1000000 / M), σ.2.2.2.2) := KD.w
      obtain ⟨τ, e1, e2, e3⟩ := ih n (k + 1) _ (by omega) (by omega) (h.kx kd.x) (fun j hj => by
        show hwU3 σ.2.2.2.1 51 0 k _ 51 0 j = _
        by_cases e : j = k
        · subst e; exact hwU3_eq
        · rw [hwU3_k e]; exact h1 j (by omega)) (fun j h3 h4 => by
        show hwU3 σ.2.2.2.1 51 0 k _ 51 0 j = _
        rw [hwU3_k (by omega)]; exact h2 j (by omega) h4)
      refine ⟨τ, ?_, kd.trans e2, e3⟩
      unfold F_X6_dryWith_t50_b104
      rw [h.L hw, if_neg (nI_ge (by omega) (by omega)), if_neg (out_nI (by omega) (by decide)), if_neg hMn, if_neg (out_nI (by omega) (by decide)), nI_clamp (by omega), h2 k (Nat.le_refl _) (by omega), nI_1]
      exact e1
theorem x_dry17 (N : Nat) {g : Nat → Nat → Int32} (hw : Wf g) (y yy : Nat) (h1y : 1 ≤ yy) (hy5 : yy ≤ 5) (s : Int32) (th : Nat → Int64) : ∀ (r n k : Nat) (σ : Mem), k + r = sL g → r < n → HX σ g → (∀ j, j < sL g → σ.2.2.2.1 50 y j = th j) → (∀ j, j < k → σ.2.2.2.1 51 0 j = sDry g yy s th j) →
    ∃ τ, F_X6_dryWith_t50_b17 N n y s yy (hzS (sDry g yy s th) k) (nI k) σ = (if 0 < lg_cmp (sMuch g yy s th) 0 then F_X6_dryWith_t50_b104 N N (sMuch g yy s th) 0 τ else some (0, τ)) ∧ KD σ τ ∧ ∀ j, j < sL g → τ.2.2.2.1 51 0 j = sDry g yy s th j := by
  intro r
  have hL := sL_le hw
  induction r with
  | zero =>
    intro n k σ hk hn h h1 h2
    cases n with
    | zero => cases hn
    | succ n =>
      refine ⟨σ, ?_, KD.rfl_ σ, fun j hj => h2 j (by omega)⟩
      unfold F_X6_dryWith_t50_b17
      rw [h.L hw, if_pos (nI_le (by omega) (by omega)), show k = sL g by omega]
      rfl
  | succ r ih =>
    intro n k σ hk hn h h1 h2
    cases n with
    | zero => cases hn
    | succ n =>
      have kd : KD σ (σ.1, σ.2.1, σ.2.2.1, hwU3 σ.2.2.2.1 51 0 k (sDry g yy s th k), σ.2.2.2.2) := KD.w
      obtain ⟨τ, e1, e2, e3⟩ := ih n (k + 1) _ (by omega) (by omega) (h.kx kd.x) (fun j hj => by
        show hwU3 σ.2.2.2.1 51 0 k (sDry g yy s th k) 50 y j = _
        rw [hwU3_t (by decide)]; exact h1 j hj) (fun j hj => by
        show hwU3 σ.2.2.2.1 51 0 k _ 51 0 j = _
        by_cases e : j = k
        · subst e; exact hwU3_eq
        · rw [hwU3_k e]; exact h2 j (by omega))
      refine ⟨τ, ?_, kd.trans e2, e3⟩
      unfold F_X6_dryWith_t50_b17
      rw [h.L hw, if_neg (nI_ge (by omega) (by omega)), if_neg (out_nI (by omega) (by decide))]
      simp only [nI_clamp (show k < 2 ^ 31 by omega)]
      rw [h.1.si k (by omega)]
      rw [hzS] at e1
      have fin : F_X6_dryWith_t50_b73 N (F_X6_dryWith_t50_b17 N n) y s yy (hzS (sDry g yy s th) k) (nI k) (sDry g yy s th k) (nI k) σ = (if 0 < lg_cmp (sMuch g yy s th) 0 then F_X6_dryWith_t50_b104 N N (sMuch g yy s th) 0 τ else some (0, τ)) := by
        unfold F_X6_dryWith_t50_b73
        rw [if_neg (out_nI (by omega) (by decide)), if_neg (out_nI (by omega) (by decide)), nI_clamp (by omega), hwU3_eq, nI_1]
        exact e1
      by_cases hs : g 74 k = s
      · have ev : th k - th k * (sWat g yy k).toInt64 / 100 = sDry g yy s th k := by unfold sDry; rw [if_pos hs]
        rw [if_pos hs, if_neg (out_nI (by omega) (by decide)), if_neg (out_nI (by omega) (by decide)), if_neg (out_nI (by omega) (by decide)), h1 k (by omega), h.2.wt yy k h1y hy5 (by show k < sL g; omega), ev]
        exact fin
      · have ev : sDry g yy s th k = 0 := by unfold sDry; rw [if_neg hs]
        rw [ev] at fin
        rw [if_neg hs]
        exact fin
/-- dryWith of a row of what is thought -/
theorem x_dryWith (N : Nat) (hN : 6 < N) {g : Nat → Nat → Int32} (hw : Wf g) (y yy : Nat) (h1y : 1 ≤ yy) (hy5 : yy ≤ 5) (s : Int32) (th : Nat → Int64) (σ : Mem) (h : HX σ g) (h1 : ∀ j, j < sL g → σ.2.2.2.1 50 y j = th j) :
    ∃ τ, F_X6_dryWith_t50 N y (nI yy) s σ = some (if 0 < sMuch g yy s th then sMuch g yy s th else 0, τ) ∧ KD σ τ ∧ (0 < sMuch g yy s th → ∀ j, j < sL g → τ.2.2.2.1 51 0 j = sMade g yy s th j) := by
  have hL := sL_le hw
  obtain ⟨τ1, e1, k1, r1⟩ := x_dry17 N hw y yy h1y hy5 s th (sL g) N 0 σ (by omega) (by omega) h h1 (fun j hj => by omega)
  by_cases hm : 0 < sMuch g yy s th
  · obtain ⟨τ, e2, k2, r2⟩ := x_dry104 N hw (sMuch g yy s th) hm (sDry g yy s th) (sL g) N 0 τ1 (by omega) (by omega) (h.kx k1.x) (fun j hj => by omega) (fun j _ hj => r1 j hj)
    refine ⟨τ, ?_, k1.trans k2, fun _ => r2⟩
    unfold F_X6_dryWith_t50
    rw [if_neg (out_nI (by omega) (by decide)), nI_clamp (by omega), if_pos hm]
    rw [if_pos (lg_pos.mpr hm)] at e1
    exact e1.trans e2
  · refine ⟨τ1, ?_, k1, fun q => absurd q hm⟩
    unfold F_X6_dryWith_t50
    rw [if_neg (out_nI (by omega) (by decide)), nI_clamp (by omega), if_neg hm]
    rw [if_neg (fun q => hm (lg_pos.mp q))] at e1
    exact e1
/-- a row of what is thought alone -/
def KT (y : Nat) (σ τ : Mem) : Prop := τ.1 = σ.1 ∧ τ.2.1 = σ.2.1 ∧ τ.2.2.1 = σ.2.2.1 ∧ (∀ t, t ≠ 50 → τ.2.2.2.1 t = σ.2.2.2.1 t) ∧ (∀ r, r ≠ y → τ.2.2.2.1 50 r = σ.2.2.2.1 50 r) ∧ τ.2.2.2.2 = σ.2.2.2.2
theorem KT.rfl_ (y : Nat) (σ : Mem) : KT y σ σ := ⟨rfl, rfl, rfl, fun _ _ => rfl, fun _ _ => rfl, rfl⟩
theorem KT.trans {y : Nat} {σ τ υ : Mem} (h : KT y σ τ) (k : KT y τ υ) : KT y σ υ := ⟨k.1.trans h.1, k.2.1.trans h.2.1, k.2.2.1.trans h.2.2.1, fun t a => (k.2.2.2.1 t a).trans (h.2.2.2.1 t a), fun t a => (k.2.2.2.2.1 t a).trans (h.2.2.2.2.1 t a), k.2.2.2.2.2.trans h.2.2.2.2.2⟩
theorem KT.x {y : Nat} {σ τ : Mem} (h : KT y σ τ) : KX σ τ := ⟨h.1, h.2.1, h.2.2.1, fun t ht => h.2.2.2.1 t (by omega), h.2.2.2.2.2⟩
theorem KT.w {y : Nat} {σ : Mem} {k : Nat} {v : Int64} : KT y σ (σ.1, σ.2.1, σ.2.2.1, hwU3 σ.2.2.2.1 50 y k v, σ.2.2.2.2) := ⟨rfl, rfl, rfl, fun _ h => hwU3_t h, fun _ h => hwU3_r h, rfl⟩
theorem x_sink2 (N : Nat) {g : Nat → Nat → Int32} (hw : Wf g) (y : Nat) : ∀ (r n k : Nat) (σ : Mem), k + r = sL g → r < n → HX σ g → (∀ j, j < k → σ.2.2.2.1 50 y j = 0) →
    ∃ τ, F_X6_sink_t50_b2 N n y (nI k) σ = F_X6_sink_t50_b25 N N y 0 τ ∧ KT y σ τ ∧ ∀ j, j < sL g → τ.2.2.2.1 50 y j = 0 := by
  intro r
  have hL := sL_le hw
  induction r with
  | zero =>
    intro n k σ hk hn h h1
    cases n with
    | zero => cases hn
    | succ n =>
      refine ⟨σ, ?_, KT.rfl_ y σ, fun j hj => h1 j (by omega)⟩
      unfold F_X6_sink_t50_b2
      rw [h.L hw, if_pos (nI_le (by omega) (by omega))]
  | succ r ih =>
    intro n k σ hk hn h h1
    cases n with
    | zero => cases hn
    | succ n =>
      have kd : KT y σ (σ.1, σ.2.1, σ.2.2.1, hwU3 σ.2.2.2.1 50 y k 0, σ.2.2.2.2) := KT.w
      obtain ⟨τ, e1, e2, e3⟩ := ih n (k + 1) _ (by omega) (by omega) (h.kx kd.x) (fun j hj => by
        show hwU3 σ.2.2.2.1 50 y k 0 50 y j = _
        by_cases e : j = k
        · subst e; exact hwU3_eq
        · rw [hwU3_k e]; exact h1 j (by omega))
      refine ⟨τ, ?_, kd.trans e2, e3⟩
      rw [← e1]
      show (if σ.1 1 6 ≤ nI k then _ else if hwOut (nI k) 5 then none else F_X6_sink_t50_b2 N n y (nI k + 1) (σ.1, σ.2.1, σ.2.2.1, hwU3 σ.2.2.2.1 50 y (nI k).toNatClampNeg 0, σ.2.2.2.2)) = _
      rw [h.L hw, if_neg (nI_ge (by omega) (by omega)), if_neg (out_nI (by omega) (by decide)), nI_clamp (by omega), nI_1]
theorem x_sink68 (N : Nat) {g : Nat → Nat → Int32} (hw : Wf g) (y i : Nat) (hi : i < sL g) (kk : Nat → Int32 → Mem → Option (Unit × Mem)) (d : Nat → Int64) (T0 : Nat → Int64) (s : Nat) (hs : s ≤ 45) (hs0 : 0 < s) : ∀ (r n k : Nat) (σ : Mem), k + r = sL g → r < n → HX σ g → σ.2.2.2.1 51 0 i = d i → (∀ j, j < sL g → σ.2.2.2.1 50 y j = if j < k then T0 j + d i * (g 75 (5 * i + j)).toInt64 / (nI s).toInt64 else T0 j) →
    ∃ τ, F_X6_sink_t50_b68 N kk n y (nI i) (nI s) (nI k) σ = kk y (nI (i + 1)) τ ∧ KT y σ τ ∧ ∀ j, j < sL g → τ.2.2.2.1 50 y j = T0 j + d i * (g 75 (5 * i + j)).toInt64 / (nI s).toInt64 := by
  intro r
  have hL := sL_le hw
  have hsz : ¬ (nI s).toInt64 = 0 := by
    rw [nI_l (by omega)]
    intro e
    have := congrArg Int64.toInt e
    rw [lN_toInt (by omega)] at this
    have e0 : (0 : Int64).toInt = 0 := by decide
    omega
  induction r with
  | zero =>
    intro n k σ hk hn h hd h1
    cases n with
    | zero => cases hn
    | succ n =>
      refine ⟨σ, ?_, KT.rfl_ y σ, fun j hj => by rw [h1 j hj, if_pos (by omega)]⟩
      unfold F_X6_sink_t50_b68
      rw [h.L hw, if_pos (nI_le (by omega) (by omega)), nI_1]
  | succ r ih =>
    intro n k σ hk hn h hd h1
    cases n with
    | zero => cases hn
    | succ n =>
      have kd : KT y σ (σ.1, σ.2.1, σ.2.2.1, hwU3 σ.2.2.2.1 50 y k (T0 k + d i * (g 75 (5 * i + k)).toInt64 / (nI s).toInt64), σ.2.2.2.2) := KT.w
      obtain ⟨τ, e1, e2, e3⟩ := ih n (k + 1) _ (by omega) (by omega) (h.kx kd.x) (by
        show hwU3 σ.2.2.2.1 50 y k (T0 k + d i * (g 75 (5 * i + k)).toInt64 / (nI s).toInt64) 51 0 i = _
        rw [hwU3_t (by decide)]; exact hd) (fun j hj => by
        show hwU3 σ.2.2.2.1 50 y k _ 50 y j = _
        by_cases e : j = k
        · subst e; rw [if_pos (Nat.lt_succ_self _)]; exact hwU3_eq
        · rw [hwU3_k e, h1 j hj]
          by_cases e2 : j < k
          · rw [if_pos e2, if_pos (by omega)]
          · rw [if_neg e2, if_neg (by omega)])
      refine ⟨τ, ?_, kd.trans e2, e3⟩
      rw [F_X6_sink_t50_b68.eq_2, h.L hw, if_neg (nI_ge (by omega) (by omega)), if_neg (out_nI (by omega) (by decide)), if_neg (out_nI (by omega) (by decide)), if_neg (out_nI (by omega) (by decide)), if_neg (out_nI (by omega) (by decide)), if_neg hsz, if_neg (out_nI (by omega) (by decide)), nI_clamp (by omega), nI_clamp (by omega), h1 k (by omega), if_neg (Nat.lt_irrefl k), hd, h.1.fo i k (by omega) (by omega), nI_1]
      exact e1

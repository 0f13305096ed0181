/-! THE PURE SIDE, 23: what a village learns -/
theorem x_min104 (N : Nat) {g : Nat → Nat → Int32} (hw : Wf g) (M : Int64) (hM : 0 < M) (d : Nat → Int64) : ∀ (r n k : Nat) (σ : Mem), k + r = sL g → r < n → HX σ g → (∀ j, j < k → σ.2.2.2.1 51 0 j = d j * 1000000 / M) → (∀ j, k ≤ j → j < sL g → σ.2.2.2.1 51 0 j = d j) →
    ∃ τ, F_X6_dryWith_t52_b104 N n M (nI k) σ = some (M, τ) ∧ KD σ τ ∧ ∀ j, j < sL g → τ.2.2.2.1 51 0 j = d j * 1000000 / M := by
  intro r
  have hL := sL_le hw
  induction r with
  | zero =>
    intro n k σ hk hn h h1 h2
    cases n with
    | zero => cases hn
    | succ n =>
      refine ⟨σ, ?_, KD.rfl_ σ, fun j hj => h1 j (by omega)⟩
      unfold F_X6_dryWith_t52_b104
      rw [h.L hw, if_pos (nI_le (by omega) (by omega))]
  | succ r ih =>
    intro n k σ hk hn h h1 h2
    cases n with
    | zero => cases hn
    | succ n =>
      have hMn : ¬ M = 0 := fun e => by rw [e] at hM; exact absurd hM (by decide)
      have kd : KD σ (σ.1, σ.2.1, σ.2.2.1, hwU3 σ.2.2.2.1 51 0 k (d k * 1000000 / M), σ.2.2.2.2) := KD.w
      obtain ⟨τ, e1, e2, e3⟩ := ih n (k + 1) _ (by omega) (by omega) (h.kx kd.x) (fun j hj => by
        show hwU3 σ.2.2.2.1 51 0 k _ 51 0 j = _
        by_cases e : j = k
        · subst e; exact hwU3_eq
        · rw [hwU3_k e]; exact h1 j (by omega)) (fun j h3 h4 => by
        show hwU3 σ.2.2.2.1 51 0 k _ 51 0 j = _
        rw [hwU3_k (by omega)]; exact h2 j (by omega) h4)
      refine ⟨τ, ?_, kd.trans e2, e3⟩
      unfold F_X6_dryWith_t52_b104
      rw [h.L hw, if_neg (nI_ge (by omega) (by omega)), if_neg (out_nI (by omega) (by decide)), if_neg hMn, if_neg (out_nI (by omega) (by decide)), nI_clamp (by omega), h2 k (Nat.le_refl _) (by omega), nI_1]
      exact e1
theorem x_min17 (N : Nat) {g : Nat → Nat → Int32} (hw : Wf g) (yy : Nat) (h1y : 1 ≤ yy) (hy5 : yy ≤ 5) (s : Int32) (th : Nat → Int64) : ∀ (r n k : Nat) (σ : Mem), k + r = sL g → r < n → HX σ g → (∀ j, j < sL g → σ.2.2.2.1 52 0 j = th j) → (∀ j, j < k → σ.2.2.2.1 51 0 j = sDry g yy s th j) →
    ∃ τ, F_X6_dryWith_t52_b17 N n s yy (hzS (sDry g yy s th) k) (nI k) σ = (if 0 < lg_cmp (sMuch g yy s th) 0 then F_X6_dryWith_t52_b104 N N (sMuch g yy s th) 0 τ else some (0, τ)) ∧ KD σ τ ∧ ∀ j, j < sL g → τ.2.2.2.1 51 0 j = sDry g yy s th j := by
  intro r
  have hL := sL_le hw
  induction r with
  | zero =>
    intro n k σ hk hn h h1 h2
    cases n with
    | zero => cases hn
    | succ n =>
      refine ⟨σ, ?_, KD.rfl_ σ, fun j hj => h2 j (by omega)⟩
      unfold F_X6_dryWith_t52_b17
      rw [h.L hw, if_pos (nI_le (by omega) (by omega)), show k = sL g by omega]
      rfl
  | succ r ih =>
    intro n k σ hk hn h h1 h2
    cases n with
    | zero => cases hn
    | succ n =>
      have kd : KD σ (σ.1, σ.2.1, σ.2.2.1, hwU3 σ.2.2.2.1 51 0 k (sDry g yy s th k), σ.2.2.2.2) := KD.w
      obtain ⟨τ, e1, e2, e3⟩ := ih n (k + 1) _ (by omega) (by omega) (h.kx kd.x) (fun j hj => by
        show hwU3 σ.2.2.2.1 51 0 k (sDry g yy s th k) 52 0 j = _
        rw [hwU3_t (by decide)]; exact h1 j hj) (fun j hj => by
        show hwU3 σ.2.2.2.1 51 0 k _ 51 0 j = _
        by_cases e : j = k
        · subst e; exact hwU3_eq
        · rw [hwU3_k e]; exact h2 j (by omega))
      refine ⟨τ, ?_, kd.trans e2, e3⟩
      unfold F_X6_dryWith_t52_b17
      rw [h.L hw, if_neg (nI_ge (by omega) (by omega)), if_neg (out_nI (by omega) (by decide))]
      simp only [nI_clamp (show k < 2 ^ 31 by omega)]
      rw [h.1.si k (by omega)]
      rw [hzS] at e1
      have fin : F_X6_dryWith_t52_b73 N (F_X6_dryWith_t52_b17 N n) s yy (hzS (sDry g yy s th) k) (nI k) (sDry g yy s th k) (nI k) σ = (if 0 < lg_cmp (sMuch g yy s th) 0 then F_X6_dryWith_t52_b104 N N (sMuch g yy s th) 0 τ else some (0, τ)) := by
        unfold F_X6_dryWith_t52_b73
        rw [if_neg (out_nI (by omega) (by decide)), if_neg (out_nI (by omega) (by decide)), nI_clamp (by omega), hwU3_eq, nI_1]
        exact e1
      by_cases hs : g 74 k = s
      · have ev : th k - th k * (sWat g yy k).toInt64 / 100 = sDry g yy s th k := by unfold sDry; rw [if_pos hs]
        rw [if_pos hs, if_neg (out_nI (by omega) (by decide)), if_neg (out_nI (by omega) (by decide)), if_neg (out_nI (by omega) (by decide)), h1 k (by omega), h.2.wt yy k h1y hy5 (by show k < sL g; omega), ev]
        exact fin
      · have ev : sDry g yy s th k = 0 := by unfold sDry; rw [if_neg hs]
        rw [ev] at fin
        rw [if_neg hs]
        exact fin
/-- dryWith of a row of what is thought -/
theorem x_minWith (N : Nat) (hN : 6 < N) {g : Nat → Nat → Int32} (hw : Wf g) (yy : Nat) (h1y : 1 ≤ yy) (hy5 : yy ≤ 5) (s : Int32) (th : Nat → Int64) (σ : Mem) (h : HX σ g) (h1 : ∀ j, j < sL g → σ.2.2.2.1 52 0 j = th j) :
    ∃ τ, F_X6_dryWith_t52 N (nI yy) s σ = some (if 0 < sMuch g yy s th then sMuch g yy s th else 0, τ) ∧ KD σ τ ∧ (0 < sMuch g yy s th → ∀ j, j < sL g → τ.2.2.2.1 51 0 j = sMade g yy s th j) := by
  have hL := sL_le hw
  obtain ⟨τ1, e1, k1, r1⟩ := x_min17 N hw yy h1y hy5 s th (sL g) N 0 σ (by omega) (by omega) h h1 (fun j hj => by omega)
  by_cases hm : 0 < sMuch g yy s th
  · obtain ⟨τ, e2, k2, r2⟩ := x_min104 N hw (sMuch g yy s th) hm (sDry g yy s th) (sL g) N 0 τ1 (by omega) (by omega) (h.kx k1.x) (fun j hj => by omega) (fun j _ hj => r1 j hj)
    refine ⟨τ, ?_, k1.trans k2, fun _ => r2⟩
    unfold F_X6_dryWith_t52
    rw [if_neg (out_nI (by omega) (by decide)), nI_clamp (by omega), if_pos hm]
    rw [if_pos (lg_pos.mpr hm)] at e1
    exact e1.trans e2
  · refine ⟨τ1, ?_, k1, fun q => absurd q hm⟩
    unfold F_X6_dryWith_t52
    rw [if_neg (out_nI (by omega) (by decide)), nI_clamp (by omega), if_neg hm]
    rw [if_neg (fun q => hm (lg_pos.mp q))] at e1
    exact e1

theorem hwR3_get {α : Type} (f : Nat → Nat → Nat → α) (t r : Nat) (g : Nat → α) (a b c : Nat) : hwR3 f t r g a b c = if a = t ∧ b = r then g c else f a b c := by
  unfold hwR3
  by_cases h1 : a = t
  · by_cases h2 : b = r
    · subst h1; subst h2; simp
    · rw [if_neg (fun q => h2 q.2)]
      have : Nat.beq b r = false := by
        cases hb : Nat.beq b r with
        | false => rfl
        | true => exact absurd (Nat.eq_of_beq_eq_true hb) h2
      simp [this]
  · rw [if_neg (fun q => h1 q.1)]
    have : Nat.beq a t = false := by
      cases hb : Nat.beq a t with
      | false => rfl
      | true => exact absurd (Nat.eq_of_beq_eq_true hb) h1
    simp [this]
theorem hwR3_t {α : Type} {f : Nat → Nat → Nat → α} {t r a : Nat} {g : Nat → α} (h : a ≠ t) : hwR3 f t r g a = f a := by
  funext b c; rw [hwR3_get, if_neg (fun q => h q.1)]
theorem hwR3_r {α : Type} {f : Nat → Nat → Nat → α} {t r a b : Nat} {g : Nat → α} (h : b ≠ r) : hwR3 f t r g a b = f a b := by
  funext c; rw [hwR3_get, if_neg (fun q => h q.2)]
theorem hwR3_cpy {α : Type} {f : Nat → Nat → Nat → α} {t j : Nat} {u v : Nat → α} (hj : j < 5) : hwR3 f t 0 (va_cpy u v 0 0 5) t 0 j = u j := by
  rw [hwR3_get, if_pos ⟨rfl, rfl⟩]
  unfold va_cpy
  rw [if_pos (by omega), Nat.zero_add, Nat.sub_zero]
def sV1 (g : Nat → Nat → Int32) (th : Nat → Int64) : Int64 := sMx (sGoes g (g 12 1) (sD g + 1 - 1) 1 th)
def sMix (g : Nat → Nat → Int32) (p q : Nat) (s : Int32) (j : Nat) : Int64 := ((sFirst g q j * ((100 : Int32) - g 80 (4 * p + q)).toInt64) + (sMade g 1 s (sFirst g p) j * (g 80 (4 * p + q)).toInt64)) / 100
def sTa (g : Nat → Nat → Int32) (p q : Nat) (s : Int32) : Int64 := if 0 < sMuch g 1 s (sFirst g p) then (sMuch g 1 s (sFirst g p) * (sV1 g (sMix g p q s) - sV1 g (sFirst g q))) / 1000000 else 0
def sLs (g : Nat → Nat → Int32) (p : Nat) : Nat → Int64
  | 0 => 0
  | n + 1 => if n = p then sLs g p n else sLs g p n + (sTa g p n 0 + sTa g p n 1 + sTa g p n 2)
/-- the class, while it learns: of what is its own the row mine stays -/
def KN (σ τ : Mem) : Prop := τ.1 = σ.1 ∧ τ.2.1 = σ.2.1 ∧ τ.2.2.1 = σ.2.2.1 ∧ (∀ t, t ≠ 50 → t ≠ 51 → t ≠ 53 → τ.2.2.2.1 t = σ.2.2.2.1 t) ∧ τ.2.2.2.2 = σ.2.2.2.2
theorem KN.rfl_ (σ : Mem) : KN σ σ := ⟨rfl, rfl, rfl, fun _ _ _ _ => rfl, rfl⟩
theorem KN.trans {σ τ υ : Mem} (h : KN σ τ) (k : KN τ υ) : KN σ υ := ⟨k.1.trans h.1, k.2.1.trans h.2.1, k.2.2.1.trans h.2.2.1, fun t a b c => (k.2.2.2.1 t a b c).trans (h.2.2.2.1 t a b c), k.2.2.2.2.trans h.2.2.2.2⟩
theorem KN.x {σ τ : Mem} (h : KN σ τ) : KX σ τ := ⟨h.1, h.2.1, h.2.2.1, fun t ht => h.2.2.2.1 t (by omega) (by omega) (by omega), h.2.2.2.2⟩
theorem KP.n {y : Nat} {σ τ : Mem} (h : KP y σ τ) : KN σ τ := ⟨h.1, h.2.1, h.2.2.1, fun t a b _ => h.2.2.2.1 t a b, h.2.2.2.2.2⟩
theorem KT.n {y : Nat} {σ τ : Mem} (h : KT y σ τ) : KN σ τ := ⟨h.1, h.2.1, h.2.2.1, fun t a _ _ => h.2.2.2.1 t a, h.2.2.2.2.2⟩
theorem KD.n {σ τ : Mem} (h : KD σ τ) : KN σ τ := ⟨h.1, h.2.1, h.2.2.1, fun t _ b _ => h.2.2.2.1 t b, h.2.2.2.2⟩
theorem x_mix2 (N : Nat) {g : Nat → Nat → Int32} (hw : Wf g) (v : Int32) (A B : Nat → Int64) : ∀ (r n k : Nat) (σ : Mem), k + r = sL g → r < n → HX σ g → (∀ j, j < sL g → σ.2.2.2.1 53 0 j = A j) → (∀ j, j < sL g → σ.2.2.2.1 51 0 j = B j) → (∀ j, j < k → σ.2.2.2.1 50 1 j = ((A j * ((100 : Int32) - v).toInt64) + (B j * v.toInt64)) / 100) →
    ∃ τ, F_X6_mix_b2 N n v (nI k) σ = some ((), τ) ∧ KT 1 σ τ ∧ ∀ j, j < sL g → τ.2.2.2.1 50 1 j = ((A j * ((100 : Int32) - v).toInt64) + (B j * v.toInt64)) / 100 := by
  intro r
  have hL := sL_le hw
  induction r with
  | zero =>
    intro n k σ hk hn h hA hB h1
    cases n with
    | zero => cases hn
    | succ n =>
      refine ⟨σ, ?_, KT.rfl_ 1 σ, fun j hj => h1 j (by omega)⟩
      rw [F_X6_mix_b2.eq_2, h.L hw, if_pos (nI_le (by omega) (by omega))]
  | succ r ih =>
    intro n k σ hk hn h hA hB h1
    cases n with
    | zero => cases hn
    | succ n =>
      have kd : KT 1 σ (σ.1, σ.2.1, σ.2.2.1, hwU3 σ.2.2.2.1 50 1 k (((A k * ((100 : Int32) - v).toInt64) + (B k * v.toInt64)) / 100), σ.2.2.2.2) := KT.w
      obtain ⟨τ, e1, e2, e3⟩ := ih n (k + 1) _ (by omega) (by omega) (h.kx kd.x) (fun j hj => by rw [kd.2.2.2.1 53 (by decide)]; exact hA j hj) (fun j hj => by rw [kd.2.2.2.1 51 (by decide)]; exact hB j hj) (fun j hj => by
        show hwU3 σ.2.2.2.1 50 1 k (((A k * ((100 : Int32) - v).toInt64) + (B k * v.toInt64)) / 100) 50 1 j = _
        by_cases e : j = k
        · subst e; exact hwU3_eq
        · rw [hwU3_k e]; exact h1 j (by omega))
      refine ⟨τ, ?_, kd.trans e2, e3⟩
      rw [F_X6_mix_b2.eq_2, h.L hw, if_neg (nI_ge (by omega) (by omega)), if_neg (out_nI (by omega) (by decide)), if_neg (out_nI (by omega) (by decide)), if_neg (out_nI (by omega) (by decide)), nI_clamp (by omega), hA k (by omega), hB k (by omega), nI_1]
      exact e1
theorem x_teach33 (N : Nat) (hN : 160 ≤ N) {g : Nat → Nat → Int32} (hw : Wf g) (p q : Nat) (hp : p < 4) (hq : q < 4) : ∀ (s m : Nat) (acc : Int64) (σ : Mem), s < 3 → HX σ g → (∀ j, j < sL g → σ.2.2.2.1 52 0 j = sFirst g p j) → (∀ j, j < sL g → σ.2.2.2.1 53 0 j = sFirst g q j) →
    ∃ τ, F_X6_teaches_b33 N (m + 1) (nI p) (nI q) (sV1 g (sFirst g q)) acc (nI s) σ = F_X6_teaches_b33 N m (nI p) (nI q) (sV1 g (sFirst g q)) (acc + sTa g p q (nI s)) (nI (s + 1)) τ ∧ KN σ τ ∧ ∀ j, j < sL g → τ.2.2.2.1 53 0 j = sFirst g q j := by
  intro s m acc σ hs h h1 h2
  have hD := (sD_eq hw).2
  obtain ⟨τ1, e1, k1, r1⟩ := x_minWith N (by omega) hw 1 (by decide) (by decide) (nI s) (sFirst g p) σ h h1
  rw [F_X6_teaches_b33.eq_2, if_neg (geL_n 3 3 rfl (by omega) (by decide)), show F_X6_dryWith_t52 N (1 : Int32) (nI s) σ = _ from e1, Option.bind_some, nI_1]
  unfold sTa
  by_cases hm : 0 < sMuch g 1 (nI s) (sFirst g p)
  · have hx1 := h.kx k1.x
    obtain ⟨τ2, e2, k2, r2⟩ := x_mix2 N hw (g 80 (4 * p + q)) (sFirst g q) (sMade g 1 (nI s) (sFirst g p)) (sL g) N 0 τ1 (by omega) (by have := sL_le hw; omega) hx1 (fun j hj => by rw [k1.2.2.2.1 53 (by decide)]; exact h2 j hj) (r1 hm) (fun j hj => by omega)
    have hx2 := hx1.kx k2.x
    obtain ⟨τ3, e3, k3⟩ := x_worthOf N (by omega) hw 1 (by decide) (by decide) (sMix g p q (nI s)) τ2 hx2 r2
    refine ⟨τ3, ?_, (k1.n.trans k2.n).trans k3.n, fun j hj => ?_⟩
    · rw [if_pos hm, if_neg (fun z => lg_npos.mp z hm), if_neg (out_nI hp (by decide)), if_neg (out_nI hq (by decide)), nI_clamp (by omega), nI_clamp (by omega)]
      show (F_X6_mix N (τ1.2.2.1 61 p q) τ1).bind _ = _
      rw [hx1.1.ti p q hp hq]
      unfold F_X6_mix
      rw [show F_X6_mix_b2 N N (g 80 (4 * p + q)) (0 : Int32) τ1 = _ from e2, Option.bind_some, show F_X6_worthOf N (1 : Int32) τ2 = _ from e3, Option.bind_some, if_pos hm]
      rfl
    · rw [k3.2.2.2.1 53 (by decide) (by decide), k2.2.2.2.1 53 (by decide), k1.2.2.2.1 53 (by decide)]
      exact h2 j hj
  · refine ⟨τ1, ?_, k1.n, fun j hj => by rw [k1.2.2.2.1 53 (by decide)]; exact h2 j hj⟩
    rw [if_neg hm, if_pos (lg_npos.mpr (show ¬ (0 : Int64) < 0 by decide)), if_neg hm, Int64.add_zero]
theorem x_teaches (N : Nat) (hN : 160 ≤ N) {g : Nat → Nat → Int32} (hw : Wf g) (p q : Nat) (hp : p < 4) (hq : q < 4) (σ : Mem) (h : HX σ g) (h1 : ∀ j, j < sL g → σ.2.2.2.1 52 0 j = sFirst g p j) :
    ∃ τ, F_X6_teaches N (nI p) (nI q) σ = some (sTa g p q 0 + sTa g p q 1 + sTa g p q 2, τ) ∧ KN σ τ := by
  have hL := sL_le hw
  have hD := (sD_eq hw).2
  obtain ⟨N', rfl⟩ : ∃ N', N = N' + 4 := ⟨N - 4, by omega⟩
  obtain ⟨τ1, e1, k1, r1⟩ := x_begin (N' + 4) (by omega) hw q hq σ h
  have kc : KN τ1 (τ1.1, τ1.2.1, τ1.2.2.1, hwR3 τ1.2.2.2.1 53 0 (va_cpy (τ1.2.2.2.1 50 1) (τ1.2.2.2.1 53 0) 0 0 5), τ1.2.2.2.2) := ⟨rfl, rfl, rfl, fun t _ _ c => hwR3_t c, rfl⟩
  have hxc := (h.kx k1.x).kx kc.x
  obtain ⟨τ2, e2, k2⟩ := x_worthOf (N' + 4) (by omega) hw 1 (by decide) (by decide) (sFirst g q) _ hxc (fun j hj => by
    show hwR3 τ1.2.2.2.1 53 0 (va_cpy (τ1.2.2.2.1 50 1) (τ1.2.2.2.1 53 0) 0 0 5) 50 1 j = _
    rw [hwR3_t (by decide)]; exact r1 j hj)
  have kk : KN σ τ2 := (k1.n.trans kc).trans k2.n
  have hx2 := h.kx kk.x
  have a1 : ∀ j, j < sL g → τ2.2.2.2.1 52 0 j = sFirst g p j := fun j hj => by rw [kk.2.2.2.1 52 (by decide) (by decide) (by decide)]; exact h1 j hj
  have b1 : ∀ j, j < sL g → τ2.2.2.2.1 53 0 j = sFirst g q j := fun j hj => by
    rw [k2.2.2.2.1 53 (by decide) (by decide)]
    show hwR3 τ1.2.2.2.1 53 0 (va_cpy (τ1.2.2.2.1 50 1) (τ1.2.2.2.1 53 0) 0 0 5) 53 0 j = _
    rw [hwR3_cpy (by omega)]; exact r1 j hj
  obtain ⟨τ3, e3, k3, b2⟩ := x_teach33 (N' + 4) hN hw p q hp hq 0 (N' + 3) 0 τ2 (by decide) hx2 a1 b1
  have hx3 := hx2.kx k3.x
  have a2 : ∀ j, j < sL g → τ3.2.2.2.1 52 0 j = sFirst g p j := fun j hj => by rw [k3.2.2.2.1 52 (by decide) (by decide) (by decide)]; exact a1 j hj
  obtain ⟨τ4, e4, k4, b3⟩ := x_teach33 (N' + 4) hN hw p q hp hq 1 (N' + 2) _ τ3 (by decide) hx3 a2 b2
  have a3 : ∀ j, j < sL g → τ4.2.2.2.1 52 0 j = sFirst g p j := fun j hj => by rw [k4.2.2.2.1 52 (by decide) (by decide) (by decide)]; exact a2 j hj
  obtain ⟨τ5, e5, k5, b4⟩ := x_teach33 (N' + 4) hN hw p q hp hq 2 (N' + 1) _ τ4 (by decide) (hx3.kx k4.x) a3 b3
  refine ⟨τ5, ?_, ((kk.trans k3).trans k4).trans k5⟩
  unfold F_X6_teaches
  rw [e1, Option.bind_some, show F_X6_worthOf (N' + 4) (1 : Int32) (τ1.1, τ1.2.1, τ1.2.2.1, hwR3 τ1.2.2.2.1 53 0 (va_cpy (τ1.2.2.2.1 50 1) (τ1.2.2.2.1 53 0) 0 0 5), τ1.2.2.2.2) = _ from e2, Option.bind_some]
  show F_X6_teaches_b33 (N' + 4) (N' + 3 + 1) (nI p) (nI q) (sV1 g (sFirst g q)) 0 (nI 0) τ2 = _
  rw [e3, e4, e5, F_X6_teaches_b33.eq_2, if_pos (show (3 : Int32) ≤ nI (2 + 1) by decide), Int64.zero_add]
  rfl
theorem x_learn26 (N : Nat) (hN : 160 ≤ N) {g : Nat → Nat → Int32} (hw : Wf g) (p : Nat) (hp : p < 4) : ∀ (r n k : Nat) (σ : Mem), k + r = sPl g → r < n → HX σ g → (∀ j, j < sL g → σ.2.2.2.1 52 0 j = sFirst g p j) →
    ∃ τ, F_X6_learning_b26 N n (nI p) (sLs g p k) (nI k) σ = some (sLs g p (sPl g), τ) ∧ KN σ τ := by
  have hP := sPl_eq hw
  intro r
  induction r with
  | zero =>
    intro n k σ hk hn h h1
    cases n with
    | zero => cases hn
    | succ n => exact ⟨σ, by rw [F_X6_learning_b26.eq_2, h.1.pl, hP.1, if_pos (nI_le (by omega) (by omega)), show k = sPl g by omega], KN.rfl_ σ⟩
  | succ r ih =>
    intro n k σ hk hn h h1
    cases n with
    | zero => cases hn
    | succ n =>
      rw [F_X6_learning_b26.eq_2, h.1.pl, hP.1, if_neg (nI_ge (by omega) (by omega)), nI_1]
      by_cases e : k = p
      · obtain ⟨τ2, e2, k2⟩ := ih n (k + 1) σ (by omega) (by omega) h h1
        rw [sLs, if_pos e] at e2
        exact ⟨τ2, by rw [if_pos (by rw [e])]; exact e2, k2⟩
      · obtain ⟨τ1, e1, k1⟩ := x_teaches N hN hw p k hp (by omega) σ h h1
        obtain ⟨τ2, e2, k2⟩ := ih n (k + 1) τ1 (by omega) (by omega) (h.kx k1.x) (fun j hj => by rw [k1.2.2.2.1 52 (by decide) (by decide) (by decide)]; exact h1 j hj)
        rw [sLs, if_neg e] at e2
        refine ⟨τ2, ?_, k1.trans k2⟩
        rw [if_neg (fun q => e ((nI_eq (by omega) (by omega)).mp q)), e1, Option.bind_some]
        exact e2
theorem x_learning (N : Nat) (hN : 160 ≤ N) {g : Nat → Nat → Int32} (hw : Wf g) (p : Nat) (hp : p < 4) (σ : Mem) (h : HX σ g) : ∃ τ, F_X6_learning N (nI p) σ = some (sLs g p (sPl g), τ) ∧ KX σ τ := by
  have hL := sL_le hw
  have hP := sPl_eq hw
  obtain ⟨τ1, e1, k1, r1⟩ := x_begin N (by omega) hw p hp σ h
  have kc : KX τ1 (τ1.1, τ1.2.1, τ1.2.2.1, hwR3 τ1.2.2.2.1 52 0 (va_cpy (τ1.2.2.2.1 50 1) (τ1.2.2.2.1 52 0) 0 0 5), τ1.2.2.2.2) := ⟨rfl, rfl, rfl, fun t ht => hwR3_t (by omega), rfl⟩
  obtain ⟨τ2, e2, k2⟩ := x_learn26 N hN hw p hp (sPl g) N 0 _ (by omega) (by omega) ((h.kx k1.x).kx kc) (fun j hj => by
    show hwR3 τ1.2.2.2.1 52 0 (va_cpy (τ1.2.2.2.1 50 1) (τ1.2.2.2.1 52 0) 0 0 5) 52 0 j = _
    rw [hwR3_cpy (by omega)]; exact r1 j hj)
  refine ⟨τ2, ?_, (k1.x.trans kc).trans k2.x⟩
  unfold F_X6_learning
  rw [e1, Option.bind_some]
  exact e2
theorem m_learn92 (N : Nat) (hN : 160 ≤ N) {g : Nat → Nat → Int32} (hw : Wf g) (kk : Int32 → Int64 → Int32 → Int32 → Mem → Option (Int64 × Mem)) (p q : Nat) (sg : Int32) (s : Int32) (hm : 0 < sMuch g 1 sg (sFirst g p)) (x2 x8 : Int64) : ∀ (r n k : Nat) (σ : Mem), k + r = sL g → r < n → gM σ = g → (∀ j, j < sL g → σ.2.2.2.1 103 0 (30 + j) = sDry g 1 sg (sFirst g p) j) → (∀ j, j < sL g → σ.2.2.2.1 102 0 (5 * 0 + j) = if j < k then sMix g p q sg j else sFirst g q j) →
    ∃ τ, F_X12_learns_b92 N kk n (nI p) x2 (nI q) s (sMuch g 1 sg (sFirst g p)) x8 (g 80 (4 * p + q)) (nI k) σ = kk (nI p) (x2 + (sMuch g 1 sg (sFirst g p) * (sV1 g (sMix g p q sg) - x8)) / 1000000) (nI q) (s + 1) τ ∧ KQ σ τ := by
  have hL := sL_le hw
  have hD := (sD_eq hw).2
  intro r
  induction r with
  | zero =>
    intro n k σ hk hn hg hd h1
    cases n with
    | zero => cases hn
    | succ n =>
      obtain ⟨τ, e, k1⟩ := m_valueOf N hN hw 1 0 (by decide) (by decide) (by decide) (sMix g p q sg) σ hg (fun j hj => by rw [h1 j hj, if_pos (by omega)])
      refine ⟨τ, ?_, k1.q⟩
      rw [F_X12_learns_b92.eq_2, rL hw hg, if_pos (nI_le (by omega) (by omega)), show F_X12_valueOf N (1 : Int32) (0 : Int32) σ = _ from e, Option.bind_some]
      rfl
  | succ r ih =>
    intro n k σ hk hn hg hd h1
    cases n with
    | zero => cases hn
    | succ n =>
      have kd : KRm 0 σ (σ.1, σ.2.1, σ.2.2.1, hwU3 σ.2.2.2.1 102 0 (5 * 0 + k) (sMix g p q sg k), σ.2.2.2.2) := KRm.w (by omega)
      obtain ⟨τ, e1, k1⟩ := ih n (k + 1) _ (by omega) (by omega) (kd.q.g.trans hg) (fun j hj => by rw [kd.2.2.2.1 103 (by decide)]; exact hd j hj) (fun j hj => by
        show hwU3 σ.2.2.2.1 102 0 (5 * 0 + k) (sMix g p q sg k) 102 0 (5 * 0 + j) = _
        by_cases e : j = k
        · subst e; rw [if_pos (Nat.lt_succ_self _)]; exact hwU3_eq
        · rw [hwU3_k (by omega), h1 j hj]
          by_cases e2 : j < k
          · rw [if_pos e2, if_pos (by omega)]
          · rw [if_neg e2, if_neg (by omega)])
      refine ⟨τ, ?_, kd.q.trans k1⟩
      have e0 : (nI k).toNatClampNeg = 5 * 0 + k := by rw [nI_clamp (by omega)]; omega
      have e30 : (30 : Int32) + nI k = nI (30 + k) := by rw [show (30 : Int32) = nI 30 from rfl, nI_add]
      have hne : ¬ sMuch g 1 sg (sFirst g p) = 0 := fun z => by rw [z] at hm; exact absurd hm (by decide)
      rw [F_X12_learns_b92.eq_2, rL hw hg, if_neg (nI_ge (by omega) (by omega)), if_neg (out_nI (by omega) (by decide)), e30, if_neg (out_nI (by omega) (by decide)), if_neg hne, if_neg (out_nI (by omega) (by decide)), e0, nI_clamp (by omega), h1 k (by omega), if_neg (Nat.lt_irrefl k), hd k (by omega), nI_1]
      exact e1
theorem m_learn17 (N : Nat) (hN : 160 ≤ N) {g : Nat → Nat → Int32} (hw : Wf g) (kk : Int32 → Int64 → Int32 → Mem → Option (Int64 × Mem)) (p q : Nat) (hp : p < 4) (hq : q < 4) (hpq : q ≠ p) (s m : Nat) (acc : Int64) (σ : Mem) (hs : s < 3) (hg : gM σ = g) :
    ∃ τ, F_X12_learns_b17 N kk (m + 1) (nI p) acc (nI q) (nI s) σ = F_X12_learns_b17 N kk m (nI p) (acc + sTa g p q (nI s)) (nI q) (nI (s + 1)) τ ∧ KQ σ τ := by
  have hL := sL_le hw
  have hD := (sD_eq hw).2
  obtain ⟨τ1, e1, k1, r1⟩ := m_begins N (by omega) hw p hp 6 (by decide) σ hg
  have g1 := k1.q.g.trans hg
  obtain ⟨τ2, e2, k2, r2⟩ := m_dries N hN hw 6 1 (by decide) (nI s) (sFirst g p) τ1 g1 r1
  have g2 := k2.q.g.trans g1
  rw [F_X12_learns_b17.eq_2, if_neg (geL_n 3 3 rfl (by omega) (by decide)), if_neg (fun z => hpq ((nI_eq (by omega) (by omega)).mp z)), show F_X12_begins N (nI p) (6 : Int32) σ = _ from e1, Option.bind_some, show F_X12_dries N (6 : Int32) (1 : Int32) (nI s) τ1 = _ from e2, Option.bind_some, nI_1]
  unfold sTa
  by_cases hm : 0 < sMuch g 1 (nI s) (sFirst g p)
  · obtain ⟨τ3, e3, k3, r3⟩ := m_begins N (by omega) hw q hq 0 (by decide) τ2 g2
    have g3 := k3.q.g.trans g2
    obtain ⟨τ4, e4, k4⟩ := m_valueOf N hN hw 1 0 (by decide) (by decide) (by decide) (sFirst g q) τ3 g3 r3
    have g4 := k4.q.g.trans g3
    obtain ⟨τ5, e5, k5, r5⟩ := m_begins N (by omega) hw q hq 0 (by decide) τ4 g4
    have g5 := k5.q.g.trans g4
    obtain ⟨τ6, e6, k6⟩ := m_learn92 N hN hw (F_X12_learns_b17 N kk m) p q (nI s) (nI s) hm acc (sV1 g (sFirst g q)) (sL g) N 0 τ5 (by omega) (by omega) g5 (fun j hj => by
      rw [k5.2.2.2.1 103 (by decide), k4.2.2.2.2.2.1 (30 + j) (by omega), k3.2.2.2.1 103 (by decide)]
      exact r2 j hj) (fun j hj => by rw [if_neg (Nat.not_lt_zero j)]; exact r5 j hj)
    refine ⟨τ6, ?_, ((((k1.q.trans k2.q).trans k3.q).trans k4.q).trans k5.q).trans k6⟩
    rw [if_neg (fun z => lg_npos.mp z hm), show F_X12_begins N (nI q) (0 : Int32) τ2 = _ from e3, Option.bind_some, show F_X12_valueOf N (1 : Int32) (0 : Int32) τ3 = _ from e4, Option.bind_some, show F_X12_begins N (nI q) (0 : Int32) τ4 = _ from e5, Option.bind_some, ix4, if_neg (out_nI (by omega) (by decide)), nI_clamp (by omega), rA g5 (by decide) (by decide)]
    rw [nI_1] at e6
    rw [if_pos hm]
    exact e6
  · refine ⟨τ2, ?_, k1.q.trans k2.q⟩
    rw [if_pos (lg_npos.mpr hm), if_neg hm, Int64.add_zero]
theorem m_learn5 (N : Nat) (hN : 160 ≤ N) {g : Nat → Nat → Int32} (hw : Wf g) (p : Nat) (hp : p < 4) : ∀ (r n k : Nat) (σ : Mem), k + r = sPl g → r < n → gM σ = g →
    ∃ τ, F_X12_learns_b5 N n (nI p) (sLs g p k) (nI k) σ = some (sLs g p (sPl g), τ) ∧ KQ σ τ := by
  have hP := sPl_eq hw
  obtain ⟨N', rfl⟩ : ∃ N', N = N' + 4 := ⟨N - 4, by omega⟩
  intro r
  induction r with
  | zero =>
    intro n k σ hk hn hg
    cases n with
    | zero => cases hn
    | succ n => exact ⟨σ, by rw [F_X12_learns_b5.eq_2, rF hg (by decide), hP.1, if_pos (nI_le (by omega) (by omega)), show k = sPl g by omega], KQ.rfl_ σ⟩
  | succ r ih =>
    intro n k σ hk hn hg
    cases n with
    | zero => cases hn
    | succ n =>
      rw [F_X12_learns_b5.eq_2, rF hg (by decide), hP.1, if_neg (nI_ge (by omega) (by omega))]
      show ∃ τ, F_X12_learns_b17 (N' + 4) (F_X12_learns_b5 (N' + 4) n) (N' + 3 + 1) (nI p) (sLs g p k) (nI k) (nI 0) σ = _ ∧ _
      by_cases e : k = p
      · obtain ⟨τ2, e2, k2⟩ := ih n (k + 1) σ (by omega) (by omega) hg
        rw [sLs, if_pos e] at e2
        refine ⟨τ2, ?_, k2⟩
        rw [F_X12_learns_b17.eq_2, if_neg (by decide), if_pos (by rw [e]), nI_1]
        exact e2
      · obtain ⟨τ1, f1, k1⟩ := m_learn17 (N' + 4) hN hw (F_X12_learns_b5 (N' + 4) n) p k hp (by omega) e 0 (N' + 3) (sLs g p k) σ (by decide) hg
        have g1 := k1.g.trans hg
        obtain ⟨τ2, f2, k2⟩ := m_learn17 (N' + 4) hN hw (F_X12_learns_b5 (N' + 4) n) p k hp (by omega) e 1 (N' + 2) _ τ1 (by decide) g1
        have g2 := k2.g.trans g1
        obtain ⟨τ3, f3, k3⟩ := m_learn17 (N' + 4) hN hw (F_X12_learns_b5 (N' + 4) n) p k hp (by omega) e 2 (N' + 1) _ τ2 (by decide) g2
        obtain ⟨τ4, e4, k4⟩ := ih n (k + 1) τ3 (by omega) (by omega) (k3.g.trans g2)
        rw [sLs, if_neg e, ← Int64.add_assoc, ← Int64.add_assoc] at e4
        refine ⟨τ4, ?_, ((k1.trans k2).trans k3).trans k4⟩
        rw [f1, f2, f3, F_X12_learns_b17.eq_2, if_pos (show (3 : Int32) ≤ nI (2 + 1) by decide), nI_1]
        exact e4
theorem m_learns (N : Nat) (hN : 160 ≤ N) {g : Nat → Nat → Int32} (hw : Wf g) (p : Nat) (hp : p < 4) (σ : Mem) (hg : gM σ = g) : ∃ τ, F_X12_learns N (nI p) σ = some (sLs g p (sPl g), τ) ∧ KQ σ τ := by
  have hP := sPl_eq hw
  exact m_learn5 N hN hw p hp (sPl g) N 0 σ (by omega) (by omega) hg
theorem c_learn (N : Nat) (hN : 160 ≤ N) (a : Int32) (σ : Mem) (h : Ag σ) : Ac (F_X11_learn N a) (F_X12_learn N a) σ := by
  obtain ⟨hx, hw⟩ := h
  have hP := (sPl_eq hw).2
  rcases rg_c a (c := sPl (gM σ)) (by omega) with ⟨p, hp, rfl⟩ | hq
  rotate_left
  · refine Ac.st (r := Int64.ofInt (-4611686018427387904)) ⟨hx, hw⟩ ?_ ?_
    · unfold F_X11_learn; rw [x_plN hw hx hq, Option.bind_some, k00]
    · unfold F_X12_learn; rw [m_plN hw rfl hq, Option.bind_some, k00]
  obtain ⟨τ1, e1, k1⟩ := x_learning N hN hw p (by omega) σ hx
  have g1 : gM τ1 = gM σ := k1.g
  obtain ⟨τ2, e2, k2⟩ := m_learns N hN hw p (by omega) τ1 g1
  refine Ac.mk (r := sLs (gM σ) p (sPl (gM σ))) (τ1 := τ1) (τ2 := τ2) ⟨hx, hw⟩ ?_ k1.y ?_ k2.m
  · unfold F_X11_learn; rw [x_plY hw hx hp, Option.bind_some, k10, e1, Option.bind_some]
  · unfold F_X12_learn; rw [m_plY hw g1 hp, Option.bind_some, k10, e2, Option.bind_some]
/-- the place to begin with, of the first n -/
def sFv (g : Nat → Nat → Int32) (p : Nat) : Int64 := sLs g p (sPl g) + sV1 g (sFirst g p)
def sFp (g : Nat → Nat → Int32) : Nat → Int32 × Int64
  | 0 => (-1, 0)
  | n + 1 => if n = 0 then (nI 0, sFv g 0) else if lg_cmp (sFv g n) (sFp g n).2 ≤ 0 then sFp g n else (nI n, sFv g n)
theorem sFp_nI (g : Nat → Nat → Int32) : ∀ n : Nat, 0 < n → ∃ k, k < n ∧ (sFp g n).1 = nI k
  | 0, h => by cases h
  | 1, _ => ⟨0, by decide, rfl⟩
  | n + 2, _ => by
    obtain ⟨k, hk, e⟩ := sFp_nI g (n + 1) (by omega)
    rw [sFp, if_neg (by omega)]
    split
    · exact ⟨k, by omega, e⟩
    · exact ⟨n + 1, by omega, rfl⟩
theorem x_first7 (N : Nat) (hN : 160 ≤ N) {g : Nat → Nat → Int32} (hw : Wf g) : ∀ (q n j : Nat) (σ : Mem), j + q = sPl g → q < n → HX σ g →
    ∃ τ, F_X11_first_b7 N n (sFp g j).1 (sFp g j).2 (nI j) σ = some ((sFp g (sPl g)).1, τ) ∧ KX σ τ := by
  have hP := sPl_eq hw
  have hD := (sD_eq hw).2
  intro q
  induction q with
  | zero =>
    intro n j σ hk hn h
    cases n with
    | zero => cases hn
    | succ n => exact ⟨σ, by rw [F_X11_first_b7.eq_2, h.1.pl, hP.1, if_pos (nI_le (by omega) (by omega)), show j = sPl g by omega], KX.rfl_ σ⟩
  | succ q ih =>
    intro n j σ hk hn h
    cases n with
    | zero => cases hn
    | succ n =>
      obtain ⟨τ1, e1, k1⟩ := x_learning N hN hw j (by omega) σ h
      have h1 := h.kx k1
      obtain ⟨τ2, e2, k2, r2⟩ := x_begin N (by omega) hw j (by omega) τ1 h1
      have h2 := h1.kx k2.x
      obtain ⟨τ3, e3, k3⟩ := x_worthOf N (by omega) hw 1 (by decide) (by decide) (sFirst g j) τ2 h2 r2
      obtain ⟨τ4, e4, k4⟩ := ih n (j + 1) τ3 (by omega) (by omega) (h2.kx k3.x)
      refine ⟨τ4, ?_, ((k1.trans k2.x).trans k3.x).trans k4⟩
      rw [F_X11_first_b7.eq_2, h.1.pl, hP.1, if_neg (nI_ge (by omega) (by omega)), e1, Option.bind_some, e2, Option.bind_some, show F_X6_worthOf N (1 : Int32) τ2 = _ from e3, Option.bind_some, nI_1]
      show (if (sFp g j).1 < 0 then F_X11_first_b7 N n (nI j) (sFv g j) (nI (j + 1)) τ3 else if lg_cmp (sFv g j) (sFp g j).2 ≤ 0 then F_X11_first_b7 N n (sFp g j).1 (sFp g j).2 (nI (j + 1)) τ3 else F_X11_first_b7 N n (nI j) (sFv g j) (nI (j + 1)) τ3) = _
      rw [sFp] at e4
      by_cases hj : j = 0
      · subst hj
        rw [if_pos (show (sFp g 0).1 < 0 by show (-1 : Int32) < 0; decide)]
        exact e4
      · obtain ⟨k, hk2, ek⟩ := sFp_nI g j (by omega)
        rw [if_neg (by rw [ek]; exact nI_pos (by omega))]
        rw [if_neg hj] at e4
        by_cases hc : lg_cmp (sFv g j) (sFp g j).2 ≤ 0
        · rw [if_pos hc]; rw [if_pos hc] at e4; exact e4
        · rw [if_neg hc]; rw [if_neg hc] at e4; exact e4
theorem m_first7 (N : Nat) (hN : 160 ≤ N) {g : Nat → Nat → Int32} (hw : Wf g) : ∀ (q n j : Nat) (σ : Mem), j + q = sPl g → q < n → gM σ = g →
    ∃ τ, F_X12_first__b7 N n (sFp g j).1 (sFp g j).2 (nI j) σ = some ((sFp g (sPl g)).1, τ) ∧ KQ σ τ := by
  have hP := sPl_eq hw
  have hD := (sD_eq hw).2
  intro q
  induction q with
  | zero =>
    intro n j σ hk hn hg
    cases n with
    | zero => cases hn
    | succ n => exact ⟨σ, by rw [F_X12_first__b7.eq_2, rF hg (by decide), hP.1, if_pos (nI_le (by omega) (by omega)), show j = sPl g by omega], KQ.rfl_ σ⟩
  | succ q ih =>
    intro n j σ hk hn hg
    cases n with
    | zero => cases hn
    | succ n =>
      obtain ⟨τ1, e1, k1⟩ := m_learns N hN hw j (by omega) σ hg
      have g1 := k1.g.trans hg
      obtain ⟨τ2, e2, k2, r2⟩ := m_begins N (by omega) hw j (by omega) 0 (by decide) τ1 g1
      have g2 := k2.q.g.trans g1
      obtain ⟨τ3, e3, k3⟩ := m_valueOf N hN hw 1 0 (by decide) (by decide) (by decide) (sFirst g j) τ2 g2 r2
      obtain ⟨τ4, e4, k4⟩ := ih n (j + 1) τ3 (by omega) (by omega) (k3.q.g.trans g2)
      refine ⟨τ4, ?_, ((k1.trans k2.q).trans k3.q).trans k4⟩
      rw [F_X12_first__b7.eq_2, rF hg (by decide), hP.1, if_neg (nI_ge (by omega) (by omega)), e1, Option.bind_some, show F_X12_begins N (nI j) (0 : Int32) τ1 = _ from e2, Option.bind_some, show F_X12_valueOf N (1 : Int32) (0 : Int32) τ2 = _ from e3, Option.bind_some, nI_1]
      show (if (sFp g j).1 = Int32.ofInt (-1) then F_X12_first__b7 N n (nI j) (sFv g j) (nI (j + 1)) τ3 else if lg_cmp (sFv g j) (sFp g j).2 ≤ 0 then F_X12_first__b7 N n (sFp g j).1 (sFp g j).2 (nI (j + 1)) τ3 else F_X12_first__b7 N n (nI j) (sFv g j) (nI (j + 1)) τ3) = _
      rw [sFp] at e4
      by_cases hj : j = 0
      · subst hj
        rw [if_pos (show (sFp g 0).1 = Int32.ofInt (-1) from rfl)]
        exact e4
      · obtain ⟨k, hk2, ek⟩ := sFp_nI g j (by omega)
        rw [if_neg (by
          rw [ek]
          intro e
          have := congrArg Int32.toInt e
          rw [nI_toInt (by omega), show (Int32.ofInt (-1)).toInt = -1 from by decide] at this
          omega)]
        rw [if_neg hj] at e4
        by_cases hc : lg_cmp (sFv g j) (sFp g j).2 ≤ 0
        · rw [if_pos hc]; rw [if_pos hc] at e4; exact e4
        · rw [if_neg hc]; rw [if_neg hc] at e4; exact e4
theorem c_first (N : Nat) (hN : 160 ≤ N) (σ : Mem) (h : Ag σ) : Ac (F_X11_first N) (F_X12_first_ N) σ := by
  obtain ⟨hx, hw⟩ := h
  have hP := (sPl_eq hw).2
  obtain ⟨τ1, e1, k1⟩ := x_first7 N hN hw (sPl (gM σ)) N 0 σ (by omega) (by omega) hx
  obtain ⟨τ2, e2, k2⟩ := m_first7 N hN hw (sPl (gM σ)) N 0 τ1 (by omega) (by omega) k1.g
  exact Ac.mk (r := (sFp (gM σ) (sPl (gM σ))).1) (τ1 := τ1) (τ2 := τ2) ⟨hx, hw⟩ e1 k1.y e2 k2.m

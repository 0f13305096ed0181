/-! THE PURE SIDE, 8: the reference's rows -/
theorem rL {σ : Mem} {g : Nat → Nat → Int32} (hw : Wf g) (hg : gM σ = g) : σ.1 12 5 = nI (sL g) := by rw [← gM_f σ (by decide), hg, sL_eq hw]
theorem rF {σ : Mem} {g : Nat → Nat → Int32} (hg : gM σ = g) {k : Nat} (hk : k ≤ 40) : σ.1 12 k = g 12 k := by rw [← gM_f σ hk, hg]
theorem rA {σ : Mem} {g : Nat → Nat → Int32} (hg : gM σ = g) {t : Nat} (h1 : 72 ≤ t) (h2 : t ≤ 97) (k : Nat) : σ.2.2.1 t 0 k = g t k := by rw [← gM_a σ h1 h2, hg]
theorem ix55 (d k : Nat) : ((5 : Int32) * nI d + (5 : Int32)) + nI k = nI (5 * (d + 1) + k) := by
  rw [show (5 : Int32) * nI d + (5 : Int32) = nI (5 * (d + 1)) by rw [show (5 : Int32) = nI 5 from rfl, nI_mul, nI_add, Nat.mul_succ], nI_add]
/-- a dry row alone (and stack and names) -/
def KDm (d : Nat) (σ τ : Mem) : Prop := τ.1 = σ.1 ∧ τ.2.1 = σ.2.1 ∧ (∀ t, t ≠ 100 → t ≠ 101 → τ.2.2.1 t = σ.2.2.1 t) ∧ (∀ t, t ≠ 103 → τ.2.2.2.1 t = σ.2.2.2.1 t) ∧ (∀ k, k < 5 * d ∨ 5 * d + 5 ≤ k → τ.2.2.2.1 103 0 k = σ.2.2.2.1 103 0 k) ∧ τ.2.2.2.2 = σ.2.2.2.2
theorem KDm.rfl_ (d : Nat) (σ : Mem) : KDm d σ σ := ⟨rfl, rfl, fun _ _ _ => rfl, fun _ _ => rfl, fun _ _ => rfl, rfl⟩
theorem KDm.trans {d : Nat} {σ τ υ : Mem} (h : KDm d σ τ) (k : KDm d τ υ) : KDm d σ υ := ⟨k.1.trans h.1, k.2.1.trans h.2.1, fun t a b => (k.2.2.1 t a b).trans (h.2.2.1 t a b), fun t a => (k.2.2.2.1 t a).trans (h.2.2.2.1 t a), fun t a => (k.2.2.2.2.1 t a).trans (h.2.2.2.2.1 t a), k.2.2.2.2.2.trans h.2.2.2.2.2⟩
theorem KDm.q {d : Nat} {σ τ : Mem} (h : KDm d σ τ) : KQ σ τ := ⟨h.1, h.2.1, h.2.2.1, fun t _ b => h.2.2.2.1 t b, h.2.2.2.2.2⟩
theorem KE.dm {σ τ : Mem} (h : KE σ τ) (d : Nat) : KDm d σ τ := ⟨h.1, h.2.1, h.2.2.1, fun t _ => by rw [h.2.2.2], fun k _ => by rw [h.2.2.2], by rw [h.2.2.2]⟩
theorem KDm.w {d : Nat} {σ : Mem} {k : Nat} {v : Int64} (hk : k < 5) : KDm d σ (σ.1, σ.2.1, σ.2.2.1, hwU3 σ.2.2.2.1 103 0 (5 * d + k) v, σ.2.2.2.2) := ⟨rfl, rfl, fun _ _ _ => rfl, fun _ h => hwU3_t h, fun j hj => hwU3_k (by omega), rfl⟩
theorem m_dries6 (N : Nat) (hN : 160 ≤ N) {g : Nat → Nat → Int32} (hw : Wf g) (d y : Nat) (hd : d ≤ 7) (s : Int32) (th : Nat → Int64) : ∀ (r n k : Nat) (σ : Mem), k + r = sL g → r < n → gM σ = g → (∀ j, j < sL g → σ.2.2.2.1 102 0 (5 * d + j) = th j) → (∀ j, j < k → σ.2.2.2.1 103 0 (5 * d + j) = sDry g y s th j) →
    ∃ τ, F_X12_dries_b6 N n (nI d) (nI y) s (hzS (sDry g y s th) k) (nI k) σ = some (sMuch g y s th, τ) ∧ KDm d σ τ ∧ ∀ j, j < sL g → τ.2.2.2.1 103 0 (5 * d + j) = sDry g y s th j := by
  intro r
  have hL := sL_le hw
  induction r with
  | zero =>
    intro n k σ hk hn hg h1 h2
    cases n with
    | zero => cases hn
    | succ n =>
      refine ⟨σ, ?_, KDm.rfl_ d σ, fun j hj => h2 j (by omega)⟩
      unfold F_X12_dries_b6
      rw [rL hw hg, if_pos (nI_le (by omega) (by omega)), show k = sL g by omega]
      rfl
  | succ r ih =>
    intro n k σ hk hn hg h1 h2
    cases n with
    | zero => cases hn
    | succ n =>
      have fin : ∀ υ : Mem, KDm d σ υ → (∀ j, j < sL g → υ.2.2.2.1 102 0 (5 * d + j) = th j) → (∀ j, j < k → υ.2.2.2.1 103 0 (5 * d + j) = sDry g y s th j) → ∃ τ, F_X12_dries_b71 N (F_X12_dries_b6 N n) (nI d) (nI y) s (hzS (sDry g y s th) k) (nI k) (sDry g y s th k) (nI (5 * d + k)) υ = some (sMuch g y s th, τ) ∧ KDm d σ τ ∧ ∀ j, j < sL g → τ.2.2.2.1 103 0 (5 * d + j) = sDry g y s th j := by
        intro υ ku h1 h2
        have kd : KDm d υ (υ.1, υ.2.1, υ.2.2.1, hwU3 υ.2.2.2.1 103 0 (5 * d + k) (sDry g y s th k), υ.2.2.2.2) := KDm.w (by omega)
        obtain ⟨τ, e1, e2, e3⟩ := ih n (k + 1) _ (by omega) (by omega) (((ku.trans kd).q.g).trans hg) (fun j hj => by
          show hwU3 υ.2.2.2.1 103 0 (5 * d + k) (sDry g y s th k) 102 0 (5 * d + j) = _
          rw [hwU3_t (by decide)]; exact h1 j hj) (fun j hj => by
          show hwU3 υ.2.2.2.1 103 0 (5 * d + k) _ 103 0 (5 * d + j) = _
          by_cases e : j = k
          · subst e; exact hwU3_eq
          · rw [hwU3_k (by omega)]; exact h2 j (by omega))
        refine ⟨τ, ?_, (ku.trans kd).trans e2, e3⟩
        unfold F_X12_dries_b71
        rw [ix5, if_neg (out_nI (by omega) (by decide)), if_neg (out_nI (by omega) (by decide)), nI_clamp (by omega), hwU3_eq, nI_1]
        exact e1
      unfold F_X12_dries_b6
      rw [rL hw hg, if_neg (nI_ge (by omega) (by omega)), ix5, if_neg (out_nI (by omega) (by decide)), if_neg (out_nI (by omega) (by decide)), nI_clamp (by omega), nI_clamp (by omega), rA hg (by decide) (by decide)]
      by_cases hs : g 74 k = s
      · obtain ⟨υ, f1, f2⟩ := m_waterOf N hN hw y k (by omega) σ hg
        have ev : th k - th k * (sWat g y k).toInt64 / 100 = sDry g y s th k := by unfold sDry; rw [if_pos hs]
        rw [if_pos hs, f1, h1 k (by omega)]
        show ∃ τ, F_X12_dries_b71 N (F_X12_dries_b6 N n) (nI d) (nI y) s (hzS (sDry g y s th) k) (nI k) (th k - th k * (sWat g y k).toInt64 / 100) (nI (5 * d + k)) υ = _ ∧ _
        rw [ev]
        exact fin υ (f2.dm d) (fun j hj => by rw [f2.2.2.2]; exact h1 j hj) (fun j hj => by rw [f2.2.2.2]; exact h2 j hj)
      · have ev : (0 : Int64) = sDry g y s th k := by unfold sDry; rw [if_neg hs]
        rw [if_neg hs, ev]
        exact fin σ (KDm.rfl_ d σ) h1 h2
theorem m_dries (N : Nat) (hN : 160 ≤ N) {g : Nat → Nat → Int32} (hw : Wf g) (d y : Nat) (hd : d ≤ 7) (s : Int32) (th : Nat → Int64) (σ : Mem) (hg : gM σ = g) (h1 : ∀ j, j < sL g → σ.2.2.2.1 102 0 (5 * d + j) = th j) :
    ∃ τ, F_X12_dries N (nI d) (nI y) s σ = some (sMuch g y s th, τ) ∧ KDm d σ τ ∧ ∀ j, j < sL g → τ.2.2.2.1 103 0 (5 * d + j) = sDry g y s th j := by
  have hL := sL_le hw
  exact m_dries6 N hN hw d y hd s th (sL g) N 0 σ (by omega) (by omega) hg h1 (fun j hj => by omega)
theorem m_allB4 (N : Nat) {g : Nat → Nat → Int32} (hw : Wf g) (i : Nat) (hi : i < 5) (σ : Mem) (hg : gM σ = g) : ∀ (r n k : Nat), k + r = sL g → r < n → F_X12_allBelow_b4 N n (nI i) (hzJ (fun j => g 75 (5 * i + j)) k) (nI k) σ = some (sAllB g i, σ) := by
  intro r
  have hL := sL_le hw
  induction r with
  | zero =>
    intro n k hk hn
    cases n with
    | zero => cases hn
    | succ n =>
      unfold F_X12_allBelow_b4
      rw [rL hw hg, if_pos (nI_le (by omega) (by omega)), show k = sL g by omega]
      rfl
  | succ r ih =>
    intro n k hk hn
    cases n with
    | zero => cases hn
    | succ n =>
      unfold F_X12_allBelow_b4
      rw [rL hw hg, if_neg (nI_ge (by omega) (by omega)), ix5, if_neg (out_nI (by omega) (by decide)), nI_clamp (by omega), rA hg (by decide) (by decide), nI_1]
      exact ih n (k + 1) (by omega) (by omega)
theorem m_allBelow (N : Nat) (hN : 6 < N) {g : Nat → Nat → Int32} (hw : Wf g) (i : Nat) (hi : i < 5) (σ : Mem) (hg : gM σ = g) : F_X12_allBelow N (nI i) σ = some (sAllB g i, σ) := by
  have hL := sL_le hw
  exact m_allB4 N hw i hi σ hg (sL g) N 0 (by omega) (by omega)
/-- the row of thoughts behind d alone -/
def KBm (d : Nat) (σ τ : Mem) : Prop := τ.1 = σ.1 ∧ τ.2.1 = σ.2.1 ∧ τ.2.2.1 = σ.2.2.1 ∧ (∀ t, t ≠ 102 → τ.2.2.2.1 t = σ.2.2.2.1 t) ∧ (∀ k, k < 5 * (d + 1) ∨ 5 * (d + 1) + 5 ≤ k → τ.2.2.2.1 102 0 k = σ.2.2.2.1 102 0 k) ∧ τ.2.2.2.2 = σ.2.2.2.2
theorem KBm.rfl_ (d : Nat) (σ : Mem) : KBm d σ σ := ⟨rfl, rfl, rfl, fun _ _ => rfl, fun _ _ => rfl, rfl⟩
theorem KBm.trans {d : Nat} {σ τ υ : Mem} (h : KBm d σ τ) (k : KBm d τ υ) : KBm d σ υ := ⟨k.1.trans h.1, k.2.1.trans h.2.1, k.2.2.1.trans h.2.2.1, fun t a => (k.2.2.2.1 t a).trans (h.2.2.2.1 t a), fun t a => (k.2.2.2.2.1 t a).trans (h.2.2.2.2.1 t a), k.2.2.2.2.2.trans h.2.2.2.2.2⟩
theorem KBm.q {d : Nat} {σ τ : Mem} (h : KBm d σ τ) : KQ σ τ := ⟨h.1, h.2.1, fun t _ _ => by rw [h.2.2.1], fun t a _ => h.2.2.2.1 t a, h.2.2.2.2.2⟩
theorem KBm.w {d : Nat} {σ : Mem} {k : Nat} {v : Int64} (hk : k < 5) : KBm d σ (σ.1, σ.2.1, σ.2.2.1, hwU3 σ.2.2.2.1 102 0 (5 * (d + 1) + k) v, σ.2.2.2.2) := ⟨rfl, rfl, rfl, fun _ h => hwU3_t h, fun j hj => hwU3_k (by omega), rfl⟩
theorem m_below3 (N : Nat) {g : Nat → Nat → Int32} (hw : Wf g) (d : Nat) (hd : d ≤ 6) (M : Int64) : ∀ (r n k : Nat) (σ : Mem), k + r = sL g → r < n → gM σ = g → (∀ j, j < k → σ.2.2.2.1 102 0 (5 * (d + 1) + j) = 0) →
    ∃ τ, F_X12_below_b3 N n (nI d) M (nI k) σ = F_X12_below_b35 N N (nI d) M 0 τ ∧ KBm d σ τ ∧ ∀ j, j < sL g → τ.2.2.2.1 102 0 (5 * (d + 1) + j) = 0 := by
  intro r
  have hL := sL_le hw
  induction r with
  | zero =>
    intro n k σ hk hn hg h1
    cases n with
    | zero => cases hn
    | succ n =>
      refine ⟨σ, ?_, KBm.rfl_ d σ, fun j hj => h1 j (by omega)⟩
      unfold F_X12_below_b3
      rw [rL hw hg, if_pos (nI_le (by omega) (by omega))]
  | succ r ih =>
    intro n k σ hk hn hg h1
    cases n with
    | zero => cases hn
    | succ n =>
      have kd : KBm d σ (σ.1, σ.2.1, σ.2.2.1, hwU3 σ.2.2.2.1 102 0 (5 * (d + 1) + k) 0, σ.2.2.2.2) := KBm.w (by omega)
      obtain ⟨τ, e1, e2, e3⟩ := ih n (k + 1) _ (by omega) (by omega) (kd.q.g.trans hg) (fun j hj => by
        show hwU3 σ.2.2.2.1 102 0 (5 * (d + 1) + k) 0 102 0 (5 * (d + 1) + j) = _
        by_cases e : j = k
        · subst e; exact hwU3_eq
        · rw [hwU3_k (by omega)]; exact h1 j (by omega))
      refine ⟨τ, ?_, kd.trans e2, e3⟩
      rw [← e1, F_X12_below_b3.eq_2, rL hw hg, if_neg (nI_ge (by omega) (by omega)), ix55, if_neg (out_nI (by omega) (by decide)), nI_clamp (by omega), nI_1]
theorem m_below74 (N : Nat) {g : Nat → Nat → Int32} (hw : Wf g) (d i : Nat) (hd : d ≤ 6) (hi : i < sL g) (M : Int64) (kk : Int32 → Int64 → Int32 → Mem → Option (Unit × Mem)) (dr : Nat → Int64) (T0 : Nat → Int64) : ∀ (r n k : Nat) (σ : Mem), k + r = sL g → r < n → gM σ = g → (∀ j, j < sL g → σ.2.2.2.1 102 0 (5 * (d + 1) + j) = if j < k then T0 j + sSk g dr i j else T0 j) →
    ∃ τ, F_X12_below_b74 N kk n (nI d) M (nI i) (dr i) (sAllB g i) (nI k) σ = kk (nI d) M (nI (i + 1)) τ ∧ KBm d σ τ ∧ ∀ j, j < sL g → τ.2.2.2.1 102 0 (5 * (d + 1) + j) = T0 j + sSk g dr i j := by
  intro r
  have hL := sL_le hw
  obtain ⟨s, hs, es, -⟩ := sAllB_nI hw (show i < 5 by omega)
  induction r with
  | zero =>
    intro n k σ hk hn hg h1
    cases n with
    | zero => cases hn
    | succ n =>
      refine ⟨σ, ?_, KBm.rfl_ d σ, fun j hj => by rw [h1 j hj, if_pos (by omega)]⟩
      unfold F_X12_below_b74
      rw [rL hw hg, if_pos (nI_le (by omega) (by omega)), nI_1]
  | succ r ih =>
    intro n k σ hk hn hg h1
    cases n with
    | zero => cases hn
    | succ n =>
      have kd : KBm d σ (σ.1, σ.2.1, σ.2.2.1, hwU3 σ.2.2.2.1 102 0 (5 * (d + 1) + k) (T0 k + sSk g dr i k), σ.2.2.2.2) := KBm.w (by omega)
      obtain ⟨τ, e1, e2, e3⟩ := ih n (k + 1) _ (by omega) (by omega) (kd.q.g.trans hg) (fun j hj => by
        show hwU3 σ.2.2.2.1 102 0 (5 * (d + 1) + k) _ 102 0 (5 * (d + 1) + j) = _
        by_cases e : j = k
        · subst e; rw [if_pos (Nat.lt_succ_self _)]; exact hwU3_eq
        · rw [hwU3_k (by omega), h1 j hj]
          by_cases e2 : j < k
          · rw [if_pos e2, if_pos (by omega)]
          · rw [if_neg e2, if_neg (by omega)])
      refine ⟨τ, ?_, kd.trans e2, e3⟩
      have fin : F_X12_below_b138 N (F_X12_below_b74 N kk n) (nI d) M (nI i) (dr i) (sAllB g i) (nI k) (sSk g dr i k) (T0 k) (nI (5 * (d + 1) + k)) σ = kk (nI d) M (nI (i + 1)) τ := by
        unfold F_X12_below_b138
        rw [if_neg (out_nI (by omega) (by decide)), nI_clamp (by omega), nI_1]
        exact e1
      unfold F_X12_below_b74
      rw [rL hw hg, if_neg (nI_ge (by omega) (by omega)), ix55, if_neg (out_nI (by omega) (by decide)), nI_clamp (by omega), h1 k (by omega), if_neg (Nat.lt_irrefl k)]
      by_cases hz : sAllB g i = 0
      · rw [if_pos hz]
        by_cases e : i = k
        · subst e
          have ev : sSk g dr i i = dr i := by unfold sSk; rw [if_pos hz, if_pos rfl]
          rw [if_pos rfl]
          rw [ev] at fin
          exact fin
        · have ev : sSk g dr i k = 0 := by unfold sSk; rw [if_pos hz, if_neg e]
          rw [if_neg (fun q => e ((nI_eq (by omega) (by omega)).mp q))]
          rw [ev] at fin
          exact fin
      · have hs0 : 0 < s := Nat.pos_of_ne_zero fun q => hz (by rw [es, q]; rfl)
        have ev : sSk g dr i k = dr i * (g 75 (5 * i + k)).toInt64 / (sAllB g i).toInt64 := by unfold sSk; rw [if_neg hz]
        rw [if_neg hz, ix5, if_neg (out_nI (by omega) (by decide)), if_neg (by rw [es]; exact nI_l0 hs0 (by omega)), nI_clamp (by omega), rA hg (by decide) (by decide), ← ev]
        exact fin
theorem m_below35 (N : Nat) (hN : 6 < N) {g : Nat → Nat → Int32} (hw : Wf g) (d : Nat) (hd : d ≤ 6) (M : Int64) (hM : 0 < M) (dv : Nat → Int64) : ∀ (r n i : Nat) (σ : Mem), i + r = sL g → r < n → gM σ = g → (∀ j, j < sL g → σ.2.2.2.1 103 0 (5 * d + j) = dv j) → (∀ j, j < sL g → σ.2.2.2.1 102 0 (5 * (d + 1) + j) = hzS (fun a => sSk g (fun a => dv a * 1000000 / M) a j) i) →
    ∃ τ, F_X12_below_b35 N n (nI d) M (nI i) σ = some ((), τ) ∧ KBm d σ τ ∧ ∀ j, j < sL g → τ.2.2.2.1 102 0 (5 * (d + 1) + j) = sSink g (fun a => dv a * 1000000 / M) j := by
  intro r
  have hL := sL_le hw
  have hMn : ¬ M = 0 := fun e => by rw [e] at hM; exact absurd hM (by decide)
  induction r with
  | zero =>
    intro n i σ hk hn hg hd1 h1
    cases n with
    | zero => cases hn
    | succ n =>
      refine ⟨σ, ?_, KBm.rfl_ d σ, fun j hj => ?_⟩
      · unfold F_X12_below_b35
        rw [rL hw hg, if_pos (nI_le (by omega) (by omega))]
      · rw [h1 j hj, show i = sL g by omega]; rfl
  | succ r ih =>
    intro n i σ hk hn hg hd1 h1
    cases n with
    | zero => cases hn
    | succ n =>
      obtain ⟨τ1, e1, k1, r1⟩ := m_below74 N hw d i hd (by omega) M (F_X12_below_b35 N n) (fun a => dv a * 1000000 / M) (fun j => hzS (fun a => sSk g (fun a => dv a * 1000000 / M) a j) i) (sL g) N 0 σ (by omega) (by omega) hg (fun j hj => by rw [if_neg (by omega)]; exact h1 j hj)
      obtain ⟨τ, e2, k2, r2⟩ := ih n (i + 1) τ1 (by omega) (by omega) (k1.q.g.trans hg) (fun j hj => by rw [k1.2.2.2.1 103 (by decide)]; exact hd1 j hj) r1
      refine ⟨τ, ?_, k1.trans k2, r2⟩
      rw [← e2, ← e1, F_X12_below_b35.eq_2, rL hw hg, if_neg (nI_ge (by omega) (by omega)), ix5, if_neg (out_nI (by omega) (by decide)), if_neg hMn, m_allBelow N hN hw i (by omega) σ hg, nI_clamp (by omega), hd1 i (by omega)]
      rfl
theorem m_below (N : Nat) (hN : 6 < N) {g : Nat → Nat → Int32} (hw : Wf g) (d : Nat) (hd : d ≤ 6) (M : Int64) (hM : 0 < M) (dv : Nat → Int64) (σ : Mem) (hg : gM σ = g) (hd1 : ∀ j, j < sL g → σ.2.2.2.1 103 0 (5 * d + j) = dv j) :
    ∃ τ, F_X12_below N (nI d) M σ = some ((), τ) ∧ KBm d σ τ ∧ ∀ j, j < sL g → τ.2.2.2.1 102 0 (5 * (d + 1) + j) = sSink g (fun a => dv a * 1000000 / M) j := by
  have hL := sL_le hw
  obtain ⟨τ1, e1, k1, r1⟩ := m_below3 N hw d hd M (sL g) N 0 σ (by omega) (by omega) hg (fun j hj => by omega)
  obtain ⟨τ, e2, k2, r2⟩ := m_below35 N hN hw d hd M hM dv (sL g) N 0 τ1 (by omega) (by omega) (k1.q.g.trans hg) (fun j hj => by rw [k1.2.2.2.1 103 (by decide)]; exact hd1 j hj) r1
  exact ⟨τ, by unfold F_X12_below; exact e1.trans e2, k1.trans k2, r2⟩

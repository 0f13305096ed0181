/-! THE PURE SIDE, 11: the reference: what is thought of a place's yards -/
/-- row d of what is thought alone -/
def KRm (d : Nat) (σ τ : Mem) : Prop := τ.1 = σ.1 ∧ τ.2.1 = σ.2.1 ∧ τ.2.2.1 = σ.2.2.1 ∧ (∀ t, t ≠ 102 → τ.2.2.2.1 t = σ.2.2.2.1 t) ∧ (∀ k, k < 5 * d ∨ 5 * d + 5 ≤ k → τ.2.2.2.1 102 0 k = σ.2.2.2.1 102 0 k) ∧ τ.2.2.2.2 = σ.2.2.2.2
theorem KRm.rfl_ (d : Nat) (σ : Mem) : KRm d σ σ := ⟨rfl, rfl, rfl, fun _ _ => rfl, fun _ _ => rfl, rfl⟩
theorem KRm.trans {d : Nat} {σ τ υ : Mem} (h : KRm d σ τ) (k : KRm d τ υ) : KRm d σ υ := ⟨k.1.trans h.1, k.2.1.trans h.2.1, k.2.2.1.trans h.2.2.1, fun t a => (k.2.2.2.1 t a).trans (h.2.2.2.1 t a), fun t a => (k.2.2.2.2.1 t a).trans (h.2.2.2.2.1 t a), k.2.2.2.2.2.trans h.2.2.2.2.2⟩
theorem KRm.q {d : Nat} {σ τ : Mem} (h : KRm d σ τ) : KQ σ τ := ⟨h.1, h.2.1, fun t _ _ => by rw [h.2.2.1], fun t a _ => h.2.2.2.1 t a, h.2.2.2.2.2⟩
theorem KRm.w {d : Nat} {σ : Mem} {k : Nat} {v : Int64} (hk : k < 5) : KRm d σ (σ.1, σ.2.1, σ.2.2.1, hwU3 σ.2.2.2.1 102 0 (5 * d + k) v, σ.2.2.2.2) := ⟨rfl, rfl, rfl, fun _ h => hwU3_t h, fun j hj => hwU3_k (by omega), rfl⟩
theorem hzSJ {f : Nat → Int32} {m : Nat} : ∀ n : Nat, (∀ j, j < n → isN (f j) m) → n * m < 2 ^ 31 → hzS (fun j => (f j).toInt64) n = (hzJ f n).toInt64
  | 0, _, _ => rfl
  | n + 1, h, hm => by
    rw [Nat.succ_mul] at hm
    have a := hzSJ n (fun j hj => h j (Nat.lt_succ_of_lt hj)) (by omega)
    obtain ⟨s, h1, h2, -⟩ := hzJ_nI n (fun j hj => h j (Nat.lt_succ_of_lt hj)) (by omega)
    obtain ⟨k, hk, ek⟩ := (h n (Nat.lt_succ_self n)).ex
    rw [hzS, hzJ, a, h2, ek, nI_add, nI_l (by omega), nI_l (by omega), nI_l (by omega), lN_add]
theorem m_begins5 (N : Nat) (hN : 6 < N) {g : Nat → Nat → Int32} (hw : Wf g) (p : Nat) (hp : p < 4) (d : Nat) (σ : Mem) (hg : gM σ = g) : ∀ (r n k : Nat), k + r = sL g → r < n →
    F_X12_begins_b5 N n (nI p) (nI d) (hzS (fun j => (g 76 (5 * p + j)).toInt64) k) (nI k) σ = F_X12_begins_b38 N N (nI p) (nI d) (sAllF g p).toInt64 0 σ := by
  intro r
  have hL := sL_le hw
  induction r with
  | zero =>
    intro n k hk hn
    cases n with
    | zero => cases hn
    | succ n =>
      rw [F_X12_begins_b5.eq_2, rL hw hg, if_pos (nI_le (by omega) (by omega)), show k = sL g by omega, hzSJ (m := 99) (sL g) (fun j hj => hw.fi _ (by omega)) (by omega)]
      rfl
  | succ r ih =>
    intro n k hk hn
    cases n with
    | zero => cases hn
    | succ n =>
      rw [F_X12_begins_b5.eq_2, rL hw hg, if_neg (nI_ge (by omega) (by omega)), ix5, if_neg (out_nI (by omega) (by decide)), nI_clamp (by omega), rA hg (by decide) (by decide), nI_1]
      exact ih n (k + 1) (by omega) (by omega)
theorem m_begins38 (N : Nat) {g : Nat → Nat → Int32} (hw : Wf g) (p : Nat) (hp : p < 4) (d : Nat) (hd : d ≤ 7) : ∀ (r n k : Nat) (σ : Mem), k + r = sL g → r < n → gM σ = g → (∀ j, j < k → σ.2.2.2.1 102 0 (5 * d + j) = sFirst g p j) →
    ∃ τ, F_X12_begins_b38 N n (nI p) (nI d) (sAllF g p).toInt64 (nI k) σ = some ((), τ) ∧ KRm d σ τ ∧ ∀ j, j < sL g → τ.2.2.2.1 102 0 (5 * d + j) = sFirst g p j := by
  intro r
  have hL := sL_le hw
  obtain ⟨s, hs, es, -⟩ := sAllF_nI hw hp
  induction r with
  | zero =>
    intro n k σ hk hn hg h1
    cases n with
    | zero => cases hn
    | succ n =>
      refine ⟨σ, ?_, KRm.rfl_ d σ, fun j hj => h1 j (by omega)⟩
      rw [F_X12_begins_b38.eq_2, rL hw hg, if_pos (nI_le (by omega) (by omega))]
  | succ r ih =>
    intro n k σ hk hn hg h1
    cases n with
    | zero => cases hn
    | succ n =>
      have kd : KRm d σ (σ.1, σ.2.1, σ.2.2.1, hwU3 σ.2.2.2.1 102 0 (5 * d + k) (sFirst g p k), σ.2.2.2.2) := KRm.w (by omega)
      obtain ⟨τ, e1, e2, e3⟩ := ih n (k + 1) _ (by omega) (by omega) (kd.q.g.trans hg) (fun j hj => by
        show hwU3 σ.2.2.2.1 102 0 (5 * d + k) _ 102 0 (5 * d + j) = _
        by_cases e : j = k
        · subst e; exact hwU3_eq
        · rw [hwU3_k (by omega)]; exact h1 j (by omega))
      refine ⟨τ, ?_, kd.trans e2, e3⟩
      have fin : F_X12_begins_b93 N (F_X12_begins_b38 N n) (nI p) (nI d) (sAllF g p).toInt64 (nI k) (sFirst g p k) (nI (5 * d + k)) σ = some ((), τ) := by
        unfold F_X12_begins_b93
        rw [if_neg (out_nI (by omega) (by decide)), nI_clamp (by omega), nI_1]
        exact e1
      rw [F_X12_begins_b38.eq_2, rL hw hg, if_neg (nI_ge (by omega) (by omega)), ix5, ix5]
      by_cases hz : sAllF g p = 0
      · have ev : sFirst g p k = 1000000 / (nI (sL g)).toInt64 := by unfold sFirst; rw [if_pos hz]
        rw [if_pos (by rw [hz]; rfl), if_neg (nI_l0 (by omega) (by omega)), ← ev]
        exact fin
      · have hs0 : 0 < s := Nat.pos_of_ne_zero fun q => hz (by rw [es, q]; rfl)
        have ev : sFirst g p k = (g 76 (5 * p + k)).toInt64 * 1000000 / (sAllF g p).toInt64 := by unfold sFirst; rw [if_neg hz]
        have hne : ¬ (sAllF g p).toInt64 = 0 := by rw [es]; exact nI_l0 hs0 (by omega)
        rw [if_neg (fun q => hne (lg_zero.mp q)), if_neg (out_nI (by omega) (by decide)), if_neg hne, nI_clamp (by omega), rA hg (by decide) (by decide), ← ev]
        exact fin
theorem m_begins (N : Nat) (hN : 6 < N) {g : Nat → Nat → Int32} (hw : Wf g) (p : Nat) (hp : p < 4) (d : Nat) (hd : d ≤ 7) (σ : Mem) (hg : gM σ = g) :
    ∃ τ, F_X12_begins N (nI p) (nI d) σ = some ((), τ) ∧ KRm d σ τ ∧ ∀ j, j < sL g → τ.2.2.2.1 102 0 (5 * d + j) = sFirst g p j := by
  have hL := sL_le hw
  obtain ⟨τ, e1, k1, r1⟩ := m_begins38 N hw p hp d hd (sL g) N 0 σ (by omega) (by omega) hg (fun j hj => by omega)
  refine ⟨τ, ?_, k1, r1⟩
  unfold F_X12_begins
  exact (m_begins5 N hN hw p hp d σ hg (sL g) N 0 (by omega) (by omega)).trans e1
theorem m_think54 (N : Nat) {g : Nat → Nat → Int32} (hw : Wf g) (p q : Int32) (kk : Int32 → Int32 → Mem → Option (Int32 × Mem)) (th : Nat → Int64) : ∀ (r n k : Nat) (σ : Mem), k + r = sL g → r < n → gM σ = g → (∀ j, j < sL g → σ.2.2.2.1 102 0 (5 * (0 + 1) + j) = th j) → (∀ j, j < k → σ.2.2.2.1 102 0 (5 * 0 + j) = th j) →
    ∃ τ, F_X12_thinks_b54 N kk n p q (nI k) σ = kk p (q + 1) τ ∧ KRm 0 σ τ ∧ ∀ j, j < sL g → τ.2.2.2.1 102 0 (5 * 0 + j) = th j := by
  intro r
  have hL := sL_le hw
  induction r with
  | zero =>
    intro n k σ hk hn hg h0 h1
    cases n with
    | zero => cases hn
    | succ n =>
      refine ⟨σ, ?_, KRm.rfl_ 0 σ, fun j hj => h1 j (by omega)⟩
      rw [F_X12_thinks_b54.eq_2, rL hw hg, if_pos (nI_le (by omega) (by omega))]
  | succ r ih =>
    intro n k σ hk hn hg h0 h1
    cases n with
    | zero => cases hn
    | succ n =>
      have kd : KRm 0 σ (σ.1, σ.2.1, σ.2.2.1, hwU3 σ.2.2.2.1 102 0 (5 * 0 + k) (th k), σ.2.2.2.2) := KRm.w (by omega)
      obtain ⟨τ, e1, e2, e3⟩ := ih n (k + 1) _ (by omega) (by omega) (kd.q.g.trans hg) (fun j hj => by
        show hwU3 σ.2.2.2.1 102 0 (5 * 0 + k) _ 102 0 (5 * (0 + 1) + j) = _
        rw [hwU3_k (by omega)]; exact h0 j hj) (fun j hj => by
        show hwU3 σ.2.2.2.1 102 0 (5 * 0 + k) _ 102 0 (5 * 0 + j) = _
        by_cases e : j = k
        · subst e; exact hwU3_eq
        · rw [hwU3_k (by omega)]; exact h1 j (by omega))
      refine ⟨τ, ?_, kd.trans e2, e3⟩
      have e5 : (5 : Int32) + nI k = nI (5 * (0 + 1) + k) := by rw [show (5 : Int32) = nI 5 from rfl, nI_add]
      have ek : (nI k).toNatClampNeg = 5 * 0 + k := by rw [nI_clamp (by omega)]; omega
      rw [F_X12_thinks_b54.eq_2, rL hw hg, if_neg (nI_ge (by omega) (by omega)), e5, if_neg (out_nI (by omega) (by decide)), if_neg (out_nI (by omega) (by decide)), ek, nI_clamp (by omega), h0 k (by omega), nI_1]
      exact e1
theorem sCan_f {g : Nat → Nat → Int32} {p k n : Nat} (h : k + 1 ≤ n) (hm : ¬ 0 < sMuch g (k + 1) (sSig g p k) (sTh g p k)) : sCan g p n = false := by
  cases hz : sCan g p n with
  | false => rfl
  | true =>
    have := (and_t (sCan_le h hz)).2
    exact absurd (of_decide_eq_true this) hm
theorem m_think8 (N : Nat) (hN : 160 ≤ N) {g : Nat → Nat → Int32} (hw : Wf g) (p : Nat) (hp : p < 4) (hL0 : 0 < sL g) : ∀ (r n k : Nat) (σ : Mem), k + r = sDug g p → r < n → gM σ = g → sCan g p k = true → (∀ j, j < sL g → σ.2.2.2.1 102 0 (5 * 0 + j) = sTh g p k j) →
    ∃ τ, F_X12_thinks_b8 N n (nI p) (nI k) σ = some (if sCan g p (sDug g p) then 1 else 0, τ) ∧ KQ σ τ ∧ (sCan g p (sDug g p) = true → ∀ j, j < sL g → τ.2.2.2.1 102 0 (5 * 0 + j) = sTh g p (sDug g p) j) := by
  have hL := sL_le hw
  obtain ⟨e, h5⟩ := sDug_eq hw hp
  intro r
  induction r with
  | zero =>
    intro n k σ hk hn hg hc h1
    cases n with
    | zero => cases hn
    | succ n =>
      have ek : k = sDug g p := by omega
      subst ek
      refine ⟨σ, ?_, KQ.rfl_ σ, fun _ => h1⟩
      rw [F_X12_thinks_b8.eq_2, if_neg (out_nI hp (by decide)), nI_clamp (by omega), rA hg (by decide) (by decide), e, if_pos (nI_le (by omega) (by omega)), if_pos hc]
  | succ r ih =>
    intro n k σ hk hn hg hc h1
    cases n with
    | zero => cases hn
    | succ n =>
      have hb := sTh_int hw hp hL0 k hc
      obtain ⟨τ1, f1, k1, r1⟩ := m_dries N hN hw 0 (k + 1) (by omega) (sSig g p k) (sTh g p k) σ hg h1
      have g1 := k1.q.g.trans hg
      have e1 : F_X12_thinks_b8 N (n + 1) (nI p) (nI k) σ = (if (lg_cmp (sMuch g (k + 1) (sSig g p k) (sTh g p k)) (0 : Int64)) = 0 then
        some ((0 : Int32), τ1)
      else
        (F_X12_below N (0 : Int32) (sMuch g (k + 1) (sSig g p k) (sTh g p k)) τ1).bind (fun q3 =>
        (F_X12_thinks_b54 N (F_X12_thinks_b8 N n) N) (nI p) (nI k) (0 : Int32) q3.2)) := by
        rw [F_X12_thinks_b8.eq_2, if_neg (out_nI hp (by decide)), nI_clamp (by omega), rA hg (by decide) (by decide), e, if_neg (nI_ge (by omega) (by omega)), ix5, if_neg (out_nI (by omega) (by decide)), nI_clamp (by omega), rA hg (by decide) (by decide), nI_1]
        show (F_X12_dries N (nI 0) (nI (k + 1)) (sSig g p k) σ).bind _ = _
        rw [f1]
        rfl
      rw [e1]
      by_cases hm : 0 < sMuch g (k + 1) (sSig g p k) (sTh g p k)
      · obtain ⟨τ2, f2, k2, r2⟩ := m_below N (by omega) hw 0 (by omega) (sMuch g (k + 1) (sSig g p k) (sTh g p k)) hm (sDry g (k + 1) (sSig g p k) (sTh g p k)) τ1 g1 r1
        have g2 := k2.q.g.trans g1
        obtain ⟨τ3, f3, k3, r3⟩ := m_think54 N hw (nI p) (nI k) (F_X12_thinks_b8 N n) (sTh g p (k + 1)) (sL g) N 0 τ2 (by omega) (by omega) g2 r2 (fun j hj => by omega)
        obtain ⟨τ4, f4, k4, r4⟩ := ih n (k + 1) τ3 (by omega) (by omega) (k3.q.g.trans g2) (by rw [sCan, hc]; simp [hm]) r3
        refine ⟨τ4, ?_, ((k1.q.trans k2.q).trans k3.q).trans k4, r4⟩
        rw [if_neg (fun q => by rw [lg_zero] at q; rw [q] at hm; exact absurd hm (by decide))]
        show (F_X12_below N (nI 0) (sMuch g (k + 1) (sSig g p k) (sTh g p k)) τ1).bind _ = _
        rw [f2]
        show F_X12_thinks_b54 N (F_X12_thinks_b8 N n) N (nI p) (nI k) (nI 0) τ2 = _
        rw [f3, nI_1]
        exact f4
      · have hn := sCan_f (p := p) (n := sDug g p) (show k + 1 ≤ sDug g p by omega) hm
        refine ⟨τ1, ?_, k1.q, fun q => by rw [hn] at q; cases q⟩
        rw [if_pos (lg_zero.mpr ((sMuch_z hb _ _).mp hm)), hn]
        rfl
theorem m_thinks (N : Nat) (hN : 160 ≤ N) {g : Nat → Nat → Int32} (hw : Wf g) (p : Nat) (hp : p < 4) (hL0 : 0 < sL g) (σ : Mem) (hg : gM σ = g) :
    ∃ τ, F_X12_thinks N (nI p) σ = some (if sCan g p (sDug g p) then 1 else 0, τ) ∧ KQ σ τ ∧ (sCan g p (sDug g p) = true → ∀ j, j < sL g → τ.2.2.2.1 102 0 (5 * 0 + j) = sTh g p (sDug g p) j) := by
  obtain ⟨e, h5⟩ := sDug_eq hw hp
  obtain ⟨τ1, e1, k1, r1⟩ := m_begins N (by omega) hw p hp 0 (by omega) σ hg
  obtain ⟨τ, e2, k2, r2⟩ := m_think8 N hN hw p hp hL0 (sDug g p) N 0 τ1 (by omega) (by omega) (k1.q.g.trans hg) rfl r1
  refine ⟨τ, ?_, k1.q.trans k2, r2⟩
  unfold F_X12_thinks
  rw [show (0 : Int32) = nI 0 from rfl, e1]
  exact e2
theorem m_goesHere (N : Nat) (hN : 160 ≤ N) {g : Nat → Nat → Int32} (hw : Wf g) (p : Nat) (hp : p < 4) (hL0 : 0 < sL g) (σ : Mem) (hg : gM σ = g) :
    ∃ τ, F_X12_goesHere N (nI p) σ = some (if sOpen g p then 1 else 0, τ) ∧ KQ σ τ ∧ (sOpen g p = true → ∀ j, j < sL g → τ.2.2.2.1 102 0 (5 * 0 + j) = sTh g p (sDug g p) j) := by
  unfold F_X12_goesHere sOpen
  rw [if_neg (out_nI hp (by decide)), nI_clamp (by omega), rA hg (by decide) (by decide)]
  by_cases hz : g 78 p = 0
  · obtain ⟨τ, e1, k1, r1⟩ := m_thinks N hN hw p hp hL0 σ hg
    refine ⟨τ, ?_, k1, fun q => r1 (and_t q).2⟩
    rw [if_pos hz, e1, decide_eq_true hz, Bool.true_and]
    cases sCan g p (sDug g p) <;> rfl
  · refine ⟨σ, ?_, KQ.rfl_ σ, fun q => ?_⟩
    · rw [if_neg hz, decide_eq_false hz]
      rfl
    · rw [decide_eq_false hz] at q; cases q
theorem m_wet5 (N : Nat) (hN : 160 ≤ N) {g : Nat → Nat → Int32} (hw : Wf g) (d y : Nat) (hd : d ≤ 7) (th : Nat → Int64) : ∀ (r n k : Nat) (σ : Mem), k + r = sL g → r < n → gM σ = g → (∀ j, j < sL g → σ.2.2.2.1 102 0 (5 * d + j) = th j) →
    ∃ τ, F_X12_wetOf_b5 N n (nI d) (nI y) (hzS (sWet g y th) k) (nI k) σ = some (hzS (sWet g y th) (sL g), τ) ∧ KE σ τ := by
  intro r
  have hL := sL_le hw
  induction r with
  | zero =>
    intro n k σ hk hn hg h1
    cases n with
    | zero => cases hn
    | succ n =>
      refine ⟨σ, ?_, KE.rfl_ σ⟩
      rw [F_X12_wetOf_b5.eq_2, rL hw hg, if_pos (nI_le (by omega) (by omega)), show k = sL g by omega]
  | succ r ih =>
    intro n k σ hk hn hg h1
    cases n with
    | zero => cases hn
    | succ n =>
      obtain ⟨υ, f1, k1⟩ := m_waterOf N hN hw y k (by omega) σ hg
      obtain ⟨τ, f2, k2⟩ := ih n (k + 1) υ (by omega) (by omega) (k1.g.trans hg) (fun j hj => by rw [k1.2.2.2]; exact h1 j hj)
      refine ⟨τ, ?_, k1.trans k2⟩
      rw [F_X12_wetOf_b5.eq_2, rL hw hg, if_neg (nI_ge (by omega) (by omega)), ix5, if_neg (out_nI (by omega) (by decide)), f1]
      show F_X12_wetOf_b5 N n (nI d) (nI y) (hzS (sWet g y th) k + (((σ.2.2.2.1 102 0 (nI (5 * d + k)).toNatClampNeg) * (sWat g y k).toInt64) / 100)) (nI k + 1) υ = _
      rw [nI_clamp (by omega), h1 k (by omega), nI_1]
      exact f2
theorem m_wetOf (N : Nat) (hN : 160 ≤ N) {g : Nat → Nat → Int32} (hw : Wf g) (d y : Nat) (hd : d ≤ 7) (th : Nat → Int64) (σ : Mem) (hg : gM σ = g) (h1 : ∀ j, j < sL g → σ.2.2.2.1 102 0 (5 * d + j) = th j) :
    ∃ τ, F_X12_wetOf N (nI d) (nI y) σ = some (hzS (sWet g y th) (sL g), τ) ∧ KE σ τ := by
  have hL := sL_le hw
  exact m_wet5 N hN hw d y hd th (sL g) N 0 σ (by omega) (by omega) hg h1

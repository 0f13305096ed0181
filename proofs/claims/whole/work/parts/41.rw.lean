/-! THE PURE SIDE, 22: told rows of signs -/
theorem m_judge128 (N : Nat) {g : Nat → Nat → Int32} (hw : Wf g) (p q : Int32) (kk : Int32 → Int32 → Mem → Option (Int32 × Mem)) (th : Nat → Int64) : ∀ (r n k : Nat) (σ : Mem), k + r = sL g → r < n → gM σ = g → (∀ j, j < sL g → σ.2.2.2.1 102 0 (5 * (0 + 1) + j) = th j) → (∀ j, j < k → σ.2.2.2.1 102 0 (5 * 0 + j) = th j) →
    ∃ τ, F_X12_judge_b128 N kk n p q (nI k) σ = kk p (q + 1) τ ∧ KRm 0 σ τ ∧ ∀ j, j < sL g → τ.2.2.2.1 102 0 (5 * 0 + j) = th j := by
  intro r
  have hL := sL_le hw
  induction r with
  | zero =>
    intro n k σ hk hn hg h0 h1
    cases n with
    | zero => cases hn
    | succ n =>
      refine ⟨σ, ?_, KRm.rfl_ 0 σ, fun j hj => h1 j (by omega)⟩
      rw [F_X12_judge_b128.eq_2, rL hw hg, if_pos (nI_le (by omega) (by omega))]
  | succ r ih =>
    intro n k σ hk hn hg h0 h1
    cases n with
    | zero => cases hn
    | succ n =>
      have kd : KRm 0 σ (σ.1, σ.2.1, σ.2.2.1, hwU3 σ.2.2.2.1 102 0 (5 * 0 + k) (th k), σ.2.2.2.2) := KRm.w (by omega)
      obtain ⟨τ, e1, e2, e3⟩ := ih n (k + 1) _ (by omega) (by omega) (kd.q.g.trans hg) (fun j hj => by
        show hwU3 σ.2.2.2.1 102 0 (5 * 0 + k) _ 102 0 (5 * (0 + 1) + j) = _
        rw [hwU3_k (by omega)]; exact h0 j hj) (fun j hj => by
        show hwU3 σ.2.2.2.1 102 0 (5 * 0 + k) _ 102 0 (5 * 0 + j) = _
        by_cases e : j = k
        · subst e; exact hwU3_eq
        · rw [hwU3_k (by omega)]; exact h1 j (by omega))
      refine ⟨τ, ?_, kd.trans e2, e3⟩
      have e5 : (5 : Int32) + nI k = nI (5 * (0 + 1) + k) := by rw [show (5 : Int32) = nI 5 from rfl, nI_add]
      have ek : (nI k).toNatClampNeg = 5 * 0 + k := by rw [nI_clamp (by omega)]; omega
      rw [F_X12_judge_b128.eq_2, rL hw hg, if_neg (nI_ge (by omega) (by omega)), e5, if_neg (out_nI (by omega) (by decide)), if_neg (out_nI (by omega) (by decide)), ek, nI_clamp (by omega), h0 k (by omega), nI_1]
      exact e1
theorem m_row163 (N : Nat) {g : Nat → Nat → Int32} (hw : Wf g) (p : Int32) (v : Int64) (q : Int32) (kk : Int32 → Int64 → Int32 → Mem → Option (Int64 × Mem)) (th : Nat → Int64) : ∀ (r n k : Nat) (σ : Mem), k + r = sL g → r < n → gM σ = g → (∀ j, j < sL g → σ.2.2.2.1 102 0 (5 * (0 + 1) + j) = th j) → (∀ j, j < k → σ.2.2.2.1 102 0 (5 * 0 + j) = th j) →
    ∃ τ, F_X12_row_b163 N kk n p v q (nI k) σ = kk p v (q + 1) τ ∧ KRm 0 σ τ ∧ ∀ j, j < sL g → τ.2.2.2.1 102 0 (5 * 0 + j) = th j := by
  intro r
  have hL := sL_le hw
  induction r with
  | zero =>
    intro n k σ hk hn hg h0 h1
    cases n with
    | zero => cases hn
    | succ n =>
      refine ⟨σ, ?_, KRm.rfl_ 0 σ, fun j hj => h1 j (by omega)⟩
      rw [F_X12_row_b163.eq_2, rL hw hg, if_pos (nI_le (by omega) (by omega))]
  | succ r ih =>
    intro n k σ hk hn hg h0 h1
    cases n with
    | zero => cases hn
    | succ n =>
      have kd : KRm 0 σ (σ.1, σ.2.1, σ.2.2.1, hwU3 σ.2.2.2.1 102 0 (5 * 0 + k) (th k), σ.2.2.2.2) := KRm.w (by omega)
      obtain ⟨τ, e1, e2, e3⟩ := ih n (k + 1) _ (by omega) (by omega) (kd.q.g.trans hg) (fun j hj => by
        show hwU3 σ.2.2.2.1 102 0 (5 * 0 + k) _ 102 0 (5 * (0 + 1) + j) = _
        rw [hwU3_k (by omega)]; exact h0 j hj) (fun j hj => by
        show hwU3 σ.2.2.2.1 102 0 (5 * 0 + k) _ 102 0 (5 * 0 + j) = _
        by_cases e : j = k
        · subst e; exact hwU3_eq
        · rw [hwU3_k (by omega)]; exact h1 j (by omega))
      refine ⟨τ, ?_, kd.trans e2, e3⟩
      have e5 : (5 : Int32) + nI k = nI (5 * (0 + 1) + k) := by rw [show (5 : Int32) = nI 5 from rfl, nI_add]
      have ek : (nI k).toNatClampNeg = 5 * 0 + k := by rw [nI_clamp (by omega)]; omega
      rw [F_X12_row_b163.eq_2, rL hw hg, if_neg (nI_ge (by omega) (by omega)), e5, if_neg (out_nI (by omega) (by decide)), if_neg (out_nI (by omega) (by decide)), ek, nI_clamp (by omega), h0 k (by omega), nI_1]
      exact e1
theorem lg_nz {x : Int64} (h : 0 < x) : ¬ lg_cmp x 0 = 0 := fun z => by
  rw [lg_zero] at z
  rw [z] at h
  exact absurd h (by decide)
def sCl (g : Nat → Nat → Int32) (s k : Nat) : Int32 := g 97 (40 * s + k)
def sRw (g : Nat → Nat → Int32) (p s : Nat) : Nat → Nat → Int64
  | 0 => sFirst g p
  | k + 1 => sNext g (k + 1) (sCl g s k) (sRw g p s k)
def sIn2 (v : Int32) : Prop := ¬ v < 0 ∧ ¬ 2 < v
def sRk (g : Nat → Nat → Int32) (p s k : Nat) : Prop := sIn2 (sCl g s k) ∧ 0 < sMuch g (k + 1) (sCl g s k) (sRw g p s k)
noncomputable def sJd (g : Nat → Nat → Int32) (p s : Nat) : Nat → Nat → Int32
  | 0, _ => -1
  | q + 1, k => haveI := Classical.propDecidable (sRk g p s k); if sRk g p s k then sJd g p s q (k + 1) else nI k
noncomputable def sRo (g : Nat → Nat → Int32) (p s : Nat) : Nat → Nat → Int64 → Int64
  | 0, _, a => a
  | q + 1, k, a => haveI := Classical.propDecidable (sRk g p s k); if sRk g p s k then sRo g p s q (k + 1) (a * sMuch g (k + 1) (sCl g s k) (sRw g p s k) / 1000000) else 0
theorem sJd_y {g : Nat → Nat → Int32} {p s q k : Nat} (h : sRk g p s k) : sJd g p s (q + 1) k = sJd g p s q (k + 1) := by
  unfold sJd; rw [if_pos h]; cases q <;> rfl
theorem sJd_n {g : Nat → Nat → Int32} {p s q k : Nat} (h : ¬ sRk g p s k) : sJd g p s (q + 1) k = nI k := by
  unfold sJd; rw [if_neg h]
theorem sRo_y {g : Nat → Nat → Int32} {p s q k : Nat} {a : Int64} (h : sRk g p s k) : sRo g p s (q + 1) k a = sRo g p s q (k + 1) (a * sMuch g (k + 1) (sCl g s k) (sRw g p s k) / 1000000) := by
  unfold sRo; rw [if_pos h]; cases q <;> rfl
theorem sRo_n {g : Nat → Nat → Int32} {p s q k : Nat} {a : Int64} (h : ¬ sRk g p s k) : sRo g p s (q + 1) k a = 0 := by
  unfold sRo; rw [if_neg h]
theorem x_wrong8 (N : Nat) (hN : 160 ≤ N) {g : Nat → Nat → Int32} (hw : Wf g) (p : Nat) (s : Nat) (hs : s < 4) : ∀ (q n k : Nat) (σ : Mem), k + q ≤ 5 → q < n → HX σ g → (∀ j, j < sL g → σ.2.2.2.1 50 (k + 1) j = sRw g p s k j) →
    ∃ τ, F_X6_firstWrong_t69_b8 N n s (nI (k + q)) (nI k) σ = some (sJd g p s q k, τ) ∧ KX σ τ := by
  intro q
  induction q with
  | zero =>
    intro n k σ hk hn h h1
    cases n with
    | zero => cases hn
    | succ n => exact ⟨σ, by rw [F_X6_firstWrong_t69_b8.eq_2, if_pos (nI_le (by omega) (by omega))]; rfl, KX.rfl_ σ⟩
  | succ q ih =>
    intro n k σ hk hn h h1
    cases n with
    | zero => cases hn
    | succ n =>
      rw [F_X6_firstWrong_t69_b8.eq_2, if_neg (nI_ge (by omega) (by omega)), if_neg (geL_n 5 5 rfl (by omega) (by decide)), if_neg (out_nI (by omega) (by decide))]
      simp only [nI_clamp (show k < 2 ^ 31 by omega)]
      rw [h.1.ce s k hs (by omega)]
      show ∃ τ, (F_X11_within N (sCl g s k) 0 2 σ).bind _ = _ ∧ _
      by_cases c : sCl g s k < 0 ∨ 2 < sCl g s k
      · refine ⟨σ, ?_, KX.rfl_ σ⟩
        rw [x_in_n c, Option.bind_some, k00, sJd_n (fun z => c.elim z.1.1 z.1.2)]
      · have c1 : ¬ sCl g s k < 0 := fun z => c (Or.inl z)
        have c2 : ¬ 2 < sCl g s k := fun z => c (Or.inr z)
        rw [x_in_y c1 c2, Option.bind_some, k10, if_neg (out_nI (by omega) (by decide))]
        show ∃ τ, (F_X6_pass N (nI k + 1) (σ.2.2.1 69 s k) σ).bind _ = _ ∧ _
        rw [h.1.ce s k hs (by omega), nI_1]
        obtain ⟨τ1, f1, k1, r1⟩ := x_pass N (by omega) hw (k + 1) (by omega) (by omega) (sCl g s k) (sRw g p s k) σ h h1
        rw [show F_X6_pass N (nI (k + 1)) (g 97 (40 * s + k)) σ = _ from f1, Option.bind_some]
        by_cases hm : 0 < sMuch g (k + 1) (sCl g s k) (sRw g p s k)
        · obtain ⟨τ2, f2, k2⟩ := ih n (k + 1) τ1 (by omega) (by omega) (h.kx k1.x) (r1 hm)
          refine ⟨τ2, ?_, k1.x.trans k2⟩
          rw [sJd_y ⟨⟨c1, c2⟩, hm⟩, if_pos hm]
          show (if lg_cmp (sMuch g (k + 1) (sCl g s k) (sRw g p s k)) 0 = 0 then _ else F_X6_firstWrong_t69_b8 N n s (nI (k + (q + 1))) (nI (k + 1)) τ1) = _
          rw [if_neg (lg_nz hm), ← f2, show k + (q + 1) = k + 1 + q by omega]
        · refine ⟨τ1, ?_, k1.x⟩
          rw [sJd_n (fun z => hm z.2), if_neg hm]
          rfl
theorem x_chance13 (N : Nat) (hN : 160 ≤ N) {g : Nat → Nat → Int32} (hw : Wf g) (p : Nat) (s : Nat) (hs : s < 4) : ∀ (q n k : Nat) (a : Int64) (σ : Mem), k + q ≤ 5 → q < n → HX σ g → (∀ j, j < sL g → σ.2.2.2.1 50 (k + 1) j = sRw g p s k j) →
    ∃ τ, F_X6_chanceOf_t69_b13 N n s (nI (k + q)) a (nI k) σ = some (sRo g p s q k a, τ) ∧ KX σ τ := by
  intro q
  induction q with
  | zero =>
    intro n k a σ hk hn h h1
    cases n with
    | zero => cases hn
    | succ n => exact ⟨σ, by rw [F_X6_chanceOf_t69_b13.eq_2, if_pos (nI_le (by omega) (by omega))]; rfl, KX.rfl_ σ⟩
  | succ q ih =>
    intro n k a σ hk hn h h1
    cases n with
    | zero => cases hn
    | succ n =>
      rw [F_X6_chanceOf_t69_b13.eq_2, if_neg (nI_ge (by omega) (by omega)), if_neg (geL_n 5 5 rfl (by omega) (by decide)), if_neg (out_nI (by omega) (by decide))]
      simp only [nI_clamp (show k < 2 ^ 31 by omega)]
      rw [h.1.ce s k hs (by omega)]
      show ∃ τ, (F_X11_within N (sCl g s k) 0 2 σ).bind _ = _ ∧ _
      by_cases c : sCl g s k < 0 ∨ 2 < sCl g s k
      · refine ⟨σ, ?_, KX.rfl_ σ⟩
        rw [x_in_n c, Option.bind_some, k00, sRo_n (fun z => c.elim z.1.1 z.1.2)]
        rfl
      · have c1 : ¬ sCl g s k < 0 := fun z => c (Or.inl z)
        have c2 : ¬ 2 < sCl g s k := fun z => c (Or.inr z)
        rw [x_in_y c1 c2, Option.bind_some, k10, if_neg (out_nI (by omega) (by decide))]
        show ∃ τ, (F_X6_pass N (nI k + 1) (σ.2.2.1 69 s k) σ).bind _ = _ ∧ _
        rw [h.1.ce s k hs (by omega), nI_1]
        obtain ⟨τ1, f1, k1, r1⟩ := x_pass N (by omega) hw (k + 1) (by omega) (by omega) (sCl g s k) (sRw g p s k) σ h h1
        rw [show F_X6_pass N (nI (k + 1)) (g 97 (40 * s + k)) σ = _ from f1, Option.bind_some]
        by_cases hm : 0 < sMuch g (k + 1) (sCl g s k) (sRw g p s k)
        · obtain ⟨τ2, f2, k2⟩ := ih n (k + 1) (a * sMuch g (k + 1) (sCl g s k) (sRw g p s k) / 1000000) τ1 (by omega) (by omega) (h.kx k1.x) (r1 hm)
          refine ⟨τ2, ?_, k1.x.trans k2⟩
          rw [sRo_y ⟨⟨c1, c2⟩, hm⟩, if_pos hm]
          unfold F_X6_chanceOf_t69_b53
          rw [if_neg (lg_nz hm), ← f2, show k + (q + 1) = k + 1 + q by omega, nI_1]
        · refine ⟨τ1, ?_, k1.x⟩
          rw [sRo_n (fun z => hm z.2), if_neg hm]
          rfl
theorem m_judge60 (N : Nat) (hN : 160 ≤ N) {g : Nat → Nat → Int32} (hw : Wf g) (p : Nat) (s : Nat) (hs : s < 4) (z5 : (g 96 s).toNatClampNeg ≤ 5) : ∀ (q n k : Nat) (σ : Mem), k + q = (g 96 s).toNatClampNeg → q < n → gM σ = g → Bd g (sRw g p s k) → (∀ j, j < sL g → σ.2.2.2.1 102 0 (5 * 0 + j) = sRw g p s k j) →
    ∃ τ, F_X12_judge_b60 N n (nI s) (nI k) σ = some (sJd g p s q k, τ) ∧ KQ σ τ := by
  have hL := sL_le hw
  obtain ⟨ez, -⟩ := hw.sz s hs
  intro q
  induction q with
  | zero =>
    intro n k σ hk hn hg hb h1
    cases n with
    | zero => cases hn
    | succ n =>
      refine ⟨σ, ?_, KQ.rfl_ σ⟩
      rw [F_X12_judge_b60.eq_2, if_neg (out_nI hs (by decide)), nI_clamp (by omega), rA hg (by decide) (by decide), ez, if_pos (nI_le (by omega) (by omega))]
      rfl
  | succ q ih =>
    intro n k σ hk hn hg hb h1
    cases n with
    | zero => cases hn
    | succ n =>
      rw [F_X12_judge_b60.eq_2, if_neg (out_nI hs (by decide)), nI_clamp (by omega), rA hg (by decide) (by decide), ez, if_neg (nI_ge (by omega) (by omega)), ix40, if_neg (out_nI (by omega) (by decide)), nI_clamp (by omega), rA hg (by decide) (by decide)]
      show ∃ τ, (F_X12_in N (sCl g s k) 0 2 σ).bind (fun q4 => if q4.1 = 0 then F_X12_judge_b107 N (F_X12_judge_b60 N n) (nI s) (nI k) 0 q4.2 else (F_X12_dries N (0 : Int32) (nI k + 1) (sCl g s k) q4.2).bind (fun q5 => F_X12_judge_b107 N (F_X12_judge_b60 N n) (nI s) (nI k) q5.1 q5.2)) = _ ∧ _
      by_cases c : sCl g s k < 0 ∨ 2 < sCl g s k
      · refine ⟨σ, ?_, KQ.rfl_ σ⟩
        rw [m_in_n c, Option.bind_some, k00, sJd_n (fun z => c.elim z.1.1 z.1.2)]
        rfl
      · have c1 : ¬ sCl g s k < 0 := fun z => c (Or.inl z)
        have c2 : ¬ 2 < sCl g s k := fun z => c (Or.inr z)
        obtain ⟨τ1, f1, k1, r1⟩ := m_dries N hN hw 0 (k + 1) (by omega) (sCl g s k) (sRw g p s k) σ hg h1
        have g1 := k1.q.g.trans hg
        rw [m_in_y c1 c2, Option.bind_some, k10, nI_1, show F_X12_dries N (0 : Int32) (nI (k + 1)) (sCl g s k) σ = _ from f1, Option.bind_some]
        unfold F_X12_judge_b107
        by_cases hm : 0 < sMuch g (k + 1) (sCl g s k) (sRw g p s k)
        · obtain ⟨τ2, f2, k2, r2⟩ := m_below N (by omega) hw 0 (by omega) (sMuch g (k + 1) (sCl g s k) (sRw g p s k)) hm (sDry g (k + 1) (sCl g s k) (sRw g p s k)) τ1 g1 r1
          have g2 := k2.q.g.trans g1
          obtain ⟨τ3, f3, k3, r3⟩ := m_judge128 N hw (nI s) (nI k) (F_X12_judge_b60 N n) (sRw g p s (k + 1)) (sL g) N 0 τ2 (by omega) (by omega) g2 r2 (fun j hj => by omega)
          obtain ⟨τ4, f4, k4⟩ := ih n (k + 1) τ3 (by omega) (by omega) (k3.q.g.trans g2) (sNext_int hw hb (k + 1) (sCl g s k) hm) r3
          refine ⟨τ4, ?_, ((k1.q.trans k2.q).trans k3.q).trans k4⟩
          rw [if_neg (lg_nz hm), show F_X12_below N (0 : Int32) (sMuch g (k + 1) (sCl g s k) (sRw g p s k)) τ1 = _ from f2, Option.bind_some, show F_X12_judge_b128 N (F_X12_judge_b60 N n) N (nI s) (nI k) (0 : Int32) τ2 = _ from f3, nI_1, sJd_y ⟨⟨c1, c2⟩, hm⟩]
          exact f4
        · refine ⟨τ1, ?_, k1.q⟩
          rw [if_pos (lg_zero.mpr ((sMuch_z hb _ _).mp hm)), sJd_n (fun z => hm z.2)]
theorem m_row83 (N : Nat) (hN : 160 ≤ N) {g : Nat → Nat → Int32} (hw : Wf g) (p : Nat) (s : Nat) (hs : s < 4) (z5 : (g 96 s).toNatClampNeg ≤ 5) : ∀ (q n k : Nat) (a : Int64) (σ : Mem), k + q = (g 96 s).toNatClampNeg → q < n → gM σ = g → Bd g (sRw g p s k) → (∀ j, j < sL g → σ.2.2.2.1 102 0 (5 * 0 + j) = sRw g p s k j) →
    ∃ τ, F_X12_row_b83 N n (nI s) a (nI k) σ = some (sRo g p s q k a, τ) ∧ KQ σ τ := by
  have hL := sL_le hw
  obtain ⟨ez, -⟩ := hw.sz s hs
  intro q
  induction q with
  | zero =>
    intro n k a σ hk hn hg hb h1
    cases n with
    | zero => cases hn
    | succ n =>
      refine ⟨σ, ?_, KQ.rfl_ σ⟩
      rw [F_X12_row_b83.eq_2, if_neg (out_nI hs (by decide)), nI_clamp (by omega), rA hg (by decide) (by decide), ez, if_pos (nI_le (by omega) (by omega))]
      rfl
  | succ q ih =>
    intro n k a σ hk hn hg hb h1
    cases n with
    | zero => cases hn
    | succ n =>
      rw [F_X12_row_b83.eq_2, if_neg (out_nI hs (by decide)), nI_clamp (by omega), rA hg (by decide) (by decide), ez, if_neg (nI_ge (by omega) (by omega)), ix40, if_neg (out_nI (by omega) (by decide)), nI_clamp (by omega), rA hg (by decide) (by decide)]
      show ∃ τ, (F_X12_in N (sCl g s k) 0 2 σ).bind (fun q4 => if q4.1 = 0 then F_X12_row_b133 N (F_X12_row_b83 N n) (nI s) a (nI k) 0 q4.2 else (F_X12_dries N (0 : Int32) (nI k + 1) (sCl g s k) q4.2).bind (fun q5 => F_X12_row_b133 N (F_X12_row_b83 N n) (nI s) a (nI k) q5.1 q5.2)) = _ ∧ _
      by_cases c : sCl g s k < 0 ∨ 2 < sCl g s k
      · refine ⟨σ, ?_, KQ.rfl_ σ⟩
        rw [m_in_n c, Option.bind_some, k00, sRo_n (fun z => c.elim z.1.1 z.1.2)]
        rfl
      · have c1 : ¬ sCl g s k < 0 := fun z => c (Or.inl z)
        have c2 : ¬ 2 < sCl g s k := fun z => c (Or.inr z)
        obtain ⟨τ1, f1, k1, r1⟩ := m_dries N hN hw 0 (k + 1) (by omega) (sCl g s k) (sRw g p s k) σ hg h1
        have g1 := k1.q.g.trans hg
        rw [m_in_y c1 c2, Option.bind_some, k10, nI_1, show F_X12_dries N (0 : Int32) (nI (k + 1)) (sCl g s k) σ = _ from f1, Option.bind_some]
        unfold F_X12_row_b133
        by_cases hm : 0 < sMuch g (k + 1) (sCl g s k) (sRw g p s k)
        · obtain ⟨τ2, f2, k2, r2⟩ := m_below N (by omega) hw 0 (by omega) (sMuch g (k + 1) (sCl g s k) (sRw g p s k)) hm (sDry g (k + 1) (sCl g s k) (sRw g p s k)) τ1 g1 r1
          have g2 := k2.q.g.trans g1
          obtain ⟨τ3, f3, k3, r3⟩ := m_row163 N hw (nI s) (a * sMuch g (k + 1) (sCl g s k) (sRw g p s k) / 1000000) (nI k) (F_X12_row_b83 N n) (sRw g p s (k + 1)) (sL g) N 0 τ2 (by omega) (by omega) g2 r2 (fun j hj => by omega)
          obtain ⟨τ4, f4, k4⟩ := ih n (k + 1) (a * sMuch g (k + 1) (sCl g s k) (sRw g p s k) / 1000000) τ3 (by omega) (by omega) (k3.q.g.trans g2) (sNext_int hw hb (k + 1) (sCl g s k) hm) r3
          refine ⟨τ4, ?_, ((k1.q.trans k2.q).trans k3.q).trans k4⟩
          rw [if_neg (lg_nz hm), show F_X12_below N (0 : Int32) (sMuch g (k + 1) (sCl g s k) (sRw g p s k)) τ1 = _ from f2, Option.bind_some, show F_X12_row_b163 N (F_X12_row_b83 N n) N (nI s) (a * sMuch g (k + 1) (sCl g s k) (sRw g p s k) / 1000000) (nI k) (0 : Int32) τ2 = _ from f3, nI_1, sRo_y ⟨⟨c1, c2⟩, hm⟩]
          exact f4
        · refine ⟨τ1, ?_, k1.q⟩
          rw [if_pos (lg_zero.mpr ((sMuch_z hb _ _).mp hm)), sRo_n (fun z => hm z.2)]
theorem x_misY {N : Nat} {g : Nat → Nat → Int32} {σ : Mem} (h : HX σ g) {s : Nat} (hs : s < 4) (e : g 95 s = -1) : F_X10_isMissing N (nI s) σ = some (1, σ) := by
  unfold F_X10_isMissing
  rw [if_neg (out_nI hs (by decide)), nI_clamp (by omega), h.1.so s hs, e, if_neg (by decide)]
theorem x_misN {N : Nat} {g : Nat → Nat → Int32} {σ : Mem} (hw : Wf g) (h : HX σ g) {s : Nat} (hs : s < 4) (e : ¬ g 95 s = -1) : F_X10_isMissing N (nI s) σ = some (0, σ) := by
  obtain ⟨e2, h2⟩ := (hw.so s hs).resolve_left e
  unfold F_X10_isMissing
  rw [if_neg (out_nI hs (by decide)), nI_clamp (by omega), h.1.so s hs, e2, if_pos (nI_pos' (by omega))]
theorem c_judge (N : Nat) (hN : 160 ≤ N) (a b : Int32) (σ : Mem) (h : Ag σ) : Ac (F_X11_judge N a b) (F_X12_judge N a b) σ := by
  obtain ⟨hx, hw⟩ := h
  have hL := sL_le hw
  have hP := (sPl_eq hw).2
  have hD := sD_eq hw
  rcases rg_c a (c := sPl (gM σ)) (by omega) with ⟨p, hp, rfl⟩ | hq
  rotate_left
  · refine Ac.st (r := Int32.ofInt (-5)) ⟨hx, hw⟩ ?_ ?_
    · unfold F_X11_judge; rw [x_plN hw hx hq, Option.bind_some, k00]
    · unfold F_X12_judge; rw [m_plN hw rfl hq, Option.bind_some, k00]
  rcases rg_c b (c := 4) (by decide) with ⟨s, hs, rfl⟩ | hq
  rotate_left
  · refine Ac.st (r := Int32.ofInt (-2)) ⟨hx, hw⟩ ?_ ?_
    · unfold F_X11_judge; rw [x_plY hw hx hp, Option.bind_some, k10, x_shN hq, Option.bind_some, k00]
    · unfold F_X12_judge; rw [m_plY hw rfl hp, Option.bind_some, k10, m_shN hq, Option.bind_some, k00]
  obtain ⟨ez, hz⟩ := hw.sz s hs
  by_cases c : gM σ 95 s = -1
  · refine Ac.st (r := Int32.ofInt (-11)) ⟨hx, hw⟩ ?_ ?_
    · unfold F_X11_judge; rw [x_plY hw hx hp, Option.bind_some, k10, x_shY hs, Option.bind_some, k10, x_misY hx hs c, Option.bind_some, k10]
    · unfold F_X12_judge; rw [m_plY hw rfl hp, Option.bind_some, k10, m_shY hs, Option.bind_some, k10, if_neg (out_nI hs (by decide))]; simp only [nI_clamp (show s < 2 ^ 31 by omega)]; rw [rA rfl (by decide) (by decide), if_pos (show gM σ 95 s = Int32.ofInt (-1) from c)]
  by_cases cz : (gM σ 96 s).toNatClampNeg ≤ sD (gM σ)
  · obtain ⟨τ0, e0, k0, r0⟩ := x_begin N (by omega) hw p (by omega) σ hx
    obtain ⟨τ1, e1, k1⟩ := x_wrong8 N hN hw p s hs (gM σ 96 s).toNatClampNeg N 0 τ0 (by omega) (by omega) (hx.kx k0.x) r0
    have g1 : gM τ1 = gM σ := k1.g.trans k0.x.g
    obtain ⟨τ2, e2, k2, r2⟩ := m_begins N (by omega) hw p (by omega) 0 (by omega) τ1 g1
    obtain ⟨τ3, e3, k3⟩ := m_judge60 N hN hw p s hs (by omega) (gM σ 96 s).toNatClampNeg N 0 τ2 (by omega) (by omega) (k2.q.g.trans g1) (sFirst_int hw (by omega) (sL_pos hw hp)) r2
    rw [Nat.zero_add] at e1
    generalize (gM σ 96 s).toNatClampNeg = z at ez hz cz e1 e3
    refine Ac.mk (r := sJd (gM σ) p s z 0) (τ1 := τ1) (τ2 := τ3) ⟨hx, hw⟩ ?_ (k0.x.trans k1).y ?_ (k2.q.trans k3).m
    · unfold F_X11_judge
      rw [x_plY hw hx hp, Option.bind_some, k10, x_shY hs, Option.bind_some, k10, x_misN hw hx hs c, Option.bind_some, k00, if_neg (out_nI hs (by decide)), x_deepest N hw σ hx, Option.bind_some]
      simp only [nI_clamp (show s < 2 ^ 31 by omega)]
      rw [hx.1.sz s hs, ez, if_pos (nI_le cz (by omega)), if_neg (out_nI hs (by decide)), if_neg (out_nI hs (by decide))]
      unfold F_X6_firstWrong_t69
      rw [e0, Option.bind_some, show F_X6_firstWrong_t69_b8 N N s (nI z) (0 : Int32) τ0 = _ from e1, Option.bind_some]
    · unfold F_X12_judge
      rw [m_plY hw g1 hp, Option.bind_some, k10, m_shY hs, Option.bind_some, k10, if_neg (out_nI hs (by decide))]
      simp only [nI_clamp (show s < 2 ^ 31 by omega)]
      rw [rA g1 (by decide) (by decide), if_neg (show ¬ gM σ 95 s = Int32.ofInt (-1) from c), if_neg (out_nI hs (by decide)), rA g1 (by decide) (by decide), rF g1 (by decide), ez, hD.1, if_pos (nI_le cz (by omega)), show F_X12_begins N (nI p) (0 : Int32) τ1 = _ from e2, Option.bind_some]
      exact e3
  · refine Ac.st (r := Int32.ofInt (-2)) ⟨hx, hw⟩ ?_ ?_
    · unfold F_X11_judge
      rw [x_plY hw hx hp, Option.bind_some, k10, x_shY hs, Option.bind_some, k10, x_misN hw hx hs c, Option.bind_some, k00, if_neg (out_nI hs (by decide)), x_deepest N hw σ hx, Option.bind_some]
      simp only [nI_clamp (show s < 2 ^ 31 by omega)]
      rw [hx.1.sz s hs, ez, if_neg (nI_ge (by omega) (by omega))]
    · unfold F_X12_judge
      rw [m_plY hw rfl hp, Option.bind_some, k10, m_shY hs, Option.bind_some, k10, if_neg (out_nI hs (by decide))]
      simp only [nI_clamp (show s < 2 ^ 31 by omega)]
      rw [rA rfl (by decide) (by decide), if_neg (show ¬ gM σ 95 s = Int32.ofInt (-1) from c), if_neg (out_nI hs (by decide)), rA rfl (by decide) (by decide), rF rfl (by decide), ez, hD.1, if_neg (nI_ge (by omega) (by omega))]
theorem c_row (N : Nat) (hN : 160 ≤ N) (a b : Int32) (σ : Mem) (h : Ag σ) : Ac (F_X11_row N a b) (F_X12_row N a b) σ := by
  obtain ⟨hx, hw⟩ := h
  have hL := sL_le hw
  have hP := (sPl_eq hw).2
  have hD := sD_eq hw
  rcases rg_c a (c := sPl (gM σ)) (by omega) with ⟨p, hp, rfl⟩ | hq
  rotate_left
  · refine Ac.st (r := Int64.ofInt (-4611686018427387904)) ⟨hx, hw⟩ ?_ ?_
    · unfold F_X11_row; rw [x_plN hw hx hq, Option.bind_some, k00]
    · unfold F_X12_row; rw [m_plN hw rfl hq, Option.bind_some, k00]
  rcases rg_c b (c := 4) (by decide) with ⟨s, hs, rfl⟩ | hq
  rotate_left
  · refine Ac.st (r := Int64.ofInt (-4611686018427387904)) ⟨hx, hw⟩ ?_ ?_
    · unfold F_X11_row; rw [x_plY hw hx hp, Option.bind_some, k10, x_shN hq, Option.bind_some, k00]
    · unfold F_X12_row; rw [m_plY hw rfl hp, Option.bind_some, k10, m_shN hq, Option.bind_some, k00]
  obtain ⟨ez, hz⟩ := hw.sz s hs
  have gm : ∀ τ, gM τ = gM σ → F_X12_row N (nI p) (nI s) τ = (if gM σ 95 s = Int32.ofInt (-1) then some ((Int64.ofInt (-4611686018427387904)), τ) else if gM σ 96 s ≤ gM σ 12 0 then (F_X12_begins N (nI p) (0 : Int32) τ).bind (fun q5 => (F_X12_row_b83 N N) (nI s) (1000000 : Int64) (0 : Int32) q5.2) else some ((Int64.ofInt (-4611686018427387904)), τ)) := by
    intro τ gτ
    unfold F_X12_row
    rw [m_plY hw gτ hp, Option.bind_some, k10, m_shY hs, Option.bind_some, k10, m_shY hs, Option.bind_some, k10]
    unfold F_X12_row_b35
    rw [if_neg (out_nI hs (by decide)), nI_clamp (by omega), rA gτ (by decide) (by decide), m_shY hs, Option.bind_some, k10]
    unfold F_X12_row_b58
    rw [if_neg (out_nI hs (by decide)), nI_clamp (by omega)]
    show (if gM σ 95 s = Int32.ofInt (-1) then _ else if τ.2.2.1 96 0 s ≤ τ.1 12 0 then _ else _) = _
    rw [rA gτ (by decide) (by decide), rF gτ (by decide)]
  by_cases c : gM σ 95 s = -1
  · refine Ac.st (r := Int64.ofInt (-4611686018427387904)) ⟨hx, hw⟩ ?_ ?_
    · unfold F_X11_row; rw [x_plY hw hx hp, Option.bind_some, k10, x_shY hs, Option.bind_some, k10, x_misY hx hs c, Option.bind_some, k10]
    · rw [gm σ rfl, if_pos (show gM σ 95 s = Int32.ofInt (-1) from c)]
  by_cases cz : (gM σ 96 s).toNatClampNeg ≤ sD (gM σ)
  · obtain ⟨τ0, e0, k0, r0⟩ := x_begin N (by omega) hw p (by omega) σ hx
    obtain ⟨τ1, e1, k1⟩ := x_chance13 N hN hw p s hs (gM σ 96 s).toNatClampNeg N 0 1000000 τ0 (by omega) (by omega) (hx.kx k0.x) r0
    have g1 : gM τ1 = gM σ := k1.g.trans k0.x.g
    obtain ⟨τ2, e2, k2, r2⟩ := m_begins N (by omega) hw p (by omega) 0 (by omega) τ1 g1
    obtain ⟨τ3, e3, k3⟩ := m_row83 N hN hw p s hs (by omega) (gM σ 96 s).toNatClampNeg N 0 1000000 τ2 (by omega) (by omega) (k2.q.g.trans g1) (sFirst_int hw (by omega) (sL_pos hw hp)) r2
    rw [Nat.zero_add] at e1
    generalize (gM σ 96 s).toNatClampNeg = z at ez hz cz e1 e3
    refine Ac.mk (r := sRo (gM σ) p s z 0 1000000) (τ1 := τ1) (τ2 := τ3) ⟨hx, hw⟩ ?_ (k0.x.trans k1).y ?_ (k2.q.trans k3).m
    · unfold F_X11_row
      rw [x_plY hw hx hp, Option.bind_some, k10, x_shY hs, Option.bind_some, k10, x_misN hw hx hs c, Option.bind_some, k00, if_neg (out_nI hs (by decide)), x_deepest N hw σ hx, Option.bind_some]
      simp only [nI_clamp (show s < 2 ^ 31 by omega)]
      rw [hx.1.sz s hs, ez, if_pos (nI_le cz (by omega)), if_neg (out_nI hs (by decide)), if_neg (out_nI hs (by decide))]
      unfold F_X6_chanceOf_t69
      rw [e0, Option.bind_some, show F_X6_chanceOf_t69_b13 N N s (nI z) (1000000 : Int64) (0 : Int32) τ0 = _ from e1, Option.bind_some]
    · rw [gm τ1 g1, if_neg (show ¬ gM σ 95 s = Int32.ofInt (-1) from c), ez, hD.1, if_pos (nI_le cz (by omega)), show F_X12_begins N (nI p) (0 : Int32) τ1 = _ from e2, Option.bind_some]
      exact e3
  · refine Ac.st (r := Int64.ofInt (-4611686018427387904)) ⟨hx, hw⟩ ?_ ?_
    · unfold F_X11_row
      rw [x_plY hw hx hp, Option.bind_some, k10, x_shY hs, Option.bind_some, k10, x_misN hw hx hs c, Option.bind_some, k00, if_neg (out_nI hs (by decide)), x_deepest N hw σ hx, Option.bind_some]
      simp only [nI_clamp (show s < 2 ^ 31 by omega)]
      rw [hx.1.sz s hs, ez, if_neg (nI_ge (by omega) (by omega))]
    · rw [gm σ rfl, if_neg (show ¬ gM σ 95 s = Int32.ofInt (-1) from c), ez, hD.1, if_neg (nI_ge (by omega) (by omega))]

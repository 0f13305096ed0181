/-! THE PURE SIDE, 36: an image brought back -/
def s75 (Y : Nat → Nat → Int32) (il : Nat) : Nat → Nat → Nat → Int32
  | 0 => Y
  | k + 1 => if k / 5 < il ∧ k % 5 < il then hwU2 (s75 Y il k) 75 k (Y 90 k) else s75 Y il k
theorem s75_t {Y : Nat → Nat → Int32} {il a : Nat} (h : a ≠ 75) : ∀ k, s75 Y il k a = Y a
  | 0 => rfl
  | k + 1 => by
    rw [s75]
    by_cases c : k / 5 < il ∧ k % 5 < il
    · rw [if_pos c, u2_t h, s75_t h k]
    · rw [if_neg c, s75_t h k]
theorem s75_no {Y : Nat → Nat → Int32} {il k : Nat} (h : il ≤ k / 5 ∨ il ≤ k % 5) : s75 Y il (k + 1) = s75 Y il k := by
  rw [s75, if_neg (fun q => by omega)]
theorem s75_row {Y : Nat → Nat → Int32} {il i : Nat} : ∀ d, il + d ≤ 5 → s75 Y il (5 * i + (il + d)) = s75 Y il (5 * i + il)
  | 0, _ => rfl
  | d + 1, h => by
    rw [show 5 * i + (il + (d + 1)) = (5 * i + (il + d)) + 1 by omega, s75_no (Or.inr (by omega)), s75_row d (by omega)]
theorem s75_end {Y : Nat → Nat → Int32} {il : Nat} : ∀ d, s75 Y il (5 * il + d) = s75 Y il (5 * il)
  | 0 => rfl
  | d + 1 => by
    rw [show 5 * il + (d + 1) = (5 * il + d) + 1 by omega, s75_no (Or.inl (by omega)), s75_end d]
def sUp1 (Z : Nat → Nat → Int32) (w p : Nat) : Nat → Nat → Int32 := sRg (sRg (hwU2 (hwU2 Z 77 p (Z 91 p)) 78 p (Z 92 p)) 79 (5 * p) 5 (Z 93)) 80 (4 * p) w (Z 94)
def sUp (Y : Nat → Nat → Int32) (w : Nat) : Nat → Nat → Nat → Int32
  | 0 => Y
  | p + 1 => sUp1 (sUp Y w p) w p
theorem sUp_t {Y : Nat → Nat → Int32} {w a : Nat} (h : a < 77 ∨ 80 < a) : ∀ p, sUp Y w p a = Y a
  | 0 => rfl
  | p + 1 => by
    rw [sUp]
    unfold sUp1
    rw [sRg_t (by omega), sRg_t (by omega), u2_t (by omega), u2_t (by omega), sUp_t h p]
theorem sRg_u2 {g : Nat → Nat → Int32} {t lo n a k : Nat} {f : Nat → Int32} {v : Int32} (h : a ≠ t) : hwU2 (sRg g t lo n f) a k v = sRg (hwU2 g a k v) t lo n f := by
  funext b c
  rw [hwU2_get]
  unfold sRg
  by_cases e : b = a ∧ c = k
  · rw [if_pos e, if_neg (fun q => h (e.1.symm.trans q.1)), hwU2_get, if_pos e]
  · rw [if_neg e]
    by_cases d : b = t ∧ lo ≤ c ∧ c < lo + n
    · rw [if_pos d, if_pos d]
    · rw [if_neg d, if_neg d, hwU2_get, if_neg e]
theorem sUp1_x {Z : Nat → Nat → Int32} {w p : Nat} : hwU2 (hwU2 (sRg (sRg Z 79 (5 * p) 5 (Z 93)) 80 (4 * p) w (Z 94)) 77 p (Z 91 p)) 78 p (Z 92 p) = sUp1 Z w p := by
  unfold sUp1
  rw [sRg_u2 (by decide), sRg_u2 (by decide), sRg_u2 (by decide), sRg_u2 (by decide)]
/-! the reference -/
theorem m_un_b20 (N : Nat) (Y : Nat → Nat → Int32) : ∀ (q n k : Nat) (σ : Mem), k + q = 5 → q < n → gM σ = sRg Y 12 0 k (Y 89) →
    ∃ τ, F_X12_undo_b20 N n (nI k) σ = F_X12_undo_b44 N N 0 τ ∧ KR σ τ ∧ gM τ = sRg Y 12 0 5 (Y 89) := by
  intro q
  induction q with
  | zero =>
    intro n k σ hk hn h
    cases n with
    | zero => cases hn
    | succ n =>
      have e : k = 5 := by omega
      subst e
      exact ⟨σ, by rw [F_X12_undo_b20.eq_2, if_pos (show (5 : Int32) ≤ nI 5 by decide)], KR.rfl_ σ, h⟩
  | succ q ih =>
    intro n k σ hk hn h
    cases n with
    | zero => cases hn
    | succ n =>
      have e := sRg_s (g := Y) (t := 12) (lo := 0) (n := k) (f := Y 89)
      rw [Nat.zero_add] at e
      obtain ⟨τ, e1, k1, h1⟩ := ih n (k + 1) (hwU2 σ.1 12 k (Y 89 k), σ.2.1, σ.2.2.1, σ.2.2.2.1, σ.2.2.2.2) (by omega) (by omega) (by
        rw [gM_u2 (by omega), ← e]
        exact congrArg (fun q => hwU2 q 12 k (Y 89 k)) h)
      refine ⟨τ, ?_, KR.i.trans k1, h1⟩
      rw [F_X12_undo_b20.eq_2, if_neg (geL_n 5 5 rfl (by omega) (by decide)), if_neg (out_nI (by omega) (by decide)), nI_clamp (by omega), m_holds N k (by omega), Option.bind_some, nI_1, rA h (by decide) (by decide), sRg_t (by decide)]
      exact e1
theorem d25 : ∀ k, k < 25 → nI k / 5 = nI (k / 5) ∧ nI k - nI k / 5 * 5 = nI (k % 5) := by decide
theorem m_un_b44 (N : Nat) (Y : Nat → Nat → Int32) (il : Nat) (hil : il ≤ 5) (eil : Y 12 34 = nI il) : ∀ (q n k : Nat) (σ : Mem), k + q = 25 → q < n → gM σ = s75 Y il k →
    ∃ τ, F_X12_undo_b44 N n (nI k) σ = F_X12_undo_b99 N N 0 τ ∧ KR σ τ ∧ gM τ = s75 Y il 25 := by
  intro q
  induction q with
  | zero =>
    intro n k σ hk hn h
    cases n with
    | zero => cases hn
    | succ n =>
      have e : k = 25 := by omega
      subst e
      exact ⟨σ, by rw [F_X12_undo_b44.eq_2, if_pos (show (25 : Int32) ≤ nI 25 by decide)], KR.rfl_ σ, h⟩
  | succ q ih =>
    intro n k σ hk hn h
    cases n with
    | zero => cases hn
    | succ n =>
      obtain ⟨d1, d2⟩ := d25 k (by omega)
      have same : ∀ c : il ≤ k / 5 ∨ il ≤ k % 5, ∃ τ, F_X12_undo_b84 N (F_X12_undo_b90 N (F_X12_undo_b44 N n)) (nI k) (nI k) σ = F_X12_undo_b99 N N 0 τ ∧ KR σ τ ∧ gM τ = s75 Y il 25 := by
        intro c
        obtain ⟨τ, e1, k1, h1⟩ := ih n (k + 1) (σ.1, σ.2.1, hwU3 σ.2.2.1 75 0 k (s75 Y il k 75 k), σ.2.2.2.1, σ.2.2.2.2) (by omega) (by omega) (by
          rw [gM_u3 (by decide) (by decide), s75_no c]
          show hwU2 (gM σ) 75 k _ = _
          rw [h]
          exact u2_same rfl)
        refine ⟨τ, ?_, (KR.w (show 72 ≤ 75 by decide)).trans k1, h1⟩
        unfold F_X12_undo_b84 F_X12_undo_b90
        rw [if_neg (out_nI (by omega) (by decide)), if_neg (out_nI (by omega) (by decide)), nI_1, nI_clamp (by omega), rA h (by decide) (by decide)]
        exact e1
      rw [F_X12_undo_b44.eq_2, if_neg (geL_n 25 25 rfl (by omega) (by decide)), rF h (by decide), s75_t (by decide), eil, d2, d1]
      by_cases c1 : il ≤ k / 5
      · rw [if_pos (nI_le c1 (by omega))]; exact same (Or.inl c1)
      rw [if_neg (nI_ge (by omega) (by omega))]
      by_cases c2 : il ≤ k % 5
      · rw [if_pos (nI_le c2 (by omega))]; exact same (Or.inr c2)
      rw [if_neg (nI_ge (by omega) (by omega)), if_neg (out_nI (by omega) (by decide))]
      obtain ⟨τ, e1, k1, h1⟩ := ih n (k + 1) (σ.1, σ.2.1, hwU3 σ.2.2.1 75 0 k (Y 90 k), σ.2.2.2.1, σ.2.2.2.2) (by omega) (by omega) (by
        rw [gM_u3 (by decide) (by decide), s75, if_pos ⟨by omega, by omega⟩]
        exact congrArg (fun q => hwU2 q 75 k (Y 90 k)) h)
      refine ⟨τ, ?_, (KR.w (show 72 ≤ 75 by decide)).trans k1, h1⟩
      unfold F_X12_undo_b90
      rw [if_neg (out_nI (by omega) (by decide)), nI_1, nI_clamp (by omega), rA h (by decide) (by decide), s75_t (by decide)]
      exact e1
theorem m_un_b166 (N : Nat) (kk : Int32 → Mem → Option (Int32 × Mem)) (W : Nat → Nat → Int32) (w p : Nat) (hp : p < 4) (hw : w ≤ 4) (ew : W 12 30 = nI w) : ∀ (q n k : Nat) (σ : Mem), k + q = w → q < n → gM σ = sRg W 80 (4 * p) k (W 94) →
    ∃ τ, F_X12_undo_b166 N kk n (nI p) (nI k) σ = kk (nI (p + 1)) τ ∧ KR σ τ ∧ gM τ = sRg W 80 (4 * p) w (W 94) := by
  intro q
  induction q with
  | zero =>
    intro n k σ hk hn h
    cases n with
    | zero => cases hn
    | succ n =>
      have e : k = w := by omega
      subst e
      exact ⟨σ, by rw [F_X12_undo_b166.eq_2, rF h (by decide), sRg_t (by decide), ew, if_pos (nI_le (Nat.le_refl _) (by omega)), nI_1], KR.rfl_ σ, h⟩
  | succ q ih =>
    intro n k σ hk hn h
    cases n with
    | zero => cases hn
    | succ n =>
      obtain ⟨τ, e1, k1, h1⟩ := ih n (k + 1) (σ.1, σ.2.1, hwU3 σ.2.2.1 80 0 (4 * p + k) (W 94 (4 * p + k)), σ.2.2.2.1, σ.2.2.2.2) (by omega) (by omega) (by
        rw [gM_u3 (by decide) (by decide), ← sRg_s]
        exact congrArg (fun q => hwU2 q 80 (4 * p + k) (W 94 (4 * p + k))) h)
      refine ⟨τ, ?_, (KR.w (show 72 ≤ 80 by decide)).trans k1, h1⟩
      rw [F_X12_undo_b166.eq_2, rF h (by decide), sRg_t (by decide), ew, if_neg (nI_ge (by omega) (by omega)), ix4, if_neg (out_nI (by omega) (by decide)), if_neg (out_nI (by omega) (by decide)), nI_1, nI_clamp (by omega), rA h (by decide) (by decide), sRg_t (by decide)]
      exact e1
theorem m_un_b133 (N : Nat) (kk : Int32 → Mem → Option (Int32 × Mem)) (W : Nat → Nat → Int32) (p : Nat) (hp : p < 4) : ∀ (q n k : Nat) (σ : Mem), k + q = 5 → q < n → gM σ = sRg W 79 (5 * p) k (W 93) →
    ∃ τ, F_X12_undo_b133 N kk n (nI p) (nI k) σ = F_X12_undo_b166 N kk N (nI p) 0 τ ∧ KR σ τ ∧ gM τ = sRg W 79 (5 * p) 5 (W 93) := by
  intro q
  induction q with
  | zero =>
    intro n k σ hk hn h
    cases n with
    | zero => cases hn
    | succ n =>
      have e : k = 5 := by omega
      subst e
      exact ⟨σ, by rw [F_X12_undo_b133.eq_2, if_pos (show (5 : Int32) ≤ nI 5 by decide)], KR.rfl_ σ, h⟩
  | succ q ih =>
    intro n k σ hk hn h
    cases n with
    | zero => cases hn
    | succ n =>
      obtain ⟨τ, e1, k1, h1⟩ := ih n (k + 1) (σ.1, σ.2.1, hwU3 σ.2.2.1 79 0 (5 * p + k) (W 93 (5 * p + k)), σ.2.2.2.1, σ.2.2.2.2) (by omega) (by omega) (by
        rw [gM_u3 (by decide) (by decide), ← sRg_s]
        exact congrArg (fun q => hwU2 q 79 (5 * p + k) (W 93 (5 * p + k))) h)
      refine ⟨τ, ?_, (KR.w (show 72 ≤ 79 by decide)).trans k1, h1⟩
      rw [F_X12_undo_b133.eq_2, if_neg (geL_n 5 5 rfl (by omega) (by decide)), ix5, if_neg (out_nI (by omega) (by decide)), if_neg (out_nI (by omega) (by decide)), nI_1, nI_clamp (by omega), rA h (by decide) (by decide), sRg_t (by decide)]
      exact e1
theorem m_un_b99 (N : Nat) (hN : 160 ≤ N) (Y : Nat → Nat → Int32) (w : Nat) (hw : w ≤ 4) (ew : Y 12 30 = nI w) : ∀ (q n p : Nat) (σ : Mem), p + q = w → q < n → gM σ = sUp Y w p →
    ∃ τ, F_X12_undo_b99 N n (nI p) σ = some (Y 12 10, τ) ∧ KR σ τ ∧ gM τ = sUp Y w w := by
  intro q
  induction q with
  | zero =>
    intro n p σ hp hn h
    cases n with
    | zero => cases hn
    | succ n =>
      have e : p = w := by omega
      subst e
      refine ⟨σ, ?_, KR.rfl_ σ, h⟩
      rw [F_X12_undo_b99.eq_2, rF h (by decide), sUp_t (by decide), ew, if_pos (nI_le (Nat.le_refl _) (by omega)), rF h (by decide), sUp_t (by decide)]
  | succ q ih =>
    intro n p σ hp hn h
    cases n with
    | zero => cases hn
    | succ n =>
      have k0 : KR σ (σ.1, σ.2.1, hwU3 (hwU3 σ.2.2.1 77 0 p (sUp Y w p 91 p)) 78 0 p (sUp Y w p 92 p), σ.2.2.2.1, σ.2.2.2.2) := KR.trans (KR.w (show 72 ≤ 77 by decide)) (KR.w (show 72 ≤ 78 by decide))
      have h0 : gM (σ.1, σ.2.1, hwU3 (hwU3 σ.2.2.1 77 0 p (sUp Y w p 91 p)) 78 0 p (sUp Y w p 92 p), σ.2.2.2.1, σ.2.2.2.2) = hwU2 (hwU2 (sUp Y w p) 77 p (sUp Y w p 91 p)) 78 p (sUp Y w p 92 p) := by
        rw [gM_u3 (by decide) (by decide), gM_u3 (by decide) (by decide)]
        exact congrArg (fun q => hwU2 (hwU2 q 77 p (sUp Y w p 91 p)) 78 p (sUp Y w p 92 p)) h
      generalize eW : hwU2 (hwU2 (sUp Y w p) 77 p (sUp Y w p 91 p)) 78 p (sUp Y w p 92 p) = W at h0
      have e93 : W 93 = sUp Y w p 93 := by rw [← eW, u2_t (by decide), u2_t (by decide)]
      have e94 : W 94 = sUp Y w p 94 := by rw [← eW, u2_t (by decide), u2_t (by decide)]
      have e12 : W 12 = Y 12 := by rw [← eW, u2_t (by decide), u2_t (by decide), sUp_t (by decide)]
      obtain ⟨τ1, f1, k1, h1⟩ := m_un_b133 N (F_X12_undo_b99 N n) W p (by omega) 5 N 0 _ (by omega) (by omega) (show gM _ = sRg W 79 (5 * p) 0 (W 93) by rw [sRg_0]; exact h0)
      obtain ⟨τ2, f2, k2, h2⟩ := m_un_b166 N (F_X12_undo_b99 N n) (sRg W 79 (5 * p) 5 (W 93)) w p (by omega) hw (by rw [sRg_t (by decide), e12]; exact ew) w N 0 τ1 (by omega) (by omega) (by rw [sRg_0]; exact h1)
      obtain ⟨τ, f3, k3, h3⟩ := ih n (p + 1) τ2 (by omega) (by omega) (by
        rw [h2, sUp]
        unfold sUp1
        rw [eW, sRg_t (by decide), e93, e94])
      refine ⟨τ, ?_, ((k0.trans k1).trans k2).trans k3, h3⟩
      rw [F_X12_undo_b99.eq_2, rF h (by decide), sUp_t (by decide), ew, if_neg (nI_ge (by omega) (by omega)), if_neg (out_nI (by omega) (by decide)), if_neg (out_nI (by omega) (by decide)), if_neg (out_nI (by omega) (by decide)), if_neg (out_nI (by omega) (by decide)), nI_clamp (by omega), rA h (by decide) (by decide), rA h (by decide) (by decide)]
      exact f1.trans (f2.trans f3)
/-! the class -/
def KU2 (σ τ : Mem) : Prop := τ.1 = σ.1 ∧ (∀ t, t < 26 ∨ (28 < t ∧ t < 57) ∨ 61 < t → τ.2.2.1 t = σ.2.2.1 t) ∧ τ.2.2.2 = σ.2.2.2
theorem KU2.rfl_ (σ : Mem) : KU2 σ σ := ⟨rfl, fun _ _ => rfl, rfl⟩
theorem KU2.trans {σ τ υ : Mem} (h : KU2 σ τ) (k : KU2 τ υ) : KU2 σ υ := ⟨k.1.trans h.1, fun t a => (k.2.1 t a).trans (h.2.1 t a), k.2.2.trans h.2.2⟩
theorem KU2.w {σ : Mem} {t r k : Nat} {v : Int32} (h : (26 ≤ t ∧ t ≤ 28) ∨ (57 ≤ t ∧ t ≤ 61)) : KU2 σ (σ.1, σ.2.1, hwU3 σ.2.2.1 t r k v, σ.2.2.2.1, σ.2.2.2.2) := ⟨rfl, fun a ha => hwU3_t (by omega), rfl⟩
theorem KU2.r {σ : Mem} {t r : Nat} {u : Nat → Int32} (h : (26 ≤ t ∧ t ≤ 28) ∨ (57 ≤ t ∧ t ≤ 61)) : KU2 σ (σ.1, σ.2.1, hwR3 σ.2.2.1 t r u, σ.2.2.2.1, σ.2.2.2.2) := ⟨rfl, fun a ha => hwR3_t (by omega), rfl⟩
theorem x_un_b29 (N : Nat) (A : Nat → Nat → Int32) (kk : Int32 → Mem → Option (Unit × Mem)) (Y : Nat → Nat → Int32) (il i : Nat) (hil : il ≤ 5) (hi : i < il) : ∀ (q n j : Nat) (σ : Mem), j + q = il → q < n → σ.1 11 8 = nI il → HX0 (A, σ.2.1, σ.2.2.1, σ.2.2.2.1, σ.2.2.2.2) (s75 Y il (5 * i + j)) →
    ∃ τ, F_X3_restore_b29 N kk n (nI i) (nI j) σ = kk (nI (i + 1)) τ ∧ HX0 (A, τ.2.1, τ.2.2.1, τ.2.2.2.1, τ.2.2.2.2) (s75 Y il (5 * i + il)) ∧ KU2 σ τ := by
  intro q
  induction q with
  | zero =>
    intro n j σ hj hn e8 h
    cases n with
    | zero => cases hn
    | succ n =>
      have e : j = il := by omega
      subst e
      exact ⟨σ, by rw [F_X3_restore_b29.eq_2, e8, if_pos (nI_le (Nat.le_refl _) (by omega)), nI_1], h, KU2.rfl_ σ⟩
  | succ q ih =>
    intro n j σ hj hn e8 h
    cases n with
    | zero => cases hn
    | succ n =>
      have ev : σ.2.2.1 31 i j = Y 90 (5 * i + j) := by
        rw [show σ.2.2.1 31 i j = _ from h.if_ i j (by omega) (by omega), s75_t (by decide)]
      have h2 := h.u_fo i j (by omega) (by omega) (Y 90 (5 * i + j))
      have e7 : hwU2 (s75 Y il (5 * i + j)) 75 (5 * i + j) (Y 90 (5 * i + j)) = s75 Y il (5 * i + (j + 1)) := by
        rw [show 5 * i + (j + 1) = (5 * i + j) + 1 by omega, s75, if_pos ⟨by omega, by omega⟩]
      rw [e7] at h2
      obtain ⟨τ, e1, h3, k⟩ := ih n (j + 1) (σ.1, σ.2.1, hwU3 (hwU3 σ.2.2.1 26 i j (Y 90 (5 * i + j))) 27 0 i (σ.2.2.1 27 0 i + (Y 90 (5 * i + j) - σ.2.2.1 26 i j)), σ.2.2.2.1, σ.2.2.2.2) (by omega) (by omega) e8 h2
      refine ⟨τ, ?_, h3, (KU2.trans (KU2.w (t := 26) (Or.inl (by decide))) (KU2.w (t := 27) (Or.inl (by decide)))).trans k⟩
      rw [F_X3_restore_b29.eq_2, e8, if_neg (nI_ge (by omega) (by omega)), if_neg (out_nI (by omega) (by decide)), if_neg (out_nI (by omega) (by decide))]
      simp only [nI_clamp (show i < 2 ^ 31 by omega), nI_clamp (show j < 2 ^ 31 by omega)]
      rw [ev]
      unfold F_X2_reweigh
      rw [if_neg (out_nI (by omega) (by decide)), if_neg (out_nI (by omega) (by decide)), if_neg (out_nI (by omega) (by decide)), if_neg (out_nI (by omega) (by decide)), if_neg (out_nI (by omega) (by decide)), if_neg (out_nI (by omega) (by decide)), Option.bind_some, nI_1]
      simp only [nI_clamp (show i < 2 ^ 31 by omega), nI_clamp (show j < 2 ^ 31 by omega)]
      exact e1
theorem x_un_b19 (N : Nat) (hN : 160 ≤ N) (A : Nat → Nat → Int32) (Y : Nat → Nat → Int32) (il : Nat) (hil : il ≤ 5) : ∀ (q n i : Nat) (σ : Mem), i + q = il → q < n → σ.1 11 8 = nI il → HX0 (A, σ.2.1, σ.2.2.1, σ.2.2.2.1, σ.2.2.2.2) (s75 Y il (5 * i)) →
    ∃ τ, F_X3_restore_b19 N n (nI i) σ = F_X3_restore_b69 N N 0 τ ∧ HX0 (A, τ.2.1, τ.2.2.1, τ.2.2.2.1, τ.2.2.2.2) (s75 Y il 25) ∧ KU2 σ τ := by
  intro q
  induction q with
  | zero =>
    intro n i σ hi hn e8 h
    cases n with
    | zero => cases hn
    | succ n =>
      have e : i = il := by omega
      subst e
      refine ⟨σ, by rw [F_X3_restore_b19.eq_2, e8, if_pos (nI_le (Nat.le_refl _) (by omega))], ?_, KU2.rfl_ σ⟩
      rw [show 25 = 5 * i + (25 - 5 * i) by omega, s75_end]
      exact h
  | succ q ih =>
    intro n i σ hi hn e8 h
    cases n with
    | zero => cases hn
    | succ n =>
      obtain ⟨τ1, e1, h1, k1⟩ := x_un_b29 N A (F_X3_restore_b19 N n) Y il i hil (by omega) il N 0 σ (by omega) (by omega) e8 h
      rw [← s75_row (5 - il) (by omega), show 5 * i + (il + (5 - il)) = 5 * (i + 1) by omega] at h1
      obtain ⟨τ2, e2, h2, k2⟩ := ih n (i + 1) τ1 (by omega) (by omega) (by rw [k1.1]; exact e8) h1
      refine ⟨τ2, ?_, h2, k1.trans k2⟩
      rw [F_X3_restore_b19.eq_2, e8, if_neg (nI_ge (by omega) (by omega))]
      exact e1.trans e2
theorem x_un_b69 (N : Nat) (A : Nat → Nat → Int32) (Y : Nat → Nat → Int32) (w : Nat) (hw : w ≤ 4) (hY : ∀ k, k < 4 → isN (Y 92 k) 1) : ∀ (q n p : Nat) (σ : Mem), p + q = w → q < n → σ.1 11 9 = nI w → HX0 (A, σ.2.1, σ.2.2.1, σ.2.2.2.1, σ.2.2.2.2) (sUp Y w p) →
    ∃ τ, F_X3_restore_b69 N n (nI p) σ = some ((), τ) ∧ HX0 (A, τ.2.1, τ.2.2.1, τ.2.2.2.1, τ.2.2.2.2) (sUp Y w w) ∧ KU2 σ τ := by
  intro q
  induction q with
  | zero =>
    intro n p σ hp hn e9 h
    cases n with
    | zero => cases hn
    | succ n =>
      have e : p = w := by omega
      subst e
      exact ⟨σ, by rw [F_X3_restore_b69.eq_2, e9, if_pos (nI_le (Nat.le_refl _) (by omega))], h, KU2.rfl_ σ⟩
  | succ q ih =>
    intro n p σ hp hn e9 h
    cases n with
    | zero => cases hn
    | succ n =>
      have e34 : σ.2.2.1 34 0 p = sUp Y w p 91 p := h.id_ p (by omega)
      have e35 : σ.2.2.1 35 0 p = sUp Y w p 92 p := h.iw p (by omega)
      have h1 := h.r_sg p 5 (by decide) (va_cpy (σ.2.2.1 33 p) (σ.2.2.1 57 p) 0 0 5) (sUp Y w p 93) (fun j hj => by rw [va_j hj]; exact h.ig p j (by omega) hj) (fun j h1 h2 => by omega)
      have h2 := h1.r_ti p w hw (va_cpy (hwR3 σ.2.2.1 57 p (va_cpy (σ.2.2.1 33 p) (σ.2.2.1 57 p) 0 0 5) 37 p) (hwR3 σ.2.2.1 57 p (va_cpy (σ.2.2.1 33 p) (σ.2.2.1 57 p) 0 0 5) 61 p) 0 0 w) (sUp Y w p 94) (fun j hj => by rw [va_j hj, hwR3_t (by decide)]; exact h.it p j (by omega) (by omega)) (fun j h1 h2 => by rw [va_o h1])
      have h3 := (h2.u_dy p (sUp Y w p 91 p)).u_wa p (sUp Y w p 92 p)
      rw [sUp1_x] at h3
      obtain ⟨τ, e1, h4, k⟩ := ih n (p + 1) (σ.1, σ.2.1, hwU3 (hwU3 (hwR3 (hwR3 σ.2.2.1 57 p (va_cpy (σ.2.2.1 33 p) (σ.2.2.1 57 p) 0 0 5)) 61 p (va_cpy (hwR3 σ.2.2.1 57 p (va_cpy (σ.2.2.1 33 p) (σ.2.2.1 57 p) 0 0 5) 37 p) (hwR3 σ.2.2.1 57 p (va_cpy (σ.2.2.1 33 p) (σ.2.2.1 57 p) 0 0 5) 61 p) 0 0 w)) 58 0 p (sUp Y w p 91 p)) 59 0 p (sUp Y w p 92 p), σ.2.2.2.1, σ.2.2.2.2) (by omega) (by omega) e9 h3
      refine ⟨τ, ?_, h4, (KU2.trans (KU2.trans (KU2.trans (KU2.r (t := 57) (Or.inr (by decide))) (KU2.r (t := 61) (Or.inr (by decide)))) (KU2.w (t := 58) (Or.inr (by decide)))) (KU2.w (t := 59) (Or.inr (by decide)))).trans k⟩
      rw [F_X3_restore_b69.eq_2, e9, if_neg (nI_ge (by omega) (by omega)), if_neg (out_nI (by omega) (by decide)), if_neg (out_nI (by omega) (by decide)), if_neg (out_nI (by omega) (by decide)), if_neg (out_nI (by omega) (by decide))]
      simp only [nI_clamp (show p < 2 ^ 31 by omega), nI_clamp (show w < 2 ^ 31 by omega)]
      rw [if_neg (fun q => by
        rcases q with q | q | q | q | q
        · exact absurd q (by decide)
        · exact absurd q (by decide)
        · exact nI_nz (by omega) q
        · omega
        · omega), if_neg (out_nI (by omega) (by decide)), if_neg (out_nI (by omega) (by decide)), if_neg (out_nI (by omega) (by decide)), if_neg (out_nI (by omega) (by decide)), e34, e35, nar_b (by rw [sUp_t (by decide)]; exact hY p (by omega)), nI_1]
      exact e1
theorem Wf.s75 {Y : Nat → Nat → Int32} (h : Wf Y) {il : Nat} (hil : il ≤ (Y 12 5).toNatClampNeg) : ∀ k, k ≤ 25 → Wf (s75 Y il k)
  | 0, _ => h
  | k + 1, hk => by
    have ih := Wf.s75 h hil k (by omega)
    rw [_root_.Jvm.Pilot.CHowDeepLaw_law_r3419_97f5ae.s75]
    by_cases c : k / 5 < il ∧ k % 5 < il
    · rw [if_pos c]
      refine ih.u_fo k (h.if_ k (by omega)) (fun i j hi hj q => ?_)
      rw [s75_t (by decide)] at q
      omega
    · rw [if_neg c]; exact ih
theorem Wf.sUp {Y : Nat → Nat → Int32} (h : Wf Y) {w : Nat} (hw : w ≤ 4) : ∀ p, p ≤ w → Wf (sUp Y w p)
  | 0, _ => h
  | p + 1, hp => by
    have ih := Wf.sUp h hw p (by omega)
    rw [_root_.Jvm.Pilot.CHowDeepLaw_law_r3419_97f5ae.sUp]
    unfold sUp1
    exact (((ih.u_dy p (ih.id_ p (by omega))).u_wa p (ih.iw p (by omega))).r_sg _ _ _ (fun k _ h2 => ih.ig k (by omega))).r_ti _ _ _ (fun k _ h2 => ih.it k (by omega))
def sU1 (g : Nat → Nat → Int32) : Nat → Nat → Int32 := sRg (hwU2 g 12 28 (g 12 31)) 12 0 5 (g 89)
theorem sU1_t {g : Nat → Nat → Int32} {t : Nat} (h : t ≠ 12) : sU1 g t = g t := by
  unfold sU1; rw [sRg_t h, u2_t h]
theorem sU1_k {g : Nat → Nat → Int32} {k : Nat} (h : 5 ≤ k ∧ k ≠ 28) : sU1 g 12 k = g 12 k := by
  unfold sU1; rw [sRg_out (by omega), u2_k h.2]
theorem w_undo (N : Nat) (hN : 160 < N) {g : Nat → Nat → Int32} (hw : Wf g) : Tw (F_X11_undo N) (F_X12_undo N) g (fun _ => True) := by
  by_cases c : g 12 29 = 0
  · refine Tw.st hw trivial (Int32.ofInt (-3)) (fun σ h => ?_) (fun σ h => ?_)
    · unfold F_X11_undo; rw [h.1.im, if_pos c]
    · unfold F_X12_undo; rw [rF h (by decide), if_pos c]
  have c1 : 0 < (g 12 29).toNatClampNeg := by
    obtain ⟨e, -⟩ := hw.im
    apply Nat.pos_of_ne_zero
    intro z
    exact c (by rw [e, z]; rfl)
  obtain ⟨el, hl⟩ := hw.il.1
  have hl2 := hw.il.2
  obtain ⟨ew, hw4⟩ := hw.is.1
  generalize eil : (g 12 34).toNatClampNeg = il at el hl hl2
  generalize eiw : (g 12 30).toNatClampNeg = w at ew hw4
  have w0 : Wf (hwU2 g 12 28 (g 12 31)) := hw.u_rl hw.ir
  have w1 : Wf (sU1 g) := w0.r_set (g 89) ⟨hw.ih.1.1, hw.ih.1.2 c1⟩ hw.ih.2.1 hw.ih.2.2.1 hw.ih.2.2.2.1 hw.ih.2.2.2.2
  have w2 : Wf (s75 (sU1 g) il 25) := w1.s75 (by rw [sU1_k (by decide)]; exact hl2) 25 (by decide)
  have w3 : Wf (sUp (s75 (sU1 g) il 25) w w) := w2.sUp hw4 w (Nat.le_refl _)
  refine ⟨g 12 10, _, ⟨w3, trivial⟩, fun σ h => ?_, fun σ h => ?_⟩
  · have h0 := HX0.u_rl (show HX0 (σ.1, σ.2.1, σ.2.2.1, σ.2.2.2.1, σ.2.2.2.2) g from h.1) (g 12 31)
    have h1 := HX0.r_set h0 (va_cpy (σ.2.2.1 29 0) (σ.2.2.1 28 0) 0 0 5) (g 89) (fun j hj => by rw [va_j hj]; exact h.1.ih j hj)
    obtain ⟨τ1, e1, h2, k1⟩ := x_un_b19 N (by omega) (hwU2 σ.1 2 10 (g 12 31)) (sU1 g) il hl il N 0 (σ.1, σ.2.1, hwR3 σ.2.2.1 28 0 (va_cpy (σ.2.2.1 29 0) (σ.2.2.1 28 0) 0 0 5), σ.2.2.2.1, σ.2.2.2.2) (by omega) (by omega) (h.1.il.trans el) h1
    obtain ⟨τ2, e2, h3, k2⟩ := x_un_b69 N (hwU2 σ.1 2 10 (g 12 31)) (s75 (sU1 g) il 25) w hw4 (fun k hk => by rw [s75_t (by decide), sU1_t (by decide)]; exact hw.iw k hk) w N 0 τ1 (by omega) (by omega) (by rw [k1.1]; exact h.1.is.trans ew) h2
    obtain ⟨τ, e3, k3, hx⟩ := x_weigh N hN w3 _ h3
    have kk := (KU2.trans (KU2.r (σ := σ) (t := 28) (r := 0) (u := va_cpy (σ.2.2.1 29 0) (σ.2.2.1 28 0) 0 0 5) (Or.inl (by decide))) k1).trans k2
    refine ⟨τ, ?_, ⟨?_, fun t a b => ?_, ?_⟩, hx⟩
    · unfold F_X11_undo F_X3_restore
      rw [h.1.im, if_neg c, show F_X3_restore_b19 N N (0 : Int32) _ = _ from e1, show F_X3_restore_b69 N N 0 τ1 = _ from e2, Option.bind_some]
      show (F_X4_weigh N (hwU2 τ2.1 2 10 (τ2.1 11 10), τ2.2.1, τ2.2.2.1, τ2.2.2.2.1, τ2.2.2.2.2)).bind _ = _
      rw [kk.1, h.1.ir, e3, Option.bind_some]
      show some (τ.1 4 5, τ) = _
      rw [k3.1]
      show some (hwU2 σ.1 2 10 (g 12 31) 4 5, τ) = _
      rw [u2_t (by decide), h.1.pl]
    · rw [k3.1]; show hwU2 σ.1 2 10 (g 12 31) 12 = _; rw [u2_t (by decide)]
    · rw [k3.2.2.1 t (by omega) (by omega) (by omega) (by omega) (by omega)]
      exact kk.2.1 t (by omega)
    · rw [k3.2.2.2]; exact kk.2.2
  · have g0 : gM (hwU2 σ.1 12 28 (g 12 31), σ.2.1, σ.2.2.1, σ.2.2.2.1, σ.2.2.2.2) = hwU2 g 12 28 (g 12 31) := by
      rw [gM_u2 (by decide)]; exact congrArg (fun q => hwU2 q 12 28 (g 12 31)) h
    obtain ⟨τ1, e1, k1, h1⟩ := m_un_b20 N (hwU2 g 12 28 (g 12 31)) 5 N 0 _ (by omega) (by omega) (show gM _ = sRg (hwU2 g 12 28 (g 12 31)) 12 0 0 (hwU2 g 12 28 (g 12 31) 89) by rw [sRg_0]; exact g0)
    rw [u2_t (by decide)] at h1
    obtain ⟨τ2, e2, k2, h2⟩ := m_un_b44 N (sU1 g) il hl (by rw [sU1_k (by decide)]; exact el) 25 N 0 τ1 (by omega) (by omega) h1
    obtain ⟨τ3, e3, k3, h3⟩ := m_un_b99 N (by omega) (s75 (sU1 g) il 25) w hw4 (by rw [s75_t (by decide), sU1_k (by decide)]; exact ew) w N 0 τ2 (by omega) (by omega) h2
    rw [s75_t (by decide), sU1_k (by decide)] at e3
    refine ⟨τ3, ?_, (((KR.i (k := 28) (v := g 12 31)).trans k1).trans k2).trans k3, h3⟩
    unfold F_X12_undo
    rw [rF h (by decide), if_neg c, rF h (by decide)]
    exact e1.trans (e2.trans e3)

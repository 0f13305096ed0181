/-! THE PURE SIDE, 13: the number by which to choose: both halve to it -/
def sLst (P : Nat → Bool) : Nat → Nat
  | 0 => 0
  | n + 1 => if sLst P n < n then sLst P n else if P n = true then n else n + 1
theorem sLst_le (P : Nat → Bool) : ∀ n : Nat, sLst P n ≤ n
  | 0 => Nat.le_refl _
  | n + 1 => by
    have := sLst_le P n
    rw [sLst]
    split
    · omega
    · split <;> omega
theorem sLst_is {P : Nat → Bool} {k : Nat} (hk : P k = true) (hl : ∀ w, w < k → P w = false) : ∀ n : Nat, sLst P n = if k < n then k else n
  | 0 => by rw [if_neg (Nat.not_lt_zero k)]; rfl
  | n + 1 => by
    rw [sLst, sLst_is hk hl n]
    by_cases h : k < n
    · rw [if_pos h, if_pos h, if_pos (by omega)]
    · rw [if_neg h, if_neg (Nat.lt_irrefl n)]
      by_cases e : k = n
      · subst e; rw [if_pos hk, if_pos (Nat.lt_succ_self k)]
      · rw [if_neg (by rw [hl n (by omega)]; decide), if_neg (by omega)]
theorem sLst_no {P : Nat → Bool} : ∀ n : Nat, (∀ w, w < n → P w = false) → sLst P n = n
  | 0, _ => rfl
  | n + 1, h => by
    rw [sLst, sLst_no n (fun w hw => h w (Nat.lt_succ_of_lt hw)), if_neg (Nat.lt_irrefl n), if_neg (by rw [h n (Nat.lt_succ_self n)]; decide)]
theorem nI_half {c : Nat} (h : c < 2 ^ 31) : nI c / 2 = nI (c / 2) := by
  apply Int32.toInt_inj.mp
  have e2 : (2 : Int32).toInt = 2 := by decide
  rw [i32_div (by rw [nI_toInt h]; omega) (by rw [e2]; omega), nI_toInt h, e2, nI_toInt (by omega)]
  omega
def sLw (g : Nat → Nat → Int32) (y : Nat) (th : Nat → Int64) : Int32 :=
  if sLst (fun w => decide (0 < sGoes g (nI w) (sD g + 1 - y) y th)) 10000 < 10000 then nI (sLst (fun w => decide (0 < sGoes g (nI w) (sD g + 1 - y) y th)) 10000) else -1
theorem sLw_is {g : Nat → Nat → Int32} {y : Nat} {th : Nat → Int64} {k : Nat} (h9 : k ≤ 9999) (hk : 0 < sGoes g (nI k) (sD g + 1 - y) y th) (hl : ∀ w, w < k → ¬ 0 < sGoes g (nI w) (sD g + 1 - y) y th) : sLw g y th = nI k := by
  unfold sLw
  have e := sLst_is (P := fun w => decide (0 < sGoes g (nI w) (sD g + 1 - y) y th)) (k := k) (decide_eq_true hk) (fun w hw => decide_eq_false (hl w hw)) 10000
  rw [if_pos (show k < 10000 by omega)] at e
  rw [e, if_pos (by omega)]
theorem sLw_no {g : Nat → Nat → Int32} {y : Nat} {th : Nat → Int64} (hl : ∀ w, w ≤ 9999 → ¬ 0 < sGoes g (nI w) (sD g + 1 - y) y th) : sLw g y th = -1 := by
  unfold sLw
  rw [sLst_no 10000 (fun w hw => decide_eq_false (hl w (by omega))), if_neg (by omega)]
theorem x_least24 (N : Nat) (hN : 6 < N) {g : Nat → Nat → Int32} (hw : Wf g) (y : Nat) (h1y : 1 ≤ y) (h6 : y ≤ 6) (th : Nat → Int64) (hb : Bd g th) : ∀ (k n lo hi t : Nat) (σ : Mem), hi - lo < 2 ^ k → k + t ≤ 20 → lo ≤ hi → hi ≤ 9999 → k < n → HX σ g → (∀ j, j < sL g → σ.2.2.2.1 50 y j = th j) → 0 < sGoes g (nI hi) (sD g + 1 - y) y th → (∀ w, w < lo → ¬ 0 < sGoes g (nI w) (sD g + 1 - y) y th) →
    ∃ τ, F_X6_leastWorth_b24 N n (nI y) (nI lo) (nI hi) (nI t) σ = some (sLw g y th, τ) ∧ KP y σ τ := by
  have hD := (sD_eq hw).2
  intro k
  induction k with
  | zero =>
    intro n lo hi t σ hk ht hlh h9 hn h h1 hp hl
    cases n with
    | zero => cases hn
    | succ n =>
      have e : lo = hi := by omega
      subst e
      refine ⟨σ, ?_, KP.rfl_ y σ⟩
      rw [F_X6_leastWorth_b24.eq_2, if_neg (geL_n 32 32 rfl (by omega) (by decide)), if_pos (nI_le (Nat.le_refl _) (by omega)), sLw_is h9 hp hl]
  | succ k ih =>
    intro n lo hi t σ hk ht hlh h9 hn h h1 hp hl
    cases n with
    | zero => cases hn
    | succ n =>
      rw [F_X6_leastWorth_b24.eq_2, if_neg (geL_n 32 32 rfl (by omega) (by decide))]
      by_cases e : lo = hi
      · subst e
        refine ⟨σ, ?_, KP.rfl_ y σ⟩
        rw [if_pos (nI_le (Nat.le_refl _) (by omega)), sLw_is h9 hp hl]
      · rw [Nat.pow_succ] at hk
        rw [if_neg (nI_ge (by omega) (by omega)), nI_add, nI_half (by omega)]
        obtain ⟨τ1, f1, k1⟩ := x_goingOn N hN hw (nI ((lo + hi) / 2)) y h1y h6 th σ h h1
        rw [f1, nI_1, nI_1]
        simp only [Option.bind_some]
        by_cases hm : 0 < sGoes g (nI ((lo + hi) / 2)) (sD g + 1 - y) y th
        · rw [if_neg (fun q => lg_npos.mp q hm)]
          obtain ⟨τ2, f2, k2⟩ := ih n lo ((lo + hi) / 2) (t + 1) τ1 (by omega) (by omega) (by omega) (by omega) (by omega) (h.kx k1.x) (k1.row h1) hm hl
          exact ⟨τ2, f2, k1.trans k2⟩
        · rw [if_pos (lg_npos.mpr hm)]
          obtain ⟨τ2, f2, k2⟩ := ih n ((lo + hi) / 2 + 1) hi (t + 1) τ1 (by omega) (by omega) (by omega) (by omega) (by omega) (h.kx k1.x) (k1.row h1) hp (fun w hw2 q => hm (sGoes_up hw (w := w) (w' := (lo + hi) / 2) (by omega) (by omega) (by omega) y hb q))
          exact ⟨τ2, f2, k1.trans k2⟩
theorem x_least (N : Nat) (hN : 160 ≤ N) {g : Nat → Nat → Int32} (hw : Wf g) (y : Nat) (h1y : 1 ≤ y) (h6 : y ≤ 6) (th : Nat → Int64) (hb : Bd g th) (σ : Mem) (h : HX σ g) (h1 : ∀ j, j < sL g → σ.2.2.2.1 50 y j = th j) :
    ∃ τ, F_X6_leastWorth N (nI y) σ = some (sLw g y th, τ) ∧ KP y σ τ := by
  have hD := (sD_eq hw).2
  unfold F_X6_leastWorth
  obtain ⟨τ1, f1, k1⟩ := x_goingOn N (by omega) hw (nI 9999) y h1y h6 th σ h h1
  rw [show (9999 : Int32) = nI 9999 from rfl, f1]
  simp only [Option.bind_some]
  by_cases hm : 0 < sGoes g (nI 9999) (sD g + 1 - y) y th
  · rw [if_pos (lg_pos.mpr hm)]
    obtain ⟨τ2, f2, k2⟩ := x_least24 N (by omega) hw y h1y h6 th hb 14 N 0 9999 0 τ1 (by decide) (by omega) (by omega) (by omega) (by omega) (h.kx k1.x) (k1.row h1) hm (fun w hw2 => by omega)
    exact ⟨τ2, f2, k1.trans k2⟩
  · rw [if_neg (fun q => hm (lg_pos.mp q))]
    refine ⟨τ1, ?_, k1⟩
    rw [sLw_no (fun w hw2 q => hm (sGoes_up hw (w := w) (w' := 9999) hw2 (by omega) (by omega) y hb q))]
    rfl
/-! the reference writes the worth itself -/
theorem u2_t {α : Type} {f : Nat → Nat → α} {t k a : Nat} {v : α} (h : a ≠ t) : hwU2 f t k v a = f a := by
  funext c; rw [hwU2_get, if_neg (fun q => h q.1)]
theorem u2_k {α : Type} {f : Nat → Nat → α} {t k c : Nat} {v : α} (h : c ≠ k) : hwU2 f t k v t c = f t c := by
  rw [hwU2_get, if_neg (fun q => h q.2)]
theorem gM_u2 {A : Nat → Nat → Int32} {B : Nat → Nat → Int64} {C : Nat → Nat → Nat → Int32} {D : (Nat → Nat → Nat → Int64) × (Nat × (Nat → Int32))} {k : Nat} {v : Int32} (h : k ≤ 40) : gM (hwU2 A 12 k v, B, C, D) = hwU2 (gM (A, B, C, D)) 12 k v := by
  funext t c
  rw [hwU2_get]
  by_cases e : t = 12 ∧ c = k
  · obtain ⟨rfl, rfl⟩ := e
    rw [if_pos ⟨rfl, rfl⟩, gM_f _ h]
    exact hwU2_eq
  · rw [if_neg e]
    unfold gM
    cases ht : Nat.beq t 12 with
    | false => rfl
    | true =>
      have ht := Nat.eq_of_beq_eq_true ht
      subst ht
      show (bif Nat.ble c 40 then hwU2 A 12 k v 12 c else 0) = bif Nat.ble c 40 then A 12 c else 0
      rw [u2_k (fun q => e ⟨rfl, q⟩)]
theorem gM_u2o {A : Nat → Nat → Int32} {B : Nat → Nat → Int64} {C : Nat → Nat → Nat → Int32} {D : (Nat → Nat → Nat → Int64) × (Nat × (Nat → Int32))} {t k : Nat} {v : Int32} (h : t ≠ 12 ∨ 40 < k) : gM (hwU2 A t k v, B, C, D) = gM (A, B, C, D) := by
  funext a c
  unfold gM
  cases ht : Nat.beq a 12 with
  | false => rfl
  | true =>
    have ht := Nat.eq_of_beq_eq_true ht
    subst ht
    show (bif Nat.ble c 40 then hwU2 A t k v 12 c else 0) = bif Nat.ble c 40 then A 12 c else 0
    cases hc : Nat.ble c 40 with
    | false => rfl
    | true =>
      have hc := Nat.le_of_ble_eq_true hc
      show hwU2 A t k v 12 c = A 12 c
      rw [hwU2_get, if_neg (fun q => by omega)]
theorem gM_u3 {A : Nat → Nat → Int32} {B : Nat → Nat → Int64} {C : Nat → Nat → Nat → Int32} {D : (Nat → Nat → Nat → Int64) × (Nat × (Nat → Int32))} {t k : Nat} {v : Int32} (h1 : 72 ≤ t) (h2 : t ≤ 97) : gM (A, B, hwU3 C t 0 k v, D) = hwU2 (gM (A, B, C, D)) t k v := by
  funext a c
  rw [hwU2_get]
  by_cases e : a = t ∧ c = k
  · obtain ⟨rfl, rfl⟩ := e
    rw [if_pos ⟨rfl, rfl⟩, gM_a _ h1 h2]
    exact hwU3_eq
  · rw [if_neg e]
    unfold gM
    show (bif Nat.beq a 12 then _ else bif Nat.ble 72 a && Nat.ble a 97 then hwU3 C t 0 k v a 0 c else 0) = bif Nat.beq a 12 then _ else bif Nat.ble 72 a && Nat.ble a 97 then C a 0 c else 0
    rw [hwU3_get, if_neg (fun q => e ⟨q.1, q.2.2⟩)]
theorem gM_u3o {A : Nat → Nat → Int32} {B : Nat → Nat → Int64} {C : Nat → Nat → Nat → Int32} {D : (Nat → Nat → Nat → Int64) × (Nat × (Nat → Int32))} {t r k : Nat} {v : Int32} (h : t < 72 ∨ 97 < t) : gM (A, B, hwU3 C t r k v, D) = gM (A, B, C, D) := by
  funext a c
  unfold gM
  show (bif Nat.beq a 12 then _ else bif Nat.ble 72 a && Nat.ble a 97 then hwU3 C t r k v a 0 c else 0) = bif Nat.beq a 12 then _ else bif Nat.ble 72 a && Nat.ble a 97 then C a 0 c else 0
  cases hb : (Nat.ble 72 a && Nat.ble a 97) with
  | false => rfl
  | true =>
    have h1 := Nat.le_of_ble_eq_true (and_t hb).1
    have h2 := Nat.le_of_ble_eq_true (and_t hb).2
    rw [hwU3_get, if_neg (fun q => by omega)]
/-- another worth alone: what the law says of it is as it was -/
theorem sSt_up {g : Nat → Nat → Int32} {k : Nat} {v : Int32} : sSt (hwU2 g 12 k v) = sSt g := by
  funext t q; unfold sSt; rw [u2_t (by decide)]
theorem sCs_up {g : Nat → Nat → Int32} {k : Nat} {v : Int32} : sCs (hwU2 g 12 k v) = sCs g := by
  funext t q; unfold sCs; rw [sSt_up, u2_t (by decide)]
theorem sRl_up {g : Nat → Nat → Int32} {k : Nat} {v : Int32} (h : k ≠ 28) : sRl (hwU2 g 12 k v) = sRl g := by
  unfold sRl; rw [u2_k (fun q => h q.symm)]
theorem sVal_up {g : Nat → Nat → Int32} {k : Nat} {v : Int32} (h : k ≠ 28) (q : Nat) (most : Int32) (nm : Nat → Int32) : sVal (hwU2 g 12 k v) q most nm = sVal g q most nm := by
  unfold sVal; rw [sRl_up h, sCs_up]
theorem sCost_up {g : Nat → Nat → Int32} {k : Nat} {v : Int32} (h : k ≠ 28) (h2 : k ≠ 2) : sCost (hwU2 g 12 k v) = sCost g := by
  funext y; unfold sCost; rw [sVal_up h, u2_k (fun q => h2 q.symm)]
theorem sWat_up {g : Nat → Nat → Int32} {k : Nat} {v : Int32} (h : k ≠ 28) (h2 : k ≠ 2) : sWat (hwU2 g 12 k v) = sWat g := by
  funext y j; unfold sWat; rw [sVal_up h, u2_k (fun q => h2 q.symm), u2_t (by decide), u2_t (by decide)]
theorem sFall_up {g : Nat → Nat → Int32} {k : Nat} {v : Int32} (h : k ≠ 28) (h2 : k ≠ 2) : sFall (hwU2 g 12 k v) = sFall g := by
  funext y j; unfold sFall; rw [sVal_up h, u2_k (fun q => h2 q.symm)]
theorem sL_up {g : Nat → Nat → Int32} {k : Nat} {v : Int32} (h : k ≠ 5) : sL (hwU2 g 12 k v) = sL g := by
  unfold sL; rw [u2_k (fun q => h q.symm)]
theorem sDry_up {g : Nat → Nat → Int32} {v : Int32} : sDry (hwU2 g 12 1 v) = sDry g := by
  funext y s th j; unfold sDry; rw [sWat_up (by decide) (by decide), u2_t (by decide)]
theorem sMuch_up {g : Nat → Nat → Int32} {v : Int32} : sMuch (hwU2 g 12 1 v) = sMuch g := by
  funext y s th; unfold sMuch; rw [sDry_up, sL_up (by decide)]
theorem sMade_up {g : Nat → Nat → Int32} {v : Int32} : sMade (hwU2 g 12 1 v) = sMade g := by
  funext y s th j; unfold sMade; rw [sDry_up, sMuch_up]
theorem sAllB_up {g : Nat → Nat → Int32} {v : Int32} : sAllB (hwU2 g 12 1 v) = sAllB g := by
  funext i; unfold sAllB; rw [sL_up (by decide), u2_t (by decide)]
theorem sSk_up {g : Nat → Nat → Int32} {v : Int32} : sSk (hwU2 g 12 1 v) = sSk g := by
  funext d i j; unfold sSk; rw [sAllB_up, u2_t (by decide)]
theorem sSink_up {g : Nat → Nat → Int32} {v : Int32} : sSink (hwU2 g 12 1 v) = sSink g := by
  funext d j; unfold sSink; rw [sSk_up, sL_up (by decide)]
theorem sNext_up {g : Nat → Nat → Int32} {v : Int32} : sNext (hwU2 g 12 1 v) = sNext g := by
  funext y s th; unfold sNext; rw [sSink_up, sMade_up]
theorem sGain_up {g : Nat → Nat → Int32} {v : Int32} : sGain (hwU2 g 12 1 v) = sGain g := by
  funext y w l th; unfold sGain sWet; rw [sWat_up (by decide) (by decide), sL_up (by decide), u2_t (by decide)]
theorem sArm_up {g : Nat → Nat → Int32} {v : Int32} : sArm (hwU2 g 12 1 v) = sArm g := by
  funext F y th s; unfold sArm; rw [sMuch_up, sNext_up]
theorem sGoes_upd {g : Nat → Nat → Int32} {v w : Int32} : ∀ n : Nat, sGoes (hwU2 g 12 1 v) w n = sGoes g w n
  | 0 => rfl
  | n + 1 => by
    funext y th
    rw [sGoes, sGoes, sGain_up, sCost_up (by decide) (by decide), sArm_up, sGoes_upd n]
theorem sD_upd {g : Nat → Nat → Int32} {v : Int32} : sD (hwU2 g 12 1 v) = sD g := by
  unfold sD; rw [u2_k (by decide)]
theorem Wf.worth {g : Nat → Nat → Int32} (h : Wf g) {v : Int32} (hv : isN v 9999) : Wf (hwU2 g 12 1 v) := by
  unfold Wf
  rw [sSt_up, sCs_up]
  simp (disch := decide) only [u2_t, u2_k, hwU2_eq]
  exact ⟨h.1, hv, h.2.2⟩
theorem m_index12 (N : Nat) (hN : 160 ≤ N) {g : Nat → Nat → Int32} (hw : Wf g) (p : Nat) (hp : p < 4) (th : Nat → Int64) (hb : Bd g th) : ∀ (k n lo hi : Nat) (σ : Mem), hi - lo < 2 ^ k → lo ≤ hi → hi ≤ 10000 → k < n → hwU2 (gM σ) 12 1 (g 12 1) = g → (∀ j, j < sL g → σ.2.2.2.1 102 0 (5 * 0 + j) = th j) → (hi = 10000 ∨ 0 < sGoes g (nI hi) (sD g + 1 - (sDug g p + 1)) (sDug g p + 1) th) → (∀ w, w < lo → ¬ 0 < sGoes g (nI w) (sD g + 1 - (sDug g p + 1)) (sDug g p + 1) th) →
    ∃ τ, F_X12_indexOf_b12 N n (nI p) (g 12 1) (nI lo) (nI hi) σ = some (sLw g (sDug g p + 1) th, τ) ∧ KQ (hwU2 σ.1 12 1 (g 12 1), σ.2) τ := by
  have hD := (sD_eq hw).2
  obtain ⟨ed, hd⟩ := sDug_eq hw hp
  have fin : ∀ (n lo : Nat) (σ : Mem), lo ≤ 10000 → (lo = 10000 ∨ 0 < sGoes g (nI lo) (sD g + 1 - (sDug g p + 1)) (sDug g p + 1) th) → (∀ w, w < lo → ¬ 0 < sGoes g (nI w) (sD g + 1 - (sDug g p + 1)) (sDug g p + 1) th) → ∃ τ, F_X12_indexOf_b12 N (n + 1) (nI p) (g 12 1) (nI lo) (nI lo) σ = some (sLw g (sDug g p + 1) th, τ) ∧ KQ (hwU2 σ.1 12 1 (g 12 1), σ.2) τ := by
    intro n lo σ h9 hp2 hl
    refine ⟨(hwU2 σ.1 12 1 (g 12 1), σ.2), ?_, KQ.rfl_ _⟩
    rw [F_X12_indexOf_b12.eq_2, if_pos (nI_le (Nat.le_refl _) (by omega))]
    by_cases e : lo = 10000
    · subst e
      rw [if_neg (geL_a 9999 9999 rfl (show 9999 < 10000 by decide) (by decide)), sLw_no (fun w hw2 => hl w (by omega))]
      rfl
    · rw [if_pos (leL_b 9999 9999 rfl (by omega) (by decide)), sLw_is (by omega) (hp2.resolve_left e) hl]
  intro k
  induction k with
  | zero =>
    intro n lo hi σ hk hlh h9 hn hg h1 hp2 hl
    cases n with
    | zero => cases hn
    | succ n =>
      have e : lo = hi := by omega
      subst e
      exact fin n lo σ h9 hp2 hl
  | succ k ih =>
    intro n lo hi σ hk hlh h9 hn hg h1 hp2 hl
    cases n with
    | zero => cases hn
    | succ n =>
      by_cases e : lo = hi
      · subst e
        exact fin n lo σ h9 hp2 hl
      · rw [Nat.pow_succ] at hk
        have hm9 : (lo + hi) / 2 ≤ 9999 := by omega
        have g1 : gM (hwU2 σ.1 12 1 (nI ((lo + hi) / 2)), σ.2.1, σ.2.2.1, σ.2.2.2.1, σ.2.2.2.2) = hwU2 g 12 1 (nI ((lo + hi) / 2)) := by
          rw [gM_u2 (by decide), ← hg]
          show hwU2 (gM σ) 12 1 _ = _
          funext a c
          rw [hwU2_get, hwU2_get, hwU2_get]
          split <;> rfl
        have e77 : σ.2.2.1 77 0 p = nI (sDug g p) := by
          rw [← ed, ← hg, u2_t (by decide), ← gM_a σ (by decide) (by decide)]
        have hw1 : Wf (hwU2 g 12 1 (nI ((lo + hi) / 2))) := hw.worth (isN_nI hm9 (by decide))
        obtain ⟨τ1, f1, k1⟩ := m_goesOn N hN hw1 (sDug g p + 1) 0 (by omega) (by omega) (by omega) th (hwU2 σ.1 12 1 (nI ((lo + hi) / 2)), σ.2.1, σ.2.2.1, σ.2.2.2.1, σ.2.2.2.2) g1 (by rw [sL_up (by decide)]; exact h1)
        rw [hwU2_eq, sGoes_upd, sD_upd] at f1
        have g2 : hwU2 (gM τ1) 12 1 (g 12 1) = g := by
          rw [k1.q.g, g1]
          funext a c
          rw [hwU2_get, hwU2_get]
          split
          · rename_i q; rw [q.1, q.2]
          · rfl
        have r2 : ∀ j, j < sL g → τ1.2.2.2.1 102 0 (5 * 0 + j) = th j := k1.row (sL_le hw) h1
        have kk : ∀ τ, KQ (hwU2 τ1.1 12 1 (g 12 1), τ1.2) τ → KQ (hwU2 σ.1 12 1 (g 12 1), σ.2) τ := by
          intro τ h
          refine KQ.trans ?_ h
          have e1 : hwU2 τ1.1 12 1 (g 12 1) = hwU2 σ.1 12 1 (g 12 1) := by
            rw [k1.1]
            funext a c
            show hwU2 (hwU2 σ.1 12 1 _) 12 1 _ a c = _
            rw [hwU2_get, hwU2_get, hwU2_get]
            split <;> rfl
          exact ⟨e1, k1.2.1, k1.2.2.1, k1.2.2.2.1, k1.2.2.2.2.2.2⟩
        rw [F_X12_indexOf_b12.eq_2, if_neg (nI_ge (by omega) (by omega)), if_neg (out_nI hp (by decide)), nI_clamp (by omega), nI_add, nI_half (by omega), e77, nI_1, nI_1, show (F_X12_goesOn N (nI (sDug g p + 1)) (0 : Int32) (hwU2 σ.1 12 1 (nI ((lo + hi) / 2)), σ.2.1, σ.2.2.1, σ.2.2.2.1, σ.2.2.2.2)) = _ from f1]
        simp only [Option.bind_some]
        by_cases hm : 0 < sGoes g (nI ((lo + hi) / 2)) (sD g + 1 - (sDug g p + 1)) (sDug g p + 1) th
        · rw [if_neg (fun q => lg_npos.mp q hm)]
          obtain ⟨τ2, f2, k2⟩ := ih n lo ((lo + hi) / 2) τ1 (by omega) (by omega) (by omega) (by omega) g2 r2 (Or.inr hm) hl
          exact ⟨τ2, f2, kk τ2 k2⟩
        · rw [if_pos (lg_npos.mpr hm)]
          obtain ⟨τ2, f2, k2⟩ := ih n ((lo + hi) / 2 + 1) hi τ1 (by omega) (by omega) (by omega) (by omega) g2 r2 hp2 (fun w hw2 q => hm (sGoes_up hw (w := w) (w' := (lo + hi) / 2) (by omega) (by omega) (by omega) _ hb q))
          exact ⟨τ2, f2, kk τ2 k2⟩
theorem m_indexOf (N : Nat) (hN : 160 ≤ N) {g : Nat → Nat → Int32} (hw : Wf g) (p : Nat) (hp : p < 4) (th : Nat → Int64) (hb : Bd g th) (σ : Mem) (hg : gM σ = g) (h1 : ∀ j, j < sL g → σ.2.2.2.1 102 0 (5 * 0 + j) = th j) :
    ∃ τ, F_X12_indexOf N (nI p) σ = some (sLw g (sDug g p + 1) th, τ) ∧ KQ σ τ := by
  have e1 : σ.1 12 1 = g 12 1 := rF hg (by decide)
  have e0 : hwU2 σ.1 12 1 (g 12 1) = σ.1 := by
    funext a c
    rw [hwU2_get]
    split
    · rename_i q; rw [q.1, q.2, e1]
    · rfl
  have eg : hwU2 (gM σ) 12 1 (g 12 1) = g := by
    rw [hg]
    funext a c
    rw [hwU2_get]
    split
    · rename_i q; rw [q.1, q.2]
    · rfl
  obtain ⟨τ, f, k⟩ := m_index12 N hN hw p hp th hb 14 N 0 10000 σ (by decide) (by decide) (by decide) (by omega) eg h1 (Or.inl rfl) (fun w hw2 => by omega)
  rw [e0] at k
  refine ⟨τ, ?_, k⟩
  unfold F_X12_indexOf
  rw [e1]
  exact f
theorem c_index (N : Nat) (hN : 160 ≤ N) (a : Int32) (σ : Mem) (h : Ag σ) : Ac (F_X11_index N a) (F_X12_index N a) σ := by
  obtain ⟨hx, hw⟩ := h
  have hL := sL_le hw
  have hP := (sPl_eq hw).2
  rcases rg_c a (c := sPl (gM σ)) (by omega) with ⟨p, hp, rfl⟩ | hq
  · obtain ⟨τ1, e1, k1, r1⟩ := x_openYard N (by omega) hw p (by omega) σ hx
    obtain ⟨ed, hd⟩ := sDug_eq hw (show p < 4 by omega)
    cases hc : sOpen (gM σ) p with
    | true =>
      have hb := sTh_int hw (show p < 4 by omega) (sL_pos hw hp) _ (and_t hc).2
      obtain ⟨τ2, e2, k2⟩ := x_least N hN hw (sDug (gM σ) p + 1) (by omega) (by omega) _ hb τ1 (hx.kx k1) (r1 hc)
      have g2 : gM τ2 = gM σ := k2.x.g.trans k1.g
      obtain ⟨τ3, e3, k3, r3⟩ := m_goesHere N hN hw p (by omega) (sL_pos hw hp) τ2 g2
      have g3 : gM τ3 = gM σ := k3.g.trans g2
      obtain ⟨τ4, e4, k4⟩ := m_indexOf N hN hw p (by omega) _ hb τ3 g3 (r3 hc)
      refine Ac.mk (r := sLw (gM σ) (sDug (gM σ) p + 1) (sTh (gM σ) p (sDug (gM σ) p))) (τ1 := τ2) (τ2 := τ4) ⟨hx, hw⟩ ?_ (k1.trans k2.x).y ?_ (k3.trans k4).m
      · unfold F_X11_index
        simp only [x_plY hw hx hp, e1, Option.bind_some, k10, hc, if_true]
        rw [if_neg (nI_ne0 (by omega) (by omega)), e2]
        simp only [Option.bind_some]
      · unfold F_X12_index
        simp only [m_plY hw g2 hp, e3, Option.bind_some, k10, hc, if_true, e4]
    | false =>
      have g1 : gM τ1 = gM σ := k1.g
      obtain ⟨τ2, e2, k2, r2⟩ := m_goesHere N hN hw p (by omega) (sL_pos hw hp) τ1 g1
      refine Ac.mk (r := Int32.ofInt (-3)) (τ1 := τ1) (τ2 := τ2) ⟨hx, hw⟩ ?_ k1.y ?_ k2.m
      · unfold F_X11_index
        simp only [x_plY hw hx hp, e1, Option.bind_some, k10, k00, hc, Bool.false_eq_true, if_false, if_true]
      · unfold F_X12_index
        simp only [m_plY hw g1 hp, e2, Option.bind_some, k10, k00, hc, Bool.false_eq_true, if_false, if_true]
  · refine Ac.st (r := Int32.ofInt (-5)) ⟨hx, hw⟩ ?_ ?_
    · unfold F_X11_index
      simp only [x_plN hw hx hq, Option.bind_some, k00, if_true]
    · unfold F_X12_index
      simp only [m_plN hw rfl hq, Option.bind_some, k00, if_true]

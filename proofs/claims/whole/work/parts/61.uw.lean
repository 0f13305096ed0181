/-! THE PURE SIDE, 42: the reference is that machine: its stack -/
def cnt : List Nat → Nat
  | [] => 0
  | a :: S => cnt S + (if a = 0 ∨ a = 13 ∨ a = 19 then 1 else 0)
def lt20 : List Nat → Prop
  | [] => True
  | a :: S => a < 20 ∧ lt20 S
/-- the reference's reading: law t, codes from b on -/
def RS (c : Nat → Nat) (L t b : Nat) (S : List Nat) (d : Nat) (o : List Nat) (σ : Mem) : Prop :=
  (MTp c L σ ∧ Wd σ) ∧ (σ.1 12 27 = nI t ∧ t < 6) ∧ (σ.1 12 48 = nI S.length ∧ ∀ i, i < S.length → σ.2.2.1 99 0 (S.length - 1 - i) = nI (S.getD i 0)) ∧ (σ.1 12 49 = nI d ∧ d = cnt S ∧ lt20 S) ∧ (σ.1 12 50 = nI (b + o.length) ∧ ∀ i, i < o.length → σ.2.2.1 87 0 (200 * t + (b + i)) = nI (o.getD i 0))
/-- what a section's reading may touch -/
def KS (t b : Nat) (σ τ : Mem) : Prop := (∀ a, a ≠ 12 → τ.1 a = σ.1 a) ∧ (∀ k, k < 42 ∨ (45 < k ∧ k < 48) ∨ 50 < k → τ.1 12 k = σ.1 12 k) ∧ τ.2.1 = σ.2.1 ∧ (∀ a, a ≠ 87 → a ≠ 99 → τ.2.2.1 a = σ.2.2.1 a) ∧ (∀ k, k < 200 * t + b → τ.2.2.1 87 0 k = σ.2.2.1 87 0 k) ∧ τ.2.2.2 = σ.2.2.2
theorem KS.rfl_ (t b : Nat) (σ : Mem) : KS t b σ σ := ⟨fun _ _ => rfl, fun _ _ => rfl, rfl, fun _ _ _ => rfl, fun _ _ => rfl, rfl⟩
theorem KS.trans {t b : Nat} {σ τ υ : Mem} (h : KS t b σ τ) (k : KS t b τ υ) : KS t b σ υ :=
  ⟨fun a x => (k.1 a x).trans (h.1 a x), fun a x => (k.2.1 a x).trans (h.2.1 a x), k.2.2.1.trans h.2.2.1, fun a x y => (k.2.2.2.1 a x y).trans (h.2.2.2.1 a x y), fun a x => (k.2.2.2.2.1 a x).trans (h.2.2.2.2.1 a x), k.2.2.2.2.2.trans h.2.2.2.2.2⟩
theorem KLk.ks {t b : Nat} {σ τ : Mem} (h : KLk σ τ) : KS t b σ τ := ⟨h.2.1, fun k hk => h.2.2 k (by omega), by rw [h.1], fun _ _ _ => by rw [h.1], fun _ _ => by rw [h.1], by rw [h.1]⟩
theorem RS.kl {c : Nat → Nat} {L t b : Nat} {S : List Nat} {d : Nat} {o : List Nat} {σ τ : Mem} (h : RS c L t b S d o σ) (k : KLk σ τ) : RS c L t b S d o τ := by
  obtain ⟨⟨h1, h2⟩, h3, h4, h5, h6⟩ := h
  refine ⟨⟨h1.kl k, by unfold Wd; rw [k.1]; exact h2⟩, ⟨(k.2.2 27 (by decide)).trans h3.1, h3.2⟩, ⟨(k.2.2 48 (by decide)).trans h4.1, by rw [k.1]; exact h4.2⟩, ⟨(k.2.2 49 (by decide)).trans h5.1, h5.2⟩, ⟨(k.2.2 50 (by decide)).trans h6.1, by rw [k.1]; exact h6.2⟩⟩
theorem getD_app {o : List Nat} {a i : Nat} (h : i < o.length) : (o ++ [a]).getD i 0 = o.getD i 0 := by
  rw [List.getD_eq_getElem?_getD, List.getD_eq_getElem?_getD, List.getElem?_append_left h]
theorem getD_end {o : List Nat} {a : Nat} : (o ++ [a]).getD o.length 0 = a := by
  rw [List.getD_eq_getElem?_getD, List.getElem?_append_right (Nat.le_refl _), Nat.sub_self]
  rfl
theorem m_rank (N : Nat) : ∀ a, a < 20 → ∀ σ : Mem, F_X12_rank N (nI a) σ = some (nI (rk a), σ) := by
  intro a ha σ
  have : a = 0 ∨ a = 1 ∨ a = 2 ∨ a = 3 ∨ a = 4 ∨ a = 5 ∨ a = 6 ∨ a = 7 ∨ a = 8 ∨ a = 9 ∨ a = 10 ∨ a = 11 ∨ a = 12 ∨ a = 13 ∨ a = 14 ∨ a = 15 ∨ a = 16 ∨ a = 17 ∨ a = 18 ∨ a = 19 := by omega
  rcases this with e | e | e | e | e | e | e | e | e | e | e | e | e | e | e | e | e | e | e | e <;> (subst e; rfl)
theorem rk_le (a : Nat) : rk a ≤ 7 := by
  unfold rk
  repeat' split
  all_goals decide
/-- one code put -/
theorem m_puts (N : Nat) {c : Nat → Nat} {L t b : Nat} {S : List Nat} {d : Nat} {o : List Nat} {σ : Mem} (h : RS c L t b S d o σ) (hb : b + o.length < 200) (a : Nat) : ∃ τ, F_X12_puts N (nI a) σ = some ((), τ) ∧ RS c L t b S d (o ++ [a]) τ ∧ KS t b σ τ ∧ τ.1 12 42 = σ.1 12 42 ∧ τ.1 12 43 = σ.1 12 43 := by
  obtain ⟨⟨h1, h2⟩, h3, h4, h5, h6⟩ := h
  have e : (200 : Int32) * nI t + nI (b + o.length) = nI (200 * t + (b + o.length)) := by rw [show (200 : Int32) = nI 200 from rfl, nI_mul, nI_add]
  refine ⟨(hwU2 σ.1 12 50 (nI (b + o.length + 1)), σ.2.1, hwU3 σ.2.2.1 87 0 (200 * t + (b + o.length)) (nI a), σ.2.2.2.1, σ.2.2.2.2), ?_, ⟨⟨⟨?_, ?_⟩, h2⟩, ⟨?_, h3.2⟩, ⟨?_, ?_⟩, ⟨?_, h5.2⟩, ?_, ?_⟩, ⟨fun a x => u2_t x, fun k x => u2_k (by omega), rfl, fun a x y => hwU3_t x, fun k x => hwU3_k (by omega), rfl⟩, (by simp (disch := decide) only [u2_k]), (by simp (disch := decide) only [u2_k])⟩
  · unfold F_X12_puts
    have := h3.2
    rw [h3.1, h6.1, e, if_neg (out_nI (by omega) (by decide)), nI_1, nI_clamp (by omega)]
  · simp (disch := decide) only [u2_k]; exact h1.1
  · intro k hk
    show hwU3 σ.2.2.1 87 0 (200 * t + (b + o.length)) (nI a) 86 0 k = _
    rw [hwU3_t (by decide)]
    exact h1.2 k hk
  · simp (disch := decide) only [u2_k]; exact h3.1
  · simp (disch := decide) only [u2_k]; exact h4.1
  · intro i hi
    show hwU3 σ.2.2.1 87 0 (200 * t + (b + o.length)) (nI a) 99 0 (S.length - 1 - i) = _
    rw [hwU3_t (by decide)]
    exact h4.2 i hi
  · simp (disch := decide) only [u2_k]; exact h5.1
  · show hwU2 σ.1 12 50 (nI (b + o.length + 1)) 12 50 = _
    rw [hwU2_eq, List.length_append]
    rfl
  · intro i hi
    rw [List.length_append] at hi
    show hwU3 σ.2.2.1 87 0 (200 * t + (b + o.length)) (nI a) 87 0 (200 * t + (b + i)) = _
    by_cases x : i = o.length
    · subst x; rw [hwU3_eq, getD_end]
    · have hl : i < o.length := by
        have : [a].length = 1 := rfl
        omega
      rw [hwU3_k (by omega), getD_app hl]
      exact h6.2 i hl
theorem cnt_le : ∀ S : List Nat, cnt S ≤ S.length
  | [] => Nat.le_refl _
  | a :: S => by
    have := cnt_le S
    rw [cnt, List.length_cons]
    split <;> omega
/-- signs put, as far as they bind -/
theorem m_uw (N : Nat) (c : Nat → Nat) (L t b r : Nat) (hr : 1 ≤ r ∧ r ≤ 7) : ∀ (S : List Nat) (n d : Nat) (o : List Nat) (σ : Mem), S.length < n → b + o.length + S.length < 200 → RS c L t b S d o σ →
    ∃ τ, F_X12_unwinds_b0 N n (nI r) σ = some ((), τ) ∧ RS c L t b (uw r S d o).1 (uw r S d o).2.1 (uw r S d o).2.2 τ ∧ KS t b σ τ ∧ τ.1 12 42 = σ.1 12 42 ∧ τ.1 12 43 = σ.1 12 43 := by
  intro S
  induction S with
  | nil =>
    intro n d o σ hn hb h
    cases n with
    | zero => cases hn
    | succ n =>
      refine ⟨σ, ?_, h, KS.rfl_ t b σ, rfl, rfl⟩
      rw [F_X12_unwinds_b0.eq_2, h.2.2.1.1, if_pos (show nI ([] : List Nat).length ≤ 0 by decide)]
  | cons a S ih =>
    intro n d o σ hn hb h
    rw [List.length_cons] at hn hb
    cases n with
    | zero => cases hn
    | succ n =>
      obtain ⟨h1, h3, h4, h5, h6⟩ := h
      have ha : a < 20 := h5.2.2.1
      have e99 : σ.2.2.1 99 0 S.length = nI a := by
        have := h4.2 0 (by rw [List.length_cons]; omega)
        rw [List.length_cons, show S.length + 1 - 1 - 0 = S.length by omega] at this
        exact this
      have e48 : σ.1 12 48 = nI (S.length + 1) := h4.1
      have u0 : F_X12_unwinds_b0 N (n + 1) (nI r) σ = if nI (rk a) < nI r then some ((), σ) else if nI a = 13 then F_X12_unwinds_b62 N (F_X12_unwinds_b67 N (F_X12_unwinds_b0 N n)) (nI r) (nI a) (σ.1 12 49) (hwU2 σ.1 12 48 (nI S.length), σ.2) else if nI a = 19 then F_X12_unwinds_b62 N (F_X12_unwinds_b67 N (F_X12_unwinds_b0 N n)) (nI r) (nI a) (σ.1 12 49) (hwU2 σ.1 12 48 (nI S.length), σ.2) else F_X12_unwinds_b67 N (F_X12_unwinds_b0 N n) (nI r) (nI a) 0 (σ.1 12 49) (hwU2 σ.1 12 48 (nI S.length), σ.2) := by
        rw [F_X12_unwinds_b0.eq_2, e48, nI_pred, if_neg (geL_a 0 0 rfl (by omega) (by omega)), if_neg (out_nI (by omega) (by decide)), nI_clamp (by omega), e99, m_rank N a ha σ, Option.bind_some]
        dsimp only
        simp only [e48, nI_pred, nI_clamp (show S.length < 2 ^ 31 by omega), e99]
        rw [if_neg (out_nI (by omega) (by decide))]
      by_cases cr : rk a < r
      · refine ⟨σ, ?_, ?_, KS.rfl_ t b σ, rfl, rfl⟩
        · rw [u0, if_pos (nI_lt cr (by omega))]
        · rw [uw_st cr]; exact ⟨h1, h3, h4, h5, h6⟩
      · have n0 : a ≠ 0 := fun z => by subst z; exact cr (show rk 0 < r by rw [show rk 0 = 0 from rfl]; omega)
        have dd : (if a = 13 ∨ a = 19 then d - 1 else d) = cnt S := by
          have := h5.2.1
          rw [cnt] at this
          by_cases q : a = 13 ∨ a = 19
          · rw [if_pos q]; rw [if_pos (Or.inr q)] at this; omega
          · rw [if_neg q]; rw [if_neg (fun z => z.elim n0 q)] at this; omega
        have k1 : KS t b σ (hwU2 (hwU2 σ.1 12 48 (nI S.length)) 12 49 (nI (cnt S)), σ.2) := ⟨fun x hx => (u2_t hx).trans (u2_t hx), fun k hk => (u2_k (by omega)).trans (u2_k (by omega)), rfl, fun _ _ _ => rfl, fun _ _ => rfl, rfl⟩
        have r1 : RS c L t b S (cnt S) o (hwU2 (hwU2 σ.1 12 48 (nI S.length)) 12 49 (nI (cnt S)), σ.2) := by
          refine ⟨⟨⟨by simp (disch := decide) only [u2_k]; exact h1.1.1, h1.1.2⟩, h1.2⟩, ⟨by simp (disch := decide) only [u2_k]; exact h3.1, h3.2⟩, ⟨by simp (disch := decide) only [u2_k, hwU2_eq], fun i hi => ?_⟩, ⟨by simp (disch := decide) only [hwU2_eq], rfl, h5.2.2.2⟩, ⟨by simp (disch := decide) only [u2_k]; exact h6.1, h6.2⟩⟩
          have := h4.2 (i + 1) (by rw [List.length_cons]; omega)
          rw [List.length_cons, show S.length + 1 - 1 - (i + 1) = S.length - 1 - i by omega] at this
          exact this
        obtain ⟨τ1, f1, r2, k2, e42, e43⟩ := m_puts N r1 (by omega) a
        obtain ⟨τ2, f2, r3, k3, g42, g43⟩ := ih n (cnt S) (o ++ [a]) τ1 (by omega) (by rw [List.length_append, show [a].length = 1 from rfl]; omega) r2
        have s67 : ∀ s0 : Int32, σ.1 12 49 - s0 = nI (cnt S) → F_X12_unwinds_b67 N (F_X12_unwinds_b0 N n) (nI r) (nI a) s0 (σ.1 12 49) (hwU2 σ.1 12 48 (nI S.length), σ.2) = some ((), τ2) := by
          intro s0 hs
          unfold F_X12_unwinds_b67
          rw [hs]
          show (F_X12_puts N (nI a) (hwU2 (hwU2 σ.1 12 48 (nI S.length)) 12 49 (nI (cnt S)), σ.2)).bind _ = _
          rw [f1, Option.bind_some]
          exact f2
        refine ⟨τ2, ?_, ?_, (k1.trans k2).trans k3, ?_, ?_⟩
        · rw [u0, if_neg (nI_nlt (by omega) (by have := rk_le a; omega))]
          by_cases q : a = 13 ∨ a = 19
          · have sub1 : σ.1 12 49 - 1 = nI (cnt S) := by
              have := h5.2.1
              rw [cnt, if_pos (Or.inr q)] at this
              rw [h5.1, this, nI_pred]
            rcases q with z | z
            · rw [if_pos (by rw [z]; rfl)]
              unfold F_X12_unwinds_b62
              exact s67 1 sub1
            · rw [if_neg (by rw [z]; decide), if_pos (by rw [z]; rfl)]
              unfold F_X12_unwinds_b62
              exact s67 1 sub1
          · rw [if_neg (neL 13 13 rfl ⟨fun z => q (Or.inl z), by omega, by decide⟩), if_neg (neL 19 19 rfl ⟨fun z => q (Or.inr z), by omega, by decide⟩)]
            refine s67 0 ?_
            have := h5.2.1
            rw [cnt, if_neg (fun z => z.elim n0 q)] at this
            rw [h5.1, this, Int32.sub_zero]
            rfl
        · rw [uw_go cr, dd]; exact r3
        · rw [g42, e42]; simp (disch := decide) only [u2_k]
        · rw [g43, e43]; simp (disch := decide) only [u2_k]

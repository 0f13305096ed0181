/-! THE PURE SIDE, 39: names found in both tables -/
def wst (k i : Nat) : Nat := ntD 0 (ntD [] hwST 2) (k * 6 + i)
def wn (k : Nat) : Nat := ntD 0 [4, 5, 4, 2, 3, 3, 4, 5, 4, 4, 6, 5] k
theorem w_tab : ∀ k, k < 12 → (1 ≤ wn k ∧ wn k ≤ 6) ∧ ∀ i, i < 6 → (i < wn k → 97 ≤ wst k i ∧ wst k i ≤ 122) ∧ (wn k ≤ i → wst k i = 32) := by decide +kernel
theorem w_uni : ∀ k, k < 12 → ∀ j, j < 12 → (∀ i, i < 6 → wst k i = wst j i) → k = j := by decide +kernel
def pad (c : Nat → Nat) (s m j : Nat) : Nat := if j < m then c (s + j) else 32
/-- what was read is the class's k-th word -/
def Mw (c : Nat → Nat) (s m k : Nat) : Prop := m ≤ 6 ∧ ∀ j, j < 6 → pad c s m j = wst k j
def Wat (c : Nat → Nat) (L s e : Nat) (σ : Mem) : Prop := CTp c L σ ∧ σ.1 3 5 = nI e ∧ σ.1 3 6 = nI s ∧ e ≤ L
theorem x_word20 (N : Nat) (c : Nat → Nat) (hc : ∀ k, c k ≤ 255) (L s m k : Nat) (hs : s + m ≤ 160) (hsL : s + m ≤ L) (hk : k < 12) (σ : Mem) (h : CTp c L σ) (h6 : σ.1 3 6 = nI s) : ∀ (q n i : Nat), i + q = 6 → q < n →
    ((∀ j, i ≤ j → j < 6 → pad c s m j = wst k j) → F_X8_isWord_b20 N n (nI k) (nI m) (nI i) σ = some (1, σ)) ∧ (¬ (∀ j, i ≤ j → j < 6 → pad c s m j = wst k j) → F_X8_isWord_b20 N n (nI k) (nI m) (nI i) σ = some (0, σ)) := by
  intro q
  induction q with
  | zero =>
    intro n i hi hn
    cases n with
    | zero => cases hn
    | succ n =>
      have e : F_X8_isWord_b20 N (n + 1) (nI k) (nI m) (nI i) σ = some (1, σ) := by
        rw [F_X8_isWord_b20.eq_2, if_pos (leL_a 6 6 rfl (by omega) (by omega))]
      exact ⟨fun _ => e, fun q => absurd (fun j h1 h2 => by omega) q⟩
  | succ q ih =>
    intro n i hi hn
    cases n with
    | zero => cases hn
    | succ n =>
      obtain ⟨i1, i2⟩ := ih n (i + 1) (by omega) (by omega)
      have hwk := fun j (hj : j < 6) => (w_tab k hk).2 j hj
      have hb : wst k i ≤ 255 := by
        have := hwk i (by omega)
        omega
      have hp : pad c s m i ≤ 255 := by
        unfold pad
        split
        · exact hc _
        · decide
      have e : F_X8_isWord_b20 N (n + 1) (nI k) (nI m) (nI i) σ = if nI (pad c s m i) = nI (wst k i) then F_X8_isWord_b20 N n (nI k) (nI m) (nI (i + 1)) σ else some (0, σ) := by
        have e6 : nI k * 6 + nI i = nI (k * 6 + i) := by rw [show (6 : Int32) = nI 6 from rfl, nI_mul, nI_add]
        rw [F_X8_isWord_b20.eq_2, if_neg (geL_n 6 6 rfl (by omega) (by decide))]
        unfold F_X8_isWord_b47
        rw [e6, nI_1]
        simp only [nI_clamp (show k * 6 + i < 2 ^ 31 by omega)]
        unfold pad
        by_cases cm : i < m
        · rw [if_neg (nI_ge cm (by omega)), h6, nI_add, if_neg (out_nI (by omega) (by decide)), if_neg (out_nI (by omega) (by decide)), nI_clamp (by omega), h.2 (s + i) (by omega), if_pos cm]
          rfl
        · rw [if_pos (nI_le (by omega) (by omega)), if_neg cm, if_neg (out_nI (by omega) (by decide))]
          rfl
      rw [e]
      by_cases g : pad c s m i = wst k i
      · rw [if_pos (by rw [g])]
        refine ⟨fun a => i1 (fun j h1 h2 => a j (by omega) h2), fun a => i2 (fun b => a (fun j h1 h2 => ?_))⟩
        by_cases z : j = i
        · rw [z]; exact g
        · exact b j (by omega) h2
      · rw [if_neg (fun z => g ((nI_eq (by omega) (by omega)).mp z))]
        exact ⟨fun a => absurd (a i (Nat.le_refl _) (by omega)) g, fun _ => rfl⟩
theorem x_isWord (N : Nat) (hN : 160 ≤ N) (c : Nat → Nat) (hc : ∀ k, c k ≤ 255) (L s e k : Nat) (hse : s ≤ e) (he : e ≤ 160) (hk : k < 12) (σ : Mem) (h : Wat c L s e σ) : (Mw c s (e - s) k → F_X8_isWord N (nI k) σ = some (1, σ)) ∧ (¬ Mw c s (e - s) k → F_X8_isWord N (nI k) σ = some (0, σ)) := by
  obtain ⟨h1, h5, h6, heL⟩ := h
  unfold F_X8_isWord
  rw [h5, h6, k_sub hse]
  by_cases c6 : e - s ≤ 6
  · rw [if_pos (leL_b 6 6 rfl c6 (by decide))]
    obtain ⟨a, b⟩ := x_word20 N c hc L s (e - s) k (by omega) (by omega) hk σ h1 h6 6 N 0 (by omega) (by omega)
    exact ⟨fun q => a (fun j _ hj => q.2 j hj), fun q => b (fun z => q ⟨c6, fun j hj => z j (Nat.zero_le _) hj⟩)⟩
  · rw [if_neg (geL_a 6 6 rfl (by omega) (by omega))]
    exact ⟨fun q => absurd q.1 c6, fun _ => rfl⟩
theorem Mw.uni {c : Nat → Nat} {s m k j : Nat} (hk : k < 12) (hj : j < 12) (h : Mw c s m k) (h2 : Mw c s m j) : k = j :=
  w_uni k hk j hj (fun i hi => (h.2 i hi).symm.trans (h2.2 i hi))
theorem x_w46n (N : Nat) (hN : 160 ≤ N) (c : Nat → Nat) (hc : ∀ k, c k ≤ 255) (L s e : Nat) (hse : s ≤ e) (he : e ≤ 160) : ∀ (q n x : Nat) (σ : Mem), x + q = 12 → q < n → Wat c L s e σ → (∀ y, x ≤ y → y < 12 → ¬ Mw c s (e - s) y) → F_X8_readWord_b46 N n (nI x) σ = some ((), σ) := by
  intro q
  induction q with
  | zero =>
    intro n x σ hx hn h ha
    cases n with
    | zero => cases hn
    | succ n => rw [F_X8_readWord_b46.eq_2, if_pos (leL_a 12 12 rfl (by omega) (by omega))]
  | succ q ih =>
    intro n x σ hx hn h ha
    cases n with
    | zero => cases hn
    | succ n =>
      rw [F_X8_readWord_b46.eq_2, if_neg (geL_n 12 12 rfl (by omega) (by decide)), (x_isWord N hN c hc L s e x hse he (by omega) σ h).2 (ha x (Nat.le_refl _) (by omega)), Option.bind_some, k00, nI_1]
      exact ih n (x + 1) σ (by omega) (by omega) h (fun y h1 h2 => ha y (by omega) h2)
theorem x_w46y (N : Nat) (hN : 160 ≤ N) (c : Nat → Nat) (hc : ∀ k, c k ≤ 255) (L s e k : Nat) (hse : s ≤ e) (he : e ≤ 160) (hk : k < 12) (hm : Mw c s (e - s) k) : ∀ (q n x : Nat) (σ : Mem), x + q = k → 12 - x < n → Wat c L s e σ → F_X8_readWord_b46 N n (nI x) σ = some ((), (hwU2 (hwU2 σ.1 3 7 (if 6 ≤ k then 3 else nI (4 + k))) 3 8 (nI k - 6), σ.2)) := by
  intro q
  induction q with
  | zero =>
    intro n x σ hx hn h
    cases n with
    | zero => cases hn
    | succ n =>
      have ex : x = k := by omega
      subst ex
      have w : ∀ v, Wat c L s e (hwU2 (hwU2 σ.1 3 7 v) 3 8 (nI x - 6), σ.2) := fun v => ⟨⟨by simp (disch := decide) only [u2_k]; exact h.1.1, h.1.2⟩, by simp (disch := decide) only [u2_k]; exact h.2.1, by simp (disch := decide) only [u2_k]; exact h.2.2.1, h.2.2.2⟩
      have nx : ∀ v, F_X8_readWord_b46 N n (nI (x + 1)) (hwU2 (hwU2 σ.1 3 7 v) 3 8 (nI x - 6), σ.2) = some ((), (hwU2 (hwU2 σ.1 3 7 v) 3 8 (nI x - 6), σ.2)) := fun v => x_w46n N hN c hc L s e hse he (12 - (x + 1)) n (x + 1) _ (by omega) (by omega) (w v) (fun y h1 h2 z => by
        have := Mw.uni hk h2 hm z
        omega)
      rw [F_X8_readWord_b46.eq_2, if_neg (geL_n 12 12 rfl (by omega) (by decide)), (x_isWord N hN c hc L s e x hse he (by omega) σ h).1 hm, Option.bind_some, k10, nI_1]
      by_cases c6 : 6 ≤ x
      · rw [if_pos (leL_a 6 6 rfl c6 (by omega)), if_pos c6]
        exact nx 3
      · rw [if_neg (geL_n 6 6 rfl (by omega) (by decide)), if_neg c6, show (4 : Int32) = nI 4 from rfl, nI_add]
        exact nx _
  | succ q ih =>
    intro n x σ hx hn h
    cases n with
    | zero => cases hn
    | succ n =>
      rw [F_X8_readWord_b46.eq_2, if_neg (geL_n 12 12 rfl (by omega) (by decide)), (x_isWord N hN c hc L s e x hse he (by omega) σ h).2 (fun z => by
        have := Mw.uni hk (by omega) hm z
        omega), Option.bind_some, k00, nI_1]
      exact ih n (x + 1) σ (by omega) (by omega) h
/-! the reference's table -/
def cl (r : Nat) : Nat := if r < 3 then r else if r < 9 then r + 3 else r - 6
def Wd (σ : Mem) : Prop := ∀ r, r < 12 → σ.2.2.2.1 98 0 r = Int64.ofNat (pk (wst (cl r)) (wn (cl r)))
theorem cl_lt : ∀ r, r < 12 → cl r < 12 := by decide
theorem cl_onto : ∀ k, k < 12 → ∃ r, r < 12 ∧ cl r = k := by decide
theorem cl_inj : ∀ r, r < 12 → ∀ j, j < 12 → cl r = cl j → r = j := by decide
/-- what was packed, and which word it is -/
def pkv (c : Nat → Nat) (s m : Nat) : Int64 := if m ≤ 6 then Int64.ofNat (pk (fun i => c (s + i)) m) else 0
theorem ofN64 {a b : Nat} (ha : a < 2 ^ 63) (hb : b < 2 ^ 63) (h : Int64.ofNat a = Int64.ofNat b) : a = b := by
  have := congrArg Int64.toInt h
  rw [Int64.toInt_ofNat_of_lt ha, Int64.toInt_ofNat_of_lt hb] at this
  omega
theorem pk48 {c : Nat → Nat} {m : Nat} (hm : m ≤ 6) (h : ∀ i, i < m → c i ≤ 255) : pk c m < 2 ^ 63 :=
  Nat.lt_of_lt_of_le (pkc_lt m h) (Nat.le_trans (Nat.pow_le_pow_right (n := 256) (by decide) hm) (by decide))
theorem pkv_iff {c : Nat → Nat} {s m k : Nat} (hk : k < 12) (ha : ∀ i, i < m → isLt (c (s + i))) (hm1 : 1 ≤ m) : Int64.ofNat (pk (wst k) (wn k)) = pkv c s m ↔ Mw c s m k := by
  obtain ⟨⟨w1, w6⟩, wt⟩ := w_tab k hk
  have wb : ∀ i, i < wn k → 1 ≤ wst k i ∧ wst k i ≤ 255 := fun i hi => by
    have := (wt i (by omega)).1 hi
    omega
  have wl := pk48 w6 (fun i hi => (wb i hi).2)
  unfold pkv
  constructor
  · intro h
    by_cases c6 : m ≤ 6
    · rw [if_pos c6] at h
      have cb : ∀ i, i < m → 1 ≤ c (s + i) ∧ c (s + i) ≤ 255 := fun i hi => by
        have := ha i hi
        unfold isLt at this
        omega
      have e := ofN64 wl (pk48 (c := fun i => c (s + i)) c6 (fun i hi => (cb i hi).2)) h
      obtain ⟨e1, e2⟩ := pk_inj (wn k) m wb cb e
      refine ⟨c6, fun j hj => ?_⟩
      unfold pad
      by_cases cj : j < m
      · rw [if_pos cj]; exact (e2 j (by omega)).symm
      · rw [if_neg cj]; exact ((wt j hj).2 (by omega)).symm
    · rw [if_neg c6] at h
      have e := ofN64 wl (b := 0) (by decide) h
      obtain ⟨n, en⟩ : ∃ n, wn k = n + 1 := ⟨wn k - 1, by omega⟩
      rw [en, pk] at e
      have := wb n (by omega)
      omega
  · intro h
    rw [if_pos h.1]
    have em : m = wn k := by
      apply Classical.byContradiction
      intro ne
      by_cases lt : m < wn k
      · have a := h.2 m (by omega)
        unfold pad at a
        rw [if_neg (by omega)] at a
        have := (wt m (by omega)).1 lt
        omega
      · have a := h.2 (wn k) (by have := h.1; omega)
        unfold pad at a
        rw [if_pos (by omega)] at a
        have b := (wt (wn k) (by have := h.1; omega)).2 (Nat.le_refl _)
        have := ha (wn k) (by omega)
        unfold isLt at this
        omega
    congr 1
    rw [← em]
    have pe : ∀ (f f' : Nat → Nat) (n : Nat), (∀ i, i < n → f i = f' i) → pk f n = pk f' n := by
      intro f f' n
      induction n with
      | zero => intro _; rfl
      | succ n ih => intro q; rw [pk, pk, ih (fun i hi => q i (by omega)), q n (by omega)]
    refine pe _ _ m (fun i hi => ?_)
    have a := h.2 i (by have := h.1; omega)
    unfold pad at a
    rw [if_pos hi] at a
    exact a.symm

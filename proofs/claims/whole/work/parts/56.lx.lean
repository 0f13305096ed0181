/-! THE PURE SIDE, 37: the text's words, read alike -/
theorem u2_u2 {α : Type} {f : Nat → Nat → α} {t k : Nat} {v w : α} : hwU2 (hwU2 f t k v) t k w = hwU2 f t k w := by
  funext a c
  by_cases e : a = t ∧ c = k
  · rw [hwU2_get, if_pos e, hwU2_get, if_pos e]
  · rw [hwU2_get, if_neg e, hwU2_get, if_neg e, hwU2_get, if_neg e]
theorem lg_eq {x y : Int64} : lg_cmp x y = 0 ↔ x = y := by
  unfold lg_cmp
  constructor
  · intro h
    by_cases c : x > y
    · rw [if_pos c] at h; exact absurd h (by decide)
    · rw [if_neg c] at h
      by_cases d : x = y
      · exact d
      · rw [if_neg d] at h; exact absurd h (by decide)
  · intro h
    subst h
    have n : ¬ x > x := fun q => by have := Int64.lt_iff_toInt_lt.mp q; omega
    rw [if_neg n, if_pos rfl]
/-- the class holds this tape, up to L -/
def CTp (c : Nat → Nat) (L : Nat) (σ : Mem) : Prop := σ.1 3 3 = nI L ∧ ∀ k, k < L → σ.2.2.1 62 0 k = nI (c k)
def MTp (c : Nat → Nat) (L : Nat) (σ : Mem) : Prop := σ.1 12 24 = nI L ∧ ∀ k, k < L → σ.2.2.1 86 0 k = nI (c k)
def isSp (x : Nat) : Prop := x = 32 ∨ x = 10
def isLt (x : Nat) : Prop := 97 ≤ x ∧ x ≤ 122
def isDg (x : Nat) : Prop := 48 ≤ x ∧ x ≤ 57
theorem x_isLt (N x : Nat) (hx : x ≤ 255) (σ : Mem) : (isLt x → F_X8_isLetter N (nI x) σ = some (1, σ)) ∧ (¬ isLt x → F_X8_isLetter N (nI x) σ = some (0, σ)) := by
  unfold F_X8_isLetter
  constructor
  · intro h
    rw [if_neg (nltL_b 97 97 rfl h.1 (by omega)), if_neg (nltL_a 122 122 rfl h.2 (by decide))]
  · intro h
    by_cases c : x < 97
    · rw [if_pos (ltL_b 97 97 rfl c (by decide))]
    · rw [if_neg (nltL_b 97 97 rfl (by omega) (by omega)), if_pos (ltL_a 122 122 rfl (by unfold isLt at h; omega) (by omega))]
theorem x_isDg (N x : Nat) (hx : x ≤ 255) (σ : Mem) : (isDg x → F_X8_isDigit N (nI x) σ = some (1, σ)) ∧ (¬ isDg x → F_X8_isDigit N (nI x) σ = some (0, σ)) := by
  unfold F_X8_isDigit
  constructor
  · intro h
    rw [if_neg (nltL_b 48 48 rfl h.1 (by omega)), if_neg (nltL_a 57 57 rfl h.2 (by decide))]
  · intro h
    by_cases c : x < 48
    · rw [if_pos (ltL_b 48 48 rfl c (by decide))]
    · rw [if_neg (nltL_b 48 48 rfl (by omega) (by omega)), if_pos (ltL_a 57 57 rfl (by unfold isDg at h; omega) (by omega))]
theorem m_isLt (N x : Nat) (hx : x ≤ 255) (σ : Mem) : (isLt x → F_X12_in N (nI x) 97 122 σ = some (1, σ)) ∧ (¬ isLt x → F_X12_in N (nI x) 97 122 σ = some (0, σ)) := by
  constructor
  · intro h
    exact m_in_y (nltL_b 97 97 rfl h.1 (by omega)) (nltL_a 122 122 rfl h.2 (by decide))
  · intro h
    apply m_in_n
    by_cases c : x < 97
    · exact Or.inl (ltL_b 97 97 rfl c (by decide))
    · exact Or.inr (ltL_a 122 122 rfl (by unfold isLt at h; omega) (by omega))
theorem m_isDg (N x : Nat) (hx : x ≤ 255) (σ : Mem) : (isDg x → F_X12_in N (nI x) 48 57 σ = some (1, σ)) ∧ (¬ isDg x → F_X12_in N (nI x) 48 57 σ = some (0, σ)) := by
  constructor
  · intro h
    exact m_in_y (nltL_b 48 48 rfl h.1 (by omega)) (nltL_a 57 57 rfl h.2 (by decide))
  · intro h
    apply m_in_n
    by_cases c : x < 48
    · exact Or.inl (ltL_b 48 48 rfl c (by decide))
    · exact Or.inr (ltL_a 57 57 rfl (by unfold isDg at h; omega) (by omega))
/-- past what parts the words -/
theorem skips (N : Nat) (c : Nat → Nat) (hc : ∀ k, c k ≤ 255) (L : Nat) (hL : L ≤ 160) : ∀ (q p : Nat), p + q = L → ∃ s, p ≤ s ∧ s ≤ L ∧ (s < L → ¬ isSp (c s)) ∧
    (∀ n σ, q < n → CTp c L σ → σ.1 3 5 = nI p → F_X8_step_b0 N n σ = F_X8_step_b52 N (hwU2 σ.1 3 5 (nI s), σ.2)) ∧
    (∀ n σ, q < n → MTp c L σ → σ.1 12 42 = nI p → F_X12_nextToken_b0 N n σ = F_X12_nextToken_b52 N (hwU2 σ.1 12 42 (nI s), σ.2)) := by
  intro q
  induction q with
  | zero =>
    intro p hp
    have e : p = L := by omega
    subst e
    refine ⟨p, Nat.le_refl _, Nat.le_refl _, fun h => absurd h (Nat.lt_irrefl p), fun n σ hn h h5 => ?_, fun n σ hn h h5 => ?_⟩
    · cases n with
      | zero => cases hn
      | succ n => rw [F_X8_step_b0.eq_2, h.1, h5, if_pos (nI_le (Nat.le_refl _) (by omega)), u2_same h5.symm]
    · cases n with
      | zero => cases hn
      | succ n => rw [F_X12_nextToken_b0.eq_2, h.1, h5, if_pos (nI_le (Nat.le_refl _) (by omega)), u2_same h5.symm]
  | succ q ih =>
    intro p hp
    by_cases sp : isSp (c p)
    · obtain ⟨s, s1, s2, s3, sx, sm⟩ := ih (p + 1) (by omega)
      refine ⟨s, by omega, s2, s3, fun n σ hn h h5 => ?_, fun n σ hn h h5 => ?_⟩
      · cases n with
        | zero => cases hn
        | succ n =>
          have r := sx n (hwU2 σ.1 3 5 (nI (p + 1)), σ.2) (by omega) ⟨(show hwU2 σ.1 3 5 (nI (p + 1)) 3 3 = _ from (u2_k (by decide)).trans h.1), h.2⟩ (show hwU2 σ.1 3 5 (nI (p + 1)) 3 5 = _ from hwU2_eq)
          rw [show hwU2 (hwU2 σ.1 3 5 (nI (p + 1)), σ.2).1 3 5 (nI s) = hwU2 σ.1 3 5 (nI s) from u2_u2] at r
          rw [F_X8_step_b0.eq_2, h.1, h5, if_neg (nI_ge (by omega) (by omega)), if_neg (out_nI (by omega) (by decide))]
          simp only [nI_clamp (show p < 2 ^ 31 by omega)]
          rw [h.2 p (by omega), nI_1]
          rcases sp with e | e
          · rw [e, if_pos (show nI 32 = 32 from rfl)]; exact r
          · rw [e, if_neg (show ¬ nI 10 = 32 by decide), if_neg (out_nI (by omega) (by decide)), if_pos (show nI 10 = 10 from rfl)]; exact r
      · cases n with
        | zero => cases hn
        | succ n =>
          have r := sm n (hwU2 σ.1 12 42 (nI (p + 1)), σ.2) (by omega) ⟨(show hwU2 σ.1 12 42 (nI (p + 1)) 12 24 = _ from (u2_k (by decide)).trans h.1), h.2⟩ (show hwU2 σ.1 12 42 (nI (p + 1)) 12 42 = _ from hwU2_eq)
          rw [show hwU2 (hwU2 σ.1 12 42 (nI (p + 1)), σ.2).1 12 42 (nI s) = hwU2 σ.1 12 42 (nI s) from u2_u2] at r
          rw [F_X12_nextToken_b0.eq_2, h.1, h5, if_neg (nI_ge (by omega) (by omega)), if_neg (out_nI (by omega) (by decide))]
          simp only [nI_clamp (show p < 2 ^ 31 by omega)]
          rw [h.2 p (by omega), nI_1]
          rcases sp with e | e
          · rw [e, if_pos (show nI 32 = 32 from rfl)]; exact r
          · rw [e, if_neg (show ¬ nI 10 = 32 by decide), if_neg (out_nI (by omega) (by decide)), if_pos (show nI 10 = 10 from rfl)]; exact r
    · have n32 : ¬ nI (c p) = 32 := neL 32 32 rfl ⟨fun e => sp (Or.inl e), by have := hc p; omega, by decide⟩
      have n10 : ¬ nI (c p) = 10 := neL 10 10 rfl ⟨fun e => sp (Or.inr e), by have := hc p; omega, by decide⟩
      refine ⟨p, Nat.le_refl _, by omega, fun _ => sp, fun n σ hn h h5 => ?_, fun n σ hn h h5 => ?_⟩
      · cases n with
        | zero => cases hn
        | succ n =>
          rw [F_X8_step_b0.eq_2, h.1, h5, if_neg (nI_ge (by omega) (by omega)), if_neg (out_nI (by omega) (by decide))]
          simp only [nI_clamp (show p < 2 ^ 31 by omega)]
          rw [h.2 p (by omega), if_neg n32, if_neg (out_nI (by omega) (by decide)), if_neg n10, u2_same h5.symm]
      · cases n with
        | zero => cases hn
        | succ n =>
          rw [F_X12_nextToken_b0.eq_2, h.1, h5, if_neg (nI_ge (by omega) (by omega)), if_neg (out_nI (by omega) (by decide))]
          simp only [nI_clamp (show p < 2 ^ 31 by omega)]
          rw [h.2 p (by omega), if_neg n32, if_neg (out_nI (by omega) (by decide)), if_neg n10, u2_same h5.symm]
/-- letters packed, eight bits each -/
def pk (c : Nat → Nat) : Nat → Nat
  | 0 => 0
  | m + 1 => pk c m * 256 + c m
theorem pk_inj {c d : Nat → Nat} : ∀ (m n : Nat), (∀ i, i < m → 1 ≤ c i ∧ c i ≤ 255) → (∀ i, i < n → 1 ≤ d i ∧ d i ≤ 255) → pk c m = pk d n → m = n ∧ ∀ i, i < m → c i = d i
  | 0, 0, _, _, _ => ⟨rfl, fun i h => absurd h (Nat.not_lt_zero i)⟩
  | 0, n + 1, _, hd, e => by
    have := hd n (by omega)
    rw [pk, pk] at e
    omega
  | m + 1, 0, hc, _, e => by
    have := hc m (by omega)
    rw [pk, pk] at e
    omega
  | m + 1, n + 1, hc, hd, e => by
    have h1 := hc m (by omega)
    have h2 := hd n (by omega)
    rw [pk, pk] at e
    obtain ⟨a, b⟩ := pk_inj m n (fun i hi => hc i (by omega)) (fun i hi => hd i (by omega)) (by omega)
    subst a
    refine ⟨rfl, fun i hi => ?_⟩
    by_cases q : i = m
    · subst q; omega
    · exact b i (by omega)
theorem pkc_lt {c : Nat → Nat} : ∀ m, (∀ i, i < m → c i ≤ 255) → pk c m < 256 ^ m
  | 0, _ => (by decide : (0 : Nat) < 1)
  | m + 1, h => by
    have h1 := pkc_lt m (fun i hi => h i (by omega))
    have h2 := h m (by omega)
    rw [pk, Nat.pow_succ]
    omega
theorem or_pk (X y : Nat) (hX : X < 2 ^ 40) (hy : y ≤ 255) : (((Int64.ofNat X) <<< (((8 : Int32)).toInt64 &&& 63)) ||| (nI y).toInt64) = Int64.ofNat (X * 256 + y) := by
  have e8 : ((8 : Int32)).toInt64 &&& 63 = 8 := by decide
  rw [e8]
  have ey : (nI y).toInt64 = Int64.ofNat y := by
    apply Int64.toInt_inj.mp
    rw [Int32.toInt_toInt64, nI_toInt (by omega), Int64.toInt_ofNat_of_lt (by omega)]
  rw [ey]
  apply Int64.toBitVec_inj.mp
  rw [Int64.toBitVec_or, Int64.toBitVec_shiftLeft]
  apply BitVec.eq_of_toNat_eq
  rw [BitVec.toNat_or]
  have e1 : ((Int64.ofNat X).toBitVec <<< ((8 : Int64).toBitVec.smod 64)).toNat = X * 256 := by
    rw [show ((8 : Int64).toBitVec.smod 64) = (8#64) by decide]
    rw [BitVec.shiftLeft_eq', BitVec.toNat_shiftLeft]
    rw [show (8#64).toNat = 8 by decide, show (Int64.ofNat X).toBitVec.toNat = X from by
      show (BitVec.ofNat 64 X).toNat = X
      rw [BitVec.toNat_ofNat, Nat.mod_eq_of_lt (by omega)], Nat.shiftLeft_eq, Nat.mod_eq_of_lt (by omega)]
  rw [e1]
  rw [show (Int64.ofNat y).toBitVec.toNat = y from by
    show (BitVec.ofNat 64 y).toNat = y
    rw [BitVec.toNat_ofNat, Nat.mod_eq_of_lt (by omega)], show (Int64.ofNat (X * 256 + y)).toBitVec.toNat = X * 256 + y from by
    show (BitVec.ofNat 64 _).toNat = _
    rw [BitVec.toNat_ofNat, Nat.mod_eq_of_lt (by omega)]]
  rw [Nat.mul_comm X 256]
  exact (Nat.two_pow_add_eq_or_of_lt (i := 8) (show y < 2 ^ 8 by omega) X).symm
theorem runs_lt (N : Nat) (c : Nat → Nat) (hc : ∀ k, c k ≤ 255) (L : Nat) (hL : L ≤ 160) (s : Nat) : ∀ (q p : Nat), p + q = L → s ≤ p → (∀ i, s ≤ i → i < p → isLt (c i)) → ∃ e, p ≤ e ∧ e ≤ L ∧ (∀ i, s ≤ i → i < e → isLt (c i)) ∧ (p < L → isLt (c p) → p < e) ∧
    (∀ n σ, q < n → CTp c L σ → σ.1 3 5 = nI p → F_X8_readWord_b0 N n σ = F_X8_readWord_b46 N N 0 (hwU2 (hwU2 σ.1 3 5 (nI e)) 3 7 1, σ.2)) ∧
    (∀ n σ x1, q < n → MTp c L σ → σ.1 12 42 = nI p → (p - s ≤ 6 → x1 = Int64.ofNat (pk (fun i => c (s + i)) (p - s))) → F_X12_letters_b4 N n x1 (nI (p - s)) σ = some (if e - s ≤ 6 then Int64.ofNat (pk (fun i => c (s + i)) (e - s)) else 0, (hwU2 σ.1 12 42 (nI e), σ.2))) := by
  intro q
  have fin : ∀ (p : Nat), s ≤ p → p ≤ L → ∀ (x1 : Int64) (σ : Mem), σ.1 12 42 = nI p → (p - s ≤ 6 → x1 = Int64.ofNat (pk (fun i => c (s + i)) (p - s))) → F_X12_letters_b76 N x1 (nI (p - s)) σ = some (if p - s ≤ 6 then Int64.ofNat (pk (fun i => c (s + i)) (p - s)) else 0, (hwU2 σ.1 12 42 (nI p), σ.2)) := by
    intro p h1 h2 x1 σ h5 hx
    unfold F_X12_letters_b76
    rw [u2_same h5.symm]
    by_cases c6 : p - s ≤ 6
    · rw [if_pos (leL_b 6 6 rfl c6 (by decide)), if_pos c6, hx c6]
    · rw [if_neg (geL_a 6 6 rfl (by omega) (by omega)), if_neg c6]
  induction q with
  | zero =>
    intro p hp hs ha
    have e : p = L := by omega
    subst e
    refine ⟨p, Nat.le_refl _, Nat.le_refl _, ha, fun h => absurd h (Nat.lt_irrefl p), fun n σ hn h h5 => ?_, fun n σ x1 hn h h5 hx => ?_⟩
    · cases n with
      | zero => cases hn
      | succ n => rw [F_X8_readWord_b0.eq_2, h.1, h5, if_pos (nI_le (Nat.le_refl _) (by omega)), u2_same (f := σ.1) (k := 5) h5.symm]
    · cases n with
      | zero => cases hn
      | succ n =>
        rw [F_X12_letters_b4.eq_2, h.1, h5, if_pos (nI_le (Nat.le_refl _) (by omega))]
        exact fin p hs (Nat.le_refl _) x1 σ h5 hx
  | succ q ih =>
    intro p hp hs ha
    by_cases sp : isLt (c p)
    · obtain ⟨e, s1, s2, s3, -, sx, sm⟩ := ih (p + 1) (by omega) (by omega) (fun i h1 h2 => by
        by_cases z : i = p
        · rw [z]; exact sp
        · exact ha i h1 (by omega))
      refine ⟨e, by omega, s2, s3, fun _ _ => by omega, fun n σ hn h h5 => ?_, fun n σ x1 hn h h5 hx => ?_⟩
      · cases n with
        | zero => cases hn
        | succ n =>
          have r := sx n (hwU2 σ.1 3 5 (nI (p + 1)), σ.2) (by omega) ⟨(show hwU2 σ.1 3 5 (nI (p + 1)) 3 3 = _ from (u2_k (by decide)).trans h.1), h.2⟩ (show hwU2 σ.1 3 5 (nI (p + 1)) 3 5 = _ from hwU2_eq)
          rw [show hwU2 (hwU2 σ.1 3 5 (nI (p + 1)), σ.2).1 3 5 (nI e) = hwU2 σ.1 3 5 (nI e) from u2_u2] at r
          rw [F_X8_readWord_b0.eq_2, h.1, h5, if_neg (nI_ge (by omega) (by omega)), if_neg (out_nI (by omega) (by decide)), nI_clamp (by omega), h.2 p (by omega), (x_isLt N (c p) (hc p) σ).1 sp, Option.bind_some, k10]
          show F_X8_readWord_b0 N n (hwU2 σ.1 3 5 (σ.1 3 5 + 1), σ.2) = _
          rw [h5, nI_1]
          exact r
      · cases n with
        | zero => cases hn
        | succ n =>
          have step : ∀ y1 : Int64, (p + 1 - s ≤ 6 → y1 = Int64.ofNat (pk (fun i => c (s + i)) (p + 1 - s))) → F_X12_letters_b59 N (F_X12_letters_b4 N n) (nI (p - s)) y1 σ = some (if e - s ≤ 6 then Int64.ofNat (pk (fun i => c (s + i)) (e - s)) else 0, (hwU2 σ.1 12 42 (nI e), σ.2)) := by
            intro y1 hy
            have r := sm n (hwU2 σ.1 12 42 (nI (p + 1)), σ.2) y1 (by omega) ⟨(show hwU2 σ.1 12 42 (nI (p + 1)) 12 24 = _ from (u2_k (by decide)).trans h.1), h.2⟩ (show hwU2 σ.1 12 42 (nI (p + 1)) 12 42 = _ from hwU2_eq) hy
            rw [show hwU2 (hwU2 σ.1 12 42 (nI (p + 1)), σ.2).1 12 42 (nI e) = hwU2 σ.1 12 42 (nI e) from u2_u2] at r
            unfold F_X12_letters_b59
            rw [h5, nI_1, nI_1, show p - s + 1 = p + 1 - s by omega]
            exact r
          rw [F_X12_letters_b4.eq_2, h.1, h5, if_neg (nI_ge (by omega) (by omega)), if_neg (out_nI (by omega) (by decide)), nI_clamp (by omega), h.2 p (by omega), (m_isLt N (c p) (hc p) σ).1 sp, Option.bind_some, k10]
          by_cases c8 : 8 ≤ p - s
          · rw [if_pos (leL_a 8 8 rfl c8 (by omega))]
            exact step x1 (fun q => by omega)
          · rw [if_neg (geL_n 8 8 rfl (by omega) (by decide))]
            show (if hwOut (σ.1 12 42) 160 then none else F_X12_letters_b59 N (F_X12_letters_b4 N n) (nI (p - s)) ((x1 <<< (((8 : Int32)).toInt64 &&& 63)) ||| (σ.2.2.1 86 0 ((σ.1 12 42)).toNatClampNeg).toInt64) σ) = _
            rw [h5, if_neg (out_nI (by omega) (by decide)), nI_clamp (by omega), h.2 p (by omega)]
            refine step _ (fun q => ?_)
            rw [hx (by omega), or_pk _ _ (Nat.lt_of_lt_of_le (pkc_lt (p - s) (fun i _ => hc _)) (show 256 ^ (p - s) ≤ 2 ^ 40 from Nat.le_trans (Nat.pow_le_pow_right (n := 256) (by decide) (show p - s ≤ 5 by omega)) (by decide))) (hc p), show p + 1 - s = (p - s) + 1 by omega, pk, show s + (p - s) = p by omega]
    · refine ⟨p, Nat.le_refl _, by omega, ha, fun _ h => absurd h sp, fun n σ hn h h5 => ?_, fun n σ x1 hn h h5 hx => ?_⟩
      · cases n with
        | zero => cases hn
        | succ n =>
          rw [F_X8_readWord_b0.eq_2, h.1, h5, if_neg (nI_ge (by omega) (by omega)), if_neg (out_nI (by omega) (by decide)), nI_clamp (by omega), h.2 p (by omega), (x_isLt N (c p) (hc p) σ).2 sp, Option.bind_some, k00, u2_same (f := σ.1) (k := 5) h5.symm]
      · cases n with
        | zero => cases hn
        | succ n =>
          rw [F_X12_letters_b4.eq_2, h.1, h5, if_neg (nI_ge (by omega) (by omega)), if_neg (out_nI (by omega) (by decide)), nI_clamp (by omega), h.2 p (by omega), (m_isLt N (c p) (hc p) σ).2 sp, Option.bind_some, k00]
          exact fin p hs (by omega) x1 σ h5 hx
/-- digits, as a number -/
def dv (c : Nat → Nat) : Nat → Nat
  | 0 => 0
  | m + 1 => dv c m * 10 + (c m - 48)
theorem dv_lt {c : Nat → Nat} : ∀ m, (∀ i, i < m → isDg (c i)) → dv c m < 10 ^ m
  | 0, _ => (by decide : (0 : Nat) < 1)
  | m + 1, h => by
    have h1 := dv_lt m (fun i hi => h i (by omega))
    have h2 := (h m (by omega)).2
    rw [dv, Nat.pow_succ]
    omega
/-- the class's reader alone: what a word leaves -/
def KTk (σ τ : Mem) : Prop := τ.2 = σ.2 ∧ (∀ t, t ≠ 3 → τ.1 t = σ.1 t) ∧ ∀ k, k < 5 ∨ 8 < k → τ.1 3 k = σ.1 3 k
theorem KTk.rfl_ (σ : Mem) : KTk σ σ := ⟨rfl, fun _ _ => rfl, fun _ _ => rfl⟩
theorem KTk.trans {σ τ υ : Mem} (h : KTk σ τ) (k : KTk τ υ) : KTk σ υ := ⟨k.1.trans h.1, fun t a => (k.2.1 t a).trans (h.2.1 t a), fun t a => (k.2.2 t a).trans (h.2.2 t a)⟩
theorem KTk.w {σ : Mem} {k : Nat} {v : Int32} (h : 5 ≤ k ∧ k ≤ 8) : KTk σ (hwU2 σ.1 3 k v, σ.2) := ⟨rfl, fun t ht => u2_t ht, fun j hj => u2_k (by omega)⟩
def KLk (σ τ : Mem) : Prop := τ.2 = σ.2 ∧ (∀ t, t ≠ 12 → τ.1 t = σ.1 t) ∧ ∀ k, k < 42 ∨ 45 < k → τ.1 12 k = σ.1 12 k
theorem KLk.rfl_ (σ : Mem) : KLk σ σ := ⟨rfl, fun _ _ => rfl, fun _ _ => rfl⟩
theorem KLk.trans {σ τ υ : Mem} (h : KLk σ τ) (k : KLk τ υ) : KLk σ υ := ⟨k.1.trans h.1, fun t a => (k.2.1 t a).trans (h.2.1 t a), fun t a => (k.2.2 t a).trans (h.2.2 t a)⟩
theorem KLk.w {σ : Mem} {k : Nat} {v : Int32} (h : 42 ≤ k ∧ k ≤ 45) : KLk σ (hwU2 σ.1 12 k v, σ.2) := ⟨rfl, fun t ht => u2_t ht, fun j hj => u2_k (by omega)⟩
theorem CTp.kt {c : Nat → Nat} {L : Nat} {σ τ : Mem} (h : CTp c L σ) (k : KTk σ τ) : CTp c L τ := ⟨(k.2.2 3 (by decide)).trans h.1, by rw [k.1]; exact h.2⟩
theorem MTp.kl {c : Nat → Nat} {L : Nat} {σ τ : Mem} (h : MTp c L σ) (k : KLk σ τ) : MTp c L τ := ⟨(k.2.2 24 (by decide)).trans h.1, by rw [k.1]; exact h.2⟩

/-! THE START, 2: both agree at first -/
/-- what the class's own start leaves alone -/
def KIn (σ τ : Mem) : Prop := (∀ a, a ≠ 2 → a ≠ 3 → τ.1 a = σ.1 a) ∧ τ.2.1 = σ.2.1 ∧ (∀ a, a ≠ 39 → a ≠ 41 → a ≠ 42 → a ≠ 44 → a ≠ 46 → a ≠ 47 → a ≠ 48 → a ≠ 62 → a ≠ 63 → a ≠ 64 → τ.2.2.1 a = σ.2.2.1 a) ∧ τ.2.2.2 = σ.2.2.2
theorem KIn.trans {σ τ υ : Mem} (h : KIn σ τ) (k : KIn τ υ) : KIn σ υ := ⟨fun a x y => (k.1 a x y).trans (h.1 a x y), k.2.1.trans h.2.1, fun a b1 b2 b3 b4 b5 b6 b7 b8 b9 b10 => (k.2.2.1 a b1 b2 b3 b4 b5 b6 b7 b8 b9 b10).trans (h.2.2.1 a b1 b2 b3 b4 b5 b6 b7 b8 b9 b10), k.2.2.2.trans h.2.2.2⟩
theorem KIn.g {σ τ : Mem} (h : KIn σ τ) : gM τ = gM σ := by
  unfold gM
  funext t k
  rw [h.1 12 (by decide) (by decide)]
  cases e : Nat.beq t 12 with
  | true => rfl
  | false =>
    cases e2 : (Nat.ble 72 t && Nat.ble t 97) with
    | false => rfl
    | true =>
      simp only [Bool.and_eq_true] at e2
      have := Nat.le_of_ble_eq_true e2.1
      rw [h.2.2.1 t (by omega) (by omega) (by omega) (by omega) (by omega) (by omega) (by omega) (by omega) (by omega) (by omega)]
theorem mR_ki (sc : Nat × (Nat → Int32)) (i : Nat) : KIn (mI sc) (mR sc i) := by
  obtain ⟨h1, h2, h3, h4, h5, h6, h7⟩ := mR_at sc i
  exact ⟨fun a _ y => h3 a y, h6, fun a _ _ _ _ _ _ _ b8 _ _ => h5 a b8, h7⟩
def iG : Nat → Nat → Int32 := gM (mI (0, fun _ => 0))
theorem iG_eq (sc : Nat × (Nat → Int32)) : gM (mI sc) = iG := rfl
theorem i_wf0 : Wf iG := by
  have z : ∀ m, isN 0 m := fun m => ⟨by decide, Nat.zero_le m⟩
  have z72 : ∀ t, (72 ≤ t ∧ t ≤ 86) ∨ (89 ≤ t ∧ t ≤ 94) ∨ t = 96 ∨ t = 97 → ∀ k, iG t k = 0 := fun t ht k => by
    have q : t = 72 ∨ t = 73 ∨ t = 74 ∨ t = 75 ∨ t = 76 ∨ t = 77 ∨ t = 78 ∨ t = 79 ∨ t = 80 ∨ t = 81 ∨ t = 82 ∨ t = 83 ∨ t = 84 ∨ t = 85 ∨ t = 86 ∨ t = 89 ∨ t = 90 ∨ t = 91 ∨ t = 92 ∨ t = 93 ∨ t = 94 ∨ t = 96 ∨ t = 97 := by omega
    rcases q with e | e | e | e | e | e | e | e | e | e | e | e | e | e | e | e | e | e | e | e | e | e | e <;> (subst e; rfl)
  have zz : ∀ t m, (72 ≤ t ∧ t ≤ 86) ∨ (89 ≤ t ∧ t ≤ 94) ∨ t = 96 ∨ t = 97 → ∀ k, isN (iG t k) m := fun t m ht k => by rw [z72 t ht k]; exact z m
  have f : ∀ k, k ≤ 40 → iG 12 k = ntD 0 [4, 200, 0, 300, 20, 0, 0, 0, 0, 0, 0, 0, 0, 0, 0, 0, 0, 0, 0, 0, 0, 0, 0, 0, 0, 0, 0, 1] k := fun k hk => gM_f (mI (0, fun _ => 0)) hk
  have n : ∀ k m, k ≤ 40 → isN (ntD 0 [4, 200, 0, 300, 20, 0, 0, 0, 0, 0, 0, 0, 0, 0, 0, 0, 0, 0, 0, 0, 0, 0, 0, 0, 0, 0, 0, 1] k) m → isN (iG 12 k) m := fun k m hk h => by rw [f k hk]; exact h
  have t27 : (iG 12 27).toNatClampNeg = 1 := by rw [f 27 (by decide)]; decide
  have t10 : (iG 12 10).toNatClampNeg = 0 := by rw [f 10 (by decide)]; decide
  have i4 : isN (4 : Int32) 5 := by unfold isN; decide
  refine ⟨⟨n 0 5 (by decide) i4, by rw [f 0 (by decide)]; decide⟩, n 1 _ (by decide) (by unfold isN; decide), n 2 _ (by decide) (z _), n 3 _ (by decide) (by unfold isN; decide), n 4 _ (by decide) (by unfold isN; decide), n 5 _ (by decide) (z _), n 10 _ (by decide) (z _), n 16 _ (by decide) (z _), n 20 _ (by decide) (z _), n 24 _ (by decide) (z _), n 27 _ (by decide) (by unfold isN; decide), ⟨n 28 _ (by decide) (z _), by rw [t27, f 28 (by decide)]; decide⟩, n 29 _ (by decide) (z _), ⟨n 30 _ (by decide) (z _), by rw [f 30 (by decide)]; exact Nat.zero_le _⟩, ⟨n 31 _ (by decide) (z _), by rw [t27, f 31 (by decide)]; decide⟩, ⟨n 34 _ (by decide) (z _), by rw [f 34 (by decide)]; exact Nat.zero_le _⟩,
    fun k _ => zz 72 _ (by decide) k, fun k _ => zz 73 _ (by decide) k, fun k _ => zz 74 _ (by decide) k, fun k _ => zz 75 _ (by decide) k, fun i j _ _ _ => z72 75 (by decide) _, fun k _ => zz 76 _ (by decide) k, fun p j _ _ _ => z72 76 (by decide) _, fun h => (by rw [t10] at h; cases h), fun k _ => zz 77 _ (by decide) k, fun k _ => zz 78 _ (by decide) k, fun k _ => zz 79 _ (by decide) k, fun k _ => zz 80 _ (by decide) k, fun k _ => zz 81 _ (by decide) k, fun k _ => zz 82 _ (by decide) k, fun k _ => zz 83 _ (by decide) k, fun k _ => zz 84 _ (by decide) k, fun k _ => ⟨zz 85 _ (by decide) k, fun h => by rw [f 20 (by decide)] at h; exact absurd h (Nat.not_lt_zero _)⟩, fun k _ => zz 86 _ (by decide) k,
    ⟨⟨zz 89 _ (by decide) 0, fun h => by rw [f 29 (by decide)] at h; exact absurd h (by decide)⟩, zz 89 _ (by decide) 1, zz 89 _ (by decide) 2, zz 89 _ (by decide) 3, zz 89 _ (by decide) 4⟩, fun k _ => zz 90 _ (by decide) k, fun k _ => zz 91 _ (by decide) k, fun k _ => zz 92 _ (by decide) k, fun k _ => zz 93 _ (by decide) k, fun k _ => zz 94 _ (by decide) k, fun k hk => Or.inl ?_, fun k _ => zz 96 _ (by decide) k, fun t ht => ?_⟩
  · have q : k = 0 ∨ k = 1 ∨ k = 2 ∨ k = 3 := by omega
    rcases q with e | e | e | e <;> (subst e; rfl)
  · rw [t27] at ht
    have t0 : t = 0 := by omega
    subst t0
    refine ⟨fun q hq => ?_, fun q hq => ?_, by decide +kernel, fun q hq => ?_⟩
    · have q4 : q = 0 ∨ q = 1 ∨ q = 2 ∨ q = 3 := by omega
      rcases q4 with e | e | e | e <;> (subst e; decide +kernel)
    · have q3 : q = 0 ∨ q = 1 ∨ q = 2 := by omega
      rcases q3 with e | e | e <;> (subst e; decide +kernel)
    · have q3 : q = 0 ∨ q = 1 ∨ q = 2 := by omega
      rcases q3 with e | e | e <;> (subst e; decide +kernel)
theorem i_wf (sc : Nat × (Nat → Int32)) : Wf (gM (mI sc)) := i_wf0
theorem i_wd (sc : Nat × (Nat → Int32)) : Wd (mI sc) := by
  have : ∀ r, r < 12 → mIl r = Int64.ofNat (pk (wst (cl r)) (wn (cl r))) := by decide +kernel
  exact this
/-- the class's start, behind the tape: it reads it, it weighs, and both agree -/
theorem i_all (sc : Nat × (Nat → Int32)) : ∃ τ υ, F_X4_readTape 200 (mR sc 69) = some (nI 0, τ) ∧ F_X4_weigh 200 τ = some ((), υ) ∧ KIn (mI sc) υ ∧ Ag υ ∧ Wd υ ∧ τ.2.2.2.2 = sc := by
  obtain ⟨r1, r2, r3, r4, r5, r6, r7⟩ := mR_at sc 69
  obtain ⟨S0, K, V, E, ht⟩ := toks 200 (Nat.le_refl _) iC iC_le 69 (by decide)
  obtain ⟨-, tkx, -⟩ := ht 0 (Nat.zero_le _)
  have ct0 : CTp iC 69 (hwU2 (hwU2 (mR sc 69).1 3 5 0) 3 4 0, (mR sc 69).2.1, (mR sc 69).2.2.1, (mR sc 69).2.2.2.1, (mR sc 69).2.2.2.2) := ⟨by
    simp (disch := decide) only [u2_k]
    exact r1, fun k hk => by
    show (mR sc 69).2.2.1 62 0 k = nI (iC k)
    rw [r2]
    unfold iC
    by_cases c : k < 69
    · rw [if_pos c, if_pos c]
    · rw [if_neg c, if_neg c]; rfl⟩
  obtain ⟨τ0, f0, k0, a5, a6, a7, a8⟩ := tkx _ ct0 (by simp (disch := decide) only [u2_k, hwU2_eq]; rfl)
  have cs0 : CS iC 69 (0 + 0) S0 K V E 0 [] τ0 := ⟨ct0.kt k0, ⟨a5, a6, a7, a8⟩, (k0.2.2 4 (by decide)).trans (by simp (disch := decide) only [hwU2_eq]; rfl), fun k hk => absurd hk (Nat.not_lt_zero _)⟩
  obtain ⟨τ1, res, f1, txt, k1, e6, cf⟩ := x_txt 200 (by decide) (by decide) ht 3 200 0 0 0 τ0 rfl (by decide) cs0 (Nat.zero_le _) (Nat.le_refl _)
  have er := i_txt ht res txt
  subst er
  have cf := cf rfl
  have A1 : ∀ a, a ≠ 3 → τ1.1 a = (mR sc 69).1 a := fun a ha => (k1.1 a ha).trans ((k0.2.1 a ha).trans ((u2_t ha).trans (u2_t ha)))
  have A3 : ∀ a, a ≠ 63 → a ≠ 64 → τ1.2.2.1 a = (mR sc 69).2.2.1 a := fun a h1 h2 => by rw [k1.2.2.2.1 a h1 h2, k0.1]
  have A2 : τ1.2.1 = (mR sc 69).2.1 := by rw [k1.2.2.1, k0.1]
  have A4 : τ1.2.2.2 = (mR sc 69).2.2.2 := by rw [k1.2.2.2.2.2.2, k0.1]
  have fr : F_X8_readsText 200 (mR sc 69) = some (1, τ1) := by
    unfold F_X8_readsText
    rw [f0, Option.bind_some]
    exact f1
  have m9 : (mR sc 69).1 2 9 = 0 := by rw [r3 2 (by decide)]; rfl
  obtain ⟨τc, etc⟩ : ∃ τc : Mem, τc = (hwU2 (hwU2 τ1.1 3 3 0) 2 9 (nI 1), τ1.2.1, hwR3 (hwR3 τ1.2.2.1 39 0 (va_cpy (τ1.2.2.1 63 0) (τ1.2.2.1 39 0) 0 0 160)) 41 0 (va_cpy ((hwR3 τ1.2.2.1 39 0 (va_cpy (τ1.2.2.1 63 0) (τ1.2.2.1 39 0) 0 0 160)) 64 0) ((hwR3 τ1.2.2.1 39 0 (va_cpy (τ1.2.2.1 63 0) (τ1.2.2.1 39 0) 0 0 160)) 41 0) 0 0 3), τ1.2.2.2.1, τ1.2.2.2.2) := ⟨_, rfl⟩
  have e1 : F_X4_readTape 200 (mR sc 69) = some (nI 0, τc) := by
    unfold F_X4_readTape
    rw [m9, if_pos (by decide), fr, Option.bind_some, k10, if_neg (by decide), if_neg (by decide), etc]
    rfl
  have B1 : ∀ a, a ≠ 2 → a ≠ 3 → τc.1 a = (mI sc).1 a := fun a h1 h2 => by
    rw [etc]
    show hwU2 (hwU2 τ1.1 3 3 0) 2 9 (nI 1) a = _
    rw [u2_t h1, u2_t h2, A1 a h2, r3 a h2]
  have B3 : ∀ a, a ≠ 62 → a ≠ 63 → a ≠ 64 → a ≠ 39 → a ≠ 41 → τc.2.2.1 a = (mI sc).2.2.1 a := fun a h0 h1 h2 h3 h4 => by
    rw [etc]
    dsimp only
    rw [hwR3_t h4, hwR3_t h3, A3 a h1 h2, r5 a h0]
  have C39 : ∀ k, k < 160 → τc.2.2.1 39 0 k = τ1.2.2.1 63 0 k := fun k hk => by
    rw [etc]
    dsimp only
    rw [hwR3_t (by decide), hwR3_get, if_pos ⟨rfl, rfl⟩, va_j hk]
  have C41 : ∀ k, k < 3 → τc.2.2.1 41 0 k = τ1.2.2.1 64 0 k := fun k hk => by
    rw [etc]
    dsimp only
    rw [hwR3_get, if_pos ⟨rfl, rfl⟩, va_j hk, hwR3_t (by decide)]
  have B4 : τc.2.2.2 = (mI sc).2.2.2 := by rw [etc, ← r7, ← A4]
  have ki : KIn (mI sc) τc := ⟨B1, by rw [etc]; exact A2.trans r6, fun a b1 b2 _ _ _ _ _ b8 b9 b10 => B3 a b8 b9 b10 b1 b2, B4⟩
  have s0 : sSt (gM (mI sc)) 0 0 = 0 := (by decide +kernel : sSt iG 0 0 = 0)
  have s1 : sSt (gM (mI sc)) 0 1 = 7 := (by decide +kernel : sSt iG 0 1 = 7)
  have s2 : sSt (gM (mI sc)) 0 2 = 12 := (by decide +kernel : sSt iG 0 2 = 12)
  have s3 : sSt (gM (mI sc)) 0 3 = 15 := (by decide +kernel : sSt iG 0 3 = 15)
  have d0 : ∀ i, i < 7 → gM (mI sc) 87 (200 * 0 + (0 + i)) = nI ([100010, 0, 0, 18, 100002, 18, 16].getD i 0) := (by decide +kernel : ∀ i, i < 7 → iG 87 (200 * 0 + (0 + i)) = nI ([100010, 0, 0, 18, 100002, 18, 16].getD i 0))
  have d1 : ∀ i, i < 5 → gM (mI sc) 87 (200 * 0 + (7 + i)) = nI ([2, 4, 100005, 18, 17].getD i 0) := (by decide +kernel : ∀ i, i < 5 → iG 87 (200 * 0 + (7 + i)) = nI ([2, 4, 100005, 18, 17].getD i 0))
  have d2 : ∀ i, i < 3 → gM (mI sc) 87 (200 * 0 + (12 + i)) = nI ([100002, 0, 18].getD i 0) := (by decide +kernel : ∀ i, i < 3 → iG 87 (200 * 0 + (12 + i)) = nI ([100002, 0, 18].getD i 0))
  obtain ⟨x1, x2, x3, x4, x5, x6, x7, x8, x9, -⟩ := cf
  have t27 : (gM (mI sc) 12 27).toNatClampNeg = 1 := (by decide +kernel : (iG 12 27).toNatClampNeg = 1)
  have hx0 : HX0 τc (gM (mI sc)) := by
    unfold HX0
    simp (disch := omega) only [B1, B3]
    refine ⟨rfl, fun k hk => ?_, fun _ _ => rfl, fun _ _ => rfl, fun _ _ => rfl, fun _ _ _ _ => rfl, fun i _ => ?_, rfl, fun _ _ _ _ => rfl, fun _ _ _ _ => rfl, fun _ _ => rfl, fun _ _ => rfl, fun _ _ _ _ => rfl, rfl, fun _ _ => rfl, fun _ _ => rfl, fun _ _ => rfl, rfl, fun _ _ => rfl, fun _ _ => rfl, ?_, fun k hk => ?_, ?_, ?_, rfl, rfl, rfl, rfl, fun _ _ => rfl, fun _ _ _ _ => rfl, fun _ _ => rfl, fun _ _ => rfl, fun _ _ _ _ => rfl, fun _ _ _ _ => rfl, fun _ _ => rfl, fun _ _ => rfl, fun _ _ _ _ => rfl, fun t q h1 h2 => ?_⟩
    · have q : k = 0 ∨ k = 1 ∨ k = 2 ∨ k = 3 ∨ k = 4 := by omega
      rcases q with e | e | e | e | e <;> (subst e; rfl)
    · rw [show (fun j => gM (mI sc) 75 (5 * i + j)) = fun _ => (0 : Int32) from funext (fun _ => rfl)]
      show (0 : Int32) = hzJ (fun _ => 0) 5
      decide
    · rw [etc]
      show hwU2 (hwU2 τ1.1 3 3 0) 2 9 (nI 1) 3 3 = _
      rw [u2_t (by decide), hwU2_eq]
      rfl
    · exact absurd hk (by rw [show (gM (mI sc) 12 24).toNatClampNeg = 0 from (by decide +kernel : (iG 12 24).toNatClampNeg = 0)]; exact Nat.not_lt_zero k)
    · rw [etc]
      show hwU2 (hwU2 τ1.1 3 3 0) 2 9 (nI 1) 2 9 = _
      rw [hwU2_eq]
      rfl
    · rw [etc]
      show hwU2 (hwU2 τ1.1 3 3 0) 2 9 (nI 1) 2 10 = _
      rw [u2_k (by decide), u2_t (by decide), A1 2 (by decide), r3 2 (by decide)]
      rfl
    · rw [t27] at h1
      have t0 : t = 0 := by omega
      subst t0
      have q3 : q = 0 ∨ q = 1 ∨ q = 2 := by omega
      rcases q3 with e | e | e
      · subst e
        rw [s0, show (0 : Nat) + 1 = 1 from rfl, s1]
        refine ⟨by rw [C41 0 (by decide), x1], fun i hi => ?_, ?_⟩
        · rw [C39 _ (by omega), d0 i (by omega)]
          exact x2 i hi
        · rw [C39 _ (by omega)]
          exact x3
      · subst e
        rw [s1, show (1 : Nat) + 1 = 2 from rfl, s2]
        refine ⟨by rw [C41 1 (by decide)]; exact x4, fun i hi => ?_, ?_⟩
        · rw [C39 _ (by omega), d1 i (by omega)]
          exact x5 i hi
        · rw [C39 _ (by omega)]
          exact x6
      · subst e
        rw [s2, show (2 : Nat) + 1 = 3 from rfl, s3]
        refine ⟨by rw [C41 2 (by decide)]; exact x7, fun i hi => ?_, ?_⟩
        · rw [C39 _ (by omega), d2 i (by omega)]
          exact x8 i hi
        · rw [C39 _ (by omega)]
          exact x9
  obtain ⟨υ, e2, kw, hx⟩ := x_weigh 200 (by decide) (i_wf sc) τc hx0
  have ki2 : KIn (mI sc) υ := ki.trans ⟨fun a _ _ => congrFun kw.1 a, kw.2.1, fun a _ _ b3 b4 b5 b6 b7 _ _ _ => kw.2.2.1 a b3 b4 b5 b6 b7, kw.2.2.2⟩
  refine ⟨τc, υ, e1, e2, ki2, ?_, ?_, ?_⟩
  · unfold Ag
    rw [ki2.g]
    exact ⟨hx, i_wf sc⟩
  · unfold Wd
    rw [ki2.2.2.2]
    exact i_wd sc
  · rw [B4]
    rfl

/-! THE PURE SIDE, 40: one word of the text, for both -/
theorem m_111 (N : Nat) (c : Nat → Nat) (s m : Nat) (ha : ∀ i, i < m → isLt (c (s + i))) (hm1 : 1 ≤ m) (σ : Mem) (hd : Wd σ) : ∀ (q n r : Nat), r + q ≤ 12 → q < n → (∀ j, r ≤ j → j < r + q → ¬ Mw c s m (cl j)) → (r + q = 12 ∨ Mw c s m (cl (r + q))) → F_X12_nextToken_b111 N n (pkv c s m) (nI r) σ = F_X12_nextToken_b136 N (nI (r + q)) σ := by
  intro q
  induction q with
  | zero =>
    intro n r hr hn h0 h1
    cases n with
    | zero => cases hn
    | succ n =>
      rw [F_X12_nextToken_b111.eq_2]
      by_cases e : r = 12
      · subst e; rw [if_pos (show (12 : Int32) ≤ nI 12 by decide)]
      · have hm := h1.resolve_left (by omega)
        rw [if_neg (geL_n 12 12 rfl (by omega) (by decide)), if_neg (out_nI (by omega) (by decide)), nI_clamp (by omega), hd r (by omega), if_pos (lg_eq.mpr ((pkv_iff (cl_lt r (by omega)) ha hm1).mpr hm))]
        rfl
  | succ q ih =>
    intro n r hr hn h0 h1
    cases n with
    | zero => cases hn
    | succ n =>
      rw [F_X12_nextToken_b111.eq_2, if_neg (geL_n 12 12 rfl (by omega) (by decide)), if_neg (out_nI (by omega) (by decide)), nI_clamp (by omega), hd r (by omega), if_neg (fun z => h0 r (Nat.le_refl _) (by omega) ((pkv_iff (cl_lt r (by omega)) ha hm1).mp (lg_eq.mp z))), nI_1, show r + (q + 1) = (r + 1) + q by omega]
      exact ih n (r + 1) (by omega) (by omega) (fun j h1 h2 => h0 j (by omega) (by omega)) (by rw [show (r + 1) + q = r + (q + 1) by omega]; exact h1)
def mk (k : Nat) : Int32 := if k = 1 then Int32.ofInt (-1) else if k = 2 then 1 else if k = 3 then 2 else if k = 4 ∨ k = 5 ∨ k = 6 then 3 else if k = 7 then 4 else if k = 8 then 5 else if k = 9 then 6 else nI k
def TkX (N : Nat) (c : Nat → Nat) (L p s k v p' : Nat) : Prop := ∀ σ, CTp c L σ → σ.1 3 5 = nI p → ∃ τ, F_X8_step N σ = some ((), τ) ∧ KTk σ τ ∧ τ.1 3 5 = nI p' ∧ τ.1 3 6 = nI s ∧ τ.1 3 7 = nI k ∧ (k = 2 ∨ k = 3 → τ.1 3 8 = nI v)
def TkM (N : Nat) (c : Nat → Nat) (L p s k v p' : Nat) : Prop := ∀ σ, MTp c L σ → Wd σ → σ.1 12 42 = nI p → ∃ τ, F_X12_nextToken N σ = some ((), τ) ∧ KLk σ τ ∧ τ.1 12 42 = nI p' ∧ τ.1 12 43 = nI s ∧ τ.1 12 44 = mk k ∧ (k = 2 ∨ k = 3 → τ.1 12 45 = nI v) ∧ (k = 4 ∨ k = 5 ∨ k = 6 → τ.1 12 45 = nI (k - 4))
def isSg (x : Nat) : Bool := Nat.beq x 40 || (Nat.beq x 41 || (Nat.beq x 59 || (Nat.beq x 43 || (Nat.beq x 45 || (Nat.beq x 42 || (Nat.beq x 60 || Nat.beq x 61))))))
theorem sg_or : ∀ x, x < 256 → (isSg x = true ↔ (x = 40 ∨ x = 41 ∨ x = 59 ∨ x = 43 ∨ x = 45 ∨ x = 42 ∨ x = 60 ∨ x = 61)) := by decide +kernel
theorem sg_tab : ∀ x, x < 256 → ((hwIx 1 (((nI x).toUInt32 % 65536).toInt32) < 0) ↔ isSg x = false) := by decide +kernel
theorem ch8 {α : Type} (x : Nat) (hx : x < 256) (A B : α) : (if nI x = 40 then A else if nI x = 41 then A else if nI x = 59 then A else if nI x = 43 then A else if nI x = 45 then A else if nI x = 42 then A else if nI x = 60 then A else if nI x = 61 then A else B) = if isSg x = true then A else B := by
  have c : ∀ a : Nat, a < 256 → ((nI x = nI a) = (x = a)) := fun a ha => propext (nI_eq (by omega) (by omega))
  rw [show (40 : Int32) = nI 40 from rfl, show (41 : Int32) = nI 41 from rfl, show (59 : Int32) = nI 59 from rfl, show (43 : Int32) = nI 43 from rfl, show (45 : Int32) = nI 45 from rfl, show (42 : Int32) = nI 42 from rfl, show (60 : Int32) = nI 60 from rfl, show (61 : Int32) = nI 61 from rfl]
  simp only [c 40 (by decide), c 41 (by decide), c 59 (by decide), c 43 (by decide), c 45 (by decide), c 42 (by decide), c 60 (by decide), c 61 (by decide)]
  have hs := sg_or x hx
  by_cases z : isSg x = true
  · have z' := hs.mp z
    clear hs
    rw [if_pos z]
    repeat' split
    all_goals first | rfl | (exfalso; omega)
  · have z' := fun q => z (hs.mpr q)
    clear hs
    rw [if_neg z]
    repeat' split
    all_goals first | rfl | (exfalso; apply z'; omega)
def Kr (r : Nat) : Nat := if r < 3 then 4 + r else if r < 9 then 3 else r - 2
theorem m_176 (N r : Nat) (hr : r ≤ 12) (s0 : Int32) (σ : Mem) : F_X12_nextToken_b176 N (nI r) s0 σ = some ((), (hwU2 (hwU2 σ.1 12 44 s0) 12 45 (nI (if 3 ≤ r then r - 3 else r)), σ.2)) := by
  unfold F_X12_nextToken_b176
  by_cases c : 3 ≤ r
  · rw [if_pos (leL_a 3 3 rfl c (by omega)), if_pos c, show (3 : Int32) = nI 3 from rfl, k_sub c]
  · rw [if_neg (geL_n 3 3 rfl (by omega) (by decide)), if_neg c]
theorem m_136 (N r : Nat) (hr : r ≤ 12) (σ : Mem) : F_X12_nextToken_b136 N (nI r) σ = some ((), (hwU2 (hwU2 σ.1 12 44 (if r = 12 then Int32.ofInt (-1) else mk (Kr r))) 12 45 (nI (if 3 ≤ r then r - 3 else r)), σ.2)) := by
  unfold F_X12_nextToken_b136
  by_cases c3 : 3 ≤ r
  · rw [if_pos (leL_a 3 3 rfl c3 (by omega))]
    by_cases c9 : 9 ≤ r
    · rw [if_pos (leL_a 9 9 rfl c9 (by omega))]
      by_cases c12 : r = 12
      · subst c12; rw [if_pos (show nI 12 = 12 from rfl), if_pos rfl]; exact m_176 N 12 hr _ σ
      · rw [if_neg (neL 12 12 rfl ⟨c12, by omega, by decide⟩), m_176 N r hr, if_neg c12]
        have : r = 9 ∨ r = 10 ∨ r = 11 := by omega
        rcases this with e | e | e <;> (subst e; rfl)
    · rw [if_neg (geL_n 9 9 rfl (by omega) (by decide)), m_176 N r hr, if_neg (show ¬ r = 12 by omega)]
      unfold Kr
      rw [if_neg (show ¬ r < 3 by omega), if_pos (show r < 9 by omega)]
      rfl
  · rw [if_neg (geL_n 3 3 rfl (by omega) (by decide)), m_176 N r hr, if_neg (show ¬ r = 12 by omega)]
    have : r = 0 ∨ r = 1 ∨ r = 2 := by omega
    rcases this with e | e | e <;> (subst e; rfl)
/-- one word: both read the same, and go on from the same place -/
theorem tok (N : Nat) (hN : 200 ≤ N) (c : Nat → Nat) (hc : ∀ k, c k ≤ 255) (L : Nat) (hL : L ≤ 160) (p : Nat) (hp : p ≤ L) : ∃ s k v p', (p ≤ s ∧ s ≤ L ∧ p' ≤ L ∧ (k = 0 → p' = L) ∧ (k ≠ 0 → s < p') ∧ k ≤ 255 ∧ (k = 2 → v < 10000) ∧ (k = 3 → v < 6)) ∧ TkX N c L p s k v p' ∧ TkM N c L p s k v p' := by
  obtain ⟨s, s1, s2, s3, sx, sm⟩ := skips N c hc L hL (L - p) p (by omega)
  have kx0 : ∀ σ : Mem, KTk σ (hwU2 σ.1 3 5 (nI s), σ.2) := fun σ => KTk.w (by decide)
  have km0 : ∀ σ : Mem, KLk σ (hwU2 σ.1 12 42 (nI s), σ.2) := fun σ => KLk.w (by decide)
  by_cases sL' : s = L
  · subst sL'
    refine ⟨s, 0, 0, s, ⟨s1, Nat.le_refl _, Nat.le_refl _, fun _ => rfl, fun h => absurd rfl h, by decide, fun h => absurd h (by decide), fun h => absurd h (by decide)⟩, fun σ h h5 => ?_, fun σ h hd h5 => ?_⟩
    · refine ⟨(hwU2 (hwU2 (hwU2 σ.1 3 5 (nI s)) 3 6 (nI s)) 3 7 (nI 0), σ.2), ?_, ((kx0 σ).trans (KTk.w (k := 6) (by decide))).trans (KTk.w (k := 7) (by decide)), by simp (disch := decide) only [u2_k, hwU2_eq], by simp (disch := decide) only [u2_k, hwU2_eq], by simp (disch := decide) only [u2_k, hwU2_eq], fun h => absurd h (by decide)⟩
      unfold F_X8_step
      rw [sx N σ (by omega) h h5]
      unfold F_X8_step_b52
      show (if hwU2 σ.1 3 5 (nI s) 3 5 < hwU2 σ.1 3 5 (nI s) 3 3 then _ else some ((), (hwU2 (hwU2 (hwU2 σ.1 3 5 (nI s)) 3 6 (hwU2 σ.1 3 5 (nI s) 3 5)) 3 7 0, σ.2)) : Option (Unit × Mem)) = _
      rw [hwU2_eq, u2_k (by decide), h.1, if_neg (nI_nlt (Nat.le_refl _) (by omega))]
      rfl
    · refine ⟨(hwU2 (hwU2 (hwU2 (hwU2 σ.1 12 42 (nI s)) 12 43 (nI s)) 12 44 0) 12 45 0, σ.2), ?_, (((km0 σ).trans (KLk.w (k := 43) (by decide))).trans (KLk.w (k := 44) (by decide))).trans (KLk.w (k := 45) (by decide)), by simp (disch := decide) only [u2_k, hwU2_eq], by simp (disch := decide) only [u2_k, hwU2_eq], by simp (disch := decide) only [u2_k, hwU2_eq]; rfl, fun h => absurd h (by decide), fun h => absurd h (by decide)⟩
      unfold F_X12_nextToken
      rw [sm N σ (by omega) h h5]
      unfold F_X12_nextToken_b52
      show (if hwU2 σ.1 12 42 (nI s) 12 42 = hwU2 σ.1 12 42 (nI s) 12 24 then some ((), (hwU2 (hwU2 (hwU2 (hwU2 σ.1 12 42 (nI s)) 12 43 (hwU2 σ.1 12 42 (nI s) 12 42)) 12 44 0) 12 45 0, σ.2)) else _ : Option (Unit × Mem)) = _
      rw [hwU2_eq, u2_k (by decide), h.1, if_pos rfl]
  have sl : s < L := by omega
  have x52 : ∀ σ : Mem, CTp c L σ → F_X8_step_b52 N (hwU2 σ.1 3 5 (nI s), σ.2) = (F_X8_isLetter N (nI (c s)) (hwU2 (hwU2 σ.1 3 5 (nI s)) 3 6 (nI s), σ.2)).bind (fun q1 =>
    if q1.1 = 0 then
      if hwOut (q1.2.1 3 5) 160 then none else
      (F_X8_isDigit N (q1.2.2.2.1 62 0 ((q1.2.1 3 5)).toNatClampNeg) q1.2).bind (fun q2 =>
      if q2.1 = 0 then
        if hwOut (q2.2.1 3 5) 160 then none else
        if (hwIx 1 ((q2.2.2.2.1 62 0 ((q2.2.1 3 5)).toNatClampNeg).toUInt32 % 65536).toInt32) < 0 then
          some ((), ((hwU2 (hwU2 q2.2.1 3 7 (1 : Int32)) 3 5 ((q2.2.1 3 5) + (1 : Int32))), q2.2.2.1, q2.2.2.2.1, q2.2.2.2.2.1, q2.2.2.2.2.2))
        else
          if hwOut (q2.2.1 3 5) 160 then none else
          some ((), ((hwU2 (hwU2 q2.2.1 3 7 (q2.2.2.2.1 62 0 ((q2.2.1 3 5)).toNatClampNeg)) 3 5 ((q2.2.1 3 5) + (1 : Int32))), q2.2.2.1, q2.2.2.2.1, q2.2.2.2.2.1, q2.2.2.2.2.2))
      else
        (F_X8_readNumber N q2.2).bind (fun q3 =>
        some ((), q3.2)))
    else
      (F_X8_readWord N q1.2).bind (fun q4 =>
      some ((), q4.2))) := by
    intro σ h
    unfold F_X8_step_b52
    have e5 : hwU2 σ.1 3 5 (nI s) 3 5 = nI s := hwU2_eq
    have e3 : hwU2 σ.1 3 5 (nI s) 3 3 = nI L := (u2_k (by decide)).trans h.1
    show (if hwU2 σ.1 3 5 (nI s) 3 5 < hwU2 σ.1 3 5 (nI s) 3 3 then (if hwOut (hwU2 σ.1 3 5 (nI s) 3 5) 160 then none else (F_X8_isLetter N (σ.2.2.1 62 0 (hwU2 σ.1 3 5 (nI s) 3 5).toNatClampNeg) (hwU2 (hwU2 σ.1 3 5 (nI s)) 3 6 (hwU2 σ.1 3 5 (nI s) 3 5), σ.2)).bind _) else _ : Option (Unit × Mem)) = _
    rw [e5, e3, if_pos (nI_lt sl (by omega)), if_neg (out_nI (by omega) (by decide)), nI_clamp (by omega), h.2 s (by omega)]
  have w1 : ∀ σ : Mem, CTp c L σ → CTp c L (hwU2 (hwU2 σ.1 3 5 (nI s)) 3 6 (nI s), σ.2) := fun σ h => h.kt ((kx0 σ).trans (KTk.w (k := 6) (by decide)))
  have m52 : ∀ σ : Mem, MTp c L σ → F_X12_nextToken_b52 N (hwU2 σ.1 12 42 (nI s), σ.2) = (F_X12_in N (nI (c s)) 97 122 (hwU2 (hwU2 (hwU2 (hwU2 σ.1 12 42 (nI s)) 12 43 (nI s)) 12 44 0) 12 45 0, σ.2)).bind (fun q1 =>
      if q1.1 = 0 then
        (F_X12_in N (nI (c s)) 48 57 q1.2).bind (fun q2 =>
        if q2.1 = 0 then (if isSg (c s) = true then F_X12_nextToken_b363 N (nI (c s)) 1 q2.2 else F_X12_nextToken_b363 N (nI (c s)) 0 q2.2)
        else F_X12_nextToken_b214 N N 0 q2.2)
      else (F_X12_letters N q1.2).bind (fun q3 => F_X12_nextToken_b111 N N q3.1 0 q3.2)) := by
    intro σ h
    have e42 : hwU2 σ.1 12 42 (nI s) 12 42 = nI s := hwU2_eq
    have e24 : hwU2 σ.1 12 42 (nI s) 12 24 = nI L := (u2_k (by decide)).trans h.1
    unfold F_X12_nextToken_b52 F_X12_nextToken_b358
    dsimp only
    simp only [e42, e24]
    rw [if_neg (fun z => by have := (nI_eq (by omega) (by omega)).mp z; omega), if_neg (out_nI (by omega) (by decide))]
    simp only [nI_clamp (show s < 2 ^ 31 by omega)]
    rw [h.2 s (by omega)]
    simp only [ch8 (c s) (by have := hc s; omega)]
  have w2 : ∀ σ : Mem, KLk σ (hwU2 (hwU2 (hwU2 (hwU2 σ.1 12 42 (nI s)) 12 43 (nI s)) 12 44 0) 12 45 0, σ.2) := fun σ => (((km0 σ).trans (KLk.w (k := 43) (by decide))).trans (KLk.w (k := 44) (by decide))).trans (KLk.w (k := 45) (by decide))
  by_cases lt : isLt (c s)
  · obtain ⟨e, e1, e2, e3, e4, rx, rm⟩ := runs_lt N c hc L hL s (L - s) s (by omega) (Nat.le_refl _) (fun i h1 h2 => by omega)
    have se := e4 sl lt
    have ha : ∀ i, i < e - s → isLt (c (s + i)) := fun i hi => e3 (s + i) (by omega) (by omega)
    have X0 : ∀ σ : Mem, CTp c L σ → σ.1 3 5 = nI p → F_X8_step N σ = (F_X8_readWord_b46 N N 0 (hwU2 (hwU2 (hwU2 (hwU2 σ.1 3 5 (nI s)) 3 6 (nI s)) 3 5 (nI e)) 3 7 1, σ.2)).bind (fun q4 => some ((), q4.2)) := by
      intro σ h h5
      unfold F_X8_step
      rw [sx N σ (by omega) h h5, x52 σ h, (x_isLt N (c s) (hc s) _).1 lt, Option.bind_some, k10]
      unfold F_X8_readWord
      rw [rx N (hwU2 (hwU2 σ.1 3 5 (nI s)) 3 6 (nI s), σ.2) (by omega) (w1 σ h) (by simp (disch := decide) only [u2_k, hwU2_eq])]
    have M0 : ∀ σ : Mem, MTp c L σ → σ.1 12 42 = nI p → F_X12_nextToken N σ = F_X12_nextToken_b111 N N (pkv c s (e - s)) 0 (hwU2 (hwU2 (hwU2 (hwU2 (hwU2 σ.1 12 42 (nI s)) 12 43 (nI s)) 12 44 0) 12 45 0) 12 42 (nI e), σ.2) := by
      intro σ h h5
      have r := rm N (hwU2 (hwU2 (hwU2 (hwU2 σ.1 12 42 (nI s)) 12 43 (nI s)) 12 44 0) 12 45 0, σ.2) 0 (by omega) (h.kl (w2 σ)) (by simp (disch := decide) only [u2_k, hwU2_eq]) (fun _ => by rw [Nat.sub_self]; rfl)
      rw [Nat.sub_self] at r
      unfold F_X12_nextToken
      rw [sm N σ (by omega) h h5, m52 σ h, (m_isLt N (c s) (hc s) _).1 lt, Option.bind_some, k10]
      unfold F_X12_letters
      rw [show F_X12_letters_b4 N N 0 0 _ = _ from r, Option.bind_some]
      rfl
    have kx : ∀ σ : Mem, KTk σ (hwU2 (hwU2 (hwU2 (hwU2 σ.1 3 5 (nI s)) 3 6 (nI s)) 3 5 (nI e)) 3 7 1, σ.2) := fun σ => (((kx0 σ).trans (KTk.w (k := 6) (by decide))).trans (KTk.w (k := 5) (by decide))).trans (KTk.w (k := 7) (by decide))
    have km : ∀ σ : Mem, KLk σ (hwU2 (hwU2 (hwU2 (hwU2 (hwU2 σ.1 12 42 (nI s)) 12 43 (nI s)) 12 44 0) 12 45 0) 12 42 (nI e), σ.2) := fun σ => (w2 σ).trans (KLk.w (k := 42) (by decide))
    have wat : ∀ σ : Mem, CTp c L σ → Wat c L s e (hwU2 (hwU2 (hwU2 (hwU2 σ.1 3 5 (nI s)) 3 6 (nI s)) 3 5 (nI e)) 3 7 1, σ.2) := fun σ h => ⟨h.kt (kx σ), by simp (disch := decide) only [u2_k, hwU2_eq], by simp (disch := decide) only [u2_k, hwU2_eq], e2⟩
    by_cases hit : ∃ r, r < 12 ∧ Mw c s (e - s) (cl r)
    · obtain ⟨r, hr, hm⟩ := hit
      have hK : Kr r = (if 6 ≤ cl r then 3 else 4 + cl r) ∧ Kr r ≤ 9 ∧ 3 ≤ Kr r ∧ (Kr r = 3 → cl r - 6 = r - 3 ∧ 6 ≤ cl r ∧ cl r < 12 ∧ 3 ≤ r) ∧ (Kr r = 4 ∨ Kr r = 5 ∨ Kr r = 6 → r < 3 ∧ Kr r - 4 = r) := by
        have : ∀ r, r < 12 → Kr r = (if 6 ≤ cl r then 3 else 4 + cl r) ∧ Kr r ≤ 9 ∧ 3 ≤ Kr r ∧ (Kr r = 3 → cl r - 6 = r - 3 ∧ 6 ≤ cl r ∧ cl r < 12 ∧ 3 ≤ r) ∧ (Kr r = 4 ∨ Kr r = 5 ∨ Kr r = 6 → r < 3 ∧ Kr r - 4 = r) := by decide
        exact this r hr
      refine ⟨s, Kr r, cl r - 6, e, ⟨s1, s2, e2, fun z => by omega, fun _ => se, by omega, fun z => by omega, fun z => by have := hK.2.2.2.1 z; omega⟩, fun σ h h5 => ?_, fun σ h hd h5 => ?_⟩
      · refine ⟨(hwU2 (hwU2 (hwU2 (hwU2 (hwU2 (hwU2 σ.1 3 5 (nI s)) 3 6 (nI s)) 3 5 (nI e)) 3 7 1) 3 7 (nI (Kr r))) 3 8 (nI (cl r) - 6), σ.2), ?_, ((kx σ).trans (KTk.w (k := 7) (by decide))).trans (KTk.w (k := 8) (by decide)), by simp (disch := decide) only [u2_k, hwU2_eq], by simp (disch := decide) only [u2_k, hwU2_eq], by simp (disch := decide) only [u2_k, hwU2_eq], fun z => ?_⟩
        · rw [X0 σ h h5, show F_X8_readWord_b46 N N 0 _ = _ from x_w46y N (by omega) c hc L s e (cl r) (by omega) (by omega) (cl_lt r hr) hm (cl r) N 0 _ (by omega) (by omega) (wat σ h), Option.bind_some, hK.1]
          by_cases c6 : 6 ≤ cl r
          · rw [if_pos c6, if_pos c6]; rfl
          · rw [if_neg c6, if_neg c6]
        · have z3 : Kr r = 3 := by omega
          have q := hK.2.2.2.1 z3
          simp (disch := decide) only [u2_k, hwU2_eq]
          rw [show (6 : Int32) = nI 6 from rfl, k_sub q.2.1]
      · have hd' : ∀ A : Nat → Nat → Int32, Wd (A, σ.2) := fun _ => hd
        refine ⟨(hwU2 (hwU2 (hwU2 (hwU2 (hwU2 (hwU2 (hwU2 σ.1 12 42 (nI s)) 12 43 (nI s)) 12 44 0) 12 45 0) 12 42 (nI e)) 12 44 (mk (Kr r))) 12 45 (nI (if 3 ≤ r then r - 3 else r)), σ.2), ?_, ((km σ).trans (KLk.w (k := 44) (by decide))).trans (KLk.w (k := 45) (by decide)), by simp (disch := decide) only [u2_k, hwU2_eq], by simp (disch := decide) only [u2_k, hwU2_eq], by simp (disch := decide) only [u2_k, hwU2_eq], fun z => ?_, fun z => ?_⟩
        · rw [M0 σ h h5, show F_X12_nextToken_b111 N N (pkv c s (e - s)) 0 _ = _ from m_111 N c s (e - s) ha (by omega) _ (hd' _) r N 0 (by omega) (by omega) (fun j h1 h2 q => by
            have := Mw.uni (cl_lt r hr) (cl_lt j (by omega)) hm q
            have := cl_inj r hr j (by omega) this
            omega) (Or.inr (by rw [Nat.zero_add]; exact hm)), Nat.zero_add, m_136 N r (by omega), if_neg (by omega)]
        · have z3 : Kr r = 3 := by omega
          have q := hK.2.2.2.1 z3
          simp (disch := decide) only [u2_k, hwU2_eq]
          rw [if_pos q.2.2.2, q.1]
        · have q := hK.2.2.2.2 z
          simp (disch := decide) only [u2_k, hwU2_eq]
          rw [if_neg (by omega), q.2]
    · have nk : ∀ k, k < 12 → ¬ Mw c s (e - s) k := fun k hk q => by
        obtain ⟨r, hr, er⟩ := cl_onto k hk
        exact hit ⟨r, hr, er ▸ q⟩
      refine ⟨s, 1, 0, e, ⟨s1, s2, e2, fun z => absurd z (by decide), fun _ => se, by decide, fun z => absurd z (by decide), fun z => absurd z (by decide)⟩, fun σ h h5 => ?_, fun σ h hd h5 => ?_⟩
      · refine ⟨(hwU2 (hwU2 (hwU2 (hwU2 σ.1 3 5 (nI s)) 3 6 (nI s)) 3 5 (nI e)) 3 7 1, σ.2), ?_, kx σ, by simp (disch := decide) only [u2_k, hwU2_eq], by simp (disch := decide) only [u2_k, hwU2_eq], by simp (disch := decide) only [u2_k, hwU2_eq]; rfl, fun z => absurd z (by decide)⟩
        rw [X0 σ h h5, show F_X8_readWord_b46 N N 0 _ = _ from x_w46n N (by omega) c hc L s e (by omega) (by omega) 12 N 0 _ (by omega) (by omega) (wat σ h) (fun y _ h2 => nk y h2), Option.bind_some]
      · have hd' : ∀ A : Nat → Nat → Int32, Wd (A, σ.2) := fun _ => hd
        refine ⟨(hwU2 (hwU2 (hwU2 (hwU2 (hwU2 (hwU2 (hwU2 σ.1 12 42 (nI s)) 12 43 (nI s)) 12 44 0) 12 45 0) 12 42 (nI e)) 12 44 (Int32.ofInt (-1))) 12 45 (nI 9), σ.2), ?_, ((km σ).trans (KLk.w (k := 44) (by decide))).trans (KLk.w (k := 45) (by decide)), by simp (disch := decide) only [u2_k, hwU2_eq], by simp (disch := decide) only [u2_k, hwU2_eq], by simp (disch := decide) only [u2_k, hwU2_eq]; rfl, fun z => absurd z (by decide), fun z => absurd z (by decide)⟩
        rw [M0 σ h h5, show F_X12_nextToken_b111 N N (pkv c s (e - s)) 0 _ = _ from m_111 N c s (e - s) ha (by omega) _ (hd' _) 12 N 0 (by omega) (by omega) (fun j h1 h2 q => nk _ (cl_lt j (by omega)) q) (Or.inl rfl), Nat.zero_add, m_136 N 12 (by omega), if_pos rfl]
        rfl
  have X1 : ∀ σ : Mem, CTp c L σ → σ.1 3 5 = nI p → F_X8_step N σ = (F_X8_isDigit N (nI (c s)) (hwU2 (hwU2 σ.1 3 5 (nI s)) 3 6 (nI s), σ.2)).bind (fun q2 =>
      if q2.1 = 0 then
        if hwOut (q2.2.1 3 5) 160 then none else
        if (hwIx 1 ((q2.2.2.2.1 62 0 ((q2.2.1 3 5)).toNatClampNeg).toUInt32 % 65536).toInt32) < 0 then
          some ((), ((hwU2 (hwU2 q2.2.1 3 7 (1 : Int32)) 3 5 ((q2.2.1 3 5) + (1 : Int32))), q2.2.2.1, q2.2.2.2.1, q2.2.2.2.2.1, q2.2.2.2.2.2))
        else
          if hwOut (q2.2.1 3 5) 160 then none else
          some ((), ((hwU2 (hwU2 q2.2.1 3 7 (q2.2.2.2.1 62 0 ((q2.2.1 3 5)).toNatClampNeg)) 3 5 ((q2.2.1 3 5) + (1 : Int32))), q2.2.2.1, q2.2.2.2.1, q2.2.2.2.2.1, q2.2.2.2.2.2))
      else
        (F_X8_readNumber N q2.2).bind (fun q3 =>
        some ((), q3.2))) := by
    intro σ h h5
    have e5 : hwU2 (hwU2 σ.1 3 5 (nI s)) 3 6 (nI s) 3 5 = nI s := by simp (disch := decide) only [u2_k, hwU2_eq]
    unfold F_X8_step
    rw [sx N σ (by omega) h h5, x52 σ h, (x_isLt N (c s) (hc s) _).2 lt, Option.bind_some, k00]
    show (if hwOut (hwU2 (hwU2 σ.1 3 5 (nI s)) 3 6 (nI s) 3 5) 160 then none else (F_X8_isDigit N (σ.2.2.1 62 0 (hwU2 (hwU2 σ.1 3 5 (nI s)) 3 6 (nI s) 3 5).toNatClampNeg) (hwU2 (hwU2 σ.1 3 5 (nI s)) 3 6 (nI s), σ.2)).bind _ : Option (Unit × Mem)) = _
    rw [e5, if_neg (out_nI (by omega) (by decide)), nI_clamp (by omega), h.2 s (by omega)]
  have k2 : ∀ σ : Mem, KTk σ (hwU2 (hwU2 σ.1 3 5 (nI s)) 3 6 (nI s), σ.2) := fun σ => (kx0 σ).trans (KTk.w (k := 6) (by decide))
  by_cases dg : isDg (c s)
  · obtain ⟨e, e1, e2, e3, e4, rx, rm⟩ := runs_dg N c hc L hL s (L - s) s (by omega) (Nat.le_refl _) (fun i h1 h2 => by omega)
    have se := e4 sl dg
    have dl : e - s ≤ 4 → dv (off c s) (e - s) < 10000 := fun q => Nat.lt_of_lt_of_le (dv_lt (c := off c s) (e - s) (fun i hi => e3 (s + i) (by omega) (by omega))) (Nat.le_trans (Nat.pow_le_pow_right (n := 10) (by decide) q) (by decide))
    have X2 : ∀ σ : Mem, CTp c L σ → σ.1 3 5 = nI p → ∃ τ, F_X8_step N σ = some ((), τ) ∧ KTk σ τ ∧ τ.1 3 5 = nI e ∧ τ.1 3 6 = nI s ∧ τ.1 3 7 = (if e - s ≤ 4 then nI 2 else nI 1) ∧ (e - s ≤ 4 → τ.1 3 8 = nI (dv (off c s) (e - s))) := by
      intro σ h h5
      obtain ⟨τ, f, k, r⟩ := rx N (hwU2 (hwU2 (hwU2 σ.1 3 5 (nI s)) 3 6 (nI s)) 3 8 0, σ.2) (by omega) (h.kt ((k2 σ).trans (KTk.w (k := 8) (by decide)))) (by simp (disch := decide) only [u2_k, hwU2_eq]) (by simp (disch := decide) only [u2_k, hwU2_eq]) (fun _ => by rw [Nat.sub_self]; simp (disch := decide) only [hwU2_eq]; rfl)
      refine ⟨τ, ?_, ((k2 σ).trans (KTk.w (k := 8) (by decide))).trans k, r⟩
      rw [X1 σ h h5, (x_isDg N (c s) (hc s) _).1 dg, Option.bind_some, k10]
      unfold F_X8_readNumber
      rw [show F_X8_readNumber_b5 N N _ = _ from f, Option.bind_some]
    have M2 : ∀ σ : Mem, MTp c L σ → σ.1 12 42 = nI p → ∃ τ, F_X12_nextToken N σ = some ((), τ) ∧ KLk σ τ ∧ τ.1 12 42 = nI e ∧ τ.1 12 43 = nI s ∧ τ.1 12 44 = (if e - s ≤ 4 then 1 else Int32.ofInt (-1)) ∧ (e - s ≤ 4 → τ.1 12 45 = nI (dv (off c s) (e - s))) := by
      intro σ h h5
      obtain ⟨τ, f, k, r1, r2, r3⟩ := rm N (hwU2 (hwU2 (hwU2 (hwU2 σ.1 12 42 (nI s)) 12 43 (nI s)) 12 44 0) 12 45 0, σ.2) (by omega) (h.kl (w2 σ)) (by simp (disch := decide) only [u2_k, hwU2_eq]) (fun _ => by rw [Nat.sub_self]; simp (disch := decide) only [hwU2_eq]; rfl)
      rw [Nat.sub_self] at f
      refine ⟨τ, ?_, (w2 σ).trans k, r1, r2.trans (by simp (disch := decide) only [u2_k, hwU2_eq]), r3⟩
      unfold F_X12_nextToken
      rw [sm N σ (by omega) h h5, m52 σ h, (m_isLt N (c s) (hc s) _).2 lt, Option.bind_some, k00, (m_isDg N (c s) (hc s) _).1 dg, Option.bind_some, k10]
      exact f
    by_cases c4 : e - s ≤ 4
    · refine ⟨s, 2, dv (off c s) (e - s), e, ⟨s1, s2, e2, fun z => absurd z (by decide), fun _ => se, by decide, fun _ => dl c4, fun z => absurd z (by decide)⟩, fun σ h h5 => ?_, fun σ h hd h5 => ?_⟩
      · obtain ⟨τ, f, k, r1, r2, r3, r4⟩ := X2 σ h h5
        exact ⟨τ, f, k, r1, r2, by rw [r3, if_pos c4], fun _ => r4 c4⟩
      · obtain ⟨τ, f, k, r1, r2, r3, r4⟩ := M2 σ h h5
        exact ⟨τ, f, k, r1, r2, by rw [r3, if_pos c4]; rfl, fun _ => r4 c4, fun z => absurd z (by decide)⟩
    · refine ⟨s, 1, 0, e, ⟨s1, s2, e2, fun z => absurd z (by decide), fun _ => se, by decide, fun z => absurd z (by decide), fun z => absurd z (by decide)⟩, fun σ h h5 => ?_, fun σ h hd h5 => ?_⟩
      · obtain ⟨τ, f, k, r1, r2, r3, r4⟩ := X2 σ h h5
        exact ⟨τ, f, k, r1, r2, by rw [r3, if_neg c4], fun z => absurd z (by decide)⟩
      · obtain ⟨τ, f, k, r1, r2, r3, r4⟩ := M2 σ h h5
        exact ⟨τ, f, k, r1, r2, by rw [r3, if_neg c4]; rfl, fun z => absurd z (by decide), fun z => absurd z (by decide)⟩
  · have X3 : ∀ σ : Mem, CTp c L σ → σ.1 3 5 = nI p → F_X8_step N σ = some ((), (hwU2 (hwU2 (hwU2 (hwU2 σ.1 3 5 (nI s)) 3 6 (nI s)) 3 7 (if isSg (c s) = true then nI (c s) else 1)) 3 5 (nI (s + 1)), σ.2)) := by
      intro σ h h5
      have e5 : hwU2 (hwU2 σ.1 3 5 (nI s)) 3 6 (nI s) 3 5 = nI s := by simp (disch := decide) only [u2_k, hwU2_eq]
      rw [X1 σ h h5, (x_isDg N (c s) (hc s) _).2 dg, Option.bind_some, k00]
      dsimp only
      simp only [e5, nI_clamp (show s < 2 ^ 31 by omega)]
      rw [if_neg (out_nI (by omega) (by decide)), h.2 s (by omega), nI_1]
      cases sg : isSg (c s) with
      | true =>
        rw [if_neg (fun z => by have := (sg_tab (c s) (by have := hc s; omega)).mp z; rw [sg] at this; cases this), if_neg (out_nI (by omega) (by decide)), if_pos rfl]
      | false =>
        rw [if_pos ((sg_tab (c s) (by have := hc s; omega)).mpr sg), if_neg (by decide)]
    have M3 : ∀ σ : Mem, MTp c L σ → σ.1 12 42 = nI p → F_X12_nextToken N σ = some ((), (hwU2 (hwU2 (hwU2 (hwU2 (hwU2 (hwU2 σ.1 12 42 (nI s)) 12 43 (nI s)) 12 44 0) 12 45 0) 12 44 (if isSg (c s) = true then nI (c s) else Int32.ofInt (-1))) 12 42 (nI (s + 1)), σ.2)) := by
      intro σ h h5
      have e5 : hwU2 (hwU2 (hwU2 (hwU2 σ.1 12 42 (nI s)) 12 43 (nI s)) 12 44 0) 12 45 0 12 42 = nI s := by simp (disch := decide) only [u2_k, hwU2_eq]
      unfold F_X12_nextToken
      rw [sm N σ (by omega) h h5, m52 σ h, (m_isLt N (c s) (hc s) _).2 lt, Option.bind_some, k00, (m_isDg N (c s) (hc s) _).2 dg, Option.bind_some, k00]
      unfold F_X12_nextToken_b363
      rw [k10, k00]
      dsimp only
      rw [e5, nI_1]
      by_cases sg : isSg (c s) = true
      · rw [if_pos sg, if_pos sg]
      · rw [if_neg sg, if_neg sg]
    have kx : ∀ (σ : Mem) (v : Int32), KTk σ (hwU2 (hwU2 (hwU2 (hwU2 σ.1 3 5 (nI s)) 3 6 (nI s)) 3 7 v) 3 5 (nI (s + 1)), σ.2) := fun σ v => ((k2 σ).trans (KTk.w (k := 7) (by decide))).trans (KTk.w (k := 5) (by decide))
    have km : ∀ (σ : Mem) (v : Int32), KLk σ (hwU2 (hwU2 (hwU2 (hwU2 (hwU2 (hwU2 σ.1 12 42 (nI s)) 12 43 (nI s)) 12 44 0) 12 45 0) 12 44 v) 12 42 (nI (s + 1)), σ.2) := fun σ v => ((w2 σ).trans (KLk.w (k := 44) (by decide))).trans (KLk.w (k := 42) (by decide))
    by_cases sg : isSg (c s) = true
    · have so := (sg_or (c s) (by have := hc s; omega)).mp sg
      refine ⟨s, c s, 0, s + 1, ⟨s1, s2, by omega, fun z => by omega, fun _ => by omega, hc s, fun z => by omega, fun z => by omega⟩, fun σ h h5 => ⟨_, X3 σ h h5, kx σ _, by simp (disch := decide) only [u2_k, hwU2_eq], by simp (disch := decide) only [u2_k, hwU2_eq], by simp (disch := decide) only [u2_k, hwU2_eq]; rw [if_pos sg], fun z => by omega⟩, fun σ h hd h5 => ⟨_, M3 σ h h5, km σ _, by simp (disch := decide) only [u2_k, hwU2_eq], by simp (disch := decide) only [u2_k, hwU2_eq], ?_, fun z => by omega, fun z => by omega⟩⟩
      simp (disch := decide) only [u2_k, hwU2_eq]
      rw [if_pos sg]
      unfold mk
      rw [if_neg (by omega), if_neg (by omega), if_neg (by omega), if_neg (by omega), if_neg (by omega), if_neg (by omega), if_neg (by omega)]
    · refine ⟨s, 1, 0, s + 1, ⟨s1, s2, by omega, fun z => absurd z (by decide), fun _ => by omega, by decide, fun z => absurd z (by decide), fun z => absurd z (by decide)⟩, fun σ h h5 => ⟨_, X3 σ h h5, kx σ _, by simp (disch := decide) only [u2_k, hwU2_eq], by simp (disch := decide) only [u2_k, hwU2_eq], by simp (disch := decide) only [u2_k, hwU2_eq]; rw [if_neg sg]; rfl, fun z => absurd z (by decide)⟩, fun σ h hd h5 => ⟨_, M3 σ h h5, km σ _, by simp (disch := decide) only [u2_k, hwU2_eq], by simp (disch := decide) only [u2_k, hwU2_eq], ?_, fun z => absurd z (by decide), fun z => absurd z (by decide)⟩⟩
      simp (disch := decide) only [u2_k, hwU2_eq]
      rw [if_neg sg]
      rfl

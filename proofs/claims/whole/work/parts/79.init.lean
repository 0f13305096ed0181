/-! THE START, 1: what both hold at first -/
def iCh (k : Nat) : Nat := ntD 0 (ntD [] hwST 0) k
def mIa (t k : Nat) : Int32 := bif Nat.beq t 28 then ntD 0 [4, 200, 0, 300, 20] k else bif Nat.beq t 70 then ntD 0 [Int32.ofInt (-1), Int32.ofInt (-1), Int32.ofInt (-1), Int32.ofInt (-1)] k else bif Nat.beq t 95 then ntD 0 [Int32.ofInt (-1), Int32.ofInt (-1), Int32.ofInt (-1), Int32.ofInt (-1)] k else bif Nat.beq t 87 then ntD 0 [100010, 0, 0, 18, 100002, 18, 16, 2, 4, 100005, 18, 17, 100002, 0, 18, 0] k else bif Nat.beq t 88 then ntD 0 [0, 7, 12, 15] k else 0
def mIl (k : Nat) : Int64 := ntD 0 [1668248436, 512736126322, 1717660780, 2036429412, 465491813746, 1650553701, 1935764596, 126879263846254, 465625310564, 28530, 6385252, 7237492] k
def mI (sc : Nat × (Nat → Int32)) : Mem := (fun t k => bif Nat.beq t 12 then ntD 0 [4, 200, 0, 300, 20, 0, 0, 0, 0, 0, 0, 0, 0, 0, 0, 0, 0, 0, 0, 0, 0, 0, 0, 0, 0, 0, 0, 1] k else 0, fun _ _ => 0, fun t _ k => mIa t k, fun t _ k => bif Nat.beq t 98 then mIl k else 0, sc)
def mR (sc : Nat × (Nat → Int32)) : Nat → Mem
  | 0 => mI sc
  | i + 1 => (hwU2 (mR sc i).1 3 3 (nI (i + 1)), (mR sc i).2.1, hwU3 (mR sc i).2.2.1 62 0 i (nI (iCh i)), (mR sc i).2.2.2.1, (mR sc i).2.2.2.2)
theorem mR_at (sc : Nat × (Nat → Int32)) : ∀ i, (mR sc i).1 3 3 = nI i ∧ (∀ k, (mR sc i).2.2.1 62 0 k = if k < i then nI (iCh k) else 0) ∧ (∀ a, a ≠ 3 → (mR sc i).1 a = (mI sc).1 a) ∧ (∀ k, k ≠ 3 → (mR sc i).1 3 k = 0) ∧ (∀ a, a ≠ 62 → (mR sc i).2.2.1 a = (mI sc).2.2.1 a) ∧ (mR sc i).2.1 = (mI sc).2.1 ∧ (mR sc i).2.2.2 = (mI sc).2.2.2
  | 0 => ⟨rfl, fun k => rfl, fun _ _ => rfl, fun _ _ => rfl, fun _ _ => rfl, rfl, rfl⟩
  | i + 1 => by
    obtain ⟨h1, h2, h3, h4, h5, h6, h7⟩ := mR_at sc i
    refine ⟨?_, fun k => ?_, fun a ha => ?_, fun k hk => ?_, fun a ha => ?_, h6, ?_⟩
    · show hwU2 (mR sc i).1 3 3 (nI (i + 1)) 3 3 = _
      exact hwU2_eq
    · show hwU3 (mR sc i).2.2.1 62 0 i (nI (iCh i)) 62 0 k = _
      by_cases e : k = i
      · subst e
        rw [hwU3_eq, if_pos (by omega)]
      · rw [hwU3_k e, h2]
        by_cases c : k < i
        · rw [if_pos c, if_pos (by omega)]
        · rw [if_neg c, if_neg (by omega)]
    · show hwU2 (mR sc i).1 3 3 (nI (i + 1)) a = _
      exact (u2_t ha).trans (h3 a ha)
    · show hwU2 (mR sc i).1 3 3 (nI (i + 1)) 3 k = _
      exact (u2_k hk).trans (h4 k hk)
    · show hwU3 (mR sc i).2.2.1 62 0 i (nI (iCh i)) a = _
      exact (hwU3_t ha).trans (h5 a ha)
    · show ((mR sc i).2.2.2.1, (mR sc i).2.2.2.2) = _
      exact h7
theorem mR_rec (sc : Nat × (Nat → Int32)) (i : Nat) (hi : i < 160) (w : Int64) (hw : w.toInt32 &&& 255 = nI (iCh i)) : F_X8_record 200 w 1 (mR sc i) = some (nI (i + 1), mR sc (i + 1)) := by
  have h1 := (mR_at sc i).1
  have s0 : (((8 : Int32) * 0).toInt64 &&& 63) = (0 : Int64) := by decide
  unfold F_X8_record
  rw [h1, show nI i + (1 : Int32) = nI (i + 1) from nI_1 i, if_pos (leL_b 160 160 rfl (by omega) (by decide)), show (1 : Int32) - 1 = 0 by decide, show (200 : Nat) = 198 + 1 + 1 from rfl, F_X8_record_b20.eq_2, if_neg (by decide), h1, if_neg (out_nI hi (by decide)), nI_1, nI_clamp (by omega), s0, Int64.shiftRight_zero, hw, F_X8_record_b20.eq_2, if_pos (by decide)]
  show some (hwU2 (mR sc i).1 3 3 (nI (i + 1)) 3 3, _) = _
  rw [hwU2_eq]
  rfl
/-- the tape of the first law -/
def iC (k : Nat) : Nat := if k < 69 then iCh k else 0
theorem iC_le : ∀ k, iC k ≤ 255 := by
  intro k
  unfold iC
  by_cases h : k < 69
  · rw [if_pos h]
    have : ∀ k, k < 69 → iCh k ≤ 255 := by decide +kernel
    exact this k h
  · rw [if_neg h]; exact Nat.zero_le _
/-- a memory that holds that tape alone, the class before place p -/
def iM (p : Nat) : Mem := (fun t k => bif Nat.beq t 3 then (bif Nat.beq k 3 then 69 else bif Nat.beq k 5 then nI p else 0) else 0, fun _ _ => 0, fun t _ k => bif Nat.beq t 62 then (bif Nat.ble 69 k then 0 else nI (iCh k)) else 0, fun _ _ _ => 0, (0, fun _ => 0))
def iTb (p : Nat) : Nat × Nat × Nat × Nat := ntD (0, 0, 0, 69) [(0, 4, 0, 4), (0, 0, 0, 0), (0, 0, 0, 0), (0, 0, 0, 0), (5, 2, 10, 7), (0, 0, 0, 0), (0, 0, 0, 0), (8, 43, 0, 9), (0, 0, 0, 0), (10, 3, 0, 14), (0, 0, 0, 0), (0, 0, 0, 0), (0, 0, 0, 0), (0, 0, 0, 0), (15, 42, 0, 16), (0, 0, 0, 0), (17, 3, 0, 21), (0, 0, 0, 0), (0, 0, 0, 0), (0, 0, 0, 0), (0, 0, 0, 0), (22, 42, 0, 23), (0, 0, 0, 0), (24, 2, 2, 25), (0, 0, 0, 0), (26, 59, 0, 27), (0, 0, 0, 0), (28, 5, 0, 33), (0, 0, 0, 0), (0, 0, 0, 0), (0, 0, 0, 0), (0, 0, 0, 0), (0, 0, 0, 0), (34, 3, 2, 38), (0, 0, 0, 0), (0, 0, 0, 0), (0, 0, 0, 0), (0, 0, 0, 0), (39, 45, 0, 40), (0, 0, 0, 0), (41, 3, 4, 47), (0, 0, 0, 0), (0, 0, 0, 0), (0, 0, 0, 0), (0, 0, 0, 0), (0, 0, 0, 0), (0, 0, 0, 0), (48, 42, 0, 49), (0, 0, 0, 0), (50, 2, 5, 51), (0, 0, 0, 0), (52, 59, 0, 53), (0, 0, 0, 0), (54, 6, 0, 58), (0, 0, 0, 0), (0, 0, 0, 0), (0, 0, 0, 0), (0, 0, 0, 0), (59, 2, 2, 60), (0, 0, 0, 0), (61, 42, 0, 62), (0, 0, 0, 0), (63, 3, 0, 67), (0, 0, 0, 0), (0, 0, 0, 0), (0, 0, 0, 0), (0, 0, 0, 0), (68, 59, 0, 69), (0, 0, 0, 0), (69, 0, 0, 69)] p
def iPs : List Nat := [0, 4, 7, 9, 14, 16, 21, 23, 25, 27, 33, 38, 40, 47, 49, 51, 53, 58, 60, 62, 67, 69]
def iK (p : Nat) : Nat := (iTb p).2.1
def iV (p : Nat) : Nat := (iTb p).2.2.1
def iE (p : Nat) : Nat := (iTb p).2.2.2
def iOne (p : Nat) : Option (Int32 × Int32 × Int32) := (F_X8_step 200 (iM p)).map (fun q => (q.2.1 3 5, q.2.1 3 7, q.2.1 3 8))
def iChk (p : Nat) : Bool := match iOne p with
  | some (e, k, v) => decide (e = nI (iE p)) && decide (k = nI (iK p)) && (decide (v = nI (iV p)) || !(Nat.beq (iK p) 2 || Nat.beq (iK p) 3))
  | none => false
theorem iChk_ok : iPs.all iChk = true := by decide +kernel
/-- the same words, the same machine -/
theorem sy_cg {K V E K' V' E' : Nat → Nat} {P : Nat → Prop} (h : ∀ p, P p → K p = K' p ∧ (K p = 2 ∨ K p = 3 → V p = V' p) ∧ E p = E' p ∧ P (E p)) : ∀ (n : Nat) (x1 x2 : Bool) (S : List Nat) (d : Nat) (o : List Nat) (p : Nat), P p → sy K V E n x1 x2 S d o p = sy K' V' E' n x1 x2 S d o p := by
  intro n
  induction n with
  | zero => intro x1 x2 S d o p hp; rfl
  | succ n ih =>
    intro x1 x2 S d o p hp
    obtain ⟨hK, hV, hE, hP⟩ := h p hp
    rw [hE] at hP
    cases x1 with
    | false =>
      rw [sy, sy, ← hK, ← hE]
      rw [hE]
      cases e : (uw 1 S d o).1 with
      | nil =>
        simp only [ih _ _ _ _ _ _ hP]
      | cons b S2 =>
        simp only [ih _ _ _ _ _ _ hP]
    | true =>
      rw [sy, sy, ← hK, ← hE, hE]
      by_cases c : K p = 2 ∨ K p = 3
      · rw [if_pos c, if_pos c, hV c, ih _ _ _ _ _ _ hP]
      · rw [if_neg c, if_neg c]
        simp only [ih _ _ _ _ _ _ hP]
theorem sy_up {K V E : Nat → Nat} {x1 x2 : Bool} {S : List Nat} {d : Nat} {o : List Nat} {p : Nat} {r : Bool × Nat × List Nat} {n : Nat} (h : sy K V E n x1 x2 S d o p = some r) : ∀ m, sy K V E (n + m) x1 x2 S d o p = some r
  | 0 => h
  | m + 1 => sy_mono (n + m) (sy_up h m)
theorem Run.det {K V E : Nat → Nat} {x1 x2 : Bool} {S : List Nat} {d : Nat} {o : List Nat} {p : Nat} {r r' : Bool × Nat × List Nat} {n : Nat} (h : Run K V E x1 x2 S d o p r) (e : sy K V E n x1 x2 S d o p = some r') : r = r' := by
  obtain ⟨m, h⟩ := h
  have a := sy_up h n
  have b := sy_up e m
  rw [Nat.add_comm] at b
  rw [a] at b
  exact Option.some.inj b
theorem i_tok {S0 K V E : Nat → Nat} (ht : Tks 200 iC 69 S0 K V E) (p : Nat) (hp : p ∈ iPs) : K p = iK p ∧ (K p = 2 ∨ K p = 3 → V p = iV p) ∧ E p = iE p ∧ E p ∈ iPs := by
  have le : ∀ p, p ∈ iPs → p ≤ 69 ∧ iK p < 256 ∧ iE p ≤ 69 ∧ iE p ∈ iPs ∧ iV p < 10000 := by decide +kernel
  obtain ⟨l1, l2, l3, l4, l5⟩ := le p hp
  have ck := List.all_eq_true.mp iChk_ok p hp
  obtain ⟨⟨-, -, t3, -, -, t6, t7, t8⟩, tx, -⟩ := ht p l1
  have cp : CTp iC 69 (iM p) := ⟨rfl, fun k hk => by
    show (bif Nat.ble 69 k then (0 : Int32) else nI (iCh k)) = nI (iC k)
    unfold iC
    by_cases c : k < 69
    · have : Nat.ble 69 k = false := by
        cases q : Nat.ble 69 k with
        | false => rfl
        | true => have := Nat.le_of_ble_eq_true q; omega
      rw [this, if_pos c]
      rfl
    · rw [if_neg c, Nat.ble_eq_true_of_le (by omega)]
      rfl⟩
  obtain ⟨τ, f, -, a5, a6, a7, a8⟩ := tx (iM p) cp rfl
  have eo : iOne p = some (nI (E p), nI (K p), τ.1 3 8) := by
    unfold iOne
    rw [f]
    show some (τ.1 3 5, τ.1 3 7, τ.1 3 8) = _
    rw [a5, a7]
  unfold iChk at ck
  rw [eo] at ck
  simp only [Bool.and_eq_true, decide_eq_true_eq] at ck
  obtain ⟨⟨c1, c2⟩, c3⟩ := ck
  have eE : E p = iE p := (nI_eq (a := E p) (b := iE p) (by omega) (by omega)).mp c1
  have eK : K p = iK p := (nI_eq (a := K p) (b := iK p) (by omega) (by omega)).mp c2
  refine ⟨eK, fun q => ?_, eE, by rw [eE]; exact l4⟩
  have hv := a8 q
  rw [hv] at c3
  have hq : (Nat.beq (iK p) 2 || Nat.beq (iK p) 3) = true := by
    rw [← eK]
    rcases q with q | q <;> (rw [q]; rfl)
  rw [hq] at c3
  have c3 : nI (V p) = nI (iV p) := by simpa using c3
  have v2 : V p < 10000 := by
    rcases q with q | q
    · exact t7 q
    · have := t8 q; omega
  exact (nI_eq (a := V p) (b := iV p) (by omega) (by omega)).mp c3
/-- what the first law reads as -/
theorem i_txt {S0 K V E : Nat → Nat} (ht : Tks 200 iC 69 S0 K V E) (res : Bool × Nat × List (List Nat)) (h : Txt 69 K V E 3 0 res) : res = (true, 69, [[100010, 0, 0, 18, 100002, 18, 16], [2, 4, 100005, 18, 17], [100002, 0, 18]]) := by
  have tk := i_tok ht
  have cg : ∀ p, p ∈ iPs → sy K V E 20 true true [] 0 [] p = sy iK iV iE 20 true true [] 0 [] p := fun p hp => sy_cg (P := fun p => p ∈ iPs) tk 20 true true [] 0 [] p hp
  have m : ∀ p, p ∈ iPs → E p = iE p := fun p hp => (tk p hp).2.2.1
  have k : ∀ p, p ∈ iPs → K p = iK p := fun p hp => (tk p hp).1
  have s1 : sy iK iV iE 20 true true [] 0 [] 4 = some (true, 25, [100010, 0, 0, 18, 100002, 18, 16]) := by decide +kernel
  have s2 : sy iK iV iE 20 true true [] 0 [] 33 = some (true, 51, [2, 4, 100005, 18, 17]) := by decide +kernel
  have s3 : sy iK iV iE 20 true true [] 0 [] 58 = some (true, 67, [100002, 0, 18]) := by decide +kernel
  have e0 : E 0 = 4 := m 0 (by decide)
  have e1 : E 25 = 27 := m 25 (by decide)
  have e2 : E 27 = 33 := m 27 (by decide)
  have e3 : E 51 = 53 := m 51 (by decide)
  have e4 : E 53 = 58 := m 53 (by decide)
  have e5 : E 67 = 69 := m 67 (by decide)
  have k0 : K 0 = 4 := k 0 (by decide)
  have k1 : K 27 = 5 := k 27 (by decide)
  have k2 : K 53 = 6 := k 53 (by decide)
  have k3 : K 69 = 0 := k 69 (by decide)
  rw [Txt, if_pos (by rw [k0]), e0] at h
  obtain ⟨s, run, -, alt⟩ := h
  have hs := run.det ((cg 4 (by decide)).trans s1)
  subst hs
  rw [if_pos rfl] at alt
  obtain ⟨-, r2, h, er⟩ := alt
  rw [show E ((true, 25, [100010, 0, 0, 18, 100002, 18, 16]) : Bool × Nat × List Nat).2.1 = 27 from e1, Txt, if_pos (by rw [k1]), e2] at h
  obtain ⟨s, run, -, alt⟩ := h
  have hs := run.det ((cg 33 (by decide)).trans s2)
  subst hs
  rw [if_pos rfl] at alt
  obtain ⟨-, r3, h, er2⟩ := alt
  rw [show E ((true, 51, [2, 4, 100005, 18, 17]) : Bool × Nat × List Nat).2.1 = 53 from e3, Txt, if_pos (by rw [k2]), e4] at h
  obtain ⟨s, run, -, alt⟩ := h
  have hs := run.det ((cg 58 (by decide)).trans s3)
  subst hs
  rw [if_pos rfl] at alt
  obtain ⟨-, r4, h, er3⟩ := alt
  rw [show E ((true, 67, [100002, 0, 18]) : Bool × Nat × List Nat).2.1 = 69 from e5, Txt, k3] at h
  subst h
  subst er3
  subst er2
  subst er
  rfl

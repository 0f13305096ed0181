/-! THE PURE SIDE, 56: a new text's ground -/
def tl : List (List Nat) → Nat
  | [] => 0
  | o :: r => o.length + tl r
def allOk : List (List Nat) → Prop
  | [] => True
  | o :: r => sOk (o.map nI) 0 = true ∧ allOk r
theorem Txt.ok {N : Nat} {c : Nat → Nat} {L : Nat} {S0 K V E : Nat → Nat} (ht : Tks N c L S0 K V E) : ∀ (m p : Nat) (res : Bool × Nat × List (List Nat)), p ≤ L → Txt L K V E m p res → res.1 = true → res.2.2.length = m ∧ allOk res.2.2 ∧ tl res.2.2 + m + p ≤ L := by
  intro m
  induction m with
  | zero =>
    intro p res hp h ht
    rw [Txt] at h
    subst h
    exact ⟨rfl, trivial, by show 0 + 0 + p ≤ L; omega⟩
  | succ m ih =>
    intro p res hp h hr
    obtain ⟨⟨t1, t2, t3, t4, t5, -⟩, -, -⟩ := ht p hp
    rw [Txt] at h
    by_cases ck : K p = 4 + (2 - m)
    · rw [if_pos ck] at h
      obtain ⟨⟨s1, p2, o⟩, run, hsL, alt⟩ := h
      by_cases st : s1 = true
      · subst st
        rw [if_pos rfl] at alt
        obtain ⟨⟨c59, hl⟩, r2, tx2, er⟩ := alt
        subst er
        have c59 : K p2 = 59 := c59
        have hsL : p2 ≤ L := hsL
        have hl : o.length + E p ≤ p2 := hl
        obtain ⟨⟨u1, u2, u3, u4, u5, -⟩, -, -⟩ := ht p2 hsL
        obtain ⟨a, b, d⟩ := ih (E p2) r2 u3 tx2 hr
        have pe := t5 (by omega)
        have pe2 := u5 (by omega)
        refine ⟨by show r2.2.2.length + 1 = m + 1; omega, ⟨Run.ok ht t3 run, b⟩, ?_⟩
        show o.length + tl r2.2.2 + (m + 1) + p ≤ L
        omega
      · rw [if_neg st] at alt
        subst alt
        cases hr
    · rw [if_neg ck] at h
      subst h
      cases hr
theorem map_rng (o : List Nat) (f : Nat → Int32) (h : ∀ i, i < o.length → f i = nI (o.getD i 0)) : (List.range o.length).map f = o.map nI := by
  apply List.ext_getElem
  · simp
  · intro i h1 h2
    have hi : i < o.length := by simpa using h2
    rw [List.getElem_map, List.getElem_map, List.getElem_range, h i hi, List.getD_eq_getElem?_getD, List.getElem?_eq_getElem hi]
    rfl
theorem HX0.nt {σ τ : Mem} {g g' : Nat → Nat → Int32} (h : HX0 σ g)
    (a1 : ∀ a, a ≠ 2 → a ≠ 3 → τ.1 a = σ.1 a) (a2 : τ.1 2 10 = σ.1 2 10) (a3 : τ.1 3 3 = g' 12 24) (h24 : g' 12 24 = nI 0) (a4 : τ.1 2 9 = g' 12 27)
    (b : ∀ a, a ≠ 63 → a ≠ 64 → a ≠ 39 → a ≠ 41 → τ.2.2.1 a = σ.2.2.1 a)
    (c12 : ∀ k, k ≠ 24 → k ≠ 27 → g' 12 k = g 12 k) (ct : ∀ t, t ≠ 12 → t ≠ 87 → t ≠ 88 → g' t = g t)
    (cs : ∀ t q, t < (g' 12 27).toNatClampNeg → q < 3 → τ.2.2.1 41 t q = nI (sSt g' t q + q) ∧ (∀ i, i < sSt g' t (q + 1) - sSt g' t q → τ.2.2.1 39 t (sSt g' t q + q + i) = sTr (g' 87 (200 * t + (sSt g' t q + i)))) ∧ τ.2.2.1 39 t (sSt g' t (q + 1) + q) = 40000) : HX0 τ g' := by
  have b1 : ∀ k, k < 5 → g' 12 k = g 12 k := fun k hk => c12 k (by omega) (by omega)
  unfold HX0
  simp (disch := omega) only [a1, a2, b, c12, ct]
  exact ⟨h.ly, fun k hk => by rw [b1 k hk]; exact h.set k hk, h.bs, h.sa, h.si, h.fo, h.al, h.pl, h.fi, h.sg, h.dy, h.wa, h.ti, h.ru, h.ki, h.mo, h.sp, h.fa, h.fp, h.fn, a3, fun k hk => (by rw [h24] at hk; exact absurd hk (Nat.not_lt_zero _)), a4, h.rl, h.im, h.is, h.ir, h.il, h.ih, h.if_, h.id_, h.iw, h.ig, h.it, h.so, h.sz, h.ce, cs⟩
theorem Wf.nt {g g' : Nat → Nat → Int32} (h : Wf g)
    (c12 : ∀ k, k ≠ 24 → k ≠ 27 → g' 12 k = g 12 k) (ct : ∀ t, t ≠ 12 → t ≠ 87 → t ≠ 88 → g' t = g t)
    (h24 : isN (g' 12 24) 160) (h27 : isN (g' 12 27) 6) (le : (g 12 27).toNatClampNeg ≤ (g' 12 27).toNatClampNeg)
    (tx : ∀ t, t < (g' 12 27).toNatClampNeg → (∀ q, q < 4 → g' 88 (4 * t + q) = nI (sSt g' t q)) ∧ (∀ q, q < 3 → sSt g' t q ≤ sSt g' t (q + 1)) ∧ sSt g' t 3 ≤ 157 ∧ ∀ q, q < 3 → sOk (sCs g' t q) 0 = true) : Wf g' := by
  have r1 := h.rl
  have r2 := h.ir
  obtain ⟨e1, e2, e3, e4, e5, e6, e7, e8, e9, e10, e11, e12, e13, e14, e15, e16, e17⟩ := h
  unfold Wf
  simp (disch := omega) only [c12, ct]
  refine ⟨e1, e2, e3, e4, e5, e6, e7, e8, e9, h24, h27, ⟨r1.1, by have := r1.2; omega⟩, e13, e14, ⟨r2.1, by have := r2.2; omega⟩, e16, ?_⟩
  obtain ⟨f1, f2, f3, f4, f5, f6, f7, f8, f9, f10, f11, f12, f13, f14, f15, f16, f17, f18, f19, f20, f21, f22, f23, f24, f25, f26, -⟩ := e17
  exact ⟨f1, f2, f3, f4, f5, f6, f7, f8, f9, f10, f11, f12, f13, f14, f15, f16, f17, f18, f19, f20, f21, f22, f23, f24, f25, f26, tx⟩
/-- the texts that were there -/
theorem cs_old {g g' : Nat → Nat → Int32} (h : Wf g) {T : Nat} (eT : g 12 27 = nI T) (hT : T ≤ 6) (c87 : ∀ k, k < 200 * T → g' 87 k = g 87 k) (c88 : ∀ k, k < 4 * T → g' 88 k = g 88 k) {t : Nat} (ht : t < T) : (∀ q, q < 4 → sSt g' t q = sSt g t q) ∧ (∀ q, q < 3 → sCs g' t q = sCs g t q) := by
  have e0 : (g 12 27).toNatClampNeg = T := by rw [eT]; exact nI_clamp (by omega)
  obtain ⟨w1, w2, w3, w4⟩ := h.2.2.2.2.2.2.2.2.2.2.2.2.2.2.2.2.2.2.2.2.2.2.2.2.2.2.2.2.2.2.2.2.2.2.2.2.2.2.2.2.2.2 t (by omega)
  have s : ∀ q, q < 4 → sSt g' t q = sSt g t q := fun q hq => by unfold sSt; rw [c88 _ (by omega)]
  refine ⟨s, fun q hq => ?_⟩
  unfold sCs
  rw [s q (by omega), s (q + 1) (by omega)]
  apply List.map_congr_left
  intro i hi
  have hi : i < sSt g t (q + 1) - sSt g t q := List.mem_range.mp hi
  have a1 : sSt g t 0 ≤ sSt g t 1 := w2 0 (by decide)
  have a2 : sSt g t 1 ≤ sSt g t 2 := w2 1 (by decide)
  have a3 : sSt g t 2 ≤ sSt g t 3 := w2 2 (by decide)
  have a4 : sSt g t (q + 1) ≤ 157 := by
    have : q = 0 ∨ q = 1 ∨ q = 2 := by omega
    rcases this with e | e | e
    · subst e; show sSt g t 1 ≤ 157; omega
    · subst e; show sSt g t 2 ≤ 157; omega
    · subst e; exact w3
  exact c87 _ (by omega)
theorem HC.nt {σ τ : Mem} {g g' : Nat → Nat → Int32} (h : HC σ g) (hw : Wf g) {T : Nat} (eT : g 12 27 = nI T) (hT : T ≤ 6)
    (b : ∀ a, a ≠ 63 → a ≠ 64 → a ≠ 39 → a ≠ 41 → τ.2.2.1 a = σ.2.2.1 a)
    (c12 : ∀ k, k ≠ 24 → k ≠ 27 → g' 12 k = g 12 k) (ct : ∀ t, t ≠ 12 → t ≠ 87 → t ≠ 88 → g' t = g t) (c87 : ∀ k, k < 200 * T → g' 87 k = g 87 k) (c88 : ∀ k, k < 4 * T → g' 88 k = g 88 k) : HC τ g' := by
  have e0 : (g 12 27).toNatClampNeg = T := by rw [eT]; exact nI_clamp (by omega)
  have er : sRl g' = sRl g := by unfold sRl; rw [c12 28 (by decide) (by decide)]
  have lt : sRl g < T := by have := hw.rl.2; unfold sRl; omega
  have ev : ∀ part, part < 3 → ∀ most nm, sVal g' part most nm = sVal g part most nm := fun part hp most nm => by
    unfold sVal
    rw [er, (cs_old hw eT hT c87 c88 lt).2 part hp]
  have k0 : ∀ y, sCost g' y = sCost g y := fun y => by unfold sCost; rw [ev 0 (by decide), c12 2 (by decide) (by decide)]
  have k1 : ∀ y j, sWat g' y j = sWat g y j := fun y j => by unfold sWat; rw [ev 1 (by decide), c12 2 (by decide) (by decide), ct 72 (by decide) (by decide) (by decide), ct 73 (by decide) (by decide) (by decide)]
  have k2 : ∀ y j, sFall g' y j = sFall g y j := fun y j => by unfold sFall; rw [ev 2 (by decide), c12 2 (by decide) (by decide)]
  refine ⟨fun y h1 h2 => ?_, fun y j h1 h2 h3 => ?_, fun b' y h1 h2 h3 => ?_⟩
  · rw [b 42 (by decide) (by decide) (by decide) (by decide), k0]; exact h.1 y h1 h2
  · rw [b 44 (by decide) (by decide) (by decide) (by decide), k1]
    exact h.2.1 y j h1 h2 (by rw [c12 5 (by decide) (by decide)] at h3; exact h3)
  · rw [b 46 (by decide) (by decide) (by decide) (by decide), k2]; exact h.2.2 b' y h1 h2 h3

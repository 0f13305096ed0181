/-! THE PURE SIDE, 29: both grounds move together -/
/-- the class moved: the reference is as it was -/
def KC (σ τ : Mem) : Prop := τ.1 12 = σ.1 12 ∧ (∀ t, 72 ≤ t → t ≤ 97 → τ.2.2.1 t = σ.2.2.1 t) ∧ τ.2.2.2 = σ.2.2.2
theorem KC.rfl_ (σ : Mem) : KC σ σ := ⟨rfl, fun _ _ _ => rfl, rfl⟩
theorem KC.trans {σ τ υ : Mem} (h : KC σ τ) (k : KC τ υ) : KC σ υ := ⟨k.1.trans h.1, fun t a b => (k.2.1 t a b).trans (h.2.1 t a b), k.2.2.trans h.2.2⟩
theorem KC.g {σ τ : Mem} (h : KC σ τ) : gM τ = gM σ := by
  funext t k
  unfold gM
  rw [h.1]
  cases Nat.beq t 12 with
  | true => rfl
  | false =>
    cases h1 : (Nat.ble 72 t && Nat.ble t 97) with
    | false => rfl
    | true =>
      show τ.2.2.1 t 0 k = σ.2.2.1 t 0 k
      rw [h.2.1 t (Nat.le_of_ble_eq_true (and_t h1).1) (Nat.le_of_ble_eq_true (and_t h1).2)]
theorem KW.kc {σ τ : Mem} (h : KW σ τ) : KC σ τ := ⟨by rw [h.1], fun t a b => h.2.2.1 t (by omega) (by omega) (by omega) (by omega) (by omega), h.2.2.2⟩
/-- the reference moved: the class is as it was -/
def KR (σ τ : Mem) : Prop := (∀ t, t ≠ 12 → τ.1 t = σ.1 t) ∧ (∀ t, t < 72 → τ.2.2.1 t = σ.2.2.1 t) ∧ τ.2.2.2 = σ.2.2.2
theorem KR.rfl_ (σ : Mem) : KR σ σ := ⟨fun _ _ => rfl, fun _ _ => rfl, rfl⟩
theorem KR.trans {σ τ υ : Mem} (h : KR σ τ) (k : KR τ υ) : KR σ υ := ⟨fun t a => (k.1 t a).trans (h.1 t a), fun t a => (k.2.1 t a).trans (h.2.1 t a), k.2.2.trans h.2.2⟩
theorem HX.kr {σ τ : Mem} {g : Nat → Nat → Int32} (h : HX σ g) (k : KR σ τ) : HX τ g := by
  have i := k.2.1
  unfold HX HX0 HC at *
  rw [k.1 1 (by decide), k.1 4 (by decide), k.1 6 (by decide), k.1 7 (by decide), k.1 3 (by decide), k.1 2 (by decide), k.1 11 (by decide), i 28 (by decide), i 22 (by decide), i 23 (by decide), i 24 (by decide), i 26 (by decide), i 27 (by decide), i 55 (by decide), i 57 (by decide), i 58 (by decide), i 59 (by decide), i 61 (by decide), i 65 (by decide), i 66 (by decide), i 67 (by decide), i 20 (by decide), i 21 (by decide), i 62 (by decide), i 29 (by decide), i 31 (by decide), i 34 (by decide), i 35 (by decide), i 33 (by decide), i 37 (by decide), i 70 (by decide), i 71 (by decide), i 69 (by decide), i 41 (by decide), i 39 (by decide), i 42 (by decide), i 44 (by decide), i 46 (by decide)]
  exact h
/-- both move, to one and the same -/
theorem Ac.up {α : Type} {F1 F2 : Mem → Option (α × Mem)} {σ τ1 τ2 : Mem} {r : α} {g' : Nat → Nat → Int32} (e1 : F1 σ = some (r, τ1)) (kc : KC σ τ1) (hx : HX τ1 g') (e2 : F2 τ1 = some (r, τ2)) (kr : KR τ1 τ2) (eg : gM τ2 = g') (wf : Wf g') : Ac F1 F2 σ :=
  ⟨r, τ1, τ2, e1, e2, by rw [kc.2.2], by rw [kr.2.2, kc.2.2], by rw [kr.2.2, kc.2.2], by unfold Ag; rw [eg]; exact ⟨hx.kr kr, wf⟩⟩
theorem HC.cg {σ τ : Mem} {g g' : Nat → Nat → Int32} (h : HC σ g) (c42 : τ.2.2.1 42 = σ.2.2.1 42) (c44 : τ.2.2.1 44 = σ.2.2.1 44) (c46 : τ.2.2.1 46 = σ.2.2.1 46) (a5 : g' 12 5 = g 12 5) (a2 : g' 12 2 = g 12 2) (a28 : g' 12 28 = g 12 28) (b72 : g' 72 = g 72) (b73 : g' 73 = g 73) (b87 : g' 87 = g 87) (b88 : g' 88 = g 88) : HC τ g' := by
  unfold HC sCost sWat sFall sVal sRl sCs sSt at *
  rw [c42, c44, c46, a5, a2, a28, b72, b73, b87, b88]
  exact h
theorem sSt_o {g : Nat → Nat → Int32} {t k : Nat} {v : Int32} (h : 88 ≠ t) : sSt (hwU2 g t k v) = sSt g := by
  funext a q; unfold sSt; rw [u2_t h]
theorem sCs_o {g : Nat → Nat → Int32} {t k : Nat} {v : Int32} (h : 88 ≠ t ∧ 87 ≠ t) : sCs (hwU2 g t k v) = sCs g := by
  funext a q; unfold sCs; rw [sSt_o h.1, u2_t h.2]
theorem up1 {C : Nat → Nat → Nat → Int32} {g : Nat → Nat → Int32} {t T m : Nat} (n : Nat) (v : Int32) (h : ∀ k, k < m → C t 0 k = g T k) : ∀ k, k < m → hwU3 C t 0 n v t 0 k = hwU2 g T n v T k := by
  intro k hk
  by_cases e : k = n
  · subst e; rw [hwU3_eq, hwU2_eq]
  · rw [hwU3_k e, u2_k e]; exact h k hk
theorem up2 {C : Nat → Nat → Nat → Int32} {g : Nat → Nat → Int32} {t T a b : Nat} (i j : Nat) (hj : j < b) (v : Int32) (h : ∀ x y, x < a → y < b → C t x y = g T (b * x + y)) : ∀ x y, x < a → y < b → hwU3 C t i j v t x y = hwU2 g T (b * i + j) v T (b * x + y) := by
  intro x y hx hy
  rw [hwU3_get, hwU2_get, ← h x y hx hy]
  by_cases e : x = i ∧ y = j
  · obtain ⟨rfl, rfl⟩ := e
    rw [if_pos ⟨rfl, rfl, rfl⟩, if_pos ⟨rfl, rfl⟩]
  · rw [if_neg (fun q => e q.2), if_neg (fun q => e ?_)]
    have q := q.2
    have e1 : x = i := by
      have a1 : (b * x + y) / b = x := by rw [Nat.mul_add_div (by omega), Nat.div_eq_of_lt hy, Nat.add_zero]
      have a2 : (b * i + j) / b = i := by rw [Nat.mul_add_div (by omega), Nat.div_eq_of_lt hj, Nat.add_zero]
      rw [← a1, ← a2, q]
    subst e1
    exact ⟨rfl, by omega⟩
theorem up3 {g : Nat → Nat → Int32} {T m b : Nat} (n : Nat) {v : Int32} (hv : isN v b) (h : ∀ k, k < m → isN (g T k) b) : ∀ k, k < m → isN (hwU2 g T n v T k) b := by
  intro k hk
  by_cases e : k = n
  · subst e; rw [hwU2_eq]; exact hv
  · rw [u2_k e]; exact h k hk
theorem HX0.u_ly {A : Nat → Nat → Int32} {B : Nat → Nat → Int64} {C : Nat → Nat → Nat → Int32} {D : (Nat → Nat → Nat → Int64) × (Nat × (Nat → Int32))} {g : Nat → Nat → Int32} (h : HX0 (A, B, C, D) g) (v : Int32) : HX0 (hwU2 A 1 6 v, B, C, D) (hwU2 g 12 5 v) := by
  unfold HX0
  simp (disch := omega) only [hwU3_t, u2_t, u2_k, sSt_o, sCs_o]
  exact ⟨hwU2_eq.trans hwU2_eq.symm, fun k hk => (h.set k hk).trans (u2_k (by omega)).symm, h.bs, h.sa, h.si, h.fo, h.al, h.pl, h.fi, h.sg, h.dy, h.wa, h.ti, h.ru, h.ki, h.mo, h.sp, h.fa, h.fp, h.fn, h.td, h.tp, h.tx, h.rl, h.im, h.is, h.ir, h.il, h.ih, h.if_, h.id_, h.iw, h.ig, h.it, h.so, h.sz, h.ce, h.cs⟩
theorem HX0.u_pl {A : Nat → Nat → Int32} {B : Nat → Nat → Int64} {C : Nat → Nat → Nat → Int32} {D : (Nat → Nat → Nat → Int64) × (Nat × (Nat → Int32))} {g : Nat → Nat → Int32} (h : HX0 (A, B, C, D) g) (v : Int32) : HX0 (hwU2 A 4 5 v, B, C, D) (hwU2 g 12 10 v) := by
  unfold HX0
  simp (disch := omega) only [hwU3_t, u2_t, u2_k, sSt_o, sCs_o]
  exact ⟨h.ly, fun k hk => (h.set k hk).trans (u2_k (by omega)).symm, h.bs, h.sa, h.si, h.fo, h.al, hwU2_eq.trans hwU2_eq.symm, h.fi, h.sg, h.dy, h.wa, h.ti, h.ru, h.ki, h.mo, h.sp, h.fa, h.fp, h.fn, h.td, h.tp, h.tx, h.rl, h.im, h.is, h.ir, h.il, h.ih, h.if_, h.id_, h.iw, h.ig, h.it, h.so, h.sz, h.ce, h.cs⟩
theorem HX0.u_ru {A : Nat → Nat → Int32} {B : Nat → Nat → Int64} {C : Nat → Nat → Nat → Int32} {D : (Nat → Nat → Nat → Int64) × (Nat × (Nat → Int32))} {g : Nat → Nat → Int32} (h : HX0 (A, B, C, D) g) (v : Int32) : HX0 (hwU2 A 6 4 v, B, C, D) (hwU2 g 12 16 v) := by
  unfold HX0
  simp (disch := omega) only [hwU3_t, u2_t, u2_k, sSt_o, sCs_o]
  exact ⟨h.ly, fun k hk => (h.set k hk).trans (u2_k (by omega)).symm, h.bs, h.sa, h.si, h.fo, h.al, h.pl, h.fi, h.sg, h.dy, h.wa, h.ti, hwU2_eq.trans hwU2_eq.symm, h.ki, h.mo, h.sp, h.fa, h.fp, h.fn, h.td, h.tp, h.tx, h.rl, h.im, h.is, h.ir, h.il, h.ih, h.if_, h.id_, h.iw, h.ig, h.it, h.so, h.sz, h.ce, h.cs⟩
theorem HX0.u_fa {A : Nat → Nat → Int32} {B : Nat → Nat → Int64} {C : Nat → Nat → Nat → Int32} {D : (Nat → Nat → Nat → Int64) × (Nat × (Nat → Int32))} {g : Nat → Nat → Int32} (h : HX0 (A, B, C, D) g) (v : Int32) : HX0 (hwU2 A 7 2 v, B, C, D) (hwU2 g 12 20 v) := by
  unfold HX0
  simp (disch := omega) only [hwU3_t, u2_t, u2_k, sSt_o, sCs_o]
  exact ⟨h.ly, fun k hk => (h.set k hk).trans (u2_k (by omega)).symm, h.bs, h.sa, h.si, h.fo, h.al, h.pl, h.fi, h.sg, h.dy, h.wa, h.ti, h.ru, h.ki, h.mo, h.sp, hwU2_eq.trans hwU2_eq.symm, h.fp, h.fn, h.td, h.tp, h.tx, h.rl, h.im, h.is, h.ir, h.il, h.ih, h.if_, h.id_, h.iw, h.ig, h.it, h.so, h.sz, h.ce, h.cs⟩
theorem HX0.u_td {A : Nat → Nat → Int32} {B : Nat → Nat → Int64} {C : Nat → Nat → Nat → Int32} {D : (Nat → Nat → Nat → Int64) × (Nat × (Nat → Int32))} {g : Nat → Nat → Int32} (h : HX0 (A, B, C, D) g) (v : Int32) (ht : ∀ k, k < v.toNatClampNeg → C 62 0 k = g 86 k) : HX0 (hwU2 A 3 3 v, B, C, D) (hwU2 g 12 24 v) := by
  unfold HX0
  simp (disch := omega) only [hwU3_t, u2_t, u2_k, sSt_o, sCs_o]
  exact ⟨h.ly, fun k hk => (h.set k hk).trans (u2_k (by omega)).symm, h.bs, h.sa, h.si, h.fo, h.al, h.pl, h.fi, h.sg, h.dy, h.wa, h.ti, h.ru, h.ki, h.mo, h.sp, h.fa, h.fp, h.fn, hwU2_eq.trans hwU2_eq.symm, fun k hk => ht k (by rw [hwU2_eq] at hk; exact hk), h.tx, h.rl, h.im, h.is, h.ir, h.il, h.ih, h.if_, h.id_, h.iw, h.ig, h.it, h.so, h.sz, h.ce, h.cs⟩
theorem HX0.u_rl {A : Nat → Nat → Int32} {B : Nat → Nat → Int64} {C : Nat → Nat → Nat → Int32} {D : (Nat → Nat → Nat → Int64) × (Nat × (Nat → Int32))} {g : Nat → Nat → Int32} (h : HX0 (A, B, C, D) g) (v : Int32) : HX0 (hwU2 A 2 10 v, B, C, D) (hwU2 g 12 28 v) := by
  unfold HX0
  simp (disch := omega) only [hwU3_t, u2_t, u2_k, sSt_o, sCs_o]
  exact ⟨h.ly, fun k hk => (h.set k hk).trans (u2_k (by omega)).symm, h.bs, h.sa, h.si, h.fo, h.al, h.pl, h.fi, h.sg, h.dy, h.wa, h.ti, h.ru, h.ki, h.mo, h.sp, h.fa, h.fp, h.fn, h.td, h.tp, h.tx, hwU2_eq.trans hwU2_eq.symm, h.im, h.is, h.ir, h.il, h.ih, h.if_, h.id_, h.iw, h.ig, h.it, h.so, h.sz, h.ce, h.cs⟩
theorem HX0.u_im {A : Nat → Nat → Int32} {B : Nat → Nat → Int64} {C : Nat → Nat → Nat → Int32} {D : (Nat → Nat → Nat → Int64) × (Nat × (Nat → Int32))} {g : Nat → Nat → Int32} (h : HX0 (A, B, C, D) g) (v : Int32) : HX0 (hwU2 A 11 11 v, B, C, D) (hwU2 g 12 29 v) := by
  unfold HX0
  simp (disch := omega) only [hwU3_t, u2_t, u2_k, sSt_o, sCs_o]
  exact ⟨h.ly, fun k hk => (h.set k hk).trans (u2_k (by omega)).symm, h.bs, h.sa, h.si, h.fo, h.al, h.pl, h.fi, h.sg, h.dy, h.wa, h.ti, h.ru, h.ki, h.mo, h.sp, h.fa, h.fp, h.fn, h.td, h.tp, h.tx, h.rl, hwU2_eq.trans hwU2_eq.symm, h.is, h.ir, h.il, h.ih, h.if_, h.id_, h.iw, h.ig, h.it, h.so, h.sz, h.ce, h.cs⟩
theorem HX0.u_is {A : Nat → Nat → Int32} {B : Nat → Nat → Int64} {C : Nat → Nat → Nat → Int32} {D : (Nat → Nat → Nat → Int64) × (Nat × (Nat → Int32))} {g : Nat → Nat → Int32} (h : HX0 (A, B, C, D) g) (v : Int32) : HX0 (hwU2 A 11 9 v, B, C, D) (hwU2 g 12 30 v) := by
  unfold HX0
  simp (disch := omega) only [hwU3_t, u2_t, u2_k, sSt_o, sCs_o]
  exact ⟨h.ly, fun k hk => (h.set k hk).trans (u2_k (by omega)).symm, h.bs, h.sa, h.si, h.fo, h.al, h.pl, h.fi, h.sg, h.dy, h.wa, h.ti, h.ru, h.ki, h.mo, h.sp, h.fa, h.fp, h.fn, h.td, h.tp, h.tx, h.rl, h.im, hwU2_eq.trans hwU2_eq.symm, h.ir, h.il, h.ih, h.if_, h.id_, h.iw, h.ig, h.it, h.so, h.sz, h.ce, h.cs⟩
theorem HX0.u_ir {A : Nat → Nat → Int32} {B : Nat → Nat → Int64} {C : Nat → Nat → Nat → Int32} {D : (Nat → Nat → Nat → Int64) × (Nat × (Nat → Int32))} {g : Nat → Nat → Int32} (h : HX0 (A, B, C, D) g) (v : Int32) : HX0 (hwU2 A 11 10 v, B, C, D) (hwU2 g 12 31 v) := by
  unfold HX0
  simp (disch := omega) only [hwU3_t, u2_t, u2_k, sSt_o, sCs_o]
  exact ⟨h.ly, fun k hk => (h.set k hk).trans (u2_k (by omega)).symm, h.bs, h.sa, h.si, h.fo, h.al, h.pl, h.fi, h.sg, h.dy, h.wa, h.ti, h.ru, h.ki, h.mo, h.sp, h.fa, h.fp, h.fn, h.td, h.tp, h.tx, h.rl, h.im, h.is, hwU2_eq.trans hwU2_eq.symm, h.il, h.ih, h.if_, h.id_, h.iw, h.ig, h.it, h.so, h.sz, h.ce, h.cs⟩
theorem HX0.u_il {A : Nat → Nat → Int32} {B : Nat → Nat → Int64} {C : Nat → Nat → Nat → Int32} {D : (Nat → Nat → Nat → Int64) × (Nat × (Nat → Int32))} {g : Nat → Nat → Int32} (h : HX0 (A, B, C, D) g) (v : Int32) : HX0 (hwU2 A 11 8 v, B, C, D) (hwU2 g 12 34 v) := by
  unfold HX0
  simp (disch := omega) only [hwU3_t, u2_t, u2_k, sSt_o, sCs_o]
  exact ⟨h.ly, fun k hk => (h.set k hk).trans (u2_k (by omega)).symm, h.bs, h.sa, h.si, h.fo, h.al, h.pl, h.fi, h.sg, h.dy, h.wa, h.ti, h.ru, h.ki, h.mo, h.sp, h.fa, h.fp, h.fn, h.td, h.tp, h.tx, h.rl, h.im, h.is, h.ir, hwU2_eq.trans hwU2_eq.symm, h.ih, h.if_, h.id_, h.iw, h.ig, h.it, h.so, h.sz, h.ce, h.cs⟩
theorem HX0.u_set {A : Nat → Nat → Int32} {B : Nat → Nat → Int64} {C : Nat → Nat → Nat → Int32} {D : (Nat → Nat → Nat → Int64) × (Nat × (Nat → Int32))} {g : Nat → Nat → Int32} (h : HX0 (A, B, C, D) g) (n : Nat) (hn : n < 5) (v : Int32) : HX0 (A, B, hwU3 C 28 0 n v, D) (hwU2 g 12 n v) := by
  unfold HX0
  simp (disch := omega) only [hwU3_t, u2_t, u2_k, sSt_o, sCs_o]
  exact ⟨h.ly, up1 n v h.set, h.bs, h.sa, h.si, h.fo, h.al, h.pl, h.fi, h.sg, h.dy, h.wa, h.ti, h.ru, h.ki, h.mo, h.sp, h.fa, h.fp, h.fn, h.td, h.tp, h.tx, h.rl, h.im, h.is, h.ir, h.il, h.ih, h.if_, h.id_, h.iw, h.ig, h.it, h.so, h.sz, h.ce, h.cs⟩
theorem HX0.u_bs {A : Nat → Nat → Int32} {B : Nat → Nat → Int64} {C : Nat → Nat → Nat → Int32} {D : (Nat → Nat → Nat → Int64) × (Nat × (Nat → Int32))} {g : Nat → Nat → Int32} (h : HX0 (A, B, C, D) g) (n : Nat) (v : Int32) : HX0 (A, B, hwU3 C 22 0 n v, D) (hwU2 g 72 n v) := by
  unfold HX0
  simp (disch := omega) only [hwU3_t, u2_t, u2_k, sSt_o, sCs_o]
  exact ⟨h.ly, h.set, up1 n v h.bs, h.sa, h.si, h.fo, h.al, h.pl, h.fi, h.sg, h.dy, h.wa, h.ti, h.ru, h.ki, h.mo, h.sp, h.fa, h.fp, h.fn, h.td, h.tp, h.tx, h.rl, h.im, h.is, h.ir, h.il, h.ih, h.if_, h.id_, h.iw, h.ig, h.it, h.so, h.sz, h.ce, h.cs⟩
theorem HX0.u_sa {A : Nat → Nat → Int32} {B : Nat → Nat → Int64} {C : Nat → Nat → Nat → Int32} {D : (Nat → Nat → Nat → Int64) × (Nat × (Nat → Int32))} {g : Nat → Nat → Int32} (h : HX0 (A, B, C, D) g) (n : Nat) (v : Int32) : HX0 (A, B, hwU3 C 23 0 n v, D) (hwU2 g 73 n v) := by
  unfold HX0
  simp (disch := omega) only [hwU3_t, u2_t, u2_k, sSt_o, sCs_o]
  exact ⟨h.ly, h.set, h.bs, up1 n v h.sa, h.si, h.fo, h.al, h.pl, h.fi, h.sg, h.dy, h.wa, h.ti, h.ru, h.ki, h.mo, h.sp, h.fa, h.fp, h.fn, h.td, h.tp, h.tx, h.rl, h.im, h.is, h.ir, h.il, h.ih, h.if_, h.id_, h.iw, h.ig, h.it, h.so, h.sz, h.ce, h.cs⟩
theorem HX0.u_si {A : Nat → Nat → Int32} {B : Nat → Nat → Int64} {C : Nat → Nat → Nat → Int32} {D : (Nat → Nat → Nat → Int64) × (Nat × (Nat → Int32))} {g : Nat → Nat → Int32} (h : HX0 (A, B, C, D) g) (n : Nat) (v : Int32) : HX0 (A, B, hwU3 C 24 0 n v, D) (hwU2 g 74 n v) := by
  unfold HX0
  simp (disch := omega) only [hwU3_t, u2_t, u2_k, sSt_o, sCs_o]
  exact ⟨h.ly, h.set, h.bs, h.sa, up1 n v h.si, h.fo, h.al, h.pl, h.fi, h.sg, h.dy, h.wa, h.ti, h.ru, h.ki, h.mo, h.sp, h.fa, h.fp, h.fn, h.td, h.tp, h.tx, h.rl, h.im, h.is, h.ir, h.il, h.ih, h.if_, h.id_, h.iw, h.ig, h.it, h.so, h.sz, h.ce, h.cs⟩
theorem HX0.u_dy {A : Nat → Nat → Int32} {B : Nat → Nat → Int64} {C : Nat → Nat → Nat → Int32} {D : (Nat → Nat → Nat → Int64) × (Nat × (Nat → Int32))} {g : Nat → Nat → Int32} (h : HX0 (A, B, C, D) g) (n : Nat) (v : Int32) : HX0 (A, B, hwU3 C 58 0 n v, D) (hwU2 g 77 n v) := by
  unfold HX0
  simp (disch := omega) only [hwU3_t, u2_t, u2_k, sSt_o, sCs_o]
  exact ⟨h.ly, h.set, h.bs, h.sa, h.si, h.fo, h.al, h.pl, h.fi, h.sg, up1 n v h.dy, h.wa, h.ti, h.ru, h.ki, h.mo, h.sp, h.fa, h.fp, h.fn, h.td, h.tp, h.tx, h.rl, h.im, h.is, h.ir, h.il, h.ih, h.if_, h.id_, h.iw, h.ig, h.it, h.so, h.sz, h.ce, h.cs⟩
theorem HX0.u_wa {A : Nat → Nat → Int32} {B : Nat → Nat → Int64} {C : Nat → Nat → Nat → Int32} {D : (Nat → Nat → Nat → Int64) × (Nat × (Nat → Int32))} {g : Nat → Nat → Int32} (h : HX0 (A, B, C, D) g) (n : Nat) (v : Int32) : HX0 (A, B, hwU3 C 59 0 n v, D) (hwU2 g 78 n v) := by
  unfold HX0
  simp (disch := omega) only [hwU3_t, u2_t, u2_k, sSt_o, sCs_o]
  exact ⟨h.ly, h.set, h.bs, h.sa, h.si, h.fo, h.al, h.pl, h.fi, h.sg, h.dy, up1 n v h.wa, h.ti, h.ru, h.ki, h.mo, h.sp, h.fa, h.fp, h.fn, h.td, h.tp, h.tx, h.rl, h.im, h.is, h.ir, h.il, h.ih, h.if_, h.id_, h.iw, h.ig, h.it, h.so, h.sz, h.ce, h.cs⟩
theorem HX0.u_ki {A : Nat → Nat → Int32} {B : Nat → Nat → Int64} {C : Nat → Nat → Nat → Int32} {D : (Nat → Nat → Nat → Int64) × (Nat × (Nat → Int32))} {g : Nat → Nat → Int32} (h : HX0 (A, B, C, D) g) (n : Nat) (v : Int32) : HX0 (A, B, hwU3 C 65 0 n v, D) (hwU2 g 81 n v) := by
  unfold HX0
  simp (disch := omega) only [hwU3_t, u2_t, u2_k, sSt_o, sCs_o]
  exact ⟨h.ly, h.set, h.bs, h.sa, h.si, h.fo, h.al, h.pl, h.fi, h.sg, h.dy, h.wa, h.ti, h.ru, up1 n v h.ki, h.mo, h.sp, h.fa, h.fp, h.fn, h.td, h.tp, h.tx, h.rl, h.im, h.is, h.ir, h.il, h.ih, h.if_, h.id_, h.iw, h.ig, h.it, h.so, h.sz, h.ce, h.cs⟩
theorem HX0.u_mo {A : Nat → Nat → Int32} {B : Nat → Nat → Int64} {C : Nat → Nat → Nat → Int32} {D : (Nat → Nat → Nat → Int64) × (Nat × (Nat → Int32))} {g : Nat → Nat → Int32} (h : HX0 (A, B, C, D) g) (n : Nat) (v : Int32) : HX0 (A, B, hwU3 C 66 0 n v, D) (hwU2 g 82 n v) := by
  unfold HX0
  simp (disch := omega) only [hwU3_t, u2_t, u2_k, sSt_o, sCs_o]
  exact ⟨h.ly, h.set, h.bs, h.sa, h.si, h.fo, h.al, h.pl, h.fi, h.sg, h.dy, h.wa, h.ti, h.ru, h.ki, up1 n v h.mo, h.sp, h.fa, h.fp, h.fn, h.td, h.tp, h.tx, h.rl, h.im, h.is, h.ir, h.il, h.ih, h.if_, h.id_, h.iw, h.ig, h.it, h.so, h.sz, h.ce, h.cs⟩
theorem HX0.u_sp {A : Nat → Nat → Int32} {B : Nat → Nat → Int64} {C : Nat → Nat → Nat → Int32} {D : (Nat → Nat → Nat → Int64) × (Nat × (Nat → Int32))} {g : Nat → Nat → Int32} (h : HX0 (A, B, C, D) g) (n : Nat) (v : Int32) : HX0 (A, B, hwU3 C 67 0 n v, D) (hwU2 g 83 n v) := by
  unfold HX0
  simp (disch := omega) only [hwU3_t, u2_t, u2_k, sSt_o, sCs_o]
  exact ⟨h.ly, h.set, h.bs, h.sa, h.si, h.fo, h.al, h.pl, h.fi, h.sg, h.dy, h.wa, h.ti, h.ru, h.ki, h.mo, up1 n v h.sp, h.fa, h.fp, h.fn, h.td, h.tp, h.tx, h.rl, h.im, h.is, h.ir, h.il, h.ih, h.if_, h.id_, h.iw, h.ig, h.it, h.so, h.sz, h.ce, h.cs⟩
theorem HX0.u_fp {A : Nat → Nat → Int32} {B : Nat → Nat → Int64} {C : Nat → Nat → Nat → Int32} {D : (Nat → Nat → Nat → Int64) × (Nat × (Nat → Int32))} {g : Nat → Nat → Int32} (h : HX0 (A, B, C, D) g) (n : Nat) (v : Int32) : HX0 (A, B, hwU3 C 20 0 n v, D) (hwU2 g 84 n v) := by
  unfold HX0
  simp (disch := omega) only [hwU3_t, u2_t, u2_k, sSt_o, sCs_o]
  exact ⟨h.ly, h.set, h.bs, h.sa, h.si, h.fo, h.al, h.pl, h.fi, h.sg, h.dy, h.wa, h.ti, h.ru, h.ki, h.mo, h.sp, h.fa, up1 n v h.fp, h.fn, h.td, h.tp, h.tx, h.rl, h.im, h.is, h.ir, h.il, h.ih, h.if_, h.id_, h.iw, h.ig, h.it, h.so, h.sz, h.ce, h.cs⟩
theorem HX0.u_fn {A : Nat → Nat → Int32} {B : Nat → Nat → Int64} {C : Nat → Nat → Nat → Int32} {D : (Nat → Nat → Nat → Int64) × (Nat × (Nat → Int32))} {g : Nat → Nat → Int32} (h : HX0 (A, B, C, D) g) (n : Nat) (v : Int32) : HX0 (A, B, hwU3 C 21 0 n v, D) (hwU2 g 85 n v) := by
  unfold HX0
  simp (disch := omega) only [hwU3_t, u2_t, u2_k, sSt_o, sCs_o]
  exact ⟨h.ly, h.set, h.bs, h.sa, h.si, h.fo, h.al, h.pl, h.fi, h.sg, h.dy, h.wa, h.ti, h.ru, h.ki, h.mo, h.sp, h.fa, h.fp, up1 n v h.fn, h.td, h.tp, h.tx, h.rl, h.im, h.is, h.ir, h.il, h.ih, h.if_, h.id_, h.iw, h.ig, h.it, h.so, h.sz, h.ce, h.cs⟩
theorem HX0.u_tp {A : Nat → Nat → Int32} {B : Nat → Nat → Int64} {C : Nat → Nat → Nat → Int32} {D : (Nat → Nat → Nat → Int64) × (Nat × (Nat → Int32))} {g : Nat → Nat → Int32} (h : HX0 (A, B, C, D) g) (n : Nat) (v : Int32) : HX0 (A, B, hwU3 C 62 0 n v, D) (hwU2 g 86 n v) := by
  unfold HX0
  simp (disch := omega) only [hwU3_t, u2_t, u2_k, sSt_o, sCs_o]
  exact ⟨h.ly, h.set, h.bs, h.sa, h.si, h.fo, h.al, h.pl, h.fi, h.sg, h.dy, h.wa, h.ti, h.ru, h.ki, h.mo, h.sp, h.fa, h.fp, h.fn, h.td, up1 n v h.tp, h.tx, h.rl, h.im, h.is, h.ir, h.il, h.ih, h.if_, h.id_, h.iw, h.ig, h.it, h.so, h.sz, h.ce, h.cs⟩
theorem HX0.u_ih {A : Nat → Nat → Int32} {B : Nat → Nat → Int64} {C : Nat → Nat → Nat → Int32} {D : (Nat → Nat → Nat → Int64) × (Nat × (Nat → Int32))} {g : Nat → Nat → Int32} (h : HX0 (A, B, C, D) g) (n : Nat) (v : Int32) : HX0 (A, B, hwU3 C 29 0 n v, D) (hwU2 g 89 n v) := by
  unfold HX0
  simp (disch := omega) only [hwU3_t, u2_t, u2_k, sSt_o, sCs_o]
  exact ⟨h.ly, h.set, h.bs, h.sa, h.si, h.fo, h.al, h.pl, h.fi, h.sg, h.dy, h.wa, h.ti, h.ru, h.ki, h.mo, h.sp, h.fa, h.fp, h.fn, h.td, h.tp, h.tx, h.rl, h.im, h.is, h.ir, h.il, up1 n v h.ih, h.if_, h.id_, h.iw, h.ig, h.it, h.so, h.sz, h.ce, h.cs⟩
theorem HX0.u_id_ {A : Nat → Nat → Int32} {B : Nat → Nat → Int64} {C : Nat → Nat → Nat → Int32} {D : (Nat → Nat → Nat → Int64) × (Nat × (Nat → Int32))} {g : Nat → Nat → Int32} (h : HX0 (A, B, C, D) g) (n : Nat) (v : Int32) : HX0 (A, B, hwU3 C 34 0 n v, D) (hwU2 g 91 n v) := by
  unfold HX0
  simp (disch := omega) only [hwU3_t, u2_t, u2_k, sSt_o, sCs_o]
  exact ⟨h.ly, h.set, h.bs, h.sa, h.si, h.fo, h.al, h.pl, h.fi, h.sg, h.dy, h.wa, h.ti, h.ru, h.ki, h.mo, h.sp, h.fa, h.fp, h.fn, h.td, h.tp, h.tx, h.rl, h.im, h.is, h.ir, h.il, h.ih, h.if_, up1 n v h.id_, h.iw, h.ig, h.it, h.so, h.sz, h.ce, h.cs⟩
theorem HX0.u_iw {A : Nat → Nat → Int32} {B : Nat → Nat → Int64} {C : Nat → Nat → Nat → Int32} {D : (Nat → Nat → Nat → Int64) × (Nat × (Nat → Int32))} {g : Nat → Nat → Int32} (h : HX0 (A, B, C, D) g) (n : Nat) (v : Int32) : HX0 (A, B, hwU3 C 35 0 n v, D) (hwU2 g 92 n v) := by
  unfold HX0
  simp (disch := omega) only [hwU3_t, u2_t, u2_k, sSt_o, sCs_o]
  exact ⟨h.ly, h.set, h.bs, h.sa, h.si, h.fo, h.al, h.pl, h.fi, h.sg, h.dy, h.wa, h.ti, h.ru, h.ki, h.mo, h.sp, h.fa, h.fp, h.fn, h.td, h.tp, h.tx, h.rl, h.im, h.is, h.ir, h.il, h.ih, h.if_, h.id_, up1 n v h.iw, h.ig, h.it, h.so, h.sz, h.ce, h.cs⟩
theorem HX0.u_so {A : Nat → Nat → Int32} {B : Nat → Nat → Int64} {C : Nat → Nat → Nat → Int32} {D : (Nat → Nat → Nat → Int64) × (Nat × (Nat → Int32))} {g : Nat → Nat → Int32} (h : HX0 (A, B, C, D) g) (n : Nat) (v : Int32) : HX0 (A, B, hwU3 C 70 0 n v, D) (hwU2 g 95 n v) := by
  unfold HX0
  simp (disch := omega) only [hwU3_t, u2_t, u2_k, sSt_o, sCs_o]
  exact ⟨h.ly, h.set, h.bs, h.sa, h.si, h.fo, h.al, h.pl, h.fi, h.sg, h.dy, h.wa, h.ti, h.ru, h.ki, h.mo, h.sp, h.fa, h.fp, h.fn, h.td, h.tp, h.tx, h.rl, h.im, h.is, h.ir, h.il, h.ih, h.if_, h.id_, h.iw, h.ig, h.it, up1 n v h.so, h.sz, h.ce, h.cs⟩
theorem HX0.u_sz {A : Nat → Nat → Int32} {B : Nat → Nat → Int64} {C : Nat → Nat → Nat → Int32} {D : (Nat → Nat → Nat → Int64) × (Nat × (Nat → Int32))} {g : Nat → Nat → Int32} (h : HX0 (A, B, C, D) g) (n : Nat) (v : Int32) : HX0 (A, B, hwU3 C 71 0 n v, D) (hwU2 g 96 n v) := by
  unfold HX0
  simp (disch := omega) only [hwU3_t, u2_t, u2_k, sSt_o, sCs_o]
  exact ⟨h.ly, h.set, h.bs, h.sa, h.si, h.fo, h.al, h.pl, h.fi, h.sg, h.dy, h.wa, h.ti, h.ru, h.ki, h.mo, h.sp, h.fa, h.fp, h.fn, h.td, h.tp, h.tx, h.rl, h.im, h.is, h.ir, h.il, h.ih, h.if_, h.id_, h.iw, h.ig, h.it, h.so, up1 n v h.sz, h.ce, h.cs⟩
theorem HX0.u_fi {A : Nat → Nat → Int32} {B : Nat → Nat → Int64} {C : Nat → Nat → Nat → Int32} {D : (Nat → Nat → Nat → Int64) × (Nat × (Nat → Int32))} {g : Nat → Nat → Int32} (h : HX0 (A, B, C, D) g) (i j : Nat) (hj : j < 5) (v : Int32) : HX0 (A, B, hwU3 C 55 i j v, D) (hwU2 g 76 (5 * i + j) v) := by
  unfold HX0
  simp (disch := omega) only [hwU3_t, u2_t, u2_k, sSt_o, sCs_o]
  exact ⟨h.ly, h.set, h.bs, h.sa, h.si, h.fo, h.al, h.pl, up2 i j hj v h.fi, h.sg, h.dy, h.wa, h.ti, h.ru, h.ki, h.mo, h.sp, h.fa, h.fp, h.fn, h.td, h.tp, h.tx, h.rl, h.im, h.is, h.ir, h.il, h.ih, h.if_, h.id_, h.iw, h.ig, h.it, h.so, h.sz, h.ce, h.cs⟩
theorem HX0.u_sg {A : Nat → Nat → Int32} {B : Nat → Nat → Int64} {C : Nat → Nat → Nat → Int32} {D : (Nat → Nat → Nat → Int64) × (Nat × (Nat → Int32))} {g : Nat → Nat → Int32} (h : HX0 (A, B, C, D) g) (i j : Nat) (hj : j < 5) (v : Int32) : HX0 (A, B, hwU3 C 57 i j v, D) (hwU2 g 79 (5 * i + j) v) := by
  unfold HX0
  simp (disch := omega) only [hwU3_t, u2_t, u2_k, sSt_o, sCs_o]
  exact ⟨h.ly, h.set, h.bs, h.sa, h.si, h.fo, h.al, h.pl, h.fi, up2 i j hj v h.sg, h.dy, h.wa, h.ti, h.ru, h.ki, h.mo, h.sp, h.fa, h.fp, h.fn, h.td, h.tp, h.tx, h.rl, h.im, h.is, h.ir, h.il, h.ih, h.if_, h.id_, h.iw, h.ig, h.it, h.so, h.sz, h.ce, h.cs⟩
theorem HX0.u_ti {A : Nat → Nat → Int32} {B : Nat → Nat → Int64} {C : Nat → Nat → Nat → Int32} {D : (Nat → Nat → Nat → Int64) × (Nat × (Nat → Int32))} {g : Nat → Nat → Int32} (h : HX0 (A, B, C, D) g) (i j : Nat) (hj : j < 4) (v : Int32) : HX0 (A, B, hwU3 C 61 i j v, D) (hwU2 g 80 (4 * i + j) v) := by
  unfold HX0
  simp (disch := omega) only [hwU3_t, u2_t, u2_k, sSt_o, sCs_o]
  exact ⟨h.ly, h.set, h.bs, h.sa, h.si, h.fo, h.al, h.pl, h.fi, h.sg, h.dy, h.wa, up2 i j hj v h.ti, h.ru, h.ki, h.mo, h.sp, h.fa, h.fp, h.fn, h.td, h.tp, h.tx, h.rl, h.im, h.is, h.ir, h.il, h.ih, h.if_, h.id_, h.iw, h.ig, h.it, h.so, h.sz, h.ce, h.cs⟩
theorem HX0.u_if_ {A : Nat → Nat → Int32} {B : Nat → Nat → Int64} {C : Nat → Nat → Nat → Int32} {D : (Nat → Nat → Nat → Int64) × (Nat × (Nat → Int32))} {g : Nat → Nat → Int32} (h : HX0 (A, B, C, D) g) (i j : Nat) (hj : j < 5) (v : Int32) : HX0 (A, B, hwU3 C 31 i j v, D) (hwU2 g 90 (5 * i + j) v) := by
  unfold HX0
  simp (disch := omega) only [hwU3_t, u2_t, u2_k, sSt_o, sCs_o]
  exact ⟨h.ly, h.set, h.bs, h.sa, h.si, h.fo, h.al, h.pl, h.fi, h.sg, h.dy, h.wa, h.ti, h.ru, h.ki, h.mo, h.sp, h.fa, h.fp, h.fn, h.td, h.tp, h.tx, h.rl, h.im, h.is, h.ir, h.il, h.ih, up2 i j hj v h.if_, h.id_, h.iw, h.ig, h.it, h.so, h.sz, h.ce, h.cs⟩
theorem HX0.u_ig {A : Nat → Nat → Int32} {B : Nat → Nat → Int64} {C : Nat → Nat → Nat → Int32} {D : (Nat → Nat → Nat → Int64) × (Nat × (Nat → Int32))} {g : Nat → Nat → Int32} (h : HX0 (A, B, C, D) g) (i j : Nat) (hj : j < 5) (v : Int32) : HX0 (A, B, hwU3 C 33 i j v, D) (hwU2 g 93 (5 * i + j) v) := by
  unfold HX0
  simp (disch := omega) only [hwU3_t, u2_t, u2_k, sSt_o, sCs_o]
  exact ⟨h.ly, h.set, h.bs, h.sa, h.si, h.fo, h.al, h.pl, h.fi, h.sg, h.dy, h.wa, h.ti, h.ru, h.ki, h.mo, h.sp, h.fa, h.fp, h.fn, h.td, h.tp, h.tx, h.rl, h.im, h.is, h.ir, h.il, h.ih, h.if_, h.id_, h.iw, up2 i j hj v h.ig, h.it, h.so, h.sz, h.ce, h.cs⟩
theorem HX0.u_it {A : Nat → Nat → Int32} {B : Nat → Nat → Int64} {C : Nat → Nat → Nat → Int32} {D : (Nat → Nat → Nat → Int64) × (Nat × (Nat → Int32))} {g : Nat → Nat → Int32} (h : HX0 (A, B, C, D) g) (i j : Nat) (hj : j < 4) (v : Int32) : HX0 (A, B, hwU3 C 37 i j v, D) (hwU2 g 94 (4 * i + j) v) := by
  unfold HX0
  simp (disch := omega) only [hwU3_t, u2_t, u2_k, sSt_o, sCs_o]
  exact ⟨h.ly, h.set, h.bs, h.sa, h.si, h.fo, h.al, h.pl, h.fi, h.sg, h.dy, h.wa, h.ti, h.ru, h.ki, h.mo, h.sp, h.fa, h.fp, h.fn, h.td, h.tp, h.tx, h.rl, h.im, h.is, h.ir, h.il, h.ih, h.if_, h.id_, h.iw, h.ig, up2 i j hj v h.it, h.so, h.sz, h.ce, h.cs⟩
theorem HX0.u_ce {A : Nat → Nat → Int32} {B : Nat → Nat → Int64} {C : Nat → Nat → Nat → Int32} {D : (Nat → Nat → Nat → Int64) × (Nat × (Nat → Int32))} {g : Nat → Nat → Int32} (h : HX0 (A, B, C, D) g) (i j : Nat) (hj : j < 40) (v : Int32) : HX0 (A, B, hwU3 C 69 i j v, D) (hwU2 g 97 (40 * i + j) v) := by
  unfold HX0
  simp (disch := omega) only [hwU3_t, u2_t, u2_k, sSt_o, sCs_o]
  exact ⟨h.ly, h.set, h.bs, h.sa, h.si, h.fo, h.al, h.pl, h.fi, h.sg, h.dy, h.wa, h.ti, h.ru, h.ki, h.mo, h.sp, h.fa, h.fp, h.fn, h.td, h.tp, h.tx, h.rl, h.im, h.is, h.ir, h.il, h.ih, h.if_, h.id_, h.iw, h.ig, h.it, h.so, h.sz, up2 i j hj v h.ce, h.cs⟩
theorem Wf.u_bs {g : Nat → Nat → Int32} (h : Wf g) (n : Nat) {v : Int32} (hv : isN v 100) : Wf (hwU2 g 72 n v) := by
  unfold Wf
  simp (disch := omega) only [u2_t, u2_k, hwU2_eq, sSt_o, sCs_o]
  exact ⟨h.dp, h.wo, h.se, h.pu, h.li, h.ly, h.pl, h.ru, h.fa, h.td, h.tx, h.rl, h.im, h.is, h.ir, h.il, up3 n hv h.bs, h.sa, h.si, h.fo, h.fz, h.fi, h.iz, h.lp, h.dy, h.wa, h.sg, h.ti, h.ki, h.mo, h.sp, h.fp, h.fn, h.tp, h.ih, h.if_, h.id_, h.iw, h.ig, h.it, h.so, h.sz, h.cs⟩
theorem Wf.u_sa {g : Nat → Nat → Int32} (h : Wf g) (n : Nat) {v : Int32} (hv : isN v 9) : Wf (hwU2 g 73 n v) := by
  unfold Wf
  simp (disch := omega) only [u2_t, u2_k, hwU2_eq, sSt_o, sCs_o]
  exact ⟨h.dp, h.wo, h.se, h.pu, h.li, h.ly, h.pl, h.ru, h.fa, h.td, h.tx, h.rl, h.im, h.is, h.ir, h.il, h.bs, up3 n hv h.sa, h.si, h.fo, h.fz, h.fi, h.iz, h.lp, h.dy, h.wa, h.sg, h.ti, h.ki, h.mo, h.sp, h.fp, h.fn, h.tp, h.ih, h.if_, h.id_, h.iw, h.ig, h.it, h.so, h.sz, h.cs⟩
theorem Wf.u_si {g : Nat → Nat → Int32} (h : Wf g) (n : Nat) {v : Int32} (hv : isN v 2) : Wf (hwU2 g 74 n v) := by
  unfold Wf
  simp (disch := omega) only [u2_t, u2_k, hwU2_eq, sSt_o, sCs_o]
  exact ⟨h.dp, h.wo, h.se, h.pu, h.li, h.ly, h.pl, h.ru, h.fa, h.td, h.tx, h.rl, h.im, h.is, h.ir, h.il, h.bs, h.sa, up3 n hv h.si, h.fo, h.fz, h.fi, h.iz, h.lp, h.dy, h.wa, h.sg, h.ti, h.ki, h.mo, h.sp, h.fp, h.fn, h.tp, h.ih, h.if_, h.id_, h.iw, h.ig, h.it, h.so, h.sz, h.cs⟩
theorem Wf.u_fo {g : Nat → Nat → Int32} (h : Wf g) (n : Nat) {v : Int32} (hv : isN v 9) (hz : ∀ i j, i < 5 → j < 5 → (g 12 5).toNatClampNeg ≤ i ∨ (g 12 5).toNatClampNeg ≤ j → 5 * i + j ≠ n) : Wf (hwU2 g 75 n v) := by
  unfold Wf
  simp (disch := omega) only [u2_t, u2_k, hwU2_eq, sSt_o, sCs_o]
  exact ⟨h.dp, h.wo, h.se, h.pu, h.li, h.ly, h.pl, h.ru, h.fa, h.td, h.tx, h.rl, h.im, h.is, h.ir, h.il, h.bs, h.sa, h.si, up3 n hv h.fo, fun i j hi hj q => (u2_k (hz i j hi hj q)).trans (h.fz i j hi hj q), h.fi, h.iz, h.lp, h.dy, h.wa, h.sg, h.ti, h.ki, h.mo, h.sp, h.fp, h.fn, h.tp, h.ih, h.if_, h.id_, h.iw, h.ig, h.it, h.so, h.sz, h.cs⟩
theorem Wf.u_fi {g : Nat → Nat → Int32} (h : Wf g) (n : Nat) {v : Int32} (hv : isN v 99) (hz : ∀ p j, p < 4 → j < 5 → (g 12 5).toNatClampNeg ≤ j → 5 * p + j ≠ n) : Wf (hwU2 g 76 n v) := by
  unfold Wf
  simp (disch := omega) only [u2_t, u2_k, hwU2_eq, sSt_o, sCs_o]
  exact ⟨h.dp, h.wo, h.se, h.pu, h.li, h.ly, h.pl, h.ru, h.fa, h.td, h.tx, h.rl, h.im, h.is, h.ir, h.il, h.bs, h.sa, h.si, h.fo, h.fz, up3 n hv h.fi, fun i j hi hj q => (u2_k (hz i j hi hj q)).trans (h.iz i j hi hj q), h.lp, h.dy, h.wa, h.sg, h.ti, h.ki, h.mo, h.sp, h.fp, h.fn, h.tp, h.ih, h.if_, h.id_, h.iw, h.ig, h.it, h.so, h.sz, h.cs⟩
theorem Wf.u_dy {g : Nat → Nat → Int32} (h : Wf g) (n : Nat) {v : Int32} (hv : isN v 5) : Wf (hwU2 g 77 n v) := by
  unfold Wf
  simp (disch := omega) only [u2_t, u2_k, hwU2_eq, sSt_o, sCs_o]
  exact ⟨h.dp, h.wo, h.se, h.pu, h.li, h.ly, h.pl, h.ru, h.fa, h.td, h.tx, h.rl, h.im, h.is, h.ir, h.il, h.bs, h.sa, h.si, h.fo, h.fz, h.fi, h.iz, h.lp, up3 n hv h.dy, h.wa, h.sg, h.ti, h.ki, h.mo, h.sp, h.fp, h.fn, h.tp, h.ih, h.if_, h.id_, h.iw, h.ig, h.it, h.so, h.sz, h.cs⟩
theorem Wf.u_wa {g : Nat → Nat → Int32} (h : Wf g) (n : Nat) {v : Int32} (hv : isN v 1) : Wf (hwU2 g 78 n v) := by
  unfold Wf
  simp (disch := omega) only [u2_t, u2_k, hwU2_eq, sSt_o, sCs_o]
  exact ⟨h.dp, h.wo, h.se, h.pu, h.li, h.ly, h.pl, h.ru, h.fa, h.td, h.tx, h.rl, h.im, h.is, h.ir, h.il, h.bs, h.sa, h.si, h.fo, h.fz, h.fi, h.iz, h.lp, h.dy, up3 n hv h.wa, h.sg, h.ti, h.ki, h.mo, h.sp, h.fp, h.fn, h.tp, h.ih, h.if_, h.id_, h.iw, h.ig, h.it, h.so, h.sz, h.cs⟩
theorem Wf.u_sg {g : Nat → Nat → Int32} (h : Wf g) (n : Nat) {v : Int32} (hv : isN v 2) : Wf (hwU2 g 79 n v) := by
  unfold Wf
  simp (disch := omega) only [u2_t, u2_k, hwU2_eq, sSt_o, sCs_o]
  exact ⟨h.dp, h.wo, h.se, h.pu, h.li, h.ly, h.pl, h.ru, h.fa, h.td, h.tx, h.rl, h.im, h.is, h.ir, h.il, h.bs, h.sa, h.si, h.fo, h.fz, h.fi, h.iz, h.lp, h.dy, h.wa, up3 n hv h.sg, h.ti, h.ki, h.mo, h.sp, h.fp, h.fn, h.tp, h.ih, h.if_, h.id_, h.iw, h.ig, h.it, h.so, h.sz, h.cs⟩
theorem Wf.u_ti {g : Nat → Nat → Int32} (h : Wf g) (n : Nat) {v : Int32} (hv : isN v 100) : Wf (hwU2 g 80 n v) := by
  unfold Wf
  simp (disch := omega) only [u2_t, u2_k, hwU2_eq, sSt_o, sCs_o]
  exact ⟨h.dp, h.wo, h.se, h.pu, h.li, h.ly, h.pl, h.ru, h.fa, h.td, h.tx, h.rl, h.im, h.is, h.ir, h.il, h.bs, h.sa, h.si, h.fo, h.fz, h.fi, h.iz, h.lp, h.dy, h.wa, h.sg, up3 n hv h.ti, h.ki, h.mo, h.sp, h.fp, h.fn, h.tp, h.ih, h.if_, h.id_, h.iw, h.ig, h.it, h.so, h.sz, h.cs⟩
theorem Wf.u_ki {g : Nat → Nat → Int32} (h : Wf g) (n : Nat) {v : Int32} (hv : isN v 5) : Wf (hwU2 g 81 n v) := by
  unfold Wf
  simp (disch := omega) only [u2_t, u2_k, hwU2_eq, sSt_o, sCs_o]
  exact ⟨h.dp, h.wo, h.se, h.pu, h.li, h.ly, h.pl, h.ru, h.fa, h.td, h.tx, h.rl, h.im, h.is, h.ir, h.il, h.bs, h.sa, h.si, h.fo, h.fz, h.fi, h.iz, h.lp, h.dy, h.wa, h.sg, h.ti, up3 n hv h.ki, h.mo, h.sp, h.fp, h.fn, h.tp, h.ih, h.if_, h.id_, h.iw, h.ig, h.it, h.so, h.sz, h.cs⟩
theorem Wf.u_mo {g : Nat → Nat → Int32} (h : Wf g) (n : Nat) {v : Int32} (hv : isN v 5) : Wf (hwU2 g 82 n v) := by
  unfold Wf
  simp (disch := omega) only [u2_t, u2_k, hwU2_eq, sSt_o, sCs_o]
  exact ⟨h.dp, h.wo, h.se, h.pu, h.li, h.ly, h.pl, h.ru, h.fa, h.td, h.tx, h.rl, h.im, h.is, h.ir, h.il, h.bs, h.sa, h.si, h.fo, h.fz, h.fi, h.iz, h.lp, h.dy, h.wa, h.sg, h.ti, h.ki, up3 n hv h.mo, h.sp, h.fp, h.fn, h.tp, h.ih, h.if_, h.id_, h.iw, h.ig, h.it, h.so, h.sz, h.cs⟩
theorem Wf.u_sp {g : Nat → Nat → Int32} (h : Wf g) (n : Nat) {v : Int32} (hv : isN v 7) : Wf (hwU2 g 83 n v) := by
  unfold Wf
  simp (disch := omega) only [u2_t, u2_k, hwU2_eq, sSt_o, sCs_o]
  exact ⟨h.dp, h.wo, h.se, h.pu, h.li, h.ly, h.pl, h.ru, h.fa, h.td, h.tx, h.rl, h.im, h.is, h.ir, h.il, h.bs, h.sa, h.si, h.fo, h.fz, h.fi, h.iz, h.lp, h.dy, h.wa, h.sg, h.ti, h.ki, h.mo, up3 n hv h.sp, h.fp, h.fn, h.tp, h.ih, h.if_, h.id_, h.iw, h.ig, h.it, h.so, h.sz, h.cs⟩
theorem Wf.u_fp {g : Nat → Nat → Int32} (h : Wf g) (n : Nat) {v : Int32} (hv : isN v 99) : Wf (hwU2 g 84 n v) := by
  unfold Wf
  simp (disch := omega) only [u2_t, u2_k, hwU2_eq, sSt_o, sCs_o]
  exact ⟨h.dp, h.wo, h.se, h.pu, h.li, h.ly, h.pl, h.ru, h.fa, h.td, h.tx, h.rl, h.im, h.is, h.ir, h.il, h.bs, h.sa, h.si, h.fo, h.fz, h.fi, h.iz, h.lp, h.dy, h.wa, h.sg, h.ti, h.ki, h.mo, h.sp, up3 n hv h.fp, h.fn, h.tp, h.ih, h.if_, h.id_, h.iw, h.ig, h.it, h.so, h.sz, h.cs⟩
theorem Wf.u_tp {g : Nat → Nat → Int32} (h : Wf g) (n : Nat) {v : Int32} (hv : isN v 255) : Wf (hwU2 g 86 n v) := by
  unfold Wf
  simp (disch := omega) only [u2_t, u2_k, hwU2_eq, sSt_o, sCs_o]
  exact ⟨h.dp, h.wo, h.se, h.pu, h.li, h.ly, h.pl, h.ru, h.fa, h.td, h.tx, h.rl, h.im, h.is, h.ir, h.il, h.bs, h.sa, h.si, h.fo, h.fz, h.fi, h.iz, h.lp, h.dy, h.wa, h.sg, h.ti, h.ki, h.mo, h.sp, h.fp, h.fn, up3 n hv h.tp, h.ih, h.if_, h.id_, h.iw, h.ig, h.it, h.so, h.sz, h.cs⟩
theorem Wf.u_if_ {g : Nat → Nat → Int32} (h : Wf g) (n : Nat) {v : Int32} (hv : isN v 9) : Wf (hwU2 g 90 n v) := by
  unfold Wf
  simp (disch := omega) only [u2_t, u2_k, hwU2_eq, sSt_o, sCs_o]
  exact ⟨h.dp, h.wo, h.se, h.pu, h.li, h.ly, h.pl, h.ru, h.fa, h.td, h.tx, h.rl, h.im, h.is, h.ir, h.il, h.bs, h.sa, h.si, h.fo, h.fz, h.fi, h.iz, h.lp, h.dy, h.wa, h.sg, h.ti, h.ki, h.mo, h.sp, h.fp, h.fn, h.tp, h.ih, up3 n hv h.if_, h.id_, h.iw, h.ig, h.it, h.so, h.sz, h.cs⟩
theorem Wf.u_id_ {g : Nat → Nat → Int32} (h : Wf g) (n : Nat) {v : Int32} (hv : isN v 5) : Wf (hwU2 g 91 n v) := by
  unfold Wf
  simp (disch := omega) only [u2_t, u2_k, hwU2_eq, sSt_o, sCs_o]
  exact ⟨h.dp, h.wo, h.se, h.pu, h.li, h.ly, h.pl, h.ru, h.fa, h.td, h.tx, h.rl, h.im, h.is, h.ir, h.il, h.bs, h.sa, h.si, h.fo, h.fz, h.fi, h.iz, h.lp, h.dy, h.wa, h.sg, h.ti, h.ki, h.mo, h.sp, h.fp, h.fn, h.tp, h.ih, h.if_, up3 n hv h.id_, h.iw, h.ig, h.it, h.so, h.sz, h.cs⟩
theorem Wf.u_iw {g : Nat → Nat → Int32} (h : Wf g) (n : Nat) {v : Int32} (hv : isN v 1) : Wf (hwU2 g 92 n v) := by
  unfold Wf
  simp (disch := omega) only [u2_t, u2_k, hwU2_eq, sSt_o, sCs_o]
  exact ⟨h.dp, h.wo, h.se, h.pu, h.li, h.ly, h.pl, h.ru, h.fa, h.td, h.tx, h.rl, h.im, h.is, h.ir, h.il, h.bs, h.sa, h.si, h.fo, h.fz, h.fi, h.iz, h.lp, h.dy, h.wa, h.sg, h.ti, h.ki, h.mo, h.sp, h.fp, h.fn, h.tp, h.ih, h.if_, h.id_, up3 n hv h.iw, h.ig, h.it, h.so, h.sz, h.cs⟩
theorem Wf.u_ig {g : Nat → Nat → Int32} (h : Wf g) (n : Nat) {v : Int32} (hv : isN v 2) : Wf (hwU2 g 93 n v) := by
  unfold Wf
  simp (disch := omega) only [u2_t, u2_k, hwU2_eq, sSt_o, sCs_o]
  exact ⟨h.dp, h.wo, h.se, h.pu, h.li, h.ly, h.pl, h.ru, h.fa, h.td, h.tx, h.rl, h.im, h.is, h.ir, h.il, h.bs, h.sa, h.si, h.fo, h.fz, h.fi, h.iz, h.lp, h.dy, h.wa, h.sg, h.ti, h.ki, h.mo, h.sp, h.fp, h.fn, h.tp, h.ih, h.if_, h.id_, h.iw, up3 n hv h.ig, h.it, h.so, h.sz, h.cs⟩
theorem Wf.u_it {g : Nat → Nat → Int32} (h : Wf g) (n : Nat) {v : Int32} (hv : isN v 100) : Wf (hwU2 g 94 n v) := by
  unfold Wf
  simp (disch := omega) only [u2_t, u2_k, hwU2_eq, sSt_o, sCs_o]
  exact ⟨h.dp, h.wo, h.se, h.pu, h.li, h.ly, h.pl, h.ru, h.fa, h.td, h.tx, h.rl, h.im, h.is, h.ir, h.il, h.bs, h.sa, h.si, h.fo, h.fz, h.fi, h.iz, h.lp, h.dy, h.wa, h.sg, h.ti, h.ki, h.mo, h.sp, h.fp, h.fn, h.tp, h.ih, h.if_, h.id_, h.iw, h.ig, up3 n hv h.it, h.so, h.sz, h.cs⟩
theorem Wf.u_sz {g : Nat → Nat → Int32} (h : Wf g) (n : Nat) {v : Int32} (hv : isN v 40) : Wf (hwU2 g 96 n v) := by
  unfold Wf
  simp (disch := omega) only [u2_t, u2_k, hwU2_eq, sSt_o, sCs_o]
  exact ⟨h.dp, h.wo, h.se, h.pu, h.li, h.ly, h.pl, h.ru, h.fa, h.td, h.tx, h.rl, h.im, h.is, h.ir, h.il, h.bs, h.sa, h.si, h.fo, h.fz, h.fi, h.iz, h.lp, h.dy, h.wa, h.sg, h.ti, h.ki, h.mo, h.sp, h.fp, h.fn, h.tp, h.ih, h.if_, h.id_, h.iw, h.ig, h.it, h.so, up3 n hv h.sz, h.cs⟩
theorem Wf.u_dp {g : Nat → Nat → Int32} (h : Wf g) {v : Int32} (hv : isN v 5 ∧ 1 ≤ v.toNatClampNeg) : Wf (hwU2 g 12 0 v) := by
  unfold Wf
  simp (disch := omega) only [u2_t, u2_k, hwU2_eq, sSt_o, sCs_o]
  exact ⟨hv, h.wo, h.se, h.pu, h.li, h.ly, h.pl, h.ru, h.fa, h.td, h.tx, h.rl, h.im, h.is, h.ir, h.il, h.bs, h.sa, h.si, h.fo, h.fz, h.fi, h.iz, h.lp, h.dy, h.wa, h.sg, h.ti, h.ki, h.mo, h.sp, h.fp, h.fn, h.tp, h.ih, h.if_, h.id_, h.iw, h.ig, h.it, h.so, h.sz, h.cs⟩
theorem Wf.u_wo {g : Nat → Nat → Int32} (h : Wf g) {v : Int32} (hv : isN v 9999) : Wf (hwU2 g 12 1 v) := by
  unfold Wf
  simp (disch := omega) only [u2_t, u2_k, hwU2_eq, sSt_o, sCs_o]
  exact ⟨h.dp, hv, h.se, h.pu, h.li, h.ly, h.pl, h.ru, h.fa, h.td, h.tx, h.rl, h.im, h.is, h.ir, h.il, h.bs, h.sa, h.si, h.fo, h.fz, h.fi, h.iz, h.lp, h.dy, h.wa, h.sg, h.ti, h.ki, h.mo, h.sp, h.fp, h.fn, h.tp, h.ih, h.if_, h.id_, h.iw, h.ig, h.it, h.so, h.sz, h.cs⟩
theorem Wf.u_se {g : Nat → Nat → Int32} (h : Wf g) {v : Int32} (hv : isN v 9) : Wf (hwU2 g 12 2 v) := by
  unfold Wf
  simp (disch := omega) only [u2_t, u2_k, hwU2_eq, sSt_o, sCs_o]
  exact ⟨h.dp, h.wo, hv, h.pu, h.li, h.ly, h.pl, h.ru, h.fa, h.td, h.tx, h.rl, h.im, h.is, h.ir, h.il, h.bs, h.sa, h.si, h.fo, h.fz, h.fi, h.iz, h.lp, h.dy, h.wa, h.sg, h.ti, h.ki, h.mo, h.sp, h.fp, h.fn, h.tp, h.ih, h.if_, h.id_, h.iw, h.ig, h.it, h.so, h.sz, h.cs⟩
theorem Wf.u_pu {g : Nat → Nat → Int32} (h : Wf g) {v : Int32} (hv : isN v 9999) : Wf (hwU2 g 12 3 v) := by
  unfold Wf
  simp (disch := omega) only [u2_t, u2_k, hwU2_eq, sSt_o, sCs_o]
  exact ⟨h.dp, h.wo, h.se, hv, h.li, h.ly, h.pl, h.ru, h.fa, h.td, h.tx, h.rl, h.im, h.is, h.ir, h.il, h.bs, h.sa, h.si, h.fo, h.fz, h.fi, h.iz, h.lp, h.dy, h.wa, h.sg, h.ti, h.ki, h.mo, h.sp, h.fp, h.fn, h.tp, h.ih, h.if_, h.id_, h.iw, h.ig, h.it, h.so, h.sz, h.cs⟩
theorem Wf.u_li {g : Nat → Nat → Int32} (h : Wf g) {v : Int32} (hv : isN v 9999) : Wf (hwU2 g 12 4 v) := by
  unfold Wf
  simp (disch := omega) only [u2_t, u2_k, hwU2_eq, sSt_o, sCs_o]
  exact ⟨h.dp, h.wo, h.se, h.pu, hv, h.ly, h.pl, h.ru, h.fa, h.td, h.tx, h.rl, h.im, h.is, h.ir, h.il, h.bs, h.sa, h.si, h.fo, h.fz, h.fi, h.iz, h.lp, h.dy, h.wa, h.sg, h.ti, h.ki, h.mo, h.sp, h.fp, h.fn, h.tp, h.ih, h.if_, h.id_, h.iw, h.ig, h.it, h.so, h.sz, h.cs⟩
theorem Wf.u_ly {g : Nat → Nat → Int32} (h : Wf g) {v : Int32} (hv : isN v 5 ∧ (g 12 5).toNatClampNeg ≤ v.toNatClampNeg) : Wf (hwU2 g 12 5 v) := by
  unfold Wf
  simp (disch := omega) only [u2_t, u2_k, hwU2_eq, sSt_o, sCs_o]
  exact ⟨h.dp, h.wo, h.se, h.pu, h.li, hv.1, h.pl, h.ru, h.fa, h.td, h.tx, h.rl, h.im, h.is, h.ir, ⟨h.il.1, Nat.le_trans h.il.2 hv.2⟩, h.bs, h.sa, h.si, h.fo, fun i j hi hj q => h.fz i j hi hj (q.imp (Nat.le_trans hv.2) (Nat.le_trans hv.2)), h.fi, fun p j hp hj q => h.iz p j hp hj (Nat.le_trans hv.2 q), fun q => Nat.lt_of_lt_of_le (h.lp q) hv.2, h.dy, h.wa, h.sg, h.ti, h.ki, h.mo, h.sp, h.fp, h.fn, h.tp, h.ih, h.if_, h.id_, h.iw, h.ig, h.it, h.so, h.sz, h.cs⟩
theorem Wf.u_pl {g : Nat → Nat → Int32} (h : Wf g) {v : Int32} (hv : (isN v 4 ∧ (g 12 10).toNatClampNeg ≤ v.toNatClampNeg) ∧ 0 < (g 12 5).toNatClampNeg) : Wf (hwU2 g 12 10 v) := by
  unfold Wf
  simp (disch := omega) only [u2_t, u2_k, hwU2_eq, sSt_o, sCs_o]
  exact ⟨h.dp, h.wo, h.se, h.pu, h.li, h.ly, hv.1.1, h.ru, h.fa, h.td, h.tx, h.rl, h.im, ⟨h.is.1, Nat.le_trans h.is.2 hv.1.2⟩, h.ir, h.il, h.bs, h.sa, h.si, h.fo, h.fz, h.fi, h.iz, fun _ => hv.2, h.dy, h.wa, h.sg, h.ti, h.ki, h.mo, h.sp, h.fp, h.fn, h.tp, h.ih, h.if_, h.id_, h.iw, h.ig, h.it, h.so, h.sz, h.cs⟩
theorem Wf.u_ru {g : Nat → Nat → Int32} (h : Wf g) {v : Int32} (hv : isN v 8) : Wf (hwU2 g 12 16 v) := by
  unfold Wf
  simp (disch := omega) only [u2_t, u2_k, hwU2_eq, sSt_o, sCs_o]
  exact ⟨h.dp, h.wo, h.se, h.pu, h.li, h.ly, h.pl, hv, h.fa, h.td, h.tx, h.rl, h.im, h.is, h.ir, h.il, h.bs, h.sa, h.si, h.fo, h.fz, h.fi, h.iz, h.lp, h.dy, h.wa, h.sg, h.ti, h.ki, h.mo, h.sp, h.fp, h.fn, h.tp, h.ih, h.if_, h.id_, h.iw, h.ig, h.it, h.so, h.sz, h.cs⟩
theorem Wf.u_td {g : Nat → Nat → Int32} (h : Wf g) {v : Int32} (hv : isN v 160) : Wf (hwU2 g 12 24 v) := by
  unfold Wf
  simp (disch := omega) only [u2_t, u2_k, hwU2_eq, sSt_o, sCs_o]
  exact ⟨h.dp, h.wo, h.se, h.pu, h.li, h.ly, h.pl, h.ru, h.fa, hv, h.tx, h.rl, h.im, h.is, h.ir, h.il, h.bs, h.sa, h.si, h.fo, h.fz, h.fi, h.iz, h.lp, h.dy, h.wa, h.sg, h.ti, h.ki, h.mo, h.sp, h.fp, h.fn, h.tp, h.ih, h.if_, h.id_, h.iw, h.ig, h.it, h.so, h.sz, h.cs⟩
theorem Wf.u_rl {g : Nat → Nat → Int32} (h : Wf g) {v : Int32} (hv : isN v 5 ∧ v.toNatClampNeg < (g 12 27).toNatClampNeg) : Wf (hwU2 g 12 28 v) := by
  unfold Wf
  simp (disch := omega) only [u2_t, u2_k, hwU2_eq, sSt_o, sCs_o]
  exact ⟨h.dp, h.wo, h.se, h.pu, h.li, h.ly, h.pl, h.ru, h.fa, h.td, h.tx, hv, h.im, h.is, h.ir, h.il, h.bs, h.sa, h.si, h.fo, h.fz, h.fi, h.iz, h.lp, h.dy, h.wa, h.sg, h.ti, h.ki, h.mo, h.sp, h.fp, h.fn, h.tp, h.ih, h.if_, h.id_, h.iw, h.ig, h.it, h.so, h.sz, h.cs⟩
theorem Wf.u_is {g : Nat → Nat → Int32} (h : Wf g) {v : Int32} (hv : isN v 4 ∧ v.toNatClampNeg ≤ (g 12 10).toNatClampNeg) : Wf (hwU2 g 12 30 v) := by
  unfold Wf
  simp (disch := omega) only [u2_t, u2_k, hwU2_eq, sSt_o, sCs_o]
  exact ⟨h.dp, h.wo, h.se, h.pu, h.li, h.ly, h.pl, h.ru, h.fa, h.td, h.tx, h.rl, h.im, hv, h.ir, h.il, h.bs, h.sa, h.si, h.fo, h.fz, h.fi, h.iz, h.lp, h.dy, h.wa, h.sg, h.ti, h.ki, h.mo, h.sp, h.fp, h.fn, h.tp, h.ih, h.if_, h.id_, h.iw, h.ig, h.it, h.so, h.sz, h.cs⟩
theorem Wf.u_ir {g : Nat → Nat → Int32} (h : Wf g) {v : Int32} (hv : isN v 5 ∧ v.toNatClampNeg < (g 12 27).toNatClampNeg) : Wf (hwU2 g 12 31 v) := by
  unfold Wf
  simp (disch := omega) only [u2_t, u2_k, hwU2_eq, sSt_o, sCs_o]
  exact ⟨h.dp, h.wo, h.se, h.pu, h.li, h.ly, h.pl, h.ru, h.fa, h.td, h.tx, h.rl, h.im, h.is, hv, h.il, h.bs, h.sa, h.si, h.fo, h.fz, h.fi, h.iz, h.lp, h.dy, h.wa, h.sg, h.ti, h.ki, h.mo, h.sp, h.fp, h.fn, h.tp, h.ih, h.if_, h.id_, h.iw, h.ig, h.it, h.so, h.sz, h.cs⟩
theorem Wf.u_il {g : Nat → Nat → Int32} (h : Wf g) {v : Int32} (hv : isN v 5 ∧ v.toNatClampNeg ≤ (g 12 5).toNatClampNeg) : Wf (hwU2 g 12 34 v) := by
  unfold Wf
  simp (disch := omega) only [u2_t, u2_k, hwU2_eq, sSt_o, sCs_o]
  exact ⟨h.dp, h.wo, h.se, h.pu, h.li, h.ly, h.pl, h.ru, h.fa, h.td, h.tx, h.rl, h.im, h.is, h.ir, hv, h.bs, h.sa, h.si, h.fo, h.fz, h.fi, h.iz, h.lp, h.dy, h.wa, h.sg, h.ti, h.ki, h.mo, h.sp, h.fp, h.fn, h.tp, h.ih, h.if_, h.id_, h.iw, h.ig, h.it, h.so, h.sz, h.cs⟩
theorem Wf.u_im {g : Nat → Nat → Int32} (h : Wf g) {v : Int32} (hv : isN v 1) (hd : 0 < v.toNatClampNeg → 1 ≤ (g 89 0).toNatClampNeg) : Wf (hwU2 g 12 29 v) := by
  unfold Wf
  simp (disch := omega) only [u2_t, u2_k, hwU2_eq, sSt_o, sCs_o]
  exact ⟨h.dp, h.wo, h.se, h.pu, h.li, h.ly, h.pl, h.ru, h.fa, h.td, h.tx, h.rl, hv, h.is, h.ir, h.il, h.bs, h.sa, h.si, h.fo, h.fz, h.fi, h.iz, h.lp, h.dy, h.wa, h.sg, h.ti, h.ki, h.mo, h.sp, h.fp, h.fn, h.tp, ⟨⟨h.ih.1.1, hd⟩, h.ih.2⟩, h.if_, h.id_, h.iw, h.ig, h.it, h.so, h.sz, h.cs⟩
theorem Wf.u_so {g : Nat → Nat → Int32} (h : Wf g) (n : Nat) {v : Int32} (hv : v = -1 ∨ isN v 2) : Wf (hwU2 g 95 n v) := by
  unfold Wf
  simp (disch := omega) only [u2_t, u2_k, hwU2_eq, sSt_o, sCs_o]
  exact ⟨h.dp, h.wo, h.se, h.pu, h.li, h.ly, h.pl, h.ru, h.fa, h.td, h.tx, h.rl, h.im, h.is, h.ir, h.il, h.bs, h.sa, h.si, h.fo, h.fz, h.fi, h.iz, h.lp, h.dy, h.wa, h.sg, h.ti, h.ki, h.mo, h.sp, h.fp, h.fn, h.tp, h.ih, h.if_, h.id_, h.iw, h.ig, h.it, (fun k hk => (by by_cases e : k = n; (· subst e; rw [hwU2_eq]; exact hv); (· rw [u2_k e]; exact h.so k hk))), h.sz, h.cs⟩
theorem Wf.u_ce {g : Nat → Nat → Int32} (h : Wf g) (n : Nat) (v : Int32) : Wf (hwU2 g 97 n v) := by
  unfold Wf
  simp (disch := omega) only [u2_t, u2_k, hwU2_eq, sSt_o, sCs_o]
  exact ⟨h.dp, h.wo, h.se, h.pu, h.li, h.ly, h.pl, h.ru, h.fa, h.td, h.tx, h.rl, h.im, h.is, h.ir, h.il, h.bs, h.sa, h.si, h.fo, h.fz, h.fi, h.iz, h.lp, h.dy, h.wa, h.sg, h.ti, h.ki, h.mo, h.sp, h.fp, h.fn, h.tp, h.ih, h.if_, h.id_, h.iw, h.ig, h.it, h.so, h.sz, h.cs⟩

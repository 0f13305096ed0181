/-! THE PURE SIDE, 34: whole rows at once -/
/-- n numbers from lo on, as f says -/
def sRg (g : Nat → Nat → Int32) (t lo n : Nat) (f : Nat → Int32) : Nat → Nat → Int32 := fun a k => if a = t ∧ lo ≤ k ∧ k < lo + n then f k else g a k
theorem sRg_t {g : Nat → Nat → Int32} {t lo n a : Nat} {f : Nat → Int32} (h : a ≠ t) : sRg g t lo n f a = g a := by
  funext k; unfold sRg; rw [if_neg (fun q => h q.1)]
theorem sRg_in {g : Nat → Nat → Int32} {t lo n k : Nat} {f : Nat → Int32} (h1 : lo ≤ k) (h2 : k < lo + n) : sRg g t lo n f t k = f k := by
  unfold sRg; rw [if_pos ⟨rfl, h1, h2⟩]
theorem sRg_out {g : Nat → Nat → Int32} {t lo n k : Nat} {f : Nat → Int32} (h : k < lo ∨ lo + n ≤ k) : sRg g t lo n f t k = g t k := by
  unfold sRg; rw [if_neg (fun q => by omega)]
theorem sRg_0 {g : Nat → Nat → Int32} {t lo : Nat} {f : Nat → Int32} : sRg g t lo 0 f = g := by
  funext a k; unfold sRg; rw [if_neg (fun q => by omega)]
theorem sRg_s {g : Nat → Nat → Int32} {t lo n : Nat} {f : Nat → Int32} : hwU2 (sRg g t lo n f) t (lo + n) (f (lo + n)) = sRg g t lo (n + 1) f := by
  funext a k
  rw [hwU2_get]
  unfold sRg
  by_cases e : a = t ∧ k = lo + n
  · obtain ⟨rfl, rfl⟩ := e
    rw [if_pos ⟨rfl, rfl⟩, if_pos ⟨rfl, by omega, by omega⟩]
  · rw [if_neg e]
    by_cases c : a = t ∧ lo ≤ k ∧ k < lo + n
    · rw [if_pos c, if_pos ⟨c.1, c.2.1, by omega⟩]
    · rw [if_neg c, if_neg (fun q => c ⟨q.1, q.2.1, by
        have : k ≠ lo + n := fun z => e ⟨q.1, z⟩
        omega⟩)]
theorem sRg_app {g : Nat → Nat → Int32} {t lo n m : Nat} {f : Nat → Int32} : sRg (sRg g t lo n f) t (lo + n) m f = sRg g t lo (n + m) f := by
  funext a k
  unfold sRg
  by_cases c : a = t ∧ lo + n ≤ k ∧ k < lo + n + m
  · rw [if_pos c, if_pos ⟨c.1, by omega, by omega⟩]
  · rw [if_neg c]
    by_cases d : a = t ∧ lo ≤ k ∧ k < lo + n
    · rw [if_pos d, if_pos ⟨d.1, by omega, by omega⟩]
    · rw [if_neg d, if_neg (fun q => by
        by_cases e : k < lo + n
        · exact d ⟨q.1, q.2.1, e⟩
        · exact c ⟨q.1, by omega, by omega⟩)]
theorem sSt_rg {g : Nat → Nat → Int32} {t lo n : Nat} {f : Nat → Int32} (h : 88 ≠ t) : sSt (sRg g t lo n f) = sSt g := by
  funext a q; unfold sSt; rw [sRg_t h]
theorem sCs_rg {g : Nat → Nat → Int32} {t lo n : Nat} {f : Nat → Int32} (h : 88 ≠ t ∧ 87 ≠ t) : sCs (sRg g t lo n f) = sCs g := by
  funext a q; unfold sCs; rw [sSt_rg h.1, sRg_t h.2]
theorem u2_comm {α : Type} {f : Nat → Nat → α} {t k j : Nat} {v w : α} (h : j ≠ k) : hwU2 (hwU2 f t k v) t j w = hwU2 (hwU2 f t j w) t k v := by
  funext a c
  simp only [hwU2_get]
  by_cases e1 : a = t ∧ c = k
  · rw [if_neg (fun q => h (q.2.symm.trans e1.2)), if_pos e1, if_pos e1]
  · rw [if_neg e1, if_neg e1]
theorem up4 {C : Nat → Nat → Nat → Int32} {g : Nat → Nat → Int32} {t T a b : Nat} (i m : Nat) (hm : m ≤ b) (u f : Nat → Int32) (h1 : ∀ j, j < m → u j = f (b * i + j)) (h2 : ∀ j, m ≤ j → j < b → u j = C t i j) (h : ∀ x y, x < a → y < b → C t x y = g T (b * x + y)) : ∀ x y, x < a → y < b → hwR3 C t i u t x y = sRg g T (b * i) m f T (b * x + y) := by
  intro x y hx hy
  rw [hwR3_get]
  by_cases e : x = i
  · subst e
    rw [if_pos ⟨rfl, rfl⟩]
    by_cases c : y < m
    · rw [h1 y c, sRg_in (by omega) (by omega)]
    · rw [h2 y (by omega) hy, sRg_out (by omega)]
      exact h x y hx hy
  · rw [if_neg (fun q => e q.2), sRg_out ?_]
    · exact h x y hx hy
    · by_cases c : x < i
      · left
        have : b * (x + 1) ≤ b * i := Nat.mul_le_mul_left b (by omega)
        rw [Nat.mul_add, Nat.mul_one] at this
        omega
      · right
        have : b * (i + 1) ≤ b * x := Nat.mul_le_mul_left b (by omega)
        rw [Nat.mul_add, Nat.mul_one] at this
        omega
theorem up5 {C : Nat → Nat → Nat → Int32} {g : Nat → Nat → Int32} {t T m : Nat} (u f : Nat → Int32) (h1 : ∀ j, j < m → u j = f j) : ∀ k, k < m → hwR3 C t 0 u t 0 k = sRg g T 0 m f T k := by
  intro k hk
  rw [hwR3_get, if_pos ⟨rfl, rfl⟩, h1 k hk, sRg_in (by omega) (by omega)]
theorem up6 {g : Nat → Nat → Int32} {T lo n m b : Nat} {f : Nat → Int32} (hv : ∀ k, lo ≤ k → k < lo + n → isN (f k) b) (h : ∀ k, k < m → isN (g T k) b) : ∀ k, k < m → isN (sRg g T lo n f T k) b := by
  intro k hk
  by_cases c : lo ≤ k ∧ k < lo + n
  · rw [sRg_in c.1 c.2]; exact hv k c.1 c.2
  · rw [sRg_out (by omega)]; exact h k hk
theorem HX0.r_if_ {A : Nat → Nat → Int32} {B : Nat → Nat → Int64} {C : Nat → Nat → Nat → Int32} {D : (Nat → Nat → Nat → Int64) × (Nat × (Nat → Int32))} {g : Nat → Nat → Int32} (h : HX0 (A, B, C, D) g) (i m : Nat) (hm : m ≤ 5) (u f : Nat → Int32) (h1 : ∀ j, j < m → u j = f (5 * i + j)) (h2 : ∀ j, m ≤ j → j < 5 → u j = C 31 i j) : HX0 (A, B, hwR3 C 31 i u, D) (sRg g 90 (5 * i) m f) := by
  unfold HX0
  simp (disch := omega) only [hwR3_t, sRg_t, sRg_out, sSt_rg, sCs_rg]
  exact ⟨h.ly, h.set, h.bs, h.sa, h.si, h.fo, h.al, h.pl, h.fi, h.sg, h.dy, h.wa, h.ti, h.ru, h.ki, h.mo, h.sp, h.fa, h.fp, h.fn, h.td, h.tp, h.tx, h.rl, h.im, h.is, h.ir, h.il, h.ih, up4 i m hm u f h1 h2 h.if_, h.id_, h.iw, h.ig, h.it, h.so, h.sz, h.ce, h.cs⟩
theorem HX0.r_ig {A : Nat → Nat → Int32} {B : Nat → Nat → Int64} {C : Nat → Nat → Nat → Int32} {D : (Nat → Nat → Nat → Int64) × (Nat × (Nat → Int32))} {g : Nat → Nat → Int32} (h : HX0 (A, B, C, D) g) (i m : Nat) (hm : m ≤ 5) (u f : Nat → Int32) (h1 : ∀ j, j < m → u j = f (5 * i + j)) (h2 : ∀ j, m ≤ j → j < 5 → u j = C 33 i j) : HX0 (A, B, hwR3 C 33 i u, D) (sRg g 93 (5 * i) m f) := by
  unfold HX0
  simp (disch := omega) only [hwR3_t, sRg_t, sRg_out, sSt_rg, sCs_rg]
  exact ⟨h.ly, h.set, h.bs, h.sa, h.si, h.fo, h.al, h.pl, h.fi, h.sg, h.dy, h.wa, h.ti, h.ru, h.ki, h.mo, h.sp, h.fa, h.fp, h.fn, h.td, h.tp, h.tx, h.rl, h.im, h.is, h.ir, h.il, h.ih, h.if_, h.id_, h.iw, up4 i m hm u f h1 h2 h.ig, h.it, h.so, h.sz, h.ce, h.cs⟩
theorem HX0.r_it {A : Nat → Nat → Int32} {B : Nat → Nat → Int64} {C : Nat → Nat → Nat → Int32} {D : (Nat → Nat → Nat → Int64) × (Nat × (Nat → Int32))} {g : Nat → Nat → Int32} (h : HX0 (A, B, C, D) g) (i m : Nat) (hm : m ≤ 4) (u f : Nat → Int32) (h1 : ∀ j, j < m → u j = f (4 * i + j)) (h2 : ∀ j, m ≤ j → j < 4 → u j = C 37 i j) : HX0 (A, B, hwR3 C 37 i u, D) (sRg g 94 (4 * i) m f) := by
  unfold HX0
  simp (disch := omega) only [hwR3_t, sRg_t, sRg_out, sSt_rg, sCs_rg]
  exact ⟨h.ly, h.set, h.bs, h.sa, h.si, h.fo, h.al, h.pl, h.fi, h.sg, h.dy, h.wa, h.ti, h.ru, h.ki, h.mo, h.sp, h.fa, h.fp, h.fn, h.td, h.tp, h.tx, h.rl, h.im, h.is, h.ir, h.il, h.ih, h.if_, h.id_, h.iw, h.ig, up4 i m hm u f h1 h2 h.it, h.so, h.sz, h.ce, h.cs⟩
theorem HX0.r_sg {A : Nat → Nat → Int32} {B : Nat → Nat → Int64} {C : Nat → Nat → Nat → Int32} {D : (Nat → Nat → Nat → Int64) × (Nat × (Nat → Int32))} {g : Nat → Nat → Int32} (h : HX0 (A, B, C, D) g) (i m : Nat) (hm : m ≤ 5) (u f : Nat → Int32) (h1 : ∀ j, j < m → u j = f (5 * i + j)) (h2 : ∀ j, m ≤ j → j < 5 → u j = C 57 i j) : HX0 (A, B, hwR3 C 57 i u, D) (sRg g 79 (5 * i) m f) := by
  unfold HX0
  simp (disch := omega) only [hwR3_t, sRg_t, sRg_out, sSt_rg, sCs_rg]
  exact ⟨h.ly, h.set, h.bs, h.sa, h.si, h.fo, h.al, h.pl, h.fi, up4 i m hm u f h1 h2 h.sg, h.dy, h.wa, h.ti, h.ru, h.ki, h.mo, h.sp, h.fa, h.fp, h.fn, h.td, h.tp, h.tx, h.rl, h.im, h.is, h.ir, h.il, h.ih, h.if_, h.id_, h.iw, h.ig, h.it, h.so, h.sz, h.ce, h.cs⟩
theorem HX0.r_ti {A : Nat → Nat → Int32} {B : Nat → Nat → Int64} {C : Nat → Nat → Nat → Int32} {D : (Nat → Nat → Nat → Int64) × (Nat × (Nat → Int32))} {g : Nat → Nat → Int32} (h : HX0 (A, B, C, D) g) (i m : Nat) (hm : m ≤ 4) (u f : Nat → Int32) (h1 : ∀ j, j < m → u j = f (4 * i + j)) (h2 : ∀ j, m ≤ j → j < 4 → u j = C 61 i j) : HX0 (A, B, hwR3 C 61 i u, D) (sRg g 80 (4 * i) m f) := by
  unfold HX0
  simp (disch := omega) only [hwR3_t, sRg_t, sRg_out, sSt_rg, sCs_rg]
  exact ⟨h.ly, h.set, h.bs, h.sa, h.si, h.fo, h.al, h.pl, h.fi, h.sg, h.dy, h.wa, up4 i m hm u f h1 h2 h.ti, h.ru, h.ki, h.mo, h.sp, h.fa, h.fp, h.fn, h.td, h.tp, h.tx, h.rl, h.im, h.is, h.ir, h.il, h.ih, h.if_, h.id_, h.iw, h.ig, h.it, h.so, h.sz, h.ce, h.cs⟩
theorem HX0.r_ih {A : Nat → Nat → Int32} {B : Nat → Nat → Int64} {C : Nat → Nat → Nat → Int32} {D : (Nat → Nat → Nat → Int64) × (Nat × (Nat → Int32))} {g : Nat → Nat → Int32} (h : HX0 (A, B, C, D) g) (u f : Nat → Int32) (h1 : ∀ j, j < 5 → u j = f j) : HX0 (A, B, hwR3 C 29 0 u, D) (sRg g 89 0 5 f) := by
  unfold HX0
  simp (disch := omega) only [hwR3_t, sRg_t, sRg_out, sSt_rg, sCs_rg]
  exact ⟨h.ly, h.set, h.bs, h.sa, h.si, h.fo, h.al, h.pl, h.fi, h.sg, h.dy, h.wa, h.ti, h.ru, h.ki, h.mo, h.sp, h.fa, h.fp, h.fn, h.td, h.tp, h.tx, h.rl, h.im, h.is, h.ir, h.il, up5 u f h1, h.if_, h.id_, h.iw, h.ig, h.it, h.so, h.sz, h.ce, h.cs⟩
theorem HX0.r_set {A : Nat → Nat → Int32} {B : Nat → Nat → Int64} {C : Nat → Nat → Nat → Int32} {D : (Nat → Nat → Nat → Int64) × (Nat × (Nat → Int32))} {g : Nat → Nat → Int32} (h : HX0 (A, B, C, D) g) (u f : Nat → Int32) (h1 : ∀ j, j < 5 → u j = f j) : HX0 (A, B, hwR3 C 28 0 u, D) (sRg g 12 0 5 f) := by
  unfold HX0
  simp (disch := omega) only [hwR3_t, sRg_t, sRg_out, sSt_rg, sCs_rg]
  exact ⟨h.ly, up5 u f h1, h.bs, h.sa, h.si, h.fo, h.al, h.pl, h.fi, h.sg, h.dy, h.wa, h.ti, h.ru, h.ki, h.mo, h.sp, h.fa, h.fp, h.fn, h.td, h.tp, h.tx, h.rl, h.im, h.is, h.ir, h.il, h.ih, h.if_, h.id_, h.iw, h.ig, h.it, h.so, h.sz, h.ce, h.cs⟩
theorem Wf.r_if_ {g : Nat → Nat → Int32} (h : Wf g) (lo n : Nat) (f : Nat → Int32) (hv : ∀ k, lo ≤ k → k < lo + n → isN (f k) 9) : Wf (sRg g 90 lo n f) := by
  unfold Wf
  simp (disch := omega) only [sRg_t, sRg_out, sSt_rg, sCs_rg]
  exact ⟨h.dp, h.wo, h.se, h.pu, h.li, h.ly, h.pl, h.ru, h.fa, h.td, h.tx, h.rl, h.im, h.is, h.ir, h.il, h.bs, h.sa, h.si, h.fo, h.fz, h.fi, h.iz, h.lp, h.dy, h.wa, h.sg, h.ti, h.ki, h.mo, h.sp, h.fp, h.fn, h.tp, h.ih, up6 hv h.if_, h.id_, h.iw, h.ig, h.it, h.so, h.sz, h.cs⟩
theorem Wf.r_ig {g : Nat → Nat → Int32} (h : Wf g) (lo n : Nat) (f : Nat → Int32) (hv : ∀ k, lo ≤ k → k < lo + n → isN (f k) 2) : Wf (sRg g 93 lo n f) := by
  unfold Wf
  simp (disch := omega) only [sRg_t, sRg_out, sSt_rg, sCs_rg]
  exact ⟨h.dp, h.wo, h.se, h.pu, h.li, h.ly, h.pl, h.ru, h.fa, h.td, h.tx, h.rl, h.im, h.is, h.ir, h.il, h.bs, h.sa, h.si, h.fo, h.fz, h.fi, h.iz, h.lp, h.dy, h.wa, h.sg, h.ti, h.ki, h.mo, h.sp, h.fp, h.fn, h.tp, h.ih, h.if_, h.id_, h.iw, up6 hv h.ig, h.it, h.so, h.sz, h.cs⟩
theorem Wf.r_it {g : Nat → Nat → Int32} (h : Wf g) (lo n : Nat) (f : Nat → Int32) (hv : ∀ k, lo ≤ k → k < lo + n → isN (f k) 100) : Wf (sRg g 94 lo n f) := by
  unfold Wf
  simp (disch := omega) only [sRg_t, sRg_out, sSt_rg, sCs_rg]
  exact ⟨h.dp, h.wo, h.se, h.pu, h.li, h.ly, h.pl, h.ru, h.fa, h.td, h.tx, h.rl, h.im, h.is, h.ir, h.il, h.bs, h.sa, h.si, h.fo, h.fz, h.fi, h.iz, h.lp, h.dy, h.wa, h.sg, h.ti, h.ki, h.mo, h.sp, h.fp, h.fn, h.tp, h.ih, h.if_, h.id_, h.iw, h.ig, up6 hv h.it, h.so, h.sz, h.cs⟩
theorem Wf.r_sg {g : Nat → Nat → Int32} (h : Wf g) (lo n : Nat) (f : Nat → Int32) (hv : ∀ k, lo ≤ k → k < lo + n → isN (f k) 2) : Wf (sRg g 79 lo n f) := by
  unfold Wf
  simp (disch := omega) only [sRg_t, sRg_out, sSt_rg, sCs_rg]
  exact ⟨h.dp, h.wo, h.se, h.pu, h.li, h.ly, h.pl, h.ru, h.fa, h.td, h.tx, h.rl, h.im, h.is, h.ir, h.il, h.bs, h.sa, h.si, h.fo, h.fz, h.fi, h.iz, h.lp, h.dy, h.wa, up6 hv h.sg, h.ti, h.ki, h.mo, h.sp, h.fp, h.fn, h.tp, h.ih, h.if_, h.id_, h.iw, h.ig, h.it, h.so, h.sz, h.cs⟩
theorem Wf.r_ti {g : Nat → Nat → Int32} (h : Wf g) (lo n : Nat) (f : Nat → Int32) (hv : ∀ k, lo ≤ k → k < lo + n → isN (f k) 100) : Wf (sRg g 80 lo n f) := by
  unfold Wf
  simp (disch := omega) only [sRg_t, sRg_out, sSt_rg, sCs_rg]
  exact ⟨h.dp, h.wo, h.se, h.pu, h.li, h.ly, h.pl, h.ru, h.fa, h.td, h.tx, h.rl, h.im, h.is, h.ir, h.il, h.bs, h.sa, h.si, h.fo, h.fz, h.fi, h.iz, h.lp, h.dy, h.wa, h.sg, up6 hv h.ti, h.ki, h.mo, h.sp, h.fp, h.fn, h.tp, h.ih, h.if_, h.id_, h.iw, h.ig, h.it, h.so, h.sz, h.cs⟩
theorem Wf.r_id_ {g : Nat → Nat → Int32} (h : Wf g) (lo n : Nat) (f : Nat → Int32) (hv : ∀ k, lo ≤ k → k < lo + n → isN (f k) 5) : Wf (sRg g 91 lo n f) := by
  unfold Wf
  simp (disch := omega) only [sRg_t, sRg_out, sSt_rg, sCs_rg]
  exact ⟨h.dp, h.wo, h.se, h.pu, h.li, h.ly, h.pl, h.ru, h.fa, h.td, h.tx, h.rl, h.im, h.is, h.ir, h.il, h.bs, h.sa, h.si, h.fo, h.fz, h.fi, h.iz, h.lp, h.dy, h.wa, h.sg, h.ti, h.ki, h.mo, h.sp, h.fp, h.fn, h.tp, h.ih, h.if_, up6 hv h.id_, h.iw, h.ig, h.it, h.so, h.sz, h.cs⟩
theorem Wf.r_iw {g : Nat → Nat → Int32} (h : Wf g) (lo n : Nat) (f : Nat → Int32) (hv : ∀ k, lo ≤ k → k < lo + n → isN (f k) 1) : Wf (sRg g 92 lo n f) := by
  unfold Wf
  simp (disch := omega) only [sRg_t, sRg_out, sSt_rg, sCs_rg]
  exact ⟨h.dp, h.wo, h.se, h.pu, h.li, h.ly, h.pl, h.ru, h.fa, h.td, h.tx, h.rl, h.im, h.is, h.ir, h.il, h.bs, h.sa, h.si, h.fo, h.fz, h.fi, h.iz, h.lp, h.dy, h.wa, h.sg, h.ti, h.ki, h.mo, h.sp, h.fp, h.fn, h.tp, h.ih, h.if_, h.id_, up6 hv h.iw, h.ig, h.it, h.so, h.sz, h.cs⟩
theorem Wf.r_ih {g : Nat → Nat → Int32} (h : Wf g) (f : Nat → Int32) (h0 : isN (f 0) 5 ∧ 1 ≤ (f 0).toNatClampNeg) (h1 : isN (f 1) 9999) (h2 : isN (f 2) 9) (h3 : isN (f 3) 9999) (h4 : isN (f 4) 9999) : Wf (sRg g 89 0 5 f) := by
  unfold Wf
  simp (disch := omega) only [sRg_t, sRg_in, sSt_rg, sCs_rg]
  exact ⟨h.dp, h.wo, h.se, h.pu, h.li, h.ly, h.pl, h.ru, h.fa, h.td, h.tx, h.rl, h.im, h.is, h.ir, h.il, h.bs, h.sa, h.si, h.fo, h.fz, h.fi, h.iz, h.lp, h.dy, h.wa, h.sg, h.ti, h.ki, h.mo, h.sp, h.fp, h.fn, h.tp, ⟨⟨h0.1, fun _ => h0.2⟩, h1, h2, h3, h4⟩, h.if_, h.id_, h.iw, h.ig, h.it, h.so, h.sz, h.cs⟩
theorem Wf.r_set {g : Nat → Nat → Int32} (h : Wf g) (f : Nat → Int32) (h0 : isN (f 0) 5 ∧ 1 ≤ (f 0).toNatClampNeg) (h1 : isN (f 1) 9999) (h2 : isN (f 2) 9) (h3 : isN (f 3) 9999) (h4 : isN (f 4) 9999) : Wf (sRg g 12 0 5 f) := by
  unfold Wf
  simp (disch := omega) only [sRg_t, sRg_in, sRg_out, sSt_rg, sCs_rg]
  exact ⟨h0, h1, h2, h3, h4, h.ly, h.pl, h.ru, h.fa, h.td, h.tx, h.rl, h.im, h.is, h.ir, h.il, h.bs, h.sa, h.si, h.fo, h.fz, h.fi, h.iz, h.lp, h.dy, h.wa, h.sg, h.ti, h.ki, h.mo, h.sp, h.fp, h.fn, h.tp, h.ih, h.if_, h.id_, h.iw, h.ig, h.it, h.so, h.sz, h.cs⟩

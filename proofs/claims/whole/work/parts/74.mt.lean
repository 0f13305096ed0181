/-! THE PURE SIDE, 55: the reference reads the sections of a text -/
def KT2 (t i b : Nat) (σ τ : Mem) : Prop := (∀ a, a ≠ 12 → τ.1 a = σ.1 a) ∧ (∀ k, k ≤ 40 → k ≠ 24 → k ≠ 27 → τ.1 12 k = σ.1 12 k) ∧ τ.2.1 = σ.2.1 ∧ (∀ a, a ≠ 87 → a ≠ 88 → a ≠ 99 → τ.2.2.1 a = σ.2.2.1 a) ∧ (∀ k, k < 200 * t + b → τ.2.2.1 87 0 k = σ.2.2.1 87 0 k) ∧ (∀ k, k < 4 * t + i → τ.2.2.1 88 0 k = σ.2.2.1 88 0 k) ∧ τ.2.2.2 = σ.2.2.2
theorem KT2.rfl_ (t i b : Nat) (σ : Mem) : KT2 t i b σ σ := ⟨fun _ _ => rfl, fun _ _ _ _ => rfl, rfl, fun _ _ _ _ => rfl, fun _ _ => rfl, fun _ _ => rfl, rfl⟩
theorem KT2.trans {t i j b d : Nat} {σ τ υ : Mem} (hi : i ≤ j) (hb : b ≤ d) (h : KT2 t i b σ τ) (k : KT2 t j d τ υ) : KT2 t i b σ υ :=
  ⟨fun a x => (k.1 a x).trans (h.1 a x), fun a x y z => (k.2.1 a x y z).trans (h.2.1 a x y z), k.2.2.1.trans h.2.2.1, fun a x y z => (k.2.2.2.1 a x y z).trans (h.2.2.2.1 a x y z), fun a x => (k.2.2.2.2.1 a (by omega)).trans (h.2.2.2.2.1 a x), fun a x => (k.2.2.2.2.2.1 a (by omega)).trans (h.2.2.2.2.2.1 a x), k.2.2.2.2.2.2.trans h.2.2.2.2.2.2⟩
theorem KS.t2 {t b : Nat} (i : Nat) {σ τ : Mem} (h : KS t b σ τ) : KT2 t i b σ τ := ⟨h.1, fun k x _ _ => h.2.1 k (by omega), h.2.2.1, fun a x _ z => h.2.2.2.1 a x z, h.2.2.2.2.1, fun k _ => by rw [h.2.2.2.1 88 (by decide) (by decide)], h.2.2.2.2.2⟩
theorem KT2.w {t i b x : Nat} {v : Int32} {σ : Mem} (h : 4 * t + i ≤ x) : KT2 t i b σ (σ.1, σ.2.1, hwU3 σ.2.2.1 88 0 x v, σ.2.2.2.1, σ.2.2.2.2) := ⟨fun _ _ => rfl, fun _ _ _ _ => rfl, rfl, fun a _ y _ => hwU3_t y, fun k _ => by
    show hwU3 σ.2.2.1 88 0 x v 87 0 k = _
    rw [hwU3_t (by decide)], fun k hk => hwU3_k (by omega), rfl⟩
theorem KT2.f {t i b k : Nat} {v : Int32} {σ : Mem} (h : k = 24 ∨ k = 27 ∨ 40 < k) : KT2 t i b σ (hwU2 σ.1 12 k v, σ.2.1, σ.2.2.1, σ.2.2.2.1, σ.2.2.2.2) := ⟨fun a x => u2_t x, fun j x y z => u2_k (by omega), rfl, fun _ _ _ _ => rfl, fun _ _ => rfl, fun _ _ => rfl, rfl⟩
theorem m_tn (N : Nat) {t : Nat} {σ : Mem} (ht : t < 6) (h : σ.1 12 27 = nI t) : F_X12_text_b122 N 0 σ = some (Int32.ofInt (-100) - σ.1 12 43, (hwU2 σ.1 12 24 0, σ.2.1, hwU3 σ.2.2.1 88 0 (4 * t + 3) (σ.1 12 50), σ.2.2.2.1, σ.2.2.2.2)) := by
  unfold F_X12_text_b122
  rw [h, show (4 : Int32) * nI t + 3 = nI (4 * t + 3) by rw [show (4 : Int32) = nI 4 from rfl, nI_mul, show (3 : Int32) = nI 3 from rfl, nI_add], if_neg (out_nI (by omega) (by decide)), if_pos rfl, nI_clamp (by omega)]
theorem m_fl (N n : Nat) (j : Int32) (σ : Mem) : F_X12_text_b26 N (n + 1) 0 j σ = F_X12_text_b122 N 0 σ := by
  have e : F_X12_text_b101 N 0 σ = F_X12_text_b122 N 0 σ := by unfold F_X12_text_b101; rw [if_pos rfl]
  rw [F_X12_text_b26.eq_2]
  by_cases c : (3 : Int32) ≤ j
  · rw [if_pos c, e]
  · rw [if_neg c, if_pos rfl, e]
theorem m_nf (N : Nat) {t : Nat} (i b : Nat) (hi : i ≤ 3) {σ : Mem} (ht : t < 6) (h : σ.1 12 27 = nI t) : ∃ τ, F_X12_text_b122 N 0 σ = some (Int32.ofInt (-100) - σ.1 12 43, τ) ∧ KT2 t i b σ τ ∧ τ.1 12 24 = nI 0 ∧ τ.1 12 27 = nI t := by
  refine ⟨_, m_tn N ht h, (KT2.w (x := 4 * t + 3) (by omega)).trans (Nat.le_refl _) (Nat.le_refl _) (KT2.f (k := 24) (Or.inl rfl)), ?_, ?_⟩
  · show hwU2 σ.1 12 24 0 12 24 = _
    rw [hwU2_eq]
    rfl
  · show hwU2 σ.1 12 24 0 12 27 = _
    rw [u2_k (by decide)]
    exact h
theorem m_bad (N n : Nat) {t : Nat} (i b : Nat) (hi : i < 3) {σ : Mem} (ht : t < 6) (h : σ.1 12 27 = nI t) : ∃ τ, F_X12_text_b60 N (F_X12_text_b26 N (n + 1)) (nI i) 0 σ = some (Int32.ofInt (-100) - σ.1 12 43, τ) ∧ KT2 t i b σ τ ∧ τ.1 12 24 = nI 0 ∧ τ.1 12 27 = nI t := by
  obtain ⟨τ, f, k, r⟩ := m_nf N (t := t) (σ := (σ.1, σ.2.1, hwU3 σ.2.2.1 88 0 (4 * t + i) (σ.1 12 50), σ.2.2.2.1, σ.2.2.2.2)) i b (by omega) ht h
  refine ⟨τ, ?_, (KT2.w (Nat.le_refl _)).trans (Nat.le_refl _) (Nat.le_refl _) k, r⟩
  unfold F_X12_text_b60
  rw [h, show (4 : Int32) * nI t + nI i = nI (4 * t + i) by rw [show (4 : Int32) = nI 4 from rfl, nI_mul, nI_add], if_neg (out_nI (by omega) (by decide)), if_pos rfl, nI_clamp (by omega), m_fl]
  exact f
/-- what the reference holds of the sections from i on -/
def DF (A B : Nat → Int32) (t : Nat) : Nat → Nat → List (List Nat) → Prop
  | i, b, [] => B (4 * t + i) = nI b
  | i, b, o :: r => B (4 * t + i) = nI b ∧ (∀ k, k < o.length → A (200 * t + (b + k)) = nI (o.getD k 0)) ∧ DF A B t (i + 1) (b + o.length) r
def MS (c : Nat → Nat) (L t b p : Nat) (σ : Mem) : Prop := (MTp c L σ ∧ Wd σ) ∧ (σ.1 12 27 = nI t ∧ t < 6) ∧ σ.1 12 50 = nI b ∧ σ.1 12 42 = nI p
theorem m_txt (N : Nat) (hN : 200 ≤ N) {c : Nat → Nat} {L : Nat} (hL : L ≤ 160) {S0 K V E : Nat → Nat} (ht : Tks N c L S0 K V E) (t : Nat) : ∀ (m n i b p : Nat) (σ : Mem) (res : Bool × Nat × List (List Nat)), m + i = 3 → m + 1 < n → Txt L K V E m p res → MS c L t b p σ → p ≤ L → b + i ≤ p →
    ∃ τ, F_X12_text_b26 N n 1 (nI i) σ = some (if res.1 = true then nI t else Int32.ofInt (-100) - nI (S0 res.2.1), τ) ∧ KT2 t i b σ τ ∧ τ.1 12 24 = nI 0 ∧ τ.1 12 27 = nI (if res.1 = true then t + 1 else t) ∧ (res.1 = true → DF (τ.2.2.1 87 0) (τ.2.2.1 88 0) t i b res.2.2) := by
  intro m
  induction m with
  | zero =>
    intro n i b p σ res hm hn tx hs hp hb
    have i3 : i = 3 := by omega
    subst i3
    rw [Txt] at tx
    subst tx
    obtain ⟨⟨h1, h2⟩, ⟨h3, h4⟩, h5, h6⟩ := hs
    obtain ⟨⟨t1, t2, t3, t4, t5, t6, t7, t8⟩, -, tm⟩ := ht p hp
    obtain ⟨τ0, f0, k0, a42, a43, a44, a45, a46⟩ := tm σ h1 h2 h6
    have a27 : τ0.1 12 27 = nI t := (k0.2.2 27 (by decide)).trans h3
    have kt : KT2 t 3 b σ τ0 := (KLk.ks (t := t) (b := b) k0).t2 3
    have z0 := (mk_tab3 (K p) (by omega)).2.2.2.2
    cases n with
    | zero => omega
    | succ n =>
      have e0 : F_X12_text_b26 N (n + 1) 1 (nI 3) σ = if mk (K p) = 0 then F_X12_text_b122 N 1 τ0 else F_X12_text_b122 N 0 τ0 := by
        rw [F_X12_text_b26.eq_2, if_pos (leL_a 3 3 rfl (Nat.le_refl _) (by decide))]
        unfold F_X12_text_b101 F_X12_text_b121
        rw [k10, f0, Option.bind_some]
        dsimp only
        rw [a44]
      by_cases cz : K p = 0
      · rw [if_pos (z0.mpr cz)] at e0
        rw [decide_eq_true cz]
        refine ⟨(hwU2 (hwU2 τ0.1 12 24 0) 12 27 (nI (t + 1)), τ0.2.1, hwU3 τ0.2.2.1 88 0 (4 * t + 3) (τ0.1 12 50), τ0.2.2.2.1, τ0.2.2.2.2), ?_, ?_, ?_, ?_, fun _ => ?_⟩
        · rw [e0]
          unfold F_X12_text_b122
          rw [a27, show (4 : Int32) * nI t + 3 = nI (4 * t + 3) by rw [show (4 : Int32) = nI 4 from rfl, nI_mul, show (3 : Int32) = nI 3 from rfl, nI_add], if_neg (out_nI (by omega) (by decide)), k10, nI_clamp (by omega), nI_add_sub, nI_1]
          rfl
        · exact ((kt.trans (Nat.le_refl _) (Nat.le_refl _) (KT2.w (x := 4 * t + 3) (Nat.le_refl _))).trans (Nat.le_refl _) (Nat.le_refl _) (KT2.f (k := 24) (Or.inl rfl))).trans (Nat.le_refl _) (Nat.le_refl _) (KT2.f (k := 27) (Or.inr (Or.inl rfl)))
        · show hwU2 (hwU2 τ0.1 12 24 0) 12 27 (nI (t + 1)) 12 24 = _
          rw [u2_k (by decide), hwU2_eq]
          rfl
        · show hwU2 (hwU2 τ0.1 12 24 0) 12 27 (nI (t + 1)) 12 27 = _
          rw [hwU2_eq]
          rfl
        · show hwU3 τ0.2.2.1 88 0 (4 * t + 3) (τ0.1 12 50) 88 0 (4 * t + 3) = _
          rw [hwU3_eq]
          exact (k0.2.2 50 (by decide)).trans h5
      · rw [if_neg (fun q => cz (z0.mp q))] at e0
        rw [decide_eq_false cz]
        obtain ⟨τ, f, k, g24, g27⟩ := m_nf N (t := t) 3 b (by omega) h4 a27
        rw [a43] at f
        exact ⟨τ, e0.trans f, kt.trans (Nat.le_refl _) (Nat.le_refl _) k, g24, g27, fun q => by cases q⟩
  | succ m ih =>
    intro n i b p σ res hm hn tx hs hp hb
    obtain ⟨⟨h1, h2⟩, ⟨h3, h4⟩, h5, h6⟩ := hs
    obtain ⟨⟨t1, t2, t3, t4, t5, t6, t7, t8⟩, -, tm⟩ := ht p hp
    obtain ⟨τ0, f0, k0, a42, a43, a44, a45, a46⟩ := tm σ h1 h2 h6
    have a27 : τ0.1 12 27 = nI t := (k0.2.2 27 (by decide)).trans h3
    have ks0 : KS t b σ τ0 := k0.ks
    have kt : KT2 t i b σ τ0 := ks0.t2 i
    obtain ⟨z3, -⟩ := mk_tab2 (K p) (by omega)
    cases n with
    | zero => omega
    | succ n =>
      cases n with
      | zero => omega
      | succ n =>
        have e0 : F_X12_text_b26 N (n + 1 + 1) 1 (nI i) σ = if mk (K p) = 3 then (if τ0.1 12 45 = nI i then F_X12_text_b60 N (F_X12_text_b26 N (n + 1)) (nI i) 1 τ0 else F_X12_text_b60 N (F_X12_text_b26 N (n + 1)) (nI i) 0 τ0) else F_X12_text_b60 N (F_X12_text_b26 N (n + 1)) (nI i) 0 τ0 := by
          rw [F_X12_text_b26.eq_2, if_neg (geL_n 3 3 rfl (by omega) (by decide)), k10, f0, Option.bind_some]
          unfold F_X12_text_b59
          dsimp only
          rw [a44]
        have bad : res = (false, p, []) → F_X12_text_b26 N (n + 1 + 1) 1 (nI i) σ = F_X12_text_b60 N (F_X12_text_b26 N (n + 1)) (nI i) 0 τ0 → ∃ τ, F_X12_text_b26 N (n + 1 + 1) 1 (nI i) σ = some (if res.1 = true then nI t else Int32.ofInt (-100) - nI (S0 res.2.1), τ) ∧ KT2 t i b σ τ ∧ τ.1 12 24 = nI 0 ∧ τ.1 12 27 = nI (if res.1 = true then t + 1 else t) ∧ (res.1 = true → DF (τ.2.2.1 87 0) (τ.2.2.1 88 0) t i b res.2.2) := by
          intro er ee
          subst er
          obtain ⟨τ, f, k, g24, g27⟩ := m_bad N n (t := t) i b (by omega) h4 a27
          rw [a43] at f
          exact ⟨τ, ee.trans f, kt.trans (Nat.le_refl _) (Nat.le_refl _) k, g24, g27, fun q => by cases q⟩
        rw [Txt] at tx
        by_cases ck : K p = 4 + (2 - m)
        · rw [if_pos ck] at tx
          have ki : K p = 4 + i := by omega
          obtain ⟨s, ⟨q, run⟩, hsL, alt⟩ := tx
          rw [if_pos (z3.mpr (by omega)), a46 (by omega), ki, Nat.add_sub_cancel_left, if_pos rfl] at e0
          have pe := t5 (by omega)
          have s0 : RS c L t b [] 0 [] (hwU2 (hwU2 τ0.1 12 48 0) 12 49 0, τ0.2.1, hwU3 τ0.2.2.1 88 0 (4 * t + i) (nI b), τ0.2.2.2.1, τ0.2.2.2.2) := by
            refine ⟨⟨⟨?_, fun k hk => ?_⟩, ?_⟩, ⟨?_, h4⟩, ⟨?_, fun k hk => absurd hk (Nat.not_lt_zero _)⟩, ⟨?_, rfl, trivial⟩, ⟨?_, fun k hk => absurd hk (Nat.not_lt_zero _)⟩⟩
            · simp (disch := decide) only [u2_k]; exact (k0.2.2 24 (by decide)).trans h1.1
            · show hwU3 τ0.2.2.1 88 0 (4 * t + i) (nI b) 86 0 k = _
              rw [hwU3_t (by decide), k0.1]
              exact h1.2 k hk
            · show ∀ r, r < 12 → τ0.2.2.2.1 98 0 r = _
              rw [k0.1]
              exact h2
            · simp (disch := decide) only [u2_k]; exact a27
            · simp (disch := decide) only [u2_k, hwU2_eq]; rfl
            · simp (disch := decide) only [hwU2_eq]; rfl
            · simp (disch := decide) only [u2_k]; exact (k0.2.2 50 (by decide)).trans h5
          obtain ⟨τ1, f1, k1, b43, good⟩ := m_eread N hN c L hL S0 K V E ht t b q true true [] 0 [] (E p) s N (bI true) (hwU2 (hwU2 τ0.1 12 48 0) 12 49 0, τ0.2.1, hwU3 τ0.2.2.1 88 0 (4 * t + i) (nI b), τ0.2.2.2.1, τ0.2.2.2.2) run (by omega) t3 (by show b + 0 + 0 ≤ _; omega) s0 (by simp (disch := decide) only [u2_k]; exact a42) (fun _ => rfl)
          have kt1 : KT2 t i b σ τ1 := by
            refine ((((kt.trans (Nat.le_refl _) (Nat.le_refl _) (KT2.w (x := 4 * t + i) (v := nI b) (Nat.le_refl _))).trans (Nat.le_refl _) (Nat.le_refl _) (KT2.f (k := 48) (v := 0) (Or.inr (Or.inr (by decide))))).trans (Nat.le_refl _) (Nat.le_refl _) (KT2.f (k := 49) (v := 0) (Or.inr (Or.inr (by decide)))))).trans (Nat.le_refl _) (Nat.le_refl _) (k1.t2 i)
          have c27 : τ1.1 12 27 = nI t := by
            rw [k1.2.1 27 (by decide)]
            simp (disch := decide) only [u2_k]
            exact a27
          have e1 : F_X12_text_b60 N (F_X12_text_b26 N (n + 1)) (nI i) 1 τ0 = if bI s.1 = 0 then F_X12_text_b26 N (n + 1) 0 (nI i + 1) τ1 else F_X12_text_b26 N (n + 1) 1 (nI i + 1) τ1 := by
            unfold F_X12_text_b60
            rw [a27, show (4 : Int32) * nI t + nI i = nI (4 * t + i) by rw [show (4 : Int32) = nI 4 from rfl, nI_mul, nI_add], if_neg (out_nI (by omega) (by decide)), k10, nI_clamp (by omega), (k0.2.2 50 (by decide)).trans h5]
            show (F_X12_eRead_b14 N N (bI true) (bI true) (hwU2 (hwU2 τ0.1 12 48 0) 12 49 0, τ0.2.1, hwU3 τ0.2.2.1 88 0 (4 * t + i) (nI b), τ0.2.2.2.1, τ0.2.2.2.2)).bind _ = _
            rw [f1, Option.bind_some]
          rw [e1, bI_if] at e0
          by_cases st : s.1 = true
          · rw [if_pos st] at e0 alt
            obtain ⟨⟨c59, hl⟩, r2, tx2, er⟩ := alt
            subst er
            obtain ⟨rs, g42⟩ := good st
            obtain ⟨⟨u1, u2, u3, u4, u5, -⟩, -, -⟩ := ht s.2.1 hsL
            have pe2 := u5 (by omega)
            obtain ⟨τ, f, k, g24, g27, df⟩ := ih (n + 1) (i + 1) (b + s.2.2.length) (E s.2.1) τ1 r2 (by omega) (by omega) tx2 ⟨rs.1, rs.2.1, rs.2.2.2.2.1, g42⟩ u3 (by omega)
            rw [nI_1] at e0
            refine ⟨τ, e0.trans f, kt1.trans (by omega) (by omega) k, g24, g27, fun q => ⟨?_, fun j hj => ?_, df q⟩⟩
            · rw [k.2.2.2.2.2.1 _ (by omega), k1.2.2.2.1 88 (by decide) (by decide)]
              exact hwU3_eq
            · rw [k.2.2.2.2.1 _ (by omega)]
              exact rs.2.2.2.2.2 j hj
          · rw [if_neg st] at e0 alt
            subst alt
            obtain ⟨τ, f, k, g24, g27⟩ := m_nf N (t := t) i b (by omega) h4 c27
            rw [b43] at f
            rw [m_fl] at e0
            exact ⟨τ, e0.trans f, kt1.trans (Nat.le_refl _) (Nat.le_refl _) k, g24, g27, fun q => by cases q⟩
        · rw [if_neg ck] at tx
          refine bad tx ?_
          by_cases c3 : mk (K p) = 3
          · rw [if_pos c3] at e0
            have := z3.mp c3
            rw [a46 (by omega), if_neg (fun q => ck (by have := (nI_eq (a := K p - 4) (b := i) (by omega) (by omega)).mp q; omega))] at e0
            exact e0
          · rw [if_neg c3] at e0
            exact e0

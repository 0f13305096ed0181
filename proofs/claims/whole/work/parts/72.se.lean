/-! THE PURE SIDE, 53: the class reads the sections of a text -/
/-- a text from section 3 - m on: whether it stands, where its fault is, its codes -/
def Txt (L : Nat) (K V E : Nat → Nat) : Nat → Nat → (Bool × Nat × List (List Nat)) → Prop
  | 0, p, r => r = (decide (K p = 0), p, [])
  | m + 1, p, r => if K p = 4 + (2 - m) then ∃ s : Bool × Nat × List Nat, Run K V E true true [] 0 [] (E p) s ∧ s.2.1 ≤ L ∧ (if s.1 = true then (K s.2.1 = 59 ∧ s.2.2.length + E p ≤ s.2.1) ∧ ∃ r2, Txt L K V E m (E s.2.1) r2 ∧ r = (r2.1, r2.2.1, s.2.2 :: r2.2.2) else r = (false, s.2.1, [])) else r = (false, p, [])
theorem x_sec (N : Nat) (hN : 161 ≤ N) {c : Nat → Nat} {L b : Nat} (hL : L ≤ 160) {S0 K V E : Nat → Nat} (ht : Tks N c L S0 K V E) (p : Nat) (σ : Mem) (hs : CS c L b S0 K V E p [] σ) (hp : p ≤ L) (hb : b ≤ p) :
    ∃ r τ, F_X8_reads N 0 0 σ = some (r, τ) ∧ KEm b σ τ ∧ ∃ s : Bool × Nat × List Nat, Run K V E true true [] 0 [] p s ∧ s.2.1 ≤ L ∧ τ.1 3 6 = nI (S0 s.2.1) ∧ ((s.1 = false ∧ (r = 0 ∨ (r = 1 ∧ ¬ τ.1 3 7 = 59))) ∨ (s.1 = true ∧ r = 1 ∧ K s.2.1 = 59 ∧ CS c L b S0 K V E s.2.1 s.2.2 τ ∧ s.2.2.length + p ≤ s.2.1)) := by
  have hk : ∀ p, p ≤ L → K p ≤ 255 := fun p hp => (ht p hp).1.2.2.2.2.2.1
  obtain ⟨r, τ, f, k, alt⟩ := (x_ind N hN hL ht 90 0 (by decide)).2.2.1 0 (by decide) (by decide) p [] [] σ true hs hp hb rfl trivial
  refine ⟨r, τ, f, k, ?_⟩
  rcases alt with ⟨e, pf, hpf, e6, run⟩ | ⟨e, p2, o2, hp2, s2, hl, nb, dead, cont⟩
  · exact ⟨(false, pf, []), run, hpf, e6, Or.inl ⟨rfl, Or.inl e⟩⟩
  · by_cases c59 : K p2 = 59
    · refine ⟨(true, p2, o2), cont (fun z => ?_) _ ⟨1, ?_⟩, hp2, s2.2.1.2.1, Or.inr ⟨rfl, e, c59, s2, ?_⟩⟩
      · have z : nC (K p2) := z
        unfold nC at z
        omega
      · show sy K V E 1 false false [] 0 o2 p2 = _
        rw [sy, if_pos c59]
        rfl
      · have := hl.2
        rw [List.length_nil] at this
        show o2.length + p ≤ p2
        omega
    · refine ⟨(false, p2, []), ?_, hp2, s2.2.1.2.1, Or.inl ⟨rfl, Or.inr ⟨e, ?_⟩⟩⟩
      · by_cases cd : Dl 0 (K p2)
        · exact dead cd
        · refine cont cd _ ?_
          by_cases c41 : K p2 = 41
          · refine ⟨1, ?_⟩
            show sy K V E 1 false false [] 0 o2 p2 = _
            rw [sy, if_neg c59, if_pos c41]
            rfl
          · refine Run.stray c59 c41 ?_
            have cc : ¬ nC (K p2) := cd
            have nb0 : ¬ (Bl 0 (K p2)) := fun z => nb (Or.inl z)
            have nj : ¬ K p2 = 7 := fun z => nb (Or.inr (((jn_k (l := 0) (by have := hk p2 hp2; omega)).1 rfl).mpr z))
            rw [Bl_0] at nb0
            unfold nS at nb0
            unfold nC at cc
            unfold sgn
            rw [if_neg (by omega), if_neg (by omega), if_neg (by omega), if_neg (by omega), if_neg (by omega), if_neg (by omega), if_neg (by omega)]
      · rw [s2.2.1.2.2.1]
        exact fun z => c59 ((nI_eq (a := K p2) (b := 59) (by have := hk p2 hp2; omega) (by decide)).mp z)
/-- what the class holds of the sections from i on -/
def CF (A B : Nat → Int32) : Nat → Nat → List (List Nat) → Prop
  | _, _, [] => True
  | i, b, o :: r => B i = nI (b + i) ∧ (∀ k, k < o.length → A (b + i + k) = sTr (nI (o.getD k 0))) ∧ A (b + o.length + i) = 40000 ∧ CF A B (i + 1) (b + o.length) r
def KTx (i b : Nat) (σ τ : Mem) : Prop := (∀ a, a ≠ 3 → τ.1 a = σ.1 a) ∧ (∀ k, k < 4 ∨ 8 < k → τ.1 3 k = σ.1 3 k) ∧ τ.2.1 = σ.2.1 ∧ (∀ a, a ≠ 63 → a ≠ 64 → τ.2.2.1 a = σ.2.2.1 a) ∧ (∀ k, k < b → τ.2.2.1 63 0 k = σ.2.2.1 63 0 k) ∧ (∀ k, k < i → τ.2.2.1 64 0 k = σ.2.2.1 64 0 k) ∧ τ.2.2.2 = σ.2.2.2
theorem KTx.trans {i j b d : Nat} {σ τ υ : Mem} (hi : i ≤ j) (hb : b ≤ d) (h : KTx i b σ τ) (k : KTx j d τ υ) : KTx i b σ υ :=
  ⟨fun a x => (k.1 a x).trans (h.1 a x), fun a x => (k.2.1 a x).trans (h.2.1 a x), k.2.2.1.trans h.2.2.1, fun a x y => (k.2.2.2.1 a x y).trans (h.2.2.2.1 a x y), fun a x => (k.2.2.2.2.1 a (by omega)).trans (h.2.2.2.2.1 a x), fun a x => (k.2.2.2.2.2.1 a (by omega)).trans (h.2.2.2.2.2.1 a x), k.2.2.2.2.2.2.trans h.2.2.2.2.2.2⟩
theorem KTx.rfl_ (i b : Nat) (σ : Mem) : KTx i b σ σ := ⟨fun _ _ => rfl, fun _ _ => rfl, rfl, fun _ _ _ => rfl, fun _ _ => rfl, fun _ _ => rfl, rfl⟩
theorem KEm.x {b : Nat} (i : Nat) {σ τ : Mem} (h : KEm b σ τ) : KTx i b σ τ := ⟨h.1, h.2.1, h.2.2.1, fun a x _ => h.2.2.2.1 a x, h.2.2.2.2.1, fun k _ => by rw [h.2.2.2.1 64 (by decide)], h.2.2.2.2.2⟩
theorem x_txt (N : Nat) (hN : 161 ≤ N) {c : Nat → Nat} {L : Nat} (hL : L ≤ 160) {S0 K V E : Nat → Nat} (ht : Tks N c L S0 K V E) : ∀ (m n i b p : Nat) (σ : Mem), m + i = 3 → m < n → CS c L (b + i) S0 K V E p [] σ → p ≤ L → b + i ≤ p →
    ∃ τ res, F_X8_readsText_b16 N n (nI i) σ = some (bI res.1, τ) ∧ Txt L K V E m p res ∧ KTx i (b + i) σ τ ∧ τ.1 3 6 = nI (S0 res.2.1) ∧ (res.1 = true → CF (τ.2.2.1 63 0) (τ.2.2.1 64 0) i b res.2.2) := by
  intro m
  induction m with
  | zero =>
    intro n i b p σ hm hn hs hp hb
    have i3 : i = 3 := by omega
    subst i3
    cases n with
    | zero => cases hn
    | succ n =>
      refine ⟨σ, (decide (K p = 0), p, []), ?_, rfl, KTx.rfl_ _ _ σ, hs.2.1.2.1, fun _ => trivial⟩
      have kk := (ht p hp).1.2.2.2.2.2.1
      rw [F_X8_readsText_b16.eq_2, if_pos (leL_a 3 3 rfl (Nat.le_refl _) (by decide)), hs.2.1.2.2.1]
      by_cases z : K p = 0
      · rw [if_pos (by rw [z]; rfl), decide_eq_true z]; rfl
      · rw [if_neg (show ¬ nI (K p) = 0 from fun q => z ((nI_eq (a := K p) (b := 0) (by omega) (by decide)).mp q)), decide_eq_false z]; rfl
  | succ m ih =>
    intro n i b p σ hm hn hs hp hb
    cases n with
    | zero => cases hn
    | succ n =>
      obtain ⟨⟨t1, t2, t3, t4, t5, t6, t7, t8⟩, -, -⟩ := ht p hp
      have e0 : F_X8_readsText_b16 N (n + 1) (nI i) σ = if nI (K p) = nI (4 + i) then (F_X8_step N (σ.1, σ.2.1, (hwU3 σ.2.2.1 64 0 i (nI (b + i))), σ.2.2.2.1, σ.2.2.2.2)).bind (fun q2 =>
        (F_X8_reads N (0 : Int32) (0 : Int32) q2.2).bind (fun q3 =>
        if q3.1 = 0 then
          some ((0 : Int32), q3.2)
        else
          if (q3.2.1 3 7) = (59 : Int32) then
            (F_X8_emit N (40000 : Int32) q3.2).bind (fun q4 =>
            (F_X8_step N q4.2).bind (fun q5 =>
            (F_X8_readsText_b16 N n) (nI (i + 1)) q5.2))
          else
            some ((0 : Int32), q3.2))) else some ((0 : Int32), σ) := by
        rw [F_X8_readsText_b16.eq_2, if_neg (geL_n 3 3 rfl (by omega) (by decide)), hs.2.1.2.2.1, show (4 : Int32) = nI 4 from rfl, nI_add, if_neg (out_nI (by omega) (by decide)), nI_clamp (by omega), hs.2.2.1, nI_1]
        rfl
      have ce : 4 + (2 - m) = 4 + i := by omega
      by_cases ck : K p = 4 + i
      · rw [if_pos (by rw [ck])] at e0
        have pe := t5 (by omega)
        have k0 : KTx i (b + i) σ (σ.1, σ.2.1, hwU3 σ.2.2.1 64 0 i (nI (b + i)), σ.2.2.2.1, σ.2.2.2.2) := ⟨fun _ _ => rfl, fun _ _ => rfl, rfl, fun a _ y => hwU3_t y, fun k _ => by
          show hwU3 σ.2.2.1 64 0 i (nI (b + i)) 63 0 k = _
          rw [hwU3_t (by decide)], fun k hk => hwU3_k (by omega), rfl⟩
        have s0 : CS c L (b + i) S0 K V E p [] (σ.1, σ.2.1, hwU3 σ.2.2.1 64 0 i (nI (b + i)), σ.2.2.2.1, σ.2.2.2.2) := ⟨⟨hs.1.1, fun k hk => by
          show hwU3 σ.2.2.1 64 0 i (nI (b + i)) 62 0 k = _
          rw [hwU3_t (by decide)]
          exact hs.1.2 k hk⟩, hs.2.1, hs.2.2.1, fun k hk => absurd hk (Nat.not_lt_zero _)⟩
        obtain ⟨τ1, f1, s1, k1⟩ := x_stp N ht hp s0
        obtain ⟨r, τ2, f2, k2, s, run, hsL, e6, alt⟩ := x_sec N hN hL ht (E p) τ1 s1 t3 (by omega)
        rw [f1, Option.bind_some] at e0
        dsimp only at e0
        rw [f2, Option.bind_some] at e0
        dsimp only at e0
        have kk : KTx i (b + i) σ τ2 := (k0.trans (Nat.le_refl _) (Nat.le_refl _) (k1.x i)).trans (Nat.le_refl _) (Nat.le_refl _) (k2.x i)
        rcases alt with ⟨sf, q⟩ | ⟨st, e, c59, s2, hl⟩
        · refine ⟨τ2, (false, s.2.1, []), ?_, ?_, kk, e6, fun q => by cases q⟩
          · rw [e0]
            rcases q with q | ⟨q, q7⟩
            · rw [q, k00]; rfl
            · rw [q, k10, if_neg q7]; rfl
          · rw [Txt, if_pos (by omega)]
            refine ⟨s, run, hsL, ?_⟩
            rw [if_neg (by rw [sf]; decide)]
        · subst e
          rw [k10, s2.2.1.2.2.1, if_pos (by rw [c59]; rfl)] at e0
          obtain ⟨⟨u1, u2, u3, u4, u5, -⟩, -, -⟩ := ht s.2.1 hsL
          have pe2 := u5 (by omega)
          obtain ⟨τ3, f3, s3, k3⟩ := x_emt N s2 (by omega) 140000 40000 (by decide)
          obtain ⟨τ4, f4, s4, k4⟩ := x_stp N ht hsL s3
          have l1 : (s.2.2 ++ [140000]).length = s.2.2.length + 1 := by rw [List.length_append]; rfl
          have s5 : CS c L (b + s.2.2.length + (i + 1)) S0 K V E (E s.2.1) [] τ4 := ⟨s4.1, s4.2.1, by rw [s4.2.2.1, l1, List.length_nil]; congr 1; omega, fun k hk => absurd hk (Nat.not_lt_zero _)⟩
          obtain ⟨τ, res, f5, tx, k5, g6, cf⟩ := ih n (i + 1) (b + s.2.2.length) (E s.2.1) τ4 (by omega) (by omega) s5 u3 (by omega)
          rw [f3, Option.bind_some] at e0
          dsimp only at e0
          rw [f4, Option.bind_some] at e0
          dsimp only at e0
          refine ⟨τ, (res.1, res.2.1, s.2.2 :: res.2.2), e0.trans f5, ?_, ?_, g6, fun q => ?_⟩
          · rw [Txt, if_pos (by omega)]
            refine ⟨s, run, hsL, ?_⟩
            rw [if_pos st]
            exact ⟨⟨c59, hl⟩, res, tx, rfl⟩
          · exact ((kk.trans (Nat.le_refl _) (Nat.le_refl _) (k3.x i)).trans (Nat.le_refl _) (Nat.le_refl _) (k4.x i)).trans (by omega) (by omega) k5
          · refine ⟨?_, fun k hk => ?_, ?_, cf q⟩
            · rw [k5.2.2.2.2.2.1 i (by omega), k4.2.2.2.1 64 (by decide), k3.2.2.2.1 64 (by decide), k2.2.2.2.1 64 (by decide), k1.2.2.2.1 64 (by decide)]
              exact hwU3_eq
            · rw [k5.2.2.2.2.1 (b + i + k) (by omega)]
              have := s4.2.2.2 k (by omega)
              rw [this, getD_app hk]
            · rw [k5.2.2.2.2.1 (b + s.2.2.length + i) (by omega)]
              have := s4.2.2.2 s.2.2.length (by omega)
              rw [getD_end] at this
              rw [show b + s.2.2.length + i = b + i + s.2.2.length by omega, this]
              decide
      · rw [if_neg (fun q => ck ((nI_eq (a := K p) (b := 4 + i) (by omega) (by omega)).mp q))] at e0
        refine ⟨σ, (false, p, []), e0, ?_, KTx.rfl_ _ _ σ, hs.2.1.2.1, fun q => by cases q⟩
        rw [Txt, if_neg (by omega)]

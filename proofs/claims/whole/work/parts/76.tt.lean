/-! THE PURE SIDE, 57: text() -/
theorem gM_hi (σ : Mem) {k : Nat} (h : 40 < k) : gM σ 12 k = 0 := by
  unfold gM
  have e : Nat.ble k 40 = false := by
    cases q : Nat.ble k 40 with
    | false => rfl
    | true => have := Nat.le_of_ble_eq_true q; omega
  rw [e]
  rfl
theorem gM_t {σ τ : Mem} {t : Nat} (h : t ≠ 12) (e : τ.2.2.1 t = σ.2.2.1 t) : gM τ t = gM σ t := by
  funext k
  unfold gM
  have e0 : Nat.beq t 12 = false := by
    cases q : Nat.beq t 12 with
    | false => rfl
    | true => exact absurd (Nat.eq_of_beq_eq_true q) h
  rw [e0, e]
  rfl
theorem m_text (N : Nat) (hN : 200 ≤ N) {g : Nat → Nat → Int32} {T : Nat} {c : Nat → Nat} {L : Nat} (hL : L ≤ 160) {S0 K V E : Nat → Nat} (ht : Tks N c L S0 K V E) (σ : Mem) (hg : gM σ = g) (eT : g 12 27 = nI T) (hT : T < 6) (eL : g 12 24 = nI L) (ec : ∀ k, k < 160 → g 86 k = nI (c k)) (hd : Wd σ) (res : Bool × Nat × List (List Nat)) (tx : Txt L K V E 3 0 res) :
    ∃ τ, F_X12_text N σ = some (if res.1 = true then nI T else Int32.ofInt (-100) - nI (S0 res.2.1), τ) ∧ KR σ τ ∧ (∀ k, k ≠ 24 → k ≠ 27 → gM τ 12 k = g 12 k) ∧ (∀ t, t ≠ 12 → t ≠ 87 → t ≠ 88 → gM τ t = g t) ∧ (∀ k, k < 200 * T → gM τ 87 k = g 87 k) ∧ (∀ k, k < 4 * T → gM τ 88 k = g 88 k) ∧ gM τ 12 24 = nI 0 ∧ gM τ 12 27 = nI (if res.1 = true then T + 1 else T) ∧ (res.1 = true → DF (gM τ 87) (gM τ 88) T 0 0 res.2.2) := by
  have ms : MS c L T 0 0 (hwU2 (hwU2 σ.1 12 42 0) 12 50 0, σ.2.1, σ.2.2.1, σ.2.2.2.1, σ.2.2.2.2) := by
    refine ⟨⟨⟨?_, fun k hk => ?_⟩, hd⟩, ⟨?_, hT⟩, ?_, ?_⟩
    · simp (disch := decide) only [u2_k]; rw [rF hg (by decide)]; exact eL
    · rw [← ec k (by omega)]; exact rA hg (by decide) (by decide) k
    · simp (disch := decide) only [u2_k]; rw [rF hg (by decide)]; exact eT
    · simp (disch := decide) only [hwU2_eq]; rfl
    · simp (disch := decide) only [u2_k, hwU2_eq]; rfl
  obtain ⟨τ, f, k, g24, g27, df⟩ := m_txt N hN hL ht T 3 N 0 0 0 _ res rfl (by omega) tx ms (Nat.zero_le _) (Nat.le_refl _)
  have a : ∀ t, 72 ≤ t → t ≤ 97 → gM τ t = τ.2.2.1 t 0 := fun t h1 h2 => by funext j; exact gM_a τ h1 h2 j
  refine ⟨τ, ?_, ⟨fun t h => (k.1 t h).trans ((u2_t h).trans (u2_t h)), fun t h => k.2.2.2.1 t (by omega) (by omega) (by omega), k.2.2.2.2.2.2⟩, fun j h1 h2 => ?_, fun t h1 h2 h3 => ?_, fun j hj => ?_, fun j hj => ?_, ?_, ?_, fun q => ?_⟩
  · unfold F_X12_text
    rw [rF hg (by decide), eT, if_neg (neL 6 6 rfl ⟨by omega, by omega, by decide⟩)]
    exact f
  · by_cases hj : j ≤ 40
    · rw [gM_f τ hj, k.2.1 j hj h1 h2, ← rF hg hj]
      show hwU2 (hwU2 σ.1 12 42 0) 12 50 0 12 j = _
      rw [u2_k (by omega), u2_k (by omega)]
    · rw [gM_hi τ (by omega), ← hg, gM_hi σ (by omega)]
  · by_cases h9 : t = 99
    · subst h9
      rw [← hg]
      rfl
    · rw [← hg]
      exact gM_t h1 (k.2.2.2.1 t h2 h3 h9)
  · rw [a 87 (by decide) (by decide), k.2.2.2.2.1 j (by omega)]
    exact rA hg (by decide) (by decide) j
  · rw [a 88 (by decide) (by decide), k.2.2.2.2.2.1 j (by omega)]
    exact rA hg (by decide) (by decide) j
  · rw [gM_f τ (by decide)]; exact g24
  · rw [gM_f τ (by decide)]; exact g27
  · rw [a 87 (by decide) (by decide), a 88 (by decide) (by decide)]
    exact df q
theorem three {α : Type} {l : List α} (h : l.length = 3) : ∃ a b c, l = [a, b, c] := by
  cases l with
  | nil => cases h
  | cons a l =>
    cases l with
    | nil => cases h
    | cons b l =>
      cases l with
      | nil => cases h
      | cons c l =>
        cases l with
        | nil => exact ⟨a, b, c, rfl⟩
        | cons d l => simp at h
theorem c_text (N : Nat) (hN : 200 ≤ N) (σ : Mem) (h : Ag σ) (hd : Wd σ) : Ac (F_X11_text N) (F_X12_text N) σ := by
  obtain ⟨hx, hw⟩ := h
  obtain ⟨g, hg⟩ : ∃ g, gM σ = g := ⟨_, rfl⟩
  rw [hg] at hx hw
  obtain ⟨T, eT⟩ : ∃ T, (g 12 27).toNatClampNeg = T := ⟨_, rfl⟩
  obtain ⟨L, eL⟩ : ∃ L, (g 12 24).toNatClampNeg = L := ⟨_, rfl⟩
  have tx := hw.tx
  have td := hw.td
  unfold isN at tx td
  rw [eT] at tx
  rw [eL] at td
  obtain ⟨tx, hT⟩ := tx
  obtain ⟨td, hL⟩ := td
  by_cases T6 : T = 6
  · subst T6
    refine Ac.st ⟨by rw [hg]; exact hx, by rw [hg]; exact hw⟩ (r := Int32.ofInt (-4)) ?_ ?_
    · unfold F_X11_text F_X4_readTape
      rw [hx.1.tx, tx, if_neg (show ¬ nI 6 < (6 : Int32) by decide), Option.bind_some]
    · unfold F_X12_text
      rw [rF hg (by decide), tx, if_pos (show nI 6 = (6 : Int32) from rfl)]
  have T5 : T < 6 := by omega
  obtain ⟨c, ec⟩ : ∃ c : Nat → Nat, ∀ k, c k = if k < 160 then (g 86 k).toNatClampNeg else 0 := ⟨_, fun _ => rfl⟩
  have hc : ∀ k, c k ≤ 255 := fun k => by
    rw [ec]
    by_cases q : k < 160
    · rw [if_pos q]; exact (hw.tp k q).2
    · rw [if_neg q]; exact Nat.zero_le _
  have e86 : ∀ k, k < 160 → g 86 k = nI (c k) := fun k hk => by rw [ec, if_pos hk]; exact (hw.tp k hk).1
  obtain ⟨S0, K, V, E, ht⟩ := toks N hN c hc L hL
  obtain ⟨⟨t1, t2, t3, t4, t5, t6, t7, t8⟩, tkx, -⟩ := ht 0 (Nat.zero_le _)
  have ct0 : CTp c L (hwU2 (hwU2 σ.1 3 5 0) 3 4 0, σ.2.1, σ.2.2.1, σ.2.2.2.1, σ.2.2.2.2) := ⟨by
    simp (disch := decide) only [u2_k]
    rw [hx.1.td, td], fun k hk => (hx.1.tp k (by omega)).trans (e86 k (by omega))⟩
  obtain ⟨τ0, f0, k0, a5, a6, a7, a8⟩ := tkx _ ct0 (by simp (disch := decide) only [u2_k, hwU2_eq]; rfl)
  have cs0 : CS c L (0 + 0) S0 K V E 0 [] τ0 := ⟨ct0.kt k0, ⟨a5, a6, a7, a8⟩, (k0.2.2 4 (by decide)).trans (by simp (disch := decide) only [hwU2_eq]; rfl), fun k hk => absurd hk (Nat.not_lt_zero _)⟩
  obtain ⟨τ1, res, f1, txt, k1, e6, cf⟩ := x_txt N (by omega) hL ht 3 N 0 0 0 τ0 rfl (by omega) cs0 (Nat.zero_le _) (Nat.le_refl _)
  have A1 : ∀ a, a ≠ 3 → τ1.1 a = σ.1 a := fun a ha => (k1.1 a ha).trans ((k0.2.1 a ha).trans ((u2_t ha).trans (u2_t ha)))
  have A3 : ∀ a, a ≠ 63 → a ≠ 64 → τ1.2.2.1 a = σ.2.2.1 a := fun a h1 h2 => by rw [k1.2.2.2.1 a h1 h2, k0.1]
  have A4 : τ1.2.2.2 = σ.2.2.2 := by rw [k1.2.2.2.2.2.2, k0.1]
  have fr : F_X8_readsText N σ = some (bI res.1, τ1) := by
    unfold F_X8_readsText
    rw [f0, Option.bind_some]
    exact f1
  by_cases cr : res.1 = true
  · rw [cr] at fr
    obtain ⟨len, oks, tot⟩ := Txt.ok ht 3 0 res (Nat.zero_le _) txt cr
    obtain ⟨o0, o1, o2, eo⟩ := three len
    have cf := cf cr
    rw [eo] at cf oks tot
    have tot : o0.length + (o1.length + (o2.length + 0)) + 3 + 0 ≤ L := tot
    obtain ⟨τc, etc⟩ : ∃ τc : Mem, τc = (hwU2 (hwU2 τ1.1 3 3 0) 2 9 (nI (T + 1)), τ1.2.1, hwR3 (hwR3 τ1.2.2.1 39 T (va_cpy (τ1.2.2.1 63 0) (τ1.2.2.1 39 T) 0 0 160)) 41 T (va_cpy ((hwR3 τ1.2.2.1 39 T (va_cpy (τ1.2.2.1 63 0) (τ1.2.2.1 39 T) 0 0 160)) 64 0) ((hwR3 τ1.2.2.1 39 T (va_cpy (τ1.2.2.1 63 0) (τ1.2.2.1 39 T) 0 0 160)) 41 T) 0 0 3), τ1.2.2.2.1, τ1.2.2.2.2) := ⟨_, rfl⟩
    have e1 : F_X11_text N σ = some (nI T, τc) := by
      unfold F_X11_text F_X4_readTape
      rw [hx.1.tx, tx, if_pos (ltL_b 6 6 rfl T5 (by decide)), fr, Option.bind_some, show bI true = 1 from rfl, k10, if_neg (out_nI T5 (by decide)), if_neg (out_nI T5 (by decide)), nI_clamp (by omega), nI_1, Option.bind_some, etc]
    have B1 : ∀ a, a ≠ 2 → a ≠ 3 → τc.1 a = σ.1 a := fun a h1 h2 => by
      rw [etc]
      show hwU2 (hwU2 τ1.1 3 3 0) 2 9 (nI (T + 1)) a = _
      rw [u2_t h1, u2_t h2, A1 a h2]
    have B3 : ∀ a, a ≠ 63 → a ≠ 64 → a ≠ 39 → a ≠ 41 → τc.2.2.1 a = σ.2.2.1 a := fun a h1 h2 h3 h4 => by
      rw [etc]
      dsimp only
      rw [hwR3_t h4, hwR3_t h3, A3 a h1 h2]
    have B39 : ∀ t, t ≠ T → τc.2.2.1 39 t = σ.2.2.1 39 t := fun t h1 => by
      rw [etc]
      dsimp only
      rw [hwR3_t (by decide), hwR3_r h1, A3 39 (by decide) (by decide)]
    have B41 : ∀ t, t ≠ T → τc.2.2.1 41 t = σ.2.2.1 41 t := fun t h1 => by
      rw [etc]
      dsimp only
      rw [hwR3_r h1, hwR3_t (by decide), A3 41 (by decide) (by decide)]
    have C39 : ∀ k, k < 160 → τc.2.2.1 39 T k = τ1.2.2.1 63 0 k := fun k hk => by
      rw [etc]
      dsimp only
      rw [hwR3_t (by decide), hwR3_get, if_pos ⟨rfl, rfl⟩, va_j hk]
    have C41 : ∀ k, k < 3 → τc.2.2.1 41 T k = τ1.2.2.1 64 0 k := fun k hk => by
      rw [etc]
      dsimp only
      rw [hwR3_get, if_pos ⟨rfl, rfl⟩, va_j hk, hwR3_t (by decide)]
    have B4 : τc.2.2.2 = σ.2.2.2 := by rw [etc, ← A4]
    have kc : KC σ τc := ⟨B1 12 (by decide) (by decide), fun t h1 h2 => B3 t (by omega) (by omega) (by omega) (by omega), B4⟩
    have hgc : gM τc = g := kc.g.trans hg
    have hdc : Wd τc := by unfold Wd; rw [B4]; exact hd
    obtain ⟨τ2, e2, kr, c12, ct, c87, c88, g24, g27, df⟩ := m_text N hN hL ht τc hgc tx T5 td e86 hdc res txt
    rw [if_pos cr] at e2 g27
    have df := df cr
    rw [eo] at df
    obtain ⟨d1, d2, d3, d4, d5, d6, d7⟩ := df
    obtain ⟨x1, x2, x3, x4, x5, x6, x7, x8, x9, -⟩ := cf
    have d7 : gM τ2 88 (4 * T + 3) = nI (0 + o0.length + o1.length + o2.length) := d7
    have s0 : sSt (gM τ2) T 0 = 0 := by unfold sSt; rw [d1]; exact nI_clamp (by omega)
    have s1 : sSt (gM τ2) T 1 = o0.length := by unfold sSt; rw [d3, Nat.zero_add]; exact nI_clamp (by omega)
    have s2 : sSt (gM τ2) T 2 = o0.length + o1.length := by unfold sSt; rw [d5, Nat.zero_add]; exact nI_clamp (by omega)
    have s3 : sSt (gM τ2) T 3 = o0.length + o1.length + o2.length := by unfold sSt; rw [d7, Nat.zero_add]; exact nI_clamp (by omega)
    have t27 : (gM τ2 12 27).toNatClampNeg = T + 1 := by rw [g27]; exact nI_clamp (by omega)
    have hx' : HX τc (gM τ2) := by
      refine ⟨HX0.nt hx.1 B1 ?_ ?_ g24 ?_ B3 c12 ct ?_, HC.nt hx.2 hw tx hT B3 c12 ct c87 c88⟩
      · rw [etc]
        show hwU2 (hwU2 τ1.1 3 3 0) 2 9 (nI (T + 1)) 2 10 = _
        rw [u2_k (by decide), u2_t (by decide), A1 2 (by decide)]
      · rw [etc, g24]
        show hwU2 (hwU2 τ1.1 3 3 0) 2 9 (nI (T + 1)) 3 3 = _
        rw [u2_t (by decide), hwU2_eq]
        rfl
      · rw [etc, g27]
        show hwU2 (hwU2 τ1.1 3 3 0) 2 9 (nI (T + 1)) 2 9 = _
        rw [hwU2_eq]
      · intro t q h1 h2
        rw [t27] at h1
        by_cases e : t = T
        · subst e
          have q3 : q = 0 ∨ q = 1 ∨ q = 2 := by omega
          rcases q3 with e | e | e
          · subst e
            rw [s0, show (0 : Nat) + 1 = 1 from rfl, s1]
            refine ⟨by rw [C41 0 (by decide), x1], fun i hi => ?_, ?_⟩
            · rw [C39 _ (by omega), d2 i (by omega)]
              exact x2 i (by omega)
            · rw [C39 _ (by omega)]
              rw [Nat.zero_add] at x3
              exact x3
          · subst e
            rw [s1, show (1 : Nat) + 1 = 2 from rfl, s2]
            rw [Nat.zero_add] at x4 x5 x6 d4
            refine ⟨by rw [C41 1 (by decide), x4, Nat.zero_add], fun i hi => ?_, ?_⟩
            · rw [C39 _ (by omega), d4 i (by omega)]
              exact x5 i (by omega)
            · rw [C39 _ (by omega)]
              exact x6
          · subst e
            rw [s2, show (2 : Nat) + 1 = 3 from rfl, s3]
            rw [Nat.zero_add] at x7 x8 x9 d6
            refine ⟨by rw [C41 2 (by decide), x7, Nat.zero_add], fun i hi => ?_, ?_⟩
            · rw [C39 _ (by omega), d6 i (by omega)]
              exact x8 i (by omega)
            · rw [C39 _ (by omega)]
              exact x9
        · obtain ⟨z1, z2⟩ := cs_old hw tx hT c87 c88 (t := t) (by omega)
          obtain ⟨y1, y2, y3⟩ := hx.1.cs t q (by omega) h2
          rw [z1 q (by omega), z1 (q + 1) (by omega), B39 t e, B41 t e]
          refine ⟨y1, fun i hi => ?_, y3⟩
          rw [y2 i hi, c87 _ ?_]
          obtain ⟨w1, w2, w3, w4⟩ := hw.2.2.2.2.2.2.2.2.2.2.2.2.2.2.2.2.2.2.2.2.2.2.2.2.2.2.2.2.2.2.2.2.2.2.2.2.2.2.2.2.2.2 t (by omega)
          have b1 : sSt g t 0 ≤ sSt g t 1 := w2 0 (by decide)
          have b2 : sSt g t 1 ≤ sSt g t 2 := w2 1 (by decide)
          have b3 : sSt g t 2 ≤ sSt g t 3 := w2 2 (by decide)
          have b4 : sSt g t (q + 1) ≤ 157 := by
            have : q = 0 ∨ q = 1 ∨ q = 2 := by omega
            rcases this with e | e | e
            · subst e; show sSt g t 1 ≤ 157; omega
            · subst e; show sSt g t 2 ≤ 157; omega
            · subst e; exact w3
          omega
    have hw' : Wf (gM τ2) := by
      refine Wf.nt hw c12 ct ?_ ?_ (by omega) ?_
      · rw [g24]; exact ⟨rfl, by decide⟩
      · rw [g27]
        unfold isN
        rw [nI_clamp (by omega)]
        exact ⟨rfl, by omega⟩
      · intro t h1
        rw [t27] at h1
        by_cases e : t = T
        · subst e
          refine ⟨fun q hq => ?_, fun q hq => ?_, by rw [s3]; omega, fun q hq => ?_⟩
          · have q4 : q = 0 ∨ q = 1 ∨ q = 2 ∨ q = 3 := by omega
            rcases q4 with e | e | e | e
            · subst e; rw [s0]; exact d1
            · subst e; rw [s1, d3, Nat.zero_add]
            · subst e; rw [s2, d5, Nat.zero_add]
            · subst e; rw [s3, d7, Nat.zero_add]
          · have q3 : q = 0 ∨ q = 1 ∨ q = 2 := by omega
            rcases q3 with e | e | e
            · subst e; rw [s0]; exact Nat.zero_le _
            · subst e; rw [s1, show (1 : Nat) + 1 = 2 from rfl, s2]; omega
            · subst e; rw [s2, show (2 : Nat) + 1 = 3 from rfl, s3]; omega
          · rw [Nat.zero_add] at d4 d6
            have q3 : q = 0 ∨ q = 1 ∨ q = 2 := by omega
            rcases q3 with e | e | e
            · subst e
              unfold sCs
              rw [s0, show (0 : Nat) + 1 = 1 from rfl, s1, Nat.sub_zero, map_rng o0 _ d2]
              exact oks.1
            · subst e
              unfold sCs
              rw [s1, show (1 : Nat) + 1 = 2 from rfl, s2, Nat.add_sub_cancel_left, map_rng o1 _ d4]
              exact oks.2.1
            · subst e
              unfold sCs
              rw [s2, show (2 : Nat) + 1 = 3 from rfl, s3, Nat.add_sub_cancel_left, map_rng o2 _ d6]
              exact oks.2.2.1
        · obtain ⟨z1, z2⟩ := cs_old hw tx hT c87 c88 (t := t) (by omega)
          obtain ⟨w1, w2, w3, w4⟩ := hw.2.2.2.2.2.2.2.2.2.2.2.2.2.2.2.2.2.2.2.2.2.2.2.2.2.2.2.2.2.2.2.2.2.2.2.2.2.2.2.2.2.2 t (by omega)
          refine ⟨fun q hq => ?_, fun q hq => ?_, ?_, fun q hq => ?_⟩
          · rw [z1 q hq, c88 _ (by omega)]; exact w1 q hq
          · rw [z1 q (by omega), z1 (q + 1) (by omega)]; exact w2 q hq
          · rw [z1 3 (by decide)]; exact w3
          · rw [z2 q hq]; exact w4 q hq
    exact Ac.up e1 kc hx' e2 kr rfl hw'
  · have crf : res.1 = false := by
      cases q : res.1 with
      | false => rfl
      | true => exact absurd q cr
    rw [crf] at fr
    have e1 : F_X11_text N σ = some (Int32.ofInt (-100) - nI (S0 res.2.1), (hwU2 τ1.1 3 3 0, τ1.2.1, τ1.2.2.1, τ1.2.2.2.1, τ1.2.2.2.2)) := by
      unfold F_X11_text F_X4_readTape
      rw [hx.1.tx, tx, if_pos (ltL_b 6 6 rfl T5 (by decide)), fr, Option.bind_some, show bI false = 0 from rfl, k00, e6, Option.bind_some]
    have kc : KC σ (hwU2 τ1.1 3 3 0, τ1.2.1, τ1.2.2.1, τ1.2.2.2.1, τ1.2.2.2.2) := ⟨by
      show hwU2 τ1.1 3 3 0 12 = _
      rw [u2_t (by decide)]
      exact A1 12 (by decide), fun t h1 h2 => A3 t (by omega) (by omega), A4⟩
    have hgc := kc.g.trans hg
    have hdc : Wd (hwU2 τ1.1 3 3 0, τ1.2.1, τ1.2.2.1, τ1.2.2.2.1, τ1.2.2.2.2) := by
      show ∀ r, r < 12 → τ1.2.2.2.1 98 0 r = _
      rw [A4]
      exact hd
    obtain ⟨τ2, e2, kr, c12, ct, c87, c88, g24, g27, -⟩ := m_text N hN hL ht _ hgc tx T5 td e86 hdc res txt
    rw [if_neg cr] at e2 g27
    have B1 : ∀ a, a ≠ 2 → a ≠ 3 → hwU2 τ1.1 3 3 0 a = σ.1 a := fun a h1 h2 => (u2_t h2).trans (A1 a h2)
    have t27 : (gM τ2 12 27).toNatClampNeg = T := by rw [g27]; exact nI_clamp (by omega)
    have hx' : HX (hwU2 τ1.1 3 3 0, τ1.2.1, τ1.2.2.1, τ1.2.2.2.1, τ1.2.2.2.2) (gM τ2) := by
      refine ⟨HX0.nt hx.1 B1 ?_ ?_ g24 ?_ (fun a h1 h2 _ _ => A3 a h1 h2) c12 ct ?_, HC.nt hx.2 hw tx hT (fun a h1 h2 _ _ => A3 a h1 h2) c12 ct c87 c88⟩
      · show hwU2 τ1.1 3 3 0 2 10 = _
        rw [u2_t (by decide), A1 2 (by decide)]
      · rw [g24]
        show hwU2 τ1.1 3 3 0 3 3 = _
        rw [hwU2_eq]
        rfl
      · rw [g27]
        show hwU2 τ1.1 3 3 0 2 9 = _
        rw [u2_t (by decide), A1 2 (by decide), hx.1.tx, tx]
      · intro t q h1 h2
        rw [t27] at h1
        obtain ⟨z1, z2⟩ := cs_old hw tx hT c87 c88 h1
        obtain ⟨y1, y2, y3⟩ := hx.1.cs t q (by omega) h2
        dsimp only
        rw [z1 q (by omega), z1 (q + 1) (by omega), A3 39 (by decide) (by decide), A3 41 (by decide) (by decide)]
        refine ⟨y1, fun i hi => ?_, y3⟩
        rw [y2 i hi, c87 _ ?_]
        obtain ⟨w1, w2, w3, w4⟩ := hw.2.2.2.2.2.2.2.2.2.2.2.2.2.2.2.2.2.2.2.2.2.2.2.2.2.2.2.2.2.2.2.2.2.2.2.2.2.2.2.2.2.2 t (by omega)
        have b1 : sSt g t 0 ≤ sSt g t 1 := w2 0 (by decide)
        have b2 : sSt g t 1 ≤ sSt g t 2 := w2 1 (by decide)
        have b3 : sSt g t 2 ≤ sSt g t 3 := w2 2 (by decide)
        have b4 : sSt g t (q + 1) ≤ 157 := by
          have : q = 0 ∨ q = 1 ∨ q = 2 := by omega
          rcases this with e | e | e
          · subst e; show sSt g t 1 ≤ 157; omega
          · subst e; show sSt g t 2 ≤ 157; omega
          · subst e; exact w3
        omega
    have hw' : Wf (gM τ2) := by
      refine Wf.nt hw c12 ct ?_ ?_ (by omega) ?_
      · rw [g24]; exact ⟨rfl, by decide⟩
      · rw [g27]
        unfold isN
        rw [nI_clamp (by omega)]
        exact ⟨rfl, hT⟩
      · intro t h1
        rw [t27] at h1
        obtain ⟨z1, z2⟩ := cs_old hw tx hT c87 c88 h1
        obtain ⟨w1, w2, w3, w4⟩ := hw.2.2.2.2.2.2.2.2.2.2.2.2.2.2.2.2.2.2.2.2.2.2.2.2.2.2.2.2.2.2.2.2.2.2.2.2.2.2.2.2.2.2 t (by omega)
        refine ⟨fun q hq => ?_, fun q hq => ?_, ?_, fun q hq => ?_⟩
        · rw [z1 q hq, c88 _ (by omega)]; exact w1 q hq
        · rw [z1 q (by omega), z1 (q + 1) (by omega)]; exact w2 q hq
        · rw [z1 3 (by decide)]; exact w3
        · rw [z2 q hq]; exact w4 q hq
    exact Ac.up e1 kc hx' e2 kr rfl hw'

/-! THE PURE SIDE, 6: the class: pass, what is wet, going on -/
theorem x_sink25 (N : Nat) (hN : 6 < N) {g : Nat → Nat → Int32} (hw : Wf g) (y : Nat) (d : Nat → Int64) : ∀ (r n i : Nat) (σ : Mem), i + r = sL g → r < n → HX σ g → (∀ j, j < sL g → σ.2.2.2.1 51 0 j = d j) → (∀ j, j < sL g → σ.2.2.2.1 50 y j = hzS (fun a => sSk g d a j) i) →
    ∃ τ, F_X6_sink_t50_b25 N n y (nI i) σ = some ((), τ) ∧ KT y σ τ ∧ ∀ j, j < sL g → τ.2.2.2.1 50 y j = sSink g d j := by
  intro r
  have hL := sL_le hw
  induction r with
  | zero =>
    intro n i σ hk hn h hd h1
    cases n with
    | zero => cases hn
    | succ n =>
      refine ⟨σ, ?_, KT.rfl_ y σ, fun j hj => ?_⟩
      · unfold F_X6_sink_t50_b25
        rw [h.L hw, if_pos (nI_le (by omega) (by omega))]
      · rw [h1 j hj, show i = sL g by omega]; rfl
  | succ r ih =>
    intro n i σ hk hn h hd h1
    cases n with
    | zero => cases hn
    | succ n =>
      obtain ⟨s, hs, es, -⟩ := sAllB_nI hw (show i < 5 by omega)
      by_cases hs0 : 0 < s
      · obtain ⟨τ1, e1, k1, r1⟩ := x_sink68 N hw y i (by omega) (F_X6_sink_t50_b25 N n) d (fun j => hzS (fun a => sSk g d a j) i) s hs hs0 (sL g) N 0 σ (by omega) (by omega) h (hd i (by omega)) (fun j hj => by rw [if_neg (by omega)]; exact h1 j hj)
        obtain ⟨τ, e2, k2, r2⟩ := ih n (i + 1) τ1 (by omega) (by omega) (h.kx k1.x) (fun j hj => by rw [k1.2.2.2.1 51 (by decide)]; exact hd j hj) (fun j hj => by
          rw [r1 j hj, hzS]
          congr 1
          unfold sSk
          rw [es, if_neg (nI_ne0 hs0 (by omega))])
        refine ⟨τ, ?_, k1.trans k2, r2⟩
        rw [← e2, ← e1, F_X6_sink_t50_b25.eq_2, h.L hw, if_neg (nI_ge (by omega) (by omega)), if_neg (out_nI (by omega) (by decide))]
        simp only [nI_clamp (show i < 2 ^ 31 by omega)]
        rw [h.al hw (by omega), es, if_pos (ltL_a 0 0 rfl hs0 (by omega))]
        rfl
      · have hs1 : s = 0 := by omega
        subst hs1
        have kd : KT y σ (σ.1, σ.2.1, σ.2.2.1, hwU3 σ.2.2.2.1 50 y i (hzS (fun a => sSk g d a i) i + d i), σ.2.2.2.2) := KT.w
        obtain ⟨τ, e2, k2, r2⟩ := ih n (i + 1) _ (by omega) (by omega) (h.kx kd.x) (fun j hj => by
          show hwU3 σ.2.2.2.1 50 y i (hzS (fun a => sSk g d a i) i + d i) 51 0 j = _
          rw [hwU3_t (by decide)]; exact hd j hj) (fun j hj => by
          show hwU3 σ.2.2.2.1 50 y i _ 50 y j = _
          by_cases e : j = i
          · subst e
            rw [hwU3_eq, hzS]
            congr 1
            unfold sSk
            rw [es, if_pos (show nI 0 = 0 from rfl), if_pos rfl]
          · rw [hwU3_k e, h1 j hj, hzS, show sSk g d i j = 0 by unfold sSk; rw [es, if_pos (show nI 0 = 0 from rfl), if_neg (fun z => e z.symm)], Int64.add_zero])
        refine ⟨τ, ?_, kd.trans k2, r2⟩
        rw [← e2, F_X6_sink_t50_b25.eq_2, h.L hw, if_neg (nI_ge (by omega) (by omega)), if_neg (out_nI (by omega) (by decide))]
        simp only [nI_clamp (show i < 2 ^ 31 by omega)]
        rw [h.al hw (by omega), es, if_neg (show ¬ (0 : Int32) < nI 0 by decide), if_neg (out_nI (by omega) (by decide)), if_neg (out_nI (by omega) (by decide)), if_neg (out_nI (by omega) (by decide)), h1 i (by omega), hd i (by omega), nI_1]
theorem x_sink (N : Nat) (hN : 6 < N) {g : Nat → Nat → Int32} (hw : Wf g) (y : Nat) (d : Nat → Int64) (σ : Mem) (h : HX σ g) (hd : ∀ j, j < sL g → σ.2.2.2.1 51 0 j = d j) : ∃ τ, F_X6_sink_t50 N y σ = some ((), τ) ∧ KT y σ τ ∧ ∀ j, j < sL g → τ.2.2.2.1 50 y j = sSink g d j := by
  have hL := sL_le hw
  obtain ⟨τ1, e1, k1, r1⟩ := x_sink2 N hw y (sL g) N 0 σ (by omega) (by omega) h (fun j hj => by omega)
  obtain ⟨τ, e2, k2, r2⟩ := x_sink25 N hN hw y d (sL g) N 0 τ1 (by omega) (by omega) (h.kx k1.x) (fun j hj => by rw [k1.2.2.2.1 51 (by decide)]; exact hd j hj) r1
  exact ⟨τ, by unfold F_X6_sink_t50; exact e1.trans e2, k1.trans k2, r2⟩
theorem sSink_congr {g : Nat → Nat → Int32} {d d' : Nat → Int64} (h : ∀ j, j < sL g → d j = d' j) (j : Nat) : sSink g d j = sSink g d' j := by
  unfold sSink
  refine hzS_congr _ (fun i hi => ?_)
  unfold sSk
  rw [h i hi]
/-- rows above y and the dry row alone -/
def KP (y : Nat) (σ τ : Mem) : Prop := τ.1 = σ.1 ∧ τ.2.1 = σ.2.1 ∧ τ.2.2.1 = σ.2.2.1 ∧ (∀ t, t ≠ 50 → t ≠ 51 → τ.2.2.2.1 t = σ.2.2.2.1 t) ∧ (∀ r, r ≤ y → τ.2.2.2.1 50 r = σ.2.2.2.1 50 r) ∧ τ.2.2.2.2 = σ.2.2.2.2
theorem KP.rfl_ (y : Nat) (σ : Mem) : KP y σ σ := ⟨rfl, rfl, rfl, fun _ _ _ => rfl, fun _ _ => rfl, rfl⟩
theorem KP.trans {y : Nat} {σ τ υ : Mem} (h : KP y σ τ) (k : KP y τ υ) : KP y σ υ := ⟨k.1.trans h.1, k.2.1.trans h.2.1, k.2.2.1.trans h.2.2.1, fun t a b => (k.2.2.2.1 t a b).trans (h.2.2.2.1 t a b), fun t a => (k.2.2.2.2.1 t a).trans (h.2.2.2.2.1 t a), k.2.2.2.2.2.trans h.2.2.2.2.2⟩
theorem KP.x {y : Nat} {σ τ : Mem} (h : KP y σ τ) : KX σ τ := ⟨h.1, h.2.1, h.2.2.1, fun t ht => h.2.2.2.1 t (by omega) (by omega), h.2.2.2.2.2⟩
theorem KP.mono {y z : Nat} {σ τ : Mem} (h : KP y σ τ) (hz : z ≤ y) : KP z σ τ := ⟨h.1, h.2.1, h.2.2.1, h.2.2.2.1, fun r hr => h.2.2.2.2.1 r (Nat.le_trans hr hz), h.2.2.2.2.2⟩
theorem KP.row {y : Nat} {σ τ : Mem} (h : KP y σ τ) {th : Nat → Int64} {n : Nat} (hr : ∀ j, j < n → σ.2.2.2.1 50 y j = th j) : ∀ j, j < n → τ.2.2.2.1 50 y j = th j := fun j hj => by rw [h.2.2.2.2.1 y (Nat.le_refl y)]; exact hr j hj
theorem KD.p {y : Nat} {σ τ : Mem} (h : KD σ τ) : KP y σ τ := ⟨h.1, h.2.1, h.2.2.1, fun t _ b => h.2.2.2.1 t b, fun r _ => by rw [h.2.2.2.1 50 (by decide)], h.2.2.2.2⟩
theorem KT.p {y z : Nat} {σ τ : Mem} (h : KT z σ τ) (hz : y < z) : KP y σ τ := ⟨h.1, h.2.1, h.2.2.1, fun t a _ => h.2.2.2.1 t a, fun r hr => h.2.2.2.2.1 r (by omega), h.2.2.2.2.2⟩
theorem x_pass (N : Nat) (hN : 6 < N) {g : Nat → Nat → Int32} (hw : Wf g) (y : Nat) (h1y : 1 ≤ y) (hy5 : y ≤ 5) (s : Int32) (th : Nat → Int64) (σ : Mem) (h : HX σ g) (h1 : ∀ j, j < sL g → σ.2.2.2.1 50 y j = th j) :
    ∃ τ, F_X6_pass N (nI y) s σ = some (if 0 < sMuch g y s th then sMuch g y s th else 0, τ) ∧ KP y σ τ ∧ (0 < sMuch g y s th → ∀ j, j < sL g → τ.2.2.2.1 50 (y + 1) j = sNext g y s th j) := by
  obtain ⟨τ1, e1, k1, r1⟩ := x_dryWith N hN hw y y h1y hy5 s th σ h h1
  have e0 : F_X6_pass N (nI y) s σ = (F_X6_dryWith_t50 N y (nI y) s σ).bind (fun q1 =>
      if (lg_cmp q1.1 (0 : Int64)) ≤ 0 then
        some (q1.1, q1.2)
      else
        if hwOut (nI (y + 1)) 7 then none else
        (F_X6_sink_t50 N ((nI (y + 1))).toNatClampNeg q1.2).bind (fun q2 =>
        some (q1.1, q2.2))) := by
    unfold F_X6_pass
    rw [if_neg (nltL_b 1 1 rfl h1y (by omega)), if_pos (leL_b 5 5 rfl hy5 (by decide)), if_neg (out_nI (by omega) (by decide)), nI_clamp (by omega), nI_1]
  by_cases hm : 0 < sMuch g y s th
  · obtain ⟨τ, e2, k2, r2⟩ := x_sink N hN hw (y + 1) (sMade g y s th) τ1 (h.kx k1.x) (r1 hm)
    refine ⟨τ, ?_, k1.p.trans (k2.p (Nat.lt_succ_self y)), fun _ => r2⟩
    rw [e0, e1, if_pos hm]
    show (if lg_cmp (sMuch g y s th) 0 ≤ 0 then _ else if hwOut (nI (y + 1)) 7 then none else (F_X6_sink_t50 N (nI (y + 1)).toNatClampNeg τ1).bind _) = _
    rw [if_neg (fun q => lg_npos.mp q hm), if_neg (out_nI (by omega) (by decide)), nI_clamp (by omega), e2]
    rfl
  · refine ⟨τ1, ?_, k1.p, fun q => absurd q hm⟩
    rw [e0, e1, if_neg hm]
    rfl
theorem x_wetOf (N : Nat) {g : Nat → Nat → Int32} (hw : Wf g) (y j : Nat) (h1y : 1 ≤ y) (hy5 : y ≤ 5) (hj : j < sL g) (th : Nat → Int64) (σ : Mem) (h : HX σ g) (h1 : ∀ j, j < sL g → σ.2.2.2.1 50 y j = th j) :
    F_X6_wetOf N (nI y) (nI j) σ = some (sWet g y th j, σ) := by
  have hL := sL_le hw
  unfold F_X6_wetOf
  rw [if_neg (nltL_b 1 1 rfl h1y (by omega)), if_pos (leL_b 5 5 rfl hy5 (by decide)), if_neg (out_nI (by omega) (by decide)), if_neg (out_nI (by omega) (by decide)), if_neg (out_nI (by omega) (by decide)), if_neg (out_nI (by omega) (by decide)), nI_clamp (by omega), nI_clamp (by omega), h1 j hj, h.2.wt y j h1y hy5 hj]
  rfl
theorem x_wet5 (N : Nat) {g : Nat → Nat → Int32} (hw : Wf g) (y : Nat) (h1y : 1 ≤ y) (hy5 : y ≤ 5) (th : Nat → Int64) (σ : Mem) (h : HX σ g) (h1 : ∀ j, j < sL g → σ.2.2.2.1 50 y j = th j) : ∀ (r n k : Nat), k + r = sL g → r < n →
    F_X6_wet_b5 N n (nI y) (hzS (sWet g y th) k) (nI k) σ = some (hzS (sWet g y th) (sL g), σ) := by
  intro r
  have hL := sL_le hw
  induction r with
  | zero =>
    intro n k hk hn
    cases n with
    | zero => cases hn
    | succ n =>
      unfold F_X6_wet_b5
      rw [h.L hw, if_pos (nI_le (by omega) (by omega)), show k = sL g by omega]
  | succ r ih =>
    intro n k hk hn
    cases n with
    | zero => cases hn
    | succ n =>
      unfold F_X6_wet_b5
      rw [h.L hw, if_neg (nI_ge (by omega) (by omega)), x_wetOf N hw y k h1y hy5 (by omega) th σ h h1]
      show F_X6_wet_b5 N n (nI y) (hzS (sWet g y th) k + sWet g y th k) (nI k + 1) σ = _
      rw [nI_1]
      exact ih n (k + 1) (by omega) (by omega)
theorem x_wet (N : Nat) (hN : 6 < N) {g : Nat → Nat → Int32} (hw : Wf g) (y : Nat) (h1y : 1 ≤ y) (hy5 : y ≤ 5) (th : Nat → Int64) (σ : Mem) (h : HX σ g) (h1 : ∀ j, j < sL g → σ.2.2.2.1 50 y j = th j) :
    F_X6_wet N (nI y) σ = some (hzS (sWet g y th) (sL g), σ) := by
  have hL := sL_le hw
  exact x_wet5 N hw y h1y hy5 th σ h h1 (sL g) N 0 (by omega) (by omega)
def sGood (w s l : Int32) : Int64 := (if (0 : Int32) < (w - s) - l then (w - s) - l else (0 : Int32)).toInt64
def sGain (g : Nat → Nat → Int32) (y : Nat) (w l : Int32) (th : Nat → Int64) : Int64 := hzS (fun j => sWet g y th j * sGood w (g 73 j) l) (sL g)
theorem x_gain6 (N : Nat) {g : Nat → Nat → Int32} (hw : Wf g) (y : Nat) (h1y : 1 ≤ y) (hy5 : y ≤ 5) (w l : Int32) (th : Nat → Int64) (σ : Mem) (h : HX σ g) (h1 : ∀ j, j < sL g → σ.2.2.2.1 50 y j = th j) : ∀ (r n k : Nat), k + r = sL g → r < n →
    F_X6_gain_b6 N n (nI y) w l (hzS (fun j => sWet g y th j * sGood w (g 73 j) l) k) (nI k) σ = some (sGain g y w l th, σ) := by
  intro r
  have hL := sL_le hw
  induction r with
  | zero =>
    intro n k hk hn
    cases n with
    | zero => cases hn
    | succ n =>
      unfold F_X6_gain_b6
      rw [h.L hw, if_pos (nI_le (by omega) (by omega)), show k = sL g by omega]
      rfl
  | succ r ih =>
    intro n k hk hn
    cases n with
    | zero => cases hn
    | succ n =>
      unfold F_X6_gain_b6
      rw [h.L hw, if_neg (nI_ge (by omega) (by omega)), x_wetOf N hw y k h1y hy5 (by omega) th σ h h1]
      show (if hwOut (nI k) 5 then none else F_X6_gain_b6 N n (nI y) w l (hzS (fun j => sWet g y th j * sGood w (g 73 j) l) k + (sWet g y th k * (if (0 : Int32) < ((w - σ.2.2.1 23 0 (nI k).toNatClampNeg) - l) then ((w - σ.2.2.1 23 0 (nI k).toNatClampNeg) - l) else 0).toInt64)) (nI k + 1) σ) = _
      rw [if_neg (out_nI (by omega) (by decide)), nI_clamp (by omega), h.1.sa k (by omega), nI_1]
      exact ih n (k + 1) (by omega) (by omega)
theorem x_gain (N : Nat) (hN : 6 < N) {g : Nat → Nat → Int32} (hw : Wf g) (y : Nat) (h1y : 1 ≤ y) (hy5 : y ≤ 5) (w l : Int32) (th : Nat → Int64) (σ : Mem) (h : HX σ g) (h1 : ∀ j, j < sL g → σ.2.2.2.1 50 y j = th j) :
    F_X6_gain N (nI y) w l σ = some (sGain g y w l th, σ) := by
  have hL := sL_le hw
  exact x_gain6 N hw y h1y hy5 w l th σ h h1 (sL g) N 0 (by omega) (by omega)
def sMx (x : Int64) : Int64 := if x < (0 : Int64) then (0 : Int64) else x
def sArm (g : Nat → Nat → Int32) (F : Nat → (Nat → Int64) → Int64) (y : Nat) (th : Nat → Int64) (s : Int32) : Int64 := if 0 < sMuch g y s th then sMuch g y s th * F (y + 1) (sNext g y s th) / 1000000 else 0
/-- GOING ON with yard y, so many yards being left -/
def sGoes (g : Nat → Nat → Int32) (w : Int32) : Nat → Nat → (Nat → Int64) → Int64
  | 0, _, _ => 0
  | n + 1, y, th => (sGain g y w 0 th - 1000000 * (sCost g y).toInt64) + sArm g (fun z t => sMx (sGoes g w n z t)) y th 0 + sArm g (fun z t => sMx (sGoes g w n z t)) y th 1 + sArm g (fun z t => sMx (sGoes g w n z t)) y th 2
def sD (g : Nat → Nat → Int32) : Nat := (g 12 0).toNatClampNeg
theorem sD_eq {g : Nat → Nat → Int32} (hw : Wf g) : g 12 0 = nI (sD g) ∧ sD g ≤ 5 ∧ 1 ≤ sD g := ⟨hw.dp.1.1, hw.dp.1.2, hw.dp.2⟩
theorem x_deepest (N : Nat) {g : Nat → Nat → Int32} (hw : Wf g) (σ : Mem) (h : HX σ g) : F_X2_deepest N σ = some (nI (sD g), σ) := by
  unfold F_X2_deepest
  rw [h.1.set 0 (by decide), (sD_eq hw).1]
theorem x_worth (N : Nat) {g : Nat → Nat → Int32} (σ : Mem) (h : HX σ g) : F_X2_worth N σ = some (g 12 1, σ) := by
  unfold F_X2_worth
  rw [h.1.set 1 (by decide)]
theorem sArm_0 (g : Nat → Nat → Int32) (w : Int32) (y : Nat) (th : Nat → Int64) (s : Int32) : sArm g (fun z t => sMx (sGoes g w 0 z t)) y th s = 0 := by
  unfold sArm
  split
  · show sMuch g y s th * sMx 0 / 1000000 = 0
    rw [show sMx 0 = 0 from rfl, Int64.mul_zero]; rfl
  · rfl
theorem x_goes (N : Nat) (hN : 6 < N) {g : Nat → Nat → Int32} (hw : Wf g) (w : Int32) : ∀ (n d y : Nat) (th : Nat → Int64) (σ : Mem), n < d → n = sD g + 1 - y → 1 ≤ y → y ≤ 6 → HX σ g → (∀ j, j < sL g → σ.2.2.2.1 50 y j = th j) →
    ∃ τ, G_X6_goingOn N d (nI y) w σ = some (sGoes g w n y th, τ) ∧ KP y σ τ := by
  have hD := (sD_eq hw).2
  intro n
  induction n with
  | zero =>
    intro d y th σ hd hy h1y h6 h h1
    cases d with
    | zero => cases hd
    | succ d =>
      refine ⟨σ, ?_, KP.rfl_ y σ⟩
      show B_X6_goingOn N _ (nI y) w σ = _
      unfold B_X6_goingOn
      rw [if_neg (nltL_b 1 1 rfl h1y (by omega)), x_deepest N hw σ h]
      show (if nI y ≤ nI (sD g) then _ else some ((0 : Int64), σ)) = _
      rw [if_neg (nI_ge (by omega) (by omega))]
      rfl
  | succ n ih =>
    intro d y th σ hd hy h1y h6 h h1
    cases d with
    | zero => cases hd
    | succ d =>
      have e0 : G_X6_goingOn N (d + 1) (nI y) w σ = F_X6_goingOn_b44 N (G_X6_goingOn N d) N (nI y) w (sGain g y w 0 th - 1000000 * (sCost g y).toInt64) (nI 0) σ := by
        show B_X6_goingOn N _ (nI y) w σ = _
        unfold B_X6_goingOn
        rw [if_neg (nltL_b 1 1 rfl h1y (by omega)), x_deepest N hw σ h]
        show (if nI y ≤ nI (sD g) then (F_X6_gain N (nI y) w 0 σ).bind _ else _) = _
        rw [if_pos (nI_le (by omega) (by omega)), x_gain N hN hw y h1y (by omega) w 0 th σ h h1]
        show (if hwOut (nI y) 6 then none else F_X6_goingOn_b44 N (G_X6_goingOn N d) N (nI y) w (sGain g y w 0 th - (1000000 : Int64) * (σ.2.2.1 42 0 (nI y).toNatClampNeg).toInt64) 0 σ) = _
        rw [if_neg (out_nI (by omega) (by decide)), nI_clamp (by omega), h.2.co y h1y (by omega)]
        rfl
      obtain ⟨N', rfl⟩ : ∃ N', N = N' + 4 := ⟨N - 4, by omega⟩
      cases n with
      | zero =>
        refine ⟨σ, ?_, KP.rfl_ y σ⟩
        rw [e0, sGoes, sArm_0, sArm_0, sArm_0, Int64.add_zero, Int64.add_zero, Int64.add_zero]
        show F_X6_goingOn_b44 (N' + 4) _ (N' + 4) (nI y) w _ (nI 0) σ = _
        unfold F_X6_goingOn_b44
        rw [if_neg (show ¬ (3 : Int32) ≤ nI 0 by decide), x_deepest (N' + 4) hw σ h]
        show (if nI (sD g) ≤ nI y then some (_, σ) else _) = _
        rw [if_pos (nI_le (by omega) (by omega))]
      | succ n =>
        have step : ∀ (s m : Nat) (acc : Int64) (σ : Mem), s < 3 → HX σ g → (∀ j, j < sL g → σ.2.2.2.1 50 y j = th j) → ∃ τ, F_X6_goingOn_b44 (N' + 4) (G_X6_goingOn (N' + 4) d) (m + 1) (nI y) w acc (nI s) σ = F_X6_goingOn_b44 (N' + 4) (G_X6_goingOn (N' + 4) d) m (nI y) w (acc + sArm g (fun z t => sMx (sGoes g w (n + 1) z t)) y th (nI s)) (nI (s + 1)) τ ∧ KP y σ τ := by
          intro s m acc σ hs h h1
          obtain ⟨τ1, f1, k1, r1⟩ := x_pass (N' + 4) hN hw y h1y (by omega) (nI s) th σ h h1
          have e1 : F_X6_goingOn_b44 (N' + 4) (G_X6_goingOn (N' + 4) d) (m + 1) (nI y) w acc (nI s) σ = (if (lg_cmp (if 0 < sMuch g y (nI s) th then sMuch g y (nI s) th else 0) (0 : Int64)) ≤ 0 then
              (F_X6_goingOn_b44 (N' + 4) (G_X6_goingOn (N' + 4) d) m) (nI y) w acc (nI (s + 1)) τ1
            else
              (G_X6_goingOn (N' + 4) d (nI (y + 1)) w τ1).bind (fun q5 =>
              (F_X6_goingOn_b44 (N' + 4) (G_X6_goingOn (N' + 4) d) m) (nI y) w (acc + (((if 0 < sMuch g y (nI s) th then sMuch g y (nI s) th else 0) * (if q5.1 < (0 : Int64) then (0 : Int64) else q5.1)) / (1000000 : Int64))) (nI (s + 1)) q5.2)) := by
            rw [F_X6_goingOn_b44.eq_2]
            rw [if_neg (geL_n 3 3 rfl (by omega) (by decide)), x_deepest (N' + 4) hw σ h]
            show (if nI (sD g) ≤ nI y then _ else (F_X6_pass (N' + 4) (nI y) (nI s) σ).bind _) = _
            rw [if_neg (nI_ge (by omega) (by omega)), f1, nI_1, nI_1]
            rfl
          by_cases hm : 0 < sMuch g y (nI s) th
          · obtain ⟨τ2, f2, k2⟩ := ih d (y + 1) (sNext g y (nI s) th) τ1 (by omega) (by omega) (by omega) (by omega) (h.kx k1.x) (r1 hm)
            refine ⟨τ2, ?_, k1.trans (k2.mono (Nat.le_succ y))⟩
            rw [e1, if_pos hm, if_neg (fun q => lg_npos.mp q hm), f2]
            unfold sArm
            rw [if_pos hm]
            rfl
          · refine ⟨τ1, ?_, k1⟩
            rw [e1, if_neg hm, if_pos (lg_npos.mpr (by decide))]
            unfold sArm
            rw [if_neg hm, Int64.add_zero]
        obtain ⟨τ1, f1, k1⟩ := step 0 (N' + 3) (sGain g y w 0 th - 1000000 * (sCost g y).toInt64) σ (by decide) h h1
        obtain ⟨τ2, f2, k2⟩ := step 1 (N' + 2) _ τ1 (by decide) (h.kx k1.x) (k1.row h1)
        obtain ⟨τ3, f3, k3⟩ := step 2 (N' + 1) _ τ2 (by decide) ((h.kx k1.x).kx k2.x) (k2.row (k1.row h1))
        refine ⟨τ3, ?_, (k1.trans k2).trans k3⟩
        rw [e0, f1, f2, f3]
        show F_X6_goingOn_b44 _ _ (N' + 1) _ _ _ (nI 3) τ3 = _
        rw [F_X6_goingOn_b44.eq_2, if_pos (show (3 : Int32) ≤ nI 3 by decide)]
        rfl

/-! THE PURE SIDE, 17: what a rule comes to in the mean -/
abbrev Q4 : Type := Int64 × Int64 × Int64 × Int64
def sFound (g : Nat → Nat → Int32) (y j : Nat) (there : Int64) (th : Nat → Int64) : Int64 := sWet g y th j * there / 1000000
def sFd (g : Nat → Nat → Int32) (y : Nat) (there : Int64) (all : Int32) (th : Nat → Int64) (j : Nat) (b : Q4) : Q4 :=
  (b.1 + sFound g y j there th * all.toInt64, b.2.1 + sFound g y j there th, b.2.2.1, b.2.2.2 + sFound g y j there th * sGood (g 12 1) (g 73 j) 0)
def sFind (g : Nat → Nat → Int32) (y : Nat) (there : Int64) (all : Int32) (th : Nat → Int64) : Nat → Q4 → Q4
  | 0, a => a
  | n + 1, a => sFd g y there all th n (sFind g y there all th n a)
def sEnd (g : Nat → Nat → Int32) (there : Int64) (costs : Int32) (a : Q4) : Q4 := (a.1 + there * costs.toInt64, a.2.1, if costs ≤ g 12 3 then a.2.2.1 else a.2.2.1 + there, a.2.2.2)
def sDarm (g : Nat → Nat → Int32) (F : Int32 → Int64 → (Nat → Int64) → Q4 → Q4) (y : Nat) (th : Nat → Int64) (there : Int64) (s : Int32) (a : Q4) : Q4 :=
  if 0 < sMuch g y s th then F s (there * sMuch g y s th / 1000000) (sNext g y s th) a else a
def sDesc (g : Nat → Nat → Int32) (r : Nat) : Nat → Nat → Int32 → Int64 → Int32 → (Nat → Int64) → Q4 → Q4
  | 0, _, _, there, costs, _, a => sEnd g there costs a
  | n + 1, k, s, there, costs, th, a =>
    if sDoes g r k s th = true then
      sDarm g (fun s' t' h' b => sDesc g r n (k + 1) s' t' (costs + sCost g (k + 1)) h' b) (k + 1) th there 2
        (sDarm g (fun s' t' h' b => sDesc g r n (k + 1) s' t' (costs + sCost g (k + 1)) h' b) (k + 1) th there 1
          (sDarm g (fun s' t' h' b => sDesc g r n (k + 1) s' t' (costs + sCost g (k + 1)) h' b) (k + 1) th there 0
            (sFind g (k + 1) there (costs + sCost g (k + 1)) th (sL g) a)))
    else sEnd g there costs a
def aX (σ : Mem) : Q4 := (σ.2.1 9 3, σ.2.1 9 4, σ.2.1 9 5, σ.2.1 9 6)
def aM (σ : Mem) : Q4 := (σ.2.1 12 55, σ.2.1 12 56, σ.2.1 12 57, σ.2.1 12 58)
/-- the class: its ledger, rows behind y -/
def KZ (y : Nat) (σ τ : Mem) : Prop := τ.1 = σ.1 ∧ (∀ t, t ≠ 9 → τ.2.1 t = σ.2.1 t) ∧ τ.2.2.1 = σ.2.2.1 ∧ (∀ t, t ≠ 50 → t ≠ 51 → τ.2.2.2.1 t = σ.2.2.2.1 t) ∧ (∀ r, r ≤ y → τ.2.2.2.1 50 r = σ.2.2.2.1 50 r) ∧ τ.2.2.2.2 = σ.2.2.2.2
theorem KZ.rfl_ (y : Nat) (σ : Mem) : KZ y σ σ := ⟨rfl, fun _ _ => rfl, rfl, fun _ _ _ => rfl, fun _ _ => rfl, rfl⟩
theorem KZ.trans {y : Nat} {σ τ υ : Mem} (h : KZ y σ τ) (k : KZ y τ υ) : KZ y σ υ := ⟨k.1.trans h.1, fun t a => (k.2.1 t a).trans (h.2.1 t a), k.2.2.1.trans h.2.2.1, fun t a b => (k.2.2.2.1 t a b).trans (h.2.2.2.1 t a b), fun t a => (k.2.2.2.2.1 t a).trans (h.2.2.2.2.1 t a), k.2.2.2.2.2.trans h.2.2.2.2.2⟩
theorem KZ.mono {y z : Nat} {σ τ : Mem} (h : KZ y σ τ) (hz : z ≤ y) : KZ z σ τ := ⟨h.1, h.2.1, h.2.2.1, h.2.2.2.1, fun r hr => h.2.2.2.2.1 r (Nat.le_trans hr hz), h.2.2.2.2.2⟩
theorem KP.z {y : Nat} {σ τ : Mem} (h : KP y σ τ) : KZ y σ τ := ⟨h.1, fun t _ => congrFun h.2.1 t, h.2.2.1, h.2.2.2.1, h.2.2.2.2.1, h.2.2.2.2.2⟩
theorem KP.a {y : Nat} {σ τ : Mem} (h : KP y σ τ) : aX τ = aX σ := by unfold aX; rw [h.2.1]
theorem KZ.y {y : Nat} {σ τ : Mem} (h : KZ y σ τ) : KY σ τ := ⟨fun t _ _ => congrFun h.1 t, fun t a _ => h.2.1 t a, h.2.2.1, fun t ht => h.2.2.2.1 t (by omega) (by omega), h.2.2.2.2.2⟩
theorem KZ.row {y : Nat} {σ τ : Mem} (h : KZ y σ τ) {th : Nat → Int64} {n : Nat} (hr : ∀ j, j < n → σ.2.2.2.1 50 y j = th j) : ∀ j, j < n → τ.2.2.2.1 50 y j = th j := fun j hj => by rw [h.2.2.2.2.1 y (Nat.le_refl y)]; exact hr j hj
theorem HX.kz {y : Nat} {σ τ : Mem} {g : Nat → Nat → Int32} (h : HX σ g) (k : KZ y σ τ) : HX τ g := h.of k.1 k.2.2.1
theorem KZ.w {y : Nat} {σ : Mem} {L : Nat → Nat → Int64} (h : ∀ t, t ≠ 9 → L t = σ.2.1 t) : KZ y σ (σ.1, L, σ.2.2) := ⟨rfl, h, rfl, fun _ _ _ => rfl, fun _ _ => rfl, rfl⟩
theorem sGood_0 (w s : Int32) : (if (0 : Int32) < (w - s) then (w - s) else (0 : Int32)).toInt64 = sGood w s 0 := by
  unfold sGood; rw [Int32.sub_zero]
theorem x_find12 (N : Nat) {g : Nat → Nat → Int32} (hw : Wf g) (y : Nat) (h1y : 1 ≤ y) (hy5 : y ≤ 5) (there : Int64) (all : Int32) (th : Nat → Int64) (a0 : Q4) : ∀ (r n k : Nat) (σ : Mem), k + r = sL g → r < n → HX σ g → (∀ j, j < sL g → σ.2.2.2.1 50 y j = th j) → aX σ = sFind g y there all th k a0 →
    ∃ τ, F_X5_find_b12 N n (nI y) there all (nI k) σ = some ((), τ) ∧ KZ 6 σ τ ∧ aX τ = sFind g y there all th (sL g) a0 := by
  intro r
  have hL := sL_le hw
  induction r with
  | zero =>
    intro n k σ hk hn h h1 ha
    cases n with
    | zero => cases hn
    | succ n =>
      refine ⟨σ, ?_, KZ.rfl_ 6 σ, by rw [ha, show k = sL g by omega]⟩
      rw [F_X5_find_b12.eq_2, h.L hw, if_pos (nI_le (by omega) (by omega))]
  | succ r ih =>
    intro n k σ hk hn h h1 ha
    cases n with
    | zero => cases hn
    | succ n =>
      have kz : KZ 6 σ (σ.1, hwU2 (hwU2 (hwU2 σ.2.1 9 4 (σ.2.1 9 4 + sFound g y k there th)) 9 3 (σ.2.1 9 3 + sFound g y k there th * all.toInt64)) 9 6 (σ.2.1 9 6 + sFound g y k there th * sGood (g 12 1) (g 73 k) 0), σ.2.2) := KZ.w (fun t ht => by rw [u2_t ht, u2_t ht, u2_t ht])
      obtain ⟨τ, e1, k1, a1⟩ := ih n (k + 1) _ (by omega) (by omega) (h.kz kz) h1 (by
        show _ = sFd g y there all th k (sFind g y there all th k a0)
        rw [← ha]
        simp [aX, sFd, hwU2_get])
      refine ⟨τ, ?_, kz.trans k1, a1⟩
      rw [F_X5_find_b12.eq_2, h.L hw, if_neg (nI_ge (by omega) (by omega)), x_wetOf N hw y k h1y hy5 (by omega) th σ h h1, Option.bind_some]
      have kz2 : KZ 6 σ (σ.1, hwU2 (hwU2 σ.2.1 9 4 (σ.2.1 9 4 + sFound g y k there th)) 9 3 (σ.2.1 9 3 + sFound g y k there th * all.toInt64), σ.2.2) := KZ.w (fun t ht => by rw [u2_t ht, u2_t ht])
      show (F_X2_worth N (σ.1, hwU2 (hwU2 σ.2.1 9 4 (σ.2.1 9 4 + sFound g y k there th)) 9 3 (σ.2.1 9 3 + sFound g y k there th * all.toInt64), σ.2.2.1, σ.2.2.2.1, σ.2.2.2.2)).bind _ = _
      rw [x_worth N _ (h.kz kz2), Option.bind_some]
      unfold F_X2_goodOf
      rw [if_neg (out_nI (by omega) (by decide)), Option.bind_some, nI_clamp (by omega), nI_1]
      show F_X5_find_b12 N n (nI y) there all (nI (k + 1)) (σ.1, hwU2 (hwU2 (hwU2 σ.2.1 9 4 (σ.2.1 9 4 + sFound g y k there th)) 9 3 (σ.2.1 9 3 + sFound g y k there th * all.toInt64)) 9 6 (σ.2.1 9 6 + sFound g y k there th * (if (0 : Int32) < (g 12 1 - σ.2.2.1 23 0 k) then (g 12 1 - σ.2.2.1 23 0 k) else (0 : Int32)).toInt64), σ.2.2) = _
      rw [h.1.sa k (by omega), sGood_0]
      exact e1
theorem x_dend (N : Nat) (g0 : Int32 → Int32 → Int64 → Int32 → Mem → Option (Unit × Mem)) {g : Nat → Nat → Int32} (there : Int64) (costs : Int32) (y : Nat) (σ : Mem) (h : HX σ g) : ∃ τ, F_X5_descend_b21 N g0 there costs σ = some ((), τ) ∧ KZ y σ τ ∧ aX τ = sEnd g there costs (aX σ) := by
  unfold F_X5_descend_b21 sEnd
  rw [h.1.set 3 (by decide)]
  by_cases hc : costs ≤ g 12 3
  · rw [if_pos hc, if_pos hc]
    refine ⟨_, rfl, KZ.w (L := hwU2 σ.2.1 9 3 (σ.2.1 9 3 + there * costs.toInt64)) (fun t ht => u2_t ht), ?_⟩
    simp [aX, hwU2_get]
  · rw [if_neg hc, if_neg hc]
    refine ⟨_, rfl, KZ.w (L := hwU2 (hwU2 σ.2.1 9 3 (σ.2.1 9 3 + there * costs.toInt64)) 9 5 (σ.2.1 9 5 + there)) (fun t ht => by rw [u2_t ht, u2_t ht]), ?_⟩
    simp [aX, hwU2_get]
theorem x_desc (N : Nat) (hN : 160 ≤ N) {g : Nat → Nat → Int32} (hw : Wf g) (r : Nat) (hr : r < 8) : ∀ (n d k : Nat) (s : Int32) (there : Int64) (costs : Int32) (th : Nat → Int64) (σ : Mem), n < d → k + n = 5 → Sg s → HX σ g → σ.1 9 2 = nI r → (∀ j, j < sL g → σ.2.2.2.1 50 (k + 1) j = th j) →
    ∃ τ, G_X5_descend N d (nI k) s there costs σ = some ((), τ) ∧ KZ (k + 1) σ τ ∧ aX τ = sDesc g r n k s there costs th (aX σ) := by
  have hD := (sD_eq hw).2
  intro n
  induction n with
  | zero =>
    intro d k s there costs th σ hd hk hs h h9 h1
    cases d with
    | zero => cases hd
    | succ d =>
      have e : k = 5 := by omega
      subst e
      show ∃ τ, B_X5_descend N (G_X5_descend N d) (nI 5) s there costs σ = _ ∧ _
      unfold B_X5_descend
      rw [if_pos (show (5 : Int32) ≤ nI 5 by decide)]
      exact x_dend N _ there costs 6 σ h
  | succ n ih =>
    intro d k s there costs th σ hd hk hs h h9 h1
    cases d with
    | zero => cases hd
    | succ d =>
      obtain ⟨N', rfl⟩ : ∃ N', N = N' + 4 := ⟨N - 4, by omega⟩
      obtain ⟨τ0, f0, k0⟩ := x_does (N' + 4) (by omega) hw r hr k (by omega) s hs th σ h h1
      have h0 := h.kx k0.x
      have e0 : G_X5_descend (N' + 4) (d + 1) (nI k) s there costs σ = (if bI (sDoes g r k s th) = 0 then
            F_X5_descend_b21 (N' + 4) (G_X5_descend (N' + 4) d) there costs τ0
          else (F_X5_find (N' + 4) (nI (k + 1)) there (costs + sCost g (k + 1)) τ0).bind (fun q2 =>
            F_X5_descend_b98 (N' + 4) (G_X5_descend (N' + 4) d) (N' + 4) there (nI (k + 1)) (costs + sCost g (k + 1)) (0 : Int32) q2.2)) := by
        show B_X5_descend (N' + 4) (G_X5_descend (N' + 4) d) (nI k) s there costs σ = _
        unfold B_X5_descend
        rw [if_neg (geL_n 5 5 rfl (by omega) (by decide)), h9, f0, Option.bind_some, nI_1]
        show (if bI (sDoes g r k s th) = 0 then F_X5_descend_b21 (N' + 4) (G_X5_descend (N' + 4) d) there costs τ0 else if hwOut (nI (k + 1)) 6 then none else (F_X5_find (N' + 4) (nI (k + 1)) there (costs + τ0.2.2.1 42 0 (nI (k + 1)).toNatClampNeg) τ0).bind (fun q2 => F_X5_descend_b98 (N' + 4) (G_X5_descend (N' + 4) d) (N' + 4) there (nI (k + 1)) (costs + τ0.2.2.1 42 0 (nI (k + 1)).toNatClampNeg) (0 : Int32) q2.2)) = _
        rw [if_neg (out_nI (by omega) (by decide)), nI_clamp (by omega), h0.2.co (k + 1) (by omega) (by omega)]
      rw [e0, sDesc]
      cases hdo : sDoes g r k s th with
      | false =>
        obtain ⟨τ, e1, k1, a1⟩ := x_dend (N' + 4) (G_X5_descend (N' + 4) d) there costs (k + 1) τ0 h0
        refine ⟨τ, ?_, k0.z.trans k1, ?_⟩
        · rw [if_pos (show bI false = 0 from rfl)]; exact e1
        · rw [if_neg (by decide), a1, k0.a]
      | true =>
        obtain ⟨τ1, f1, k1, a1⟩ := x_find12 (N' + 4) hw (k + 1) (by omega) (by omega) there (costs + sCost g (k + 1)) th (aX τ0) (sL g) (N' + 4) 0 τ0 (by omega) (by have := sL_le hw; omega) h0 (k0.row h1) rfl
        have k1' := k1.mono (show k + 1 ≤ 6 by omega)
        have h1' := h0.kz k1'
        have row1 := k1'.row (k0.row h1)
        have step : ∀ (q m : Nat) (σ : Mem), q < 3 → HX σ g → σ.1 9 2 = nI r → (∀ j, j < sL g → σ.2.2.2.1 50 (k + 1) j = th j) → ∃ τ, F_X5_descend_b98 (N' + 4) (G_X5_descend (N' + 4) d) (m + 1) there (nI (k + 1)) (costs + sCost g (k + 1)) (nI q) σ = F_X5_descend_b98 (N' + 4) (G_X5_descend (N' + 4) d) m there (nI (k + 1)) (costs + sCost g (k + 1)) (nI (q + 1)) τ ∧ KZ (k + 1) σ τ ∧ aX τ = sDarm g (fun s' t' h' b => sDesc g r n (k + 1) s' t' (costs + sCost g (k + 1)) h' b) (k + 1) th there (nI q) (aX σ) := by
          intro q m σ hq h h9 h1
          obtain ⟨τ1, f1, k1, r1⟩ := x_pass (N' + 4) (by omega) hw (k + 1) (by omega) (by omega) (nI q) th σ h h1
          rw [F_X5_descend_b98.eq_2, if_neg (geL_n 3 3 rfl (by omega) (by decide)), f1, Option.bind_some, nI_1]
          unfold sDarm
          by_cases hm : 0 < sMuch g (k + 1) (nI q) th
          · obtain ⟨τ2, f2, k2, a2⟩ := ih d (k + 1) (nI q) (there * sMuch g (k + 1) (nI q) th / 1000000) (costs + sCost g (k + 1)) (sNext g (k + 1) (nI q) th) τ1 (by omega) (by omega) (Or.inr ⟨q, hq, rfl⟩) (h.kx k1.x) (by rw [k1.1]; exact h9) (r1 hm)
            refine ⟨τ2, ?_, k1.z.trans (k2.mono (by omega)), ?_⟩
            · show (if lg_cmp (if 0 < sMuch g (k + 1) (nI q) th then sMuch g (k + 1) (nI q) th else 0) 0 ≤ 0 then _ else (G_X5_descend (N' + 4) d (nI (k + 1)) (nI q) (there * (if 0 < sMuch g (k + 1) (nI q) th then sMuch g (k + 1) (nI q) th else 0) / 1000000) (costs + sCost g (k + 1)) τ1).bind (fun q4 => F_X5_descend_b98 (N' + 4) (G_X5_descend (N' + 4) d) m there (nI (k + 1)) (costs + sCost g (k + 1)) (nI (q + 1)) q4.2)) = _
              rw [if_pos hm, if_neg (fun z => lg_npos.mp z hm), f2, Option.bind_some]
            · rw [if_pos hm, a2, k1.a]
          · refine ⟨τ1, ?_, k1.z, ?_⟩
            · show (if lg_cmp (if 0 < sMuch g (k + 1) (nI q) th then sMuch g (k + 1) (nI q) th else 0) 0 ≤ 0 then F_X5_descend_b98 (N' + 4) (G_X5_descend (N' + 4) d) m there (nI (k + 1)) (costs + sCost g (k + 1)) (nI (q + 1)) τ1 else _) = _
              rw [if_neg hm, if_pos (lg_npos.mpr (by decide))]
            · rw [if_neg hm, k1.a]
        have h91 : τ1.1 9 2 = nI r := by rw [k1'.1, k0.1]; exact h9
        obtain ⟨τ2, f2, k2, a2⟩ := step 0 (N' + 3) τ1 (by decide) h1' h91 row1
        have h2' := h1'.kz k2
        have row2 := k2.row row1
        have h92 : τ2.1 9 2 = nI r := by rw [k2.1]; exact h91
        obtain ⟨τ3, f3, k3, a3⟩ := step 1 (N' + 2) τ2 (by decide) h2' h92 row2
        obtain ⟨τ4, f4, k4, a4⟩ := step 2 (N' + 1) τ3 (by decide) (h2'.kz k3) (by rw [k3.1]; exact h92) (k3.row row2)
        refine ⟨τ4, ?_, (((k0.z.trans k1').trans k2).trans k3).trans k4, ?_⟩
        · rw [if_neg (show ¬ bI true = 0 by decide)]
          unfold F_X5_find
          rw [show F_X5_find_b12 (N' + 4) (N' + 4) (nI (k + 1)) there (costs + sCost g (k + 1)) (0 : Int32) τ0 = _ from f1, Option.bind_some]
          show F_X5_descend_b98 (N' + 4) _ (N' + 3 + 1) there (nI (k + 1)) (costs + sCost g (k + 1)) (nI 0) τ1 = _
          rw [f2, f3, f4, F_X5_descend_b98.eq_2, if_pos (show (3 : Int32) ≤ nI (2 + 1) by decide)]
        · rw [if_pos rfl, a4, a3, a2, a1, k0.a]
          rfl
def sMean (g : Nat → Nat → Int32) (r p : Nat) : Q4 := sDesc g r 5 0 (-1) 1000000 0 (sFirst g p) (0, 0, 0, 0)
theorem x_reckon (N : Nat) (hN : 160 ≤ N) {g : Nat → Nat → Int32} (hw : Wf g) (r : Nat) (hr : r < 8) (p : Nat) (hp : p < 4) (σ : Mem) (h : HX σ g) : ∃ τ, F_X5_reckon N (nI r) (nI p) σ = some ((), τ) ∧ KY σ τ ∧ aX τ = sMean g r p := by
  unfold F_X5_reckon
  have ky : KY σ (hwU2 σ.1 9 2 (nI r), hwU2 (hwU2 (hwU2 (hwU2 σ.2.1 9 3 (0 : Int64)) 9 4 (0 : Int64)) 9 5 (0 : Int64)) 9 6 (0 : Int64), σ.2.2.1, σ.2.2.2.1, σ.2.2.2.2) := ⟨fun t a _ => u2_t a, fun t a _ => by show hwU2 (hwU2 (hwU2 (hwU2 _ _ _ _) _ _ _) _ _ _) _ _ _ t = _; rw [u2_t a, u2_t a, u2_t a, u2_t a], rfl, fun _ _ => rfl, rfl⟩
  obtain ⟨τ1, e1, k1, r1⟩ := x_begin N (by omega) hw p hp _ (h.ky ky)
  obtain ⟨τ2, e2, k2, a2⟩ := x_desc N hN hw r hr 5 10 0 (-1) 1000000 0 (sFirst g p) τ1 (by decide) rfl (Or.inl rfl) ((h.ky ky).kx k1.x) (by rw [k1.1]; show hwU2 σ.1 9 2 (nI r) 9 2 = _; exact hwU2_eq) r1
  refine ⟨τ2, ?_, (ky.trans k1.x.y).trans k2.y, ?_⟩
  · rw [e1, Option.bind_some, show F_X5_descend N (0 : Int32) (Int32.ofInt (-1)) (1000000 : Int64) (0 : Int32) τ1 = _ from e2]
    rfl
  · rw [a2]
    unfold sMean
    congr 1
    unfold aX
    rw [k1.2.1]
    simp [hwU2_get]

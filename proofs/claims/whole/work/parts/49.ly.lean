/-! THE PURE SIDE, 30: a new layer, what follows what, settings, a forced law -/
/-- a call of both from one ground: one answer, one ground after -/
def Tw {α : Type} (F1 F2 : Mem → Option (α × Mem)) (g : Nat → Nat → Int32) (P : (Nat → Nat → Int32) → Prop) : Prop :=
  ∃ r g', (Wf g' ∧ P g') ∧ (∀ σ, HX σ g → ∃ τ, F1 σ = some (r, τ) ∧ KC σ τ ∧ HX τ g') ∧ ∀ σ, gM σ = g → ∃ τ, F2 σ = some (r, τ) ∧ KR σ τ ∧ gM τ = g'
theorem Tw.ac {α : Type} {F1 F2 : Mem → Option (α × Mem)} {σ : Mem} {P : (Nat → Nat → Int32) → Prop} (h : Ag σ) (t : Tw F1 F2 (gM σ) P) : Ac F1 F2 σ := by
  obtain ⟨r, g', ⟨wf, -⟩, x, m⟩ := t
  obtain ⟨τ1, e1, kc, hx⟩ := x σ h.1
  obtain ⟨τ2, e2, kr, eg⟩ := m τ1 kc.g
  exact Ac.up e1 kc hx e2 kr eg wf
theorem Tw.st {α : Type} {F1 F2 : Mem → Option (α × Mem)} {g : Nat → Nat → Int32} {P : (Nat → Nat → Int32) → Prop} (hw : Wf g) (hp : P g) (r : α) (x : ∀ σ, HX σ g → F1 σ = some (r, σ)) (m : ∀ σ, gM σ = g → F2 σ = some (r, σ)) : Tw F1 F2 g P :=
  ⟨r, g, ⟨hw, hp⟩, fun σ h => ⟨σ, x σ h, KC.rfl_ σ, h⟩, fun σ h => ⟨σ, m σ h, KR.rfl_ σ, h⟩⟩
theorem nI_nz {k : Nat} (h : k < 2 ^ 31) : ¬ nI k < 0 := nI_pos h
theorem nI_add_sub (k : Nat) : nI k + (1 : Int32) - (1 : Int32) = nI k := by rw [nI_1, nI_pred]
theorem w_layer (N : Nat) (hN : 160 < N) {g : Nat → Nat → Int32} (hw : Wf g) (a b c : Int32) : Tw (F_X11_layer N a b c) (F_X12_layer N a b c) g (fun g' => g' 95 = g 95 ∧ g' 96 = g 96 ∧ g' 97 = g 97) := by
  have hL := sL_le hw
  have hP := sPl_eq hw
  have nn : (Int32.ofInt (-2)) < 0 := by decide
  have n3 : (Int32.ofInt (-3)) < 0 := by decide
  have n4 : (Int32.ofInt (-4)) < 0 := by decide
  rcases rg_m a 0 100 (by decide) (by decide) with ⟨a, a0, ha, rfl⟩ | hq
  rotate_left
  · refine Tw.st hw ⟨rfl, rfl, rfl⟩ (Int32.ofInt (-2)) (fun σ h => ?_) (fun σ h => ?_)
    · unfold F_X11_layer F_X11_newLayer; rw [show F_X11_within N a 0 100 _ = _ from x_in_n hq, Option.bind_some, k00, Option.bind_some, if_pos nn]
    · unfold F_X12_layer; rw [show F_X12_in N a 0 100 _ = _ from m_in_n hq, Option.bind_some, k00]
  rcases rg_m b 0 9 (by decide) (by decide) with ⟨b, b0, hb, rfl⟩ | hq
  rotate_left
  · refine Tw.st hw ⟨rfl, rfl, rfl⟩ (Int32.ofInt (-2)) (fun σ h => ?_) (fun σ h => ?_)
    · unfold F_X11_layer F_X11_newLayer; rw [show F_X11_within N (nI a) 0 100 _ = _ from x_rgY a0 ha (by decide), Option.bind_some, k10, show F_X11_within N b 0 9 _ = _ from x_in_n hq, Option.bind_some, k00, Option.bind_some, if_pos nn]
    · unfold F_X12_layer; rw [show F_X12_in N (nI a) 0 100 _ = _ from m_rgY a0 ha (by decide), Option.bind_some, k10, show F_X12_in N b 0 9 _ = _ from m_in_n hq, Option.bind_some, k00]
  rcases rg_m c 0 2 (by decide) (by decide) with ⟨c, c0, hc, rfl⟩ | hq
  rotate_left
  · refine Tw.st hw ⟨rfl, rfl, rfl⟩ (Int32.ofInt (-2)) (fun σ h => ?_) (fun σ h => ?_)
    · unfold F_X11_layer F_X11_newLayer; rw [show F_X11_within N (nI a) 0 100 _ = _ from x_rgY a0 ha (by decide), Option.bind_some, k10, show F_X11_within N (nI b) 0 9 _ = _ from x_rgY b0 hb (by decide), Option.bind_some, k10, show F_X11_within N c 0 2 _ = _ from x_in_n hq, Option.bind_some, k00, Option.bind_some, if_pos nn]
    · unfold F_X12_layer; rw [show F_X12_in N (nI a) 0 100 _ = _ from m_rgY a0 ha (by decide), Option.bind_some, k10, show F_X12_in N (nI b) 0 9 _ = _ from m_rgY b0 hb (by decide), Option.bind_some, k10, show F_X12_in N c 0 2 _ = _ from m_in_n hq, Option.bind_some, k00]
  have xs : ∀ σ, HX σ g → F_X11_newLayer N (nI a) (nI b) (nI c) σ = if nI (sL g) < 5 then (if nI (sPl g) ≤ 0 then (F_X2_lay N (nI a) (nI b) (nI c) σ).bind (fun q4 => some (q4.1, q4.2)) else some (Int32.ofInt (-3), σ)) else some (Int32.ofInt (-4), σ) := by
    intro σ h
    unfold F_X11_newLayer
    rw [show F_X11_within N (nI a) 0 100 _ = _ from x_rgY a0 ha (by decide), Option.bind_some, k10, show F_X11_within N (nI b) 0 9 _ = _ from x_rgY b0 hb (by decide), Option.bind_some, k10, show F_X11_within N (nI c) 0 2 _ = _ from x_rgY c0 hc (by decide), Option.bind_some, k10, h.1.ly, sL_eq hw, h.1.pl, hP.1]
  have ms : ∀ σ, gM σ = g → F_X12_layer N (nI a) (nI b) (nI c) σ = if nI (sL g) = 5 then some (Int32.ofInt (-4), σ) else if nI (sPl g) ≤ 0 then (if hwOut (nI (sL g)) 5 then none else if hwOut (nI (sL g)) 5 then none else if hwOut (nI (sL g)) 5 then none else some (nI (sL g) + 1 - 1, (hwU2 σ.1 12 5 (nI (sL g) + 1), σ.2.1, hwU3 (hwU3 (hwU3 σ.2.2.1 72 0 (nI (sL g)).toNatClampNeg (nI a)) 73 0 (nI (sL g)).toNatClampNeg (nI b)) 74 0 (nI (sL g)).toNatClampNeg (nI c), σ.2.2.2.1, σ.2.2.2.2))) else some (Int32.ofInt (-3), σ) := by
    intro σ h
    unfold F_X12_layer
    rw [show F_X12_in N (nI a) 0 100 _ = _ from m_rgY a0 ha (by decide), Option.bind_some, k10, show F_X12_in N (nI b) 0 9 _ = _ from m_rgY b0 hb (by decide), Option.bind_some, k10, show F_X12_in N (nI c) 0 2 _ = _ from m_rgY c0 hc (by decide), Option.bind_some, k10, rL hw h, rF h (by decide), hP.1]
  by_cases c5 : sL g = 5
  · refine Tw.st hw ⟨rfl, rfl, rfl⟩ (Int32.ofInt (-4)) (fun σ h => ?_) (fun σ h => ?_)
    · unfold F_X11_layer; rw [xs σ h, c5, if_neg (show ¬ nI 5 < (5 : Int32) by decide), Option.bind_some, if_pos n4]
    · rw [ms σ h, c5, if_pos (by decide)]
  by_cases cp : sPl g = 0
  rotate_left
  · refine Tw.st hw ⟨rfl, rfl, rfl⟩ (Int32.ofInt (-3)) (fun σ h => ?_) (fun σ h => ?_)
    · unfold F_X11_layer; rw [xs σ h, if_pos (ltL_b 5 5 rfl (by omega) (by decide)), if_neg (geL_a 0 0 rfl (by omega) (by omega)), Option.bind_some, if_pos n3]
    · rw [ms σ h, if_neg (neL 5 5 rfl ⟨c5, by omega, by decide⟩), if_neg (geL_a 0 0 rfl (by omega) (by omega))]
  have gs : ∀ σ : Mem, gM σ = g → gM (hwU2 σ.1 12 5 (nI (sL g + 1)), σ.2.1, hwU3 (hwU3 (hwU3 σ.2.2.1 72 0 (sL g) (nI a)) 73 0 (sL g) (nI b)) 74 0 (sL g) (nI c), σ.2.2.2.1, σ.2.2.2.2) = hwU2 (hwU2 (hwU2 (hwU2 g 72 (sL g) (nI a)) 73 (sL g) (nI b)) 74 (sL g) (nI c)) 12 5 (nI (sL g + 1)) := by
    intro σ h
    rw [gM_u2 (by decide), gM_u3 (by decide) (by decide), gM_u3 (by decide) (by decide), gM_u3 (by decide) (by decide)]
    show hwU2 (hwU2 (hwU2 (hwU2 (gM σ) 72 (sL g) (nI a)) 73 (sL g) (nI b)) 74 (sL g) (nI c)) 12 5 (nI (sL g + 1)) = _
    rw [h]
  have wf : Wf (hwU2 (hwU2 (hwU2 (hwU2 g 72 (sL g) (nI a)) 73 (sL g) (nI b)) 74 (sL g) (nI c)) 12 5 (nI (sL g + 1))) := by
    refine Wf.u_ly (((hw.u_bs _ (isN_nI ha (by decide))).u_sa _ (isN_nI hb (by decide))).u_si _ (isN_nI hc (by decide))) ⟨isN_nI (by omega) (by decide), ?_⟩
    simp (disch := decide) only [u2_t]
    show sL g ≤ _
    rw [nI_clamp (by omega)]
    omega
  refine ⟨nI (sL g), _, ⟨wf, ?_, ?_, ?_⟩, fun σ h => ?_, fun σ h => ⟨_, ?_, ?_, gs σ h⟩⟩
  · simp (disch := decide) only [u2_t]
  · simp (disch := decide) only [u2_t]
  · simp (disch := decide) only [u2_t]
  · have h0 : HX0 (hwU2 σ.1 1 6 (nI (sL g + 1)), σ.2.1, hwU3 (hwU3 (hwU3 σ.2.2.1 22 0 (sL g) (nI a)) 23 0 (sL g) (nI b)) 24 0 (sL g) (nI c), σ.2.2.2.1, σ.2.2.2.2) _ := HX0.u_ly (HX0.u_si (HX0.u_sa (HX0.u_bs (show HX0 (σ.1, σ.2.1, σ.2.2.1, σ.2.2.2.1, σ.2.2.2.2) g from h.1) (sL g) (nI a)) (sL g) (nI b)) (sL g) (nI c)) (nI (sL g + 1))
    obtain ⟨τ, e, k, hx⟩ := x_weigh N hN wf _ h0
    refine ⟨τ, ?_, KC.trans (τ := (hwU2 σ.1 1 6 (nI (sL g + 1)), σ.2.1, hwU3 (hwU3 (hwU3 σ.2.2.1 22 0 (sL g) (nI a)) 23 0 (sL g) (nI b)) 24 0 (sL g) (nI c), σ.2.2.2.1, σ.2.2.2.2)) ⟨(by show hwU2 σ.1 1 6 (nI (sL g + 1)) 12 = σ.1 12; exact u2_t (by decide)), fun t h1 h2 => by simp (disch := omega) only [hwU3_t], rfl⟩ k.kc, hx⟩
    unfold F_X11_layer
    rw [xs σ h, if_pos (ltL_b 5 5 rfl (by omega) (by decide)), if_pos (leL_b 0 0 rfl (by omega) (by decide))]
    unfold F_X2_lay
    rw [h.1.ly, sL_eq hw, if_neg (out_nI (by omega) (by decide)), if_neg (out_nI (by omega) (by decide)), if_neg (out_nI (by omega) (by decide)), Option.bind_some, Option.bind_some, if_neg (nI_nz (by omega)), nI_1, nI_clamp (by omega), e, Option.bind_some]
  · rw [ms σ h, if_neg (neL 5 5 rfl ⟨c5, by omega, by decide⟩), if_pos (leL_b 0 0 rfl (by omega) (by decide)), if_neg (out_nI (by omega) (by decide)), if_neg (out_nI (by omega) (by decide)), if_neg (out_nI (by omega) (by decide)), nI_add_sub, nI_1, nI_clamp (by omega)]
  · exact ⟨fun t ht => u2_t (by omega), fun t ht => by simp (disch := omega) only [hwU3_t], rfl⟩
theorem KC.w {σ : Mem} {t r k : Nat} {v : Int32} (h : t < 72) : KC σ (σ.1, σ.2.1, hwU3 σ.2.2.1 t r k v, σ.2.2.2.1, σ.2.2.2.2) := ⟨rfl, fun a _ _ => hwU3_t (by omega), rfl⟩
theorem KC.i {σ : Mem} {t k : Nat} {v : Int32} (h : t ≠ 12) : KC σ (hwU2 σ.1 t k v, σ.2.1, σ.2.2.1, σ.2.2.2.1, σ.2.2.2.2) := ⟨u2_t (fun e => h e.symm), fun _ _ _ => rfl, rfl⟩
theorem KR.w {σ : Mem} {t r k : Nat} {v : Int32} (h : 72 ≤ t) : KR σ (σ.1, σ.2.1, hwU3 σ.2.2.1 t r k v, σ.2.2.2.1, σ.2.2.2.2) := ⟨fun _ _ => rfl, fun a _ => hwU3_t (by omega), rfl⟩
theorem KR.i {σ : Mem} {k : Nat} {v : Int32} : KR σ (hwU2 σ.1 12 k v, σ.2.1, σ.2.2.1, σ.2.2.2.1, σ.2.2.2.2) := ⟨fun t h => u2_t h, fun _ _ => rfl, rfl⟩
theorem x_wY {N : Nat} {lo hi : Int32} {a b k : Nat} {σ : Mem} (h1 : lo = nI a) (h2 : hi = nI b) (ha : a ≤ k) (hb : k ≤ b) (h : b < 2147483648) : F_X11_within N (nI k) lo hi σ = some (1, σ) := by rw [h1, h2]; exact x_rgY ha hb h
theorem m_wY {N : Nat} {lo hi : Int32} {a b k : Nat} {σ : Mem} (h1 : lo = nI a) (h2 : hi = nI b) (ha : a ≤ k) (hb : k ≤ b) (h : b < 2147483648) : F_X12_in N (nI k) lo hi σ = some (1, σ) := by rw [h1, h2]; exact m_rgY ha hb h
/-! a forced law -/
theorem sTx_eq {g : Nat → Nat → Int32} (hw : Wf g) : g 12 27 = nI (g 12 27).toNatClampNeg ∧ (g 12 27).toNatClampNeg ≤ 6 := hw.tx
theorem w_force (N : Nat) (hN : 160 < N) {g : Nat → Nat → Int32} (hw : Wf g) (a : Int32) : Tw (F_X11_force N a) (F_X12_force N a) g (fun _ => True) := by
  obtain ⟨ex, hx6⟩ := sTx_eq hw
  rcases rg_c a (c := (g 12 27).toNatClampNeg) (by omega) with ⟨t, ht, rfl⟩ | hq
  rotate_left
  · refine Tw.st hw trivial (Int32.ofInt (-2)) (fun σ h => ?_) (fun σ h => ?_)
    · unfold F_X11_force; rw [h.1.tx, ex, x_in_n hq, Option.bind_some, k00]
    · unfold F_X12_force; rw [rF h (by decide), ex, m_in_n hq, Option.bind_some, k00]
  obtain ⟨y1, y2⟩ := rg_y ht (by omega)
  have wf : Wf (hwU2 g 12 28 (nI t)) := hw.u_rl ⟨isN_nI (by omega) (by decide), by rw [nI_clamp (by omega)]; exact ht⟩
  refine ⟨g 12 28, _, ⟨wf, trivial⟩, fun σ h => ?_, fun σ h => ⟨(hwU2 σ.1 12 28 (nI t), σ.2.1, σ.2.2.1, σ.2.2.2.1, σ.2.2.2.2), ?_, KR.i, ?_⟩⟩
  · have h0 : HX0 (hwU2 σ.1 2 10 (nI t), σ.2.1, σ.2.2.1, σ.2.2.2.1, σ.2.2.2.2) _ := HX0.u_rl (show HX0 (σ.1, σ.2.1, σ.2.2.1, σ.2.2.2.1, σ.2.2.2.2) g from h.1) (nI t)
    obtain ⟨τ, e, k, hx⟩ := x_weigh N hN wf _ h0
    refine ⟨τ, ?_, (KC.i (show 2 ≠ 12 by decide)).trans k.kc, hx⟩
    unfold F_X11_force
    rw [h.1.tx, ex, x_in_y y1 y2, Option.bind_some, k10, e, Option.bind_some, h.1.rl]
  · unfold F_X12_force
    rw [rF h (by decide), ex, m_in_y y1 y2, Option.bind_some, k10, rF h (by decide)]
  · rw [gM_u2 (by decide)]; exact congrArg (fun q => hwU2 q 12 28 (nI t)) h
/-! the settings -/
theorem u2_same {α : Type} {f : Nat → Nat → α} {t k : Nat} {v : α} (h : v = f t k) : hwU2 f t k v = f := by
  funext a c
  rw [hwU2_get]
  by_cases e : a = t ∧ c = k
  · rw [if_pos e, h, e.1, e.2]
  · rw [if_neg e]
theorem hold5 (A : Nat → Nat → Int32) (v : Int32) (k : Nat) (hk : k < 5) : hwU2 (hwU2 (hwU2 (hwU2 (hwU2 A 12 0 (if k = 0 then v else A 12 0)) 12 1 (if k = 1 then v else A 12 1)) 12 2 (if k = 2 then v else A 12 2)) 12 3 (if k = 3 then v else A 12 3)) 12 4 (if k = 4 then v else A 12 4) = hwU2 A 12 k v := by
  funext a c
  simp only [hwU2_get]
  by_cases ea : a = 12
  · subst ea
    have sw : ∀ i : Nat, (if k = i then v else A 12 i) = (if 12 = 12 ∧ i = k then v else A 12 i) := by
      intro i
      by_cases e : k = i
      · rw [if_pos e, if_pos ⟨rfl, e.symm⟩]
      · rw [if_neg e, if_neg (fun q => e q.2.symm)]
    by_cases c4 : c = 4
    · subst c4; rw [if_pos ⟨rfl, rfl⟩]; exact sw 4
    rw [if_neg (fun q => c4 q.2)]
    by_cases c3 : c = 3
    · subst c3; rw [if_pos ⟨rfl, rfl⟩]; exact sw 3
    rw [if_neg (fun q => c3 q.2)]
    by_cases c2 : c = 2
    · subst c2; rw [if_pos ⟨rfl, rfl⟩]; exact sw 2
    rw [if_neg (fun q => c2 q.2)]
    by_cases c1 : c = 1
    · subst c1; rw [if_pos ⟨rfl, rfl⟩]; exact sw 1
    rw [if_neg (fun q => c1 q.2)]
    by_cases c0 : c = 0
    · subst c0; rw [if_pos ⟨rfl, rfl⟩]; exact sw 0
    rw [if_neg (fun q => c0 q.2), if_neg (fun q => by omega)]
  · simp only [ea, false_and, if_false]
theorem m_holds (N : Nat) (k : Nat) (hk : k < 5) (v : Int32) (σ : Mem) : F_X12_holds N (nI k) v σ = some ((), (hwU2 σ.1 12 k v, σ.2)) := by
  have n : ∀ i j : Nat, i < 5 → j < 5 → i ≠ j → ¬ nI i = nI j := fun i j hi hj h e => h ((nI_eq (by omega) (by omega)).mp e)
  have b4 : ∀ (s0 : Int32) (τ : Mem), F_X12_holds_b64 N (nI k) v s0 τ = some ((), (hwU2 (hwU2 τ.1 12 3 s0) 12 4 (if k = 4 then v else τ.1 12 4), τ.2)) := by
    intro s0 τ
    unfold F_X12_holds_b64
    by_cases e : k = 4
    · subst e; rfl
    · rw [if_neg (show ¬ nI k = 4 from n k 4 hk (by decide) e), if_neg e]
  have b3 : ∀ (s0 : Int32) (τ : Mem), F_X12_holds_b47 N (nI k) v s0 τ = some ((), (hwU2 (hwU2 (hwU2 τ.1 12 2 s0) 12 3 (if k = 3 then v else τ.1 12 3)) 12 4 (if k = 4 then v else τ.1 12 4), τ.2)) := by
    intro s0 τ
    unfold F_X12_holds_b47
    by_cases e : k = 3
    · subst e; exact b4 v _
    · rw [if_neg (show ¬ nI k = 3 from n k 3 hk (by decide) e), if_neg e]; exact b4 (τ.1 12 3) _
  have b2 : ∀ (s0 : Int32) (τ : Mem), F_X12_holds_b30 N (nI k) v s0 τ = some ((), (hwU2 (hwU2 (hwU2 (hwU2 τ.1 12 1 s0) 12 2 (if k = 2 then v else τ.1 12 2)) 12 3 (if k = 3 then v else τ.1 12 3)) 12 4 (if k = 4 then v else τ.1 12 4), τ.2)) := by
    intro s0 τ
    unfold F_X12_holds_b30
    by_cases e : k = 2
    · subst e; exact b3 v _
    · rw [if_neg (show ¬ nI k = 2 from n k 2 hk (by decide) e), if_neg e]; exact b3 (τ.1 12 2) _
  have b1 : ∀ (s0 : Int32) (τ : Mem), F_X12_holds_b13 N (nI k) v s0 τ = some ((), (hwU2 (hwU2 (hwU2 (hwU2 (hwU2 τ.1 12 0 s0) 12 1 (if k = 1 then v else τ.1 12 1)) 12 2 (if k = 2 then v else τ.1 12 2)) 12 3 (if k = 3 then v else τ.1 12 3)) 12 4 (if k = 4 then v else τ.1 12 4), τ.2)) := by
    intro s0 τ
    unfold F_X12_holds_b13
    by_cases e : k = 1
    · subst e; exact b2 v _
    · rw [if_neg (show ¬ nI k = 1 from n k 1 hk (by decide) e), if_neg e]; exact b2 (τ.1 12 1) _
  have b0 : F_X12_holds N (nI k) v σ = some ((), (hwU2 (hwU2 (hwU2 (hwU2 (hwU2 σ.1 12 0 (if k = 0 then v else σ.1 12 0)) 12 1 (if k = 1 then v else σ.1 12 1)) 12 2 (if k = 2 then v else σ.1 12 2)) 12 3 (if k = 3 then v else σ.1 12 3)) 12 4 (if k = 4 then v else σ.1 12 4), σ.2)) := by
    unfold F_X12_holds
    by_cases e : k = 0
    · subst e; exact b1 v _
    · rw [if_neg (show ¬ nI k = 0 from n k 0 hk (by decide) e), if_neg e]; exact b1 (σ.1 12 0) _
  rw [b0, hold5 σ.1 v k hk]
def sLo (k : Nat) : Nat := if k = 0 then 1 else 0
def sHi (k : Nat) : Nat := if k = 0 then 5 else if k = 2 then 9 else 9999
theorem sLo_t : ∀ k, k < 5 → ntD 0 [1, 0, 0, 0, 0] k = nI (sLo k) ∧ ntD 0 [5, 9999, 9, 9999, 9999] k = nI (sHi k) ∧ sLo k ≤ 1 ∧ sHi k ≤ 9999 := by decide
theorem Wf.u_set {g : Nat → Nat → Int32} (h : Wf g) (k : Nat) (hk : k < 5) {v : Nat} (h1 : sLo k ≤ v) (h2 : v ≤ sHi k) : Wf (hwU2 g 12 k (nI v)) := by
  match k, hk with
  | 0, _ => exact h.u_dp ⟨isN_nI (m := 5) h2 (by decide), by rw [nI_clamp (Nat.lt_of_le_of_lt h2 (by decide))]; exact h1⟩
  | 1, _ => exact h.u_wo (isN_nI (m := 9999) h2 (by decide))
  | 2, _ => exact h.u_se (isN_nI (m := 9) h2 (by decide))
  | 3, _ => exact h.u_pu (isN_nI (m := 9999) h2 (by decide))
  | 4, _ => exact h.u_li (isN_nI (m := 9999) h2 (by decide))
theorem m_cnt (N k : Nat) (hk : k < 5) (σ : Mem) : F_X12_count N (nI k) σ = some (σ.1 12 k, σ) := by
  match k, hk with
  | 0, _ => rfl
  | 1, _ => rfl
  | 2, _ => rfl
  | 3, _ => rfl
  | 4, _ => rfl
theorem m_set42 (N k : Nat) (hk : k < 5) (b : Int32) (σ : Mem) : F_X12_set N (nI k) b σ = F_X12_set_b42 N (nI k) b (nI (sHi k)) (nI (sLo k)) b σ := by
  unfold F_X12_set
  rw [show F_X12_in N (nI k) 0 4 σ = _ from m_rgY (Nat.zero_le k) (show k ≤ 4 by omega) (by decide), Option.bind_some, k10]
  match k, hk with
  | 0, _ => rfl
  | 1, _ => rfl
  | 2, _ => rfl
  | 3, _ => rfl
  | 4, _ => rfl
theorem w_set (N : Nat) (hN : 160 < N) {g : Nat → Nat → Int32} (hw : Wf g) (a b : Int32) : Tw (F_X11_set N a b) (F_X12_set N a b) g (fun _ => True) := by
  rcases rg_c a (c := 5) (by decide) with ⟨k, hk, rfl⟩ | hq
  rotate_left
  · refine Tw.st hw trivial (Int32.ofInt (-1)) (fun σ h => ?_) (fun σ h => ?_)
    · unfold F_X11_set; rw [show F_X11_within N a 0 4 _ = _ from x_in_n hq, Option.bind_some, k00]
    · unfold F_X12_set; rw [show F_X12_in N a 0 4 _ = _ from m_in_n hq, Option.bind_some, k00]
  obtain ⟨el, eh, hl, hh⟩ := sLo_t k hk
  have xs : ∀ σ : Mem, F_X11_set N (nI k) b σ = (F_X11_within N b (nI (sLo k)) (nI (sHi k)) σ).bind (fun q2 => if q2.1 = 0 then some ((Int32.ofInt (-2)), q2.2) else
      if nI k = (2 : Int32) then (F_X4_weigh N (q2.2.1, q2.2.2.1, (hwU3 q2.2.2.2.1 28 0 k b), q2.2.2.2.2.1, q2.2.2.2.2.2)).bind (fun q3 => some ((q2.2.2.2.1 28 0 k), q3.2))
      else some ((q2.2.2.2.1 28 0 k), (q2.2.1, q2.2.2.1, (hwU3 q2.2.2.2.1 28 0 k b), q2.2.2.2.2.1, q2.2.2.2.2.2))) := by
    intro σ
    unfold F_X11_set
    rw [show F_X11_within N (nI k) 0 4 σ = _ from x_rgY (Nat.zero_le k) (show k ≤ 4 by omega) (by decide), Option.bind_some, k10, if_neg (out_nI hk (by decide)), if_neg (out_nI hk (by decide))]
    simp only [nI_clamp (show k < 2 ^ 31 by omega)]
    rw [el, eh]
    congr 1
    funext q2
    rw [if_neg (out_nI hk (by decide)), if_neg (out_nI hk (by decide))]
  rcases rg_m b (sLo k) (sHi k) (by omega) (by omega) with ⟨v, v1, v2, rfl⟩ | hq
  rotate_left
  · refine Tw.st hw trivial (Int32.ofInt (-2)) (fun σ h => ?_) (fun σ h => ?_)
    · rw [xs, x_in_n hq, Option.bind_some, k00]
    · rw [m_set42 N k hk]; unfold F_X12_set_b42; rw [m_in_n hq, Option.bind_some, k00]
  have wf : Wf (hwU2 g 12 k (nI v)) := hw.u_set k hk v1 v2
  refine ⟨g 12 k, _, ⟨wf, trivial⟩, fun σ h => ?_, fun σ h => ⟨(hwU2 σ.1 12 k (nI v), σ.2.1, σ.2.2.1, σ.2.2.2.1, σ.2.2.2.2), ?_, KR.i, ?_⟩⟩
  · have h0 : HX0 (σ.1, σ.2.1, hwU3 σ.2.2.1 28 0 k (nI v), σ.2.2.2.1, σ.2.2.2.2) _ := HX0.u_set (show HX0 (σ.1, σ.2.1, σ.2.2.1, σ.2.2.2.1, σ.2.2.2.2) g from h.1) k hk (nI v)
    by_cases c2 : k = 2
    · obtain ⟨τ, e, kk, hx⟩ := x_weigh N hN wf _ h0
      refine ⟨τ, ?_, (KC.w (show 28 < 72 by decide)).trans kk.kc, hx⟩
      rw [xs, x_rgY v1 v2 (by omega), Option.bind_some, k10, if_pos (show nI k = 2 by rw [c2]; rfl)]
      show (F_X4_weigh N (σ.1, σ.2.1, hwU3 σ.2.2.1 28 0 k (nI v), σ.2.2.2.1, σ.2.2.2.2)).bind _ = _
      rw [e, Option.bind_some]
      show some (σ.2.2.1 28 0 k, τ) = _
      rw [h.1.set k hk]
    · refine ⟨(σ.1, σ.2.1, hwU3 σ.2.2.1 28 0 k (nI v), σ.2.2.2.1, σ.2.2.2.2), ?_, KC.w (show 28 < 72 by decide), h0, ?_⟩
      · rw [xs, x_rgY v1 v2 (by omega), Option.bind_some, k10, if_neg (neL 2 2 rfl ⟨c2, by omega, by decide⟩)]
        show some (σ.2.2.1 28 0 k, _) = _
        rw [h.1.set k hk]
      · refine h.2.cg ?_ ?_ ?_ ?_ ?_ ?_ ?_ ?_ ?_ ?_ <;> simp (disch := omega) only [hwU3_t, u2_t, u2_k]
  · rw [m_set42 N k hk]
    unfold F_X12_set_b42
    rw [m_rgY v1 v2 (by omega), Option.bind_some, k10, m_cnt N k hk, Option.bind_some, m_holds N k hk, Option.bind_some, rF h (by omega)]
  · rw [gM_u2 (by omega)]; exact congrArg (fun q => hwU2 q 12 k (nI v)) h

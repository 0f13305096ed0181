/-! THE PURE SIDE, 35: an image kept -/
theorem va_j {α : Type} {u v : Nat → α} {m j : Nat} (h : j < m) : va_cpy u v 0 0 m j = u j := by
  unfold va_cpy; rw [if_pos (by omega), Nat.zero_add, Nat.sub_zero]
theorem va_o {α : Type} {u v : Nat → α} {m j : Nat} (h : m ≤ j) : va_cpy u v 0 0 m j = v j := by
  unfold va_cpy; rw [if_neg (by omega)]
/-- the image's rows alone -/
def KI (σ τ : Mem) : Prop := τ.1 = σ.1 ∧ (∀ t, t < 29 ∨ 37 < t → τ.2.2.1 t = σ.2.2.1 t) ∧ τ.2.2.2 = σ.2.2.2
theorem KI.rfl_ (σ : Mem) : KI σ σ := ⟨rfl, fun _ _ => rfl, rfl⟩
theorem KI.trans {σ τ υ : Mem} (h : KI σ τ) (k : KI τ υ) : KI σ υ := ⟨k.1.trans h.1, fun t a => (k.2.1 t a).trans (h.2.1 t a), k.2.2.trans h.2.2⟩
theorem KI.kc {σ τ : Mem} (h : KI σ τ) : KC σ τ := ⟨by rw [h.1], fun t a _ => h.2.1 t (by omega), h.2.2⟩
theorem KI.r {σ : Mem} {t r : Nat} {u : Nat → Int32} (h : 29 ≤ t ∧ t ≤ 37) : KI σ (σ.1, σ.2.1, hwR3 σ.2.2.1 t r u, σ.2.2.2.1, σ.2.2.2.2) := ⟨rfl, fun a ha => hwR3_t (by omega), rfl⟩
theorem KI.w {σ : Mem} {t r k : Nat} {v : Int32} (h : 29 ≤ t ∧ t ≤ 37) : KI σ (σ.1, σ.2.1, hwU3 σ.2.2.1 t r k v, σ.2.2.2.1, σ.2.2.2.2) := ⟨rfl, fun a ha => hwU3_t (by omega), rfl⟩
theorem nar_b {v : Int32} (h : isN v 1) : vp_nar .boolean v = v := by
  obtain ⟨k, hk, rfl⟩ := h.ex
  match k, hk with
  | 0, _ => rfl
  | 1, _ => rfl
theorem im_91 {Y : Nat → Nat → Int32} {i : Nat} {f f' : Nat → Int32} : hwU2 (hwU2 (sRg (sRg Y 91 0 i f) 92 0 i f') 91 i (f i)) 92 i (f' i) = sRg (sRg Y 91 0 (i + 1) f) 92 0 (i + 1) f' := by
  have e1 := sRg_s (g := Y) (t := 91) (lo := 0) (n := i) (f := f)
  rw [Nat.zero_add] at e1
  have e2 := sRg_s (g := sRg Y 91 0 (i + 1) f) (t := 92) (lo := 0) (n := i) (f := f')
  rw [Nat.zero_add] at e2
  rw [← e2, ← e1]
  congr 1
  funext a k
  rw [hwU2_get]
  unfold sRg
  rw [hwU2_get]
  by_cases c : a = 91 ∧ k = i
  · rw [if_pos c, if_neg (fun q => by omega), if_pos c]
  · rw [if_neg c]
    by_cases d : a = 92 ∧ 0 ≤ k ∧ k < 0 + i
    · rw [if_pos d, if_pos d]
    · rw [if_neg d, if_neg d, if_neg c]
theorem x_carry_t25_t30 (N : Nat) (Y : Nat → Nat → Int32) : ∀ (q n i : Nat) (σ : Mem), i + q = 5 → q < n → HX0 σ (sRg Y 90 0 (5 * i) (Y 75)) →
    ∃ τ, F_X3_carry_t25_t30_b2 N n 5 (nI i) σ = some ((), τ) ∧ HX0 τ (sRg Y 90 0 25 (Y 75)) ∧ KI σ τ := by
  intro q
  induction q with
  | zero =>
    intro n i σ hi hn h
    cases n with
    | zero => cases hn
    | succ n =>
      have e : i = 5 := by omega
      subst e
      exact ⟨σ, by rw [F_X3_carry_t25_t30_b2.eq_2, if_pos (show (5 : Int32) ≤ nI 5 by decide)], h, KI.rfl_ σ⟩
  | succ q ih =>
    intro n i σ hi hn h
    cases n with
    | zero => cases hn
    | succ n =>
      have h2 : HX0 (σ.1, σ.2.1, hwR3 σ.2.2.1 31 i (va_cpy (σ.2.2.1 26 i) (σ.2.2.1 31 i) 0 0 5), σ.2.2.2.1, σ.2.2.2.2) (sRg (sRg Y 90 0 (5 * i) (Y 75)) 90 (5 * i) 5 (Y 75)) := by
        refine HX0.r_if_ (show HX0 (σ.1, σ.2.1, σ.2.2.1, σ.2.2.2.1, σ.2.2.2.2) _ from h) i 5 (by decide) _ _ (fun j hj => ?_) (fun j h1 h2 => by omega)
        rw [va_j hj, h.fo i j (by omega) hj, sRg_t (by decide)]
      have e := sRg_app (g := Y) (t := 90) (lo := 0) (n := 5 * i) (m := 5) (f := Y 75)
      rw [Nat.zero_add, show 5 * i + 5 = 5 * (i + 1) by omega] at e
      rw [e] at h2
      obtain ⟨τ, e1, h3, k⟩ := ih n (i + 1) _ (by omega) (by omega) h2
      refine ⟨τ, ?_, h3, (KI.r (show 29 ≤ 31 ∧ 31 ≤ 37 by decide)).trans k⟩
      rw [F_X3_carry_t25_t30_b2.eq_2, if_neg (geL_n 5 5 rfl (by omega) (by decide)), if_neg (geL_n 5 5 rfl (by omega) (by decide)), if_neg (out_nI (by omega) (by decide)), if_neg (out_nI (by omega) (by decide)), if_neg (by decide), nI_1, nI_clamp (by omega), show (5 : Int32).toNatClampNeg = 5 from by decide]
      exact e1
theorem x_carry_t56_t32 (N : Nat) (Y : Nat → Nat → Int32) : ∀ (q n i : Nat) (σ : Mem), i + q = 4 → q < n → HX0 σ (sRg Y 93 0 (5 * i) (Y 79)) →
    ∃ τ, F_X3_carry_t56_t32_b2 N n 5 (nI i) σ = some ((), τ) ∧ HX0 τ (sRg Y 93 0 20 (Y 79)) ∧ KI σ τ := by
  intro q
  induction q with
  | zero =>
    intro n i σ hi hn h
    cases n with
    | zero => cases hn
    | succ n =>
      have e : i = 4 := by omega
      subst e
      exact ⟨σ, by rw [F_X3_carry_t56_t32_b2.eq_2, if_pos (show (4 : Int32) ≤ nI 4 by decide)], h, KI.rfl_ σ⟩
  | succ q ih =>
    intro n i σ hi hn h
    cases n with
    | zero => cases hn
    | succ n =>
      have h2 : HX0 (σ.1, σ.2.1, hwR3 σ.2.2.1 33 i (va_cpy (σ.2.2.1 57 i) (σ.2.2.1 33 i) 0 0 5), σ.2.2.2.1, σ.2.2.2.2) (sRg (sRg Y 93 0 (5 * i) (Y 79)) 93 (5 * i) 5 (Y 79)) := by
        refine HX0.r_ig (show HX0 (σ.1, σ.2.1, σ.2.2.1, σ.2.2.2.1, σ.2.2.2.2) _ from h) i 5 (by decide) _ _ (fun j hj => ?_) (fun j h1 h2 => by omega)
        rw [va_j hj, h.sg i j (by omega) hj, sRg_t (by decide)]
      have e := sRg_app (g := Y) (t := 93) (lo := 0) (n := 5 * i) (m := 5) (f := Y 79)
      rw [Nat.zero_add, show 5 * i + 5 = 5 * (i + 1) by omega] at e
      rw [e] at h2
      obtain ⟨τ, e1, h3, k⟩ := ih n (i + 1) _ (by omega) (by omega) h2
      refine ⟨τ, ?_, h3, (KI.r (show 29 ≤ 33 ∧ 33 ≤ 37 by decide)).trans k⟩
      rw [F_X3_carry_t56_t32_b2.eq_2, if_neg (geL_n 4 4 rfl (by omega) (by decide)), if_neg (geL_n 4 4 rfl (by omega) (by decide)), if_neg (out_nI (by omega) (by decide)), if_neg (out_nI (by omega) (by decide)), if_neg (by decide), nI_1, nI_clamp (by omega), show (5 : Int32).toNatClampNeg = 5 from by decide]
      exact e1
theorem x_carry_t60_t36 (N : Nat) (Y : Nat → Nat → Int32) : ∀ (q n i : Nat) (σ : Mem), i + q = 4 → q < n → HX0 σ (sRg Y 94 0 (4 * i) (Y 80)) →
    ∃ τ, F_X3_carry_t60_t36_b2 N n 4 (nI i) σ = some ((), τ) ∧ HX0 τ (sRg Y 94 0 16 (Y 80)) ∧ KI σ τ := by
  intro q
  induction q with
  | zero =>
    intro n i σ hi hn h
    cases n with
    | zero => cases hn
    | succ n =>
      have e : i = 4 := by omega
      subst e
      exact ⟨σ, by rw [F_X3_carry_t60_t36_b2.eq_2, if_pos (show (4 : Int32) ≤ nI 4 by decide)], h, KI.rfl_ σ⟩
  | succ q ih =>
    intro n i σ hi hn h
    cases n with
    | zero => cases hn
    | succ n =>
      have h2 : HX0 (σ.1, σ.2.1, hwR3 σ.2.2.1 37 i (va_cpy (σ.2.2.1 61 i) (σ.2.2.1 37 i) 0 0 4), σ.2.2.2.1, σ.2.2.2.2) (sRg (sRg Y 94 0 (4 * i) (Y 80)) 94 (4 * i) 4 (Y 80)) := by
        refine HX0.r_it (show HX0 (σ.1, σ.2.1, σ.2.2.1, σ.2.2.2.1, σ.2.2.2.2) _ from h) i 4 (by decide) _ _ (fun j hj => ?_) (fun j h1 h2 => by omega)
        rw [va_j hj, h.ti i j (by omega) hj, sRg_t (by decide)]
      have e := sRg_app (g := Y) (t := 94) (lo := 0) (n := 4 * i) (m := 4) (f := Y 80)
      rw [Nat.zero_add, show 4 * i + 4 = 4 * (i + 1) by omega] at e
      rw [e] at h2
      obtain ⟨τ, e1, h3, k⟩ := ih n (i + 1) _ (by omega) (by omega) h2
      refine ⟨τ, ?_, h3, (KI.r (show 29 ≤ 37 ∧ 37 ≤ 37 by decide)).trans k⟩
      rw [F_X3_carry_t60_t36_b2.eq_2, if_neg (geL_n 4 4 rfl (by omega) (by decide)), if_neg (geL_n 4 4 rfl (by omega) (by decide)), if_neg (out_nI (by omega) (by decide)), if_neg (out_nI (by omega) (by decide)), if_neg (by decide), nI_1, nI_clamp (by omega), show (4 : Int32).toNatClampNeg = 4 from by decide]
      exact e1
theorem x_keep96 (N : Nat) (Y : Nat → Nat → Int32) (hY : ∀ k, k < 4 → isN (Y 78 k) 1) : ∀ (q n i : Nat) (σ : Mem), i + q = 4 → q < n → HX0 σ (sRg (sRg Y 91 0 i (Y 77)) 92 0 i (Y 78)) →
    ∃ τ, F_X3_keep_b96 N n (nI i) σ = some ((), τ) ∧ HX0 τ (sRg (sRg Y 91 0 4 (Y 77)) 92 0 4 (Y 78)) ∧ KI σ τ := by
  intro q
  induction q with
  | zero =>
    intro n i σ hi hn h
    cases n with
    | zero => cases hn
    | succ n =>
      have e : i = 4 := by omega
      subst e
      exact ⟨σ, by rw [F_X3_keep_b96.eq_2, if_pos (show (4 : Int32) ≤ nI 4 by decide)], h, KI.rfl_ σ⟩
  | succ q ih =>
    intro n i σ hi hn h
    cases n with
    | zero => cases hn
    | succ n =>
      have h2 : HX0 (σ.1, σ.2.1, hwU3 (hwU3 σ.2.2.1 34 0 i (Y 77 i)) 35 0 i (Y 78 i), σ.2.2.2.1, σ.2.2.2.2) (hwU2 (hwU2 (sRg (sRg Y 91 0 i (Y 77)) 92 0 i (Y 78)) 91 i (Y 77 i)) 92 i (Y 78 i)) := HX0.u_iw (HX0.u_id_ (show HX0 (σ.1, σ.2.1, σ.2.2.1, σ.2.2.2.1, σ.2.2.2.2) _ from h) i (Y 77 i)) i (Y 78 i)
      rw [im_91] at h2
      obtain ⟨τ, e1, h3, k⟩ := ih n (i + 1) _ (by omega) (by omega) h2
      refine ⟨τ, ?_, h3, ((KI.w (show 29 ≤ 34 ∧ 34 ≤ 37 by decide)).trans (KI.w (show 29 ≤ 35 ∧ 35 ≤ 37 by decide))).trans k⟩
      rw [F_X3_keep_b96.eq_2, if_neg (geL_n 4 4 rfl (by omega) (by decide)), if_neg (out_nI (by omega) (by decide)), if_neg (out_nI (by omega) (by decide)), if_neg (out_nI (by omega) (by decide)), if_neg (out_nI (by omega) (by decide)), nI_1, nI_clamp (by omega), h.dy i (by omega), h.wa i (by omega)]
      simp (disch := omega) only [sRg_t]
      rw [nar_b (hY i (by omega))]
      exact e1
theorem m_im_b108 (N : Nat) (Y : Nat → Nat → Int32) : ∀ (q n k : Nat) (σ : Mem), k + q = 16 → q < n → gM σ = sRg Y 94 0 k (Y 80) →
    ∃ τ, F_X12_image_b108 N n (nI k) σ = F_X12_image_b134 N N 0 τ ∧ KR σ τ ∧ gM τ = sRg Y 94 0 16 (Y 80) := by
  intro q
  induction q with
  | zero =>
    intro n k σ hk hn h
    cases n with
    | zero => cases hn
    | succ n =>
      have e : k = 16 := by omega
      subst e
      exact ⟨σ, by rw [F_X12_image_b108.eq_2, if_pos (show (16 : Int32) ≤ nI 16 by decide)], KR.rfl_ σ, h⟩
  | succ q ih =>
    intro n k σ hk hn h
    cases n with
    | zero => cases hn
    | succ n =>
      have e := sRg_s (g := Y) (t := 94) (lo := 0) (n := k) (f := Y 80)
      rw [Nat.zero_add] at e
      obtain ⟨τ, e1, k1, h1⟩ := ih n (k + 1) (σ.1, σ.2.1, hwU3 σ.2.2.1 94 0 k (Y 80 k), σ.2.2.2.1, σ.2.2.2.2) (by omega) (by omega) (by
        rw [gM_u3 (by decide) (by decide), ← e]
        exact congrArg (fun q => hwU2 q 94 k (Y 80 k)) h)
      refine ⟨τ, ?_, (KR.w (show 72 ≤ 94 by decide)).trans k1, h1⟩
      rw [F_X12_image_b108.eq_2, if_neg (geL_n 16 16 rfl (by omega) (by decide)), if_neg (out_nI (by omega) (by decide)), if_neg (out_nI (by omega) (by decide)), nI_1, nI_clamp (by omega), rA h (by decide) (by decide), sRg_t (by decide)]
      exact e1
theorem m_im_b82 (N : Nat) (Y : Nat → Nat → Int32) : ∀ (q n k : Nat) (σ : Mem), k + q = 20 → q < n → gM σ = sRg Y 93 0 k (Y 79) →
    ∃ τ, F_X12_image_b82 N n (nI k) σ = F_X12_image_b108 N N 0 τ ∧ KR σ τ ∧ gM τ = sRg Y 93 0 20 (Y 79) := by
  intro q
  induction q with
  | zero =>
    intro n k σ hk hn h
    cases n with
    | zero => cases hn
    | succ n =>
      have e : k = 20 := by omega
      subst e
      exact ⟨σ, by rw [F_X12_image_b82.eq_2, if_pos (show (20 : Int32) ≤ nI 20 by decide)], KR.rfl_ σ, h⟩
  | succ q ih =>
    intro n k σ hk hn h
    cases n with
    | zero => cases hn
    | succ n =>
      have e := sRg_s (g := Y) (t := 93) (lo := 0) (n := k) (f := Y 79)
      rw [Nat.zero_add] at e
      obtain ⟨τ, e1, k1, h1⟩ := ih n (k + 1) (σ.1, σ.2.1, hwU3 σ.2.2.1 93 0 k (Y 79 k), σ.2.2.2.1, σ.2.2.2.2) (by omega) (by omega) (by
        rw [gM_u3 (by decide) (by decide), ← e]
        exact congrArg (fun q => hwU2 q 93 k (Y 79 k)) h)
      refine ⟨τ, ?_, (KR.w (show 72 ≤ 93 by decide)).trans k1, h1⟩
      rw [F_X12_image_b82.eq_2, if_neg (geL_n 20 20 rfl (by omega) (by decide)), if_neg (out_nI (by omega) (by decide)), if_neg (out_nI (by omega) (by decide)), nI_1, nI_clamp (by omega), rA h (by decide) (by decide), sRg_t (by decide)]
      exact e1
theorem m_im_b56 (N : Nat) (Y : Nat → Nat → Int32) : ∀ (q n k : Nat) (σ : Mem), k + q = 25 → q < n → gM σ = sRg Y 90 0 k (Y 75) →
    ∃ τ, F_X12_image_b56 N n (nI k) σ = F_X12_image_b82 N N 0 τ ∧ KR σ τ ∧ gM τ = sRg Y 90 0 25 (Y 75) := by
  intro q
  induction q with
  | zero =>
    intro n k σ hk hn h
    cases n with
    | zero => cases hn
    | succ n =>
      have e : k = 25 := by omega
      subst e
      exact ⟨σ, by rw [F_X12_image_b56.eq_2, if_pos (show (25 : Int32) ≤ nI 25 by decide)], KR.rfl_ σ, h⟩
  | succ q ih =>
    intro n k σ hk hn h
    cases n with
    | zero => cases hn
    | succ n =>
      have e := sRg_s (g := Y) (t := 90) (lo := 0) (n := k) (f := Y 75)
      rw [Nat.zero_add] at e
      obtain ⟨τ, e1, k1, h1⟩ := ih n (k + 1) (σ.1, σ.2.1, hwU3 σ.2.2.1 90 0 k (Y 75 k), σ.2.2.2.1, σ.2.2.2.2) (by omega) (by omega) (by
        rw [gM_u3 (by decide) (by decide), ← e]
        exact congrArg (fun q => hwU2 q 90 k (Y 75 k)) h)
      refine ⟨τ, ?_, (KR.w (show 72 ≤ 90 by decide)).trans k1, h1⟩
      rw [F_X12_image_b56.eq_2, if_neg (geL_n 25 25 rfl (by omega) (by decide)), if_neg (out_nI (by omega) (by decide)), if_neg (out_nI (by omega) (by decide)), nI_1, nI_clamp (by omega), rA h (by decide) (by decide), sRg_t (by decide)]
      exact e1
theorem m_im_b32 (N : Nat) (Y : Nat → Nat → Int32) : ∀ (q n k : Nat) (σ : Mem), k + q = 5 → q < n → gM σ = sRg Y 89 0 k (Y 12) →
    ∃ τ, F_X12_image_b32 N n (nI k) σ = F_X12_image_b56 N N 0 τ ∧ KR σ τ ∧ gM τ = sRg Y 89 0 5 (Y 12) := by
  intro q
  induction q with
  | zero =>
    intro n k σ hk hn h
    cases n with
    | zero => cases hn
    | succ n =>
      have e : k = 5 := by omega
      subst e
      exact ⟨σ, by rw [F_X12_image_b32.eq_2, if_pos (show (5 : Int32) ≤ nI 5 by decide)], KR.rfl_ σ, h⟩
  | succ q ih =>
    intro n k σ hk hn h
    cases n with
    | zero => cases hn
    | succ n =>
      have e := sRg_s (g := Y) (t := 89) (lo := 0) (n := k) (f := Y 12)
      rw [Nat.zero_add] at e
      obtain ⟨τ, e1, k1, h1⟩ := ih n (k + 1) (σ.1, σ.2.1, hwU3 σ.2.2.1 89 0 k (Y 12 k), σ.2.2.2.1, σ.2.2.2.2) (by omega) (by omega) (by
        rw [gM_u3 (by decide) (by decide), ← e]
        exact congrArg (fun q => hwU2 q 89 k (Y 12 k)) h)
      refine ⟨τ, ?_, (KR.w (show 72 ≤ 89 by decide)).trans k1, h1⟩
      rw [F_X12_image_b32.eq_2, if_neg (geL_n 5 5 rfl (by omega) (by decide)), m_cnt N k (by omega), Option.bind_some, if_neg (out_nI (by omega) (by decide)), nI_1, nI_clamp (by omega), rF h (by omega), sRg_t (by decide)]
      exact e1
theorem m_im_b134 (N : Nat) (Y : Nat → Nat → Int32) : ∀ (q n k : Nat) (σ : Mem), k + q = 4 → q < n → gM σ = sRg (sRg Y 91 0 k (Y 77)) 92 0 k (Y 78) →
    ∃ τ, F_X12_image_b134 N n (nI k) σ = some (Y 12 10, τ) ∧ KR σ τ ∧ gM τ = sRg (sRg Y 91 0 4 (Y 77)) 92 0 4 (Y 78) := by
  intro q
  induction q with
  | zero =>
    intro n k σ hk hn h
    cases n with
    | zero => cases hn
    | succ n =>
      have e : k = 4 := by omega
      subst e
      refine ⟨σ, ?_, KR.rfl_ σ, h⟩
      rw [F_X12_image_b134.eq_2, if_pos (show (4 : Int32) ≤ nI 4 by decide), rF h (by decide), sRg_t (by decide), sRg_t (by decide)]
  | succ q ih =>
    intro n k σ hk hn h
    cases n with
    | zero => cases hn
    | succ n =>
      obtain ⟨τ, e1, k1, h1⟩ := ih n (k + 1) (σ.1, σ.2.1, hwU3 (hwU3 σ.2.2.1 91 0 k (Y 77 k)) 92 0 k (Y 78 k), σ.2.2.2.1, σ.2.2.2.2) (by omega) (by omega) (by
        rw [gM_u3 (by decide) (by decide), gM_u3 (by decide) (by decide), ← im_91]
        exact congrArg (fun q => hwU2 (hwU2 q 91 k (Y 77 k)) 92 k (Y 78 k)) h)
      refine ⟨τ, ?_, ((KR.w (show 72 ≤ 91 by decide)).trans (KR.w (show 72 ≤ 92 by decide))).trans k1, h1⟩
      rw [F_X12_image_b134.eq_2, if_neg (geL_n 4 4 rfl (by omega) (by decide)), if_neg (out_nI (by omega) (by decide)), if_neg (out_nI (by omega) (by decide)), if_neg (out_nI (by omega) (by decide)), if_neg (out_nI (by omega) (by decide)), nI_1, nI_clamp (by omega), rA h (by decide) (by decide), rA h (by decide) (by decide)]
      simp (disch := omega) only [sRg_t]
      exact e1
def sI0 (g : Nat → Nat → Int32) : Nat → Nat → Int32 := hwU2 (hwU2 (hwU2 (hwU2 g 12 29 1) 12 30 (g 12 10)) 12 34 (g 12 5)) 12 31 (g 12 28)
def sI1 (g : Nat → Nat → Int32) : Nat → Nat → Int32 := sRg (sI0 g) 89 0 5 (sI0 g 12)
def sI2 (g : Nat → Nat → Int32) : Nat → Nat → Int32 := sRg (sI1 g) 90 0 25 (sI1 g 75)
def sI3 (g : Nat → Nat → Int32) : Nat → Nat → Int32 := sRg (sI2 g) 93 0 20 (sI2 g 79)
def sI4 (g : Nat → Nat → Int32) : Nat → Nat → Int32 := sRg (sI3 g) 94 0 16 (sI3 g 80)
def sI5 (g : Nat → Nat → Int32) : Nat → Nat → Int32 := sRg (sRg (sI4 g) 91 0 4 (sI4 g 77)) 92 0 4 (sI4 g 78)
theorem sI_78 (g : Nat → Nat → Int32) : sI4 g 78 = g 78 := by
  unfold sI4 sI3 sI2 sI1 sI0; simp (disch := omega) only [sRg_t, u2_t]
theorem sI_77 (g : Nat → Nat → Int32) : sI4 g 77 = g 77 := by
  unfold sI4 sI3 sI2 sI1 sI0; simp (disch := omega) only [sRg_t, u2_t]
theorem sI_80 (g : Nat → Nat → Int32) : sI3 g 80 = g 80 := by
  unfold sI3 sI2 sI1 sI0; simp (disch := omega) only [sRg_t, u2_t]
theorem sI_79 (g : Nat → Nat → Int32) : sI2 g 79 = g 79 := by
  unfold sI2 sI1 sI0; simp (disch := omega) only [sRg_t, u2_t]
theorem sI_75 (g : Nat → Nat → Int32) : sI1 g 75 = g 75 := by
  unfold sI1 sI0; simp (disch := omega) only [sRg_t, u2_t]
theorem Wf.im5 {g : Nat → Nat → Int32} (h : Wf g) : Wf (sI5 g) := by
  unfold sI5 sI4 sI3 sI2 sI1
  have e75 := sI_75 g
  have e79 := sI_79 g
  have e80 := sI_80 g
  have e77 := sI_77 g
  have e78 := sI_78 g
  unfold sI4 sI3 sI2 sI1 at e78 e77
  unfold sI3 sI2 sI1 at e80
  unfold sI2 sI1 at e79
  unfold sI1 at e75
  rw [e75] at *
  rw [e79] at *
  rw [e80] at *
  rw [e77, e78]
  have s0 : ∀ k, k < 5 → sI0 g 12 k = g 12 k := fun k hk => by unfold sI0; simp (disch := omega) only [u2_k]
  have w0 : Wf (hwU2 (hwU2 (hwU2 g 12 30 (g 12 10)) 12 34 (g 12 5)) 12 31 (g 12 28)) := by
    refine Wf.u_ir (Wf.u_il (Wf.u_is h ⟨h.pl, Nat.le_refl _⟩) ⟨h.ly, ?_⟩) ⟨h.rl.1, ?_⟩
    · simp (disch := omega) only [u2_k]; exact Nat.le_refl _
    · simp (disch := omega) only [u2_k]; exact h.rl.2
  have w1 := w0.r_ih (g 12) h.dp h.wo h.se h.pu h.li
  have w2 := w1.u_im (isN_nI (k := 1) (by decide) (by decide)) (fun _ => by rw [sRg_in (by decide) (by decide)]; exact h.dp.2)
  have ex : hwU2 (sRg (hwU2 (hwU2 (hwU2 g 12 30 (g 12 10)) 12 34 (g 12 5)) 12 31 (g 12 28)) 89 0 5 (g 12)) 12 29 (nI 1) = sRg (sI0 g) 89 0 5 (sI0 g 12) := by
    have e0 : sI0 g = hwU2 (hwU2 (hwU2 (hwU2 g 12 30 (g 12 10)) 12 34 (g 12 5)) 12 31 (g 12 28)) 12 29 1 := by
      unfold sI0
      rw [u2_comm (k := 29) (j := 30) (by decide), u2_comm (k := 29) (j := 34) (by decide), u2_comm (k := 29) (j := 31) (by decide)]
    funext a k
    rw [hwU2_get]
    unfold sRg
    by_cases c : a = 12 ∧ k = 29
    · rw [if_pos c, if_neg (fun q => by omega), e0, c.1, c.2, hwU2_eq]; rfl
    · rw [if_neg c]
      by_cases d : a = 89 ∧ 0 ≤ k ∧ k < 0 + 5
      · rw [if_pos d, if_pos d, s0 k (by omega)]
      · rw [if_neg d, if_neg d, e0]; exact ((hwU2_get _ 12 29 a k 1).trans (if_neg c)).symm
  rw [ex] at w2
  exact ((((w2.r_if_ 0 25 _ (fun k _ h2 => h.fo k (by omega))).r_ig 0 20 _ (fun k _ h2 => h.sg k (by omega))).r_it 0 16 _ (fun k _ h2 => h.ti k (by omega))).r_id_ 0 4 _ (fun k _ h2 => h.dy k (by omega))).r_iw 0 4 _ (fun k _ h2 => h.wa k (by omega))
theorem w_image (N : Nat) (hN : 160 ≤ N) {g : Nat → Nat → Int32} (hw : Wf g) : Tw (F_X11_image N) (F_X12_image N) g (fun _ => True) := by
  refine ⟨g 12 10, sI5 g, ⟨hw.im5, trivial⟩, fun σ h => ?_, fun σ h => ?_⟩
  · have e0 : hwU2 (hwU2 (hwU2 (hwU2 g 12 29 1) 12 31 (g 12 28)) 12 34 (g 12 5)) 12 30 (g 12 10) = sI0 g := by
      unfold sI0
      rw [u2_comm (k := 31) (j := 34) (by decide), u2_comm (k := 31) (j := 30) (by decide), u2_comm (k := 34) (j := 30) (by decide)]
    have h0 := HX0.u_is (HX0.u_il (HX0.u_ir (HX0.u_im (show HX0 (σ.1, σ.2.1, σ.2.2.1, σ.2.2.2.1, σ.2.2.2.2) g from h.1) 1) (g 12 28)) (g 12 5)) (g 12 10)
    rw [e0] at h0
    have h1 := HX0.r_ih h0 (va_cpy (σ.2.2.1 28 0) (σ.2.2.1 29 0) 0 0 5) (sI0 g 12) (fun j hj => by rw [va_j hj]; exact h0.set j hj)
    obtain ⟨τ1, e1, h2, k1⟩ := x_carry_t25_t30 N (sI1 g) 5 N 0 _ (by omega) (by omega) (show HX0 _ (sRg (sI1 g) 90 0 0 (sI1 g 75)) by rw [sRg_0]; exact h1)
    obtain ⟨τ2, e2, h3, k2⟩ := x_carry_t56_t32 N (sI2 g) 4 N 0 τ1 (by omega) (by omega) (show HX0 _ (sRg (sI2 g) 93 0 0 (sI2 g 79)) by rw [sRg_0]; exact h2)
    obtain ⟨τ3, e3, h4, k3⟩ := x_carry_t60_t36 N (sI3 g) 4 N 0 τ2 (by omega) (by omega) (show HX0 _ (sRg (sI3 g) 94 0 0 (sI3 g 80)) by rw [sRg_0]; exact h3)
    obtain ⟨τ4, e4, h5, k4⟩ := x_keep96 N (sI4 g) (fun k hk => by rw [sI_78]; exact hw.wa k hk) 4 N 0 τ3 (by omega) (by omega) (show HX0 _ (sRg (sRg (sI4 g) 91 0 0 (sI4 g 77)) 92 0 0 (sI4 g 78)) by rw [sRg_0, sRg_0]; exact h4)
    have kk := ((k1.trans k2).trans k3).trans k4
    have ka : ∀ t, t < 29 ∨ 37 < t → τ4.2.2.1 t = σ.2.2.1 t := fun t ht => (kk.2.1 t ht).trans (hwR3_t (by omega))
    have ki : ∀ t, t ≠ 11 → τ4.1 t = σ.1 t := fun t ht => by
      rw [kk.1]
      show hwU2 (hwU2 (hwU2 (hwU2 σ.1 11 11 1) 11 10 (g 12 28)) 11 8 (g 12 5)) 11 9 (g 12 10) t = σ.1 t
      rw [u2_t ht, u2_t ht, u2_t ht, u2_t ht]
    refine ⟨τ4, ?_, ⟨ki 12 (by decide), fun t a _ => ka t (by omega), kk.2.2⟩, h5, ?_⟩
    · unfold F_X11_image F_X3_keep F_X3_carry_t25_t30
      rw [h.1.rl, h.1.ly, h.1.pl, show F_X3_carry_t25_t30_b2 N N 5 (0 : Int32) _ = _ from e1, Option.bind_some]
      unfold F_X3_carry_t56_t32
      rw [show F_X3_carry_t56_t32_b2 N N 5 (0 : Int32) _ = _ from e2, Option.bind_some]
      unfold F_X3_carry_t60_t36
      rw [show F_X3_carry_t60_t36_b2 N N 4 (0 : Int32) _ = _ from e3, Option.bind_some, show F_X3_keep_b96 N N (0 : Int32) _ = _ from e4, Option.bind_some]
      show some (τ4.1 4 5, τ4) = _
      rw [ki 4 (by decide), h.1.pl]
    · refine h.2.cg (ka 42 (by decide)) (ka 44 (by decide)) (ka 46 (by decide)) ?_ ?_ ?_ ?_ ?_ ?_ ?_ <;> (unfold sI5 sI4 sI3 sI2 sI1 sI0; simp (disch := omega) only [sRg_t, sRg_out, u2_t, u2_k])
  · have g0 : gM (hwU2 (hwU2 (hwU2 (hwU2 σ.1 12 29 1) 12 30 (g 12 10)) 12 34 (g 12 5)) 12 31 (g 12 28), σ.2.1, σ.2.2.1, σ.2.2.2.1, σ.2.2.2.2) = sI0 g := by
      rw [gM_u2 (by decide), gM_u2 (by decide), gM_u2 (by decide), gM_u2 (by decide)]
      unfold sI0
      exact congrArg (fun q => hwU2 (hwU2 (hwU2 (hwU2 q 12 29 1) 12 30 (g 12 10)) 12 34 (g 12 5)) 12 31 (g 12 28)) h
    obtain ⟨τ1, e1, k1, h1⟩ := m_im_b32 N (sI0 g) 5 N 0 _ (by omega) (by omega) (show gM _ = sRg (sI0 g) 89 0 0 (sI0 g 12) by rw [sRg_0]; exact g0)
    obtain ⟨τ2, e2, k2, h2⟩ := m_im_b56 N (sI1 g) 25 N 0 τ1 (by omega) (by omega) (show gM _ = sRg (sI1 g) 90 0 0 (sI1 g 75) by rw [sRg_0]; exact h1)
    obtain ⟨τ3, e3, k3, h3⟩ := m_im_b82 N (sI2 g) 20 N 0 τ2 (by omega) (by omega) (show gM _ = sRg (sI2 g) 93 0 0 (sI2 g 79) by rw [sRg_0]; exact h2)
    obtain ⟨τ4, e4, k4, h4⟩ := m_im_b108 N (sI3 g) 16 N 0 τ3 (by omega) (by omega) (show gM _ = sRg (sI3 g) 94 0 0 (sI3 g 80) by rw [sRg_0]; exact h3)
    obtain ⟨τ5, e5, k5, h5⟩ := m_im_b134 N (sI4 g) 4 N 0 τ4 (by omega) (by omega) (show gM _ = sRg (sRg (sI4 g) 91 0 0 (sI4 g 77)) 92 0 0 (sI4 g 78) by rw [sRg_0, sRg_0]; exact h4)
    have kr : KR σ (hwU2 (hwU2 (hwU2 (hwU2 σ.1 12 29 1) 12 30 (g 12 10)) 12 34 (g 12 5)) 12 31 (g 12 28), σ.2.1, σ.2.2.1, σ.2.2.2.1, σ.2.2.2.2) := ((KR.i.trans KR.i).trans KR.i).trans KR.i
    refine ⟨τ5, ?_, ((((kr.trans k1).trans k2).trans k3).trans k4).trans k5, h5⟩
    have e10 : sI4 g 12 10 = g 12 10 := by unfold sI4 sI3 sI2 sI1 sI0; simp (disch := omega) only [sRg_t, u2_k]
    rw [e10] at e5
    have e0 : F_X12_image N σ = F_X12_image_b32 N N 0 (hwU2 (hwU2 (hwU2 (hwU2 σ.1 12 29 1) 12 30 (σ.1 12 10)) 12 34 (σ.1 12 5)) 12 31 (σ.1 12 28), σ.2.1, σ.2.2.1, σ.2.2.2.1, σ.2.2.2.2) := rfl
    rw [e0, rF h (by decide), rF h (by decide), rF h (by decide)]
    exact e1.trans (e2.trans (e3.trans (e4.trans e5)))

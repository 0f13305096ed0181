/-! THE CONSTRUCTORS, 8: HowDeep() -/
theorem wX2_eq {ad : Nat → Nat → Nat} {K : Kc} {sc : Nat × (Nat → Int32)} {q1 : Nat} {u1 : Nat → Nat} {σ : Mem} (k : KIn (mI sc) σ) : WX2 K q1 u1 = hwW (adG ad q1 u1) K ksX2 σ := by
  rw [hwW_ki k ksX2 (by decide +kernel)]
  unfold WX2
  rw [upd28]
  rfl
set_option maxRecDepth 20000 in
theorem wX7_eq {ad : Nat → Nat → Nat} {K : Kc} {sc : Nat × (Nat → Int32)} (h0 q3 q4 q5 q6 q7 q8 q9 q10 : Nat) (u2 u3 u4 u5 u6 u7 u8 u9 : Nat → Nat) {σ : Mem} (k : KIn (mI sc) σ) : WX7 K q3 u2 = hwW (adX ad h0 q3 q4 q5 q6 q7 q8 q9 q10 u2 u3 u4 u5 u6 u7 u8 u9) K ksX7 σ := by
  rw [hwW_ki k ksX7 (by decide +kernel)]
  unfold WX7
  rfl
set_option maxRecDepth 20000 in
theorem wX10_eq {ad : Nat → Nat → Nat} {K : Kc} {sc : Nat × (Nat → Int32)} (h0 q3 q4 q5 q6 q7 q8 q9 q10 : Nat) (u2 u3 u4 u5 u6 u7 u8 u9 : Nat → Nat) {σ : Mem} (k : KIn (mI sc) σ) : WX10 K q4 u3 = hwW (adX ad h0 q3 q4 q5 q6 q7 q8 q9 q10 u2 u3 u4 u5 u6 u7 u8 u9) K ksX10 σ := by
  rw [hwW_ki k ksX10 (by decide +kernel)]
  unfold WX10
  rw [upd4 70 (Or.inl rfl)]
  rfl
set_option maxRecDepth 20000 in
theorem wX6_eq {ad : Nat → Nat → Nat} {K : Kc} {sc : Nat × (Nat → Int32)} (h0 q3 q4 q5 q6 q7 q8 q9 q10 : Nat) (u2 u3 u4 u5 u6 u7 u8 u9 : Nat → Nat) (q1 q2 : Nat) {σ : Mem} (k : KIn (mI sc) σ) (a1 : ad 1 0 = q1) (a2 : ad 2 0 = q2) : WX6 K q5 q1 q2 q3 u4 = hwW (adX ad h0 q3 q4 q5 q6 q7 q8 q9 q10 u2 u3 u4 u5 u6 u7 u8 u9) K ksX6 σ := by
  rw [hwW_ki k ksX6 (by decide +kernel)]
  subst a1
  subst a2
  unfold WX6
  rfl
set_option maxRecDepth 20000 in
theorem wX9_eq {ad : Nat → Nat → Nat} {K : Kc} {sc : Nat × (Nat → Int32)} (h0 q3 q4 q5 q6 q7 q8 q9 q10 : Nat) (u2 u3 u4 u5 u6 u7 u8 u9 : Nat → Nat) {σ : Mem} (k : KIn (mI sc) σ) : WX9 K q6 q5 u5 = hwW (adX ad h0 q3 q4 q5 q6 q7 q8 q9 q10 u2 u3 u4 u5 u6 u7 u8 u9) K ksX9 σ := by
  rw [hwW_ki k ksX9 (by decide +kernel)]
  unfold WX9
  rfl
set_option maxRecDepth 20000 in
theorem wX1_eq {ad : Nat → Nat → Nat} {K : Kc} {sc : Nat × (Nat → Int32)} (h0 q3 q4 q5 q6 q7 q8 q9 q10 : Nat) (u2 u3 u4 u5 u6 u7 u8 u9 : Nat → Nat) {σ : Mem} (k : KIn (mI sc) σ) : WX1 K q7 u6 = hwW (adX ad h0 q3 q4 q5 q6 q7 q8 q9 q10 u2 u3 u4 u5 u6 u7 u8 u9) K ksX1 σ := by
  rw [hwW_ki k ksX1 (by decide +kernel)]
  unfold WX1
  rfl
set_option maxRecDepth 20000 in
theorem wX5_eq {ad : Nat → Nat → Nat} {K : Kc} {sc : Nat × (Nat → Int32)} (h0 q3 q4 q5 q6 q7 q8 q9 q10 : Nat) (u2 u3 u4 u5 u6 u7 u8 u9 : Nat → Nat) {σ : Mem} (k : KIn (mI sc) σ) : WX5 K q8 q5 q6 u7 = hwW (adX ad h0 q3 q4 q5 q6 q7 q8 q9 q10 u2 u3 u4 u5 u6 u7 u8 u9) K ksX5 σ := by
  rw [hwW_ki k ksX5 (by decide +kernel)]
  unfold WX5
  rfl
set_option maxRecDepth 20000 in
theorem wX0_eq {ad : Nat → Nat → Nat} {K : Kc} {sc : Nat × (Nat → Int32)} (h0 q3 q4 q5 q6 q7 q8 q9 q10 : Nat) (u2 u3 u4 u5 u6 u7 u8 u9 : Nat → Nat) {σ : Mem} (k : KIn (mI sc) σ) : WX0 K q9 q5 q6 u8 = hwW (adX ad h0 q3 q4 q5 q6 q7 q8 q9 q10 u2 u3 u4 u5 u6 u7 u8 u9) K ksX0 σ := by
  rw [hwW_ki k ksX0 (by decide +kernel)]
  unfold WX0
  rfl
set_option maxRecDepth 20000 in
theorem wX3_eq {ad : Nat → Nat → Nat} {K : Kc} {sc : Nat × (Nat → Int32)} (h0 q3 q4 q5 q6 q7 q8 q9 q10 : Nat) (u2 u3 u4 u5 u6 u7 u8 u9 : Nat → Nat) (q1 : Nat) {σ : Mem} (k : KIn (mI sc) σ) (a1 : ad 1 0 = q1) : WX3 K q10 q1 q3 u9 = hwW (adX ad h0 q3 q4 q5 q6 q7 q8 q9 q10 u2 u3 u4 u5 u6 u7 u8 u9) K ksX3 σ := by
  rw [hwW_ki k ksX3 (by decide +kernel)]
  subst a1
  unfold WX3
  rfl
def BX11 (ad0 : Nat → Nat → Nat) (K : Kc) (D : va_G) (sc : Nat × (Nat → Int32)) (h0 : Nat) (A : Nat → Prop) (ad : Nat → Nat → Nat) (t : State) : Prop := ((∀ t, 200 ≤ t → ad t = ad0 t) ∧ ad 0 0 = h0) ∧ ∃ υ : Mem, (KIn (mI sc) υ ∧ Ag υ ∧ Wd υ) ∧ va_P D vwCl (hwW ad K ksX υ) t.heap ∧ va_D A (hwW ad K ksX υ)
theorem ksGL_cl : hwCl ksGL := hwCl_of (by decide +kernel) (by decide +kernel)
theorem adG_L {ad : Nat → Nat → Nat} {K : Kc} {q1 : Nat} {u1 : Nat → Nat} {σ : Mem} (h : ad 1 0 = q1) : hwW ad K ksL σ = hwW (adG ad q1 u1) K ksL σ := by
  refine (hwW_ad (fun p hp => ?_)).symm
  have c : ∀ p, p ∈ hwAll ksL → p = (1, 0) ∨ p.1 ∉ [1, 22, 23, 24, 25, 26, 27, 28] := by decide +kernel
  rcases c p hp with z | z
  · subst z; exact h.symm
  · rw [adG_o z]
theorem adX_GL {ad : Nat → Nat → Nat} {K : Kc} (h0 q3 q4 q5 q6 q7 q8 q9 q10 : Nat) (u2 u3 u4 u5 u6 u7 u8 u9 : Nat → Nat) {σ : Mem} : hwW ad K ksGL σ = hwW (adX ad h0 q3 q4 q5 q6 q7 q8 q9 q10 u2 u3 u4 u5 u6 u7 u8 u9) K ksGL σ := by
  refine (hwW_ad (fun p hp => ?_)).symm
  have c : ∀ p, p ∈ hwAll ksGL → p.1 ∉ [0, 4, 54, 55, 56, 57, 58, 59, 60, 61, 5, 68, 69, 70, 71, 8, 49, 50, 51, 52, 53, 6, 65, 66, 67, 7, 20, 21, 9, 10, 11, 29, 30, 31, 32, 33, 34, 35, 36, 37] := by decide +kernel
  rw [adX_o (c p hp)]
set_option maxHeartbeats 4000000 in
set_option maxRecDepth 100000 in
theorem k_X11 (l : Launch) (ad0 : Nat → Nat → Nat) (K : Kc) (base : Nat) (D : va_G) (sc : Nat × (Nat → Int32)) (h0 : Nat) : ∀ sz, cMet l yX11_init cX11_init 1 120 7000 111 2094 ad0 K base D sc [.ref h0] [(h0, .inr (11, [.null, .null, .null, .null, .null, .null, .null, .null, .null, .null]))] (BX11 ad0 K D sc h0 (va_A [(h0, .inr (11, [.null, .null, .null, .null, .null, .null, .null, .null, .null, .null]))] sz)) sz := by
  refine c_met (B := fun sz => BX11 ad0 K D sc h0 (va_A [(h0, .inr (11, [.null, .null, .null, .null, .null, .null, .null, .null, .null, .null]))] sz)) (by decide +kernel) rfl (Nat.le_of_ble_eq_true rfl) (fun {p e s m below meth c} ls F hr hlocks hl hP hD hAb => ?_)
  have F : cFr p c cX11_init 1 meth m s [.ref h0].toArray RX11 ad0 K base D sc := F
  obtain ⟨hx, hb, hml, hown, hts, hin, hG⟩ := id F
  have hl : lv_has ls 1 [(0, .ref h0)] := hl
  have hA : ∀ q, s.heap.size ≤ q → va_A [(h0, .inr (11, [.null, .null, .null, .null, .null, .null, .null, .null, .null, .null]))] s.heap.size q := fun q h => Or.inr h
  have hS : va_S (va_A [(h0, .inr (11, [.null, .null, .null, .null, .null, .null, .null, .null, .null, .null]))] s.heap.size) s.heap s.heap [] := va_S.rf
  have hP : va_P D vwCl [(h0, .inr (11, [.null, .null, .null, .null, .null, .null, .null, .null, .null, .null]))] s.heap := hP
  refine lv_aload_n hx hb dX11_init_0 rfl (lv_at hl 0 rfl) ?_
  refine c_obj F 99 (by decide +kernel) hl.1 dX11_init_1 ⟨Nat.le_of_ble_eq_true rfl, Nat.le_of_ble_eq_true rfl⟩ ?_
  refine lv_aload_n hx hb dX11_init_4 rfl (lv_at hl 0 rfl) ?_
  refine c_new F 102 103 75 (ci := 2) (C := RX2) (T := TX2) (N := 7) rfl tyX2 tyX2_ok (by decide +kernel) (by decide +kernel) (by decide +kernel) hP hD hS hA [.null, .null, .null, .null, .null, .null, .int 0] (by decide) (Nat.le_of_ble_eq_true rfl) (Nat.le_of_ble_eq_true rfl) dX11_init_5 (fun q1 H hP hD hS => ?_)
  have hP : va_P D vwCl (((h0, .inr (11, [.null, .null, .null, .null, .null, .null, .null, .null, .null, .null])) :: []) ++ [(q1, .inr (2, [.null, .null, .null, .null, .null, .null, .int 0]))]) H := hP
  have hD : va_D (va_A [(h0, .inr (11, [.null, .null, .null, .null, .null, .null, .null, .null, .null, .null]))] s.heap.size) (((h0, .inr (11, [.null, .null, .null, .null, .null, .null, .null, .null, .null, .null])) :: []) ++ [(q1, .inr (2, [.null, .null, .null, .null, .null, .null, .int 0]))]) := hD
  refine W.widen (k := 1) (n := 7) (Nat.le_of_ble_eq_true rfl) (Nat.le_of_ble_eq_true rfl) ?_
  refine lv_dup hx hb dX11_init_8 rfl ?_
  refine c_call F (As := []) 106 75 0 105 (k_X2 l ad0 K base D sc q1) (by decide +kernel) (by decide +kernel) (Or.inr (List.mem_of_getElem? (i := 0) rfl)) (by decide +kernel) rfl ⟨by decide +kernel, by decide +kernel, (by decide +kernel : (parseMethodDescriptor yX2_init.desc).map (fun d => d.parameters.length) = some 0)⟩ ⟨Nat.le_of_ble_eq_true rfl, Nat.le_of_ble_eq_true rfl⟩ hP hD hS hA hAb hl.1 (Nat.le_of_ble_eq_true rfl) dX11_init_9 ⟨Nat.le_of_ble_eq_true rfl, Nat.le_of_ble_eq_true rfl⟩ (fun u1 H locs hP hD hS => ?_)
  have hP : va_P D vwCl ((h0, .inr (11, [.null, .null, .null, .null, .null, .null, .null, .null, .null, .null])) :: (WX2 K q1 u1)) H := hP
  have hD : va_D (va_A [(h0, .inr (11, [.null, .null, .null, .null, .null, .null, .null, .null, .null, .null]))] s.heap.size) ((h0, .inr (11, [.null, .null, .null, .null, .null, .null, .null, .null, .null, .null])) :: (WX2 K q1 u1)) := hD
  refine W.widen (k := 12) (n := 62) (Nat.le_of_ble_eq_true rfl) (Nat.le_of_ble_eq_true rfl) ?_
  refine c_putF F 0 701 (ci := 11) (N := 10) (T := TX11) (v := .ref q1) (ty := .object "HowDeep$Ground") rfl (by decide +kernel) (Nat.le_of_ble_eq_true rfl) rfl rfl (by decide +kernel) rfl rfl (Nat.le_of_ble_eq_true rfl) hP hD hS dX11_init_12 (fun H locs hP hD hS => ?_)
  have hP : va_P D vwCl ((h0, .inr (11, [.ref q1, .null, .null, .null, .null, .null, .null, .null, .null, .null])) :: (WX2 K q1 u1)) H := hP
  have hD : va_D (va_A [(h0, .inr (11, [.null, .null, .null, .null, .null, .null, .null, .null, .null, .null]))] s.heap.size) ((h0, .inr (11, [.ref q1, .null, .null, .null, .null, .null, .null, .null, .null, .null])) :: (WX2 K q1 u1)) := hD
  refine lv_aload_n hx hb dX11_init_15 rfl (lv_at hl 0 rfl) ?_
  refine c_new F 154 155 76 (ci := 4) (C := RX4) (T := TX4) (N := 11) rfl tyX4 tyX4_ok (by decide +kernel) (by decide +kernel) (by decide +kernel) hP hD hS hA [.null, .null, .null, .null, .null, .null, .null, .null, .null, .int 0, .int 0] (by decide) (Nat.le_of_ble_eq_true rfl) (Nat.le_of_ble_eq_true rfl) dX11_init_16 (fun q2 H hP hD hS => ?_)
  have hP : va_P D vwCl (((h0, .inr (11, [.ref q1, .null, .null, .null, .null, .null, .null, .null, .null, .null])) :: (WX2 K q1 u1)) ++ [(q2, .inr (4, [.null, .null, .null, .null, .null, .null, .null, .null, .null, .int 0, .int 0]))]) H := hP
  have hD : va_D (va_A [(h0, .inr (11, [.null, .null, .null, .null, .null, .null, .null, .null, .null, .null]))] s.heap.size) (((h0, .inr (11, [.ref q1, .null, .null, .null, .null, .null, .null, .null, .null, .null])) :: (WX2 K q1 u1)) ++ [(q2, .inr (4, [.null, .null, .null, .null, .null, .null, .null, .null, .null, .int 0, .int 0]))]) := hD
  refine W.widen (k := 13) (n := 73) (Nat.le_of_ble_eq_true rfl) (Nat.le_of_ble_eq_true rfl) ?_
  refine lv_dup hx hb dX11_init_19 rfl ?_
  refine lv_aload_n hx hb dX11_init_20 rfl (lv_at hl 0 rfl) ?_
  refine c_get F 0 701 (ci := 11) (N := 10) (T := TX11) (v := .ref q1) rfl (by decide +kernel) (Nat.le_of_ble_eq_true rfl) rfl hP dX11_init_21 ?_
  refine c_callB F (As := [.ref q1]) 158 76 156 157 (k_X4 l ad0 K base D sc q2 q1) (by decide +kernel) (by decide +kernel) (Or.inl (by decide +kernel)) (by decide +kernel) rfl ⟨by decide +kernel, by decide +kernel, (by decide +kernel : (parseMethodDescriptor yX4_init.desc).map (fun d => d.parameters.length) = some 1)⟩ ⟨Nat.le_of_ble_eq_true rfl, Nat.le_of_ble_eq_true rfl⟩ hP hD hS hA hAb hl.1 (Nat.le_of_ble_eq_true rfl) dX11_init_24 ⟨Nat.le_of_ble_eq_true rfl, Nat.le_of_ble_eq_true rfl⟩ (fun adl t H locs ht hB hj hS => ?_)
  obtain ⟨⟨hi0, a20, a10⟩, bP, bD⟩ := hB
  rw [ht] at bP
  obtain ⟨hP, hD⟩ := hj _ bP bD
  have hP : va_P D vwCl ((h0, .inr (11, [.ref q1, .null, .null, .null, .null, .null, .null, .null, .null, .null])) :: ((WX2 K q1 u1) ++ (hwW adl K ksL (mR sc 69)))) H := hP
  have hD : va_D (va_A [(h0, .inr (11, [.null, .null, .null, .null, .null, .null, .null, .null, .null, .null]))] s.heap.size) ((h0, .inr (11, [.ref q1, .null, .null, .null, .null, .null, .null, .null, .null, .null])) :: ((WX2 K q1 u1) ++ (hwW adl K ksL (mR sc 69)))) := hD
  refine W.widen (k := 44) (n := 1617) (Nat.le_of_ble_eq_true rfl) (Nat.le_of_ble_eq_true rfl) ?_
  refine c_putF F 1 702 (ci := 11) (N := 10) (T := TX11) (v := .ref q2) (ty := .object "HowDeep$Laws") rfl (by decide +kernel) (Nat.le_of_ble_eq_true rfl) rfl rfl (by decide +kernel) rfl rfl (Nat.le_of_ble_eq_true rfl) hP hD hS dX11_init_27 (fun H locs hP hD hS => ?_)
  have hP : va_P D vwCl ((h0, .inr (11, [.ref q1, .ref q2, .null, .null, .null, .null, .null, .null, .null, .null])) :: ((WX2 K q1 u1) ++ (hwW adl K ksL (mR sc 69)))) H := hP
  have hD : va_D (va_A [(h0, .inr (11, [.null, .null, .null, .null, .null, .null, .null, .null, .null, .null]))] s.heap.size) ((h0, .inr (11, [.ref q1, .ref q2, .null, .null, .null, .null, .null, .null, .null, .null])) :: ((WX2 K q1 u1) ++ (hwW adl K ksL (mR sc 69)))) := hD
  refine lv_aload_n hx hb dX11_init_30 rfl (lv_at hl 0 rfl) ?_
  refine c_get F 1 702 (ci := 11) (N := 10) (T := TX11) (v := .ref q2) rfl (by decide +kernel) (Nat.le_of_ble_eq_true rfl) rfl hP dX11_init_31 ?_
  obtain ⟨τ, υ, fe1, fe2, ki, ag, wd, hsc⟩ := i_all sc
  obtain ⟨ad, had⟩ : ∃ ad, ad = adG adl q1 u1 := ⟨_, rfl⟩
  have hi : ∀ t, 200 ≤ t → ad t = ad0 t := fun t ht => by rw [had, adG_o (fun z => by simp only [List.mem_cons, List.not_mem_nil, or_false] at z; omega), hi0 t ht]
  have b20 : ad 2 0 = q2 := by rw [had, adG_o (by decide)]; exact a20
  have b10 : ad 1 0 = q1 := by rw [had]; rfl
  have eT : (WX2 K q1 u1 ++ hwW adl K ksL (mR sc 69)) = hwW ad K ksGL (mR sc 69) := by
    rw [had, wX2_eq (ad := adl) (mR_ki sc 69), adG_L (u1 := u1) a10]
    exact (hwW_app ksX2 ksL).symm
  rw [eT] at hP hD
  have hP : va_P D vwCl ((h0, .inr (11, [.ref q1, .ref q2, .null, .null, .null, .null, .null, .null, .null, .null])) :: hwW ad K ksGL (mR sc 69)) H := hP
  have hD : va_D (va_A [(h0, .inr (11, [.null, .null, .null, .null, .null, .null, .null, .null, .null, .null]))] s.heap.size) ((h0, .inr (11, [.ref q1, .ref q2, .null, .null, .null, .null, .null, .null, .null, .null])) :: hwW ad K ksGL (mR sc 69)) := hD
  have hPk : va_P D vwCl (hwW ad K ksGL (mR sc 69)) H := fun k x hx => hP (k + 1) x hx
  have hDk : va_D (va_A [(h0, .inr (11, [.null, .null, .null, .null, .null, .null, .null, .null, .null, .null]))] s.heap.size) (hwW ad K ksGL (mR sc 69)) := ⟨fun i j x y hi hj e => Nat.succ.inj (hD.1 (i + 1) (j + 1) x y hi hj e), fun k x hx => hD.2 (k + 1) x hx⟩
  have hDD := hwW_DD hDk (fun q h => h) (by decide +kernel)
  have hAA : ∀ x, hwAd ad ksGL x → (va_A [(h0, .inr (11, [.null, .null, .null, .null, .null, .null, .null, .null, .null, .null]))] s.heap.size) x := fun x ⟨q, hq, hx9⟩ => by
    obtain ⟨j9, -, h4⟩ := hwW_get (ad := ad) (K := K) (σ := mR sc 69) hq
    rw [← hx9]
    exact hDk.2 j9 _ h4
  have nh : ¬ hwAd ad ksGL h0 := fun ⟨q, hq, hx9⟩ => by
    obtain ⟨j9, -, h4⟩ := hwW_get (ad := ad) (K := K) (σ := mR sc 69) hq
    exact absurd (hD.1 0 (j9 + 1) _ _ rfl h4 hx9.symm) (by omega)
  rw [← b20]
  refine c_hV F (ad := ad) (A' := hwAd ad ksGL) (ks := ksGL) (σ := mR sc 69) (Qp := fun r τ1 => r = some (.inl (nI 0)) ∧ τ = τ1) ksGL_cl hDD hAA hAb (fun t ht => by rw [hi t ht]) 0 95 mX4_readTape 299 2 4 12 [] (by decide +kernel) rt_ok.1 rt_ok.2.1 rfl (by decide +kernel) rfl rfl rfl (T_X4_readTape 0 200 _ _ _ _ fe1 ⟨rfl, rfl⟩) (fun v hv => ?_) (by rw [(mR_at sc 69).2.2.2.2.2.2]; rfl) ⟨Nat.le_of_ble_eq_true rfl, Nat.le_of_ble_eq_true rfl⟩ hPk hS hl.1 (Nat.le_of_ble_eq_true rfl) dX11_init_34 ⟨Nat.le_of_ble_eq_true rfl, Nat.le_of_ble_eq_true rfl⟩ (fun r τ1 H1 locs hQ hPk1 _ hz1 hk1 hS => ?_)
  · simp only [List.mem_cons, List.not_mem_nil, or_false] at hv
    rw [hv]
    exact Or.inl (by decide)
  obtain ⟨rfl, rfl⟩ := hQ
  have lt0 : h0 < H.size := (hP 0 _ rfl).lt
  have hP : va_P D vwCl ((h0, .inr (11, [.ref q1, .ref q2, .null, .null, .null, .null, .null, .null, .null, .null])) :: hwW ad K ksGL (τ)) H1 := fun k x hx => by
    cases k with
    | succ k => exact hPk1 k x hx
    | zero =>
      cases hx
      exact va_P.kept (D := D) (cl := vwCl) (ws := [(h0, .inr (11, [.ref q1, .ref q2, .null, .null, .null, .null, .null, .null, .null, .null]))]) (H := H) (fun k9 x9 h9 => by
        cases k9 with
        | zero => cases h9; exact hP 0 _ rfl
        | succ k9 => cases h9) (fun k9 x9 h9 => by
        cases k9 with
        | zero => cases h9; exact hk1 h0 lt0 nh
        | succ k9 => cases h9) 0 _ rfl
  have hDn := hwW_D hDk (τ)
  have hD : va_D (va_A [(h0, .inr (11, [.null, .null, .null, .null, .null, .null, .null, .null, .null, .null]))] s.heap.size) ((h0, .inr (11, [.ref q1, .ref q2, .null, .null, .null, .null, .null, .null, .null, .null])) :: hwW ad K ksGL (τ)) := ⟨fun i j x y hi hj e => by
    have sw : ∀ (i : Nat) (x : Nat × va_E), ((h0, .inr (11, [.ref q1, .ref q2, .null, .null, .null, .null, .null, .null, .null, .null])) :: hwW ad K ksGL (τ))[i]? = some x → ∃ x', ((h0, .inr (11, [.ref q1, .ref q2, .null, .null, .null, .null, .null, .null, .null, .null])) :: hwW ad K ksGL (mR sc 69))[i]? = some x' ∧ x'.1 = x.1 := fun i x hx => by
      cases i with
      | zero => cases hx; exact ⟨_, rfl, rfl⟩
      | succ i =>
        obtain ⟨q, e1, -, rfl⟩ := hwW_at (show (hwW ad K ksGL (τ))[i]? = some x from hx)
        exact ⟨(ad q.1 q.2, hwCo ad K (mR sc 69) q), (by show (hwW ad K ksGL (mR sc 69))[i]? = _; unfold hwW; rw [List.getElem?_map, e1]; rfl), rfl⟩
    obtain ⟨x1, s1, s2⟩ := sw i x hi
    obtain ⟨y1, s3, s4⟩ := sw j y hj
    exact hD.1 i j x1 y1 s1 s3 (by rw [s2, s4]; exact e), fun k x hx => by
    cases k with
    | zero => cases hx; exact hD.2 0 _ rfl
    | succ k => exact hDn.2 k x hx⟩
  clear hPk hDk hDD hAA nh hPk1 hk1 lt0 hDn hz1
  generalize H1 = H at hP hS
  show W p l e _ s m _ below meth c _ _ _ _ _ (F0 m 37 ls [.int (nI 0)])
  refine lv_pop hx hb dX11_init_37 rfl ?_
  refine lv_aload_n hx hb dX11_init_38 rfl (lv_at hl 0 rfl) ?_
  refine c_get F 1 702 (ci := 11) (N := 10) (T := TX11) (v := .ref q2) rfl (by decide +kernel) (Nat.le_of_ble_eq_true rfl) rfl hP dX11_init_39 ?_
  have hPk : va_P D vwCl (hwW ad K ksGL (τ)) H := fun k x hx => hP (k + 1) x hx
  have hDk : va_D (va_A [(h0, .inr (11, [.null, .null, .null, .null, .null, .null, .null, .null, .null, .null]))] s.heap.size) (hwW ad K ksGL (τ)) := ⟨fun i j x y hi hj e => Nat.succ.inj (hD.1 (i + 1) (j + 1) x y hi hj e), fun k x hx => hD.2 (k + 1) x hx⟩
  have hDD := hwW_DD hDk (fun q h => h) (by decide +kernel)
  have hAA : ∀ x, hwAd ad ksGL x → (va_A [(h0, .inr (11, [.null, .null, .null, .null, .null, .null, .null, .null, .null, .null]))] s.heap.size) x := fun x ⟨q, hq, hx9⟩ => by
    obtain ⟨j9, -, h4⟩ := hwW_get (ad := ad) (K := K) (σ := τ) hq
    rw [← hx9]
    exact hDk.2 j9 _ h4
  have nh : ¬ hwAd ad ksGL h0 := fun ⟨q, hq, hx9⟩ => by
    obtain ⟨j9, -, h4⟩ := hwW_get (ad := ad) (K := K) (σ := τ) hq
    exact absurd (hD.1 0 (j9 + 1) _ _ rfl h4 hx9.symm) (by omega)
  rw [← b20]
  refine c_hV F (ad := ad) (A' := hwAd ad ksGL) (ks := ksGL) (σ := τ) (Qp := fun r τ1 => r = none ∧ υ = τ1) ksGL_cl hDD hAA hAb (fun t ht => by rw [hi t ht]) 0 6 mX4_weigh 419 2 4 12 [] (by decide +kernel) rt_ok.2.2.1 rt_ok.2.2.2 rfl (by decide +kernel) rfl rfl rfl (T_X4_weigh 0 200 _ _ _ _ fe2 ⟨rfl, rfl⟩) (fun v hv => ?_) (by exact hsc) ⟨Nat.le_of_ble_eq_true rfl, Nat.le_of_ble_eq_true rfl⟩ hPk hS hl.1 (Nat.le_of_ble_eq_true rfl) dX11_init_42 ⟨Nat.le_of_ble_eq_true rfl, Nat.le_of_ble_eq_true rfl⟩ (fun r τ1 H1 locs hQ hPk1 _ hz1 hk1 hS => ?_)
  · simp only [List.mem_cons, List.not_mem_nil, or_false] at hv
    rw [hv]
    exact Or.inl (by decide)
  obtain ⟨rfl, rfl⟩ := hQ
  have lt0 : h0 < H.size := (hP 0 _ rfl).lt
  have hP : va_P D vwCl ((h0, .inr (11, [.ref q1, .ref q2, .null, .null, .null, .null, .null, .null, .null, .null])) :: hwW ad K ksGL (υ)) H1 := fun k x hx => by
    cases k with
    | succ k => exact hPk1 k x hx
    | zero =>
      cases hx
      exact va_P.kept (D := D) (cl := vwCl) (ws := [(h0, .inr (11, [.ref q1, .ref q2, .null, .null, .null, .null, .null, .null, .null, .null]))]) (H := H) (fun k9 x9 h9 => by
        cases k9 with
        | zero => cases h9; exact hP 0 _ rfl
        | succ k9 => cases h9) (fun k9 x9 h9 => by
        cases k9 with
        | zero => cases h9; exact hk1 h0 lt0 nh
        | succ k9 => cases h9) 0 _ rfl
  have hDn := hwW_D hDk (υ)
  have hD : va_D (va_A [(h0, .inr (11, [.null, .null, .null, .null, .null, .null, .null, .null, .null, .null]))] s.heap.size) ((h0, .inr (11, [.ref q1, .ref q2, .null, .null, .null, .null, .null, .null, .null, .null])) :: hwW ad K ksGL (υ)) := ⟨fun i j x y hi hj e => by
    have sw : ∀ (i : Nat) (x : Nat × va_E), ((h0, .inr (11, [.ref q1, .ref q2, .null, .null, .null, .null, .null, .null, .null, .null])) :: hwW ad K ksGL (υ))[i]? = some x → ∃ x', ((h0, .inr (11, [.ref q1, .ref q2, .null, .null, .null, .null, .null, .null, .null, .null])) :: hwW ad K ksGL (τ))[i]? = some x' ∧ x'.1 = x.1 := fun i x hx => by
      cases i with
      | zero => cases hx; exact ⟨_, rfl, rfl⟩
      | succ i =>
        obtain ⟨q, e1, -, rfl⟩ := hwW_at (show (hwW ad K ksGL (υ))[i]? = some x from hx)
        exact ⟨(ad q.1 q.2, hwCo ad K (τ) q), (by show (hwW ad K ksGL (τ))[i]? = _; unfold hwW; rw [List.getElem?_map, e1]; rfl), rfl⟩
    obtain ⟨x1, s1, s2⟩ := sw i x hi
    obtain ⟨y1, s3, s4⟩ := sw j y hj
    exact hD.1 i j x1 y1 s1 s3 (by rw [s2, s4]; exact e), fun k x hx => by
    cases k with
    | zero => cases hx; exact hD.2 0 _ rfl
    | succ k => exact hDn.2 k x hx⟩
  clear hPk hDk hDD hAA nh hPk1 hk1 lt0 hDn hz1
  generalize H1 = H at hP hS
  show W p l e _ s m _ below meth c _ _ _ _ _ (F0 m 45 ls [])
  refine lv_aload_n hx hb dX11_init_45 rfl (lv_at hl 0 rfl) ?_
  refine c_new F 451 452 85 (ci := 7) (C := RX7) (T := TX7) (N := 6) rfl tyX7 tyX7_ok (by decide +kernel) (by decide +kernel) (by decide +kernel) hP hD hS hA [.null, .null, .null, .null, .null, .int 0] (by decide) (Nat.le_of_ble_eq_true rfl) (Nat.le_of_ble_eq_true rfl) dX11_init_46 (fun q3 H hP hD hS => ?_)
  have hP : va_P D vwCl (((h0, .inr (11, [.ref q1, .ref q2, .null, .null, .null, .null, .null, .null, .null, .null])) :: (hwW ad K ksGL υ)) ++ [(q3, .inr (7, [.null, .null, .null, .null, .null, .int 0]))]) H := hP
  have hD : va_D (va_A [(h0, .inr (11, [.null, .null, .null, .null, .null, .null, .null, .null, .null, .null]))] s.heap.size) (((h0, .inr (11, [.ref q1, .ref q2, .null, .null, .null, .null, .null, .null, .null, .null])) :: (hwW ad K ksGL υ)) ++ [(q3, .inr (7, [.null, .null, .null, .null, .null, .int 0]))]) := hD
  refine W.widen (k := 45) (n := 1623) (Nat.le_of_ble_eq_true rfl) (Nat.le_of_ble_eq_true rfl) ?_
  refine lv_dup hx hb dX11_init_49 rfl ?_
  refine c_call F (As := []) 455 85 0 454 (k_X7 l ad0 K base D sc q3) (by decide +kernel) (by decide +kernel) (Or.inr (List.mem_of_getElem? (i := 2) rfl)) (by decide +kernel) rfl ⟨by decide +kernel, by decide +kernel, (by decide +kernel : (parseMethodDescriptor yX7_init.desc).map (fun d => d.parameters.length) = some 0)⟩ ⟨Nat.le_of_ble_eq_true rfl, Nat.le_of_ble_eq_true rfl⟩ hP hD hS hA hAb hl.1 (Nat.le_of_ble_eq_true rfl) dX11_init_50 ⟨Nat.le_of_ble_eq_true rfl, Nat.le_of_ble_eq_true rfl⟩ (fun u2 H locs hP hD hS => ?_)
  have hP : va_P D vwCl ((h0, .inr (11, [.ref q1, .ref q2, .null, .null, .null, .null, .null, .null, .null, .null])) :: ((hwW ad K ksGL υ) ++ (WX7 K q3 u2))) H := hP
  have hD : va_D (va_A [(h0, .inr (11, [.null, .null, .null, .null, .null, .null, .null, .null, .null, .null]))] s.heap.size) ((h0, .inr (11, [.ref q1, .ref q2, .null, .null, .null, .null, .null, .null, .null, .null])) :: ((hwW ad K ksGL υ) ++ (WX7 K q3 u2))) := hD
  refine W.widen (k := 62) (n := 1699) (Nat.le_of_ble_eq_true rfl) (Nat.le_of_ble_eq_true rfl) ?_
  refine c_putF F 2 703 (ci := 11) (N := 10) (T := TX11) (v := .ref q3) (ty := .object "HowDeep$Places") rfl (by decide +kernel) (Nat.le_of_ble_eq_true rfl) rfl rfl (by decide +kernel) rfl rfl (Nat.le_of_ble_eq_true rfl) hP hD hS dX11_init_53 (fun H locs hP hD hS => ?_)
  have hP : va_P D vwCl ((h0, .inr (11, [.ref q1, .ref q2, .ref q3, .null, .null, .null, .null, .null, .null, .null])) :: ((hwW ad K ksGL υ) ++ (WX7 K q3 u2))) H := hP
  have hD : va_D (va_A [(h0, .inr (11, [.null, .null, .null, .null, .null, .null, .null, .null, .null, .null]))] s.heap.size) ((h0, .inr (11, [.ref q1, .ref q2, .ref q3, .null, .null, .null, .null, .null, .null, .null])) :: ((hwW ad K ksGL υ) ++ (WX7 K q3 u2))) := hD
  refine lv_aload_n hx hb dX11_init_56 rfl (lv_at hl 0 rfl) ?_
  refine c_new F 494 495 86 (ci := 10) (C := RX10) (T := TX10) (N := 3) rfl tyX10 tyX10_ok (by decide +kernel) (by decide +kernel) (by decide +kernel) hP hD hS hA [.null, .null, .null] (by decide) (Nat.le_of_ble_eq_true rfl) (Nat.le_of_ble_eq_true rfl) dX11_init_57 (fun q4 H hP hD hS => ?_)
  have hP : va_P D vwCl (((h0, .inr (11, [.ref q1, .ref q2, .ref q3, .null, .null, .null, .null, .null, .null, .null])) :: ((hwW ad K ksGL υ) ++ (WX7 K q3 u2))) ++ [(q4, .inr (10, [.null, .null, .null]))]) H := hP
  have hD : va_D (va_A [(h0, .inr (11, [.null, .null, .null, .null, .null, .null, .null, .null, .null, .null]))] s.heap.size) (((h0, .inr (11, [.ref q1, .ref q2, .ref q3, .null, .null, .null, .null, .null, .null, .null])) :: ((hwW ad K ksGL υ) ++ (WX7 K q3 u2))) ++ [(q4, .inr (10, [.null, .null, .null]))]) := hD
  refine W.widen (k := 63) (n := 1702) (Nat.le_of_ble_eq_true rfl) (Nat.le_of_ble_eq_true rfl) ?_
  refine lv_dup hx hb dX11_init_60 rfl ?_
  refine c_call F (As := []) 498 86 0 497 (k_X10 l ad0 K base D sc q4) (by decide +kernel) (by decide +kernel) (Or.inr (List.mem_of_getElem? (i := 3) rfl)) (by decide +kernel) rfl ⟨by decide +kernel, by decide +kernel, (by decide +kernel : (parseMethodDescriptor yX10_init.desc).map (fun d => d.parameters.length) = some 0)⟩ ⟨Nat.le_of_ble_eq_true rfl, Nat.le_of_ble_eq_true rfl⟩ hP hD hS hA hAb hl.1 (Nat.le_of_ble_eq_true rfl) dX11_init_61 ⟨Nat.le_of_ble_eq_true rfl, Nat.le_of_ble_eq_true rfl⟩ (fun u3 H locs hP hD hS => ?_)
  have hP : va_P D vwCl ((h0, .inr (11, [.ref q1, .ref q2, .ref q3, .null, .null, .null, .null, .null, .null, .null])) :: (((hwW ad K ksGL υ) ++ (WX7 K q3 u2)) ++ (WX10 K q4 u3))) H := hP
  have hD : va_D (va_A [(h0, .inr (11, [.null, .null, .null, .null, .null, .null, .null, .null, .null, .null]))] s.heap.size) ((h0, .inr (11, [.ref q1, .ref q2, .ref q3, .null, .null, .null, .null, .null, .null, .null])) :: (((hwW ad K ksGL υ) ++ (WX7 K q3 u2)) ++ (WX10 K q4 u3))) := hD
  refine W.widen (k := 70) (n := 1874) (Nat.le_of_ble_eq_true rfl) (Nat.le_of_ble_eq_true rfl) ?_
  refine c_putF F 3 704 (ci := 11) (N := 10) (T := TX11) (v := .ref q4) (ty := .object "HowDeep$Sheets") rfl (by decide +kernel) (Nat.le_of_ble_eq_true rfl) rfl rfl (by decide +kernel) rfl rfl (Nat.le_of_ble_eq_true rfl) hP hD hS dX11_init_64 (fun H locs hP hD hS => ?_)
  have hP : va_P D vwCl ((h0, .inr (11, [.ref q1, .ref q2, .ref q3, .ref q4, .null, .null, .null, .null, .null, .null])) :: (((hwW ad K ksGL υ) ++ (WX7 K q3 u2)) ++ (WX10 K q4 u3))) H := hP
  have hD : va_D (va_A [(h0, .inr (11, [.null, .null, .null, .null, .null, .null, .null, .null, .null, .null]))] s.heap.size) ((h0, .inr (11, [.ref q1, .ref q2, .ref q3, .ref q4, .null, .null, .null, .null, .null, .null])) :: (((hwW ad K ksGL υ) ++ (WX7 K q3 u2)) ++ (WX10 K q4 u3))) := hD
  refine lv_aload_n hx hb dX11_init_67 rfl (lv_at hl 0 rfl) ?_
  refine c_new F 514 515 87 (ci := 6) (C := RX6) (T := TX6) (N := 7) rfl tyX6 tyX6_ok (by decide +kernel) (by decide +kernel) (by decide +kernel) hP hD hS hA [.null, .null, .null, .null, .null, .null, .null] (by decide) (Nat.le_of_ble_eq_true rfl) (Nat.le_of_ble_eq_true rfl) dX11_init_68 (fun q5 H hP hD hS => ?_)
  have hP : va_P D vwCl (((h0, .inr (11, [.ref q1, .ref q2, .ref q3, .ref q4, .null, .null, .null, .null, .null, .null])) :: (((hwW ad K ksGL υ) ++ (WX7 K q3 u2)) ++ (WX10 K q4 u3))) ++ [(q5, .inr (6, [.null, .null, .null, .null, .null, .null, .null]))]) H := hP
  have hD : va_D (va_A [(h0, .inr (11, [.null, .null, .null, .null, .null, .null, .null, .null, .null, .null]))] s.heap.size) (((h0, .inr (11, [.ref q1, .ref q2, .ref q3, .ref q4, .null, .null, .null, .null, .null, .null])) :: (((hwW ad K ksGL υ) ++ (WX7 K q3 u2)) ++ (WX10 K q4 u3))) ++ [(q5, .inr (6, [.null, .null, .null, .null, .null, .null, .null]))]) := hD
  refine W.widen (k := 71) (n := 1881) (Nat.le_of_ble_eq_true rfl) (Nat.le_of_ble_eq_true rfl) ?_
  refine lv_dup hx hb dX11_init_71 rfl ?_
  refine lv_aload_n hx hb dX11_init_72 rfl (lv_at hl 0 rfl) ?_
  refine c_get F 0 701 (ci := 11) (N := 10) (T := TX11) (v := .ref q1) rfl (by decide +kernel) (Nat.le_of_ble_eq_true rfl) rfl hP dX11_init_73 ?_
  refine lv_aload_n hx hb dX11_init_76 rfl (lv_at hl 0 rfl) ?_
  refine c_get F 1 702 (ci := 11) (N := 10) (T := TX11) (v := .ref q2) rfl (by decide +kernel) (Nat.le_of_ble_eq_true rfl) rfl hP dX11_init_77 ?_
  refine lv_aload_n hx hb dX11_init_80 rfl (lv_at hl 0 rfl) ?_
  refine c_get F 2 703 (ci := 11) (N := 10) (T := TX11) (v := .ref q3) rfl (by decide +kernel) (Nat.le_of_ble_eq_true rfl) rfl hP dX11_init_81 ?_
  refine c_call F (As := [.ref q1, .ref q2, .ref q3]) 518 87 516 517 (k_X6 l ad0 K base D sc q5 q1 q2 q3) (by decide +kernel) (by decide +kernel) (Or.inl (by decide +kernel)) (by decide +kernel) rfl ⟨by decide +kernel, by decide +kernel, (by decide +kernel : (parseMethodDescriptor yX6_init.desc).map (fun d => d.parameters.length) = some 3)⟩ ⟨Nat.le_of_ble_eq_true rfl, Nat.le_of_ble_eq_true rfl⟩ hP hD hS hA hAb hl.1 (Nat.le_of_ble_eq_true rfl) dX11_init_84 ⟨Nat.le_of_ble_eq_true rfl, Nat.le_of_ble_eq_true rfl⟩ (fun u4 H locs hP hD hS => ?_)
  have hP : va_P D vwCl ((h0, .inr (11, [.ref q1, .ref q2, .ref q3, .ref q4, .null, .null, .null, .null, .null, .null])) :: ((((hwW ad K ksGL υ) ++ (WX7 K q3 u2)) ++ (WX10 K q4 u3)) ++ (WX6 K q5 q1 q2 q3 u4))) H := hP
  have hD : va_D (va_A [(h0, .inr (11, [.null, .null, .null, .null, .null, .null, .null, .null, .null, .null]))] s.heap.size) ((h0, .inr (11, [.ref q1, .ref q2, .ref q3, .ref q4, .null, .null, .null, .null, .null, .null])) :: ((((hwW ad K ksGL υ) ++ (WX7 K q3 u2)) ++ (WX10 K q4 u3)) ++ (WX6 K q5 q1 q2 q3 u4))) := hD
  refine W.widen (k := 82) (n := 1938) (Nat.le_of_ble_eq_true rfl) (Nat.le_of_ble_eq_true rfl) ?_
  refine c_putF F 6 707 (ci := 11) (N := 10) (T := TX11) (v := .ref q5) (ty := .object "HowDeep$Mind") rfl (by decide +kernel) (Nat.le_of_ble_eq_true rfl) rfl rfl (by decide +kernel) rfl rfl (Nat.le_of_ble_eq_true rfl) hP hD hS dX11_init_87 (fun H locs hP hD hS => ?_)
  have hP : va_P D vwCl ((h0, .inr (11, [.ref q1, .ref q2, .ref q3, .ref q4, .null, .null, .ref q5, .null, .null, .null])) :: ((((hwW ad K ksGL υ) ++ (WX7 K q3 u2)) ++ (WX10 K q4 u3)) ++ (WX6 K q5 q1 q2 q3 u4))) H := hP
  have hD : va_D (va_A [(h0, .inr (11, [.null, .null, .null, .null, .null, .null, .null, .null, .null, .null]))] s.heap.size) ((h0, .inr (11, [.ref q1, .ref q2, .ref q3, .ref q4, .null, .null, .ref q5, .null, .null, .null])) :: ((((hwW ad K ksGL υ) ++ (WX7 K q3 u2)) ++ (WX10 K q4 u3)) ++ (WX6 K q5 q1 q2 q3 u4))) := hD
  refine lv_aload_n hx hb dX11_init_90 rfl (lv_at hl 0 rfl) ?_
  refine c_new F 552 553 88 (ci := 9) (C := RX9) (T := TX9) (N := 5) rfl tyX9 tyX9_ok (by decide +kernel) (by decide +kernel) (by decide +kernel) hP hD hS hA [.null, .null, .null, .null, .int 0] (by decide) (Nat.le_of_ble_eq_true rfl) (Nat.le_of_ble_eq_true rfl) dX11_init_91 (fun q6 H hP hD hS => ?_)
  have hP : va_P D vwCl (((h0, .inr (11, [.ref q1, .ref q2, .ref q3, .ref q4, .null, .null, .ref q5, .null, .null, .null])) :: ((((hwW ad K ksGL υ) ++ (WX7 K q3 u2)) ++ (WX10 K q4 u3)) ++ (WX6 K q5 q1 q2 q3 u4))) ++ [(q6, .inr (9, [.null, .null, .null, .null, .int 0]))]) H := hP
  have hD : va_D (va_A [(h0, .inr (11, [.null, .null, .null, .null, .null, .null, .null, .null, .null, .null]))] s.heap.size) (((h0, .inr (11, [.ref q1, .ref q2, .ref q3, .ref q4, .null, .null, .ref q5, .null, .null, .null])) :: ((((hwW ad K ksGL υ) ++ (WX7 K q3 u2)) ++ (WX10 K q4 u3)) ++ (WX6 K q5 q1 q2 q3 u4))) ++ [(q6, .inr (9, [.null, .null, .null, .null, .int 0]))]) := hD
  refine W.widen (k := 83) (n := 1943) (Nat.le_of_ble_eq_true rfl) (Nat.le_of_ble_eq_true rfl) ?_
  refine lv_dup hx hb dX11_init_94 rfl ?_
  refine lv_aload_n hx hb dX11_init_95 rfl (lv_at hl 0 rfl) ?_
  refine c_get F 6 707 (ci := 11) (N := 10) (T := TX11) (v := .ref q5) rfl (by decide +kernel) (Nat.le_of_ble_eq_true rfl) rfl hP dX11_init_96 ?_
  refine c_call F (As := [.ref q5]) 556 88 554 555 (k_X9 l ad0 K base D sc q6 q5) (by decide +kernel) (by decide +kernel) (Or.inl (by decide +kernel)) (by decide +kernel) rfl ⟨by decide +kernel, by decide +kernel, (by decide +kernel : (parseMethodDescriptor yX9_init.desc).map (fun d => d.parameters.length) = some 1)⟩ ⟨Nat.le_of_ble_eq_true rfl, Nat.le_of_ble_eq_true rfl⟩ hP hD hS hA hAb hl.1 (Nat.le_of_ble_eq_true rfl) dX11_init_99 ⟨Nat.le_of_ble_eq_true rfl, Nat.le_of_ble_eq_true rfl⟩ (fun u5 H locs hP hD hS => ?_)
  have hP : va_P D vwCl ((h0, .inr (11, [.ref q1, .ref q2, .ref q3, .ref q4, .null, .null, .ref q5, .null, .null, .null])) :: (((((hwW ad K ksGL υ) ++ (WX7 K q3 u2)) ++ (WX10 K q4 u3)) ++ (WX6 K q5 q1 q2 q3 u4)) ++ (WX9 K q6 q5 u5))) H := hP
  have hD : va_D (va_A [(h0, .inr (11, [.null, .null, .null, .null, .null, .null, .null, .null, .null, .null]))] s.heap.size) ((h0, .inr (11, [.ref q1, .ref q2, .ref q3, .ref q4, .null, .null, .ref q5, .null, .null, .null])) :: (((((hwW ad K ksGL υ) ++ (WX7 K q3 u2)) ++ (WX10 K q4 u3)) ++ (WX6 K q5 q1 q2 q3 u4)) ++ (WX9 K q6 q5 u5))) := hD
  refine W.widen (k := 86) (n := 1967) (Nat.le_of_ble_eq_true rfl) (Nat.le_of_ble_eq_true rfl) ?_
  refine c_putF F 4 705 (ci := 11) (N := 10) (T := TX11) (v := .ref q6) (ty := .object "HowDeep$Rules") rfl (by decide +kernel) (Nat.le_of_ble_eq_true rfl) rfl rfl (by decide +kernel) rfl rfl (Nat.le_of_ble_eq_true rfl) hP hD hS dX11_init_102 (fun H locs hP hD hS => ?_)
  have hP : va_P D vwCl ((h0, .inr (11, [.ref q1, .ref q2, .ref q3, .ref q4, .ref q6, .null, .ref q5, .null, .null, .null])) :: (((((hwW ad K ksGL υ) ++ (WX7 K q3 u2)) ++ (WX10 K q4 u3)) ++ (WX6 K q5 q1 q2 q3 u4)) ++ (WX9 K q6 q5 u5))) H := hP
  have hD : va_D (va_A [(h0, .inr (11, [.null, .null, .null, .null, .null, .null, .null, .null, .null, .null]))] s.heap.size) ((h0, .inr (11, [.ref q1, .ref q2, .ref q3, .ref q4, .ref q6, .null, .ref q5, .null, .null, .null])) :: (((((hwW ad K ksGL υ) ++ (WX7 K q3 u2)) ++ (WX10 K q4 u3)) ++ (WX6 K q5 q1 q2 q3 u4)) ++ (WX9 K q6 q5 u5))) := hD
  refine lv_aload_n hx hb dX11_init_105 rfl (lv_at hl 0 rfl) ?_
  refine c_new F 578 579 89 (ci := 1) (C := RX1) (T := TX1) (N := 3) rfl tyX1 tyX1_ok (by decide +kernel) (by decide +kernel) (by decide +kernel) hP hD hS hA [.null, .null, .int 0] (by decide) (Nat.le_of_ble_eq_true rfl) (Nat.le_of_ble_eq_true rfl) dX11_init_106 (fun q7 H hP hD hS => ?_)
  have hP : va_P D vwCl (((h0, .inr (11, [.ref q1, .ref q2, .ref q3, .ref q4, .ref q6, .null, .ref q5, .null, .null, .null])) :: (((((hwW ad K ksGL υ) ++ (WX7 K q3 u2)) ++ (WX10 K q4 u3)) ++ (WX6 K q5 q1 q2 q3 u4)) ++ (WX9 K q6 q5 u5))) ++ [(q7, .inr (1, [.null, .null, .int 0]))]) H := hP
  have hD : va_D (va_A [(h0, .inr (11, [.null, .null, .null, .null, .null, .null, .null, .null, .null, .null]))] s.heap.size) (((h0, .inr (11, [.ref q1, .ref q2, .ref q3, .ref q4, .ref q6, .null, .ref q5, .null, .null, .null])) :: (((((hwW ad K ksGL υ) ++ (WX7 K q3 u2)) ++ (WX10 K q4 u3)) ++ (WX6 K q5 q1 q2 q3 u4)) ++ (WX9 K q6 q5 u5))) ++ [(q7, .inr (1, [.null, .null, .int 0]))]) := hD
  refine W.widen (k := 87) (n := 1970) (Nat.le_of_ble_eq_true rfl) (Nat.le_of_ble_eq_true rfl) ?_
  refine lv_dup hx hb dX11_init_109 rfl ?_
  refine c_call F (As := []) 582 89 0 581 (k_X1 l ad0 K base D sc q7) (by decide +kernel) (by decide +kernel) (Or.inr (List.mem_of_getElem? (i := 4) rfl)) (by decide +kernel) rfl ⟨by decide +kernel, by decide +kernel, (by decide +kernel : (parseMethodDescriptor yX1_init.desc).map (fun d => d.parameters.length) = some 0)⟩ ⟨Nat.le_of_ble_eq_true rfl, Nat.le_of_ble_eq_true rfl⟩ hP hD hS hA hAb hl.1 (Nat.le_of_ble_eq_true rfl) dX11_init_110 ⟨Nat.le_of_ble_eq_true rfl, Nat.le_of_ble_eq_true rfl⟩ (fun u6 H locs hP hD hS => ?_)
  have hP : va_P D vwCl ((h0, .inr (11, [.ref q1, .ref q2, .ref q3, .ref q4, .ref q6, .null, .ref q5, .null, .null, .null])) :: ((((((hwW ad K ksGL υ) ++ (WX7 K q3 u2)) ++ (WX10 K q4 u3)) ++ (WX6 K q5 q1 q2 q3 u4)) ++ (WX9 K q6 q5 u5)) ++ (WX1 K q7 u6))) H := hP
  have hD : va_D (va_A [(h0, .inr (11, [.null, .null, .null, .null, .null, .null, .null, .null, .null, .null]))] s.heap.size) ((h0, .inr (11, [.ref q1, .ref q2, .ref q3, .ref q4, .ref q6, .null, .ref q5, .null, .null, .null])) :: ((((((hwW ad K ksGL υ) ++ (WX7 K q3 u2)) ++ (WX10 K q4 u3)) ++ (WX6 K q5 q1 q2 q3 u4)) ++ (WX9 K q6 q5 u5)) ++ (WX1 K q7 u6))) := hD
  refine W.widen (k := 89) (n := 1982) (Nat.le_of_ble_eq_true rfl) (Nat.le_of_ble_eq_true rfl) ?_
  refine c_putF F 5 706 (ci := 11) (N := 10) (T := TX11) (v := .ref q7) (ty := .object "HowDeep$Farms") rfl (by decide +kernel) (Nat.le_of_ble_eq_true rfl) rfl rfl (by decide +kernel) rfl rfl (Nat.le_of_ble_eq_true rfl) hP hD hS dX11_init_113 (fun H locs hP hD hS => ?_)
  have hP : va_P D vwCl ((h0, .inr (11, [.ref q1, .ref q2, .ref q3, .ref q4, .ref q6, .ref q7, .ref q5, .null, .null, .null])) :: ((((((hwW ad K ksGL υ) ++ (WX7 K q3 u2)) ++ (WX10 K q4 u3)) ++ (WX6 K q5 q1 q2 q3 u4)) ++ (WX9 K q6 q5 u5)) ++ (WX1 K q7 u6))) H := hP
  have hD : va_D (va_A [(h0, .inr (11, [.null, .null, .null, .null, .null, .null, .null, .null, .null, .null]))] s.heap.size) ((h0, .inr (11, [.ref q1, .ref q2, .ref q3, .ref q4, .ref q6, .ref q7, .ref q5, .null, .null, .null])) :: ((((((hwW ad K ksGL υ) ++ (WX7 K q3 u2)) ++ (WX10 K q4 u3)) ++ (WX6 K q5 q1 q2 q3 u4)) ++ (WX9 K q6 q5 u5)) ++ (WX1 K q7 u6))) := hD
  refine lv_aload_n hx hb dX11_init_116 rfl (lv_at hl 0 rfl) ?_
  refine c_new F 595 596 90 (ci := 5) (C := RX5) (T := TX5) (N := 7) rfl tyX5 tyX5_ok (by decide +kernel) (by decide +kernel) (by decide +kernel) hP hD hS hA [.null, .null, .int 0, .long 0, .long 0, .long 0, .long 0] (by decide) (Nat.le_of_ble_eq_true rfl) (Nat.le_of_ble_eq_true rfl) dX11_init_117 (fun q8 H hP hD hS => ?_)
  have hP : va_P D vwCl (((h0, .inr (11, [.ref q1, .ref q2, .ref q3, .ref q4, .ref q6, .ref q7, .ref q5, .null, .null, .null])) :: ((((((hwW ad K ksGL υ) ++ (WX7 K q3 u2)) ++ (WX10 K q4 u3)) ++ (WX6 K q5 q1 q2 q3 u4)) ++ (WX9 K q6 q5 u5)) ++ (WX1 K q7 u6))) ++ [(q8, .inr (5, [.null, .null, .int 0, .long 0, .long 0, .long 0, .long 0]))]) H := hP
  have hD : va_D (va_A [(h0, .inr (11, [.null, .null, .null, .null, .null, .null, .null, .null, .null, .null]))] s.heap.size) (((h0, .inr (11, [.ref q1, .ref q2, .ref q3, .ref q4, .ref q6, .ref q7, .ref q5, .null, .null, .null])) :: ((((((hwW ad K ksGL υ) ++ (WX7 K q3 u2)) ++ (WX10 K q4 u3)) ++ (WX6 K q5 q1 q2 q3 u4)) ++ (WX9 K q6 q5 u5)) ++ (WX1 K q7 u6))) ++ [(q8, .inr (5, [.null, .null, .int 0, .long 0, .long 0, .long 0, .long 0]))]) := hD
  refine W.widen (k := 90) (n := 1989) (Nat.le_of_ble_eq_true rfl) (Nat.le_of_ble_eq_true rfl) ?_
  refine lv_dup hx hb dX11_init_120 rfl ?_
  refine lv_aload_n hx hb dX11_init_121 rfl (lv_at hl 0 rfl) ?_
  refine c_get F 6 707 (ci := 11) (N := 10) (T := TX11) (v := .ref q5) rfl (by decide +kernel) (Nat.le_of_ble_eq_true rfl) rfl hP dX11_init_122 ?_
  refine lv_aload_n hx hb dX11_init_125 rfl (lv_at hl 0 rfl) ?_
  refine c_get F 4 705 (ci := 11) (N := 10) (T := TX11) (v := .ref q6) rfl (by decide +kernel) (Nat.le_of_ble_eq_true rfl) rfl hP dX11_init_126 ?_
  refine c_call F (As := [.ref q5, .ref q6]) 599 90 597 598 (k_X5 l ad0 K base D sc q8 q5 q6) (by decide +kernel) (by decide +kernel) (Or.inl (by decide +kernel)) (by decide +kernel) rfl ⟨by decide +kernel, by decide +kernel, (by decide +kernel : (parseMethodDescriptor yX5_init.desc).map (fun d => d.parameters.length) = some 2)⟩ ⟨Nat.le_of_ble_eq_true rfl, Nat.le_of_ble_eq_true rfl⟩ hP hD hS hA hAb hl.1 (Nat.le_of_ble_eq_true rfl) dX11_init_129 ⟨Nat.le_of_ble_eq_true rfl, Nat.le_of_ble_eq_true rfl⟩ (fun u7 H locs hP hD hS => ?_)
  have hP : va_P D vwCl ((h0, .inr (11, [.ref q1, .ref q2, .ref q3, .ref q4, .ref q6, .ref q7, .ref q5, .null, .null, .null])) :: (((((((hwW ad K ksGL υ) ++ (WX7 K q3 u2)) ++ (WX10 K q4 u3)) ++ (WX6 K q5 q1 q2 q3 u4)) ++ (WX9 K q6 q5 u5)) ++ (WX1 K q7 u6)) ++ (WX5 K q8 q5 q6 u7))) H := hP
  have hD : va_D (va_A [(h0, .inr (11, [.null, .null, .null, .null, .null, .null, .null, .null, .null, .null]))] s.heap.size) ((h0, .inr (11, [.ref q1, .ref q2, .ref q3, .ref q4, .ref q6, .ref q7, .ref q5, .null, .null, .null])) :: (((((((hwW ad K ksGL υ) ++ (WX7 K q3 u2)) ++ (WX10 K q4 u3)) ++ (WX6 K q5 q1 q2 q3 u4)) ++ (WX9 K q6 q5 u5)) ++ (WX1 K q7 u6)) ++ (WX5 K q8 q5 q6 u7))) := hD
  refine W.widen (k := 90) (n := 1989) (Nat.le_of_ble_eq_true rfl) (Nat.le_of_ble_eq_true rfl) ?_
  refine c_putF F 7 708 (ci := 11) (N := 10) (T := TX11) (v := .ref q8) (ty := .object "HowDeep$Ledger") rfl (by decide +kernel) (Nat.le_of_ble_eq_true rfl) rfl rfl (by decide +kernel) rfl rfl (Nat.le_of_ble_eq_true rfl) hP hD hS dX11_init_132 (fun H locs hP hD hS => ?_)
  have hP : va_P D vwCl ((h0, .inr (11, [.ref q1, .ref q2, .ref q3, .ref q4, .ref q6, .ref q7, .ref q5, .ref q8, .null, .null])) :: (((((((hwW ad K ksGL υ) ++ (WX7 K q3 u2)) ++ (WX10 K q4 u3)) ++ (WX6 K q5 q1 q2 q3 u4)) ++ (WX9 K q6 q5 u5)) ++ (WX1 K q7 u6)) ++ (WX5 K q8 q5 q6 u7))) H := hP
  have hD : va_D (va_A [(h0, .inr (11, [.null, .null, .null, .null, .null, .null, .null, .null, .null, .null]))] s.heap.size) ((h0, .inr (11, [.ref q1, .ref q2, .ref q3, .ref q4, .ref q6, .ref q7, .ref q5, .ref q8, .null, .null])) :: (((((((hwW ad K ksGL υ) ++ (WX7 K q3 u2)) ++ (WX10 K q4 u3)) ++ (WX6 K q5 q1 q2 q3 u4)) ++ (WX9 K q6 q5 u5)) ++ (WX1 K q7 u6)) ++ (WX5 K q8 q5 q6 u7))) := hD
  refine lv_aload_n hx hb dX11_init_135 rfl (lv_at hl 0 rfl) ?_
  refine c_new F 627 628 91 (ci := 0) (C := RX0) (T := TX0) (N := 6) rfl tyX0 tyX0_ok (by decide +kernel) (by decide +kernel) (by decide +kernel) hP hD hS hA [.null, .null, .long 0, .int 0, .int 0, .int 0] (by decide) (Nat.le_of_ble_eq_true rfl) (Nat.le_of_ble_eq_true rfl) dX11_init_136 (fun q9 H hP hD hS => ?_)
  have hP : va_P D vwCl (((h0, .inr (11, [.ref q1, .ref q2, .ref q3, .ref q4, .ref q6, .ref q7, .ref q5, .ref q8, .null, .null])) :: (((((((hwW ad K ksGL υ) ++ (WX7 K q3 u2)) ++ (WX10 K q4 u3)) ++ (WX6 K q5 q1 q2 q3 u4)) ++ (WX9 K q6 q5 u5)) ++ (WX1 K q7 u6)) ++ (WX5 K q8 q5 q6 u7))) ++ [(q9, .inr (0, [.null, .null, .long 0, .int 0, .int 0, .int 0]))]) H := hP
  have hD : va_D (va_A [(h0, .inr (11, [.null, .null, .null, .null, .null, .null, .null, .null, .null, .null]))] s.heap.size) (((h0, .inr (11, [.ref q1, .ref q2, .ref q3, .ref q4, .ref q6, .ref q7, .ref q5, .ref q8, .null, .null])) :: (((((((hwW ad K ksGL υ) ++ (WX7 K q3 u2)) ++ (WX10 K q4 u3)) ++ (WX6 K q5 q1 q2 q3 u4)) ++ (WX9 K q6 q5 u5)) ++ (WX1 K q7 u6)) ++ (WX5 K q8 q5 q6 u7))) ++ [(q9, .inr (0, [.null, .null, .long 0, .int 0, .int 0, .int 0]))]) := hD
  refine W.widen (k := 91) (n := 1995) (Nat.le_of_ble_eq_true rfl) (Nat.le_of_ble_eq_true rfl) ?_
  refine lv_dup hx hb dX11_init_139 rfl ?_
  refine lv_aload_n hx hb dX11_init_140 rfl (lv_at hl 0 rfl) ?_
  refine c_get F 6 707 (ci := 11) (N := 10) (T := TX11) (v := .ref q5) rfl (by decide +kernel) (Nat.le_of_ble_eq_true rfl) rfl hP dX11_init_141 ?_
  refine lv_aload_n hx hb dX11_init_144 rfl (lv_at hl 0 rfl) ?_
  refine c_get F 4 705 (ci := 11) (N := 10) (T := TX11) (v := .ref q6) rfl (by decide +kernel) (Nat.le_of_ble_eq_true rfl) rfl hP dX11_init_145 ?_
  refine c_call F (As := [.ref q5, .ref q6]) 631 91 629 630 (k_X0 l ad0 K base D sc q9 q5 q6) (by decide +kernel) (by decide +kernel) (Or.inl (by decide +kernel)) (by decide +kernel) rfl ⟨by decide +kernel, by decide +kernel, (by decide +kernel : (parseMethodDescriptor yX0_init.desc).map (fun d => d.parameters.length) = some 2)⟩ ⟨Nat.le_of_ble_eq_true rfl, Nat.le_of_ble_eq_true rfl⟩ hP hD hS hA hAb hl.1 (Nat.le_of_ble_eq_true rfl) dX11_init_148 ⟨Nat.le_of_ble_eq_true rfl, Nat.le_of_ble_eq_true rfl⟩ (fun u8 H locs hP hD hS => ?_)
  have hP : va_P D vwCl ((h0, .inr (11, [.ref q1, .ref q2, .ref q3, .ref q4, .ref q6, .ref q7, .ref q5, .ref q8, .null, .null])) :: ((((((((hwW ad K ksGL υ) ++ (WX7 K q3 u2)) ++ (WX10 K q4 u3)) ++ (WX6 K q5 q1 q2 q3 u4)) ++ (WX9 K q6 q5 u5)) ++ (WX1 K q7 u6)) ++ (WX5 K q8 q5 q6 u7)) ++ (WX0 K q9 q5 q6 u8))) H := hP
  have hD : va_D (va_A [(h0, .inr (11, [.null, .null, .null, .null, .null, .null, .null, .null, .null, .null]))] s.heap.size) ((h0, .inr (11, [.ref q1, .ref q2, .ref q3, .ref q4, .ref q6, .ref q7, .ref q5, .ref q8, .null, .null])) :: ((((((((hwW ad K ksGL υ) ++ (WX7 K q3 u2)) ++ (WX10 K q4 u3)) ++ (WX6 K q5 q1 q2 q3 u4)) ++ (WX9 K q6 q5 u5)) ++ (WX1 K q7 u6)) ++ (WX5 K q8 q5 q6 u7)) ++ (WX0 K q9 q5 q6 u8))) := hD
  refine W.widen (k := 91) (n := 1995) (Nat.le_of_ble_eq_true rfl) (Nat.le_of_ble_eq_true rfl) ?_
  refine c_putF F 8 709 (ci := 11) (N := 10) (T := TX11) (v := .ref q9) (ty := .object "HowDeep$Digging") rfl (by decide +kernel) (Nat.le_of_ble_eq_true rfl) rfl rfl (by decide +kernel) rfl rfl (Nat.le_of_ble_eq_true rfl) hP hD hS dX11_init_151 (fun H locs hP hD hS => ?_)
  have hP : va_P D vwCl ((h0, .inr (11, [.ref q1, .ref q2, .ref q3, .ref q4, .ref q6, .ref q7, .ref q5, .ref q8, .ref q9, .null])) :: ((((((((hwW ad K ksGL υ) ++ (WX7 K q3 u2)) ++ (WX10 K q4 u3)) ++ (WX6 K q5 q1 q2 q3 u4)) ++ (WX9 K q6 q5 u5)) ++ (WX1 K q7 u6)) ++ (WX5 K q8 q5 q6 u7)) ++ (WX0 K q9 q5 q6 u8))) H := hP
  have hD : va_D (va_A [(h0, .inr (11, [.null, .null, .null, .null, .null, .null, .null, .null, .null, .null]))] s.heap.size) ((h0, .inr (11, [.ref q1, .ref q2, .ref q3, .ref q4, .ref q6, .ref q7, .ref q5, .ref q8, .ref q9, .null])) :: ((((((((hwW ad K ksGL υ) ++ (WX7 K q3 u2)) ++ (WX10 K q4 u3)) ++ (WX6 K q5 q1 q2 q3 u4)) ++ (WX9 K q6 q5 u5)) ++ (WX1 K q7 u6)) ++ (WX5 K q8 q5 q6 u7)) ++ (WX0 K q9 q5 q6 u8))) := hD
  refine lv_aload_n hx hb dX11_init_154 rfl (lv_at hl 0 rfl) ?_
  refine c_new F 655 656 92 (ci := 3) (C := RX3) (T := TX3) (N := 12) rfl tyX3 tyX3_ok (by decide +kernel) (by decide +kernel) (by decide +kernel) hP hD hS hA [.null, .null, .null, .null, .null, .null, .null, .null, .int 0, .int 0, .int 0, .int 0] (by decide) (Nat.le_of_ble_eq_true rfl) (Nat.le_of_ble_eq_true rfl) dX11_init_155 (fun q10 H hP hD hS => ?_)
  have hP : va_P D vwCl (((h0, .inr (11, [.ref q1, .ref q2, .ref q3, .ref q4, .ref q6, .ref q7, .ref q5, .ref q8, .ref q9, .null])) :: ((((((((hwW ad K ksGL υ) ++ (WX7 K q3 u2)) ++ (WX10 K q4 u3)) ++ (WX6 K q5 q1 q2 q3 u4)) ++ (WX9 K q6 q5 u5)) ++ (WX1 K q7 u6)) ++ (WX5 K q8 q5 q6 u7)) ++ (WX0 K q9 q5 q6 u8))) ++ [(q10, .inr (3, [.null, .null, .null, .null, .null, .null, .null, .null, .int 0, .int 0, .int 0, .int 0]))]) H := hP
  have hD : va_D (va_A [(h0, .inr (11, [.null, .null, .null, .null, .null, .null, .null, .null, .null, .null]))] s.heap.size) (((h0, .inr (11, [.ref q1, .ref q2, .ref q3, .ref q4, .ref q6, .ref q7, .ref q5, .ref q8, .ref q9, .null])) :: ((((((((hwW ad K ksGL υ) ++ (WX7 K q3 u2)) ++ (WX10 K q4 u3)) ++ (WX6 K q5 q1 q2 q3 u4)) ++ (WX9 K q6 q5 u5)) ++ (WX1 K q7 u6)) ++ (WX5 K q8 q5 q6 u7)) ++ (WX0 K q9 q5 q6 u8))) ++ [(q10, .inr (3, [.null, .null, .null, .null, .null, .null, .null, .null, .int 0, .int 0, .int 0, .int 0]))]) := hD
  refine W.widen (k := 92) (n := 2007) (Nat.le_of_ble_eq_true rfl) (Nat.le_of_ble_eq_true rfl) ?_
  refine lv_dup hx hb dX11_init_158 rfl ?_
  refine lv_aload_n hx hb dX11_init_159 rfl (lv_at hl 0 rfl) ?_
  refine c_get F 0 701 (ci := 11) (N := 10) (T := TX11) (v := .ref q1) rfl (by decide +kernel) (Nat.le_of_ble_eq_true rfl) rfl hP dX11_init_160 ?_
  refine lv_aload_n hx hb dX11_init_163 rfl (lv_at hl 0 rfl) ?_
  refine c_get F 2 703 (ci := 11) (N := 10) (T := TX11) (v := .ref q3) rfl (by decide +kernel) (Nat.le_of_ble_eq_true rfl) rfl hP dX11_init_164 ?_
  refine c_call F (As := [.ref q1, .ref q3]) 659 92 657 658 (k_X3 l ad0 K base D sc q10 q1 q3) (by decide +kernel) (by decide +kernel) (Or.inl (by decide +kernel)) (by decide +kernel) rfl ⟨by decide +kernel, by decide +kernel, (by decide +kernel : (parseMethodDescriptor yX3_init.desc).map (fun d => d.parameters.length) = some 2)⟩ ⟨Nat.le_of_ble_eq_true rfl, Nat.le_of_ble_eq_true rfl⟩ hP hD hS hA hAb hl.1 (Nat.le_of_ble_eq_true rfl) dX11_init_167 ⟨Nat.le_of_ble_eq_true rfl, Nat.le_of_ble_eq_true rfl⟩ (fun u9 H locs hP hD hS => ?_)
  have hP : va_P D vwCl ((h0, .inr (11, [.ref q1, .ref q2, .ref q3, .ref q4, .ref q6, .ref q7, .ref q5, .ref q8, .ref q9, .null])) :: (((((((((hwW ad K ksGL υ) ++ (WX7 K q3 u2)) ++ (WX10 K q4 u3)) ++ (WX6 K q5 q1 q2 q3 u4)) ++ (WX9 K q6 q5 u5)) ++ (WX1 K q7 u6)) ++ (WX5 K q8 q5 q6 u7)) ++ (WX0 K q9 q5 q6 u8)) ++ (WX3 K q10 q1 q3 u9))) H := hP
  have hD : va_D (va_A [(h0, .inr (11, [.null, .null, .null, .null, .null, .null, .null, .null, .null, .null]))] s.heap.size) ((h0, .inr (11, [.ref q1, .ref q2, .ref q3, .ref q4, .ref q6, .ref q7, .ref q5, .ref q8, .ref q9, .null])) :: (((((((((hwW ad K ksGL υ) ++ (WX7 K q3 u2)) ++ (WX10 K q4 u3)) ++ (WX6 K q5 q1 q2 q3 u4)) ++ (WX9 K q6 q5 u5)) ++ (WX1 K q7 u6)) ++ (WX5 K q8 q5 q6 u7)) ++ (WX0 K q9 q5 q6 u8)) ++ (WX3 K q10 q1 q3 u9))) := hD
  refine W.widen (k := 111) (n := 2094) (Nat.le_of_ble_eq_true rfl) (Nat.le_of_ble_eq_true rfl) ?_
  refine c_putF F 9 710 (ci := 11) (N := 10) (T := TX11) (v := .ref q10) (ty := .object "HowDeep$Image") rfl (by decide +kernel) (Nat.le_of_ble_eq_true rfl) rfl rfl (by decide +kernel) rfl rfl (Nat.le_of_ble_eq_true rfl) hP hD hS dX11_init_170 (fun H locs hP hD hS => ?_)
  have hP : va_P D vwCl ((h0, .inr (11, [.ref q1, .ref q2, .ref q3, .ref q4, .ref q6, .ref q7, .ref q5, .ref q8, .ref q9, .ref q10])) :: (((((((((hwW ad K ksGL υ) ++ (WX7 K q3 u2)) ++ (WX10 K q4 u3)) ++ (WX6 K q5 q1 q2 q3 u4)) ++ (WX9 K q6 q5 u5)) ++ (WX1 K q7 u6)) ++ (WX5 K q8 q5 q6 u7)) ++ (WX0 K q9 q5 q6 u8)) ++ (WX3 K q10 q1 q3 u9))) H := hP
  have hD : va_D (va_A [(h0, .inr (11, [.null, .null, .null, .null, .null, .null, .null, .null, .null, .null]))] s.heap.size) ((h0, .inr (11, [.ref q1, .ref q2, .ref q3, .ref q4, .ref q6, .ref q7, .ref q5, .ref q8, .ref q9, .ref q10])) :: (((((((((hwW ad K ksGL υ) ++ (WX7 K q3 u2)) ++ (WX10 K q4 u3)) ++ (WX6 K q5 q1 q2 q3 u4)) ++ (WX9 K q6 q5 u5)) ++ (WX1 K q7 u6)) ++ (WX5 K q8 q5 q6 u7)) ++ (WX0 K q9 q5 q6 u8)) ++ (WX3 K q10 q1 q3 u9))) := hD
  have b00 : adX ad h0 q3 q4 q5 q6 q7 q8 q9 q10 u2 u3 u4 u5 u6 u7 u8 u9 0 0 = h0 := rfl
  have eX : ((h0, .inr (11, [.ref q1, .ref q2, .ref q3, .ref q4, .ref q6, .ref q7, .ref q5, .ref q8, .ref q9, .ref q10])) :: (((((((((hwW ad K ksGL υ) ++ (WX7 K q3 u2)) ++ (WX10 K q4 u3)) ++ (WX6 K q5 q1 q2 q3 u4)) ++ (WX9 K q6 q5 u5)) ++ (WX1 K q7 u6)) ++ (WX5 K q8 q5 q6 u7)) ++ (WX0 K q9 q5 q6 u8)) ++ (WX3 K q10 q1 q3 u9))) = hwW (adX ad h0 q3 q4 q5 q6 q7 q8 q9 q10 u2 u3 u4 u5 u6 u7 u8 u9) K ksX υ := by
    rw [wX7_eq (ad := ad) h0 q3 q4 q5 q6 q7 q8 q9 q10 u2 u3 u4 u5 u6 u7 u8 u9 ki]
    rw [wX10_eq (ad := ad) h0 q3 q4 q5 q6 q7 q8 q9 q10 u2 u3 u4 u5 u6 u7 u8 u9 ki]
    rw [wX6_eq (ad := ad) h0 q3 q4 q5 q6 q7 q8 q9 q10 u2 u3 u4 u5 u6 u7 u8 u9 q1 q2 ki b10 b20]
    rw [wX9_eq (ad := ad) h0 q3 q4 q5 q6 q7 q8 q9 q10 u2 u3 u4 u5 u6 u7 u8 u9 ki]
    rw [wX1_eq (ad := ad) h0 q3 q4 q5 q6 q7 q8 q9 q10 u2 u3 u4 u5 u6 u7 u8 u9 ki]
    rw [wX5_eq (ad := ad) h0 q3 q4 q5 q6 q7 q8 q9 q10 u2 u3 u4 u5 u6 u7 u8 u9 ki]
    rw [wX0_eq (ad := ad) h0 q3 q4 q5 q6 q7 q8 q9 q10 u2 u3 u4 u5 u6 u7 u8 u9 ki]
    rw [wX3_eq (ad := ad) h0 q3 q4 q5 q6 q7 q8 q9 q10 u2 u3 u4 u5 u6 u7 u8 u9 q1 ki b10]
    rw [adX_GL (ad := ad) h0 q3 q4 q5 q6 q7 q8 q9 q10 u2 u3 u4 u5 u6 u7 u8 u9]
    show _ = (adX ad h0 q3 q4 q5 q6 q7 q8 q9 q10 u2 u3 u4 u5 u6 u7 u8 u9 0 0, hwCo (adX ad h0 q3 q4 q5 q6 q7 q8 q9 q10 u2 u3 u4 u5 u6 u7 u8 u9) K υ (0, 0)) :: hwW (adX ad h0 q3 q4 q5 q6 q7 q8 q9 q10 u2 u3 u4 u5 u6 u7 u8 u9) K (((((((((ksGL ++ ksX7) ++ ksX10) ++ ksX6) ++ ksX9) ++ ksX1) ++ ksX5) ++ ksX0) ++ ksX3)) υ
    rw [hwW_app, hwW_app, hwW_app, hwW_app, hwW_app, hwW_app, hwW_app, hwW_app]
    have e0 : hwCo (adX ad h0 q3 q4 q5 q6 q7 q8 q9 q10 u2 u3 u4 u5 u6 u7 u8 u9) K υ (0, 0) = .inr (11, [.ref (ad 1 0), .ref (ad 2 0), .ref q3, .ref q4, .ref q6, .ref q7, .ref q5, .ref q8, .ref q9, .ref q10]) := rfl
    rw [e0, b10, b20]
    rfl
  rw [eX] at hP hD
  exact c_ret F hr hlocks (Nat.le_of_ble_eq_true rfl) (Nat.le_of_ble_eq_true rfl) hS (adX ad h0 q3 q4 q5 q6 q7 q8 q9 q10 u2 u3 u4 u5 u6 u7 u8 u9) (fun t ht => ⟨⟨fun t h => by rw [adX_o (fun z => by simp only [List.mem_cons, List.not_mem_nil, or_false] at z; omega), hi t h], rfl⟩, υ, ⟨ki, ag, wd⟩, by rw [ht]; exact hP, hD⟩) dX11_init_173

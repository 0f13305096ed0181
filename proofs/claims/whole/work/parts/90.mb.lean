/-! THE CONSTRUCTORS, 10: HowDeepModel(), its walk -/
set_option maxHeartbeats 4000000 in
set_option maxRecDepth 100000 in
theorem k_X12 (l : Launch) (ad0 : Nat → Nat → Nat) (K : Kc) (base : Nat) (D : va_G) (sc : Nat × (Nat → Int32)) (h0 : Nat) : ∀ sz, cMet l yX12_init cX12_init 1 20 1500 32 2264 ad0 K base D sc [.ref h0] [(h0, .inr (12, [.int 0, .int 0, .int 0, .int 0, .int 0, .int 0, .null, .null, .null, .null, .int 0, .null, .null, .null, .null, .null, .int 0, .null, .null, .null, .int 0, .null, .null, .null, .int 0, .null, .null, .int 0, .int 0, .int 0, .int 0, .int 0, .null, .null, .int 0, .null, .null, .null, .null, .null, .null, .null, .int 0, .int 0, .int 0, .int 0, .null, .null, .int 0, .int 0, .int 0, .null, .null, .null, .null, .long 0, .long 0, .long 0, .long 0, .int 0, .int 0, .long 0]))] (BX12 ad0 K D sc h0 (va_A [(h0, .inr (12, [.int 0, .int 0, .int 0, .int 0, .int 0, .int 0, .null, .null, .null, .null, .int 0, .null, .null, .null, .null, .null, .int 0, .null, .null, .null, .int 0, .null, .null, .null, .int 0, .null, .null, .int 0, .int 0, .int 0, .int 0, .int 0, .null, .null, .int 0, .null, .null, .null, .null, .null, .null, .null, .int 0, .int 0, .int 0, .int 0, .null, .null, .int 0, .int 0, .int 0, .null, .null, .null, .null, .long 0, .long 0, .long 0, .long 0, .int 0, .int 0, .long 0]))] sz)) sz := by
  refine c_met (y := yX12_init) (b := cX12_init) (nL := 1) (av := [.ref h0]) (W0 := [(h0, .inr (12, [.int 0, .int 0, .int 0, .int 0, .int 0, .int 0, .null, .null, .null, .null, .int 0, .null, .null, .null, .null, .null, .int 0, .null, .null, .null, .int 0, .null, .null, .null, .int 0, .null, .null, .int 0, .int 0, .int 0, .int 0, .int 0, .null, .null, .int 0, .null, .null, .null, .null, .null, .null, .null, .int 0, .int 0, .int 0, .int 0, .null, .null, .int 0, .int 0, .int 0, .null, .null, .null, .null, .long 0, .long 0, .long 0, .long 0, .int 0, .int 0, .long 0]))]) (B := fun sz => BX12 ad0 K D sc h0 (va_A [(h0, .inr (12, [.int 0, .int 0, .int 0, .int 0, .int 0, .int 0, .null, .null, .null, .null, .int 0, .null, .null, .null, .null, .null, .int 0, .null, .null, .null, .int 0, .null, .null, .null, .int 0, .null, .null, .int 0, .int 0, .int 0, .int 0, .int 0, .null, .null, .int 0, .null, .null, .null, .null, .null, .null, .null, .int 0, .int 0, .int 0, .int 0, .null, .null, .int 0, .int 0, .int 0, .null, .null, .null, .null, .long 0, .long 0, .long 0, .long 0, .int 0, .int 0, .long 0]))] sz)) (by decide +kernel) rfl (Nat.le_of_ble_eq_true rfl) (fun {p e s m below meth c} ls F hr hlocks hl hP hD hAb => ?_)
  have F : cFr p c cX12_init 1 meth m s [.ref h0].toArray RX12 ad0 K base D sc := F
  obtain ⟨hx, hb, hml, hown, hts, hin, hG⟩ := id F
  have hl : lv_has ls 1 [(0, .ref h0)] := hl
  have hA : ∀ q, s.heap.size ≤ q → va_A [(h0, .inr (12, [.int 0, .int 0, .int 0, .int 0, .int 0, .int 0, .null, .null, .null, .null, .int 0, .null, .null, .null, .null, .null, .int 0, .null, .null, .null, .int 0, .null, .null, .null, .int 0, .null, .null, .int 0, .int 0, .int 0, .int 0, .int 0, .null, .null, .int 0, .null, .null, .null, .null, .null, .null, .null, .int 0, .int 0, .int 0, .int 0, .null, .null, .int 0, .int 0, .int 0, .null, .null, .null, .null, .long 0, .long 0, .long 0, .long 0, .int 0, .int 0, .long 0]))] s.heap.size q := fun q h => Or.inr h
  have hS : va_S (va_A [(h0, .inr (12, [.int 0, .int 0, .int 0, .int 0, .int 0, .int 0, .null, .null, .null, .null, .int 0, .null, .null, .null, .null, .null, .int 0, .null, .null, .null, .int 0, .null, .null, .null, .int 0, .null, .null, .int 0, .int 0, .int 0, .int 0, .int 0, .null, .null, .int 0, .null, .null, .null, .null, .null, .null, .null, .int 0, .int 0, .int 0, .int 0, .null, .null, .int 0, .int 0, .int 0, .null, .null, .null, .null, .long 0, .long 0, .long 0, .long 0, .int 0, .int 0, .long 0]))] s.heap.size) s.heap s.heap [] := va_S.rf
  have hP : va_P D vwCl [(h0, .inr (12, [.int 0, .int 0, .int 0, .int 0, .int 0, .int 0, .null, .null, .null, .null, .int 0, .null, .null, .null, .null, .null, .int 0, .null, .null, .null, .int 0, .null, .null, .null, .int 0, .null, .null, .int 0, .int 0, .int 0, .int 0, .int 0, .null, .null, .int 0, .null, .null, .null, .null, .null, .null, .null, .int 0, .int 0, .int 0, .int 0, .null, .null, .int 0, .int 0, .int 0, .null, .null, .null, .null, .long 0, .long 0, .long 0, .long 0, .int 0, .int 0, .long 0]))] s.heap := hP
  show W p l e _ s m _ below meth c _ _ _ _ (MQ below (cPost (BX12 ad0 K D sc h0 (va_A [(h0, .inr (12, [.int 0, .int 0, .int 0, .int 0, .int 0, .int 0, .null, .null, .null, .null, .int 0, .null, .null, .null, .null, .null, .int 0, .null, .null, .null, .int 0, .null, .null, .null, .int 0, .null, .null, .int 0, .int 0, .int 0, .int 0, .int 0, .null, .null, .int 0, .null, .null, .null, .null, .null, .null, .null, .int 0, .int 0, .int 0, .int 0, .null, .null, .int 0, .int 0, .int 0, .null, .null, .null, .null, .long 0, .long 0, .long 0, .long 0, .int 0, .int 0, .long 0]))] s.heap.size)) (va_A [(h0, .inr (12, [.int 0, .int 0, .int 0, .int 0, .int 0, .int 0, .null, .null, .null, .null, .int 0, .null, .null, .null, .null, .null, .int 0, .null, .null, .null, .int 0, .null, .null, .null, .int 0, .null, .null, .int 0, .int 0, .int 0, .int 0, .int 0, .null, .null, .int 0, .null, .null, .null, .null, .null, .null, .null, .int 0, .int 0, .int 0, .int 0, .null, .null, .int 0, .int 0, .int 0, .null, .null, .null, .null, .long 0, .long 0, .long 0, .long 0, .int 0, .int 0, .long 0]))] s.heap.size)) _ s _ _ (va_A [(h0, .inr (12, [.int 0, .int 0, .int 0, .int 0, .int 0, .int 0, .null, .null, .null, .null, .int 0, .null, .null, .null, .null, .null, .int 0, .null, .null, .null, .int 0, .null, .null, .null, .int 0, .null, .null, .int 0, .int 0, .int 0, .int 0, .int 0, .null, .null, .int 0, .null, .null, .null, .null, .null, .null, .null, .int 0, .int 0, .int 0, .int 0, .null, .null, .int 0, .int 0, .int 0, .null, .null, .null, .null, .long 0, .long 0, .long 0, .long 0, .int 0, .int 0, .long 0]))] s.heap.size)) _
  generalize va_A [(h0, .inr (12, [.int 0, .int 0, .int 0, .int 0, .int 0, .int 0, .null, .null, .null, .null, .int 0, .null, .null, .null, .null, .null, .int 0, .null, .null, .null, .int 0, .null, .null, .null, .int 0, .null, .null, .int 0, .int 0, .int 0, .int 0, .int 0, .null, .null, .int 0, .null, .null, .null, .null, .null, .null, .null, .int 0, .int 0, .int 0, .int 0, .null, .null, .int 0, .int 0, .int 0, .null, .null, .null, .null, .long 0, .long 0, .long 0, .long 0, .int 0, .int 0, .long 0]))] s.heap.size = A at hD hAb hA hS ⊢
  obtain ⟨fs0, hf0⟩ : ∃ fs0 : List Value, fs0 = [.int 0, .int 0, .int 0, .int 0, .int 0, .int 0, .null, .null, .null, .null, .int 0, .null, .null, .null, .null, .null, .int 0, .null, .null, .null, .int 0, .null, .null, .null, .int 0, .null, .null, .int 0, .int 0, .int 0, .int 0, .int 0, .null, .null, .int 0, .null, .null, .null, .null, .null, .null, .null, .int 0, .int 0, .int 0, .int 0, .null, .null, .int 0, .int 0, .int 0, .null, .null, .null, .null, .long 0, .long 0, .long 0, .long 0, .int 0, .int 0, .long 0] := ⟨_, rfl⟩
  obtain ⟨T0, hT0⟩ : ∃ T0 : va_W, T0 = [] := ⟨_, rfl⟩
  have hP : va_P D vwCl ((h0, .inr (12, fs0)) :: T0) s.heap := by rw [hf0, hT0]; exact hP
  have hD : va_D A ((h0, .inr (12, fs0)) :: T0) := by rw [hf0, hT0]; exact hD
  have hl0 : fs0.length = 62 := by rw [hf0]; rfl
  refine lv_aload_n hx hb dX12_init_0 rfl (lv_at hl 0 rfl) ?_
  refine c_obj F 1241 (by decide +kernel) hl.1 dX12_init_1 ⟨Nat.le_of_ble_eq_true rfl, Nat.le_of_ble_eq_true rfl⟩ ?_
  refine lv_aload_n hx hb dX12_init_4 rfl (lv_at hl 0 rfl) ?_
  refine lv_iconst hx hb (v := (4 : Int32)) dX12_init_5 (by decide) ?_
  refine c_put F 0 1261 (ci := 12) (N := 62) (T := TX12) (v := .int (4 : Int32)) (ty := .int) rfl (by decide +kernel) (Nat.le_of_ble_eq_true rfl) rfl (by decide +kernel) rfl rfl (by rw [hl0]; decide) hP hD hS dX12_init_6 (fun H locs hP hD hS => ?_)
  obtain ⟨fs1, hf1⟩ : ∃ fs1 : List Value, fs1 = fs0.set 0 (.int (4 : Int32)) := ⟨_, rfl⟩
  rw [← hf1] at hP hD
  have hl1 : fs1.length = 62 := by rw [hf1, List.length_set]; exact hl0
  refine lv_aload_n hx hb dX12_init_9 rfl (lv_at hl 0 rfl) ?_
  refine lv_sipush hx hb (v := (200 : Int32)) dX12_init_10 (by decide) ?_
  refine c_put F 1 1262 (ci := 12) (N := 62) (T := TX12) (v := .int (200 : Int32)) (ty := .int) rfl (by decide +kernel) (Nat.le_of_ble_eq_true rfl) rfl (by decide +kernel) rfl rfl (by rw [hl1]; decide) hP hD hS dX12_init_13 (fun H locs hP hD hS => ?_)
  obtain ⟨fs2, hf2⟩ : ∃ fs2 : List Value, fs2 = fs1.set 1 (.int (200 : Int32)) := ⟨_, rfl⟩
  rw [← hf2] at hP hD
  have hl2 : fs2.length = 62 := by rw [hf2, List.length_set]; exact hl1
  refine lv_aload_n hx hb dX12_init_16 rfl (lv_at hl 0 rfl) ?_
  refine lv_sipush hx hb (v := (300 : Int32)) dX12_init_17 (by decide) ?_
  refine c_put F 3 1264 (ci := 12) (N := 62) (T := TX12) (v := .int (300 : Int32)) (ty := .int) rfl (by decide +kernel) (Nat.le_of_ble_eq_true rfl) rfl (by decide +kernel) rfl rfl (by rw [hl2]; decide) hP hD hS dX12_init_20 (fun H locs hP hD hS => ?_)
  obtain ⟨fs3, hf3⟩ : ∃ fs3 : List Value, fs3 = fs2.set 3 (.int (300 : Int32)) := ⟨_, rfl⟩
  rw [← hf3] at hP hD
  have hl3 : fs3.length = 62 := by rw [hf3, List.length_set]; exact hl2
  refine lv_aload_n hx hb dX12_init_23 rfl (lv_at hl 0 rfl) ?_
  refine lv_bipush hx hb (v := (20 : Int32)) dX12_init_24 (by decide) ?_
  refine c_put F 4 1265 (ci := 12) (N := 62) (T := TX12) (v := .int (20 : Int32)) (ty := .int) rfl (by decide +kernel) (Nat.le_of_ble_eq_true rfl) rfl (by decide +kernel) rfl rfl (by rw [hl3]; decide) hP hD hS dX12_init_26 (fun H locs hP hD hS => ?_)
  obtain ⟨fs4, hf4⟩ : ∃ fs4 : List Value, fs4 = fs3.set 4 (.int (20 : Int32)) := ⟨_, rfl⟩
  rw [← hf4] at hP hD
  have hl4 : fs4.length = 62 := by rw [hf4, List.length_set]; exact hl3
  refine lv_aload_n hx hb dX12_init_29 rfl (lv_at hl 0 rfl) ?_
  refine lv_iconst hx hb (v := (5 : Int32)) dX12_init_30 (by decide) ?_
  refine c_newi F hP hD hS hA 5 (by decide) (by decide) (by decide) (Nat.le_of_ble_eq_true rfl) (Nat.le_of_ble_eq_true rfl) dX12_init_31 (fun q1 H hP hD hS => ?_)
  refine W.widen (k := 1) (n := 5) (Nat.le_of_ble_eq_true rfl) (Nat.le_of_ble_eq_true rfl) ?_
  obtain ⟨T1, hT1⟩ : ∃ T1 : va_W, T1 = T0 ++ [(q1, .inl (K.1, 5, .inl (fun _ => 0)))] := ⟨_, rfl⟩
  have hP : va_P D vwCl ((h0, .inr (12, fs4)) :: T1) H := by rw [hT1]; exact hP
  have hD : va_D A ((h0, .inr (12, fs4)) :: T1) := by rw [hT1]; exact hD
  refine c_putF F 6 1267 (ci := 12) (N := 62) (T := TX12) (v := .ref q1) (ty := .array .int) rfl (by decide +kernel) (Nat.le_of_ble_eq_true rfl) rfl rfl (by decide +kernel) rfl rfl (by rw [hl4]; decide) hP hD hS dX12_init_33 (fun H locs hP hD hS => ?_)
  obtain ⟨fs5, hf5⟩ : ∃ fs5 : List Value, fs5 = fs4.set 6 (.ref q1) := ⟨_, rfl⟩
  rw [← hf5] at hP hD
  have hl5 : fs5.length = 62 := by rw [hf5, List.length_set]; exact hl4
  refine lv_aload_n hx hb dX12_init_36 rfl (lv_at hl 0 rfl) ?_
  refine lv_iconst hx hb (v := (5 : Int32)) dX12_init_37 (by decide) ?_
  refine c_newi F hP hD hS hA 5 (by decide) (by decide) (by decide) (Nat.le_of_ble_eq_true rfl) (Nat.le_of_ble_eq_true rfl) dX12_init_38 (fun q2 H hP hD hS => ?_)
  refine W.widen (k := 2) (n := 10) (Nat.le_of_ble_eq_true rfl) (Nat.le_of_ble_eq_true rfl) ?_
  obtain ⟨T2, hT2⟩ : ∃ T2 : va_W, T2 = T1 ++ [(q2, .inl (K.1, 5, .inl (fun _ => 0)))] := ⟨_, rfl⟩
  have hP : va_P D vwCl ((h0, .inr (12, fs5)) :: T2) H := by rw [hT2]; exact hP
  have hD : va_D A ((h0, .inr (12, fs5)) :: T2) := by rw [hT2]; exact hD
  refine c_putF F 7 1268 (ci := 12) (N := 62) (T := TX12) (v := .ref q2) (ty := .array .int) rfl (by decide +kernel) (Nat.le_of_ble_eq_true rfl) rfl rfl (by decide +kernel) rfl rfl (by rw [hl5]; decide) hP hD hS dX12_init_40 (fun H locs hP hD hS => ?_)
  obtain ⟨fs6, hf6⟩ : ∃ fs6 : List Value, fs6 = fs5.set 7 (.ref q2) := ⟨_, rfl⟩
  rw [← hf6] at hP hD
  have hl6 : fs6.length = 62 := by rw [hf6, List.length_set]; exact hl5
  refine lv_aload_n hx hb dX12_init_43 rfl (lv_at hl 0 rfl) ?_
  refine lv_iconst hx hb (v := (5 : Int32)) dX12_init_44 (by decide) ?_
  refine c_newi F hP hD hS hA 5 (by decide) (by decide) (by decide) (Nat.le_of_ble_eq_true rfl) (Nat.le_of_ble_eq_true rfl) dX12_init_45 (fun q3 H hP hD hS => ?_)
  refine W.widen (k := 3) (n := 15) (Nat.le_of_ble_eq_true rfl) (Nat.le_of_ble_eq_true rfl) ?_
  obtain ⟨T3, hT3⟩ : ∃ T3 : va_W, T3 = T2 ++ [(q3, .inl (K.1, 5, .inl (fun _ => 0)))] := ⟨_, rfl⟩
  have hP : va_P D vwCl ((h0, .inr (12, fs6)) :: T3) H := by rw [hT3]; exact hP
  have hD : va_D A ((h0, .inr (12, fs6)) :: T3) := by rw [hT3]; exact hD
  refine c_putF F 8 1269 (ci := 12) (N := 62) (T := TX12) (v := .ref q3) (ty := .array .int) rfl (by decide +kernel) (Nat.le_of_ble_eq_true rfl) rfl rfl (by decide +kernel) rfl rfl (by rw [hl6]; decide) hP hD hS dX12_init_47 (fun H locs hP hD hS => ?_)
  obtain ⟨fs7, hf7⟩ : ∃ fs7 : List Value, fs7 = fs6.set 8 (.ref q3) := ⟨_, rfl⟩
  rw [← hf7] at hP hD
  have hl7 : fs7.length = 62 := by rw [hf7, List.length_set]; exact hl6
  refine lv_aload_n hx hb dX12_init_50 rfl (lv_at hl 0 rfl) ?_
  refine lv_bipush hx hb (v := (25 : Int32)) dX12_init_51 (by decide) ?_
  refine c_newi F hP hD hS hA 25 (by decide) (by decide) (by decide) (Nat.le_of_ble_eq_true rfl) (Nat.le_of_ble_eq_true rfl) dX12_init_53 (fun q4 H hP hD hS => ?_)
  refine W.widen (k := 4) (n := 40) (Nat.le_of_ble_eq_true rfl) (Nat.le_of_ble_eq_true rfl) ?_
  obtain ⟨T4, hT4⟩ : ∃ T4 : va_W, T4 = T3 ++ [(q4, .inl (K.1, 25, .inl (fun _ => 0)))] := ⟨_, rfl⟩
  have hP : va_P D vwCl ((h0, .inr (12, fs7)) :: T4) H := by rw [hT4]; exact hP
  have hD : va_D A ((h0, .inr (12, fs7)) :: T4) := by rw [hT4]; exact hD
  refine c_putF F 9 1270 (ci := 12) (N := 62) (T := TX12) (v := .ref q4) (ty := .array .int) rfl (by decide +kernel) (Nat.le_of_ble_eq_true rfl) rfl rfl (by decide +kernel) rfl rfl (by rw [hl7]; decide) hP hD hS dX12_init_55 (fun H locs hP hD hS => ?_)
  obtain ⟨fs8, hf8⟩ : ∃ fs8 : List Value, fs8 = fs7.set 9 (.ref q4) := ⟨_, rfl⟩
  rw [← hf8] at hP hD
  have hl8 : fs8.length = 62 := by rw [hf8, List.length_set]; exact hl7
  refine lv_aload_n hx hb dX12_init_58 rfl (lv_at hl 0 rfl) ?_
  refine lv_bipush hx hb (v := (20 : Int32)) dX12_init_59 (by decide) ?_
  refine c_newi F hP hD hS hA 20 (by decide) (by decide) (by decide) (Nat.le_of_ble_eq_true rfl) (Nat.le_of_ble_eq_true rfl) dX12_init_61 (fun q5 H hP hD hS => ?_)
  refine W.widen (k := 5) (n := 60) (Nat.le_of_ble_eq_true rfl) (Nat.le_of_ble_eq_true rfl) ?_
  obtain ⟨T5, hT5⟩ : ∃ T5 : va_W, T5 = T4 ++ [(q5, .inl (K.1, 20, .inl (fun _ => 0)))] := ⟨_, rfl⟩
  have hP : va_P D vwCl ((h0, .inr (12, fs8)) :: T5) H := by rw [hT5]; exact hP
  have hD : va_D A ((h0, .inr (12, fs8)) :: T5) := by rw [hT5]; exact hD
  refine c_putF F 11 1272 (ci := 12) (N := 62) (T := TX12) (v := .ref q5) (ty := .array .int) rfl (by decide +kernel) (Nat.le_of_ble_eq_true rfl) rfl rfl (by decide +kernel) rfl rfl (by rw [hl8]; decide) hP hD hS dX12_init_63 (fun H locs hP hD hS => ?_)
  obtain ⟨fs9, hf9⟩ : ∃ fs9 : List Value, fs9 = fs8.set 11 (.ref q5) := ⟨_, rfl⟩
  rw [← hf9] at hP hD
  have hl9 : fs9.length = 62 := by rw [hf9, List.length_set]; exact hl8
  refine lv_aload_n hx hb dX12_init_66 rfl (lv_at hl 0 rfl) ?_
  refine lv_iconst hx hb (v := (4 : Int32)) dX12_init_67 (by decide) ?_
  refine c_newi F hP hD hS hA 4 (by decide) (by decide) (by decide) (Nat.le_of_ble_eq_true rfl) (Nat.le_of_ble_eq_true rfl) dX12_init_68 (fun q6 H hP hD hS => ?_)
  refine W.widen (k := 6) (n := 64) (Nat.le_of_ble_eq_true rfl) (Nat.le_of_ble_eq_true rfl) ?_
  obtain ⟨T6, hT6⟩ : ∃ T6 : va_W, T6 = T5 ++ [(q6, .inl (K.1, 4, .inl (fun _ => 0)))] := ⟨_, rfl⟩
  have hP : va_P D vwCl ((h0, .inr (12, fs9)) :: T6) H := by rw [hT6]; exact hP
  have hD : va_D A ((h0, .inr (12, fs9)) :: T6) := by rw [hT6]; exact hD
  refine c_putF F 12 1273 (ci := 12) (N := 62) (T := TX12) (v := .ref q6) (ty := .array .int) rfl (by decide +kernel) (Nat.le_of_ble_eq_true rfl) rfl rfl (by decide +kernel) rfl rfl (by rw [hl9]; decide) hP hD hS dX12_init_70 (fun H locs hP hD hS => ?_)
  obtain ⟨fs10, hf10⟩ : ∃ fs10 : List Value, fs10 = fs9.set 12 (.ref q6) := ⟨_, rfl⟩
  rw [← hf10] at hP hD
  have hl10 : fs10.length = 62 := by rw [hf10, List.length_set]; exact hl9
  refine lv_aload_n hx hb dX12_init_73 rfl (lv_at hl 0 rfl) ?_
  refine lv_iconst hx hb (v := (4 : Int32)) dX12_init_74 (by decide) ?_
  refine c_newi F hP hD hS hA 4 (by decide) (by decide) (by decide) (Nat.le_of_ble_eq_true rfl) (Nat.le_of_ble_eq_true rfl) dX12_init_75 (fun q7 H hP hD hS => ?_)
  refine W.widen (k := 7) (n := 68) (Nat.le_of_ble_eq_true rfl) (Nat.le_of_ble_eq_true rfl) ?_
  obtain ⟨T7, hT7⟩ : ∃ T7 : va_W, T7 = T6 ++ [(q7, .inl (K.1, 4, .inl (fun _ => 0)))] := ⟨_, rfl⟩
  have hP : va_P D vwCl ((h0, .inr (12, fs10)) :: T7) H := by rw [hT7]; exact hP
  have hD : va_D A ((h0, .inr (12, fs10)) :: T7) := by rw [hT7]; exact hD
  refine c_putF F 13 1274 (ci := 12) (N := 62) (T := TX12) (v := .ref q7) (ty := .array .int) rfl (by decide +kernel) (Nat.le_of_ble_eq_true rfl) rfl rfl (by decide +kernel) rfl rfl (by rw [hl10]; decide) hP hD hS dX12_init_77 (fun H locs hP hD hS => ?_)
  obtain ⟨fs11, hf11⟩ : ∃ fs11 : List Value, fs11 = fs10.set 13 (.ref q7) := ⟨_, rfl⟩
  rw [← hf11] at hP hD
  have hl11 : fs11.length = 62 := by rw [hf11, List.length_set]; exact hl10
  refine lv_aload_n hx hb dX12_init_80 rfl (lv_at hl 0 rfl) ?_
  refine lv_bipush hx hb (v := (20 : Int32)) dX12_init_81 (by decide) ?_
  refine c_newi F hP hD hS hA 20 (by decide) (by decide) (by decide) (Nat.le_of_ble_eq_true rfl) (Nat.le_of_ble_eq_true rfl) dX12_init_83 (fun q8 H hP hD hS => ?_)
  refine W.widen (k := 8) (n := 88) (Nat.le_of_ble_eq_true rfl) (Nat.le_of_ble_eq_true rfl) ?_
  obtain ⟨T8, hT8⟩ : ∃ T8 : va_W, T8 = T7 ++ [(q8, .inl (K.1, 20, .inl (fun _ => 0)))] := ⟨_, rfl⟩
  have hP : va_P D vwCl ((h0, .inr (12, fs11)) :: T8) H := by rw [hT8]; exact hP
  have hD : va_D A ((h0, .inr (12, fs11)) :: T8) := by rw [hT8]; exact hD
  refine c_putF F 14 1275 (ci := 12) (N := 62) (T := TX12) (v := .ref q8) (ty := .array .int) rfl (by decide +kernel) (Nat.le_of_ble_eq_true rfl) rfl rfl (by decide +kernel) rfl rfl (by rw [hl11]; decide) hP hD hS dX12_init_85 (fun H locs hP hD hS => ?_)
  obtain ⟨fs12, hf12⟩ : ∃ fs12 : List Value, fs12 = fs11.set 14 (.ref q8) := ⟨_, rfl⟩
  rw [← hf12] at hP hD
  have hl12 : fs12.length = 62 := by rw [hf12, List.length_set]; exact hl11
  refine lv_aload_n hx hb dX12_init_88 rfl (lv_at hl 0 rfl) ?_
  refine lv_bipush hx hb (v := (16 : Int32)) dX12_init_89 (by decide) ?_
  refine c_newi F hP hD hS hA 16 (by decide) (by decide) (by decide) (Nat.le_of_ble_eq_true rfl) (Nat.le_of_ble_eq_true rfl) dX12_init_91 (fun q9 H hP hD hS => ?_)
  refine W.widen (k := 9) (n := 104) (Nat.le_of_ble_eq_true rfl) (Nat.le_of_ble_eq_true rfl) ?_
  obtain ⟨T9, hT9⟩ : ∃ T9 : va_W, T9 = T8 ++ [(q9, .inl (K.1, 16, .inl (fun _ => 0)))] := ⟨_, rfl⟩
  have hP : va_P D vwCl ((h0, .inr (12, fs12)) :: T9) H := by rw [hT9]; exact hP
  have hD : va_D A ((h0, .inr (12, fs12)) :: T9) := by rw [hT9]; exact hD
  refine c_putF F 15 1276 (ci := 12) (N := 62) (T := TX12) (v := .ref q9) (ty := .array .int) rfl (by decide +kernel) (Nat.le_of_ble_eq_true rfl) rfl rfl (by decide +kernel) rfl rfl (by rw [hl12]; decide) hP hD hS dX12_init_93 (fun H locs hP hD hS => ?_)
  obtain ⟨fs13, hf13⟩ : ∃ fs13 : List Value, fs13 = fs12.set 15 (.ref q9) := ⟨_, rfl⟩
  rw [← hf13] at hP hD
  have hl13 : fs13.length = 62 := by rw [hf13, List.length_set]; exact hl12
  refine lv_aload_n hx hb dX12_init_96 rfl (lv_at hl 0 rfl) ?_
  refine lv_bipush hx hb (v := (8 : Int32)) dX12_init_97 (by decide) ?_
  refine c_newi F hP hD hS hA 8 (by decide) (by decide) (by decide) (Nat.le_of_ble_eq_true rfl) (Nat.le_of_ble_eq_true rfl) dX12_init_99 (fun q10 H hP hD hS => ?_)
  refine W.widen (k := 10) (n := 112) (Nat.le_of_ble_eq_true rfl) (Nat.le_of_ble_eq_true rfl) ?_
  obtain ⟨T10, hT10⟩ : ∃ T10 : va_W, T10 = T9 ++ [(q10, .inl (K.1, 8, .inl (fun _ => 0)))] := ⟨_, rfl⟩
  have hP : va_P D vwCl ((h0, .inr (12, fs13)) :: T10) H := by rw [hT10]; exact hP
  have hD : va_D A ((h0, .inr (12, fs13)) :: T10) := by rw [hT10]; exact hD
  refine c_putF F 17 1278 (ci := 12) (N := 62) (T := TX12) (v := .ref q10) (ty := .array .int) rfl (by decide +kernel) (Nat.le_of_ble_eq_true rfl) rfl rfl (by decide +kernel) rfl rfl (by rw [hl13]; decide) hP hD hS dX12_init_101 (fun H locs hP hD hS => ?_)
  obtain ⟨fs14, hf14⟩ : ∃ fs14 : List Value, fs14 = fs13.set 17 (.ref q10) := ⟨_, rfl⟩
  rw [← hf14] at hP hD
  have hl14 : fs14.length = 62 := by rw [hf14, List.length_set]; exact hl13
  refine lv_aload_n hx hb dX12_init_104 rfl (lv_at hl 0 rfl) ?_
  refine lv_bipush hx hb (v := (8 : Int32)) dX12_init_105 (by decide) ?_
  refine c_newi F hP hD hS hA 8 (by decide) (by decide) (by decide) (Nat.le_of_ble_eq_true rfl) (Nat.le_of_ble_eq_true rfl) dX12_init_107 (fun q11 H hP hD hS => ?_)
  refine W.widen (k := 11) (n := 120) (Nat.le_of_ble_eq_true rfl) (Nat.le_of_ble_eq_true rfl) ?_
  obtain ⟨T11, hT11⟩ : ∃ T11 : va_W, T11 = T10 ++ [(q11, .inl (K.1, 8, .inl (fun _ => 0)))] := ⟨_, rfl⟩
  have hP : va_P D vwCl ((h0, .inr (12, fs14)) :: T11) H := by rw [hT11]; exact hP
  have hD : va_D A ((h0, .inr (12, fs14)) :: T11) := by rw [hT11]; exact hD
  refine c_putF F 18 1279 (ci := 12) (N := 62) (T := TX12) (v := .ref q11) (ty := .array .int) rfl (by decide +kernel) (Nat.le_of_ble_eq_true rfl) rfl rfl (by decide +kernel) rfl rfl (by rw [hl14]; decide) hP hD hS dX12_init_109 (fun H locs hP hD hS => ?_)
  obtain ⟨fs15, hf15⟩ : ∃ fs15 : List Value, fs15 = fs14.set 18 (.ref q11) := ⟨_, rfl⟩
  rw [← hf15] at hP hD
  have hl15 : fs15.length = 62 := by rw [hf15, List.length_set]; exact hl14
  refine lv_aload_n hx hb dX12_init_112 rfl (lv_at hl 0 rfl) ?_
  refine lv_bipush hx hb (v := (8 : Int32)) dX12_init_113 (by decide) ?_
  refine c_newi F hP hD hS hA 8 (by decide) (by decide) (by decide) (Nat.le_of_ble_eq_true rfl) (Nat.le_of_ble_eq_true rfl) dX12_init_115 (fun q12 H hP hD hS => ?_)
  refine W.widen (k := 12) (n := 128) (Nat.le_of_ble_eq_true rfl) (Nat.le_of_ble_eq_true rfl) ?_
  obtain ⟨T12, hT12⟩ : ∃ T12 : va_W, T12 = T11 ++ [(q12, .inl (K.1, 8, .inl (fun _ => 0)))] := ⟨_, rfl⟩
  have hP : va_P D vwCl ((h0, .inr (12, fs15)) :: T12) H := by rw [hT12]; exact hP
  have hD : va_D A ((h0, .inr (12, fs15)) :: T12) := by rw [hT12]; exact hD
  refine c_putF F 19 1280 (ci := 12) (N := 62) (T := TX12) (v := .ref q12) (ty := .array .int) rfl (by decide +kernel) (Nat.le_of_ble_eq_true rfl) rfl rfl (by decide +kernel) rfl rfl (by rw [hl15]; decide) hP hD hS dX12_init_117 (fun H locs hP hD hS => ?_)
  obtain ⟨fs16, hf16⟩ : ∃ fs16 : List Value, fs16 = fs15.set 19 (.ref q12) := ⟨_, rfl⟩
  rw [← hf16] at hP hD
  have hl16 : fs16.length = 62 := by rw [hf16, List.length_set]; exact hl15
  refine lv_aload_n hx hb dX12_init_120 rfl (lv_at hl 0 rfl) ?_
  refine lv_bipush hx hb (v := (6 : Int32)) dX12_init_121 (by decide) ?_
  refine c_newi F hP hD hS hA 6 (by decide) (by decide) (by decide) (Nat.le_of_ble_eq_true rfl) (Nat.le_of_ble_eq_true rfl) dX12_init_123 (fun q13 H hP hD hS => ?_)
  refine W.widen (k := 13) (n := 134) (Nat.le_of_ble_eq_true rfl) (Nat.le_of_ble_eq_true rfl) ?_
  obtain ⟨T13, hT13⟩ : ∃ T13 : va_W, T13 = T12 ++ [(q13, .inl (K.1, 6, .inl (fun _ => 0)))] := ⟨_, rfl⟩
  have hP : va_P D vwCl ((h0, .inr (12, fs16)) :: T13) H := by rw [hT13]; exact hP
  have hD : va_D A ((h0, .inr (12, fs16)) :: T13) := by rw [hT13]; exact hD
  refine c_putF F 21 1282 (ci := 12) (N := 62) (T := TX12) (v := .ref q13) (ty := .array .int) rfl (by decide +kernel) (Nat.le_of_ble_eq_true rfl) rfl rfl (by decide +kernel) rfl rfl (by rw [hl16]; decide) hP hD hS dX12_init_125 (fun H locs hP hD hS => ?_)
  obtain ⟨fs17, hf17⟩ : ∃ fs17 : List Value, fs17 = fs16.set 21 (.ref q13) := ⟨_, rfl⟩
  rw [← hf17] at hP hD
  have hl17 : fs17.length = 62 := by rw [hf17, List.length_set]; exact hl16
  refine lv_aload_n hx hb dX12_init_128 rfl (lv_at hl 0 rfl) ?_
  refine lv_bipush hx hb (v := (6 : Int32)) dX12_init_129 (by decide) ?_
  refine c_newi F hP hD hS hA 6 (by decide) (by decide) (by decide) (Nat.le_of_ble_eq_true rfl) (Nat.le_of_ble_eq_true rfl) dX12_init_131 (fun q14 H hP hD hS => ?_)
  refine W.widen (k := 14) (n := 140) (Nat.le_of_ble_eq_true rfl) (Nat.le_of_ble_eq_true rfl) ?_
  obtain ⟨T14, hT14⟩ : ∃ T14 : va_W, T14 = T13 ++ [(q14, .inl (K.1, 6, .inl (fun _ => 0)))] := ⟨_, rfl⟩
  have hP : va_P D vwCl ((h0, .inr (12, fs17)) :: T14) H := by rw [hT14]; exact hP
  have hD : va_D A ((h0, .inr (12, fs17)) :: T14) := by rw [hT14]; exact hD
  refine c_putF F 22 1283 (ci := 12) (N := 62) (T := TX12) (v := .ref q14) (ty := .array .int) rfl (by decide +kernel) (Nat.le_of_ble_eq_true rfl) rfl rfl (by decide +kernel) rfl rfl (by rw [hl17]; decide) hP hD hS dX12_init_133 (fun H locs hP hD hS => ?_)
  obtain ⟨fs18, hf18⟩ : ∃ fs18 : List Value, fs18 = fs17.set 22 (.ref q14) := ⟨_, rfl⟩
  rw [← hf18] at hP hD
  have hl18 : fs18.length = 62 := by rw [hf18, List.length_set]; exact hl17
  refine lv_aload_n hx hb dX12_init_136 rfl (lv_at hl 0 rfl) ?_
  refine lv_sipush hx hb (v := (160 : Int32)) dX12_init_137 (by decide) ?_
  refine c_newi F hP hD hS hA 160 (by decide) (by decide) (by decide) (Nat.le_of_ble_eq_true rfl) (Nat.le_of_ble_eq_true rfl) dX12_init_140 (fun q15 H hP hD hS => ?_)
  refine W.widen (k := 15) (n := 300) (Nat.le_of_ble_eq_true rfl) (Nat.le_of_ble_eq_true rfl) ?_
  obtain ⟨T15, hT15⟩ : ∃ T15 : va_W, T15 = T14 ++ [(q15, .inl (K.1, 160, .inl (fun _ => 0)))] := ⟨_, rfl⟩
  have hP : va_P D vwCl ((h0, .inr (12, fs18)) :: T15) H := by rw [hT15]; exact hP
  have hD : va_D A ((h0, .inr (12, fs18)) :: T15) := by rw [hT15]; exact hD
  refine c_putF F 23 1284 (ci := 12) (N := 62) (T := TX12) (v := .ref q15) (ty := .array .int) rfl (by decide +kernel) (Nat.le_of_ble_eq_true rfl) rfl rfl (by decide +kernel) rfl rfl (by rw [hl18]; decide) hP hD hS dX12_init_142 (fun H locs hP hD hS => ?_)
  obtain ⟨fs19, hf19⟩ : ∃ fs19 : List Value, fs19 = fs18.set 23 (.ref q15) := ⟨_, rfl⟩
  rw [← hf19] at hP hD
  have hl19 : fs19.length = 62 := by rw [hf19, List.length_set]; exact hl18
  refine lv_aload_n hx hb dX12_init_145 rfl (lv_at hl 0 rfl) ?_
  refine lv_sipush hx hb (v := (1200 : Int32)) dX12_init_146 (by decide) ?_
  refine c_newi F hP hD hS hA 1200 (by decide) (by decide) (by decide) (Nat.le_of_ble_eq_true rfl) (Nat.le_of_ble_eq_true rfl) dX12_init_149 (fun q16 H hP hD hS => ?_)
  refine W.widen (k := 16) (n := 1500) (Nat.le_of_ble_eq_true rfl) (Nat.le_of_ble_eq_true rfl) ?_
  obtain ⟨T16, hT16⟩ : ∃ T16 : va_W, T16 = T15 ++ [(q16, .inl (K.1, 1200, .inl (fun _ => 0)))] := ⟨_, rfl⟩
  have hP : va_P D vwCl ((h0, .inr (12, fs19)) :: T16) H := by rw [hT16]; exact hP
  have hD : va_D A ((h0, .inr (12, fs19)) :: T16) := by rw [hT16]; exact hD
  refine c_putF F 25 1286 (ci := 12) (N := 62) (T := TX12) (v := .ref q16) (ty := .array .int) rfl (by decide +kernel) (Nat.le_of_ble_eq_true rfl) rfl rfl (by decide +kernel) rfl rfl (by rw [hl19]; decide) hP hD hS dX12_init_151 (fun H locs hP hD hS => ?_)
  obtain ⟨fs20, hf20⟩ : ∃ fs20 : List Value, fs20 = fs19.set 25 (.ref q16) := ⟨_, rfl⟩
  rw [← hf20] at hP hD
  have hl20 : fs20.length = 62 := by rw [hf20, List.length_set]; exact hl19
  refine lv_aload_n hx hb dX12_init_154 rfl (lv_at hl 0 rfl) ?_
  refine lv_bipush hx hb (v := (24 : Int32)) dX12_init_155 (by decide) ?_
  refine c_newi F hP hD hS hA 24 (by decide) (by decide) (by decide) (Nat.le_of_ble_eq_true rfl) (Nat.le_of_ble_eq_true rfl) dX12_init_157 (fun q17 H hP hD hS => ?_)
  refine W.widen (k := 17) (n := 1524) (Nat.le_of_ble_eq_true rfl) (Nat.le_of_ble_eq_true rfl) ?_
  obtain ⟨T17, hT17⟩ : ∃ T17 : va_W, T17 = T16 ++ [(q17, .inl (K.1, 24, .inl (fun _ => 0)))] := ⟨_, rfl⟩
  have hP : va_P D vwCl ((h0, .inr (12, fs20)) :: T17) H := by rw [hT17]; exact hP
  have hD : va_D A ((h0, .inr (12, fs20)) :: T17) := by rw [hT17]; exact hD
  refine c_putF F 26 1287 (ci := 12) (N := 62) (T := TX12) (v := .ref q17) (ty := .array .int) rfl (by decide +kernel) (Nat.le_of_ble_eq_true rfl) rfl rfl (by decide +kernel) rfl rfl (by rw [hl20]; decide) hP hD hS dX12_init_159 (fun H locs hP hD hS => ?_)
  obtain ⟨fs21, hf21⟩ : ∃ fs21 : List Value, fs21 = fs20.set 26 (.ref q17) := ⟨_, rfl⟩
  rw [← hf21] at hP hD
  have hl21 : fs21.length = 62 := by rw [hf21, List.length_set]; exact hl20
  refine lv_aload_n hx hb dX12_init_162 rfl (lv_at hl 0 rfl) ?_
  refine lv_iconst hx hb (v := (1 : Int32)) dX12_init_163 (by decide) ?_
  refine c_put F 27 1288 (ci := 12) (N := 62) (T := TX12) (v := .int (1 : Int32)) (ty := .int) rfl (by decide +kernel) (Nat.le_of_ble_eq_true rfl) rfl (by decide +kernel) rfl rfl (by rw [hl21]; decide) hP hD hS dX12_init_164 (fun H locs hP hD hS => ?_)
  obtain ⟨fs22, hf22⟩ : ∃ fs22 : List Value, fs22 = fs21.set 27 (.int (1 : Int32)) := ⟨_, rfl⟩
  rw [← hf22] at hP hD
  have hl22 : fs22.length = 62 := by rw [hf22, List.length_set]; exact hl21
  refine lv_aload_n hx hb dX12_init_167 rfl (lv_at hl 0 rfl) ?_
  refine lv_iconst hx hb (v := (5 : Int32)) dX12_init_168 (by decide) ?_
  refine c_newi F hP hD hS hA 5 (by decide) (by decide) (by decide) (Nat.le_of_ble_eq_true rfl) (Nat.le_of_ble_eq_true rfl) dX12_init_169 (fun q18 H hP hD hS => ?_)
  refine W.widen (k := 18) (n := 1529) (Nat.le_of_ble_eq_true rfl) (Nat.le_of_ble_eq_true rfl) ?_
  obtain ⟨T18, hT18⟩ : ∃ T18 : va_W, T18 = T17 ++ [(q18, .inl (K.1, 5, .inl (fun _ => 0)))] := ⟨_, rfl⟩
  have hP : va_P D vwCl ((h0, .inr (12, fs22)) :: T18) H := by rw [hT18]; exact hP
  have hD : va_D A ((h0, .inr (12, fs22)) :: T18) := by rw [hT18]; exact hD
  refine c_putF F 32 1293 (ci := 12) (N := 62) (T := TX12) (v := .ref q18) (ty := .array .int) rfl (by decide +kernel) (Nat.le_of_ble_eq_true rfl) rfl rfl (by decide +kernel) rfl rfl (by rw [hl22]; decide) hP hD hS dX12_init_171 (fun H locs hP hD hS => ?_)
  obtain ⟨fs23, hf23⟩ : ∃ fs23 : List Value, fs23 = fs22.set 32 (.ref q18) := ⟨_, rfl⟩
  rw [← hf23] at hP hD
  have hl23 : fs23.length = 62 := by rw [hf23, List.length_set]; exact hl22
  refine lv_aload_n hx hb dX12_init_174 rfl (lv_at hl 0 rfl) ?_
  refine lv_bipush hx hb (v := (25 : Int32)) dX12_init_175 (by decide) ?_
  refine c_newi F hP hD hS hA 25 (by decide) (by decide) (by decide) (Nat.le_of_ble_eq_true rfl) (Nat.le_of_ble_eq_true rfl) dX12_init_177 (fun q19 H hP hD hS => ?_)
  refine W.widen (k := 19) (n := 1554) (Nat.le_of_ble_eq_true rfl) (Nat.le_of_ble_eq_true rfl) ?_
  obtain ⟨T19, hT19⟩ : ∃ T19 : va_W, T19 = T18 ++ [(q19, .inl (K.1, 25, .inl (fun _ => 0)))] := ⟨_, rfl⟩
  have hP : va_P D vwCl ((h0, .inr (12, fs23)) :: T19) H := by rw [hT19]; exact hP
  have hD : va_D A ((h0, .inr (12, fs23)) :: T19) := by rw [hT19]; exact hD
  refine c_putF F 33 1294 (ci := 12) (N := 62) (T := TX12) (v := .ref q19) (ty := .array .int) rfl (by decide +kernel) (Nat.le_of_ble_eq_true rfl) rfl rfl (by decide +kernel) rfl rfl (by rw [hl23]; decide) hP hD hS dX12_init_179 (fun H locs hP hD hS => ?_)
  obtain ⟨fs24, hf24⟩ : ∃ fs24 : List Value, fs24 = fs23.set 33 (.ref q19) := ⟨_, rfl⟩
  rw [← hf24] at hP hD
  have hl24 : fs24.length = 62 := by rw [hf24, List.length_set]; exact hl23
  refine lv_aload_n hx hb dX12_init_182 rfl (lv_at hl 0 rfl) ?_
  refine lv_iconst hx hb (v := (4 : Int32)) dX12_init_183 (by decide) ?_
  refine c_newi F hP hD hS hA 4 (by decide) (by decide) (by decide) (Nat.le_of_ble_eq_true rfl) (Nat.le_of_ble_eq_true rfl) dX12_init_184 (fun q20 H hP hD hS => ?_)
  refine W.widen (k := 20) (n := 1558) (Nat.le_of_ble_eq_true rfl) (Nat.le_of_ble_eq_true rfl) ?_
  obtain ⟨T20, hT20⟩ : ∃ T20 : va_W, T20 = T19 ++ [(q20, .inl (K.1, 4, .inl (fun _ => 0)))] := ⟨_, rfl⟩
  have hP : va_P D vwCl ((h0, .inr (12, fs24)) :: T20) H := by rw [hT20]; exact hP
  have hD : va_D A ((h0, .inr (12, fs24)) :: T20) := by rw [hT20]; exact hD
  refine c_putF F 35 1296 (ci := 12) (N := 62) (T := TX12) (v := .ref q20) (ty := .array .int) rfl (by decide +kernel) (Nat.le_of_ble_eq_true rfl) rfl rfl (by decide +kernel) rfl rfl (by rw [hl24]; decide) hP hD hS dX12_init_186 (fun H locs hP hD hS => ?_)
  obtain ⟨fs25, hf25⟩ : ∃ fs25 : List Value, fs25 = fs24.set 35 (.ref q20) := ⟨_, rfl⟩
  rw [← hf25] at hP hD
  have hl25 : fs25.length = 62 := by rw [hf25, List.length_set]; exact hl24
  refine lv_aload_n hx hb dX12_init_189 rfl (lv_at hl 0 rfl) ?_
  refine lv_iconst hx hb (v := (4 : Int32)) dX12_init_190 (by decide) ?_
  refine c_newi F hP hD hS hA 4 (by decide) (by decide) (by decide) (Nat.le_of_ble_eq_true rfl) (Nat.le_of_ble_eq_true rfl) dX12_init_191 (fun q21 H hP hD hS => ?_)
  refine W.widen (k := 21) (n := 1562) (Nat.le_of_ble_eq_true rfl) (Nat.le_of_ble_eq_true rfl) ?_
  obtain ⟨T21, hT21⟩ : ∃ T21 : va_W, T21 = T20 ++ [(q21, .inl (K.1, 4, .inl (fun _ => 0)))] := ⟨_, rfl⟩
  have hP : va_P D vwCl ((h0, .inr (12, fs25)) :: T21) H := by rw [hT21]; exact hP
  have hD : va_D A ((h0, .inr (12, fs25)) :: T21) := by rw [hT21]; exact hD
  refine c_putF F 36 1297 (ci := 12) (N := 62) (T := TX12) (v := .ref q21) (ty := .array .int) rfl (by decide +kernel) (Nat.le_of_ble_eq_true rfl) rfl rfl (by decide +kernel) rfl rfl (by rw [hl25]; decide) hP hD hS dX12_init_193 (fun H locs hP hD hS => ?_)
  obtain ⟨fs26, hf26⟩ : ∃ fs26 : List Value, fs26 = fs25.set 36 (.ref q21) := ⟨_, rfl⟩
  rw [← hf26] at hP hD
  have hl26 : fs26.length = 62 := by rw [hf26, List.length_set]; exact hl25
  refine lv_aload_n hx hb dX12_init_196 rfl (lv_at hl 0 rfl) ?_
  refine lv_bipush hx hb (v := (20 : Int32)) dX12_init_197 (by decide) ?_
  refine c_newi F hP hD hS hA 20 (by decide) (by decide) (by decide) (Nat.le_of_ble_eq_true rfl) (Nat.le_of_ble_eq_true rfl) dX12_init_199 (fun q22 H hP hD hS => ?_)
  refine W.widen (k := 22) (n := 1582) (Nat.le_of_ble_eq_true rfl) (Nat.le_of_ble_eq_true rfl) ?_
  obtain ⟨T22, hT22⟩ : ∃ T22 : va_W, T22 = T21 ++ [(q22, .inl (K.1, 20, .inl (fun _ => 0)))] := ⟨_, rfl⟩
  have hP : va_P D vwCl ((h0, .inr (12, fs26)) :: T22) H := by rw [hT22]; exact hP
  have hD : va_D A ((h0, .inr (12, fs26)) :: T22) := by rw [hT22]; exact hD
  refine c_putF F 37 1298 (ci := 12) (N := 62) (T := TX12) (v := .ref q22) (ty := .array .int) rfl (by decide +kernel) (Nat.le_of_ble_eq_true rfl) rfl rfl (by decide +kernel) rfl rfl (by rw [hl26]; decide) hP hD hS dX12_init_201 (fun H locs hP hD hS => ?_)
  obtain ⟨fs27, hf27⟩ : ∃ fs27 : List Value, fs27 = fs26.set 37 (.ref q22) := ⟨_, rfl⟩
  rw [← hf27] at hP hD
  have hl27 : fs27.length = 62 := by rw [hf27, List.length_set]; exact hl26
  refine lv_aload_n hx hb dX12_init_204 rfl (lv_at hl 0 rfl) ?_
  refine lv_bipush hx hb (v := (16 : Int32)) dX12_init_205 (by decide) ?_
  refine c_newi F hP hD hS hA 16 (by decide) (by decide) (by decide) (Nat.le_of_ble_eq_true rfl) (Nat.le_of_ble_eq_true rfl) dX12_init_207 (fun q23 H hP hD hS => ?_)
  refine W.widen (k := 23) (n := 1598) (Nat.le_of_ble_eq_true rfl) (Nat.le_of_ble_eq_true rfl) ?_
  obtain ⟨T23, hT23⟩ : ∃ T23 : va_W, T23 = T22 ++ [(q23, .inl (K.1, 16, .inl (fun _ => 0)))] := ⟨_, rfl⟩
  have hP : va_P D vwCl ((h0, .inr (12, fs27)) :: T23) H := by rw [hT23]; exact hP
  have hD : va_D A ((h0, .inr (12, fs27)) :: T23) := by rw [hT23]; exact hD
  refine c_putF F 38 1299 (ci := 12) (N := 62) (T := TX12) (v := .ref q23) (ty := .array .int) rfl (by decide +kernel) (Nat.le_of_ble_eq_true rfl) rfl rfl (by decide +kernel) rfl rfl (by rw [hl27]; decide) hP hD hS dX12_init_209 (fun H locs hP hD hS => ?_)
  obtain ⟨fs28, hf28⟩ : ∃ fs28 : List Value, fs28 = fs27.set 38 (.ref q23) := ⟨_, rfl⟩
  rw [← hf28] at hP hD
  have hl28 : fs28.length = 62 := by rw [hf28, List.length_set]; exact hl27
  refine lv_aload_n hx hb dX12_init_212 rfl (lv_at hl 0 rfl) ?_
  refine lv_iconst hx hb (v := (4 : Int32)) dX12_init_213 (by decide) ?_
  refine c_newi F hP hD hS hA 4 (by decide) (by decide) (by decide) (Nat.le_of_ble_eq_true rfl) (Nat.le_of_ble_eq_true rfl) dX12_init_214 (fun q24 H hP hD hS => ?_)
  refine W.widen (k := 24) (n := 1602) (Nat.le_of_ble_eq_true rfl) (Nat.le_of_ble_eq_true rfl) ?_
  refine lv_dup hx hb dX12_init_216 rfl ?_
  refine lv_iconst hx hb (v := (0 : Int32)) dX12_init_217 (by decide) ?_
  refine lv_iconst hx hb (v := (Int32.ofInt (-1))) dX12_init_218 (by decide) ?_
  refine c_iast F (i := (0 : Int32)) (n := 4) (by unfold vp_in; decide) hP hD hS dX12_init_219 (fun H locs hP hD hS => ?_)
  refine lv_dup hx hb dX12_init_220 rfl ?_
  refine lv_iconst hx hb (v := (1 : Int32)) dX12_init_221 (by decide) ?_
  refine lv_iconst hx hb (v := (Int32.ofInt (-1))) dX12_init_222 (by decide) ?_
  refine c_iast F (i := (1 : Int32)) (n := 4) (by unfold vp_in; decide) hP hD hS dX12_init_223 (fun H locs hP hD hS => ?_)
  refine lv_dup hx hb dX12_init_224 rfl ?_
  refine lv_iconst hx hb (v := (2 : Int32)) dX12_init_225 (by decide) ?_
  refine lv_iconst hx hb (v := (Int32.ofInt (-1))) dX12_init_226 (by decide) ?_
  refine c_iast F (i := (2 : Int32)) (n := 4) (by unfold vp_in; decide) hP hD hS dX12_init_227 (fun H locs hP hD hS => ?_)
  refine lv_dup hx hb dX12_init_228 rfl ?_
  refine lv_iconst hx hb (v := (3 : Int32)) dX12_init_229 (by decide) ?_
  refine lv_iconst hx hb (v := (Int32.ofInt (-1))) dX12_init_230 (by decide) ?_
  refine c_iast F (i := (3 : Int32)) (n := 4) (by unfold vp_in; decide) hP hD hS dX12_init_231 (fun H locs hP hD hS => ?_)
  obtain ⟨T24, hT24⟩ : ∃ T24 : va_W, T24 = T23 ++ [(q24, .inl (K.1, 4, .inl (upd (upd (upd (upd (fun _ => 0) (0 : Int32).toNatClampNeg (Int32.ofInt (-1))) (1 : Int32).toNatClampNeg (Int32.ofInt (-1))) (2 : Int32).toNatClampNeg (Int32.ofInt (-1))) (3 : Int32).toNatClampNeg (Int32.ofInt (-1)))))] := ⟨_, rfl⟩
  have hP : va_P D vwCl ((h0, .inr (12, fs28)) :: T24) H := by rw [hT24]; exact hP
  have hD : va_D A ((h0, .inr (12, fs28)) :: T24) := by rw [hT24]; exact hD
  refine c_putF F 39 1300 (ci := 12) (N := 62) (T := TX12) (v := .ref q24) (ty := .array .int) rfl (by decide +kernel) (Nat.le_of_ble_eq_true rfl) rfl rfl (by decide +kernel) rfl rfl (by rw [hl28]; decide) hP hD hS dX12_init_232 (fun H locs hP hD hS => ?_)
  obtain ⟨fs29, hf29⟩ : ∃ fs29 : List Value, fs29 = fs28.set 39 (.ref q24) := ⟨_, rfl⟩
  rw [← hf29] at hP hD
  have hl29 : fs29.length = 62 := by rw [hf29, List.length_set]; exact hl28
  refine lv_aload_n hx hb dX12_init_235 rfl (lv_at hl 0 rfl) ?_
  refine lv_iconst hx hb (v := (4 : Int32)) dX12_init_236 (by decide) ?_
  refine c_newi F hP hD hS hA 4 (by decide) (by decide) (by decide) (Nat.le_of_ble_eq_true rfl) (Nat.le_of_ble_eq_true rfl) dX12_init_237 (fun q25 H hP hD hS => ?_)
  refine W.widen (k := 25) (n := 1606) (Nat.le_of_ble_eq_true rfl) (Nat.le_of_ble_eq_true rfl) ?_
  obtain ⟨T25, hT25⟩ : ∃ T25 : va_W, T25 = T24 ++ [(q25, .inl (K.1, 4, .inl (fun _ => 0)))] := ⟨_, rfl⟩
  have hP : va_P D vwCl ((h0, .inr (12, fs29)) :: T25) H := by rw [hT25]; exact hP
  have hD : va_D A ((h0, .inr (12, fs29)) :: T25) := by rw [hT25]; exact hD
  refine c_putF F 40 1301 (ci := 12) (N := 62) (T := TX12) (v := .ref q25) (ty := .array .int) rfl (by decide +kernel) (Nat.le_of_ble_eq_true rfl) rfl rfl (by decide +kernel) rfl rfl (by rw [hl29]; decide) hP hD hS dX12_init_239 (fun H locs hP hD hS => ?_)
  obtain ⟨fs30, hf30⟩ : ∃ fs30 : List Value, fs30 = fs29.set 40 (.ref q25) := ⟨_, rfl⟩
  rw [← hf30] at hP hD
  have hl30 : fs30.length = 62 := by rw [hf30, List.length_set]; exact hl29
  refine lv_aload_n hx hb dX12_init_242 rfl (lv_at hl 0 rfl) ?_
  refine lv_sipush hx hb (v := (160 : Int32)) dX12_init_243 (by decide) ?_
  refine c_newi F hP hD hS hA 160 (by decide) (by decide) (by decide) (Nat.le_of_ble_eq_true rfl) (Nat.le_of_ble_eq_true rfl) dX12_init_246 (fun q26 H hP hD hS => ?_)
  refine W.widen (k := 26) (n := 1766) (Nat.le_of_ble_eq_true rfl) (Nat.le_of_ble_eq_true rfl) ?_
  obtain ⟨T26, hT26⟩ : ∃ T26 : va_W, T26 = T25 ++ [(q26, .inl (K.1, 160, .inl (fun _ => 0)))] := ⟨_, rfl⟩
  have hP : va_P D vwCl ((h0, .inr (12, fs30)) :: T26) H := by rw [hT26]; exact hP
  have hD : va_D A ((h0, .inr (12, fs30)) :: T26) := by rw [hT26]; exact hD
  refine c_putF F 41 1302 (ci := 12) (N := 62) (T := TX12) (v := .ref q26) (ty := .array .int) rfl (by decide +kernel) (Nat.le_of_ble_eq_true rfl) rfl rfl (by decide +kernel) rfl rfl (by rw [hl30]; decide) hP hD hS dX12_init_248 (fun H locs hP hD hS => ?_)
  obtain ⟨fs31, hf31⟩ : ∃ fs31 : List Value, fs31 = fs30.set 41 (.ref q26) := ⟨_, rfl⟩
  rw [← hf31] at hP hD
  have hl31 : fs31.length = 62 := by rw [hf31, List.length_set]; exact hl30
  refine lv_aload_n hx hb dX12_init_251 rfl (lv_at hl 0 rfl) ?_
  refine lv_bipush hx hb (v := (12 : Int32)) dX12_init_252 (by decide) ?_
  refine c_newl F hP hD hS hA 12 (by decide) (by decide) (by decide) (Nat.le_of_ble_eq_true rfl) (Nat.le_of_ble_eq_true rfl) dX12_init_254 (fun q27 H hP hD hS => ?_)
  refine W.widen (k := 27) (n := 1778) (Nat.le_of_ble_eq_true rfl) (Nat.le_of_ble_eq_true rfl) ?_
  refine lv_dup hx hb dX12_init_256 rfl ?_
  refine lv_iconst hx hb (v := (0 : Int32)) dX12_init_257 (by decide) ?_
  refine lv_ldc2 hx hb (v := (1668248436 : Int64)) hown (F.w (d := 1242) (by decide +kernel)) dX12_init_258 ?_
  refine c_last F (i := (0 : Int32)) (n := 12) (by unfold vp_in; decide) hP hD hS dX12_init_261 (fun H locs hP hD hS => ?_)
  refine lv_dup hx hb dX12_init_262 rfl ?_
  refine lv_iconst hx hb (v := (1 : Int32)) dX12_init_263 (by decide) ?_
  refine lv_ldc2 hx hb (v := (512736126322 : Int64)) hown (F.w (d := 1243) (by decide +kernel)) dX12_init_264 ?_
  refine c_last F (i := (1 : Int32)) (n := 12) (by unfold vp_in; decide) hP hD hS dX12_init_267 (fun H locs hP hD hS => ?_)
  refine lv_dup hx hb dX12_init_268 rfl ?_
  refine lv_iconst hx hb (v := (2 : Int32)) dX12_init_269 (by decide) ?_
  refine lv_ldc2 hx hb (v := (1717660780 : Int64)) hown (F.w (d := 1244) (by decide +kernel)) dX12_init_270 ?_
  refine c_last F (i := (2 : Int32)) (n := 12) (by unfold vp_in; decide) hP hD hS dX12_init_273 (fun H locs hP hD hS => ?_)
  refine lv_dup hx hb dX12_init_274 rfl ?_
  refine lv_iconst hx hb (v := (3 : Int32)) dX12_init_275 (by decide) ?_
  refine lv_ldc2 hx hb (v := (2036429412 : Int64)) hown (F.w (d := 1245) (by decide +kernel)) dX12_init_276 ?_
  refine c_last F (i := (3 : Int32)) (n := 12) (by unfold vp_in; decide) hP hD hS dX12_init_279 (fun H locs hP hD hS => ?_)
  refine lv_dup hx hb dX12_init_280 rfl ?_
  refine lv_iconst hx hb (v := (4 : Int32)) dX12_init_281 (by decide) ?_
  refine lv_ldc2 hx hb (v := (465491813746 : Int64)) hown (F.w (d := 1246) (by decide +kernel)) dX12_init_282 ?_
  refine c_last F (i := (4 : Int32)) (n := 12) (by unfold vp_in; decide) hP hD hS dX12_init_285 (fun H locs hP hD hS => ?_)
  refine lv_dup hx hb dX12_init_286 rfl ?_
  refine lv_iconst hx hb (v := (5 : Int32)) dX12_init_287 (by decide) ?_
  refine lv_ldc2 hx hb (v := (1650553701 : Int64)) hown (F.w (d := 1247) (by decide +kernel)) dX12_init_288 ?_
  refine c_last F (i := (5 : Int32)) (n := 12) (by unfold vp_in; decide) hP hD hS dX12_init_291 (fun H locs hP hD hS => ?_)
  refine lv_dup hx hb dX12_init_292 rfl ?_
  refine lv_bipush hx hb (v := (6 : Int32)) dX12_init_293 (by decide) ?_
  refine lv_ldc2 hx hb (v := (1935764596 : Int64)) hown (F.w (d := 1248) (by decide +kernel)) dX12_init_295 ?_
  refine c_last F (i := (6 : Int32)) (n := 12) (by unfold vp_in; decide) hP hD hS dX12_init_298 (fun H locs hP hD hS => ?_)
  refine lv_dup hx hb dX12_init_299 rfl ?_
  refine lv_bipush hx hb (v := (7 : Int32)) dX12_init_300 (by decide) ?_
  refine lv_ldc2 hx hb (v := (126879263846254 : Int64)) hown (F.w (d := 1249) (by decide +kernel)) dX12_init_302 ?_
  refine c_last F (i := (7 : Int32)) (n := 12) (by unfold vp_in; decide) hP hD hS dX12_init_305 (fun H locs hP hD hS => ?_)
  refine lv_dup hx hb dX12_init_306 rfl ?_
  refine lv_bipush hx hb (v := (8 : Int32)) dX12_init_307 (by decide) ?_
  refine lv_ldc2 hx hb (v := (465625310564 : Int64)) hown (F.w (d := 1250) (by decide +kernel)) dX12_init_309 ?_
  refine c_last F (i := (8 : Int32)) (n := 12) (by unfold vp_in; decide) hP hD hS dX12_init_312 (fun H locs hP hD hS => ?_)
  refine lv_dup hx hb dX12_init_313 rfl ?_
  refine lv_bipush hx hb (v := (9 : Int32)) dX12_init_314 (by decide) ?_
  refine lv_ldc2 hx hb (v := (28530 : Int64)) hown (F.w (d := 1251) (by decide +kernel)) dX12_init_316 ?_
  refine c_last F (i := (9 : Int32)) (n := 12) (by unfold vp_in; decide) hP hD hS dX12_init_319 (fun H locs hP hD hS => ?_)
  refine lv_dup hx hb dX12_init_320 rfl ?_
  refine lv_bipush hx hb (v := (10 : Int32)) dX12_init_321 (by decide) ?_
  refine lv_ldc2 hx hb (v := (6385252 : Int64)) hown (F.w (d := 1252) (by decide +kernel)) dX12_init_323 ?_
  refine c_last F (i := (10 : Int32)) (n := 12) (by unfold vp_in; decide) hP hD hS dX12_init_326 (fun H locs hP hD hS => ?_)
  refine lv_dup hx hb dX12_init_327 rfl ?_
  refine lv_bipush hx hb (v := (11 : Int32)) dX12_init_328 (by decide) ?_
  refine lv_ldc2 hx hb (v := (7237492 : Int64)) hown (F.w (d := 1253) (by decide +kernel)) dX12_init_330 ?_
  refine c_last F (i := (11 : Int32)) (n := 12) (by unfold vp_in; decide) hP hD hS dX12_init_333 (fun H locs hP hD hS => ?_)
  obtain ⟨T27, hT27⟩ : ∃ T27 : va_W, T27 = T26 ++ [(q27, .inl (K.2.1, 12, .inr (.inl (vp_updL (vp_updL (vp_updL (vp_updL (vp_updL (vp_updL (vp_updL (vp_updL (vp_updL (vp_updL (vp_updL (vp_updL (fun _ => 0) (0 : Int32).toNatClampNeg (1668248436 : Int64)) (1 : Int32).toNatClampNeg (512736126322 : Int64)) (2 : Int32).toNatClampNeg (1717660780 : Int64)) (3 : Int32).toNatClampNeg (2036429412 : Int64)) (4 : Int32).toNatClampNeg (465491813746 : Int64)) (5 : Int32).toNatClampNeg (1650553701 : Int64)) (6 : Int32).toNatClampNeg (1935764596 : Int64)) (7 : Int32).toNatClampNeg (126879263846254 : Int64)) (8 : Int32).toNatClampNeg (465625310564 : Int64)) (9 : Int32).toNatClampNeg (28530 : Int64)) (10 : Int32).toNatClampNeg (6385252 : Int64)) (11 : Int32).toNatClampNeg (7237492 : Int64)))))] := ⟨_, rfl⟩
  have hP : va_P D vwCl ((h0, .inr (12, fs31)) :: T27) H := by rw [hT27]; exact hP
  have hD : va_D A ((h0, .inr (12, fs31)) :: T27) := by rw [hT27]; exact hD
  refine c_putF F 46 1307 (ci := 12) (N := 62) (T := TX12) (v := .ref q27) (ty := .array .long) rfl (by decide +kernel) (Nat.le_of_ble_eq_true rfl) rfl rfl (by decide +kernel) rfl rfl (by rw [hl31]; decide) hP hD hS dX12_init_334 (fun H locs hP hD hS => ?_)
  obtain ⟨fs32, hf32⟩ : ∃ fs32 : List Value, fs32 = fs31.set 46 (.ref q27) := ⟨_, rfl⟩
  rw [← hf32] at hP hD
  have hl32 : fs32.length = 62 := by rw [hf32, List.length_set]; exact hl31
  refine lv_aload_n hx hb dX12_init_337 rfl (lv_at hl 0 rfl) ?_
  refine lv_sipush hx hb (v := (200 : Int32)) dX12_init_338 (by decide) ?_
  refine c_newi F hP hD hS hA 200 (by decide) (by decide) (by decide) (Nat.le_of_ble_eq_true rfl) (Nat.le_of_ble_eq_true rfl) dX12_init_341 (fun q28 H hP hD hS => ?_)
  refine W.widen (k := 28) (n := 1978) (Nat.le_of_ble_eq_true rfl) (Nat.le_of_ble_eq_true rfl) ?_
  obtain ⟨T28, hT28⟩ : ∃ T28 : va_W, T28 = T27 ++ [(q28, .inl (K.1, 200, .inl (fun _ => 0)))] := ⟨_, rfl⟩
  have hP : va_P D vwCl ((h0, .inr (12, fs32)) :: T28) H := by rw [hT28]; exact hP
  have hD : va_D A ((h0, .inr (12, fs32)) :: T28) := by rw [hT28]; exact hD
  refine c_putF F 47 1308 (ci := 12) (N := 62) (T := TX12) (v := .ref q28) (ty := .array .int) rfl (by decide +kernel) (Nat.le_of_ble_eq_true rfl) rfl rfl (by decide +kernel) rfl rfl (by rw [hl32]; decide) hP hD hS dX12_init_343 (fun H locs hP hD hS => ?_)
  obtain ⟨fs33, hf33⟩ : ∃ fs33 : List Value, fs33 = fs32.set 47 (.ref q28) := ⟨_, rfl⟩
  rw [← hf33] at hP hD
  have hl33 : fs33.length = 62 := by rw [hf33, List.length_set]; exact hl32
  refine lv_aload_n hx hb dX12_init_346 rfl (lv_at hl 0 rfl) ?_
  refine lv_sipush hx hb (v := (200 : Int32)) dX12_init_347 (by decide) ?_
  refine c_newi F hP hD hS hA 200 (by decide) (by decide) (by decide) (Nat.le_of_ble_eq_true rfl) (Nat.le_of_ble_eq_true rfl) dX12_init_350 (fun q29 H hP hD hS => ?_)
  refine W.widen (k := 29) (n := 2178) (Nat.le_of_ble_eq_true rfl) (Nat.le_of_ble_eq_true rfl) ?_
  obtain ⟨T29, hT29⟩ : ∃ T29 : va_W, T29 = T28 ++ [(q29, .inl (K.1, 200, .inl (fun _ => 0)))] := ⟨_, rfl⟩
  have hP : va_P D vwCl ((h0, .inr (12, fs33)) :: T29) H := by rw [hT29]; exact hP
  have hD : va_D A ((h0, .inr (12, fs33)) :: T29) := by rw [hT29]; exact hD
  refine c_putF F 51 1312 (ci := 12) (N := 62) (T := TX12) (v := .ref q29) (ty := .array .int) rfl (by decide +kernel) (Nat.le_of_ble_eq_true rfl) rfl rfl (by decide +kernel) rfl rfl (by rw [hl33]; decide) hP hD hS dX12_init_352 (fun H locs hP hD hS => ?_)
  obtain ⟨fs34, hf34⟩ : ∃ fs34 : List Value, fs34 = fs33.set 51 (.ref q29) := ⟨_, rfl⟩
  rw [← hf34] at hP hD
  have hl34 : fs34.length = 62 := by rw [hf34, List.length_set]; exact hl33
  refine lv_aload_n hx hb dX12_init_355 rfl (lv_at hl 0 rfl) ?_
  refine lv_bipush hx hb (v := (6 : Int32)) dX12_init_356 (by decide) ?_
  refine c_newi F hP hD hS hA 6 (by decide) (by decide) (by decide) (Nat.le_of_ble_eq_true rfl) (Nat.le_of_ble_eq_true rfl) dX12_init_358 (fun q30 H hP hD hS => ?_)
  refine W.widen (k := 30) (n := 2184) (Nat.le_of_ble_eq_true rfl) (Nat.le_of_ble_eq_true rfl) ?_
  obtain ⟨T30, hT30⟩ : ∃ T30 : va_W, T30 = T29 ++ [(q30, .inl (K.1, 6, .inl (fun _ => 0)))] := ⟨_, rfl⟩
  have hP : va_P D vwCl ((h0, .inr (12, fs34)) :: T30) H := by rw [hT30]; exact hP
  have hD : va_D A ((h0, .inr (12, fs34)) :: T30) := by rw [hT30]; exact hD
  refine c_putF F 52 1313 (ci := 12) (N := 62) (T := TX12) (v := .ref q30) (ty := .array .int) rfl (by decide +kernel) (Nat.le_of_ble_eq_true rfl) rfl rfl (by decide +kernel) rfl rfl (by rw [hl34]; decide) hP hD hS dX12_init_360 (fun H locs hP hD hS => ?_)
  obtain ⟨fs35, hf35⟩ : ∃ fs35 : List Value, fs35 = fs34.set 52 (.ref q30) := ⟨_, rfl⟩
  rw [← hf35] at hP hD
  have hl35 : fs35.length = 62 := by rw [hf35, List.length_set]; exact hl34
  refine lv_aload_n hx hb dX12_init_363 rfl (lv_at hl 0 rfl) ?_
  refine lv_bipush hx hb (v := (40 : Int32)) dX12_init_364 (by decide) ?_
  refine c_newl F hP hD hS hA 40 (by decide) (by decide) (by decide) (Nat.le_of_ble_eq_true rfl) (Nat.le_of_ble_eq_true rfl) dX12_init_366 (fun q31 H hP hD hS => ?_)
  refine W.widen (k := 31) (n := 2224) (Nat.le_of_ble_eq_true rfl) (Nat.le_of_ble_eq_true rfl) ?_
  obtain ⟨T31, hT31⟩ : ∃ T31 : va_W, T31 = T30 ++ [(q31, .inl (K.2.1, 40, .inr (.inl (fun _ => 0))))] := ⟨_, rfl⟩
  have hP : va_P D vwCl ((h0, .inr (12, fs35)) :: T31) H := by rw [hT31]; exact hP
  have hD : va_D A ((h0, .inr (12, fs35)) :: T31) := by rw [hT31]; exact hD
  refine c_putF F 53 1314 (ci := 12) (N := 62) (T := TX12) (v := .ref q31) (ty := .array .long) rfl (by decide +kernel) (Nat.le_of_ble_eq_true rfl) rfl rfl (by decide +kernel) rfl rfl (by rw [hl35]; decide) hP hD hS dX12_init_368 (fun H locs hP hD hS => ?_)
  obtain ⟨fs36, hf36⟩ : ∃ fs36 : List Value, fs36 = fs35.set 53 (.ref q31) := ⟨_, rfl⟩
  rw [← hf36] at hP hD
  have hl36 : fs36.length = 62 := by rw [hf36, List.length_set]; exact hl35
  refine lv_aload_n hx hb dX12_init_371 rfl (lv_at hl 0 rfl) ?_
  refine lv_bipush hx hb (v := (40 : Int32)) dX12_init_372 (by decide) ?_
  refine c_newl F hP hD hS hA 40 (by decide) (by decide) (by decide) (Nat.le_of_ble_eq_true rfl) (Nat.le_of_ble_eq_true rfl) dX12_init_374 (fun q32 H hP hD hS => ?_)
  refine W.widen (k := 32) (n := 2264) (Nat.le_of_ble_eq_true rfl) (Nat.le_of_ble_eq_true rfl) ?_
  obtain ⟨T32, hT32⟩ : ∃ T32 : va_W, T32 = T31 ++ [(q32, .inl (K.2.1, 40, .inr (.inl (fun _ => 0))))] := ⟨_, rfl⟩
  have hP : va_P D vwCl ((h0, .inr (12, fs36)) :: T32) H := by rw [hT32]; exact hP
  have hD : va_D A ((h0, .inr (12, fs36)) :: T32) := by rw [hT32]; exact hD
  refine c_putF F 54 1315 (ci := 12) (N := 62) (T := TX12) (v := .ref q32) (ty := .array .long) rfl (by decide +kernel) (Nat.le_of_ble_eq_true rfl) rfl rfl (by decide +kernel) rfl rfl (by rw [hl36]; decide) hP hD hS dX12_init_376 (fun H locs hP hD hS => ?_)
  obtain ⟨fs37, hf37⟩ : ∃ fs37 : List Value, fs37 = fs36.set 54 (.ref q32) := ⟨_, rfl⟩
  rw [← hf37] at hP hD
  have hl37 : fs37.length = 62 := by rw [hf37, List.length_set]; exact hl36
  obtain ⟨ad, had⟩ : ∃ ad, ad = adM ad0 h0 (ntD 0 [q1, q2, q3, q4, q5, q6, q7, q8, q9, q10, q11, q12, q13, q14, q15, q16, q17, q18, q19, q20, q21, q22, q23, q24, q25, q26, q27, q28, q29, q30, q31, q32]) := ⟨_, rfl⟩
  have hW : (h0, .inr (12, fs37)) :: T32 = hwW ad K ksM (mB sc) := by
    have hTN : T32 = [(q1, .inl (K.1, 5, .inl (fun _ => 0))), (q2, .inl (K.1, 5, .inl (fun _ => 0))), (q3, .inl (K.1, 5, .inl (fun _ => 0))), (q4, .inl (K.1, 25, .inl (fun _ => 0))), (q5, .inl (K.1, 20, .inl (fun _ => 0))), (q6, .inl (K.1, 4, .inl (fun _ => 0))), (q7, .inl (K.1, 4, .inl (fun _ => 0))), (q8, .inl (K.1, 20, .inl (fun _ => 0))), (q9, .inl (K.1, 16, .inl (fun _ => 0))), (q10, .inl (K.1, 8, .inl (fun _ => 0))), (q11, .inl (K.1, 8, .inl (fun _ => 0))), (q12, .inl (K.1, 8, .inl (fun _ => 0))), (q13, .inl (K.1, 6, .inl (fun _ => 0))), (q14, .inl (K.1, 6, .inl (fun _ => 0))), (q15, .inl (K.1, 160, .inl (fun _ => 0))), (q16, .inl (K.1, 1200, .inl (fun _ => 0))), (q17, .inl (K.1, 24, .inl (fun _ => 0))), (q18, .inl (K.1, 5, .inl (fun _ => 0))), (q19, .inl (K.1, 25, .inl (fun _ => 0))), (q20, .inl (K.1, 4, .inl (fun _ => 0))), (q21, .inl (K.1, 4, .inl (fun _ => 0))), (q22, .inl (K.1, 20, .inl (fun _ => 0))), (q23, .inl (K.1, 16, .inl (fun _ => 0))), (q24, .inl (K.1, 4, .inl (upd (upd (upd (upd (fun _ => 0) (0 : Int32).toNatClampNeg (Int32.ofInt (-1))) (1 : Int32).toNatClampNeg (Int32.ofInt (-1))) (2 : Int32).toNatClampNeg (Int32.ofInt (-1))) (3 : Int32).toNatClampNeg (Int32.ofInt (-1))))), (q25, .inl (K.1, 4, .inl (fun _ => 0))), (q26, .inl (K.1, 160, .inl (fun _ => 0))), (q27, .inl (K.2.1, 12, .inr (.inl (vp_updL (vp_updL (vp_updL (vp_updL (vp_updL (vp_updL (vp_updL (vp_updL (vp_updL (vp_updL (vp_updL (vp_updL (fun _ => 0) (0 : Int32).toNatClampNeg (1668248436 : Int64)) (1 : Int32).toNatClampNeg (512736126322 : Int64)) (2 : Int32).toNatClampNeg (1717660780 : Int64)) (3 : Int32).toNatClampNeg (2036429412 : Int64)) (4 : Int32).toNatClampNeg (465491813746 : Int64)) (5 : Int32).toNatClampNeg (1650553701 : Int64)) (6 : Int32).toNatClampNeg (1935764596 : Int64)) (7 : Int32).toNatClampNeg (126879263846254 : Int64)) (8 : Int32).toNatClampNeg (465625310564 : Int64)) (9 : Int32).toNatClampNeg (28530 : Int64)) (10 : Int32).toNatClampNeg (6385252 : Int64)) (11 : Int32).toNatClampNeg (7237492 : Int64))))), (q28, .inl (K.1, 200, .inl (fun _ => 0))), (q29, .inl (K.1, 200, .inl (fun _ => 0))), (q30, .inl (K.1, 6, .inl (fun _ => 0))), (q31, .inl (K.2.1, 40, .inr (.inl (fun _ => 0)))), (q32, .inl (K.2.1, 40, .inr (.inl (fun _ => 0))))] := by rw [hT32, hT31, hT30, hT29, hT28, hT27, hT26, hT25, hT24, hT23, hT22, hT21, hT20, hT19, hT18, hT17, hT16, hT15, hT14, hT13, hT12, hT11, hT10, hT9, hT8, hT7, hT6, hT5, hT4, hT3, hT2, hT1, hT0]; exact wM_T K q1 q2 q3 q4 q5 q6 q7 q8 q9 q10 q11 q12 q13 q14 q15 q16 q17 q18 q19 q20 q21 q22 q23 q24 q25 q26 q27 q28 q29 q30 q31 q32
    have hFN : fs37 = [.int (4 : Int32), .int (200 : Int32), .int 0, .int (300 : Int32), .int (20 : Int32), .int 0, .ref q1, .ref q2, .ref q3, .ref q4, .int 0, .ref q5, .ref q6, .ref q7, .ref q8, .ref q9, .int 0, .ref q10, .ref q11, .ref q12, .int 0, .ref q13, .ref q14, .ref q15, .int 0, .ref q16, .ref q17, .int (1 : Int32), .int 0, .int 0, .int 0, .int 0, .ref q18, .ref q19, .int 0, .ref q20, .ref q21, .ref q22, .ref q23, .ref q24, .ref q25, .ref q26, .int 0, .int 0, .int 0, .int 0, .ref q27, .ref q28, .int 0, .int 0, .int 0, .ref q29, .ref q30, .ref q31, .ref q32, .long 0, .long 0, .long 0, .long 0, .int 0, .int 0, .long 0] := by rw [hf37, hf36, hf35, hf34, hf33, hf32, hf31, hf30, hf29, hf28, hf27, hf26, hf25, hf24, hf23, hf22, hf21, hf20, hf19, hf18, hf17, hf16, hf15, hf14, hf13, hf12, hf11, hf10, hf9, hf8, hf7, hf6, hf5, hf4, hf3, hf2, hf1, hf0]; exact wM_fs q1 q2 q3 q4 q5 q6 q7 q8 q9 q10 q11 q12 q13 q14 q15 q16 q17 q18 q19 q20 q21 q22 q23 q24 q25 q26 q27 q28 q29 q30 q31 q32
    rw [hTN, hFN]
    rw [upd4 95 (Or.inr rfl), updW, had]
    exact wM_eq ad0 K sc h0 (ntD 0 [q1, q2, q3, q4, q5, q6, q7, q8, q9, q10, q11, q12, q13, q14, q15, q16, q17, q18, q19, q20, q21, q22, q23, q24, q25, q26, q27, q28, q29, q30, q31, q32])
  have e1 : hwCo ad K (mB sc) (12, 0) = .inr (12, fs37) := by
    have h9 : (hwW ad K ksM (mB sc))[0]? = some (h0, .inr (12, fs37)) := by rw [← hW]; rfl
    exact congrArg Prod.snd (Option.some.inj (show some (ad 12 0, hwCo ad K (mB sc) (12, 0)) = _ from h9))
  rw [hW] at hP hD
  have hi : ∀ t, 200 ≤ t → ad t = ad0 t := fun t ht => by rw [had]; exact adM_hi ht
  have a12 : ad 12 0 = h0 := by rw [had]; rfl
  have a88 : ad 88 0 = q17 := by rw [had]; rfl
  have hst : fs37[26]? = some (.ref q17) := by
    have hFN : fs37 = [.int (4 : Int32), .int (200 : Int32), .int 0, .int (300 : Int32), .int (20 : Int32), .int 0, .ref q1, .ref q2, .ref q3, .ref q4, .int 0, .ref q5, .ref q6, .ref q7, .ref q8, .ref q9, .int 0, .ref q10, .ref q11, .ref q12, .int 0, .ref q13, .ref q14, .ref q15, .int 0, .ref q16, .ref q17, .int (1 : Int32), .int 0, .int 0, .int 0, .int 0, .ref q18, .ref q19, .int 0, .ref q20, .ref q21, .ref q22, .ref q23, .ref q24, .ref q25, .ref q26, .int 0, .int 0, .int 0, .int 0, .ref q27, .ref q28, .int 0, .int 0, .int 0, .ref q29, .ref q30, .ref q31, .ref q32, .long 0, .long 0, .long 0, .long 0, .int 0, .int 0, .long 0] := by rw [hf37, hf36, hf35, hf34, hf33, hf32, hf31, hf30, hf29, hf28, hf27, hf26, hf25, hf24, hf23, hf22, hf21, hf20, hf19, hf18, hf17, hf16, hf15, hf14, hf13, hf12, hf11, hf10, hf9, hf8, hf7, hf6, hf5, hf4, hf3, hf2, hf1, hf0]; exact wM_fs q1 q2 q3 q4 q5 q6 q7 q8 q9 q10 q11 q12 q13 q14 q15 q16 q17 q18 q19 q20 q21 q22 q23 q24 q25 q26 q27 q28 q29 q30 q31 q32
    rw [hFN]
    rfl
  refine lv_aload_n hx hb dX12_init_379 rfl (lv_at hl 0 rfl) ?_
  refine lv_iconst hx hb (v := (0 : Int32)) dX12_init_380 (by decide) ?_
  refine lv_ldc hx hb (v := (100010 : Int32)) hown (F.w (d := 1254) (by decide +kernel)) dX12_init_381 ?_
  refine lv_iconst hx hb (v := (0 : Int32)) dX12_init_383 (by decide) ?_
  refine lv_iconst hx hb (v := (0 : Int32)) dX12_init_384 (by decide) ?_
  refine lv_bipush hx hb (v := (18 : Int32)) dX12_init_385 (by decide) ?_
  have hDD := hwW_DD hD (fun q h => h) (by decide +kernel)
  have hAA : ∀ x, hwAd ad ksM x → A x := fun x ⟨q, hq, hx9⟩ => by
    obtain ⟨j9, -, h4⟩ := hwW_get (ad := ad) (K := K) (σ := (mB sc)) hq
    rw [← hx9]
    exact hD.2 j9 _ h4
  have e12 : (.ref h0 : Value) = .ref (ad 12 0) := by rw [a12]
  conv in F0 _ _ _ _ => rw [e12]
  show W p l e _ s m _ below meth c _ _ _ _ _ (F0 m 387 ls ((([.inl (0 : Int32), .inl (100010 : Int32), .inl (0 : Int32), .inl (0 : Int32), .inl (18 : Int32)] : List AV).map (hwV ad)).reverse ++ .ref (ad 12 0) :: []))
  refine c_hV F (ad := ad) (A' := hwAd ad ksM) (ks := ksM) (σ := (mB sc)) (Qp := fun r τ1 => r = none ∧ (m4 (mB sc) 0 100010 0 0 18) = τ1) ksM_cl hDD hAA hAb (fun t ht => by rw [hi t ht]) 5 1 mX12_first 1255 12 12 0 [.inl (0 : Int32), .inl (100010 : Int32), .inl (0 : Int32), .inl (0 : Int32), .inl (18 : Int32)] (by decide +kernel) okF12.1 okF12.2 rfl (by decide +kernel) rfl rfl rfl (T_X12_first 0 200 _ _ _ _ _ _ _ _ _ (first_eq 0 (by decide) _ _ _ _ _) ⟨rfl, rfl⟩) (fun v hv => ?_) rfl ?_ hP hS hl.1 ?_ dX12_init_387 ?_ (fun r τ1 H1 locs hQ hP1 _ _ _ hS => ?_)
  · simp only [List.mem_cons, List.not_mem_nil, or_false] at hv
    rcases hv with rfl | rfl | rfl | rfl | rfl | rfl
    · exact Or.inl (by decide)
    all_goals trivial
  · exact ⟨Nat.le_of_ble_eq_true rfl, Nat.le_of_ble_eq_true rfl⟩
  · exact Nat.le_of_ble_eq_true rfl
  · exact ⟨Nat.le_of_ble_eq_true rfl, Nat.le_of_ble_eq_true rfl⟩
  obtain ⟨rfl, rfl⟩ := hQ
  have hD2 := hwW_D hD (m4 (mB sc) 0 100010 0 0 18)
  clear hP hD hDD hAA e12
  generalize H1 = H at hP1 hS
  have hP : va_P D vwCl (hwW ad K ksM (m4 (mB sc) 0 100010 0 0 18)) H := hP1
  have hD : va_D A (hwW ad K ksM (m4 (mB sc) 0 100010 0 0 18)) := hD2
  clear hP1 hD2
  show W p l e _ s m _ below meth c _ _ _ _ _ (F0 m 390 ls [])
  refine lv_aload_n hx hb dX12_init_390 rfl (lv_at hl 0 rfl) ?_
  refine lv_iconst hx hb (v := (4 : Int32)) dX12_init_391 (by decide) ?_
  refine lv_ldc hx hb (v := (100002 : Int32)) hown (F.w (d := 1259) (by decide +kernel)) dX12_init_392 ?_
  refine lv_bipush hx hb (v := (18 : Int32)) dX12_init_394 (by decide) ?_
  refine lv_bipush hx hb (v := (16 : Int32)) dX12_init_396 (by decide) ?_
  refine lv_iconst hx hb (v := (2 : Int32)) dX12_init_398 (by decide) ?_
  have hDD := hwW_DD hD (fun q h => h) (by decide +kernel)
  have hAA : ∀ x, hwAd ad ksM x → A x := fun x ⟨q, hq, hx9⟩ => by
    obtain ⟨j9, -, h4⟩ := hwW_get (ad := ad) (K := K) (σ := (m4 (mB sc) 0 100010 0 0 18)) hq
    rw [← hx9]
    exact hD.2 j9 _ h4
  have e12 : (.ref h0 : Value) = .ref (ad 12 0) := by rw [a12]
  conv in F0 _ _ _ _ => rw [e12]
  show W p l e _ s m _ below meth c _ _ _ _ _ (F0 m 399 ls ((([.inl (4 : Int32), .inl (100002 : Int32), .inl (18 : Int32), .inl (16 : Int32), .inl (2 : Int32)] : List AV).map (hwV ad)).reverse ++ .ref (ad 12 0) :: []))
  refine c_hV F (ad := ad) (A' := hwAd ad ksM) (ks := ksM) (σ := (m4 (mB sc) 0 100010 0 0 18)) (Qp := fun r τ1 => r = none ∧ (m4 (m4 (mB sc) 0 100010 0 0 18) 4 100002 18 16 2) = τ1) ksM_cl hDD hAA hAb (fun t ht => by rw [hi t ht]) 5 1 mX12_first 1255 12 12 0 [.inl (4 : Int32), .inl (100002 : Int32), .inl (18 : Int32), .inl (16 : Int32), .inl (2 : Int32)] (by decide +kernel) okF12.1 okF12.2 rfl (by decide +kernel) rfl rfl rfl (T_X12_first 0 200 _ _ _ _ _ _ _ _ _ (first_eq 4 (by decide) _ _ _ _ _) ⟨rfl, rfl⟩) (fun v hv => ?_) rfl ?_ hP hS hl.1 ?_ dX12_init_399 ?_ (fun r τ1 H1 locs hQ hP1 _ _ _ hS => ?_)
  · simp only [List.mem_cons, List.not_mem_nil, or_false] at hv
    rcases hv with rfl | rfl | rfl | rfl | rfl | rfl
    · exact Or.inl (by decide)
    all_goals trivial
  · exact ⟨Nat.le_of_ble_eq_true rfl, Nat.le_of_ble_eq_true rfl⟩
  · exact Nat.le_of_ble_eq_true rfl
  · exact ⟨Nat.le_of_ble_eq_true rfl, Nat.le_of_ble_eq_true rfl⟩
  obtain ⟨rfl, rfl⟩ := hQ
  have hD2 := hwW_D hD (m4 (m4 (mB sc) 0 100010 0 0 18) 4 100002 18 16 2)
  clear hP hD hDD hAA e12
  generalize H1 = H at hP1 hS
  have hP : va_P D vwCl (hwW ad K ksM (m4 (m4 (mB sc) 0 100010 0 0 18) 4 100002 18 16 2)) H := hP1
  have hD : va_D A (hwW ad K ksM (m4 (m4 (mB sc) 0 100010 0 0 18) 4 100002 18 16 2)) := hD2
  clear hP1 hD2
  show W p l e _ s m _ below meth c _ _ _ _ _ (F0 m 402 ls [])
  refine lv_aload_n hx hb dX12_init_402 rfl (lv_at hl 0 rfl) ?_
  refine lv_bipush hx hb (v := (8 : Int32)) dX12_init_403 (by decide) ?_
  refine lv_iconst hx hb (v := (4 : Int32)) dX12_init_405 (by decide) ?_
  refine lv_ldc hx hb (v := (100005 : Int32)) hown (F.w (d := 1260) (by decide +kernel)) dX12_init_406 ?_
  refine lv_bipush hx hb (v := (18 : Int32)) dX12_init_408 (by decide) ?_
  refine lv_bipush hx hb (v := (17 : Int32)) dX12_init_410 (by decide) ?_
  have hDD := hwW_DD hD (fun q h => h) (by decide +kernel)
  have hAA : ∀ x, hwAd ad ksM x → A x := fun x ⟨q, hq, hx9⟩ => by
    obtain ⟨j9, -, h4⟩ := hwW_get (ad := ad) (K := K) (σ := (m4 (m4 (mB sc) 0 100010 0 0 18) 4 100002 18 16 2)) hq
    rw [← hx9]
    exact hD.2 j9 _ h4
  have e12 : (.ref h0 : Value) = .ref (ad 12 0) := by rw [a12]
  conv in F0 _ _ _ _ => rw [e12]
  show W p l e _ s m _ below meth c _ _ _ _ _ (F0 m 412 ls ((([.inl (8 : Int32), .inl (4 : Int32), .inl (100005 : Int32), .inl (18 : Int32), .inl (17 : Int32)] : List AV).map (hwV ad)).reverse ++ .ref (ad 12 0) :: []))
  refine c_hV F (ad := ad) (A' := hwAd ad ksM) (ks := ksM) (σ := (m4 (m4 (mB sc) 0 100010 0 0 18) 4 100002 18 16 2)) (Qp := fun r τ1 => r = none ∧ (m4 (m4 (m4 (mB sc) 0 100010 0 0 18) 4 100002 18 16 2) 8 4 100005 18 17) = τ1) ksM_cl hDD hAA hAb (fun t ht => by rw [hi t ht]) 5 1 mX12_first 1255 12 12 0 [.inl (8 : Int32), .inl (4 : Int32), .inl (100005 : Int32), .inl (18 : Int32), .inl (17 : Int32)] (by decide +kernel) okF12.1 okF12.2 rfl (by decide +kernel) rfl rfl rfl (T_X12_first 0 200 _ _ _ _ _ _ _ _ _ (first_eq 8 (by decide) _ _ _ _ _) ⟨rfl, rfl⟩) (fun v hv => ?_) rfl ?_ hP hS hl.1 ?_ dX12_init_412 ?_ (fun r τ1 H1 locs hQ hP1 _ _ _ hS => ?_)
  · simp only [List.mem_cons, List.not_mem_nil, or_false] at hv
    rcases hv with rfl | rfl | rfl | rfl | rfl | rfl
    · exact Or.inl (by decide)
    all_goals trivial
  · exact ⟨Nat.le_of_ble_eq_true rfl, Nat.le_of_ble_eq_true rfl⟩
  · exact Nat.le_of_ble_eq_true rfl
  · exact ⟨Nat.le_of_ble_eq_true rfl, Nat.le_of_ble_eq_true rfl⟩
  obtain ⟨rfl, rfl⟩ := hQ
  have hD2 := hwW_D hD (m4 (m4 (m4 (mB sc) 0 100010 0 0 18) 4 100002 18 16 2) 8 4 100005 18 17)
  clear hP hD hDD hAA e12
  generalize H1 = H at hP1 hS
  have hP : va_P D vwCl (hwW ad K ksM (m4 (m4 (m4 (mB sc) 0 100010 0 0 18) 4 100002 18 16 2) 8 4 100005 18 17)) H := hP1
  have hD : va_D A (hwW ad K ksM (m4 (m4 (m4 (mB sc) 0 100010 0 0 18) 4 100002 18 16 2) 8 4 100005 18 17)) := hD2
  clear hP1 hD2
  show W p l e _ s m _ below meth c _ _ _ _ _ (F0 m 415 ls [])
  refine lv_aload_n hx hb dX12_init_415 rfl (lv_at hl 0 rfl) ?_
  refine lv_bipush hx hb (v := (12 : Int32)) dX12_init_416 (by decide) ?_
  refine lv_ldc hx hb (v := (100002 : Int32)) hown (F.w (d := 1259) (by decide +kernel)) dX12_init_418 ?_
  refine lv_iconst hx hb (v := (0 : Int32)) dX12_init_420 (by decide) ?_
  refine lv_bipush hx hb (v := (18 : Int32)) dX12_init_421 (by decide) ?_
  refine lv_iconst hx hb (v := (0 : Int32)) dX12_init_423 (by decide) ?_
  have hDD := hwW_DD hD (fun q h => h) (by decide +kernel)
  have hAA : ∀ x, hwAd ad ksM x → A x := fun x ⟨q, hq, hx9⟩ => by
    obtain ⟨j9, -, h4⟩ := hwW_get (ad := ad) (K := K) (σ := (m4 (m4 (m4 (mB sc) 0 100010 0 0 18) 4 100002 18 16 2) 8 4 100005 18 17)) hq
    rw [← hx9]
    exact hD.2 j9 _ h4
  have e12 : (.ref h0 : Value) = .ref (ad 12 0) := by rw [a12]
  conv in F0 _ _ _ _ => rw [e12]
  show W p l e _ s m _ below meth c _ _ _ _ _ (F0 m 424 ls ((([.inl (12 : Int32), .inl (100002 : Int32), .inl (0 : Int32), .inl (18 : Int32), .inl (0 : Int32)] : List AV).map (hwV ad)).reverse ++ .ref (ad 12 0) :: []))
  refine c_hV F (ad := ad) (A' := hwAd ad ksM) (ks := ksM) (σ := (m4 (m4 (m4 (mB sc) 0 100010 0 0 18) 4 100002 18 16 2) 8 4 100005 18 17)) (Qp := fun r τ1 => r = none ∧ (m4 (m4 (m4 (m4 (mB sc) 0 100010 0 0 18) 4 100002 18 16 2) 8 4 100005 18 17) 12 100002 0 18 0) = τ1) ksM_cl hDD hAA hAb (fun t ht => by rw [hi t ht]) 5 1 mX12_first 1255 12 12 0 [.inl (12 : Int32), .inl (100002 : Int32), .inl (0 : Int32), .inl (18 : Int32), .inl (0 : Int32)] (by decide +kernel) okF12.1 okF12.2 rfl (by decide +kernel) rfl rfl rfl (T_X12_first 0 200 _ _ _ _ _ _ _ _ _ (first_eq 12 (by decide) _ _ _ _ _) ⟨rfl, rfl⟩) (fun v hv => ?_) rfl ?_ hP hS hl.1 ?_ dX12_init_424 ?_ (fun r τ1 H1 locs hQ hP1 _ _ _ hS => ?_)
  · simp only [List.mem_cons, List.not_mem_nil, or_false] at hv
    rcases hv with rfl | rfl | rfl | rfl | rfl | rfl
    · exact Or.inl (by decide)
    all_goals trivial
  · exact ⟨Nat.le_of_ble_eq_true rfl, Nat.le_of_ble_eq_true rfl⟩
  · exact Nat.le_of_ble_eq_true rfl
  · exact ⟨Nat.le_of_ble_eq_true rfl, Nat.le_of_ble_eq_true rfl⟩
  obtain ⟨rfl, rfl⟩ := hQ
  have hD2 := hwW_D hD (m4 (m4 (m4 (m4 (mB sc) 0 100010 0 0 18) 4 100002 18 16 2) 8 4 100005 18 17) 12 100002 0 18 0)
  clear hP hD hDD hAA e12
  generalize H1 = H at hP1 hS
  have hP : va_P D vwCl (hwW ad K ksM (m4 (m4 (m4 (m4 (mB sc) 0 100010 0 0 18) 4 100002 18 16 2) 8 4 100005 18 17) 12 100002 0 18 0)) H := hP1
  have hD : va_D A (hwW ad K ksM (m4 (m4 (m4 (m4 (mB sc) 0 100010 0 0 18) 4 100002 18 16 2) 8 4 100005 18 17) 12 100002 0 18 0)) := hD2
  clear hP1 hD2
  show W p l e _ s m _ below meth c _ _ _ _ _ (F0 m 427 ls [])
  have hP0 : va_P D vwCl ((h0, .inr (12, fs37)) :: (hwW ad K ksM (m4 (m4 (m4 (m4 (mB sc) 0 100010 0 0 18) 4 100002 18 16 2) 8 4 100005 18 17) 12 100002 0 18 0)).tail) H := by
    have e0 : hwW ad K ksM (m4 (m4 (m4 (m4 (mB sc) 0 100010 0 0 18) 4 100002 18 16 2) 8 4 100005 18 17) 12 100002 0 18 0) = (h0, .inr (12, fs37)) :: (hwW ad K ksM (m4 (m4 (m4 (m4 (mB sc) 0 100010 0 0 18) 4 100002 18 16 2) 8 4 100005 18 17) 12 100002 0 18 0)).tail := by
      have e9 : hwCo ad K (m4 (m4 (m4 (m4 (mB sc) 0 100010 0 0 18) 4 100002 18 16 2) 8 4 100005 18 17) 12 100002 0 18 0) (12, 0) = hwCo ad K (mB sc) (12, 0) := hwCo_congr (σ := mB sc) (σ' := (m4 (m4 (m4 (m4 (mB sc) 0 100010 0 0 18) 4 100002 18 16 2) 8 4 100005 18 17) 12 100002 0 18 0)) (fun _ => rfl) (fun _ => rfl) rfl rfl
      show (ad 12 0, hwCo ad K (m4 (m4 (m4 (m4 (mB sc) 0 100010 0 0 18) 4 100002 18 16 2) 8 4 100005 18 17) 12 100002 0 18 0) (12, 0)) :: _ = _
      rw [e9, e1, a12]
      rfl
    rw [← e0]; exact hP
  refine lv_aload_n hx hb dX12_init_427 rfl (lv_at hl 0 rfl) ?_
  refine c_get F 26 1287 (ci := 12) (N := 62) (T := TX12) (v := .ref q17) rfl (by decide +kernel) (Nat.le_of_ble_eq_true rfl) hst hP0 dX12_init_428 ?_
  clear hP0
  refine lv_iconst hx hb (v := (1 : Int32)) dX12_init_431 (by decide) ?_
  refine lv_bipush hx hb (v := (7 : Int32)) dX12_init_432 (by decide) ?_
  have e88 : (.ref q17 : Value) = .ref (ad 88 0) := by rw [a88]
  rw [e88]
  refine c_istW F (ad := ad) (ks := ksM) (σ := (m4 (m4 (m4 (m4 (mB sc) 0 100010 0 0 18) 4 100002 18 16 2) 8 4 100005 18 17) 12 100002 0 18 0)) (t := 88) (n := 24) (k0 := 17) (k := 1) ksM_cl rfl rfl (by unfold vp_in; decide) (by decide) hP hD hS dX12_init_434 (fun H locs hP hD hS => ?_)
  have hP : va_P D vwCl (hwW ad K ksM (m1 (m4 (m4 (m4 (m4 (mB sc) 0 100010 0 0 18) 4 100002 18 16 2) 8 4 100005 18 17) 12 100002 0 18 0) 1 7)) H := hP
  have hD : va_D A (hwW ad K ksM (m1 (m4 (m4 (m4 (m4 (mB sc) 0 100010 0 0 18) 4 100002 18 16 2) 8 4 100005 18 17) 12 100002 0 18 0) 1 7)) := hD
  clear e88
  have hP0 : va_P D vwCl ((h0, .inr (12, fs37)) :: (hwW ad K ksM (m1 (m4 (m4 (m4 (m4 (mB sc) 0 100010 0 0 18) 4 100002 18 16 2) 8 4 100005 18 17) 12 100002 0 18 0) 1 7)).tail) H := by
    have e0 : hwW ad K ksM (m1 (m4 (m4 (m4 (m4 (mB sc) 0 100010 0 0 18) 4 100002 18 16 2) 8 4 100005 18 17) 12 100002 0 18 0) 1 7) = (h0, .inr (12, fs37)) :: (hwW ad K ksM (m1 (m4 (m4 (m4 (m4 (mB sc) 0 100010 0 0 18) 4 100002 18 16 2) 8 4 100005 18 17) 12 100002 0 18 0) 1 7)).tail := by
      have e9 : hwCo ad K (m1 (m4 (m4 (m4 (m4 (mB sc) 0 100010 0 0 18) 4 100002 18 16 2) 8 4 100005 18 17) 12 100002 0 18 0) 1 7) (12, 0) = hwCo ad K (mB sc) (12, 0) := hwCo_congr (σ := mB sc) (σ' := (m1 (m4 (m4 (m4 (m4 (mB sc) 0 100010 0 0 18) 4 100002 18 16 2) 8 4 100005 18 17) 12 100002 0 18 0) 1 7)) (fun _ => rfl) (fun _ => rfl) rfl rfl
      show (ad 12 0, hwCo ad K (m1 (m4 (m4 (m4 (m4 (mB sc) 0 100010 0 0 18) 4 100002 18 16 2) 8 4 100005 18 17) 12 100002 0 18 0) 1 7) (12, 0)) :: _ = _
      rw [e9, e1, a12]
      rfl
    rw [← e0]; exact hP
  refine lv_aload_n hx hb dX12_init_435 rfl (lv_at hl 0 rfl) ?_
  refine c_get F 26 1287 (ci := 12) (N := 62) (T := TX12) (v := .ref q17) rfl (by decide +kernel) (Nat.le_of_ble_eq_true rfl) hst hP0 dX12_init_436 ?_
  clear hP0
  refine lv_iconst hx hb (v := (2 : Int32)) dX12_init_439 (by decide) ?_
  refine lv_bipush hx hb (v := (12 : Int32)) dX12_init_440 (by decide) ?_
  have e88 : (.ref q17 : Value) = .ref (ad 88 0) := by rw [a88]
  rw [e88]
  refine c_istW F (ad := ad) (ks := ksM) (σ := (m1 (m4 (m4 (m4 (m4 (mB sc) 0 100010 0 0 18) 4 100002 18 16 2) 8 4 100005 18 17) 12 100002 0 18 0) 1 7)) (t := 88) (n := 24) (k0 := 17) (k := 2) ksM_cl rfl rfl (by unfold vp_in; decide) (by decide) hP hD hS dX12_init_442 (fun H locs hP hD hS => ?_)
  have hP : va_P D vwCl (hwW ad K ksM (m1 (m1 (m4 (m4 (m4 (m4 (mB sc) 0 100010 0 0 18) 4 100002 18 16 2) 8 4 100005 18 17) 12 100002 0 18 0) 1 7) 2 12)) H := hP
  have hD : va_D A (hwW ad K ksM (m1 (m1 (m4 (m4 (m4 (m4 (mB sc) 0 100010 0 0 18) 4 100002 18 16 2) 8 4 100005 18 17) 12 100002 0 18 0) 1 7) 2 12)) := hD
  clear e88
  have hP0 : va_P D vwCl ((h0, .inr (12, fs37)) :: (hwW ad K ksM (m1 (m1 (m4 (m4 (m4 (m4 (mB sc) 0 100010 0 0 18) 4 100002 18 16 2) 8 4 100005 18 17) 12 100002 0 18 0) 1 7) 2 12)).tail) H := by
    have e0 : hwW ad K ksM (m1 (m1 (m4 (m4 (m4 (m4 (mB sc) 0 100010 0 0 18) 4 100002 18 16 2) 8 4 100005 18 17) 12 100002 0 18 0) 1 7) 2 12) = (h0, .inr (12, fs37)) :: (hwW ad K ksM (m1 (m1 (m4 (m4 (m4 (m4 (mB sc) 0 100010 0 0 18) 4 100002 18 16 2) 8 4 100005 18 17) 12 100002 0 18 0) 1 7) 2 12)).tail := by
      have e9 : hwCo ad K (m1 (m1 (m4 (m4 (m4 (m4 (mB sc) 0 100010 0 0 18) 4 100002 18 16 2) 8 4 100005 18 17) 12 100002 0 18 0) 1 7) 2 12) (12, 0) = hwCo ad K (mB sc) (12, 0) := hwCo_congr (σ := mB sc) (σ' := (m1 (m1 (m4 (m4 (m4 (m4 (mB sc) 0 100010 0 0 18) 4 100002 18 16 2) 8 4 100005 18 17) 12 100002 0 18 0) 1 7) 2 12)) (fun _ => rfl) (fun _ => rfl) rfl rfl
      show (ad 12 0, hwCo ad K (m1 (m1 (m4 (m4 (m4 (m4 (mB sc) 0 100010 0 0 18) 4 100002 18 16 2) 8 4 100005 18 17) 12 100002 0 18 0) 1 7) 2 12) (12, 0)) :: _ = _
      rw [e9, e1, a12]
      rfl
    rw [← e0]; exact hP
  refine lv_aload_n hx hb dX12_init_443 rfl (lv_at hl 0 rfl) ?_
  refine c_get F 26 1287 (ci := 12) (N := 62) (T := TX12) (v := .ref q17) rfl (by decide +kernel) (Nat.le_of_ble_eq_true rfl) hst hP0 dX12_init_444 ?_
  clear hP0
  refine lv_iconst hx hb (v := (3 : Int32)) dX12_init_447 (by decide) ?_
  refine lv_bipush hx hb (v := (15 : Int32)) dX12_init_448 (by decide) ?_
  have e88 : (.ref q17 : Value) = .ref (ad 88 0) := by rw [a88]
  rw [e88]
  refine c_istW F (ad := ad) (ks := ksM) (σ := (m1 (m1 (m4 (m4 (m4 (m4 (mB sc) 0 100010 0 0 18) 4 100002 18 16 2) 8 4 100005 18 17) 12 100002 0 18 0) 1 7) 2 12)) (t := 88) (n := 24) (k0 := 17) (k := 3) ksM_cl rfl rfl (by unfold vp_in; decide) (by decide) hP hD hS dX12_init_450 (fun H locs hP hD hS => ?_)
  have hP : va_P D vwCl (hwW ad K ksM (m1 (m1 (m1 (m4 (m4 (m4 (m4 (mB sc) 0 100010 0 0 18) 4 100002 18 16 2) 8 4 100005 18 17) 12 100002 0 18 0) 1 7) 2 12) 3 15)) H := hP
  have hD : va_D A (hwW ad K ksM (m1 (m1 (m1 (m4 (m4 (m4 (m4 (mB sc) 0 100010 0 0 18) 4 100002 18 16 2) 8 4 100005 18 17) 12 100002 0 18 0) 1 7) 2 12) 3 15)) := hD
  clear e88
  have hP : va_P D vwCl (hwW ad K ksM (mZ sc)) H := hP
  have hD : va_D A (hwW ad K ksM (mZ sc)) := hD
  rw [mZ_W] at hP hD
  exact c_ret F hr hlocks (Nat.le_of_ble_eq_true rfl) (Nat.le_of_ble_eq_true rfl) hS ad (fun t ht => ⟨⟨hi, a12⟩, by rw [ht]; exact hP, hD⟩) dX12_init_451

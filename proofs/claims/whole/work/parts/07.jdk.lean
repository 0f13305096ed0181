/-! THE LIBRARY'S OWN MEMBERS OVER THE TEXTS OF THE CLASS: charAt, indexOf, length, walked -/
def jBy : List (List Int32) := [[99, 111, 115, 116, 32, 49, 48, 32, 43, 32, 121, 97, 114, 100, 32, 42, 32, 121, 97, 114, 100, 32, 42, 32, 50, 32, 59, 32, 119, 97, 116, 101, 114, 32, 98, 97, 115, 101, 32, 45, 32, 115, 101, 97, 115, 111, 110, 32, 42, 32, 53, 32, 59, 32, 102, 97, 108, 108, 32, 50, 32, 42, 32, 121, 97, 114, 100, 32, 59], [40, 41, 59, 43, 45, 42, 60, 61], [99, 111, 115, 116, 32, 32, 119, 97, 116, 101, 114, 32, 102, 97, 108, 108, 32, 32, 111, 114, 32, 32, 32, 32, 97, 110, 100, 32, 32, 32, 110, 111, 116, 32, 32, 32, 121, 97, 114, 100, 32, 32, 108, 97, 121, 101, 114, 32, 98, 97, 115, 101, 32, 32, 115, 97, 108, 116, 32, 32, 115, 101, 97, 115, 111, 110, 108, 105, 110, 101, 100, 32]]
def jLe : List Nat := [69, 8, 72]
def hwStr (ad : Nat → Nat → Nat) (A : Nat → Prop) (U : State) (H : Heap) : Prop :=
  vk_S 3 jLe jBy (fun i => ad (210 + i) 0) (fun i => ad (220 + i) 0) A U H ∧ (∀ i : Nat, i < 3 → vk_R (ntD ("", 0, "") jTx i).1 (ntD ("", 0, "") jTx i).2.1 (ntD ("", 0, "") jTx i).2.2 (ad (210 + i) 0) U) ∧
  va_Z "java/lang/String" "COMPACT_STRINGS" "Z" (.int 1) A U H ∧ va_Zq "jdk/internal/util/Preconditions" "SIOOBE_FORMATTER" "Ljava/util/function/BiFunction;" A U H
theorem hwStr.go {ad : Nat → Nat → Nat} {A : Nat → Prop} {s U : State} {H0 H : Heap} (h : hwStr ad A s H0) (hW : s.WarmedH U.vm) (hk : ∀ q : Nat, q < H0.size → ¬ A q → H[q]? = H0[q]?) : hwStr ad A U H :=
  ⟨(h.1.kept hk).moved hW.alike, fun i hi => (h.2.1 i hi).warm hW, va_Z.moved hW.alike (h.2.2.1.kept hk), va_Zq.moved hW.alike (h.2.2.2.kept hk)⟩
def jWs (y : MethodName) (b : ByteArray) (n : Nat) (r : Option FieldType) : List Jvm.Cond := Jvm.Cond.code y b n r :: hwTB
def jRm (d : Nat) : Room := { frames := d, cells := 0, slots := 0, locals := 60 * d }
def jQ (v : Option Value) : Array Value → State → Outcome → State → Prop := fun _ st oc t => oc = .returned v ∧ t.heap = st.heap
abbrev jMet (l : Launch) (ad : Nat → Nat → Nat) (A : Nat → Prop) (d : Nat) (y : MethodName) (b : ByteArray) (n : Nat) (r : Option FieldType) (av : List Value) (v : Option Value) : Prop :=
  Met l y (jWs y b n r) (jRm d) (va_Pc av (fun U => hwStr ad A U U.heap)) (jQ v) 0 0 (fun _ => False)
theorem j_good {ws : List Jvm.Cond} (h : ∀ w ∈ ws, w ∈ hwTB) : GoodIn hwTB ws := fun w hw => ⟨h w hw, good_of_word (hwTB_good (h w hw))⟩
theorem j_blind {ad : Nat → Nat → Nat} {A : Nat → Prop} {av : List Value} : FrameBlind (va_Pc av (fun U => hwStr ad A U U.heap)) := by
  intro a U g mk h
  exact ⟨h.1, hwStr.go (s := U) (U := U.calling g mk a) h.2 (State.WarmedH.refl U) (fun _ _ _ => rfl)⟩
section JC
variable {p : Program} {l : Launch} {e : Env} {R : Room} {s : State} {m : MethodId} {args : Array Value} {below : List Frame} {meth : Method} {c : Code} {H : Heap} {locs : List Loc} {cells slots : Nat} {Qf : State → Prop} {ls : Array Slot} {pc : Nat} {rest st0 : List Value} {a : Array Value} {v : Option Value}
theorem j_call (hr : va_Run p l e R s m args below meth c H locs cells slots 0 0 (F0 m pc ls st0) rest (jQ v a) (fun _ => False)) (kk : W p l e R s m args below meth c H locs cells slots Qf (F0 m (pc + 3) ls (v.toList ++ rest))) : W p l e R s m args below meth c H locs cells slots Qf (F0 m pc ls st0) := by
  intro T hT X
  obtain ⟨v', st₀, t, T', L, h0, X', hL, e1, e2, ⟨hv, hh⟩, st⟩ := hr T hT X
  obtain rfl : v' = v := Outcome.returned.inj hv
  have hLn : L = [] := by
    cases L with
    | nil => rfl
    | cons q L => exact (hL q List.mem_cons_self).elim
  subst hLn
  rw [List.append_nil] at X'
  obtain ⟨t2, a1, b1⟩ := kk T' (by rw [e1, hh, h0]) X'
  exact ⟨t2, st t2 a1, b1⟩
end JC
theorem dj_isLatin1_0 : decode cJ0_isLatin1_aae02 0 = .ok (.getstatic 38, 3) := by decide +kernel
theorem dj_isLatin1_3 : decode cJ0_isLatin1_aae02 3 = .ok (.ifCond .eq 14, 3) := by decide +kernel
theorem dj_isLatin1_6 : decode cJ0_isLatin1_aae02 6 = .ok (.aload_n 0, 1) := by decide +kernel
theorem dj_isLatin1_7 : decode cJ0_isLatin1_aae02 7 = .ok (.getfield 15, 3) := by decide +kernel
theorem dj_isLatin1_10 : decode cJ0_isLatin1_aae02 10 = .ok (.ifCond .ne 7, 3) := by decide +kernel
theorem dj_isLatin1_13 : decode cJ0_isLatin1_aae02 13 = .ok (.iconst 1, 1) := by decide +kernel
theorem dj_isLatin1_14 : decode cJ0_isLatin1_aae02 14 = .ok (.goto 4, 3) := by decide +kernel
theorem dj_isLatin1_17 : decode cJ0_isLatin1_aae02 17 = .ok (.iconst 0, 1) := by decide +kernel
theorem dj_isLatin1_18 : decode cJ0_isLatin1_aae02 18 = .ok (.ireturn, 1) := by decide +kernel
theorem dj_coder_0 : decode cJ0_coder_7d493 0 = .ok (.getstatic 38, 3) := by decide +kernel
theorem dj_coder_3 : decode cJ0_coder_7d493 3 = .ok (.ifCond .eq 10, 3) := by decide +kernel
theorem dj_coder_6 : decode cJ0_coder_7d493 6 = .ok (.aload_n 0, 1) := by decide +kernel
theorem dj_coder_7 : decode cJ0_coder_7d493 7 = .ok (.getfield 15, 3) := by decide +kernel
theorem dj_coder_10 : decode cJ0_coder_7d493 10 = .ok (.goto 4, 3) := by decide +kernel
theorem dj_coder_13 : decode cJ0_coder_7d493 13 = .ok (.iconst 1, 1) := by decide +kernel
theorem dj_coder_14 : decode cJ0_coder_7d493 14 = .ok (.ireturn, 1) := by decide +kernel
theorem dj_length_0 : decode cJ0_length_8abf5 0 = .ok (.aload_n 0, 1) := by decide +kernel
theorem dj_length_1 : decode cJ0_length_8abf5 1 = .ok (.getfield 9, 3) := by decide +kernel
theorem dj_length_4 : decode cJ0_length_8abf5 4 = .ok (.arraylength, 1) := by decide +kernel
theorem dj_length_5 : decode cJ0_length_8abf5 5 = .ok (.aload_n 0, 1) := by decide +kernel
theorem dj_length_6 : decode cJ0_length_8abf5 6 = .ok (.invokevirtual 335, 3) := by decide +kernel
theorem dj_length_9 : decode cJ0_length_8abf5 9 = .ok (.ishr, 1) := by decide +kernel
theorem dj_length_10 : decode cJ0_length_8abf5 10 = .ok (.ireturn, 1) := by decide +kernel
theorem dj_pci_0 : decode cJ3_checkIndex_8e157 0 = .ok (.iload_n 0, 1) := by decide +kernel
theorem dj_pci_1 : decode cJ3_checkIndex_8e157 1 = .ok (.ifCond .lt 8, 3) := by decide +kernel
theorem dj_pci_4 : decode cJ3_checkIndex_8e157 4 = .ok (.iload_n 0, 1) := by decide +kernel
theorem dj_pci_5 : decode cJ3_checkIndex_8e157 5 = .ok (.iload_n 1, 1) := by decide +kernel
theorem dj_pci_6 : decode cJ3_checkIndex_8e157 6 = .ok (.if_icmp .lt 10, 3) := by decide +kernel
theorem dj_pci_9 : decode cJ3_checkIndex_8e157 9 = .ok (.aload_n 2, 1) := by decide +kernel
theorem dj_pci_10 : decode cJ3_checkIndex_8e157 10 = .ok (.iload_n 0, 1) := by decide +kernel
theorem dj_pci_11 : decode cJ3_checkIndex_8e157 11 = .ok (.iload_n 1, 1) := by decide +kernel
theorem dj_pci_12 : decode cJ3_checkIndex_8e157 12 = .ok (.invokestatic 95, 3) := by decide +kernel
theorem dj_pci_15 : decode cJ3_checkIndex_8e157 15 = .ok (.athrow, 1) := by decide +kernel
theorem dj_pci_16 : decode cJ3_checkIndex_8e157 16 = .ok (.iload_n 0, 1) := by decide +kernel
theorem dj_pci_17 : decode cJ3_checkIndex_8e157 17 = .ok (.ireturn, 1) := by decide +kernel
theorem dj_sci_0 : decode cJ0_checkIndex_df160 0 = .ok (.iload_n 0, 1) := by decide +kernel
theorem dj_sci_1 : decode cJ0_checkIndex_df160 1 = .ok (.iload_n 1, 1) := by decide +kernel
theorem dj_sci_2 : decode cJ0_checkIndex_df160 2 = .ok (.getstatic 1053, 3) := by decide +kernel
theorem dj_sci_5 : decode cJ0_checkIndex_df160 5 = .ok (.invokestatic 1059, 3) := by decide +kernel
theorem dj_sci_8 : decode cJ0_checkIndex_df160 8 = .ok (.pop, 1) := by decide +kernel
theorem dj_sci_9 : decode cJ0_checkIndex_df160 9 = .ok (.return_, 1) := by decide +kernel
theorem dj_lcharAt_0 : decode cJ1_charAt_3b067 0 = .ok (.iload_n 1, 1) := by decide +kernel
theorem dj_lcharAt_1 : decode cJ1_charAt_3b067 1 = .ok (.aload_n 0, 1) := by decide +kernel
theorem dj_lcharAt_2 : decode cJ1_charAt_3b067 2 = .ok (.arraylength, 1) := by decide +kernel
theorem dj_lcharAt_3 : decode cJ1_charAt_3b067 3 = .ok (.invokestatic 9, 3) := by decide +kernel
theorem dj_lcharAt_6 : decode cJ1_charAt_3b067 6 = .ok (.aload_n 0, 1) := by decide +kernel
theorem dj_lcharAt_7 : decode cJ1_charAt_3b067 7 = .ok (.iload_n 1, 1) := by decide +kernel
theorem dj_lcharAt_8 : decode cJ1_charAt_3b067 8 = .ok (.baload, 1) := by decide +kernel
theorem dj_lcharAt_9 : decode cJ1_charAt_3b067 9 = .ok (.sipush 255, 3) := by decide +kernel
theorem dj_lcharAt_12 : decode cJ1_charAt_3b067 12 = .ok (.iand, 1) := by decide +kernel
theorem dj_lcharAt_13 : decode cJ1_charAt_3b067 13 = .ok (.i2c, 1) := by decide +kernel
theorem dj_lcharAt_14 : decode cJ1_charAt_3b067 14 = .ok (.ireturn, 1) := by decide +kernel
theorem dj_charAt_0 : decode cJ0_charAt_5068e 0 = .ok (.aload_n 0, 1) := by decide +kernel
theorem dj_charAt_1 : decode cJ0_charAt_5068e 1 = .ok (.invokevirtual 492, 3) := by decide +kernel
theorem dj_charAt_4 : decode cJ0_charAt_5068e 4 = .ok (.ifCond .eq 12, 3) := by decide +kernel
theorem dj_charAt_7 : decode cJ0_charAt_5068e 7 = .ok (.aload_n 0, 1) := by decide +kernel
theorem dj_charAt_8 : decode cJ0_charAt_5068e 8 = .ok (.getfield 9, 3) := by decide +kernel
theorem dj_charAt_11 : decode cJ0_charAt_5068e 11 = .ok (.iload_n 1, 1) := by decide +kernel
theorem dj_charAt_12 : decode cJ0_charAt_5068e 12 = .ok (.invokestatic 495, 3) := by decide +kernel
theorem dj_charAt_15 : decode cJ0_charAt_5068e 15 = .ok (.ireturn, 1) := by decide +kernel
theorem dj_charAt_16 : decode cJ0_charAt_5068e 16 = .ok (.aload_n 0, 1) := by decide +kernel
theorem dj_charAt_17 : decode cJ0_charAt_5068e 17 = .ok (.getfield 9, 3) := by decide +kernel
theorem dj_charAt_20 : decode cJ0_charAt_5068e 20 = .ok (.iload_n 1, 1) := by decide +kernel
theorem dj_charAt_21 : decode cJ0_charAt_5068e 21 = .ok (.invokestatic 498, 3) := by decide +kernel
theorem dj_charAt_24 : decode cJ0_charAt_5068e 24 = .ok (.ireturn, 1) := by decide +kernel
theorem dj_canEncode_0 : decode cJ1_canEncode_9a6ad 0 = .ok (.iload_n 0, 1) := by decide +kernel
theorem dj_canEncode_1 : decode cJ1_canEncode_9a6ad 1 = .ok (.ifCond .lt 14, 3) := by decide +kernel
theorem dj_canEncode_4 : decode cJ1_canEncode_9a6ad 4 = .ok (.iload_n 0, 1) := by decide +kernel
theorem dj_canEncode_5 : decode cJ1_canEncode_9a6ad 5 = .ok (.sipush 255, 3) := by decide +kernel
theorem dj_canEncode_8 : decode cJ1_canEncode_9a6ad 8 = .ok (.if_icmp .gt 7, 3) := by decide +kernel
theorem dj_canEncode_11 : decode cJ1_canEncode_9a6ad 11 = .ok (.iconst 1, 1) := by decide +kernel
theorem dj_canEncode_12 : decode cJ1_canEncode_9a6ad 12 = .ok (.goto 4, 3) := by decide +kernel
theorem dj_canEncode_15 : decode cJ1_canEncode_9a6ad 15 = .ok (.iconst 0, 1) := by decide +kernel
theorem dj_canEncode_16 : decode cJ1_canEncode_9a6ad 16 = .ok (.ireturn, 1) := by decide +kernel
theorem dj_ixChar_0 : decode cJ1_indexOfChar_4cfef 0 = .ok (.iload_n 1, 1) := by decide +kernel
theorem dj_ixChar_1 : decode cJ1_indexOfChar_4cfef 1 = .ok (.i2b, 1) := by decide +kernel
theorem dj_ixChar_2 : decode cJ1_indexOfChar_4cfef 2 = .ok (.istore 4, 2) := by decide +kernel
theorem dj_ixChar_4 : decode cJ1_indexOfChar_4cfef 4 = .ok (.iload_n 2, 1) := by decide +kernel
theorem dj_ixChar_5 : decode cJ1_indexOfChar_4cfef 5 = .ok (.istore 5, 2) := by decide +kernel
theorem dj_ixChar_7 : decode cJ1_indexOfChar_4cfef 7 = .ok (.iload 5, 2) := by decide +kernel
theorem dj_ixChar_9 : decode cJ1_indexOfChar_4cfef 9 = .ok (.iload_n 3, 1) := by decide +kernel
theorem dj_ixChar_10 : decode cJ1_indexOfChar_4cfef 10 = .ok (.if_icmp .ge 21, 3) := by decide +kernel
theorem dj_ixChar_13 : decode cJ1_indexOfChar_4cfef 13 = .ok (.aload_n 0, 1) := by decide +kernel
theorem dj_ixChar_14 : decode cJ1_indexOfChar_4cfef 14 = .ok (.iload 5, 2) := by decide +kernel
theorem dj_ixChar_16 : decode cJ1_indexOfChar_4cfef 16 = .ok (.baload, 1) := by decide +kernel
theorem dj_ixChar_17 : decode cJ1_indexOfChar_4cfef 17 = .ok (.iload 4, 2) := by decide +kernel
theorem dj_ixChar_19 : decode cJ1_indexOfChar_4cfef 19 = .ok (.if_icmp .ne 6, 3) := by decide +kernel
theorem dj_ixChar_22 : decode cJ1_indexOfChar_4cfef 22 = .ok (.iload 5, 2) := by decide +kernel
theorem dj_ixChar_24 : decode cJ1_indexOfChar_4cfef 24 = .ok (.ireturn, 1) := by decide +kernel
theorem dj_ixChar_25 : decode cJ1_indexOfChar_4cfef 25 = .ok (.iinc 5 1, 3) := by decide +kernel
theorem dj_ixChar_28 : decode cJ1_indexOfChar_4cfef 28 = .ok (.goto (-21), 3) := by decide +kernel
theorem dj_ixChar_31 : decode cJ1_indexOfChar_4cfef 31 = .ok (.iconst (-1), 1) := by decide +kernel
theorem dj_ixChar_32 : decode cJ1_indexOfChar_4cfef 32 = .ok (.ireturn, 1) := by decide +kernel
theorem dj_lindexOf_0 : decode cJ1_indexOf_4cfef 0 = .ok (.iload_n 1, 1) := by decide +kernel
theorem dj_lindexOf_1 : decode cJ1_indexOf_4cfef 1 = .ok (.invokestatic 88, 3) := by decide +kernel
theorem dj_lindexOf_4 : decode cJ1_indexOf_4cfef 4 = .ok (.ifCond .ne 5, 3) := by decide +kernel
theorem dj_lindexOf_7 : decode cJ1_indexOf_4cfef 7 = .ok (.iconst (-1), 1) := by decide +kernel
theorem dj_lindexOf_8 : decode cJ1_indexOf_4cfef 8 = .ok (.ireturn, 1) := by decide +kernel
theorem dj_lindexOf_9 : decode cJ1_indexOf_4cfef 9 = .ok (.iload_n 2, 1) := by decide +kernel
theorem dj_lindexOf_10 : decode cJ1_indexOf_4cfef 10 = .ok (.iconst 0, 1) := by decide +kernel
theorem dj_lindexOf_11 : decode cJ1_indexOf_4cfef 11 = .ok (.invokestatic 92, 3) := by decide +kernel
theorem dj_lindexOf_14 : decode cJ1_indexOf_4cfef 14 = .ok (.istore_n 2, 1) := by decide +kernel
theorem dj_lindexOf_15 : decode cJ1_indexOf_4cfef 15 = .ok (.iload_n 3, 1) := by decide +kernel
theorem dj_lindexOf_16 : decode cJ1_indexOf_4cfef 16 = .ok (.aload_n 0, 1) := by decide +kernel
theorem dj_lindexOf_17 : decode cJ1_indexOf_4cfef 17 = .ok (.arraylength, 1) := by decide +kernel
theorem dj_lindexOf_18 : decode cJ1_indexOf_4cfef 18 = .ok (.invokestatic 38, 3) := by decide +kernel
theorem dj_lindexOf_21 : decode cJ1_indexOf_4cfef 21 = .ok (.istore_n 3, 1) := by decide +kernel
theorem dj_lindexOf_22 : decode cJ1_indexOf_4cfef 22 = .ok (.iload_n 2, 1) := by decide +kernel
theorem dj_lindexOf_23 : decode cJ1_indexOf_4cfef 23 = .ok (.iload_n 3, 1) := by decide +kernel
theorem dj_lindexOf_24 : decode cJ1_indexOf_4cfef 24 = .ok (.if_icmp .lt 5, 3) := by decide +kernel
theorem dj_lindexOf_27 : decode cJ1_indexOf_4cfef 27 = .ok (.iconst (-1), 1) := by decide +kernel
theorem dj_lindexOf_28 : decode cJ1_indexOf_4cfef 28 = .ok (.ireturn, 1) := by decide +kernel
theorem dj_lindexOf_29 : decode cJ1_indexOf_4cfef 29 = .ok (.aload_n 0, 1) := by decide +kernel
theorem dj_lindexOf_30 : decode cJ1_indexOf_4cfef 30 = .ok (.iload_n 1, 1) := by decide +kernel
theorem dj_lindexOf_31 : decode cJ1_indexOf_4cfef 31 = .ok (.iload_n 2, 1) := by decide +kernel
theorem dj_lindexOf_32 : decode cJ1_indexOf_4cfef 32 = .ok (.iload_n 3, 1) := by decide +kernel
theorem dj_lindexOf_33 : decode cJ1_indexOf_4cfef 33 = .ok (.invokestatic 95, 3) := by decide +kernel
theorem dj_lindexOf_36 : decode cJ1_indexOf_4cfef 36 = .ok (.ireturn, 1) := by decide +kernel
theorem dj_indexOf2_0 : decode cJ0_indexOf_7cf53 0 = .ok (.aload_n 0, 1) := by decide +kernel
theorem dj_indexOf2_1 : decode cJ0_indexOf_7cf53 1 = .ok (.invokevirtual 492, 3) := by decide +kernel
theorem dj_indexOf2_4 : decode cJ0_indexOf_7cf53 4 = .ok (.ifCond .eq 19, 3) := by decide +kernel
theorem dj_indexOf2_7 : decode cJ0_indexOf_7cf53 7 = .ok (.aload_n 0, 1) := by decide +kernel
theorem dj_indexOf2_8 : decode cJ0_indexOf_7cf53 8 = .ok (.getfield 9, 3) := by decide +kernel
theorem dj_indexOf2_11 : decode cJ0_indexOf_7cf53 11 = .ok (.iload_n 1, 1) := by decide +kernel
theorem dj_indexOf2_12 : decode cJ0_indexOf_7cf53 12 = .ok (.iload_n 2, 1) := by decide +kernel
theorem dj_indexOf2_13 : decode cJ0_indexOf_7cf53 13 = .ok (.aload_n 0, 1) := by decide +kernel
theorem dj_indexOf2_14 : decode cJ0_indexOf_7cf53 14 = .ok (.invokevirtual 505, 3) := by decide +kernel
theorem dj_indexOf2_17 : decode cJ0_indexOf_7cf53 17 = .ok (.invokestatic 637, 3) := by decide +kernel
theorem dj_indexOf2_20 : decode cJ0_indexOf_7cf53 20 = .ok (.goto 16, 3) := by decide +kernel
theorem dj_indexOf2_23 : decode cJ0_indexOf_7cf53 23 = .ok (.aload_n 0, 1) := by decide +kernel
theorem dj_indexOf2_24 : decode cJ0_indexOf_7cf53 24 = .ok (.getfield 9, 3) := by decide +kernel
theorem dj_indexOf2_27 : decode cJ0_indexOf_7cf53 27 = .ok (.iload_n 1, 1) := by decide +kernel
theorem dj_indexOf2_28 : decode cJ0_indexOf_7cf53 28 = .ok (.iload_n 2, 1) := by decide +kernel
theorem dj_indexOf2_29 : decode cJ0_indexOf_7cf53 29 = .ok (.aload_n 0, 1) := by decide +kernel
theorem dj_indexOf2_30 : decode cJ0_indexOf_7cf53 30 = .ok (.invokevirtual 505, 3) := by decide +kernel
theorem dj_indexOf2_33 : decode cJ0_indexOf_7cf53 33 = .ok (.invokestatic 640, 3) := by decide +kernel
theorem dj_indexOf2_36 : decode cJ0_indexOf_7cf53 36 = .ok (.ireturn, 1) := by decide +kernel
theorem dj_indexOf_0 : decode cJ0_indexOf_0f7a4 0 = .ok (.aload_n 0, 1) := by decide +kernel
theorem dj_indexOf_1 : decode cJ0_indexOf_0f7a4 1 = .ok (.iload_n 1, 1) := by decide +kernel
theorem dj_indexOf_2 : decode cJ0_indexOf_0f7a4 2 = .ok (.iconst 0, 1) := by decide +kernel
theorem dj_indexOf_3 : decode cJ0_indexOf_0f7a4 3 = .ok (.invokevirtual 633, 3) := by decide +kernel
theorem dj_indexOf_6 : decode cJ0_indexOf_0f7a4 6 = .ok (.ireturn, 1) := by decide +kernel
theorem jw_isLatin1 : (Jvm.Cond.code yJ0_isLatin1_aae02 cJ0_isLatin1_aae02 1 (some .boolean) ∈ hwTB ∧ Jvm.Cond.initialized "java/lang/String" ∈ hwTB) ∧ (Jvm.Cond.instanceMethod yJ0_isLatin1_aae02 ∈ hwTB ∧ Jvm.Cond.selects "java/lang/String" yJ0_isLatin1_aae02 yJ0_isLatin1_aae02 ∈ hwTB) := ⟨⟨(hwWd_mem (d := 218) (w := _) (by decide +kernel)), (hwWd_mem (d := 78) (w := _) (by decide +kernel))⟩, ⟨(hwWd_mem (d := 216) (w := _) (by decide +kernel)), (hwWd_mem (d := 217) (w := _) (by decide +kernel))⟩⟩
theorem jw_coder : (Jvm.Cond.code yJ0_coder_7d493 cJ0_coder_7d493 1 (some .byte) ∈ hwTB ∧ Jvm.Cond.initialized "java/lang/String" ∈ hwTB) ∧ (Jvm.Cond.instanceMethod yJ0_coder_7d493 ∈ hwTB ∧ Jvm.Cond.selects "java/lang/String" yJ0_coder_7d493 yJ0_coder_7d493 ∈ hwTB) := ⟨⟨(hwWd_mem (d := 208) (w := _) (by decide +kernel)), (hwWd_mem (d := 78) (w := _) (by decide +kernel))⟩, ⟨(hwWd_mem (d := 206) (w := _) (by decide +kernel)), (hwWd_mem (d := 207) (w := _) (by decide +kernel))⟩⟩
theorem jw_length : (Jvm.Cond.code yJ0_length_8abf5 cJ0_length_8abf5 1 (some .int) ∈ hwTB ∧ Jvm.Cond.initialized "java/lang/String" ∈ hwTB) ∧ (Jvm.Cond.instanceMethod yJ0_length_8abf5 ∈ hwTB ∧ Jvm.Cond.selects "java/lang/String" yJ0_length_8abf5 yJ0_length_8abf5 ∈ hwTB) := ⟨⟨(hwWd_mem (d := 204) (w := _) (by decide +kernel)), (hwWd_mem (d := 78) (w := _) (by decide +kernel))⟩, ⟨(hwWd_mem (d := 202) (w := _) (by decide +kernel)), (hwWd_mem (d := 203) (w := _) (by decide +kernel))⟩⟩
theorem jw_pci : (Jvm.Cond.code yJ3_checkIndex_8e157 cJ3_checkIndex_8e157 3 (some .int) ∈ hwTB ∧ Jvm.Cond.initialized "jdk/internal/util/Preconditions" ∈ hwTB) ∧ Jvm.Cond.static yJ3_checkIndex_8e157 ∈ hwTB := ⟨⟨(hwWd_mem (d := 229) (w := _) (by decide +kernel)), (hwWd_mem (d := 80) (w := _) (by decide +kernel))⟩, (hwWd_mem (d := 228) (w := _) (by decide +kernel))⟩
theorem jw_sci : (Jvm.Cond.code yJ0_checkIndex_df160 cJ0_checkIndex_df160 2 none ∈ hwTB ∧ Jvm.Cond.initialized "java/lang/String" ∈ hwTB) ∧ Jvm.Cond.static yJ0_checkIndex_df160 ∈ hwTB := ⟨⟨(hwWd_mem (d := 224) (w := _) (by decide +kernel)), (hwWd_mem (d := 78) (w := _) (by decide +kernel))⟩, (hwWd_mem (d := 223) (w := _) (by decide +kernel))⟩
theorem jw_lcharAt : (Jvm.Cond.code yJ1_charAt_3b067 cJ1_charAt_3b067 2 (some .char) ∈ hwTB ∧ Jvm.Cond.initialized "java/lang/StringLatin1" ∈ hwTB) ∧ Jvm.Cond.static yJ1_charAt_3b067 ∈ hwTB := ⟨⟨(hwWd_mem (d := 221) (w := _) (by decide +kernel)), (hwWd_mem (d := 79) (w := _) (by decide +kernel))⟩, (hwWd_mem (d := 220) (w := _) (by decide +kernel))⟩
theorem jw_charAt : (Jvm.Cond.code yJ0_charAt_5068e cJ0_charAt_5068e 2 (some .char) ∈ hwTB ∧ Jvm.Cond.initialized "java/lang/String" ∈ hwTB) ∧ (Jvm.Cond.instanceMethod yJ0_charAt_5068e ∈ hwTB ∧ Jvm.Cond.selects "java/lang/String" yJ0_charAt_5068e yJ0_charAt_5068e ∈ hwTB) := ⟨⟨(hwWd_mem (d := 214) (w := _) (by decide +kernel)), (hwWd_mem (d := 78) (w := _) (by decide +kernel))⟩, ⟨(hwWd_mem (d := 212) (w := _) (by decide +kernel)), (hwWd_mem (d := 213) (w := _) (by decide +kernel))⟩⟩
theorem jw_canEncode : (Jvm.Cond.code yJ1_canEncode_9a6ad cJ1_canEncode_9a6ad 1 (some .boolean) ∈ hwTB ∧ Jvm.Cond.initialized "java/lang/StringLatin1" ∈ hwTB) ∧ Jvm.Cond.static yJ1_canEncode_9a6ad ∈ hwTB := ⟨⟨(hwWd_mem (d := 346) (w := _) (by decide +kernel)), (hwWd_mem (d := 79) (w := _) (by decide +kernel))⟩, (hwWd_mem (d := 345) (w := _) (by decide +kernel))⟩
theorem jw_ixChar : (Jvm.Cond.code yJ1_indexOfChar_4cfef cJ1_indexOfChar_4cfef 6 (some .int) ∈ hwTB ∧ Jvm.Cond.initialized "java/lang/StringLatin1" ∈ hwTB) ∧ Jvm.Cond.static yJ1_indexOfChar_4cfef ∈ hwTB := ⟨⟨(hwWd_mem (d := 355) (w := _) (by decide +kernel)), (hwWd_mem (d := 79) (w := _) (by decide +kernel))⟩, (hwWd_mem (d := 354) (w := _) (by decide +kernel))⟩
theorem jw_lindexOf : (Jvm.Cond.code yJ1_indexOf_4cfef cJ1_indexOf_4cfef 4 (some .int) ∈ hwTB ∧ Jvm.Cond.initialized "java/lang/StringLatin1" ∈ hwTB) ∧ Jvm.Cond.static yJ1_indexOf_4cfef ∈ hwTB := ⟨⟨(hwWd_mem (d := 343) (w := _) (by decide +kernel)), (hwWd_mem (d := 79) (w := _) (by decide +kernel))⟩, (hwWd_mem (d := 342) (w := _) (by decide +kernel))⟩
theorem jw_indexOf2 : (Jvm.Cond.code yJ0_indexOf_7cf53 cJ0_indexOf_7cf53 3 (some .int) ∈ hwTB ∧ Jvm.Cond.initialized "java/lang/String" ∈ hwTB) ∧ (Jvm.Cond.instanceMethod yJ0_indexOf_7cf53 ∈ hwTB ∧ Jvm.Cond.selects "java/lang/String" yJ0_indexOf_7cf53 yJ0_indexOf_7cf53 ∈ hwTB) := ⟨⟨(hwWd_mem (d := 339) (w := _) (by decide +kernel)), (hwWd_mem (d := 78) (w := _) (by decide +kernel))⟩, ⟨(hwWd_mem (d := 337) (w := _) (by decide +kernel)), (hwWd_mem (d := 338) (w := _) (by decide +kernel))⟩⟩
theorem jw_indexOf : (Jvm.Cond.code yJ0_indexOf_0f7a4 cJ0_indexOf_0f7a4 2 (some .int) ∈ hwTB ∧ Jvm.Cond.initialized "java/lang/String" ∈ hwTB) ∧ (Jvm.Cond.instanceMethod yJ0_indexOf_0f7a4 ∈ hwTB ∧ Jvm.Cond.selects "java/lang/String" yJ0_indexOf_0f7a4 yJ0_indexOf_0f7a4 ∈ hwTB) := ⟨⟨(hwWd_mem (d := 335) (w := _) (by decide +kernel)), (hwWd_mem (d := 78) (w := _) (by decide +kernel))⟩, ⟨(hwWd_mem (d := 333) (w := _) (by decide +kernel)), (hwWd_mem (d := 334) (w := _) (by decide +kernel))⟩⟩
set_option maxRecDepth 20000 in
theorem j_isLatin1 {l : Launch} {ad : Nat → Nat → Nat} {A : Nat → Prop} (d : Nat) (i : Nat) (hi : i < 3) : jMet l ad A (d + 1) yJ0_isLatin1_aae02 cJ0_isLatin1_aae02 1 (some .boolean) [.ref (ad (210 + i) 0)] (some (.int 1)) := by
  refine Met.ofW (cc := cJ0_isLatin1_aae02) (maxL := 1) (ret := (some .boolean)) (by decide) rfl ?_
  intro p e s m args below meth c s₁ B hml hv
  obtain ⟨rfl, hG⟩ := hv
  have hx := B.exec
  have hb := B.bytes
  have hr := B.returns
  have hts0 := atoms_spec (ws := jWs yJ0_isLatin1_aae02 cJ0_isLatin1_aae02 1 (some .boolean)) B.pre
  have hts : ∀ w ∈ hwTB, w.before _ s = true := fun w hw => hts0 w (List.mem_cons_of_mem _ hw)
  have hown : s.vm.findClass "java/lang/String" = some m.cls := findClass_of_methodNamed B.named
  have hlocks := B.notSynchronized
  have hl := lv_entry ([.ref (ad (210 + i) 0)]) (n := 1) (Nat.le_of_ble_eq_true rfl)
  rw [lg_entry_eq]
  generalize (lg_sl ([.ref (ad (210 + i) 0)]) ++ List.replicate (1 - (lg_sl ([.ref (ad (210 + i) 0)])).length) Slot.unset).toArray = ls at hl ⊢
  have hl : lv_has ls 1 [(0, .ref (ad (210 + i) 0))] := hl
  refine va_gets hx hb hG.2.2.1 va_S.rf hown (hts (.fieldLink "java/lang/String" 38 "java/lang/String" "COMPACT_STRINGS" "Z") (hwWd_mem (d := 209) (w := _) (by decide +kernel))) (fun _ h => h) dj_isLatin1_0 ?_
  refine lv_if_eq (tgt := 17) hx hb dj_isLatin1_3 (by decide) (fun h => absurd h (by decide)) (fun _ => ?_)
  refine lv_aload_n hx hb dj_isLatin1_6 rfl (lv_at hl 0 rfl) ?_
  refine vk_getf hx hb (hG.1.1 i hi).2.1 va_S.rf hown (hts (.fieldLink "java/lang/String" 15 "java/lang/String" "coder" "B") (hwWd_mem (d := 1824) (w := _) (by decide +kernel))) (fun _ h => h) dj_isLatin1_7 ?_
  refine lv_if_ne (tgt := 17) hx hb dj_isLatin1_10 (by decide) (fun h => absurd (by decide) h) (fun _ => ?_)
  refine lv_iconst (v := 1) hx hb dj_isLatin1_13 (by decide) ?_
  refine lv_goto (tgt := 18) hx hb dj_isLatin1_14 (by decide) ?_
  exact W.zret (ty := .boolean) hx hb hr (rfl) (fun t ht hW => ⟨rfl, ht⟩) (fun q hq => by cases hq) dj_isLatin1_18
set_option maxRecDepth 20000 in
theorem j_coder {l : Launch} {ad : Nat → Nat → Nat} {A : Nat → Prop} (d : Nat) (i : Nat) (hi : i < 3) : jMet l ad A (d + 1) yJ0_coder_7d493 cJ0_coder_7d493 1 (some .byte) [.ref (ad (210 + i) 0)] (some (.int 0)) := by
  refine Met.ofW (cc := cJ0_coder_7d493) (maxL := 1) (ret := (some .byte)) (by decide) rfl ?_
  intro p e s m args below meth c s₁ B hml hv
  obtain ⟨rfl, hG⟩ := hv
  have hx := B.exec
  have hb := B.bytes
  have hr := B.returns
  have hts0 := atoms_spec (ws := jWs yJ0_coder_7d493 cJ0_coder_7d493 1 (some .byte)) B.pre
  have hts : ∀ w ∈ hwTB, w.before _ s = true := fun w hw => hts0 w (List.mem_cons_of_mem _ hw)
  have hown : s.vm.findClass "java/lang/String" = some m.cls := findClass_of_methodNamed B.named
  have hlocks := B.notSynchronized
  have hl := lv_entry ([.ref (ad (210 + i) 0)]) (n := 1) (Nat.le_of_ble_eq_true rfl)
  rw [lg_entry_eq]
  generalize (lg_sl ([.ref (ad (210 + i) 0)]) ++ List.replicate (1 - (lg_sl ([.ref (ad (210 + i) 0)])).length) Slot.unset).toArray = ls at hl ⊢
  have hl : lv_has ls 1 [(0, .ref (ad (210 + i) 0))] := hl
  refine va_gets hx hb hG.2.2.1 va_S.rf hown (hts (.fieldLink "java/lang/String" 38 "java/lang/String" "COMPACT_STRINGS" "Z") (hwWd_mem (d := 209) (w := _) (by decide +kernel))) (fun _ h => h) dj_coder_0 ?_
  refine lv_if_eq (tgt := 13) hx hb dj_coder_3 (by decide) (fun h => absurd h (by decide)) (fun _ => ?_)
  refine lv_aload_n hx hb dj_coder_6 rfl (lv_at hl 0 rfl) ?_
  refine vk_getf hx hb (hG.1.1 i hi).2.1 va_S.rf hown (hts (.fieldLink "java/lang/String" 15 "java/lang/String" "coder" "B") (hwWd_mem (d := 1824) (w := _) (by decide +kernel))) (fun _ h => h) dj_coder_7 ?_
  refine lv_goto (tgt := 14) hx hb dj_coder_10 (by decide) ?_
  exact W.zret (ty := .byte) hx hb hr (rfl) (fun t ht hW => ⟨rfl, ht⟩) (fun q hq => by cases hq) dj_coder_14
theorem jLe_lt (i : Nat) : jLe.getD i 0 < 2 ^ 31 := by
  match i with
  | 0 => decide
  | 1 => decide
  | 2 => decide
  | n + 3 => show (0 : Nat) < _; decide
set_option maxRecDepth 20000 in
theorem j_length {l : Launch} {ad : Nat → Nat → Nat} {A : Nat → Prop} (d : Nat) (i : Nat) (hi : i < 3) : jMet l ad A (d + 2) yJ0_length_8abf5 cJ0_length_8abf5 1 (some .int) [.ref (ad (210 + i) 0)] (some (.int (nI (jLe.getD i 0)))) := by
  refine Met.ofW (cc := cJ0_length_8abf5) (maxL := 1) (ret := (some .int)) (by decide) rfl ?_
  intro p e s m args below meth c s₁ B hml hv
  obtain ⟨rfl, hG⟩ := hv
  have hx := B.exec
  have hb := B.bytes
  have hr := B.returns
  have hts0 := atoms_spec (ws := jWs yJ0_length_8abf5 cJ0_length_8abf5 1 (some .int)) B.pre
  have hts : ∀ w ∈ hwTB, w.before _ s = true := fun w hw => hts0 w (List.mem_cons_of_mem _ hw)
  have hown : s.vm.findClass "java/lang/String" = some m.cls := findClass_of_methodNamed B.named
  have hlocks := B.notSynchronized
  have hl := lv_entry ([.ref (ad (210 + i) 0)]) (n := 1) (Nat.le_of_ble_eq_true rfl)
  rw [lg_entry_eq]
  generalize (lg_sl ([.ref (ad (210 + i) 0)]) ++ List.replicate (1 - (lg_sl ([.ref (ad (210 + i) 0)])).length) Slot.unset).toArray = ls at hl ⊢
  have hl : lv_has ls 1 [(0, .ref (ad (210 + i) 0))] := hl
  refine lv_aload_n hx hb dj_length_0 rfl (lv_at hl 0 rfl) ?_
  refine vk_getf hx hb (hG.1.1 i hi).2.2.1 va_S.rf hown (hts (.fieldLink "java/lang/String" 9 "java/lang/String" "value" "[B") (hwWd_mem (d := 1823) (w := _) (by decide +kernel))) (fun _ h => h) dj_length_1 ?_
  refine va_tlen (v := nI (jLe.getD i 0)) hx hb (hG.1.1 i hi).2.2.2 va_S.rf rfl dj_length_4 ?_
  refine lv_aload_n hx hb dj_length_5 rfl (lv_at hl 0 rfl) ?_
  refine j_call (va_runV (As := []) (rest := [.int (nI (jLe.getD i 0))]) (C := "java/lang/String") ⟨hx, hb, hml, hown, hts⟩ (j_coder (l := l) (A := A) d i hi) (cwV 0 hts (j_good (List.forall_mem_append.mpr ⟨List.forall_mem_cons.mpr ⟨(hwWd_mem (d := 205) (w := (.methodLink "java/lang/String" 335 yJ0_coder_7d493)) (by decide +kernel)), List.forall_mem_cons.mpr ⟨jw_coder.2.1, List.forall_mem_cons.mpr ⟨jw_coder.2.2, List.forall_mem_cons.mpr ⟨jw_coder.1.2, fun _ h => absurd h List.not_mem_nil⟩⟩⟩⟩, List.forall_mem_cons.mpr ⟨jw_coder.1.1, fun _ h => h⟩⟩)) rfl rfl rfl (by decide +kernel) ⟨Nat.le_refl _, by show 8 + (_ + 11) + 60 * _ ≤ 60 * _; omega⟩) ⟨j_blind, vk_recv hG.1 hi va_S.rf, fun U hU hW => ⟨rfl, by show hwStr ad A U U.heap; rw [hU]; exact hwStr.go hG hW (fun _ _ _ => rfl)⟩⟩ rfl rfl hl.1 rfl (lv_room (Nat.le_of_ble_eq_true rfl)) dj_length_6 ⟨Nat.le_refl _, Nat.le_refl _⟩) ?_
  refine lv_ishr hx hb dj_length_9 ?_
  exact W.iret hx hb hr (fun t ht hW => ⟨by rw [sc_shr0 (jLe_lt i)], ht⟩) (fun q hq => by cases hq) dj_length_10
set_option maxRecDepth 20000 in
theorem j_pci {l : Launch} {ad : Nat → Nat → Nat} {A : Nat → Prop} (d : Nat) (x y : Int32) (fv : Value) (hf : fv = .null ∨ ∃ t, fv = .ref t) (h0 : ¬ x < 0) (h1 : x < y) : jMet l ad A (d + 1) yJ3_checkIndex_8e157 cJ3_checkIndex_8e157 3 (some .int) [.int x, .int y, fv] (some (.int x)) := by
  refine Met.ofW (cc := cJ3_checkIndex_8e157) (maxL := 3) (ret := (some .int)) (by decide) rfl ?_
  intro p e s m args below meth c s₁ B hml hv
  obtain ⟨rfl, hG⟩ := hv
  have hx := B.exec
  have hb := B.bytes
  have hr := B.returns
  have hts0 := atoms_spec (ws := jWs yJ3_checkIndex_8e157 cJ3_checkIndex_8e157 3 (some .int)) B.pre
  have hts : ∀ w ∈ hwTB, w.before _ s = true := fun w hw => hts0 w (List.mem_cons_of_mem _ hw)
  have hown : s.vm.findClass "jdk/internal/util/Preconditions" = some m.cls := findClass_of_methodNamed B.named
  have hlocks := B.notSynchronized
  have hl := lv_entry ([.int x, .int y, fv]) (n := 3) (by rcases hf with rfl | ⟨t, rfl⟩ <;> exact Nat.le_of_ble_eq_true rfl)
  rw [lg_entry_eq]
  generalize (lg_sl ([.int x, .int y, fv]) ++ List.replicate (3 - (lg_sl ([.int x, .int y, fv])).length) Slot.unset).toArray = ls at hl ⊢
  have hl : lv_has ls 3 [(0, .int x), (1, .int y), (2, fv)] := hl
  refine lv_iload_n hx hb dj_pci_0 rfl (lv_at hl 0 rfl) ?_
  refine lv_if_lt (tgt := 9) hx hb dj_pci_1 (by decide) (fun h => absurd h h0) (fun _ => ?_)
  refine lv_iload_n hx hb dj_pci_4 rfl (lv_at hl 0 rfl) ?_
  refine lv_iload_n hx hb dj_pci_5 rfl (lv_at hl 1 rfl) ?_
  refine lv_icmp_lt (tgt := 16) hx hb dj_pci_6 (by decide) (fun _ => ?_) (fun h => absurd h1 h)
  refine lv_iload_n hx hb dj_pci_16 rfl (lv_at hl 0 rfl) ?_
  exact W.iret hx hb hr (fun t ht hW => ⟨rfl, ht⟩) (fun q hq => by cases hq) dj_pci_17
set_option maxRecDepth 20000 in
theorem j_sci {l : Launch} {ad : Nat → Nat → Nat} {A : Nat → Prop} (d : Nat) (x y : Int32) (h0 : ¬ x < 0) (h1 : x < y) : jMet l ad A (d + 2) yJ0_checkIndex_df160 cJ0_checkIndex_df160 2 none [.int x, .int y] (none) := by
  refine Met.ofW (cc := cJ0_checkIndex_df160) (maxL := 2) (ret := none) (by decide) rfl ?_
  intro p e s m args below meth c s₁ B hml hv
  obtain ⟨rfl, hG⟩ := hv
  have hx := B.exec
  have hb := B.bytes
  have hr := B.returns
  have hts0 := atoms_spec (ws := jWs yJ0_checkIndex_df160 cJ0_checkIndex_df160 2 none) B.pre
  have hts : ∀ w ∈ hwTB, w.before _ s = true := fun w hw => hts0 w (List.mem_cons_of_mem _ hw)
  have hown : s.vm.findClass "java/lang/String" = some m.cls := findClass_of_methodNamed B.named
  have hlocks := B.notSynchronized
  have hl := lv_entry ([.int x, .int y]) (n := 2) (Nat.le_of_ble_eq_true rfl)
  rw [lg_entry_eq]
  generalize (lg_sl ([.int x, .int y]) ++ List.replicate (2 - (lg_sl ([.int x, .int y])).length) Slot.unset).toArray = ls at hl ⊢
  have hl : lv_has ls 2 [(0, .int x), (1, .int y)] := hl
  obtain ⟨fv, hf, hZ⟩ : ∃ fv : Value, (fv = .null ∨ ∃ t, fv = .ref t) ∧ va_Z "jdk/internal/util/Preconditions" "SIOOBE_FORMATTER" "Ljava/util/function/BiFunction;" fv A s s.heap := by
    rcases hG.2.2.2 with h | ⟨t, h⟩
    · exact ⟨.null, Or.inl rfl, h⟩
    · exact ⟨.ref t, Or.inr ⟨t, rfl⟩, h⟩
  refine lv_iload_n hx hb dj_sci_0 rfl (lv_at hl 0 rfl) ?_
  refine lv_iload_n hx hb dj_sci_1 rfl (lv_at hl 1 rfl) ?_
  refine va_gets hx hb hZ va_S.rf hown (hts (.fieldLink "java/lang/String" 1053 "jdk/internal/util/Preconditions" "SIOOBE_FORMATTER" "Ljava/util/function/BiFunction;") (hwWd_mem (d := 225) (w := _) (by decide +kernel))) (fun _ h => h) dj_sci_2 ?_
  refine j_call (va_runS (As := [.int x, .int y, fv]) (rest := []) ⟨hx, hb, hml, hown, hts⟩ (j_pci (l := l) (A := A) d x y fv hf h0 h1) (va_cwS 3 hts (j_good (List.forall_mem_append.mpr ⟨List.forall_mem_cons.mpr ⟨(hwWd_mem (d := 227) (w := (.methodLink "java/lang/String" 1059 yJ3_checkIndex_8e157)) (by decide +kernel)), List.forall_mem_cons.mpr ⟨jw_pci.2, List.forall_mem_cons.mpr ⟨jw_pci.1.2, fun _ h => absurd h List.not_mem_nil⟩⟩⟩, List.forall_mem_cons.mpr ⟨jw_pci.1.1, fun _ h => h⟩⟩)) rfl rfl rfl (by decide +kernel) ⟨Nat.le_refl _, by show 8 + (_ + 11) + 60 * _ ≤ 60 * _; omega⟩) ⟨j_blind, fun U hU hW => ⟨rfl, by show hwStr ad A U U.heap; rw [hU]; exact hwStr.go hG hW (fun _ _ _ => rfl)⟩⟩ rfl rfl hl.1 rfl (lv_room (Nat.le_of_ble_eq_true rfl)) dj_sci_5 ⟨Nat.le_refl _, Nat.le_refl _⟩) ?_
  refine lv_pop hx hb dj_sci_8 rfl ?_
  exact W.vret hx hb hr (fun t ht hW => ⟨rfl, ht⟩) (fun q hq => by cases hq) dj_sci_9
set_option maxRecDepth 20000 in
theorem j_lcharAt {l : Launch} {ad : Nat → Nat → Nat} {A : Nat → Prop} (d : Nat) (i : Nat) (hi : i < 3) (x : Int32) (h0 : ¬ x < 0) (h1 : x < nI (jLe.getD i 0)) (hin : vp_in x (jLe.getD i 0)) : jMet l ad A (d + 3) yJ1_charAt_3b067 cJ1_charAt_3b067 2 (some .char) [.ref (ad (220 + i) 0), .int x] (some (.int ((((jBy.getD i []).getD (x).toNatClampNeg 0) &&& 255).toUInt32 % 65536).toInt32)) := by
  refine Met.ofW (cc := cJ1_charAt_3b067) (maxL := 2) (ret := (some .char)) (by decide) rfl ?_
  intro p e s m args below meth c s₁ B hml hv
  obtain ⟨rfl, hG⟩ := hv
  have hx := B.exec
  have hb := B.bytes
  have hr := B.returns
  have hts0 := atoms_spec (ws := jWs yJ1_charAt_3b067 cJ1_charAt_3b067 2 (some .char)) B.pre
  have hts : ∀ w ∈ hwTB, w.before _ s = true := fun w hw => hts0 w (List.mem_cons_of_mem _ hw)
  have hown : s.vm.findClass "java/lang/StringLatin1" = some m.cls := findClass_of_methodNamed B.named
  have hlocks := B.notSynchronized
  have hl := lv_entry ([.ref (ad (220 + i) 0), .int x]) (n := 2) (Nat.le_of_ble_eq_true rfl)
  rw [lg_entry_eq]
  generalize (lg_sl ([.ref (ad (220 + i) 0), .int x]) ++ List.replicate (2 - (lg_sl ([.ref (ad (220 + i) 0), .int x])).length) Slot.unset).toArray = ls at hl ⊢
  have hl : lv_has ls 2 [(0, .ref (ad (220 + i) 0)), (1, .int x)] := hl
  refine lv_iload_n hx hb dj_lcharAt_0 rfl (lv_at hl 1 rfl) ?_
  refine lv_aload_n hx hb dj_lcharAt_1 rfl (lv_at hl 0 rfl) ?_
  refine va_tlen (v := nI (jLe.getD i 0)) hx hb (hG.1.1 i hi).2.2.2 va_S.rf rfl dj_lcharAt_2 ?_
  refine j_call (va_runS (As := [.int x, .int (nI (jLe.getD i 0))]) (rest := []) ⟨hx, hb, hml, hown, hts⟩ (j_sci (l := l) (A := A) d x (nI (jLe.getD i 0)) h0 h1) (va_cwS 2 hts (j_good (List.forall_mem_append.mpr ⟨List.forall_mem_cons.mpr ⟨(hwWd_mem (d := 222) (w := (.methodLink "java/lang/StringLatin1" 9 yJ0_checkIndex_df160)) (by decide +kernel)), List.forall_mem_cons.mpr ⟨jw_sci.2, List.forall_mem_cons.mpr ⟨jw_sci.1.2, fun _ h => absurd h List.not_mem_nil⟩⟩⟩, List.forall_mem_cons.mpr ⟨jw_sci.1.1, fun _ h => h⟩⟩)) rfl rfl rfl (by decide +kernel) ⟨Nat.le_refl _, by show 8 + (_ + 11) + 60 * _ ≤ 60 * _; omega⟩) ⟨j_blind, fun U hU hW => ⟨rfl, by show hwStr ad A U U.heap; rw [hU]; exact hwStr.go hG hW (fun _ _ _ => rfl)⟩⟩ rfl rfl hl.1 rfl (lv_room (Nat.le_of_ble_eq_true rfl)) dj_lcharAt_3 ⟨Nat.le_refl _, Nat.le_refl _⟩) ?_
  refine lv_aload_n hx hb dj_lcharAt_6 rfl (lv_at hl 0 rfl) ?_
  refine lv_iload_n hx hb dj_lcharAt_7 rfl (lv_at hl 1 rfl) ?_
  refine va_tb hx hb (hG.1.1 i hi).2.2.2 va_S.rf (hin) rfl dj_lcharAt_8 ?_
  refine lv_sipush (v := 255) hx hb dj_lcharAt_9 (by decide) ?_
  refine lv_iand hx hb dj_lcharAt_12 ?_
  refine lv_i2c (v := ((((jBy.getD i []).getD (x).toNatClampNeg 0) &&& 255).toUInt32 % 65536).toInt32) hx hb dj_lcharAt_13 rfl ?_
  exact W.zret (ty := .char) hx hb hr (pk_nc _) (fun t ht hW => ⟨rfl, ht⟩) (fun q hq => by cases hq) dj_lcharAt_14
set_option maxRecDepth 20000 in
theorem j_charAt {l : Launch} {ad : Nat → Nat → Nat} {A : Nat → Prop} (d : Nat) (i : Nat) (hi : i < 3) (x : Int32) (h0 : ¬ x < 0) (h1 : x < nI (jLe.getD i 0)) (hin : vp_in x (jLe.getD i 0)) : jMet l ad A (d + 4) yJ0_charAt_5068e cJ0_charAt_5068e 2 (some .char) [.ref (ad (210 + i) 0), .int x] (some (.int ((((jBy.getD i []).getD (x).toNatClampNeg 0) &&& 255).toUInt32 % 65536).toInt32)) := by
  refine Met.ofW (cc := cJ0_charAt_5068e) (maxL := 2) (ret := (some .char)) (by decide) rfl ?_
  intro p e s m args below meth c s₁ B hml hv
  obtain ⟨rfl, hG⟩ := hv
  have hx := B.exec
  have hb := B.bytes
  have hr := B.returns
  have hts0 := atoms_spec (ws := jWs yJ0_charAt_5068e cJ0_charAt_5068e 2 (some .char)) B.pre
  have hts : ∀ w ∈ hwTB, w.before _ s = true := fun w hw => hts0 w (List.mem_cons_of_mem _ hw)
  have hown : s.vm.findClass "java/lang/String" = some m.cls := findClass_of_methodNamed B.named
  have hlocks := B.notSynchronized
  have hl := lv_entry ([.ref (ad (210 + i) 0), .int x]) (n := 2) (Nat.le_of_ble_eq_true rfl)
  rw [lg_entry_eq]
  generalize (lg_sl ([.ref (ad (210 + i) 0), .int x]) ++ List.replicate (2 - (lg_sl ([.ref (ad (210 + i) 0), .int x])).length) Slot.unset).toArray = ls at hl ⊢
  have hl : lv_has ls 2 [(0, .ref (ad (210 + i) 0)), (1, .int x)] := hl
  refine lv_aload_n hx hb dj_charAt_0 rfl (lv_at hl 0 rfl) ?_
  refine j_call (va_runV (As := []) (rest := []) (C := "java/lang/String") ⟨hx, hb, hml, hown, hts⟩ (j_isLatin1 (l := l) (A := A) (d + 2) i hi) (cwV 0 hts (j_good (List.forall_mem_append.mpr ⟨List.forall_mem_cons.mpr ⟨(hwWd_mem (d := 215) (w := (.methodLink "java/lang/String" 492 yJ0_isLatin1_aae02)) (by decide +kernel)), List.forall_mem_cons.mpr ⟨jw_isLatin1.2.1, List.forall_mem_cons.mpr ⟨jw_isLatin1.2.2, List.forall_mem_cons.mpr ⟨jw_isLatin1.1.2, fun _ h => absurd h List.not_mem_nil⟩⟩⟩⟩, List.forall_mem_cons.mpr ⟨jw_isLatin1.1.1, fun _ h => h⟩⟩)) rfl rfl rfl (by decide +kernel) ⟨Nat.le_refl _, by show 8 + (_ + 11) + 60 * _ ≤ 60 * _; omega⟩) ⟨j_blind, vk_recv hG.1 hi va_S.rf, fun U hU hW => ⟨rfl, by show hwStr ad A U U.heap; rw [hU]; exact hwStr.go hG hW (fun _ _ _ => rfl)⟩⟩ rfl rfl hl.1 rfl (lv_room (Nat.le_of_ble_eq_true rfl)) dj_charAt_1 ⟨Nat.le_refl _, Nat.le_refl _⟩) ?_
  refine lv_if_eq (tgt := 16) hx hb dj_charAt_4 (by decide) (fun h => absurd h (by decide)) (fun _ => ?_)
  refine lv_aload_n hx hb dj_charAt_7 rfl (lv_at hl 0 rfl) ?_
  refine vk_getf hx hb (hG.1.1 i hi).2.2.1 va_S.rf hown (hts (.fieldLink "java/lang/String" 9 "java/lang/String" "value" "[B") (hwWd_mem (d := 1823) (w := _) (by decide +kernel))) (fun _ h => h) dj_charAt_8 ?_
  refine lv_iload_n hx hb dj_charAt_11 rfl (lv_at hl 1 rfl) ?_
  refine j_call (va_runS (As := [.ref (ad (220 + i) 0), .int x]) (rest := []) ⟨hx, hb, hml, hown, hts⟩ (j_lcharAt (l := l) (A := A) d i hi x h0 h1 hin) (va_cwS 2 hts (j_good (List.forall_mem_append.mpr ⟨List.forall_mem_cons.mpr ⟨(hwWd_mem (d := 219) (w := (.methodLink "java/lang/String" 495 yJ1_charAt_3b067)) (by decide +kernel)), List.forall_mem_cons.mpr ⟨jw_lcharAt.2, List.forall_mem_cons.mpr ⟨jw_lcharAt.1.2, fun _ h => absurd h List.not_mem_nil⟩⟩⟩, List.forall_mem_cons.mpr ⟨jw_lcharAt.1.1, fun _ h => h⟩⟩)) rfl rfl rfl (by decide +kernel) ⟨Nat.le_refl _, by show 8 + (_ + 11) + 60 * _ ≤ 60 * _; omega⟩) ⟨j_blind, fun U hU hW => ⟨rfl, by show hwStr ad A U U.heap; rw [hU]; exact hwStr.go hG hW (fun _ _ _ => rfl)⟩⟩ rfl rfl hl.1 rfl (lv_room (Nat.le_of_ble_eq_true rfl)) dj_charAt_12 ⟨Nat.le_refl _, Nat.le_refl _⟩) ?_
  exact W.zret (ty := .char) hx hb hr (pk_nc _) (fun t ht hW => ⟨rfl, ht⟩) (fun q hq => by cases hq) dj_charAt_15
set_option maxRecDepth 20000 in
theorem j_canY {l : Launch} {ad : Nat → Nat → Nat} {A : Nat → Prop} (d : Nat) (x : Int32) (h0 : ¬ x < 0) (h1 : ¬ 255 < x) : jMet l ad A (d + 1) yJ1_canEncode_9a6ad cJ1_canEncode_9a6ad 1 (some .boolean) [.int x] (some (.int 1)) := by
  refine Met.ofW (cc := cJ1_canEncode_9a6ad) (maxL := 1) (ret := (some .boolean)) (by decide) rfl ?_
  intro p e s m args below meth c s₁ B hml hv
  obtain ⟨rfl, hG⟩ := hv
  have hx := B.exec
  have hb := B.bytes
  have hr := B.returns
  have hts0 := atoms_spec (ws := jWs yJ1_canEncode_9a6ad cJ1_canEncode_9a6ad 1 (some .boolean)) B.pre
  have hts : ∀ w ∈ hwTB, w.before _ s = true := fun w hw => hts0 w (List.mem_cons_of_mem _ hw)
  have hown : s.vm.findClass "java/lang/StringLatin1" = some m.cls := findClass_of_methodNamed B.named
  have hlocks := B.notSynchronized
  have hl := lv_entry ([.int x]) (n := 1) (Nat.le_of_ble_eq_true rfl)
  rw [lg_entry_eq]
  generalize (lg_sl ([.int x]) ++ List.replicate (1 - (lg_sl ([.int x])).length) Slot.unset).toArray = ls at hl ⊢
  have hl : lv_has ls 1 [(0, .int x)] := hl
  refine lv_iload_n hx hb dj_canEncode_0 rfl (lv_at hl 0 rfl) ?_
  refine lv_if_lt (tgt := 15) hx hb dj_canEncode_1 (by decide) (fun h => absurd h h0) (fun _ => ?_)
  refine lv_iload_n hx hb dj_canEncode_4 rfl (lv_at hl 0 rfl) ?_
  refine lv_sipush (v := 255) hx hb dj_canEncode_5 (by decide) ?_
  refine lv_icmp_gt (tgt := 15) hx hb dj_canEncode_8 (by decide) (fun h => absurd h h1) (fun _ => ?_)
  refine lv_iconst (v := 1) hx hb dj_canEncode_11 (by decide) ?_
  refine lv_goto (tgt := 16) hx hb dj_canEncode_12 (by decide) ?_
  exact W.zret (ty := .boolean) hx hb hr (rfl) (fun t ht hW => ⟨rfl, ht⟩) (fun q hq => by cases hq) dj_canEncode_16
set_option maxRecDepth 20000 in
theorem j_canA {l : Launch} {ad : Nat → Nat → Nat} {A : Nat → Prop} (d : Nat) (x : Int32) (h0 : x < 0) : jMet l ad A (d + 1) yJ1_canEncode_9a6ad cJ1_canEncode_9a6ad 1 (some .boolean) [.int x] (some (.int 0)) := by
  refine Met.ofW (cc := cJ1_canEncode_9a6ad) (maxL := 1) (ret := (some .boolean)) (by decide) rfl ?_
  intro p e s m args below meth c s₁ B hml hv
  obtain ⟨rfl, hG⟩ := hv
  have hx := B.exec
  have hb := B.bytes
  have hr := B.returns
  have hts0 := atoms_spec (ws := jWs yJ1_canEncode_9a6ad cJ1_canEncode_9a6ad 1 (some .boolean)) B.pre
  have hts : ∀ w ∈ hwTB, w.before _ s = true := fun w hw => hts0 w (List.mem_cons_of_mem _ hw)
  have hown : s.vm.findClass "java/lang/StringLatin1" = some m.cls := findClass_of_methodNamed B.named
  have hlocks := B.notSynchronized
  have hl := lv_entry ([.int x]) (n := 1) (Nat.le_of_ble_eq_true rfl)
  rw [lg_entry_eq]
  generalize (lg_sl ([.int x]) ++ List.replicate (1 - (lg_sl ([.int x])).length) Slot.unset).toArray = ls at hl ⊢
  have hl : lv_has ls 1 [(0, .int x)] := hl
  refine lv_iload_n hx hb dj_canEncode_0 rfl (lv_at hl 0 rfl) ?_
  refine lv_if_lt (tgt := 15) hx hb dj_canEncode_1 (by decide) (fun _ => ?_) (fun h => absurd h0 h)
  refine lv_iconst (v := 0) hx hb dj_canEncode_15 (by decide) ?_
  exact W.zret (ty := .boolean) hx hb hr (rfl) (fun t ht hW => ⟨rfl, ht⟩) (fun q hq => by cases hq) dj_canEncode_16
set_option maxRecDepth 20000 in
theorem j_canB {l : Launch} {ad : Nat → Nat → Nat} {A : Nat → Prop} (d : Nat) (x : Int32) (h0 : ¬ x < 0) (h1 : 255 < x) : jMet l ad A (d + 1) yJ1_canEncode_9a6ad cJ1_canEncode_9a6ad 1 (some .boolean) [.int x] (some (.int 0)) := by
  refine Met.ofW (cc := cJ1_canEncode_9a6ad) (maxL := 1) (ret := (some .boolean)) (by decide) rfl ?_
  intro p e s m args below meth c s₁ B hml hv
  obtain ⟨rfl, hG⟩ := hv
  have hx := B.exec
  have hb := B.bytes
  have hr := B.returns
  have hts0 := atoms_spec (ws := jWs yJ1_canEncode_9a6ad cJ1_canEncode_9a6ad 1 (some .boolean)) B.pre
  have hts : ∀ w ∈ hwTB, w.before _ s = true := fun w hw => hts0 w (List.mem_cons_of_mem _ hw)
  have hown : s.vm.findClass "java/lang/StringLatin1" = some m.cls := findClass_of_methodNamed B.named
  have hlocks := B.notSynchronized
  have hl := lv_entry ([.int x]) (n := 1) (Nat.le_of_ble_eq_true rfl)
  rw [lg_entry_eq]
  generalize (lg_sl ([.int x]) ++ List.replicate (1 - (lg_sl ([.int x])).length) Slot.unset).toArray = ls at hl ⊢
  have hl : lv_has ls 1 [(0, .int x)] := hl
  refine lv_iload_n hx hb dj_canEncode_0 rfl (lv_at hl 0 rfl) ?_
  refine lv_if_lt (tgt := 15) hx hb dj_canEncode_1 (by decide) (fun h => absurd h h0) (fun _ => ?_)
  refine lv_iload_n hx hb dj_canEncode_4 rfl (lv_at hl 0 rfl) ?_
  refine lv_sipush (v := 255) hx hb dj_canEncode_5 (by decide) ?_
  refine lv_icmp_gt (tgt := 15) hx hb dj_canEncode_8 (by decide) (fun _ => ?_) (fun h => absurd h1 h)
  refine lv_iconst (v := 0) hx hb dj_canEncode_15 (by decide) ?_
  exact W.zret (ty := .boolean) hx hb hr (rfl) (fun t ht hW => ⟨rfl, ht⟩) (fun q hq => by cases hq) dj_canEncode_16
def jIxF (b : Int32) : List Int32 → Nat → Int32
  | [], _ => -1
  | a :: l, k => if a = b then nI k else jIxF b l (k + 1)
theorem jBy_len (i : Nat) (hi : i < 3) : jLe.getD i 0 = (jBy.getD i []).length := by
  match i, hi with
  | 0, _ => decide +kernel
  | 1, _ => decide +kernel
  | 2, _ => decide +kernel
set_option maxRecDepth 20000 in
theorem j_ixChar {l : Launch} {ad : Nat → Nat → Nat} {A : Nat → Prop} (d : Nat) (i : Nat) (hi : i < 3) (x : Int32) : jMet l ad A (d + 1) yJ1_indexOfChar_4cfef cJ1_indexOfChar_4cfef 6 (some .int) [.ref (ad (220 + i) 0), .int x, .int 0, .int (nI (jLe.getD i 0))] (some (.int (jIxF (x.toInt8.toInt32) (jBy.getD i []) 0))) := by
  refine Met.ofW (cc := cJ1_indexOfChar_4cfef) (maxL := 6) (ret := (some .int)) (by decide) rfl ?_
  intro p e s m args below meth c s₁ B hml hv
  obtain ⟨rfl, hG⟩ := hv
  have hx := B.exec
  have hb := B.bytes
  have hr := B.returns
  have hts0 := atoms_spec (ws := jWs yJ1_indexOfChar_4cfef cJ1_indexOfChar_4cfef 6 (some .int)) B.pre
  have hts : ∀ w ∈ hwTB, w.before _ s = true := fun w hw => hts0 w (List.mem_cons_of_mem _ hw)
  have hown : s.vm.findClass "java/lang/StringLatin1" = some m.cls := findClass_of_methodNamed B.named
  have hlocks := B.notSynchronized
  have hl := lv_entry ([.ref (ad (220 + i) 0), .int x, .int 0, .int (nI (jLe.getD i 0))]) (n := 6) (Nat.le_of_ble_eq_true rfl)
  rw [lg_entry_eq]
  generalize (lg_sl ([.ref (ad (220 + i) 0), .int x, .int 0, .int (nI (jLe.getD i 0))]) ++ List.replicate (6 - (lg_sl ([.ref (ad (220 + i) 0), .int x, .int 0, .int (nI (jLe.getD i 0))])).length) Slot.unset).toArray = ls at hl ⊢
  have hl : lv_has ls 6 [(0, .ref (ad (220 + i) 0)), (1, .int x), (2, .int 0), (3, .int (nI (jLe.getD i 0)))] := hl
  have hLn := jBy_len i hi
  have hLt := jLe_lt i
  generalize hRR : jIxF (x.toInt8.toInt32) (jBy.getD i []) 0 = RR
  have loop : ∀ (lst : List Int32) (k : Nat) (ls : Array Slot), (jBy.getD i []).drop k = lst → k ≤ jLe.getD i 0 → jIxF (x.toInt8.toInt32) lst k = RR → lv_has ls 6 [(5, .int (nI k)), (4, .int (x).toInt8.toInt32), (0, .ref (ad (220 + i) 0)), (1, .int x), (2, .int 0), (3, .int (nI (jLe.getD i 0)))] → W p l e (headSpec (jWs yJ1_indexOfChar_4cfef cJ1_indexOfChar_4cfef 6 (some .int)) (jRm (d + 1))).room s m ([.ref (ad (220 + i) 0), .int x, .int 0, .int (nI (jLe.getD i 0))] : List Value).toArray below meth c s.heap [] 0 0 (MQ below (jQ (some (.int RR))) ([.ref (ad (220 + i) 0), .int x, .int 0, .int (nI (jLe.getD i 0))] : List Value).toArray s 0 0 (fun _ => False)) (F0 m 7 ls []) := by
    intro lst
    induction lst with
    | nil =>
      intro k ls hdr hk hR hl
      have hke : (jBy.getD i []).length ≤ k := List.drop_eq_nil_iff.mp hdr
      have hge : nI (jLe.getD i 0) ≤ nI k := nI_le (by omega) (by omega)
      have hR : (-1 : Int32) = RR := hR
      refine lv_iload hx hb dj_ixChar_7 (lv_at hl 0 rfl) ?_
      refine lv_iload_n hx hb dj_ixChar_9 rfl (lv_at hl 5 rfl) ?_
      refine lv_icmp_ge (tgt := 31) hx hb dj_ixChar_10 (by decide) (fun _ => ?_) (fun h => absurd hge h)
      refine lv_iconst (v := -1) hx hb dj_ixChar_31 (by decide) ?_
      exact W.iret hx hb hr (fun t ht hW => ⟨hR ▸ rfl, ht⟩) (fun q hq => by cases hq) dj_ixChar_32
    | cons b lst ih =>
      intro k ls hdr hk hR hl
      obtain ⟨h1, h2, h3, h4⟩ := sc_dropC hdr
      have hge : ¬ nI (jLe.getD i 0) ≤ nI k := nI_ge (by omega) (by omega)
      have hin : vp_in (nI k) (jLe.getD i 0) := vp_in_nI (by omega) (by omega)
      have hbv : (jBy.getD i []).getD (nI k).toNatClampNeg 0 = b := by rw [nI_clamp (by omega)]; exact h2
      by_cases hbc : b = x.toInt8.toInt32
      · have hR : nI k = RR := by rw [← hR, jIxF, if_pos hbc]
        have hne : (jBy.getD i []).getD (nI k).toNatClampNeg 0 = x.toInt8.toInt32 := by rw [hbv]; exact hbc
        refine lv_iload hx hb dj_ixChar_7 (lv_at hl 0 rfl) ?_
        refine lv_iload_n hx hb dj_ixChar_9 rfl (lv_at hl 5 rfl) ?_
        refine lv_icmp_ge (tgt := 31) hx hb dj_ixChar_10 (by decide) (fun h => absurd h hge) (fun _ => ?_)
        refine lv_aload_n hx hb dj_ixChar_13 rfl (lv_at hl 2 rfl) ?_
        refine lv_iload hx hb dj_ixChar_14 (lv_at hl 0 rfl) ?_
        refine va_tb hx hb (hG.1.1 i hi).2.2.2 va_S.rf (hin) rfl dj_ixChar_16 ?_
        refine lv_iload hx hb dj_ixChar_17 (lv_at hl 1 rfl) ?_
        refine lv_icmp_ne (tgt := 25) hx hb dj_ixChar_19 (by decide) (fun h => absurd hne h) (fun _ => ?_)
        refine lv_iload hx hb dj_ixChar_22 (lv_at hl 0 rfl) ?_
        exact W.iret hx hb hr (fun t ht hW => ⟨hR ▸ rfl, ht⟩) (fun q hq => by cases hq) dj_ixChar_24
      · have hR : jIxF (x.toInt8.toInt32) lst (k + 1) = RR := by rw [← hR, jIxF, if_neg hbc]
        have hne : ¬ (jBy.getD i []).getD (nI k).toNatClampNeg 0 = x.toInt8.toInt32 := by rw [hbv]; exact hbc
        refine lv_iload hx hb dj_ixChar_7 (lv_at hl 0 rfl) ?_
        refine lv_iload_n hx hb dj_ixChar_9 rfl (lv_at hl 5 rfl) ?_
        refine lv_icmp_ge (tgt := 31) hx hb dj_ixChar_10 (by decide) (fun h => absurd h hge) (fun _ => ?_)
        refine lv_aload_n hx hb dj_ixChar_13 rfl (lv_at hl 2 rfl) ?_
        refine lv_iload hx hb dj_ixChar_14 (lv_at hl 0 rfl) ?_
        refine va_tb hx hb (hG.1.1 i hi).2.2.2 va_S.rf (hin) rfl dj_ixChar_16 ?_
        refine lv_iload hx hb dj_ixChar_17 (lv_at hl 1 rfl) ?_
        refine lv_icmp_ne (tgt := 25) hx hb dj_ixChar_19 (by decide) (fun _ => ?_) (fun h => absurd h hne)
        refine lv_iinc (k := 0) (v := nI (k + 1)) (lv' := [(5, .int (nI (k + 1))), (4, .int (x).toInt8.toInt32), (0, .ref (ad (220 + i) 0)), (1, .int x), (2, .int 0), (3, .int (nI (jLe.getD i 0)))]) hx hb dj_ixChar_25 hl rfl (nI_1 k) (by decide) rfl (fun ls hl => ?_)
        refine lv_goto (tgt := 7) hx hb dj_ixChar_28 (by decide) ?_
        exact ih (k + 1) ls h3 (by omega) hR (lv_sub hl [0, 1, 2, 3, 4, 5] rfl)
  refine lv_iload_n hx hb dj_ixChar_0 rfl (lv_at hl 1 rfl) ?_
  refine lv_i2b (v := (x).toInt8.toInt32) hx hb dj_ixChar_1 rfl ?_
  refine lv_istore (lv' := [(4, .int (x).toInt8.toInt32), (0, .ref (ad (220 + i) 0)), (1, .int x), (2, .int 0), (3, .int (nI (jLe.getD i 0)))]) hx hb dj_ixChar_2 hl (by decide) rfl (fun ls hl => ?_)
  refine lv_iload_n hx hb dj_ixChar_4 rfl (lv_at hl 3 rfl) ?_
  refine lv_istore (lv' := [(5, .int 0), (4, .int (x).toInt8.toInt32), (0, .ref (ad (220 + i) 0)), (1, .int x), (2, .int 0), (3, .int (nI (jLe.getD i 0)))]) hx hb dj_ixChar_5 hl (by decide) rfl (fun ls hl => ?_)
  exact loop _ 0 ls rfl (Nat.zero_le _) hRR (lv_sub hl [0, 1, 2, 3, 4, 5] rfl)
set_option maxRecDepth 20000 in
theorem j_lixY {l : Launch} {ad : Nat → Nat → Nat} {A : Nat → Prop} (d : Nat) (i : Nat) (hi : i < 3) (x : Int32) (h0 : ¬ x < 0) (h1 : ¬ 255 < x) (hlt : (0 : Int32) < nI (jLe.getD i 0)) : jMet l ad A (d + 3) yJ1_indexOf_4cfef cJ1_indexOf_4cfef 4 (some .int) [.ref (ad (220 + i) 0), .int x, .int 0, .int (nI (jLe.getD i 0))] (some (.int (jIxF (x.toInt8.toInt32) (jBy.getD i []) 0))) := by
  refine Met.ofW (cc := cJ1_indexOf_4cfef) (maxL := 4) (ret := (some .int)) (by decide) rfl ?_
  intro p e s m args below meth c s₁ B hml hv
  obtain ⟨rfl, hG⟩ := hv
  have hx := B.exec
  have hb := B.bytes
  have hr := B.returns
  have hts0 := atoms_spec (ws := jWs yJ1_indexOf_4cfef cJ1_indexOf_4cfef 4 (some .int)) B.pre
  have hts : ∀ w ∈ hwTB, w.before _ s = true := fun w hw => hts0 w (List.mem_cons_of_mem _ hw)
  have hown : s.vm.findClass "java/lang/StringLatin1" = some m.cls := findClass_of_methodNamed B.named
  have hlocks := B.notSynchronized
  have hl := lv_entry ([.ref (ad (220 + i) 0), .int x, .int 0, .int (nI (jLe.getD i 0))]) (n := 4) (Nat.le_of_ble_eq_true rfl)
  rw [lg_entry_eq]
  generalize (lg_sl ([.ref (ad (220 + i) 0), .int x, .int 0, .int (nI (jLe.getD i 0))]) ++ List.replicate (4 - (lg_sl ([.ref (ad (220 + i) 0), .int x, .int 0, .int (nI (jLe.getD i 0))])).length) Slot.unset).toArray = ls at hl ⊢
  have hl : lv_has ls 4 [(0, .ref (ad (220 + i) 0)), (1, .int x), (2, .int 0), (3, .int (nI (jLe.getD i 0)))] := hl
  have hR : 1 ≤ (headSpec (jWs yJ1_indexOf_4cfef cJ1_indexOf_4cfef 4 (some .int)) (jRm (d + 3))).room.frames ∧ 0 + 13 ≤ (headSpec (jWs yJ1_indexOf_4cfef cJ1_indexOf_4cfef 4 (some .int)) (jRm (d + 3))).room.locals := ⟨by show 1 ≤ d + 3; omega, by show 0 + 13 ≤ 60 * (d + 3); omega⟩
  refine lv_iload_n hx hb dj_lindexOf_0 rfl (lv_at hl 1 rfl) ?_
  refine j_call (va_runS (As := [.int x]) (rest := []) ⟨hx, hb, hml, hown, hts⟩ (j_canY (l := l) (A := A) (d + 1) x h0 h1) (va_cwS 1 hts (j_good (List.forall_mem_append.mpr ⟨List.forall_mem_cons.mpr ⟨(hwWd_mem (d := 344) (w := (.methodLink "java/lang/StringLatin1" 88 yJ1_canEncode_9a6ad)) (by decide +kernel)), List.forall_mem_cons.mpr ⟨jw_canEncode.2, List.forall_mem_cons.mpr ⟨jw_canEncode.1.2, fun _ h => absurd h List.not_mem_nil⟩⟩⟩, List.forall_mem_cons.mpr ⟨jw_canEncode.1.1, fun _ h => h⟩⟩)) rfl rfl rfl (by decide +kernel) ⟨Nat.le_refl _, by show 8 + (_ + 11) + 60 * _ ≤ 60 * _; omega⟩) ⟨j_blind, fun U hU hW => ⟨rfl, by show hwStr ad A U U.heap; rw [hU]; exact hwStr.go hG hW (fun _ _ _ => rfl)⟩⟩ rfl rfl hl.1 rfl (lv_room (Nat.le_of_ble_eq_true rfl)) dj_lindexOf_1 ⟨Nat.le_refl _, Nat.le_refl _⟩) ?_
  refine lv_if_ne (tgt := 9) hx hb dj_lindexOf_4 (by decide) (fun _ => ?_) (fun h => absurd h (by decide))
  refine lv_iload_n hx hb dj_lindexOf_9 rfl (lv_at hl 2 rfl) ?_
  refine lv_iconst (v := 0) hx hb dj_lindexOf_10 (by decide) ?_
  refine va_mmax hx hb (hml.trans hl.1.symm) hown (hts (.methodLink "java/lang/StringLatin1" 92 Lib.Math.max.name) (hwWd_mem (d := 347) (w := _) (by decide +kernel))) (hts _ (hwWd_mem (d := 348) (w := (.static Lib.Math.max.name)) (by decide +kernel))) (hts _ (hwWd_mem (d := 82) (w := (.initialized "java/lang/Math")) (by decide +kernel))) (hts _ (hwWd_mem (d := 349) (w := (.code Lib.Math.max.name Lib.Math.max.code 2 (some .int))) (by decide +kernel))) hR.1 (by exact hR.2) (Nat.zero_le _) (Nat.zero_le _) dj_lindexOf_11 ?_
  rw [if_neg (show ¬ (0 : Int32) < 0 by decide)]
  refine lv_istore_n (lv' := [(2, .int 0), (0, .ref (ad (220 + i) 0)), (1, .int x), (3, .int (nI (jLe.getD i 0)))]) hx hb dj_lindexOf_14 rfl hl (by decide) rfl (fun ls hl => ?_)
  refine lv_iload_n hx hb dj_lindexOf_15 rfl (lv_at hl 3 rfl) ?_
  refine lv_aload_n hx hb dj_lindexOf_16 rfl (lv_at hl 1 rfl) ?_
  refine va_tlen (v := nI (jLe.getD i 0)) hx hb (hG.1.1 i hi).2.2.2 va_S.rf rfl dj_lindexOf_17 ?_
  refine va_mmin hx hb (hml.trans hl.1.symm) hown (hts (.methodLink "java/lang/StringLatin1" 38 Lib.Math.min.name) (hwWd_mem (d := 350) (w := _) (by decide +kernel))) (hts _ (hwWd_mem (d := 351) (w := (.static Lib.Math.min.name)) (by decide +kernel))) (hts _ (hwWd_mem (d := 82) (w := (.initialized "java/lang/Math")) (by decide +kernel))) (hts _ (hwWd_mem (d := 352) (w := (.code Lib.Math.min.name Lib.Math.min.code 2 (some .int))) (by decide +kernel))) hR.1 (by exact hR.2) (Nat.zero_le _) (Nat.zero_le _) dj_lindexOf_18 ?_
  rw [if_neg (show ¬ nI (jLe.getD i 0) < nI (jLe.getD i 0) from fun z => Int32.lt_irrefl z)]
  refine lv_istore_n (lv' := [(3, .int (nI (jLe.getD i 0))), (2, .int 0), (0, .ref (ad (220 + i) 0)), (1, .int x)]) hx hb dj_lindexOf_21 rfl hl (by decide) rfl (fun ls hl => ?_)
  refine lv_iload_n hx hb dj_lindexOf_22 rfl (lv_at hl 1 rfl) ?_
  refine lv_iload_n hx hb dj_lindexOf_23 rfl (lv_at hl 0 rfl) ?_
  refine lv_icmp_lt (tgt := 29) hx hb dj_lindexOf_24 (by decide) (fun _ => ?_) (fun h => absurd hlt h)
  refine lv_aload_n hx hb dj_lindexOf_29 rfl (lv_at hl 2 rfl) ?_
  refine lv_iload_n hx hb dj_lindexOf_30 rfl (lv_at hl 3 rfl) ?_
  refine lv_iload_n hx hb dj_lindexOf_31 rfl (lv_at hl 1 rfl) ?_
  refine lv_iload_n hx hb dj_lindexOf_32 rfl (lv_at hl 0 rfl) ?_
  refine j_call (va_runS (As := [.ref (ad (220 + i) 0), .int x, .int 0, .int (nI (jLe.getD i 0))]) (rest := []) ⟨hx, hb, hml, hown, hts⟩ (j_ixChar (l := l) (A := A) (d + 1) i hi x) (va_cwS 4 hts (j_good (List.forall_mem_append.mpr ⟨List.forall_mem_cons.mpr ⟨(hwWd_mem (d := 353) (w := (.methodLink "java/lang/StringLatin1" 95 yJ1_indexOfChar_4cfef)) (by decide +kernel)), List.forall_mem_cons.mpr ⟨jw_ixChar.2, List.forall_mem_cons.mpr ⟨jw_ixChar.1.2, fun _ h => absurd h List.not_mem_nil⟩⟩⟩, List.forall_mem_cons.mpr ⟨jw_ixChar.1.1, fun _ h => h⟩⟩)) rfl rfl rfl (by decide +kernel) ⟨Nat.le_refl _, by show 8 + (_ + 11) + 60 * _ ≤ 60 * _; omega⟩) ⟨j_blind, fun U hU hW => ⟨rfl, by show hwStr ad A U U.heap; rw [hU]; exact hwStr.go hG hW (fun _ _ _ => rfl)⟩⟩ rfl rfl hl.1 rfl (lv_room (Nat.le_of_ble_eq_true rfl)) dj_lindexOf_33 ⟨Nat.le_refl _, Nat.le_refl _⟩) ?_
  exact W.iret hx hb hr (fun t ht hW => ⟨rfl, ht⟩) (fun q hq => by cases hq) dj_lindexOf_36
set_option maxRecDepth 20000 in
theorem j_lixA {l : Launch} {ad : Nat → Nat → Nat} {A : Nat → Prop} (d : Nat) (i : Nat) (hi : i < 3) (x : Int32) (h0 : x < 0) : jMet l ad A (d + 3) yJ1_indexOf_4cfef cJ1_indexOf_4cfef 4 (some .int) [.ref (ad (220 + i) 0), .int x, .int 0, .int (nI (jLe.getD i 0))] (some (.int (-1))) := by
  refine Met.ofW (cc := cJ1_indexOf_4cfef) (maxL := 4) (ret := (some .int)) (by decide) rfl ?_
  intro p e s m args below meth c s₁ B hml hv
  obtain ⟨rfl, hG⟩ := hv
  have hx := B.exec
  have hb := B.bytes
  have hr := B.returns
  have hts0 := atoms_spec (ws := jWs yJ1_indexOf_4cfef cJ1_indexOf_4cfef 4 (some .int)) B.pre
  have hts : ∀ w ∈ hwTB, w.before _ s = true := fun w hw => hts0 w (List.mem_cons_of_mem _ hw)
  have hown : s.vm.findClass "java/lang/StringLatin1" = some m.cls := findClass_of_methodNamed B.named
  have hlocks := B.notSynchronized
  have hl := lv_entry ([.ref (ad (220 + i) 0), .int x, .int 0, .int (nI (jLe.getD i 0))]) (n := 4) (Nat.le_of_ble_eq_true rfl)
  rw [lg_entry_eq]
  generalize (lg_sl ([.ref (ad (220 + i) 0), .int x, .int 0, .int (nI (jLe.getD i 0))]) ++ List.replicate (4 - (lg_sl ([.ref (ad (220 + i) 0), .int x, .int 0, .int (nI (jLe.getD i 0))])).length) Slot.unset).toArray = ls at hl ⊢
  have hl : lv_has ls 4 [(0, .ref (ad (220 + i) 0)), (1, .int x), (2, .int 0), (3, .int (nI (jLe.getD i 0)))] := hl
  refine lv_iload_n hx hb dj_lindexOf_0 rfl (lv_at hl 1 rfl) ?_
  refine j_call (va_runS (As := [.int x]) (rest := []) ⟨hx, hb, hml, hown, hts⟩ (j_canA (l := l) (A := A) (d + 1) x h0) (va_cwS 1 hts (j_good (List.forall_mem_append.mpr ⟨List.forall_mem_cons.mpr ⟨(hwWd_mem (d := 344) (w := (.methodLink "java/lang/StringLatin1" 88 yJ1_canEncode_9a6ad)) (by decide +kernel)), List.forall_mem_cons.mpr ⟨jw_canEncode.2, List.forall_mem_cons.mpr ⟨jw_canEncode.1.2, fun _ h => absurd h List.not_mem_nil⟩⟩⟩, List.forall_mem_cons.mpr ⟨jw_canEncode.1.1, fun _ h => h⟩⟩)) rfl rfl rfl (by decide +kernel) ⟨Nat.le_refl _, by show 8 + (_ + 11) + 60 * _ ≤ 60 * _; omega⟩) ⟨j_blind, fun U hU hW => ⟨rfl, by show hwStr ad A U U.heap; rw [hU]; exact hwStr.go hG hW (fun _ _ _ => rfl)⟩⟩ rfl rfl hl.1 rfl (lv_room (Nat.le_of_ble_eq_true rfl)) dj_lindexOf_1 ⟨Nat.le_refl _, Nat.le_refl _⟩) ?_
  refine lv_if_ne (tgt := 9) hx hb dj_lindexOf_4 (by decide) (fun h => absurd (rfl : (0 : Int32) = 0) h) (fun _ => ?_)
  refine lv_iconst (v := -1) hx hb dj_lindexOf_7 (by decide) ?_
  exact W.iret hx hb hr (fun t ht hW => ⟨rfl, ht⟩) (fun q hq => by cases hq) dj_lindexOf_8
set_option maxRecDepth 20000 in
theorem j_lixB {l : Launch} {ad : Nat → Nat → Nat} {A : Nat → Prop} (d : Nat) (i : Nat) (hi : i < 3) (x : Int32) (h0 : ¬ x < 0) (h1 : 255 < x) : jMet l ad A (d + 3) yJ1_indexOf_4cfef cJ1_indexOf_4cfef 4 (some .int) [.ref (ad (220 + i) 0), .int x, .int 0, .int (nI (jLe.getD i 0))] (some (.int (-1))) := by
  refine Met.ofW (cc := cJ1_indexOf_4cfef) (maxL := 4) (ret := (some .int)) (by decide) rfl ?_
  intro p e s m args below meth c s₁ B hml hv
  obtain ⟨rfl, hG⟩ := hv
  have hx := B.exec
  have hb := B.bytes
  have hr := B.returns
  have hts0 := atoms_spec (ws := jWs yJ1_indexOf_4cfef cJ1_indexOf_4cfef 4 (some .int)) B.pre
  have hts : ∀ w ∈ hwTB, w.before _ s = true := fun w hw => hts0 w (List.mem_cons_of_mem _ hw)
  have hown : s.vm.findClass "java/lang/StringLatin1" = some m.cls := findClass_of_methodNamed B.named
  have hlocks := B.notSynchronized
  have hl := lv_entry ([.ref (ad (220 + i) 0), .int x, .int 0, .int (nI (jLe.getD i 0))]) (n := 4) (Nat.le_of_ble_eq_true rfl)
  rw [lg_entry_eq]
  generalize (lg_sl ([.ref (ad (220 + i) 0), .int x, .int 0, .int (nI (jLe.getD i 0))]) ++ List.replicate (4 - (lg_sl ([.ref (ad (220 + i) 0), .int x, .int 0, .int (nI (jLe.getD i 0))])).length) Slot.unset).toArray = ls at hl ⊢
  have hl : lv_has ls 4 [(0, .ref (ad (220 + i) 0)), (1, .int x), (2, .int 0), (3, .int (nI (jLe.getD i 0)))] := hl
  refine lv_iload_n hx hb dj_lindexOf_0 rfl (lv_at hl 1 rfl) ?_
  refine j_call (va_runS (As := [.int x]) (rest := []) ⟨hx, hb, hml, hown, hts⟩ (j_canB (l := l) (A := A) (d + 1) x h0 h1) (va_cwS 1 hts (j_good (List.forall_mem_append.mpr ⟨List.forall_mem_cons.mpr ⟨(hwWd_mem (d := 344) (w := (.methodLink "java/lang/StringLatin1" 88 yJ1_canEncode_9a6ad)) (by decide +kernel)), List.forall_mem_cons.mpr ⟨jw_canEncode.2, List.forall_mem_cons.mpr ⟨jw_canEncode.1.2, fun _ h => absurd h List.not_mem_nil⟩⟩⟩, List.forall_mem_cons.mpr ⟨jw_canEncode.1.1, fun _ h => h⟩⟩)) rfl rfl rfl (by decide +kernel) ⟨Nat.le_refl _, by show 8 + (_ + 11) + 60 * _ ≤ 60 * _; omega⟩) ⟨j_blind, fun U hU hW => ⟨rfl, by show hwStr ad A U U.heap; rw [hU]; exact hwStr.go hG hW (fun _ _ _ => rfl)⟩⟩ rfl rfl hl.1 rfl (lv_room (Nat.le_of_ble_eq_true rfl)) dj_lindexOf_1 ⟨Nat.le_refl _, Nat.le_refl _⟩) ?_
  refine lv_if_ne (tgt := 9) hx hb dj_lindexOf_4 (by decide) (fun h => absurd (rfl : (0 : Int32) = 0) h) (fun _ => ?_)
  refine lv_iconst (v := -1) hx hb dj_lindexOf_7 (by decide) ?_
  exact W.iret hx hb hr (fun t ht hW => ⟨rfl, ht⟩) (fun q hq => by cases hq) dj_lindexOf_8
def jIx (i : Nat) (x : Int32) : Int32 := if x < 0 ∨ 255 < x then -1 else jIxF (x.toInt8.toInt32) (jBy.getD i []) 0
theorem j_lix {l : Launch} {ad : Nat → Nat → Nat} {A : Nat → Prop} (d : Nat) (i : Nat) (hi : i < 3) (x : Int32) : jMet l ad A (d + 3) yJ1_indexOf_4cfef cJ1_indexOf_4cfef 4 (some .int) [.ref (ad (220 + i) 0), .int x, .int 0, .int (nI (jLe.getD i 0))] (some (.int (jIx i x))) := by
  by_cases h0 : x < 0
  · rw [show jIx i x = -1 from if_pos (Or.inl h0)]; exact j_lixA d i hi x h0
  · by_cases h1 : 255 < x
    · rw [show jIx i x = -1 from if_pos (Or.inr h1)]; exact j_lixB d i hi x h0 h1
    · rw [show jIx i x = jIxF (x.toInt8.toInt32) (jBy.getD i []) 0 from if_neg (fun z => z.elim h0 h1)]
      exact j_lixY d i hi x h0 h1 (by match i, hi with
        | 0, _ => decide +kernel
        | 1, _ => decide +kernel
        | 2, _ => decide +kernel)
set_option maxRecDepth 20000 in
theorem j_indexOf2 {l : Launch} {ad : Nat → Nat → Nat} {A : Nat → Prop} (d : Nat) (i : Nat) (hi : i < 3) (x : Int32) : jMet l ad A (d + 4) yJ0_indexOf_7cf53 cJ0_indexOf_7cf53 3 (some .int) [.ref (ad (210 + i) 0), .int x, .int 0] (some (.int (jIx i x))) := by
  refine Met.ofW (cc := cJ0_indexOf_7cf53) (maxL := 3) (ret := (some .int)) (by decide) rfl ?_
  intro p e s m args below meth c s₁ B hml hv
  obtain ⟨rfl, hG⟩ := hv
  have hx := B.exec
  have hb := B.bytes
  have hr := B.returns
  have hts0 := atoms_spec (ws := jWs yJ0_indexOf_7cf53 cJ0_indexOf_7cf53 3 (some .int)) B.pre
  have hts : ∀ w ∈ hwTB, w.before _ s = true := fun w hw => hts0 w (List.mem_cons_of_mem _ hw)
  have hown : s.vm.findClass "java/lang/String" = some m.cls := findClass_of_methodNamed B.named
  have hlocks := B.notSynchronized
  have hl := lv_entry ([.ref (ad (210 + i) 0), .int x, .int 0]) (n := 3) (Nat.le_of_ble_eq_true rfl)
  rw [lg_entry_eq]
  generalize (lg_sl ([.ref (ad (210 + i) 0), .int x, .int 0]) ++ List.replicate (3 - (lg_sl ([.ref (ad (210 + i) 0), .int x, .int 0])).length) Slot.unset).toArray = ls at hl ⊢
  have hl : lv_has ls 3 [(0, .ref (ad (210 + i) 0)), (1, .int x), (2, .int 0)] := hl
  refine lv_aload_n hx hb dj_indexOf2_0 rfl (lv_at hl 0 rfl) ?_
  refine j_call (va_runV (As := []) (rest := []) (C := "java/lang/String") ⟨hx, hb, hml, hown, hts⟩ (j_isLatin1 (l := l) (A := A) (d + 2) i hi) (cwV 0 hts (j_good (List.forall_mem_append.mpr ⟨List.forall_mem_cons.mpr ⟨(hwWd_mem (d := 215) (w := (.methodLink "java/lang/String" 492 yJ0_isLatin1_aae02)) (by decide +kernel)), List.forall_mem_cons.mpr ⟨jw_isLatin1.2.1, List.forall_mem_cons.mpr ⟨jw_isLatin1.2.2, List.forall_mem_cons.mpr ⟨jw_isLatin1.1.2, fun _ h => absurd h List.not_mem_nil⟩⟩⟩⟩, List.forall_mem_cons.mpr ⟨jw_isLatin1.1.1, fun _ h => h⟩⟩)) rfl rfl rfl (by decide +kernel) ⟨Nat.le_refl _, by show 8 + (_ + 11) + 60 * _ ≤ 60 * _; omega⟩) ⟨j_blind, vk_recv hG.1 hi va_S.rf, fun U hU hW => ⟨rfl, by show hwStr ad A U U.heap; rw [hU]; exact hwStr.go hG hW (fun _ _ _ => rfl)⟩⟩ rfl rfl hl.1 rfl (lv_room (Nat.le_of_ble_eq_true rfl)) dj_indexOf2_1 ⟨Nat.le_refl _, Nat.le_refl _⟩) ?_
  refine lv_if_eq (tgt := 23) hx hb dj_indexOf2_4 (by decide) (fun h => absurd h (by decide)) (fun _ => ?_)
  refine lv_aload_n hx hb dj_indexOf2_7 rfl (lv_at hl 0 rfl) ?_
  refine vk_getf hx hb (hG.1.1 i hi).2.2.1 va_S.rf hown (hts (.fieldLink "java/lang/String" 9 "java/lang/String" "value" "[B") (hwWd_mem (d := 1823) (w := _) (by decide +kernel))) (fun _ h => h) dj_indexOf2_8 ?_
  refine lv_iload_n hx hb dj_indexOf2_11 rfl (lv_at hl 1 rfl) ?_
  refine lv_iload_n hx hb dj_indexOf2_12 rfl (lv_at hl 2 rfl) ?_
  refine lv_aload_n hx hb dj_indexOf2_13 rfl (lv_at hl 0 rfl) ?_
  refine j_call (va_runV (As := []) (rest := [.int 0, .int x, .ref (ad (220 + i) 0)]) (C := "java/lang/String") ⟨hx, hb, hml, hown, hts⟩ (j_length (l := l) (A := A) (d + 1) i hi) (cwV 0 hts (j_good (List.forall_mem_append.mpr ⟨List.forall_mem_cons.mpr ⟨(hwWd_mem (d := 340) (w := (.methodLink "java/lang/String" 505 yJ0_length_8abf5)) (by decide +kernel)), List.forall_mem_cons.mpr ⟨jw_length.2.1, List.forall_mem_cons.mpr ⟨jw_length.2.2, List.forall_mem_cons.mpr ⟨jw_length.1.2, fun _ h => absurd h List.not_mem_nil⟩⟩⟩⟩, List.forall_mem_cons.mpr ⟨jw_length.1.1, fun _ h => h⟩⟩)) rfl rfl rfl (by decide +kernel) ⟨Nat.le_refl _, by show 8 + (_ + 11) + 60 * _ ≤ 60 * _; omega⟩) ⟨j_blind, vk_recv hG.1 hi va_S.rf, fun U hU hW => ⟨rfl, by show hwStr ad A U U.heap; rw [hU]; exact hwStr.go hG hW (fun _ _ _ => rfl)⟩⟩ rfl rfl hl.1 rfl (lv_room (Nat.le_of_ble_eq_true rfl)) dj_indexOf2_14 ⟨Nat.le_refl _, Nat.le_refl _⟩) ?_
  refine j_call (va_runS (As := [.ref (ad (220 + i) 0), .int x, .int 0, .int (nI (jLe.getD i 0))]) (rest := []) ⟨hx, hb, hml, hown, hts⟩ (j_lix (l := l) (A := A) d i hi x) (va_cwS 4 hts (j_good (List.forall_mem_append.mpr ⟨List.forall_mem_cons.mpr ⟨(hwWd_mem (d := 341) (w := (.methodLink "java/lang/String" 637 yJ1_indexOf_4cfef)) (by decide +kernel)), List.forall_mem_cons.mpr ⟨jw_lindexOf.2, List.forall_mem_cons.mpr ⟨jw_lindexOf.1.2, fun _ h => absurd h List.not_mem_nil⟩⟩⟩, List.forall_mem_cons.mpr ⟨jw_lindexOf.1.1, fun _ h => h⟩⟩)) rfl rfl rfl (by decide +kernel) ⟨Nat.le_refl _, by show 8 + (_ + 11) + 60 * _ ≤ 60 * _; omega⟩) ⟨j_blind, fun U hU hW => ⟨rfl, by show hwStr ad A U U.heap; rw [hU]; exact hwStr.go hG hW (fun _ _ _ => rfl)⟩⟩ rfl rfl hl.1 rfl (lv_room (Nat.le_of_ble_eq_true rfl)) dj_indexOf2_17 ⟨Nat.le_refl _, Nat.le_refl _⟩) ?_
  refine lv_goto (tgt := 36) hx hb dj_indexOf2_20 (by decide) ?_
  exact W.iret hx hb hr (fun t ht hW => ⟨rfl, ht⟩) (fun q hq => by cases hq) dj_indexOf2_36
set_option maxRecDepth 20000 in
theorem j_indexOf {l : Launch} {ad : Nat → Nat → Nat} {A : Nat → Prop} (d : Nat) (i : Nat) (hi : i < 3) (x : Int32) : jMet l ad A (d + 5) yJ0_indexOf_0f7a4 cJ0_indexOf_0f7a4 2 (some .int) [.ref (ad (210 + i) 0), .int x] (some (.int (jIx i x))) := by
  refine Met.ofW (cc := cJ0_indexOf_0f7a4) (maxL := 2) (ret := (some .int)) (by decide) rfl ?_
  intro p e s m args below meth c s₁ B hml hv
  obtain ⟨rfl, hG⟩ := hv
  have hx := B.exec
  have hb := B.bytes
  have hr := B.returns
  have hts0 := atoms_spec (ws := jWs yJ0_indexOf_0f7a4 cJ0_indexOf_0f7a4 2 (some .int)) B.pre
  have hts : ∀ w ∈ hwTB, w.before _ s = true := fun w hw => hts0 w (List.mem_cons_of_mem _ hw)
  have hown : s.vm.findClass "java/lang/String" = some m.cls := findClass_of_methodNamed B.named
  have hlocks := B.notSynchronized
  have hl := lv_entry ([.ref (ad (210 + i) 0), .int x]) (n := 2) (Nat.le_of_ble_eq_true rfl)
  rw [lg_entry_eq]
  generalize (lg_sl ([.ref (ad (210 + i) 0), .int x]) ++ List.replicate (2 - (lg_sl ([.ref (ad (210 + i) 0), .int x])).length) Slot.unset).toArray = ls at hl ⊢
  have hl : lv_has ls 2 [(0, .ref (ad (210 + i) 0)), (1, .int x)] := hl
  refine lv_aload_n hx hb dj_indexOf_0 rfl (lv_at hl 0 rfl) ?_
  refine lv_iload_n hx hb dj_indexOf_1 rfl (lv_at hl 1 rfl) ?_
  refine lv_iconst (v := 0) hx hb dj_indexOf_2 (by decide) ?_
  refine j_call (va_runV (As := [.int x, .int 0]) (rest := []) (C := "java/lang/String") ⟨hx, hb, hml, hown, hts⟩ (j_indexOf2 (l := l) (A := A) d i hi x) (cwV 2 hts (j_good (List.forall_mem_append.mpr ⟨List.forall_mem_cons.mpr ⟨(hwWd_mem (d := 336) (w := (.methodLink "java/lang/String" 633 yJ0_indexOf_7cf53)) (by decide +kernel)), List.forall_mem_cons.mpr ⟨jw_indexOf2.2.1, List.forall_mem_cons.mpr ⟨jw_indexOf2.2.2, List.forall_mem_cons.mpr ⟨jw_indexOf2.1.2, fun _ h => absurd h List.not_mem_nil⟩⟩⟩⟩, List.forall_mem_cons.mpr ⟨jw_indexOf2.1.1, fun _ h => h⟩⟩)) rfl rfl rfl (by decide +kernel) ⟨Nat.le_refl _, by show 8 + (_ + 11) + 60 * _ ≤ 60 * _; omega⟩) ⟨j_blind, vk_recv hG.1 hi va_S.rf, fun U hU hW => ⟨rfl, by show hwStr ad A U U.heap; rw [hU]; exact hwStr.go hG hW (fun _ _ _ => rfl)⟩⟩ rfl rfl hl.1 rfl (lv_room (Nat.le_of_ble_eq_true rfl)) dj_indexOf_3 ⟨Nat.le_refl _, Nat.le_refl _⟩) ?_
  exact W.iret hx hb hr (fun t ht hW => ⟨rfl, ht⟩) (fun q hq => by cases hq) dj_indexOf_6
theorem jv_fin : ∀ a, a < 3 → jLe.getD a 0 = (ntD [] hwST a).length ∧ ∀ k, k < (ntD [] hwST a).length → (((((jBy.getD a []).getD k 0) &&& 255).toUInt32 % 65536).toInt32 = nI (ntD 0 (ntD [] hwST a) k)) := by decide +kernel
theorem j_charV (a : Nat) (ha : a < 3) (x : Int32) (h : ¬ hwOut x (ntD [] hwST a).length) : (¬ x < 0 ∧ x < nI (jLe.getD a 0) ∧ vp_in x (jLe.getD a 0)) ∧ ((((jBy.getD a []).getD x.toNatClampNeg 0) &&& 255).toUInt32 % 65536).toInt32 = nI (ntD 0 (ntD [] hwST a) x.toNatClampNeg) := by
  obtain ⟨e, hv⟩ := jv_fin a ha
  have h0 : ¬ x < 0 := fun z => h (Or.inl z)
  have h1 : x.toNatClampNeg < (ntD [] hwST a).length := Nat.not_le.mp fun z => h (Or.inr z)
  obtain ⟨j, hj, rfl⟩ := nI_of h0
  rw [nI_clamp hj] at h1 ⊢
  refine ⟨⟨h0, ?_, ?_⟩, hv j h1⟩
  · rw [e]; exact nI_lt h1 (by rw [← e]; exact jLe_lt a)
  · rw [e]; exact vp_in_nI h1 (by rw [← e]; exact jLe_lt a)
theorem jx_fin : ∀ a, a < 3 → (∀ c ∈ ntD [] hwST a, c < 256) ∧ ∀ n, n < 256 → jIxF ((nI n).toInt8.toInt32) (jBy.getD a []) 0 = (match (ntD [] hwST a).findIdx? (fun c => decide (nI c = nI n)) with | some i => nI i | none => -1) := by decide +kernel
theorem j_ixV (a : Nat) (ha : a < 3) (x : Int32) : jIx a x = (match (ntD [] hwST a).findIdx? (fun c => decide (nI c = x)) with | some i => nI i | none => -1) := by
  obtain ⟨h1, h2⟩ := jx_fin a ha
  have none_ : (∀ n, n < 256 → x ≠ nI n) → (ntD [] hwST a).findIdx? (fun c => decide (nI c = x)) = none := by
    intro h
    rw [List.findIdx?_eq_none_iff]
    intro c hc
    exact decide_eq_false fun e => h c (h1 c hc) e.symm
  unfold jIx
  by_cases h0 : x < 0 ∨ 255 < x
  · rw [if_pos h0, none_ (by
      rintro n hn rfl
      rcases h0 with h | h
      · exact nI_pos (by omega) h
      · exact absurd (show nI 255 < nI n from h) (nI_nlt (by omega) (by omega)))]
  · rw [if_neg h0]
    obtain ⟨n, hn, rfl⟩ := nI_of (fun z => h0 (Or.inl z))
    have hn2 : n < 256 := by
      by_cases hlt : n < 256
      · exact hlt
      · exact absurd (Or.inr (show (255 : Int32) < nI n from nI_lt (a := 255) (by omega) hn)) h0
    exact h2 n hn2

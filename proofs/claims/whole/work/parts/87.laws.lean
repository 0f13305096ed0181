/-! THE CONSTRUCTORS, 6: the laws', with the tape of the first one -/
def ndb : List (Nat × Nat) → Bool
  | [] => true
  | a :: l => decide (a ∉ l) && ndb l
theorem ndb_inj : ∀ (l : List (Nat × Nat)), ndb l = true → ∀ (i j : Nat) (q : Nat × Nat), l[i]? = some q → l[j]? = some q → i = j
  | [], _, i, j, q, hi, _ => by cases i <;> cases hi
  | a :: l, h, i, j, q, hi, hj => by
    obtain ⟨h1, h2⟩ := and_t (show (decide (a ∉ l) && ndb l) = true from h)
    have h1 := of_decide_eq_true h1
    cases i with
    | zero =>
      cases j with
      | zero => rfl
      | succ j => cases hi; exact absurd (List.mem_of_getElem? (show l[j]? = some a from hj)) h1
    | succ i =>
      cases j with
      | zero => cases hj; exact absurd (List.mem_of_getElem? (show l[i]? = some a from hi)) h1
      | succ j => exact congrArg Nat.succ (ndb_inj l h2 i j q hi hj)
theorem hwCl_of {ks : List (Nat × Nat)} (h1 : ks.all (fun q => hwCl1 ks q && hwCl2 q) = true) (h2 : ndb ks = true) : hwCl ks := ⟨fun q hq => and_t (List.all_eq_true.mp h1 q hq), ndb_inj ks h2⟩
theorem hwW_at {ad : Nat → Nat → Nat} {K : Kc} {ks : List (Nat × Nat)} {σ : Mem} {k : Nat} {x : Nat × va_E} (h : (hwW ad K ks σ)[k]? = some x) : ∃ q, ks[k]? = some q ∧ q ∈ ks ∧ x = (ad q.1 q.2, hwCo ad K σ q) := by
  unfold hwW at h
  rw [List.getElem?_map] at h
  cases e : ks[k]? with
  | none => rw [e] at h; cases h
  | some q => rw [e] at h; cases h; exact ⟨q, rfl, List.mem_of_getElem? e, rfl⟩
theorem hwW_D {ad : Nat → Nat → Nat} {K : Kc} {ks : List (Nat × Nat)} {σ : Mem} {A : Nat → Prop} (h : va_D A (hwW ad K ks σ)) (τ : Mem) : va_D A (hwW ad K ks τ) := by
  have e : ∀ (k : Nat) (x : Nat × va_E), (hwW ad K ks τ)[k]? = some x → ∃ y, (hwW ad K ks σ)[k]? = some y ∧ y.1 = x.1 := fun k x hx => by
    obtain ⟨q, h1, -, rfl⟩ := hwW_at hx
    exact ⟨(ad q.1 q.2, hwCo ad K σ q), by unfold hwW; rw [List.getElem?_map, h1]; rfl, rfl⟩
  refine ⟨fun i j x y hi hj exy => ?_, fun k x hx => ?_⟩
  · obtain ⟨x', h1, h2⟩ := e i x hi
    obtain ⟨y', h3, h4⟩ := e j y hj
    exact h.1 i j x' y' h1 h3 (by rw [h2, h4]; exact exy)
  · obtain ⟨x', h1, h2⟩ := e k x hx
    rw [← h2]
    exact h.2 k x' h1
/-- of keys, those that a call reaches -/
def hwAd (ad : Nat → Nat → Nat) (ks : List (Nat × Nat)) : Nat → Prop := fun x => ∃ q, q ∈ ks ∧ ad q.1 q.2 = x
theorem hwW_key {ad : Nat → Nat → Nat} {K : Kc} {ks : List (Nat × Nat)} {σ : Mem} {A : Nat → Prop} (h : va_D A (hwW ad K ks σ)) {q q' : Nat × Nat} (hq : q ∈ ks) (hq' : q' ∈ ks) (e : ad q.1 q.2 = ad q'.1 q'.2) : q = q' := by
  obtain ⟨i, h1, h2⟩ := hwW_get (ad := ad) (K := K) (σ := σ) hq
  obtain ⟨j, h3, h4⟩ := hwW_get (ad := ad) (K := K) (σ := σ) hq'
  have := h.1 i j _ _ h2 h4 e
  subst this
  exact Option.some.inj (h1.symm.trans h3)
theorem hwW_DD {ad : Nat → Nat → Nat} {K : Kc} {ks ks' : List (Nat × Nat)} {σ : Mem} {A : Nat → Prop} (h : va_D A (hwW ad K ks σ)) (hs : ∀ q, q ∈ ks' → q ∈ ks) (hn : ndb ks' = true) : ∀ τ, va_D (hwAd ad ks') (hwW ad K ks' τ) := fun τ => by
  refine ⟨fun i j x y hi hj e => ?_, fun k x hx => ?_⟩
  · obtain ⟨q, h1, h2, rfl⟩ := hwW_at hi
    obtain ⟨q', h3, h4, rfl⟩ := hwW_at hj
    have := hwW_key h (hs q h2) (hs q' h4) e
    subst this
    exact ndb_inj ks' hn i j q h1 h3
  · obtain ⟨q, -, h2, rfl⟩ := hwW_at hx
    exact ⟨q, h2, rfl⟩
theorem hwW_sub {ad : Nat → Nat → Nat} {K : Kc} {ks ks' : List (Nat × Nat)} {σ : Mem} {D : va_G} {H : Heap} (h : va_P D vwCl (hwW ad K ks σ) H) (hs : ∀ q, q ∈ ks' → q ∈ ks) : va_P D vwCl (hwW ad K ks' σ) H := fun k x hx => by
  obtain ⟨q, -, h2, rfl⟩ := hwW_at hx
  obtain ⟨j, -, h4⟩ := hwW_get (ad := ad) (K := K) (σ := σ) (hs q h2)
  exact h j _ h4
theorem hwW_fr {ad : Nat → Nat → Nat} {K : Kc} {ks ks' : List (Nat × Nat)} {σ τ : Mem} {A : Nat → Prop} {D : va_G} {H H1 : Heap} (hP : va_P D vwCl (hwW ad K ks σ) H) (hD : va_D A (hwW ad K ks σ)) (hs : ∀ q, q ∈ ks' → q ∈ ks) (hP1 : va_P D vwCl (hwW ad K ks' τ) H1) (hk : ∀ x : Nat, x < H.size → ¬ hwAd ad ks' x → H1[x]? = H[x]?) (ha : ∀ q, q ∈ ks → q ∉ ks' → hwCo ad K τ q = hwCo ad K σ q) : va_P D vwCl (hwW ad K ks τ) H1 := fun k x hx => by
  obtain ⟨q, h1, h2, rfl⟩ := hwW_at hx
  by_cases c : q ∈ ks'
  · obtain ⟨j, -, h4⟩ := hwW_get (ad := ad) (K := K) (σ := τ) c
    exact hP1 j _ h4
  · have h3 : (hwW ad K ks σ)[k]? = some (ad q.1 q.2, hwCo ad K τ q) := by
      unfold hwW
      rw [List.getElem?_map, h1, ha q h2 c]
      rfl
    exact va_P.kept (D := D) (cl := vwCl) (ws := [(ad q.1 q.2, hwCo ad K τ q)]) (H := H) (fun k9 x9 h9 => by
      cases k9 with
      | zero => cases h9; exact hP k _ h3
      | succ k9 => cases h9) (fun k9 x9 h9 => by
      cases k9 with
      | zero =>
        cases h9
        refine hk _ ((hP k _ h3).lt) (fun z => ?_)
        obtain ⟨q', a, b⟩ := z
        exact c (hwW_key hD (hs q' a) h2 b ▸ a)
      | succ k9 => cases h9) 0 _ rfl
def ksR : List (Nat × Nat) := [(3, 0), (62, 0), (63, 0), (64, 0)]
def ksL : List (Nat × Nat) := [(2, 0), (3, 0), (62, 0), (63, 0), (64, 0), (38, 0), (39, 0), (39, 1), (39, 2), (39, 3), (39, 4), (39, 5), (40, 0), (41, 0), (41, 1), (41, 2), (41, 3), (41, 4), (41, 5), (42, 0), (43, 0), (44, 0), (44, 1), (44, 2), (44, 3), (44, 4), (44, 5), (45, 0), (46, 0), (46, 1), (47, 0), (48, 0)]
theorem ksR_cl : hwCl ksR := hwCl_of (by decide +kernel) (by decide +kernel)
theorem ksR_L : ∀ q, q ∈ ksR → q ∈ ksL := by decide
def adL (ad0 : Nat → Nat → Nat) (h0 a1 q1 : Nat) (u1 : Nat → Nat) (q2 q3 q4 q5 q6 q7 q8 : Nat) : Nat → Nat → Nat := fun t r => bif Nat.ble 200 t then ad0 t r else bif Nat.beq t 1 then a1 else bif Nat.beq t 2 then h0 else bif Nat.beq t 3 then q1 else bif Nat.beq t 62 then u1 0 else bif Nat.beq t 63 then u1 1 else bif Nat.beq t 64 then u1 2 else bif Nat.beq t 38 then q2 else bif Nat.beq t 39 then q2 + 1 + r else bif Nat.beq t 40 then q3 else bif Nat.beq t 41 then q3 + 1 + r else bif Nat.beq t 42 then q4 else bif Nat.beq t 43 then q5 else bif Nat.beq t 44 then q5 + 1 + r else bif Nat.beq t 45 then q6 else bif Nat.beq t 46 then q6 + 1 + r else bif Nat.beq t 47 then q7 else bif Nat.beq t 48 then q8 else 0
theorem adL_hi {ad0 : Nat → Nat → Nat} {h0 a1 q1 : Nat} {u1 : Nat → Nat} {q2 q3 q4 q5 q6 q7 q8 t : Nat} (h : 200 ≤ t) : adL ad0 h0 a1 q1 u1 q2 q3 q4 q5 q6 q7 q8 t = ad0 t := by
  funext r
  unfold adL
  rw [Nat.ble_eq_true_of_le h]
  rfl
theorem iCh_w : ∀ i, i < 69 → (nI (iCh i)).toInt64.toInt32 &&& 255 = nI (iCh i) := by decide +kernel
theorem recR_ok : okI mX8_record = true ∧ okN mX8_record 2 = true := by decide +kernel
/-- what the laws' constructor leaves -/
def BX4 (ad0 : Nat → Nat → Nat) (K : Kc) (D : va_G) (sc : Nat × (Nat → Int32)) (h0 a1 : Nat) (A : Nat → Prop) (ad : Nat → Nat → Nat) (t : State) : Prop := ((∀ t, 200 ≤ t → ad t = ad0 t) ∧ ad 2 0 = h0 ∧ ad 1 0 = a1) ∧ va_P D vwCl (hwW ad K ksL (mR sc 69)) t.heap ∧ va_D A (hwW ad K ksL (mR sc 69))
set_option maxHeartbeats 4000000 in
set_option maxRecDepth 100000 in
theorem k_X4 (l : Launch) (ad0 : Nat → Nat → Nat) (K : Kc) (base : Nat) (D : va_G) (sc : Nat × (Nat → Int32)) (h0 a1 : Nat) : ∀ sz, cMet l yX4_init cX4_init 3 12 1000 31 1544 ad0 K base D sc [.ref h0, .ref a1] [(h0, .inr (4, [.null, .null, .null, .null, .null, .null, .null, .null, .null, .int 0, .int 0]))] (BX4 ad0 K D sc h0 a1 (va_A [(h0, .inr (4, [.null, .null, .null, .null, .null, .null, .null, .null, .null, .int 0, .int 0]))] sz)) sz := by
  refine c_met (B := fun sz => BX4 ad0 K D sc h0 a1 (va_A [(h0, .inr (4, [.null, .null, .null, .null, .null, .null, .null, .null, .null, .int 0, .int 0]))] sz)) (by decide +kernel) rfl (Nat.le_of_ble_eq_true rfl) (fun {p e s m below meth c} ls F hr hlocks hl hP hD hAb => ?_)
  have F : cFr p c cX4_init 3 meth m s [.ref h0, .ref a1].toArray RX4 ad0 K base D sc := F
  obtain ⟨hx, hb, hml, hown, hts, hin, hG⟩ := id F
  have hl : lv_has ls 3 [(0, .ref h0), (1, .ref a1)] := hl
  have hA : ∀ q, s.heap.size ≤ q → va_A [(h0, .inr (4, [.null, .null, .null, .null, .null, .null, .null, .null, .null, .int 0, .int 0]))] s.heap.size q := fun q h => Or.inr h
  have hS : va_S (va_A [(h0, .inr (4, [.null, .null, .null, .null, .null, .null, .null, .null, .null, .int 0, .int 0]))] s.heap.size) s.heap s.heap [] := va_S.rf
  have hP : va_P D vwCl [(h0, .inr (4, [.null, .null, .null, .null, .null, .null, .null, .null, .null, .int 0, .int 0]))] s.heap := hP
  refine lv_aload_n hx hb dX4_init_0 rfl (lv_at hl 0 rfl) ?_
  refine c_obj F 159 (by decide +kernel) hl.1 dX4_init_1 ⟨Nat.le_of_ble_eq_true rfl, Nat.le_of_ble_eq_true rfl⟩ ?_
  refine lv_aload_n hx hb dX4_init_4 rfl (lv_at hl 0 rfl) ?_
  refine c_new F 160 161 77 (ci := 8) (C := RX8) (T := TX8) (N := 9) rfl tyX8 tyX8_ok (by decide +kernel) (by decide +kernel) (by decide +kernel) hP hD hS hA [.null, .null, .null, .int 0, .int 0, .int 0, .int 0, .int 0, .int 0] (by decide) (Nat.le_of_ble_eq_true rfl) (Nat.le_of_ble_eq_true rfl) dX4_init_5 (fun q1 H hP hD hS => ?_)
  have hP : va_P D vwCl (((h0, .inr (4, [.null, .null, .null, .null, .null, .null, .null, .null, .null, .int 0, .int 0])) :: []) ++ [(q1, .inr (8, [.null, .null, .null, .int 0, .int 0, .int 0, .int 0, .int 0, .int 0]))]) H := hP
  have hD : va_D (va_A [(h0, .inr (4, [.null, .null, .null, .null, .null, .null, .null, .null, .null, .int 0, .int 0]))] s.heap.size) (((h0, .inr (4, [.null, .null, .null, .null, .null, .null, .null, .null, .null, .int 0, .int 0])) :: []) ++ [(q1, .inr (8, [.null, .null, .null, .int 0, .int 0, .int 0, .int 0, .int 0, .int 0]))]) := hD
  refine W.widen (k := 1) (n := 9) (Nat.le_of_ble_eq_true rfl) (Nat.le_of_ble_eq_true rfl) ?_
  refine lv_dup hx hb dX4_init_8 rfl ?_
  refine c_call F (As := []) 164 77 0 163 (k_X8 l ad0 K base D sc q1) (by decide +kernel) (by decide +kernel) (Or.inr (List.mem_of_getElem? (i := 1) rfl)) (by decide +kernel) rfl (by decide +kernel) ⟨Nat.le_of_ble_eq_true rfl, Nat.le_of_ble_eq_true rfl⟩ hP hD hS hA hAb hl.1 (Nat.le_of_ble_eq_true rfl) dX4_init_9 ⟨Nat.le_of_ble_eq_true rfl, Nat.le_of_ble_eq_true rfl⟩ (fun u1 H locs hP hD hS => ?_)
  have hP : va_P D vwCl ((h0, .inr (4, [.null, .null, .null, .null, .null, .null, .null, .null, .null, .int 0, .int 0])) :: (WX8 K q1 u1)) H := hP
  have hD : va_D (va_A [(h0, .inr (4, [.null, .null, .null, .null, .null, .null, .null, .null, .null, .int 0, .int 0]))] s.heap.size) ((h0, .inr (4, [.null, .null, .null, .null, .null, .null, .null, .null, .null, .int 0, .int 0])) :: (WX8 K q1 u1)) := hD
  refine W.widen (k := 4) (n := 332) (Nat.le_of_ble_eq_true rfl) (Nat.le_of_ble_eq_true rfl) ?_
  refine c_putF F 1 254 (ci := 4) (N := 11) (T := TX4) (v := .ref q1) (ty := .object "HowDeep$Reader") rfl (by decide +kernel) (Nat.le_of_ble_eq_true rfl) rfl rfl (by decide +kernel) rfl rfl (Nat.le_of_ble_eq_true rfl) hP hD hS dX4_init_12 (fun H locs hP hD hS => ?_)
  have hP : va_P D vwCl ((h0, .inr (4, [.null, .ref q1, .null, .null, .null, .null, .null, .null, .null, .int 0, .int 0])) :: (WX8 K q1 u1)) H := hP
  have hD : va_D (va_A [(h0, .inr (4, [.null, .null, .null, .null, .null, .null, .null, .null, .null, .int 0, .int 0]))] s.heap.size) ((h0, .inr (4, [.null, .ref q1, .null, .null, .null, .null, .null, .null, .null, .int 0, .int 0])) :: (WX8 K q1 u1)) := hD
  refine lv_aload_n hx hb dX4_init_15 rfl (lv_at hl 0 rfl) ?_
  refine lv_bipush hx hb (v := (6 : Int32)) dX4_init_16 (by decide) ?_
  refine lv_sipush hx hb (v := (160 : Int32)) dX4_init_18 (by decide) ?_
  refine c_mnai F 199 (by decide +kernel) hP hD hS hA 6 160 (by decide) (by decide) (by decide) (by decide) (by decide) (by decide) (Nat.le_of_ble_eq_true rfl) (Nat.le_of_ble_eq_true rfl) dX4_init_21 (fun q2 H hP hD hS => ?_)
  have hP : va_P D vwCl ((h0, .inr (4, [.null, .ref q1, .null, .null, .null, .null, .null, .null, .null, .int 0, .int 0])) :: ((WX8 K q1 u1) ++ k_seq q2 (.inl (K.2.2.2.1, 6, .inr (.inr (.inr (.inr (fun i => if i < 6 then some (q2 + 1 + i) else none))))) :: List.replicate 6 (.inl (K.1, 160, .inl (fun _ => 0)))))) H := hP
  have hD : va_D (va_A [(h0, .inr (4, [.null, .null, .null, .null, .null, .null, .null, .null, .null, .int 0, .int 0]))] s.heap.size) ((h0, .inr (4, [.null, .ref q1, .null, .null, .null, .null, .null, .null, .null, .int 0, .int 0])) :: ((WX8 K q1 u1) ++ k_seq q2 (.inl (K.2.2.2.1, 6, .inr (.inr (.inr (.inr (fun i => if i < 6 then some (q2 + 1 + i) else none))))) :: List.replicate 6 (.inl (K.1, 160, .inl (fun _ => 0)))))) := hD
  refine W.widen (k := 11) (n := 1298) (Nat.le_of_ble_eq_true rfl) (Nat.le_of_ble_eq_true rfl) ?_
  refine c_putF F 2 256 (ci := 4) (N := 11) (T := TX4) (v := .ref q2) (ty := .array (.array .int)) rfl (by decide +kernel) (Nat.le_of_ble_eq_true rfl) rfl rfl (by decide +kernel) rfl rfl (Nat.le_of_ble_eq_true rfl) hP hD hS dX4_init_25 (fun H locs hP hD hS => ?_)
  have hP : va_P D vwCl ((h0, .inr (4, [.null, .ref q1, .ref q2, .null, .null, .null, .null, .null, .null, .int 0, .int 0])) :: ((WX8 K q1 u1) ++ k_seq q2 (.inl (K.2.2.2.1, 6, .inr (.inr (.inr (.inr (fun i => if i < 6 then some (q2 + 1 + i) else none))))) :: List.replicate 6 (.inl (K.1, 160, .inl (fun _ => 0)))))) H := hP
  have hD : va_D (va_A [(h0, .inr (4, [.null, .null, .null, .null, .null, .null, .null, .null, .null, .int 0, .int 0]))] s.heap.size) ((h0, .inr (4, [.null, .ref q1, .ref q2, .null, .null, .null, .null, .null, .null, .int 0, .int 0])) :: ((WX8 K q1 u1) ++ k_seq q2 (.inl (K.2.2.2.1, 6, .inr (.inr (.inr (.inr (fun i => if i < 6 then some (q2 + 1 + i) else none))))) :: List.replicate 6 (.inl (K.1, 160, .inl (fun _ => 0)))))) := hD
  refine lv_aload_n hx hb dX4_init_28 rfl (lv_at hl 0 rfl) ?_
  refine lv_bipush hx hb (v := (6 : Int32)) dX4_init_29 (by decide) ?_
  refine lv_iconst hx hb (v := (3 : Int32)) dX4_init_31 (by decide) ?_
  refine c_mnai F 199 (by decide +kernel) hP hD hS hA 6 3 (by decide) (by decide) (by decide) (by decide) (by decide) (by decide) (Nat.le_of_ble_eq_true rfl) (Nat.le_of_ble_eq_true rfl) dX4_init_32 (fun q3 H hP hD hS => ?_)
  have hP : va_P D vwCl ((h0, .inr (4, [.null, .ref q1, .ref q2, .null, .null, .null, .null, .null, .null, .int 0, .int 0])) :: (((WX8 K q1 u1) ++ k_seq q2 (.inl (K.2.2.2.1, 6, .inr (.inr (.inr (.inr (fun i => if i < 6 then some (q2 + 1 + i) else none))))) :: List.replicate 6 (.inl (K.1, 160, .inl (fun _ => 0))))) ++ k_seq q3 (.inl (K.2.2.2.1, 6, .inr (.inr (.inr (.inr (fun i => if i < 6 then some (q3 + 1 + i) else none))))) :: List.replicate 6 (.inl (K.1, 3, .inl (fun _ => 0)))))) H := hP
  have hD : va_D (va_A [(h0, .inr (4, [.null, .null, .null, .null, .null, .null, .null, .null, .null, .int 0, .int 0]))] s.heap.size) ((h0, .inr (4, [.null, .ref q1, .ref q2, .null, .null, .null, .null, .null, .null, .int 0, .int 0])) :: (((WX8 K q1 u1) ++ k_seq q2 (.inl (K.2.2.2.1, 6, .inr (.inr (.inr (.inr (fun i => if i < 6 then some (q2 + 1 + i) else none))))) :: List.replicate 6 (.inl (K.1, 160, .inl (fun _ => 0))))) ++ k_seq q3 (.inl (K.2.2.2.1, 6, .inr (.inr (.inr (.inr (fun i => if i < 6 then some (q3 + 1 + i) else none))))) :: List.replicate 6 (.inl (K.1, 3, .inl (fun _ => 0)))))) := hD
  refine W.widen (k := 18) (n := 1322) (Nat.le_of_ble_eq_true rfl) (Nat.le_of_ble_eq_true rfl) ?_
  refine c_putF F 3 257 (ci := 4) (N := 11) (T := TX4) (v := .ref q3) (ty := .array (.array .int)) rfl (by decide +kernel) (Nat.le_of_ble_eq_true rfl) rfl rfl (by decide +kernel) rfl rfl (Nat.le_of_ble_eq_true rfl) hP hD hS dX4_init_36 (fun H locs hP hD hS => ?_)
  have hP : va_P D vwCl ((h0, .inr (4, [.null, .ref q1, .ref q2, .ref q3, .null, .null, .null, .null, .null, .int 0, .int 0])) :: (((WX8 K q1 u1) ++ k_seq q2 (.inl (K.2.2.2.1, 6, .inr (.inr (.inr (.inr (fun i => if i < 6 then some (q2 + 1 + i) else none))))) :: List.replicate 6 (.inl (K.1, 160, .inl (fun _ => 0))))) ++ k_seq q3 (.inl (K.2.2.2.1, 6, .inr (.inr (.inr (.inr (fun i => if i < 6 then some (q3 + 1 + i) else none))))) :: List.replicate 6 (.inl (K.1, 3, .inl (fun _ => 0)))))) H := hP
  have hD : va_D (va_A [(h0, .inr (4, [.null, .null, .null, .null, .null, .null, .null, .null, .null, .int 0, .int 0]))] s.heap.size) ((h0, .inr (4, [.null, .ref q1, .ref q2, .ref q3, .null, .null, .null, .null, .null, .int 0, .int 0])) :: (((WX8 K q1 u1) ++ k_seq q2 (.inl (K.2.2.2.1, 6, .inr (.inr (.inr (.inr (fun i => if i < 6 then some (q2 + 1 + i) else none))))) :: List.replicate 6 (.inl (K.1, 160, .inl (fun _ => 0))))) ++ k_seq q3 (.inl (K.2.2.2.1, 6, .inr (.inr (.inr (.inr (fun i => if i < 6 then some (q3 + 1 + i) else none))))) :: List.replicate 6 (.inl (K.1, 3, .inl (fun _ => 0)))))) := hD
  refine lv_aload_n hx hb dX4_init_39 rfl (lv_at hl 0 rfl) ?_
  refine lv_bipush hx hb (v := (6 : Int32)) dX4_init_40 (by decide) ?_
  refine c_newi F hP hD hS hA 6 (by decide) (by decide) (by decide) (Nat.le_of_ble_eq_true rfl) (Nat.le_of_ble_eq_true rfl) dX4_init_42 (fun q4 H hP hD hS => ?_)
  have hP : va_P D vwCl ((h0, .inr (4, [.null, .ref q1, .ref q2, .ref q3, .null, .null, .null, .null, .null, .int 0, .int 0])) :: ((((WX8 K q1 u1) ++ k_seq q2 (.inl (K.2.2.2.1, 6, .inr (.inr (.inr (.inr (fun i => if i < 6 then some (q2 + 1 + i) else none))))) :: List.replicate 6 (.inl (K.1, 160, .inl (fun _ => 0))))) ++ k_seq q3 (.inl (K.2.2.2.1, 6, .inr (.inr (.inr (.inr (fun i => if i < 6 then some (q3 + 1 + i) else none))))) :: List.replicate 6 (.inl (K.1, 3, .inl (fun _ => 0))))) ++ [(q4, .inl (K.1, 6, .inl (fun _ => 0)))])) H := hP
  have hD : va_D (va_A [(h0, .inr (4, [.null, .null, .null, .null, .null, .null, .null, .null, .null, .int 0, .int 0]))] s.heap.size) ((h0, .inr (4, [.null, .ref q1, .ref q2, .ref q3, .null, .null, .null, .null, .null, .int 0, .int 0])) :: ((((WX8 K q1 u1) ++ k_seq q2 (.inl (K.2.2.2.1, 6, .inr (.inr (.inr (.inr (fun i => if i < 6 then some (q2 + 1 + i) else none))))) :: List.replicate 6 (.inl (K.1, 160, .inl (fun _ => 0))))) ++ k_seq q3 (.inl (K.2.2.2.1, 6, .inr (.inr (.inr (.inr (fun i => if i < 6 then some (q3 + 1 + i) else none))))) :: List.replicate 6 (.inl (K.1, 3, .inl (fun _ => 0))))) ++ [(q4, .inl (K.1, 6, .inl (fun _ => 0)))])) := hD
  refine W.widen (k := 19) (n := 1328) (Nat.le_of_ble_eq_true rfl) (Nat.le_of_ble_eq_true rfl) ?_
  refine c_putF F 4 258 (ci := 4) (N := 11) (T := TX4) (v := .ref q4) (ty := .array .int) rfl (by decide +kernel) (Nat.le_of_ble_eq_true rfl) rfl rfl (by decide +kernel) rfl rfl (Nat.le_of_ble_eq_true rfl) hP hD hS dX4_init_44 (fun H locs hP hD hS => ?_)
  have hP : va_P D vwCl ((h0, .inr (4, [.null, .ref q1, .ref q2, .ref q3, .ref q4, .null, .null, .null, .null, .int 0, .int 0])) :: ((((WX8 K q1 u1) ++ k_seq q2 (.inl (K.2.2.2.1, 6, .inr (.inr (.inr (.inr (fun i => if i < 6 then some (q2 + 1 + i) else none))))) :: List.replicate 6 (.inl (K.1, 160, .inl (fun _ => 0))))) ++ k_seq q3 (.inl (K.2.2.2.1, 6, .inr (.inr (.inr (.inr (fun i => if i < 6 then some (q3 + 1 + i) else none))))) :: List.replicate 6 (.inl (K.1, 3, .inl (fun _ => 0))))) ++ [(q4, .inl (K.1, 6, .inl (fun _ => 0)))])) H := hP
  have hD : va_D (va_A [(h0, .inr (4, [.null, .null, .null, .null, .null, .null, .null, .null, .null, .int 0, .int 0]))] s.heap.size) ((h0, .inr (4, [.null, .ref q1, .ref q2, .ref q3, .ref q4, .null, .null, .null, .null, .int 0, .int 0])) :: ((((WX8 K q1 u1) ++ k_seq q2 (.inl (K.2.2.2.1, 6, .inr (.inr (.inr (.inr (fun i => if i < 6 then some (q2 + 1 + i) else none))))) :: List.replicate 6 (.inl (K.1, 160, .inl (fun _ => 0))))) ++ k_seq q3 (.inl (K.2.2.2.1, 6, .inr (.inr (.inr (.inr (fun i => if i < 6 then some (q3 + 1 + i) else none))))) :: List.replicate 6 (.inl (K.1, 3, .inl (fun _ => 0))))) ++ [(q4, .inl (K.1, 6, .inl (fun _ => 0)))])) := hD
  refine lv_aload_n hx hb dX4_init_47 rfl (lv_at hl 0 rfl) ?_
  refine lv_bipush hx hb (v := (6 : Int32)) dX4_init_48 (by decide) ?_
  refine lv_iconst hx hb (v := (5 : Int32)) dX4_init_50 (by decide) ?_
  refine c_mnai F 199 (by decide +kernel) hP hD hS hA 6 5 (by decide) (by decide) (by decide) (by decide) (by decide) (by decide) (Nat.le_of_ble_eq_true rfl) (Nat.le_of_ble_eq_true rfl) dX4_init_51 (fun q5 H hP hD hS => ?_)
  have hP : va_P D vwCl ((h0, .inr (4, [.null, .ref q1, .ref q2, .ref q3, .ref q4, .null, .null, .null, .null, .int 0, .int 0])) :: (((((WX8 K q1 u1) ++ k_seq q2 (.inl (K.2.2.2.1, 6, .inr (.inr (.inr (.inr (fun i => if i < 6 then some (q2 + 1 + i) else none))))) :: List.replicate 6 (.inl (K.1, 160, .inl (fun _ => 0))))) ++ k_seq q3 (.inl (K.2.2.2.1, 6, .inr (.inr (.inr (.inr (fun i => if i < 6 then some (q3 + 1 + i) else none))))) :: List.replicate 6 (.inl (K.1, 3, .inl (fun _ => 0))))) ++ [(q4, .inl (K.1, 6, .inl (fun _ => 0)))]) ++ k_seq q5 (.inl (K.2.2.2.1, 6, .inr (.inr (.inr (.inr (fun i => if i < 6 then some (q5 + 1 + i) else none))))) :: List.replicate 6 (.inl (K.1, 5, .inl (fun _ => 0)))))) H := hP
  have hD : va_D (va_A [(h0, .inr (4, [.null, .null, .null, .null, .null, .null, .null, .null, .null, .int 0, .int 0]))] s.heap.size) ((h0, .inr (4, [.null, .ref q1, .ref q2, .ref q3, .ref q4, .null, .null, .null, .null, .int 0, .int 0])) :: (((((WX8 K q1 u1) ++ k_seq q2 (.inl (K.2.2.2.1, 6, .inr (.inr (.inr (.inr (fun i => if i < 6 then some (q2 + 1 + i) else none))))) :: List.replicate 6 (.inl (K.1, 160, .inl (fun _ => 0))))) ++ k_seq q3 (.inl (K.2.2.2.1, 6, .inr (.inr (.inr (.inr (fun i => if i < 6 then some (q3 + 1 + i) else none))))) :: List.replicate 6 (.inl (K.1, 3, .inl (fun _ => 0))))) ++ [(q4, .inl (K.1, 6, .inl (fun _ => 0)))]) ++ k_seq q5 (.inl (K.2.2.2.1, 6, .inr (.inr (.inr (.inr (fun i => if i < 6 then some (q5 + 1 + i) else none))))) :: List.replicate 6 (.inl (K.1, 5, .inl (fun _ => 0)))))) := hD
  refine W.widen (k := 26) (n := 1364) (Nat.le_of_ble_eq_true rfl) (Nat.le_of_ble_eq_true rfl) ?_
  refine c_putF F 5 263 (ci := 4) (N := 11) (T := TX4) (v := .ref q5) (ty := .array (.array .int)) rfl (by decide +kernel) (Nat.le_of_ble_eq_true rfl) rfl rfl (by decide +kernel) rfl rfl (Nat.le_of_ble_eq_true rfl) hP hD hS dX4_init_55 (fun H locs hP hD hS => ?_)
  have hP : va_P D vwCl ((h0, .inr (4, [.null, .ref q1, .ref q2, .ref q3, .ref q4, .ref q5, .null, .null, .null, .int 0, .int 0])) :: (((((WX8 K q1 u1) ++ k_seq q2 (.inl (K.2.2.2.1, 6, .inr (.inr (.inr (.inr (fun i => if i < 6 then some (q2 + 1 + i) else none))))) :: List.replicate 6 (.inl (K.1, 160, .inl (fun _ => 0))))) ++ k_seq q3 (.inl (K.2.2.2.1, 6, .inr (.inr (.inr (.inr (fun i => if i < 6 then some (q3 + 1 + i) else none))))) :: List.replicate 6 (.inl (K.1, 3, .inl (fun _ => 0))))) ++ [(q4, .inl (K.1, 6, .inl (fun _ => 0)))]) ++ k_seq q5 (.inl (K.2.2.2.1, 6, .inr (.inr (.inr (.inr (fun i => if i < 6 then some (q5 + 1 + i) else none))))) :: List.replicate 6 (.inl (K.1, 5, .inl (fun _ => 0)))))) H := hP
  have hD : va_D (va_A [(h0, .inr (4, [.null, .null, .null, .null, .null, .null, .null, .null, .null, .int 0, .int 0]))] s.heap.size) ((h0, .inr (4, [.null, .ref q1, .ref q2, .ref q3, .ref q4, .ref q5, .null, .null, .null, .int 0, .int 0])) :: (((((WX8 K q1 u1) ++ k_seq q2 (.inl (K.2.2.2.1, 6, .inr (.inr (.inr (.inr (fun i => if i < 6 then some (q2 + 1 + i) else none))))) :: List.replicate 6 (.inl (K.1, 160, .inl (fun _ => 0))))) ++ k_seq q3 (.inl (K.2.2.2.1, 6, .inr (.inr (.inr (.inr (fun i => if i < 6 then some (q3 + 1 + i) else none))))) :: List.replicate 6 (.inl (K.1, 3, .inl (fun _ => 0))))) ++ [(q4, .inl (K.1, 6, .inl (fun _ => 0)))]) ++ k_seq q5 (.inl (K.2.2.2.1, 6, .inr (.inr (.inr (.inr (fun i => if i < 6 then some (q5 + 1 + i) else none))))) :: List.replicate 6 (.inl (K.1, 5, .inl (fun _ => 0)))))) := hD
  refine lv_aload_n hx hb dX4_init_58 rfl (lv_at hl 0 rfl) ?_
  refine lv_iconst hx hb (v := (2 : Int32)) dX4_init_59 (by decide) ?_
  refine lv_bipush hx hb (v := (6 : Int32)) dX4_init_60 (by decide) ?_
  refine c_mnai F 199 (by decide +kernel) hP hD hS hA 2 6 (by decide) (by decide) (by decide) (by decide) (by decide) (by decide) (Nat.le_of_ble_eq_true rfl) (Nat.le_of_ble_eq_true rfl) dX4_init_62 (fun q6 H hP hD hS => ?_)
  have hP : va_P D vwCl ((h0, .inr (4, [.null, .ref q1, .ref q2, .ref q3, .ref q4, .ref q5, .null, .null, .null, .int 0, .int 0])) :: ((((((WX8 K q1 u1) ++ k_seq q2 (.inl (K.2.2.2.1, 6, .inr (.inr (.inr (.inr (fun i => if i < 6 then some (q2 + 1 + i) else none))))) :: List.replicate 6 (.inl (K.1, 160, .inl (fun _ => 0))))) ++ k_seq q3 (.inl (K.2.2.2.1, 6, .inr (.inr (.inr (.inr (fun i => if i < 6 then some (q3 + 1 + i) else none))))) :: List.replicate 6 (.inl (K.1, 3, .inl (fun _ => 0))))) ++ [(q4, .inl (K.1, 6, .inl (fun _ => 0)))]) ++ k_seq q5 (.inl (K.2.2.2.1, 6, .inr (.inr (.inr (.inr (fun i => if i < 6 then some (q5 + 1 + i) else none))))) :: List.replicate 6 (.inl (K.1, 5, .inl (fun _ => 0))))) ++ k_seq q6 (.inl (K.2.2.2.1, 2, .inr (.inr (.inr (.inr (fun i => if i < 2 then some (q6 + 1 + i) else none))))) :: List.replicate 2 (.inl (K.1, 6, .inl (fun _ => 0)))))) H := hP
  have hD : va_D (va_A [(h0, .inr (4, [.null, .null, .null, .null, .null, .null, .null, .null, .null, .int 0, .int 0]))] s.heap.size) ((h0, .inr (4, [.null, .ref q1, .ref q2, .ref q3, .ref q4, .ref q5, .null, .null, .null, .int 0, .int 0])) :: ((((((WX8 K q1 u1) ++ k_seq q2 (.inl (K.2.2.2.1, 6, .inr (.inr (.inr (.inr (fun i => if i < 6 then some (q2 + 1 + i) else none))))) :: List.replicate 6 (.inl (K.1, 160, .inl (fun _ => 0))))) ++ k_seq q3 (.inl (K.2.2.2.1, 6, .inr (.inr (.inr (.inr (fun i => if i < 6 then some (q3 + 1 + i) else none))))) :: List.replicate 6 (.inl (K.1, 3, .inl (fun _ => 0))))) ++ [(q4, .inl (K.1, 6, .inl (fun _ => 0)))]) ++ k_seq q5 (.inl (K.2.2.2.1, 6, .inr (.inr (.inr (.inr (fun i => if i < 6 then some (q5 + 1 + i) else none))))) :: List.replicate 6 (.inl (K.1, 5, .inl (fun _ => 0))))) ++ k_seq q6 (.inl (K.2.2.2.1, 2, .inr (.inr (.inr (.inr (fun i => if i < 2 then some (q6 + 1 + i) else none))))) :: List.replicate 2 (.inl (K.1, 6, .inl (fun _ => 0)))))) := hD
  refine W.widen (k := 29) (n := 1378) (Nat.le_of_ble_eq_true rfl) (Nat.le_of_ble_eq_true rfl) ?_
  refine c_putF F 6 267 (ci := 4) (N := 11) (T := TX4) (v := .ref q6) (ty := .array (.array .int)) rfl (by decide +kernel) (Nat.le_of_ble_eq_true rfl) rfl rfl (by decide +kernel) rfl rfl (Nat.le_of_ble_eq_true rfl) hP hD hS dX4_init_66 (fun H locs hP hD hS => ?_)
  have hP : va_P D vwCl ((h0, .inr (4, [.null, .ref q1, .ref q2, .ref q3, .ref q4, .ref q5, .ref q6, .null, .null, .int 0, .int 0])) :: ((((((WX8 K q1 u1) ++ k_seq q2 (.inl (K.2.2.2.1, 6, .inr (.inr (.inr (.inr (fun i => if i < 6 then some (q2 + 1 + i) else none))))) :: List.replicate 6 (.inl (K.1, 160, .inl (fun _ => 0))))) ++ k_seq q3 (.inl (K.2.2.2.1, 6, .inr (.inr (.inr (.inr (fun i => if i < 6 then some (q3 + 1 + i) else none))))) :: List.replicate 6 (.inl (K.1, 3, .inl (fun _ => 0))))) ++ [(q4, .inl (K.1, 6, .inl (fun _ => 0)))]) ++ k_seq q5 (.inl (K.2.2.2.1, 6, .inr (.inr (.inr (.inr (fun i => if i < 6 then some (q5 + 1 + i) else none))))) :: List.replicate 6 (.inl (K.1, 5, .inl (fun _ => 0))))) ++ k_seq q6 (.inl (K.2.2.2.1, 2, .inr (.inr (.inr (.inr (fun i => if i < 2 then some (q6 + 1 + i) else none))))) :: List.replicate 2 (.inl (K.1, 6, .inl (fun _ => 0)))))) H := hP
  have hD : va_D (va_A [(h0, .inr (4, [.null, .null, .null, .null, .null, .null, .null, .null, .null, .int 0, .int 0]))] s.heap.size) ((h0, .inr (4, [.null, .ref q1, .ref q2, .ref q3, .ref q4, .ref q5, .ref q6, .null, .null, .int 0, .int 0])) :: ((((((WX8 K q1 u1) ++ k_seq q2 (.inl (K.2.2.2.1, 6, .inr (.inr (.inr (.inr (fun i => if i < 6 then some (q2 + 1 + i) else none))))) :: List.replicate 6 (.inl (K.1, 160, .inl (fun _ => 0))))) ++ k_seq q3 (.inl (K.2.2.2.1, 6, .inr (.inr (.inr (.inr (fun i => if i < 6 then some (q3 + 1 + i) else none))))) :: List.replicate 6 (.inl (K.1, 3, .inl (fun _ => 0))))) ++ [(q4, .inl (K.1, 6, .inl (fun _ => 0)))]) ++ k_seq q5 (.inl (K.2.2.2.1, 6, .inr (.inr (.inr (.inr (fun i => if i < 6 then some (q5 + 1 + i) else none))))) :: List.replicate 6 (.inl (K.1, 5, .inl (fun _ => 0))))) ++ k_seq q6 (.inl (K.2.2.2.1, 2, .inr (.inr (.inr (.inr (fun i => if i < 2 then some (q6 + 1 + i) else none))))) :: List.replicate 2 (.inl (K.1, 6, .inl (fun _ => 0)))))) := hD
  refine lv_aload_n hx hb dX4_init_69 rfl (lv_at hl 0 rfl) ?_
  refine lv_bipush hx hb (v := (6 : Int32)) dX4_init_70 (by decide) ?_
  refine c_newi F hP hD hS hA 6 (by decide) (by decide) (by decide) (Nat.le_of_ble_eq_true rfl) (Nat.le_of_ble_eq_true rfl) dX4_init_72 (fun q7 H hP hD hS => ?_)
  have hP : va_P D vwCl ((h0, .inr (4, [.null, .ref q1, .ref q2, .ref q3, .ref q4, .ref q5, .ref q6, .null, .null, .int 0, .int 0])) :: (((((((WX8 K q1 u1) ++ k_seq q2 (.inl (K.2.2.2.1, 6, .inr (.inr (.inr (.inr (fun i => if i < 6 then some (q2 + 1 + i) else none))))) :: List.replicate 6 (.inl (K.1, 160, .inl (fun _ => 0))))) ++ k_seq q3 (.inl (K.2.2.2.1, 6, .inr (.inr (.inr (.inr (fun i => if i < 6 then some (q3 + 1 + i) else none))))) :: List.replicate 6 (.inl (K.1, 3, .inl (fun _ => 0))))) ++ [(q4, .inl (K.1, 6, .inl (fun _ => 0)))]) ++ k_seq q5 (.inl (K.2.2.2.1, 6, .inr (.inr (.inr (.inr (fun i => if i < 6 then some (q5 + 1 + i) else none))))) :: List.replicate 6 (.inl (K.1, 5, .inl (fun _ => 0))))) ++ k_seq q6 (.inl (K.2.2.2.1, 2, .inr (.inr (.inr (.inr (fun i => if i < 2 then some (q6 + 1 + i) else none))))) :: List.replicate 2 (.inl (K.1, 6, .inl (fun _ => 0))))) ++ [(q7, .inl (K.1, 6, .inl (fun _ => 0)))])) H := hP
  have hD : va_D (va_A [(h0, .inr (4, [.null, .null, .null, .null, .null, .null, .null, .null, .null, .int 0, .int 0]))] s.heap.size) ((h0, .inr (4, [.null, .ref q1, .ref q2, .ref q3, .ref q4, .ref q5, .ref q6, .null, .null, .int 0, .int 0])) :: (((((((WX8 K q1 u1) ++ k_seq q2 (.inl (K.2.2.2.1, 6, .inr (.inr (.inr (.inr (fun i => if i < 6 then some (q2 + 1 + i) else none))))) :: List.replicate 6 (.inl (K.1, 160, .inl (fun _ => 0))))) ++ k_seq q3 (.inl (K.2.2.2.1, 6, .inr (.inr (.inr (.inr (fun i => if i < 6 then some (q3 + 1 + i) else none))))) :: List.replicate 6 (.inl (K.1, 3, .inl (fun _ => 0))))) ++ [(q4, .inl (K.1, 6, .inl (fun _ => 0)))]) ++ k_seq q5 (.inl (K.2.2.2.1, 6, .inr (.inr (.inr (.inr (fun i => if i < 6 then some (q5 + 1 + i) else none))))) :: List.replicate 6 (.inl (K.1, 5, .inl (fun _ => 0))))) ++ k_seq q6 (.inl (K.2.2.2.1, 2, .inr (.inr (.inr (.inr (fun i => if i < 2 then some (q6 + 1 + i) else none))))) :: List.replicate 2 (.inl (K.1, 6, .inl (fun _ => 0))))) ++ [(q7, .inl (K.1, 6, .inl (fun _ => 0)))])) := hD
  refine W.widen (k := 30) (n := 1384) (Nat.le_of_ble_eq_true rfl) (Nat.le_of_ble_eq_true rfl) ?_
  refine c_putF F 7 269 (ci := 4) (N := 11) (T := TX4) (v := .ref q7) (ty := .array .int) rfl (by decide +kernel) (Nat.le_of_ble_eq_true rfl) rfl rfl (by decide +kernel) rfl rfl (Nat.le_of_ble_eq_true rfl) hP hD hS dX4_init_74 (fun H locs hP hD hS => ?_)
  have hP : va_P D vwCl ((h0, .inr (4, [.null, .ref q1, .ref q2, .ref q3, .ref q4, .ref q5, .ref q6, .ref q7, .null, .int 0, .int 0])) :: (((((((WX8 K q1 u1) ++ k_seq q2 (.inl (K.2.2.2.1, 6, .inr (.inr (.inr (.inr (fun i => if i < 6 then some (q2 + 1 + i) else none))))) :: List.replicate 6 (.inl (K.1, 160, .inl (fun _ => 0))))) ++ k_seq q3 (.inl (K.2.2.2.1, 6, .inr (.inr (.inr (.inr (fun i => if i < 6 then some (q3 + 1 + i) else none))))) :: List.replicate 6 (.inl (K.1, 3, .inl (fun _ => 0))))) ++ [(q4, .inl (K.1, 6, .inl (fun _ => 0)))]) ++ k_seq q5 (.inl (K.2.2.2.1, 6, .inr (.inr (.inr (.inr (fun i => if i < 6 then some (q5 + 1 + i) else none))))) :: List.replicate 6 (.inl (K.1, 5, .inl (fun _ => 0))))) ++ k_seq q6 (.inl (K.2.2.2.1, 2, .inr (.inr (.inr (.inr (fun i => if i < 2 then some (q6 + 1 + i) else none))))) :: List.replicate 2 (.inl (K.1, 6, .inl (fun _ => 0))))) ++ [(q7, .inl (K.1, 6, .inl (fun _ => 0)))])) H := hP
  have hD : va_D (va_A [(h0, .inr (4, [.null, .null, .null, .null, .null, .null, .null, .null, .null, .int 0, .int 0]))] s.heap.size) ((h0, .inr (4, [.null, .ref q1, .ref q2, .ref q3, .ref q4, .ref q5, .ref q6, .ref q7, .null, .int 0, .int 0])) :: (((((((WX8 K q1 u1) ++ k_seq q2 (.inl (K.2.2.2.1, 6, .inr (.inr (.inr (.inr (fun i => if i < 6 then some (q2 + 1 + i) else none))))) :: List.replicate 6 (.inl (K.1, 160, .inl (fun _ => 0))))) ++ k_seq q3 (.inl (K.2.2.2.1, 6, .inr (.inr (.inr (.inr (fun i => if i < 6 then some (q3 + 1 + i) else none))))) :: List.replicate 6 (.inl (K.1, 3, .inl (fun _ => 0))))) ++ [(q4, .inl (K.1, 6, .inl (fun _ => 0)))]) ++ k_seq q5 (.inl (K.2.2.2.1, 6, .inr (.inr (.inr (.inr (fun i => if i < 6 then some (q5 + 1 + i) else none))))) :: List.replicate 6 (.inl (K.1, 5, .inl (fun _ => 0))))) ++ k_seq q6 (.inl (K.2.2.2.1, 2, .inr (.inr (.inr (.inr (fun i => if i < 2 then some (q6 + 1 + i) else none))))) :: List.replicate 2 (.inl (K.1, 6, .inl (fun _ => 0))))) ++ [(q7, .inl (K.1, 6, .inl (fun _ => 0)))])) := hD
  refine lv_aload_n hx hb dX4_init_77 rfl (lv_at hl 0 rfl) ?_
  refine lv_sipush hx hb (v := (160 : Int32)) dX4_init_78 (by decide) ?_
  refine c_newi F hP hD hS hA 160 (by decide) (by decide) (by decide) (Nat.le_of_ble_eq_true rfl) (Nat.le_of_ble_eq_true rfl) dX4_init_81 (fun q8 H hP hD hS => ?_)
  have hP : va_P D vwCl ((h0, .inr (4, [.null, .ref q1, .ref q2, .ref q3, .ref q4, .ref q5, .ref q6, .ref q7, .null, .int 0, .int 0])) :: ((((((((WX8 K q1 u1) ++ k_seq q2 (.inl (K.2.2.2.1, 6, .inr (.inr (.inr (.inr (fun i => if i < 6 then some (q2 + 1 + i) else none))))) :: List.replicate 6 (.inl (K.1, 160, .inl (fun _ => 0))))) ++ k_seq q3 (.inl (K.2.2.2.1, 6, .inr (.inr (.inr (.inr (fun i => if i < 6 then some (q3 + 1 + i) else none))))) :: List.replicate 6 (.inl (K.1, 3, .inl (fun _ => 0))))) ++ [(q4, .inl (K.1, 6, .inl (fun _ => 0)))]) ++ k_seq q5 (.inl (K.2.2.2.1, 6, .inr (.inr (.inr (.inr (fun i => if i < 6 then some (q5 + 1 + i) else none))))) :: List.replicate 6 (.inl (K.1, 5, .inl (fun _ => 0))))) ++ k_seq q6 (.inl (K.2.2.2.1, 2, .inr (.inr (.inr (.inr (fun i => if i < 2 then some (q6 + 1 + i) else none))))) :: List.replicate 2 (.inl (K.1, 6, .inl (fun _ => 0))))) ++ [(q7, .inl (K.1, 6, .inl (fun _ => 0)))]) ++ [(q8, .inl (K.1, 160, .inl (fun _ => 0)))])) H := hP
  have hD : va_D (va_A [(h0, .inr (4, [.null, .null, .null, .null, .null, .null, .null, .null, .null, .int 0, .int 0]))] s.heap.size) ((h0, .inr (4, [.null, .ref q1, .ref q2, .ref q3, .ref q4, .ref q5, .ref q6, .ref q7, .null, .int 0, .int 0])) :: ((((((((WX8 K q1 u1) ++ k_seq q2 (.inl (K.2.2.2.1, 6, .inr (.inr (.inr (.inr (fun i => if i < 6 then some (q2 + 1 + i) else none))))) :: List.replicate 6 (.inl (K.1, 160, .inl (fun _ => 0))))) ++ k_seq q3 (.inl (K.2.2.2.1, 6, .inr (.inr (.inr (.inr (fun i => if i < 6 then some (q3 + 1 + i) else none))))) :: List.replicate 6 (.inl (K.1, 3, .inl (fun _ => 0))))) ++ [(q4, .inl (K.1, 6, .inl (fun _ => 0)))]) ++ k_seq q5 (.inl (K.2.2.2.1, 6, .inr (.inr (.inr (.inr (fun i => if i < 6 then some (q5 + 1 + i) else none))))) :: List.replicate 6 (.inl (K.1, 5, .inl (fun _ => 0))))) ++ k_seq q6 (.inl (K.2.2.2.1, 2, .inr (.inr (.inr (.inr (fun i => if i < 2 then some (q6 + 1 + i) else none))))) :: List.replicate 2 (.inl (K.1, 6, .inl (fun _ => 0))))) ++ [(q7, .inl (K.1, 6, .inl (fun _ => 0)))]) ++ [(q8, .inl (K.1, 160, .inl (fun _ => 0)))])) := hD
  refine W.widen (k := 31) (n := 1544) (Nat.le_of_ble_eq_true rfl) (Nat.le_of_ble_eq_true rfl) ?_
  refine c_putF F 8 270 (ci := 4) (N := 11) (T := TX4) (v := .ref q8) (ty := .array .int) rfl (by decide +kernel) (Nat.le_of_ble_eq_true rfl) rfl rfl (by decide +kernel) rfl rfl (Nat.le_of_ble_eq_true rfl) hP hD hS dX4_init_83 (fun H locs hP hD hS => ?_)
  have hP : va_P D vwCl ((h0, .inr (4, [.null, .ref q1, .ref q2, .ref q3, .ref q4, .ref q5, .ref q6, .ref q7, .ref q8, .int 0, .int 0])) :: ((((((((WX8 K q1 u1) ++ k_seq q2 (.inl (K.2.2.2.1, 6, .inr (.inr (.inr (.inr (fun i => if i < 6 then some (q2 + 1 + i) else none))))) :: List.replicate 6 (.inl (K.1, 160, .inl (fun _ => 0))))) ++ k_seq q3 (.inl (K.2.2.2.1, 6, .inr (.inr (.inr (.inr (fun i => if i < 6 then some (q3 + 1 + i) else none))))) :: List.replicate 6 (.inl (K.1, 3, .inl (fun _ => 0))))) ++ [(q4, .inl (K.1, 6, .inl (fun _ => 0)))]) ++ k_seq q5 (.inl (K.2.2.2.1, 6, .inr (.inr (.inr (.inr (fun i => if i < 6 then some (q5 + 1 + i) else none))))) :: List.replicate 6 (.inl (K.1, 5, .inl (fun _ => 0))))) ++ k_seq q6 (.inl (K.2.2.2.1, 2, .inr (.inr (.inr (.inr (fun i => if i < 2 then some (q6 + 1 + i) else none))))) :: List.replicate 2 (.inl (K.1, 6, .inl (fun _ => 0))))) ++ [(q7, .inl (K.1, 6, .inl (fun _ => 0)))]) ++ [(q8, .inl (K.1, 160, .inl (fun _ => 0)))])) H := hP
  have hD : va_D (va_A [(h0, .inr (4, [.null, .null, .null, .null, .null, .null, .null, .null, .null, .int 0, .int 0]))] s.heap.size) ((h0, .inr (4, [.null, .ref q1, .ref q2, .ref q3, .ref q4, .ref q5, .ref q6, .ref q7, .ref q8, .int 0, .int 0])) :: ((((((((WX8 K q1 u1) ++ k_seq q2 (.inl (K.2.2.2.1, 6, .inr (.inr (.inr (.inr (fun i => if i < 6 then some (q2 + 1 + i) else none))))) :: List.replicate 6 (.inl (K.1, 160, .inl (fun _ => 0))))) ++ k_seq q3 (.inl (K.2.2.2.1, 6, .inr (.inr (.inr (.inr (fun i => if i < 6 then some (q3 + 1 + i) else none))))) :: List.replicate 6 (.inl (K.1, 3, .inl (fun _ => 0))))) ++ [(q4, .inl (K.1, 6, .inl (fun _ => 0)))]) ++ k_seq q5 (.inl (K.2.2.2.1, 6, .inr (.inr (.inr (.inr (fun i => if i < 6 then some (q5 + 1 + i) else none))))) :: List.replicate 6 (.inl (K.1, 5, .inl (fun _ => 0))))) ++ k_seq q6 (.inl (K.2.2.2.1, 2, .inr (.inr (.inr (.inr (fun i => if i < 2 then some (q6 + 1 + i) else none))))) :: List.replicate 2 (.inl (K.1, 6, .inl (fun _ => 0))))) ++ [(q7, .inl (K.1, 6, .inl (fun _ => 0)))]) ++ [(q8, .inl (K.1, 160, .inl (fun _ => 0)))])) := hD
  refine lv_aload_n hx hb dX4_init_86 rfl (lv_at hl 0 rfl) ?_
  refine lv_aload_n hx hb dX4_init_87 rfl (lv_at hl 1 rfl) ?_
  refine c_putF F 0 253 (ci := 4) (N := 11) (T := TX4) (v := .ref a1) (ty := .object "HowDeep$Ground") rfl (by decide +kernel) (Nat.le_of_ble_eq_true rfl) rfl rfl (by decide +kernel) rfl rfl (Nat.le_of_ble_eq_true rfl) hP hD hS dX4_init_88 (fun H locs hP hD hS => ?_)
  have hP : va_P D vwCl ((h0, .inr (4, [.ref a1, .ref q1, .ref q2, .ref q3, .ref q4, .ref q5, .ref q6, .ref q7, .ref q8, .int 0, .int 0])) :: ((((((((WX8 K q1 u1) ++ k_seq q2 (.inl (K.2.2.2.1, 6, .inr (.inr (.inr (.inr (fun i => if i < 6 then some (q2 + 1 + i) else none))))) :: List.replicate 6 (.inl (K.1, 160, .inl (fun _ => 0))))) ++ k_seq q3 (.inl (K.2.2.2.1, 6, .inr (.inr (.inr (.inr (fun i => if i < 6 then some (q3 + 1 + i) else none))))) :: List.replicate 6 (.inl (K.1, 3, .inl (fun _ => 0))))) ++ [(q4, .inl (K.1, 6, .inl (fun _ => 0)))]) ++ k_seq q5 (.inl (K.2.2.2.1, 6, .inr (.inr (.inr (.inr (fun i => if i < 6 then some (q5 + 1 + i) else none))))) :: List.replicate 6 (.inl (K.1, 5, .inl (fun _ => 0))))) ++ k_seq q6 (.inl (K.2.2.2.1, 2, .inr (.inr (.inr (.inr (fun i => if i < 2 then some (q6 + 1 + i) else none))))) :: List.replicate 2 (.inl (K.1, 6, .inl (fun _ => 0))))) ++ [(q7, .inl (K.1, 6, .inl (fun _ => 0)))]) ++ [(q8, .inl (K.1, 160, .inl (fun _ => 0)))])) H := hP
  have hD : va_D (va_A [(h0, .inr (4, [.null, .null, .null, .null, .null, .null, .null, .null, .null, .int 0, .int 0]))] s.heap.size) ((h0, .inr (4, [.ref a1, .ref q1, .ref q2, .ref q3, .ref q4, .ref q5, .ref q6, .ref q7, .ref q8, .int 0, .int 0])) :: ((((((((WX8 K q1 u1) ++ k_seq q2 (.inl (K.2.2.2.1, 6, .inr (.inr (.inr (.inr (fun i => if i < 6 then some (q2 + 1 + i) else none))))) :: List.replicate 6 (.inl (K.1, 160, .inl (fun _ => 0))))) ++ k_seq q3 (.inl (K.2.2.2.1, 6, .inr (.inr (.inr (.inr (fun i => if i < 6 then some (q3 + 1 + i) else none))))) :: List.replicate 6 (.inl (K.1, 3, .inl (fun _ => 0))))) ++ [(q4, .inl (K.1, 6, .inl (fun _ => 0)))]) ++ k_seq q5 (.inl (K.2.2.2.1, 6, .inr (.inr (.inr (.inr (fun i => if i < 6 then some (q5 + 1 + i) else none))))) :: List.replicate 6 (.inl (K.1, 5, .inl (fun _ => 0))))) ++ k_seq q6 (.inl (K.2.2.2.1, 2, .inr (.inr (.inr (.inr (fun i => if i < 2 then some (q6 + 1 + i) else none))))) :: List.replicate 2 (.inl (K.1, 6, .inl (fun _ => 0))))) ++ [(q7, .inl (K.1, 6, .inl (fun _ => 0)))]) ++ [(q8, .inl (K.1, 160, .inl (fun _ => 0)))])) := hD
  obtain ⟨ad, had⟩ : ∃ ad, ad = (adL ad0 h0 a1 q1 u1 q2 q3 q4 q5 q6 q7 q8) := ⟨_, rfl⟩
  have hW : ((h0, .inr (4, [.ref a1, .ref q1, .ref q2, .ref q3, .ref q4, .ref q5, .ref q6, .ref q7, .ref q8, .int 0, .int 0])) :: ((((((((WX8 K q1 u1) ++ k_seq q2 (.inl (K.2.2.2.1, 6, .inr (.inr (.inr (.inr (fun i => if i < 6 then some (q2 + 1 + i) else none))))) :: List.replicate 6 (.inl (K.1, 160, .inl (fun _ => 0))))) ++ k_seq q3 (.inl (K.2.2.2.1, 6, .inr (.inr (.inr (.inr (fun i => if i < 6 then some (q3 + 1 + i) else none))))) :: List.replicate 6 (.inl (K.1, 3, .inl (fun _ => 0))))) ++ [(q4, .inl (K.1, 6, .inl (fun _ => 0)))]) ++ k_seq q5 (.inl (K.2.2.2.1, 6, .inr (.inr (.inr (.inr (fun i => if i < 6 then some (q5 + 1 + i) else none))))) :: List.replicate 6 (.inl (K.1, 5, .inl (fun _ => 0))))) ++ k_seq q6 (.inl (K.2.2.2.1, 2, .inr (.inr (.inr (.inr (fun i => if i < 2 then some (q6 + 1 + i) else none))))) :: List.replicate 2 (.inl (K.1, 6, .inl (fun _ => 0))))) ++ [(q7, .inl (K.1, 6, .inl (fun _ => 0)))]) ++ [(q8, .inl (K.1, 160, .inl (fun _ => 0)))])) = hwW ad K ksL (mR sc 0) := by rw [had]; rfl
  rw [hW] at hP hD
  have hi : ∀ t, 200 ≤ t → ad t = ad0 t := fun t ht => by rw [had]; exact adL_hi ht
  have a20 : ad 2 0 = h0 := by rw [had]; rfl
  have a30 : ad 3 0 = q1 := by rw [had]; rfl
  have a10 : ad 1 0 = a1 := by rw [had]; rfl
  have hT : hwStr ad0 (fun q => base ≤ q) s s.heap := hG.1.2.2.2.2.2
  have loop : ∀ (j i : Nat) (ls : Array Slot) (H : Heap) (locs : List Loc), i + j = 69 → lv_has ls 3 [(2, .int (nI i)), (0, .ref h0), (1, .ref a1)] → va_P D vwCl (hwW ad K ksL (mR sc i)) H → va_D (va_A [(h0, .inr (4, [.null, .null, .null, .null, .null, .null, .null, .null, .null, .int 0, .int 0]))] s.heap.size) (hwW ad K ksL (mR sc i)) → va_S (va_A [(h0, .inr (4, [.null, .null, .null, .null, .null, .null, .null, .null, .null, .int 0, .int 0]))] s.heap.size) s.heap H locs → W p l e (cRm 12 1000 31 1544) s m [.ref h0, .ref a1].toArray below meth c H locs 31 1544 (MQ below (cPost (BX4 ad0 K D sc h0 a1 (va_A [(h0, .inr (4, [.null, .null, .null, .null, .null, .null, .null, .null, .null, .int 0, .int 0]))] s.heap.size)) (va_A [(h0, .inr (4, [.null, .null, .null, .null, .null, .null, .null, .null, .null, .int 0, .int 0]))] s.heap.size)) [.ref h0, .ref a1].toArray s 31 1544 (va_A [(h0, .inr (4, [.null, .null, .null, .null, .null, .null, .null, .null, .null, .int 0, .int 0]))] s.heap.size)) (F0 m 93 ls []) := by
    intro j
    induction j with
    | zero =>
      intro i ls H locs hij hl hP hD hS
      obtain rfl : i = 69 := by omega
      have hSb := hS.wk hAb
      refine lv_iload_n hx hb dX4_init_93 rfl (lv_at hl 0 rfl) ?_
      refine va_ldcS hx hb hown (hT.2.1 0 (by decide)) dX4_init_94 ?_
      refine j_call (va_runV (As := []) (rest := [.int (nI 69)]) (C := "java/lang/String") ⟨hx, hb, hml, hown, hts⟩ (j_length (l := l) (ad := ad0) (A := fun q => base ≤ q) 0 0 (by decide)) (cwV 0 hts (j_good (List.forall_mem_append.mpr ⟨List.forall_mem_cons.mpr ⟨hwWd_mem (d := 201) (w := .methodLink RX4 48 yJ0_length_8abf5) (by decide +kernel), List.forall_mem_cons.mpr ⟨jw_length.2.1, List.forall_mem_cons.mpr ⟨jw_length.2.2, List.forall_mem_cons.mpr ⟨jw_length.1.2, fun _ h => absurd h List.not_mem_nil⟩⟩⟩⟩, List.forall_mem_cons.mpr ⟨jw_length.1.1, fun _ h => h⟩⟩)) rfl rfl rfl (by decide +kernel) ⟨Nat.le_of_ble_eq_true rfl, Nat.le_of_ble_eq_true rfl⟩) ⟨j_blind, vk_recv hT.1 (by decide) hSb, fun U hU hW => ⟨rfl, by show hwStr ad0 _ U U.heap; rw [hU]; exact hwStr.go hT hW hSb.2.1⟩⟩ rfl rfl hl.1 rfl (lv_room (Nat.le_of_ble_eq_true rfl)) dX4_init_96 ⟨Nat.le_of_ble_eq_true rfl, Nat.le_of_ble_eq_true rfl⟩) ?_
      refine lv_icmp_ge hx hb (x := nI 69) (y := nI 69) (tgt := 124) dX4_init_99 rfl (fun _ => ?_) (fun z => absurd (Int32.le_refl _) z)
      exact c_ret F hr hlocks (Nat.le_of_ble_eq_true rfl) (Nat.le_of_ble_eq_true rfl) hS ad (fun t ht => ⟨⟨hi, a20, a10⟩, by rw [ht]; exact hP, hD⟩) dX4_init_124
    | succ j ih =>
      intro i ls H locs hij hl hP hD hS
      have i69 : i < 69 := by omega
      have hSb := hS.wk hAb
      refine lv_iload_n hx hb dX4_init_93 rfl (lv_at hl 0 rfl) ?_
      refine va_ldcS hx hb hown (hT.2.1 0 (by decide)) dX4_init_94 ?_
      refine j_call (va_runV (As := []) (rest := [.int (nI i)]) (C := "java/lang/String") ⟨hx, hb, hml, hown, hts⟩ (j_length (l := l) (ad := ad0) (A := fun q => base ≤ q) 0 0 (by decide)) (cwV 0 hts (j_good (List.forall_mem_append.mpr ⟨List.forall_mem_cons.mpr ⟨hwWd_mem (d := 201) (w := .methodLink RX4 48 yJ0_length_8abf5) (by decide +kernel), List.forall_mem_cons.mpr ⟨jw_length.2.1, List.forall_mem_cons.mpr ⟨jw_length.2.2, List.forall_mem_cons.mpr ⟨jw_length.1.2, fun _ h => absurd h List.not_mem_nil⟩⟩⟩⟩, List.forall_mem_cons.mpr ⟨jw_length.1.1, fun _ h => h⟩⟩)) rfl rfl rfl (by decide +kernel) ⟨Nat.le_of_ble_eq_true rfl, Nat.le_of_ble_eq_true rfl⟩) ⟨j_blind, vk_recv hT.1 (by decide) hSb, fun U hU hW => ⟨rfl, by show hwStr ad0 _ U U.heap; rw [hU]; exact hwStr.go hT hW hSb.2.1⟩⟩ rfl rfl hl.1 rfl (lv_room (Nat.le_of_ble_eq_true rfl)) dX4_init_96 ⟨Nat.le_of_ble_eq_true rfl, Nat.le_of_ble_eq_true rfl⟩) ?_
      refine lv_icmp_ge hx hb (x := nI i) (y := nI 69) (tgt := 124) dX4_init_99 rfl (fun z => absurd z (nI_ge i69 (by decide))) (fun _ => ?_)
      refine lv_aload_n hx hb dX4_init_102 rfl (lv_at hl 1 rfl) ?_
      have hP0 : va_P D vwCl ((h0, .inr (4, [.ref a1, .ref q1, .ref q2, .ref q3, .ref q4, .ref q5, .ref q6, .ref q7, .ref q8, .int 0, .int 0])) :: (hwW ad K ksL (mR sc i)).tail) H := by
        have e : hwW ad K ksL (mR sc i) = (h0, .inr (4, [.ref a1, .ref q1, .ref q2, .ref q3, .ref q4, .ref q5, .ref q6, .ref q7, .ref q8, .int 0, .int 0])) :: (hwW ad K ksL (mR sc i)).tail := by
          have m2 : ∀ k, (mR sc i).1 2 k = 0 := fun k => by rw [(mR_at sc i).2.2.1 2 (by decide)]; rfl
          have h9 : hwCo ad K (mR sc i) (2, 0) = .inr (4, [.ref a1, .ref q1, .ref q2, .ref q3, .ref q4, .ref q5, .ref q6, .ref q7, .ref q8, .int 0, .int 0]) := by
            rw [had]
            show (Sum.inr (4, [.ref a1, .ref q1, .ref q2, .ref q3, .ref q4, .ref q5, .ref q6, .ref q7, .ref q8, .int ((mR sc i).1 2 9), .int ((mR sc i).1 2 10)]) : va_E) = _
            rw [m2, m2]
          show (ad 2 0, hwCo ad K (mR sc i) (2, 0)) :: _ = _
          rw [h9, a20]
          rfl
        rw [← e]; exact hP
      refine c_get F 1 254 (ci := 4) (N := 11) (T := TX4) (v := .ref q1) rfl (by decide +kernel) (Nat.le_of_ble_eq_true rfl) rfl hP0 dX4_init_103 ?_
      refine va_ldcS hx hb hown (hT.2.1 0 (by decide)) dX4_init_106 ?_
      refine lv_iload_n hx hb dX4_init_108 rfl (lv_at hl 0 rfl) ?_
      obtain ⟨⟨c1, c2, c3⟩, c4⟩ := j_charV 0 (by decide) (nI i) (out_nI (n := 69) i69 (by decide))
      refine j_call (va_runV (As := [.int (nI i)]) (rest := [.ref q1]) (C := "java/lang/String") ⟨hx, hb, hml, hown, hts⟩ (j_charAt (l := l) (ad := ad0) (A := fun q => base ≤ q) 0 0 (by decide) (nI i) c1 c2 c3) (cwV 1 hts (j_good (List.forall_mem_append.mpr ⟨List.forall_mem_cons.mpr ⟨hwWd_mem (d := 211) (w := .methodLink RX4 54 yJ0_charAt_5068e) (by decide +kernel), List.forall_mem_cons.mpr ⟨jw_charAt.2.1, List.forall_mem_cons.mpr ⟨jw_charAt.2.2, List.forall_mem_cons.mpr ⟨jw_charAt.1.2, fun _ h => absurd h List.not_mem_nil⟩⟩⟩⟩, List.forall_mem_cons.mpr ⟨jw_charAt.1.1, fun _ h => h⟩⟩)) rfl rfl rfl (by decide +kernel) ⟨Nat.le_of_ble_eq_true rfl, Nat.le_of_ble_eq_true rfl⟩) ⟨j_blind, vk_recv hT.1 (by decide) hSb, fun U hU hW => ⟨rfl, by show hwStr ad0 _ U U.heap; rw [hU]; exact hwStr.go hT hW hSb.2.1⟩⟩ rfl rfl hl.1 rfl (lv_room (Nat.le_of_ble_eq_true rfl)) dX4_init_109 ⟨Nat.le_of_ble_eq_true rfl, Nat.le_of_ble_eq_true rfl⟩) ?_
      rw [c4, nI_clamp (by omega)]
      show W p l e _ s m _ below meth c H locs 31 1544 _ (F0 m 112 ls [.int (nI (iCh i)), .ref q1])
      refine lv_i2l hx hb (v := (nI (iCh i)).toInt64) dX4_init_112 rfl ?_
      refine lv_iconst hx hb (v := (1 : Int32)) dX4_init_113 (by decide) ?_
      have hrec := mR_rec sc i (by omega) (nI (iCh i)).toInt64 (iCh_w i i69)
      have hPk := hwW_sub hP ksR_L
      have hDD := hwW_DD hD ksR_L (by decide +kernel)
      have hAA : ∀ x, hwAd ad ksR x → (va_A [(h0, .inr (4, [.null, .null, .null, .null, .null, .null, .null, .null, .null, .int 0, .int 0]))] s.heap.size) x := fun x ⟨q, hq, hx9⟩ => by
        obtain ⟨j9, -, h4⟩ := hwW_get (ad := ad) (K := K) (σ := mR sc i) (ksR_L q hq)
        rw [← hx9]
        exact hD.2 j9 _ h4
      have e3 : (.ref q1 : Value) = .ref (ad 3 0) := by rw [a30]
      rw [e3]
      refine c_hV F (ad := ad) (A' := hwAd ad ksR) (ks := ksR) (σ := mR sc i) (Qp := fun r τ => r = some (.inl (nI (i + 1))) ∧ τ = mR sc (i + 1)) ksR_cl hDD hAA hAb (fun t ht => by rw [hi t ht]) 2 1 mX8_record 249 3 8 0 [.inr (.inl (nI (iCh i)).toInt64), .inl 1] (by decide +kernel) recR_ok.1 recR_ok.2 rfl (by decide +kernel) rfl rfl rfl (T_X8_record 0 200 _ _ _ _ _ _ hrec ⟨rfl, rfl⟩) (fun v hv => ?_) (by rw [(mR_at sc i).2.2.2.2.2.2]; rfl) ⟨Nat.le_of_ble_eq_true rfl, Nat.le_of_ble_eq_true rfl⟩ hPk hS hl.1 (Nat.le_of_ble_eq_true rfl) dX4_init_114 ⟨Nat.le_of_ble_eq_true rfl, Nat.le_of_ble_eq_true rfl⟩ (fun r τ H1 locs1 hQ hPk1 _ _ hk1 hS1 => ?_)
      · simp only [List.mem_cons, List.not_mem_nil, or_false] at hv
        rcases hv with rfl | rfl | rfl
        · exact Or.inl (by decide)
        · trivial
        · trivial
      obtain ⟨rfl, rfl⟩ := hQ
      have hP1 : va_P D vwCl (hwW ad K ksL (mR sc (i + 1))) H1 := hwW_fr hP hD ksR_L hPk1 hk1 (fun q hq hn => by
        obtain ⟨z1, z2, z3, z4, z5, z6, z7⟩ := mR_at sc i
        obtain ⟨y1, y2, y3, y4, y5, y6, y7⟩ := mR_at sc (i + 1)
        have n3 : q.1 ≠ 3 := fun z => by
          have : ∀ q, q ∈ ksL → q.1 = 3 → q ∈ ksR := by decide
          exact hn (this q hq z)
        have n62 : q.1 ≠ 62 := fun z => by
          have : ∀ q, q ∈ ksL → q.1 = 62 → q ∈ ksR := by decide
          exact hn (this q hq z)
        exact hwCo_congr (fun k => by rw [y3 _ n3, z3 _ n3]) (fun k => by rw [y6, z6]) (by rw [y5 _ n62, z5 _ n62]) (by rw [y7, z7]))
      have hD1 := hwW_D hD (mR sc (i + 1))
      show W p l e _ s m _ below meth c H1 locs1 31 1544 _ (F0 m 117 ls [.int (nI (i + 1))])
      refine lv_pop hx hb dX4_init_117 rfl ?_
      refine lv_iinc hx hb (k := 0) (x := nI i) (v := nI (i + 1)) dX4_init_118 hl rfl (nI_1 i) (by decide) rfl (fun ls' hl' => ?_)
      refine lv_goto hx hb (tgt := 93) dX4_init_121 rfl ?_
      exact ih (i + 1) ls' H1 locs1 (by omega) hl' hP1 hD1 hS1
  refine lv_iconst hx hb (v := (0 : Int32)) dX4_init_91 (by decide) ?_
  refine lv_istore_n hx hb dX4_init_92 rfl hl (by decide) rfl (fun ls' hl' => ?_)
  exact loop 69 0 ls' H locs rfl hl' hP hD hS

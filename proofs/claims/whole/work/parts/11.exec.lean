/-! FROM THE ABSTRACT MACHINE TO THE MACHINE, 5: members of the library; every instruction -/
theorem bif_no {α : Type} {b : Bool} {a q : α} (h : (bif b then some a else none) = some q) : b = true ∧ q = a := by
  cases b with
  | false => cases h
  | true => exact ⟨rfl, (Option.some.inj h).symm⟩
theorem bif_no2 {α : Type} {b : Bool} {a : Option α} {q : α} (h : (bif b then a else none) = some q) : b = true ∧ a = some q := by
  cases b with
  | false => cases h
  | true => exact ⟨rfl, h⟩
theorem okP_at : (Jvm.Cond.static Lib.Math.max.name ∈ hwTB ∧ Jvm.Cond.code Lib.Math.max.name Lib.Math.max.code 2 (some .int) ∈ hwTB) ∧ (Jvm.Cond.static Lib.Math.min.name ∈ hwTB ∧ Jvm.Cond.code Lib.Math.min.name Lib.Math.min.code 2 (some .int) ∈ hwTB) ∧ (Jvm.Cond.static Lib.Math.abs.name ∈ hwTB ∧ Jvm.Cond.code Lib.Math.abs.name Lib.Math.abs.code 1 (some .int) ∈ hwTB) ∧ (Jvm.Cond.static Lib.MathLoose.max_long.x ∈ hwTB ∧ Jvm.Cond.code Lib.MathLoose.max_long.x Lib.MathLoose.max_long.code 4 (some .long) ∈ hwTB) ∧ Jvm.Cond.initialized "java/lang/Math" ∈ hwTB ∧ Jvm.Cond.static arraycopyName ∈ hwTB ∧ Jvm.Cond.native arraycopyName ∈ hwTB ∧ Jvm.Cond.initialized "java/lang/System" ∈ hwTB := by
  have h := okP_ok
  simp only [okP, Bool.and_eq_true] at h
  obtain ⟨⟨⟨⟨⟨⟨⟨⟨⟨⟨⟨a1, a2⟩, a3⟩, a4⟩, a5⟩, a6⟩, a7⟩, a8⟩, a9⟩, a10⟩, a11⟩, a12⟩ := h
  exact ⟨⟨hwWd_mem a1, hwWd_mem a2⟩, ⟨hwWd_mem a3, hwWd_mem a4⟩, ⟨hwWd_mem a5, hwWd_mem a6⟩, ⟨hwWd_mem a7, hwWd_mem a8⟩, hwWd_mem a9, hwWd_mem a10, hwWd_mem a11, hwWd_mem a12⟩
section EX
variable {p : Program} {l : Launch} {e : Env} {R : Room} {s : State} {m : MethodId} {args : Array Value} {below : List Frame} {meth : Method} {c : Code} {H : Heap} {locs : List Loc} {cells slots : Nat} {Qf : State → Prop} {cc : ByteArray} {ls : Array Slot}
variable {ad : Nat → Nat → Nat} {K : Kc} {ks : List (Nat × Nat)} {A : Nat → Prop} {D : va_G} {N : Nat} {sc : Nat × (Nat → Int32)} {pc n : Nat} {L : Lc} {st : List AV} {τ : Mem} {q : Fr × Mem}
theorem x_prim (hcl : hwCl ks) (hx : p.tables.exec = Jvm.exec) (hb : c.code = cc) (hml : c.maxLocals = N) (hts : ∀ w ∈ hwTB, w.before args s = true) {own : String} (hown : s.vm.findClass own = some m.cls) (hG : hwG ad K A D sc s s.heap) (hR : 1 ≤ R.frames ∧ 60 ≤ R.locals ∧ cells ≤ R.cells ∧ slots ≤ R.slots) {a d idx : Nat}
    (hok : (match a with
      | 10 => hwWd d (.methodLink own idx Lib.Math.max.name)
      | 11 => hwWd d (.methodLink own idx Lib.Math.min.name)
      | 12 => hwWd d (.methodLink own idx Lib.Math.abs.name)
      | 13 => hwWd d (.methodLink own idx Lib.MathLoose.max_long.x)
      | 14 => hwWd d (.methodLink own idx arraycopyName)
      | _ => false) = true) (hdg : decode cc pc = .ok (.invokestatic idx, 3)) (hn : n = pc + 3) (hX : hwPrim a n L st τ = some q) (hI : hwInv ad K ks A D N sc s.heap (pc, L, st) τ H ls locs) (k : hwK p l e R s m args below meth c cells slots Qf ad K ks A D N sc q.1 q.2) :
    W p l e R s m args below meth c H locs cells slots Qf (F0 m pc ls (st.map (hwV ad))) := by
  subst hn
  have hml2 : c.maxLocals = ls.size := hml.trans hI.2.1.1.symm
  obtain ⟨⟨w1, w2⟩, ⟨w3, w4⟩, ⟨w5, w6⟩, ⟨w7, w8⟩, w9, w10, w11, w12⟩ := okP_at
  have hst := hI.ok
  split at hok
  · have hlk := hts _ (hwWd_mem hok)
    rcases st with _ | ⟨y | y | y, _ | ⟨x | x | x, st⟩⟩ <;> try (cases hX; done)
    obtain ⟨h1, rfl⟩ := bif_no (show (bif Nat.ble (hwCats st) 8 then some ((pc + 3, L, .inl (if x < y then y else x) :: st), τ) else none) = some q from hX)
    exact va_mmax hx hb hml2 hown hlk (hts _ w1) (hts _ w9) (hts _ w2) hR.1 (by rw [hwCats_cat]; have := ble_t h1; omega) hR.2.2.1 hR.2.2.2 hdg (k H ls locs (hI.to (pc + 3) (ok_cs trivial (ok_tl (ok_tl hst)))))
  · have hlk := hts _ (hwWd_mem hok)
    rcases st with _ | ⟨y | y | y, _ | ⟨x | x | x, st⟩⟩ <;> try (cases hX; done)
    obtain ⟨h1, rfl⟩ := bif_no (show (bif Nat.ble (hwCats st) 8 then some ((pc + 3, L, .inl (if y < x then y else x) :: st), τ) else none) = some q from hX)
    exact va_mmin hx hb hml2 hown hlk (hts _ w3) (hts _ w9) (hts _ w4) hR.1 (by rw [hwCats_cat]; have := ble_t h1; omega) hR.2.2.1 hR.2.2.2 hdg (k H ls locs (hI.to (pc + 3) (ok_cs trivial (ok_tl (ok_tl hst)))))
  · have hlk := hts _ (hwWd_mem hok)
    rcases st with _ | ⟨x | x | x, st⟩ <;> try (cases hX; done)
    obtain ⟨h1, rfl⟩ := bif_no (show (bif Nat.ble (hwCats st) 8 then some ((pc + 3, L, .inl (if 0 ≤ x then x else 0 - x) :: st), τ) else none) = some q from hX)
    exact va_mabs hx hb hml2 hown hlk (hts _ w5) (hts _ w9) (hts _ w6) hR.1 (by rw [hwCats_cat]; have := ble_t h1; omega) hR.2.2.1 hR.2.2.2 hdg (k H ls locs (hI.to (pc + 3) (ok_cs trivial (ok_tl hst))))
  · have hlk := hts _ (hwWd_mem hok)
    rcases st with _ | ⟨y | y | y, _ | ⟨x | x | x, st⟩⟩ <;> try (cases hX; done)
    obtain ⟨h1, rfl⟩ := bif_no (show (bif Nat.ble (hwCats st) 8 then some ((pc + 3, L, .inr (.inl (if y < x then x else y)) :: st), τ) else none) = some q from hX)
    exact va_mmax_long hx hb hml2 hown hlk (hts _ w7) (hts _ w9) (hts _ w8) hR.1 (by rw [hwCats_cat]; have := ble_t h1; omega) hR.2.2.1 hR.2.2.2 hdg (k H ls locs (hI.to (pc + 3) (ok_cs trivial (ok_tl (ok_tl hst)))))
  · have hlk := hts _ (hwWd_mem hok)
    rcases st with _ | ⟨z | z | z, _ | ⟨dp | dp | dp, _ | ⟨y | y | ⟨t1, q1⟩, _ | ⟨sp | sp | sp, _ | ⟨x | x | ⟨t0, q0⟩, st⟩⟩⟩⟩⟩ <;> try (cases hX; done)
    unfold hwPrim at hX
    simp only at hX
    obtain ⟨h1, hX⟩ := bif_no2 hX
    have hok0 := ok_hd (ok_tl (ok_tl (ok_tl (ok_tl hst))))
    have hok1 := ok_hd (ok_tl (ok_tl hst))
    have hst := ok_tl (ok_tl (ok_tl (ok_tl (ok_tl hst))))
    have hroom : ((st.map (hwV ad)).map fun v => v.category).sum + (nativeFrameWords "java/lang/System" "arraycopy" 5 + 11) ≤ R.locals := by
      rw [hwCats_cat]
      have h2 := ble_t h1
      have h3 : nativeFrameWords "java/lang/System" "arraycopy" 5 + 11 ≤ 50 := by decide
      omega
    split at hX
    · rename_i m0 b0 fl0 m1 b1 fl1 hs0 hs1
      obtain ⟨h2, rfl⟩ := ite_no hX
      have g1 : ¬ sp < 0 := fun z => h2 (Or.inl z)
      have g2 : ¬ dp < 0 := fun z => h2 (Or.inr (Or.inl z))
      have g3 : ¬ z < 0 := fun z => h2 (Or.inr (Or.inr (Or.inl z)))
      have g4 : sp.toNatClampNeg + z.toNatClampNeg ≤ m0 := Nat.not_lt.mp fun z => h2 (Or.inr (Or.inr (Or.inr (Or.inl z))))
      have g5 : dp.toNatClampNeg + z.toNatClampNeg ≤ m1 := Nat.not_lt.mp fun z => h2 (Or.inr (Or.inr (Or.inr (Or.inr z))))
      obtain ⟨i0, -, hw0⟩ := hwW_row (ad := ad) (K := K) hok0 (by rw [hs0]; exact (by decide : 1 < 6))
      obtain ⟨i1, hi1, hw1⟩ := hwW_row (ad := ad) (K := K) hok1 (by rw [hs1]; exact (by decide : 1 < 6))
      have hw0 := hw0 τ
      have hw1 := hw1 τ
      have hco : ∀ σ : Mem, hwCo ad K σ (t1, q1) = .inl (K.1, m1, .inl (σ.2.2.1 t1 q1)) := fun σ => by simp only [hwCo, hs1]
      rw [show hwCo ad K τ (t0, q0) = .inl (K.1, m0, .inl (τ.2.2.1 t0 q0)) by simp only [hwCo, hs0]] at hw0
      rw [hco] at hw1
      refine va_copyi hx hb hml2 hown hlk (hts _ w11) (hts _ w10) (hts _ w12) hG.1 hI.2.2.2.2.1 hI.2.2.2.2.2.1 hI.2.2.2.2.2.2.1 i0 i1 0 0 hw0 hw1 rfl rfl rfl g1 g2 g3 g4 g5 (fun _ _ => rfl) hR.1 hroom hdg (fun H1 locs1 hP hD hS => ?_)
      exact k H1 ls locs1 (hwInv.put hcl hI (pc + 3) hst (q := (t1, q1)) hi1 (by rw [hco]; simp only [hwR3_eq]) (fun q' hq' hne => hwCo_congr (fun _ => rfl) (fun _ => rfl) (hwR3_ne (nn_in hne)) rfl) rfl hP hD hS)
    · rename_i m0 b0 fl0 m1 b1 fl1 hs0 hs1
      obtain ⟨h2, rfl⟩ := ite_no hX
      have g1 : ¬ sp < 0 := fun z => h2 (Or.inl z)
      have g2 : ¬ dp < 0 := fun z => h2 (Or.inr (Or.inl z))
      have g3 : ¬ z < 0 := fun z => h2 (Or.inr (Or.inr (Or.inl z)))
      have g4 : sp.toNatClampNeg + z.toNatClampNeg ≤ m0 := Nat.not_lt.mp fun z => h2 (Or.inr (Or.inr (Or.inr (Or.inl z))))
      have g5 : dp.toNatClampNeg + z.toNatClampNeg ≤ m1 := Nat.not_lt.mp fun z => h2 (Or.inr (Or.inr (Or.inr (Or.inr z))))
      obtain ⟨i0, -, hw0⟩ := hwW_row (ad := ad) (K := K) hok0 (by rw [hs0]; exact (by decide : 3 < 6))
      obtain ⟨i1, hi1, hw1⟩ := hwW_row (ad := ad) (K := K) hok1 (by rw [hs1]; exact (by decide : 3 < 6))
      have hw0 := hw0 τ
      have hw1 := hw1 τ
      have hco : ∀ σ : Mem, hwCo ad K σ (t1, q1) = .inl (K.2.1, m1, .inr (.inl (σ.2.2.2.1 t1 q1))) := fun σ => by simp only [hwCo, hs1]
      rw [show hwCo ad K τ (t0, q0) = .inl (K.2.1, m0, .inr (.inl (τ.2.2.2.1 t0 q0))) by simp only [hwCo, hs0]] at hw0
      rw [hco] at hw1
      refine va_copyl hx hb hml2 hown hlk (hts _ w11) (hts _ w10) (hts _ w12) hG.1 hI.2.2.2.2.1 hI.2.2.2.2.2.1 hI.2.2.2.2.2.2.1 i0 i1 1 1 hw0 hw1 rfl rfl rfl g1 g2 g3 g4 g5 (fun _ _ => rfl) hR.1 hroom hdg (fun H1 locs1 hP hD hS => ?_)
      exact k H1 ls locs1 (hwInv.put hcl hI (pc + 3) hst (q := (t1, q1)) hi1 (by rw [hco]; simp only [hwR3_eq]) (fun q' hq' hne => hwCo_congr (fun _ => rfl) (fun _ => rfl) rfl (hwR3_ne (nn_in hne))) rfl hP hD hS)
    · cases hX
  · cases hok
theorem x_str (hcl : hwCl ks) (hx : p.tables.exec = Jvm.exec) (hb : c.code = cc) (hml : c.maxLocals = N) (hts : ∀ w ∈ hwTB, w.before args s = true) {own : String} (hown : s.vm.findClass own = some m.cls) (hG : hwG ad K A D sc s s.heap) (hR : 8 ≤ R.frames ∧ 600 ≤ R.locals ∧ cells ≤ R.cells ∧ slots ≤ R.slots) {a d idx : Nat}
    (hok : (match a with
      | 20 => hwWd d (.methodLink own idx yJ0_charAt_5068e)
      | 21 => hwWd d (.methodLink own idx yJ0_indexOf_0f7a4)
      | _ => false) = true) (hdg : decode cc pc = .ok (.invokevirtual idx, 3)) (hX : hwPrim a (pc + 3) L st τ = some q) (hI : hwInv ad K ks A D N sc s.heap (pc, L, st) τ H ls locs) (k : hwK p l e R s m args below meth c cells slots Qf ad K ks A D N sc q.1 q.2) :
    W p l e R s m args below meth c H locs cells slots Qf (F0 m pc ls (st.map (hwV ad))) := by
  have hst := hI.ok
  have hls : ls.size = N := hI.2.1.1
  have hS : va_S A s.heap H locs := hI.2.2.2.2.2.2.1
  have hT : hwStr ad A s s.heap := hG.2.2.2.2.2
  split at hok
  · have hlk := hwWd_mem hok
    rcases st with _ | ⟨x | x | x, _ | ⟨y | y | ⟨t, r⟩, st⟩⟩ <;> try (cases hX; done)
    unfold hwPrim at hX
    simp only at hX
    obtain ⟨h8, hX⟩ := bif_no2 hX
    split at hX
    · rename_i a0 b0 fl hsh
      obtain ⟨h1, rfl⟩ := ite_no hX
      obtain ⟨e1, e2⟩ := hwSh_8 (t := t) (by rw [hsh])
      rw [hsh] at e1 e2
      have e1 : t = 210 + a0 := e1
      have e2 : a0 < 3 := e2
      obtain rfl := hwOk_hi hcl (ok_hd (ok_tl hst)) (by omega : 200 ≤ t)
      subst e1
      obtain ⟨⟨c1, c2, c3⟩, c4⟩ := j_charV a0 e2 x h1
      refine j_call (va_runV (As := [.int x]) (rest := st.map (hwV ad)) (C := "java/lang/String") ⟨hx, hb, hml, hown, hts⟩ (j_charAt (l := l) (A := A) 0 a0 e2 x c1 c2 c3) (cwV 1 hts (j_good (List.forall_mem_append.mpr ⟨List.forall_mem_cons.mpr ⟨hlk, List.forall_mem_cons.mpr ⟨jw_charAt.2.1, List.forall_mem_cons.mpr ⟨jw_charAt.2.2, List.forall_mem_cons.mpr ⟨jw_charAt.1.2, fun _ h => absurd h List.not_mem_nil⟩⟩⟩⟩, List.forall_mem_cons.mpr ⟨jw_charAt.1.1, fun _ h => h⟩⟩)) rfl rfl rfl (by decide +kernel) ⟨Nat.le_trans (by decide : 4 + 1 ≤ 8) hR.1, Nat.le_trans (by decide : 8 + (2 + 11) + 60 * 4 ≤ 600) hR.2.1⟩) ⟨j_blind, vk_recv hT.1 e2 hS, fun U hU hW => ⟨rfl, by show hwStr ad A U U.heap; rw [hU]; exact hwStr.go hT hW hS.2.1⟩⟩ rfl rfl hls rfl (lv_room (by rw [hwCats_cat]; exact ble_t h8)) hdg ⟨hR.2.2.1, hR.2.2.2⟩) ?_
      rw [c4]
      exact k H ls locs (hI.to (pc + 3) (ok_cs trivial (ok_tl (ok_tl hst))))
    · cases hX
  · have hlk := hwWd_mem hok
    rcases st with _ | ⟨x | x | x, _ | ⟨y | y | ⟨t, r⟩, st⟩⟩ <;> try (cases hX; done)
    unfold hwPrim at hX
    simp only at hX
    obtain ⟨h8, hX⟩ := bif_no2 hX
    split at hX
    · rename_i a0 b0 fl hsh
      obtain rfl := Option.some.inj hX
      obtain ⟨e1, e2⟩ := hwSh_8 (t := t) (by rw [hsh])
      rw [hsh] at e1 e2
      have e1 : t = 210 + a0 := e1
      have e2 : a0 < 3 := e2
      obtain rfl := hwOk_hi hcl (ok_hd (ok_tl hst)) (by omega : 200 ≤ t)
      subst e1
      refine j_call (va_runV (As := [.int x]) (rest := st.map (hwV ad)) (C := "java/lang/String") ⟨hx, hb, hml, hown, hts⟩ (j_indexOf (l := l) (A := A) 0 a0 e2 x) (cwV 1 hts (j_good (List.forall_mem_append.mpr ⟨List.forall_mem_cons.mpr ⟨hlk, List.forall_mem_cons.mpr ⟨jw_indexOf.2.1, List.forall_mem_cons.mpr ⟨jw_indexOf.2.2, List.forall_mem_cons.mpr ⟨jw_indexOf.1.2, fun _ h => absurd h List.not_mem_nil⟩⟩⟩⟩, List.forall_mem_cons.mpr ⟨jw_indexOf.1.1, fun _ h => h⟩⟩)) rfl rfl rfl (by decide +kernel) ⟨Nat.le_trans (by decide : 5 + 1 ≤ 8) hR.1, Nat.le_trans (by decide : 8 + (2 + 11) + 60 * 5 ≤ 600) hR.2.1⟩) ⟨j_blind, vk_recv hT.1 e2 hS, fun U hU hW => ⟨rfl, by show hwStr ad A U U.heap; rw [hU]; exact hwStr.go hT hW hS.2.1⟩⟩ rfl rfl hls rfl (lv_room (by rw [hwCats_cat]; exact ble_t h8)) hdg ⟨hR.2.2.1, hR.2.2.2⟩) ?_
      rw [j_ixV a0 e2 x]
      exact k H ls locs (hI.to (pc + 3) (ok_cs trivial (ok_tl (ok_tl hst))))
    · cases hX
  · cases hok
set_option maxRecDepth 20000 in
/-- every instruction but calls and returns -/
theorem hw_exec (mi : Nat) (hcl : hwCl ks) (hx : p.tables.exec = Jvm.exec) (hb : c.code = hwB mi) (hml : c.maxLocals = hwN mi) (hts : ∀ w ∈ hwTB, w.before args s = true) (hown : s.vm.findClass (hwY mi).cls = some m.cls) (hG : hwG ad K A D sc s s.heap) (hR : 8 ≤ R.frames ∧ 600 ≤ R.locals ∧ cells ≤ R.cells ∧ slots ≤ R.slots)
    {i : Instr} {len : Nat} {dt : Dt} {msk : List Bool} (hok : okL mi (pc, i, len, dt, msk) = true) (hdg : decode (hwB mi) pc = .ok (i, len)) (hX : hwX (pc, i, len, dt, msk) L st τ = some q) (hI : hwInv ad K ks A D (hwN mi) sc s.heap (pc, L, st) τ H ls locs) (k : hwK p l e R s m args below meth c cells slots Qf ad K ks A D (hwN mi) sc q.1 q.2) :
    W p l e R s m args below meth c H locs cells slots Qf (F0 m pc ls (st.map (hwV ad))) := by
  obtain ⟨a, b, c0, d, f, z⟩ := dt
  have hst := hI.ok
  cases i with
  | iconst j =>
    obtain rfl : len = 1 := beq_t hok
    obtain rfl := Option.some.inj hX
    exact lv_iconst hx hb hdg rfl (k H ls locs (hI.to _ (ok_cs trivial hst)))
  | bipush j =>
    obtain ⟨h1, h2⟩ := and_t hok
    obtain rfl : len = 2 := beq_t h1
    obtain rfl := Option.some.inj hX
    exact lv_bipush hx hb hdg (of_decide_eq_true h2) (k H ls locs (hI.to _ (ok_cs trivial hst)))
  | sipush j =>
    obtain ⟨h1, h2⟩ := and_t hok
    obtain rfl : len = 3 := beq_t h1
    obtain rfl := Option.some.inj hX
    exact lv_sipush hx hb hdg (of_decide_eq_true h2) (k H ls locs (hI.to _ (ok_cs trivial hst)))
  | lconst j =>
    obtain ⟨h1, h2⟩ := and_t hok
    obtain rfl : len = 1 := beq_t h1
    obtain rfl := Option.some.inj hX
    exact lv_lconst hx hb hdg (of_decide_eq_true h2) (k H ls locs (hI.to _ (ok_cs trivial hst)))
  | ldc idx =>
    obtain ⟨h1, h2⟩ := and_t hok
    obtain rfl : len = 2 := beq_t h1
    cases a with
    | zero =>
      obtain rfl := Option.some.inj hX
      exact lv_ldc hx hb hown (hts _ (hwWd_mem h2)) hdg (k H ls locs (hI.to _ (ok_cs trivial hst)))
    | succ a =>
      obtain rfl := Option.some.inj hX
      obtain ⟨h2, h6⟩ := and_t h2
      obtain ⟨h2, h5⟩ := and_t h2
      obtain ⟨h3, h4⟩ := and_t h2
      have h3 := ble_t h3
      have h4 := ble_t h4
      have hR2 := hG.2.2.2.2.2.2.1 (b - 210) (by omega)
      rw [of_decide_eq_true h5, beq_t h6, show 210 + (b - 210) = b by omega] at hR2
      exact va_ldcS hx hb hown hR2 hdg (k H ls locs (hI.to (pc + 2) (ok_cs (show hwOk ks (.inr (.inr (b, 0))) from Or.inr ⟨by show 200 ≤ b; omega, rfl⟩) hst)))
  | ldc_w idx =>
    obtain ⟨h1, h2⟩ := and_t hok
    obtain rfl : len = 3 := beq_t h1
    obtain rfl := Option.some.inj hX
    exact lv_ldcw hx hb hown (hts _ (hwWd_mem h2)) hdg (k H ls locs (hI.to _ (ok_cs trivial hst)))
  | ldc2_w idx =>
    obtain ⟨h1, h2⟩ := and_t hok
    obtain rfl : len = 3 := beq_t h1
    obtain rfl := Option.some.inj hX
    exact lv_ldc2 hx hb hown (hts _ (hwWd_mem h2)) hdg (k H ls locs (hI.to _ (ok_cs trivial hst)))
  | iload_n j =>
    obtain rfl : len = 1 := beq_t hok
    obtain ⟨x, h1, rfl⟩ := inv_LdI (show hwLdI (pc + 1) L st τ j = some q from hX)
    exact lv_iload_n hx hb hdg rfl (hwA_at hI.2.1 h1) (k H ls locs (hI.to _ (ok_cs trivial hst)))
  | iload j =>
    obtain rfl : len = 2 := beq_t hok
    obtain ⟨x, h1, rfl⟩ := inv_LdI (show hwLdI (pc + 2) L st τ j = some q from hX)
    exact lv_iload hx hb hdg (hwA_at hI.2.1 h1) (k H ls locs (hI.to _ (ok_cs trivial hst)))
  | lload_n j =>
    obtain rfl : len = 1 := beq_t hok
    obtain ⟨x, h1, rfl⟩ := inv_LdL (show hwLdL (pc + 1) L st τ j = some q from hX)
    exact lv_lload_n hx hb hdg rfl (hwA_at hI.2.1 h1) (k H ls locs (hI.to _ (ok_cs trivial hst)))
  | lload j =>
    obtain rfl : len = 2 := beq_t hok
    obtain ⟨x, h1, rfl⟩ := inv_LdL (show hwLdL (pc + 2) L st τ j = some q from hX)
    exact lv_lload hx hb hdg (hwA_at hI.2.1 h1) (k H ls locs (hI.to _ (ok_cs trivial hst)))
  | aload_n j =>
    obtain rfl : len = 1 := beq_t hok
    obtain ⟨x, h1, rfl⟩ := inv_LdR (show hwLdR (pc + 1) L st τ j = some q from hX)
    exact lv_aload_n hx hb hdg rfl (hwA_at hI.2.1 h1) (k H ls locs (hI.to _ (ok_cs (hI.2.2.1 _ _ h1) hst)))
  | aload j =>
    obtain rfl : len = 2 := beq_t hok
    obtain ⟨x, h1, rfl⟩ := inv_LdR (show hwLdR (pc + 2) L st τ j = some q from hX)
    exact lv_aload hx hb hdg (hwA_at hI.2.1 h1) (k H ls locs (hI.to _ (ok_cs (hI.2.2.1 _ _ h1) hst)))
  | istore_n j =>
    obtain ⟨h1, h2⟩ := and_t hok
    obtain rfl : len = 1 := beq_t h1
    obtain ⟨x, r, rfl, rfl⟩ := inv_StI (show hwStI (pc + 1) L st τ j = some q from hX)
    exact lv_istore_n hx hb hdg rfl hI.2.1 (ble_t h2) rfl (fun ls' h => k H ls' locs (hI.s1 _ (v := .inl x) trivial (ok_tl hst) h))
  | istore j =>
    obtain ⟨h1, h2⟩ := and_t hok
    obtain rfl : len = 2 := beq_t h1
    obtain ⟨x, r, rfl, rfl⟩ := inv_StI (show hwStI (pc + 2) L st τ j = some q from hX)
    exact lv_istore hx hb hdg hI.2.1 (ble_t h2) rfl (fun ls' h => k H ls' locs (hI.s1 _ (v := .inl x) trivial (ok_tl hst) h))
  | astore_n j =>
    obtain ⟨h1, h2⟩ := and_t hok
    obtain rfl : len = 1 := beq_t h1
    obtain ⟨x, r, rfl, rfl⟩ := inv_StR (show hwStR (pc + 1) L st τ j = some q from hX)
    exact lv_astore_n hx hb hdg rfl hI.2.1 (ble_t h2) rfl (fun ls' h => k H ls' locs (hI.s1 _ (v := .inr (.inr x)) (ok_hd hst) (ok_tl hst) h))
  | astore j =>
    obtain ⟨h1, h2⟩ := and_t hok
    obtain rfl : len = 2 := beq_t h1
    obtain ⟨x, r, rfl, rfl⟩ := inv_StR (show hwStR (pc + 2) L st τ j = some q from hX)
    exact lv_astore hx hb hdg hI.2.1 (ble_t h2) rfl (fun ls' h => k H ls' locs (hI.s1 _ (v := .inr (.inr x)) (ok_hd hst) (ok_tl hst) h))
  | lstore_n j =>
    obtain ⟨h1, h2⟩ := and_t hok
    obtain rfl : len = 1 := beq_t h1
    obtain ⟨x, r, rfl, rfl⟩ := inv_StL (show hwStL (pc + 1) L st τ j = some q from hX)
    exact lv_lstore_n hx hb hdg rfl hI.2.1 (ble_t h2) rfl (fun ls' h => k H ls' locs (hI.s2 _ (v := .inr (.inl x)) trivial (ok_tl hst) h))
  | lstore j =>
    obtain ⟨h1, h2⟩ := and_t hok
    obtain rfl : len = 2 := beq_t h1
    obtain ⟨x, r, rfl, rfl⟩ := inv_StL (show hwStL (pc + 2) L st τ j = some q from hX)
    exact lv_lstore hx hb hdg hI.2.1 (ble_t h2) rfl (fun ls' h => k H ls' locs (hI.s2 _ (v := .inr (.inl x)) trivial (ok_tl hst) h))
  | iinc j z1 =>
    obtain ⟨h1, h2⟩ := and_t hok
    obtain rfl : len = 3 := beq_t h1
    have hX : (match ntD none L j with
      | some (.inl x) => some ((pc + 3, hwS1 L j (.inl (x + Int32.ofInt z1)), st), τ)
      | _ => none) = some q := hX
    split at hX
    · rename_i x hL
      obtain rfl := Option.some.inj hX
      obtain ⟨kk, hkk⟩ := List.getElem?_of_mem ((hwA_mem ad L 0 j _).mpr ⟨j, .inl x, (Nat.zero_add j).symm, hL, rfl⟩)
      exact lv_iinc hx hb hdg hI.2.1 hkk rfl (ble_t h2) rfl (fun ls' h => k H ls' locs (hI.s1 _ (v := .inl (x + Int32.ofInt z1)) trivial hst h))
    · cases hX
  | iadd =>
    obtain rfl : len = 1 := beq_t hok
    obtain ⟨x, y, r, rfl, rfl⟩ := inv_I2 (show hwI2 (fun x y => x + y) (pc + 1) L st τ = some q from hX)
    exact lv_iadd hx hb hdg (k H ls locs (hI.to _ (ok_cs trivial (ok_tl (ok_tl hst)))))
  | isub =>
    obtain rfl : len = 1 := beq_t hok
    obtain ⟨x, y, r, rfl, rfl⟩ := inv_I2 (show hwI2 (fun x y => x - y) (pc + 1) L st τ = some q from hX)
    exact lv_isub hx hb hdg (k H ls locs (hI.to _ (ok_cs trivial (ok_tl (ok_tl hst)))))
  | imul =>
    obtain rfl : len = 1 := beq_t hok
    obtain ⟨x, y, r, rfl, rfl⟩ := inv_I2 (show hwI2 (fun x y => x * y) (pc + 1) L st τ = some q from hX)
    exact lv_imul hx hb hdg (k H ls locs (hI.to _ (ok_cs trivial (ok_tl (ok_tl hst)))))
  | iand =>
    obtain rfl : len = 1 := beq_t hok
    obtain ⟨x, y, r, rfl, rfl⟩ := inv_I2 (show hwI2 (fun x y => x &&& y) (pc + 1) L st τ = some q from hX)
    exact lv_iand hx hb hdg (k H ls locs (hI.to _ (ok_cs trivial (ok_tl (ok_tl hst)))))
  | ishl =>
    obtain rfl : len = 1 := beq_t hok
    obtain ⟨x, y, r, rfl, rfl⟩ := inv_I2 (show hwI2 (fun x y => x <<< (y &&& 31)) (pc + 1) L st τ = some q from hX)
    exact lv_ishl hx hb hdg (k H ls locs (hI.to _ (ok_cs trivial (ok_tl (ok_tl hst)))))
  | ishr =>
    obtain rfl : len = 1 := beq_t hok
    obtain ⟨x, y, r, rfl, rfl⟩ := inv_I2 (show hwI2 (fun x y => x >>> (y &&& 31)) (pc + 1) L st τ = some q from hX)
    exact lv_ishr hx hb hdg (k H ls locs (hI.to _ (ok_cs trivial (ok_tl (ok_tl hst)))))
  | idiv =>
    obtain rfl : len = 1 := beq_t hok
    obtain ⟨x, y, r, rfl, h0, rfl⟩ := inv_DivI (show hwDivI (fun x y => x / y) (pc + 1) L st τ = some q from hX)
    exact lv_idiv hx hb hdg h0 (k H ls locs (hI.to _ (ok_cs trivial (ok_tl (ok_tl hst)))))
  | irem =>
    obtain rfl : len = 1 := beq_t hok
    obtain ⟨x, y, r, rfl, h0, rfl⟩ := inv_DivI (show hwDivI (fun x y => x - x / y * y) (pc + 1) L st τ = some q from hX)
    exact lv_irem hx hb hdg h0 (k H ls locs (hI.to _ (ok_cs trivial (ok_tl (ok_tl hst)))))
  | ineg =>
    obtain rfl : len = 1 := beq_t hok
    obtain ⟨x, r, rfl, rfl⟩ := inv_I1 (show hwI1 (fun x => -x) (pc + 1) L st τ = some q from hX)
    exact lv_ineg hx hb hdg (k H ls locs (hI.to _ (ok_cs trivial (ok_tl hst))))
  | i2b =>
    obtain rfl : len = 1 := beq_t hok
    obtain ⟨x, r, rfl, rfl⟩ := inv_I1 (show hwI1 (fun x => x.toInt8.toInt32) (pc + 1) L st τ = some q from hX)
    exact lv_i2b hx hb hdg rfl (k H ls locs (hI.to _ (ok_cs trivial (ok_tl hst))))
  | i2s =>
    obtain rfl : len = 1 := beq_t hok
    obtain ⟨x, r, rfl, rfl⟩ := inv_I1 (show hwI1 (fun x => x.toInt16.toInt32) (pc + 1) L st τ = some q from hX)
    exact lv_i2s hx hb hdg rfl (k H ls locs (hI.to _ (ok_cs trivial (ok_tl hst))))
  | i2c =>
    obtain rfl : len = 1 := beq_t hok
    obtain ⟨x, r, rfl, rfl⟩ := inv_I1 (show hwI1 (fun x => (x.toUInt32 % 65536).toInt32) (pc + 1) L st τ = some q from hX)
    exact lv_i2c hx hb hdg rfl (k H ls locs (hI.to _ (ok_cs trivial (ok_tl hst))))
  | i2l =>
    obtain rfl : len = 1 := beq_t hok
    rcases st with _ | ⟨x | x | x, st⟩ <;> try (cases hX; done)
    obtain rfl := Option.some.inj hX
    exact lv_i2l hx hb hdg rfl (k H ls locs (hI.to _ (ok_cs trivial (ok_tl hst))))
  | l2i =>
    obtain rfl : len = 1 := beq_t hok
    rcases st with _ | ⟨x | x | x, st⟩ <;> try (cases hX; done)
    obtain rfl := Option.some.inj hX
    exact lv_l2i hx hb hdg rfl (k H ls locs (hI.to _ (ok_cs trivial (ok_tl hst))))
  | ladd =>
    obtain rfl : len = 1 := beq_t hok
    obtain ⟨x, y, r, rfl, rfl⟩ := inv_L2 (show hwL2 (fun x y => x + y) (pc + 1) L st τ = some q from hX)
    exact lv_ladd hx hb hdg (k H ls locs (hI.to _ (ok_cs trivial (ok_tl (ok_tl hst)))))
  | lsub =>
    obtain rfl : len = 1 := beq_t hok
    obtain ⟨x, y, r, rfl, rfl⟩ := inv_L2 (show hwL2 (fun x y => x - y) (pc + 1) L st τ = some q from hX)
    exact lv_lsub hx hb hdg (k H ls locs (hI.to _ (ok_cs trivial (ok_tl (ok_tl hst)))))
  | lmul =>
    obtain rfl : len = 1 := beq_t hok
    obtain ⟨x, y, r, rfl, rfl⟩ := inv_L2 (show hwL2 (fun x y => x * y) (pc + 1) L st τ = some q from hX)
    exact lv_lmul hx hb hdg (k H ls locs (hI.to _ (ok_cs trivial (ok_tl (ok_tl hst)))))
  | land =>
    obtain rfl : len = 1 := beq_t hok
    obtain ⟨x, y, r, rfl, rfl⟩ := inv_L2 (show hwL2 (fun x y => x &&& y) (pc + 1) L st τ = some q from hX)
    exact lv_land hx hb hdg (k H ls locs (hI.to _ (ok_cs trivial (ok_tl (ok_tl hst)))))
  | lor =>
    obtain rfl : len = 1 := beq_t hok
    obtain ⟨x, y, r, rfl, rfl⟩ := inv_L2 (show hwL2 (fun x y => x ||| y) (pc + 1) L st τ = some q from hX)
    exact lv_lor hx hb hdg (k H ls locs (hI.to _ (ok_cs trivial (ok_tl (ok_tl hst)))))
  | ldiv =>
    obtain rfl : len = 1 := beq_t hok
    obtain ⟨x, y, r, rfl, h0, rfl⟩ := inv_DivL (show hwDivL (fun x y => x / y) (pc + 1) L st τ = some q from hX)
    exact lv_ldiv hx hb hdg h0 (k H ls locs (hI.to _ (ok_cs trivial (ok_tl (ok_tl hst)))))
  | lrem =>
    obtain rfl : len = 1 := beq_t hok
    obtain ⟨x, y, r, rfl, h0, rfl⟩ := inv_DivL (show hwDivL (fun x y => x - x / y * y) (pc + 1) L st τ = some q from hX)
    exact lv_lrem hx hb hdg h0 (k H ls locs (hI.to _ (ok_cs trivial (ok_tl (ok_tl hst)))))
  | lshl =>
    obtain rfl : len = 1 := beq_t hok
    obtain ⟨x, y, r, rfl, rfl⟩ := inv_ShL (show hwShL (fun x y => x <<< (y.toInt64 &&& 63)) (pc + 1) L st τ = some q from hX)
    exact lv_lshl hx hb hdg rfl (k H ls locs (hI.to _ (ok_cs trivial (ok_tl (ok_tl hst)))))
  | lshr =>
    obtain rfl : len = 1 := beq_t hok
    obtain ⟨x, y, r, rfl, rfl⟩ := inv_ShL (show hwShL (fun x y => x >>> (y.toInt64 &&& 63)) (pc + 1) L st τ = some q from hX)
    exact lv_lshr hx hb hdg rfl (k H ls locs (hI.to _ (ok_cs trivial (ok_tl (ok_tl hst)))))
  | lcmp =>
    obtain rfl : len = 1 := beq_t hok
    rcases st with _ | ⟨y | y | y, _ | ⟨x | x | x, st⟩⟩ <;> try (cases hX; done)
    obtain rfl := Option.some.inj hX
    exact W.lcmp hx hb hdg (k H ls locs (hI.to _ (ok_cs trivial (ok_tl (ok_tl hst)))))
  | dup =>
    obtain rfl : len = 1 := beq_t hok
    rcases st with _ | ⟨v, st⟩ <;> try (cases hX; done)
    obtain ⟨h1, rfl⟩ := bif_no (show (bif Nat.beq (hwCat v) 1 then some ((pc + 1, L, v :: v :: st), τ) else none) = some q from hX)
    exact lv_dup hx hb hdg ((hwV_cat ad v).trans (beq_t h1)) (k H ls locs (hI.to _ (ok_cs (ok_hd hst) hst)))
  | dup2 =>
    obtain rfl : len = 1 := beq_t hok
    rcases st with _ | ⟨v, _ | ⟨w, st⟩⟩ <;> try (cases hX; done)
    obtain ⟨h1, rfl⟩ := bif_no (show (bif Nat.beq (hwCat v) 1 && Nat.beq (hwCat w) 1 then some ((pc + 1, L, v :: w :: v :: w :: st), τ) else none) = some q from hX)
    exact lv_dup2_11 hx hb hdg ((hwV_cat ad v).trans (beq_t (and_t h1).1)) ((hwV_cat ad w).trans (beq_t (and_t h1).2)) (k H ls locs (hI.to _ (ok_cs (ok_hd hst) (ok_cs (ok_hd (ok_tl hst)) hst))))
  | pop =>
    obtain rfl : len = 1 := beq_t hok
    rcases st with _ | ⟨v, st⟩ <;> try (cases hX; done)
    obtain ⟨h1, rfl⟩ := bif_no (show (bif Nat.beq (hwCat v) 1 then some ((pc + 1, L, st), τ) else none) = some q from hX)
    exact lv_pop hx hb hdg ((hwV_cat ad v).trans (beq_t h1)) (k H ls locs (hI.to _ (ok_tl hst)))
  | ifCond cd off =>
    obtain rfl : len = 3 := beq_t hok
    have hX : (match hwT pc off with
      | some t => hwIf0 cd t (pc + 3) L st τ
      | none => none) = some q := hX
    split at hX
    · rename_i t ht
      have ht := inv_T ht
      rcases st with _ | ⟨x | x | x, st⟩ <;> try (cases hX; done)
      have hI1 : ∀ n, hwInv ad K ks A D (hwN mi) sc s.heap (n, L, st) τ H ls locs := fun n => hI.to n (ok_tl hst)
      cases cd with
      | eq => exact lv_if_eq hx hb hdg ht (fun h => by obtain rfl := Option.some.inj ((if_pos h).symm.trans (show (if x = 0 then some ((t, L, st), τ) else some ((pc + 3, L, st), τ)) = some q from hX)); exact k H ls locs (hI1 _)) (fun h => by obtain rfl := Option.some.inj ((if_neg h).symm.trans (show (if x = 0 then some ((t, L, st), τ) else some ((pc + 3, L, st), τ)) = some q from hX)); exact k H ls locs (hI1 _))
      | ne => exact lv_if_ne hx hb hdg ht (fun h => by obtain rfl := Option.some.inj ((if_neg h).symm.trans (show (if x = 0 then some ((pc + 3, L, st), τ) else some ((t, L, st), τ)) = some q from hX)); exact k H ls locs (hI1 _)) (fun h => by obtain rfl := Option.some.inj ((if_pos h).symm.trans (show (if x = 0 then some ((pc + 3, L, st), τ) else some ((t, L, st), τ)) = some q from hX)); exact k H ls locs (hI1 _))
      | lt => exact lv_if_lt hx hb hdg ht (fun h => by obtain rfl := Option.some.inj ((if_pos h).symm.trans (show (if x < 0 then some ((t, L, st), τ) else some ((pc + 3, L, st), τ)) = some q from hX)); exact k H ls locs (hI1 _)) (fun h => by obtain rfl := Option.some.inj ((if_neg h).symm.trans (show (if x < 0 then some ((t, L, st), τ) else some ((pc + 3, L, st), τ)) = some q from hX)); exact k H ls locs (hI1 _))
      | ge => exact lv_if_ge hx hb hdg ht (fun h => by obtain rfl := Option.some.inj ((if_pos h).symm.trans (show (if 0 ≤ x then some ((t, L, st), τ) else some ((pc + 3, L, st), τ)) = some q from hX)); exact k H ls locs (hI1 _)) (fun h => by obtain rfl := Option.some.inj ((if_neg h).symm.trans (show (if 0 ≤ x then some ((t, L, st), τ) else some ((pc + 3, L, st), τ)) = some q from hX)); exact k H ls locs (hI1 _))
      | gt => exact lv_if_gt hx hb hdg ht (fun h => by obtain rfl := Option.some.inj ((if_pos h).symm.trans (show (if 0 < x then some ((t, L, st), τ) else some ((pc + 3, L, st), τ)) = some q from hX)); exact k H ls locs (hI1 _)) (fun h => by obtain rfl := Option.some.inj ((if_neg h).symm.trans (show (if 0 < x then some ((t, L, st), τ) else some ((pc + 3, L, st), τ)) = some q from hX)); exact k H ls locs (hI1 _))
      | le => exact lv_if_le hx hb hdg ht (fun h => by obtain rfl := Option.some.inj ((if_pos h).symm.trans (show (if x ≤ 0 then some ((t, L, st), τ) else some ((pc + 3, L, st), τ)) = some q from hX)); exact k H ls locs (hI1 _)) (fun h => by obtain rfl := Option.some.inj ((if_neg h).symm.trans (show (if x ≤ 0 then some ((t, L, st), τ) else some ((pc + 3, L, st), τ)) = some q from hX)); exact k H ls locs (hI1 _))
    · cases hX
  | if_icmp cd off =>
    obtain rfl : len = 3 := beq_t hok
    have hX : (match hwT pc off with
      | some t => hwIf2 cd t (pc + 3) L st τ
      | none => none) = some q := hX
    split at hX
    · rename_i t ht
      have ht := inv_T ht
      rcases st with _ | ⟨y | y | y, _ | ⟨x | x | x, st⟩⟩ <;> try (cases hX; done)
      have hI1 : ∀ n, hwInv ad K ks A D (hwN mi) sc s.heap (n, L, st) τ H ls locs := fun n => hI.to n (ok_tl (ok_tl hst))
      cases cd with
      | eq => exact lv_icmp_eq hx hb hdg ht (fun h => by obtain rfl := Option.some.inj ((if_pos h).symm.trans (show (if x = y then some ((t, L, st), τ) else some ((pc + 3, L, st), τ)) = some q from hX)); exact k H ls locs (hI1 _)) (fun h => by obtain rfl := Option.some.inj ((if_neg h).symm.trans (show (if x = y then some ((t, L, st), τ) else some ((pc + 3, L, st), τ)) = some q from hX)); exact k H ls locs (hI1 _))
      | ne => exact lv_icmp_ne hx hb hdg ht (fun h => by obtain rfl := Option.some.inj ((if_neg h).symm.trans (show (if x = y then some ((pc + 3, L, st), τ) else some ((t, L, st), τ)) = some q from hX)); exact k H ls locs (hI1 _)) (fun h => by obtain rfl := Option.some.inj ((if_pos h).symm.trans (show (if x = y then some ((pc + 3, L, st), τ) else some ((t, L, st), τ)) = some q from hX)); exact k H ls locs (hI1 _))
      | lt => exact lv_icmp_lt hx hb hdg ht (fun h => by obtain rfl := Option.some.inj ((if_pos h).symm.trans (show (if x < y then some ((t, L, st), τ) else some ((pc + 3, L, st), τ)) = some q from hX)); exact k H ls locs (hI1 _)) (fun h => by obtain rfl := Option.some.inj ((if_neg h).symm.trans (show (if x < y then some ((t, L, st), τ) else some ((pc + 3, L, st), τ)) = some q from hX)); exact k H ls locs (hI1 _))
      | ge => exact lv_icmp_ge hx hb hdg ht (fun h => by obtain rfl := Option.some.inj ((if_pos h).symm.trans (show (if y ≤ x then some ((t, L, st), τ) else some ((pc + 3, L, st), τ)) = some q from hX)); exact k H ls locs (hI1 _)) (fun h => by obtain rfl := Option.some.inj ((if_neg h).symm.trans (show (if y ≤ x then some ((t, L, st), τ) else some ((pc + 3, L, st), τ)) = some q from hX)); exact k H ls locs (hI1 _))
      | gt => exact lv_icmp_gt hx hb hdg ht (fun h => by obtain rfl := Option.some.inj ((if_pos h).symm.trans (show (if y < x then some ((t, L, st), τ) else some ((pc + 3, L, st), τ)) = some q from hX)); exact k H ls locs (hI1 _)) (fun h => by obtain rfl := Option.some.inj ((if_neg h).symm.trans (show (if y < x then some ((t, L, st), τ) else some ((pc + 3, L, st), τ)) = some q from hX)); exact k H ls locs (hI1 _))
      | le => exact lv_icmp_le hx hb hdg ht (fun h => by obtain rfl := Option.some.inj ((if_pos h).symm.trans (show (if x ≤ y then some ((t, L, st), τ) else some ((pc + 3, L, st), τ)) = some q from hX)); exact k H ls locs (hI1 _)) (fun h => by obtain rfl := Option.some.inj ((if_neg h).symm.trans (show (if x ≤ y then some ((t, L, st), τ) else some ((pc + 3, L, st), τ)) = some q from hX)); exact k H ls locs (hI1 _))
    · cases hX
  | goto off =>
    obtain rfl : len = 3 := beq_t hok
    have hX : (match hwT pc off with
      | some t => some ((t, L, st), τ)
      | none => none) = some q := hX
    split at hX
    · rename_i t ht
      obtain rfl := Option.some.inj hX
      exact lv_goto hx hb hdg (inv_T ht) (k H ls locs (hI.to _ hst))
    · cases hX
  | tableswitch df lo hi offs =>
    rcases st with _ | ⟨x | x | x, st⟩ <;> try (cases hX; done)
    have hX : hwSw (if x.toInt < lo ∨ hi < x.toInt then some df else offs[(x.toInt - lo).toNat]?) pc L st τ = some q := hX
    have gen : ∀ off t, hwT pc off = some t → hwSw (some off) pc L st τ = some q → q = ((t, L, st), τ) := by
      intro off t ht h
      unfold hwSw at h
      simp only [ht] at h
      exact (Option.some.inj h).symm
    by_cases hh : x.toInt < lo ∨ hi < x.toInt
    · rw [if_pos hh] at hX
      cases ht : hwT pc df with
      | none => unfold hwSw at hX; simp only [ht] at hX; cases hX
      | some t =>
        obtain rfl := gen _ _ ht hX
        exact lv_tableOut hx hb hdg hh (inv_T ht) (k H ls locs (hI.to _ (ok_tl hst)))
    · rw [if_neg hh] at hX
      cases ho : offs[(x.toInt - lo).toNat]? with
      | none => rw [ho] at hX; cases hX
      | some off =>
        rw [ho] at hX
        cases ht : hwT pc off with
        | none => unfold hwSw at hX; simp only [ht] at hX; cases hX
        | some t =>
          obtain rfl := gen _ _ ht hX
          exact lv_tableIn hx hb hdg (fun z => hh (Or.inl z)) (fun z => hh (Or.inr z)) ho (inv_T ht) (k H ls locs (hI.to _ (ok_tl hst)))
  | lookupswitch df ps =>
    rcases st with _ | ⟨x | x | x, st⟩ <;> try (cases hX; done)
    have hX : hwSw (some (Op.lookupswitch.offset ps.toList df x.toInt)) pc L st τ = some q := hX
    cases ht : hwT pc (Op.lookupswitch.offset ps.toList df x.toInt) with
    | none => unfold hwSw at hX; simp only [ht] at hX; cases hX
    | some t =>
      unfold hwSw at hX
      simp only [ht] at hX
      obtain rfl := Option.some.inj hX
      exact lv_lookup hx hb hdg hok rfl (inv_T ht) (k H ls locs (hI.to _ (ok_tl hst)))
  | getfield idx =>
    obtain ⟨h1, h2⟩ := and_t hok
    obtain rfl : len = 3 := beq_t h1
    exact x_get hcl hx hb hts hown hG h2 hdg rfl (show hwGet b c0 (pc + 3) L st τ = some q from hX) hI k
  | putfield idx =>
    obtain ⟨h1, h3⟩ := and_t hok
    obtain ⟨h1, h2⟩ := and_t h1
    obtain rfl : len = 3 := beq_t h1
    exact x_put hcl hx hb hts hown hG h2 h3 hdg rfl (show hwPut b c0 (pc + 3) L st τ = some q from hX) hI k
  | getstatic idx =>
    obtain ⟨h1, h4⟩ := and_t hok
    obtain ⟨h1, h3⟩ := and_t h1
    obtain ⟨h1, h2⟩ := and_t h1
    obtain rfl : len = 3 := beq_t h1
    have h2 := ble_t h2
    have h3 := ble_t h3
    obtain rfl := Option.some.inj hX
    have hj := hG.2.2.2.2.1 (b - 201) (by omega)
    rw [show 201 + (b - 201) = b by omega] at hj
    have kk := k H ls locs (hI.to (pc + 3) (ok_cs (show hwOk ks (.inr (.inr (b, 0))) from Or.inr ⟨by show 200 ≤ b; omega, rfl⟩) hst))
    cases a with
    | zero => exact va_gets hx hb hj.1 hI.2.2.2.2.2.2.1 hown (hts _ (hwWd_mem h4)) (fun _ h => h) hdg kk
    | succ a =>
      have hm := List.mem_of_getElem? (of_decide_eq_true h4)
      exact va_getsN (host := "HowDeep") hx hb hj.1 hI.2.2.2.2.2.2.1 hown (va_Nw.use rfl (hG.2.1 _ hm)) (fun _ h => h) hdg kk
  | iaload =>
    obtain rfl : len = 1 := beq_t hok
    exact x_ild hcl hx hb hG hdg rfl (show hwILd (pc + 1) L st τ = some q from hX) hI k
  | baload =>
    obtain rfl : len = 1 := beq_t hok
    exact x_zld hx hb hG hdg rfl (show hwZLd (pc + 1) L st τ = some q from hX) hI k
  | laload =>
    obtain rfl : len = 1 := beq_t hok
    exact x_lld hx hb hG hdg rfl (show hwLLd (pc + 1) L st τ = some q from hX) hI k
  | aaload =>
    obtain rfl : len = 1 := beq_t hok
    exact x_rld hcl hx hb hG hdg rfl (show hwRLd (pc + 1) L st τ = some q from hX) hI k
  | iastore =>
    obtain rfl : len = 1 := beq_t hok
    exact x_ist hcl hx hb hG hdg rfl (show hwISt (pc + 1) L st τ = some q from hX) hI k
  | bastore =>
    obtain rfl : len = 1 := beq_t hok
    exact x_zst hcl hx hb hG hdg rfl (show hwZSt (pc + 1) L st τ = some q from hX) hI k
  | lastore =>
    obtain rfl : len = 1 := beq_t hok
    exact x_lst hcl hx hb hG hdg rfl (show hwLSt (pc + 1) L st τ = some q from hX) hI k
  | arraylength =>
    obtain rfl : len = 1 := beq_t hok
    exact x_len hcl hx hb hG hdg rfl (show hwLen (pc + 1) L st τ = some q from hX) hI k
  | invokestatic idx =>
    obtain ⟨h1, h2⟩ := and_t hok
    obtain rfl : len = 3 := beq_t h1
    have hX : hwPrim a (pc + 3) L st τ = some q := hX
    refine x_prim hcl hx hb hml hts hown hG ⟨by omega, by omega, hR.2.2⟩ (a := a) (d := d) (idx := idx) ?_ hdg rfl hX hI k
    split at h2
    · cases hX
    · cases hX
    · exact h2
    · exact h2
    · exact h2
    · exact h2
    · exact h2
    · cases h2
  | invokevirtual idx =>
    obtain ⟨h1, h9⟩ := and_t hok
    obtain ⟨h1, h2⟩ := and_t h1
    obtain rfl : len = 3 := beq_t h1
    have hX : hwPrim a (pc + 3) L st τ = some q := hX
    cases c0 with
    | zero => cases h2
    | succ n =>
      refine x_str hcl hx hb hml hts hown hG hR (a := a) (d := d) (idx := idx) ?_ hdg hX hI k
      simp only at h2
      split at h2
      · cases hX
      · cases hX
      · exact h2
      · exact h2
      · cases h2
  | _ => exact absurd (show (none : Rs) = some q from hX) (fun h => by cases h)
end EX

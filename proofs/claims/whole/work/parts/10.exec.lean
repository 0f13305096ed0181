/-! FROM THE ABSTRACT MACHINE TO THE MACHINE, 4: arrays, members of the library -/
section EX
variable {p : Program} {l : Launch} {e : Env} {R : Room} {s : State} {m : MethodId} {args : Array Value} {below : List Frame} {meth : Method} {c : Code} {H : Heap} {locs : List Loc} {cells slots : Nat} {Qf : State → Prop} {cc : ByteArray} {ls : Array Slot}
variable {ad : Nat → Nat → Nat} {K : Kc} {ks : List (Nat × Nat)} {A : Nat → Prop} {D : va_G} {N : Nat} {sc : Nat × (Nat → Int32)} {pc n : Nat} {L : Lc} {st : List AV} {τ : Mem} {q : Fr × Mem}
theorem ite_no {α : Type} {P : Prop} [Decidable P] {a : α} {b : α} (h : (if P then none else some a) = some b) : ¬ P ∧ b = a := by
  by_cases e : P
  · rw [if_pos e] at h; cases h
  · rw [if_neg e] at h; exact ⟨e, (Option.some.inj h).symm⟩
/-- the cell of an array of numbers -/
theorem hwW_row {t r : Nat} (hI : hwOk ks (.inr (.inr (t, r)))) (hk : (hwSh t).1 < 6) : ∃ q0 : Nat, ks[q0]? = some (t, r) ∧ ∀ σ : Mem, (hwW ad K ks σ)[q0]? = some (ad t r, hwCo ad K σ (t, r)) := by
  obtain ⟨q0, h1, -⟩ := hwW_get (ad := ad) (K := K) (σ := (fun _ _ => 0, fun _ _ => 0, fun _ _ _ => 0, fun _ _ _ => 0, 0, fun _ => 0)) (hwOk_key hI hk)
  exact ⟨q0, h1, fun σ => by unfold hwW; rw [List.getElem?_map, h1]; rfl⟩
theorem x_ild (hcl : hwCl ks) (hx : p.tables.exec = Jvm.exec) (hb : c.code = cc) (hG : hwG ad K A D sc s s.heap)
    (hdg : decode cc pc = .ok (.iaload, 1)) (hn : n = pc + 1) (hX : hwILd n L st τ = some q) (hI : hwInv ad K ks A D N sc s.heap (pc, L, st) τ H ls locs) (k : hwK p l e R s m args below meth c cells slots Qf ad K ks A D N sc q.1 q.2) :
    W p l e R s m args below meth c H locs cells slots Qf (F0 m pc ls (st.map (hwV ad))) := by
  subst hn
  rcases st with _ | ⟨i | x | x, _ | ⟨y | y | ⟨t, r⟩, st⟩⟩ <;> try (cases hX; done)
  have hok0 := ok_hd (ok_tl hI.ok)
  have hst := ok_tl (ok_tl hI.ok)
  unfold hwILd at hX
  simp only at hX
  split at hX
  · rename_i m0 b0 fl hsh
    obtain ⟨h1, h2⟩ := ite_no hX
    obtain ⟨q0, hq0, hw⟩ := hwW_row (ad := ad) (K := K) hok0 (by rw [hsh]; exact (by decide : 1 < 6))
    have hw := hw τ
    rw [show hwCo ad K τ (t, r) = .inl (K.1, m0, .inl (τ.2.2.1 t r)) by simp only [hwCo, hsh]] at hw
    subst h2
    exact va_iald hx hb hG.1 hI.2.2.2.2.1 q0 0 hw rfl h1 hdg (k H ls locs (hI.to (pc + 1) (ok_cs trivial hst)))
  · rename_i m0 b0 fl hsh
    obtain ⟨h1, h2⟩ := ite_no hX
    obtain rfl := hwSh_6 (t := t) (by rw [hsh])
    obtain rfl := hwOk_hi hcl hok0 (Nat.le_refl 200)
    subst h2
    have hsc : τ.2.2.2.2 = sc := hI.2.2.2.2.2.2.2
    have kk := k H ls locs (hI.to (pc + 1) (ok_cs trivial hst))
    rw [hsc] at h1 kk
    exact va_sld hx hb hG.2.2.2.1.1 hG.2.2.2.1.2.1 hG.2.2.2.1.2.2 hI.2.2.2.2.2.2.1 h1 hdg kk
  · rename_i a0 b0 fl hsh
    obtain ⟨h1, h2⟩ := ite_no hX
    obtain ⟨e1, e2⟩ := hwSh_7 (t := t) (by rw [hsh])
    rw [hsh] at e1 e2
    have e1 : t = 201 + a0 := e1
    have e2 : a0 < 3 := e2
    obtain rfl := hwOk_hi hcl hok0 (by omega : 200 ≤ t)
    subst h2
    subst e1
    exact va_ti hx hb (hG.2.2.2.2.1 a0 e2).2 hI.2.2.2.2.2.2.1 h1 rfl hdg (k H ls locs (hI.to (pc + 1) (ok_cs trivial hst)))
  · cases hX
theorem x_zld (hx : p.tables.exec = Jvm.exec) (hb : c.code = cc) (hG : hwG ad K A D sc s s.heap)
    (hdg : decode cc pc = .ok (.baload, 1)) (hn : n = pc + 1) (hX : hwZLd n L st τ = some q) (hI : hwInv ad K ks A D N sc s.heap (pc, L, st) τ H ls locs) (k : hwK p l e R s m args below meth c cells slots Qf ad K ks A D N sc q.1 q.2) :
    W p l e R s m args below meth c H locs cells slots Qf (F0 m pc ls (st.map (hwV ad))) := by
  subst hn
  rcases st with _ | ⟨i | x | x, _ | ⟨y | y | ⟨t, r⟩, st⟩⟩ <;> try (cases hX; done)
  have hok0 := ok_hd (ok_tl hI.ok)
  have hst := ok_tl (ok_tl hI.ok)
  unfold hwZLd at hX
  simp only at hX
  split at hX
  · rename_i m0 b0 fl hsh
    obtain ⟨h1, h2⟩ := ite_no hX
    obtain ⟨q0, hq0, hw⟩ := hwW_row (ad := ad) (K := K) hok0 (by rw [hsh]; exact (by decide : 2 < 6))
    have hw := hw τ
    rw [show hwCo ad K τ (t, r) = .inl (K.2.2.1, m0, .inl (τ.2.2.1 t r)) by simp only [hwCo, hsh]] at hw
    subst h2
    exact va_zald hx hb hG.1 hI.2.2.2.2.1 q0 2 hw rfl h1 hdg (k H ls locs (hI.to (pc + 1) (ok_cs trivial hst)))
  · cases hX
theorem x_lld (hx : p.tables.exec = Jvm.exec) (hb : c.code = cc) (hG : hwG ad K A D sc s s.heap)
    (hdg : decode cc pc = .ok (.laload, 1)) (hn : n = pc + 1) (hX : hwLLd n L st τ = some q) (hI : hwInv ad K ks A D N sc s.heap (pc, L, st) τ H ls locs) (k : hwK p l e R s m args below meth c cells slots Qf ad K ks A D N sc q.1 q.2) :
    W p l e R s m args below meth c H locs cells slots Qf (F0 m pc ls (st.map (hwV ad))) := by
  subst hn
  rcases st with _ | ⟨i | x | x, _ | ⟨y | y | ⟨t, r⟩, st⟩⟩ <;> try (cases hX; done)
  have hok0 := ok_hd (ok_tl hI.ok)
  have hst := ok_tl (ok_tl hI.ok)
  unfold hwLLd at hX
  simp only at hX
  split at hX
  · rename_i m0 b0 fl hsh
    obtain ⟨h1, h2⟩ := ite_no hX
    obtain ⟨q0, hq0, hw⟩ := hwW_row (ad := ad) (K := K) hok0 (by rw [hsh]; exact (by decide : 3 < 6))
    have hw := hw τ
    rw [show hwCo ad K τ (t, r) = .inl (K.2.1, m0, .inr (.inl (τ.2.2.2.1 t r))) by simp only [hwCo, hsh]] at hw
    subst h2
    exact va_lald hx hb hG.1 hI.2.2.2.2.1 q0 1 hw rfl h1 hdg (k H ls locs (hI.to (pc + 1) (ok_cs trivial hst)))
  · cases hX
/-- an array of arrays is read -/
theorem va_aldr {cl : List vw_C} {tys : List (ClassId × FieldType)} {ws : va_W} {a : Nat} {rest : List Value} (hx : p.tables.exec = Jvm.exec) (hb : c.code = cc) (hK : va_K D cl tys s) (hP : va_P D cl ws H) (q0 t0 : Nat) {cA : ClassId} {ty : FieldType} {n : Nat} {f : Nat → Option Nat} (ha : ws[q0]? = some (a, .inl (cA, n, .inr (.inr (.inr (.inr f)))))) (ht : tys[t0]? = some (cA, .array ty)) {i : Int32} (hin : vp_in i n) (hdg : decode cc pc = .ok (.aaload, 1))
    (kk : W p l e R s m args below meth c H locs cells slots Qf (F0 m (pc + 1) ls (va_rf (f i.toNatClampNeg) :: rest))) : W p l e R s m args below meth c H locs cells slots Qf (F0 m pc ls (.int i :: .ref a :: rest)) := by
  have hlt : i.toNatClampNeg < n := Nat.not_le.mp fun q => hin (Or.inr q)
  exact W.aald (v := va_rf (f i.toNatClampNeg)) (ty := .array ty) hx hb (hP q0 _ ha) ((hK.2 t0 _ ht).1 n (fun j => va_rf (f j))) rfl (fun q => by cases q) (by show ¬ (i < 0 ∨ (arrV _ _ _).slots.size ≤ _); rw [arrV_size]; exact hin) (by show (arrV _ _ _).slots[_]? = _; rw [arrV_read _ _ hlt]) rfl rfl hdg kk
theorem x_rld (hcl : hwCl ks) (hx : p.tables.exec = Jvm.exec) (hb : c.code = cc) (hG : hwG ad K A D sc s s.heap)
    (hdg : decode cc pc = .ok (.aaload, 1)) (hn : n = pc + 1) (hX : hwRLd n L st τ = some q) (hI : hwInv ad K ks A D N sc s.heap (pc, L, st) τ H ls locs) (k : hwK p l e R s m args below meth c cells slots Qf ad K ks A D N sc q.1 q.2) :
    W p l e R s m args below meth c H locs cells slots Qf (F0 m pc ls (st.map (hwV ad))) := by
  subst hn
  rcases st with _ | ⟨i | x | x, _ | ⟨y | y | ⟨t, r⟩, st⟩⟩ <;> try (cases hX; done)
  have hok0 := ok_hd (ok_tl hI.ok)
  have hst := ok_tl (ok_tl hI.ok)
  unfold hwRLd at hX
  simp only at hX
  split at hX
  · rename_i m0 u fl hsh
    obtain ⟨h1, h2⟩ := ite_no hX
    have hkey := hwOk_key hok0 (by rw [hsh]; exact (by decide : 4 < 6))
    have hc1 := (hcl.1 _ hkey).1
    simp only [hwCl1, hsh, Bool.and_eq_true] at hc1
    have hlt : i.toNatClampNeg < m0 := Nat.not_le.mp fun z => h1 (Or.inr z)
    have hu := of_decide_eq_true (List.all_eq_true.mp hc1.2 _ (List.mem_range.mpr hlt))
    obtain ⟨q0, hq0, hw⟩ := hwW_row (ad := ad) (K := K) hok0 (by rw [hsh]; exact (by decide : 4 < 6))
    have hw := hw τ
    rw [show hwCo ad K τ (t, r) = .inl (K.2.2.2.1, m0, .inr (.inr (.inr (.inr (fun i => if i < m0 then some (ad u i) else none))))) by simp only [hwCo, hsh]] at hw
    subst h2
    refine va_aldr hx hb hG.1 hI.2.2.2.2.1 q0 3 hw rfl h1 hdg ?_
    rw [if_pos hlt]
    exact k H ls locs (hI.to (pc + 1) (ok_cs (Or.inl hu) hst))
  · rename_i m0 u fl hsh
    obtain ⟨h1, h2⟩ := ite_no hX
    have hkey := hwOk_key hok0 (by rw [hsh]; exact (by decide : 5 < 6))
    have hc1 := (hcl.1 _ hkey).1
    simp only [hwCl1, hsh, Bool.and_eq_true] at hc1
    have hlt : i.toNatClampNeg < m0 := Nat.not_le.mp fun z => h1 (Or.inr z)
    have hu := of_decide_eq_true (List.all_eq_true.mp hc1.2 _ (List.mem_range.mpr hlt))
    obtain ⟨q0, hq0, hw⟩ := hwW_row (ad := ad) (K := K) hok0 (by rw [hsh]; exact (by decide : 5 < 6))
    have hw := hw τ
    rw [show hwCo ad K τ (t, r) = .inl (K.2.2.2.2, m0, .inr (.inr (.inr (.inr (fun i => if i < m0 then some (ad u i) else none))))) by simp only [hwCo, hsh]] at hw
    subst h2
    refine va_aldr hx hb hG.1 hI.2.2.2.2.1 q0 4 hw rfl h1 hdg ?_
    rw [if_pos hlt]
    exact k H ls locs (hI.to (pc + 1) (ok_cs (Or.inl hu) hst))
  · cases hX
theorem x_ist (hcl : hwCl ks) (hx : p.tables.exec = Jvm.exec) (hb : c.code = cc) (hG : hwG ad K A D sc s s.heap)
    (hdg : decode cc pc = .ok (.iastore, 1)) (hn : n = pc + 1) (hX : hwISt n L st τ = some q) (hI : hwInv ad K ks A D N sc s.heap (pc, L, st) τ H ls locs) (k : hwK p l e R s m args below meth c cells slots Qf ad K ks A D N sc q.1 q.2) :
    W p l e R s m args below meth c H locs cells slots Qf (F0 m pc ls (st.map (hwV ad))) := by
  subst hn
  rcases st with _ | ⟨x | x | x, _ | ⟨i | i | i, _ | ⟨y | y | ⟨t, r⟩, st⟩⟩⟩ <;> try (cases hX; done)
  have hok0 := ok_hd (ok_tl (ok_tl hI.ok))
  have hst := ok_tl (ok_tl (ok_tl hI.ok))
  unfold hwISt at hX
  simp only at hX
  split at hX
  · rename_i m0 b0 fl hsh
    obtain ⟨h1, h2⟩ := ite_no hX
    obtain ⟨q0, hq0, hw⟩ := hwW_row (ad := ad) (K := K) hok0 (by rw [hsh]; exact (by decide : 1 < 6))
    have hw := hw τ
    have hco : ∀ σ : Mem, hwCo ad K σ (t, r) = .inl (K.1, m0, .inl (σ.2.2.1 t r)) := fun σ => by simp only [hwCo, hsh]
    rw [hco] at hw
    subst h2
    refine va_iast hx hb hG.1 hI.2.2.2.2.1 hI.2.2.2.2.2.1 hI.2.2.2.2.2.2.1 q0 0 hw rfl h1 hdg (fun H1 locs1 hP hD hS => ?_)
    exact k H1 ls locs1 (hwInv.put hcl hI (pc + 1) hst (q := (t, r)) hq0 (by rw [hco]; simp only [hwU3_row]) (fun q' hq' hne => hwCo_congr (fun _ => rfl) (fun _ => rfl) (hwU3_ne (nn_in hne)) rfl) rfl hP hD hS)
  · cases hX
theorem x_zst (hcl : hwCl ks) (hx : p.tables.exec = Jvm.exec) (hb : c.code = cc) (hG : hwG ad K A D sc s s.heap)
    (hdg : decode cc pc = .ok (.bastore, 1)) (hn : n = pc + 1) (hX : hwZSt n L st τ = some q) (hI : hwInv ad K ks A D N sc s.heap (pc, L, st) τ H ls locs) (k : hwK p l e R s m args below meth c cells slots Qf ad K ks A D N sc q.1 q.2) :
    W p l e R s m args below meth c H locs cells slots Qf (F0 m pc ls (st.map (hwV ad))) := by
  subst hn
  rcases st with _ | ⟨x | x | x, _ | ⟨i | i | i, _ | ⟨y | y | ⟨t, r⟩, st⟩⟩⟩ <;> try (cases hX; done)
  have hok0 := ok_hd (ok_tl (ok_tl hI.ok))
  have hst := ok_tl (ok_tl (ok_tl hI.ok))
  unfold hwZSt at hX
  simp only at hX
  split at hX
  · rename_i m0 b0 fl hsh
    obtain ⟨h1, h2⟩ := ite_no hX
    obtain ⟨q0, hq0, hw⟩ := hwW_row (ad := ad) (K := K) hok0 (by rw [hsh]; exact (by decide : 2 < 6))
    have hw := hw τ
    have hco : ∀ σ : Mem, hwCo ad K σ (t, r) = .inl (K.2.2.1, m0, .inl (σ.2.2.1 t r)) := fun σ => by simp only [hwCo, hsh]
    rw [hco] at hw
    subst h2
    refine va_zast hx hb hG.1 hI.2.2.2.2.1 hI.2.2.2.2.2.1 hI.2.2.2.2.2.2.1 q0 2 hw rfl h1 hdg (fun H1 locs1 hP hD hS => ?_)
    exact k H1 ls locs1 (hwInv.put hcl hI (pc + 1) hst (q := (t, r)) hq0 (by rw [hco]; simp only [hwU3_row]) (fun q' hq' hne => hwCo_congr (fun _ => rfl) (fun _ => rfl) (hwU3_ne (nn_in hne)) rfl) rfl hP hD hS)
  · cases hX
theorem x_lst (hcl : hwCl ks) (hx : p.tables.exec = Jvm.exec) (hb : c.code = cc) (hG : hwG ad K A D sc s s.heap)
    (hdg : decode cc pc = .ok (.lastore, 1)) (hn : n = pc + 1) (hX : hwLSt n L st τ = some q) (hI : hwInv ad K ks A D N sc s.heap (pc, L, st) τ H ls locs) (k : hwK p l e R s m args below meth c cells slots Qf ad K ks A D N sc q.1 q.2) :
    W p l e R s m args below meth c H locs cells slots Qf (F0 m pc ls (st.map (hwV ad))) := by
  subst hn
  rcases st with _ | ⟨x | x | x, _ | ⟨i | i | i, _ | ⟨y | y | ⟨t, r⟩, st⟩⟩⟩ <;> try (cases hX; done)
  have hok0 := ok_hd (ok_tl (ok_tl hI.ok))
  have hst := ok_tl (ok_tl (ok_tl hI.ok))
  unfold hwLSt at hX
  simp only at hX
  split at hX
  · rename_i m0 b0 fl hsh
    obtain ⟨h1, h2⟩ := ite_no hX
    obtain ⟨q0, hq0, hw⟩ := hwW_row (ad := ad) (K := K) hok0 (by rw [hsh]; exact (by decide : 3 < 6))
    have hw := hw τ
    have hco : ∀ σ : Mem, hwCo ad K σ (t, r) = .inl (K.2.1, m0, .inr (.inl (σ.2.2.2.1 t r))) := fun σ => by simp only [hwCo, hsh]
    rw [hco] at hw
    subst h2
    refine va_last hx hb hG.1 hI.2.2.2.2.1 hI.2.2.2.2.2.1 hI.2.2.2.2.2.2.1 q0 1 hw rfl h1 hdg (fun H1 locs1 hP hD hS => ?_)
    exact k H1 ls locs1 (hwInv.put hcl hI (pc + 1) hst (q := (t, r)) hq0 (by rw [hco]; simp only [hwU3_rowL]) (fun q' hq' hne => hwCo_congr (fun _ => rfl) (fun _ => rfl) rfl (hwU3_ne (nn_in hne))) rfl hP hD hS)
  · cases hX
theorem x_len (hcl : hwCl ks) (hx : p.tables.exec = Jvm.exec) (hb : c.code = cc) (hG : hwG ad K A D sc s s.heap)
    (hdg : decode cc pc = .ok (.arraylength, 1)) (hn : n = pc + 1) (hX : hwLen n L st τ = some q) (hI : hwInv ad K ks A D N sc s.heap (pc, L, st) τ H ls locs) (k : hwK p l e R s m args below meth c cells slots Qf ad K ks A D N sc q.1 q.2) :
    W p l e R s m args below meth c H locs cells slots Qf (F0 m pc ls (st.map (hwV ad))) := by
  subst hn
  rcases st with _ | ⟨y | y | ⟨t, r⟩, st⟩ <;> try (cases hX; done)
  have hok0 := ok_hd hI.ok
  have hst := ok_tl hI.ok
  unfold hwLen at hX
  simp only at hX
  split at hX
  · rename_i m0 b0 fl hsh
    obtain rfl := Option.some.inj hX
    obtain ⟨q0, hq0, hw⟩ := hwW_row (ad := ad) (K := K) hok0 (by rw [hsh]; exact (by decide : 1 < 6))
    have hw := hw τ
    rw [show hwCo ad K τ (t, r) = .inl (K.1, m0, .inl (τ.2.2.1 t r)) by simp only [hwCo, hsh]] at hw
    exact va_alen hx hb hG.1 hI.2.2.2.2.1 q0 0 hw rfl rfl hdg (k H ls locs (hI.to (pc + 1) (ok_cs trivial hst)))
  · rename_i m0 b0 fl hsh
    obtain rfl := Option.some.inj hX
    obtain ⟨q0, hq0, hw⟩ := hwW_row (ad := ad) (K := K) hok0 (by rw [hsh]; exact (by decide : 3 < 6))
    have hw := hw τ
    rw [show hwCo ad K τ (t, r) = .inl (K.2.1, m0, .inr (.inl (τ.2.2.2.1 t r))) by simp only [hwCo, hsh]] at hw
    exact va_alen hx hb hG.1 hI.2.2.2.2.1 q0 1 hw rfl rfl hdg (k H ls locs (hI.to (pc + 1) (ok_cs trivial hst)))
  · rename_i m0 u fl hsh
    obtain rfl := Option.some.inj hX
    obtain ⟨q0, hq0, hw⟩ := hwW_row (ad := ad) (K := K) hok0 (by rw [hsh]; exact (by decide : 4 < 6))
    have hw := hw τ
    rw [show hwCo ad K τ (t, r) = .inl (K.2.2.2.1, m0, .inr (.inr (.inr (.inr (fun i => if i < m0 then some (ad u i) else none))))) by simp only [hwCo, hsh]] at hw
    exact va_alen hx hb hG.1 hI.2.2.2.2.1 q0 3 hw rfl rfl hdg (k H ls locs (hI.to (pc + 1) (ok_cs trivial hst)))
  · rename_i m0 b0 fl hsh
    obtain rfl := Option.some.inj hX
    obtain rfl := hwSh_6 (t := t) (by rw [hsh])
    obtain rfl := hwOk_hi hcl hok0 (Nat.le_refl 200)
    have hsc : τ.2.2.2.2 = sc := hI.2.2.2.2.2.2.2
    have kk := k H ls locs (hI.to (pc + 1) (ok_cs trivial hst))
    rw [hsc] at kk
    exact va_slen hx hb hG.2.2.2.1.1 hG.2.2.2.1.2.1 hG.2.2.2.1.2.2 hI.2.2.2.2.2.2.1 hdg kk
  · rename_i a0 b0 fl hsh
    obtain rfl := Option.some.inj hX
    obtain ⟨e1, e2⟩ := hwSh_7 (t := t) (by rw [hsh])
    rw [hsh] at e1 e2
    have e1 : t = 201 + a0 := e1
    have e2 : a0 < 3 := e2
    obtain rfl := hwOk_hi hcl hok0 (by omega : 200 ≤ t)
    subst e1
    exact va_tlen hx hb (hG.2.2.2.2.1 a0 e2).2 hI.2.2.2.2.2.2.1 rfl hdg (k H ls locs (hI.to (pc + 1) (ok_cs trivial hst)))
  · cases hX
end EX

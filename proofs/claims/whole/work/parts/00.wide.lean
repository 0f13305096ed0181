/-! new T[n][m], over the library's own law of the instruction: the outer array, then its rows, in the order of their making -/
theorem k_outer (c : ClassId) (N h0 : Nat) : ∀ i : Nat, Jvm.Free.Multi.outerC c N h0 i = arrV c N (fun j => va_rf (if j < i then some (h0 + 1 + j) else none))
  | 0 => by
    show ({ cls := c, slots := Array.replicate N .null, vm := .none } : Cell) = _
    rw [arrV_new]
    refine congrArg (arrV c N) (funext fun j => ?_)
    simp [va_rf]
  | i + 1 => by
    show (Jvm.Free.Multi.outerC c N h0 i).setSlot i (.ref (h0 + 1 + i)) = _
    rw [k_outer c N h0 i, arrV_store]
    refine congrArg (arrV c N) (funext fun j => ?_)
    by_cases e : j = i
    · subst e
      simp [updV, va_rf]
    · by_cases h : j < i
      · simp [updV, e, h, Nat.lt_succ_of_lt h]
      · simp [updV, e, h, show ¬ j < i + 1 by omega]
/-- a row of cells that lie one behind the other, from h on -/
def k_seq (h : Nat) : List va_E → va_W
  | [] => []
  | e :: r => (h, e) :: k_seq (h + 1) r
theorem k_seq_get : ∀ (es : List va_E) (h k : Nat) (x : Nat × va_E), (k_seq h es)[k]? = some x → x.1 = h + k ∧ es[k]? = some x.2
  | [], h, k, x, hx => by cases k <;> cases hx
  | e :: r, h, 0, x, hx => by cases hx; exact ⟨rfl, rfl⟩
  | e :: r, h, k + 1, x, hx => by
    obtain ⟨a, b⟩ := k_seq_get r (h + 1) k x hx
    exact ⟨by omega, b⟩
/-- cells that came behind all that was there -/
theorem k_app {A : Nat → Prop} {D : va_G} {cl : List vw_C} {ws : va_W} {H H1 : Heap} {es : List va_E} (hP : va_P D cl ws H) (hD : va_D A ws) (hk : ∀ q : Nat, q < H.size → H1[q]? = H[q]?) (he : ∀ (k : Nat) (e : va_E), es[k]? = some e → va_at D cl (H.size + k, e) H1) (hA : ∀ q, H.size ≤ q → A q) : va_P D cl (ws ++ k_seq H.size es) H1 ∧ va_D A (ws ++ k_seq H.size es) := by
  have lt : ∀ (k : Nat) (x : Nat × va_E), ws[k]? = some x → x.1 < H.size := fun k x hx => (hP k x hx).lt
  refine ⟨(hP.kept (fun k x hx => hk x.1 (lt k x hx))).app (fun k x hx => ?_), fun i j x y hi hj e => ?_, fun k x hx => ?_⟩
  · obtain ⟨a, b⟩ := k_seq_get es H.size k x hx
    have := he k x.2 b
    rw [← a] at this
    exact this
  · by_cases h1 : i < ws.length <;> by_cases h2 : j < ws.length
    · rw [List.getElem?_append_left h1] at hi
      rw [List.getElem?_append_left h2] at hj
      exact hD.1 i j x y hi hj e
    · rw [List.getElem?_append_left h1] at hi
      rw [List.getElem?_append_right (by omega)] at hj
      have a1 := lt _ _ hi
      have a2 := (k_seq_get es _ _ _ hj).1
      omega
    · rw [List.getElem?_append_right (by omega)] at hi
      rw [List.getElem?_append_left h2] at hj
      have a1 := lt _ _ hj
      have a2 := (k_seq_get es _ _ _ hi).1
      omega
    · rw [List.getElem?_append_right (by omega)] at hi hj
      have a1 := (k_seq_get es _ _ _ hi).1
      have a2 := (k_seq_get es _ _ _ hj).1
      omega
  · by_cases h1 : k < ws.length
    · rw [List.getElem?_append_left h1] at hx
      exact hD.2 k x hx
    · rw [List.getElem?_append_right (by omega)] at hx
      have a2 := (k_seq_get es _ _ _ hx).1
      exact hA _ (by omega)
section KMNA
variable {p : Program} {l : Launch} {e : Env} {R : Room} {s : State} {m : MethodId} {args : Array Value} {below : List Frame} {meth : Method} {c : Code} {H : Heap} {locs : List Loc} {cells slots : Nat} {Q : State → Prop}
variable {cc : ByteArray} {pc : Nat} {ls : Array Slot} {rest : List Value} {D : va_G} {cl : List vw_C} {A : Nat → Prop} {ws : va_W} {H0 : Heap}
theorem k_mna (hexec : p.tables.exec = Jvm.exec) (hb : c.code = cc) {own : String} {index : Nat} {ty : FieldType} (hown : s.vm.findClass own = some m.cls) (hclink : (Cond.classLink own index ("[" ++ (FieldType.array ty).toString)).before args s = true) (hover : (Cond.arrayOver (.array ty)).before args s = true) (harr : (Cond.arrayClass ty).before args s = true)
    {cA cy : ClassId} (hcA : s.vm.findClass ("[" ++ (FieldType.array ty).toString) = some cA) (hcy : s.vm.findClass (FieldType.array ty).toString = some cy) (hP : va_P D cl ws H) (hD : va_D A ws) (hS : va_S A H0 H locs) (hA : ∀ q, H0.size ≤ q → A q) {n k : Int32} {N' K' : Nat} {z : vp_A} (hn : ¬ n < 0) (hk : ¬ k < 0) (hN : n.toNatClampNeg = N') (hM : k.toNatClampNeg = K')
    (hb1 : N' * 4 ≤ 536870912) (hb2 : K' * componentBytes ty ≤ 536870912) (hb3 : K' ≤ 536870912) (hdf : fits ty (defaultValue ty) = true) (hdd : (defaultValue ty).isDefault = true) (hcells : cells + (1 + N') ≤ R.cells) (hslots : slots + (N' + N' * K') ≤ R.slots) (hz : ∀ c : ClassId, Jvm.Free.Multi.innerC c K' (defaultValue ty) = vp_cell c z) (hdg : decode cc pc = .ok (.multianewarray index 2, 4))
    (kk : ∀ (q : Nat) (H1 : Heap), va_P D cl (ws ++ k_seq q (.inl (cA, N', .inr (.inr (.inr (.inr (fun i => if i < N' then some (q + 1 + i) else none))))) :: List.replicate N' (.inl (cy, z)))) H1 → va_D A (ws ++ k_seq q (.inl (cA, N', .inr (.inr (.inr (.inr (fun i => if i < N' then some (q + 1 + i) else none))))) :: List.replicate N' (.inl (cy, z)))) → va_S A H0 H1 locs →
      W p l e R s m args below meth c H1 locs (cells + 1 + N') (slots + N' + N' * K') Q (F0 m (pc + 4) ls (.ref q :: rest))) : W p l e R s m args below meth c H locs cells slots Q (F0 m pc ls (.int k :: .int n :: rest)) := by
  subst hN
  subst hM
  intro T hT Xs
  obtain ⟨vm₁, cA', comp, -, fA, fC, -, -, X', step⟩ := Xs.multianewarray2F hexec hown hclink hover harr (g := F0 m pc ls (.int k :: .int n :: rest)) rfl (by rw [hb]; exact hdg) rfl hn hk hb1 hb2 hb3 hdf hdd hcells hslots
  cases hcA.symm.trans fA
  cases hcy.symm.trans fC
  generalize hF : Jvm.Free.Multi.fill (T.setVm vm₁) cA cy n.toNatClampNeg k.toNatClampNeg (defaultValue ty) n.toNatClampNeg = F at X' step
  have hTh : (T.setVm vm₁).heap = H := hT
  obtain ⟨f1, f2, -, -⟩ := Jvm.Free.Multi.fill_facts (T.setVm vm₁) cA cy n.toNatClampNeg k.toNatClampNeg (defaultValue ty) n.toNatClampNeg
  rw [hF, hTh] at f1 f2
  have hold : ∀ x : Nat, x < H.size → F.heap[x]? = H[x]? := fun x hx => by
    have := Jvm.Free.Multi.fill_old (T.setVm vm₁) cA cy n.toNatClampNeg k.toNatClampNeg (defaultValue ty) (a := x) (by rw [hTh]; exact hx) n.toNatClampNeg
    rw [hF, hTh] at this
    exact this
  obtain ⟨g1, g2⟩ := k_app (H1 := F.heap) (es := .inl (cA, n.toNatClampNeg, .inr (.inr (.inr (.inr (fun i => if i < n.toNatClampNeg then some (H.size + 1 + i) else none))))) :: List.replicate n.toNatClampNeg (.inl (cy, z))) hP hD hold (fun j x hx => by
    cases j with
    | zero =>
      cases hx
      show F.heap[H.size]? = some (vp_cell _ _)
      rw [f2, vp_cell_q]
      exact congrArg some (k_outer cA n.toNatClampNeg H.size n.toNatClampNeg)
    | succ j =>
      have hx : (List.replicate n.toNatClampNeg (.inl (cy, z) : va_E))[j]? = some x := hx
      rw [List.getElem?_replicate] at hx
      by_cases hj : j < n.toNatClampNeg
      · rw [if_pos hj] at hx
        cases hx
        have := Jvm.Free.Multi.fill_inner (T.setVm vm₁) cA cy n.toNatClampNeg k.toNatClampNeg (defaultValue ty) n.toNatClampNeg j hj
        rw [hF, hTh, hz] at this
        show F.heap[H.size + (j + 1)]? = some (vp_cell _ _)
        rw [show H.size + (j + 1) = H.size + 1 + j by omega]
        exact this
      · rw [if_neg hj] at hx; cases hx) (fun q hq => hA q (Nat.le_trans hS.1 hq))
  obtain ⟨t, a1, b1⟩ := kk H.size F.heap g1 g2 ⟨by rw [f1]; have := hS.1; omega, fun x h1 h2 => (hold x (Nat.lt_of_lt_of_le h1 hS.1)).trans (hS.2.1 x h1 h2), hS.2.2⟩ F rfl X'
  refine ⟨t, step t ?_, b1⟩
  have e : T.heap.size = H.size := by rw [hT]
  rw [e]
  exact a1
end KMNA

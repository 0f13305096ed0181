/-! THE CONSTRUCTORS, 1: contracts, rows -/
def cG (ad0 : Nat → Nat → Nat) (K : Kc) (base : Nat) (D : va_G) (sc : Nat × (Nat → Int32)) (U : State) (H : Heap) : Prop := hwG ad0 K (fun q => base ≤ q) D sc U H ∧ (Jvm.Cond.arrayOver (.array .int)).before #[] U = true ∧ (Jvm.Cond.arrayOver (.array .long)).before #[] U = true
theorem va_S.wk {A B : Nat → Prop} {H0 H : Heap} {locs : List Loc} (h : va_S A H0 H locs) (hAB : ∀ q, A q → B q) : va_S B H0 H locs := ⟨h.1, fun q a b => h.2.1 q a (fun z => b (hAB q z)), fun q hq => hAB _ (h.2.2 q hq)⟩
theorem cG.go {ad0 : Nat → Nat → Nat} {K : Kc} {base : Nat} {D : va_G} {sc : Nat × (Nat → Int32)} {s U : State} {H0 H : Heap} {locs : List Loc} (h : cG ad0 K base D sc s H0) (hW : s.WarmedH U.vm) (hS : va_S (fun q => base ≤ q) H0 H locs) : cG ad0 K base D sc U H :=
  ⟨hwG.go h.1 hW hS, Jvm.Stand.arrayOver_alikeB hW.alike h.2.1, Jvm.Stand.arrayOver_alikeB hW.alike h.2.2⟩
def cRm (f x c s : Nat) : Room := { frames := f, cells := c, slots := s, locals := x }
def cPre (ad0 : Nat → Nat → Nat) (K : Kc) (base : Nat) (D : va_G) (sc : Nat × (Nat → Int32)) (W0 : va_W) (sz : Nat) (U : State) : Prop := U.heap.size = sz ∧ va_P D vwCl W0 U.heap ∧ cG ad0 K base D sc U U.heap ∧ va_D (fun q => base ≤ q) W0 ∧ base ≤ sz
theorem cPre.blind {ad0 : Nat → Nat → Nat} {K : Kc} {base : Nat} {D : va_G} {sc : Nat × (Nat → Int32)} {W0 : va_W} {sz : Nat} {av : List Value} : FrameBlind (va_Pc av (cPre ad0 K base D sc W0 sz)) := by
  intro a U g mk h
  obtain ⟨h0, h1, h2, h3, h4⟩ := h
  exact ⟨h0, h1, h2, cG.go (s := U) (U := U.calling g mk a) h3 (State.WarmedH.refl U) va_S.rf, h4⟩
abbrev cPost {S : Type} (B : S → State → Prop) (A : Nat → Prop) : Array Value → State → Outcome → State → Prop := va_Qv (fun _ : S => True) B A
abbrev cWs (y : MethodName) (b : ByteArray) (nL : Nat) : List Jvm.Cond := Jvm.Cond.code y b nL none :: hwTB
/-- a constructor's contract: the object that it is called with; what it leaves, by an answer u -/
abbrev cMet {S : Type} (l : Launch) (y : MethodName) (b : ByteArray) (nL f x c s : Nat) (ad0 : Nat → Nat → Nat) (K : Kc) (base : Nat) (D : va_G) (sc : Nat × (Nat → Int32)) (av : List Value) (W0 : va_W) (B : S → State → Prop) (sz : Nat) : Prop :=
  Met l y (cWs y b nL) (cRm f x c s) (va_Pc av (cPre ad0 K base D sc W0 sz)) (cPost B (va_A W0 sz)) c s (va_A W0 sz)
abbrev cWo (D : va_G) (A : Nat → Prop) (W1 : (Nat → Nat) → va_W) : (Nat → Nat) → State → Prop := fun u t => va_P D vwCl (W1 u) t.heap ∧ va_D A (W1 u)
def cFr (p : Program) (c : Code) (cc : ByteArray) (nL : Nat) (meth : Method) (m : MethodId) (s : State) (args : Array Value) (own : String) (ad0 : Nat → Nat → Nat) (K : Kc) (base : Nat) (D : va_G) (sc : Nat × (Nat → Int32)) : Prop :=
  p.tables.exec = Jvm.exec ∧ c.code = cc ∧ c.maxLocals = nL ∧ s.vm.findClass own = some m.cls ∧ (∀ w ∈ hwTB, w.before args s = true) ∧ meth.name = "<init>" ∧ cG ad0 K base D sc s s.heap
theorem c_met {S : Type} {l : Launch} {y : MethodName} {b : ByteArray} {nL f x c s : Nat} {ad0 : Nat → Nat → Nat} {K : Kc} {base : Nat} {D : va_G} {sc : Nat × (Nat → Int32)} {av : List Value} {W0 : va_W} {B : Nat → S → State → Prop} (hpl : plainName y.cls = true) (hy : y.name = "<init>") (hav : (lg_sl av).length ≤ nL)
    (body : ∀ {p : Program} {e : Env} {st : State} {m : MethodId} {below : List Frame} {meth : Method} {c0 : Code} (ls : Array Slot), cFr p c0 b nL meth m st av.toArray y.cls ad0 K base D sc → meth.sig.returnType = none → meth.locks = false → lv_has ls nL (lv_args 0 av) → va_P D vwCl W0 st.heap → va_D (va_A W0 st.heap.size) W0 → (∀ q, va_A W0 st.heap.size q → base ≤ q) →
      W p l e (cRm f x c s) st m av.toArray below meth c0 st.heap [] 0 0 (MQ below (cPost (B st.heap.size) (va_A W0 st.heap.size)) av.toArray st c s (va_A W0 st.heap.size)) (F0 m 0 ls [])) : ∀ sz, cMet l y b nL f x c s ad0 K base D sc av W0 (B sz) sz := by
  intro sz
  refine Met.ofW (cc := b) (maxL := nL) (ret := none) hpl rfl ?_
  intro p e st m args below meth c0 s₁ B0 hml hv
  obtain ⟨rfl, rfl, hP, hG, hD, hb⟩ := hv
  have hts0 := atoms_spec (ws := cWs y b nL) B0.pre
  have hown : st.vm.findClass y.cls = some m.cls := findClass_of_methodNamed B0.named
  have hl := lv_entry av (n := nL) hav
  rw [lg_entry_eq]
  generalize (lg_sl av ++ List.replicate (nL - (lg_sl av).length) Slot.unset).toArray = ls at hl ⊢
  refine body ls ⟨B0.exec, B0.bytes, hml, hown, fun w hw => hts0 w (List.mem_cons_of_mem _ hw), (name_of_methodNamed B0.named B0.method).1.trans hy, hG⟩ B0.returns B0.notSynchronized hl hP hD.self (fun q hq => ?_)
  rcases hq with ⟨k, e9, hk⟩ | h
  · exact hD.2 k (q, e9) hk
  · exact Nat.le_trans hb h
theorem objI_ok : (hwWd 100 (.instanceMethod Lib.objectInit) && hwWd 101 (.code Lib.objectInit ⟨#[0xb1]⟩ 1 none)) = true := by decide +kernel
theorem arrC_ok : (hwWd 153 (.arrayClass .int) && (hwWd 493 (.arrayClass .boolean) && hwWd 551 (.arrayClass .long))) = true := by decide +kernel
section CON
variable {p : Program} {l : Launch} {e : Env} {R : Room} {s : State} {m : MethodId} {args : Array Value} {below : List Frame} {meth : Method} {c : Code} {H : Heap} {locs : List Loc} {cells slots : Nat} {Q : State → Prop}
variable {cc : ByteArray} {pc nL : Nat} {ls : Array Slot} {rest : List Value} {A : Nat → Prop} {ws : va_W} {own : String} {ad0 : Nat → Nat → Nat} {K : Kc} {base : Nat} {D : va_G} {sc : Nat × (Nat → Int32)}
theorem cFr.cls (F : cFr p c cc nL meth m s args own ad0 K base D sc) : va_K D vwCl (hwTy K) s := F.2.2.2.2.2.2.1.1
theorem cFr.w (F : cFr p c cc nL meth m s args own ad0 K base D sc) {d : Nat} {w : Jvm.Cond} (h : hwWd d w = true) : w.before args s = true := F.2.2.2.2.1 w (hwWd_mem h)
theorem c_obj (F : cFr p c cc nL meth m s args own ad0 K base D sc) {idx a : Nat} (d : Nat) (ok : hwWd d (.methodLink own idx Lib.objectInit) = true) (hls : ls.size = nL) (hdg : decode cc pc = .ok (.invokespecial idx, 3)) (hR : 1 ≤ R.frames ∧ 12 ≤ R.locals)
    (kk : W p l e R s m args below meth c H locs cells slots Q (F0 m (pc + 3) ls [])) : W p l e R s m args below meth c H locs cells slots Q (F0 m pc ls [.ref a]) := by
  obtain ⟨hx, hb, hml, hown, hts, -, -⟩ := id F
  obtain ⟨o1, o2⟩ := and_t objI_ok
  exact W.objInit hx hb hown (F.w ok) (F.w o1) (F.w o2) rfl (by rw [hml]; exact hls) rfl hdg hR.1 (by show 2 * (F0 m pc ls [.ref a]).monitorRoom + 0 + 12 ≤ R.locals; exact hR.2) kk
theorem c_newi (F : cFr p c cc nL meth m s args own ad0 K base D sc) (hP : va_P D vwCl ws H) (hD : va_D A ws) (hS : va_S A s.heap H locs) (hA : ∀ q, s.heap.size ≤ q → A q) {n : Int32} (N : Nat) (hn : ¬ n < 0) (hN : n.toNatClampNeg = N) (hbytes : N * 4 ≤ 536870912) (hcells : cells + 1 ≤ R.cells) (hslots : slots + N ≤ R.slots) (hdg : decode cc pc = .ok (.newarray .int, 2))
    (kk : ∀ (q : Nat) (H : Heap), va_P D vwCl (ws ++ [(q, .inl (K.1, N, .inl (fun _ => 0)))]) H → va_D A (ws ++ [(q, .inl (K.1, N, .inl (fun _ => 0)))]) → va_S A s.heap H locs → W p l e R s m args below meth c H locs (cells + 1) (slots + N) Q (F0 m (pc + 2) ls (.ref q :: rest))) : W p l e R s m args below meth c H locs cells slots Q (F0 m pc ls (.int n :: rest)) := by
  obtain ⟨hx, hb, -⟩ := id F
  obtain ⟨o1, -⟩ := and_t arrC_ok
  refine va_newa (atype := .int) (ty := .int) (a0 := (N, .inl (fun _ => 0))) hx hb (F.w o1) rfl F.cls hP hD hS hA (fun _ => rfl) hn hN hbytes hcells hslots hdg (fun q cA H1 hK1 hP1 hD1 hS1 => ?_)
  have ec : cA = K.1 := Option.some.inj ((hK1.2 5 (cA, .int) rfl).2.symm.trans (hK1.2 0 (K.1, .int) rfl).2)
  rw [ec] at hP1 hD1
  exact kk q H1 hP1 hD1 hS1
theorem c_newz (F : cFr p c cc nL meth m s args own ad0 K base D sc) (hP : va_P D vwCl ws H) (hD : va_D A ws) (hS : va_S A s.heap H locs) (hA : ∀ q, s.heap.size ≤ q → A q) {n : Int32} (N : Nat) (hn : ¬ n < 0) (hN : n.toNatClampNeg = N) (hbytes : N * 1 ≤ 536870912) (hcells : cells + 1 ≤ R.cells) (hslots : slots + N ≤ R.slots) (hdg : decode cc pc = .ok (.newarray .boolean, 2))
    (kk : ∀ (q : Nat) (H : Heap), va_P D vwCl (ws ++ [(q, .inl (K.2.2.1, N, .inl (fun _ => 0)))]) H → va_D A (ws ++ [(q, .inl (K.2.2.1, N, .inl (fun _ => 0)))]) → va_S A s.heap H locs → W p l e R s m args below meth c H locs (cells + 1) (slots + N) Q (F0 m (pc + 2) ls (.ref q :: rest))) : W p l e R s m args below meth c H locs cells slots Q (F0 m pc ls (.int n :: rest)) := by
  obtain ⟨hx, hb, -⟩ := id F
  obtain ⟨-, o2⟩ := and_t arrC_ok
  obtain ⟨o1, -⟩ := and_t o2
  refine va_newa (atype := .boolean) (ty := .boolean) (a0 := (N, .inl (fun _ => 0))) hx hb (F.w o1) rfl F.cls hP hD hS hA (fun _ => rfl) hn hN hbytes hcells hslots hdg (fun q cA H1 hK1 hP1 hD1 hS1 => ?_)
  have ec : cA = K.2.2.1 := Option.some.inj ((hK1.2 5 (cA, .boolean) rfl).2.symm.trans (hK1.2 2 (K.2.2.1, .boolean) rfl).2)
  rw [ec] at hP1 hD1
  exact kk q H1 hP1 hD1 hS1
theorem c_newl (F : cFr p c cc nL meth m s args own ad0 K base D sc) (hP : va_P D vwCl ws H) (hD : va_D A ws) (hS : va_S A s.heap H locs) (hA : ∀ q, s.heap.size ≤ q → A q) {n : Int32} (N : Nat) (hn : ¬ n < 0) (hN : n.toNatClampNeg = N) (hbytes : N * 8 ≤ 536870912) (hcells : cells + 1 ≤ R.cells) (hslots : slots + N ≤ R.slots) (hdg : decode cc pc = .ok (.newarray .long, 2))
    (kk : ∀ (q : Nat) (H : Heap), va_P D vwCl (ws ++ [(q, .inl (K.2.1, N, .inr (.inl (fun _ => 0))))]) H → va_D A (ws ++ [(q, .inl (K.2.1, N, .inr (.inl (fun _ => 0))))]) → va_S A s.heap H locs → W p l e R s m args below meth c H locs (cells + 1) (slots + N) Q (F0 m (pc + 2) ls (.ref q :: rest))) : W p l e R s m args below meth c H locs cells slots Q (F0 m pc ls (.int n :: rest)) := by
  obtain ⟨hx, hb, -⟩ := id F
  obtain ⟨-, o2⟩ := and_t arrC_ok
  obtain ⟨-, o1⟩ := and_t o2
  refine va_newa (atype := .long) (ty := .long) (a0 := (N, .inr (.inl (fun _ => 0)))) hx hb (F.w o1) rfl F.cls hP hD hS hA (fun _ => rfl) hn hN hbytes hcells hslots hdg (fun q cA H1 hK1 hP1 hD1 hS1 => ?_)
  have ec : cA = K.2.1 := Option.some.inj ((hK1.2 5 (cA, .long) rfl).2.symm.trans (hK1.2 1 (K.2.1, .long) rfl).2)
  rw [ec] at hP1 hD1
  exact kk q H1 hP1 hD1 hS1
theorem c_mnai (F : cFr p c cc nL meth m s args own ad0 K base D sc) {idx : Nat} (d : Nat) (ok : hwWd d (.classLink own idx "[[I") = true) (hP : va_P D vwCl ws H) (hD : va_D A ws) (hS : va_S A s.heap H locs) (hA : ∀ q, s.heap.size ≤ q → A q) {n k : Int32} (N M : Nat) (hn : ¬ n < 0) (hk : ¬ k < 0) (hN : n.toNatClampNeg = N) (hM : k.toNatClampNeg = M) (hb1 : N * 4 ≤ 536870912) (hb2 : M * 4 ≤ 536870912) (hcells : cells + (1 + N) ≤ R.cells) (hslots : slots + (N + N * M) ≤ R.slots) (hdg : decode cc pc = .ok (.multianewarray idx 2, 4))
    (kk : ∀ (q : Nat) (H : Heap), va_P D vwCl (ws ++ k_seq q (.inl (K.2.2.2.1, N, .inr (.inr (.inr (.inr (fun i => if i < N then some (q + 1 + i) else none))))) :: List.replicate N (.inl (K.1, M, .inl (fun _ => 0))))) H → va_D A (ws ++ k_seq q (.inl (K.2.2.2.1, N, .inr (.inr (.inr (.inr (fun i => if i < N then some (q + 1 + i) else none))))) :: List.replicate N (.inl (K.1, M, .inl (fun _ => 0))))) → va_S A s.heap H locs → W p l e R s m args below meth c H locs (cells + 1 + N) (slots + N + N * M) Q (F0 m (pc + 4) ls (.ref q :: rest))) : W p l e R s m args below meth c H locs cells slots Q (F0 m pc ls (.int k :: .int n :: rest)) := by
  obtain ⟨hx, hb, -, hown, -, -, hG⟩ := id F
  obtain ⟨o1, -⟩ := and_t arrC_ok
  exact k_mna (ty := .int) (z := (M, .inl (fun _ => 0))) hx hb hown (F.w ok) (Jvm.Stand.arrayOver_alikeB (Jvm.Vm.Alike.refl s.vm) hG.2.1) (F.w o1) (F.cls.2 3 (K.2.2.2.1, .array .int) rfl).2 (F.cls.2 0 (K.1, .int) rfl).2 hP hD hS hA hn hk hN hM hb1 hb2 (by omega) rfl rfl hcells hslots (fun c => arrV_new c M (.int 0)) hdg kk
theorem c_mnal (F : cFr p c cc nL meth m s args own ad0 K base D sc) {idx : Nat} (d : Nat) (ok : hwWd d (.classLink own idx "[[J") = true) (hP : va_P D vwCl ws H) (hD : va_D A ws) (hS : va_S A s.heap H locs) (hA : ∀ q, s.heap.size ≤ q → A q) {n k : Int32} (N M : Nat) (hn : ¬ n < 0) (hk : ¬ k < 0) (hN : n.toNatClampNeg = N) (hM : k.toNatClampNeg = M) (hb1 : N * 4 ≤ 536870912) (hb2 : M * 8 ≤ 536870912) (hcells : cells + (1 + N) ≤ R.cells) (hslots : slots + (N + N * M) ≤ R.slots) (hdg : decode cc pc = .ok (.multianewarray idx 2, 4))
    (kk : ∀ (q : Nat) (H : Heap), va_P D vwCl (ws ++ k_seq q (.inl (K.2.2.2.2, N, .inr (.inr (.inr (.inr (fun i => if i < N then some (q + 1 + i) else none))))) :: List.replicate N (.inl (K.2.1, M, .inr (.inl (fun _ => 0)))))) H → va_D A (ws ++ k_seq q (.inl (K.2.2.2.2, N, .inr (.inr (.inr (.inr (fun i => if i < N then some (q + 1 + i) else none))))) :: List.replicate N (.inl (K.2.1, M, .inr (.inl (fun _ => 0)))))) → va_S A s.heap H locs → W p l e R s m args below meth c H locs (cells + 1 + N) (slots + N + N * M) Q (F0 m (pc + 4) ls (.ref q :: rest))) : W p l e R s m args below meth c H locs cells slots Q (F0 m pc ls (.int k :: .int n :: rest)) := by
  obtain ⟨hx, hb, -, hown, -, -, hG⟩ := id F
  obtain ⟨-, o2⟩ := and_t arrC_ok
  obtain ⟨-, o1⟩ := and_t o2
  exact k_mna (ty := .long) (z := (M, .inr (.inl (fun _ => 0)))) hx hb hown (F.w ok) (Jvm.Stand.arrayOver_alikeB (Jvm.Vm.Alike.refl s.vm) hG.2.2) (F.w o1) (F.cls.2 4 (K.2.2.2.2, .array .long) rfl).2 (F.cls.2 1 (K.2.1, .long) rfl).2 hP hD hS hA hn hk hN hM hb1 hb2 (by omega) rfl rfl hcells hslots (fun c => arrV_new c M (.long 0)) hdg kk
/-- a final field of the object itself -/
theorem c_putF (F : cFr p c cc nL meth m s args own ad0 K base D sc) {a ci idx N : Nat} {T : u_T} (k d : Nat) {fs : List Value} {v : Value} {ty : FieldType} (hv : vwCl[ci]? = some (own, T, N)) (ok : hwWd d (.fieldLink own idx (T k).1 (T k).2.1 (T k).2.2.1) = true) (hk : k < N) (hfin : (T k).2.2.2 = true) (hdecl : (T k).1 = own) (hd : parseFieldDescriptor (T k).2.2.1 = some ty) (hn : narrow ty v = v) (hfit : fits ty v = true) (hl : k < fs.length)
    (hP : va_P D vwCl ((a, .inr (ci, fs)) :: ws) H) (hD : va_D A ((a, .inr (ci, fs)) :: ws)) (hS : va_S A s.heap H locs) (hdg : decode cc pc = .ok (.putfield idx, 3))
    (kk : ∀ (H : Heap) (locs : List Loc), va_P D vwCl ((a, .inr (ci, fs.set k v)) :: ws) H → va_D A ((a, .inr (ci, fs.set k v)) :: ws) → va_S A s.heap H locs → W p l e R s m args below meth c H locs cells slots Q (F0 m (pc + 3) ls rest)) : W p l e R s m args below meth c H locs cells slots Q (F0 m pc ls (v :: .ref a :: rest)) := by
  obtain ⟨hx, hb, -, hown, hts, hin, -⟩ := id F
  obtain ⟨⟨ty0, hty⟩, hnm⟩ := vwCl_ok hv
  exact va_putF (D := D) (ci := ci) (C := own) (T := T) (N := N) hx hb hts (hwU_of hv) ty0 hty hnm hown F.cls hP hD hS 0 rfl hv k hk (F.w ok) (fun _ h9 => h9) hfin hin hdecl hd hn hfit hl hdg kk
theorem c_put (F : cFr p c cc nL meth m s args own ad0 K base D sc) {a ci idx N : Nat} {T : u_T} (k d : Nat) {fs : List Value} {v : Value} {ty : FieldType} (hv : vwCl[ci]? = some (own, T, N)) (ok : hwWd d (.fieldLink own idx (T k).1 (T k).2.1 (T k).2.2.1) = true) (hk : k < N) (hfin : (T k).2.2.2 = false) (hd : parseFieldDescriptor (T k).2.2.1 = some ty) (hn : narrow ty v = v) (hfit : fits ty v = true) (hl : k < fs.length)
    (hP : va_P D vwCl ((a, .inr (ci, fs)) :: ws) H) (hD : va_D A ((a, .inr (ci, fs)) :: ws)) (hS : va_S A s.heap H locs) (hdg : decode cc pc = .ok (.putfield idx, 3))
    (kk : ∀ (H : Heap) (locs : List Loc), va_P D vwCl ((a, .inr (ci, fs.set k v)) :: ws) H → va_D A ((a, .inr (ci, fs.set k v)) :: ws) → va_S A s.heap H locs → W p l e R s m args below meth c H locs cells slots Q (F0 m (pc + 3) ls rest)) : W p l e R s m args below meth c H locs cells slots Q (F0 m pc ls (v :: .ref a :: rest)) := by
  obtain ⟨hx, hb, -, hown, hts, hin, -⟩ := id F
  obtain ⟨⟨ty0, hty⟩, hnm⟩ := vwCl_ok hv
  exact va_put (D := D) (ci := ci) (C := own) (T := T) (N := N) hx hb hts (hwU_of hv) ty0 hty hnm hown F.cls hP hD hS 0 rfl hv k hk (F.w ok) (fun _ h9 => h9) hfin hd hn hfit hl hdg kk
theorem c_get (F : cFr p c cc nL meth m s args own ad0 K base D sc) {a ci idx N : Nat} {T : u_T} (k d : Nat) {fs : List Value} {v : Value} (hv : vwCl[ci]? = some (own, T, N)) (ok : hwWd d (.fieldLink own idx (T k).1 (T k).2.1 (T k).2.2.1) = true) (hk : k < N) (hfv : fs[k]? = some v)
    (hP : va_P D vwCl ((a, .inr (ci, fs)) :: ws) H) (hdg : decode cc pc = .ok (.getfield idx, 3))
    (kk : W p l e R s m args below meth c H locs cells slots Q (F0 m (pc + 3) ls (v :: rest))) : W p l e R s m args below meth c H locs cells slots Q (F0 m pc ls (.ref a :: rest)) := by
  obtain ⟨hx, hb, -, hown, hts, hin, -⟩ := id F
  exact va_get (D := D) (ci := ci) (C := own) (T := T) (N := N) hx hb hts (hwU_of hv) hown F.cls hP 0 rfl hv k hk (F.w ok) (fun _ h9 => h9) hfv hdg kk
theorem set_last {α : Type} (l : List α) (a b : α) : (l ++ [a]).set l.length b = l ++ [b] := by
  rw [List.set_append_right _ _ (Nat.le_refl _), Nat.sub_self]
  rfl
theorem get_last {α : Type} (l : List α) (a : α) : (l ++ [a])[l.length]? = some a := by
  rw [List.getElem?_append_right (Nat.le_refl _), Nat.sub_self]
  rfl
/-- into the array that was made last -/
theorem c_iast (F : cFr p c cc nL meth m s args own ad0 K base D sc) {a n : Nat} {f : Nat → Int32} {i x : Int32} (hin : vp_in i n) (hP : va_P D vwCl (ws ++ [(a, .inl (K.1, n, .inl f))]) H) (hD : va_D A (ws ++ [(a, .inl (K.1, n, .inl f))])) (hS : va_S A s.heap H locs) (hdg : decode cc pc = .ok (.iastore, 1))
    (kk : ∀ (H : Heap) (locs : List Loc), va_P D vwCl (ws ++ [(a, .inl (K.1, n, .inl (upd f i.toNatClampNeg x)))]) H → va_D A (ws ++ [(a, .inl (K.1, n, .inl (upd f i.toNatClampNeg x)))]) → va_S A s.heap H locs → W p l e R s m args below meth c H locs cells slots Q (F0 m (pc + 1) ls rest)) : W p l e R s m args below meth c H locs cells slots Q (F0 m pc ls (.int x :: .int i :: .ref a :: rest)) := by
  obtain ⟨hx, hb, -⟩ := id F
  refine va_iast hx hb F.cls hP hD hS ws.length 0 (get_last ws _) rfl hin hdg (fun H1 locs1 hP1 hD1 hS1 => ?_)
  rw [set_last] at hP1 hD1
  exact kk H1 locs1 hP1 hD1 hS1
theorem c_last (F : cFr p c cc nL meth m s args own ad0 K base D sc) {a n : Nat} {f : Nat → Int64} {i : Int32} {x : Int64} (hin : vp_in i n) (hP : va_P D vwCl (ws ++ [(a, .inl (K.2.1, n, .inr (.inl f)))]) H) (hD : va_D A (ws ++ [(a, .inl (K.2.1, n, .inr (.inl f)))])) (hS : va_S A s.heap H locs) (hdg : decode cc pc = .ok (.lastore, 1))
    (kk : ∀ (H : Heap) (locs : List Loc), va_P D vwCl (ws ++ [(a, .inl (K.2.1, n, .inr (.inl (vp_updL f i.toNatClampNeg x))))]) H → va_D A (ws ++ [(a, .inl (K.2.1, n, .inr (.inl (vp_updL f i.toNatClampNeg x))))]) → va_S A s.heap H locs → W p l e R s m args below meth c H locs cells slots Q (F0 m (pc + 1) ls rest)) : W p l e R s m args below meth c H locs cells slots Q (F0 m pc ls (.long x :: .int i :: .ref a :: rest)) := by
  obtain ⟨hx, hb, -⟩ := id F
  refine va_last hx hb F.cls hP hD hS ws.length 1 (get_last ws _) rfl hin hdg (fun H1 locs1 hP1 hD1 hS1 => ?_)
  rw [set_last] at hP1 hD1
  exact kk H1 locs1 hP1 hD1 hS1
theorem c_new (F : cFr p c cc nL meth m s args own ad0 K base D sc) {ci idx N : Nat} {C : String} {T : u_T} (d1 d2 d3 : Nat) (hv : vwCl[ci]? = some (C, T, N)) (ty : Nat → FieldType) (hty : ∀ k, k < N → parseFieldDescriptor (T k).2.2.1 = some (ty k)) (ok1 : hwWd d1 (.classLink own idx C) = true) (ok2 : hwWd d2 (.instantiable C N) = true) (ok3 : hwWd d3 (.initialized C) = true) (hP : va_P D vwCl ws H) (hD : va_D A ws) (hS : va_S A s.heap H locs) (hA : ∀ q, s.heap.size ≤ q → A q) (fs : List Value) (hfs : ∀ j, j < N → defaultValue (ty j) = vp_V fs j) (hcells : cells + 1 ≤ R.cells) (hslots : slots + N ≤ R.slots) (hdg : decode cc pc = .ok (.new idx, 3))
    (kk : ∀ (q : Nat) (H : Heap), va_P D vwCl (ws ++ [(q, .inr (ci, fs))]) H → va_D A (ws ++ [(q, .inr (ci, fs))]) → va_S A s.heap H locs → W p l e R s m args below meth c H locs (cells + 1) (slots + N) Q (F0 m (pc + 3) ls (.ref q :: rest))) : W p l e R s m args below meth c H locs cells slots Q (F0 m pc ls rest) := by
  obtain ⟨hx, hb, -, hown, hts, hin, -⟩ := id F
  exact va_new (ci := ci) (fs := fs) (C := C) (T := T) (N := N) hx hb hts (hwU_of hv) ty hty hown (F.w ok1) (F.w ok2) (F.w ok3) F.cls hP hD hS hA hv hfs hcells hslots hdg kk
/-- what lies beside the callee's object, and what the callee leaves -/
theorem c_beside {W1 : va_W} {q : Nat} {b0 : va_E} {H1 : Heap} (hP : va_P D vwCl (ws ++ [(q, b0)]) H) (hD : va_D A (ws ++ [(q, b0)])) (hA : ∀ x, H.size ≤ x → A x) (hk1 : ∀ x : Nat, x < H.size → ¬ va_A [(q, b0)] H.size x → H1[x]? = H[x]?) (hP1 : va_P D vwCl W1 H1) (hD1 : va_D (va_A [(q, b0)] H.size) W1) : va_P D vwCl (ws ++ W1) H1 ∧ va_D A (ws ++ W1) := by
  have hql := get_last ws (q, b0)
  have lt : ∀ (k : Nat) (x : Nat × va_E), ws[k]? = some x → x.1 < H.size ∧ x.1 ≠ q ∧ A x.1 := fun k x hx => by
    have hl : k < ws.length := (List.getElem?_eq_some_iff.mp hx).1
    have h2 : (ws ++ [(q, b0)])[k]? = some x := by rw [List.getElem?_append_left hl]; exact hx
    refine ⟨(hP k x h2).lt, fun e => ?_, hD.2 k x h2⟩
    have := hD.1 k ws.length x (q, b0) h2 hql e
    omega
  have nA : ∀ (k : Nat) (x : Nat × va_E), ws[k]? = some x → ¬ va_A [(q, b0)] H.size x.1 := fun k x hx z => by
    obtain ⟨a, b, -⟩ := lt k x hx
    rcases z with ⟨k9, e9, h9⟩ | h
    · cases k9 with
      | zero => cases h9; exact b rfl
      | succ k9 => cases h9
    · omega
  have hq : A q := hD.2 _ _ hql
  refine ⟨va_P.app (fun k x hx => ?_) hP1, fun i j x y hi hj e => ?_, fun k x hx => ?_⟩
  · have hl : k < ws.length := (List.getElem?_eq_some_iff.mp hx).1
    have h2 : (ws ++ [(q, b0)])[k]? = some x := by rw [List.getElem?_append_left hl]; exact hx
    exact va_P.kept (ws := [x]) (fun k9 x9 h9 => by
      cases k9 with
      | zero => cases h9; exact hP k x h2
      | succ k9 => cases h9) (fun k9 x9 h9 => by
      cases k9 with
      | zero => cases h9; exact hk1 x.1 (lt k x hx).1 (nA k x hx)
      | succ k9 => cases h9) 0 x rfl
  · by_cases h1 : i < ws.length <;> by_cases h2 : j < ws.length
    · rw [List.getElem?_append_left h1] at hi
      rw [List.getElem?_append_left h2] at hj
      exact hD.1 i j x y (by rw [List.getElem?_append_left h1]; exact hi) (by rw [List.getElem?_append_left h2]; exact hj) e
    · rw [List.getElem?_append_left h1] at hi
      rw [List.getElem?_append_right (by omega)] at hj
      exact absurd (show va_A [(q, b0)] H.size x.1 by rw [e]; exact hD1.2 _ _ hj) (nA _ _ hi)
    · rw [List.getElem?_append_right (by omega)] at hi
      rw [List.getElem?_append_left h2] at hj
      exact absurd (show va_A [(q, b0)] H.size y.1 by rw [← e]; exact hD1.2 _ _ hi) (nA _ _ hj)
    · rw [List.getElem?_append_right (by omega)] at hi hj
      have := hD1.1 _ _ x y hi hj e
      omega
  · by_cases h1 : k < ws.length
    · rw [List.getElem?_append_left h1] at hx
      exact (lt k x hx).2.2
    · rw [List.getElem?_append_right (by omega)] at hx
      rcases hD1.2 _ _ hx with ⟨k9, e9, h9⟩ | h
      · cases k9 with
        | zero => cases h9; exact hq
        | succ k9 => cases h9
      · exact hA _ h
/-- a constructor is called -/
theorem c_callB {S : Type} (F : cFr p c cc nL meth m s args own ad0 K base D sc) {y : MethodName} {b : ByteArray} {nL' f x mc ms idx q : Nat} {b0 : va_E} {As : List Value} (d1 d2 d3 d4 : Nat) {B : Nat → S → State → Prop} (hM : ∀ sz, cMet l y b nL' f x mc ms ad0 K base D sc (.ref q :: As) [(q, b0)] (B sz) sz)
    (w1 : hwWd d1 (.code y b nL' none) = true) (w2 : hwWd d2 (.initialized y.cls) = true) (w3 : hwWd d3 (.methodLink own idx y) = true ∨ (own, idx, y, "HowDeep") ∈ hwNm) (w4 : hwWd d4 (.instanceMethod y) = true) (hy : y.name = "<init>") (hd : y.cls ≠ "java/lang/invoke/MethodHandle" ∧ y.cls ≠ "java/lang/invoke/VarHandle" ∧ (parseMethodDescriptor y.desc).map (fun d => d.parameters.length) = some As.length)
    (hR : f + 1 ≤ R.frames ∧ 8 + (nL' + 11) + x ≤ R.locals) (hP : va_P D vwCl (ws ++ [(q, b0)]) H) (hD : va_D A (ws ++ [(q, b0)])) (hS : va_S A s.heap H locs) (hA : ∀ q, s.heap.size ≤ q → A q) (hAb : ∀ q, A q → base ≤ q) (hls : ls.size = nL) (h8 : (rest.map fun v => v.category).sum ≤ 8) (hdg : decode cc pc = .ok (.invokespecial idx, 3)) (hf : cells + mc ≤ R.cells ∧ slots + ms ≤ R.slots)
    (kk : ∀ (u : S) (t : State) (H1 : Heap) (locs : List Loc), t.heap = H1 → B H.size u t → (∀ W1 : va_W, va_P D vwCl W1 H1 → va_D (va_A [(q, b0)] H.size) W1 → va_P D vwCl (ws ++ W1) H1 ∧ va_D A (ws ++ W1)) → va_S A s.heap H1 locs → W p l e R s m args below meth c H1 locs (cells + mc) (slots + ms) Q (F0 m (pc + 3) ls rest)) :
    W p l e R s m args below meth c H locs cells slots Q (F0 m pc ls (As.reverse ++ .ref q :: rest)) := by
  obtain ⟨hx, hb, hml, hown, hts, hin, hG⟩ := id F
  have hql := get_last ws (q, b0)
  have hA' : ∀ x, H.size ≤ x → A x := fun x hx => hA x (Nat.le_trans hS.1 hx)
  have hfr : ∀ x, va_A [(q, b0)] H.size x → A x := fun x z => by
    rcases z with ⟨k9, e9, h9⟩ | h
    · cases k9 with
      | zero => cases h9; exact hD.2 _ _ hql
      | succ k9 => cases h9
    · exact hA' x h
  have one : ∀ (P : Nat × va_E → Prop), P (q, b0) → ∀ (k : Nat) (x : Nat × va_E), [(q, b0)][k]? = some x → P x := fun P h k x hx => by
    cases k with
    | zero => cases hx; exact h
    | succ k => cases hx
  have good : GoodIn hwTB (cWs y b nL') := goodTB (List.forall_mem_cons.mpr ⟨hwWd_mem w1, fun _ h => h⟩)
  have pre : PreS s H (va_Pc (.ref q :: As) (cPre ad0 K base D sc [(q, b0)] H.size)) (.ref q :: As) := ⟨cPre.blind, fun U hU hW => ⟨rfl, by rw [hU], by rw [hU]; exact one _ (hP _ _ hql), by rw [hU]; exact hG.go hW (hS.wk hAb), ⟨fun i j x y hi hj _ => by
    cases i with
    | succ i => cases hi
    | zero =>
      cases j with
      | succ j => cases hj
      | zero => rfl, one _ (hAb _ (hD.2 _ _ hql))⟩, hAb _ (hA' _ (Nat.le_refl _))⟩⟩
  have run : va_Run p l e R s m args below meth c H locs cells slots mc ms (F0 m pc ls (As.reverse ++ .ref q :: rest)) rest (cPost (B H.size) (va_A [(q, b0)] H.size) (Value.ref q :: As).toArray) (va_A [(q, b0)] H.size) := by
    rcases w3 with w3 | w3
    · exact va_runI (As := As) (rest := rest) ⟨hx, hb, hml, hown, hts⟩ (hM H.size) (cwI As.length hts good rfl rfl rfl (F.w w2) (F.w w3) (F.w w4) hy hd hR) pre rfl rfl hls rfl (lv_room h8) hdg hf
    · exact va_runIN (As := As) (rest := rest) ⟨hx, hb, hml, hown, hts⟩ (hM H.size) ⟨va_cnB As.length hts good rfl rfl rfl (hG.1.2.2.1 _ w3) (F.w w2) hd hR, hy, F.w w4⟩ pre rfl rfl hls rfl (lv_room h8) hdg hf
  exact va_callv run hS (fun x _ h => hfr x h) hfr (fun u t H1 locs1 ht hvm _ hB hz1 hk1 hS1 => kk u t H1 locs1 ht hB (fun W1 hP1 hD1 => c_beside hP hD hA' hk1 hP1 hD1) hS1)
theorem c_call (F : cFr p c cc nL meth m s args own ad0 K base D sc) {y : MethodName} {b : ByteArray} {nL' f x mc ms idx q : Nat} {b0 : va_E} {As : List Value} (d1 d2 d3 d4 : Nat) {W1 : (Nat → Nat) → va_W} (hM : ∀ sz, cMet l y b nL' f x mc ms ad0 K base D sc (.ref q :: As) [(q, b0)] (cWo D (va_A [(q, b0)] sz) W1) sz)
    (w1 : hwWd d1 (.code y b nL' none) = true) (w2 : hwWd d2 (.initialized y.cls) = true) (w3 : hwWd d3 (.methodLink own idx y) = true ∨ (own, idx, y, "HowDeep") ∈ hwNm) (w4 : hwWd d4 (.instanceMethod y) = true) (hy : y.name = "<init>") (hd : y.cls ≠ "java/lang/invoke/MethodHandle" ∧ y.cls ≠ "java/lang/invoke/VarHandle" ∧ (parseMethodDescriptor y.desc).map (fun d => d.parameters.length) = some As.length)
    (hR : f + 1 ≤ R.frames ∧ 8 + (nL' + 11) + x ≤ R.locals) (hP : va_P D vwCl (ws ++ [(q, b0)]) H) (hD : va_D A (ws ++ [(q, b0)])) (hS : va_S A s.heap H locs) (hA : ∀ q, s.heap.size ≤ q → A q) (hAb : ∀ q, A q → base ≤ q) (hls : ls.size = nL) (h8 : (rest.map fun v => v.category).sum ≤ 8) (hdg : decode cc pc = .ok (.invokespecial idx, 3)) (hf : cells + mc ≤ R.cells ∧ slots + ms ≤ R.slots)
    (kk : ∀ (u : Nat → Nat) (H : Heap) (locs : List Loc), va_P D vwCl (ws ++ W1 u) H → va_D A (ws ++ W1 u) → va_S A s.heap H locs → W p l e R s m args below meth c H locs (cells + mc) (slots + ms) Q (F0 m (pc + 3) ls rest)) :
    W p l e R s m args below meth c H locs cells slots Q (F0 m pc ls (As.reverse ++ .ref q :: rest)) := by
  refine c_callB F d1 d2 d3 d4 (B := fun sz => cWo D (va_A [(q, b0)] sz) W1) hM w1 w2 w3 w4 hy hd hR hP hD hS hA hAb hls h8 hdg hf (fun u t H1 locs1 ht hB hj hS1 => ?_)
  obtain ⟨b1, b2⟩ := hB
  rw [ht] at b1
  obtain ⟨j1, j2⟩ := hj _ b1 b2
  exact kk u H1 locs1 j1 j2 hS1
/-- the end of a constructor -/
theorem c_ret {S : Type} {A : Nat → Prop} {B : S → State → Prop} {mc ms : Nat} (F : cFr p c cc nL meth m s args own ad0 K base D sc) (hr : meth.sig.returnType = none) (hlocks : meth.locks = false) (hcells : cells ≤ mc) (hslots : slots ≤ ms) (hS : va_S A s.heap H locs) (u : S) (hB : ∀ t : State, t.heap = H → B u t) (hdg : decode cc pc = .ok (.return_, 1)) :
    W p l e R s m args below meth c H locs cells slots (MQ below (cPost B A) args s mc ms A) (F0 m pc ls []) := by
  obtain ⟨hx, hb, -⟩ := id F
  refine W.widen hcells hslots ?_
  exact W.vret hx hb hr (fun t ht hW => ⟨⟨u, rfl, trivial, hB t ht⟩, hS.F ht⟩) hS.2.2 hdg hlocks
end CON

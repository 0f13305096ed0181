/-! THE LAW, FROM ITS START -/
section CONL
variable {p : Program} {l : Launch} {e : Env} {R : Room} {s : State} {m : MethodId} {args : Array Value} {below : List Frame} {meth : Method} {c : Code} {H : Heap} {locs : List Loc} {cells slots : Nat} {Q : State → Prop}
variable {cc : ByteArray} {pc nL : Nat} {ls : Array Slot} {rest : List Value} {A : Nat → Prop} {ws : va_W} {own : String} {ad0 : Nat → Nat → Nat} {K : Kc} {base : Nat} {D : va_G} {sc : Nat × (Nat → Int32)}
theorem c_callL {S : Type} (hx : p.tables.exec = Jvm.exec) (hb : c.code = cc) (hml : c.maxLocals = nL) (hown : s.vm.findClass own = some m.cls) (hts : ∀ w ∈ hwTB, w.before args s = true) (hG : cG ad0 K base D sc s s.heap) {y : MethodName} {b : ByteArray} {nL' f x mc ms idx q : Nat} {b0 : va_E} {As : List Value} {B : Nat → S → State → Prop} (hM : ∀ sz, cMet l y b nL' f x mc ms ad0 K base D sc (.ref q :: As) [(q, b0)] (B sz) sz)
    (w1 : Cond.code y b nL' none ∈ hwTB) (w2 : (Cond.initialized y.cls).before args s = true) (w3 : (Cond.methodLink own idx y).before args s = true) (w4 : (Cond.instanceMethod y).before args s = true) (hy : y.name = "<init>") (hd : y.cls ≠ "java/lang/invoke/MethodHandle" ∧ y.cls ≠ "java/lang/invoke/VarHandle" ∧ (parseMethodDescriptor y.desc).map (fun d => d.parameters.length) = some As.length)
    (hR : f + 1 ≤ R.frames ∧ 8 + (nL' + 11) + x ≤ R.locals) (hP : va_P D vwCl (ws ++ [(q, b0)]) H) (hD : va_D A (ws ++ [(q, b0)])) (hS : va_S A s.heap H locs) (hA : ∀ q, s.heap.size ≤ q → A q) (hAb : ∀ q, A q → base ≤ q) (hls : ls.size = nL) (h8 : (rest.map fun v => v.category).sum ≤ 8) (hdg : decode cc pc = .ok (.invokespecial idx, 3)) (hf : cells + mc ≤ R.cells ∧ slots + ms ≤ R.slots)
    (kk : ∀ (u : S) (t : State) (H1 : Heap) (locs : List Loc), t.heap = H1 → B H.size u t → (∀ W1 : va_W, va_P D vwCl W1 H1 → va_D (va_A [(q, b0)] H.size) W1 → va_P D vwCl (ws ++ W1) H1 ∧ va_D A (ws ++ W1)) → va_S A s.heap H1 locs → W p l e R s m args below meth c H1 locs (cells + mc) (slots + ms) Q (F0 m (pc + 3) ls rest)) :
    W p l e R s m args below meth c H locs cells slots Q (F0 m pc ls (As.reverse ++ .ref q :: rest)) := by
  have hql := get_last ws (q, b0)
  have hA' : ∀ x, H.size ≤ x → A x := fun x hx => hA x (Nat.le_trans hS.1 hx)
  have hfr : ∀ x, va_A [(q, b0)] H.size x → A x := fun x z => by
    rcases z with ⟨k9, e9, h9⟩ | h
    · cases k9 with
      | zero => cases h9; exact hD.2 _ _ hql
      | succ k9 => cases h9
    · exact hA' x h
  have one : ∀ (P : Nat × va_E → Prop), P (q, b0) → ∀ (k : Nat) (x : Nat × va_E), [(q, b0)][k]? = some x → P x := fun P h k x hx => by
    cases k with
    | zero => cases hx; exact h
    | succ k => cases hx
  have good : GoodIn hwTB (cWs y b nL') := goodTB (List.forall_mem_cons.mpr ⟨w1, fun _ h => h⟩)
  have pre : PreS s H (va_Pc (.ref q :: As) (cPre ad0 K base D sc [(q, b0)] H.size)) (.ref q :: As) := ⟨cPre.blind, fun U hU hW => ⟨rfl, by rw [hU], by rw [hU]; exact one _ (hP _ _ hql), by rw [hU]; exact hG.go hW (hS.wk hAb), ⟨fun i j x y hi hj _ => by
    cases i with
    | succ i => cases hi
    | zero =>
      cases j with
      | succ j => cases hj
      | zero => rfl, one _ (hAb _ (hD.2 _ _ hql))⟩, hAb _ (hA' _ (Nat.le_refl _))⟩⟩
  have run : va_Run p l e R s m args below meth c H locs cells slots mc ms (F0 m pc ls (As.reverse ++ .ref q :: rest)) rest (cPost (B H.size) (va_A [(q, b0)] H.size) (Value.ref q :: As).toArray) (va_A [(q, b0)] H.size) := by
    exact va_runI (As := As) (rest := rest) ⟨hx, hb, hml, hown, hts⟩ (hM H.size) (cwI As.length hts good rfl rfl rfl w2 w3 w4 hy hd hR) pre rfl rfl hls rfl (lv_room h8) hdg hf
  exact va_callv run hS (fun x _ h => hfr x h) hfr (fun u t H1 locs1 ht hvm _ hB hz1 hk1 hS1 => kk u t H1 locs1 ht hB (fun W1 hP1 hD1 => c_beside hP hD hA' hk1 hP1 hD1) hS1)
end CONL
theorem ksXM_cl : hwCl (ksX ++ ksM) := hwCl_of (by decide +kernel) (by decide +kernel)
def tgM : List Nat := ksM.map Prod.fst
def adF (ad ad2 : Nat → Nat → Nat) : Nat → Nat → Nat := fun t r => if t ∈ tgM then ad2 t r else ad t r
theorem tg_X : ∀ p ∈ hwAll ksX, p.1 ∉ tgM := by decide +kernel
theorem tg_M : ∀ p ∈ hwAll ksM, p.1 ∈ tgM := by decide +kernel
theorem tg_lt : ∀ t ∈ tgM, t < 200 := by decide +kernel
theorem adF_X {ad ad2 : Nat → Nat → Nat} {K : Kc} {σ : Mem} : hwW (adF ad ad2) K ksX σ = hwW ad K ksX σ := hwW_ad (fun p hp => if_neg (tg_X p hp))
theorem adF_M {ad ad2 : Nat → Nat → Nat} {K : Kc} {σ : Mem} : hwW (adF ad ad2) K ksM σ = hwW ad2 K ksM σ := hwW_ad (fun p hp => if_pos (tg_M p hp))
theorem adF_hi {ad ad2 : Nat → Nat → Nat} {t : Nat} (h : 200 ≤ t) : adF ad ad2 t = ad t := funext fun r => if_neg (fun z => Nat.not_lt.mpr h (tg_lt t z))
theorem w1_X11 : Cond.code yX11_init cX11_init 1 none ∈ hwTB := List.mem_filter.mpr ⟨by decide +kernel, by decide +kernel⟩
theorem w1_X12 : Cond.code yX12_init cX12_init 1 none ∈ hwTB := List.mem_filter.mpr ⟨by decide +kernel, by decide +kernel⟩
theorem wL_1 : Cond.classLink R_law 7 RX11 ∈ lw_tbl ∧ Cond.instantiable RX11 10 ∈ lw_tbl ∧ Cond.initialized RX11 ∈ lw_tbl ∧ Cond.methodLink R_law 9 yX11_init ∈ lw_tbl ∧ Cond.instanceMethod yX11_init ∈ lw_tbl ∧ Cond.initialized yX11_init.cls ∈ lw_tbl := by decide +kernel
theorem wL_2 : Cond.classLink R_law 10 RX12 ∈ lw_tbl ∧ Cond.instantiable RX12 62 ∈ lw_tbl ∧ Cond.initialized RX12 ∈ lw_tbl ∧ Cond.methodLink R_law 12 yX12_init ∈ lw_tbl ∧ Cond.instanceMethod yX12_init ∈ lw_tbl ∧ Cond.initialized yX12_init.cls ∈ lw_tbl := by decide +kernel
set_option maxHeartbeats 4000000 in
set_option maxRecDepth 100000 in
/-- from the entry, for every script, the law comes to its end with true -/
theorem whole_start {p : Program} {e : Env} {s : State} {m : MethodId} {below : List Frame} {meth : Method} {c : Code} (l : Launch) (hflags : l.flags = flags0) {b L : Nat} {xs : Nat → Int32} (hL : L ≤ 3072) (C0 : lw_At p s m meth c b L xs) : W p l e room_1 s m #[Value.ref b] below meth c s.heap [] 0 0 (lw_Z below #[Value.ref b] s) (entryFrame m ([Value.ref b] : List Value).toArray 4) := by
  obtain ⟨hx, hb, hr, hml, hown, hts, hX, hbl, hlocks, hgv⟩ := id C0
  obtain ⟨ad0, K, D, hG, had0⟩ := lw_cG C0
  have hb : c.code = cL_law := hb
  have hw : ∀ w ∈ hwTB, w.before #[Value.ref b] s = true := fun w h => hts w (hwTB_lw h)
  have hA : ∀ q : Nat, s.heap.size ≤ q → (fun q : Nat => s.heap.size ≤ q) q := fun _ h => h
  have hAb : ∀ q : Nat, (fun q : Nat => s.heap.size ≤ q) q → s.heap.size ≤ q := fun _ h => h
  have hS : va_S (fun q : Nat => s.heap.size ≤ q) s.heap s.heap [] := va_S.rf
  have hP : va_P D vwCl [] s.heap := fun k q h => by simp at h
  have hD : va_D (fun q : Nat => s.heap.size ≤ q) [] := ⟨fun i j p q h => by simp at h, fun k q h => by simp at h⟩
  have hl := lv_entry ([.ref b]) (n := 4) (Nat.le_of_ble_eq_true rfl)
  rw [lg_entry_eq]
  generalize (lg_sl ([.ref b]) ++ List.replicate (4 - (lg_sl ([.ref b])).length) Slot.unset).toArray = ls at hl ⊢
  have hl : lv_has ls 4 [(0, .ref b)] := hl
  refine va_new (ci := 11) (fs := [.null, .null, .null, .null, .null, .null, .null, .null, .null, .null]) (C := RX11) (T := TX11) (N := 10) hx hb hw (hwU_of (ci := 11) rfl) tyX11 tyX11_ok hown (hts _ wL_1.1) (hts _ wL_1.2.1) (hts _ wL_1.2.2.1) hG.1.1 hP hD hS hA rfl (by decide +kernel) (Nat.le_of_ble_eq_true rfl) (Nat.le_of_ble_eq_true rfl) dL_law_0 (fun h0 H hP hD hS => ?_)
  refine lv_dup hx hb dL_law_3 rfl ?_
  refine c_callL (As := []) (rest := [.ref h0]) (ws := []) hx hb hml hown hw hG (k_X11 l ad0 K s.heap.size D (L, xs) h0) w1_X11 (hts _ wL_1.2.2.2.2.2) (hts _ wL_1.2.2.2.1) (hts _ wL_1.2.2.2.2.1) rfl ⟨by decide +kernel, by decide +kernel, (by decide +kernel : (parseMethodDescriptor yX11_init.desc).map (fun d => d.parameters.length) = some 0)⟩ ⟨Nat.le_of_ble_eq_true rfl, Nat.le_of_ble_eq_true rfl⟩ hP hD hS hA hAb hl.1 (Nat.le_of_ble_eq_true rfl) dL_law_4 ⟨Nat.le_of_ble_eq_true rfl, Nat.le_of_ble_eq_true rfl⟩ (fun ad t H1 locs ht hB hj hS => ?_)
  obtain ⟨⟨hi, h00⟩, υ, ⟨ki, ag, wd⟩, hP1, hD1⟩ := hB
  rw [ht] at hP1
  obtain ⟨hP, hD⟩ := hj _ hP1 hD1
  clear hj hP1 hD1 ht
  have hP : va_P D vwCl (hwW ad K ksX υ) H1 := hP
  have hD : va_D (fun q : Nat => s.heap.size ≤ q) (hwW ad K ksX υ) := hD
  refine lv_astore_n (lv' := [(1, .ref h0), (0, .ref b)]) hx hb dL_law_7 rfl hl (by decide) rfl (fun ls hl => ?_)
  refine va_new (ci := 12) (fs := [.int 0, .int 0, .int 0, .int 0, .int 0, .int 0, .null, .null, .null, .null, .int 0, .null, .null, .null, .null, .null, .int 0, .null, .null, .null, .int 0, .null, .null, .null, .int 0, .null, .null, .int 0, .int 0, .int 0, .int 0, .int 0, .null, .null, .int 0, .null, .null, .null, .null, .null, .null, .null, .int 0, .int 0, .int 0, .int 0, .null, .null, .int 0, .int 0, .int 0, .null, .null, .null, .null, .long 0, .long 0, .long 0, .long 0, .int 0, .int 0, .long 0]) (C := RX12) (T := TX12) (N := 62) hx hb hw (hwU_of (ci := 12) rfl) tyX12 tyX12_ok hown (hts _ wL_2.1) (hts _ wL_2.2.1) (hts _ wL_2.2.2.1) hG.1.1 hP hD hS hA rfl (by decide +kernel) (Nat.le_of_ble_eq_true rfl) (Nat.le_of_ble_eq_true rfl) dL_law_8 (fun h1 H hP hD hS => ?_)
  refine lv_dup hx hb dL_law_11 rfl ?_
  refine c_callL (As := []) (rest := [.ref h1]) hx hb hml hown hw hG (k_X12 l ad0 K s.heap.size D (L, xs) h1) w1_X12 (hts _ wL_2.2.2.2.2.2) (hts _ wL_2.2.2.2.1) (hts _ wL_2.2.2.2.2.1) rfl ⟨by decide +kernel, by decide +kernel, (by decide +kernel : (parseMethodDescriptor yX12_init.desc).map (fun d => d.parameters.length) = some 0)⟩ ⟨Nat.le_of_ble_eq_true rfl, Nat.le_of_ble_eq_true rfl⟩ hP hD hS hA hAb hl.1 (Nat.le_of_ble_eq_true rfl) dL_law_12 ⟨Nat.le_of_ble_eq_true rfl, Nat.le_of_ble_eq_true rfl⟩ (fun ad2 t H2 locs ht hB hj hS => ?_)
  obtain ⟨⟨hi2, h12⟩, hP2, hD2⟩ := hB
  rw [ht] at hP2
  obtain ⟨hP, hD⟩ := hj _ hP2 hD2
  clear hj hP2 hD2 ht
  refine lv_astore_n (lv' := [(2, .ref h1), (1, .ref h0), (0, .ref b)]) hx hb dL_law_15 rfl hl (by decide) rfl (fun ls hl => ?_)
  have hW : hwW ad K ksX υ ++ hwW ad2 K ksM (mI (L, xs)) = hwW (adF ad ad2) K (ksX ++ ksM) υ := by
    rw [hwW_app, adF_X, adF_M, hwW_ki ki ksM (by decide +kernel)]
  rw [hW] at hP hD
  have hsc : υ.2.2.2.2 = (L, xs) := congrArg Prod.snd ki.2.2.2
  have hG2 : hwG (adF ad ad2) K (fun q : Nat => s.heap.size ≤ q) D (L, xs) s s.heap := hG.1.cg (fun t ht => by rw [adF_hi ht, hi t ht]) (fun _ h => h)
  obtain ⟨τ, hτ⟩ := lw_one 3100 (Nat.le_refl _) υ ag wd (by rw [hsc]; exact hL)
  have e200 : adF ad ad2 200 0 = b := by rw [adF_hi (Nat.le_refl _), hi _ (Nat.le_refl _)]; exact had0
  have e0 : adF ad ad2 0 0 = h0 := (if_neg (by decide +kernel)).trans h00
  have e12 : adF ad ad2 12 0 = h1 := (if_pos (by decide +kernel)).trans h12
  refine W.widen (k := 600000) (n := 7302249) (by decide) (by decide) ?_
  have key := hw_law (p := p) (l := l) (e := e) (below := below) C0 ksXM_cl (fun σ => hwW_D hD σ) hG2 (0 + 96) (by decide) (T_L_law 0 3100 υ 1 τ _ hτ rfl)
  refine key H2 ls _ ⟨rfl, ?_, fun i v hv => ?_, fun v hv => absurd hv List.not_mem_nil, hP, hD, hS, hsc⟩
  · show lv_has ls 4 [(0, .ref (adF ad ad2 200 0)), (1, .ref (adF ad ad2 0 0)), (2, .ref (adF ad ad2 12 0))]
    rw [e200, e0, e12]
    exact lv_sub hl [2, 1, 0] rfl
  · match i, hv with
    | 0, hv => cases hv; exact Or.inr ⟨Nat.le_refl _, rfl⟩
    | 1, hv => cases hv; exact Or.inl (by decide +kernel)
    | 2, hv => cases hv; exact Or.inl (by decide +kernel)
    | 3, hv => cases hv
    | i + 4, hv => cases hv

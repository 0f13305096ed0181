/-! THE CONSTRUCTORS, 5: a method of the abstract machine is called from one -/
theorem hwG.cg {ad ad0 : Nat → Nat → Nat} {K : Kc} {A A' : Nat → Prop} {D : va_G} {sc : Nat × (Nat → Int32)} {U : State} {H : Heap} (h : hwG ad0 K A D sc U H) (had : ∀ t, 200 ≤ t → ad t 0 = ad0 t 0) (hA : ∀ x, A' x → A x) : hwG ad K A' D sc U H := by
  obtain ⟨h1, h2, h3, ⟨h4, h5, h6⟩, h7, h8, h9, h10, h11⟩ := h
  refine ⟨h1, h2, h3, ⟨by rw [had 200 (Nat.le_refl _)]; exact h4, by rw [had 200 (Nat.le_refl _)]; exact h5, by rw [had 200 (Nat.le_refl _)]; exact fun z => h6 (hA _ z)⟩, fun j hj => ?_, ?_, fun i hi => ?_, h10.narrow hA, h11.narrow hA⟩
  · obtain ⟨a, b⟩ := h7 j hj
    rw [had (201 + j) (by omega)]
    exact ⟨a.narrow hA, b.narrow hA⟩
  · have e1 : (fun i => ad (210 + i) 0) = fun i => ad0 (210 + i) 0 := funext fun i => had _ (by omega)
    have e2 : (fun i => ad (220 + i) 0) = fun i => ad0 (220 + i) 0 := funext fun i => had _ (by omega)
    rw [e1, e2]
    exact h8.narrow hA
  · rw [had (210 + i) (by omega)]
    exact h9 i hi
section CONH
variable {p : Program} {l : Launch} {e : Env} {R : Room} {s : State} {m : MethodId} {args : Array Value} {below : List Frame} {meth : Method} {c : Code} {H : Heap} {locs : List Loc} {cells slots : Nat} {Q : State → Prop}
variable {cc : ByteArray} {pc nL : Nat} {ls : Array Slot} {rest : List Value} {A A' : Nat → Prop} {own : String} {ad ad0 : Nat → Nat → Nat} {K : Kc} {base : Nat} {D : va_G} {sc : Nat × (Nat → Int32)} {ks : List (Nat × Nat)}
theorem c_hrun {a : Array Value} {st0 : List Value} {Qp : Pst} (hr : va_Run p l e R s m args below meth c H locs cells slots 0 0 (F0 m pc ls st0) rest (hwQ ad K ks A' D sc Qp a) A') (hS : va_S A s.heap H locs) (hAA : ∀ x, A' x → A x)
    (kk : ∀ (r : Option AV) (τ : Mem) (H1 : Heap) (locs : List Loc), Qp r τ → va_P D vwCl (hwW ad K ks τ) H1 → va_D A' (hwW ad K ks τ) → H.size ≤ H1.size → (∀ x : Nat, x < H.size → ¬ A' x → H1[x]? = H[x]?) → va_S A s.heap H1 locs → W p l e R s m args below meth c H1 locs cells slots Q (F0 m (pc + 3) ls ((r.map (hwV ad)).toList ++ rest))) : W p l e R s m args below meth c H locs cells slots Q (F0 m pc ls st0) := by
  intro T hT X
  obtain ⟨v, st₀, t, T', L, h0, X', hL, e1, e2, ⟨⟨r, τ', hv, hQ, hok, hP, hD, hsc⟩, hz, hk⟩, st⟩ := hr T hT X
  obtain rfl : v = r.map (hwV ad) := Outcome.returned.inj hv
  rw [h0] at hz hk
  obtain ⟨t2, a1, b1⟩ := kk r τ' T'.heap (locs ++ L) hQ (by rw [e1]; exact hP) hD (by rw [e1]; exact hz) (fun x h1 h2 => by rw [e1]; exact hk x h1 h2)
    ⟨Nat.le_trans hS.1 (by rw [e1]; exact hz), fun q h1 h2 => by rw [e1, hk q (Nat.lt_of_lt_of_le h1 hS.1) (fun z => h2 (hAA q z))]; exact hS.2.1 q h1 h2, fun q hq => by
      rcases List.mem_append.mp hq with h | h
      · exact hS.2.2 q h
      · exact hAA _ (hL q h)⟩ T' rfl X'
  exact ⟨t2, st t2 a1, b1⟩
theorem c_hV (F : cFr p c cc nL meth m s args own ad0 K base D sc) {σ : Mem} {Qp : Pst} (hcl : hwCl ks) (hDD : ∀ σ, va_D A' (hwW ad K ks σ)) (hAA : ∀ x, A' x → A x) (hAb : ∀ x, A x → base ≤ x) (had : ∀ t, 200 ≤ t → ad t 0 = ad0 t 0) {idx : Nat} (n d b dl t ci q0 : Nat) (as : List AV) {fs : List Value} {C : String} {Tt : u_T} {Nn : Nat} (hbl : b < hwLw) (oI : okI b = true) (oN : okN b n = true) (hlen : as.length = n) (hlk : hwWd dl (.methodLink own idx (hwY b)) = true) (hC : (hwY b).cls = C) (hci : vwCl[ci]? = some (C, Tt, Nn)) (hrec : (hwW ad K ks σ)[q0]? = some (ad t 0, .inr (ci, fs))) (hwp : WpD d b (.inr (.inr (t, 0)) :: as) σ Qp) (hok : ∀ v ∈ (.inr (.inr (t, 0)) :: as : List AV), hwOk ks v) (hσ : σ.2.2.2.2 = sc) (hR : (hwRm d).frames + 1 ≤ R.frames ∧ 8 + (hwN b + 11) + (hwRm d).locals ≤ R.locals)
    (hPk : va_P D vwCl (hwW ad K ks σ) H) (hS : va_S A s.heap H locs) (hls : ls.size = nL) (h8 : (rest.map fun v => v.category).sum ≤ 8) (hdg : decode cc pc = .ok (.invokevirtual idx, 3)) (hf : cells ≤ R.cells ∧ slots ≤ R.slots)
    (kk : ∀ (r : Option AV) (τ : Mem) (H1 : Heap) (locs : List Loc), Qp r τ → va_P D vwCl (hwW ad K ks τ) H1 → va_D A' (hwW ad K ks τ) → H.size ≤ H1.size → (∀ x : Nat, x < H.size → ¬ A' x → H1[x]? = H[x]?) → va_S A s.heap H1 locs → W p l e R s m args below meth c H1 locs cells slots Q (F0 m (pc + 3) ls ((r.map (hwV ad)).toList ++ rest))) :
    W p l e R s m args below meth c H locs cells slots Q (F0 m pc ls ((as.map (hwV ad)).reverse ++ .ref (ad t 0) :: rest)) := by
  subst hσ
  subst hC
  obtain ⟨hx, hb, hml, hown, hts, hin, hG⟩ := id F
  have hM := hw_sound (l := l) (ad := ad) (K := K) (ks := ks) (A := A') (D := D) hcl hDD hw_all d b _ σ Qp hok hbl hwp
  have oC := (hw_all b hbl).1
  have oC' := oC
  simp only [okC, Bool.and_eq_true] at oC'
  simp only [okI, Bool.and_eq_true] at oI
  have hn : (parseMethodDescriptor (hwY b).desc).map (fun d => d.parameters.length) = some n := of_decide_eq_true oN
  have hd := of_decide_eq_true oC'.1.2
  have hrm : ∀ w ∈ wsV own idx (hwY b).cls (hwY b) (hwWs b), w ∈ hwTB := List.forall_mem_append.mpr ⟨List.forall_mem_cons.mpr ⟨hwWd_mem hlk, List.forall_mem_cons.mpr ⟨hwWd_mem oI.1, List.forall_mem_cons.mpr ⟨hwWd_mem oI.2, List.forall_mem_cons.mpr ⟨hwWd_mem oC'.1.1.1.2, fun _ h => absurd h List.not_mem_nil⟩⟩⟩⟩, hwWs_TB oC⟩
  have hGk : hwG ad K A' D σ.2.2.2.2 s H := (cG.go hG (State.WarmedH.refl s) (hS.wk hAb)).1.cg had (fun x z => hAb x (hAA x z))
  exact c_hrun (va_runV (As := as.map (hwV ad)) (rest := rest) (C := (hwY b).cls) ⟨hx, hb, hml, hown, hts⟩ hM (cwV n hts (goodTB hrm) rfl rfl rfl ⟨rfl, hd.1, hd.2, hn⟩ hR) ⟨hwE_blind, va_recv F.cls hPk hci hrec, fun U hU hW => ⟨rfl, by rw [hU]; exact hwG.go hGk hW va_S.rf, by rw [hU]; exact hPk⟩⟩ rfl (by rw [List.length_map]; exact hlen) hls rfl (lv_room h8) hdg hf) hS hAA kk
end CONH

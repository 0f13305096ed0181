/-! FROM THE ABSTRACT MACHINE TO THE MACHINE, 6: calls and returns; what a method may be called with it does -/
def hwRm (d : Nat) : Room := { frames := d + 8, cells := 0, slots := 0, locals := 60 * d + 600 }
def hwE (ad : Nat → Nat → Nat) (K : Kc) (ks : List (Nat × Nat)) (A : Nat → Prop) (D : va_G) (σ : Mem) (U : State) : Prop := hwG ad K A D σ.2.2.2.2 U U.heap ∧ va_P D vwCl (hwW ad K ks σ) U.heap
def hwQ (ad : Nat → Nat → Nat) (K : Kc) (ks : List (Nat × Nat)) (A : Nat → Prop) (D : va_G) (sc : Nat × (Nat → Int32)) (Q : Pst) : Array Value → State → Outcome → State → Prop := fun _ s oc t =>
  (∃ (r : Option AV) (τ : Mem), oc = .returned (r.map (hwV ad)) ∧ Q r τ ∧ (∀ v ∈ r.toList, hwOk ks v) ∧ va_P D vwCl (hwW ad K ks τ) t.heap ∧ va_D A (hwW ad K ks τ) ∧ τ.2.2.2.2 = sc) ∧ va_F A s t
theorem goodTB {ws : List Jvm.Cond} (h : ∀ w ∈ ws, w ∈ hwTB) : GoodIn hwTB ws := fun w hw => ⟨h w hw, good_of_word (hwTB_good (h w hw))⟩
theorem hwWs_TB {m : Nat} (h : okC m = true) : ∀ w ∈ hwWs m, w ∈ hwTB := by
  simp only [okC, Bool.and_eq_true] at h
  exact List.forall_mem_cons.mpr ⟨hwWd_mem h.1.1.1.1, fun _ h => h⟩
theorem hwPop_spec : ∀ (n : Nat) (acc st as r : List AV), hwPop n acc st = some (as, r) → ∃ xs : List AV, xs.length = n ∧ st = xs ++ r ∧ as = xs.reverse ++ acc
  | 0, acc, st, as, r, h => by cases h; exact ⟨[], rfl, rfl, rfl⟩
  | n + 1, acc, [], as, r, h => by cases h
  | n + 1, acc, v :: st, as, r, h => by
    obtain ⟨xs, h1, h2, h3⟩ := hwPop_spec n (v :: acc) st as r h
    exact ⟨v :: xs, by simp [h1], by rw [h2]; rfl, by rw [h3]; simp⟩
section CL
variable {p : Program} {l : Launch} {e : Env} {R : Room} {s : State} {m : MethodId} {args : Array Value} {below : List Frame} {meth : Method} {c : Code} {H H0 : Heap} {locs : List Loc} {cells slots : Nat} {Qf : State → Prop} {ls : Array Slot}
variable {ad : Nat → Nat → Nat} {K : Kc} {ks : List (Nat × Nat)} {A : Nat → Prop} {D : va_G} {sc : Nat × (Nat → Int32)} {pc : Nat} {L : Lc} {st : List AV} {τ : Mem}
theorem hw_callQ {a : Array Value} {st0 rest : List Value} {Q : Pst} (hr : va_Run p l e R s m args below meth c H locs cells slots 0 0 (F0 m pc ls st0) rest (hwQ ad K ks A D sc Q a) A) (hS : va_S A H0 H locs)
    (kk : ∀ (r : Option AV) (τ' : Mem) (H1 : Heap) (locs1 : List Loc), Q r τ' → (∀ v ∈ r.toList, hwOk ks v) → va_P D vwCl (hwW ad K ks τ') H1 → va_D A (hwW ad K ks τ') → τ'.2.2.2.2 = sc → va_S A H0 H1 locs1 → W p l e R s m args below meth c H1 locs1 cells slots Qf (F0 m (pc + 3) ls ((r.map (hwV ad)).toList ++ rest))) : W p l e R s m args below meth c H locs cells slots Qf (F0 m pc ls st0) := by
  intro T hT X
  obtain ⟨v, st₀, t, T', L, h0, X', hL, e1, e2, ⟨⟨r, τ', hv, hQ, hok, hP, hD, hsc⟩, hz, hk⟩, st⟩ := hr T hT X
  obtain rfl : v = r.map (hwV ad) := Outcome.returned.inj hv
  rw [h0] at hz hk
  obtain ⟨t2, a1, b1⟩ := kk r τ' T'.heap (locs ++ L) hQ hok (by rw [e1]; exact hP) hD hsc
    ⟨Nat.le_trans hS.1 (by rw [e1]; exact hz), fun q h1 h2 => by rw [e1, hk q (Nat.lt_of_lt_of_le h1 hS.1) h2]; exact hS.2.1 q h1 h2, fun q hq => by
      rcases List.mem_append.mp hq with h | h
      · exact hS.2.2 q h
      · exact hL q h⟩ T' rfl X'
  exact ⟨t2, st t2 a1, b1⟩
theorem hwE_blind {σ : Mem} {av : List Value} : FrameBlind (va_Pc av (hwE ad K ks A D σ)) := by
  intro a U g mk h
  obtain ⟨h1, h2, h3⟩ := h
  refine ⟨h1, ?_, h3⟩
  exact hwG.go (s := U) (U := U.calling g mk a) h2 (State.WarmedH.refl U) va_S.rf
/-- what a call asks of the callee's contract -/
abbrev hwMet (l : Launch) (ad : Nat → Nat → Nat) (K : Kc) (ks : List (Nat × Nat)) (A : Nat → Prop) (D : va_G) (d mi : Nat) (as : List AV) (σ : Mem) (Q : Pst) : Prop :=
  Met l (hwY mi) (hwWs mi) (hwRm d) (va_Pc (as.map (hwV ad)) (hwE ad K ks A D σ)) (hwQ ad K ks A D σ.2.2.2.2 Q) 0 0 A
theorem hw_call (mi d : Nat) (hcl : hwCl ks) (hx : p.tables.exec = Jvm.exec) (hb : c.code = hwB mi) (hml : c.maxLocals = hwN mi) (hts : ∀ w ∈ hwTB, w.before args s = true) (hown : s.vm.findClass (hwY mi).cls = some m.cls) (hG : hwG ad K A D sc s s.heap) (hR : d + 9 ≤ R.frames ∧ 60 * d + 660 ≤ R.locals ∧ cells ≤ R.cells ∧ slots ≤ R.slots)
    (hall : ∀ m, m < hwLw → okC m = true) {i : Instr} {len : Nat} {dt : Dt} {msk : List Bool} (hok : okL mi (pc, i, len, dt, msk) = true) (hdg : decode (hwB mi) pc = .ok (i, len)) {q : Nat × List AV × List AV} (hX : hwCall (pc, i, len, dt, msk) st = some q) (hI : hwInv ad K ks A D (hwN mi) sc s.heap (pc, L, st) τ H ls locs) {Q : Pst}
    (hM : (∀ v ∈ q.2.1, hwOk ks v) → q.1 < hwLw → hwMet l ad K ks A D d q.1 q.2.1 τ Q) (k : ∀ r τ', Q r τ' → hwK p l e R s m args below meth c cells slots Qf ad K ks A D (hwN mi) sc (pc + 3, L, r.toList ++ q.2.2) τ') :
    W p l e R s m args below meth c H locs cells slots Qf (F0 m pc ls (st.map (hwV ad))) := by
  obtain ⟨a, b, c0, dd, f, z⟩ := dt
  have hst := hI.ok
  have hls : ls.size = hwN mi := hI.2.1.1
  have hscr : τ.2.2.2.2 = sc := hI.2.2.2.2.2.2.2
  have pre : ∀ (as : List AV) (U : State), U.heap = H → s.WarmedH U.vm → va_Pc (as.map (hwV ad)) (hwE ad K ks A D τ) (as.map (hwV ad)).toArray U := by
    intro as U hU hW
    refine ⟨rfl, ?_, by rw [hU]; exact hI.2.2.2.2.1⟩
    rw [hscr, hU]
    exact hG.go hW hI.2.2.2.2.2.2.1
  have room : ∀ b, b < hwLw → (hwRm d).frames + 1 ≤ R.frames ∧ 8 + (hwN b + 11) + (hwRm d).locals ≤ R.locals := by
    intro b hb
    have h := hall b hb
    simp only [okC, Bool.and_eq_true] at h
    have h40 := ble_t h.2
    refine ⟨hR.1, ?_⟩
    have : (hwRm d).locals = 60 * d + 600 := rfl
    omega
  have facts : ∀ b, b < hwLw → Jvm.Cond.initialized (hwY b).cls ∈ hwTB ∧ ((hwY b).cls ≠ "java/lang/invoke/MethodHandle" ∧ (hwY b).cls ≠ "java/lang/invoke/VarHandle") := by
    intro b hb
    have h := hall b hb
    simp only [okC, Bool.and_eq_true] at h
    exact ⟨hwWd_mem h.1.1.1.2, of_decide_eq_true h.1.2⟩
  have fin : ∀ (as r : List AV) (b : Nat) (st0 : List Value), q = (b, as, r) → (∀ v ∈ r, hwOk ks v) → va_Run p l e R s m args below meth c H locs cells slots 0 0 (F0 m pc ls st0) (r.map (hwV ad)) (hwQ ad K ks A D τ.2.2.2.2 Q (as.map (hwV ad)).toArray) A → W p l e R s m args below meth c H locs cells slots Qf (F0 m pc ls st0) := by
    intro as r b st0 hq hr hrun
    rw [hscr] at hrun
    refine hw_callQ hrun hI.2.2.2.2.2.2.1 (fun rr τ' H1 locs1 hQ hok2 hP hD hsc hS => ?_)
    have kk := k rr τ' hQ H1 ls locs1 ⟨hI.1, hI.2.1, hI.2.2.1, (fun v hv => by
      rw [hq] at hv
      rcases List.mem_append.mp hv with h | h
      · exact hok2 v h
      · exact hr v h), hP, hD, hS, hsc⟩
    have e1 : ((rr.toList ++ q.2.2).map (hwV ad)) = (rr.map (hwV ad)).toList ++ r.map (hwV ad) := by
      rw [hq]; cases rr <;> simp
    have kk : W p l e R s m args below meth c H1 locs1 cells slots Qf (F0 m (pc + 3) ls ((rr.toList ++ q.2.2).map (hwV ad))) := kk
    rw [e1] at kk
    exact kk
  cases i with
  | invokestatic idx =>
    obtain ⟨h1, h2⟩ := and_t hok
    obtain rfl : len = 3 := beq_t h1
    have hX : (bif Nat.beq a 1 || Nat.beq a 2 then (match hwPop c0 [] st with
      | some (as, r) => bif Nat.ble (hwCats r) 8 then some (b, as, r) else none
      | none => none) else none) = some q := hX
    obtain ⟨ha, hX⟩ := bif_no2 hX
    split at hX
    · rename_i as r hp
      obtain ⟨h8, rfl⟩ := bif_no hX
      obtain ⟨xs, x1, x2, x3⟩ := hwPop_spec _ _ _ _ _ hp
      have x3 : as = xs.reverse := by simpa using x3
      have hasok : ∀ v ∈ as, hwOk ks v := fun v hv => hst v (by rw [x2, x3] at *; exact List.mem_append_left _ (List.mem_reverse.mp hv))
      have hrok : ∀ v ∈ r, hwOk ks v := fun v hv => hst v (by rw [x2]; exact List.mem_append_right _ hv)
      have hstk : st.map (hwV ad) = (as.map (hwV ad)).reverse ++ r.map (hwV ad) := by rw [x2, x3]; simp
      have hlen : (as.map (hwV ad)).length = c0 := by rw [x3]; simp [x1]
      rw [hstk]
      have go : okS b = true → okN b c0 = true → b < hwLw → ((Jvm.Cond.methodLink (hwY mi).cls idx (hwY b) ∈ hwTB) ∨ va_Nw (.methodLinkNest (hwY mi).cls idx (hwY b) "HowDeep") s) → W p l e R s m args below meth c H locs cells slots Qf (F0 m pc ls ((as.map (hwV ad)).reverse ++ r.map (hwV ad))) := by
        intro o1 o2 o3 o4
        have hMb := hM hasok o3
        obtain ⟨f1, f2⟩ := facts b o3
        have hws := hwWs_TB (hall b o3)
        have hn : (parseMethodDescriptor (hwY b).desc).map (fun d => d.parameters.length) = some c0 := of_decide_eq_true o2
        have hstat : Jvm.Cond.static (hwY b) ∈ hwTB := hwWd_mem o1
        refine fin as r b _ rfl hrok ?_
        have hW8 : 2 * (F0 m pc ls ((as.map (hwV ad)).reverse ++ r.map (hwV ad))).monitorRoom + ((r.map (hwV ad)).map fun v => v.category).sum ≤ 8 := lv_room (by rw [hwCats_cat]; exact ble_t h8)
        rcases o4 with o4 | o4
        · exact va_runS (g := F0 m pc ls ((as.map (hwV ad)).reverse ++ r.map (hwV ad))) ⟨hx, hb, hml, hown, hts⟩ hMb (va_cwS c0 hts (goodTB (by
            intro w hw
            unfold va_wsS at hw
            rcases List.mem_append.mp hw with h | h
            · simp only [List.mem_cons, List.not_mem_nil, or_false] at h
              rcases h with rfl | rfl | rfl
              · exact o4
              · exact hstat
              · exact f1
            · exact hws w h)) rfl rfl rfl ⟨f2.1, f2.2, hn⟩ (room b o3)) ⟨hwE_blind, fun U hU hW => pre as U hU hW⟩ rfl hlen hls rfl hW8 hdg ⟨hR.2.2.1, hR.2.2.2⟩
        · exact va_runSN (g := F0 m pc ls ((as.map (hwV ad)).reverse ++ r.map (hwV ad))) ⟨hx, hb, hml, hown, hts⟩ hMb ⟨va_cnB c0 hts (goodTB hws) rfl rfl rfl o4 (hts _ f1) ⟨f2.1, f2.2, hn⟩ (room b o3), hts _ hstat, trivial⟩ ⟨hwE_blind, fun U hU hW => pre as U hU hW⟩ rfl hlen hls rfl hW8 hdg ⟨hR.2.2.1, hR.2.2.2⟩
      split at h2
      · obtain ⟨h2, h6⟩ := and_t h2
        obtain ⟨h2, h5⟩ := and_t h2
        obtain ⟨h2, h4⟩ := and_t h2
        exact go h4 h5 (ble_t h6) (Or.inl (hwWd_mem h2))
      · obtain ⟨h2, h6⟩ := and_t h2
        obtain ⟨h2, h5⟩ := and_t h2
        obtain ⟨h2, h4⟩ := and_t h2
        exact go h4 h5 (ble_t h6) (Or.inr (hG.2.2.1 _ (List.mem_of_getElem? (of_decide_eq_true h2))))
      all_goals first | (exact absurd ha (by decide)) | (cases h2; done)
    · cases hX
  | invokevirtual idx =>
    obtain ⟨h1, h9⟩ := and_t hok
    obtain ⟨h1, h2⟩ := and_t h1
    obtain rfl : len = 3 := beq_t h1
    have hX : (bif Nat.beq a 0 || Nat.beq a 3 then (match hwPop c0 [] st with
      | some (as, r) => bif Nat.ble (hwCats r) 8 && hwRc f as then some (b, as, r) else none
      | none => none) else none) = some q := hX
    obtain ⟨ha, hX⟩ := bif_no2 hX
    split at hX
    · rename_i as r hp
      obtain ⟨h8a, rfl⟩ := bif_no hX
      obtain ⟨h8, hrc⟩ := and_t h8a
      obtain ⟨xs, x1, x2, x3⟩ := hwPop_spec _ _ _ _ _ hp
      have x3 : as = xs.reverse := by simpa using x3
      have hasok : ∀ v ∈ as, hwOk ks v := fun v hv => hst v (by rw [x2, x3] at *; exact List.mem_append_left _ (List.mem_reverse.mp hv))
      have hrok : ∀ v ∈ r, hwOk ks v := fun v hv => hst v (by rw [x2]; exact List.mem_append_right _ hv)
      have hlen : as.length = c0 := by rw [x3]; simp [x1]
      have hst2 : st = as.reverse ++ r := by rw [x2, x3]; simp
      rcases as with _ | ⟨(x | x | ⟨t, tr⟩), as⟩ <;> try (cases hrc; done)
      have hstk : st.map (hwV ad) = (as.map (hwV ad)).reverse ++ .ref (ad t tr) :: r.map (hwV ad) := by rw [hst2]; simp [hwV]
      unfold hwRc at hrc
      simp only at hrc
      split at hrc
      · rename_i ci bb fl hsh
        obtain rfl : ci = f := beq_t hrc
        have hkey := hwOk_key (ok_hd hasok) (by rw [hsh]; exact (by decide : 0 < 6))
        obtain ⟨q0, -, hw0⟩ := hwW_get (ad := ad) (K := K) (σ := τ) hkey
        rw [show hwCo ad K τ (t, tr) = .inr (ci, (List.range fl.length).map (fun k => hwFv ad τ t k (ntD (9, 0) fl k))) by simp only [hwCo, hsh]] at hw0
        have h9 : decide ((vwCl[ci]?).map (fun q => q.1) = some (hwY b).cls) = true := by
          rcases (Bool.or_eq_true _ _).mp ha with h | h <;> (rw [beq_t h] at h9; exact h9)
        have h9 := of_decide_eq_true h9
        cases hv : vwCl[ci]? with
        | none => rw [hv] at h9; cases h9
        | some zq =>
          rw [hv] at h9
          have h9 : zq.1 = (hwY b).cls := Option.some.inj h9
          have hrecv := va_recv hG.1 hI.2.2.2.2.1 hv hw0
          rw [h9] at hrecv
          rw [hstk]
          cases c0 with
          | zero => cases hlen
          | succ n =>
            have hlen2 : (as.map (hwV ad)).length = n := by rw [List.length_map]; exact Nat.succ.inj hlen
            have go : okI b = true → okN b n = true → b < hwLw → ((Jvm.Cond.methodLink (hwY mi).cls idx (hwY b) ∈ hwTB) ∨ va_Nw (.methodLinkNest (hwY mi).cls idx (hwY b) "HowDeep") s) → W p l e R s m args below meth c H locs cells slots Qf (F0 m pc ls ((as.map (hwV ad)).reverse ++ .ref (ad t tr) :: r.map (hwV ad))) := by
              intro o1 o2 o3 o4
              have hMb := hM hasok o3
              obtain ⟨f1, f2⟩ := facts b o3
              have hws := hwWs_TB (hall b o3)
              have hn : (parseMethodDescriptor (hwY b).desc).map (fun d => d.parameters.length) = some n := of_decide_eq_true o2
              obtain ⟨i1, i2⟩ := and_t o1
              have hin : Jvm.Cond.instanceMethod (hwY b) ∈ hwTB := hwWd_mem i1
              have hse : Jvm.Cond.selects (hwY b).cls (hwY b) (hwY b) ∈ hwTB := hwWd_mem i2
              refine fin (.inr (.inr (t, tr)) :: as) r b _ rfl hrok ?_
              have hW8 : 2 * (F0 m pc ls ((as.map (hwV ad)).reverse ++ .ref (ad t tr) :: r.map (hwV ad))).monitorRoom + ((r.map (hwV ad)).map fun v => v.category).sum ≤ 8 := lv_room (by rw [hwCats_cat]; exact ble_t h8)
              rcases o4 with o4 | o4
              · exact va_runV (g := F0 m pc ls ((as.map (hwV ad)).reverse ++ .ref (ad t tr) :: r.map (hwV ad))) (C := (hwY b).cls) ⟨hx, hb, hml, hown, hts⟩ hMb (cwV n hts (goodTB (by
                  intro w hw
                  unfold wsV at hw
                  rcases List.mem_append.mp hw with h | h
                  · simp only [List.mem_cons, List.not_mem_nil, or_false] at h
                    rcases h with rfl | rfl | rfl | rfl
                    · exact o4
                    · exact hin
                    · exact hse
                    · exact f1
                  · exact hws w h)) rfl rfl rfl ⟨rfl, f2.1, f2.2, hn⟩ (room b o3)) ⟨hwE_blind, hrecv, fun U hU hW => pre (.inr (.inr (t, tr)) :: as) U hU hW⟩ rfl hlen2 hls rfl hW8 hdg ⟨hR.2.2.1, hR.2.2.2⟩
              · exact va_runVN (g := F0 m pc ls ((as.map (hwV ad)).reverse ++ .ref (ad t tr) :: r.map (hwV ad))) (C := (hwY b).cls) ⟨hx, hb, hml, hown, hts⟩ hMb ⟨va_cnB n hts (goodTB hws) rfl rfl rfl o4 (hts _ f1) ⟨f2.1, f2.2, hn⟩ (room b o3), hts _ hin, hts _ hse⟩ ⟨hwE_blind, hrecv, fun U hU hW => pre (.inr (.inr (t, tr)) :: as) U hU hW⟩ rfl hlen2 hls rfl hW8 hdg ⟨hR.2.2.1, hR.2.2.2⟩
            have h2 : (match (generalizing := false) a with
              | 0 => hwWd dd (.methodLink (hwY mi).cls idx (hwY b)) && okI b && okN b n && Nat.beq ci (hwCi b) && Nat.ble (b + 1) hwLw
              | 3 => decide (hwNm[dd]? = some ((hwY mi).cls, idx, hwY b, "HowDeep")) && okI b && okN b n && Nat.beq ci (hwCi b) && Nat.ble (b + 1) hwLw
              | 20 => hwWd dd (.methodLink (hwY mi).cls idx yJ0_charAt_5068e)
              | 21 => hwWd dd (.methodLink (hwY mi).cls idx yJ0_indexOf_0f7a4)
              | _ => false) = true := h2
            split at h2
            · obtain ⟨h2, h7⟩ := and_t h2
              obtain ⟨h2, h6⟩ := and_t h2
              obtain ⟨h2, h5⟩ := and_t h2
              obtain ⟨h2, h4⟩ := and_t h2
              exact go h4 h5 (ble_t h7) (Or.inl (hwWd_mem h2))
            · obtain ⟨h2, h7⟩ := and_t h2
              obtain ⟨h2, h6⟩ := and_t h2
              obtain ⟨h2, h5⟩ := and_t h2
              obtain ⟨h2, h4⟩ := and_t h2
              exact go h4 h5 (ble_t h7) (Or.inr (hG.2.2.1 _ (List.mem_of_getElem? (of_decide_eq_true h2))))
            · exact absurd ha (by decide)
            · exact absurd ha (by decide)
            · cases h2
      · cases hrc
    · cases hX
  | _ => exact absurd (show (none : Option (Nat × List AV × List AV)) = some q from hX) (fun h => by cases h)
/-- one step of a frame: P is what the machine comes to from there -/
theorem hw_step (mi d : Nat) (hcl : hwCl ks) (hx : p.tables.exec = Jvm.exec) (hb : c.code = hwB mi) (hml : c.maxLocals = hwN mi) (hts : ∀ w ∈ hwTB, w.before args s = true) (hown : s.vm.findClass (hwY mi).cls = some m.cls) (hG : hwG ad K A D sc s s.heap) (hR : d + 9 ≤ R.frames ∧ 60 * d + 660 ≤ R.locals ∧ cells ≤ R.cells ∧ slots ≤ R.slots)
    (hall : ∀ m, m < hwLw → okC m = true) (hDm : okD mi = true) {Q : Pst}
    (IH : ∀ (b : Nat) (as : List AV) (τ : Mem) (Q : Pst), (∀ v ∈ as, hwOk ks v) → b < hwLw → WpD d b as τ Q → hwMet l ad K ks A D d b as τ Q)
    (hret : ∀ (pc : Nat) (i : Instr) (len : Nat) (dt : Dt) (msk : List Bool) (L : Lc) (st : List AV) (τ : Mem) (H : Heap) (ls : Array Slot) (locs : List Loc) (r : Option AV), okL mi (pc, i, len, dt, msk) = true → decode (hwB mi) pc = .ok (i, len) → hwRet (pc, i, len, dt, msk) st = some r → Q r τ → hwInv ad K ks A D (hwN mi) sc s.heap (pc, L, st) τ H ls locs → W p l e R s m args below meth c H locs cells slots Qf (F0 m pc ls (st.map (hwV ad))))
    (f : Fr) (τ : Mem) (h : hwStp (WpD d) (hwCd mi) Q f τ (hwK p l e R s m args below meth c cells slots Qf ad K ks A D (hwN mi) sc)) : hwK p l e R s m args below meth c cells slots Qf ad K ks A D (hwN mi) sc f τ := by
  obtain ⟨pc, L, st⟩ := f
  obtain ⟨⟨pc', i, len, dt, msk⟩, he, h⟩ := h
  obtain ⟨h1, h2, h3⟩ := okD_at hDm he
  obtain rfl : pc' = pc := h1
  intro H ls locs hI
  have hI : hwInv ad K ks A D (hwN mi) sc s.heap (pc', L, st) τ H ls locs := hI
  have hI2 := hI.mask msk
  have h60 : 600 ≤ R.locals := by have := hR.2.1; omega
  rcases h with ⟨q, hX, hk⟩ | ⟨q, hX, hk⟩ | ⟨r, hX, hk⟩
  · exact hw_exec mi hcl hx hb hml hts hown hG ⟨by have := hR.1; omega, h60, hR.2.2⟩ h3 h2 hX hI2 hk
  · exact hw_call mi d hcl hx hb hml hts hown hG hR hall h3 h2 hX hI2 (fun ha hq => IH _ _ _ _ ha hq hk) (fun r τ' h => h)
  · exact hret pc' i len dt msk _ st τ H ls locs r h3 h2 hX hk hI2
end CL
set_option maxRecDepth 20000 in
/-- THE MACHINE DOES WHAT THE ABSTRACT MACHINE DOES: a contract of every method out of a run of the abstract machine -/
theorem hw_sound {l : Launch} {ad : Nat → Nat → Nat} {K : Kc} {ks : List (Nat × Nat)} {A : Nat → Prop} {D : va_G} (hcl : hwCl ks) (hDD : ∀ σ, va_D A (hwW ad K ks σ)) (hall : ∀ m, m < hwLw → okC m = true ∧ okD m = true) :
    ∀ (d b : Nat) (as : List AV) (σ : Mem) (Q : Pst), (∀ v ∈ as, hwOk ks v) → b < hwLw → WpD d b as σ Q → hwMet l ad K ks A D d b as σ Q := by
  intro d
  induction d with
  | zero => intro b as σ Q _ _ h; exact h.elim
  | succ d IH =>
    intro b as σ Q has hb h
    obtain ⟨-, hlen, hwp⟩ := h
    obtain ⟨hC, hDb⟩ := hall b hb
    have hC' := hC
    simp only [okC, Bool.and_eq_true] at hC'
    have hplain : plainName (hwY b).cls = true := hC'.1.1.2
    refine Met.ofW (cc := hwB b) (maxL := hwN b) (ret := hwR b) hplain rfl ?_
    intro p e s m args below meth c s₁ B hml hv
    obtain ⟨rfl, hG, hP⟩ := hv
    have hx := B.exec
    have hbt := B.bytes
    have hr := B.returns
    have hlocks := B.notSynchronized
    have hts0 := atoms_spec (ws := hwWs b) B.pre
    have hts : ∀ w ∈ hwTB, w.before (as.map (hwV ad)).toArray s = true := fun w hw => hts0 w (List.mem_cons_of_mem _ hw)
    have hown : s.vm.findClass (hwY b).cls = some m.cls := findClass_of_methodNamed B.named
    have hl := lv_entry (as.map (hwV ad)) (n := hwN b) (by rw [hwCats_sl]; exact hlen)
    rw [lg_entry_eq]
    generalize (lg_sl (as.map (hwV ad)) ++ List.replicate (hwN b - (lg_sl (as.map (hwV ad))).length) Slot.unset).toArray = ls at hl ⊢
    have hInv : hwInv ad K ks A D (hwN b) σ.2.2.2.2 s.heap (0, hwEn as (hwN b), []) σ s.heap ls [] := by
      refine ⟨hwEn_len as _ hlen, hwEn_has hl, fun i v hi => ?_, (fun v hv => by cases hv), hP, hDD σ, va_S.rf, rfl⟩
      have hmem := hwEn_args ad as (hwN b) 0 i v hi
      rcases v with x | x | q
      · trivial
      · trivial
      · have key : ∀ (as : List AV) (n i : Nat) (v : AV), ntD none (hwEn as n) i = some v → v ∈ as := by
          intro as
          induction as with
          | nil => intro n i v h; rw [hwEn, ntD_rep] at h; cases h
          | cons a r ih =>
            intro n i v h
            rcases a with x | x | q
            · cases i with
              | zero => cases h; exact List.mem_cons_self
              | succ i => exact List.mem_cons_of_mem _ (ih _ _ _ h)
            · cases i with
              | zero => cases h; exact List.mem_cons_self
              | succ i => cases i with
                | zero => cases h
                | succ i => exact List.mem_cons_of_mem _ (ih _ _ _ h)
            · cases i with
              | zero => cases h; exact List.mem_cons_self
              | succ i => exact List.mem_cons_of_mem _ (ih _ _ _ h)
        exact has _ (key _ _ _ _ hi)
    have hRR : d + 9 ≤ (headSpec (hwWs b) (hwRm (d + 1))).room.frames ∧ 60 * d + 660 ≤ (headSpec (hwWs b) (hwRm (d + 1))).room.locals ∧ 0 ≤ (headSpec (hwWs b) (hwRm (d + 1))).room.cells ∧ 0 ≤ (headSpec (hwWs b) (hwRm (d + 1))).room.slots := ⟨by show d + 9 ≤ d + 1 + 8; omega, by show 60 * d + 660 ≤ 60 * (d + 1) + 600; omega, Nat.le_refl _, Nat.le_refl _⟩
    refine hwp (hwK p l e (headSpec (hwWs b) (hwRm (d + 1))).room s m (as.map (hwV ad)).toArray below meth c 0 0 (MQ below (hwQ ad K ks A D σ.2.2.2.2 Q) (as.map (hwV ad)).toArray s 0 0 A) ad K ks A D (hwN b) σ.2.2.2.2) (fun f τ hs => ?_) s.heap ls [] hInv
    refine hw_step b d hcl hx hbt hml hts hown hG hRR (fun m hm => (hall m hm).1) hDb (fun b' as' τ' Q' h1 h2 h3 => IH b' as' τ' Q' h1 h2 h3) ?_ f τ hs
    intro pc i len dt msk L st τ H ls locs r hok hdg hX hQ hI
    obtain ⟨a, b1, c0, dd, f, z⟩ := dt
    have fin : ∀ t : State, t.heap = H → s.WarmedH t.vm → (∀ v ∈ r.toList, hwOk ks v) → hwQ ad K ks A D σ.2.2.2.2 Q (as.map (hwV ad)).toArray s (.returned (r.map (hwV ad))) t := by
      intro t ht _ hr
      exact ⟨⟨r, τ, rfl, hQ, hr, by rw [ht]; exact hI.2.2.2.2.1, hI.2.2.2.2.2.1, hI.2.2.2.2.2.2.2⟩, va_S.F hI.2.2.2.2.2.2.1 ht⟩
    have hS := hI.2.2.2.2.2.2.1
    cases i with
    | ireturn =>
      obtain ⟨h1, h3⟩ := and_t hok
      obtain ⟨h1, h2⟩ := and_t h1
      obtain rfl : len = 1 := beq_t h1
      have h2 := of_decide_eq_true h2
      have h3 := of_decide_eq_true h3
      rcases st with _ | ⟨x | x | x, _ | ⟨y, st⟩⟩ <;> try (cases hX; done)
      have hX : (match (generalizing := false) a with
        | 0 => some (some (.inl x))
        | 1 => if x = 0 ∨ x = 1 then some (some (.inl x)) else none
        | _ => none) = some r := hX
      split at hX
      · obtain rfl := Option.some.inj hX
        exact W.iret hx hbt (hr.trans (h2 rfl)) (fun t ht hW => fin t ht hW (fun v hv => by simp at hv; rw [hv]; trivial)) hS.2.2 hdg
      · split at hX
        · rename_i h01
          obtain rfl := Option.some.inj hX
          exact W.zret (ty := .boolean) hx hbt (hr.trans (h3 rfl)) (by rcases h01 with rfl | rfl <;> rfl) (fun t ht hW => fin t ht hW (fun v hv => by simp at hv; rw [hv]; trivial)) hS.2.2 hdg
        · cases hX
      · cases hX
    | lreturn =>
      obtain ⟨h1, h2⟩ := and_t hok
      obtain rfl : len = 1 := beq_t h1
      rcases st with _ | ⟨x | x | x, _ | ⟨y, st⟩⟩ <;> try (cases hX; done)
      obtain rfl := Option.some.inj hX
      exact W.lret hx hbt (hr.trans (of_decide_eq_true h2)) (fun t ht hW => fin t ht hW (fun v hv => by simp at hv; rw [hv]; trivial)) hS.2.2 hdg
    | return_ =>
      obtain ⟨h1, h2⟩ := and_t hok
      obtain rfl : len = 1 := beq_t h1
      rcases st with _ | ⟨x, st⟩ <;> try (cases hX; done)
      obtain rfl := Option.some.inj hX
      exact W.vret hx hbt (hr.trans (of_decide_eq_true h2)) (fun t ht hW => fin t ht hW (fun v hv => by cases hv)) hS.2.2 hdg
    | _ => exact absurd (show (none : Option (Option AV)) = some r from hX) (fun h => by cases h)

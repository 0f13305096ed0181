/-! FROM THE ABSTRACT MACHINE TO THE MACHINE, 3: one instruction -/
theorem and_t {a b : Bool} (h : (a && b) = true) : a = true ∧ b = true := by simpa using h
theorem beq_t {a b : Nat} (h : Nat.beq a b = true) : a = b := Nat.eq_of_beq_eq_true h
theorem ble_t {a b : Nat} (h : Nat.ble a b = true) : a ≤ b := Nat.le_of_ble_eq_true h
theorem ok_cs {P : AV → Prop} {a : AV} {l : List AV} (h : P a) (k : ∀ v ∈ l, P v) : ∀ v ∈ a :: l, P v := List.forall_mem_cons.mpr ⟨h, k⟩
theorem ok_tl {P : AV → Prop} {a : AV} {l : List AV} (k : ∀ v ∈ a :: l, P v) : ∀ v ∈ l, P v := (List.forall_mem_cons.mp k).2
theorem ok_hd {P : AV → Prop} {a : AV} {l : List AV} (k : ∀ v ∈ a :: l, P v) : P a := (List.forall_mem_cons.mp k).1
section INVERT
variable {n : Nat} {L : Lc} {st : List AV} {τ : Mem} {q : Fr × Mem}
theorem inv_I2 {g : Int32 → Int32 → Int32} (h : hwI2 g n L st τ = some q) : ∃ x y r, st = .inl y :: .inl x :: r ∧ q = ((n, L, .inl (g x y) :: r), τ) := by
  rcases st with _ | ⟨y | y | y, _ | ⟨x | x | x, r⟩⟩ <;> first | exact ⟨x, y, r, rfl, (Option.some.inj h).symm⟩ | cases h
theorem inv_I1 {g : Int32 → Int32} (h : hwI1 g n L st τ = some q) : ∃ x r, st = .inl x :: r ∧ q = ((n, L, .inl (g x) :: r), τ) := by
  rcases st with _ | ⟨x | x | x, r⟩ <;> first | exact ⟨x, r, rfl, (Option.some.inj h).symm⟩ | cases h
theorem inv_L2 {g : Int64 → Int64 → Int64} (h : hwL2 g n L st τ = some q) : ∃ x y r, st = .inr (.inl y) :: .inr (.inl x) :: r ∧ q = ((n, L, .inr (.inl (g x y)) :: r), τ) := by
  rcases st with _ | ⟨y | y | y, _ | ⟨x | x | x, r⟩⟩ <;> first | exact ⟨x, y, r, rfl, (Option.some.inj h).symm⟩ | cases h
theorem inv_ShL {g : Int64 → Int32 → Int64} (h : hwShL g n L st τ = some q) : ∃ x y r, st = .inl y :: .inr (.inl x) :: r ∧ q = ((n, L, .inr (.inl (g x y)) :: r), τ) := by
  rcases st with _ | ⟨y | y | y, _ | ⟨x | x | x, r⟩⟩ <;> first | exact ⟨x, y, r, rfl, (Option.some.inj h).symm⟩ | cases h
theorem inv_DivI {g : Int32 → Int32 → Int32} (h : hwDivI g n L st τ = some q) : ∃ x y r, st = .inl y :: .inl x :: r ∧ ¬ y = 0 ∧ q = ((n, L, .inl (g x y) :: r), τ) := by
  rcases st with _ | ⟨y | y | y, _ | ⟨x | x | x, r⟩⟩ <;> first
    | (have h : (if y = 0 then none else some ((n, L, .inl (g x y) :: r), τ)) = some q := h
       by_cases e : y = 0
       · rw [if_pos e] at h; cases h
       · rw [if_neg e] at h; exact ⟨x, y, r, rfl, e, (Option.some.inj h).symm⟩)
    | cases h
theorem inv_DivL {g : Int64 → Int64 → Int64} (h : hwDivL g n L st τ = some q) : ∃ x y r, st = .inr (.inl y) :: .inr (.inl x) :: r ∧ ¬ y = 0 ∧ q = ((n, L, .inr (.inl (g x y)) :: r), τ) := by
  rcases st with _ | ⟨y | y | y, _ | ⟨x | x | x, r⟩⟩ <;> first
    | (have h : (if y = 0 then none else some ((n, L, .inr (.inl (g x y)) :: r), τ)) = some q := h
       by_cases e : y = 0
       · rw [if_pos e] at h; cases h
       · rw [if_neg e] at h; exact ⟨x, y, r, rfl, e, (Option.some.inj h).symm⟩)
    | cases h
theorem inv_LdI {i : Nat} (h : hwLdI n L st τ i = some q) : ∃ x, ntD none L i = some (.inl x) ∧ q = ((n, L, .inl x :: st), τ) := by
  unfold hwLdI at h
  split at h
  · exact ⟨_, by assumption, (Option.some.inj h).symm⟩
  · cases h
theorem inv_LdL {i : Nat} (h : hwLdL n L st τ i = some q) : ∃ x, ntD none L i = some (.inr (.inl x)) ∧ q = ((n, L, .inr (.inl x) :: st), τ) := by
  unfold hwLdL at h
  split at h
  · exact ⟨_, by assumption, (Option.some.inj h).symm⟩
  · cases h
theorem inv_LdR {i : Nat} (h : hwLdR n L st τ i = some q) : ∃ x, ntD none L i = some (.inr (.inr x)) ∧ q = ((n, L, .inr (.inr x) :: st), τ) := by
  unfold hwLdR at h
  split at h
  · exact ⟨_, by assumption, (Option.some.inj h).symm⟩
  · cases h
theorem inv_StI {i : Nat} (h : hwStI n L st τ i = some q) : ∃ x r, st = .inl x :: r ∧ q = ((n, hwS1 L i (.inl x), r), τ) := by
  rcases st with _ | ⟨x | x | x, r⟩ <;> first | exact ⟨x, r, rfl, (Option.some.inj h).symm⟩ | cases h
theorem inv_StR {i : Nat} (h : hwStR n L st τ i = some q) : ∃ x r, st = .inr (.inr x) :: r ∧ q = ((n, hwS1 L i (.inr (.inr x)), r), τ) := by
  rcases st with _ | ⟨x | x | x, r⟩ <;> first | exact ⟨x, r, rfl, (Option.some.inj h).symm⟩ | cases h
theorem inv_StL {i : Nat} (h : hwStL n L st τ i = some q) : ∃ x r, st = .inr (.inl x) :: r ∧ q = ((n, hwS2 L i (.inr (.inl x)), r), τ) := by
  rcases st with _ | ⟨x | x | x, r⟩ <;> first | exact ⟨x, r, rfl, (Option.some.inj h).symm⟩ | cases h
theorem inv_T {pc t : Nat} {off : Int} (h : hwT pc off = some t) : (pc : Int) + off = (t : Int) := by
  unfold hwT at h
  split at h
  · cases h; assumption
  · cases h
end INVERT
section EX
variable {p : Program} {l : Launch} {e : Env} {R : Room} {s : State} {m : MethodId} {args : Array Value} {below : List Frame} {meth : Method} {c : Code} {H : Heap} {locs : List Loc} {cells slots : Nat} {Qf : State → Prop} {cc : ByteArray} {ls : Array Slot}
variable {ad : Nat → Nat → Nat} {K : Kc} {ks : List (Nat × Nat)} {A : Nat → Prop} {D : va_G} {N : Nat} {sc : Nat × (Nat → Int32)} {pc : Nat} {L : Lc} {st : List AV} {τ : Mem}
/-- the machine comes to its end from here, in every heap that is as is told -/
def hwK (p : Program) (l : Launch) (e : Env) (R : Room) (s : State) (m : MethodId) (args : Array Value) (below : List Frame) (meth : Method) (c : Code) (cells slots : Nat) (Qf : State → Prop) (ad : Nat → Nat → Nat) (K : Kc) (ks : List (Nat × Nat)) (A : Nat → Prop) (D : va_G) (N : Nat) (sc : Nat × (Nat → Int32)) (f : Fr) (τ : Mem) : Prop :=
  ∀ (H : Heap) (ls : Array Slot) (locs : List Loc), hwInv ad K ks A D N sc s.heap f τ H ls locs → W p l e R s m args below meth c H locs cells slots Qf (F0 m f.1 ls (f.2.2.map (hwV ad)))
/-- a tag whose kind is below 6 is a key -/
theorem hwOk_key {t r : Nat} (h : hwOk ks (.inr (.inr (t, r)))) (hk : (hwSh t).1 < 6) : (t, r) ∈ ks := by
  rcases h with h | h
  · exact h
  · have h9 : 6 ≤ (hwSh t).1 := hwSh_hi h.1
    omega
theorem hwOk_hi (hcl : hwCl ks) {t r : Nat} (h : hwOk ks (.inr (.inr (t, r)))) (hk : 200 ≤ t) : r = 0 := by
  rcases h with h | h
  · have h1 := (hcl.1 _ h).1
    have h2 := ble_t (and_t h1).1
    have : t + 1 ≤ 200 := h2
    omega
  · exact h.2
theorem x_get (hcl : hwCl ks) (hx : p.tables.exec = Jvm.exec) (hb : c.code = cc) (hts : ∀ w ∈ hwTB, w.before args s = true) {own : String} (hown : s.vm.findClass own = some m.cls) (hG : hwG ad K A D sc s s.heap) {a b c0 d idx n : Nat} {q : Fr × Mem}
    (hok : okF own a b c0 d idx = true) (hdg : decode cc pc = .ok (.getfield idx, 3)) (hn : n = pc + 3) (hX : hwGet b c0 n L st τ = some q) (hI : hwInv ad K ks A D N sc s.heap (pc, L, st) τ H ls locs) (k : hwK p l e R s m args below meth c cells slots Qf ad K ks A D N sc q.1 q.2) :
    W p l e R s m args below meth c H locs cells slots Qf (F0 m pc ls (st.map (hwV ad))) := by
  subst hn
  rcases st with _ | ⟨x | x | ⟨t, r⟩, st⟩ <;> try (cases hX; done)
  unfold hwGet at hX
  simp only at hX
  have hok0 := hI.ok _ List.mem_cons_self
  have hst := ok_tl hI.ok
  split at hX
  · rename_i ci bb fl hsh
    have hk0 : (hwSh t).1 < 6 := by rw [hsh]; exact Nat.zero_lt_succ 5
    have hkey := hwOk_key hok0 hk0
    have h1 := (hcl.1 _ hkey).1
    simp only [hwCl1, hsh, Bool.and_eq_true, decide_eq_true_eq] at h1
    obtain ⟨h1a, ⟨h1b, h1c⟩, h1d⟩ := h1
    cases hb2 : Nat.beq ci b with
    | false => rw [hb2] at hX; cases hX
    | true =>
      rw [hb2] at hX
      have hX : (match ntD (9, 0) fl c0 with
        | (0, _) => some ((pc + 3, L, .inl (τ.1 t c0) :: st), τ)
        | (1, _) => some ((pc + 3, L, .inr (.inl (τ.2.1 t c0)) :: st), τ)
        | (2, u) => some ((pc + 3, L, .inr (.inr (u, 0)) :: st), τ)
        | (3, _) => some ((pc + 3, L, .inl (τ.1 t c0) :: st), τ)
        | _ => none) = some q := hX
      obtain rfl := beq_t hb2
      obtain rfl : r = 0 := beq_t h1b
      cases hv : vwCl[ci]? with
      | none => rw [hv] at h1c; cases h1c
      | some z =>
        obtain ⟨C, T, N0⟩ := z
        rw [hv] at h1c
        obtain rfl : N0 = fl.length := Option.some.inj h1c
        simp only [okF, hv] at hok
        obtain ⟨ho1, ho2⟩ := and_t hok
        have hlt : c0 < fl.length := ble_t ho1
        obtain ⟨q0, hq0, hw0⟩ := hwW_get (ad := ad) (K := K) (σ := τ) hkey
        have hco : hwCo ad K τ (t, 0) = .inr (ci, (List.range fl.length).map (fun k => hwFv ad τ t k (ntD (9, 0) fl k))) := by
          simp only [hwCo, hsh]
        rw [hco] at hw0
        have key : ∀ v : AV, hwV ad v = hwFv ad τ t c0 (ntD (9, 0) fl c0) → hwOk ks v → q = ((pc + 3, L, v :: st), τ) → W p l e R s m args below meth c H locs cells slots Qf (F0 m pc ls ((.inr (.inr (t, 0)) :: st).map (hwV ad))) := by
          intro v hv1 hv2 hq
          have kk : W p l e R s m args below meth c H locs cells slots Qf (F0 m (pc + 3) ls (hwV ad v :: st.map (hwV ad))) := by
            subst hq
            exact k H ls locs (hI.to (pc + 3) (ok_cs hv2 hst))
          have hv3 : ((List.range fl.length).map (fun k => hwFv ad τ t k (ntD (9, 0) fl k)))[c0]? = some (hwV ad v) := by
            rw [ntD_range _ _ _ hlt, hv1]
          cases a with
          | zero => exact va_get (D := D) (ci := ci) (C := C) (T := T) (N := fl.length) hx hb hts (hwU_of hv) hown hG.1 hI.2.2.2.2.1 q0 hw0 hv c0 hlt (hts _ (hwWd_mem ho2)) (fun _ h9 => h9) hv3 hdg kk
          | succ a =>
            have hm : (own, idx, (T c0).1, (T c0).2.1, (T c0).2.2.1, "HowDeep") ∈ hwNf := List.mem_of_getElem? (of_decide_eq_true ho2)
            exact va_getN (D := D) (ci := ci) (C := C) (T := T) (N := fl.length) (host := "HowDeep") hx hb hts (hwU_of hv) hown hG.1 hI.2.2.2.2.1 q0 hw0 hv c0 hlt (va_Nw.use rfl (hG.2.1 _ hm)) (fun _ h9 => h9) hv3 hdg kk
        have hu : ∀ u, ntD (9, 0) fl c0 = (2, u) → hwOk ks (.inr (.inr (u, 0))) := by
          intro u hu
          rcases ntD_mem (9, 0) fl c0 with h9 | ⟨-, h9⟩
          · rw [hu] at h9; cases h9
          · have := List.all_eq_true.mp h1d _ h9
            rw [hu] at this
            exact Or.inl (of_decide_eq_true this)
        split at hX
        · rename_i w hw
          exact key (.inl (τ.1 t c0)) (by rw [hw]; rfl) trivial (Option.some.inj hX).symm
        · rename_i w hw
          exact key (.inr (.inl (τ.2.1 t c0))) (by rw [hw]; rfl) trivial (Option.some.inj hX).symm
        · rename_i u hw
          exact key (.inr (.inr (u, 0))) (by rw [hw]; rfl) (hu u hw) (Option.some.inj hX).symm
        · rename_i w hw
          exact key (.inl (τ.1 t c0)) (by rw [hw]; rfl) trivial (Option.some.inj hX).symm
        · cases hX
  · cases hX
theorem x_put (hcl : hwCl ks) (hx : p.tables.exec = Jvm.exec) (hb : c.code = cc) (hts : ∀ w ∈ hwTB, w.before args s = true) {own : String} (hown : s.vm.findClass own = some m.cls) (hG : hwG ad K A D sc s s.heap) {a b c0 d idx n : Nat} {q : Fr × Mem}
    (hok : okF own a b c0 d idx = true) (how : okW b c0 = true) (hdg : decode cc pc = .ok (.putfield idx, 3)) (hn : n = pc + 3) (hX : hwPut b c0 n L st τ = some q) (hI : hwInv ad K ks A D N sc s.heap (pc, L, st) τ H ls locs) (k : hwK p l e R s m args below meth c cells slots Qf ad K ks A D N sc q.1 q.2) :
    W p l e R s m args below meth c H locs cells slots Qf (F0 m pc ls (st.map (hwV ad))) := by
  subst hn
  have gen : ∀ (v : AV) (t r : Nat) (st' : List AV) (ci bb : Nat) (fl : List (Nat × Nat)) (τ' : Mem) (g u : Nat), st = v :: .inr (.inr (t, r)) :: st' → hwSh t = (0, ci, bb, fl) → Nat.beq ci b = true → ntD (9, 0) fl c0 = (g, u) → g ≠ 2 → narrow (hwFt g) (hwV ad v) = hwV ad v → fits (hwFt g) (hwV ad v) = true →
      hwFv ad τ' t c0 (g, u) = hwV ad v → (∀ t' k', ¬ (t' = t ∧ k' = c0) → τ'.1 t' k' = τ.1 t' k' ∧ τ'.2.1 t' k' = τ.2.1 t' k') → τ'.2.2 = τ.2.2 → q = ((pc + 3, L, st'), τ') → W p l e R s m args below meth c H locs cells slots Qf (F0 m pc ls (st.map (hwV ad))) := by
    intro v t r st' ci bb fl τ' g u hst hsh hb2 hfl hg2 hnar hfit hfv hoth hrest hq
    subst hst
    have hok0 := ok_hd (ok_tl hI.ok)
    have hst := ok_tl (ok_tl hI.ok)
    have hk0 : (hwSh t).1 < 6 := by rw [hsh]; exact Nat.zero_lt_succ 5
    have hkey := hwOk_key hok0 hk0
    have h1 := (hcl.1 _ hkey).1
    have h2 := (hcl.1 _ hkey).2
    simp only [hwCl1, hsh, Bool.and_eq_true, decide_eq_true_eq] at h1
    obtain ⟨h1a, ⟨h1b, h1c⟩, h1d⟩ := h1
    obtain rfl := beq_t hb2
    obtain rfl : r = 0 := beq_t h1b
    cases hv : vwCl[ci]? with
    | none => rw [hv] at h1c; cases h1c
    | some z =>
      obtain ⟨C, T, N0⟩ := z
      rw [hv] at h1c
      obtain rfl : N0 = fl.length := Option.some.inj h1c
      simp only [okF, hv] at hok
      simp only [okW, hv] at how
      have hfin : (T c0).2.2.2 = false := of_decide_eq_true how
      obtain ⟨ho1, ho2⟩ := and_t hok
      have hlt : c0 < fl.length := ble_t ho1
      simp only [hwCl2, hsh, hv] at h2
      have h3 := List.all_eq_true.mp h2 c0 (List.mem_range.mpr hlt)
      simp only [hfl] at h3
      have hd : parseFieldDescriptor (T c0).2.2.1 = some (hwFt g) := of_decide_eq_true h3
      obtain ⟨q0, hq0, hw0⟩ := hwW_get (ad := ad) (K := K) (σ := τ) hkey
      have hco : ∀ σ : Mem, hwCo ad K σ (t, 0) = .inr (ci, (List.range fl.length).map (fun k => hwFv ad σ t k (ntD (9, 0) fl k))) := by
        intro σ; simp only [hwCo, hsh]
      rw [hco] at hw0
      obtain ⟨⟨ty0, hty⟩, hnm⟩ := vwCl_ok hv
      have hset : ((List.range fl.length).map (fun k => hwFv ad τ t k (ntD (9, 0) fl k))).set c0 (hwV ad v) = (List.range fl.length).map (fun k => hwFv ad τ' t k (ntD (9, 0) fl k)) := by
        have e := range_set (fun k => hwFv ad τ t k (ntD (9, 0) fl k)) (fun k => hwFv ad τ' t k (ntD (9, 0) fl k)) fl.length c0 (fun j _ hj => by
          obtain ⟨o1, o2⟩ := hoth t j (fun z => hj z.2)
          show hwFv ad τ' t j _ = hwFv ad τ t j _
          unfold hwFv
          rw [o1, o2])
        have e2 : hwFv ad τ' t c0 (ntD (9, 0) fl c0) = hwV ad v := by rw [hfl]; exact hfv
        rw [← e]; exact congrArg _ e2.symm
      have hl2 : c0 < ((List.range fl.length).map (fun k => hwFv ad τ t k (ntD (9, 0) fl k))).length := by simpa using hlt
      have kk : ∀ (H1 : Heap) (locs1 : List Loc), va_P D vwCl ((hwW ad K ks τ).set q0 (ad t 0, .inr (ci, ((List.range fl.length).map (fun k => hwFv ad τ t k (ntD (9, 0) fl k))).set c0 (hwV ad v)))) H1 → va_D A ((hwW ad K ks τ).set q0 (ad t 0, .inr (ci, ((List.range fl.length).map (fun k => hwFv ad τ t k (ntD (9, 0) fl k))).set c0 (hwV ad v)))) → va_S A s.heap H1 locs1 → W p l e R s m args below meth c H1 locs1 cells slots Qf (F0 m (pc + 3) ls (st'.map (hwV ad))) := by
        intro H1 locs1 hP hD hS
        subst hq
        refine k H1 ls locs1 (hwInv.put hcl hI (pc + 3) hst (q := (t, 0)) hq0 (by rw [hco, hset]) (fun q' hq' hne => ?_) (by show τ'.2.2.2.2 = _; rw [hrest]) hP hD hS)
        have hne2 : q'.1 ≠ t := by
          intro e1
          have h4 := (hcl.1 _ hq').1
          simp only [hwCl1, e1, hsh, Bool.and_eq_true] at h4
          have : q'.2 = 0 := beq_t h4.2.1.1
          exact hne (Prod.ext e1 this)
        refine hwCo_congr (fun k' => (hoth _ _ (fun z => hne2 z.1)).1) (fun k' => (hoth _ _ (fun z => hne2 z.1)).2) ?_ ?_
        · rw [hrest]
        · rw [hrest]
      cases a with
      | zero => exact va_put (D := D) (ci := ci) (C := C) (T := T) (N := fl.length) hx hb hts (hwU_of hv) ty0 hty hnm hown hG.1 hI.2.2.2.2.1 hI.2.2.2.2.2.1 hI.2.2.2.2.2.2.1 q0 hw0 hv c0 hlt (hts _ (hwWd_mem ho2)) (fun _ h9 => h9) hfin hd hnar hfit hl2 hdg kk
      | succ a =>
        have hm : (own, idx, (T c0).1, (T c0).2.1, (T c0).2.2.1, "HowDeep") ∈ hwNf := List.mem_of_getElem? (of_decide_eq_true ho2)
        exact va_putN (D := D) (ci := ci) (C := C) (T := T) (N := fl.length) (host := "HowDeep") hx hb hts (hwU_of hv) ty0 hty hnm hown hG.1 hI.2.2.2.2.1 hI.2.2.2.2.2.1 hI.2.2.2.2.2.2.1 q0 hw0 hv c0 hlt (va_Nw.use rfl (hG.2.1 _ hm)) (fun _ h9 => h9) hfin hd hnar hfit hl2 hdg kk
  rcases st with _ | ⟨x | x | x, _ | ⟨y | y | ⟨t, r⟩, st⟩⟩ <;> try (cases hX; done)
  · unfold hwPut at hX
    simp only at hX
    split at hX
    · rename_i ci bb fl hsh
      cases hb2 : Nat.beq ci b with
      | false => rw [hb2] at hX; cases hX
      | true =>
        rw [hb2] at hX
        have hX : (match ntD (9, 0) fl c0 with
          | (0, _) => some ((pc + 3, L, st), (hwU2 τ.1 t c0 x, τ.2))
          | (3, _) => if x = 0 ∨ x = 1 then some ((pc + 3, L, st), (hwU2 τ.1 t c0 x, τ.2)) else none
          | _ => none) = some q := hX
        split at hX
        · rename_i u hw
          exact gen (.inl x) t r st ci bb fl (hwU2 τ.1 t c0 x, τ.2) 0 u rfl hsh hb2 hw (by decide) rfl rfl (congrArg Value.int hwU2_eq) (fun t' k' h => ⟨hwU2_ne h, rfl⟩) rfl (Option.some.inj hX).symm
        · rename_i u hw
          split at hX
          · rename_i h01
            refine gen (.inl x) t r st ci bb fl (hwU2 τ.1 t c0 x, τ.2) 3 u rfl hsh hb2 hw (by decide) ?_ ?_ (congrArg Value.int hwU2_eq) (fun t' k' h => ⟨hwU2_ne h, rfl⟩) rfl (Option.some.inj hX).symm
            · rcases h01 with rfl | rfl <;> rfl
            · rcases h01 with rfl | rfl <;> rfl
          · cases hX
        · cases hX
    · cases hX
  · unfold hwPut at hX
    simp only at hX
    split at hX
    · rename_i ci bb fl hsh
      cases hb2 : Nat.beq ci b with
      | false => rw [hb2] at hX; cases hX
      | true =>
        rw [hb2] at hX
        have hX : (match ntD (9, 0) fl c0 with
          | (1, _) => some ((pc + 3, L, st), (τ.1, hwU2 τ.2.1 t c0 x, τ.2.2))
          | _ => none) = some q := hX
        split at hX
        · rename_i u hw
          exact gen (.inr (.inl x)) t r st ci bb fl (τ.1, hwU2 τ.2.1 t c0 x, τ.2.2) 1 u rfl hsh hb2 hw (by decide) rfl rfl (congrArg Value.long hwU2_eq) (fun t' k' h => ⟨rfl, hwU2_ne h⟩) rfl (Option.some.inj hX).symm
        · cases hX
    · cases hX
end EX

/-! THE PURE SIDE, 3: the reference's costs, waters, falls; what the class makes of its codes -/
theorem m_costOf (N : Nat) (hN : 160 ≤ N) {g : Nat → Nat → Int32} (hw : Wf g) (y : Nat) (σ : Mem) (hg : gM σ = g) : ∃ τ, F_X12_costOf N (nI y) σ = some (sCost g y, τ) ∧ KE σ τ := by
  have k : KE σ (σ.1, σ.2.1, (hwU3 (hwU3 (hwU3 (hwU3 (hwU3 (hwU3 σ.2.2.1 101 0 0 (nI y)) 101 0 1 (0 : Int32)) 101 0 2 (0 : Int32)) 101 0 3 (0 : Int32)) 101 0 4 (σ.1 12 2)) 101 0 5 0), σ.2.2.2.1, σ.2.2.2.2) :=
    ⟨rfl, rfl, fun t _ h => by simp only [hwU3_t h], rfl⟩
  obtain ⟨τ, e1, e2⟩ := m_worth N hN hw 0 (by decide) (sNm (nI y) 0 0 0 (g 12 2) 0) _ (k.g.trans hg) (fun i hi => by
    show (hwU3 (hwU3 (hwU3 (hwU3 (hwU3 (hwU3 σ.2.2.1 101 0 0 (nI y)) 101 0 1 (0 : Int32)) 101 0 2 (0 : Int32)) 101 0 3 (0 : Int32)) 101 0 4 (σ.1 12 2)) 101 0 5 0) 101 0 i = _
    rw [← gM_f σ (by decide), hg]
    match i, hi with
    | 0, _ => simp [hwU3_get, sNm]
    | 1, _ => simp [hwU3_get, sNm]
    | 2, _ => simp [hwU3_get, sNm]
    | 3, _ => simp [hwU3_get, sNm]
    | 4, _ => simp [hwU3_get, sNm]
    | 5, _ => simp [hwU3_get, sNm])
  refine ⟨τ, ?_, k.trans e2⟩
  unfold F_X12_costOf F_X12_names
  show (F_X12_worth N (nI 0) _).bind _ = _
  rw [e1]; rfl
theorem m_fallOf (N : Nat) (hN : 160 ≤ N) {g : Nat → Nat → Int32} (hw : Wf g) (y b : Nat) (σ : Mem) (hg : gM σ = g) : ∃ τ, F_X12_fallOf N (nI y) (nI b) σ = some (sFall g b y, τ) ∧ KE σ τ := by
  have k : KE σ (σ.1, σ.2.1, (hwU3 (hwU3 (hwU3 (hwU3 (hwU3 (hwU3 σ.2.2.1 101 0 0 (nI y)) 101 0 1 (0 : Int32)) 101 0 2 (0 : Int32)) 101 0 3 (0 : Int32)) 101 0 4 (σ.1 12 2)) 101 0 5 (nI b)), σ.2.2.2.1, σ.2.2.2.2) :=
    ⟨rfl, rfl, fun t _ h => by simp only [hwU3_t h], rfl⟩
  obtain ⟨τ, e1, e2⟩ := m_worth N hN hw 2 (by decide) (sNm (nI y) 0 0 0 (g 12 2) (nI b)) _ (k.g.trans hg) (fun i hi => by
    show (hwU3 (hwU3 (hwU3 (hwU3 (hwU3 (hwU3 σ.2.2.1 101 0 0 (nI y)) 101 0 1 (0 : Int32)) 101 0 2 (0 : Int32)) 101 0 3 (0 : Int32)) 101 0 4 (σ.1 12 2)) 101 0 5 (nI b)) 101 0 i = _
    rw [← gM_f σ (by decide), hg]
    match i, hi with
    | 0, _ => simp [hwU3_get, sNm]
    | 1, _ => simp [hwU3_get, sNm]
    | 2, _ => simp [hwU3_get, sNm]
    | 3, _ => simp [hwU3_get, sNm]
    | 4, _ => simp [hwU3_get, sNm]
    | 5, _ => simp [hwU3_get, sNm])
  refine ⟨τ, ?_, k.trans e2⟩
  unfold F_X12_fallOf F_X12_names
  show (F_X12_worth N (nI 2) _).bind _ = _
  rw [e1]; rfl
theorem m_waterOf (N : Nat) (hN : 160 ≤ N) {g : Nat → Nat → Int32} (hw : Wf g) (y j : Nat) (hj : j < 5) (σ : Mem) (hg : gM σ = g) : ∃ τ, F_X12_waterOf N (nI y) (nI j) σ = some (sWat g y j, τ) ∧ KE σ τ := by
  have k : KE σ (σ.1, σ.2.1, (hwU3 (hwU3 (hwU3 (hwU3 (hwU3 (hwU3 (hwU3 (hwU3 (hwU3 σ.2.2.1 101 0 0 (nI y)) 101 0 1 (0 : Int32)) 101 0 2 (0 : Int32)) 101 0 3 (0 : Int32)) 101 0 4 (σ.1 12 2)) 101 0 5 0) 101 0 1 (nI j)) 101 0 2 (g 72 j)) 101 0 3 (g 73 j)), σ.2.2.2.1, σ.2.2.2.2) :=
    ⟨rfl, rfl, fun t _ h => by simp only [hwU3_t h], rfl⟩
  obtain ⟨τ, e1, e2⟩ := m_worth N hN hw 1 (by decide) (sNm (nI y) (nI j) (g 72 j) (g 73 j) (g 12 2) 0) _ (k.g.trans hg) (fun i hi => by
    show (hwU3 (hwU3 (hwU3 (hwU3 (hwU3 (hwU3 (hwU3 (hwU3 (hwU3 σ.2.2.1 101 0 0 (nI y)) 101 0 1 (0 : Int32)) 101 0 2 (0 : Int32)) 101 0 3 (0 : Int32)) 101 0 4 (σ.1 12 2)) 101 0 5 0) 101 0 1 (nI j)) 101 0 2 (g 72 j)) 101 0 3 (g 73 j)) 101 0 i = _
    rw [← gM_f σ (k := 2) (by decide), hg]
    match i, hi with
    | 0, _ => simp [hwU3_get, sNm]
    | 1, _ => simp [hwU3_get, sNm]
    | 2, _ => simp [hwU3_get, sNm]
    | 3, _ => simp [hwU3_get, sNm]
    | 4, _ => simp [hwU3_get, sNm]
    | 5, _ => simp [hwU3_get, sNm])
  refine ⟨τ, ?_, k.trans e2⟩
  unfold F_X12_waterOf F_X12_names
  show (if hwOut (nI j) 5 then none else if hwOut (nI j) 5 then none else (F_X12_worth N (nI 1) (σ.1, σ.2.1, (hwU3 (hwU3 (hwU3 _ 101 0 1 (nI j)) 101 0 2 ((hwU3 (hwU3 (hwU3 (hwU3 (hwU3 (hwU3 σ.2.2.1 101 0 0 (nI y)) 101 0 1 (0 : Int32)) 101 0 2 (0 : Int32)) 101 0 3 (0 : Int32)) 101 0 4 (σ.1 12 2)) 101 0 5 0) 72 0 (nI j).toNatClampNeg)) 101 0 3 ((hwU3 (hwU3 (hwU3 (hwU3 (hwU3 (hwU3 σ.2.2.1 101 0 0 (nI y)) 101 0 1 (0 : Int32)) 101 0 2 (0 : Int32)) 101 0 3 (0 : Int32)) 101 0 4 (σ.1 12 2)) 101 0 5 0) 73 0 (nI j).toNatClampNeg)), _, _)).bind _) = _
  rw [if_neg (out_nI hj (by decide)), if_neg (out_nI hj (by decide)), nI_clamp (by omega)]
  rw [show (hwU3 (hwU3 (hwU3 (hwU3 (hwU3 (hwU3 σ.2.2.1 101 0 0 (nI y)) 101 0 1 (0 : Int32)) 101 0 2 (0 : Int32)) 101 0 3 (0 : Int32)) 101 0 4 (σ.1 12 2)) 101 0 5 0) 72 0 j = g 72 j by rw [← hg, gM_a σ (by decide) (by decide)]; simp [hwU3_get],
    show (hwU3 (hwU3 (hwU3 (hwU3 (hwU3 (hwU3 σ.2.2.1 101 0 0 (nI y)) 101 0 1 (0 : Int32)) 101 0 2 (0 : Int32)) 101 0 3 (0 : Int32)) 101 0 4 (σ.1 12 2)) 101 0 5 0) 73 0 j = g 73 j by rw [← hg, gM_a σ (by decide) (by decide)]; simp [hwU3_get], e1]
  rfl
/-- the class's evaluator writes its stack alone -/
def KV (σ τ : Mem) : Prop := τ.1 = σ.1 ∧ τ.2.1 = σ.2.1 ∧ (∀ t, t ≠ 48 → τ.2.2.1 t = σ.2.2.1 t) ∧ τ.2.2.2 = σ.2.2.2
theorem KV.rfl_ (σ : Mem) : KV σ σ := ⟨rfl, rfl, fun _ _ => rfl, rfl⟩
theorem KV.trans {σ τ υ : Mem} (h : KV σ τ) (k : KV τ υ) : KV σ υ := ⟨k.1.trans h.1, k.2.1.trans h.2.1, fun t h1 => (k.2.2.1 t h1).trans (h.2.2.1 t h1), k.2.2.2.trans h.2.2.2⟩
theorem KV.w {σ : Mem} {k : Nat} {v : Int32} : KV σ (σ.1, σ.2.1, hwU3 σ.2.2.1 48 0 k v, σ.2.2.2.1, σ.2.2.2.2) := ⟨rfl, rfl, fun a h1 => hwU3_t h1, rfl⟩
theorem sIsJ.ex {c : Int32} (h : sIsJ c = true) : c = 11 ∨ c = 12 ∨ c = 14 ∨ c = 15 ∨ c = 16 ∨ c = 17 ∨ c = 18 := by
  simp only [sIsJ, Bool.or_eq_true, Bool.and_eq_true, decide_eq_true_eq] at h
  rcases h with rfl | rfl | ⟨x, y⟩
  · exact Or.inl rfl
  · exact Or.inr (Or.inl rfl)
  · have h0 : ¬ c < 0 := fun q => by
      have a := Int32.lt_iff_toInt_lt.mp q
      have b := Int32.le_iff_toInt_le.mp x
      have e : (14 : Int32).toInt = 14 := by decide
      have e0 : (0 : Int32).toInt = 0 := by decide
      omega
    obtain ⟨j, hj, rfl⟩ := nI_of h0
    have a : 14 ≤ j := (nI_leI (a := 14) (by decide) hj).mp x
    have b : j ≤ 18 := (nI_leI (b := 18) hj (by decide)).mp y
    have : j = 14 ∨ j = 15 ∨ j = 16 ∨ j = 17 ∨ j = 18 := by omega
    rcases this with rfl | rfl | rfl | rfl | rfl
    · exact Or.inr (Or.inr (Or.inl rfl))
    · exact Or.inr (Or.inr (Or.inr (Or.inl rfl)))
    · exact Or.inr (Or.inr (Or.inr (Or.inr (Or.inl rfl))))
    · exact Or.inr (Or.inr (Or.inr (Or.inr (Or.inr (Or.inl rfl)))))
    · exact Or.inr (Or.inr (Or.inr (Or.inr (Or.inr (Or.inr rfl)))))
theorem x_truth0 (N : Nat) (σ : Mem) : F_X4_truth N 0 σ = some (0, σ) := rfl
theorem x_truth1 (N : Nat) (σ : Mem) : F_X4_truth N 1 σ = some (1, σ) := rfl
theorem x_joined (N : Nat) (c a b : Int32) (σ : Mem) (h : sIsJ c = true) : F_X4_joined N (sTr c - 20000) a b σ = some (sTwo c a b, σ) := by
  rcases sIsJ.ex h with rfl | rfl | rfl | rfl | rfl | rfl | rfl
  · rw [show sTr 11 - 20000 = 7 from by decide]
    unfold F_X4_joined sTwo
    rw [if_pos (show (7 : Int32) = 7 from rfl), if_pos (show (11 : Int32) = 11 from rfl)]
    split <;> (try split) <;> rfl
  · rw [show sTr 12 - 20000 = 8 from by decide]
    unfold F_X4_joined sTwo
    rw [if_neg (show ¬ (8 : Int32) = 7 by decide), if_pos (show (8 : Int32) = 8 from rfl), if_neg (show ¬ (12 : Int32) = 11 by decide), if_pos (show (12 : Int32) = 12 from rfl)]
    split <;> (try split) <;> rfl
  · rw [show sTr 14 - 20000 = 60 from by decide]
    unfold F_X4_joined sTwo
    rw [if_neg (show ¬ (60 : Int32) = 7 by decide), if_neg (show ¬ (60 : Int32) = 8 by decide), if_neg (show ¬ (60 : Int32) = 43 by decide), if_neg (show ¬ (60 : Int32) = 45 by decide), if_pos (show (60 : Int32) = 60 from rfl), if_neg (show ¬ (14 : Int32) = 11 by decide), if_neg (show ¬ (14 : Int32) = 12 by decide), if_pos (show (14 : Int32) = 14 from rfl)]
    split <;> rfl
  · rw [show sTr 15 - 20000 = 61 from by decide]
    unfold F_X4_joined sTwo
    rw [if_neg (show ¬ (61 : Int32) = 7 by decide), if_neg (show ¬ (61 : Int32) = 8 by decide), if_neg (show ¬ (61 : Int32) = 43 by decide), if_neg (show ¬ (61 : Int32) = 45 by decide), if_neg (show ¬ (61 : Int32) = 60 by decide), if_pos (show (61 : Int32) = 61 from rfl), if_neg (show ¬ (15 : Int32) = 11 by decide), if_neg (show ¬ (15 : Int32) = 12 by decide), if_neg (show ¬ (15 : Int32) = 14 by decide), if_pos (show (15 : Int32) = 15 from rfl)]
    split <;> rfl
  · rw [show sTr 16 - 20000 = 43 from by decide]
    unfold F_X4_joined sTwo
    rw [if_neg (show ¬ (43 : Int32) = 7 by decide), if_neg (show ¬ (43 : Int32) = 8 by decide), if_pos (show (43 : Int32) = 43 from rfl), if_neg (show ¬ (16 : Int32) = 11 by decide), if_neg (show ¬ (16 : Int32) = 12 by decide), if_neg (show ¬ (16 : Int32) = 14 by decide), if_neg (show ¬ (16 : Int32) = 15 by decide), if_pos (show (16 : Int32) = 16 from rfl)]
  · rw [show sTr 17 - 20000 = 45 from by decide]
    unfold F_X4_joined sTwo
    rw [if_neg (show ¬ (45 : Int32) = 7 by decide), if_neg (show ¬ (45 : Int32) = 8 by decide), if_neg (show ¬ (45 : Int32) = 43 by decide), if_pos (show (45 : Int32) = 45 from rfl), if_neg (show ¬ (17 : Int32) = 11 by decide), if_neg (show ¬ (17 : Int32) = 12 by decide), if_neg (show ¬ (17 : Int32) = 14 by decide), if_neg (show ¬ (17 : Int32) = 15 by decide), if_neg (show ¬ (17 : Int32) = 16 by decide), if_pos (show (17 : Int32) = 17 from rfl)]
  · rw [show sTr 18 - 20000 = 42 from by decide]
    unfold F_X4_joined sTwo
    rw [if_neg (show ¬ (42 : Int32) = 7 by decide), if_neg (show ¬ (42 : Int32) = 8 by decide), if_neg (show ¬ (42 : Int32) = 43 by decide), if_neg (show ¬ (42 : Int32) = 45 by decide), if_neg (show ¬ (42 : Int32) = 60 by decide), if_neg (show ¬ (42 : Int32) = 61 by decide), if_neg (show ¬ (18 : Int32) = 11 by decide), if_neg (show ¬ (18 : Int32) = 12 by decide), if_neg (show ¬ (18 : Int32) = 14 by decide), if_neg (show ¬ (18 : Int32) = 15 by decide), if_neg (show ¬ (18 : Int32) = 16 by decide), if_neg (show ¬ (18 : Int32) = 17 by decide)]
theorem neL (l : Int32) (b : Nat) {a : Nat} (hl : l = nI b) (h : a ≠ b ∧ a < 2147483648 ∧ b < 2147483648) : ¬ nI a = l := fun q => h.1 ((nI_eq h.2.1 h.2.2).mp (q.trans hl))
theorem xw_end (N : Nat) (v : Int32) (σ : Mem) (h : σ.2.2.1 48 0 0 = v) : F_X4_worked_t39_b168 N (nI 1) σ = some (v, σ) := by
  unfold F_X4_worked_t39_b168
  rw [if_neg (by decide), h]
set_option maxHeartbeats 1000000 in
theorem xw_loop (N : Nat) (t : Nat) (nm : Nat → Int32) : ∀ (cs : List Int32) (n k : Nat) (st : List Int32) (σ : Mem), cs.length < n → (∀ (i : Nat) (c : Int32), cs[i]? = some c → σ.2.2.1 39 t (k + i) = sTr c) → σ.2.2.1 39 t (k + cs.length) = 40000 → k + cs.length < 160 → st.length ≤ k → sOk cs st.length = true → Stk (σ.2.2.1 48 0) st → (∀ i, i < 6 → σ.2.2.1 47 0 i = nm i) →
    ∃ τ, F_X4_worked_t39_b9 N n t (nI st.length) (nI k) σ = some ((sEv nm cs st).headD 0, τ) ∧ KV σ τ := by
  intro cs
  induction cs with
  | nil =>
    intro n k st σ hn hcs hend hk hst hok hS hnm
    cases n with
    | zero => cases hn
    | succ n =>
      have d1 : st.length = 1 := Nat.eq_of_beq_eq_true hok
      obtain ⟨v, rfl⟩ : ∃ v, st = [v] := by
        cases st with
        | nil => cases d1
        | cons v r => cases r with
          | nil => exact ⟨v, rfl⟩
          | cons _ _ => simp at d1
      simp only [List.length_nil, Nat.add_zero] at hk hend
      refine ⟨σ, ?_, KV.rfl_ σ⟩
      unfold F_X4_worked_t39_b9
      rw [if_neg (geL_n 160 160 rfl (by omega) (by decide)), if_neg (out_nI hk (by decide)), if_neg (out_nI hk (by decide)), nI_clamp (by omega), hend, if_pos rfl]
      exact xw_end N v σ hS.1
  | cons c cs ih =>
    intro n k st σ hn hcs hend hk hst hok hS hnm
    cases n with
    | zero => cases hn
    | succ n =>
      simp only [List.length_cons] at hn hk hend
      have hc : σ.2.2.1 39 t k = sTr c := hcs 0 c rfl
      have hcs' : ∀ (i : Nat) (c : Int32), cs[i]? = some c → σ.2.2.1 39 t (k + 1 + i) = sTr c := fun i c h => by
        rw [Nat.add_assoc k 1 i, Nat.add_comm 1 i]; exact hcs (i + 1) c h
      have go : ∀ (st' : List Int32) (j : Nat) (v : Int32), st'.length ≤ k + 1 → sOk cs st'.length = true → Stk ((hwU3 σ.2.2.1 48 0 j v) 48 0) st' → ∃ τ, F_X4_worked_t39_b9 N n t (nI st'.length) (nI (k + 1)) (σ.1, σ.2.1, hwU3 σ.2.2.1 48 0 j v, σ.2.2.2.1, σ.2.2.2.2) = some ((sEv nm cs st').headD 0, τ) ∧ KV σ τ := by
        intro st' j v h1 h2 h3
        have hk1 : KV σ (σ.1, σ.2.1, hwU3 σ.2.2.1 48 0 j v, σ.2.2.2.1, σ.2.2.2.2) := KV.w
        obtain ⟨τ, e1, e2⟩ := ih n (k + 1) st' (σ.1, σ.2.1, hwU3 σ.2.2.1 48 0 j v, σ.2.2.2.1, σ.2.2.2.2) (by omega) (fun i c h => by
          show hwU3 σ.2.2.1 48 0 j v 39 t (k + 1 + i) = sTr c
          rw [hwU3_t (by decide)]; exact hcs' i c h) (by
          show hwU3 σ.2.2.1 48 0 j v 39 t _ = 40000
          rw [hwU3_t (by decide), show k + 1 + cs.length = k + (cs.length + 1) by omega]; exact hend) (by omega) h1 h2 h3 (fun i hi => by
          show hwU3 σ.2.2.1 48 0 j v 47 0 i = nm i
          rw [hwU3_t (by decide)]; exact hnm i hi)
        exact ⟨τ, e1, hk1.trans e2⟩
      unfold F_X4_worked_t39_b9
      simp only [sEv]
      rw [if_neg (geL_n 160 160 rfl (by omega) (by decide)), if_neg (out_nI (by omega) (by decide)), if_neg (out_nI (by omega) (by decide)), nI_clamp (by omega), hc]
      cases hv : sIsV c with
      | true =>
        simp only [sOk, hv, cond_true] at hok
        rcases sIsV.ex hv with ⟨m, hm, rfl⟩ | ⟨m, hm, rfl⟩
        · have e1 : (100000 : Int32) ≤ nI (100000 + m) := nI_le (a := 100000) (by omega) (by omega)
          have e3 : nI (100000 + m) - 100000 = nI m := by
            rw [← nI_add, Int32.add_comm, show (100000 : Int32) = nI 100000 from rfl, Int32.add_sub_cancel]
          have e2 : sTr (nI (100000 + m)) = nI m := by unfold sTr; rw [if_pos e1, e3]
          rw [e2, if_neg (neL 40000 40000 rfl (by omega)), if_neg (geL_n 20000 20000 rfl (by omega) (by decide)), if_neg (geL_n 160 160 rfl (by omega) (by decide)), if_neg (geL_n 10000 10000 rfl (by omega) (by decide))]
          unfold F_X4_worked_t39_b76
          rw [if_neg (out_nI (by omega) (by decide)), nI_clamp (by omega), nI_1, nI_1]
          unfold sStep
          rw [if_pos e1, e3]
          exact go (_ :: st) st.length _ (by simp; omega) hok ⟨hwU3_eq, Stk.up hS (Nat.le_refl _)⟩
        · have e1 : ¬ (100000 : Int32) ≤ nI m := nI_ge (b := 100000) (by omega) (by omega)
          have e4 : nI m < 11 := nI_lt (b := 11) (by omega) (by decide)
          have e5 : ¬ (11 : Int32) ≤ nI m := nI_ge (b := 11) (by omega) (by decide)
          have e2 : sTr (nI m) = nI (10000 + m) := by unfold sTr; rw [if_neg e1, if_pos e4, ← nI_add]; rfl
          have e3 : nI (10000 + m) - 10000 = nI m := by
            rw [← nI_add, Int32.add_comm, show (10000 : Int32) = nI 10000 from rfl, Int32.add_sub_cancel]
          rw [e2, if_neg (neL 40000 40000 rfl (by omega)), if_neg (geL_n 20000 20000 rfl (by omega) (by decide)), if_neg (geL_n 160 160 rfl (by omega) (by decide)), if_pos (leL_a 10000 10000 rfl (by omega) (by omega)), e3]
          unfold F_X4_valueOf
          rw [if_neg (nI_pos (by omega)), if_neg (geL_n 6 6 rfl (by omega) (by decide)), if_neg (out_nI hm (by decide)), nI_clamp (by omega), hnm m hm]
          show ∃ τ, F_X4_worked_t39_b76 N _ t (nI st.length) (nI k) (nm m) (nI st.length) σ = _ ∧ _
          unfold F_X4_worked_t39_b76
          rw [if_neg (out_nI (by omega) (by decide)), nI_clamp (by omega), nI_1, nI_1]
          unfold sStep
          rw [if_neg e1, if_neg e5, nI_clamp (by omega)]
          exact go (_ :: st) st.length _ (by simp; omega) hok ⟨hwU3_eq, Stk.up hS (Nat.le_refl _)⟩
      | false =>
        simp only [sOk, hv, cond_false] at hok
        cases ht : sIsT c with
        | true =>
          simp only [ht, cond_true, Bool.and_eq_true] at hok
          obtain ⟨h1, h2⟩ := hok
          have h1 := Nat.le_of_ble_eq_true h1
          rcases st with _ | ⟨a, r⟩
          · simp at h1
          obtain ⟨sa, sr⟩ := hS
          have i1 : nI (a :: r).length - (1 : Int32) = nI r.length := nI_pred r.length
          simp only [List.length_cons] at hst
          have i0 : ¬ nI (a :: r).length ≤ 0 := nI_nle (by simp) (by simp; omega)
          simp only [sIsT, Bool.or_eq_true, decide_eq_true_eq] at ht
          rw [i1]
          rcases ht with rfl | rfl
          · have e1 : ¬ (100000 : Int32) ≤ 13 := by decide
            have e2 : (11 : Int32) ≤ 13 := by decide
            rw [show sTr 13 = 30009 from by decide, if_neg (by decide), if_pos (by decide), if_neg (by decide), if_neg i0, if_neg (out_nI (by omega) (by decide))]
            rw [show F_X4_turned N ((30009 : Int32) - 30000) (σ.2.2.1 48 0 (nI r.length).toNatClampNeg) σ = some ((if a = 0 then 1 else 0), σ) by
              rw [nI_clamp (by omega), sa, show (30009 : Int32) - 30000 = 9 from by decide]
              unfold F_X4_turned
              rw [if_pos rfl]
              by_cases ha : a = 0
              · rw [if_pos ha, if_pos ha]; rfl
              · rw [if_neg ha, if_neg ha]; rfl]
            show ∃ τ, (if hwOut (nI r.length) 160 then none else F_X4_worked_t39_b9 N n t (nI (r.length + 1)) (nI k + 1) (σ.1, σ.2.1, hwU3 σ.2.2.1 48 0 (nI r.length).toNatClampNeg (if a = 0 then 1 else 0), σ.2.2.2.1, σ.2.2.2.2)) = _ ∧ _
            unfold sStep
            rw [if_neg (out_nI (by omega) (by decide)), nI_clamp (by omega), nI_1, if_neg e1, if_pos e2, if_pos rfl]
            exact go (_ :: r) r.length _ (by simp; omega) h2 ⟨hwU3_eq, Stk.up sr (Nat.le_refl _)⟩
          · have e1 : ¬ (100000 : Int32) ≤ 19 := by decide
            have e2 : (11 : Int32) ≤ 19 := by decide
            have e3 : ¬ (19 : Int32) = 13 := by decide
            rw [show sTr 19 = 30045 from by decide, if_neg (by decide), if_pos (by decide), if_neg (by decide), if_neg i0, if_neg (out_nI (by omega) (by decide))]
            rw [show F_X4_turned N ((30045 : Int32) - 30000) (σ.2.2.1 48 0 (nI r.length).toNatClampNeg) σ = some (-a, σ) by
              rw [nI_clamp (by omega), sa, show (30045 : Int32) - 30000 = 45 from by decide]
              unfold F_X4_turned
              rw [if_neg (by decide)]]
            show ∃ τ, (if hwOut (nI r.length) 160 then none else F_X4_worked_t39_b9 N n t (nI (r.length + 1)) (nI k + 1) (σ.1, σ.2.1, hwU3 σ.2.2.1 48 0 (nI r.length).toNatClampNeg (-a), σ.2.2.2.1, σ.2.2.2.2)) = _ ∧ _
            unfold sStep
            rw [if_neg (out_nI (by omega) (by decide)), nI_clamp (by omega), nI_1, if_neg e1, if_pos e2, if_neg e3, if_pos rfl]
            exact go (-a :: r) r.length _ (by simp; omega) h2 ⟨hwU3_eq, Stk.up sr (Nat.le_refl _)⟩
        | false =>
          simp only [ht, cond_false, Bool.and_eq_true] at hok
          obtain ⟨hj, h1, h2⟩ := hok
          have h1 := Nat.le_of_ble_eq_true h1
          rcases st with _ | ⟨b, _ | ⟨a, r⟩⟩
          · simp at h1
          · simp at h1
          obtain ⟨sb, sa, sr⟩ := hS
          simp only [List.length_cons] at hst
          have n13 : c ≠ 13 := fun e => by rw [e] at ht; exact absurd ht (by decide)
          have n19 : c ≠ 19 := fun e => by rw [e] at ht; exact absurd ht (by decide)
          have e12 : (¬ (100000 : Int32) ≤ c ∧ (11 : Int32) ≤ c) ∧ (¬ sTr c = 40000 ∧ (20000 : Int32) ≤ sTr c ∧ sTr c < 30000) := by
            rcases sIsJ.ex hj with rfl | rfl | rfl | rfl | rfl | rfl | rfl <;> decide
          obtain ⟨⟨e1, e2⟩, e3, e4, e5⟩ := e12
          have i0 : ¬ nI (b :: a :: r).length ≤ 1 := nI_ge (a := 1) (by simp) (by simp; omega)
          have i1 : nI (b :: a :: r).length + Int32.ofInt (-1) = nI (r.length + 1) := nI_m1 (r.length + 1)
          have i2 : nI (r.length + 1) - (1 : Int32) = nI r.length := nI_pred r.length
          rw [i1, i2, if_neg e3, if_pos e4, if_pos e5, if_neg i0, if_neg (out_nI (by omega) (by decide)), if_neg (out_nI (by omega) (by decide)), show F_X4_joined N (sTr c - 20000) (σ.2.2.1 48 0 (nI r.length).toNatClampNeg) (σ.2.2.1 48 0 (nI (r.length + 1)).toNatClampNeg) σ = some (sTwo c a b, σ) by rw [nI_clamp (by omega), nI_clamp (by omega), sa, show σ.2.2.1 48 0 (r.length + 1) = b from sb]; exact x_joined N c a b σ hj]
          unfold sStep
          rw [if_neg e1, if_pos e2, if_neg n13, if_neg n19]
          show ∃ τ, (if hwOut (nI r.length) 160 then none else F_X4_worked_t39_b9 N n t (nI (r.length + 1)) (nI k + 1) (σ.1, σ.2.1, hwU3 σ.2.2.1 48 0 (nI r.length).toNatClampNeg (sTwo c a b), σ.2.2.2.1, σ.2.2.2.2)) = _ ∧ _
          rw [if_neg (out_nI (by omega) (by decide)), nI_clamp (by omega), nI_1]
          exact go (sTwo c a b :: r) r.length _ (by simp; omega) h2 ⟨hwU3_eq, Stk.up sr (Nat.le_refl _)⟩

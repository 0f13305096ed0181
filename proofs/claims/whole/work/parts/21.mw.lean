/-! THE PURE SIDE, 2: what the reference makes of the law's codes -/
def Stk (f : Nat → Int32) : List Int32 → Prop
  | [] => True
  | a :: r => f r.length = a ∧ Stk f r
theorem Stk.up {A : Nat → Nat → Nat → Int32} {t : Nat} {v : Int32} : ∀ {r : List Int32} {k : Nat}, Stk (A t 0) r → r.length ≤ k → Stk ((hwU3 A t 0 k v) t 0) r
  | [], _, _, _ => trivial
  | a :: r, k, h, hk => ⟨by rw [hwU3_k (by simp at hk; omega)]; exact h.1, Stk.up h.2 (by simp at hk; omega)⟩
theorem nI_mul (a b : Nat) : nI a * nI b = nI (a * b) := (Int32.ofNat_mul a b).symm
theorem ix4 (t q : Nat) : (4 : Int32) * nI t + nI q = nI (4 * t + q) := by rw [show (4 : Int32) = nI 4 from rfl, nI_mul, nI_add]
theorem ix5 (t q : Nat) : (5 : Int32) * nI t + nI q = nI (5 * t + q) := by rw [show (5 : Int32) = nI 5 from rfl, nI_mul, nI_add]
theorem ix200 (t q : Nat) : (200 : Int32) * nI t + nI q = nI (200 * t + q) := by rw [show (200 : Int32) = nI 200 from rfl, nI_mul, nI_add]
theorem ix40 (t q : Nat) : (40 : Int32) * nI t + nI q = nI (40 * t + q) := by rw [show (40 : Int32) = nI 40 from rfl, nI_mul, nI_add]
theorem nI_m1 (k : Nat) : nI (k + 1) + Int32.ofInt (-1) = nI k := by
  rw [← nI_1, Int32.add_assoc, show (1 : Int32) + Int32.ofInt (-1) = 0 from by decide, Int32.add_zero]
theorem sIsV.ex {c : Int32} (h : sIsV c = true) : (∃ m : Nat, m < 10000 ∧ c = nI (100000 + m)) ∨ ∃ m : Nat, m < 6 ∧ c = nI m := by
  simp only [sIsV, Bool.or_eq_true, Bool.and_eq_true, decide_eq_true_eq] at h
  rcases h with ⟨h1, h2⟩ | ⟨h1, h2⟩
  · left
    have h0 : ¬ c < 0 := fun q => by
      have a := Int32.lt_iff_toInt_lt.mp q
      have b := Int32.le_iff_toInt_le.mp h1
      have e : (100000 : Int32).toInt = 100000 := by decide
      have e0 : (0 : Int32).toInt = 0 := by decide
      omega
    obtain ⟨j, hj, rfl⟩ := nI_of h0
    have a : 100000 ≤ j := (nI_leI (a := 100000) (by omega) hj).mp h1
    have b : j < 110000 := (nI_ltI (b := 110000) hj (by omega)).mp h2
    exact ⟨j - 100000, by omega, by rw [show 100000 + (j - 100000) = j by omega]⟩
  · right
    have h0 : ¬ c < 0 := fun q => by
      have a := Int32.lt_iff_toInt_lt.mp q
      have b := Int32.le_iff_toInt_le.mp h1
      omega
    obtain ⟨j, hj, rfl⟩ := nI_of h0
    exact ⟨j, (nI_ltI (b := 6) hj (by decide)).mp h2, rfl⟩
theorem m_two (N : Nat) (c a b : Int32) (σ : Mem) (hc : c ≠ 13) : F_X12_two N c a b σ = some (sTwo c a b, σ) := by
  unfold F_X12_two sTwo
  by_cases h1 : c = 11
  · simp only [if_pos h1]
    split <;> (try split) <;> rfl
  simp only [if_neg h1]
  by_cases h2 : c = 12
  · simp only [if_pos h2]
    split <;> (try split) <;> rfl
  simp only [if_neg h2, if_neg hc]
  by_cases h4 : c = 14
  · simp only [if_pos h4]
    split <;> rfl
  simp only [if_neg h4]
  by_cases h5 : c = 15
  · simp only [if_pos h5]
    split <;> rfl
  simp only [if_neg h5]
  by_cases h6 : c = 16
  · simp only [if_pos h6]
  simp only [if_neg h6]
  by_cases h7 : c = 17
  · simp only [if_pos h7]
  simp only [if_neg h7]
theorem KE.w {σ : Mem} {t k : Nat} {v : Int32} (h : t = 100 ∨ t = 101) : KE σ (σ.1, σ.2.1, hwU3 σ.2.2.1 t 0 k v, σ.2.2.2.1, σ.2.2.2.2) :=
  ⟨rfl, rfl, fun a h1 h2 => hwU3_t (by omega), rfl⟩
theorem mw_end (N q : Nat) (hq : q < 3) (σ : Mem) : (if nI q = 0 then F_X12_worth_b209 N (999 : Int32) σ else F_X12_worth_b209 N (100 : Int32) σ) = some (sClamp (if q = 0 then 999 else 100) (σ.2.2.1 100 0 0), σ) := by
  have h : ∀ s0 : Int32, F_X12_worth_b209 N s0 σ = some (sClamp s0 (σ.2.2.1 100 0 0), σ) := by
    intro s0
    unfold F_X12_worth_b209 sClamp
    split <;> (try split) <;> rfl
  by_cases e : q = 0
  · subst e; rw [if_pos rfl, if_pos (show nI 0 = 0 from rfl), h]
  · have z : ¬ nI q = 0 := fun z => e ((nI_eq (b := 0) (by omega) (by decide)).mp z)
    rw [if_neg e, if_neg z, h]
set_option maxHeartbeats 1000000 in
theorem mw_loop (N : Nat) {g : Nat → Nat → Int32} (hw : Wf g) (q : Nat) (hq : q < 3) (nm : Nat → Int32) : ∀ (cs : List Int32) (n k : Nat) (st : List Int32) (σ : Mem), gM σ = g → cs.length < n → k + cs.length = sSt g (sRl g) (q + 1) → (∀ (i : Nat) (c : Int32), cs[i]? = some c → g 87 (200 * sRl g + (k + i)) = c) → st.length ≤ k → sOk cs st.length = true → Stk (σ.2.2.1 100 0) st → (∀ i, i < 6 → σ.2.2.1 101 0 i = nm i) →
    ∃ τ, F_X12_worth_b16 N n (nI q) (nI st.length) (nI k) σ = some (sClamp (if q = 0 then 999 else 100) ((sEv nm cs st).headD 0), τ) ∧ KE σ τ := by
  intro cs
  have hrl : sRl g < (g 12 27).toNatClampNeg := hw.rl.2
  have htx : (g 12 27).toNatClampNeg ≤ 6 := hw.tx.2
  obtain ⟨s1, s2, s3, s4⟩ := hw.cs _ hrl
  have hr : g 12 28 = nI (sRl g) := hw.rl.1.1
  have hs : sSt g (sRl g) (q + 1) ≤ 157 := by
    have a0 := s2 0 (by omega); have a1 := s2 1 (by omega); have a2 := s2 2 (by omega)
    match q, hq with
    | 0, _ => exact Nat.le_trans a1 (Nat.le_trans a2 s3)
    | 1, _ => exact Nat.le_trans a2 s3
    | 2, _ => exact s3
  have hq1 : g 88 (4 * sRl g + (q + 1)) = nI (sSt g (sRl g) (q + 1)) := s1 _ (by omega)
  induction cs with
  | nil =>
    intro n k st σ hg hn hk hcs hst hok hS hnm
    cases n with
    | zero => cases hn
    | succ n =>
      have r28 : σ.1 12 28 = nI (sRl g) := by rw [← gM_f σ (by decide), hg, hr]
      have d1 : st.length = 1 := Nat.eq_of_beq_eq_true hok
      obtain ⟨v, rfl⟩ : ∃ v, st = [v] := by
        cases st with
        | nil => cases d1
        | cons v r => cases r with
          | nil => exact ⟨v, rfl⟩
          | cons _ _ => simp at d1
      refine ⟨σ, ?_, KE.rfl_ σ⟩
      unfold F_X12_worth_b16
      rw [r28, ix4, nI_1, if_neg (out_nI (by omega) (by decide)), nI_clamp (by omega), ← gM_a σ (by decide) (by decide), hg, Nat.add_assoc, hq1, if_pos (nI_le (by simp at hk; omega) (by simp at hk; omega)), mw_end N q hq, show σ.2.2.1 100 0 0 = v from hS.1]
      rfl
  | cons c cs ih =>
    intro n k st σ hg hn hk hcs hst hok hS hnm
    cases n with
    | zero => cases hn
    | succ n =>
      simp only [List.length_cons] at hn hk
      have r28 : σ.1 12 28 = nI (sRl g) := by rw [← gM_f σ (by decide), hg, hr]
      have hc : g 87 (200 * sRl g + k) = c := hcs 0 c rfl
      have hc2 : σ.2.2.1 87 0 (200 * sRl g + k) = c := by rw [← gM_a σ (by decide) (by decide), hg, hc]
      have hcs' : ∀ (i : Nat) (c : Int32), cs[i]? = some c → g 87 (200 * sRl g + (k + 1 + i)) = c := fun i c h => by
        rw [Nat.add_assoc k 1 i, Nat.add_comm 1 i]; exact hcs (i + 1) c h
      have go : ∀ (st' : List Int32) (j : Nat) (v : Int32), st'.length ≤ k + 1 → sOk cs st'.length = true → Stk ((hwU3 σ.2.2.1 100 0 j v) 100 0) st' → ∃ τ, F_X12_worth_b16 N n (nI q) (nI st'.length) (nI (k + 1)) (σ.1, σ.2.1, hwU3 σ.2.2.1 100 0 j v, σ.2.2.2.1, σ.2.2.2.2) = some (sClamp (if q = 0 then 999 else 100) ((sEv nm cs st').headD 0), τ) ∧ KE σ τ := by
        intro st' j v h1 h2 h3
        have hk1 : KE σ (σ.1, σ.2.1, hwU3 σ.2.2.1 100 0 j v, σ.2.2.2.1, σ.2.2.2.2) := KE.w (Or.inl rfl)
        obtain ⟨τ, e1, e2⟩ := ih n (k + 1) st' (σ.1, σ.2.1, hwU3 σ.2.2.1 100 0 j v, σ.2.2.2.1, σ.2.2.2.2) (hk1.g.trans hg) (by omega) (by omega) hcs' h1 h2 h3 (fun i hi => by
          show hwU3 σ.2.2.1 100 0 j v 101 0 i = nm i
          rw [hwU3_t (by decide)]; exact hnm i hi)
        exact ⟨τ, e1, hk1.trans e2⟩
      unfold F_X12_worth_b16
      simp only [sEv]
      rw [r28, ix4, nI_1, if_neg (out_nI (by omega) (by decide)), nI_clamp (by omega), ← gM_a σ (t := 88) (by decide) (by decide), hg, Nat.add_assoc, hq1, if_neg (nI_ge (by omega) (by omega)), ix200, if_neg (out_nI (by omega) (by decide)), nI_clamp (by omega), hc2]
      cases hv : sIsV c with
      | true =>
        simp only [sOk, hv, cond_true] at hok
        rcases sIsV.ex hv with ⟨m, hm, rfl⟩ | ⟨m, hm, rfl⟩
        · have e1 : (100000 : Int32) ≤ nI (100000 + m) := nI_le (a := 100000) (by omega) (by omega)
          have e2 : (11 : Int32) ≤ nI (100000 + m) := nI_le (a := 11) (by omega) (by omega)
          rw [if_pos e1]
          unfold F_X12_worth_b66 F_X12_worth_b93
          rw [if_pos e2, if_neg (out_nI (by omega) (by decide)), nI_clamp (by omega), nI_1, nI_1]
          unfold sStep
          rw [if_pos e1]
          exact go (_ :: st) st.length _ (by simp; omega) hok ⟨hwU3_eq, Stk.up hS (Nat.le_refl _)⟩
        · have e1 : ¬ (100000 : Int32) ≤ nI m := nI_ge (b := 100000) (by omega) (by omega)
          have e2 : ¬ (11 : Int32) ≤ nI m := nI_ge (b := 11) (by omega) (by omega)
          rw [if_neg e1, if_neg e2]
          unfold F_X12_worth_b66 F_X12_worth_b93
          rw [if_neg e2, if_neg (out_nI hm (by decide)), if_neg (out_nI (by omega) (by decide)), nI_clamp (by omega), nI_clamp (by omega), nI_1, nI_1, hnm m hm]
          unfold sStep
          rw [if_neg e1, if_neg e2, nI_clamp (by omega)]
          exact go (_ :: st) st.length _ (by simp; omega) hok ⟨hwU3_eq, Stk.up hS (Nat.le_refl _)⟩
      | false =>
        simp only [sOk, hv, cond_false] at hok
        cases ht : sIsT c with
        | true =>
          simp only [ht, cond_true, Bool.and_eq_true] at hok
          obtain ⟨h1, h2⟩ := hok
          have h1 := Nat.le_of_ble_eq_true h1
          rcases st with _ | ⟨a, r⟩
          · simp at h1
          obtain ⟨sa, sr⟩ := hS
          have i1 : nI (a :: r).length - (1 : Int32) = nI r.length := nI_pred r.length
          simp only [List.length_cons] at hst
          simp only [sIsT, Bool.or_eq_true, decide_eq_true_eq] at ht
          rw [i1]
          rcases ht with rfl | rfl
          · have e1 : ¬ (100000 : Int32) ≤ 13 := by decide
            have e2 : (11 : Int32) ≤ 13 := by decide
            rw [if_neg e1, if_pos e2, if_pos rfl, if_neg (out_nI (by omega) (by decide)), nI_clamp (by omega), sa]
            unfold sStep F_X12_worth_b130
            rw [if_neg e1, if_pos e2, if_pos rfl, if_neg (out_nI (by omega) (by decide)), if_neg (out_nI (by omega) (by decide)), nI_clamp (by omega), nI_1]
            dsimp only
            by_cases ha : a = 0
            · rw [if_pos ha, if_pos ha]
              exact go (1 :: r) r.length 1 (by simp; omega) h2 ⟨hwU3_eq, Stk.up sr (Nat.le_refl _)⟩
            · rw [if_neg ha, if_neg ha]
              exact go (0 :: r) r.length 0 (by simp; omega) h2 ⟨hwU3_eq, Stk.up sr (Nat.le_refl _)⟩
          · have e1 : ¬ (100000 : Int32) ≤ 19 := by decide
            have e2 : (11 : Int32) ≤ 19 := by decide
            have e3 : ¬ (19 : Int32) = 13 := by decide
            rw [if_neg e1, if_pos e2, if_neg e3, if_pos rfl, if_neg (out_nI (by omega) (by decide)), if_neg (out_nI (by omega) (by decide)), nI_clamp (by omega), sa, nI_1]
            unfold sStep
            rw [if_neg e1, if_pos e2, if_neg e3, if_pos rfl]
            exact go (-a :: r) r.length (-a) (by simp; omega) h2 ⟨hwU3_eq, Stk.up sr (Nat.le_refl _)⟩
        | false =>
          simp only [ht, cond_false, Bool.and_eq_true] at hok
          obtain ⟨hj, h1, h2⟩ := hok
          have h1 := Nat.le_of_ble_eq_true h1
          rcases st with _ | ⟨b, _ | ⟨a, r⟩⟩
          · simp at h1
          · simp at h1
          obtain ⟨sb, sa, sr⟩ := hS
          simp only [List.length_cons] at hst
          have n13 : c ≠ 13 := fun e => by rw [e] at ht; exact absurd ht (by decide)
          have n19 : c ≠ 19 := fun e => by rw [e] at ht; exact absurd ht (by decide)
          have e12 : ¬ (100000 : Int32) ≤ c ∧ (11 : Int32) ≤ c := by
            simp only [sIsJ, Bool.or_eq_true, Bool.and_eq_true, decide_eq_true_eq] at hj
            rcases hj with rfl | rfl | ⟨x, y⟩
            · decide
            · decide
            · have x' := Int32.le_iff_toInt_le.mp x
              have y' := Int32.le_iff_toInt_le.mp y
              have l1 : (14 : Int32).toInt = 14 := by decide
              have l2 : (18 : Int32).toInt = 18 := by decide
              have l3 : (100000 : Int32).toInt = 100000 := by decide
              have l4 : (11 : Int32).toInt = 11 := by decide
              exact ⟨fun z => by have := Int32.le_iff_toInt_le.mp z; omega, Int32.le_iff_toInt_le.mpr (by omega)⟩
          obtain ⟨e1, e2⟩ := e12
          have i1 : nI (b :: a :: r).length + Int32.ofInt (-1) = nI (r.length + 1) := nI_m1 (r.length + 1)
          have i2 : nI (r.length + 1) - (1 : Int32) = nI r.length := nI_pred r.length
          rw [i1, i2, if_neg e1, if_pos e2, if_neg n13, if_neg n19, if_neg (out_nI (by omega) (by decide)), if_neg (out_nI (by omega) (by decide)), show F_X12_two N c (σ.2.2.1 100 0 (nI r.length).toNatClampNeg) (σ.2.2.1 100 0 (nI (r.length + 1)).toNatClampNeg) σ = some (sTwo c a b, σ) by rw [nI_clamp (by omega), nI_clamp (by omega), sa, show σ.2.2.1 100 0 (r.length + 1) = b from sb]; exact m_two N c a b σ n13]
          unfold sStep
          rw [if_neg e1, if_pos e2, if_neg n13, if_neg n19]
          show ∃ τ, (if hwOut (nI r.length) 200 then none else F_X12_worth_b16 N n (nI q) (nI (r.length + 1)) (nI k + 1) (σ.1, σ.2.1, hwU3 σ.2.2.1 100 0 (nI r.length).toNatClampNeg (sTwo c a b), σ.2.2.2.1, σ.2.2.2.2)) = _ ∧ _
          rw [if_neg (out_nI (by omega) (by decide)), nI_clamp (by omega), nI_1]
          exact go (sTwo c a b :: r) r.length _ (by simp; omega) h2 ⟨hwU3_eq, Stk.up sr (Nat.le_refl _)⟩
theorem sCs_get {g : Nat → Nat → Int32} {t q i : Nat} {c : Int32} (h : (sCs g t q)[i]? = some c) : g 87 (200 * t + (sSt g t q + i)) = c := by
  unfold sCs at h
  rw [List.getElem?_map] at h
  cases hr : (List.range (sSt g t (q + 1) - sSt g t q))[i]? with
  | none => rw [hr] at h; cases h
  | some j =>
    rw [hr] at h
    obtain ⟨hi, hj⟩ := List.getElem?_eq_some_iff.mp hr
    rw [List.getElem_range] at hj
    subst hj
    exact Option.some.inj h
theorem m_worth (N : Nat) (hN : 160 ≤ N) {g : Nat → Nat → Int32} (hw : Wf g) (q : Nat) (hq : q < 3) (nm : Nat → Int32) (σ : Mem) (hg : gM σ = g) (hnm : ∀ i, i < 6 → σ.2.2.1 101 0 i = nm i) :
    ∃ τ, F_X12_worth N (nI q) σ = some (sVal g q (if q = 0 then 999 else 100) nm, τ) ∧ KE σ τ := by
  have hrl : sRl g < (g 12 27).toNatClampNeg := hw.rl.2
  have htx : (g 12 27).toNatClampNeg ≤ 6 := hw.tx.2
  obtain ⟨s1, s2, s3, s4⟩ := hw.cs _ hrl
  have hr : σ.1 12 28 = nI (sRl g) := by rw [← gM_f σ (by decide), hg]; exact hw.rl.1.1
  have a0 := s2 0 (by omega); have a1 := s2 1 (by omega); have a2 := s2 2 (by omega)
  have hl : (sCs g (sRl g) q).length = sSt g (sRl g) (q + 1) - sSt g (sRl g) q := by simp [sCs]
  have hle := s2 q hq
  have hs : sSt g (sRl g) (q + 1) ≤ 157 := by
    match q, hq with
    | 0, _ => exact Nat.le_trans a1 (Nat.le_trans a2 s3)
    | 1, _ => exact Nat.le_trans a2 s3
    | 2, _ => exact s3
  unfold F_X12_worth
  rw [hr, ix4, if_neg (out_nI (by omega) (by decide)), nI_clamp (by omega), ← gM_a σ (t := 88) (by decide) (by decide), hg, s1 q (by omega)]
  exact mw_loop N hw q hq nm (sCs g (sRl g) q) N (sSt g (sRl g) q) [] σ hg (by omega) (by omega) (fun i c h => sCs_get h) (Nat.zero_le _) (s4 q hq) trivial hnm

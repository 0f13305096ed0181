/-! THE CONSTRUCTORS, 9: HowDeepModel() -/
def ksM : List (Nat × Nat) := [(12, 0), (72, 0), (73, 0), (74, 0), (75, 0), (76, 0), (77, 0), (78, 0), (79, 0), (80, 0), (81, 0), (82, 0), (83, 0), (84, 0), (85, 0), (86, 0), (87, 0), (88, 0), (89, 0), (90, 0), (91, 0), (92, 0), (93, 0), (94, 0), (95, 0), (96, 0), (97, 0), (98, 0), (99, 0), (100, 0), (101, 0), (102, 0), (103, 0)]
def adM (ad0 : Nat → Nat → Nat) (h0 : Nat) (u : Nat → Nat) : Nat → Nat → Nat := fun t r => bif Nat.ble 200 t then ad0 t r else bif Nat.beq t 12 then h0 else bif Nat.beq t 72 then u 0 else bif Nat.beq t 73 then u 1 else bif Nat.beq t 74 then u 2 else bif Nat.beq t 75 then u 3 else bif Nat.beq t 76 then u 4 else bif Nat.beq t 77 then u 5 else bif Nat.beq t 78 then u 6 else bif Nat.beq t 79 then u 7 else bif Nat.beq t 80 then u 8 else bif Nat.beq t 81 then u 9 else bif Nat.beq t 82 then u 10 else bif Nat.beq t 83 then u 11 else bif Nat.beq t 84 then u 12 else bif Nat.beq t 85 then u 13 else bif Nat.beq t 86 then u 14 else bif Nat.beq t 87 then u 15 else bif Nat.beq t 88 then u 16 else bif Nat.beq t 89 then u 17 else bif Nat.beq t 90 then u 18 else bif Nat.beq t 91 then u 19 else bif Nat.beq t 92 then u 20 else bif Nat.beq t 93 then u 21 else bif Nat.beq t 94 then u 22 else bif Nat.beq t 95 then u 23 else bif Nat.beq t 96 then u 24 else bif Nat.beq t 97 then u 25 else bif Nat.beq t 98 then u 26 else bif Nat.beq t 99 then u 27 else bif Nat.beq t 100 then u 28 else bif Nat.beq t 101 then u 29 else bif Nat.beq t 102 then u 30 else bif Nat.beq t 103 then u 31 else 0
theorem adM_hi {ad0 : Nat → Nat → Nat} {h0 : Nat} {u : Nat → Nat} {t : Nat} (h : 200 ≤ t) : adM ad0 h0 u t = ad0 t := by
  funext r
  unfold adM
  rw [Nat.ble_eq_true_of_le h]
  rfl
theorem ksM_cl : hwCl ksM := hwCl_of (by decide +kernel) (by decide +kernel)
/-- before the law's codes are put -/
def mB (sc : Nat × (Nat → Int32)) : Mem := ((mI sc).1, (mI sc).2.1, fun t _ k => bif Nat.beq t 87 then 0 else bif Nat.beq t 88 then 0 else mIa t k, (mI sc).2.2.2.1, sc)
def m4 (σ : Mem) (k : Nat) (a b c d : Int32) : Mem := (σ.1, σ.2.1, hwU3 (hwU3 (hwU3 (hwU3 σ.2.2.1 87 0 k a) 87 0 (k + 1) b) 87 0 (k + 2) c) 87 0 (k + 3) d, σ.2.2.2.1, σ.2.2.2.2)
def m1 (σ : Mem) (k : Nat) (a : Int32) : Mem := (σ.1, σ.2.1, hwU3 σ.2.2.1 88 0 k a, σ.2.2.2.1, σ.2.2.2.2)
theorem first_eq (k : Nat) (hk : k + 4 ≤ 1200) (a b c d : Int32) (σ : Mem) : F_X12_first 200 (nI k) a b c d σ = some ((), m4 σ k a b c d) := by
  unfold F_X12_first
  rw [show (1 : Int32) = nI 1 from rfl, show (2 : Int32) = nI 2 from rfl, show (3 : Int32) = nI 3 from rfl, nI_add, nI_add, nI_add, if_neg (out_nI (by omega) (by decide)), if_neg (out_nI (by omega) (by decide)), if_neg (out_nI (by omega) (by decide)), if_neg (out_nI (by omega) (by decide)), nI_clamp (by omega), nI_clamp (by omega), nI_clamp (by omega), nI_clamp (by omega)]
  rfl
theorem okF12 : okI mX12_first = true ∧ okN mX12_first 5 = true := by decide +kernel
def mZ (sc : Nat × (Nat → Int32)) : Mem := m1 (m1 (m1 (m4 (m4 (m4 (m4 (mB sc) 0 100010 0 0 18) 4 100002 18 16 2) 8 4 100005 18 17) 12 100002 0 18 0) 1 7) 2 12) 3 15
theorem u3_row {f : Nat → Nat → Nat → Int32} {t r k : Nat} {v : Int32} : hwU3 f t r k v t r = upd (f t r) k v := by
  funext j
  rw [hwU3_get]
  unfold upd
  by_cases e : j = k
  · rw [if_pos ⟨rfl, rfl, e⟩, if_pos e]
  · rw [if_neg (fun q => e q.2.2), if_neg e]
theorem mZ_87 (sc : Nat × (Nat → Int32)) : (mZ sc).2.2.1 87 0 = mIa 87 := by
  funext k
  unfold mZ m1
  dsimp only
  rw [hwU3_t (show (87 : Nat) ≠ 88 by decide), hwU3_t (show (87 : Nat) ≠ 88 by decide), hwU3_t (show (87 : Nat) ≠ 88 by decide)]
  unfold m4 mB
  dsimp only
  match k with
  | 0 => rfl
  | 1 => rfl
  | 2 => rfl
  | 3 => rfl
  | 4 => rfl
  | 5 => rfl
  | 6 => rfl
  | 7 => rfl
  | 8 => rfl
  | 9 => rfl
  | 10 => rfl
  | 11 => rfl
  | 12 => rfl
  | 13 => rfl
  | 14 => rfl
  | 15 => rfl
  | k + 16 => simp (disch := omega) only [hwU3_k]; rfl
theorem mZ_88 (sc : Nat × (Nat → Int32)) : (mZ sc).2.2.1 88 0 = mIa 88 := by
  funext k
  show hwU3 (hwU3 (hwU3 (m4 (m4 (m4 (m4 (mB sc) 0 100010 0 0 18) 4 100002 18 16 2) 8 4 100005 18 17) 12 100002 0 18 0).2.2.1 88 0 1 7) 88 0 2 12) 88 0 3 15 88 0 k = _
  have z : ∀ k, (m4 (m4 (m4 (m4 (mB sc) 0 100010 0 0 18) 4 100002 18 16 2) 8 4 100005 18 17) 12 100002 0 18 0).2.2.1 88 0 k = 0 := fun k => by
    unfold m4 mB
    dsimp only
    simp (disch := decide) only [hwU3_t]
    rfl
  match k with
  | 0 => rw [hwU3_k (by decide), hwU3_k (by decide), hwU3_k (by decide), z]; rfl
  | 1 => rw [hwU3_k (by decide), hwU3_k (by decide), hwU3_eq]; rfl
  | 2 => rw [hwU3_k (by decide), hwU3_eq]; rfl
  | 3 => rw [hwU3_eq]; rfl
  | k + 4 => rw [hwU3_k (by omega), hwU3_k (by omega), hwU3_k (by omega), z]; rfl
theorem mZ_o (sc : Nat × (Nat → Int32)) {t : Nat} (h7 : t ≠ 87) (h8 : t ≠ 88) : (mZ sc).2.2.1 t = (mI sc).2.2.1 t := by
  unfold mZ m1 m4 mB
  dsimp only
  simp (disch := assumption) only [hwU3_t]
  funext r k
  have e7 : Nat.beq t 87 = false := by
    cases q : Nat.beq t 87 with
    | false => rfl
    | true => exact absurd (Nat.eq_of_beq_eq_true q) h7
  have e8 : Nat.beq t 88 = false := by
    cases q : Nat.beq t 88 with
    | false => rfl
    | true => exact absurd (Nat.eq_of_beq_eq_true q) h8
  rw [e7, e8]
  rfl
theorem mZ_W {ad : Nat → Nat → Nat} {K : Kc} (sc : Nat × (Nat → Int32)) : hwW ad K ksM (mZ sc) = hwW ad K ksM (mI sc) := by
  unfold hwW
  apply List.map_congr_left
  intro q hq
  have hr : ∀ q, q ∈ ksM → q.2 = 0 := by decide
  refine congrArg (fun z => (ad q.1 q.2, z)) (hwCo_congr (σ := mI sc) (σ' := mZ sc) (fun _ => rfl) (fun _ => rfl) ?_ rfl)
  rw [hr q hq]
  by_cases h7 : q.1 = 87
  · rw [h7, mZ_87]; rfl
  · by_cases h8 : q.1 = 88
    · rw [h8, mZ_88]; rfl
    · rw [mZ_o sc h7 h8]
theorem updW : (vp_updL (vp_updL (vp_updL (vp_updL (vp_updL (vp_updL (vp_updL (vp_updL (vp_updL (vp_updL (vp_updL (vp_updL (fun _ => 0) (0 : Int32).toNatClampNeg (1668248436 : Int64)) (1 : Int32).toNatClampNeg (512736126322 : Int64)) (2 : Int32).toNatClampNeg (1717660780 : Int64)) (3 : Int32).toNatClampNeg (2036429412 : Int64)) (4 : Int32).toNatClampNeg (465491813746 : Int64)) (5 : Int32).toNatClampNeg (1650553701 : Int64)) (6 : Int32).toNatClampNeg (1935764596 : Int64)) (7 : Int32).toNatClampNeg (126879263846254 : Int64)) (8 : Int32).toNatClampNeg (465625310564 : Int64)) (9 : Int32).toNatClampNeg (28530 : Int64)) (10 : Int32).toNatClampNeg (6385252 : Int64)) (11 : Int32).toNatClampNeg (7237492 : Int64)) = mIl := by
  funext k
  match k with
  | 0 => rfl
  | 1 => rfl
  | 2 => rfl
  | 3 => rfl
  | 4 => rfl
  | 5 => rfl
  | 6 => rfl
  | 7 => rfl
  | 8 => rfl
  | 9 => rfl
  | 10 => rfl
  | 11 => rfl
  | k + 12 =>
    have e : ∀ (f : Nat → Int64) (a : Nat) (x : Int64), a < 12 → vp_updL f a x (k + 12) = f (k + 12) := fun f a x h => if_neg (by omega)
    rw [e _ _ _ (by decide), e _ _ _ (by decide), e _ _ _ (by decide), e _ _ _ (by decide), e _ _ _ (by decide), e _ _ _ (by decide), e _ _ _ (by decide), e _ _ _ (by decide), e _ _ _ (by decide), e _ _ _ (by decide), e _ _ _ (by decide), e _ _ _ (by decide)]
    rfl
section CONM
variable {p : Program} {l : Launch} {e : Env} {R : Room} {s : State} {m : MethodId} {args : Array Value} {below : List Frame} {meth : Method} {c : Code} {H : Heap} {locs : List Loc} {cells slots : Nat} {Q : State → Prop}
variable {cc : ByteArray} {pc nL : Nat} {ls : Array Slot} {rest : List Value} {A : Nat → Prop} {own : String} {ad ad0 : Nat → Nat → Nat} {K : Kc} {base : Nat} {D : va_G} {sc : Nat × (Nat → Int32)} {ks : List (Nat × Nat)}
theorem c_istW (F : cFr p c cc nL meth m s args own ad0 K base D sc) {σ : Mem} (hcl : hwCl ks) {t n k0 k : Nat} (hk : ks[k0]? = some (t, 0)) (hsh : hwSh t = (1, n, 0, [])) {i x : Int32} (hin : vp_in i n) (hi : i.toNatClampNeg = k) (hP : va_P D vwCl (hwW ad K ks σ) H) (hD : va_D A (hwW ad K ks σ)) (hS : va_S A s.heap H locs) (hdg : decode cc pc = .ok (.iastore, 1))
    (kk : ∀ (H : Heap) (locs : List Loc), va_P D vwCl (hwW ad K ks (σ.1, σ.2.1, hwU3 σ.2.2.1 t 0 k x, σ.2.2.2.1, σ.2.2.2.2)) H → va_D A (hwW ad K ks (σ.1, σ.2.1, hwU3 σ.2.2.1 t 0 k x, σ.2.2.2.1, σ.2.2.2.2)) → va_S A s.heap H locs → W p l e R s m args below meth c H locs cells slots Q (F0 m (pc + 1) ls rest)) : W p l e R s m args below meth c H locs cells slots Q (F0 m pc ls (.int x :: .int i :: .ref (ad t 0) :: rest)) := by
  obtain ⟨hx, hb, -⟩ := id F
  subst hi
  have hco : ∀ τ : Mem, hwCo ad K τ (t, 0) = .inl (K.1, n, .inl (τ.2.2.1 t 0)) := fun τ => by simp only [hwCo, hsh]
  have ha : (hwW ad K ks σ)[k0]? = some (ad t 0, .inl (K.1, n, .inl (σ.2.2.1 t 0))) := by
    rw [← hco]
    unfold hwW
    rw [List.getElem?_map, hk]
    rfl
  refine va_iast hx hb F.cls hP hD hS k0 0 ha rfl hin hdg (fun H1 locs1 hP1 hD1 hS1 => ?_)
  have e : (hwW ad K ks σ).set k0 (ad t 0, .inl (K.1, n, .inl (upd (σ.2.2.1 t 0) i.toNatClampNeg x))) = hwW ad K ks (σ.1, σ.2.1, hwU3 σ.2.2.1 t 0 i.toNatClampNeg x, σ.2.2.2.1, σ.2.2.2.2) := by
    have := hwW_set (ad := ad) (K := K) (σ := σ) (σ' := (σ.1, σ.2.1, hwU3 σ.2.2.1 t 0 i.toNatClampNeg x, σ.2.2.2.1, σ.2.2.2.2)) hcl.2 hk (fun q' hq' hne => hwCo_congr (fun _ => rfl) (fun _ => rfl) (by
      show hwU3 σ.2.2.1 t 0 i.toNatClampNeg x q'.1 q'.2 = σ.2.2.1 q'.1 q'.2
      by_cases e1 : q'.1 = t
      · by_cases e2 : q'.2 = 0
        · exact absurd (Prod.ext e1 e2) hne
        · rw [e1, hwU3_r e2]
      · rw [hwU3_t e1]) rfl)
    rw [hco] at this
    rw [← this]
    show _ = (hwW ad K ks σ).set k0 (ad t 0, .inl (K.1, n, .inl (hwU3 σ.2.2.1 t 0 i.toNatClampNeg x t 0)))
    rw [u3_row]
  rw [e] at hP1 hD1
  exact kk H1 locs1 hP1 hD1 hS1
end CONM
def BX12 (ad0 : Nat → Nat → Nat) (K : Kc) (D : va_G) (sc : Nat × (Nat → Int32)) (h0 : Nat) (A : Nat → Prop) (ad : Nat → Nat → Nat) (t : State) : Prop := ((∀ t, 200 ≤ t → ad t = ad0 t) ∧ ad 12 0 = h0) ∧ va_P D vwCl (hwW ad K ksM (mI sc)) t.heap ∧ va_D A (hwW ad K ksM (mI sc))
def WX12 (K : Kc) (h0 : Nat) (u : Nat → Nat) : va_W := (h0, .inr (12, [.int (4 : Int32), .int (200 : Int32), .int 0, .int (300 : Int32), .int (20 : Int32), .int 0, .ref (u 0), .ref (u 1), .ref (u 2), .ref (u 3), .int 0, .ref (u 4), .ref (u 5), .ref (u 6), .ref (u 7), .ref (u 8), .int 0, .ref (u 9), .ref (u 10), .ref (u 11), .int 0, .ref (u 12), .ref (u 13), .ref (u 14), .int 0, .ref (u 15), .ref (u 16), .int (1 : Int32), .int 0, .int 0, .int 0, .int 0, .ref (u 17), .ref (u 18), .int 0, .ref (u 19), .ref (u 20), .ref (u 21), .ref (u 22), .ref (u 23), .ref (u 24), .ref (u 25), .int 0, .int 0, .int 0, .int 0, .ref (u 26), .ref (u 27), .int 0, .int 0, .int 0, .ref (u 28), .ref (u 29), .ref (u 30), .ref (u 31), .long 0, .long 0, .long 0, .long 0, .int 0, .int 0, .long 0])) :: [(u 0, .inl (K.1, 5, .inl (fun _ => 0))), (u 1, .inl (K.1, 5, .inl (fun _ => 0))), (u 2, .inl (K.1, 5, .inl (fun _ => 0))), (u 3, .inl (K.1, 25, .inl (fun _ => 0))), (u 4, .inl (K.1, 20, .inl (fun _ => 0))), (u 5, .inl (K.1, 4, .inl (fun _ => 0))), (u 6, .inl (K.1, 4, .inl (fun _ => 0))), (u 7, .inl (K.1, 20, .inl (fun _ => 0))), (u 8, .inl (K.1, 16, .inl (fun _ => 0))), (u 9, .inl (K.1, 8, .inl (fun _ => 0))), (u 10, .inl (K.1, 8, .inl (fun _ => 0))), (u 11, .inl (K.1, 8, .inl (fun _ => 0))), (u 12, .inl (K.1, 6, .inl (fun _ => 0))), (u 13, .inl (K.1, 6, .inl (fun _ => 0))), (u 14, .inl (K.1, 160, .inl (fun _ => 0))), (u 15, .inl (K.1, 1200, .inl (fun _ => 0))), (u 16, .inl (K.1, 24, .inl (fun _ => 0))), (u 17, .inl (K.1, 5, .inl (fun _ => 0))), (u 18, .inl (K.1, 25, .inl (fun _ => 0))), (u 19, .inl (K.1, 4, .inl (fun _ => 0))), (u 20, .inl (K.1, 4, .inl (fun _ => 0))), (u 21, .inl (K.1, 20, .inl (fun _ => 0))), (u 22, .inl (K.1, 16, .inl (fun _ => 0))), (u 23, .inl (K.1, 4, .inl (mIa 95))), (u 24, .inl (K.1, 4, .inl (fun _ => 0))), (u 25, .inl (K.1, 160, .inl (fun _ => 0))), (u 26, .inl (K.2.1, 12, .inr (.inl mIl))), (u 27, .inl (K.1, 200, .inl (fun _ => 0))), (u 28, .inl (K.1, 200, .inl (fun _ => 0))), (u 29, .inl (K.1, 6, .inl (fun _ => 0))), (u 30, .inl (K.2.1, 40, .inr (.inl (fun _ => 0)))), (u 31, .inl (K.2.1, 40, .inr (.inl (fun _ => 0))))]
set_option maxHeartbeats 4000000 in
set_option maxRecDepth 20000 in
theorem wM_eq (ad0 : Nat → Nat → Nat) (K : Kc) (sc : Nat × (Nat → Int32)) (h0 : Nat) (u : Nat → Nat) : WX12 K h0 u = hwW (adM ad0 h0 u) K ksM (mB sc) := by
  have a12 : adM ad0 h0 u 12 0 = h0 := rfl
  have a72 : adM ad0 h0 u 72 0 = u 0 := rfl
  have a73 : adM ad0 h0 u 73 0 = u 1 := rfl
  have a74 : adM ad0 h0 u 74 0 = u 2 := rfl
  have a75 : adM ad0 h0 u 75 0 = u 3 := rfl
  have a76 : adM ad0 h0 u 76 0 = u 4 := rfl
  have a77 : adM ad0 h0 u 77 0 = u 5 := rfl
  have a78 : adM ad0 h0 u 78 0 = u 6 := rfl
  have a79 : adM ad0 h0 u 79 0 = u 7 := rfl
  have a80 : adM ad0 h0 u 80 0 = u 8 := rfl
  have a81 : adM ad0 h0 u 81 0 = u 9 := rfl
  have a82 : adM ad0 h0 u 82 0 = u 10 := rfl
  have a83 : adM ad0 h0 u 83 0 = u 11 := rfl
  have a84 : adM ad0 h0 u 84 0 = u 12 := rfl
  have a85 : adM ad0 h0 u 85 0 = u 13 := rfl
  have a86 : adM ad0 h0 u 86 0 = u 14 := rfl
  have a87 : adM ad0 h0 u 87 0 = u 15 := rfl
  have a88 : adM ad0 h0 u 88 0 = u 16 := rfl
  have a89 : adM ad0 h0 u 89 0 = u 17 := rfl
  have a90 : adM ad0 h0 u 90 0 = u 18 := rfl
  have a91 : adM ad0 h0 u 91 0 = u 19 := rfl
  have a92 : adM ad0 h0 u 92 0 = u 20 := rfl
  have a93 : adM ad0 h0 u 93 0 = u 21 := rfl
  have a94 : adM ad0 h0 u 94 0 = u 22 := rfl
  have a95 : adM ad0 h0 u 95 0 = u 23 := rfl
  have a96 : adM ad0 h0 u 96 0 = u 24 := rfl
  have a97 : adM ad0 h0 u 97 0 = u 25 := rfl
  have a98 : adM ad0 h0 u 98 0 = u 26 := rfl
  have a99 : adM ad0 h0 u 99 0 = u 27 := rfl
  have a100 : adM ad0 h0 u 100 0 = u 28 := rfl
  have a101 : adM ad0 h0 u 101 0 = u 29 := rfl
  have a102 : adM ad0 h0 u 102 0 = u 30 := rfl
  have a103 : adM ad0 h0 u 103 0 = u 31 := rfl
  generalize adM ad0 h0 u = ad at *
  have eO : hwCo ad K (mB sc) (12, 0) = .inr (12, [.int (4 : Int32), .int (200 : Int32), .int 0, .int (300 : Int32), .int (20 : Int32), .int 0, .ref (ad 72 0), .ref (ad 73 0), .ref (ad 74 0), .ref (ad 75 0), .int 0, .ref (ad 76 0), .ref (ad 77 0), .ref (ad 78 0), .ref (ad 79 0), .ref (ad 80 0), .int 0, .ref (ad 81 0), .ref (ad 82 0), .ref (ad 83 0), .int 0, .ref (ad 84 0), .ref (ad 85 0), .ref (ad 86 0), .int 0, .ref (ad 87 0), .ref (ad 88 0), .int (1 : Int32), .int 0, .int 0, .int 0, .int 0, .ref (ad 89 0), .ref (ad 90 0), .int 0, .ref (ad 91 0), .ref (ad 92 0), .ref (ad 93 0), .ref (ad 94 0), .ref (ad 95 0), .ref (ad 96 0), .ref (ad 97 0), .int 0, .int 0, .int 0, .int 0, .ref (ad 98 0), .ref (ad 99 0), .int 0, .int 0, .int 0, .ref (ad 100 0), .ref (ad 101 0), .ref (ad 102 0), .ref (ad 103 0), .long 0, .long 0, .long 0, .long 0, .int 0, .int 0, .long 0]) := rfl
  have c72 : hwCo ad K (mB sc) (72, 0) = .inl (K.1, 5, .inl (fun _ => 0)) := rfl
  have c73 : hwCo ad K (mB sc) (73, 0) = .inl (K.1, 5, .inl (fun _ => 0)) := rfl
  have c74 : hwCo ad K (mB sc) (74, 0) = .inl (K.1, 5, .inl (fun _ => 0)) := rfl
  have c75 : hwCo ad K (mB sc) (75, 0) = .inl (K.1, 25, .inl (fun _ => 0)) := rfl
  have c76 : hwCo ad K (mB sc) (76, 0) = .inl (K.1, 20, .inl (fun _ => 0)) := rfl
  have c77 : hwCo ad K (mB sc) (77, 0) = .inl (K.1, 4, .inl (fun _ => 0)) := rfl
  have c78 : hwCo ad K (mB sc) (78, 0) = .inl (K.1, 4, .inl (fun _ => 0)) := rfl
  have c79 : hwCo ad K (mB sc) (79, 0) = .inl (K.1, 20, .inl (fun _ => 0)) := rfl
  have c80 : hwCo ad K (mB sc) (80, 0) = .inl (K.1, 16, .inl (fun _ => 0)) := rfl
  have c81 : hwCo ad K (mB sc) (81, 0) = .inl (K.1, 8, .inl (fun _ => 0)) := rfl
  have c82 : hwCo ad K (mB sc) (82, 0) = .inl (K.1, 8, .inl (fun _ => 0)) := rfl
  have c83 : hwCo ad K (mB sc) (83, 0) = .inl (K.1, 8, .inl (fun _ => 0)) := rfl
  have c84 : hwCo ad K (mB sc) (84, 0) = .inl (K.1, 6, .inl (fun _ => 0)) := rfl
  have c85 : hwCo ad K (mB sc) (85, 0) = .inl (K.1, 6, .inl (fun _ => 0)) := rfl
  have c86 : hwCo ad K (mB sc) (86, 0) = .inl (K.1, 160, .inl (fun _ => 0)) := rfl
  have c87 : hwCo ad K (mB sc) (87, 0) = .inl (K.1, 1200, .inl (fun _ => 0)) := rfl
  have c88 : hwCo ad K (mB sc) (88, 0) = .inl (K.1, 24, .inl (fun _ => 0)) := rfl
  have c89 : hwCo ad K (mB sc) (89, 0) = .inl (K.1, 5, .inl (fun _ => 0)) := rfl
  have c90 : hwCo ad K (mB sc) (90, 0) = .inl (K.1, 25, .inl (fun _ => 0)) := rfl
  have c91 : hwCo ad K (mB sc) (91, 0) = .inl (K.1, 4, .inl (fun _ => 0)) := rfl
  have c92 : hwCo ad K (mB sc) (92, 0) = .inl (K.1, 4, .inl (fun _ => 0)) := rfl
  have c93 : hwCo ad K (mB sc) (93, 0) = .inl (K.1, 20, .inl (fun _ => 0)) := rfl
  have c94 : hwCo ad K (mB sc) (94, 0) = .inl (K.1, 16, .inl (fun _ => 0)) := rfl
  have c95 : hwCo ad K (mB sc) (95, 0) = .inl (K.1, 4, .inl (mIa 95)) := rfl
  have c96 : hwCo ad K (mB sc) (96, 0) = .inl (K.1, 4, .inl (fun _ => 0)) := rfl
  have c97 : hwCo ad K (mB sc) (97, 0) = .inl (K.1, 160, .inl (fun _ => 0)) := rfl
  have c98 : hwCo ad K (mB sc) (98, 0) = .inl (K.2.1, 12, .inr (.inl mIl)) := rfl
  have c99 : hwCo ad K (mB sc) (99, 0) = .inl (K.1, 200, .inl (fun _ => 0)) := rfl
  have c100 : hwCo ad K (mB sc) (100, 0) = .inl (K.1, 200, .inl (fun _ => 0)) := rfl
  have c101 : hwCo ad K (mB sc) (101, 0) = .inl (K.1, 6, .inl (fun _ => 0)) := rfl
  have c102 : hwCo ad K (mB sc) (102, 0) = .inl (K.2.1, 40, .inr (.inl (fun _ => 0))) := rfl
  have c103 : hwCo ad K (mB sc) (103, 0) = .inl (K.2.1, 40, .inr (.inl (fun _ => 0))) := rfl
  unfold hwW ksM
  simp only [List.map_cons, List.map_nil]
  rw [eO, c72, c73, c74, c75, c76, c77, c78, c79, c80, c81, c82, c83, c84, c85, c86, c87, c88, c89, c90, c91, c92, c93, c94, c95, c96, c97, c98, c99, c100, c101, c102, c103]
  rw [a12, a72, a73, a74, a75, a76, a77, a78, a79, a80, a81, a82, a83, a84, a85, a86, a87, a88, a89, a90, a91, a92, a93, a94, a95, a96, a97, a98, a99, a100, a101, a102, a103]
  rfl

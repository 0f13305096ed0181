/-! THE PURE SIDE, 10: bounds: parts are of one whole -/
theorem i64_add {x y : Int64} (h1 : -9223372036854775808 ≤ x.toInt + y.toInt) (h2 : x.toInt + y.toInt < 9223372036854775808) : (x + y).toInt = x.toInt + y.toInt := by
  rw [Int64.toInt_add]; exact Int.bmod_eq_of_le (by omega) (by omega)
theorem i64_sub {x y : Int64} (h1 : -9223372036854775808 ≤ x.toInt - y.toInt) (h2 : x.toInt - y.toInt < 9223372036854775808) : (x - y).toInt = x.toInt - y.toInt := by
  rw [Int64.toInt_sub]; exact Int.bmod_eq_of_le (by omega) (by omega)
theorem i64_mul {x y : Int64} (h1 : -9223372036854775808 ≤ x.toInt * y.toInt) (h2 : x.toInt * y.toInt < 9223372036854775808) : (x * y).toInt = x.toInt * y.toInt := by
  rw [Int64.toInt_mul]; exact Int.bmod_eq_of_le (by omega) (by omega)
theorem i32_add {x y : Int32} (h1 : -2147483648 ≤ x.toInt + y.toInt) (h2 : x.toInt + y.toInt < 2147483648) : (x + y).toInt = x.toInt + y.toInt := by
  rw [Int32.toInt_add]; exact Int.bmod_eq_of_le (by omega) (by omega)
theorem i32_sub {x y : Int32} (h1 : -2147483648 ≤ x.toInt - y.toInt) (h2 : x.toInt - y.toInt < 2147483648) : (x - y).toInt = x.toInt - y.toInt := by
  rw [Int32.toInt_sub]; exact Int.bmod_eq_of_le (by omega) (by omega)
theorem i64_of_i32 (x : Int32) : x.toInt64.toInt = x.toInt := Int32.toInt_toInt64 x
theorem i32_nonneg {x : Int32} : 0 ≤ x ↔ 0 ≤ x.toInt := by rw [Int32.le_iff_toInt_le, show (0 : Int32).toInt = 0 from by decide]
theorem i32_div {x y : Int32} (hx : 0 ≤ x.toInt) (hy : 0 < y.toInt) : (x / y).toInt = x.toInt / y.toInt := by
  have a := x.toInt_lt
  have h := Int.ediv_le_self y.toInt hx
  have h0 := Int.ediv_nonneg hx (Int.le_of_lt hy)
  rw [Int32.toInt_div, Int.tdiv_eq_ediv_of_nonneg hx]
  exact Int.bmod_eq_of_le (by omega) (by omega)
def iS (f : Nat → Int) : Nat → Int
  | 0 => 0
  | n + 1 => iS f n + f n
theorem iS_le {f f' : Nat → Int} : ∀ n : Nat, (∀ j, j < n → f j ≤ f' j) → iS f n ≤ iS f' n
  | 0, _ => Int.le_refl _
  | n + 1, h => Int.add_le_add (iS_le n (fun j hj => h j (Nat.lt_succ_of_lt hj))) (h n (Nat.lt_succ_self n))
theorem iS_congr {f f' : Nat → Int} : ∀ n : Nat, (∀ j, j < n → f j = f' j) → iS f n = iS f' n
  | 0, _ => rfl
  | n + 1, h => by rw [iS, iS, iS_congr n (fun j hj => h j (Nat.lt_succ_of_lt hj)), h n (Nat.lt_succ_self n)]
theorem iS_zero : ∀ n : Nat, iS (fun _ => 0) n = 0
  | 0 => rfl
  | n + 1 => by rw [iS, iS_zero n]; rfl
theorem iS_nn {f : Nat → Int} {n : Nat} (h : ∀ j, j < n → 0 ≤ f j) : 0 ≤ iS f n := by
  have := iS_le (f := fun _ => 0) n h
  rw [iS_zero] at this
  exact this
theorem iS_get {f : Nat → Int} : ∀ (n j : Nat), (∀ j, j < n → 0 ≤ f j) → j < n → f j ≤ iS f n
  | 0, _, _, h => by cases h
  | n + 1, j, h, hj => by
    have h0 := iS_nn (f := f) (n := n) (fun j hj => h j (Nat.lt_succ_of_lt hj))
    have h1 := h n (Nat.lt_succ_self n)
    rw [iS]
    by_cases e : j = n
    · rw [e]; omega
    · have := iS_get n j (fun j hj => h j (Nat.lt_succ_of_lt hj)) (by omega)
      omega
theorem iS_mono {f : Nat → Int} {m : Nat} : ∀ (n : Nat), m ≤ n → (∀ j, j < n → 0 ≤ f j) → iS f m ≤ iS f n
  | 0, hm, _ => by rw [Nat.le_zero.mp hm]; exact Int.le_refl _
  | n + 1, hm, h => by
    by_cases e : m = n + 1
    · rw [e]; exact Int.le_refl _
    · have a := iS_mono (f := f) (m := m) n (by omega) (fun j hj => h j (Nat.lt_succ_of_lt hj))
      have b := h n (Nat.lt_succ_self n)
      rw [iS]; omega
theorem iS_add {f f' : Nat → Int} : ∀ n : Nat, iS (fun j => f j + f' j) n = iS f n + iS f' n
  | 0 => rfl
  | n + 1 => by rw [iS, iS, iS, iS_add n]; omega
theorem iS_swap {F : Nat → Nat → Int} (m : Nat) : ∀ n : Nat, iS (fun j => iS (fun i => F i j) n) m = iS (fun i => iS (fun j => F i j) m) n
  | 0 => iS_zero m
  | n + 1 => by
    rw [iS, ← iS_swap m n, ← iS_add]
    rfl
theorem iS_one {v : Int} {i : Nat} : ∀ n : Nat, iS (fun j => if i = j then v else 0) n = if i < n then v else 0
  | 0 => by rw [if_neg (Nat.not_lt_zero i)]; rfl
  | n + 1 => by
    rw [iS, iS_one n]
    by_cases h : i < n
    · rw [if_pos h, if_neg (by omega), if_pos (by omega)]; omega
    · rw [if_neg h]
      by_cases e : i = n
      · rw [if_pos e, if_pos (by omega)]; omega
      · rw [if_neg e, if_neg (by omega)]; rfl
/-- parts by quotients that are cut come to no more -/
theorem iS_quo {f : Nat → Int} {c M : Int} (hM : 0 < M) : ∀ n : Nat, M * iS (fun j => c * f j / M) n ≤ c * iS f n
  | 0 => by rw [iS, iS]; omega
  | n + 1 => by
    have a := iS_quo (f := f) (c := c) hM n
    have b : M * (c * f n / M) ≤ c * f n := Int.mul_ediv_self_le (by omega)
    rw [iS, iS, Int.mul_add, Int.mul_add]
    exact Int.add_le_add a b
theorem iS_quo1 {f : Nat → Int} {c M : Int} {n : Nat} (hM : 0 < M) (h : iS f n ≤ M) (hc : 0 ≤ c) : iS (fun j => c * f j / M) n ≤ c := by
  have a := iS_quo (f := f) (c := c) hM n
  have b : c * iS f n ≤ c * M := Int.mul_le_mul_of_nonneg_left h hc
  rw [Int.mul_comm c M] at b
  exact Int.le_of_mul_le_mul_left (Int.le_trans a b) hM
theorem hzS_int {f : Nat → Int64} {B : Int} : ∀ n : Nat, (∀ j, j < n → 0 ≤ (f j).toInt) → iS (fun j => (f j).toInt) n ≤ B → B < 9000000000000000000 → (hzS f n).toInt = iS (fun j => (f j).toInt) n
  | 0, _, _, _ => by rw [hzS, iS]; rfl
  | n + 1, h, hB, hb => by
    have h0 := iS_nn (f := fun j => (f j).toInt) (n := n) (fun j hj => h j (Nat.lt_succ_of_lt hj))
    have h1 := h n (Nat.lt_succ_self n)
    rw [iS] at hB
    have a := hzS_int (f := f) (B := B) n (fun j hj => h j (Nat.lt_succ_of_lt hj)) (by omega) hb
    rw [hzS, iS, ← a]
    rw [← a] at hB h0
    exact i64_add (by omega) (by omega)
theorem hzJ_int {f : Nat → Int32} {B : Int} : ∀ n : Nat, (∀ j, j < n → 0 ≤ (f j).toInt) → iS (fun j => (f j).toInt) n ≤ B → B < 2000000000 → (hzJ f n).toInt = iS (fun j => (f j).toInt) n
  | 0, _, _, _ => by rw [hzJ, iS]; rfl
  | n + 1, h, hB, hb => by
    have h0 := iS_nn (f := fun j => (f j).toInt) (n := n) (fun j hj => h j (Nat.lt_succ_of_lt hj))
    have h1 := h n (Nat.lt_succ_self n)
    rw [iS] at hB
    have a := hzJ_int (f := f) (B := B) n (fun j hj => h j (Nat.lt_succ_of_lt hj)) (by omega) hb
    rw [hzJ, iS, ← a]
    rw [← a] at hB h0
    exact i32_add (by omega) (by omega)
theorem i_mul_le {a b A B : Int} (ha : 0 ≤ a) (hA : a ≤ A) (hb : 0 ≤ b) (hB : b ≤ B) : 0 ≤ a * b ∧ a * b ≤ A * B :=
  ⟨Int.mul_nonneg ha hb, Int.mul_le_mul hA hB hb (Int.le_trans ha hA)⟩
theorem q_mul {x y : Int64} {A B : Int} (ha : 0 ≤ x.toInt) (hA : x.toInt ≤ A) (hb : 0 ≤ y.toInt) (hB : y.toInt ≤ B) (h : A * B < 9000000000000000000) : (x * y).toInt = x.toInt * y.toInt := by
  obtain ⟨h1, h2⟩ := i_mul_le ha hA hb hB
  exact i64_mul (by omega) (by omega)
theorem q_div {x y : Int64} (hx : 0 ≤ x.toInt) (hy : 0 < y.toInt) : (x / y).toInt = x.toInt / y.toInt := by
  have a := x.toInt_lt
  have h := Int.ediv_le_self y.toInt hx
  have h0 := Int.ediv_nonneg hx (Int.le_of_lt hy)
  rw [Int64.toInt_div, Int.tdiv_eq_ediv_of_nonneg hx]
  exact Int.bmod_eq_of_le (by omega) (by omega)
theorem c_100 : (100 : Int64).toInt = 100 := by decide
theorem c_M : (1000000 : Int64).toInt = 1000000 := by decide
theorem c_0 : (0 : Int64).toInt = 0 := by decide
theorem isN.int {x : Int32} {m : Nat} (h : isN x m) (hm : m < 2 ^ 31) : 0 ≤ x.toInt ∧ x.toInt ≤ m := by
  obtain ⟨k, hk, rfl⟩ := h.ex
  rw [nI_toInt (by omega)]
  omega
theorem sClamp_int {most v : Int32} (h : 0 ≤ most.toInt) : 0 ≤ (sClamp most v).toInt ∧ (sClamp most v).toInt ≤ most.toInt := by
  unfold sClamp
  split
  · rename_i h0
    have h0 := i32_nonneg.mp h0
    split
    · rename_i h1
      exact ⟨h0, Int32.le_iff_toInt_le.mp h1⟩
    · exact ⟨h, Int.le_refl _⟩
  · exact ⟨by decide, h⟩
theorem sWat_int (g : Nat → Nat → Int32) (y j : Nat) : 0 ≤ (sWat g y j).toInt64.toInt ∧ (sWat g y j).toInt64.toInt ≤ 100 := by
  rw [i64_of_i32]
  exact sClamp_int (by decide)
theorem sCost_int (g : Nat → Nat → Int32) (y : Nat) : 0 ≤ (sCost g y).toInt ∧ (sCost g y).toInt ≤ 999 := sClamp_int (by decide)
theorem sFall_int (g : Nat → Nat → Int32) (b y : Nat) : 0 ≤ (sFall g b y).toInt ∧ (sFall g b y).toInt ≤ 100 := sClamp_int (by decide)
/-- parts of one whole -/
def Bd (g : Nat → Nat → Int32) (th : Nat → Int64) : Prop := (∀ j, j < sL g → 0 ≤ (th j).toInt) ∧ iS (fun j => (th j).toInt) (sL g) ≤ 1000000
theorem Bd.le {g : Nat → Nat → Int32} {th : Nat → Int64} (h : Bd g th) {j : Nat} (hj : j < sL g) : (th j).toInt ≤ 1000000 := Int.le_trans (iS_get (sL g) j h.1 hj) h.2
theorem sWet_int {g : Nat → Nat → Int32} {th : Nat → Int64} (h : Bd g th) (y : Nat) {j : Nat} (hj : j < sL g) : 0 ≤ (sWet g y th j).toInt ∧ (sWet g y th j).toInt ≤ (th j).toInt := by
  have h1 := h.1 j hj
  have h2 := h.le hj
  obtain ⟨h3, h4⟩ := sWat_int g y j
  obtain ⟨h5, -⟩ := i_mul_le h1 h2 h3 h4
  have h6 : (th j).toInt * (sWat g y j).toInt64.toInt ≤ (th j).toInt * 100 := Int.mul_le_mul_of_nonneg_left h4 h1
  have e := q_mul h1 h2 h3 h4 (by omega)
  unfold sWet
  rw [q_div (by rw [e]; exact h5) (by decide), e, c_100]
  generalize (th j).toInt * (sWat g y j).toInt64.toInt = m at h5 h6
  omega
theorem sDry_int {g : Nat → Nat → Int32} {th : Nat → Int64} (h : Bd g th) (y : Nat) (s : Int32) {j : Nat} (hj : j < sL g) : 0 ≤ (sDry g y s th j).toInt ∧ (sDry g y s th j).toInt ≤ (th j).toInt := by
  have h1 := h.1 j hj
  have h2 := h.le hj
  obtain ⟨h3, h4⟩ := sWet_int h y hj
  unfold sDry
  split
  · show 0 ≤ (th j - sWet g y th j).toInt ∧ (th j - sWet g y th j).toInt ≤ _
    rw [i64_sub (by omega) (by omega)]
    omega
  · exact ⟨by decide, h1⟩
theorem sMuch_int {g : Nat → Nat → Int32} {th : Nat → Int64} (h : Bd g th) (y : Nat) (s : Int32) : (sMuch g y s th).toInt = iS (fun j => (sDry g y s th j).toInt) (sL g) ∧ 0 ≤ (sMuch g y s th).toInt ∧ (sMuch g y s th).toInt ≤ 1000000 := by
  have a : iS (fun j => (sDry g y s th j).toInt) (sL g) ≤ 1000000 := Int.le_trans (iS_le _ fun j hj => (sDry_int h y s hj).2) h.2
  have b : 0 ≤ iS (fun j => (sDry g y s th j).toInt) (sL g) := iS_nn fun j hj => (sDry_int h y s hj).1
  have e : (sMuch g y s th).toInt = iS (fun j => (sDry g y s th j).toInt) (sL g) := hzS_int (sL g) (fun j hj => (sDry_int h y s hj).1) a (by decide)
  rw [e]
  exact ⟨rfl, b, a⟩
theorem sMuch_nn {g : Nat → Nat → Int32} {th : Nat → Int64} (h : Bd g th) (y : Nat) (s : Int32) : ¬ sMuch g y s th < 0 := fun q => by
  have a := Int64.lt_iff_toInt_lt.mp q
  have b := (sMuch_int h y s).2.1
  rw [c_0] at a
  omega
/-- above 0 or 0 -/
theorem sMuch_z {g : Nat → Nat → Int32} {th : Nat → Int64} (h : Bd g th) (y : Nat) (s : Int32) : (¬ 0 < sMuch g y s th) ↔ sMuch g y s th = 0 := by
  have b := (sMuch_int h y s).2.1
  constructor
  · intro q
    have a : ¬ (0 : Int64).toInt < (sMuch g y s th).toInt := fun z => q (Int64.lt_iff_toInt_lt.mpr z)
    rw [c_0] at a
    exact Int64.toInt_inj.mp (by rw [c_0]; omega)
  · intro q z
    rw [q] at z
    exact absurd z (by decide)
theorem sMade_int {g : Nat → Nat → Int32} {th : Nat → Int64} (h : Bd g th) (y : Nat) (s : Int32) (hm : 0 < sMuch g y s th) : Bd g (sMade g y s th) := by
  obtain ⟨e, h1, h2⟩ := sMuch_int h y s
  have hm := Int64.lt_iff_toInt_lt.mp hm
  rw [c_0] at hm
  have ev : ∀ j, j < sL g → (sMade g y s th j).toInt = 1000000 * (sDry g y s th j).toInt / (sMuch g y s th).toInt ∧ 0 ≤ 1000000 * (sDry g y s th j).toInt := by
    intro j hj
    obtain ⟨a, b⟩ := sDry_int h y s hj
    have c := h.le hj
    have e1 : (sDry g y s th j * 1000000).toInt = (sDry g y s th j).toInt * 1000000 := by
      rw [q_mul a (Int.le_trans b c) (by decide) (Int.le_refl _) (by decide), c_M]
    unfold sMade
    rw [q_div (by rw [e1]; omega) hm, e1, Int.mul_comm]
    omega
  refine ⟨fun j hj => ?_, ?_⟩
  · rw [(ev j hj).1]
    exact Int.ediv_nonneg (ev j hj).2 (by omega)
  · rw [iS_congr (sL g) (fun j hj => (ev j hj).1)]
    exact iS_quo1 hm (by rw [e]; exact Int.le_refl _) (by decide)
theorem sSk_int {g : Nat → Nat → Int32} (hw : Wf g) {d : Nat → Int64} (h : Bd g d) {i : Nat} (hi : i < sL g) : (∀ j, j < sL g → 0 ≤ (sSk g d i j).toInt) ∧ iS (fun j => (sSk g d i j).toInt) (sL g) ≤ (d i).toInt := by
  have hL := sL_le hw
  have h1 := h.1 i hi
  have h2 := h.le hi
  have hf : ∀ j, j < sL g → 0 ≤ (g 75 (5 * i + j)).toInt ∧ (g 75 (5 * i + j)).toInt ≤ 9 := fun j hj => (hw.fo (5 * i + j) (by omega)).int (by decide)
  unfold sSk
  by_cases hz : sAllB g i = 0
  · simp only [if_pos hz]
    refine ⟨fun j hj => ?_, ?_⟩
    · split
      · exact h1
      · decide
    · rw [iS_congr (f' := fun j => if i = j then (d i).toInt else 0) (sL g) (fun j hj => by split <;> rfl), iS_one, if_pos hi]
      exact Int.le_refl _
  · simp only [if_neg hz]
    obtain ⟨s, hs, es, hsj⟩ := sAllB_nI hw (show i < 5 by omega)
    have hs0 : 0 < s := Nat.pos_of_ne_zero fun q => hz (by rw [es, q]; rfl)
    have ei : (sAllB g i).toInt = iS (fun j => (g 75 (5 * i + j)).toInt) (sL g) := by
      have hB : iS (fun j => (g 75 (5 * i + j)).toInt) (sL g) ≤ iS (fun _ => 9) 5 := Int.le_trans (iS_le (f' := fun _ => 9) (sL g) fun j hj => (hf j hj).2) (iS_mono (f := fun _ => 9) 5 hL (fun _ _ => by decide))
      exact hzJ_int (sL g) (fun j hj => (hf j hj).1) hB (by decide)
    have ea : (sAllB g i).toInt64.toInt = (s : Int) := by rw [i64_of_i32, es, nI_toInt (by omega)]
    have ev : ∀ j, j < sL g → (d i * (g 75 (5 * i + j)).toInt64 / (sAllB g i).toInt64).toInt = (d i).toInt * (g 75 (5 * i + j)).toInt / s ∧ 0 ≤ (d i).toInt * (g 75 (5 * i + j)).toInt := by
      intro j hj
      obtain ⟨a, b⟩ := hf j hj
      obtain ⟨c, -⟩ := i_mul_le h1 h2 a b
      have e1 : (d i * (g 75 (5 * i + j)).toInt64).toInt = (d i).toInt * (g 75 (5 * i + j)).toInt := by
        rw [q_mul h1 h2 (by rw [i64_of_i32]; exact a) (by rw [i64_of_i32]; exact b) (by decide), i64_of_i32]
      rw [q_div (by rw [e1]; exact c) (by rw [ea]; omega), e1, ea]
      exact ⟨rfl, c⟩
    refine ⟨fun j hj => ?_, ?_⟩
    · rw [(ev j hj).1]
      exact Int.ediv_nonneg (ev j hj).2 (by omega)
    · rw [iS_congr (sL g) (fun j hj => (ev j hj).1)]
      refine iS_quo1 (by omega) ?_ h1
      rw [← ei, es, nI_toInt (by omega)]
      exact Int.le_refl _
theorem sSink_int {g : Nat → Nat → Int32} (hw : Wf g) {d : Nat → Int64} (h : Bd g d) : Bd g (sSink g d) := by
  have hS : iS (fun j => iS (fun i => (sSk g d i j).toInt) (sL g)) (sL g) ≤ 1000000 := by
    rw [iS_swap]
    exact Int.le_trans (iS_le (sL g) fun i hi => (sSk_int hw h hi).2) h.2
  have hn : ∀ j, j < sL g → 0 ≤ iS (fun i => (sSk g d i j).toInt) (sL g) := fun j hj => iS_nn fun i hi => (sSk_int hw h hi).1 j hj
  have ev : ∀ j, j < sL g → (sSink g d j).toInt = iS (fun i => (sSk g d i j).toInt) (sL g) := fun j hj => by
    refine hzS_int (B := 1000000) (sL g) (fun i hi => (sSk_int hw h hi).1 j hj) ?_ (by decide)
    exact Int.le_trans (iS_get (f := fun j => iS (fun i => (sSk g d i j).toInt) (sL g)) (sL g) j hn hj) hS
  refine ⟨fun j hj => ?_, ?_⟩
  · rw [ev j hj]; exact hn j hj
  · rw [iS_congr (sL g) ev]; exact hS
theorem sNext_int {g : Nat → Nat → Int32} (hw : Wf g) {th : Nat → Int64} (h : Bd g th) (y : Nat) (s : Int32) (hm : 0 < sMuch g y s th) : Bd g (sNext g y s th) := sSink_int hw (sMade_int h y s hm)
theorem sFirst_int {g : Nat → Nat → Int32} (hw : Wf g) {p : Nat} (hp : p < 4) (hL0 : 0 < sL g) : Bd g (sFirst g p) := by
  have hL := sL_le hw
  unfold sFirst
  by_cases hz : sAllF g p = 0
  · simp only [if_pos hz]
    have e : ((1000000 : Int64) / (nI (sL g)).toInt64).toInt = 1000000 / (sL g : Int) := by
      rw [q_div (by decide) (by rw [i64_of_i32, nI_toInt (by omega)]; omega), c_M, i64_of_i32, nI_toInt (by omega)]
    have hc : ∀ (n : Nat) (v : Int), iS (fun _ => v) n = n * v := by
      intro n v
      induction n with
      | zero => rw [iS]; simp
      | succ n ih => rw [iS, ih, Int.natCast_add, Int.add_mul]; simp
    refine ⟨fun j hj => ?_, ?_⟩
    · rw [e]; exact Int.ediv_nonneg (by decide) (by omega)
    · rw [iS_congr (f' := fun _ => 1000000 / (sL g : Int)) (sL g) (fun j hj => e), hc]
      exact Int.mul_ediv_self_le (by omega)
  · simp only [if_neg hz]
    obtain ⟨s, hs, es, hsj⟩ := sAllF_nI hw hp
    have hs0 : 0 < s := Nat.pos_of_ne_zero fun q => hz (by rw [es, q]; rfl)
    have hf : ∀ j, j < sL g → 0 ≤ (g 76 (5 * p + j)).toInt ∧ (g 76 (5 * p + j)).toInt ≤ 99 := fun j hj => (hw.fi (5 * p + j) (by omega)).int (by decide)
    have ei : (sAllF g p).toInt = iS (fun j => (g 76 (5 * p + j)).toInt) (sL g) := by
      have hB : iS (fun j => (g 76 (5 * p + j)).toInt) (sL g) ≤ iS (fun _ => 99) 5 := Int.le_trans (iS_le (f' := fun _ => 99) (sL g) fun j hj => (hf j hj).2) (iS_mono (f := fun _ => 99) 5 hL (fun _ _ => by decide))
      exact hzJ_int (sL g) (fun j hj => (hf j hj).1) hB (by decide)
    have ea : (sAllF g p).toInt64.toInt = (s : Int) := by rw [i64_of_i32, es, nI_toInt (by omega)]
    have ev : ∀ j, j < sL g → ((g 76 (5 * p + j)).toInt64 * 1000000 / (sAllF g p).toInt64).toInt = 1000000 * (g 76 (5 * p + j)).toInt / s ∧ 0 ≤ 1000000 * (g 76 (5 * p + j)).toInt := by
      intro j hj
      obtain ⟨a, b⟩ := hf j hj
      have e1 : ((g 76 (5 * p + j)).toInt64 * 1000000).toInt = 1000000 * (g 76 (5 * p + j)).toInt := by
        rw [q_mul (by rw [i64_of_i32]; exact a) (by rw [i64_of_i32]; exact b) (by decide) (Int.le_refl _) (by decide), i64_of_i32, c_M, Int.mul_comm]
      rw [q_div (by rw [e1]; omega) (by rw [ea]; omega), e1, ea]
      exact ⟨rfl, by omega⟩
    refine ⟨fun j hj => ?_, ?_⟩
    · rw [(ev j hj).1]
      exact Int.ediv_nonneg (ev j hj).2 (by omega)
    · rw [iS_congr (sL g) (fun j hj => (ev j hj).1)]
      refine iS_quo1 (by omega) ?_ (by decide)
      rw [← ei, es, nI_toInt (by omega)]
      exact Int.le_refl _
theorem sTh_int {g : Nat → Nat → Int32} (hw : Wf g) {p : Nat} (hp : p < 4) (hL0 : 0 < sL g) : ∀ k : Nat, sCan g p k = true → Bd g (sTh g p k)
  | 0, _ => sFirst_int hw hp hL0
  | k + 1, hc => sNext_int hw (sTh_int hw hp hL0 k (and_t hc).1) (k + 1) (sSig g p k) (of_decide_eq_true (and_t hc).2)
/-! the number by which to choose: going on never falls where the worth rises -/
theorem sGood_int {w s l : Nat} (hw : w ≤ 9999) (hs : s ≤ 9) (hl : l ≤ 100000) : (sGood (nI w) (nI s) (nI l)).toInt = ((w - s - l : Nat) : Int) := by
  unfold sGood
  rw [i64_of_i32]
  have a1 : (nI w - nI s).toInt = (w : Int) - s := by rw [i32_sub (by rw [nI_toInt (by omega), nI_toInt (by omega)]; omega) (by rw [nI_toInt (by omega), nI_toInt (by omega)]; omega), nI_toInt (by omega), nI_toInt (by omega)]
  have a2 : (nI w - nI s - nI l).toInt = (w : Int) - s - l := by rw [i32_sub (by rw [a1, nI_toInt (by omega)]; omega) (by rw [a1, nI_toInt (by omega)]; omega), a1, nI_toInt (by omega)]
  by_cases h : (0 : Int32) < nI w - nI s - nI l
  · rw [if_pos h, a2]
    have := Int32.lt_iff_toInt_lt.mp h
    rw [a2, show (0 : Int32).toInt = 0 from by decide] at this
    omega
  · rw [if_neg h]
    have : ¬ (0 : Int32).toInt < (nI w - nI s - nI l).toInt := fun q => h (Int32.lt_iff_toInt_lt.mpr q)
    rw [a2, show (0 : Int32).toInt = 0 from by decide] at this
    rw [show (0 : Int32).toInt = 0 from by decide]
    omega
theorem sGain_int {g : Nat → Nat → Int32} (hw : Wf g) {th : Nat → Int64} (h : Bd g th) (y : Nat) {w l : Nat} (hw9 : w ≤ 9999) (hl : l ≤ 100000) : (sGain g y (nI w) (nI l) th).toInt = iS (fun j => (sWet g y th j).toInt * ((w - (g 73 j).toNatClampNeg - l : Nat) : Int)) (sL g) ∧ 0 ≤ (sGain g y (nI w) (nI l) th).toInt ∧ (sGain g y (nI w) (nI l) th).toInt ≤ 9999000000 := by
  have hL := sL_le hw
  have ev : ∀ j, j < sL g → (sWet g y th j * sGood (nI w) (g 73 j) (nI l)).toInt = (sWet g y th j).toInt * ((w - (g 73 j).toNatClampNeg - l : Nat) : Int) ∧ 0 ≤ (sWet g y th j).toInt * ((w - (g 73 j).toNatClampNeg - l : Nat) : Int) ∧ (sWet g y th j).toInt * ((w - (g 73 j).toNatClampNeg - l : Nat) : Int) ≤ 9999 * (th j).toInt := by
    intro j hj
    obtain ⟨es, hs⟩ := hw.sa j (by omega)
    obtain ⟨a, b⟩ := sWet_int h y hj
    have c := h.le hj
    have eg : (sGood (nI w) (g 73 j) (nI l)).toInt = ((w - (g 73 j).toNatClampNeg - l : Nat) : Int) := by
      rw [← sGood_int hw9 hs hl, ← es]
    have e1 : ((w - (g 73 j).toNatClampNeg - l : Nat) : Int) ≤ 9999 := by omega
    obtain ⟨m1, m2⟩ := i_mul_le a b (show (0 : Int) ≤ ((w - (g 73 j).toNatClampNeg - l : Nat) : Int) by omega) e1
    rw [q_mul a (Int.le_trans b c) (by rw [eg]; omega) (by rw [eg]; exact e1) (by decide), eg]
    exact ⟨rfl, m1, by rw [Int.mul_comm 9999]; exact m2⟩
  have hS : iS (fun j => (sWet g y th j).toInt * ((w - (g 73 j).toNatClampNeg - l : Nat) : Int)) (sL g) ≤ 9999000000 := by
    refine Int.le_trans (iS_le (sL g) fun j hj => (ev j hj).2.2) ?_
    have hm : ∀ n : Nat, iS (fun j => 9999 * (th j).toInt) n = 9999 * iS (fun j => (th j).toInt) n := by
      intro n
      induction n with
      | zero => rfl
      | succ n ih => rw [iS, iS, ih, Int.mul_add]
    rw [hm]
    have := h.2
    omega
  have e : (sGain g y (nI w) (nI l) th).toInt = iS (fun j => (sWet g y th j).toInt * ((w - (g 73 j).toNatClampNeg - l : Nat) : Int)) (sL g) := by
    have e2 := iS_congr (f := fun j => (sWet g y th j * sGood (nI w) (g 73 j) (nI l)).toInt) (sL g) (fun j hj => (ev j hj).1)
    rw [← e2]
    exact hzS_int (sL g) (fun j hj => by rw [(ev j hj).1]; exact (ev j hj).2.1) (by rw [e2]; exact hS) (by decide)
  rw [e]
  exact ⟨rfl, iS_nn fun j hj => (ev j hj).2.1, hS⟩
def uB : Nat → Int
  | 0 => 0
  | n + 1 => 9999000000 + 3 * uB n
theorem sMx_int (x : Int64) : (sMx x).toInt = max 0 x.toInt := by
  unfold sMx
  split
  · rename_i h
    have := Int64.lt_iff_toInt_lt.mp h
    rw [c_0] at this ⊢
    omega
  · rename_i h
    have : ¬ x.toInt < (0 : Int64).toInt := fun q => h (Int64.lt_iff_toInt_lt.mpr q)
    rw [c_0] at this
    omega
/-- an arm: its bounds, and that it rises -/
theorem sArm_int {g : Nat → Nat → Int32} {th : Nat → Int64} (h : Bd g th) (y : Nat) (s : Int32) {F F' : Nat → (Nat → Int64) → Int64} {U : Int} (hU : U * 1000000 < 9000000000000000000) (hF : 0 < sMuch g y s th → (0 ≤ (F (y + 1) (sNext g y s th)).toInt ∧ (F (y + 1) (sNext g y s th)).toInt ≤ (F' (y + 1) (sNext g y s th)).toInt) ∧ (F' (y + 1) (sNext g y s th)).toInt ≤ U) (hU0 : 0 ≤ U) :
    (0 ≤ (sArm g F y th s).toInt ∧ (sArm g F y th s).toInt ≤ (sArm g F' y th s).toInt) ∧ (sArm g F' y th s).toInt ≤ U := by
  obtain ⟨-, h1, h2⟩ := sMuch_int h y s
  unfold sArm
  by_cases hm : 0 < sMuch g y s th
  · obtain ⟨⟨a, b⟩, c⟩ := hF hm
    simp only [if_pos hm]
    generalize F (y + 1) (sNext g y s th) = v at a b
    generalize F' (y + 1) (sNext g y s th) = v' at b c
    have e1 : (sMuch g y s th * v).toInt = (sMuch g y s th).toInt * v.toInt := q_mul h1 h2 a (Int.le_trans b c) (by omega)
    have e2 : (sMuch g y s th * v').toInt = (sMuch g y s th).toInt * v'.toInt := q_mul h1 h2 (Int.le_trans a b) c (by omega)
    obtain ⟨m1, m2⟩ := i_mul_le h1 h2 a b
    obtain ⟨m3, m4⟩ := i_mul_le h1 h2 (Int.le_trans a b) c
    have m5 : (sMuch g y s th).toInt * v.toInt ≤ (sMuch g y s th).toInt * v'.toInt := Int.mul_le_mul_of_nonneg_left b h1
    rw [q_div (by rw [e1]; exact m1) (by decide), q_div (by rw [e2]; exact m3) (by decide), e1, e2, c_M]
    generalize (sMuch g y s th).toInt * v.toInt = p at m1 m2 m5
    generalize (sMuch g y s th).toInt * v'.toInt = p' at m3 m4 m5
    omega
  · simp only [if_neg hm]
    exact ⟨⟨by decide, by decide⟩, hU0⟩
theorem uB_nn : ∀ n : Nat, 0 ≤ uB n
  | 0 => by decide
  | n + 1 => by have := uB_nn n; rw [uB]; omega
theorem uB_le : ∀ n : Nat, n ≤ 5 → uB n ≤ 2000000000000
  | 0, _ => by decide
  | 1, _ => by decide
  | 2, _ => by decide
  | 3, _ => by decide
  | 4, _ => by decide
  | 5, _ => by decide
  | n + 6, h => absurd h (by omega)
theorem sGoes_int {g : Nat → Nat → Int32} (hw : Wf g) {w w' : Nat} (hww : w ≤ w') (hw9 : w' ≤ 9999) : ∀ (n : Nat), n ≤ 5 → ∀ (y : Nat) (th : Nat → Int64), Bd g th → -1000000000 ≤ (sGoes g (nI w) n y th).toInt ∧ (sGoes g (nI w) n y th).toInt ≤ (sGoes g (nI w') n y th).toInt ∧ (sGoes g (nI w') n y th).toInt ≤ uB n
  | 0, _, y, th, h => ⟨show (-1000000000 : Int) ≤ (0 : Int64).toInt by decide, Int.le_refl _, show (0 : Int64).toInt ≤ uB 0 by decide⟩
  | n + 1, hn, y, th, h => by
    have ih := sGoes_int hw hww hw9 n (by omega)
    have hu := uB_le n (by omega)
    have hu0 := uB_nn n
    have arm : ∀ s : Int32, (0 ≤ (sArm g (fun z t => sMx (sGoes g (nI w) n z t)) y th s).toInt ∧ (sArm g (fun z t => sMx (sGoes g (nI w) n z t)) y th s).toInt ≤ (sArm g (fun z t => sMx (sGoes g (nI w') n z t)) y th s).toInt) ∧ (sArm g (fun z t => sMx (sGoes g (nI w') n z t)) y th s).toInt ≤ uB n := by
      intro s
      refine sArm_int h y s (by omega) (fun hm => ?_) hu0
      obtain ⟨a, b, c⟩ := ih (y + 1) (sNext g y s th) (sNext_int hw h y s hm)
      rw [sMx_int, sMx_int]
      omega
    obtain ⟨⟨a0, a1⟩, a2⟩ := arm 0
    obtain ⟨⟨b0, b1⟩, b2⟩ := arm 1
    obtain ⟨⟨d0, d1⟩, d2⟩ := arm 2
    obtain ⟨g1, g2, g3⟩ := sGain_int hw h y (w := w) (l := 0) (by omega) (by decide)
    obtain ⟨k1, k2, k3⟩ := sGain_int hw h y (w := w') (l := 0) hw9 (by decide)
    have gk : (sGain g y (nI w) (nI 0) th).toInt ≤ (sGain g y (nI w') (nI 0) th).toInt := by
      rw [g1, k1]
      refine iS_le (sL g) fun j hj => Int.mul_le_mul_of_nonneg_left ?_ (sWet_int h y hj).1
      omega
    obtain ⟨c1, c2⟩ := sCost_int g y
    have ec : ((1000000 : Int64) * (sCost g y).toInt64).toInt = 1000000 * (sCost g y).toInt := by
      rw [q_mul (by decide) (Int.le_refl _) (by rw [i64_of_i32]; exact c1) (by rw [i64_of_i32]; exact c2) (by decide), i64_of_i32, c_M]
    have tot : ∀ v : Nat, ∀ a b c d : Int64, a.toInt ≤ 9999000000 → 0 ≤ a.toInt → 0 ≤ b.toInt → 0 ≤ c.toInt → 0 ≤ d.toInt → b.toInt ≤ uB n → c.toInt ≤ uB n → d.toInt ≤ uB n → (a - 1000000 * (sCost g y).toInt64 + b + c + d).toInt = a.toInt - 1000000 * (sCost g y).toInt + b.toInt + c.toInt + d.toInt := by
      intro v a b c d h1 h2 h3 h4 h5 h6 h7 h8
      have e1 : (a - 1000000 * (sCost g y).toInt64).toInt = a.toInt - 1000000 * (sCost g y).toInt := by
        rw [i64_sub (by rw [ec]; omega) (by rw [ec]; omega), ec]
      have e2 : (a - 1000000 * (sCost g y).toInt64 + b).toInt = a.toInt - 1000000 * (sCost g y).toInt + b.toInt := by
        rw [i64_add (by rw [e1]; omega) (by rw [e1]; omega), e1]
      have e3 : (a - 1000000 * (sCost g y).toInt64 + b + c).toInt = a.toInt - 1000000 * (sCost g y).toInt + b.toInt + c.toInt := by
        rw [i64_add (by rw [e2]; omega) (by rw [e2]; omega), e2]
      rw [i64_add (by rw [e3]; omega) (by rw [e3]; omega), e3]
    have t1 := tot 0 (sGain g y (nI w) (nI 0) th) _ _ _ g3 g2 a0 b0 d0 (Int.le_trans a1 a2) (Int.le_trans b1 b2) (Int.le_trans d1 d2)
    have t2 := tot 0 (sGain g y (nI w') (nI 0) th) _ _ _ k3 k2 (Int.le_trans a0 a1) (Int.le_trans b0 b1) (Int.le_trans d0 d1) a2 b2 d2
    have s1 : sGoes g (nI w) (n + 1) y th = sGain g y (nI w) (nI 0) th - 1000000 * (sCost g y).toInt64 + sArm g (fun z t => sMx (sGoes g (nI w) n z t)) y th 0 + sArm g (fun z t => sMx (sGoes g (nI w) n z t)) y th 1 + sArm g (fun z t => sMx (sGoes g (nI w) n z t)) y th 2 := rfl
    have s2 : sGoes g (nI w') (n + 1) y th = sGain g y (nI w') (nI 0) th - 1000000 * (sCost g y).toInt64 + sArm g (fun z t => sMx (sGoes g (nI w') n z t)) y th 0 + sArm g (fun z t => sMx (sGoes g (nI w') n z t)) y th 1 + sArm g (fun z t => sMx (sGoes g (nI w') n z t)) y th 2 := rfl
    rw [s1, s2, t1, t2, uB]
    omega
theorem sGoes_up {g : Nat → Nat → Int32} (hw : Wf g) {w w' : Nat} (hww : w ≤ w') (hw9 : w' ≤ 9999) {n : Nat} (hn : n ≤ 5) (y : Nat) {th : Nat → Int64} (h : Bd g th) (hp : 0 < sGoes g (nI w) n y th) : 0 < sGoes g (nI w') n y th := by
  obtain ⟨-, b, -⟩ := sGoes_int hw hww hw9 n hn y th h
  have a := Int64.lt_iff_toInt_lt.mp hp
  exact Int64.lt_iff_toInt_lt.mpr (by omega)

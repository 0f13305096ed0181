/-! THE PURE SIDE, 24: diggings drawn by a seed -/
theorem lN_int {n : Nat} (h : n < 2 ^ 62) : (lN n).toInt = (n : Int) := lg_ofNat_toInt (by omega)
theorem lN_mod {a b : Nat} (ha : a < 2 ^ 62) (hb : 0 < b) (hb2 : b < 2 ^ 31) : lN a - lN a / lN b * lN b = lN (a % b) := by
  have h1 : a / b * b ≤ a := Nat.div_mul_le_self a b
  have hd : a / b ≤ a := Nat.div_le_self a b
  have hm : a % b < b := Nat.mod_lt a hb
  have e0 : (lN a).toInt = (a : Int) := lN_int ha
  have e1 : (lN b).toInt = (b : Int) := lN_int (by omega)
  have e2 : (lN a / lN b).toInt = ((a / b : Nat) : Int) := by
    rw [q_div (by rw [e0]; omega) (by rw [e1]; omega), e0, e1]; rfl
  have e3 : (lN a / lN b * lN b).toInt = ((a / b * b : Nat) : Int) := by
    have : ((a / b : Nat) : Int) * (b : Int) = ((a / b * b : Nat) : Int) := by rw [Int.natCast_mul]
    rw [i64_mul (by rw [e2, e1, this]; omega) (by rw [e2, e1, this]; omega), e2, e1, this]
  apply Int64.toInt_inj.mp
  rw [i64_sub (by rw [e0, e3]; omega) (by rw [e0, e3]; omega), e0, e3, lN_int (by omega)]
  have : a / b * b + a % b = a := by rw [Nat.mul_comm]; exact Nat.div_add_mod a b
  omega
def sLot (l : Nat) : Nat := l * 48271 % 2147483647
theorem sLot_lt (l : Nat) : sLot l < 2147483647 := Nat.mod_lt _ (by decide)
theorem lot_step {l : Nat} (h : l < 2147483647) : (lN l * 48271) - (lN l * 48271) / 2147483647 * 2147483647 = lN (sLot l) := by
  rw [show (48271 : Int64) = lN 48271 from rfl, lN_mul, show (2147483647 : Int64) = lN 2147483647 from rfl]
  exact lN_mod (by omega) (by decide) (by decide)
def sN (f : Nat → Int32) : Nat → Nat
  | 0 => 0
  | n + 1 => sN f n + (f n).toNatClampNeg
theorem sN_nI {f : Nat → Int32} {m : Nat} : ∀ n : Nat, (∀ j, j < n → isN (f j) m) → n * m < 2 ^ 31 → hzJ f n = nI (sN f n) ∧ sN f n ≤ n * m
  | 0, _, _ => ⟨rfl, by rw [sN]; omega⟩
  | n + 1, h, hm => by
    rw [Nat.succ_mul] at hm
    obtain ⟨a, b⟩ := sN_nI n (fun j hj => h j (Nat.lt_succ_of_lt hj)) (by omega)
    obtain ⟨k1, k2⟩ := h n (Nat.lt_succ_self n)
    rw [hzJ, sN, a, Nat.succ_mul]
    refine ⟨?_, by omega⟩
    rw [← nI_add, ← k1]
theorem sN_mono (f : Nat → Int32) {a b : Nat} (h : a ≤ b) : sN f a ≤ sN f b := by
  obtain ⟨d, rfl⟩ : ∃ d, b = a + d := ⟨b - a, by omega⟩
  clear h
  induction d with
  | zero => exact Nat.le_refl _
  | succ d ih => exact Nat.le_trans ih (by show sN f (a + d) ≤ sN f (a + d) + _; omega)
/-- the first one whose count, with all ahead of it, is above v, from j on -/
def sPk (f : Nat → Int32) (v : Nat) : Nat → Nat → Nat
  | 0, j => j
  | r + 1, j => if sN f (j + 1) ≤ v then sPk f v r (j + 1) else j
theorem sPk_lt {f : Nat → Int32} {v : Nat} : ∀ (r j : Nat), v < sN f (j + r) → sN f j ≤ v → sPk f v r j < j + r
  | 0, j, h, h2 => by rw [Nat.add_zero] at h; omega
  | r + 1, j, h, h2 => by
    rw [sPk]
    split
    · rename_i c
      have := sPk_lt (f := f) (v := v) r (j + 1) (by rw [show j + 1 + r = j + (r + 1) by omega]; exact h) c
      omega
    · omega
theorem lg_le {x y : Int64} : lg_cmp x y ≤ 0 ↔ x ≤ y := by
  unfold lg_cmp
  by_cases h : x > y
  · rw [if_pos h]
    refine ⟨fun q => absurd q (by decide), fun q => ?_⟩
    have a := Int64.lt_iff_toInt_lt.mp h
    have b := Int64.le_iff_toInt_le.mp q
    omega
  · rw [if_neg h]
    have a : x ≤ y := Int64.le_iff_toInt_le.mpr (by
      have : ¬ y.toInt < x.toInt := fun z => h (Int64.lt_iff_toInt_lt.mpr z)
      omega)
    by_cases e : x = y
    · rw [if_pos e]; exact ⟨fun _ => a, fun _ => by decide⟩
    · rw [if_neg e]; exact ⟨fun _ => a, fun _ => by decide⟩
theorem lg_ge {x y : Int64} : 0 ≤ lg_cmp x y ↔ y ≤ x := by
  unfold lg_cmp
  by_cases h : x > y
  · rw [if_pos h]
    exact ⟨fun _ => Int64.le_iff_toInt_le.mpr (Int.le_of_lt (Int64.lt_iff_toInt_lt.mp h)), fun _ => by decide⟩
  · rw [if_neg h]
    by_cases e : x = y
    · rw [if_pos e]; exact ⟨fun _ => by rw [e]; exact Int64.le_iff_toInt_le.mpr (Int.le_refl _), fun _ => by decide⟩
    · rw [if_neg e]
      refine ⟨fun q => absurd q (by decide), fun q => ?_⟩
      have a : ¬ y.toInt < x.toInt := fun z => h (Int64.lt_iff_toInt_lt.mpr z)
      have b := Int64.le_iff_toInt_le.mp q
      exact absurd (Int64.toInt_inj.mp (by omega)) e
theorem x_pick26 (N : Nat) {g : Nat → Nat → Int32} (hw : Wf g) (row : Nat) (f : Nat → Int32) (m : Nat) (hm : m ≤ 99) (hf : ∀ j, j < 5 → isN (f j) m) (v : Nat) (x3 : Int32) (σ : Mem) (h : HX σ g) (hr : ∀ j, j < 5 → σ.2.2.1 26 row j = f j) (hv : v < sN f (sL g)) : ∀ (r n j : Nat), j + r = sL g → r < n → sN f j ≤ v →
    F_X0_pick_t26_b21 N n row x3 (lN v) (lN (sN f j)) (nI j) σ = some (nI (sPk f v r j), σ) := by
  intro r
  have hL := sL_le hw
  induction r with
  | zero =>
    intro n j hj hn hs
    rw [Nat.add_zero] at hj
    rw [hj] at hs
    omega
  | succ r ih =>
    intro n j hj hn hs
    cases n with
    | zero => cases hn
    | succ n =>
      obtain ⟨k1, k2⟩ := hf j (by omega)
      obtain ⟨b1, b2⟩ := sN_nI (f := f) (m := m) 5 hf (by omega)
      have b3 := sN_mono f (show j + 1 ≤ 5 by omega)
      have b4 := sN_mono f hL
      have e6 : lN (sN f j) + (f j).toInt64 = lN (sN f (j + 1)) := by
        rw [k1, nI_l (by omega), lN_add]; rfl
      rw [F_X0_pick_t26_b21.eq_2, h.L hw, if_neg (nI_ge (by omega) (by omega)), if_neg (geL_n 5 5 rfl (by omega) (by decide)), if_neg (out_nI (by omega) (by decide)), nI_clamp (by omega), hr j (by omega), e6, nI_1, sPk]
      by_cases c : sN f (j + 1) ≤ v
      · rw [if_pos (lg_le.mpr ((lN_le (by omega) (by omega)).mpr c)), if_pos c]
        exact ih n (j + 1) (by omega) (by omega) c
      · rw [if_neg (fun z => c ((lN_le (by omega) (by omega)).mp (lg_le.mp z))), if_neg c]
theorem x_pick55 (N : Nat) {g : Nat → Nat → Int32} (hw : Wf g) (row : Nat) (f : Nat → Int32) (m : Nat) (hm : m ≤ 99) (hf : ∀ j, j < 5 → isN (f j) m) (v : Nat) (x3 : Int32) (σ : Mem) (h : HX σ g) (hr : ∀ j, j < 5 → σ.2.2.1 55 row j = f j) (hv : v < sN f (sL g)) : ∀ (r n j : Nat), j + r = sL g → r < n → sN f j ≤ v →
    F_X0_pick_t55_b21 N n row x3 (lN v) (lN (sN f j)) (nI j) σ = some (nI (sPk f v r j), σ) := by
  intro r
  have hL := sL_le hw
  induction r with
  | zero =>
    intro n j hj hn hs
    rw [Nat.add_zero] at hj
    rw [hj] at hs
    omega
  | succ r ih =>
    intro n j hj hn hs
    cases n with
    | zero => cases hn
    | succ n =>
      obtain ⟨k1, k2⟩ := hf j (by omega)
      obtain ⟨b1, b2⟩ := sN_nI (f := f) (m := m) 5 hf (by omega)
      have b3 := sN_mono f (show j + 1 ≤ 5 by omega)
      have b4 := sN_mono f hL
      have e6 : lN (sN f j) + (f j).toInt64 = lN (sN f (j + 1)) := by
        rw [k1, nI_l (by omega), lN_add]; rfl
      rw [F_X0_pick_t55_b21.eq_2, h.L hw, if_neg (nI_ge (by omega) (by omega)), if_neg (geL_n 5 5 rfl (by omega) (by decide)), if_neg (out_nI (by omega) (by decide)), nI_clamp (by omega), hr j (by omega), e6, nI_1, sPk]
      by_cases c : sN f (j + 1) ≤ v
      · rw [if_pos (lg_le.mpr ((lN_le (by omega) (by omega)).mpr c)), if_pos c]
        exact ih n (j + 1) (by omega) (by omega) c
      · rw [if_neg (fun z => c ((lN_le (by omega) (by omega)).mp (lg_le.mp z))), if_neg c]
theorem m_pick (N : Nat) {g : Nat → Nat → Int32} (hw : Wf g) (tg row : Nat) (x1 x2 : Int32) (f : Nat → Int32) (m : Nat) (hm : m ≤ 99) (hf : ∀ j, j < 5 → isN (f j) m) (v : Nat) (σ : Mem) (hv : v < sN f (sL g))
    (step : ∀ (n j : Nat) (x6 : Int32), j + 1 < 5 → F_X12_drawsLayer_b36 N (n + 1) x1 x2 (nI v) (nI j) x6 σ = if nI v < x6 then some (nI j, σ) else F_X12_drawsLayer_b36 N n x1 x2 (nI v) (nI (j + 1)) (x6 + f (j + 1)) σ) (stop : ∀ (n j : Nat) (x6 : Int32), nI v < x6 → F_X12_drawsLayer_b36 N (n + 1) x1 x2 (nI v) (nI j) x6 σ = some (nI j, σ)) : ∀ (r n j : Nat), j + r = sL g → r < n → sN f j ≤ v →
    F_X12_drawsLayer_b36 N n x1 x2 (nI v) (nI j) (nI (sN f (j + 1))) σ = some (nI (sPk f v r j), σ) := by
  intro r
  have hL := sL_le hw
  obtain ⟨b1, b2⟩ := sN_nI (f := f) (m := m) 5 hf (by omega)
  have b4 := sN_mono f hL
  induction r with
  | zero =>
    intro n j hj hn hs
    rw [Nat.add_zero] at hj
    rw [hj] at hs
    omega
  | succ r ih =>
    intro n j hj hn hs
    cases n with
    | zero => cases hn
    | succ n =>
      have b3 := sN_mono f (show j + 1 ≤ 5 by omega)
      rw [sPk]
      by_cases c : sN f (j + 1) ≤ v
      · have hj1 : j + 1 < 5 := by
          have : j + 1 < sL g := by
            apply Nat.lt_of_not_le
            intro z
            have := sN_mono f z
            omega
          omega
        obtain ⟨k1, k2⟩ := hf (j + 1) hj1
        rw [step n j _ hj1, if_neg (nI_nlt (by omega) (by omega)), if_pos c, k1, nI_add]
        exact ih n (j + 1) (by omega) (by omega) c
      · rw [stop n j _ (nI_lt (by omega) (by omega)), if_neg c]
theorem nI_n1 (k : Nat) (h : k < 2 ^ 31) : ¬ nI k = Int32.ofInt (-1) := fun e => by
  have := congrArg Int32.toInt e
  rw [nI_toInt h, show (Int32.ofInt (-1)).toInt = -1 from by decide] at this
  omega
theorem m_draws (N : Nat) (b l : Nat) (hb : 0 < b) (hb2 : b < 2 ^ 31) (hl : l < 2147483647) (σ : Mem) (h : σ.2.1 12 61 = lN l) : F_X12_draws N (nI b) σ = some (nI (sLot l % b), (σ.1, hwU2 σ.2.1 12 61 (lN (sLot l)), σ.2.2)) := by
  have := sLot_lt l
  unfold F_X12_draws
  rw [if_neg (nI_l0 hb hb2), h, lot_step hl, nI_l hb2, lN_mod (by omega) hb hb2, lN_i]
def sAt (g : Nat → Nat → Int32) (at_ l : Nat) : Nat := sPk (fun j => g 75 (5 * at_ + j)) (sLot l % sN (fun j => g 75 (5 * at_ + j)) (sL g)) (sL g) 0
def sA0 (g : Nat → Nat → Int32) (p l : Nat) : Nat := sPk (fun j => g 76 (5 * p + j)) (sLot l % sN (fun j => g 76 (5 * p + j)) (sL g)) (sL g) 0
theorem sN_fo {g : Nat → Nat → Int32} (hw : Wf g) {a : Nat} (ha : a < 5) : (∀ j, j < 5 → isN (g 75 (5 * a + j)) 9) ∧ sAllB g a = nI (sN (fun j => g 75 (5 * a + j)) (sL g)) ∧ sN (fun j => g 75 (5 * a + j)) (sL g) ≤ 45 := by
  have hL := sL_le hw
  have hf : ∀ j, j < 5 → isN (g 75 (5 * a + j)) 9 := fun j hj => hw.fo _ (by omega)
  obtain ⟨x, y⟩ := sN_nI (f := fun j => g 75 (5 * a + j)) (m := 9) (sL g) (fun j hj => hf j (by omega)) (by omega)
  exact ⟨hf, x, by omega⟩
theorem sN_fi {g : Nat → Nat → Int32} (hw : Wf g) {p : Nat} (hp : p < 4) : (∀ j, j < 5 → isN (g 76 (5 * p + j)) 99) ∧ sAllF g p = nI (sN (fun j => g 76 (5 * p + j)) (sL g)) ∧ sN (fun j => g 76 (5 * p + j)) (sL g) ≤ 495 := by
  have hL := sL_le hw
  have hf : ∀ j, j < 5 → isN (g 76 (5 * p + j)) 99 := fun j hj => hw.fi _ (by omega)
  obtain ⟨x, y⟩ := sN_nI (f := fun j => g 76 (5 * p + j)) (m := 99) (sL g) (fun j hj => hf j (by omega)) (by omega)
  exact ⟨hf, x, by omega⟩
theorem sAt_lt {g : Nat → Nat → Int32} (l : Nat) {a : Nat} (h0 : 0 < sN (fun j => g 75 (5 * a + j)) (sL g)) : sAt g a l < sL g := by
  have := sPk_lt (f := fun j => g 75 (5 * a + j)) (v := sLot l % sN (fun j => g 75 (5 * a + j)) (sL g)) (sL g) 0 (by rw [Nat.zero_add]; exact Nat.mod_lt _ h0) (Nat.zero_le _)
  rw [Nat.zero_add] at this
  exact this
theorem sA0_lt {g : Nat → Nat → Int32} (l : Nat) {p : Nat} (h0 : 0 < sN (fun j => g 76 (5 * p + j)) (sL g)) : sA0 g p l < sL g := by
  have := sPk_lt (f := fun j => g 76 (5 * p + j)) (v := sLot l % sN (fun j => g 76 (5 * p + j)) (sL g)) (sL g) 0 (by rw [Nat.zero_add]; exact Nat.mod_lt _ h0) (Nat.zero_le _)
  rw [Nat.zero_add] at this
  exact this
theorem x_lots (N l : Nat) (hl : l < 2147483647) (σ : Mem) (h : σ.2.1 10 2 = lN l) : F_X0_lots N σ = some (lN (sLot l), (σ.1, hwU2 σ.2.1 10 2 (lN (sLot l)), σ.2.2)) := by
  unfold F_X0_lots
  rw [h, lot_step hl]
theorem x_pick_below (N : Nat) (hN : 160 ≤ N) {g : Nat → Nat → Int32} (hw : Wf g) (a l : Nat) (ha : a < 5) (hl : l < 2147483647) (σ : Mem) (h : HX σ g) (hlo : σ.2.1 10 2 = lN l) (h0 : 0 < sN (fun j => g 75 (5 * a + j)) (sL g)) :
    F_X0_pick_t26 N a (sAllB g a) (nI a) σ = some (nI (sAt g a l), (σ.1, hwU2 σ.2.1 10 2 (lN (sLot l)), σ.2.2)) := by
  have hL := sL_le hw
  obtain ⟨hf, e, hb⟩ := sN_fo hw ha
  unfold F_X0_pick_t26
  rw [e, if_pos (ltL_a 0 0 rfl h0 (by omega)), x_lots N l hl σ hlo, Option.bind_some, if_neg (nI_l0 h0 (by omega)), nI_l (by omega), lN_mod (by have := sLot_lt l; omega) h0 (by omega)]
  exact x_pick26 N hw a (fun j => g 75 (5 * a + j)) 9 (by decide) hf (sLot l % sN (fun j => g 75 (5 * a + j)) (sL g)) (nI a) (σ.1, hwU2 σ.2.1 10 2 (lN (sLot l)), σ.2.2) (h.of rfl rfl) (fun j hj => h.1.fo a j ha hj) (Nat.mod_lt _ h0) (sL g) N 0 (by omega) (by omega) (Nat.zero_le _)
theorem x_pick_first (N : Nat) (hN : 160 ≤ N) {g : Nat → Nat → Int32} (hw : Wf g) (p l : Nat) (hp : p < 4) (hl : l < 2147483647) (σ : Mem) (h : HX σ g) (hlo : σ.2.1 10 2 = lN l) (h0 : 0 < sN (fun j => g 76 (5 * p + j)) (sL g)) :
    F_X0_pick_t55 N p (sAllF g p) 0 σ = some (nI (sA0 g p l), (σ.1, hwU2 σ.2.1 10 2 (lN (sLot l)), σ.2.2)) := by
  have hL := sL_le hw
  obtain ⟨hf, e, hb⟩ := sN_fi hw hp
  unfold F_X0_pick_t55
  rw [e, if_pos (ltL_a 0 0 rfl h0 (by omega)), x_lots N l hl σ hlo, Option.bind_some, if_neg (nI_l0 h0 (by omega)), nI_l (by omega), lN_mod (by have := sLot_lt l; omega) h0 (by omega)]
  exact x_pick55 N hw p (fun j => g 76 (5 * p + j)) 99 (by decide) hf (sLot l % sN (fun j => g 76 (5 * p + j)) (sL g)) 0 (σ.1, hwU2 σ.2.1 10 2 (lN (sLot l)), σ.2.2) (h.of rfl rfl) (fun j hj => h.1.fi p j hp hj) (Nat.mod_lt _ h0) (sL g) N 0 (by omega) (by omega) (Nat.zero_le _)
theorem m_draw_below (N : Nat) (hN : 160 ≤ N) {g : Nat → Nat → Int32} (hw : Wf g) (x1 : Int32) (a l : Nat) (ha : a < 5) (hl : l < 2147483647) (σ : Mem) (hg : gM σ = g) (hlo : σ.2.1 12 61 = lN l) (h0 : 0 < sN (fun j => g 75 (5 * a + j)) (sL g)) :
    F_X12_drawsLayer N x1 (nI a) (sAllB g a) σ = some (nI (sAt g a l), (σ.1, hwU2 σ.2.1 12 61 (lN (sLot l)), σ.2.2)) := by
  have hL := sL_le hw
  obtain ⟨hf, e, hb⟩ := sN_fo hw ha
  have hg2 : gM (σ.1, hwU2 σ.2.1 12 61 (lN (sLot l)), σ.2.2) = g := hg
  have e0 : (5 : Int32) * nI a = nI (5 * a + 0) := by rw [show (5 : Int32) = nI 5 from rfl, nI_mul, Nat.add_zero]
  have z1 : g 75 (5 * a + 0) = nI (sN (fun j => g 75 (5 * a + j)) (0 + 1)) := by
    rw [(hf 0 (by decide)).1]
    congr 1
    show (g 75 (5 * a + 0)).toNatClampNeg = 0 + (g 75 (5 * a + 0)).toNatClampNeg
    omega
  unfold F_X12_drawsLayer
  rw [e, m_draws N _ l h0 (by omega) hl σ hlo, Option.bind_some, if_neg (nI_n1 a (by omega)), e0, if_neg (out_nI (by omega) (by decide)), nI_clamp (by omega)]
  show F_X12_drawsLayer_b36 N N x1 (nI a) (nI (sLot l % sN (fun j => g 75 (5 * a + j)) (sL g))) (nI 0) (σ.2.2.1 75 0 (5 * a + 0)) (σ.1, hwU2 σ.2.1 12 61 (lN (sLot l)), σ.2.2) = _
  rw [rA hg (by decide) (by decide), z1]
  refine m_pick N hw 75 a x1 (nI a) (fun j => g 75 (5 * a + j)) 9 (by decide) hf _ _ (Nat.mod_lt _ h0) ?_ ?_ (sL g) N 0 (by omega) (by omega) (Nat.zero_le _)
  · intro n j x6 hj
    rw [F_X12_drawsLayer_b36.eq_2, if_neg (nI_n1 a (by omega)), nI_1, ix5, if_neg (out_nI (by omega) (by decide)), nI_clamp (by omega), rA hg2 (by decide) (by decide)]
  · intro n j x6 hlt
    rw [F_X12_drawsLayer_b36.eq_2, if_pos hlt]
theorem m_draw_first (N : Nat) (hN : 160 ≤ N) {g : Nat → Nat → Int32} (hw : Wf g) (p l : Nat) (hp : p < 4) (hl : l < 2147483647) (σ : Mem) (hg : gM σ = g) (hlo : σ.2.1 12 61 = lN l) (h0 : 0 < sN (fun j => g 76 (5 * p + j)) (sL g)) :
    F_X12_drawsLayer N (nI p) (Int32.ofInt (-1)) (sAllF g p) σ = some (nI (sA0 g p l), (σ.1, hwU2 σ.2.1 12 61 (lN (sLot l)), σ.2.2)) := by
  have hL := sL_le hw
  obtain ⟨hf, e, hb⟩ := sN_fi hw hp
  have hg2 : gM (σ.1, hwU2 σ.2.1 12 61 (lN (sLot l)), σ.2.2) = g := hg
  have e0 : (5 : Int32) * nI p = nI (5 * p + 0) := by rw [show (5 : Int32) = nI 5 from rfl, nI_mul, Nat.add_zero]
  have z1 : g 76 (5 * p + 0) = nI (sN (fun j => g 76 (5 * p + j)) (0 + 1)) := by
    rw [(hf 0 (by decide)).1]
    congr 1
    show (g 76 (5 * p + 0)).toNatClampNeg = 0 + (g 76 (5 * p + 0)).toNatClampNeg
    omega
  unfold F_X12_drawsLayer
  rw [e, m_draws N _ l h0 (by omega) hl σ hlo, Option.bind_some, if_pos rfl, e0, if_neg (out_nI (by omega) (by decide)), nI_clamp (by omega)]
  show F_X12_drawsLayer_b36 N N (nI p) (Int32.ofInt (-1)) (nI (sLot l % sN (fun j => g 76 (5 * p + j)) (sL g))) (nI 0) (σ.2.2.1 76 0 (5 * p + 0)) (σ.1, hwU2 σ.2.1 12 61 (lN (sLot l)), σ.2.2) = _
  rw [rA hg (by decide) (by decide), z1]
  refine m_pick N hw 76 p (nI p) (Int32.ofInt (-1)) (fun j => g 76 (5 * p + j)) 99 (by decide) hf _ _ (Nat.mod_lt _ h0) ?_ ?_ (sL g) N 0 (by omega) (by omega) (Nat.zero_le _)
  · intro n j x6 hj
    rw [F_X12_drawsLayer_b36.eq_2, if_pos rfl, nI_1, ix5, if_neg (out_nI (by omega) (by decide)), nI_clamp (by omega), rA hg2 (by decide) (by decide)]
  · intro n j x6 hlt
    rw [F_X12_drawsLayer_b36.eq_2, if_pos hlt]

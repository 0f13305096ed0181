/-! THE PURE SIDE, 1: what both programs hold, told once (g tag index, as the reference lays it); numbers, sums, frames -/
def isN (x : Int32) (m : Nat) : Prop := x = nI x.toNatClampNeg ∧ x.toNatClampNeg ≤ m
theorem isN_nI {k m : Nat} (h : k ≤ m) (hm : m < 2 ^ 31) : isN (nI k) m := by
  unfold isN
  rw [nI_clamp (Nat.lt_of_le_of_lt h hm)]
  exact ⟨rfl, h⟩
theorem isN.ex {x : Int32} {m : Nat} (h : isN x m) : ∃ k : Nat, k ≤ m ∧ x = nI k := ⟨_, h.2, h.1⟩
theorem out_nI {k n : Nat} (h : k < n) (hn : n < 2 ^ 31) : ¬ hwOut (nI k) n := nI_in h hn
theorem nI_add1 (k : Nat) : nI k + (1 : Int32) = nI (k + 1) := nI_1 k
theorem geL_n (l : Int32) (b : Nat) {a : Nat} (hl : l = nI b) (h : a < b) (hb : b < 2 ^ 31) : ¬ l ≤ nI a := hl ▸ nI_ge h hb
theorem geL_a (l : Int32) (a : Nat) {b : Nat} (hl : l = nI a) (h : a < b) (hb : b < 2 ^ 31) : ¬ nI b ≤ l := hl ▸ nI_ge h hb
theorem leL_a (l : Int32) (a : Nat) {b : Nat} (hl : l = nI a) (h : a ≤ b) (hb : b < 2 ^ 31) : l ≤ nI b := hl ▸ nI_le h hb
theorem leL_b (l : Int32) (b : Nat) {a : Nat} (hl : l = nI b) (h : a ≤ b) (hb : b < 2 ^ 31) : nI a ≤ l := hl ▸ nI_le h hb
theorem ltL_a (l : Int32) (a : Nat) {b : Nat} (hl : l = nI a) (h : a < b) (hb : b < 2 ^ 31) : l < nI b := hl ▸ nI_lt h hb
theorem ltL_b (l : Int32) (b : Nat) {a : Nat} (hl : l = nI b) (h : a < b) (hb : b < 2 ^ 31) : nI a < l := hl ▸ nI_lt h hb
theorem nltL_a (l : Int32) (a : Nat) {b : Nat} (hl : l = nI a) (h : b ≤ a) (hb : a < 2 ^ 31) : ¬ l < nI b := hl ▸ nI_nlt h hb
theorem nltL_b (l : Int32) (b : Nat) {a : Nat} (hl : l = nI b) (h : b ≤ a) (hb : a < 2 ^ 31) : ¬ nI a < l := hl ▸ nI_nlt h hb
theorem nI_lit (k : Nat) : Int32.ofNat k = nI k := rfl
def hzS (f : Nat → Int64) : Nat → Int64
  | 0 => 0
  | n + 1 => hzS f n + f n
def hzJ (f : Nat → Int32) : Nat → Int32
  | 0 => 0
  | n + 1 => hzJ f n + f n
theorem hzS_congr {f f' : Nat → Int64} : ∀ n : Nat, (∀ j, j < n → f j = f' j) → hzS f n = hzS f' n
  | 0, _ => rfl
  | n + 1, h => by rw [hzS, hzS, hzS_congr n (fun j hj => h j (Nat.lt_succ_of_lt hj)), h n (Nat.lt_succ_self n)]
theorem hzJ_congr {f f' : Nat → Int32} : ∀ n : Nat, (∀ j, j < n → f j = f' j) → hzJ f n = hzJ f' n
  | 0, _ => rfl
  | n + 1, h => by rw [hzJ, hzJ, hzJ_congr n (fun j hj => h j (Nat.lt_succ_of_lt hj)), h n (Nat.lt_succ_self n)]
theorem hwU3_get {α : Type} (f : Nat → Nat → Nat → α) (t r k a b c : Nat) (v : α) : hwU3 f t r k v a b c = if a = t ∧ b = r ∧ c = k then v else f a b c := by
  unfold hwU3
  by_cases h1 : a = t
  · by_cases h2 : b = r
    · by_cases h3 : c = k
      · subst h1; subst h2; subst h3; simp
      · rw [if_neg (fun h => h3 h.2.2)]
        have : Nat.beq c k = false := by
          cases hb : Nat.beq c k with
          | false => rfl
          | true => exact absurd (Nat.eq_of_beq_eq_true hb) h3
        simp [this]
    · rw [if_neg (fun h => h2 h.2.1)]
      have : Nat.beq b r = false := by
        cases hb : Nat.beq b r with
        | false => rfl
        | true => exact absurd (Nat.eq_of_beq_eq_true hb) h2
      simp [this]
  · rw [if_neg (fun h => h1 h.1)]
    have : Nat.beq a t = false := by
      cases hb : Nat.beq a t with
      | false => rfl
      | true => exact absurd (Nat.eq_of_beq_eq_true hb) h1
    simp [this]
theorem hwU3_t {α : Type} {f : Nat → Nat → Nat → α} {t r k a : Nat} {v : α} (h : a ≠ t) : hwU3 f t r k v a = f a := by
  funext b c; rw [hwU3_get, if_neg (fun q => h q.1)]
theorem hwU3_r {α : Type} {f : Nat → Nat → Nat → α} {t r k a b : Nat} {v : α} (h : b ≠ r) : hwU3 f t r k v a b = f a b := by
  funext c; rw [hwU3_get, if_neg (fun q => h q.2.1)]
theorem hwU3_k {α : Type} {f : Nat → Nat → Nat → α} {t r k a b c : Nat} {v : α} (h : c ≠ k) : hwU3 f t r k v a b c = f a b c := by
  rw [hwU3_get, if_neg (fun q => h q.2.2)]
theorem hwU3_eq {α : Type} {f : Nat → Nat → Nat → α} {t r k : Nat} {v : α} : hwU3 f t r k v t r k = v := by
  rw [hwU3_get, if_pos ⟨rfl, rfl, rfl⟩]
theorem hwU2_get {α : Type} (f : Nat → Nat → α) (t k a c : Nat) (v : α) : hwU2 f t k v a c = if a = t ∧ c = k then v else f a c := by
  by_cases h : a = t ∧ c = k
  · obtain ⟨rfl, rfl⟩ := h; rw [if_pos ⟨rfl, rfl⟩, hwU2_eq]
  · rw [if_neg h, hwU2_ne h]
/-- what the reference holds and keeps -/
def gM (σ : Mem) : Nat → Nat → Int32 := fun t k => bif Nat.beq t 12 then (bif Nat.ble k 40 then σ.1 12 k else 0) else bif Nat.ble 72 t && Nat.ble t 97 then σ.2.2.1 t 0 k else 0
theorem gM_f (σ : Mem) {k : Nat} (h : k ≤ 40) : gM σ 12 k = σ.1 12 k := by
  have : Nat.ble k 40 = true := Nat.ble_eq_true_of_le h
  simp [gM, this]
theorem gM_a (σ : Mem) {t : Nat} (h1 : 72 ≤ t) (h2 : t ≤ 97) (k : Nat) : gM σ t k = σ.2.2.1 t 0 k := by
  have e1 : Nat.ble 72 t = true := Nat.ble_eq_true_of_le h1
  have e2 : Nat.ble t 97 = true := Nat.ble_eq_true_of_le h2
  have e3 : Nat.beq t 12 = false := by
    cases hb : Nat.beq t 12 with
    | false => rfl
    | true => have := Nat.eq_of_beq_eq_true hb; omega
  simp [gM, e1, e2, e3]
/-- the reference's scratch alone differs -/
def KM (σ τ : Mem) : Prop := (∀ t, t ≠ 12 → τ.1 t = σ.1 t) ∧ (∀ k, k ≤ 40 → τ.1 12 k = σ.1 12 k) ∧ (∀ t, t ≠ 12 → τ.2.1 t = σ.2.1 t) ∧ (∀ t, t < 98 → τ.2.2.1 t = σ.2.2.1 t) ∧ τ.2.2.1 98 = σ.2.2.1 98 ∧ (∀ t, t < 102 → τ.2.2.2.1 t = σ.2.2.2.1 t) ∧ τ.2.2.2.2 = σ.2.2.2.2
theorem KM.rfl_ (σ : Mem) : KM σ σ := ⟨fun _ _ => rfl, fun _ _ => rfl, fun _ _ => rfl, fun _ _ => rfl, rfl, fun _ _ => rfl, rfl⟩
theorem KM.trans {σ τ υ : Mem} (h : KM σ τ) (k : KM τ υ) : KM σ υ :=
  ⟨fun t ht => (k.1 t ht).trans (h.1 t ht), fun t ht => (k.2.1 t ht).trans (h.2.1 t ht), fun t ht => (k.2.2.1 t ht).trans (h.2.2.1 t ht), fun t ht => (k.2.2.2.1 t ht).trans (h.2.2.2.1 t ht), k.2.2.2.2.1.trans h.2.2.2.2.1, fun t ht => (k.2.2.2.2.2.1 t ht).trans (h.2.2.2.2.2.1 t ht), k.2.2.2.2.2.2.trans h.2.2.2.2.2.2⟩
theorem KM.g {σ τ : Mem} (h : KM σ τ) : gM τ = gM σ := by
  funext t k
  unfold gM
  cases Nat.beq t 12 with
  | true =>
    cases hk : Nat.ble k 40 with
    | true => exact h.2.1 k (Nat.le_of_ble_eq_true hk)
    | false => rfl
  | false =>
    cases h1 : (Nat.ble 72 t && Nat.ble t 97) with
    | false => rfl
    | true =>
      have h2 := Nat.le_of_ble_eq_true (and_t h1).2
      show τ.2.2.1 t 0 k = σ.2.2.1 t 0 k
      rw [h.2.2.2.1 t (by omega)]
/-- the narrower one: stack, names, thought and dry rows -/
def KQ (σ τ : Mem) : Prop := τ.1 = σ.1 ∧ τ.2.1 = σ.2.1 ∧ (∀ t, t ≠ 100 → t ≠ 101 → τ.2.2.1 t = σ.2.2.1 t) ∧ (∀ t, t ≠ 102 → t ≠ 103 → τ.2.2.2.1 t = σ.2.2.2.1 t) ∧ τ.2.2.2.2 = σ.2.2.2.2
theorem KQ.rfl_ (σ : Mem) : KQ σ σ := ⟨rfl, rfl, fun _ _ _ => rfl, fun _ _ _ => rfl, rfl⟩
theorem KQ.trans {σ τ υ : Mem} (h : KQ σ τ) (k : KQ τ υ) : KQ σ υ :=
  ⟨k.1.trans h.1, k.2.1.trans h.2.1, fun t h1 h2 => (k.2.2.1 t h1 h2).trans (h.2.2.1 t h1 h2), fun t h1 h2 => (k.2.2.2.1 t h1 h2).trans (h.2.2.2.1 t h1 h2), k.2.2.2.2.trans h.2.2.2.2⟩
theorem KQ.m {σ τ : Mem} (h : KQ σ τ) : KM σ τ :=
  ⟨fun t _ => congrFun h.1 t, fun k _ => congrFun (congrFun h.1 12) k, fun t _ => congrFun h.2.1 t, fun t ht => h.2.2.1 t (by omega) (by omega), h.2.2.1 98 (by omega) (by omega), fun t ht => h.2.2.2.1 t (by omega) (by omega), h.2.2.2.2⟩
theorem KQ.g {σ τ : Mem} (h : KQ σ τ) : gM τ = gM σ := h.m.g
/-- the evaluator's: stack and names alone -/
def KE (σ τ : Mem) : Prop := τ.1 = σ.1 ∧ τ.2.1 = σ.2.1 ∧ (∀ t, t ≠ 100 → t ≠ 101 → τ.2.2.1 t = σ.2.2.1 t) ∧ τ.2.2.2 = σ.2.2.2
theorem KE.rfl_ (σ : Mem) : KE σ σ := ⟨rfl, rfl, fun _ _ _ => rfl, rfl⟩
theorem KE.trans {σ τ υ : Mem} (h : KE σ τ) (k : KE τ υ) : KE σ υ := ⟨k.1.trans h.1, k.2.1.trans h.2.1, fun t h1 h2 => (k.2.2.1 t h1 h2).trans (h.2.2.1 t h1 h2), k.2.2.2.trans h.2.2.2⟩
theorem KE.q {σ τ : Mem} (h : KE σ τ) : KQ σ τ := ⟨h.1, h.2.1, h.2.2.1, fun t _ _ => by rw [h.2.2.2], by rw [h.2.2.2]⟩
theorem KE.g {σ τ : Mem} (h : KE σ τ) : gM τ = gM σ := h.q.g
/-- of the class: the thought, dry, mine, their rows alone -/
def KX (σ τ : Mem) : Prop := τ.1 = σ.1 ∧ τ.2.1 = σ.2.1 ∧ τ.2.2.1 = σ.2.2.1 ∧ (∀ t, ¬ (50 ≤ t ∧ t ≤ 53) → τ.2.2.2.1 t = σ.2.2.2.1 t) ∧ τ.2.2.2.2 = σ.2.2.2.2
theorem KX.rfl_ (σ : Mem) : KX σ σ := ⟨rfl, rfl, rfl, fun _ _ => rfl, rfl⟩
theorem KX.trans {σ τ υ : Mem} (h : KX σ τ) (k : KX τ υ) : KX σ υ :=
  ⟨k.1.trans h.1, k.2.1.trans h.2.1, k.2.2.1.trans h.2.2.1, fun t h1 => (k.2.2.2.1 t h1).trans (h.2.2.2.1 t h1), k.2.2.2.2.trans h.2.2.2.2⟩
theorem KX.w {σ : Mem} {t r k : Nat} {v : Int64} (h : 50 ≤ t ∧ t ≤ 53) : KX σ (σ.1, σ.2.1, σ.2.2.1, hwU3 σ.2.2.2.1 t r k v, σ.2.2.2.2) :=
  ⟨rfl, rfl, rfl, fun a ha => hwU3_t (fun e => ha (e ▸ h)), rfl⟩
theorem KX.g {σ τ : Mem} (h : KX σ τ) : gM τ = gM σ := by
  unfold gM; rw [h.1, h.2.2.1]
/-- of the class: its own scratch (what a question writes): rows, the ledger's and the digging's fields -/
def KY (σ τ : Mem) : Prop := (∀ t, t ≠ 9 → t ≠ 10 → τ.1 t = σ.1 t) ∧ (∀ t, t ≠ 9 → t ≠ 10 → τ.2.1 t = σ.2.1 t) ∧ τ.2.2.1 = σ.2.2.1 ∧ (∀ t, ¬ (50 ≤ t ∧ t ≤ 53) → τ.2.2.2.1 t = σ.2.2.2.1 t) ∧ τ.2.2.2.2 = σ.2.2.2.2
theorem KX.y {σ τ : Mem} (h : KX σ τ) : KY σ τ := ⟨fun t _ _ => congrFun h.1 t, fun t _ _ => congrFun h.2.1 t, h.2.2.1, h.2.2.2.1, h.2.2.2.2⟩
theorem KY.rfl_ (σ : Mem) : KY σ σ := (KX.rfl_ σ).y
theorem KY.trans {σ τ υ : Mem} (h : KY σ τ) (k : KY τ υ) : KY σ υ :=
  ⟨fun t h1 h2 => (k.1 t h1 h2).trans (h.1 t h1 h2), fun t h1 h2 => (k.2.1 t h1 h2).trans (h.2.1 t h1 h2), k.2.2.1.trans h.2.2.1, fun t h1 => (k.2.2.2.1 t h1).trans (h.2.2.2.1 t h1), k.2.2.2.2.trans h.2.2.2.2⟩
theorem KY.g {σ τ : Mem} (h : KY σ τ) : gM τ = gM σ := by
  unfold gM; rw [h.2.2.1, h.1 12 (by decide) (by decide)]
/-! THE LAW'S CODES: what they come to -/
def sTwo (c a b : Int32) : Int32 :=
  if c = 11 then (if a = 0 then (if b = 0 then 0 else 1) else 1) else if c = 12 then (if a = 0 then 0 else if b = 0 then 0 else 1) else if c = 14 then (if b ≤ a then 0 else 1) else if c = 15 then (if a = b then 1 else 0) else if c = 16 then a + b else if c = 17 then a - b else a * b
def sStep (nm : Nat → Int32) (c : Int32) (st : List Int32) : List Int32 :=
  if (100000 : Int32) ≤ c then (c - 100000) :: st else if (11 : Int32) ≤ c then (if c = 13 then (match st with
    | a :: r => (if a = 0 then 1 else 0) :: r
    | [] => []) else if c = 19 then (match st with
    | a :: r => (-a) :: r
    | [] => []) else (match st with
    | b :: a :: r => sTwo c a b :: r
    | _ => st)) else nm c.toNatClampNeg :: st
def sEv (nm : Nat → Int32) : List Int32 → List Int32 → List Int32
  | [], st => st
  | c :: cs, st => sEv nm cs (sStep nm c st)
/-- a code that stands for a value; one that turns the last; one that joins the last two -/
def sIsV (c : Int32) : Bool := (decide ((100000 : Int32) ≤ c) && decide (c < 110000)) || (decide (0 ≤ c) && decide (c < 6))
def sIsT (c : Int32) : Bool := decide (c = 13) || decide (c = 19)
def sIsJ (c : Int32) : Bool := decide (c = 11) || (decide (c = 12) || (decide (14 ≤ c) && decide (c ≤ 18)))
def sOk : List Int32 → Nat → Bool
  | [], d => Nat.beq d 1
  | c :: r, d => bif sIsV c then sOk r (d + 1) else bif sIsT c then Nat.ble 1 d && sOk r d else sIsJ c && (Nat.ble 2 d && sOk r (d - 1))
def sClamp (most v : Int32) : Int32 := if 0 ≤ v then (if v ≤ most then v else most) else 0
def sSt (g : Nat → Nat → Int32) (t part : Nat) : Nat := (g 88 (4 * t + part)).toNatClampNeg
def sCs (g : Nat → Nat → Int32) (t part : Nat) : List Int32 := (List.range (sSt g t (part + 1) - sSt g t part)).map (fun i => g 87 (200 * t + (sSt g t part + i)))
def sRl (g : Nat → Nat → Int32) : Nat := (g 12 28).toNatClampNeg
def sVal (g : Nat → Nat → Int32) (part : Nat) (most : Int32) (nm : Nat → Int32) : Int32 := sClamp most ((sEv nm (sCs g (sRl g) part) []).headD 0)
def sNm (a b c d e f : Int32) : Nat → Int32 := fun k => match k with
  | 0 => a
  | 1 => b
  | 2 => c
  | 3 => d
  | 4 => e
  | 5 => f
  | _ => 0
def sCost (g : Nat → Nat → Int32) (y : Nat) : Int32 := sVal g 0 999 (sNm (nI y) 0 0 0 (g 12 2) 0)
def sWat (g : Nat → Nat → Int32) (y j : Nat) : Int32 := sVal g 1 100 (sNm (nI y) (nI j) (g 72 j) (g 73 j) (g 12 2) 0)
def sFall (g : Nat → Nat → Int32) (b y : Nat) : Int32 := sVal g 2 100 (sNm (nI y) 0 0 0 (g 12 2) (nI b))
/-- a code of the reference as the class writes it -/
def sTr (c : Int32) : Int32 := if (100000 : Int32) ≤ c then c - 100000 else if c < 11 then 10000 + c else if c = 11 then 20007 else if c = 12 then 20008 else if c = 13 then 30009 else if c = 14 then 20060 else if c = 15 then 20061 else if c = 16 then 20043 else if c = 17 then 20045 else if c = 18 then 20042 else 30045
/-- THE CLASS holds the same, but what it reckons ahead -/
def HX0 (σ : Mem) (g : Nat → Nat → Int32) : Prop :=
  (σ.1 1 6 = g 12 5) ∧
  (∀ k, k < 5 → σ.2.2.1 28 0 k = g 12 k) ∧
  (∀ k, k < 5 → σ.2.2.1 22 0 k = g 72 k) ∧
  (∀ k, k < 5 → σ.2.2.1 23 0 k = g 73 k) ∧
  (∀ k, k < 5 → σ.2.2.1 24 0 k = g 74 k) ∧
  (∀ i j, i < 5 → j < 5 → σ.2.2.1 26 i j = g 75 (5 * i + j)) ∧
  (∀ i, i < 5 → σ.2.2.1 27 0 i = hzJ (fun j => g 75 (5 * i + j)) 5) ∧
  (σ.1 4 5 = g 12 10) ∧
  (∀ i j, i < 4 → j < 5 → σ.2.2.1 55 i j = g 76 (5 * i + j)) ∧
  (∀ i j, i < 4 → j < 5 → σ.2.2.1 57 i j = g 79 (5 * i + j)) ∧
  (∀ k, k < 4 → σ.2.2.1 58 0 k = g 77 k) ∧
  (∀ k, k < 4 → σ.2.2.1 59 0 k = g 78 k) ∧
  (∀ i j, i < 4 → j < 4 → σ.2.2.1 61 i j = g 80 (4 * i + j)) ∧
  (σ.1 6 4 = g 12 16) ∧
  (∀ k, k < 8 → σ.2.2.1 65 0 k = g 81 k) ∧
  (∀ k, k < 8 → σ.2.2.1 66 0 k = g 82 k) ∧
  (∀ k, k < 8 → σ.2.2.1 67 0 k = g 83 k) ∧
  (σ.1 7 2 = g 12 20) ∧
  (∀ k, k < 6 → σ.2.2.1 20 0 k = g 84 k) ∧
  (∀ k, k < 6 → σ.2.2.1 21 0 k = g 85 k) ∧
  (σ.1 3 3 = g 12 24) ∧
  (∀ k, k < (g 12 24).toNatClampNeg → σ.2.2.1 62 0 k = g 86 k) ∧
  (σ.1 2 9 = g 12 27) ∧
  (σ.1 2 10 = g 12 28) ∧
  (σ.1 11 11 = g 12 29) ∧
  (σ.1 11 9 = g 12 30) ∧
  (σ.1 11 10 = g 12 31) ∧
  (σ.1 11 8 = g 12 34) ∧
  (∀ k, k < 5 → σ.2.2.1 29 0 k = g 89 k) ∧
  (∀ i j, i < 5 → j < 5 → σ.2.2.1 31 i j = g 90 (5 * i + j)) ∧
  (∀ k, k < 4 → σ.2.2.1 34 0 k = g 91 k) ∧
  (∀ k, k < 4 → σ.2.2.1 35 0 k = g 92 k) ∧
  (∀ i j, i < 4 → j < 5 → σ.2.2.1 33 i j = g 93 (5 * i + j)) ∧
  (∀ i j, i < 4 → j < 4 → σ.2.2.1 37 i j = g 94 (4 * i + j)) ∧
  (∀ k, k < 4 → σ.2.2.1 70 0 k = g 95 k) ∧
  (∀ k, k < 4 → σ.2.2.1 71 0 k = g 96 k) ∧
  (∀ i j, i < 4 → j < 40 → σ.2.2.1 69 i j = g 97 (40 * i + j)) ∧
  (∀ t q, t < (g 12 27).toNatClampNeg → q < 3 → σ.2.2.1 41 t q = nI (sSt g t q + q) ∧ (∀ i, i < sSt g t (q + 1) - sSt g t q → σ.2.2.1 39 t (sSt g t q + q + i) = sTr (g 87 (200 * t + (sSt g t q + i)))) ∧ σ.2.2.1 39 t (sSt g t (q + 1) + q) = 40000)
/-- what the class reckons ahead -/
def HC (σ : Mem) (g : Nat → Nat → Int32) : Prop :=
  (∀ y, 1 ≤ y → y ≤ 5 → σ.2.2.1 42 0 y = sCost g y) ∧
  (∀ y j, 1 ≤ y → y ≤ 5 → j < (g 12 5).toNatClampNeg → σ.2.2.1 44 y j = sWat g y j) ∧
  (∀ b y, b < 2 → 1 ≤ y → y ≤ 5 → σ.2.2.1 46 b y = sFall g b y)
def HX (σ : Mem) (g : Nat → Nat → Int32) : Prop := HX0 σ g ∧ HC σ g
theorem HX0.ly {σ : Mem} {g : Nat → Nat → Int32} (h : HX0 σ g) : σ.1 1 6 = g 12 5 := h.1
theorem HX0.set {σ : Mem} {g : Nat → Nat → Int32} (h : HX0 σ g) : ∀ k, k < 5 → σ.2.2.1 28 0 k = g 12 k := h.2.1
theorem HX0.bs {σ : Mem} {g : Nat → Nat → Int32} (h : HX0 σ g) : ∀ k, k < 5 → σ.2.2.1 22 0 k = g 72 k := h.2.2.1
theorem HX0.sa {σ : Mem} {g : Nat → Nat → Int32} (h : HX0 σ g) : ∀ k, k < 5 → σ.2.2.1 23 0 k = g 73 k := h.2.2.2.1
theorem HX0.si {σ : Mem} {g : Nat → Nat → Int32} (h : HX0 σ g) : ∀ k, k < 5 → σ.2.2.1 24 0 k = g 74 k := h.2.2.2.2.1
theorem HX0.fo {σ : Mem} {g : Nat → Nat → Int32} (h : HX0 σ g) : ∀ i j, i < 5 → j < 5 → σ.2.2.1 26 i j = g 75 (5 * i + j) := h.2.2.2.2.2.1
theorem HX0.al {σ : Mem} {g : Nat → Nat → Int32} (h : HX0 σ g) : ∀ i, i < 5 → σ.2.2.1 27 0 i = hzJ (fun j => g 75 (5 * i + j)) 5 := h.2.2.2.2.2.2.1
theorem HX0.pl {σ : Mem} {g : Nat → Nat → Int32} (h : HX0 σ g) : σ.1 4 5 = g 12 10 := h.2.2.2.2.2.2.2.1
theorem HX0.fi {σ : Mem} {g : Nat → Nat → Int32} (h : HX0 σ g) : ∀ i j, i < 4 → j < 5 → σ.2.2.1 55 i j = g 76 (5 * i + j) := h.2.2.2.2.2.2.2.2.1
theorem HX0.sg {σ : Mem} {g : Nat → Nat → Int32} (h : HX0 σ g) : ∀ i j, i < 4 → j < 5 → σ.2.2.1 57 i j = g 79 (5 * i + j) := h.2.2.2.2.2.2.2.2.2.1
theorem HX0.dy {σ : Mem} {g : Nat → Nat → Int32} (h : HX0 σ g) : ∀ k, k < 4 → σ.2.2.1 58 0 k = g 77 k := h.2.2.2.2.2.2.2.2.2.2.1
theorem HX0.wa {σ : Mem} {g : Nat → Nat → Int32} (h : HX0 σ g) : ∀ k, k < 4 → σ.2.2.1 59 0 k = g 78 k := h.2.2.2.2.2.2.2.2.2.2.2.1
theorem HX0.ti {σ : Mem} {g : Nat → Nat → Int32} (h : HX0 σ g) : ∀ i j, i < 4 → j < 4 → σ.2.2.1 61 i j = g 80 (4 * i + j) := h.2.2.2.2.2.2.2.2.2.2.2.2.1
theorem HX0.ru {σ : Mem} {g : Nat → Nat → Int32} (h : HX0 σ g) : σ.1 6 4 = g 12 16 := h.2.2.2.2.2.2.2.2.2.2.2.2.2.1
theorem HX0.ki {σ : Mem} {g : Nat → Nat → Int32} (h : HX0 σ g) : ∀ k, k < 8 → σ.2.2.1 65 0 k = g 81 k := h.2.2.2.2.2.2.2.2.2.2.2.2.2.2.1
theorem HX0.mo {σ : Mem} {g : Nat → Nat → Int32} (h : HX0 σ g) : ∀ k, k < 8 → σ.2.2.1 66 0 k = g 82 k := h.2.2.2.2.2.2.2.2.2.2.2.2.2.2.2.1
theorem HX0.sp {σ : Mem} {g : Nat → Nat → Int32} (h : HX0 σ g) : ∀ k, k < 8 → σ.2.2.1 67 0 k = g 83 k := h.2.2.2.2.2.2.2.2.2.2.2.2.2.2.2.2.1
theorem HX0.fa {σ : Mem} {g : Nat → Nat → Int32} (h : HX0 σ g) : σ.1 7 2 = g 12 20 := h.2.2.2.2.2.2.2.2.2.2.2.2.2.2.2.2.2.1
theorem HX0.fp {σ : Mem} {g : Nat → Nat → Int32} (h : HX0 σ g) : ∀ k, k < 6 → σ.2.2.1 20 0 k = g 84 k := h.2.2.2.2.2.2.2.2.2.2.2.2.2.2.2.2.2.2.1
theorem HX0.fn {σ : Mem} {g : Nat → Nat → Int32} (h : HX0 σ g) : ∀ k, k < 6 → σ.2.2.1 21 0 k = g 85 k := h.2.2.2.2.2.2.2.2.2.2.2.2.2.2.2.2.2.2.2.1
theorem HX0.td {σ : Mem} {g : Nat → Nat → Int32} (h : HX0 σ g) : σ.1 3 3 = g 12 24 := h.2.2.2.2.2.2.2.2.2.2.2.2.2.2.2.2.2.2.2.2.1
theorem HX0.tp {σ : Mem} {g : Nat → Nat → Int32} (h : HX0 σ g) : ∀ k, k < (g 12 24).toNatClampNeg → σ.2.2.1 62 0 k = g 86 k := h.2.2.2.2.2.2.2.2.2.2.2.2.2.2.2.2.2.2.2.2.2.1
theorem HX0.tx {σ : Mem} {g : Nat → Nat → Int32} (h : HX0 σ g) : σ.1 2 9 = g 12 27 := h.2.2.2.2.2.2.2.2.2.2.2.2.2.2.2.2.2.2.2.2.2.2.1
theorem HX0.rl {σ : Mem} {g : Nat → Nat → Int32} (h : HX0 σ g) : σ.1 2 10 = g 12 28 := h.2.2.2.2.2.2.2.2.2.2.2.2.2.2.2.2.2.2.2.2.2.2.2.1
theorem HX0.im {σ : Mem} {g : Nat → Nat → Int32} (h : HX0 σ g) : σ.1 11 11 = g 12 29 := h.2.2.2.2.2.2.2.2.2.2.2.2.2.2.2.2.2.2.2.2.2.2.2.2.1
theorem HX0.is {σ : Mem} {g : Nat → Nat → Int32} (h : HX0 σ g) : σ.1 11 9 = g 12 30 := h.2.2.2.2.2.2.2.2.2.2.2.2.2.2.2.2.2.2.2.2.2.2.2.2.2.1
theorem HX0.ir {σ : Mem} {g : Nat → Nat → Int32} (h : HX0 σ g) : σ.1 11 10 = g 12 31 := h.2.2.2.2.2.2.2.2.2.2.2.2.2.2.2.2.2.2.2.2.2.2.2.2.2.2.1
theorem HX0.il {σ : Mem} {g : Nat → Nat → Int32} (h : HX0 σ g) : σ.1 11 8 = g 12 34 := h.2.2.2.2.2.2.2.2.2.2.2.2.2.2.2.2.2.2.2.2.2.2.2.2.2.2.2.1
theorem HX0.ih {σ : Mem} {g : Nat → Nat → Int32} (h : HX0 σ g) : ∀ k, k < 5 → σ.2.2.1 29 0 k = g 89 k := h.2.2.2.2.2.2.2.2.2.2.2.2.2.2.2.2.2.2.2.2.2.2.2.2.2.2.2.2.1
theorem HX0.if_ {σ : Mem} {g : Nat → Nat → Int32} (h : HX0 σ g) : ∀ i j, i < 5 → j < 5 → σ.2.2.1 31 i j = g 90 (5 * i + j) := h.2.2.2.2.2.2.2.2.2.2.2.2.2.2.2.2.2.2.2.2.2.2.2.2.2.2.2.2.2.1
theorem HX0.id_ {σ : Mem} {g : Nat → Nat → Int32} (h : HX0 σ g) : ∀ k, k < 4 → σ.2.2.1 34 0 k = g 91 k := h.2.2.2.2.2.2.2.2.2.2.2.2.2.2.2.2.2.2.2.2.2.2.2.2.2.2.2.2.2.2.1
theorem HX0.iw {σ : Mem} {g : Nat → Nat → Int32} (h : HX0 σ g) : ∀ k, k < 4 → σ.2.2.1 35 0 k = g 92 k := h.2.2.2.2.2.2.2.2.2.2.2.2.2.2.2.2.2.2.2.2.2.2.2.2.2.2.2.2.2.2.2.1
theorem HX0.ig {σ : Mem} {g : Nat → Nat → Int32} (h : HX0 σ g) : ∀ i j, i < 4 → j < 5 → σ.2.2.1 33 i j = g 93 (5 * i + j) := h.2.2.2.2.2.2.2.2.2.2.2.2.2.2.2.2.2.2.2.2.2.2.2.2.2.2.2.2.2.2.2.2.1
theorem HX0.it {σ : Mem} {g : Nat → Nat → Int32} (h : HX0 σ g) : ∀ i j, i < 4 → j < 4 → σ.2.2.1 37 i j = g 94 (4 * i + j) := h.2.2.2.2.2.2.2.2.2.2.2.2.2.2.2.2.2.2.2.2.2.2.2.2.2.2.2.2.2.2.2.2.2.1
theorem HX0.so {σ : Mem} {g : Nat → Nat → Int32} (h : HX0 σ g) : ∀ k, k < 4 → σ.2.2.1 70 0 k = g 95 k := h.2.2.2.2.2.2.2.2.2.2.2.2.2.2.2.2.2.2.2.2.2.2.2.2.2.2.2.2.2.2.2.2.2.2.1
theorem HX0.sz {σ : Mem} {g : Nat → Nat → Int32} (h : HX0 σ g) : ∀ k, k < 4 → σ.2.2.1 71 0 k = g 96 k := h.2.2.2.2.2.2.2.2.2.2.2.2.2.2.2.2.2.2.2.2.2.2.2.2.2.2.2.2.2.2.2.2.2.2.2.1
theorem HX0.ce {σ : Mem} {g : Nat → Nat → Int32} (h : HX0 σ g) : ∀ i j, i < 4 → j < 40 → σ.2.2.1 69 i j = g 97 (40 * i + j) := h.2.2.2.2.2.2.2.2.2.2.2.2.2.2.2.2.2.2.2.2.2.2.2.2.2.2.2.2.2.2.2.2.2.2.2.2.1
theorem HX0.cs {σ : Mem} {g : Nat → Nat → Int32} (h : HX0 σ g) : ∀ t q, t < (g 12 27).toNatClampNeg → q < 3 → σ.2.2.1 41 t q = nI (sSt g t q + q) ∧ (∀ i, i < sSt g t (q + 1) - sSt g t q → σ.2.2.1 39 t (sSt g t q + q + i) = sTr (g 87 (200 * t + (sSt g t q + i)))) ∧ σ.2.2.1 39 t (sSt g t (q + 1) + q) = 40000 := h.2.2.2.2.2.2.2.2.2.2.2.2.2.2.2.2.2.2.2.2.2.2.2.2.2.2.2.2.2.2.2.2.2.2.2.2.2
theorem HC.co {σ : Mem} {g : Nat → Nat → Int32} (h : HC σ g) : ∀ y, 1 ≤ y → y ≤ 5 → σ.2.2.1 42 0 y = sCost g y := h.1
theorem HC.wt {σ : Mem} {g : Nat → Nat → Int32} (h : HC σ g) : ∀ y j, 1 ≤ y → y ≤ 5 → j < (g 12 5).toNatClampNeg → σ.2.2.1 44 y j = sWat g y j := h.2.1
theorem HC.fl {σ : Mem} {g : Nat → Nat → Int32} (h : HC σ g) : ∀ b y, b < 2 → 1 ≤ y → y ≤ 5 → σ.2.2.1 46 b y = sFall g b y := h.2.2
/-- what is so of it -/
def Wf (g : Nat → Nat → Int32) : Prop :=
  (isN (g 12 0) 5 ∧ 1 ≤ (g 12 0).toNatClampNeg) ∧
  (isN (g 12 1) 9999) ∧
  (isN (g 12 2) 9) ∧
  (isN (g 12 3) 9999) ∧
  (isN (g 12 4) 9999) ∧
  (isN (g 12 5) 5) ∧
  (isN (g 12 10) 4) ∧
  (isN (g 12 16) 8) ∧
  (isN (g 12 20) 6) ∧
  (isN (g 12 24) 160) ∧
  (isN (g 12 27) 6) ∧
  (isN (g 12 28) 5 ∧ (g 12 28).toNatClampNeg < (g 12 27).toNatClampNeg) ∧
  (isN (g 12 29) 1) ∧
  (isN (g 12 30) 4 ∧ (g 12 30).toNatClampNeg ≤ (g 12 10).toNatClampNeg) ∧
  (isN (g 12 31) 5 ∧ (g 12 31).toNatClampNeg < (g 12 27).toNatClampNeg) ∧
  (isN (g 12 34) 5 ∧ (g 12 34).toNatClampNeg ≤ (g 12 5).toNatClampNeg) ∧
  (∀ k, k < 5 → isN (g 72 k) 100) ∧
  (∀ k, k < 5 → isN (g 73 k) 9) ∧
  (∀ k, k < 5 → isN (g 74 k) 2) ∧
  (∀ k, k < 25 → isN (g 75 k) 9) ∧
  (∀ i j, i < 5 → j < 5 → (g 12 5).toNatClampNeg ≤ i ∨ (g 12 5).toNatClampNeg ≤ j → g 75 (5 * i + j) = 0) ∧
  (∀ k, k < 20 → isN (g 76 k) 99) ∧
  (∀ p j, p < 4 → j < 5 → (g 12 5).toNatClampNeg ≤ j → g 76 (5 * p + j) = 0) ∧
  (0 < (g 12 10).toNatClampNeg → 0 < (g 12 5).toNatClampNeg) ∧
  (∀ k, k < 4 → isN (g 77 k) 5) ∧
  (∀ k, k < 4 → isN (g 78 k) 1) ∧
  (∀ k, k < 20 → isN (g 79 k) 2) ∧
  (∀ k, k < 16 → isN (g 80 k) 100) ∧
  (∀ k, k < 8 → isN (g 81 k) 5) ∧
  (∀ k, k < 8 → isN (g 82 k) 5) ∧
  (∀ k, k < 8 → isN (g 83 k) 7) ∧
  (∀ k, k < 6 → isN (g 84 k) 99) ∧
  (∀ k, k < 6 → isN (g 85 k) 99 ∧ (k < (g 12 20).toNatClampNeg → 1 ≤ (g 85 k).toNatClampNeg)) ∧
  (∀ k, k < 160 → isN (g 86 k) 255) ∧
  ((isN (g 89 0) 5 ∧ (0 < (g 12 29).toNatClampNeg → 1 ≤ (g 89 0).toNatClampNeg)) ∧ isN (g 89 1) 9999 ∧ isN (g 89 2) 9 ∧ isN (g 89 3) 9999 ∧ isN (g 89 4) 9999) ∧
  (∀ k, k < 25 → isN (g 90 k) 9) ∧
  (∀ k, k < 4 → isN (g 91 k) 5) ∧
  (∀ k, k < 4 → isN (g 92 k) 1) ∧
  (∀ k, k < 20 → isN (g 93 k) 2) ∧
  (∀ k, k < 16 → isN (g 94 k) 100) ∧
  (∀ k, k < 4 → g 95 k = -1 ∨ isN (g 95 k) 2) ∧
  (∀ k, k < 4 → isN (g 96 k) 40) ∧
  (∀ t, t < (g 12 27).toNatClampNeg → (∀ q, q < 4 → g 88 (4 * t + q) = nI (sSt g t q)) ∧ (∀ q, q < 3 → sSt g t q ≤ sSt g t (q + 1)) ∧ sSt g t 3 ≤ 157 ∧ ∀ q, q < 3 → sOk (sCs g t q) 0 = true)
theorem Wf.dp {g : Nat → Nat → Int32} (h : Wf g) : isN (g 12 0) 5 ∧ 1 ≤ (g 12 0).toNatClampNeg := h.1
theorem Wf.wo {g : Nat → Nat → Int32} (h : Wf g) : isN (g 12 1) 9999 := h.2.1
theorem Wf.se {g : Nat → Nat → Int32} (h : Wf g) : isN (g 12 2) 9 := h.2.2.1
theorem Wf.pu {g : Nat → Nat → Int32} (h : Wf g) : isN (g 12 3) 9999 := h.2.2.2.1
theorem Wf.li {g : Nat → Nat → Int32} (h : Wf g) : isN (g 12 4) 9999 := h.2.2.2.2.1
theorem Wf.ly {g : Nat → Nat → Int32} (h : Wf g) : isN (g 12 5) 5 := h.2.2.2.2.2.1
theorem Wf.pl {g : Nat → Nat → Int32} (h : Wf g) : isN (g 12 10) 4 := h.2.2.2.2.2.2.1
theorem Wf.ru {g : Nat → Nat → Int32} (h : Wf g) : isN (g 12 16) 8 := h.2.2.2.2.2.2.2.1
theorem Wf.fa {g : Nat → Nat → Int32} (h : Wf g) : isN (g 12 20) 6 := h.2.2.2.2.2.2.2.2.1
theorem Wf.td {g : Nat → Nat → Int32} (h : Wf g) : isN (g 12 24) 160 := h.2.2.2.2.2.2.2.2.2.1
theorem Wf.tx {g : Nat → Nat → Int32} (h : Wf g) : isN (g 12 27) 6 := h.2.2.2.2.2.2.2.2.2.2.1
theorem Wf.rl {g : Nat → Nat → Int32} (h : Wf g) : isN (g 12 28) 5 ∧ (g 12 28).toNatClampNeg < (g 12 27).toNatClampNeg := h.2.2.2.2.2.2.2.2.2.2.2.1
theorem Wf.im {g : Nat → Nat → Int32} (h : Wf g) : isN (g 12 29) 1 := h.2.2.2.2.2.2.2.2.2.2.2.2.1
theorem Wf.is {g : Nat → Nat → Int32} (h : Wf g) : isN (g 12 30) 4 ∧ (g 12 30).toNatClampNeg ≤ (g 12 10).toNatClampNeg := h.2.2.2.2.2.2.2.2.2.2.2.2.2.1
theorem Wf.ir {g : Nat → Nat → Int32} (h : Wf g) : isN (g 12 31) 5 ∧ (g 12 31).toNatClampNeg < (g 12 27).toNatClampNeg := h.2.2.2.2.2.2.2.2.2.2.2.2.2.2.1
theorem Wf.il {g : Nat → Nat → Int32} (h : Wf g) : isN (g 12 34) 5 ∧ (g 12 34).toNatClampNeg ≤ (g 12 5).toNatClampNeg := h.2.2.2.2.2.2.2.2.2.2.2.2.2.2.2.1
theorem Wf.bs {g : Nat → Nat → Int32} (h : Wf g) : ∀ k, k < 5 → isN (g 72 k) 100 := h.2.2.2.2.2.2.2.2.2.2.2.2.2.2.2.2.1
theorem Wf.sa {g : Nat → Nat → Int32} (h : Wf g) : ∀ k, k < 5 → isN (g 73 k) 9 := h.2.2.2.2.2.2.2.2.2.2.2.2.2.2.2.2.2.1
theorem Wf.si {g : Nat → Nat → Int32} (h : Wf g) : ∀ k, k < 5 → isN (g 74 k) 2 := h.2.2.2.2.2.2.2.2.2.2.2.2.2.2.2.2.2.2.1
theorem Wf.fo {g : Nat → Nat → Int32} (h : Wf g) : ∀ k, k < 25 → isN (g 75 k) 9 := h.2.2.2.2.2.2.2.2.2.2.2.2.2.2.2.2.2.2.2.1
theorem Wf.fz {g : Nat → Nat → Int32} (h : Wf g) : ∀ i j, i < 5 → j < 5 → (g 12 5).toNatClampNeg ≤ i ∨ (g 12 5).toNatClampNeg ≤ j → g 75 (5 * i + j) = 0 := h.2.2.2.2.2.2.2.2.2.2.2.2.2.2.2.2.2.2.2.2.1
theorem Wf.fi {g : Nat → Nat → Int32} (h : Wf g) : ∀ k, k < 20 → isN (g 76 k) 99 := h.2.2.2.2.2.2.2.2.2.2.2.2.2.2.2.2.2.2.2.2.2.1
theorem Wf.iz {g : Nat → Nat → Int32} (h : Wf g) : ∀ p j, p < 4 → j < 5 → (g 12 5).toNatClampNeg ≤ j → g 76 (5 * p + j) = 0 := h.2.2.2.2.2.2.2.2.2.2.2.2.2.2.2.2.2.2.2.2.2.2.1
theorem Wf.lp {g : Nat → Nat → Int32} (h : Wf g) : 0 < (g 12 10).toNatClampNeg → 0 < (g 12 5).toNatClampNeg := h.2.2.2.2.2.2.2.2.2.2.2.2.2.2.2.2.2.2.2.2.2.2.2.1
theorem Wf.dy {g : Nat → Nat → Int32} (h : Wf g) : ∀ k, k < 4 → isN (g 77 k) 5 := h.2.2.2.2.2.2.2.2.2.2.2.2.2.2.2.2.2.2.2.2.2.2.2.2.1
theorem Wf.wa {g : Nat → Nat → Int32} (h : Wf g) : ∀ k, k < 4 → isN (g 78 k) 1 := h.2.2.2.2.2.2.2.2.2.2.2.2.2.2.2.2.2.2.2.2.2.2.2.2.2.1
theorem Wf.sg {g : Nat → Nat → Int32} (h : Wf g) : ∀ k, k < 20 → isN (g 79 k) 2 := h.2.2.2.2.2.2.2.2.2.2.2.2.2.2.2.2.2.2.2.2.2.2.2.2.2.2.1
theorem Wf.ti {g : Nat → Nat → Int32} (h : Wf g) : ∀ k, k < 16 → isN (g 80 k) 100 := h.2.2.2.2.2.2.2.2.2.2.2.2.2.2.2.2.2.2.2.2.2.2.2.2.2.2.2.1
theorem Wf.ki {g : Nat → Nat → Int32} (h : Wf g) : ∀ k, k < 8 → isN (g 81 k) 5 := h.2.2.2.2.2.2.2.2.2.2.2.2.2.2.2.2.2.2.2.2.2.2.2.2.2.2.2.2.1
theorem Wf.mo {g : Nat → Nat → Int32} (h : Wf g) : ∀ k, k < 8 → isN (g 82 k) 5 := h.2.2.2.2.2.2.2.2.2.2.2.2.2.2.2.2.2.2.2.2.2.2.2.2.2.2.2.2.2.1
theorem Wf.sp {g : Nat → Nat → Int32} (h : Wf g) : ∀ k, k < 8 → isN (g 83 k) 7 := h.2.2.2.2.2.2.2.2.2.2.2.2.2.2.2.2.2.2.2.2.2.2.2.2.2.2.2.2.2.2.1
theorem Wf.fp {g : Nat → Nat → Int32} (h : Wf g) : ∀ k, k < 6 → isN (g 84 k) 99 := h.2.2.2.2.2.2.2.2.2.2.2.2.2.2.2.2.2.2.2.2.2.2.2.2.2.2.2.2.2.2.2.1
theorem Wf.fn {g : Nat → Nat → Int32} (h : Wf g) : ∀ k, k < 6 → isN (g 85 k) 99 ∧ (k < (g 12 20).toNatClampNeg → 1 ≤ (g 85 k).toNatClampNeg) := h.2.2.2.2.2.2.2.2.2.2.2.2.2.2.2.2.2.2.2.2.2.2.2.2.2.2.2.2.2.2.2.2.1
theorem Wf.tp {g : Nat → Nat → Int32} (h : Wf g) : ∀ k, k < 160 → isN (g 86 k) 255 := h.2.2.2.2.2.2.2.2.2.2.2.2.2.2.2.2.2.2.2.2.2.2.2.2.2.2.2.2.2.2.2.2.2.1
theorem Wf.ih {g : Nat → Nat → Int32} (h : Wf g) : (isN (g 89 0) 5 ∧ (0 < (g 12 29).toNatClampNeg → 1 ≤ (g 89 0).toNatClampNeg)) ∧ isN (g 89 1) 9999 ∧ isN (g 89 2) 9 ∧ isN (g 89 3) 9999 ∧ isN (g 89 4) 9999 := h.2.2.2.2.2.2.2.2.2.2.2.2.2.2.2.2.2.2.2.2.2.2.2.2.2.2.2.2.2.2.2.2.2.2.1
theorem Wf.if_ {g : Nat → Nat → Int32} (h : Wf g) : ∀ k, k < 25 → isN (g 90 k) 9 := h.2.2.2.2.2.2.2.2.2.2.2.2.2.2.2.2.2.2.2.2.2.2.2.2.2.2.2.2.2.2.2.2.2.2.2.1
theorem Wf.id_ {g : Nat → Nat → Int32} (h : Wf g) : ∀ k, k < 4 → isN (g 91 k) 5 := h.2.2.2.2.2.2.2.2.2.2.2.2.2.2.2.2.2.2.2.2.2.2.2.2.2.2.2.2.2.2.2.2.2.2.2.2.1
theorem Wf.iw {g : Nat → Nat → Int32} (h : Wf g) : ∀ k, k < 4 → isN (g 92 k) 1 := h.2.2.2.2.2.2.2.2.2.2.2.2.2.2.2.2.2.2.2.2.2.2.2.2.2.2.2.2.2.2.2.2.2.2.2.2.2.1
theorem Wf.ig {g : Nat → Nat → Int32} (h : Wf g) : ∀ k, k < 20 → isN (g 93 k) 2 := h.2.2.2.2.2.2.2.2.2.2.2.2.2.2.2.2.2.2.2.2.2.2.2.2.2.2.2.2.2.2.2.2.2.2.2.2.2.2.1
theorem Wf.it {g : Nat → Nat → Int32} (h : Wf g) : ∀ k, k < 16 → isN (g 94 k) 100 := h.2.2.2.2.2.2.2.2.2.2.2.2.2.2.2.2.2.2.2.2.2.2.2.2.2.2.2.2.2.2.2.2.2.2.2.2.2.2.2.1
theorem Wf.so {g : Nat → Nat → Int32} (h : Wf g) : ∀ k, k < 4 → g 95 k = -1 ∨ isN (g 95 k) 2 := h.2.2.2.2.2.2.2.2.2.2.2.2.2.2.2.2.2.2.2.2.2.2.2.2.2.2.2.2.2.2.2.2.2.2.2.2.2.2.2.2.1
theorem Wf.sz {g : Nat → Nat → Int32} (h : Wf g) : ∀ k, k < 4 → isN (g 96 k) 40 := h.2.2.2.2.2.2.2.2.2.2.2.2.2.2.2.2.2.2.2.2.2.2.2.2.2.2.2.2.2.2.2.2.2.2.2.2.2.2.2.2.2.1
theorem Wf.cs {g : Nat → Nat → Int32} (h : Wf g) : ∀ t, t < (g 12 27).toNatClampNeg → (∀ q, q < 4 → g 88 (4 * t + q) = nI (sSt g t q)) ∧ (∀ q, q < 3 → sSt g t q ≤ sSt g t (q + 1)) ∧ sSt g t 3 ≤ 157 ∧ ∀ q, q < 3 → sOk (sCs g t q) 0 = true := h.2.2.2.2.2.2.2.2.2.2.2.2.2.2.2.2.2.2.2.2.2.2.2.2.2.2.2.2.2.2.2.2.2.2.2.2.2.2.2.2.2.2

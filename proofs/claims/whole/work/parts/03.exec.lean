/-! THE ABSTRACT MACHINE, 2: one instruction, calls, what a run comes to -/
def hwU2 {α : Type} (f : Nat → Nat → α) (t k : Nat) (v : α) : Nat → Nat → α := fun a b => bif Nat.beq a t && Nat.beq b k then v else f a b
def hwU3 {α : Type} (f : Nat → Nat → Nat → α) (t r k : Nat) (v : α) : Nat → Nat → Nat → α := fun a b c => bif Nat.beq a t && (Nat.beq b r && Nat.beq c k) then v else f a b c
def hwR3 {α : Type} (f : Nat → Nat → Nat → α) (t r : Nat) (g : Nat → α) : Nat → Nat → Nat → α := fun a b c => bif Nat.beq a t && Nat.beq b r then g c else f a b c
def hwC (a : Option AV) (n : Nat) : Option AV := match n, a with
  | 0, some (.inr (.inl _)) => none
  | _, a => a
def hwS1 : Lc → Nat → AV → Lc
  | [], _, _ => []
  | _ :: l, 0, v => some v :: l
  | a :: l, n + 1, v => hwC a n :: hwS1 l n v
def hwS2 : Lc → Nat → AV → Lc
  | [], _, _ => []
  | _ :: l, 0, v => some v :: (match l with | [] => [] | _ :: l' => none :: l')
  | a :: l, n + 1, v => hwC a n :: hwS2 l n v
def hwM : List Bool → Lc → Lc
  | [], l => l
  | _ :: _, [] => []
  | true :: b, a :: l => a :: hwM b l
  | false :: b, _ :: l => none :: hwM b l
def hwT (pc : Nat) (off : Int) : Option Nat := match (pc : Int) + off with
  | .ofNat t => some t
  | .negSucc _ => none
def hwCat : AV → Nat
  | .inr (.inl _) => 2
  | _ => 1
def hwCats : List AV → Nat
  | [] => 0
  | v :: l => hwCat v + hwCats l
abbrev Rs : Type := Option (Fr × Mem)
def hwLdI (n : Nat) (L : Lc) (st : List AV) (σ : Mem) (i : Nat) : Rs := match ntD none L i with
  | some (.inl x) => some ((n, L, .inl x :: st), σ)
  | _ => none
def hwLdL (n : Nat) (L : Lc) (st : List AV) (σ : Mem) (i : Nat) : Rs := match ntD none L i with
  | some (.inr (.inl x)) => some ((n, L, .inr (.inl x) :: st), σ)
  | _ => none
def hwLdR (n : Nat) (L : Lc) (st : List AV) (σ : Mem) (i : Nat) : Rs := match ntD none L i with
  | some (.inr (.inr q)) => some ((n, L, .inr (.inr q) :: st), σ)
  | _ => none
def hwStI (n : Nat) (L : Lc) (st : List AV) (σ : Mem) (i : Nat) : Rs := match st with
  | .inl x :: r => some ((n, hwS1 L i (.inl x), r), σ)
  | _ => none
def hwStR (n : Nat) (L : Lc) (st : List AV) (σ : Mem) (i : Nat) : Rs := match st with
  | .inr (.inr q) :: r => some ((n, hwS1 L i (.inr (.inr q)), r), σ)
  | _ => none
def hwStL (n : Nat) (L : Lc) (st : List AV) (σ : Mem) (i : Nat) : Rs := match st with
  | .inr (.inl x) :: r => some ((n, hwS2 L i (.inr (.inl x)), r), σ)
  | _ => none
def hwI2 (g : Int32 → Int32 → Int32) (n : Nat) (L : Lc) (st : List AV) (σ : Mem) : Rs := match st with
  | .inl y :: .inl x :: r => some ((n, L, .inl (g x y) :: r), σ)
  | _ => none
def hwI1 (g : Int32 → Int32) (n : Nat) (L : Lc) (st : List AV) (σ : Mem) : Rs := match st with
  | .inl x :: r => some ((n, L, .inl (g x) :: r), σ)
  | _ => none
def hwL2 (g : Int64 → Int64 → Int64) (n : Nat) (L : Lc) (st : List AV) (σ : Mem) : Rs := match st with
  | .inr (.inl y) :: .inr (.inl x) :: r => some ((n, L, .inr (.inl (g x y)) :: r), σ)
  | _ => none
def hwDivI (g : Int32 → Int32 → Int32) (n : Nat) (L : Lc) (st : List AV) (σ : Mem) : Rs := match st with
  | .inl y :: .inl x :: r => if y = 0 then none else some ((n, L, .inl (g x y) :: r), σ)
  | _ => none
def hwDivL (g : Int64 → Int64 → Int64) (n : Nat) (L : Lc) (st : List AV) (σ : Mem) : Rs := match st with
  | .inr (.inl y) :: .inr (.inl x) :: r => if y = 0 then none else some ((n, L, .inr (.inl (g x y)) :: r), σ)
  | _ => none
def hwShL (g : Int64 → Int32 → Int64) (n : Nat) (L : Lc) (st : List AV) (σ : Mem) : Rs := match st with
  | .inl y :: .inr (.inl x) :: r => some ((n, L, .inr (.inl (g x y)) :: r), σ)
  | _ => none
def hwIf0 (c : Jvm.ClassFile.Cond) (t n : Nat) (L : Lc) (st : List AV) (σ : Mem) : Rs := match st with
  | .inl x :: r => (match c with
    | .eq => if x = 0 then some ((t, L, r), σ) else some ((n, L, r), σ)
    | .ne => if x = 0 then some ((n, L, r), σ) else some ((t, L, r), σ)
    | .lt => if x < 0 then some ((t, L, r), σ) else some ((n, L, r), σ)
    | .ge => if 0 ≤ x then some ((t, L, r), σ) else some ((n, L, r), σ)
    | .gt => if 0 < x then some ((t, L, r), σ) else some ((n, L, r), σ)
    | .le => if x ≤ 0 then some ((t, L, r), σ) else some ((n, L, r), σ))
  | _ => none
def hwIf2 (c : Jvm.ClassFile.Cond) (t n : Nat) (L : Lc) (st : List AV) (σ : Mem) : Rs := match st with
  | .inl y :: .inl x :: r => (match c with
    | .eq => if x = y then some ((t, L, r), σ) else some ((n, L, r), σ)
    | .ne => if x = y then some ((n, L, r), σ) else some ((t, L, r), σ)
    | .lt => if x < y then some ((t, L, r), σ) else some ((n, L, r), σ)
    | .ge => if y ≤ x then some ((t, L, r), σ) else some ((n, L, r), σ)
    | .gt => if y < x then some ((t, L, r), σ) else some ((n, L, r), σ)
    | .le => if x ≤ y then some ((t, L, r), σ) else some ((n, L, r), σ))
  | _ => none
def hwGet (ci k : Nat) (n : Nat) (L : Lc) (st : List AV) (σ : Mem) : Rs := match st with
  | .inr (.inr (t, _)) :: r => (match hwSh t with
    | (0, c, _, fl) => bif Nat.beq c ci then (match ntD (9, 0) fl k with
      | (0, _) => some ((n, L, .inl (σ.1 t k) :: r), σ)
      | (1, _) => some ((n, L, .inr (.inl (σ.2.1 t k)) :: r), σ)
      | (2, u) => some ((n, L, .inr (.inr (u, 0)) :: r), σ)
      | (3, _) => some ((n, L, .inl (σ.1 t k) :: r), σ)
      | _ => none) else none
    | _ => none)
  | _ => none
def hwPut (ci k : Nat) (n : Nat) (L : Lc) (st : List AV) (σ : Mem) : Rs := match st with
  | .inl x :: .inr (.inr (t, _)) :: r => (match hwSh t with
    | (0, c, _, fl) => bif Nat.beq c ci then (match ntD (9, 0) fl k with
      | (0, _) => some ((n, L, r), (hwU2 σ.1 t k x, σ.2))
      | (3, _) => if x = 0 ∨ x = 1 then some ((n, L, r), (hwU2 σ.1 t k x, σ.2)) else none
      | _ => none) else none
    | _ => none)
  | .inr (.inl x) :: .inr (.inr (t, _)) :: r => (match hwSh t with
    | (0, c, _, fl) => bif Nat.beq c ci then (match ntD (9, 0) fl k with
      | (1, _) => some ((n, L, r), (σ.1, hwU2 σ.2.1 t k x, σ.2.2))
      | _ => none) else none
    | _ => none)
  | _ => none
/-- an index that is outside -/
abbrev hwOut (i : Int32) (n : Nat) : Prop := i < 0 ∨ n ≤ i.toNatClampNeg
def hwILd (n : Nat) (L : Lc) (st : List AV) (σ : Mem) : Rs := match st with
  | .inl i :: .inr (.inr (t, q)) :: r => (match hwSh t with
    | (1, m, _, _) => if hwOut i m then none else some ((n, L, .inl (σ.2.2.1 t q i.toNatClampNeg) :: r), σ)
    | (6, _, _, _) => if hwOut i σ.2.2.2.2.1 then none else some ((n, L, .inl (σ.2.2.2.2.2 i.toNatClampNeg) :: r), σ)
    | (7, a, _, _) => if hwOut i (ntD [] hwSA a).length then none else some ((n, L, .inl (ntD 0 (ntD [] hwSA a) i.toNatClampNeg) :: r), σ)
    | _ => none)
  | _ => none
def hwZLd (n : Nat) (L : Lc) (st : List AV) (σ : Mem) : Rs := match st with
  | .inl i :: .inr (.inr (t, q)) :: r => (match hwSh t with
    | (2, m, _, _) => if hwOut i m then none else some ((n, L, .inl (σ.2.2.1 t q i.toNatClampNeg) :: r), σ)
    | _ => none)
  | _ => none
def hwLLd (n : Nat) (L : Lc) (st : List AV) (σ : Mem) : Rs := match st with
  | .inl i :: .inr (.inr (t, q)) :: r => (match hwSh t with
    | (3, m, _, _) => if hwOut i m then none else some ((n, L, .inr (.inl (σ.2.2.2.1 t q i.toNatClampNeg)) :: r), σ)
    | _ => none)
  | _ => none
def hwRLd (n : Nat) (L : Lc) (st : List AV) (σ : Mem) : Rs := match st with
  | .inl i :: .inr (.inr (t, _)) :: r => (match hwSh t with
    | (4, m, u, _) => if hwOut i m then none else some ((n, L, .inr (.inr (u, i.toNatClampNeg)) :: r), σ)
    | (5, m, u, _) => if hwOut i m then none else some ((n, L, .inr (.inr (u, i.toNatClampNeg)) :: r), σ)
    | _ => none)
  | _ => none
def hwISt (n : Nat) (L : Lc) (st : List AV) (σ : Mem) : Rs := match st with
  | .inl x :: .inl i :: .inr (.inr (t, q)) :: r => (match hwSh t with
    | (1, m, _, _) => if hwOut i m then none else some ((n, L, r), (σ.1, σ.2.1, hwU3 σ.2.2.1 t q i.toNatClampNeg x, σ.2.2.2))
    | _ => none)
  | _ => none
def hwZSt (n : Nat) (L : Lc) (st : List AV) (σ : Mem) : Rs := match st with
  | .inl x :: .inl i :: .inr (.inr (t, q)) :: r => (match hwSh t with
    | (2, m, _, _) => if hwOut i m then none else some ((n, L, r), (σ.1, σ.2.1, hwU3 σ.2.2.1 t q i.toNatClampNeg (vp_nar .boolean x), σ.2.2.2))
    | _ => none)
  | _ => none
def hwLSt (n : Nat) (L : Lc) (st : List AV) (σ : Mem) : Rs := match st with
  | .inr (.inl x) :: .inl i :: .inr (.inr (t, q)) :: r => (match hwSh t with
    | (3, m, _, _) => if hwOut i m then none else some ((n, L, r), (σ.1, σ.2.1, σ.2.2.1, hwU3 σ.2.2.2.1 t q i.toNatClampNeg x, σ.2.2.2.2))
    | _ => none)
  | _ => none
def hwLen (n : Nat) (L : Lc) (st : List AV) (σ : Mem) : Rs := match st with
  | .inr (.inr (t, _)) :: r => (match hwSh t with
    | (1, m, _, _) => some ((n, L, .inl (nI m) :: r), σ)
    | (3, m, _, _) => some ((n, L, .inl (nI m) :: r), σ)
    | (4, m, _, _) => some ((n, L, .inl (nI m) :: r), σ)
    | (6, _, _, _) => some ((n, L, .inl (nI σ.2.2.2.2.1) :: r), σ)
    | (7, a, _, _) => some ((n, L, .inl (nI (ntD [] hwSA a).length) :: r), σ)
    | _ => none)
  | _ => none
def hwDup (n : Nat) (L : Lc) (st : List AV) (σ : Mem) : Rs := match st with
  | v :: r => bif Nat.beq (hwCat v) 1 then some ((n, L, v :: v :: r), σ) else none
  | _ => none
def hwDup2 (n : Nat) (L : Lc) (st : List AV) (σ : Mem) : Rs := match st with
  | v :: w :: r => bif Nat.beq (hwCat v) 1 && Nat.beq (hwCat w) 1 then some ((n, L, v :: w :: v :: w :: r), σ) else none
  | _ => none
def hwPop1 (n : Nat) (L : Lc) (st : List AV) (σ : Mem) : Rs := match st with
  | v :: r => bif Nat.beq (hwCat v) 1 then some ((n, L, r), σ) else none
  | _ => none
/-- members of the library: 10 max, 11 min, 12 abs of ints, 13 max of longs, 14 arraycopy, 20 charAt, 21 indexOf -/
def hwPrim (a : Nat) (n : Nat) (L : Lc) (st : List AV) (σ : Mem) : Rs := match a, st with
  | 10, .inl y :: .inl x :: r => bif Nat.ble (hwCats r) 8 then some ((n, L, .inl (if x < y then y else x) :: r), σ) else none
  | 11, .inl y :: .inl x :: r => bif Nat.ble (hwCats r) 8 then some ((n, L, .inl (if y < x then y else x) :: r), σ) else none
  | 12, .inl x :: r => bif Nat.ble (hwCats r) 8 then some ((n, L, .inl (if 0 ≤ x then x else 0 - x) :: r), σ) else none
  | 13, .inr (.inl y) :: .inr (.inl x) :: r => bif Nat.ble (hwCats r) 8 then some ((n, L, .inr (.inl (if y < x then x else y)) :: r), σ) else none
  | 14, .inl z :: .inl dp :: .inr (.inr (t1, q1)) :: .inl sp :: .inr (.inr (t0, q0)) :: r => bif Nat.ble (hwCats r) 8 then (match hwSh t0, hwSh t1 with
    | (1, m0, _, _), (1, m1, _, _) => if sp < 0 ∨ dp < 0 ∨ z < 0 ∨ m0 < sp.toNatClampNeg + z.toNatClampNeg ∨ m1 < dp.toNatClampNeg + z.toNatClampNeg then none else
      some ((n, L, r), (σ.1, σ.2.1, hwR3 σ.2.2.1 t1 q1 (va_cpy (σ.2.2.1 t0 q0) (σ.2.2.1 t1 q1) sp.toNatClampNeg dp.toNatClampNeg z.toNatClampNeg), σ.2.2.2))
    | (3, m0, _, _), (3, m1, _, _) => if sp < 0 ∨ dp < 0 ∨ z < 0 ∨ m0 < sp.toNatClampNeg + z.toNatClampNeg ∨ m1 < dp.toNatClampNeg + z.toNatClampNeg then none else
      some ((n, L, r), (σ.1, σ.2.1, σ.2.2.1, hwR3 σ.2.2.2.1 t1 q1 (va_cpy (σ.2.2.2.1 t0 q0) (σ.2.2.2.1 t1 q1) sp.toNatClampNeg dp.toNatClampNeg z.toNatClampNeg), σ.2.2.2.2))
    | _, _ => none) else none
  | 20, .inl i :: .inr (.inr (t, _)) :: r => bif Nat.ble (hwCats r) 8 then (match hwSh t with
    | (8, a, _, _) => if hwOut i (ntD [] hwST a).length then none else some ((n, L, .inl (nI (ntD 0 (ntD [] hwST a) i.toNatClampNeg)) :: r), σ)
    | _ => none) else none
  | 21, .inl x :: .inr (.inr (t, _)) :: r => bif Nat.ble (hwCats r) 8 then (match hwSh t with
    | (8, a, _, _) => some ((n, L, .inl (match (ntD [] hwST a).findIdx? (fun c => decide (nI c = x)) with | some i => nI i | none => -1) :: r), σ)
    | _ => none) else none
  | _, _ => none
def hwSw (o : Option Int) (pc : Nat) (L : Lc) (r : List AV) (σ : Mem) : Rs := match o with
  | some off => (match hwT pc off with
    | some t => some ((t, L, r), σ)
    | none => none)
  | none => none
def hwX (e : En) (L : Lc) (st : List AV) (σ : Mem) : Rs := match e with
  | (pc, i, _, (a, b, c, _, _, z), _) => match i with
    | .iconst n => some ((pc + 1, L, .inl (Int32.ofInt n) :: st), σ)
    | .bipush n => some ((pc + 2, L, .inl (Int32.ofInt n) :: st), σ)
    | .sipush n => some ((pc + 3, L, .inl (Int32.ofInt n) :: st), σ)
    | .lconst n => some ((pc + 1, L, .inr (.inl (Int64.ofInt ((n : Nat) : Int))) :: st), σ)
    | .ldc _ => (match a with
      | 0 => some ((pc + 2, L, .inl (Int32.ofInt z) :: st), σ)
      | _ => some ((pc + 2, L, .inr (.inr (b, 0)) :: st), σ))
    | .ldc_w _ => some ((pc + 3, L, .inl (Int32.ofInt z) :: st), σ)
    | .ldc2_w _ => some ((pc + 3, L, .inr (.inl (Int64.ofInt z)) :: st), σ)
    | .iload_n k => hwLdI (pc + 1) L st σ k
    | .iload k => hwLdI (pc + 2) L st σ k
    | .lload_n k => hwLdL (pc + 1) L st σ k
    | .lload k => hwLdL (pc + 2) L st σ k
    | .aload_n k => hwLdR (pc + 1) L st σ k
    | .aload k => hwLdR (pc + 2) L st σ k
    | .istore_n k => hwStI (pc + 1) L st σ k
    | .istore k => hwStI (pc + 2) L st σ k
    | .lstore_n k => hwStL (pc + 1) L st σ k
    | .lstore k => hwStL (pc + 2) L st σ k
    | .astore_n k => hwStR (pc + 1) L st σ k
    | .astore k => hwStR (pc + 2) L st σ k
    | .iinc k n => (match ntD none L k with
      | some (.inl x) => some ((pc + 3, hwS1 L k (.inl (x + Int32.ofInt n)), st), σ)
      | _ => none)
    | .iadd => hwI2 (fun x y => x + y) (pc + 1) L st σ
    | .isub => hwI2 (fun x y => x - y) (pc + 1) L st σ
    | .imul => hwI2 (fun x y => x * y) (pc + 1) L st σ
    | .iand => hwI2 (fun x y => x &&& y) (pc + 1) L st σ
    | .ishl => hwI2 (fun x y => x <<< (y &&& 31)) (pc + 1) L st σ
    | .ishr => hwI2 (fun x y => x >>> (y &&& 31)) (pc + 1) L st σ
    | .idiv => hwDivI (fun x y => x / y) (pc + 1) L st σ
    | .irem => hwDivI (fun x y => x - x / y * y) (pc + 1) L st σ
    | .ineg => hwI1 (fun x => -x) (pc + 1) L st σ
    | .i2b => hwI1 (fun x => x.toInt8.toInt32) (pc + 1) L st σ
    | .i2s => hwI1 (fun x => x.toInt16.toInt32) (pc + 1) L st σ
    | .i2c => hwI1 (fun x => (x.toUInt32 % 65536).toInt32) (pc + 1) L st σ
    | .i2l => (match st with
      | .inl x :: r => some ((pc + 1, L, .inr (.inl x.toInt64) :: r), σ)
      | _ => none)
    | .l2i => (match st with
      | .inr (.inl x) :: r => some ((pc + 1, L, .inl x.toInt32 :: r), σ)
      | _ => none)
    | .ladd => hwL2 (fun x y => x + y) (pc + 1) L st σ
    | .lsub => hwL2 (fun x y => x - y) (pc + 1) L st σ
    | .lmul => hwL2 (fun x y => x * y) (pc + 1) L st σ
    | .land => hwL2 (fun x y => x &&& y) (pc + 1) L st σ
    | .lor => hwL2 (fun x y => x ||| y) (pc + 1) L st σ
    | .ldiv => hwDivL (fun x y => x / y) (pc + 1) L st σ
    | .lrem => hwDivL (fun x y => x - x / y * y) (pc + 1) L st σ
    | .lshl => hwShL (fun x y => x <<< (y.toInt64 &&& 63)) (pc + 1) L st σ
    | .lshr => hwShL (fun x y => x >>> (y.toInt64 &&& 63)) (pc + 1) L st σ
    | .lcmp => (match st with
      | .inr (.inl y) :: .inr (.inl x) :: r => some ((pc + 1, L, .inl (lg_cmp x y) :: r), σ)
      | _ => none)
    | .dup => hwDup (pc + 1) L st σ
    | .dup2 => hwDup2 (pc + 1) L st σ
    | .pop => hwPop1 (pc + 1) L st σ
    | .ifCond c off => (match hwT pc off with
      | some t => hwIf0 c t (pc + 3) L st σ
      | none => none)
    | .if_icmp c off => (match hwT pc off with
      | some t => hwIf2 c t (pc + 3) L st σ
      | none => none)
    | .goto off => (match hwT pc off with
      | some t => some ((t, L, st), σ)
      | none => none)
    | .tableswitch d lo hi offs => (match st with
      | .inl x :: r => hwSw (if x.toInt < lo ∨ hi < x.toInt then some d else offs[(x.toInt - lo).toNat]?) pc L r σ
      | _ => none)
    | .lookupswitch d ps => (match st with
      | .inl x :: r => hwSw (some (Op.lookupswitch.offset ps.toList d x.toInt)) pc L r σ
      | _ => none)
    | .getfield _ => hwGet b c (pc + 3) L st σ
    | .putfield _ => hwPut b c (pc + 3) L st σ
    | .getstatic _ => some ((pc + 3, L, .inr (.inr (b, 0)) :: st), σ)
    | .iaload => hwILd (pc + 1) L st σ
    | .baload => hwZLd (pc + 1) L st σ
    | .laload => hwLLd (pc + 1) L st σ
    | .aaload => hwRLd (pc + 1) L st σ
    | .iastore => hwISt (pc + 1) L st σ
    | .bastore => hwZSt (pc + 1) L st σ
    | .lastore => hwLSt (pc + 1) L st σ
    | .arraylength => hwLen (pc + 1) L st σ
    | .invokestatic _ => hwPrim a (pc + 3) L st σ
    | .invokevirtual _ => hwPrim a (pc + 3) L st σ
    | _ => none
/-- n values off the stack, in the order in which they came -/
def hwPop : Nat → List AV → List AV → Option (List AV × List AV)
  | 0, acc, st => some (acc, st)
  | n + 1, acc, v :: st => hwPop n (v :: acc) st
  | _ + 1, _, [] => none
/-- a receiver of the class -/
def hwRc (f : Nat) (as : List AV) : Bool := match as with
  | .inr (.inr (t, _)) :: _ => (match hwSh t with
    | (0, c, _, _) => Nat.beq c f
    | _ => false)
  | _ => false
/-- a call of a method of these classes: its number, the arguments, what stays on the stack -/
def hwCall (e : En) (st : List AV) : Option (Nat × List AV × List AV) := match e with
  | (_, i, _, (a, b, c, _, f, _), _) => match i with
    | .invokestatic _ => bif Nat.beq a 1 || Nat.beq a 2 then (match hwPop c [] st with
      | some (as, r) => bif Nat.ble (hwCats r) 8 then some (b, as, r) else none
      | none => none) else none
    | .invokevirtual _ => bif Nat.beq a 0 || Nat.beq a 3 then (match hwPop c [] st with
      | some (as, r) => bif Nat.ble (hwCats r) 8 && hwRc f as then some (b, as, r) else none
      | none => none) else none
    | _ => none
def hwRet (e : En) (st : List AV) : Option (Option AV) := match e with
  | (_, i, _, (a, _, _, _, _, _), _) => match i with
    | .ireturn => (match st with
      | [.inl x] => (match a with
        | 0 => some (some (.inl x))
        | 1 => if x = 0 ∨ x = 1 then some (some (.inl x)) else none
        | _ => none)
      | _ => none)
    | .lreturn => (match st with
      | [.inr (.inl x)] => some (some (.inr (.inl x)))
      | _ => none)
    | .return_ => (match st with
      | [] => some none
      | _ => none)
    | _ => none
def hwFnd : List En → Nat → Option En
  | [], _ => none
  | e :: l, pc => bif Nat.beq e.1 pc then some e else hwFnd l pc
def hwFind : List (Nat × List En) → Nat → Option En
  | [], _ => none
  | (u, l) :: r, pc => bif Nat.ble (pc + 1) u then hwFnd l pc else hwFind r pc
abbrev Cd : Type := List (Nat × List En)
abbrev Pst : Type := Option AV → Mem → Prop
def hwStp (C : Nat → List AV → Mem → Pst → Prop) (cd : Cd) (Q : Pst) (f : Fr) (σ : Mem) (P : Fr → Mem → Prop) : Prop :=
  ∃ e, hwFind cd f.1 = some e ∧
    ((∃ q, hwX e (hwM e.2.2.2.2 f.2.1) f.2.2 σ = some q ∧ P q.1 q.2) ∨
     (∃ q, hwCall e f.2.2 = some q ∧ C q.1 q.2.1 σ (fun r τ => P (f.1 + 3, hwM e.2.2.2.2 f.2.1, r.toList ++ q.2.2) τ)) ∨
     (∃ r, hwRet e f.2.2 = some r ∧ Q r σ))
/-- every run from here ends, and so that Q holds -/
def Wp (C : Nat → List AV → Mem → Pst → Prop) (cd : Cd) (Q : Pst) (f : Fr) (σ : Mem) : Prop :=
  ∀ P : Fr → Mem → Prop, (∀ f σ, hwStp C cd Q f σ P → P f σ) → P f σ
def hwEn : List AV → Nat → Lc
  | [], n => List.replicate n none
  | .inr (.inl x) :: r, n => some (.inr (.inl x)) :: none :: hwEn r (n - 2)
  | v :: r, n => some v :: hwEn r (n - 1)
def Mono (C : Nat → List AV → Mem → Pst → Prop) : Prop := ∀ (m : Nat) (a : List AV) (σ : Mem) (Q Q' : Pst), (∀ r τ, Q r τ → Q' r τ) → C m a σ Q → C m a σ Q'
theorem hwStp.mono {C : Nat → List AV → Mem → Pst → Prop} (hC : Mono C) {cd : Cd} {Q Q' : Pst} {f : Fr} {σ : Mem} {P P' : Fr → Mem → Prop} (hQ : ∀ r τ, Q r τ → Q' r τ) (hP : ∀ f τ, P f τ → P' f τ) (h : hwStp C cd Q f σ P) : hwStp C cd Q' f σ P' := by
  obtain ⟨e, he, h⟩ := h
  refine ⟨e, he, ?_⟩
  rcases h with ⟨q, h1, h2⟩ | ⟨q, h1, h2⟩ | ⟨r, h1, h2⟩
  · exact Or.inl ⟨q, h1, hP _ _ h2⟩
  · exact Or.inr (Or.inl ⟨q, h1, hC _ _ _ _ _ (fun r τ h => hP _ _ h) h2⟩)
  · exact Or.inr (Or.inr ⟨r, h1, hQ _ _ h2⟩)
theorem Wp.mono {C : Nat → List AV → Mem → Pst → Prop} (hC : Mono C) {cd : Cd} {Q Q' : Pst} {f : Fr} {σ : Mem} (hQ : ∀ r τ, Q r τ → Q' r τ) (h : Wp C cd Q f σ) : Wp C cd Q' f σ :=
  fun P hP => h P (fun f τ h1 => hP f τ (hwStp.mono hC hQ (fun _ _ h => h) h1))
theorem Wp.step {C : Nat → List AV → Mem → Pst → Prop} (hC : Mono C) {cd : Cd} {Q : Pst} {f : Fr} {σ : Mem} (h : hwStp C cd Q f σ (Wp C cd Q)) : Wp C cd Q f σ :=
  fun P hP => hP f σ (hwStp.mono hC (fun _ _ h => h) (fun _ _ h => h P hP) h)

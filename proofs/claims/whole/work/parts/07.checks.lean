/-! WHAT IS CHECKED OF THE METHODS (by evaluation): decode rows, words, links of nest mates -/
def hwNf : List (String × Nat × String × String × String × String) := [("HowDeep$Laws", 102, "HowDeep$Ground", "bases", "[I", "HowDeep"),
  ("HowDeep", 373, "HowDeep$Ground", "bases", "[I", "HowDeep"),
  ("HowDeep$Laws", 105, "HowDeep$Ground", "salts", "[I", "HowDeep"),
  ("HowDeep$Mind", 105, "HowDeep$Ground", "salts", "[I", "HowDeep"),
  ("HowDeep$Digging", 85, "HowDeep$Ground", "signs", "[I", "HowDeep"),
  ("HowDeep$Mind", 91, "HowDeep$Ground", "signs", "[I", "HowDeep"),
  ("HowDeep$Image", 68, "HowDeep$Ground", "follows", "[[I", "HowDeep"),
  ("HowDeep$Digging", 94, "HowDeep$Ground", "follows", "[[I", "HowDeep"),
  ("HowDeep$Mind", 99, "HowDeep$Ground", "follows", "[[I", "HowDeep"),
  ("HowDeep$Digging", 97, "HowDeep$Ground", "allBelow", "[I", "HowDeep"),
  ("HowDeep$Mind", 96, "HowDeep$Ground", "allBelow", "[I", "HowDeep"),
  ("HowDeep$Image", 61, "HowDeep$Ground", "settings", "[I", "HowDeep"),
  ("HowDeep$Laws", 86, "HowDeep$Ground", "settings", "[I", "HowDeep"),
  ("HowDeep$Ledger", 58, "HowDeep$Ground", "settings", "[I", "HowDeep"),
  ("HowDeep", 129, "HowDeep$Ground", "settings", "[I", "HowDeep"),
  ("HowDeep$Image", 49, "HowDeep$Ground", "layers", "I", "HowDeep"),
  ("HowDeep$Mind", 44, "HowDeep$Ground", "layers", "I", "HowDeep"),
  ("HowDeep", 100, "HowDeep$Ground", "layers", "I", "HowDeep"),
  ("HowDeep$Laws", 99, "HowDeep$Ground", "layers", "I", "HowDeep"),
  ("HowDeep$Ledger", 81, "HowDeep$Ground", "layers", "I", "HowDeep"),
  ("HowDeep$Digging", 104, "HowDeep$Ground", "layers", "I", "HowDeep"),
  ("HowDeep$Laws", 76, "HowDeep$Reader", "codes", "[I", "HowDeep"),
  ("HowDeep$Laws", 84, "HowDeep$Reader", "starts", "[I", "HowDeep"),
  ("HowDeep$Laws", 70, "HowDeep$Reader", "taped", "I", "HowDeep"),
  ("HowDeep", 141, "HowDeep$Reader", "taped", "I", "HowDeep"),
  ("HowDeep$Laws", 73, "HowDeep$Reader", "start", "I", "HowDeep"),
  ("HowDeep", 137, "HowDeep$Laws", "reader", "LHowDeep$Reader;", "HowDeep"),
  ("HowDeep$Digging", 71, "HowDeep$Laws", "costs", "[I", "HowDeep"),
  ("HowDeep$Ledger", 68, "HowDeep$Laws", "costs", "[I", "HowDeep"),
  ("HowDeep$Mind", 121, "HowDeep$Laws", "costs", "[I", "HowDeep"),
  ("HowDeep", 150, "HowDeep$Laws", "costs", "[I", "HowDeep"),
  ("HowDeep$Digging", 82, "HowDeep$Laws", "waters", "[[I", "HowDeep"),
  ("HowDeep$Mind", 86, "HowDeep$Laws", "waters", "[[I", "HowDeep"),
  ("HowDeep", 157, "HowDeep$Laws", "waters", "[[I", "HowDeep"),
  ("HowDeep", 153, "HowDeep$Laws", "falls", "[[I", "HowDeep"),
  ("HowDeep", 133, "HowDeep$Laws", "size", "I", "HowDeep"),
  ("HowDeep", 134, "HowDeep$Laws", "inForce", "I", "HowDeep"),
  ("HowDeep$Mind", 50, "HowDeep$Places", "firsts", "[[I", "HowDeep"),
  ("HowDeep$Digging", 47, "HowDeep$Places", "firsts", "[[I", "HowDeep"),
  ("HowDeep", 202, "HowDeep$Places", "firsts", "[[I", "HowDeep"),
  ("HowDeep$Image", 73, "HowDeep$Places", "signs", "[[I", "HowDeep"),
  ("HowDeep$Image", 75, "HowDeep$Places", "dry", "[I", "HowDeep"),
  ("HowDeep$Mind", 60, "HowDeep$Places", "dry", "[I", "HowDeep"),
  ("HowDeep", 189, "HowDeep$Places", "dry", "[I", "HowDeep"),
  ("HowDeep$Image", 76, "HowDeep$Places", "water", "[Z", "HowDeep"),
  ("HowDeep$Mind", 71, "HowDeep$Places", "water", "[Z", "HowDeep"),
  ("HowDeep", 185, "HowDeep$Places", "water", "[Z", "HowDeep"),
  ("HowDeep$Image", 74, "HowDeep$Places", "tied", "[[I", "HowDeep"),
  ("HowDeep", 182, "HowDeep$Places", "tied", "[[I", "HowDeep"),
  ("HowDeep$Mind", 169, "HowDeep$Places", "tied", "[[I", "HowDeep"),
  ("HowDeep$Image", 55, "HowDeep$Places", "size", "I", "HowDeep"),
  ("HowDeep", 104, "HowDeep$Places", "size", "I", "HowDeep"),
  ("HowDeep$Mind", 163, "HowDeep$Places", "size", "I", "HowDeep"),
  ("HowDeep", 172, "HowDeep$Sheets", "numbers", "[[I", "HowDeep"),
  ("HowDeep", 358, "HowDeep$Sheets", "sorts", "[I", "HowDeep"),
  ("HowDeep", 166, "HowDeep$Sheets", "sizes", "[I", "HowDeep"),
  ("HowDeep$Digging", 19, "HowDeep$Mind", "ground", "LHowDeep$Ground;", "HowDeep"),
  ("HowDeep$Ledger", 54, "HowDeep$Mind", "ground", "LHowDeep$Ground;", "HowDeep"),
  ("HowDeep$Rules", 32, "HowDeep$Mind", "ground", "LHowDeep$Ground;", "HowDeep"),
  ("HowDeep$Digging", 67, "HowDeep$Mind", "laws", "LHowDeep$Laws;", "HowDeep"),
  ("HowDeep$Ledger", 64, "HowDeep$Mind", "laws", "LHowDeep$Laws;", "HowDeep"),
  ("HowDeep$Digging", 43, "HowDeep$Mind", "places", "LHowDeep$Places;", "HowDeep"),
  ("HowDeep", 213, "HowDeep$Mind", "thought", "[[J", "HowDeep"),
  ("HowDeep", 251, "HowDeep$Rules", "kinds", "[I", "HowDeep"),
  ("HowDeep", 254, "HowDeep$Rules", "mores", "[I", "HowDeep"),
  ("HowDeep", 257, "HowDeep$Rules", "stops", "[I", "HowDeep"),
  ("HowDeep", 107, "HowDeep$Rules", "size", "I", "HowDeep"),
  ("HowDeep", 132, "HowDeep$Farms", "size", "I", "HowDeep"),
  ("HowDeep", 264, "HowDeep$Ledger", "spent", "J", "HowDeep"),
  ("HowDeep", 268, "HowDeep$Ledger", "water", "J", "HowDeep"),
  ("HowDeep", 270, "HowDeep$Ledger", "ruin", "J", "HowDeep"),
  ("HowDeep", 273, "HowDeep$Ledger", "good", "J", "HowDeep"),
  ("HowDeep", 328, "HowDeep$Digging", "costs", "I", "HowDeep"),
  ("HowDeep", 330, "HowDeep$Digging", "waterAt", "I", "HowDeep"),
  ("HowDeep", 333, "HowDeep$Digging", "dug", "I", "HowDeep"),
  ("HowDeep", 346, "HowDeep$Image", "law", "I", "HowDeep"),
  ("HowDeep", 339, "HowDeep$Image", "isThere", "Z", "HowDeep"),
  ("HowDeep", 122, "HowDeep$Ground", "LEAST_SET", "[I", "HowDeep"),
  ("HowDeep", 126, "HowDeep$Ground", "MOST_SET", "[I", "HowDeep")]
def hwNm : List (String × Nat × MethodName × String) := [("HowDeep", 9, ⟨"HowDeep$Ground", "<init>", "()V"⟩, "HowDeep"),
  ("HowDeep$Laws", 11, ⟨"HowDeep$Reader", "<init>", "()V"⟩, "HowDeep"),
  ("HowDeep", 34, ⟨"HowDeep$Places", "<init>", "()V"⟩, "HowDeep"),
  ("HowDeep", 41, ⟨"HowDeep$Sheets", "<init>", "()V"⟩, "HowDeep"),
  ("HowDeep", 66, ⟨"HowDeep$Farms", "<init>", "()V"⟩, "HowDeep"),
  ("HowDeep$Sheets", 23, ⟨"HowDeep", "within", "(III)Z"⟩, "HowDeep"),
  ("HowDeep$Mind", 133, ⟨"HowDeep", "within", "(III)Z"⟩, "HowDeep"),
  ("HowDeep", 238, ⟨"HowDeep$Mind", "goingOn", "(II)J"⟩, "HowDeep"),
  ("HowDeep$Rules", 47, ⟨"HowDeep$Mind", "goingOn", "(II)J"⟩, "HowDeep")]
def jTx : List (String × Nat × String) := [("HowDeep$Laws", 46, "cost 10 + yard * yard * 2 ; water base - season * 5 ; fall 2 * yard ;"), ("HowDeep$Reader", 62, "();+-*<="), ("HowDeep$Reader", 76, "cost  water fall  or    and   not   yard  layer base  salt  seasonlined ")]
def hwSn : List (String × String) := [("HowDeep$Ground", "LEAST_SET"), ("HowDeep$Ground", "MOST_SET"), ("HowDeep$Rules", "PARENTS")]
def hwUh : List (List Nat) := [[642, 644, 646, 648, 650, 652], [588, 590, 592], [138, 140, 142, 144, 146, 148, 150], [676, 678, 680, 682, 684, 686, 688, 690, 692, 694, 696, 698], [275, 277, 279, 281, 283, 285, 287, 289, 291, 293, 295], [612, 614, 616, 618, 620, 622, 624], [536, 538, 540, 542, 544, 546, 548], [480, 482, 484, 486, 488, 490], [180, 182, 184, 186, 188, 190, 192, 194, 196], [567, 569, 571, 573, 575], [507, 509, 511], [711, 713, 715, 717, 719, 721, 723, 725, 727, 729], [1323, 1325, 1327, 1329, 1331, 1333, 1335, 1337, 1339, 1341, 1343, 1345, 1347, 1349, 1351, 1353, 1355, 1357, 1359, 1361, 1363, 1365, 1367, 1369, 1371, 1373, 1375, 1377, 1379, 1381, 1383, 1385, 1387, 1389, 1391, 1393, 1395, 1397, 1399, 1401, 1403, 1405, 1407, 1409, 1411, 1413, 1415, 1417, 1419, 1421, 1423, 1425, 1427, 1429, 1431, 1433, 1435, 1437, 1439, 1441, 1443, 1445]]
def hwTB : List Jvm.Cond := lw_tbl.filter goodWord
def hwWd (d : Nat) (w : Jvm.Cond) : Bool := decide (lw_tbl[d]? = some w) && goodWord w
theorem hwWd_mem {d : Nat} {w : Jvm.Cond} (h : hwWd d w = true) : w ∈ hwTB := by
  simp only [hwWd, Bool.and_eq_true, decide_eq_true_eq] at h
  exact List.mem_filter.mpr ⟨List.mem_of_getElem? h.1, h.2⟩
theorem hwTB_good {w : Jvm.Cond} (h : w ∈ hwTB) : goodWord w = true := (List.mem_filter.mp h).2
theorem hwTB_lw {w : Jvm.Cond} (h : w ∈ hwTB) : w ∈ lw_tbl := (List.mem_filter.mp h).1
def hwWs (m : Nat) : List Jvm.Cond := Jvm.Cond.code (hwY m) (hwB m) (hwN m) (hwR m) :: hwTB
/-- a method that may be called -/
def okC (m : Nat) : Bool := hwWd (hwHi m).1 (.code (hwY m) (hwB m) (hwN m) (hwR m)) && hwWd (hwHi m).2.2.2 (.initialized (hwY m).cls) && plainName (hwY m).cls && decide ((hwY m).cls ≠ "java/lang/invoke/MethodHandle" ∧ (hwY m).cls ≠ "java/lang/invoke/VarHandle") && Nat.ble (hwN m) 40
def okI (m : Nat) : Bool := hwWd (hwHi m).2.1 (.instanceMethod (hwY m)) && hwWd (hwHi m).2.2.1 (.selects (hwY m).cls (hwY m) (hwY m))
def okS (m : Nat) : Bool := hwWd (hwHi m).2.1 (.static (hwY m))
def okN (m n : Nat) : Bool := decide ((parseMethodDescriptor (hwY m).desc).map (fun d => d.parameters.length) = some n)
def okF (own : String) (a b c d idx : Nat) : Bool := match vwCl[b]? with
  | some (_, T, N) => Nat.ble (c + 1) N && (match a with
    | 0 => hwWd d (.fieldLink own idx (T c).1 (T c).2.1 (T c).2.2.1)
    | _ => decide (hwNf[d]? = some (own, idx, (T c).1, (T c).2.1, (T c).2.2.1, "HowDeep")))
  | none => false
def okW (b c : Nat) : Bool := match vwCl[b]? with
  | some (_, T, _) => decide ((T c).2.2.2 = false)
  | none => false
def okL (m : Nat) (e : En) : Bool := match e with
  | (_, i, len, (a, b, c, d, f, z), _) => match i with
    | .iconst _ => Nat.beq len 1
    | .bipush n => Nat.beq len 2 && decide ((Int8.ofInt n).toInt32 = Int32.ofInt n)
    | .sipush n => Nat.beq len 3 && decide ((Int16.ofInt n).toInt32 = Int32.ofInt n)
    | .lconst n => Nat.beq len 1 && decide (Int64.ofNat (n : Nat) = Int64.ofInt ((n : Nat) : Int))
    | .ldc idx => Nat.beq len 2 && (match a with
      | 0 => hwWd d (.constant (hwY m).cls idx (Int32.ofInt z))
      | _ => Nat.ble 210 b && Nat.ble b 212 && decide ((ntD ("", 0, "") jTx (b - 210)).1 = (hwY m).cls) && Nat.beq (ntD ("", 0, "") jTx (b - 210)).2.1 idx)
    | .ldc_w idx => Nat.beq len 3 && hwWd d (.constant (hwY m).cls idx (Int32.ofInt z))
    | .ldc2_w idx => Nat.beq len 3 && hwWd d (.constantLong (hwY m).cls idx (Int64.ofInt z))
    | .iload_n _ => Nat.beq len 1
    | .lload_n _ => Nat.beq len 1
    | .aload_n _ => Nat.beq len 1
    | .iload _ => Nat.beq len 2
    | .lload _ => Nat.beq len 2
    | .aload _ => Nat.beq len 2
    | .istore_n k => Nat.beq len 1 && Nat.ble ((k : Nat) + 1) (hwN m)
    | .astore_n k => Nat.beq len 1 && Nat.ble ((k : Nat) + 1) (hwN m)
    | .lstore_n k => Nat.beq len 1 && Nat.ble ((k : Nat) + 2) (hwN m)
    | .istore k => Nat.beq len 2 && Nat.ble (k + 1) (hwN m)
    | .astore k => Nat.beq len 2 && Nat.ble (k + 1) (hwN m)
    | .lstore k => Nat.beq len 2 && Nat.ble (k + 2) (hwN m)
    | .iinc k _ => Nat.beq len 3 && Nat.ble (k + 1) (hwN m)
    | .ifCond _ _ => Nat.beq len 3
    | .if_icmp _ _ => Nat.beq len 3
    | .goto _ => Nat.beq len 3
    | .tableswitch _ _ _ _ => true
    | .lookupswitch _ ps => (ps.toList.zip (ps.toList.drop 1)).all (fun (a, next) => a.1 < next.1)
    | .getfield idx => Nat.beq len 3 && okF (hwY m).cls a b c d idx
    | .putfield idx => Nat.beq len 3 && okF (hwY m).cls a b c d idx && okW b c
    | .getstatic idx => Nat.beq len 3 && Nat.ble 201 b && Nat.ble b 203 && (match a with
      | 0 => hwWd d (.fieldLink (hwY m).cls idx (ntD ("", "") hwSn (b - 201)).1 (ntD ("", "") hwSn (b - 201)).2 "[I")
      | _ => decide (hwNf[d]? = some ((hwY m).cls, idx, (ntD ("", "") hwSn (b - 201)).1, (ntD ("", "") hwSn (b - 201)).2, "[I", "HowDeep")))
    | .invokestatic idx => Nat.beq len 3 && (match a with
      | 1 => hwWd d (.methodLink (hwY m).cls idx (hwY b)) && okS b && okN b c && Nat.ble (b + 1) hwLw
      | 2 => decide (hwNm[d]? = some ((hwY m).cls, idx, hwY b, "HowDeep")) && okS b && okN b c && Nat.ble (b + 1) hwLw
      | 10 => hwWd d (.methodLink (hwY m).cls idx Lib.Math.max.name)
      | 11 => hwWd d (.methodLink (hwY m).cls idx Lib.Math.min.name)
      | 12 => hwWd d (.methodLink (hwY m).cls idx Lib.Math.abs.name)
      | 13 => hwWd d (.methodLink (hwY m).cls idx Lib.MathLoose.max_long.x)
      | 14 => hwWd d (.methodLink (hwY m).cls idx arraycopyName)
      | _ => false)
    | .invokevirtual idx => Nat.beq len 3 && (match c with
      | 0 => false
      | n + 1 => (match a with
        | 0 => hwWd d (.methodLink (hwY m).cls idx (hwY b)) && okI b && okN b n && Nat.beq f (hwCi b) && Nat.ble (b + 1) hwLw
        | 3 => decide (hwNm[d]? = some ((hwY m).cls, idx, hwY b, "HowDeep")) && okI b && okN b n && Nat.beq f (hwCi b) && Nat.ble (b + 1) hwLw
        | 20 => hwWd d (.methodLink (hwY m).cls idx yJ0_charAt_5068e)
        | 21 => hwWd d (.methodLink (hwY m).cls idx yJ0_indexOf_0f7a4)
        | _ => false)) && (Nat.beq a 20 || Nat.beq a 21 || decide ((vwCl[f]?).map (fun q => q.1) = some (hwY b).cls))
    | .ireturn => Nat.beq len 1 && decide (a = 0 → hwR m = some .int) && decide (a = 1 → hwR m = some .boolean)
    | .lreturn => Nat.beq len 1 && decide (hwR m = some .long)
    | .return_ => Nat.beq len 1 && decide (hwR m = none)
    | .new _ => true
    | .invokespecial _ => true
    | _ => Nat.beq len 1
def okE (m : Nat) (e : En) : Bool := decide (decode (hwB m) e.1 = .ok (e.2.1, e.2.2.1)) && okL m e
def okD (m : Nat) : Bool := (hwCd m).all (fun b => b.2.all (okE m))
theorem hwFnd_mem : ∀ {l : List En} {pc : Nat} {e : En}, hwFnd l pc = some e → e ∈ l ∧ e.1 = pc
  | [], _, _, h => by cases h
  | a :: l, pc, e, h => by
    rw [hwFnd] at h
    cases hb : Nat.beq a.1 pc with
    | true => rw [hb] at h; cases h; exact ⟨List.mem_cons_self, Nat.eq_of_beq_eq_true hb⟩
    | false =>
      rw [hb] at h
      obtain ⟨h1, h2⟩ := hwFnd_mem (l := l) (show hwFnd l pc = some e from h)
      exact ⟨List.mem_cons_of_mem _ h1, h2⟩
theorem hwFind_mem : ∀ {l : Cd} {pc : Nat} {e : En}, hwFind l pc = some e → (∃ b ∈ l, e ∈ b.2) ∧ e.1 = pc
  | [], _, _, h => by cases h
  | (u, a) :: l, pc, e, h => by
    rw [hwFind] at h
    cases hb : Nat.ble (pc + 1) u with
    | true =>
      rw [hb] at h
      obtain ⟨h1, h2⟩ := hwFnd_mem (show hwFnd a pc = some e from h)
      exact ⟨⟨_, List.mem_cons_self, h1⟩, h2⟩
    | false =>
      rw [hb] at h
      obtain ⟨⟨b, h0, h1⟩, h2⟩ := hwFind_mem (l := l) (show hwFind l pc = some e from h)
      exact ⟨⟨b, List.mem_cons_of_mem _ h0, h1⟩, h2⟩
theorem okD_at {m : Nat} (h : okD m = true) {pc : Nat} {e : En} (he : hwFind (hwCd m) pc = some e) : e.1 = pc ∧ decode (hwB m) pc = .ok (e.2.1, e.2.2.1) ∧ okL m e = true := by
  obtain ⟨⟨b, hb, hm⟩, h2⟩ := hwFind_mem he
  have h3 := List.all_eq_true.mp (List.all_eq_true.mp h b hb) e hm
  simp only [okE, Bool.and_eq_true, decide_eq_true_eq] at h3
  rw [h2] at h3
  exact ⟨h2, h3.1, h3.2⟩
/-- the words of each class's fields, and of the library's members -/
def okU (ci : Nat) : Bool := match vwCl[ci]? with
  | some (C, T, N) => (List.range N).all (fun k => hwWd (ntD 0 (ntD [] hwUh ci) k) (u_lay C T k))
  | none => true
def okP : Bool := hwWd 348 (.static Lib.Math.max.name) && hwWd 349 (.code Lib.Math.max.name Lib.Math.max.code 2 (some .int)) && hwWd 351 (.static Lib.Math.min.name) && hwWd 352 (.code Lib.Math.min.name Lib.Math.min.code 2 (some .int)) && hwWd 1106 (.static Lib.Math.abs.name) && hwWd 1107 (.code Lib.Math.abs.name Lib.Math.abs.code 1 (some .int)) && hwWd 930 (.static Lib.MathLoose.max_long.x) && hwWd 931 (.code Lib.MathLoose.max_long.x Lib.MathLoose.max_long.code 4 (some .long)) && hwWd 82 (.initialized "java/lang/Math") && hwWd 417 (.static arraycopyName) && hwWd 418 (.native arraycopyName) && hwWd 84 (.initialized "java/lang/System")
theorem okP_ok : okP = true := by decide +kernel
theorem okU_ok : ∀ ci, ci < 13 → okU ci = true := by decide +kernel


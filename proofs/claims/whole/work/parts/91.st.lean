/-! THE LAW'S START: what is given of the machine there -/
def lwA : List Cond := flatC (Jvm.Cond.and given_1 narrow_1)
def jTm (i : Nat) : Term := .string (ntD ("", 0, "") jTx i).1 (ntD ("", 0, "") jTx i).2.1
def jSm (j : Nat) : Term := .static (ntD ("", "") hwSn j).1 (ntD ("", "") hwSn j).2 "[I"
theorem ga_S : ∀ i, i < 3 → Cond.exactly (jTm i) "java/lang/String" ∈ lwA ∧ Cond.eq (.field (jTm i) "java/lang/String" "coder" "B") (.int 0) ∈ lwA ∧ Cond.arrayOf (.field (jTm i) "java/lang/String" "value" "[B") .byte ∈ lwA ∧ Cond.eq (.length (.field (jTm i) "java/lang/String" "value" "[B")) (.int (Int32.ofNat (jLe.getD i 0))) ∈ lwA := by decide +kernel
def jPo : List Nat := [38, 188, 111]
theorem ga_E0 : ∀ i, i < 3 → ((List.range (jLe.getD i 0)).all fun j => decide (lwA[jPo.getD i 0 + j]? = some (Cond.eq (.elem (.field (jTm i) "java/lang/String" "value" "[B") (.int (Int32.ofNat j))) (.int ((jBy.getD i []).getD j 0))))) = true := by decide +kernel
theorem ga_E (i : Nat) (hi : i < 3) (j : Nat) (hj : j < jLe.getD i 0) : Cond.eq (.elem (.field (jTm i) "java/lang/String" "value" "[B") (.int (Int32.ofNat j))) (.int ((jBy.getD i []).getD j 0)) ∈ lwA :=
  List.mem_of_getElem? (of_decide_eq_true (List.all_eq_true.mp (ga_E0 i hi) j (List.mem_range.mpr hj)))
theorem ga_N : ∀ i, i < 3 → ∀ j, j < 3 → i ≠ j → Cond.not (Cond.eq (jTm i) (jTm j)) ∈ lwA ∨ Cond.not (Cond.eq (jTm j) (jTm i)) ∈ lwA := by decide +kernel
theorem ga_T : ∀ j, j < 3 → Cond.arrayOf (jSm j) .int ∈ lwA ∧ Cond.eq (.length (jSm j)) (.int (Int32.ofNat (ntD [] hwSA j).length)) ∈ lwA ∧ ∀ k, k < (ntD [] hwSA j).length → Cond.eq (.elem (jSm j) (.int (Int32.ofNat k))) (.int (ntD 0 (ntD [] hwSA j) k)) ∈ lwA := by decide +kernel
theorem ga_O : Cond.eq (.static "java/lang/String" "COMPACT_STRINGS" "Z") (.int 1) ∈ lwA ∧ Cond.isRef (.static "jdk/internal/util/Preconditions" "SIOOBE_FORMATTER" "Ljava/util/function/BiFunction;") ∈ lwA := by decide +kernel
theorem gb_Z : ∀ j, j < 3 → Cond.laysStatic (ntD ("", "") hwSn j).1 (ntD ("", "") hwSn j).2 "[I" ∈ lw_tbl ∧ Cond.initialized (ntD ("", "") hwSn j).1 ∈ lw_tbl := by decide +kernel
theorem gb_O : Cond.laysStatic "java/lang/String" "COMPACT_STRINGS" "Z" ∈ lw_tbl ∧ Cond.initialized "java/lang/String" ∈ lw_tbl ∧ Cond.laysStatic "jdk/internal/util/Preconditions" "SIOOBE_FORMATTER" "Ljava/util/function/BiFunction;" ∈ lw_tbl ∧ Cond.initialized "jdk/internal/util/Preconditions" ∈ lw_tbl := by decide +kernel
theorem gb_R : ∀ i, i < 3 → Cond.stringRef (ntD ("", 0, "") jTx i).1 (ntD ("", 0, "") jTx i).2.1 (ntD ("", 0, "") jTx i).2.2 ∈ lw_tbl := by decide +kernel
theorem gb_F : ∀ q ∈ hwNf, Cond.fieldLinkNest q.1 q.2.1 q.2.2.1 q.2.2.2.1 q.2.2.2.2.1 q.2.2.2.2.2 ∈ lw_tbl := by decide +kernel
theorem gb_M : ∀ q ∈ hwNm, Cond.methodLinkNest q.1 q.2.1 q.2.2.1 q.2.2.2 ∈ lw_tbl := by decide +kernel
theorem gb_A : Cond.arrayClass .int ∈ lw_tbl ∧ Cond.arrayClass .long ∈ lw_tbl ∧ Cond.arrayClass .boolean ∈ lw_tbl ∧ Cond.arrayOver (.array .int) ∈ lw_tbl ∧ Cond.arrayOver (.array .long) ∈ lw_tbl := by decide +kernel
theorem gb_I : ∀ ci, ci < 13 → (match vwCl[ci]? with | some q => decide (Cond.instantiable q.1 q.2.2 ∈ lw_tbl) | none => false) = true := by decide +kernel
theorem eqi_of {args : Array Value} {s : State} {tm : Term} {z : Int32} (h : (Cond.eq tm (.int z)).before args s = true) : tm.eval args s none [] s = some (.int z) := by
  cases hv : tm.eval args s none [] s with
  | none => simp [Cond.before, Cond.holds, Cond.value, hv] at h
  | some w =>
    have hz : (Term.int z).eval args s none [] s = some (.int z) := rfl
    simp only [Cond.before, Cond.holds, Cond.value, hv, hz] at h
    cases w <;> simp_all
theorem arrC_of {args : Array Value} {s : State} {ty : FieldType} (hn : ∀ C, ty ≠ .object C) (h : (Cond.arrayClass ty).before args s = true) : ∃ cA : ClassId, ArrOfT s cA ty ∧ va_RA s cA ty := by
  obtain ⟨cA, kA, comp, h1, h2, h3⟩ := Cond.arrayClass_spec h
  refine ⟨cA, fun n z => ⟨fun k h => (by cases h), kA, h2, comp, h3⟩, ?_⟩
  cases ty with
  | object C => exact absurd rfl (hn C)
  | _ => exact h1
theorem arrO_of {args : Array Value} {s : State} {ty : FieldType} (h : (Cond.arrayOver (.array ty)).before args s = true) : ∃ cA : ClassId, ArrOfT s cA (.array ty) ∧ va_RA s cA (.array ty) := by
  obtain ⟨comp, cA, kA, h1, h2, h3, h4⟩ := Cond.arrayOver_specA h
  exact ⟨cA, fun n z => ⟨fun k h => (by cases h), kA, h2, comp, h3⟩, h4⟩
theorem lw_cG {p : Program} {s : State} {m : MethodId} {meth : Method} {c : Code} {b L : Nat} {xs : Nat → Int32} (C0 : lw_At p s m meth c b L xs) : ∃ (ad0 : Nat → Nat → Nat) (K : Kc) (D : va_G), cG ad0 K s.heap.size D (L, xs) s s.heap ∧ ad0 200 0 = b := by
  obtain ⟨hx, hb, hr, hml, hown, hts, hX, hbl, hlocks, hgv⟩ := C0
  have hs : ∀ c ∈ lwA, c.before #[Value.ref b] s = true := flat_of_before _ hgv
  have hA : ∀ a : Nat, a < s.heap.size → ¬ (fun q : Nat => s.heap.size ≤ q) a := fun a h => Nat.not_le.mpr h
  -- the classes
  have hKn : ∀ ci : Nat, ∃ d : ClassId × (Nat → Nat), ∀ q : vw_C, vwCl[ci]? = some q → u_Kn s q.1 q.2.1 q.2.2 d.1 d.2 := fun ci => by
    cases hq : vwCl[ci]? with
    | none => exact ⟨((0 : Nat), fun _ => 0), fun q h => by cases h⟩
    | some q0 =>
      have hl : ci < 13 := (List.getElem?_eq_some_iff.mp hq).1
      have hi := gb_I ci hl
      rw [hq] at hi
      obtain ⟨cC, iS, h⟩ := u_known hts (fun w hw => hwTB_lw (hwU_of (C := q0.1) (T := q0.2.1) (N := q0.2.2) hq w hw)) (hts _ (of_decide_eq_true hi))
      exact ⟨(cC, iS), fun q h1 => by cases h1; exact h⟩
  obtain ⟨f, hf⟩ := Classical.axiomOfChoice hKn
  obtain ⟨wi, wl, wz, woi, wol⟩ := gb_A
  obtain ⟨ki, ai⟩ := arrC_of (fun C h => by cases h) (hts _ wi)
  obtain ⟨kl, al⟩ := arrC_of (fun C h => by cases h) (hts _ wl)
  obtain ⟨kz, az⟩ := arrC_of (fun C h => by cases h) (hts _ wz)
  obtain ⟨koi, aoi⟩ := arrO_of (hts _ woi)
  obtain ⟨kol, aol⟩ := arrO_of (hts _ wol)
  -- the static tables
  have hTb : ∀ j : Nat, ∃ t : Nat, j < 3 → va_Z (ntD ("", "") hwSn j).1 (ntD ("", "") hwSn j).2 "[I" (.ref t) (fun q : Nat => s.heap.size ≤ q) s s.heap ∧ va_T .int t (ntD [] hwSA j).length (fun k => .int (ntD 0 (ntD [] hwSA j) k)) (fun q : Nat => s.heap.size ≤ q) s s.heap := fun j => by
    by_cases hj : j < 3
    · obtain ⟨g1, g2, g3⟩ := ga_T j hj
      obtain ⟨z1, z2⟩ := gb_Z j hj
      obtain ⟨t, e1, e2⟩ := va_Tof (A := fun q : Nat => s.heap.size ≤ q) (f := fun k => .int (ntD 0 (ntD [] hwSA j) k)) (show (ntD [] hwSA j).length < 2 ^ 31 by
        match j, hj with
        | 0, _ => decide
        | 1, _ => decide
        | 2, _ => decide) (hs _ g1) (eqi_of (hs _ g2)) (fun k hk => eqi_of (hs _ (g3 k hk))) hA
      exact ⟨t, fun _ => ⟨va_Zof (hts _ z1) (hts _ z2) e1 hA, e2⟩⟩
    · exact ⟨0, fun h => absurd h hj⟩
  obtain ⟨aT, hT⟩ := Classical.axiomOfChoice hTb
  -- the texts
  obtain ⟨adK, adV, hV, hE⟩ := vk_Sof (args := #[Value.ref b]) (s := s) (N := 3) (tm := jTm) (len := jLe) (byt := jBy) (A := fun q : Nat => s.heap.size ≤ q) (fun i hi => by
    match i, hi with
    | 0, _ => decide
    | 1, _ => decide
    | 2, _ => decide) (fun i hi => hs _ (ga_S i hi).1) (fun i hi => hs _ (ga_S i hi).2.1) (fun i hi => hs _ (ga_S i hi).2.2.1) (fun i hi => hs _ (ga_S i hi).2.2.2) (fun i hi j hj => hs _ (ga_E i hi j hj)) (fun i j hi hj hne => (ga_N i hi j hj hne).imp (hs _) (hs _)) hA
  refine ⟨fun t _ => bif Nat.ble t 200 then b else bif Nat.ble t 209 then aT (t - 201) else bif Nat.ble t 219 then adK (t - 210) else adV (t - 220), (ki, kl, kz, koi, kol), (fun c => (f c).1, fun c => (f c).2), ⟨⟨⟨fun c q hq => hf c q hq, fun k q hk => ?_⟩, fun q hq => va_Nw.of rfl (hts _ (gb_F q hq)), fun q hq => va_Nw.of rfl (hts _ (gb_M q hq)), ⟨hX, hbl, hA b hbl⟩, fun j hj => ?_, ?_⟩, Jvm.Stand.arrayOver_alikeB (Vm.Alike.refl s.vm) (hts _ woi), Jvm.Stand.arrayOver_alikeB (Vm.Alike.refl s.vm) (hts _ wol)⟩, rfl⟩
  · match k, hk with
    | 0, hk => cases hk; exact ai
    | 1, hk => cases hk; exact al
    | 2, hk => cases hk; exact az
    | 3, hk => cases hk; exact aoi
    | 4, hk => cases hk; exact aol
    | k + 5, hk => cases hk
  · match j, hj with
    | 0, hj => exact hT 0 hj
    | 1, hj => exact hT 1 hj
    | 2, hj => exact hT 2 hj
  · refine ⟨⟨fun i hi => ?_, fun i j hi hj e => ?_⟩, fun i hi => ?_, va_Zof (hts _ gb_O.1) (hts _ gb_O.2.1) (eqi_of (hs _ ga_O.1)) hA, va_Zqof (hts _ gb_O.2.2.1) (hts _ gb_O.2.2.2) (hs _ ga_O.2) hA⟩
    · match i, hi with
      | 0, hi => exact hV.1 0 hi
      | 1, hi => exact hV.1 1 hi
      | 2, hi => exact hV.1 2 hi
    · refine hV.2 i j hi hj ?_
      match i, hi, j, hj with
      | 0, _, 0, _ => exact e
      | 0, _, 1, _ => exact e
      | 0, _, 2, _ => exact e
      | 1, _, 0, _ => exact e
      | 1, _, 1, _ => exact e
      | 1, _, 2, _ => exact e
      | 2, _, 0, _ => exact e
      | 2, _, 1, _ => exact e
      | 2, _, 2, _ => exact e
    · have e2 := vk_R.of (hts _ (gb_R i hi)) (hE i hi)
      match i, hi, e2 with
      | 0, _, e2 => exact e2
      | 1, _, e2 => exact e2
      | 2, _, e2 => exact e2

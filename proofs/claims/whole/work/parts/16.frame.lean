/-! THE LAW'S OWN FRAME (the first rows are the skeleton's) -/
def R_law : String := "HowDeepLaw"
def lw_P (b : Addr) (xs : List Int32) (args : Array Value) (s : State) : Prop := args = #[.ref b] ∧ s.IntsAt b xs ∧ xs.length ≤ 3072 ∧ (Jvm.Cond.and given_1 narrow_1).before args s = true
def lw_Q (_ : Array Value) (s : State) (o : Outcome) (t : State) : Prop := o = .returned (some (.int 1)) ∧ Framed s o t [] 600000 7302249
def lw_Z (below : List Frame) (a : Array Value) (s : State) : State → Prop := fun t => ∃ o, t.status = .running ∧ Ended t below o ∧ lw_Q a s o t
/-- the law's own end, with 1 on the stack, nothing written that was there before, its room as the claim has it -/
theorem lw_ret {p : Program} {l : Launch} {e : Env} {s : State} {m : MethodId} {below : List Frame} {meth : Method} {c : Code} {b : Nat} (hx : p.tables.exec = Jvm.exec) (hb : c.code = code) (hr : meth.sig.returnType = ret) (hlocks : meth.locks = false) {pc : Nat} {H : Heap} {ls : Array Slot} (hdg : decode code pc = .ok (.ireturn, 1)) : W p l e room_1 s m #[Value.ref b] below meth c H [] 600000 7302249 (lw_Z below #[Value.ref b] s) (F0 m pc ls [.int 1]) := by
  intro T hT X
  obtain ⟨fs, hret, hrun, hended, hW, hframe⟩ := X.leave (v := some (.int 1)) (hlocks := hlocks) (fun h => by rw [hr] at h; cases h)
  have hmeth' : T.vm.method? m = some meth := X.method'
  refine ⟨T.setFrames fs, ?_, .returned (some (.int 1)), hrun, hended, rfl, ⟨_, rfl⟩, hW, hframe⟩
  jvm_step X.here [X.here.top, hx, hb, hdg, hmeth', hr, ret, narrow_b1]
  (try refine ⟨rfl, ?_⟩); (try refine ⟨rfl, ?_⟩)
  first | (intro acts; rw [hret _ acts rfl rfl rfl]) | rw [hret _ _ rfl rfl rfl]
  exact Steps.refl _
/-- what holds at the law's entry: the machine, the code, the tables' words (any of lw_tbl by 'hts w (by decide +kernel)'), the script of L ints xs at the cell b, what the Statement gives of the start (any of its parts by flat_of_before) -/
def lw_At (p : Program) (s : State) (m : MethodId) (meth : Method) (c : Code) (b L : Nat) (xs : Nat → Int32) : Prop :=
  p.tables.exec = Jvm.exec ∧ c.code = code ∧ meth.sig.returnType = ret ∧ c.maxLocals = 4 ∧ s.vm.findClass R_law = some m.cls ∧ (∀ w ∈ lw_tbl, w.before #[Value.ref b] s = true) ∧ va_X b L xs s s.heap ∧ b < s.heap.size ∧ meth.locks = false ∧ (Jvm.Cond.and given_1 narrow_1).before #[Value.ref b] s = true
section LAWF
variable {p : Program} {l : Launch} {e : Env} {s : State} {m : MethodId} {below : List Frame} {meth : Method} {c : Code} {b L : Nat} {xs : Nat → Int32} {ad : Nat → Nat → Nat} {K : Kc} {ks : List (Nat × Nat)} {D : va_G} {sc : Nat × (Nat → Int32)}
set_option maxRecDepth 20000 in
/-- from any place of the law's body on: what the abstract machine comes to, the machine comes to -/
theorem hw_law (C0 : lw_At p s m meth c b L xs) (hcl : hwCl ks) (hDD : ∀ σ, va_D (fun q => s.heap.size ≤ q) (hwW ad K ks σ)) (hG : hwG ad K (fun q => s.heap.size ≤ q) D sc s s.heap) (d : Nat) (hd : d ≤ 1000) {f : Fr} {τ : Mem} (h : Wp (WpD d) (hwCd mL_law) (fun r _ => r = some (.inl 1)) f τ) :
    hwK p l e room_1 s m #[Value.ref b] below meth c 600000 7302249 (lw_Z below #[Value.ref b] s) ad K ks (fun q => s.heap.size ≤ q) D (hwN mL_law) sc f τ := by
  obtain ⟨hx, hb, hr, hml, hown, hts, hX, hbl, hlocks, hgv⟩ := C0
  refine h _ (fun f τ hs => hw_step mL_law d hcl hx hb hml (fun w hw => hts w (hwTB_lw hw)) hown hG ⟨by show d + 9 ≤ 2048; omega, by show 60 * d + 660 ≤ 84000; omega, Nat.le_refl _, Nat.le_refl _⟩ (fun m hm => (hw_all m hm).1) ck_L_law (fun b as τ Q h1 h2 h3 => hw_sound hcl hDD hw_all d b as τ Q h1 h2 h3) ?_ f τ hs)
  intro pc i len dt msk L st τ H ls locs r hok hdg hX hQ hI
  obtain ⟨a, b1, c0, dd, f, z⟩ := dt
  have hS := hI.2.2.2.2.2.2.1
  subst hQ
  cases i with
  | ireturn =>
    obtain ⟨h1, h3⟩ := and_t hok
    obtain ⟨h1, h2⟩ := and_t h1
    obtain rfl : len = 1 := beq_t h1
    rcases st with _ | ⟨x | x | x, _ | ⟨y, st⟩⟩ <;> try (cases hX; done)
    have hX : (match (generalizing := false) a with
      | 0 => some (some (.inl x))
      | 1 => if x = 0 ∨ x = 1 then some (some (.inl x)) else none
      | _ => none) = some (some (Sum.inl 1) : Option AV) := hX
    have hx1 : x = 1 := by
      split at hX
      · exact Sum.inl.inj (Option.some.inj (Option.some.inj hX))
      · split at hX
        · exact Sum.inl.inj (Option.some.inj (Option.some.inj hX))
        · cases hX
      · cases hX
    subst hx1
    exact va_forget (fun q hq => hS.2.2 q hq) (lw_ret hx hb hr hlocks hdg)
  | lreturn =>
    rcases st with _ | ⟨x | x | x, _ | ⟨y, st⟩⟩ <;> cases hX
  | return_ =>
    rcases st with _ | ⟨x, st⟩ <;> cases hX
  | _ => exact absurd (show (none : Option (Option AV)) = some (some (Sum.inl 1)) from hX) (fun h => by cases h)
end LAWF

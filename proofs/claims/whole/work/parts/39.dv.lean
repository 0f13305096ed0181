/-! THE PURE SIDE, 20: a diviner; the place to choose -/
def sHeed (won later cost wet a b : Int64) : Int64 := (((won * a) / 100) + ((later * b) / 100)) - (((cost * ((wet * a) + ((1000000 - wet) * b))) / 100) / 1000000)
def sSpk (going won cost wet : Int64) (k : Nat) : Int64 := (sMx (sHeed won ((going - won) + cost) cost wet (lN k) (lN (100 - k))) + sMx (sHeed won ((going - won) + cost) cost wet (lN (100 - k)) (lN k))) - sMx going
theorem nI_100 {k : Nat} (h : k ≤ 100) : (100 : Int32) - nI k = nI (100 - k) := k_sub (a := 100) h
theorem x_spoken (N : Nat) (going won cost wet : Int64) (k : Nat) (hk : k ≤ 100) (σ : Mem) : F_X6_spoken N going won cost wet (nI k) σ = some (sSpk going won cost wet k, σ) := by
  unfold F_X6_spoken F_X6_heeded
  rw [nI_100 hk, nI_100 (show 100 - k ≤ 100 by omega), show 100 - (100 - k) = k by omega, nI_l (by omega), nI_l (by omega)]
  rfl
def sWord (g : Nat → Nat → Int32) (y : Nat) (th : Nat → Int64) (k : Nat) : Int64 :=
  sSpk (sGoes g (g 12 1) (sD g + 1 - y) y th) (sGain g y (g 12 1) 0 th) (1000000 * (sCost g y).toInt64) (hzS (sWet g y th) (sL g)) k
theorem x_word (N : Nat) (hN : 160 ≤ N) {g : Nat → Nat → Int32} (hw : Wf g) (y : Nat) (h1y : 1 ≤ y) (hy5 : y ≤ 5) (k : Nat) (hk : k ≤ 100) (th : Nat → Int64) (σ : Mem) (h : HX σ g) (h1 : ∀ j, j < sL g → σ.2.2.2.1 50 y j = th j) :
    ∃ τ, F_X6_wordWorth N (nI y) (nI k) σ = some (sWord g y th k, τ) ∧ KP y σ τ := by
  obtain ⟨τ1, e1, k1⟩ := x_goingOn N (by omega) hw (g 12 1) y h1y (by omega) th σ h h1
  have h2 := h.kx k1.x
  have r2 := k1.row h1
  refine ⟨τ1, ?_, k1⟩
  unfold F_X6_wordWorth
  rw [x_worth N σ h, Option.bind_some, e1, Option.bind_some, x_worth N τ1 h2, Option.bind_some, x_gain N (by omega) hw y h1y hy5 (g 12 1) 0 th τ1 h2 r2, Option.bind_some, if_neg (out_nI (by omega) (by decide)), nI_clamp (by omega), x_wet N (by omega) hw y h1y hy5 th τ1 h2 r2, Option.bind_some]
  show (F_X6_spoken N _ _ ((1000000 : Int64) * (τ1.2.2.1 42 0 y).toInt64) _ (nI k) τ1).bind _ = _
  rw [h2.2.co y h1y hy5, x_spoken N _ _ _ _ k hk τ1]
  rfl
theorem m_div25 (N : Nat) (hN : 160 ≤ N) {g : Nat → Nat → Int32} (hw : Wf g) (y : Nat) (h1y : 1 ≤ y) (hy5 : y ≤ 5) (k : Nat) (hk : k ≤ 100) (th : Nat → Int64) : ∀ (r n j : Nat) (σ : Mem), j + r = sL g → r < n → gM σ = g → (∀ j, j < sL g → σ.2.2.2.1 102 0 (5 * 0 + j) = th j) →
    ∃ τ, F_X12_divines_b25 N n (nI k) (nI y) (hzS (fun j => sWet g y th j * sGood (g 12 1) (g 73 j) 0) j) (nI j) σ = some (sWord g y th k, τ) ∧ KG 0 σ τ := by
  intro r
  have hL := sL_le hw
  induction r with
  | zero =>
    intro n j σ hj hn hg h1
    cases n with
    | zero => cases hn
    | succ n =>
      obtain ⟨τ1, e1, k1⟩ := m_costOf N hN hw y σ hg
      have g1 := k1.g.trans hg
      have r1 := (k1.kg 0).row hL h1
      obtain ⟨τ2, e2, k2⟩ := m_goesOn N hN hw y 0 h1y (by omega) (by omega) th τ1 g1 r1
      have g2 := k2.q.g.trans g1
      obtain ⟨τ3, e3, k3⟩ := m_wetOf N hN hw 0 y (by omega) th τ2 g2 (k2.row hL r1)
      refine ⟨τ3, ?_, ((k1.kg 0).trans k2).trans (k3.kg 0)⟩
      rw [F_X12_divines_b25.eq_2, rL hw hg, if_pos (nI_le (by omega) (by omega)), e1, Option.bind_some, show F_X12_goesOn N (nI y) (0 : Int32) τ1 = _ from e2, Option.bind_some, show F_X12_wetOf N (0 : Int32) (nI y) τ2 = _ from e3, Option.bind_some, show j = sL g by omega, nI_l (show k < 2 ^ 31 by omega), show (100 : Int64) - lN k = lN (100 - k) from lN_sub (a := 100) hk]
      unfold sWord sSpk
      show (if 0 ≤ lg_cmp (sHeed (sGain g y (g 12 1) 0 th) ((sGoes g (g 12 1) (sD g + 1 - y) y th - sGain g y (g 12 1) 0 th) + 1000000 * (sCost g y).toInt64) (1000000 * (sCost g y).toInt64) (hzS (sWet g y th) (sL g)) (lN k) (lN (100 - k))) 0 then
        F_X12_divines_b227 N (sGoes g (g 12 1) (sD g + 1 - y) y th) (sHeed (sGain g y (g 12 1) 0 th) ((sGoes g (g 12 1) (sD g + 1 - y) y th - sGain g y (g 12 1) 0 th) + 1000000 * (sCost g y).toInt64) (1000000 * (sCost g y).toInt64) (hzS (sWet g y th) (sL g)) (lN (100 - k)) (lN k)) (sHeed (sGain g y (g 12 1) 0 th) ((sGoes g (g 12 1) (sD g + 1 - y) y th - sGain g y (g 12 1) 0 th) + 1000000 * (sCost g y).toInt64) (1000000 * (sCost g y).toInt64) (hzS (sWet g y th) (sL g)) (lN k) (lN (100 - k))) τ3
      else F_X12_divines_b227 N (sGoes g (g 12 1) (sD g + 1 - y) y th) (sHeed (sGain g y (g 12 1) 0 th) ((sGoes g (g 12 1) (sD g + 1 - y) y th - sGain g y (g 12 1) 0 th) + 1000000 * (sCost g y).toInt64) (1000000 * (sCost g y).toInt64) (hzS (sWet g y th) (sL g)) (lN (100 - k)) (lN k)) 0 τ3) = _
      generalize sHeed (sGain g y (g 12 1) 0 th) ((sGoes g (g 12 1) (sD g + 1 - y) y th - sGain g y (g 12 1) 0 th) + 1000000 * (sCost g y).toInt64) (1000000 * (sCost g y).toInt64) (hzS (sWet g y th) (sL g)) (lN k) (lN (100 - k)) = A
      generalize sHeed (sGain g y (g 12 1) 0 th) ((sGoes g (g 12 1) (sD g + 1 - y) y th - sGain g y (g 12 1) 0 th) + 1000000 * (sCost g y).toInt64) (1000000 * (sCost g y).toInt64) (hzS (sWet g y th) (sL g)) (lN (100 - k)) (lN k) = B
      generalize sGoes g (g 12 1) (sD g + 1 - y) y th = G
      have b240 : ∀ s0 s1 : Int64, F_X12_divines_b240 N G s0 s1 τ3 = some ((s1 + s0) - sMx G, τ3) := by
        intro s0 s1
        unfold F_X12_divines_b240 sMx
        by_cases z : G < 0
        · rw [if_neg (fun q => lg_nneg.mp q z), if_pos z]
        · rw [if_pos (lg_nneg.mpr z), if_neg z]
      have b227 : ∀ s0 : Int64, F_X12_divines_b227 N G B s0 τ3 = some ((s0 + sMx B) - sMx G, τ3) := by
        intro s0
        unfold F_X12_divines_b227
        rw [b240, b240]
        unfold sMx
        by_cases z : B < 0
        · rw [if_neg (fun q => lg_nneg.mp q z), if_pos z]
        · rw [if_pos (lg_nneg.mpr z), if_neg z]
      rw [b227, b227]
      by_cases z : A < 0
      · rw [if_neg (fun q => lg_nneg.mp q z), show sMx A = 0 by unfold sMx; rw [if_pos z]]
      · rw [if_pos (lg_nneg.mpr z), show sMx A = A by unfold sMx; rw [if_neg z]]
  | succ r ih =>
    intro n j σ hj hn hg h1
    cases n with
    | zero => cases hn
    | succ n =>
      obtain ⟨υ, f1, k1⟩ := m_waterOf N hN hw y j (by omega) σ hg
      obtain ⟨τ, f2, k2⟩ := ih n (j + 1) υ (by omega) (by omega) (k1.g.trans hg) ((k1.kg 0).row hL h1)
      refine ⟨τ, ?_, (k1.kg 0).trans k2⟩
      have e5 : (nI j).toNatClampNeg = 5 * 0 + j := by rw [nI_clamp (by omega)]; omega
      rw [F_X12_divines_b25.eq_2, rL hw hg, if_neg (nI_ge (by omega) (by omega)), if_neg (out_nI (by omega) (by decide)), f1, Option.bind_some]
      show (F_X12_worthOf N (nI j) υ).bind (fun q5 => F_X12_divines_b25 N n (nI k) (nI y) (hzS (fun j => sWet g y th j * sGood (g 12 1) (g 73 j) 0) j + (((σ.2.2.2.1 102 0 (nI j).toNatClampNeg) * (sWat g y j).toInt64) / 100) * q5.1) (nI j + 1) q5.2) = _
      rw [m_worthOf N hw j (by omega) υ (k1.g.trans hg), Option.bind_some, e5, h1 j (by omega), nI_1]
      exact f2
/-- what a diviner's word brings, 0 where the deepest yard is reached -/
def sDiv (g : Nat → Nat → Int32) (p : Nat) (th : Nat → Int64) (k : Nat) : Int64 := if sDug g p + 1 ≤ sD g then sWord g (sDug g p + 1) th k else 0
theorem m_div (N : Nat) (hN : 160 ≤ N) {g : Nat → Nat → Int32} (hw : Wf g) (p : Nat) (hp : p < 4) (k : Nat) (hk : k ≤ 100) (th : Nat → Int64) (σ : Mem) (hg : gM σ = g) (h1 : ∀ j, j < sL g → σ.2.2.2.1 102 0 (5 * 0 + j) = th j) :
    ∃ τ, F_X12_divines N (nI p) (nI k) σ = some (sDiv g p th k, τ) ∧ KG 0 σ τ := by
  have hD := sD_eq hw
  have hL := sL_le hw
  obtain ⟨ed, hd⟩ := sDug_eq hw hp
  unfold F_X12_divines sDiv
  rw [if_neg (out_nI hp (by decide)), nI_clamp (by omega), rA hg (by decide) (by decide), ed, nI_1, rF hg (by decide), hD.1]
  by_cases hy : sDug g p + 1 ≤ sD g
  · obtain ⟨τ, e, k1⟩ := m_div25 N hN hw (sDug g p + 1) (by omega) (by omega) k hk th (sL g) N 0 σ (by omega) (by omega) hg h1
    refine ⟨τ, ?_, k1⟩
    rw [if_pos (nI_le hy (by omega)), if_pos hy]
    exact e
  · refine ⟨σ, ?_, KG.rfl_ 0 σ⟩
    rw [if_neg (nI_ge (by omega) (by omega)), if_neg hy]
theorem c_diviner (N : Nat) (hN : 160 ≤ N) (a b : Int32) (σ : Mem) (h : Ag σ) : Ac (F_X11_diviner N a b) (F_X12_diviner N a b) σ := by
  obtain ⟨hx, hw⟩ := h
  have hL := sL_le hw
  have hD := (sD_eq hw).2
  have hP := (sPl_eq hw).2
  rcases rg_c a (c := sPl (gM σ)) (by omega) with ⟨p, hp, rfl⟩ | hq
  rotate_left
  · refine Ac.st (r := Int64.ofInt (-4611686018427387904)) ⟨hx, hw⟩ ?_ ?_
    · unfold F_X11_diviner; rw [x_plN hw hx hq, Option.bind_some, k00]
    · unfold F_X12_diviner; rw [m_plN hw rfl hq, Option.bind_some, k00]
  rcases rg_m b 0 100 (by decide) (by decide) with ⟨n, n0, hn, rfl⟩ | hq
  rotate_left
  · refine Ac.st (r := Int64.ofInt (-4611686018427387904)) ⟨hx, hw⟩ ?_ ?_
    · unfold F_X11_diviner; rw [x_plY hw hx hp, Option.bind_some, k10, show F_X11_within N b 0 100 _ = _ from x_in_n hq, Option.bind_some, k00]
    · unfold F_X12_diviner; rw [m_plY hw rfl hp, Option.bind_some, k10, show F_X12_in N b 0 100 _ = _ from m_in_n hq, Option.bind_some, k00]
  have hp4 : p < 4 := by omega
  obtain ⟨τ1, e1, k1, r1⟩ := x_openYard N (by omega) hw p hp4 σ hx
  have hx1 := hx.kx k1
  obtain ⟨ed, hd⟩ := sDug_eq hw hp4
  cases hc : sOpen (gM σ) p with
  | false =>
    have g1 : gM τ1 = gM σ := k1.g
    obtain ⟨τ2, e2, k2, r2⟩ := m_goesHere N hN hw p hp4 (sL_pos hw hp) τ1 g1
    rw [hc] at e1 e2
    refine Ac.mk (r := Int64.ofInt (-3)) (τ1 := τ1) (τ2 := τ2) ⟨hx, hw⟩ ?_ k1.y ?_ k2.m
    · unfold F_X11_diviner
      rw [x_plY hw hx hp, Option.bind_some, k10, show F_X11_within N (nI n) 0 100 _ = _ from x_rgY n0 hn (by decide), Option.bind_some, k10, e1]
      rfl
    · unfold F_X12_diviner
      rw [m_plY hw g1 hp, Option.bind_some, k10, show F_X12_in N (nI n) 0 100 _ = _ from m_rgY n0 hn (by decide), Option.bind_some, k10, e2]
      rfl
  | true =>
    have xs : ∃ τ2, F_X11_diviner N (nI p) (nI n) σ = some (sDiv (gM σ) p (sTh (gM σ) p (sDug (gM σ) p)) n, τ2) ∧ KX σ τ2 := by
      unfold F_X11_diviner sDiv
      rw [hc] at e1
      by_cases hy : sDug (gM σ) p + 1 ≤ sD (gM σ)
      · obtain ⟨τ2, e2, k2⟩ := x_word N hN hw (sDug (gM σ) p + 1) (by omega) (by omega) n hn _ τ1 hx1 (r1 hc)
        refine ⟨τ2, ?_, k1.trans k2.x⟩
        rw [x_plY hw hx hp, Option.bind_some, k10, show F_X11_within N (nI n) 0 100 _ = _ from x_rgY n0 hn (by decide), Option.bind_some, k10, e1, Option.bind_some, if_pos rfl, if_neg (nI_ne0 (by omega) (by omega)), x_deepest N hw τ1 hx1, Option.bind_some, if_pos (nI_le hy (by omega)), e2, Option.bind_some, if_pos hy]
      · refine ⟨τ1, ?_, k1⟩
        rw [x_plY hw hx hp, Option.bind_some, k10, show F_X11_within N (nI n) 0 100 _ = _ from x_rgY n0 hn (by decide), Option.bind_some, k10, e1, Option.bind_some, if_pos rfl, if_neg (nI_ne0 (by omega) (by omega)), x_deepest N hw τ1 hx1, Option.bind_some, if_neg (nI_ge (by omega) (by omega)), if_neg hy]
    obtain ⟨τ2, e2, k2⟩ := xs
    have g2 : gM τ2 = gM σ := k2.g
    obtain ⟨τ3, e3, k3, r3⟩ := m_goesHere N hN hw p hp4 (sL_pos hw hp) τ2 g2
    have g3 : gM τ3 = gM σ := k3.g.trans g2
    obtain ⟨τ4, e4, k4⟩ := m_div N hN hw p hp4 n hn _ τ3 g3 (r3 hc)
    rw [hc] at e3
    refine Ac.mk (τ1 := τ2) (τ2 := τ4) ⟨hx, hw⟩ e2 k2.y ?_ (k3.trans k4.q).m
    unfold F_X12_diviner
    rw [m_plY hw g2 hp, Option.bind_some, k10, show F_X12_in N (nI n) 0 100 _ = _ from m_rgY n0 hn (by decide), Option.bind_some, k10, e3, Option.bind_some, if_pos rfl, k10, e4, Option.bind_some]
/-- the least right, from k on, with which it is above 0 -/
def sRt (V : Nat → Int64) : Nat → Nat → Int32
  | 0, _ => -1
  | q + 1, k => if 0 < V k then nI k else sRt V q (k + 1)
theorem sRt_0 {V : Nat → Int64} (h : ∀ k, ¬ 0 < V k) : ∀ q k, sRt V q k = -1
  | 0, _ => rfl
  | q + 1, k => by rw [sRt, if_neg (h k)]; exact sRt_0 h q (k + 1)
theorem x_bel32 (N : Nat) (hN : 160 ≤ N) {g : Nat → Nat → Int32} (hw : Wf g) (y : Nat) (h1y : 1 ≤ y) (hy5 : y ≤ 5) (th : Nat → Int64) (σ : Mem) (h : HX σ g) (h1 : ∀ j, j < sL g → σ.2.2.2.1 50 y j = th j) : ∀ (q n k : Nat), k + q = 101 → q < n →
    F_X6_leastRight_b32 N n (nI y) (sGoes g (g 12 1) (sD g + 1 - y) y th) (sGain g y (g 12 1) 0 th) (nI k) σ = some (sRt (sWord g y th) q k, σ) := by
  intro q
  induction q with
  | zero =>
    intro n k hk hn
    cases n with
    | zero => cases hn
    | succ n =>
      rw [F_X6_leastRight_b32.eq_2, if_pos (ltL_a 100 100 rfl (by omega) (by omega))]
      rfl
  | succ q ih =>
    intro n k hk hn
    cases n with
    | zero => cases hn
    | succ n =>
      rw [F_X6_leastRight_b32.eq_2, if_neg (nltL_a 100 100 rfl (by omega) (by decide)), if_neg (out_nI (by omega) (by decide)), x_wet N (by omega) hw y h1y hy5 th σ h h1, Option.bind_some, nI_clamp (by omega), h.2.co y h1y hy5, x_spoken N _ _ _ _ k (by omega) σ, Option.bind_some, nI_1, sRt]
      show (if lg_cmp (sWord g y th k) 0 ≤ 0 then F_X6_leastRight_b32 N n (nI y) (sGoes g (g 12 1) (sD g + 1 - y) y th) (sGain g y (g 12 1) 0 th) (nI (k + 1)) σ else some (nI k, σ)) = _
      by_cases z : 0 < sWord g y th k
      · rw [if_neg (fun q => lg_npos.mp q z), if_pos z]
      · rw [if_pos (lg_npos.mpr z), if_neg z]
        exact ih n (k + 1) (by omega) (by omega)
theorem m_bel25 (N : Nat) (hN : 160 ≤ N) {g : Nat → Nat → Int32} (hw : Wf g) (p : Nat) (hp : p < 4) (th : Nat → Int64) : ∀ (q n k : Nat) (σ : Mem), k + q = 101 → q < n → gM σ = g → (∀ j, j < sL g → σ.2.2.2.1 102 0 (5 * 0 + j) = th j) →
    ∃ τ, F_X12_believe_b25 N n (nI p) (nI k) σ = some (sRt (sDiv g p th) q k, τ) ∧ KG 0 σ τ := by
  intro q
  induction q with
  | zero =>
    intro n k σ hk hn hg h1
    cases n with
    | zero => cases hn
    | succ n =>
      refine ⟨σ, ?_, KG.rfl_ 0 σ⟩
      rw [F_X12_believe_b25.eq_2, if_pos (ltL_a 100 100 rfl (by omega) (by omega))]
      rfl
  | succ q ih =>
    intro n k σ hk hn hg h1
    cases n with
    | zero => cases hn
    | succ n =>
      obtain ⟨τ1, e1, k1⟩ := m_div N hN hw p hp k (by omega) th σ hg h1
      rw [F_X12_believe_b25.eq_2, if_neg (nltL_a 100 100 rfl (by omega) (by decide)), e1, Option.bind_some, nI_1, sRt]
      by_cases z : 0 < sDiv g p th k
      · refine ⟨τ1, ?_, k1⟩
        rw [if_neg (fun q => lg_npos.mp q z), if_pos z]
      · obtain ⟨τ2, e2, k2⟩ := ih n (k + 1) τ1 (by omega) (by omega) (k1.q.g.trans hg) (k1.row (sL_le hw) h1)
        refine ⟨τ2, ?_, k1.trans k2⟩
        rw [if_pos (lg_npos.mpr z), if_neg z]
        exact e2
theorem c_believe (N : Nat) (hN : 160 ≤ N) (a : Int32) (σ : Mem) (h : Ag σ) : Ac (F_X11_believe N a) (F_X12_believe N a) σ := by
  obtain ⟨hx, hw⟩ := h
  have hL := sL_le hw
  have hD := (sD_eq hw).2
  have hP := (sPl_eq hw).2
  rcases rg_c a (c := sPl (gM σ)) (by omega) with ⟨p, hp, rfl⟩ | hq
  rotate_left
  · refine Ac.st (r := Int32.ofInt (-5)) ⟨hx, hw⟩ ?_ ?_
    · unfold F_X11_believe; rw [x_plN hw hx hq, Option.bind_some, k00]
    · unfold F_X12_believe; rw [m_plN hw rfl hq, Option.bind_some, k00]
  have hp4 : p < 4 := by omega
  obtain ⟨τ1, e1, k1, r1⟩ := x_openYard N (by omega) hw p hp4 σ hx
  have hx1 := hx.kx k1
  obtain ⟨ed, hd⟩ := sDug_eq hw hp4
  cases hc : sOpen (gM σ) p with
  | false =>
    have g1 : gM τ1 = gM σ := k1.g
    obtain ⟨τ2, e2, k2, r2⟩ := m_goesHere N hN hw p hp4 (sL_pos hw hp) τ1 g1
    rw [hc] at e1 e2
    refine Ac.mk (r := Int32.ofInt (-3)) (τ1 := τ1) (τ2 := τ2) ⟨hx, hw⟩ ?_ k1.y ?_ k2.m
    · unfold F_X11_believe
      rw [x_plY hw hx hp, Option.bind_some, k10, e1]
      rfl
    · unfold F_X12_believe
      rw [m_plY hw g1 hp, Option.bind_some, k10, e2]
      rfl
  | true =>
    have xs : ∃ τ2, F_X11_believe N (nI p) σ = some (sRt (sDiv (gM σ) p (sTh (gM σ) p (sDug (gM σ) p))) 51 50, τ2) ∧ KX σ τ2 := by
      unfold F_X11_believe
      rw [hc] at e1
      by_cases hy : sDug (gM σ) p + 1 ≤ sD (gM σ)
      · have ev : sDiv (gM σ) p (sTh (gM σ) p (sDug (gM σ) p)) = sWord (gM σ) (sDug (gM σ) p + 1) (sTh (gM σ) p (sDug (gM σ) p)) := by
          funext k; unfold sDiv; rw [if_pos hy]
        obtain ⟨τ2, e2, k2⟩ := x_goingOn N (by omega) hw (gM σ 12 1) (sDug (gM σ) p + 1) (by omega) (by omega) _ τ1 hx1 (r1 hc)
        have hx2 := hx1.kx k2.x
        have r2 := k2.row (r1 hc)
        refine ⟨τ2, ?_, k1.trans k2.x⟩
        rw [x_plY hw hx hp, Option.bind_some, k10, e1, Option.bind_some, if_pos rfl, if_neg (nI_ne0 (by omega) (by omega)), x_deepest N hw τ1 hx1, Option.bind_some, if_pos (nI_le hy (by omega)), ev]
        unfold F_X6_leastRight
        rw [x_worth N τ1 hx1, Option.bind_some, e2, Option.bind_some, x_worth N τ2 hx2, Option.bind_some, x_gain N (by omega) hw (sDug (gM σ) p + 1) (by omega) (by omega) (gM σ 12 1) 0 _ τ2 hx2 r2, Option.bind_some, show F_X6_leastRight_b32 N N (nI (sDug (gM σ) p + 1)) (sGoes (gM σ) (gM σ 12 1) (sD (gM σ) + 1 - (sDug (gM σ) p + 1)) (sDug (gM σ) p + 1) (sTh (gM σ) p (sDug (gM σ) p))) (sGain (gM σ) (sDug (gM σ) p + 1) (gM σ 12 1) 0 (sTh (gM σ) p (sDug (gM σ) p))) (50 : Int32) τ2 = _ from x_bel32 N hN hw (sDug (gM σ) p + 1) (by omega) (by omega) _ τ2 hx2 r2 51 N 50 (by decide) (by omega), Option.bind_some]
      · have ev : sRt (sDiv (gM σ) p (sTh (gM σ) p (sDug (gM σ) p))) 51 50 = -1 := sRt_0 (fun k => by unfold sDiv; rw [if_neg hy]; decide) 51 50
        refine ⟨τ1, ?_, k1⟩
        rw [x_plY hw hx hp, Option.bind_some, k10, e1, Option.bind_some, if_pos rfl, if_neg (nI_ne0 (by omega) (by omega)), x_deepest N hw τ1 hx1, Option.bind_some, if_neg (nI_ge (by omega) (by omega)), ev]
        rfl
    obtain ⟨τ2, e2, k2⟩ := xs
    have g2 : gM τ2 = gM σ := k2.g
    obtain ⟨τ3, e3, k3, r3⟩ := m_goesHere N hN hw p hp4 (sL_pos hw hp) τ2 g2
    have g3 : gM τ3 = gM σ := k3.g.trans g2
    obtain ⟨τ4, e4, k4⟩ := m_bel25 N hN hw p hp4 _ 51 N 50 τ3 (by decide) (by omega) g3 (r3 hc)
    rw [hc] at e3
    refine Ac.mk (τ1 := τ2) (τ2 := τ4) ⟨hx, hw⟩ e2 k2.y ?_ (k3.trans k4.q).m
    unfold F_X12_believe
    rw [m_plY hw g2 hp, Option.bind_some, k10, e3, Option.bind_some, if_pos rfl, k10]
    exact e4
/-! the place to choose -/
def sNx (g : Nat → Nat → Int32) (p : Nat) : Int32 := if sOpen g p = true then sLw g (sDug g p + 1) (sTh g p (sDug g p)) else -1
theorem sNx_is (g : Nat → Nat → Int32) (p : Nat) : sNx g p = -1 ∨ ∃ k, k ≤ 9999 ∧ sNx g p = nI k := by
  unfold sNx
  split
  · unfold sLw
    split
    · rename_i h
      exact Or.inr ⟨_, by omega, rfl⟩
    · exact Or.inl rfl
  · exact Or.inl rfl
/-- the best of the first n: its place, its number; 10000 stands for none -/
def sCh (g : Nat → Nat → Int32) : Nat → Int32 × Nat
  | 0 => (-1, (g 12 1).toNatClampNeg + 1)
  | n + 1 => if sNx g n < 0 then sCh g n else if nI (sCh g n).2 ≤ sNx g n then sCh g n else (nI n, (sNx g n).toNatClampNeg)
theorem sCh_le {g : Nat → Nat → Int32} (hw : Wf g) : ∀ n : Nat, n ≤ 4 → (sCh g n).2 ≤ (g 12 1).toNatClampNeg + 1 ∧ ((sCh g n).1 = -1 ∧ (sCh g n).2 = (g 12 1).toNatClampNeg + 1 ∨ (∃ k, k < n ∧ (sCh g n).1 = nI k) ∧ (sCh g n).2 ≤ (g 12 1).toNatClampNeg)
  | 0, _ => ⟨Nat.le_refl _, Or.inl ⟨rfl, rfl⟩⟩
  | n + 1, hn => by
    obtain ⟨a, b⟩ := sCh_le hw n (by omega)
    have hwo := hw.wo.2
    have up : ((sCh g n).1 = -1 ∧ (sCh g n).2 = (g 12 1).toNatClampNeg + 1 ∨ (∃ k, k < n ∧ (sCh g n).1 = nI k) ∧ (sCh g n).2 ≤ (g 12 1).toNatClampNeg) → ((sCh g n).1 = -1 ∧ (sCh g n).2 = (g 12 1).toNatClampNeg + 1 ∨ (∃ k, k < n + 1 ∧ (sCh g n).1 = nI k) ∧ (sCh g n).2 ≤ (g 12 1).toNatClampNeg) := by
      rintro (h | ⟨⟨k, hk, e⟩, h⟩)
      · exact Or.inl h
      · exact Or.inr ⟨⟨k, by omega, e⟩, h⟩
    rw [sCh]
    split
    · exact ⟨a, up b⟩
    · rename_i h0
      split
      · exact ⟨a, up b⟩
      · rename_i h1
        rcases sNx_is g n with e | ⟨k, hk, e⟩
        · rw [e] at h0; exact absurd (by decide) h0
        · rw [e] at h1
          have : k < (sCh g n).2 := Nat.lt_of_not_le (fun q => h1 (nI_le q (by omega)))
          show (sNx g n).toNatClampNeg ≤ _ ∧ (_ ∨ (∃ k, k < n + 1 ∧ nI n = nI k) ∧ (sNx g n).toNatClampNeg ≤ _)
          rw [e, nI_clamp (by omega)]
          exact ⟨by omega, Or.inr ⟨⟨n, by omega, rfl⟩, by omega⟩⟩
theorem x_next14 (N : Nat) (hN : 160 ≤ N) {g : Nat → Nat → Int32} (hw : Wf g) : ∀ (q n p : Nat) (σ : Mem), p + q = sPl g → q < n → HX σ g →
    ∃ τ, F_X11_next_b14 N n (sCh g p).1 (nI (sCh g p).2) (nI p) σ = some ((sCh g (sPl g)).1, τ) ∧ KX σ τ := by
  have hP := sPl_eq hw
  intro q
  induction q with
  | zero =>
    intro n p σ hk hn h
    cases n with
    | zero => cases hn
    | succ n =>
      refine ⟨σ, ?_, KX.rfl_ σ⟩
      rw [F_X11_next_b14.eq_2, h.1.pl, hP.1, if_pos (nI_le (by omega) (by omega)), show p = sPl g by omega]
  | succ q ih =>
    intro n p σ hk hn h
    cases n with
    | zero => cases hn
    | succ n =>
      have hp4 : p < 4 := by omega
      obtain ⟨ed, hd⟩ := sDug_eq hw hp4
      have b53 : ∀ τ, HX τ g → ∃ υ, F_X11_next_b53 N (F_X11_next_b14 N n) (sCh g p).1 (nI (sCh g p).2) (nI p) (sNx g p) τ = some ((sCh g (sPl g)).1, υ) ∧ KX τ υ := by
        intro τ hτ
        obtain ⟨υ, e2, k2⟩ := ih n (p + 1) τ (by omega) (by omega) hτ
        refine ⟨υ, ?_, k2⟩
        unfold F_X11_next_b53
        rw [nI_1]
        rw [sCh] at e2
        by_cases c0 : sNx g p < 0
        · rw [if_pos c0]; rw [if_pos c0] at e2; exact e2
        rw [if_neg c0]; rw [if_neg c0] at e2
        by_cases c1 : nI (sCh g p).2 ≤ sNx g p
        · rw [if_pos c1]; rw [if_pos c1] at e2; exact e2
        rw [if_neg c1]; rw [if_neg c1] at e2
        rcases sNx_is g p with e | ⟨k, hk, e⟩
        · rw [e] at c0; exact absurd (by decide) c0
        · rw [e] at e2 ⊢
          rw [nI_clamp (by omega)] at e2
          exact e2
      obtain ⟨τ1, e1, k1, r1⟩ := x_openYard N (by omega) hw p hp4 σ h
      rw [F_X11_next_b14.eq_2, h.1.pl, hP.1, if_neg (nI_ge (by omega) (by omega)), e1, Option.bind_some]
      cases hc : sOpen g p with
      | false =>
        obtain ⟨υ, e2, k2⟩ := b53 τ1 (h.kx k1)
        refine ⟨υ, ?_, k1.trans k2⟩
        have ev : sNx g p = -1 := by unfold sNx; rw [hc, if_neg (by decide)]
        rw [ev] at e2
        exact e2
      | true =>
        have hb := sTh_int hw hp4 (sL_pos hw (show p < sPl g by omega)) _ (and_t hc).2
        obtain ⟨τ2, e2, k2⟩ := x_least N hN hw (sDug g p + 1) (by omega) (by omega) _ hb τ1 (h.kx k1) (r1 hc)
        obtain ⟨υ, e3, k3⟩ := b53 τ2 ((h.kx k1).kx k2.x)
        refine ⟨υ, ?_, (k1.trans k2.x).trans k3⟩
        have ev : sNx g p = sLw g (sDug g p + 1) (sTh g p (sDug g p)) := by unfold sNx; rw [hc, if_pos rfl]
        rw [ev] at e3
        generalize sLw g (sDug g p + 1) (sTh g p (sDug g p)) = v at e2 e3
        rw [if_pos rfl, if_neg (nI_ne0 (by omega) (by omega)), e2, Option.bind_some]
        exact e3
theorem m_next6 (N : Nat) (hN : 160 ≤ N) {g : Nat → Nat → Int32} (hw : Wf g) : ∀ (q n p : Nat) (low : Int32) (σ : Mem), p + q = sPl g → q < n → gM σ = g → ((sCh g p).1 ≠ -1 → low = nI (sCh g p).2) →
    ∃ τ, F_X12_next_b6 N n (sCh g p).1 low (nI p) σ = some ((sCh g (sPl g)).1, τ) ∧ KM σ τ := by
  have hP := sPl_eq hw
  intro q
  induction q with
  | zero =>
    intro n p low σ hk hn hg hlow
    cases n with
    | zero => cases hn
    | succ n =>
      refine ⟨σ, ?_, KM.rfl_ σ⟩
      rw [F_X12_next_b6.eq_2, rF hg (by decide), hP.1, if_pos (nI_le (by omega) (by omega)), show p = sPl g by omega]
  | succ q ih =>
    intro n p low σ hk hn hg hlow
    cases n with
    | zero => cases hn
    | succ n =>
      have hp4 : p < 4 := by omega
      obtain ⟨ed, hd⟩ := sDug_eq hw hp4
      obtain ⟨ew, hw9⟩ := hw.wo
      obtain ⟨ha, hb⟩ := sCh_le hw p (by omega)
      have b31 : ∀ τ, gM τ = g → ∃ υ, F_X12_next_b31 N (F_X12_next_b6 N n) (sCh g p).1 low (nI p) (sNx g p) τ = some ((sCh g (sPl g)).1, υ) ∧ KM τ υ := by
        intro τ hτ
        have same : sCh g (p + 1) = sCh g p → ∃ υ, F_X12_next_b6 N n (sCh g p).1 low (nI (p + 1)) τ = some ((sCh g (sPl g)).1, υ) ∧ KM τ υ := by
          intro e
          have := ih n (p + 1) low τ (by omega) (by omega) hτ (by rw [e]; exact hlow)
          rw [e] at this
          exact this
        unfold F_X12_next_b31
        rw [nI_1, rF hτ (by decide)]
        by_cases c0 : sNx g p < 0
        · rw [if_pos c0]; exact same (by rw [sCh, if_pos c0])
        rw [if_neg c0]
        rcases sNx_is g p with e | ⟨k, hk, e⟩
        · rw [e] at c0; exact absurd (by decide) c0
        by_cases c2 : (g 12 1).toNatClampNeg < k
        · rw [if_pos (by rw [e, ew]; exact nI_lt c2 (by omega))]
          exact same (by rw [sCh, if_neg c0, if_pos (by rw [e]; exact nI_le (by omega) (by omega))])
        rw [if_neg (by rw [e, ew]; exact nI_nlt (by omega) (by omega))]
        have new : ¬ nI (sCh g p).2 ≤ sNx g p → ∃ υ, F_X12_next_b6 N n (nI p) (sNx g p) (nI (p + 1)) τ = some ((sCh g (sPl g)).1, υ) ∧ KM τ υ := by
          intro z
          have ev : sCh g (p + 1) = (nI p, k) := by rw [sCh, if_neg c0, if_neg z, e, nI_clamp (by omega)]
          have := ih n (p + 1) (sNx g p) τ (by omega) (by omega) hτ (fun _ => by rw [ev]; exact e)
          rw [ev] at this
          exact this
        rcases hb with ⟨b1, b2⟩ | ⟨⟨i, hi, b1⟩, b2⟩
        · rw [if_pos (show (sCh g p).1 = Int32.ofInt (-1) from b1)]
          exact new (by rw [b2, e]; exact nI_ge (by omega) (by omega))
        · have hne : ¬ (sCh g p).1 = -1 := by
            rw [b1]
            intro e
            have := congrArg Int32.toInt e
            rw [nI_toInt (by omega), show (-1 : Int32).toInt = -1 from by decide] at this
            omega
          rw [if_neg (show ¬ (sCh g p).1 = Int32.ofInt (-1) from hne)]
          by_cases c1 : nI (sCh g p).2 ≤ sNx g p
          · rw [if_pos (by rw [hlow hne]; exact c1)]
            exact same (by rw [sCh, if_neg c0, if_pos c1])
          · rw [if_neg (by rw [hlow hne]; exact c1)]
            exact new c1
      obtain ⟨τ1, e1, k1, r1⟩ := m_goesHere N hN hw p hp4 (sL_pos hw (show p < sPl g by omega)) σ hg
      have g1 := k1.g.trans hg
      rw [F_X12_next_b6.eq_2, rF hg (by decide), hP.1, if_neg (nI_ge (by omega) (by omega)), e1, Option.bind_some]
      cases hc : sOpen g p with
      | false =>
        obtain ⟨υ, e2, k2⟩ := b31 τ1 g1
        refine ⟨υ, ?_, k1.m.trans k2⟩
        have ev : sNx g p = -1 := by unfold sNx; rw [hc, if_neg (by decide)]
        rw [ev] at e2
        exact e2
      | true =>
        have hb := sTh_int hw hp4 (sL_pos hw (show p < sPl g by omega)) _ (and_t hc).2
        obtain ⟨τ2, e2, k2⟩ := m_indexOf N hN hw p hp4 _ hb τ1 g1 (r1 hc)
        obtain ⟨υ, e3, k3⟩ := b31 τ2 (k2.g.trans g1)
        refine ⟨υ, ?_, (k1.m.trans k2.m).trans k3⟩
        have ev : sNx g p = sLw g (sDug g p + 1) (sTh g p (sDug g p)) := by unfold sNx; rw [hc, if_pos rfl]
        rw [ev] at e3
        generalize sLw g (sDug g p + 1) (sTh g p (sDug g p)) = v at e2 e3
        rw [if_pos rfl, k10, e2, Option.bind_some]
        exact e3
theorem c_next (N : Nat) (hN : 160 ≤ N) (σ : Mem) (h : Ag σ) : Ac (F_X11_next N) (F_X12_next N) σ := by
  obtain ⟨hx, hw⟩ := h
  have hP := (sPl_eq hw).2
  obtain ⟨τ1, e1, k1⟩ := x_next14 N hN hw (sPl (gM σ)) N 0 σ (by omega) (by omega) hx
  obtain ⟨τ2, e2, k2⟩ := m_next6 N hN hw (sPl (gM σ)) N 0 0 τ1 (by omega) (by omega) k1.g (fun q => absurd rfl q)
  refine Ac.mk (r := (sCh (gM σ) (sPl (gM σ))).1) (τ1 := τ1) (τ2 := τ2) ⟨hx, hw⟩ ?_ k1.y ?_ k2
  · unfold F_X11_next
    rw [x_worth N σ hx, Option.bind_some]
    show F_X11_next_b14 N N (Int32.ofInt (-1)) (gM σ 12 1 + 1) 0 σ = _
    rw [hw.wo.1, nI_1]
    exact e1
  · unfold F_X12_next
    exact e2

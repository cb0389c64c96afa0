/-! ===== alone: the greatest mean ===== -/
def aMx (v : Nat → Nat) : Nat → Nat → Nat
  | 0, _ => 0
  | m + 1, w => max (v w) (aMx v m (w + 1))
def aA (od : Nat → Nat → Nat) (st : Nat) : Nat → Nat → Nat → Nat
  | 0, _, b => 1000 * b
  | left + 1, f, b => if 99 < f then 1000 * b else aMx (fun w => (od (left + 1) w * aA od st left (w + st) w + (100 - od (left + 1) w) * aA od st left w b) / 100) (100 - f) f
def aV (od : Nat → Nat → Nat) (st left w b : Nat) : Nat := (od (left + 1) w * aA od st left (w + st) w + (100 - od (left + 1) w) * aA od st left w b) / 100
theorem aMx_le {v : Nat → Nat} {c : Nat} : ∀ (m w : Nat), (∀ j, w ≤ j → j < w + m → v j ≤ c) → aMx v m w ≤ c
  | 0, w, _ => Nat.zero_le _
  | m + 1, w, h => by
    have h1 := h w (Nat.le_refl _) (by omega)
    have h2 := aMx_le m (w + 1) (fun j j1 j2 => h j (by omega) (by omega))
    show max (v w) (aMx v m (w + 1)) ≤ c
    omega
theorem mix_le {o x y : Nat} (ho : o ≤ 100) (hx : x ≤ 99000) (hy : y ≤ 99000) : o * x + (100 - o) * y ≤ 9900000 := by
  have h1 := Nat.mul_le_mul_left o hx
  have h2 := Nat.mul_le_mul_left (100 - o) hy
  omega
theorem aA_le {od : Nat → Nat → Nat} {st : Nat} (ho : ∀ i w, od i w ≤ 100) : ∀ (left f b : Nat), b ≤ 99 → aA od st left f b ≤ 99000
  | 0, f, b, hb => by show 1000 * b ≤ _; omega
  | left + 1, f, b, hb => by
    unfold aA
    split
    · omega
    · refine aMx_le _ _ (fun j j1 j2 => ?_)
      have := mix_le (ho (left + 1) j) (aA_le (st := st) ho left (j + st) j (by omega)) (aA_le (st := st) ho left j b hb)
      omega
theorem aV_le {od : Nat → Nat → Nat} {st left w b : Nat} (ho : ∀ i w, od i w ≤ 100) (hw : w ≤ 99) (hb : b ≤ 99) : od (left + 1) w * aA od st left (w + st) w + (100 - od (left + 1) w) * aA od st left w b ≤ 9900000 ∧ aV od st left w b ≤ 99000 := by
  have := mix_le (ho (left + 1) w) (aA_le (st := st) ho left (w + st) w hw) (aA_le (st := st) ho left w b hb)
  unfold aV
  exact ⟨this, by omega⟩
theorem aA_hi {od : Nat → Nat → Nat} {st left f b : Nat} (hf : 99 < f) : aA od st left f b = 1000 * b := by
  cases left with
  | zero => rfl
  | succ left => exact if_pos hf
theorem aA_99 {od : Nat → Nat → Nat} {st left b : Nat} : aA od st (left + 1) 99 b = aV od st left 99 b := by
  show max (aV od st left 99 b) 0 = _
  omega
theorem aA_st {od : Nat → Nat → Nat} {st left f b : Nat} (hf : f < 99) : aA od st (left + 1) f b = max (aV od st left f b) (aA od st (left + 1) (f + 1) b) := by
  unfold aA
  rw [if_neg (by omega), if_neg (by omega), show 100 - f = (100 - (f + 1)) + 1 by omega]
  rfl
theorem kd79 : ∀ i, i < 4 → pm_kd (79 + i) = .inl (0, 105, 0) := by
  intro i hi
  rcases (show i = 0 ∨ i = 1 ∨ i = 2 ∨ i = 3 by omega) with rfl | rfl | rfl | rfl <;> rfl
theorem kd84 : ∀ i, i < 3 → pm_kd (84 + i) = .inl (0, 105, 0) := by
  intro i hi
  rcases (show i = 0 ∨ i = 1 ∨ i = 2 by omega) with rfl | rfl | rfl <;> rfl
theorem kd88 : ∀ i, i < 3 → pm_kd (88 + i) = .inl (0, 105, 0) := by
  intro i hi
  rcases (show i = 0 ∨ i = 1 ∨ i = 2 by omega) with rfl | rfl | rfl <;> rfl
def CHs (od : Nat → Nat → Nat) (N : Nat) (σ : pm_H) : Prop := ∀ left, 1 ≤ left → left ≤ N → ∀ w, 1 ≤ w → w ≤ 99 → σ.1 (79 + left) w = nI (od left w)
def BGs (od : Nat → Nat → Nat) (st L : Nat) (σ : pm_H) : Prop := ∀ left, left < L → ∀ w, 1 ≤ w → w ≤ 99 → σ.1 (84 + left) w = nI (aA od st left (w + st) w)
def RWs (od : Nat → Nat → Nat) (st b m : Nat) (σ : pm_H) : Prop := ∀ left, left ≤ m → ∀ f, 1 ≤ f → f ≤ 104 → σ.1 (88 + left) f = nI (aA od st left f b)
theorem q_mean (d : Nat) {od : Nat → Nat → Nat} {st left w b : Nat} {σ : pm_H} (ho : ∀ i w, od i w ≤ 100) (hl : left < 3) (hw1 : 1 ≤ w) (hw : w ≤ 99) (hb : b ≤ 99) (h1 : σ.1 (79 + (left + 1)) w = nI (od (left + 1) w)) (h2 : σ.1 (84 + left) w = nI (aA od st left (w + st) w)) (h3 : σ.1 (88 + left) w = nI (aA od st left w b)) : xe (d + 1) 254 [.ref 76, .int (nI w), .int (nI (left + 1))] σ = some (some (.int (nI (aV od st left w b))), σ) := by
  have hlw : (nI (left + 1) : Int32).toNatClampNeg = left + 1 := nI_clamp (by omega)
  have hlm : (nI (left + 1) - nI 1 : Int32).toNatClampNeg = left := by rw [pk_sub (by omega), Nat.add_sub_cancel, nI_clamp (by omega)]
  obtain ⟨v1, v2⟩ := aV_le (st := st) (left := left) ho hw hb
  rw [en_X8_meanOfAsking, sg_X8_meanOfAsking_0 (by rw [hlw]; exact kd79 _ (by omega)) (by rw [hlm]; exact kd84 _ hl) (by rw [hlm]; exact kd88 _ hl), hlw, hlm, pk_sub (show 1 ≤ left + 1 by omega), Nat.add_sub_cancel, ck_n _ (by omega) (by omega), ck_n _ (by omega) (by omega), ck_n _ (by omega) (by omega), ck_n _ (by omega) (by omega), ck_n _ (by omega) (by omega), ck_n _ (by omega) (by omega), nI_clamp (show w < 2 ^ 31 by omega), h1, h2, h3, pk_mul, pk_sub (ho _ _), pk_mul, nI_add, pk_div (by omega) (by omega) (by omega)]
  rfl
def FR8 (σ σ' : pm_H) : Prop := (∀ c, c < 88 ∨ 90 < c → σ'.1 c = σ.1 c) ∧ σ'.2 = σ.2
theorem FR8_w {σ σ' : pm_H} (h : FR8 σ σ') {i : Nat} (hi : i < 3) (u : Nat → Int32) : FR8 σ (pm_wC σ' (88 + i) u) := ⟨fun c hc => by rw [wC_ne _ _ (by omega)]; exact h.1 c hc, h.2⟩
theorem sg_fr_out {ev : pm_Ev} {σ : pm_H} {l1 l2 l3 : Int32} {w4 w5 : Value} (h : l2 < l3) : pm_run ev pg_X8_fillRows (16, [.ref 76, .int l1, .int l2, .int l3, w4, w5], [], σ) = some (none, σ) := Eq.trans (x_il (hx_k rfl rfl) rfl) (Eq.trans (x_il (hx_p rfl) rfl) (Eq.trans (x_cgt (hx_p rfl)) (Eq.trans (if_pos h) (x_vret (hx_p rfl)))))
theorem q_fr_in (d : Nat) {od : Nat → Nat → Nat} {st left b : Nat} {σ : pm_H} {l2 : Int32} (ho : ∀ i w, od i w ≤ 100) (hl : left < 2) (hb : b ≤ 99) (hC : CHs od (left + 1) σ) (hB : BGs od st (left + 1) σ) : ∀ (m : Nat) (σ' : pm_H) (w5 : Value), m ≤ 99 → FR8 σ σ' → RWs od st b left σ' → (∀ f, m < f → f ≤ 104 → σ'.1 (88 + (left + 1)) f = nI (aA od st (left + 1) f b)) → ∃ σ2, pm_run (xe (d + 1)) pg_X8_fillRows (44, [.ref 76, .int (nI b), .int l2, .int (nI (left + 1)), .int (nI m), w5], [], σ') = pm_run (xe (d + 1)) pg_X8_fillRows (16, [.ref 76, .int (nI b), .int l2, .int (nI (left + 2)), .int (nI 0), .null], [], σ2) ∧ FR8 σ σ2 ∧ RWs od st b (left + 1) σ2
  | 0, σ', w5, hm, fr, hR, hU => by
    refine ⟨σ', ?_, fr, fun i hi f f1 f2 => ?_⟩
    · rw [sg_X8_fillRows_44, if_pos (by decide), nI_add]
    · by_cases e : i = left + 1
      · subst e
        exact hU f (by omega) f2
      · exact hR i (by omega) f f1 f2
  | m + 1, σ', w5, hm, fr, hR, hU => by
    have hlw : (nI (left + 1) : Int32).toNatClampNeg = left + 1 := nI_clamp (by omega)
    obtain ⟨v1, v2⟩ := aV_le (st := st) (left := left) (w := m + 1) ho (by omega) hb
    rw [sg_X8_fillRows_44, if_neg (nI_nlt (by omega) (by omega)), q_mean d (od := od) (st := st) (left := left) (w := m + 1) (b := b) ho (by omega) (by omega) (by omega) hb (by rw [fr.1 _ (by omega)]; exact hC _ (by omega) (by omega) _ (by omega) (by omega)) (by rw [fr.1 _ (by omega)]; exact hB _ (by omega) _ (by omega) (by omega)) (hR left (by omega) _ (by omega) (by omega))]
    simp only [pm_cl_some, Option.toList_some, Option.toList_none, List.cons_append, List.nil_append]
    rw [sg_X8_fillRows_57 (by rw [hlw]; exact kd88 _ (by omega)), hlw, ck_n _ (by omega) (by omega)]
    have go : ∀ u : Int32, u = nI (aA od st (left + 1) (m + 1) b) → ∃ σ2, pm_run (xe (d + 1)) pg_X8_fillRows (44, [.ref 76, .int (nI b), .int l2, .int (nI (left + 1)), .int (nI (m + 1) + (-1)), .int (nI (aV od st left (m + 1) b))], [], pm_wI σ' (88 + (left + 1)) (m + 1) u) = pm_run (xe (d + 1)) pg_X8_fillRows (16, [.ref 76, .int (nI b), .int l2, .int (nI (left + 2)), .int (nI 0), .null], [], σ2) ∧ FR8 σ σ2 ∧ RWs od st b (left + 1) σ2 := by
      intro u hu
      rw [pk_m1, wI_wC]
      refine q_fr_in d ho hl hb hC hB m _ _ (by omega) (FR8_w fr (by omega) _) (fun i hi f f1 f2 => by rw [wC_ne _ _ (by omega)]; exact hR i hi f f1 f2) (fun f f1 f2 => ?_)
      rw [wC_at]
      by_cases e : f = m + 1
      · subst e
        rw [up_at, hu]
      · rw [up_ne _ _ e]
        exact hU f (by omega) f2
    by_cases c : m + 1 = 99
    · rw [if_pos (by rw [c]), ck_n _ (by omega) (by omega), nI_clamp (show m + 1 < 2 ^ 31 by omega)]
      exact go _ (by rw [c, aA_99])
    · have hA := aA_le (st := st) ho (left + 1) (m + 1 + 1) b hb
      rw [if_neg (fun e => c ((nI_eq (by omega) (by omega)).mp e)), nI_add, ck_n _ (by omega) (by omega), ck_n _ (by omega) (by omega), ck_n _ (by omega) (by omega), nI_clamp (show m + 1 + 1 < 2 ^ 31 by omega), nI_clamp (show m + 1 < 2 ^ 31 by omega), hU (m + 1 + 1) (by omega) (by omega)]
      refine go _ ?_
      rw [aA_st (show m + 1 < 99 by omega)]
      by_cases c2 : aV od st left (m + 1) b < aA od st (left + 1) (m + 1 + 1) b
      · rw [if_pos (nI_lt c2 (by omega)), show max (aV od st left (m + 1) b) (aA od st (left + 1) (m + 1 + 1) b) = aA od st (left + 1) (m + 1 + 1) b by omega]
      · rw [if_neg (nI_nlt (by omega) (by omega)), show max (aV od st left (m + 1) b) (aA od st (left + 1) (m + 1 + 1) b) = aV od st left (m + 1) b by omega]
theorem q_fr_l (d : Nat) {od : Nat → Nat → Nat} {st mo b : Nat} {σ : pm_H} (ho : ∀ i w, od i w ≤ 100) (hm : mo < 3) (hb : b ≤ 99) (hC : CHs od mo σ) (hB : BGs od st mo σ) : ∀ (m left : Nat) (σ' : pm_H) (w4 w5 : Value), left + m = mo → FR8 σ σ' → RWs od st b left σ' → ∃ σ2, pm_run (xe (d + 1)) pg_X8_fillRows (16, [.ref 76, .int (nI b), .int (nI mo), .int (nI (left + 1)), w4, w5], [], σ') = some (none, σ2) ∧ FR8 σ σ2 ∧ RWs od st b mo σ2
  | 0, left, σ', w4, w5, e, fr, hR => by
    refine ⟨σ', sg_fr_out (nI_lt (by omega) (by omega)), fr, ?_⟩
    rw [show mo = left by omega]
    exact hR
  | m + 1, left, σ', w4, w5, e, fr, hR => by
    have hlw : (nI (left + 1) : Int32).toNatClampNeg = left + 1 := nI_clamp (by omega)
    rw [sg_X8_fillRows_16 (by rw [hlw]; exact kd88 _ (by omega)), if_neg (nI_nlt (by omega) (by omega)), if_pos (nI_lt (by omega) (by omega)), ck_n _ (by omega) (by omega), hlw, pk_mul, q_fill d σ' (kd88 (left + 1) (by omega)) (by omega)]
    simp only [pm_cl_some, Option.toList_some, Option.toList_none, List.cons_append, List.nil_append]
    rw [sg_X8_fillRows_40]
    obtain ⟨σ2, i1, i2, i3⟩ := q_fr_in d (od := od) (st := st) (left := left) (b := b) (σ := σ) (l2 := nI mo) ho (by omega) hb (fun l l1 l2 => hC l l1 (by omega)) (fun l l1 => hB l (by omega)) 99 (pm_wC σ' (88 + (left + 1)) (fun j => if j < 105 then nI (b * 1000) else σ'.1 (88 + (left + 1)) j)) .null (by omega) (FR8_w fr (by omega) _) (fun i hi f f1 f2 => by rw [wC_ne _ _ (by omega)]; exact hR i hi f f1 f2) (fun f f1 f2 => by
      rw [wC_at]
      show (if f < 105 then nI (b * 1000) else _) = _
      rw [if_pos (by omega), aA_hi f1, Nat.mul_comm])
    rw [i1]
    exact q_fr_l d ho hm hb hC hB m (left + 1) σ2 _ _ (by omega) i2 i3
theorem q_fr (d : Nat) {od : Nat → Nat → Nat} {st mo b : Nat} {σ : pm_H} (ho : ∀ i w, od i w ≤ 100) (hm : mo < 3) (hb : b ≤ 99) (hC : CHs od mo σ) (hB : BGs od st mo σ) : ∃ σ2, xe (d + 2) 253 [.ref 76, .int (nI b), .int (nI mo)] σ = some (none, σ2) ∧ FR8 σ σ2 ∧ RWs od st b mo σ2 := by
  have h0 : (nI 0 : Int32).toNatClampNeg = 0 := nI_clamp (by omega)
  rw [en_X8_fillRows, sg_X8_fillRows_0 (by rw [h0]; rfl), h0, ck_n _ (by omega) (by omega), pk_mul, q_fill d σ (kd88 0 (by omega)) (by omega)]
  simp only [pm_cl_some, Option.toList_some, Option.toList_none, List.cons_append, List.nil_append]
  rw [sg_X8_fillRows_14]
  exact q_fr_l d ho hm hb hC hB mo 0 _ _ _ (by omega) (FR8_w ⟨fun _ _ => rfl, rfl⟩ (by omega) _) (fun i hi f f1 f2 => by
    rw [show i = 0 by omega, wC_at]
    show (if f < 105 then nI (b * 1000) else _) = nI (1000 * b)
    rw [if_pos (by omega), Nat.mul_comm])
/-- behind a good lift -/
def FR4 (σ σ' : pm_H) : Prop := (∀ c, c < 84 ∨ 90 < c ∨ c = 87 → σ'.1 c = σ.1 c) ∧ σ'.2 = σ.2
theorem q_pl_w (d : Nat) {od : Nat → Nat → Nat} {st left N l : Nat} {σ : pm_H} (ho : ∀ i w, od i w ≤ 100) (hN : N ≤ 3) (hl : left < N) (hst : 1 ≤ st ∧ st ≤ 5) (hs : σ.1 5 2 = nI st) (hC : CHs od N σ) : ∀ (m w : Nat) (σ' : pm_H), w + m = 100 → 1 ≤ w → FR4 σ σ' → BGs od st left σ' → (∀ w', 1 ≤ w' → w' < w → σ'.1 (84 + left) w' = nI (aA od st left (w' + st) w')) → ∃ σ2, pm_run (xe (d + 2)) pg_X8_plan (29, [.ref 76, .ref 23, .int (nI l), .int (nI N), .int (nI left), .int (nI w)], [], σ') = pm_run (xe (d + 2)) pg_X8_plan (20, [.ref 76, .ref 23, .int (nI l), .int (nI N), .int (nI (left + 1)), .int (nI 100)], [], σ2) ∧ FR4 σ σ2 ∧ BGs od st (left + 1) σ2
  | 0, w, σ', e, hw1, fr, hB, hU => by
    refine ⟨σ', ?_, fr, fun i hi w' w1 w2 => ?_⟩
    · rw [sg_X8_plan_29, if_pos (nI_lt (by omega) (by omega)), nI_add, show w = 100 by omega]
    · by_cases ei : i = left
      · subst ei
        exact hU w' w1 (by omega)
      · exact hB i (by omega) w' w1 w2
  | m + 1, w, σ', e, hw1, fr, hB, hU => by
    have hlw : (nI left : Int32).toNatClampNeg = left := nI_clamp (by omega)
    obtain ⟨σ2, i1, i2, i3⟩ := q_fr d (od := od) (st := st) (mo := left) (b := w) (σ := σ') ho (by omega) (by omega) (fun i i1 i2 w' w1 w2 => by rw [fr.1 _ (by omega)]; exact hC i i1 (by omega) w' w1 w2) hB
    rw [sg_X8_plan_29, if_neg (nI_nlt (by omega) (by omega)), i1]
    simp only [pm_cl_some, Option.toList_some, Option.toList_none, List.cons_append, List.nil_append]
    rw [sg_X8_plan_44 (by rw [hlw]; exact kd84 _ (by omega)) (by rw [hlw]; exact kd88 _ (by omega)), ck_n _ (by omega) (by omega), ck_n _ (by omega) (by omega), hlw, q_step (d + 1) σ2, i2.1 5 (by omega), fr.1 5 (by omega), hs]
    simp only [pm_cl_some, Option.toList_some, Option.toList_none, List.cons_append, List.nil_append]
    have hmin : (if nI w + nI st < nI 104 then nI w + nI st else nI 104) = nI (w + st) := by
      rw [nI_add]
      by_cases c : w + st < 104
      · rw [if_pos (nI_lt c (by omega))]
      · rw [if_neg (nI_nlt (by omega) (by omega)), show w + st = 104 by omega]
    rw [sg_X8_plan_71 (kd88 left (by omega)) (kd84 left (by omega)), hmin, ck_n _ (by omega) (by omega), ck_n _ (by omega) (by omega), nI_clamp (show w + st < 2 ^ 31 by omega), nI_clamp (show w < 2 ^ 31 by omega), i3 left (Nat.le_refl _) (w + st) (by omega) (by omega), nI_add, wI_wC]
    refine q_pl_w d ho hN hl hst hs hC m (w + 1) _ (by omega) (by omega) ⟨fun c hc => by rw [wC_ne _ _ (by omega), i2.1 c (by omega)]; exact fr.1 c hc, i2.2.trans fr.2⟩ (fun i hi w' w1 w2 => by rw [wC_ne _ _ (by omega), i2.1 _ (by omega)]; exact hB i hi w' w1 w2) (fun w' w1 w2 => ?_)
    rw [wC_at]
    by_cases ew : w' = w
    · subst ew
      rw [up_at]
    · rw [up_ne _ _ ew, i2.1 _ (by omega)]
      exact hU w' w1 (by omega)
theorem q_pl_l (d : Nat) {od : Nat → Nat → Nat} {st N l : Nat} {σ : pm_H} (ho : ∀ i w, od i w ≤ 100) (hN : N ≤ 3) (hst : 1 ≤ st ∧ st ≤ 5) (hs : σ.1 5 2 = nI st) (hC : CHs od N σ) : ∀ (m left : Nat) (σ' : pm_H) (w5 : Value), left + m = N → FR4 σ σ' → BGs od st left σ' → ∃ σ2 : pm_H, pm_run (xe (d + 2)) pg_X8_plan (20, [.ref 76, .ref 23, .int (nI l), .int (nI N), .int (nI left), w5], [], σ') = pm_cl (xe (d + 2) 129 [.ref 23] σ2) (fun r => pm_run (xe (d + 2)) pg_X8_plan (95, [.ref 76, .ref 23, .int (nI l), .int (nI N), .int (nI N), .null], r.1.toList ++ [.ref 23, .ref 76], r.2)) ∧ FR4 σ σ2 ∧ BGs od st N σ2
  | 0, left, σ', w5, e, fr, hB => by
    refine ⟨σ', ?_, fr, by rw [show N = left by omega]; exact hB⟩
    rw [sg_X8_plan_20, if_neg (nI_nlt (by omega) (by omega)), show left = N by omega]
  | m + 1, left, σ', w5, e, fr, hB => by
    obtain ⟨σ2, i1, i2, i3⟩ := q_pl_w d (l := l) (N := N) ho hN (show left < N by omega) hst hs hC 99 1 σ' (by omega) (by omega) fr hB (fun w' w1 w2 => by omega)
    rw [sg_X8_plan_20, if_pos (nI_lt (by omega) (by omega)), i1]
    exact q_pl_l d ho hN hst hs hC m (left + 1) σ2 _ (by omega) i2 i3
/-- the greatest, and the first that has it -/
def baL (v : Nat → Nat) : Nat → Nat → Int32 → Int32 → Int32 × Int32
  | 0, _, q, p => (q, p)
  | m + 1, w, q, p => if q = -1 ∨ q < nI (v w) then baL v m (w + 1) (nI (v w)) (nI w) else baL v m (w + 1) q p
theorem baL_g {v : Nat → Nat} (hv : ∀ w, w ≤ 99 → v w ≤ 99000) : ∀ (m w M : Nat) (p : Int32), w + m = 100 → M ≤ 99000 → (baL v m w (nI M) p).1 = nI (max M (aMx v m w))
  | 0, w, M, p, e, hM => by
    show nI M = nI (max M 0)
    rw [show max M 0 = M by omega]
  | m + 1, w, M, p, e, hM => by
    have h1 := hv w (by omega)
    unfold baL
    show _ = nI (max M (max (v w) (aMx v m (w + 1))))
    by_cases c : M < v w
    · rw [if_pos (Or.inr (nI_lt c (by omega))), baL_g hv m (w + 1) (v w) _ (by omega) h1, show max M (max (v w) (aMx v m (w + 1))) = max (v w) (aMx v m (w + 1)) by omega]
    · rw [if_neg (fun e => e.elim (nI_nm1 (by omega)) (nI_nlt (by omega) (by omega))), baL_g hv m (w + 1) M _ (by omega) hM, show max M (max (v w) (aMx v m (w + 1))) = max M (aMx v m (w + 1)) by omega]
theorem baL_1 {v : Nat → Nat} (hv : ∀ w, w ≤ 99 → v w ≤ 99000) {w : Nat} (hw : w ≤ 99) : (baL v (100 - w) w (-1) (-1)).1 = nI (aMx v (100 - w) w) := by
  rw [show 100 - w = (99 - w) + 1 by omega]
  unfold baL
  rw [if_pos (Or.inl rfl), baL_g hv (99 - w) (w + 1) (v w) _ (by omega) (hv w hw)]
  rfl

/-! ===== alone: the class's plan ===== -/
def odF (V : Nat → LV → Int32) (o : Int32) (a b can e g D tr B N : Nat) : Nat → Nat → Nat := fun left w => (oddv V o w (nowI a b can e (g + (N - left)) 0) D (tr + (N - left)) 0 B).toNatClampNeg
theorem odF_d (V : Nat → LV → Int32) (o : Int32) (a b can e g D tr B N left w : Nat) : odF V o a b can e g D tr B N left w ≤ 100 ∧ oddv V o w (nowI a b can e (g + (N - left)) 0) D (tr + (N - left)) 0 B = nI (odF V o a b can e g D tr B N left w) := by
  unfold odF
  obtain ⟨c, c1, c2⟩ : ∃ c, c ≤ 100 ∧ oddv V o w (nowI a b can e (g + (N - left)) 0) D (tr + (N - left)) 0 B = nI c := by
    unfold oddv
    exact clm_r _
  rw [c2, nI_clamp (by omega)]
  exact ⟨c1, rfl⟩
def CHp (od : Nat → Nat → Nat) (lo N : Nat) (σ : pm_H) : Prop := ∀ left, lo < left → left ≤ N → ∀ w, 1 ≤ w → w ≤ 99 → σ.1 (79 + left) w = nI (od left w)
def mo7 (l can e g tr : Nat) (σ : pm_H) : Prop := σ.1 77 1 = nI l ∧ σ.1 77 2 = nI can ∧ σ.1 77 3 = nI e ∧ σ.1 77 4 = nI g ∧ σ.1 77 5 = nI tr ∧ σ.1 77 6 = nI 0
theorem kp79 : ∀ i, i < 4 → (kpB (79 + i) = false ∧ kpL (79 + i) = false) := by decide
theorem q_se_w (d : Nat) {nl l can e g tr D B a b N left : Nat} {V : Nat → LV → Int32} {σ : pm_H} (hC : CLw nl V σ) (ho : lawok nl (σ.1 12 6)) (hl : l < 6) (hD : σ.1 4 (l * 10 + 3) = nI D) (hB : σ.1 4 (l * 10 + 2) = nI B) (ha : σ.1 4 (l * 10 + 4) = nI a) (hb : σ.1 4 (l * 10 + 5) = nI b) (r1 : a ≤ 9 ∧ b ≤ 9 ∧ can ≤ 99 ∧ e ≤ 9 ∧ g ≤ 100) (r2 : D ≤ 9 ∧ tr + N ≤ 3 ∧ B ≤ 99) (hleft : left + 1 ≤ N) : ∀ (m w : Nat) (σ' : pm_H), w + m = 100 → 1 ≤ w → sameX σ σ' → mo7 l can e (g + (N - (left + 1))) (tr + (N - (left + 1))) σ' → CHp (odF V (σ.1 12 6) a b can e g D tr B N) (left + 1) N σ' → (∀ w', 1 ≤ w' → w' < w → σ'.1 (79 + (left + 1)) w' = nI (odF V (σ.1 12 6) a b can e g D tr B N (left + 1) w')) → ∃ σ2, pm_run (xe (d + 4)) pg_X8_seeChances (28, [.ref 76, .null, .null, .null, .int (nI (left + 1)), .int (nI w)], [], σ') = pm_run (xe (d + 4)) pg_X8_seeChances (20, [.ref 76, .null, .null, .null, .int (nI left), .int (nI 100)], [], σ2) ∧ sameX σ σ2 ∧ mo7 l can e (g + (N - left)) (tr + (N - left)) σ2 ∧ CHp (odF V (σ.1 12 6) a b can e g D tr B N) left N σ2
  | 0, w, σ', ew, hw1, s, hf, hCp, hU => by
    have hlw : (nI (left + 1) : Int32).toNatClampNeg = left + 1 := nI_clamp (by omega)
    obtain ⟨k1, k2, k3, k4, k5, k6⟩ := hf
    rw [sg_X8_seeChances_28 (by rw [hlw]; exact kd79 _ (by omega)), if_pos (nI_lt (by omega) (by omega)), en_X7_afterLift, sg_X7_afterLift_0 mo_77, sg_X7_afterLift_20 mo_77, wI_wC, wI_wC, wI_wC]
    simp only [wC_at, wC_wC]
    rw [up_ne _ _ (show (5 : Nat) ≠ 4 by decide), k4, k5, nI_add, nI_add]
    simp only [pm_cl_some, Option.toList_some, Option.toList_none, List.cons_append, List.nil_append]
    rw [sg_X8_seeChances_71, pk_m1, show w = 100 by omega]
    refine ⟨_, rfl, sameX_w s _ ⟨rfl, rfl⟩ (by decide), ?_, fun i i1 i2 w' w1 w2 => ?_⟩
    · unfold mo7
      rw [wC_at]
      exact ⟨k1, k2, k3, by show nI (g + (N - (left + 1)) + 1) = _; rw [show g + (N - (left + 1)) + 1 = g + (N - left) by omega], by show nI (tr + (N - (left + 1)) + 1) = _; rw [show tr + (N - (left + 1)) + 1 = tr + (N - left) by omega], rfl⟩
    · rw [wC_ne _ _ (by omega)]
      by_cases ei : i = left + 1
      · subst ei
        exact hU w' w1 (by omega)
      · exact hCp i (by omega) i2 w' w1 w2
  | m + 1, w, σ', ew, hw1, s, hf, hCp, hU => by
    have hlw : (nI (left + 1) : Int32).toNatClampNeg = left + 1 := nI_clamp (by omega)
    have hf' := hf
    obtain ⟨k1, k2, k3, k4, k5, k6⟩ := hf
    have e4 := s.1.1 4 rfl
    have e12 := s.2.1.1 12 rfl
    obtain ⟨g21, g22, hg⟩ := q_chM d (u := 77) (l := l) (W := w) (can := can) (e := e) (g := g + (N - (left + 1))) (tr := tr + (N - (left + 1))) (wt := 0) (D := D) (B := B) (a := a) (b := b) (σ := σ') (CLw_X hC s) (by rw [e12]; exact ho) mo_77 hl k1 k2 k3 k4 k5 k6 (by rw [e4]; exact hD) (by rw [e4]; exact hB) (by rw [e4]; exact ha) (by rw [e4]; exact hb) (by omega) (by omega)
    rw [sg_X8_seeChances_28 (by rw [hlw]; exact kd79 _ (by omega)), if_neg (nI_nlt (by omega) (by omega)), ck_n _ (by omega) (by omega), hlw, hg, e12, (odF_d V (σ.1 12 6) a b can e g D tr B N (left + 1) w).2]
    simp only [pm_cl_some, Option.toList_some, Option.toList_none, List.cons_append, List.nil_append]
    have s2 := sameX_w (sameX_w s (c := 21) g21 ⟨rfl, rfl⟩ (by decide)) (c := 22) g22 ⟨rfl, rfl⟩ (by decide)
    rw [sg_X8_seeChances_57 (kd79 (left + 1) (by omega)), ck_n _ (by omega) (by omega), nI_clamp (show w < 2 ^ 31 by omega), nI_add, wI_wC]
    refine q_se_w d hC ho hl hD hB ha hb r1 r2 hleft m (w + 1) _ (by omega) (by omega) (sameX_w s2 _ (kp79 _ (by omega)) (by omega)) ?_ (fun i i1 i2 w' w1 w2 => ?_) (fun w' w1 w2 => ?_)
    · unfold mo7
      rw [wC_ne _ _ (by omega), wC_ne _ _ (by decide), wC_ne _ _ (by decide)]
      exact hf'
    · rw [wC_ne _ _ (by omega), wC_ne _ _ (by omega), wC_ne _ _ (by omega)]
      exact hCp i i1 i2 w' w1 w2
    · rw [wC_at, wC_ne _ _ (by omega), wC_ne _ _ (by omega)]
      by_cases ew' : w' = w
      · subst ew'
        rw [up_at]
      · rw [up_ne _ _ ew']
        exact hU w' w1 (by omega)
theorem q_se_l (d : Nat) {nl l can e g tr D B a b N : Nat} {V : Nat → LV → Int32} {σ : pm_H} (hC : CLw nl V σ) (ho : lawok nl (σ.1 12 6)) (hl : l < 6) (hD : σ.1 4 (l * 10 + 3) = nI D) (hB : σ.1 4 (l * 10 + 2) = nI B) (ha : σ.1 4 (l * 10 + 4) = nI a) (hb : σ.1 4 (l * 10 + 5) = nI b) (r1 : a ≤ 9 ∧ b ≤ 9 ∧ can ≤ 99 ∧ e ≤ 9 ∧ g ≤ 100) (r2 : D ≤ 9 ∧ tr + N ≤ 3 ∧ B ≤ 99) : ∀ (left : Nat) (σ' : pm_H) (w1 w2 w3 w5 : Value), left ≤ N → sameX σ σ' → mo7 l can e (g + (N - left)) (tr + (N - left)) σ' → CHp (odF V (σ.1 12 6) a b can e g D tr B N) left N σ' → ∃ σ2, pm_run (xe (d + 4)) pg_X8_seeChances (20, [.ref 76, w1, w2, w3, .int (nI left), w5], [], σ') = some (none, σ2) ∧ sameX σ σ2 ∧ CHs (odF V (σ.1 12 6) a b can e g D tr B N) N σ2
  | 0, σ', w1, w2, w3, w5, hL, s, hf, hCp => ⟨σ', by rw [sg_X8_seeChances_20, if_neg (by decide)], s, fun i i1 i2 => hCp i (by omega) i2⟩
  | left + 1, σ', w1, w2, w3, w5, hL, s, hf, hCp => by
    obtain ⟨σ2, i1, i2, i3, i4⟩ := q_se_w d hC ho hl hD hB ha hb r1 r2 hL 99 1 σ' (by omega) (by omega) s hf hCp (fun w' a1 a2 => by omega)
    rw [sg_X8_seeChances_20, if_pos (nI_gt0 (by omega) (by omega)), i1]
    exact q_se_l d hC ho hl hD hB ha hb r1 r2 left σ2 _ _ _ _ (by omega) i2 i3 i4
/-- the last look: which weight -/
theorem q_pl_f (d : Nat) {od : Nat → Nat → Nat} {st left b : Nat} {σ : pm_H} (ho : ∀ i w, od i w ≤ 100) (hl : left < 3) (hb : b ≤ 99) (h1 : ∀ w, 1 ≤ w → w ≤ 99 → σ.1 (79 + (left + 1)) w = nI (od (left + 1) w) ∧ σ.1 (84 + left) w = nI (aA od st left (w + st) w) ∧ σ.1 (88 + left) w = nI (aA od st left w b)) : ∀ (m w : Nat) (σ' : pm_H) (w1 w2 w5 : Value), w + m = 100 → 1 ≤ w → (∀ c, c ≠ 76 → σ'.1 c = σ.1 c) ∧ σ'.2 = σ.2 → (σ'.1 76 6 = -1 ∨ ∃ M, M ≤ 99000 ∧ σ'.1 76 6 = nI M) → ∃ σ2, pm_run (xe (d + 1)) pg_X8_plan (125, [.ref 76, w1, w2, .int (nI (left + 1)), .int (nI w), w5], [], σ') = some (none, σ2) ∧ ((∀ c, c ≠ 76 → σ2.1 c = σ.1 c) ∧ σ2.2 = σ.2) ∧ σ2.1 76 6 = (baL (fun w => aV od st left w b) m w (σ'.1 76 6) (σ'.1 76 7)).1 ∧ σ2.1 76 7 = (baL (fun w => aV od st left w b) m w (σ'.1 76 6) (σ'.1 76 7)).2
  | 0, w, σ', w1, w2, w5, e, hw1, fr, hq => ⟨σ', by rw [sg_X8_plan_125, if_pos (nI_lt (by omega) (by omega))], fr, rfl, rfl⟩
  | m + 1, w, σ', w1, w2, w5, e, hw1, fr, hq => by
    obtain ⟨a1, a2, a3⟩ := h1 w hw1 (by omega)
    obtain ⟨v1, v2⟩ := aV_le (st := st) (left := left) (w := w) ho (by omega) hb
    rw [sg_X8_plan_125, if_neg (nI_nlt (by omega) (by omega)), q_mean d ho hl hw1 (by omega) hb (by rw [fr.1 _ (by omega)]; exact a1) (by rw [fr.1 _ (by omega)]; exact a2) (by rw [fr.1 _ (by omega)]; exact a3)]
    simp only [pm_cl_some, Option.toList_some, Option.toList_none, List.cons_append, List.nil_append]
    rw [sg_X8_plan_139, nI_add]
    unfold baL
    have hlt : σ'.1 76 6 < nI (aV od st left w b) ↔ (σ'.1 76 6 = -1 ∨ σ'.1 76 6 < nI (aV od st left w b)) := by
      constructor
      · exact Or.inr
      · intro q
        rcases q with q | q
        · rw [q, Int32.lt_iff_toInt_lt, nI_toInt (by omega), show (-1 : Int32).toInt = -1 from by decide]
          omega
        · exact q
    by_cases c : σ'.1 76 6 < nI (aV od st left w b)
    · rw [if_pos c, if_pos (hlt.mp c), wI_wC, wI_wC, wC_at, wC_wC]
      obtain ⟨σ2, i1, i2, i3, i4⟩ := q_pl_f d ho hl hb h1 m (w + 1) (pm_wC σ' 76 (upd (upd (σ'.1 76) 6 (nI (aV od st left w b))) 7 (nI w))) .null .null (.int (nI (aV od st left w b))) (by omega) (by omega) ⟨fun c hc => by rw [wC_ne _ _ hc]; exact fr.1 c hc, fr.2⟩ (Or.inr ⟨_, v2, by rw [wC_at, up_ne _ _ (by decide), up_at]⟩)
      rw [wC_at, up_at, up_ne _ _ (show (6 : Nat) ≠ 7 by decide), up_at] at i3 i4
      exact ⟨σ2, i1, i2, i3, i4⟩
    · rw [if_neg c, if_neg (fun q => c (hlt.mpr q))]
      exact q_pl_f d ho hl hb h1 m (w + 1) σ' _ _ _ (by omega) (by omega) fr hq
theorem baL_p {v : Nat → Nat} {m w : Nat} (p p' : Int32) : baL v (m + 1) w (-1) p = baL v (m + 1) w (-1) p' := by
  unfold baL
  rw [if_pos (Or.inl rfl), if_pos (Or.inl rfl)]
theorem X_of {σ σ' : pm_H} (h : ∀ c, c < 76 ∨ 90 < c → σ'.1 c = σ.1 c) (h2 : σ'.2 = σ.2) : sameX σ σ' := by
  have kb : ∀ c, kpB c = true → c < 76 ∨ 90 < c := fun c hc => by
    unfold kpB at hc
    simp only [decide_eq_true_eq] at hc
    omega
  have kl : ∀ c, kpL c = true → c < 76 ∨ 90 < c := fun c hc => by
    unfold kpL at hc
    simp only [decide_eq_true_eq] at hc
    omega
  refine ⟨⟨fun c hc => h c (kb c hc), fun j _ => by rw [h 133 (by omega)]⟩, ⟨fun c hc => h c (kl c hc), by rw [h 1 (by omega)], fun j _ => by rw [h 133 (by omega)]⟩, by rw [h2], h 145 (by omega)⟩
theorem q_plan (d : Nat) {nl l can e g tr D B a b N st lo bst rd : Nat} {V : Nat → LV → Int32} {σ : pm_H} (hC : CLw nl V σ) (ho : lawok nl (σ.1 12 6)) (hl : l < 6) (hD : σ.1 4 (l * 10 + 3) = nI D) (hB : σ.1 4 (l * 10 + 2) = nI B) (ha : σ.1 4 (l * 10 + 4) = nI a) (hb : σ.1 4 (l * 10 + 5) = nI b) (r1 : a ≤ 9 ∧ b ≤ 9 ∧ can ≤ 99 ∧ e ≤ 9 ∧ g ≤ 100) (r2 : D ≤ 9 ∧ tr + N ≤ 3 ∧ B ≤ 99) (hN : 1 ≤ N) (h51 : σ.1 5 1 = nI (tr + N)) (h52 : σ.1 5 2 = nI st) (hst : 1 ≤ st ∧ st ≤ 5) (hmo : mo7 l can e g tr (pm_wC σ 77 (upd (g_take (σ.1 4) (σ.1 24) (σ.1 77) l) 6 (nI 0)))) (h11 : σ.1 24 (11 + l) = nI tr) (hlo : s_least (σ.1 24) l = nI lo) (hlo1 : 1 ≤ lo ∧ lo ≤ 99) (hrd : rd < 2) (h0 : σ.1 24 0 = nI rd) (hbst : σ.1 24 (53 + rd * 6 + l) = nI bst) (hb99 : bst ≤ 99) : ∃ σ2, xe (d + 6) 250 [.ref 76, .ref 23, .int (nI l)] σ = some (none, σ2) ∧ sameX σ σ2 ∧ σ2.1 76 6 = (baL (fun w => aV (odF V (σ.1 12 6) a b can e g D tr B N) st (N - 1) w bst) (100 - lo) lo (-1) (-1)).1 ∧ σ2.1 76 7 = (baL (fun w => aV (odF V (σ.1 12 6) a b can e g D tr B N) st (N - 1) w bst) (100 - lo) lo (-1) (-1)).2 := by
  have hod : ∀ i w, odF V (σ.1 12 6) a b can e g D tr B N i w ≤ 100 := fun i w => (odF_d V (σ.1 12 6) a b can e g D tr B N i w).1
  have hmin : (if nI N < nI 3 then nI N else nI 3) = nI N := by
    by_cases c : N < 3
    · rw [if_pos (nI_lt c (by omega))]
    · rw [if_neg (nI_nlt (by omega) (by omega)), show N = 3 by omega]
  rw [en_X8_plan, sg_X8_plan_0, q_triesLeft (d + 3) σ st_23 hl, h51, show σ.1 (23 + 1) (11 + l) = nI tr from h11, pk_sub (by omega), show tr + N - tr = N by omega]
  simp only [pm_cl_some, Option.toList_some, Option.toList_none, List.cons_append, List.nil_append]
  rw [sg_X8_plan_6, hmin, en_X8_seeChances, sg_X8_seeChances_0, w_take (d + 2) σ mo_77 st_23 hl]
  simp only [pm_cl_some, Option.toList_some, Option.toList_none, List.cons_append, List.nil_append]
  rw [sg_X8_seeChances_9, wI_wC, wC_at, wC_wC]
  obtain ⟨σ1, i1, i2, i3⟩ := q_se_l d (N := N) hC ho hl hD hB ha hb r1 r2 N (pm_wC σ 77 (upd (g_take (σ.1 4) (σ.1 24) (σ.1 77) l) 6 (nI 0))) (.ref 23) (.int (nI l)) (.int (nI N)) .null (Nat.le_refl _) (sameX_w (sameX_rfl σ) _ ⟨rfl, rfl⟩ (by decide)) (by rw [Nat.sub_self]; exact hmo) (fun i a1 a2 => by omega)
  rw [show pm_run (xe (d + 4)) pg_X8_seeChances (20, [.ref 76, .ref 23, .int (nI l), .int (nI N), .int (nI N), .null], [], pm_wC σ 77 (upd (g_take (σ.1 4) (σ.1 (23 + 1)) (σ.1 77) l) 6 (nI 0))) = some (none, σ1) from i1]
  simp only [pm_cl_some, Option.toList_some, Option.toList_none, List.cons_append, List.nil_append]
  obtain ⟨σ2, j1, j2, j3⟩ := q_pl_l (d + 3) (od := odF V (σ.1 12 6) a b can e g D tr B N) (l := l) hod (show N ≤ 3 by omega) hst (by rw [i2.1.1 5 rfl]; exact h52) i3 N 0 σ1 .null (by omega) ⟨fun _ _ => rfl, rfl⟩ (fun i a1 => by omega)
  rw [sg_X8_plan_17, j1, q_round (d + 4) σ2 st_23]
  simp only [pm_cl_some, Option.toList_some, Option.toList_none, List.cons_append, List.nil_append]
  have e24 : σ2.1 (23 + 1) = σ.1 24 := (j2.1 24 (by omega)).trans (i2.1.1 24 rfl)
  have h95 : pm_run (xe (d + 5)) pg_X8_plan (95, [.ref 76, .ref 23, .int (nI l), .int (nI N), .int (nI N), .null], [.int (σ2.1 (23 + 1) 0), .ref 23, .ref 76], σ2) = pm_run (xe (d + 5)) pg_X8_plan (107, [.ref 76, .ref 23, .int (nI l), .int (nI N), .int (nI N), .null], [.int (nI bst), .ref 76], σ2) := by
    rw [sg_X8_plan_95, e24, h0]
    rcases (show rd = 0 ∨ rd = 1 by omega) with rfl | rfl
    · rw [if_pos n00, q_best (d + 4) σ2 st_23 (show 0 < 2 by omega) hl, e24, hbst]
      simp only [pm_cl_some, Option.toList_some, Option.toList_none, List.cons_append, List.nil_append]
    · rw [if_neg n10, q_best (d + 4) σ2 st_23 (show 1 < 2 by omega) hl, e24, hbst]
      simp only [pm_cl_some, Option.toList_some, Option.toList_none, List.cons_append, List.nil_append]
  obtain ⟨σ3, k1, k2, k3⟩ := q_fr (d + 3) (od := odF V (σ.1 12 6) a b can e g D tr B N) (st := st) (mo := N - 1) (b := bst) (σ := σ2) hod (by omega) hb99 (fun i a1 a2 w' w1 w2 => by rw [j2.1 _ (by omega)]; exact i3 i a1 (by omega) w' w1 w2) (fun i a1 => j3 i (by omega))
  rw [h95, sg_X8_plan_107, pk_sub hN, k1]
  simp only [pm_cl_some, Option.toList_some, Option.toList_none, List.cons_append, List.nil_append]
  have e24' : (pm_wI σ3 76 6 (-1)).1 (23 + 1) = σ.1 24 := by rw [wI_wC, wC_ne _ _ (by decide), k2.1 _ (by omega)]; exact e24
  rw [sg_X8_plan_113, q_least (d + 4) _ st_23 hl, e24', hlo]
  simp only [pm_cl_some, Option.toList_some, Option.toList_none, List.cons_append, List.nil_append]
  rw [sg_X8_plan_123]
  obtain ⟨σ4, u1, u2, u3, u4⟩ := q_pl_f (d + 4) (od := odF V (σ.1 12 6) a b can e g D tr B N) (st := st) (left := N - 1) (b := bst) (σ := σ3) hod (by omega) hb99 (fun w' w1 w2 => ⟨by rw [k2.1 _ (by omega), j2.1 _ (by omega), show N - 1 + 1 = N by omega]; exact i3 N hN (Nat.le_refl _) w' w1 w2, by rw [k2.1 _ (by omega)]; exact j3 (N - 1) (by omega) w' w1 w2, k3 (N - 1) (Nat.le_refl _) w' w1 (by omega)⟩) (100 - lo) lo (pm_wI σ3 76 6 (-1)) (.ref 23) (.int (nI l)) .null (by omega) hlo1.1 ⟨fun c hc => by rw [wI_wC, wC_ne _ _ hc], rfl⟩ (Or.inl (by rw [wI_wC, wC_at, up_at]))
  rw [show N - 1 + 1 = N by omega] at u1
  rw [wI_wC, wC_at, up_at, show 100 - lo = (99 - lo) + 1 by omega, baL_p _ (-1)] at u3 u4
  refine ⟨σ4, u1, sameX_tr i2 (X_of (fun c hc => ?_) ?_), ?_, ?_⟩
  · rw [u2.1 c (by omega), k2.1 c (by omega), j2.1 c (by omega)]
  · rw [u2.2, k2.2, j2.2]
  · rw [show 100 - lo = (99 - lo) + 1 by omega]
    exact u3
  · rw [show 100 - lo = (99 - lo) + 1 by omega]
    exact u4

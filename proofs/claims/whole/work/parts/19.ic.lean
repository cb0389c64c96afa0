/-! ===== alone: the reference, both ===== -/
def MEM (od : Nat → Nat → Nat) (st : Nat) (σ : pm_H) : Prop := ∀ left f b, 1 ≤ left → left ≤ 3 → f ≤ 100 → b ≤ 100 → σ.1 153 ((101 * left + f) * 101 + b) = -1 ∨ σ.1 153 ((101 * left + f) * 101 + b) = nI (aA od st left f b)
theorem MEM_e {od : Nat → Nat → Nat} {st : Nat} {σ σ' : pm_H} (h : MEM od st σ) (e : σ'.1 153 = σ.1 153) : MEM od st σ' := fun left f b a1 a2 a3 a4 => by
  rw [e]
  exact h left f b a1 a2 a3 a4
/-- what the reference needs to know of one lifter -/
def cxR (sz nl l can e g tr D B a b N st : Nat) (V : Nat → LV → Int32) (t r : Nat → Int32) (o1 o2 : Int32) (σ : pm_H) : Prop := EnM sz nl V t r o1 o2 σ ∧ (l < sz ∧ sz ≤ 6) ∧ (r 1 = nI (tr + N) ∧ r 2 = nI st) ∧ m_can (σ.1 138) (σ.1 142) l = nI can ∧ (σ.1 142 (11 * l + 7) = nI e ∧ σ.1 142 (11 * l + 9) = nI g ∧ σ.1 142 (11 * l + 1) = nI tr) ∧ (t (l * 10 + 3) = nI D ∧ t (l * 10 + 2) = nI B ∧ t (l * 10 + 4) = nI a ∧ t (l * 10 + 5) = nI b) ∧ (a ≤ 9 ∧ b ≤ 9 ∧ can ≤ 99 ∧ e ≤ 9 ∧ g ≤ 100) ∧ (D ≤ 9 ∧ tr + N ≤ 3 ∧ B ≤ 99) ∧ (1 ≤ st ∧ st ≤ 5)
def AOk (E l left : Nat) (nl : Nat) (V : Nat → LV → Int32) (od : Nat → Nat → Nat) (st : Nat) (σ : pm_H) : Prop := ∀ (f b : Nat) (σ' : pm_H), 1 ≤ f → f ≤ 104 → b ≤ 99 → sameQ σ σ' → DyM nl V σ' → MEM od st σ' → ∃ σ2, xe E 257 [.ref 133, .int (nI l), .int (nI left), .int (nI f), .int (nI b)] σ' = some (some (.int (nI (aA od st left f b))), σ2) ∧ sameQ σ σ2 ∧ DyM nl V σ2 ∧ MEM od st σ2
theorem r_ba_l (d : Nat) {sz nl l can e g tr D B a b N st left bst : Nat} {V : Nat → LV → Int32} {t r : Nat → Int32} {o1 o2 : Int32} {σ : pm_H} (hx : cxR sz nl l can e g tr D B a b N st V t r o1 o2 σ) (hL : left + 1 ≤ N) (hb : bst ≤ 99) (hA : AOk (d + 33) l left nl V (odF V o1 a b can e g D tr B N) st σ) : ∀ (m w : Nat) (σ' : pm_H) (q p : Int32) (w3 w8 w11 w12 w13 : Value), w + m = 100 → 1 ≤ w → sameQ σ σ' → DyM nl V σ' → MEM (odF V o1 a b can e g D tr B N) st σ' → ∃ σ2, pm_run (xe (d + 33)) pg_X12_bestAlone (79, [.ref 133, .int (nI l), .int (nI (left + 1)), w3, .int (nI bst), .int q, .int p, .int (nI (tr + (N - (left + 1)))), w8, .int (isI (nowI a b can e (g + (N - (left + 1))) 0)), .int (nI w), w11, w12, w13], [], σ') = some (some (.int (baL (fun w => aV (odF V o1 a b can e g D tr B N) st left w bst) m w q p).1), σ2) ∧ sameQ σ σ2 ∧ DyM nl V σ2 ∧ MEM (odF V o1 a b can e g D tr B N) st σ2 ∧ σ2.1 133 43 = (baL (fun w => aV (odF V o1 a b can e g D tr B N) st left w bst) m w q p).2
  | 0, w, σ', q, p, w3, w8, w11, w12, w13, e1, hw1, s, hD, hm => by
    refine ⟨pm_wI σ' 133 43 p, ?_, sameQ_tr s ⟨sameB_m σ' p (by decide), sameK_L (sameL_m σ' p (by decide))⟩, ⟨fun i hi => by rw [wI_wC, wC_ne _ _ (by decide)]; exact hD.1 i hi, by rw [LM_same (σ := σ') (by rw [wI_wC, wC_ne _ _ (by decide)])]; exact hD.2⟩, MEM_e hm (by rw [wI_wC, wC_ne _ _ (by decide)]), by rw [wI_wC, wC_at, up_at]; rfl⟩
    rw [sg_X12_bestAlone_79, if_pos (nI_lt (by omega) (by omega))]
    rfl
  | m + 1, w, σ', q, p, w3, w8, w11, w12, w13, e1, hw1, s, hD, hm => by
    have hx' := hx
    obtain ⟨hE, ⟨hl, hs⟩, ⟨hr1, hr2⟩, hcan, ⟨h7, h9, h1⟩, ⟨hDD, hBB, ha, hbb⟩, r1, r2, hst⟩ := hx
    have hl6 : l < 6 := by omega
    have hE' := EnM_Q hE s
    obtain ⟨n1, n2⟩ := nowX_N (a := a) (b := b) (c := can) (e := e) (g := g + (N - (left + 1))) (w := 0) r1.1 r1.2.1 r1.2.2.1 (by omega) (by omega) (by omega)
    have hod : ∀ i w, odF V o1 a b can e g D tr B N i w ≤ 100 := fun i w => (odF_d V o1 a b can e g D tr B N i w).1
    obtain ⟨σ4, v1, v2, v3, v4⟩ := r_oddsBy d (σ := σ') (l := l) (W := w) (I := nowI a b can e (g + (N - (left + 1))) 0) (D := D) (T := tr + (N - (left + 1))) (C := 0) (B := B) hE'.2.2.2.1 hD.1 (by rw [hE'.2.2.2.2.1.1]; exact hE.2.2.2.2.2.1) hD.2 hl6 (by rw [hE'.2.1 l hl 3 (by omega)]; exact hDD) (by rw [hE'.2.1 l hl 2 (by omega)]; exact hBB) ⟨by omega, n2, r2.1, by omega, by omega, r2.2.2⟩
    have s4 := sameQ_tr s (rO_Q v2)
    rw [sg_X12_bestAlone_79, if_neg (nI_nlt (by omega) (by omega)), v1, hE'.2.2.2.2.1.1, (odF_d V o1 a b can e g D tr B N (left + 1) w).2]
    simp only [pm_cl_some, Option.toList_some, Option.toList_none, List.cons_append, List.nil_append]
    have e140 : σ4.1 140 2 = nI st := by rw [(EnM_Q hE s4).2.2.1 2 (by omega)]; exact hr2
    obtain ⟨σ5, k1, k2, k3, k4⟩ := hA (w + st) w σ4 (by omega) (by omega) (by omega) s4 ⟨v3, v4⟩ (MEM_e hm (v2.1 153 (by decide) (by decide) (by decide)))
    rw [sg_X12_bestAlone_98, ck_n _ (by omega) (by omega), nI_clamp (show 2 < 2 ^ 31 by omega), e140, nI_add, pk_sub (show 1 ≤ left + 1 by omega), Nat.add_sub_cancel, k1]
    simp only [pm_cl_some, Option.toList_some, Option.toList_none, List.cons_append, List.nil_append]
    obtain ⟨σ6, u1, u2, u3, u4⟩ := hA w bst σ5 hw1 (by omega) hb k2 k3 k4
    obtain ⟨y1, y2⟩ := aV_le (od := odF V o1 a b can e g D tr B N) (st := st) (left := left) (w := w) hod (by omega) hb
    rw [sg_X12_bestAlone_119, pk_sub (show 1 ≤ left + 1 by omega), Nat.add_sub_cancel, u1]
    simp only [pm_cl_some, Option.toList_some, Option.toList_none, List.cons_append, List.nil_append]
    have hv : (nI (odF V o1 a b can e g D tr B N (left + 1) w) * nI (aA (odF V o1 a b can e g D tr B N) st left (w + st) w) + (nI 100 - nI (odF V o1 a b can e g D tr B N (left + 1) w)) * nI (aA (odF V o1 a b can e g D tr B N) st left w bst)) / nI 100 = nI (aV (odF V o1 a b can e g D tr B N) st left w bst) := by
      rw [pk_mul, pk_sub (hod _ _), pk_mul, nI_add, pk_div (by omega) (by omega) (by omega)]
      rfl
    rw [sg_X12_bestAlone_143, hv, if_or, nI_add]
    unfold baL
    by_cases c : q = -1 ∨ q < nI (aV (odF V o1 a b can e g D tr B N) st left w bst)
    · rw [if_pos c, if_pos c]
      exact r_ba_l d hx' hL hb hA m (w + 1) σ6 _ _ _ _ _ _ _ (by omega) (by omega) u2 u3 u4
    · rw [if_neg c, if_neg c]
      exact r_ba_l d hx' hL hb hA m (w + 1) σ6 _ _ _ _ _ _ _ (by omega) (by omega) u2 u3 u4
theorem r_ba (d : Nat) {sz nl l can e g tr D B a b N st left bst lo : Nat} {V : Nat → LV → Int32} {t r : Nat → Int32} {o1 o2 : Int32} {σ σ' : pm_H} (hx : cxR sz nl l can e g tr D B a b N st V t r o1 o2 σ) (hL : left + 1 ≤ N) (hb : bst ≤ 99) (hA : AOk (d + 33) l left nl V (odF V o1 a b can e g D tr B N) st σ) (h1' : 1 ≤ lo) (h99 : lo ≤ 99) (s : sameQ σ σ') (hD : DyM nl V σ') (hm : MEM (odF V o1 a b can e g D tr B N) st σ') : ∃ σ2, xe (d + 34) 256 [.ref 133, .int (nI l), .int (nI (left + 1)), .int (nI lo), .int (nI bst)] σ' = some (some (.int (baL (fun w => aV (odF V o1 a b can e g D tr B N) st left w bst) (100 - lo) lo (-1) (-1)).1), σ2) ∧ sameQ σ σ2 ∧ DyM nl V σ2 ∧ MEM (odF V o1 a b can e g D tr B N) st σ2 ∧ σ2.1 133 43 = (baL (fun w => aV (odF V o1 a b can e g D tr B N) st left w bst) (100 - lo) lo (-1) (-1)).2 := by
  have hx' := hx
  obtain ⟨hE, ⟨hl, hs⟩, ⟨hr1, hr2⟩, hcan, ⟨h7, h9, h1⟩, ⟨hDD, hBB, ha, hbb⟩, r1, r2, hst⟩ := hx
  have hl6 : l < 6 := by omega
  have e138 := s.1.1 138 rfl
  have e142 := s.1.1 142 rfl
  have hE' := EnM_Q hE s
  obtain ⟨n1, n2⟩ := nowX_N (a := a) (b := b) (c := can) (e := e) (g := g + (N - (left + 1))) (w := 0) r1.1 r1.2.1 r1.2.2.1 (by omega) (by omega) (by omega)
  rw [en_X12_bestAlone, sg_X12_bestAlone_0, pk_mul, nI_add, ck_n _ (by omega) (by omega), ck_n _ (by omega) (by omega), nI_clamp (show 1 < 2 ^ 31 by omega), nI_clamp (by omega), hE'.2.2.1 1 (by omega), hr1, e142, h1, pk_sub (by omega), pk_sub (by omega), show tr + N - (left + 1) = tr + (N - (left + 1)) by omega, show tr + (N - (left + 1)) - tr = N - (left + 1) by omega, r_canOf (d + 32) _ rw_now hl6, e138, e142, hcan]
  simp only [pm_cl_some, Option.toList_some, Option.toList_none, List.cons_append, List.nil_append]
  rw [sg_X12_bestAlone_43, pk_mul, nI_add, nI_add, ck_n _ (by omega) (by omega), ck_n _ (by omega) (by omega), nI_clamp (by omega), nI_clamp (by omega), e142, h7, h9, nI_add, r_nowBy (d + 32) _ hl6, hE'.2.1 l hl 4 (by omega), hE'.2.1 l hl 5 (by omega), ha, hbb, n1]
  simp only [pm_cl_some, Option.toList_some, Option.toList_none, List.cons_append, List.nil_append]
  rw [sg_X12_bestAlone_74]
  exact r_ba_l d hx' hL hb hA (100 - lo) lo σ' (-1) (-1) _ _ _ _ _ (by omega) h1' s hD hm
/-- with so many tries left: all that aloneOf answers -/
theorem r_ao (d : Nat) {sz nl l can e g tr D B a b N st : Nat} {V : Nat → LV → Int32} {t r : Nat → Int32} {o1 o2 : Int32} {σ : pm_H} (hx : cxR sz nl l can e g tr D B a b N st V t r o1 o2 σ) : ∀ left, left ≤ N → AOk (d + 35 + 2 * left) l left nl V (odF V o1 a b can e g D tr B N) st σ
  | 0, hL => by
    intro f bb σ' f1 f2 hb s hD hm
    refine ⟨σ', ?_, s, hD, hm⟩
    rw [show d + 35 + 2 * 0 = (d + 34) + 1 by omega, en_X12_aloneOf, sg_X12_aloneOf_0, if_pos n00, pk_mul]
    rfl
  | left + 1, hL => by
    intro f bb σ' f1 f2 hb s hD hm
    have hN3 : tr + N ≤ 3 := hx.2.2.2.2.2.2.2.1.2.1
    have ih := r_ao d hx left (by omega)
    have hod : ∀ i w, odF V o1 a b can e g D tr B N i w ≤ 100 := fun i w => (odF_d V o1 a b can e g D tr B N i w).1
    have hAle := aA_le (st := st) hod (left + 1) f bb hb
    rw [show d + 35 + 2 * (left + 1) = (d + 36 + 2 * left) + 1 by omega, en_X12_aloneOf, sg_X12_aloneOf_0, if_neg (nI_ne0 (by omega) (by omega))]
    by_cases c : 99 < f
    · refine ⟨σ', ?_, s, hD, hm⟩
      rw [if_pos (nI_lt c (by omega)), pk_mul, aA_hi c]
    · have hpl : ∀ σ'', xe (d + 36 + 2 * left) 258 [.int (nI (left + 1)), .int (nI f), .int (nI bb)] σ'' = some (some (.int (nI ((101 * (left + 1) + f) * 101 + bb))), σ'') := by
        intro σ''
        rw [show d + 36 + 2 * left = (d + 35 + 2 * left) + 1 by omega, en_X12_placeAlone, sg_X12_placeAlone_0, pk_mul, nI_add, pk_mul, nI_add]
      rw [if_neg (nI_nlt (by omega) (by omega)), hpl]
      simp only [pm_cl_some, Option.toList_some, Option.toList_none, List.cons_append, List.nil_append]
      rw [sg_X12_aloneOf_24, ck_n _ (by omega) (by omega), ck_n _ (by omega) (by omega), nI_clamp (by omega)]
      rcases hm (left + 1) f bb (by omega) (by omega) (by omega) (by omega) with hmm | hmm
      · obtain ⟨σ2, i1, i2, i3, i4, -⟩ := r_ba (d + 2 + 2 * left) (bst := bb) (lo := f) hx hL hb (by rw [show d + 2 + 2 * left + 33 = d + 35 + 2 * left by omega]; exact ih) f1 (by omega) s hD hm
        rw [show d + 2 + 2 * left + 34 = d + 36 + 2 * left by omega] at i1
        rw [if_pos hmm, i1]
        simp only [pm_cl_some, Option.toList_some, Option.toList_none, List.cons_append, List.nil_append]
        have hval : (baL (fun w => aV (odF V o1 a b can e g D tr B N) st left w bb) (100 - f) f (-1) (-1)).1 = nI (aA (odF V o1 a b can e g D tr B N) st (left + 1) f bb) := by
          rw [baL_1 (fun w hw => (aV_le hod hw hb).2) (by omega)]
          unfold aA
          rw [if_neg c]
          rfl
        rw [sg_X12_aloneOf_52, ck_n _ (by omega) (by omega), ck_n _ (by omega) (by omega), nI_clamp (by omega), hval, wI_wC, wC_at, up_at]
        refine ⟨_, rfl, sameQ_tr i2 (sameQ_w _ _ ⟨rfl, rfl⟩ (by decide)), ⟨fun p hp => by rw [wC_ne _ _ (by decide)]; exact i3.1 p hp, by rw [LM_same (σ := σ2) (wC_ne _ _ (by decide))]; exact i3.2⟩, fun left' f' b' a1 a2 a3 a4 => ?_⟩
        rw [wC_at]
        by_cases ee : left' = left + 1 ∧ f' = f ∧ b' = bb
        · obtain ⟨rfl, rfl, rfl⟩ := ee
          rw [up_at]
          exact Or.inr rfl
        · rw [up_ne _ _ (by omega)]
          exact i4 left' f' b' a1 a2 a3 a4
      · refine ⟨σ', ?_, s, hD, hm⟩
        rw [hmm, if_neg (nI_nm1 (by omega))]
theorem r_al_f {ev : pm_Ev} {nl : Nat} {V : Nat → LV → Int32} {σ : pm_H} {l1 l2 : Int32} : ∀ (m k : Nat) (σ' : pm_H) (w4 w5 w6 : Value), k + m = 40804 → sameQ σ σ' → DyM nl V σ' → (∀ j, j < k → σ'.1 153 j = -1) → ∃ σ2, pm_run ev pg_X12_alone (39, [.ref 133, .int l1, .int l2, .int (nI k), w4, w5, w6], [], σ') = pm_run ev pg_X12_alone (39, [.ref 133, .int l1, .int l2, .int (nI 40804), .null, .null, .null], [], σ2) ∧ sameQ σ σ2 ∧ DyM nl V σ2 ∧ ∀ j, j < 40804 → σ2.1 153 j = -1
  | 0, k, σ', w4, w5, w6, e, s, hD, hj => by
    refine ⟨σ', ?_, s, hD, fun j hj' => hj j (by omega)⟩
    rw [show k = 40804 by omega]
    exact sg_X12_alone_39.trans sg_X12_alone_39.symm
  | m + 1, k, σ', w4, w5, w6, e, s, hD, hj => by
    rw [sg_X12_alone_39, if_pos (nI_lt (by omega) (by omega)), ck_n _ (by omega) (by omega), nI_clamp (by omega), nI_add, wI_wC]
    refine r_al_f m (k + 1) _ _ _ _ (by omega) (sameQ_tr s (sameQ_w _ _ ⟨rfl, rfl⟩ (by decide))) ⟨fun p hp => by rw [wC_ne _ _ (by decide)]; exact hD.1 p hp, by rw [LM_same (σ := σ') (wC_ne _ _ (by decide))]; exact hD.2⟩ (fun j hj' => ?_)
    rw [wC_at]
    by_cases ej : j = k
    · subst ej
      rw [up_at]
    · rw [up_ne _ _ ej]
      exact hj j (by omega)
theorem b_alone (d : Nat) {k sz n a e nl : Nat} {T R : Nat → Nat} {V : Nat → LV → Int32} {σ : pm_H} (hk : k ≤ 4900) (h : RelB k sz T R n a e σ) (w : LW nl V σ) (x y : Int32) : Both (d + 7) (d + 41) 249 255 [.int x, .int y] σ (PostW k sz T R nl V) := by
  have hh := h
  obtain ⟨⟨h1, h2, h3, h4, h5, h6, h7⟩, ⟨h8, h9⟩, -⟩ := hh
  have hz : (th0 σ).1 133 22 = nI sz := by rw [th_f _ (by decide)]; exact h2
  unfold Both
  rw [en_X11_alone, sg_X11_alone_0]
  rcases ix_cases x h3 with hx | ⟨l, hl, rfl⟩
  · refine ⟨.int (-1), σ, th0 σ, ?_, ?_, PostW_B (PostB_th h) w⟩
    · rw [q_in_n (d + 4) _ h1 hx]
      simp only [pm_cl_some, Option.toList_some, Option.toList_none, List.cons_append, List.nil_append]
      rw [sg_X11_alone_5, if_pos n00]
    · rw [en_X12_alone, sg_X12_alone_0, show pm_wI σ 133 0 (nI 0) = th0 σ from rfl, r_isL_n _ _ hz hx]
      simp only [pm_cl_some, Option.toList_some, Option.toList_none, List.cons_append, List.nil_append]
      rw [sg_X12_alone_10, if_pos n00]
  · have hsz : 0 < sz := by omega
    have hT := h5 hsz
    rw [q_in_y (d + 3) _ h1 h3 hl]
    simp only [pm_cl_some, Option.toList_some, Option.toList_none, List.cons_append, List.nil_append]
    rw [sg_X11_alone_5]
    have hrf : ∀ σ1, sameX σ (th0 σ1) → xe (d + 41) 255 [.ref 133, .int (nI l), .int y] σ1 = pm_run (xe (d + 40)) pg_X12_alone (22, [.ref 133, .int (nI l), .int y, .null, .null, .null, .null], [.int (b32 (s_in (σ.1 5) (σ.1 24) l))], th0 σ1) := by
      intro σ1 sX
      rw [en_X12_alone, sg_X12_alone_0, show pm_wI σ1 133 0 (nI 0) = th0 σ1 from rfl, r_isL_y _ _ (show (th0 σ1).1 133 22 = nI sz from (sX.1.2 22 (by omega)).trans h2) h3 hl]
      simp only [pm_cl_some, Option.toList_some, Option.toList_none, List.cons_append, List.nil_append]
      rw [sg_X12_alone_10, if_neg n10, r_isOn _ _ rw_now (show l < 6 by omega), sX.1.1 140 rfl, sX.1.1 142 rfl, relM_in (t := σ.1 4) (T := T) (h7 1 (by omega)) h8 hl]
      simp only [pm_cl_some, Option.toList_some, Option.toList_none, List.cons_append, List.nil_append]
    cases hin : s_in (σ.1 5) (σ.1 24) l with
    | false =>
      refine ⟨.int (-1), σ, th0 σ, by rw [if_pos bf0], ?_, PostW_B (PostB_th h) w⟩
      rw [hrf σ (sameX_th (sameX_rfl σ)), hin, sg_X12_alone_22, if_pos bf0]
    | true =>
      rw [hin] at hrf
      rw [if_neg bt0]
      rcases rng_cases y 0 1 (by omega) (by omega) with hy | ⟨i, -, hi, rfl⟩
      · refine ⟨.int (-1), σ, th0 σ, ?_, ?_, PostW_B (PostB_th h) w⟩
        · rw [q_np_n _ _ hy]
          simp only [pm_cl_some, Option.toList_some, Option.toList_none, List.cons_append, List.nil_append]
          rw [sg_X11_alone_12, if_neg n10]
        · rw [hrf σ (sameX_th (sameX_rfl σ)), sg_X12_alone_22, if_neg bt0, r_rng_n _ _ (L := 0) (H := 1) (a := 0) (b := 1) (by decide) (by decide) hy]
          simp only [pm_cl_some, Option.toList_some, Option.toList_none, List.cons_append, List.nil_append]
          rw [sg_X12_alone_32, if_pos n00]
      · obtain ⟨F, f1, f2, ⟨g1, g2⟩, ⟨b1, b2, b3, b4, b5⟩, g3, g4, g5⟩ := lif_N h3 (by omega) hT h8 hl
        obtain ⟨⟨u1, u2, u3, u4, u5, u6⟩, ⟨u7, u8, u9, u10, u11, u12⟩, u13⟩ := hT.2.2.2 l hl
        obtain ⟨i1, i2, i3⟩ := (in_N h3 hT f1 f2 hl).mp hin
        obtain ⟨rd, hrd, rd1, rd2⟩ := relM_rd h8 hl hin
        have hl6 : l < 6 := by omega
        obtain ⟨⟨w0, w1, w2, w3, w4⟩, wk⟩ := h8.2.2.1
        obtain ⟨⟨a0, a1, a2, a3, a4⟩, a5, a6, a7, a8, a9⟩ := wk l hl
        obtain ⟨lo, lo1, lo2, lo3⟩ := rel_lo99 h3 hT h8 hl hin
        have hR1 := hT.2.2.1
        have r51 : σ.1 5 1 = nI (R 1) := hT.2.1 1 (by omega)
        have r52 : σ.1 5 2 = nI (R 2) := hT.2.1 2 (by omega)
        have hok := f2.2.2.2.2 l hl
        unfold okL at hok
        have hbst : ∃ z, z ≤ 99 ∧ σ.1 24 (53 + rd * 6 + l) = nI z ∧ σ.1 142 (11 * l + 2 + rd) = nI z := by
          rcases (show rd = 0 ∨ rd = 1 by omega) with rfl | rfl
          · refine ⟨F (53 + l), by omega, ?_, ?_⟩
            · rw [show 53 + 0 * 6 + l = 53 + l by omega]
              exact f1 _ (by omega) (by omega)
            · rw [show 11 * l + 2 + 0 = 11 * l + 2 by omega, a2]
              exact f1 _ (by omega) (by omega)
          · refine ⟨F (59 + l), by omega, ?_, ?_⟩
            · rw [show 53 + 1 * 6 + l = 59 + l by omega]
              exact f1 _ (by omega) (by omega)
            · rw [show 11 * l + 2 + 1 = 11 * l + 3 by omega, a3]
              exact f1 _ (by omega) (by omega)
        obtain ⟨z, z0, z1, z2⟩ := hbst
        rw [q_np_y _ _ hi]
        simp only [pm_cl_some, Option.toList_some, Option.toList_none, List.cons_append, List.nil_append]
        obtain ⟨σ1, j1, j2, j3, j4⟩ := q_plan d (l := l) (can := if F 0 = 0 then T (l * 10 + 0) else T (l * 10 + 1)) (e := F (29 + l)) (g := F (35 + l)) (tr := F (11 + l)) (D := T (l * 10 + 3)) (B := T (l * 10 + 2)) (a := T (l * 10 + 4)) (b := T (l * 10 + 5)) (N := R 1 - F (11 + l)) (st := R 2) (lo := lo) (bst := z) (rd := rd) (V := V) (nl := nl) (σ := σ) w.2.1 w.2.2.2.2.2.2.1 hl6 (g5 3 (by omega)) (g5 2 (by omega)) (g5 4 (by omega)) (g5 5 (by omega)) (by omega) (by omega) (by omega) (by rw [r51, show F (11 + l) + (R 1 - F (11 + l)) = R 1 by omega]) r52 (by omega) (by
          unfold mo7
          rw [wC_at]
          exact ⟨rfl, g3, f1 _ (by omega) (by omega), f1 _ (by omega) (by omega), f1 _ (by omega) (by omega), rfl⟩) (f1 _ (by omega) (by omega)) lo1 ⟨lo2, lo3⟩ hrd rd1 z1 z0
        rw [sg_X11_alone_12, if_pos n00, j1]
        simp only [pm_cl_some, Option.toList_some, Option.toList_none, List.cons_append, List.nil_append]
        rw [sg_X11_alone_29, j3, j4]
        have sX : sameX σ (th0 σ1) := sameX_th j2
        obtain ⟨hB, hW'⟩ := sameX_R sX h w
        have e142 := sX.1.1 142 rfl
        have e138 := sX.1.1 138 rfl
        have hE3 := EnM_X (EnM_of h w) sX
        have hcan : m_can ((th0 σ1).1 138) ((th0 σ1).1 142) l = nI (if F 0 = 0 then T (l * 10 + 0) else T (l * 10 + 1)) := by
          unfold m_can
          rw [e138, e142, w0, h6 l hl 0 (by omega), h6 l hl 1 (by omega)]
          exact g3
        have hcx : cxR sz nl l (if F 0 = 0 then T (l * 10 + 0) else T (l * 10 + 1)) (F (29 + l)) (F (35 + l)) (F (11 + l)) (T (l * 10 + 3)) (T (l * 10 + 2)) (T (l * 10 + 4)) (T (l * 10 + 5)) (R 1 - F (11 + l)) (R 2) V (σ.1 4) (σ.1 5) (σ.1 12 6) (σ.1 12 7) (th0 σ1) := ⟨hE3, ⟨hl, h3⟩, ⟨by rw [r51, show F (11 + l) + (R 1 - F (11 + l)) = R 1 by omega], r52⟩, hcan, ⟨by rw [e142, a7]; exact f1 _ (by omega) (by omega), by rw [e142, a9]; exact f1 _ (by omega) (by omega), by rw [e142, a1]; exact f1 _ (by omega) (by omega)⟩, ⟨g5 3 (by omega), g5 2 (by omega), g5 4 (by omega), g5 5 (by omega)⟩, by omega, by omega, by omega⟩
        obtain ⟨σ2, k1, k2, k3, k4⟩ := r_al_f (ev := xe (d + 40)) (nl := nl) (V := V) (σ := th0 σ1) (l1 := nI l) (l2 := nI i) 40804 0 (th0 σ1) .null .null .null (by omega) (sameQ_rfl _) ⟨hW'.2.2.2.1, hW'.2.2.2.2.1⟩ (fun j hj => by omega)
        have e142' : σ2.1 142 = σ.1 142 := (k2.1.1 142 rfl).trans e142
        have e140' : σ2.1 140 = σ.1 140 := (k2.1.1 140 rfl).trans (sX.1.1 140 rfl)
        obtain ⟨N', hN'⟩ : ∃ N', R 1 - F (11 + l) = N' + 1 := ⟨R 1 - F (11 + l) - 1, by omega⟩
        have hAO := r_ao (d + (4 - 2 * N')) hcx N' (by omega)
        obtain ⟨σ3, v1, v2, v3, v4, v5⟩ := r_ba (d + 6) (left := N') (bst := z) (lo := lo) (σ' := σ2) hcx (by omega) z0 (by
          rw [show d + 6 + 33 = d + (4 - 2 * N') + 35 + 2 * N' by omega]
          exact hAO) lo2 lo3 k2 k3 (fun left f b' q1 q2 q3 q4 => Or.inl (k4 _ (by omega)))
        have hNN : R 1 - F (11 + l) - 1 = N' := by omega
        rw [hNN]
        have hfin : ∀ (p q : Int32), (if nI i = 0 then some (some (Value.int p), σ1) else some (some (Value.int q), σ1)) = some (some (Value.int (if nI i = 0 then p else q)), σ1) := fun p q => by split <;> rfl
        rw [hfin]
        refine ⟨_, σ1, σ3, rfl, ?_, PostW_Q hB hW' v2 v3.1 v3.2⟩
        rw [hrf σ1 sX, sg_X12_alone_22, if_neg bt0, r_rng_y _ _ (L := 0) (H := 1) (a := 0) (b := 1) (by decide) (by decide) (by omega) hi (by omega)]
        simp only [pm_cl_some, Option.toList_some, Option.toList_none, List.cons_append, List.nil_append]
        rw [sg_X12_alone_32, if_neg n10, k1, sg_X12_alone_39, if_neg (by decide), pk_mul, nI_add, nI_add, ck_n _ (by omega) (by omega), ck_n _ (by omega) (by omega), ck_n _ (by omega) (by omega), nI_clamp (show 66 < 2 ^ 31 by omega), nI_clamp (show 1 < 2 ^ 31 by omega), e142', rd2, nI_add, ck_n _ (by omega) (by omega), nI_clamp (show 11 * l + 2 + rd < 2 ^ 31 by omega), nI_clamp (show 11 * l + 1 < 2 ^ 31 by omega), z2, a1, f1 (11 + l) (by omega) (by omega), e140', h7 1 (by omega), r51, pk_sub (by omega), r_least (d + 39) _ rw_now hl6, e142', least_eq h8.2.2.1 hl, lo1]
        simp only [pm_cl_some, Option.toList_some, Option.toList_none, List.cons_append, List.nil_append]
        rw [sg_X12_alone_111, hN', v1]
        simp only [pm_cl_some, Option.toList_some, Option.toList_none, List.cons_append, List.nil_append]
        rw [sg_X12_alone_116, v5]
        by_cases c : nI i = 0
        · rw [if_pos c, if_pos c, hN']
        · rw [if_neg c, if_neg c, hN']

/-! ===== ready ===== -/
def rdL (v : Nat → Int32) : Nat → Nat → Nat → Int32 → Nat × Int32
  | 0, _, b, q => (b, q)
  | m + 1, i, b, q => if q < v i then rdL v m (i + 1) i (v i) else rdL v m (i + 1) b q
theorem rdL_b {v : Nat → Int32} : ∀ (m i b : Nat) (q : Int32), b < i → (rdL v m i b q).1 < i + m
  | 0, i, b, q, h => h
  | m + 1, i, b, q, h => by
    unfold rdL
    split
    · have := rdL_b (v := v) m (i + 1) i (v i) (by omega)
      omega
    · have := rdL_b (v := v) m (i + 1) b q (by omega)
      omega
theorem mn9 {e i : Nat} (he : e ≤ 1000) (hi : i ≤ 1000) : (if nI e + nI i < nI 9 then nI e + nI i else nI 9) = nI (min 9 (e + i)) := by
  rw [nI_add]
  by_cases c : e + i < 9
  · rw [if_pos (nI_lt c (by omega)), show min 9 (e + i) = e + i by omega]
  · rw [if_neg (nI_nlt (by omega) (by omega)), show min 9 (e + i) = 9 by omega]
def vR (V : Nat → LV → Int32) (o : Int32) (W a b can e g D tr wt B : Nat) (i : Nat) : Int32 := if i = 0 then oddv V o W (nowI a b can e g wt) D tr wt B else oddv V o W (nowI a b can (min 9 (e + i)) g 0) D tr 0 B
theorem q_rd_l2 (d : Nat) {nl l W can e g tr wt D B a b : Nat} {V : Nat → LV → Int32} {σ : pm_H} {y : Int32} (hC : CLw nl V σ) (ho : lawok nl (σ.1 12 6)) (hl : l < 6) (hD : σ.1 4 (l * 10 + 3) = nI D) (hB : σ.1 4 (l * 10 + 2) = nI B) (ha : σ.1 4 (l * 10 + 4) = nI a) (hb : σ.1 4 (l * 10 + 5) = nI b) (r1 : a ≤ 9 ∧ b ≤ 9 ∧ can ≤ 99 ∧ e ≤ 9 ∧ g ≤ 1000 ∧ wt < 10000) (r2 : W ≤ 99 ∧ D ≤ 9 ∧ tr ≤ 3 ∧ B ≤ 99) : ∀ (m i bb : Nat) (σ' : pm_H) (q : Int32) (w1 w7 : Value), i + m = 10 → 1 ≤ i → sameX σ σ' → (σ'.1 91 1 = nI l ∧ σ'.1 91 2 = nI can ∧ σ'.1 91 3 = nI (min 9 (e + (i - 1))) ∧ σ'.1 91 4 = nI g ∧ σ'.1 91 5 = nI tr) → ∃ σ2, pm_run (xe (d + 4)) pg_X11_ready (59, [.ref 0, w1, .int y, .int (nI W), .int (nI bb), .int q, .int (nI i), w7], [], σ') = some (some (.int (if y = 0 then nI (rdL (vR V (σ.1 12 6) W a b can e g D tr wt B) m i bb q).1 else (rdL (vR V (σ.1 12 6) W a b can e g D tr wt B) m i bb q).2)), σ2) ∧ sameX σ σ2
  | 0, i, bb, σ', q, w1, w7, ei, hi, s, hf => by
    refine ⟨σ', ?_, s⟩
    rw [sg_X11_ready_59, if_pos (nI_lt (by omega) (by omega))]
    show (if y = 0 then some (some (Value.int (nI bb)), σ') else some (some (Value.int q), σ')) = some (some (Value.int (if y = 0 then nI bb else q)), σ')
    split <;> rfl
  | m + 1, i, bb, σ', q, w1, w7, ei, hi, s, hf => by
    obtain ⟨k1, k2, k3, k4, k5⟩ := hf
    rw [sg_X11_ready_59, if_neg (nI_nlt (by omega) (by omega)), en_X7_warmUp, sg_X7_warmUp_0 mo_91, k3, mn9 (by omega) (by omega), show min 9 (min 9 (e + (i - 1)) + 1) = min 9 (e + i) by omega, wI_wC, wI_wC, wC_at, wC_wC]
    simp only [pm_cl_some, Option.toList_some, Option.toList_none, List.cons_append, List.nil_append]
    have s1 : sameX σ (pm_wC σ' 91 (upd (upd (σ'.1 91) 3 (nI (min 9 (e + i)))) 6 (nI 0))) := sameX_w s _ ⟨rfl, rfl⟩ (by decide)
    have e4 := s1.1.1 4 rfl
    have e12 := s1.2.1.1 12 rfl
    obtain ⟨g21, g22, hg⟩ := q_chM d (u := 91) (l := l) (W := W) (can := can) (e := min 9 (e + i)) (g := g) (tr := tr) (wt := 0) (D := D) (B := B) (a := a) (b := b) (σ := pm_wC σ' 91 (upd (upd (σ'.1 91) 3 (nI (min 9 (e + i)))) 6 (nI 0))) (CLw_X hC s1) (by rw [e12]; exact ho) mo_91 hl (by rw [wC_at]; exact k1) (by rw [wC_at]; exact k2) (by rw [wC_at]; rfl) (by rw [wC_at]; exact k4) (by rw [wC_at]; exact k5) (by rw [wC_at]; rfl) (by rw [e4]; exact hD) (by rw [e4]; exact hB) (by rw [e4]; exact ha) (by rw [e4]; exact hb) (by omega) r2
    rw [sg_X11_ready_73, hg, e12]
    simp only [pm_cl_some, Option.toList_some, Option.toList_none, List.cons_append, List.nil_append]
    rw [sg_X11_ready_85, nI_add]
    have hv : oddv V (σ.1 12 6) W (nowI a b can (min 9 (e + i)) g 0) D tr 0 B = vR V (σ.1 12 6) W a b can e g D tr wt B i := by
      unfold vR
      rw [if_neg (by omega)]
    rw [hv]
    have s2 := sameX_w (sameX_w s1 (c := 21) g21 ⟨rfl, rfl⟩ (by decide)) (c := 22) g22 ⟨rfl, rfl⟩ (by decide)
    have h91 : (pm_wC (pm_wC (pm_wC σ' 91 (upd (upd (σ'.1 91) 3 (nI (min 9 (e + i)))) 6 (nI 0))) 21 g21) 22 g22).1 91 = upd (upd (σ'.1 91) 3 (nI (min 9 (e + i)))) 6 (nI 0) := by rw [wC_ne _ _ (by decide), wC_ne _ _ (by decide), wC_at]
    have hf2 : (pm_wC (pm_wC (pm_wC σ' 91 (upd (upd (σ'.1 91) 3 (nI (min 9 (e + i)))) 6 (nI 0))) 21 g21) 22 g22).1 91 1 = nI l ∧ (pm_wC (pm_wC (pm_wC σ' 91 (upd (upd (σ'.1 91) 3 (nI (min 9 (e + i)))) 6 (nI 0))) 21 g21) 22 g22).1 91 2 = nI can ∧ (pm_wC (pm_wC (pm_wC σ' 91 (upd (upd (σ'.1 91) 3 (nI (min 9 (e + i)))) 6 (nI 0))) 21 g21) 22 g22).1 91 3 = nI (min 9 (e + (i + 1 - 1))) ∧ (pm_wC (pm_wC (pm_wC σ' 91 (upd (upd (σ'.1 91) 3 (nI (min 9 (e + i)))) 6 (nI 0))) 21 g21) 22 g22).1 91 4 = nI g ∧ (pm_wC (pm_wC (pm_wC σ' 91 (upd (upd (σ'.1 91) 3 (nI (min 9 (e + i)))) 6 (nI 0))) 21 g21) 22 g22).1 91 5 = nI tr := by
      rw [h91]
      exact ⟨k1, k2, by rw [Nat.add_sub_cancel]; rfl, k4, k5⟩
    unfold rdL
    by_cases c : q < vR V (σ.1 12 6) W a b can e g D tr wt B i
    · rw [if_pos c, if_pos c]
      exact q_rd_l2 d hC ho hl hD hB ha hb r1 r2 m (i + 1) i _ _ _ _ (by omega) (by omega) s2 hf2
    · rw [if_neg c, if_neg c]
      exact q_rd_l2 d hC ho hl hD hB ha hb r1 r2 m (i + 1) bb _ _ _ _ (by omega) (by omega) s2 hf2
/-- the reference: a chance with numbers as they are -/
theorem r_rd_l (d : Nat) {sz nl l W can e g tr wt D B a b : Nat} {V : Nat → LV → Int32} {t r : Nat → Int32} {o1 o2 : Int32} {σ : pm_H} {y : Int32} (hE : EnM sz nl V t r o1 o2 σ) (hl : l < sz) (hs : sz ≤ 6) (hcan : m_can (σ.1 138) (σ.1 142) l = nI can) (h7 : σ.1 142 (11 * l + 7) = nI e) (h9 : σ.1 142 (11 * l + 9) = nI g) (h0 : σ.1 142 (11 * l + 0) = nI W) (h1 : σ.1 142 (11 * l + 1) = nI tr) (hD : t (l * 10 + 3) = nI D) (hB : t (l * 10 + 2) = nI B) (ha : t (l * 10 + 4) = nI a) (hb : t (l * 10 + 5) = nI b) (r1 : a ≤ 9 ∧ b ≤ 9 ∧ can ≤ 99 ∧ e ≤ 9 ∧ g ≤ 1000 ∧ wt < 10000) (r2 : W ≤ 99 ∧ D ≤ 9 ∧ tr ≤ 3 ∧ B ≤ 99) : ∀ (m i bb : Nat) (σ' : pm_H) (q : Int32) (w7 w8 w9 : Value), i + m = 10 → 1 ≤ i → bb < i → sameQ σ σ' → DyM nl V σ' → ∃ σ2, pm_run (xe (d + 33)) pg_X12_ready (51, [.ref 133, .int (nI l), .int y, .int (nI (11 * l)), .int (nI bb), .int q, .int (nI i), w7, w8, w9], [], σ') = some (some (.int (if y = 0 then nI (rdL (vR V o1 W a b can e g D tr wt B) m i bb q).1 else (rdL (vR V o1 W a b can e g D tr wt B) m i bb q).2)), σ2) ∧ sameQ σ σ2 ∧ DyM nl V σ2
  | 0, i, bb, σ', q, w7, w8, w9, ei, hi, hbb, s, hDy => by
    refine ⟨σ', ?_, s, hDy⟩
    rw [sg_X12_ready_51, if_neg (nI_nlt (by omega) (by omega))]
    show (if y = 0 then some (some (Value.int (nI bb)), σ') else some (some (Value.int q), σ')) = some (some (Value.int (if y = 0 then nI bb else q)), σ')
    split <;> rfl
  | m + 1, i, bb, σ', q, w7, w8, w9, ei, hi, hbb, s, hDy => by
    have e138 := s.1.1 138 rfl
    have e142 := s.1.1 142 rfl
    have hl6 : l < 6 := by omega
    have hE' := EnM_Q hE s
    obtain ⟨n1, n2⟩ := nowX_N (a := a) (b := b) (c := can) (e := min 9 (e + i)) (g := g) (w := 0) r1.1 r1.2.1 r1.2.2.1 (by omega) r1.2.2.2.2.1 (by omega)
    rw [sg_X12_ready_51, if_pos (nI_lt (by omega) (by omega)), if_neg (nI_ne0 (by omega) (by omega)), r_canOf (d + 32) _ rw_now hl6, e138, e142, hcan]
    simp only [pm_cl_some, Option.toList_some, Option.toList_none, List.cons_append, List.nil_append]
    rw [sg_X12_ready_89, nI_add, nI_add, ck_n _ (by omega) (by omega), ck_n _ (by omega) (by omega), nI_clamp (by omega), nI_clamp (by omega), e142, h7, h9, mn9 (by omega) (by omega), r_nowBy (d + 32) _ hl6, hE'.2.1 l hl 4 (by omega), hE'.2.1 l hl 5 (by omega), ha, hb, n1]
    simp only [pm_cl_some, Option.toList_some, Option.toList_none, List.cons_append, List.nil_append]
    obtain ⟨σ4, v1, v2, v3, v4⟩ := r_oddsBy d (σ := σ') (l := l) (W := W) (I := nowI a b can (min 9 (e + i)) g 0) (D := D) (T := tr) (C := 0) (B := B) hE'.2.2.2.1 hDy.1 (by rw [hE'.2.2.2.2.1.1]; exact hE.2.2.2.2.2.1) hDy.2 hl6 (by rw [hE'.2.1 l hl 3 (by omega)]; exact hD) (by rw [hE'.2.1 l hl 2 (by omega)]; exact hB) ⟨r2.1, n2, r2.2.1, r2.2.2.1, by omega, r2.2.2.2⟩
    rw [sg_X12_ready_120, nI_add, nI_add, ck_n _ (by omega) (by omega), ck_n _ (by omega) (by omega), nI_clamp (by omega), nI_clamp (by omega), e142, h0, h1, v1, hE'.2.2.2.2.1.1]
    simp only [pm_cl_some, Option.toList_some, Option.toList_none, List.cons_append, List.nil_append]
    have hv : oddv V o1 W (nowI a b can (min 9 (e + i)) g 0) D tr 0 B = vR V o1 W a b can e g D tr wt B i := by
      unfold vR
      rw [if_neg (by omega)]
    rw [sg_X12_ready_147, if_neg (nI_nm1 (by omega)), nI_add, hv]
    have s2 := sameQ_tr s (rO_Q v2)
    unfold rdL
    by_cases c : q < vR V o1 W a b can e g D tr wt B i
    · rw [if_pos c, if_pos c]
      exact r_rd_l d hE hl hs hcan h7 h9 h0 h1 hD hB ha hb r1 r2 m (i + 1) i _ _ _ _ _ (by omega) (by omega) (by omega) s2 ⟨v3, v4⟩
    · rw [if_neg c, if_neg c]
      exact r_rd_l d hE hl hs hcan h7 h9 h0 h1 hD hB ha hb r1 r2 m (i + 1) bb _ _ _ _ _ (by omega) (by omega) (by omega) s2 ⟨v3, v4⟩
theorem b_ready (d : Nat) {k sz n a e nl : Nat} {T R : Nat → Nat} {V : Nat → LV → Int32} {σ : pm_H} (hk : k ≤ 4900) (h : RelB k sz T R n a e σ) (w : LW nl V σ) (x y : Int32) : Both (d + 5) (d + 34) 299 301 [.int x, .int y] σ (PostW k sz T R nl V) := by
  have hh := h
  obtain ⟨⟨h1, h2, h3, h4, h5, h6, h7⟩, ⟨h8, h9⟩, -⟩ := hh
  have hz : (th0 σ).1 133 22 = nI sz := by rw [th_f _ (by decide)]; exact h2
  unfold Both
  rw [en_X11_ready, sg_X11_ready_0]
  rcases ix_cases x h3 with hx | ⟨l, hl, rfl⟩
  · refine ⟨.int (-1), σ, th0 σ, ?_, ?_, PostW_B (PostB_th h) w⟩
    · rw [q_in_n (d + 2) _ h1 hx]
      simp only [pm_cl_some, Option.toList_some, Option.toList_none, List.cons_append, List.nil_append]
      rw [sg_X11_ready_5, if_pos n00]
    · rw [en_X12_ready, sg_X12_ready_0, show pm_wI σ 133 0 (nI 0) = th0 σ from rfl, r_isL_n _ _ hz hx]
      simp only [pm_cl_some, Option.toList_some, Option.toList_none, List.cons_append, List.nil_append]
      rw [sg_X12_ready_10, if_pos n00]
  · have hsz : 0 < sz := by omega
    have hT := h5 hsz
    rw [q_in_y (d + 1) _ h1 h3 hl]
    simp only [pm_cl_some, Option.toList_some, Option.toList_none, List.cons_append, List.nil_append]
    rw [sg_X11_ready_5]
    have hrf : ∀ σ1, sameX σ (th0 σ1) → xe (d + 34) 301 [.ref 133, .int (nI l), .int y] σ1 = pm_run (xe (d + 33)) pg_X12_ready (22, [.ref 133, .int (nI l), .int y, .null, .null, .null, .null, .null, .null, .null], [.int (b32 (s_in (σ.1 5) (σ.1 24) l))], th0 σ1) := by
      intro σ1 sX
      rw [en_X12_ready, sg_X12_ready_0, show pm_wI σ1 133 0 (nI 0) = th0 σ1 from rfl, r_isL_y _ _ (show (th0 σ1).1 133 22 = nI sz from (sX.1.2 22 (by omega)).trans h2) h3 hl]
      simp only [pm_cl_some, Option.toList_some, Option.toList_none, List.cons_append, List.nil_append]
      rw [sg_X12_ready_10, if_neg n10, r_isOn _ _ rw_now (show l < 6 by omega), sX.1.1 140 rfl, sX.1.1 142 rfl, relM_in (t := σ.1 4) (T := T) (h7 1 (by omega)) h8 hl]
      simp only [pm_cl_some, Option.toList_some, Option.toList_none, List.cons_append, List.nil_append]
    cases hin : s_in (σ.1 5) (σ.1 24) l with
    | false =>
      refine ⟨.int (-1), σ, th0 σ, by rw [if_pos bf0], ?_, PostW_B (PostB_th h) w⟩
      rw [hrf σ (sameX_th (sameX_rfl σ)), hin, sg_X12_ready_22, if_pos bf0]
    | true =>
      rw [hin] at hrf
      rw [if_neg bt0]
      rcases rng_cases y 0 1 (by omega) (by omega) with hy | ⟨i, -, hi, rfl⟩
      · refine ⟨.int (-1), σ, th0 σ, ?_, ?_, PostW_B (PostB_th h) w⟩
        · rw [q_np_n _ _ hy]
          simp only [pm_cl_some, Option.toList_some, Option.toList_none, List.cons_append, List.nil_append]
          rw [sg_X11_ready_12, if_neg n10]
        · rw [hrf σ (sameX_th (sameX_rfl σ)), sg_X12_ready_22, if_neg bt0, r_rng_n _ _ (L := 0) (H := 1) (a := 0) (b := 1) (by decide) (by decide) hy]
          simp only [pm_cl_some, Option.toList_some, Option.toList_none, List.cons_append, List.nil_append]
          rw [sg_X12_ready_32, if_pos n00]
      · obtain ⟨F, f1, f2, ⟨g1, g2⟩, ⟨b1, b2, b3, b4, b5⟩, g3, g4, g5⟩ := lif_N h3 (by omega) hT h8 hl
        obtain ⟨⟨u1, u2, u3, u4, u5, u6⟩, ⟨u7, u8, u9, u10, u11, u12⟩, u13⟩ := hT.2.2.2 l hl
        have hl6 : l < 6 := by omega
        have h5' : σ.1 24 (5 + l) = nI (F (5 + l)) := f1 _ (by omega) (by omega)
        rw [q_np_y _ _ hi]
        simp only [pm_cl_some, Option.toList_some, Option.toList_none, List.cons_append, List.nil_append]
        rw [sg_X11_ready_12, if_pos n00, q_of (d + 3) σ st_23 (show 5 + l < 71 by omega), h5']
        simp only [pm_cl_some, Option.toList_some, Option.toList_none, List.cons_append, List.nil_append]
        rw [sg_X11_ready_26, w_take (d + 2) σ mo_91 st_23 hl6]
        simp only [pm_cl_some, Option.toList_some, Option.toList_none, List.cons_append, List.nil_append]
        have sX1 : sameX σ (pm_wC σ 91 (g_take (σ.1 4) (σ.1 (23 + 1)) (σ.1 91) l)) := sameX_w (sameX_rfl σ) _ ⟨rfl, rfl⟩ (by decide)
        obtain ⟨g21, g22, hg⟩ := q_chM d (u := 91) (l := l) (W := F (5 + l)) (can := if F 0 = 0 then T (l * 10 + 0) else T (l * 10 + 1)) (e := F (29 + l)) (g := F (35 + l)) (tr := F (11 + l)) (wt := F 2 - F (41 + l)) (D := T (l * 10 + 3)) (B := T (l * 10 + 2)) (a := T (l * 10 + 4)) (b := T (l * 10 + 5)) (σ := pm_wC σ 91 (g_take (σ.1 4) (σ.1 (23 + 1)) (σ.1 91) l)) (CLw_X w.2.1 sX1) (by rw [wC_ne _ _ (by decide)]; exact w.2.2.2.2.2.2.1) mo_91 hl6 (by rw [wC_at]; rfl) (by rw [wC_at]; exact g3) (by rw [wC_at]; exact f1 _ (by omega) (by omega)) (by rw [wC_at]; exact f1 _ (by omega) (by omega)) (by rw [wC_at]; exact f1 _ (by omega) (by omega)) (by rw [wC_at]; exact g1) (by rw [wC_ne _ _ (by decide)]; exact g5 3 (by omega)) (by rw [wC_ne _ _ (by decide)]; exact g5 2 (by omega)) (by rw [wC_ne _ _ (by decide)]; exact g5 4 (by omega)) (by rw [wC_ne _ _ (by decide)]; exact g5 5 (by omega)) (by omega) (by omega)
        rw [sg_X11_ready_39, hg, wC_ne _ _ (show (12 : Nat) ≠ 91 by decide)]
        simp only [pm_cl_some, Option.toList_some, Option.toList_none, List.cons_append, List.nil_append]
        have sX2 := sameX_w (sameX_w sX1 (c := 21) g21 ⟨rfl, rfl⟩ (by decide)) (c := 22) g22 ⟨rfl, rfl⟩ (by decide)
        have e91 : (pm_wC (pm_wC (pm_wC σ 91 (g_take (σ.1 4) (σ.1 (23 + 1)) (σ.1 91) l)) 21 g21) 22 g22).1 91 = g_take (σ.1 4) (σ.1 24) (σ.1 91) l := by rw [wC_ne _ _ (by decide), wC_ne _ _ (by decide), wC_at]
        generalize pm_wC (pm_wC (pm_wC σ 91 (g_take (σ.1 4) (σ.1 (23 + 1)) (σ.1 91) l)) 21 g21) 22 g22 = σ2 at sX2 e91 ⊢
        obtain ⟨σ1, i1, i2⟩ := q_rd_l2 d (l := l) (W := F (5 + l)) (can := if F 0 = 0 then T (l * 10 + 0) else T (l * 10 + 1)) (e := F (29 + l)) (g := F (35 + l)) (tr := F (11 + l)) (wt := F 2 - F (41 + l)) (D := T (l * 10 + 3)) (B := T (l * 10 + 2)) (a := T (l * 10 + 4)) (b := T (l * 10 + 5)) (y := nI i) w.2.1 w.2.2.2.2.2.2.1 hl6 (g5 3 (by omega)) (g5 2 (by omega)) (g5 4 (by omega)) (g5 5 (by omega)) (by omega) (by omega) 9 1 0 σ2 (oddv V (σ.1 12 6) (F (5 + l)) (nowI (T (l * 10 + 4)) (T (l * 10 + 5)) (if F 0 = 0 then T (l * 10 + 0) else T (l * 10 + 1)) (F (29 + l)) (F (35 + l)) (F 2 - F (41 + l))) (T (l * 10 + 3)) (F (11 + l)) (F 2 - F (41 + l)) (T (l * 10 + 2))) (.int (nI l)) .null (by omega) (by omega) sX2 (by
          rw [e91]
          refine ⟨rfl, g3, ?_, f1 _ (by omega) (by omega), f1 _ (by omega) (by omega)⟩
          rw [show min 9 (F (29 + l) + (1 - 1)) = F (29 + l) by omega]
          exact f1 _ (by omega) (by omega))
        rw [sg_X11_ready_54, i1]
        have sX : sameX σ (th0 σ1) := sameX_th i2
        obtain ⟨hB, hW'⟩ := sameX_R sX h w
        have e142 := sX.1.1 142 rfl
        have e138 := sX.1.1 138 rfl
        obtain ⟨⟨w0, w1, w2, w3, w4⟩, wk⟩ := h8.2.2.1
        obtain ⟨⟨a0, a1, a2, a3, a4⟩, a5, a6, a7, a8, a9⟩ := wk l hl
        have hE3 := EnM_X (EnM_of h w) sX
        have hcan : m_can ((th0 σ1).1 138) ((th0 σ1).1 142) l = nI (if F 0 = 0 then T (l * 10 + 0) else T (l * 10 + 1)) := by
          unfold m_can
          rw [e138, e142, w0, h6 l hl 0 (by omega), h6 l hl 1 (by omega)]
          exact g3
        obtain ⟨n1, n2⟩ := nowX_N (a := T (l * 10 + 4)) (b := T (l * 10 + 5)) (c := if F 0 = 0 then T (l * 10 + 0) else T (l * 10 + 1)) (e := F (29 + l)) (g := F (35 + l)) (w := F 2 - F (41 + l)) (by omega) (by omega) g4 (by omega) (by omega) (by omega)
        obtain ⟨σ4, v1, v2, v3, v4⟩ := r_oddsBy d (σ := th0 σ1) (l := l) (W := F (5 + l)) (I := nowI (T (l * 10 + 4)) (T (l * 10 + 5)) (if F 0 = 0 then T (l * 10 + 0) else T (l * 10 + 1)) (F (29 + l)) (F (35 + l)) (F 2 - F (41 + l))) (D := T (l * 10 + 3)) (T := F (11 + l)) (C := F 2 - F (41 + l)) (B := T (l * 10 + 2)) hE3.2.2.2.1 hW'.2.2.2.1 (by rw [hE3.2.2.2.2.1.1]; exact w.2.2.2.2.2.2.1) hW'.2.2.2.2.1 hl6 (by rw [hE3.2.1 l hl 3 (by omega)]; exact g5 3 (by omega)) (by rw [hE3.2.1 l hl 2 (by omega)]; exact g5 2 (by omega)) ⟨b2, n2, u6, b3, by omega, u4⟩
        obtain ⟨σ5, j1, j2, j3⟩ := r_rd_l d (y := nI i) (wt := F 2 - F (41 + l)) (can := if F 0 = 0 then T (l * 10 + 0) else T (l * 10 + 1)) hE3 hl h3 hcan (by rw [e142, a7]; exact f1 _ (by omega) (by omega)) (by rw [e142, a9]; exact f1 _ (by omega) (by omega)) (by rw [e142, a0]; exact h5') (by rw [e142, a1]; exact f1 _ (by omega) (by omega)) (g5 3 (by omega)) (g5 2 (by omega)) (g5 4 (by omega)) (g5 5 (by omega)) (by omega) (by omega) 9 1 0 σ4 (oddv V (σ.1 12 6) (F (5 + l)) (nowI (T (l * 10 + 4)) (T (l * 10 + 5)) (if F 0 = 0 then T (l * 10 + 0) else T (l * 10 + 1)) (F (29 + l)) (F (35 + l)) (F 2 - F (41 + l))) (T (l * 10 + 3)) (F (11 + l)) (F 2 - F (41 + l)) (T (l * 10 + 2))) (.int (nI (F 2 - F (41 + l)))) (.int (isI (nowI (T (l * 10 + 4)) (T (l * 10 + 5)) (if F 0 = 0 then T (l * 10 + 0) else T (l * 10 + 1)) (F (29 + l)) (F (35 + l)) (F 2 - F (41 + l))))) (.int (oddv V (σ.1 12 6) (F (5 + l)) (nowI (T (l * 10 + 4)) (T (l * 10 + 5)) (if F 0 = 0 then T (l * 10 + 0) else T (l * 10 + 1)) (F (29 + l)) (F (35 + l)) (F 2 - F (41 + l))) (T (l * 10 + 3)) (F (11 + l)) (F 2 - F (41 + l)) (T (l * 10 + 2)))) (by omega) (by omega) (by omega) (rO_Q v2) ⟨v3, v4⟩
        refine ⟨_, σ1, σ5, rfl, ?_, PostW_Q hB hW' j2 j3.1 j3.2⟩
        rw [hrf σ1 sX, sg_X12_ready_22, if_neg bt0, r_rng_y _ _ (L := 0) (H := 1) (a := 0) (b := 1) (by decide) (by decide) (by omega) hi (by omega)]
        simp only [pm_cl_some, Option.toList_some, Option.toList_none, List.cons_append, List.nil_append]
        rw [sg_X12_ready_32, if_neg n10, pk_mul, sg_X12_ready_51, if_pos (by decide), if_pos n00, r_waitedOf (d + 32) _ rw_now hl6, e142, w2, a8, g1]
        simp only [pm_cl_some, Option.toList_some, Option.toList_none, List.cons_append, List.nil_append]
        rw [sg_X12_ready_72, r_canOf (d + 32) _ rw_now hl6, hcan]
        simp only [pm_cl_some, Option.toList_some, Option.toList_none, List.cons_append, List.nil_append]
        rw [sg_X12_ready_89, nI_add, nI_add, ck_n _ (by omega) (by omega), ck_n _ (by omega) (by omega), nI_clamp (by omega), nI_clamp (by omega), e142, a7, a9, f1 (29 + l) (by omega) (by omega), f1 (35 + l) (by omega) (by omega), mn9 (by omega) (by omega), show min 9 (F (29 + l) + 0) = F (29 + l) by omega, r_nowBy (d + 32) _ hl6, e138, h6 l hl 4 (by omega), h6 l hl 5 (by omega), g5 4 (by omega), g5 5 (by omega), n1]
        simp only [pm_cl_some, Option.toList_some, Option.toList_none, List.cons_append, List.nil_append]
        rw [sg_X12_ready_120, nI_add, nI_add, ck_n _ (by omega) (by omega), ck_n _ (by omega) (by omega), nI_clamp (by omega), nI_clamp (by omega), e142, a0, a1, h5', f1 (11 + l) (by omega) (by omega), v1, hE3.2.2.2.2.1.1]
        simp only [pm_cl_some, Option.toList_some, Option.toList_none, List.cons_append, List.nil_append]
        rw [sg_X12_ready_147, if_pos rfl, nI_add, j1]

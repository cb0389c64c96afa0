/-! ===== empty ===== -/
def emL (v : Nat → Int32) : Nat → Nat → Int64 → Int64
  | 0, _, p => p
  | m + 1, i, p => emL v m (i + 1) (p - (p * (v i).toInt64) / (100 : Int64))
def vE (V : Nat → LV → Int32) (o : Int32) (W a b can e g D tr B : Nat) (i : Nat) : Int32 := oddv V o W (nowI a b can e (g + i) 0) D (tr + i) 0 B
theorem q_em_l (d : Nat) {nl l W can e g tr D B a b N : Nat} {V : Nat → LV → Int32} {σ : pm_H} (hC : CLw nl V σ) (ho : lawok nl (σ.1 12 6)) (hl : l < 6) (hW : s_least (σ.1 24) l = nI W) (hD : σ.1 4 (l * 10 + 3) = nI D) (hB : σ.1 4 (l * 10 + 2) = nI B) (ha : σ.1 4 (l * 10 + 4) = nI a) (hb : σ.1 4 (l * 10 + 5) = nI b) (r1 : a ≤ 9 ∧ b ≤ 9 ∧ can ≤ 99 ∧ e ≤ 9 ∧ g ≤ 100) (r2 : W ≤ 99 ∧ D ≤ 9 ∧ tr + N ≤ 3 ∧ B ≤ 99) : ∀ (m i : Nat) (σ' : pm_H) (p : Int64) (w4 : Value), i + m = N → sameX σ σ' → (σ'.1 77 1 = nI l ∧ σ'.1 77 2 = nI can ∧ σ'.1 77 3 = nI e ∧ σ'.1 77 4 = nI (g + i) ∧ σ'.1 77 5 = nI (tr + i) ∧ σ'.1 77 6 = nI 0) → ∃ σ2, pm_run (xe (d + 4)) pg_X8_emptyParts (50, [.ref 76, .ref 23, .int (nI l), .long p, w4, .int (nI m)], [], σ') = some (some (.int (emL (vE V (σ.1 12 6) W a b can e g D tr B) m i p).toInt32), σ2) ∧ sameX σ σ2
  | 0, i, σ', p, w4, ei, s, hf => by
    refine ⟨σ', ?_, s⟩
    rw [sg_X8_emptyParts_50, if_neg (by decide)]
    rfl
  | m + 1, i, σ', p, w4, ei, s, hf => by
    obtain ⟨k1, k2, k3, k4, k5, k6⟩ := hf
    have e4 := s.1.1 4 rfl
    have e12 := s.2.1.1 12 rfl
    have e24 := s.1.1 24 rfl
    obtain ⟨g21, g22, hg⟩ := q_chM d (u := 77) (l := l) (W := W) (can := can) (e := e) (g := g + i) (tr := tr + i) (wt := 0) (D := D) (B := B) (a := a) (b := b) (σ := σ') (CLw_X hC s) (by rw [e12]; exact ho) mo_77 hl k1 k2 k3 k4 k5 k6 (by rw [e4]; exact hD) (by rw [e4]; exact hB) (by rw [e4]; exact ha) (by rw [e4]; exact hb) (by omega) (by omega)
    rw [sg_X8_emptyParts_50, if_pos (nI_gt0 (by omega) (by omega)), q_least (d + 3) σ' st_23 hl, show s_least (σ'.1 (23 + 1)) l = nI W from by rw [e24]; exact hW]
    simp only [pm_cl_some, Option.toList_some, Option.toList_none, List.cons_append, List.nil_append]
    rw [sg_X8_emptyParts_70, hg, e12]
    simp only [pm_cl_some, Option.toList_some, Option.toList_none, List.cons_append, List.nil_append]
    have s2 := sameX_w (sameX_w s (c := 21) g21 ⟨rfl, rfl⟩ (by decide)) (c := 22) g22 ⟨rfl, rfl⟩ (by decide)
    have h77 : (pm_wC (pm_wC σ' 21 g21) 22 g22).1 77 = σ'.1 77 := by rw [wC_ne _ _ (by decide), wC_ne _ _ (by decide)]
    generalize pm_wC (pm_wC σ' 21 g21) 22 g22 = σ3 at s2 h77 ⊢
    rw [sg_X8_emptyParts_73, en_X7_afterLift, sg_X7_afterLift_0 mo_77, sg_X7_afterLift_20 mo_77, wI_wC, wI_wC, wI_wC]
    simp only [wC_at, wC_wC, h77]
    rw [up_ne _ _ (show (5 : Nat) ≠ 4 by decide), k4, k5, nI_add, nI_add]
    simp only [pm_cl_some, Option.toList_some, Option.toList_none, List.cons_append, List.nil_append]
    rw [sg_X8_emptyParts_88, pk_m1]
    exact q_em_l d hC ho hl hW hD hB ha hb r1 r2 m (i + 1) _ _ _ (by omega) (sameX_w s2 _ ⟨rfl, rfl⟩ (by decide)) (by
      rw [wC_at]
      exact ⟨k1, k2, k3, by show nI (g + i + 1) = _; rw [Nat.add_assoc], by show nI (tr + i + 1) = _; rw [Nat.add_assoc], rfl⟩)
theorem r_em_l (d : Nat) {sz nl l W can e g tr D B a b N : Nat} {V : Nat → LV → Int32} {t r : Nat → Int32} {o1 o2 : Int32} {σ : pm_H} (hE : EnM sz nl V t r o1 o2 σ) (hl : l < sz) (hs : sz ≤ 6) (hr1 : r 1 = nI (tr + N)) (hcan : m_can (σ.1 138) (σ.1 142) l = nI can) (h7 : σ.1 142 (11 * l + 7) = nI e) (h9 : σ.1 142 (11 * l + 9) = nI g) (h1 : σ.1 142 (11 * l + 1) = nI tr) (hD : t (l * 10 + 3) = nI D) (hB : t (l * 10 + 2) = nI B) (ha : t (l * 10 + 4) = nI a) (hb : t (l * 10 + 5) = nI b) (r1 : a ≤ 9 ∧ b ≤ 9 ∧ can ≤ 99 ∧ e ≤ 9 ∧ g ≤ 100) (r2 : W ≤ 99 ∧ D ≤ 9 ∧ tr + N ≤ 3 ∧ B ≤ 99) : ∀ (m i : Nat) (σ' : pm_H) (p : Int64) (w4 w7 : Value), i + m = N → sameQ σ σ' → DyM nl V σ' → ∃ σ2, pm_run (xe (d + 33)) pg_X12_empty (78, [.ref 133, .int (nI l), .int (nI (11 * l)), .long p, w4, .int (nI W), .int (nI (tr + i)), w7], [], σ') = some (some (.int (emL (vE V o1 W a b can e g D tr B) m i p).toInt32), σ2) ∧ sameQ σ σ2 ∧ DyM nl V σ2
  | 0, i, σ', p, w4, w7, ei, s, hDy => by
    have hE' := EnM_Q hE s
    refine ⟨σ', ?_, s, hDy⟩
    rw [sg_X12_empty_78, ck_n _ (by omega) (by omega), nI_clamp (by omega), hE'.2.2.1 1 (by omega), hr1, if_neg (nI_nlt (by omega) (by omega))]
    rfl
  | m + 1, i, σ', p, w4, w7, ei, s, hDy => by
    have e138 := s.1.1 138 rfl
    have e142 := s.1.1 142 rfl
    have hl6 : l < 6 := by omega
    have hE' := EnM_Q hE s
    obtain ⟨n1, n2⟩ := nowX_N (a := a) (b := b) (c := can) (e := e) (g := g + i) (w := 0) r1.1 r1.2.1 r1.2.2.1 (by omega) (by omega) (by omega)
    rw [sg_X12_empty_78, ck_n _ (by omega) (by omega), nI_clamp (by omega), hE'.2.2.1 1 (by omega), hr1, if_pos (nI_lt (by omega) (by omega)), r_canOf (d + 32) _ rw_now hl6, e138, e142, hcan]
    simp only [pm_cl_some, Option.toList_some, Option.toList_none, List.cons_append, List.nil_append]
    rw [sg_X12_empty_100, nI_add, nI_add, nI_add, ck_n _ (by omega) (by omega), ck_n _ (by omega) (by omega), ck_n _ (by omega) (by omega), nI_clamp (by omega), nI_clamp (by omega), nI_clamp (by omega), e142, h7, h9, h1, nI_add, pk_sub (show tr ≤ g + (tr + i) by omega), show g + (tr + i) - tr = g + i by omega, r_nowBy (d + 32) _ hl6, hE'.2.1 l hl 4 (by omega), hE'.2.1 l hl 5 (by omega), ha, hb, n1]
    simp only [pm_cl_some, Option.toList_some, Option.toList_none, List.cons_append, List.nil_append]
    obtain ⟨σ4, v1, v2, v3, v4⟩ := r_oddsBy d (σ := σ') (l := l) (W := W) (I := nowI a b can e (g + i) 0) (D := D) (T := tr + i) (C := 0) (B := B) hE'.2.2.2.1 hDy.1 (by rw [hE'.2.2.2.2.1.1]; exact hE.2.2.2.2.2.1) hDy.2 hl6 (by rw [hE'.2.1 l hl 3 (by omega)]; exact hD) (by rw [hE'.2.1 l hl 2 (by omega)]; exact hB) ⟨r2.1, n2, r2.2.1, by omega, by omega, r2.2.2.2⟩
    rw [sg_X12_empty_134, v1, hE'.2.2.2.2.1.1]
    simp only [pm_cl_some, Option.toList_some, Option.toList_none, List.cons_append, List.nil_append]
    rw [sg_X12_empty_150, nI_add, Nat.add_assoc]
    exact r_em_l d hE hl hs hr1 hcan h7 h9 h1 hD hB ha hb r1 r2 m (i + 1) σ4 _ _ _ (by omega) (sameQ_tr s (rO_Q v2)) ⟨v3, v4⟩
theorem b_empty (d : Nat) {k sz n a e nl : Nat} {T R : Nat → Nat} {V : Nat → LV → Int32} {σ : pm_H} (hk : k ≤ 4900) (h : RelB k sz T R n a e σ) (w : LW nl V σ) (x : Int32) : Both (d + 6) (d + 34) 259 261 [.int x] σ (PostW k sz T R nl V) := by
  have hh := h
  obtain ⟨⟨h1, h2, h3, h4, h5, h6, h7⟩, ⟨h8, h9⟩, -⟩ := hh
  have hz : (th0 σ).1 133 22 = nI sz := by rw [th_f _ (by decide)]; exact h2
  unfold Both
  rw [en_X11_empty, sg_X11_empty_0]
  rcases ix_cases x h3 with hx | ⟨l, hl, rfl⟩
  · refine ⟨.int (-1), σ, th0 σ, ?_, ?_, PostW_B (PostB_th h) w⟩
    · rw [q_in_n (d + 3) _ h1 hx]
      simp only [pm_cl_some, Option.toList_some, Option.toList_none, List.cons_append, List.nil_append]
      rw [sg_X11_empty_5, if_pos n00]
    · rw [en_X12_empty, sg_X12_empty_0, show pm_wI σ 133 0 (nI 0) = th0 σ from rfl, r_isL_n _ _ hz hx]
      simp only [pm_cl_some, Option.toList_some, Option.toList_none, List.cons_append, List.nil_append]
      rw [sg_X12_empty_10, if_pos n00]
  · have hsz : 0 < sz := by omega
    have hT := h5 hsz
    rw [q_in_y (d + 2) _ h1 h3 hl]
    simp only [pm_cl_some, Option.toList_some, Option.toList_none, List.cons_append, List.nil_append]
    rw [sg_X11_empty_5]
    have hrf : ∀ σ1, sameX σ (th0 σ1) → xe (d + 34) 261 [.ref 133, .int (nI l)] σ1 = pm_run (xe (d + 33)) pg_X12_empty (22, [.ref 133, .int (nI l), .null, .null, .null, .null, .null, .null], [.int (b32 (s_in (σ.1 5) (σ.1 24) l))], th0 σ1) := by
      intro σ1 sX
      rw [en_X12_empty, sg_X12_empty_0, show pm_wI σ1 133 0 (nI 0) = th0 σ1 from rfl, r_isL_y _ _ (show (th0 σ1).1 133 22 = nI sz from (sX.1.2 22 (by omega)).trans h2) h3 hl]
      simp only [pm_cl_some, Option.toList_some, Option.toList_none, List.cons_append, List.nil_append]
      rw [sg_X12_empty_10, if_neg n10, r_isOn _ _ rw_now (show l < 6 by omega), sX.1.1 140 rfl, sX.1.1 142 rfl, relM_in (t := σ.1 4) (T := T) (h7 1 (by omega)) h8 hl]
      simp only [pm_cl_some, Option.toList_some, Option.toList_none, List.cons_append, List.nil_append]
    cases hin : s_in (σ.1 5) (σ.1 24) l with
    | false =>
      refine ⟨.int (-1), σ, th0 σ, by rw [if_pos bf0], ?_, PostW_B (PostB_th h) w⟩
      rw [hrf σ (sameX_th (sameX_rfl σ)), hin, sg_X12_empty_22, if_pos bf0]
    | true =>
      rw [hin] at hrf
      rw [if_neg bt0]
      obtain ⟨F, f1, f2, ⟨g1, g2⟩, ⟨b1, b2, b3, b4, b5⟩, g3, g4, g5⟩ := lif_N h3 (by omega) hT h8 hl
      obtain ⟨⟨u1, u2, u3, u4, u5, u6⟩, ⟨u7, u8, u9, u10, u11, u12⟩, u13⟩ := hT.2.2.2 l hl
      obtain ⟨i1, i2, i3⟩ := (in_N h3 hT f1 f2 hl).mp hin
      obtain ⟨rd, hrd, rd1, rd2⟩ := relM_rd h8 hl hin
      have hl6 : l < 6 := by omega
      obtain ⟨⟨w0, w1, w2, w3, w4⟩, wk⟩ := h8.2.2.1
      obtain ⟨⟨a0, a1, a2, a3, a4⟩, a5, a6, a7, a8, a9⟩ := wk l hl
      have hbst : ∃ z : Int32, σ.1 24 (53 + rd * 6 + l) = z ∧ σ.1 142 (11 * l + 2 + rd) = z := by
        rcases (show rd = 0 ∨ rd = 1 by omega) with rfl | rfl
        · exact ⟨_, rfl, by rw [show 11 * l + 2 + 0 = 11 * l + 2 by omega, a2, show 53 + 0 * 6 + l = 53 + l by omega]⟩
        · exact ⟨_, rfl, by rw [show 11 * l + 2 + 1 = 11 * l + 3 by omega, a3, show 53 + 1 * 6 + l = 59 + l by omega]⟩
      obtain ⟨z, z1, z2⟩ := hbst
      have hq5 : pm_run (xe (d + 4)) pg_X8_emptyParts (5, [.ref 76, .ref 23, .int (nI l), .null, .null, .null], [.int (σ.1 24 0), .ref 23], σ) = pm_run (xe (d + 4)) pg_X8_emptyParts (17, [.ref 76, .ref 23, .int (nI l), .null, .null, .null], [.int z], σ) := by
        rw [sg_X8_emptyParts_5, rd1]
        rcases (show rd = 0 ∨ rd = 1 by omega) with rfl | rfl
        · rw [if_pos n00, q_best (d + 3) σ st_23 (show 0 < 2 by omega) hl6, z1]
          simp only [pm_cl_some, Option.toList_some, Option.toList_none, List.cons_append, List.nil_append]
        · rw [if_neg n10, q_best (d + 3) σ st_23 (show 1 < 2 by omega) hl6, z1]
          simp only [pm_cl_some, Option.toList_some, Option.toList_none, List.cons_append, List.nil_append]
      rw [en_X8_emptyParts, sg_X8_emptyParts_0, q_round (d + 3) σ st_23]
      simp only [pm_cl_some, Option.toList_some, Option.toList_none, List.cons_append, List.nil_append]
      rw [hq5, sg_X8_emptyParts_17]
      have hrf2 : ∀ σ1, sameX σ (th0 σ1) → xe (d + 34) 261 [.ref 133, .int (nI l)] σ1 = (if 0 < z then some (some (.int (nI 0)), th0 σ1) else pm_cl (xe (d + 33) 189 [.ref 133, .ref 142, .int (nI l)] (th0 σ1)) (fun r => pm_run (xe (d + 33)) pg_X12_empty (66, [.ref 133, .int (nI l), .int (nI (11 * l)), .long (1000000000 : Int64), .null, .null, .null, .null], r.1.toList ++ [], r.2))) := by
        intro σ1 sX
        rw [hrf σ1 sX, sg_X12_empty_22, if_neg bt0, ck_n _ (by omega) (by omega), nI_clamp (show 66 < 2 ^ 31 by omega), sX.1.1 142 rfl, rd2, pk_mul, nI_add, nI_add, ck_n _ (by omega) (by omega), nI_clamp (by omega), z2]
      by_cases cz : 0 < z
      · refine ⟨.int (nI 0), σ, th0 σ, ?_, ?_, PostW_B (PostB_th h) w⟩
        · rw [if_pos cz]
          simp only [pm_cl_some, Option.toList_some, Option.toList_none, List.cons_append, List.nil_append]
          rw [sg_X11_empty_20]
        · rw [hrf2 σ (sameX_th (sameX_rfl σ)), if_pos cz]
      · obtain ⟨lo, lo1, lo2, lo3⟩ := rel_lo99 h3 hT h8 hl hin
        have hR1 := hT.2.2.1
        have r5 : σ.1 5 1 = nI (R 1) := hT.2.1 1 (by omega)
        rw [if_neg cz, w_take (d + 2) σ mo_77 st_23 hl6]
        simp only [pm_cl_some, Option.toList_some, Option.toList_none, List.cons_append, List.nil_append]
        rw [sg_X8_emptyParts_31, wI_wC, wC_at, wC_wC, q_triesLeft (d + 2) _ st_23 hl6, wC_ne _ _ (show (5 : Nat) ≠ 77 by decide), wC_ne _ _ (show (23 + 1 : Nat) ≠ 77 by decide), r5, f1 (11 + l) (by omega) (by omega), pk_sub (by omega)]
        simp only [pm_cl_some, Option.toList_some, Option.toList_none, List.cons_append, List.nil_append]
        rw [sg_X8_emptyParts_48]
        obtain ⟨σ1, j1, j2⟩ := q_em_l d (l := l) (W := lo) (can := if F 0 = 0 then T (l * 10 + 0) else T (l * 10 + 1)) (e := F (29 + l)) (g := F (35 + l)) (tr := F (11 + l)) (D := T (l * 10 + 3)) (B := T (l * 10 + 2)) (a := T (l * 10 + 4)) (b := T (l * 10 + 5)) (N := R 1 - F (11 + l)) (V := V) (nl := nl) (σ := σ) w.2.1 w.2.2.2.2.2.2.1 hl6 lo1 (g5 3 (by omega)) (g5 2 (by omega)) (g5 4 (by omega)) (g5 5 (by omega)) (by omega) (by omega) (R 1 - F (11 + l)) 0 (pm_wC σ 77 (upd (g_take (σ.1 4) (σ.1 (23 + 1)) (σ.1 77) l) 6 (nI 0))) (1000000000 : Int64) .null (by omega) (sameX_w (sameX_rfl σ) _ ⟨rfl, rfl⟩ (by decide)) (by
          rw [wC_at]
          exact ⟨rfl, g3, f1 _ (by omega) (by omega), f1 _ (by omega) (by omega), f1 _ (by omega) (by omega), rfl⟩)
        rw [j1]
        simp only [pm_cl_some, Option.toList_some, Option.toList_none, List.cons_append, List.nil_append]
        rw [sg_X11_empty_20]
        have sX : sameX σ (th0 σ1) := sameX_th j2
        obtain ⟨hB, hW'⟩ := sameX_R sX h w
        have e142 := sX.1.1 142 rfl
        have e138 := sX.1.1 138 rfl
        have hE3 := EnM_X (EnM_of h w) sX
        have hcan : m_can ((th0 σ1).1 138) ((th0 σ1).1 142) l = nI (if F 0 = 0 then T (l * 10 + 0) else T (l * 10 + 1)) := by
          unfold m_can
          rw [e138, e142, w0, h6 l hl 0 (by omega), h6 l hl 1 (by omega)]
          exact g3
        obtain ⟨σ5, v1, v2, v3⟩ := r_em_l d (N := R 1 - F (11 + l)) (W := lo) (tr := F (11 + l)) (can := if F 0 = 0 then T (l * 10 + 0) else T (l * 10 + 1)) hE3 hl h3 (by rw [r5, show F (11 + l) + (R 1 - F (11 + l)) = R 1 by omega]) hcan (by rw [e142, a7]; exact f1 _ (by omega) (by omega)) (by rw [e142, a9]; exact f1 _ (by omega) (by omega)) (by rw [e142, a1]; exact f1 _ (by omega) (by omega)) (g5 3 (by omega)) (g5 2 (by omega)) (g5 4 (by omega)) (g5 5 (by omega)) (by omega) (by omega) (R 1 - F (11 + l)) 0 (th0 σ1) (1000000000 : Int64) .null .null (by omega) (sameQ_rfl _) ⟨hW'.2.2.2.1, hW'.2.2.2.2.1⟩
        refine ⟨_, σ1, σ5, rfl, ?_, PostW_Q hB hW' v2 v3.1 v3.2⟩
        rw [hrf2 σ1 sX, if_neg cz, r_least (d + 32) _ rw_now hl6, e142, least_eq h8.2.2.1 hl, lo1]
        simp only [pm_cl_some, Option.toList_some, Option.toList_none, List.cons_append, List.nil_append]
        rw [sg_X12_empty_66, nI_add, ck_n _ (by omega) (by omega), nI_clamp (by omega), e142, a1, f1 (11 + l) (by omega) (by omega)]
        exact v1

/-! ===== advice ===== -/
def advL (mw : Nat → Int32) : Nat → Nat → Int32 → Int32 → Int32 × Int32
  | 0, _, b, m => (b, m)
  | k + 1, w, b, m => if b = -1 ∨ m < mw w then advL mw k (w + 1) (nI w) (mw w) else advL mw k (w + 1) b m
theorem if_or {α : Type} {p q : Prop} [Decidable p] [Decidable q] {x y : α} : (if p then x else if q then x else y) = if p ∨ q then x else y := by
  by_cases h : p
  · rw [if_pos h, if_pos (Or.inl h)]
  · rw [if_neg h]
    by_cases h2 : q
    · rw [if_pos h2, if_pos (Or.inr h2)]
    · rw [if_neg h2, if_neg (fun e => e.elim h h2)]
theorem lft_ask {R1 sz l : Nat} {r f : Nat → Int32} {v : Int32} (hs : sz ≤ 6) (hl : l < 6) : lft R1 sz r (upd f (5 + l) v) = lft R1 sz r f := by
  unfold lft
  refine sumN_same sz (fun j hj => ?_)
  unfold lfX s_in
  simp (disch := omega) only [up_ne]
def mwF (V : Nat → LV → Int32) (o1 o2 : Int32) (sz l : Nat) (t r f : Nat → Int32) (w : Nat) : Int32 := (sM (vlF V o2 sz t r) l (esA V o1 sz t r (upd f (5 + l) (nI w))) / (1000000000 : Int64)).toInt32
theorem EnX_X {sz nl : Nat} {V : Nat → LV → Int32} {t r : Nat → Int32} {o1 o2 : Int32} {σ σ' : pm_H} (h : EnX sz nl V t r o1 o2 σ) (s : sameX σ σ') : EnX sz nl V t r o1 o2 σ' := by
  obtain ⟨h1, h2, h3, ⟨c1, c2, c3⟩, ⟨h5, h6⟩, h7, h8⟩ := h
  have g12 := s.2.1.1 12 rfl
  exact ⟨by rw [s.1.1 3 rfl]; exact h1, by rw [s.1.1 4 rfl]; exact h2, by rw [s.1.1 5 rfl]; exact h3, ⟨c1, by rw [g12]; exact c2, fun j hj => by
    obtain ⟨cc, a1, a2, a3, a4⟩ := c3 j hj
    exact ⟨cc, by rw [s.2.1.1 20 rfl]; exact a1, a2, by rw [s.2.1.1 (14 + j) (kpL_lw (by omega))]; exact a3, a4⟩⟩, ⟨by rw [g12]; exact h5, by rw [g12]; exact h6⟩, h7, h8⟩
theorem q_adv_l (d : Nat) {k sz n a e nl l L : Nat} {T R : Nat → Nat} {V : Nat → LV → Int32} {σ : pm_H} (hk : k ≤ 5000) (h : RelB k sz T R n a e σ) (w : LW nl V σ) (hl : l < sz) (hL : L ≤ 99) (hlf : lft (R 1) sz (σ.1 5) (σ.1 24) ≤ 12) (y : Int32) : ∀ (m i : Nat) (σ' : pm_H) (b q : Int32) (w3 w8 : Value), i + m = L + 1 → 1 ≤ i → sameX σ σ' → ∃ σ2, pm_run (xe (d + 19)) pg_X11_advice (61, [.ref 0, .int (nI l), .int y, w3, .int (nI L), .int b, .int q, .int (nI i), w8], [], σ') = some (some (.int (if y = 0 then (advL (mwF V (σ.1 12 6) (σ.1 12 7) sz l (σ.1 4) (σ.1 5) (σ.1 24)) m i b q).1 else (advL (mwF V (σ.1 12 6) (σ.1 12 7) sz l (σ.1 4) (σ.1 5) (σ.1 24)) m i b q).2)), σ2) ∧ sameX σ σ2
  | 0, i, σ', b, q, w3, w8, ei, hi, s => by
    refine ⟨σ', ?_, s⟩
    rw [sg_X11_advice_61, if_pos (nI_lt (by omega) (by omega))]
    show (if y = 0 then some (some (Value.int b), σ') else some (some (Value.int q), σ')) = some (some (Value.int (if y = 0 then b else q)), σ')
    split <;> rfl
  | m + 1, i, σ', b, q, w3, w8, ei, hi, s => by
    have hh := h
    obtain ⟨⟨h1, h2, h3, h4, h5, h6, h7⟩, ⟨h8, h9⟩, -⟩ := hh
    have hT := h5 (by omega)
    rw [sg_X11_advice_61, if_neg (nI_nlt (by omega) (by omega)), q_become (d + 18) σ' st_25 st_23]
    simp only [pm_cl_some, Option.toList_some, Option.toList_none, List.cons_append, List.nil_append]
    rw [sg_X11_advice_79, w_ask (d + 18) _ st_25 (show l < 6 by omega), wC_at, wC_wC]
    simp only [pm_cl_some, Option.toList_some, Option.toList_none, List.cons_append, List.nil_append]
    rw [sg_X11_advice_89]
    have s1 : sameX σ (pm_wC σ' (25 + 1) (upd (va_cpy (σ'.1 (23 + 1)) (σ'.1 (25 + 1)) 0 0 71) (5 + l) (nI i))) := sameX_w s _ ⟨rfl, rfl⟩ (by decide)
    have hMa := relM_ask (l := l) (v := i) h3 h8 hl hi (by omega)
    obtain ⟨σ2, i1, i2, i3⟩ := q_go d (c := 25) (f := upd (σ.1 24) (5 + l) (nI i)) h3 hk hT (Or.inr rfl) (EnX_X (EnX_of h w) s1) (by rw [wC_at]; exact E_up (E_cpy (fun j _ => by show σ'.1 24 j = _; rw [s.1.1 24 rfl])) _ rfl) ⟨by obtain ⟨F, f1, f2, -⟩ := hMa.1; exact ⟨F, f1, f2⟩, hMa.2.1⟩ (by rw [lft_ask h3 (by omega)]; exact hlf) (nI 1 <<< (nI l &&& 31)) true
    rw [show xe (d + 19) 213 [.ref 41, .ref 25, .int (nI 1 <<< (nI l &&& 31)), .int (nI 1)] (pm_wC σ' (25 + 1) (upd (va_cpy (σ'.1 (23 + 1)) (σ'.1 (25 + 1)) 0 0 71) (5 + l) (nI i))) = some (none, σ2) from i1]
    simp only [pm_cl_some, Option.toList_some, Option.toList_none, List.cons_append, List.nil_append]
    rw [sg_X11_advice_104, en_X0_meanOf, sg_X0_meanOf_0, ck_n _ (show l < 6 by omega) (by omega), nI_clamp (by omega), (i3 l hl (wb_1 l (by omega))).1 rfl]
    simp only [pm_cl_some, Option.toList_some, Option.toList_none, List.cons_append, List.nil_append]
    rw [sg_X11_advice_112, if_or, nI_add]
    have s2 : sameX σ σ2 := sameX_tr s1 (FRG_X i2)
    show ∃ σ3, (if b = -1 ∨ q < mwF V (σ.1 12 6) (σ.1 12 7) sz l (σ.1 4) (σ.1 5) (σ.1 24) i then _ else _) = _ ∧ _
    unfold advL
    by_cases c : b = -1 ∨ q < mwF V (σ.1 12 6) (σ.1 12 7) sz l (σ.1 4) (σ.1 5) (σ.1 24) i
    · rw [if_pos c, if_pos c]
      exact q_adv_l d hk h w hl hL hlf y m (i + 1) σ2 _ _ _ _ (by omega) (by omega) s2
    · rw [if_neg c, if_neg c]
      exact q_adv_l d hk h w hl hL hlf y m (i + 1) σ2 _ _ _ _ (by omega) (by omega) s2
theorem r_adv_l (d : Nat) {k sz n nl l lo L : Nat} {T R : Nat → Nat} {V : Nat → LV → Int32} {t r f : Nat → Int32} {lg : Nat → Nat → Int32} {o1 o2 : Int32} {σ : pm_H} (hk : k ≤ 5000) (hs : sz ≤ 6) (hT : okT sz t r T R) (hE : EnM sz nl V t r o1 o2 σ) (hM : relM k sz r (R 1) f lg (σ.1 142) n) (hl : l < sz) (hL : L + 1 = min (lo + 10) 100) (hlo : lo ≤ 99) (hlf : lft (R 1) sz r f ≤ 12) (y : Int32) : ∀ (m i : Nat) (σ' : pm_H) (b q : Int32) (w7 : Value), i + m = L + 1 → 1 ≤ i → sameQ σ σ' → DyM nl V σ' → ∃ σ2, pm_run (xe (d + 48)) pg_X12_advice (72, [.ref 133, .int (nI l), .int y, .int b, .int q, .int (nI lo), .int (nI i), w7], [], σ') = some (some (.int (if y = 0 then (advL (mwF V o1 o2 sz l t r f) m i b q).1 else (advL (mwF V o1 o2 sz l t r f) m i b q).2)), σ2) ∧ sameQ σ σ2 ∧ DyM nl V σ2
  | 0, i, σ', b, q, w7, ei, hi, s, hD => by
    refine ⟨σ', ?_, s, hD⟩
    rw [sg_X12_advice_72, nI_add]
    have fin : (if y = 0 then some (some (Value.int b), σ') else some (some (Value.int q), σ')) = some (some (Value.int (if y = 0 then b else q)), σ') := by split <;> rfl
    by_cases c : i < lo + 10
    · rw [if_pos (nI_lt c (by omega)), if_pos (nI_lt (by omega) (by omega))]
      exact fin
    · rw [if_neg (nI_nlt (by omega) (by omega))]
      exact fin
  | m + 1, i, σ', b, q, w7, ei, hi, s, hD => by
    have e142 := s.1.1 142 rfl
    obtain ⟨hn36, f4, w70⟩ := relM_n hs hT.2.2.1.2.1 hM
    rw [sg_X12_advice_72, nI_add, if_pos (nI_lt (by omega) (by omega)), if_neg (nI_nlt (by omega) (by omega)), r_copy (d + 47) σ' rw_now rw_trial (by decide) hn36 (by rw [e142]; exact w70)]
    simp only [pm_cl_some, Option.toList_some, Option.toList_none, List.cons_append, List.nil_append]
    rw [sg_X12_advice_100, pk_mul, nI_add, ck_n _ (by omega) (by omega), nI_clamp (by omega), wI_wC, wC_at, wC_wC]
    have s1 : sameQ σ (pm_wC σ' 143 (upd (u_copy (σ'.1 142) (σ'.1 143) n) (11 * l + 0) (nI i))) := sameQ_tr s (sameQ_w σ' _ ⟨rfl, rfl⟩ (by decide))
    have hMa := relM_ask (l := l) (v := i) hs (relM_ext (w' := u_copy (σ'.1 142) (σ'.1 143) n) hs (fun _ _ => rfl) (fun j hj => by rw [← e142]; exact if_pos hj) (fun _ _ _ _ => rfl) hM) hl hi (by omega)
    obtain ⟨σ2, i1, i2, i3, i4⟩ := r_layOn d (n := n) (f := upd f (5 + l) (nI i)) (lg := lg) (σ := pm_wC σ' 143 (upd (u_copy (σ'.1 142) (σ'.1 143) n) (11 * l + 0) (nI i))) hs hk hT (EnM_Q hE s1) ⟨fun p hp => by rw [wC_ne _ _ (show (145 : Nat) ≠ 143 by decide)]; exact hD.1 p hp, by rw [LM_same (wC_ne _ _ (by decide))]; exact hD.2⟩ (by rw [wC_at]; exact hMa) (by rw [lft_ask hs (by omega)]; exact hlf)
    rw [i1]
    simp only [pm_cl_some, Option.toList_some, Option.toList_none, List.cons_append, List.nil_append]
    rw [sg_X12_advice_121, ck_n _ (show l < 6 by omega) (by omega), nI_clamp (by omega), (i4 l hl).1, if_or, nI_add]
    have s2 := sameQ_tr s1 (FRM_Q i2)
    show ∃ σ3, (if b = -1 ∨ q < mwF V o1 o2 sz l t r f i then _ else _) = _ ∧ _
    unfold advL
    by_cases c : b = -1 ∨ q < mwF V o1 o2 sz l t r f i
    · rw [if_pos c, if_pos c]
      exact r_adv_l d hk hs hT hE hM hl hL hlo hlf y m (i + 1) σ2 _ _ _ (by omega) (by omega) s2 i3
    · rw [if_neg c, if_neg c]
      exact r_adv_l d hk hs hT hE hM hl hL hlo hlf y m (i + 1) σ2 _ _ _ (by omega) (by omega) s2 i3
theorem b_advice (d : Nat) {k sz n a e nl : Nat} {T R : Nat → Nat} {V : Nat → LV → Int32} {σ : pm_H} (hk : k ≤ 5000) (h : RelB k sz T R n a e σ) (w : LW nl V σ) (x y : Int32) : Both (d + 20) (d + 49) 228 230 [.int x, .int y] σ (PostW k sz T R nl V) := by
  have hh := h
  obtain ⟨⟨h1, h2, h3, h4, h5, h6, h7⟩, ⟨h8, h9⟩, -⟩ := hh
  have hz : (th0 σ).1 133 22 = nI sz := by rw [th_f _ (by decide)]; exact h2
  unfold Both
  rw [en_X11_advice, sg_X11_advice_0]
  rcases ix_cases x h3 with hx | ⟨l, hl, rfl⟩
  · refine ⟨.int (-2000000), σ, th0 σ, ?_, ?_, PostW_B (PostB_th h) w⟩
    · rw [q_in_n (d + 17) _ h1 hx]
      simp only [pm_cl_some, Option.toList_some, Option.toList_none, List.cons_append, List.nil_append]
      rw [sg_X11_advice_5, if_pos n00]
    · rw [en_X12_advice, sg_X12_advice_0, show pm_wI σ 133 0 (nI 0) = th0 σ from rfl, r_isL_n _ _ hz hx]
      simp only [pm_cl_some, Option.toList_some, Option.toList_none, List.cons_append, List.nil_append]
      rw [sg_X12_advice_10, if_pos n00]
  · have hsz : 0 < sz := by omega
    have hT := h5 hsz
    have hlf := lft_le (r := σ.1 5) (f := σ.1 24) h4 h3
    rw [q_in_y (d + 16) _ h1 h3 hl]
    simp only [pm_cl_some, Option.toList_some, Option.toList_none, List.cons_append, List.nil_append]
    rw [sg_X11_advice_5]
    have hrf : ∀ σ1, sameX σ (th0 σ1) → xe (d + 49) 230 [.ref 133, .int (nI l), .int y] σ1 = pm_run (xe (d + 48)) pg_X12_advice (22, [.ref 133, .int (nI l), .int y, .null, .null, .null, .null, .null], [.int (b32 (s_in (σ.1 5) (σ.1 24) l))], th0 σ1) := by
      intro σ1 sX
      rw [en_X12_advice, sg_X12_advice_0, show pm_wI σ1 133 0 (nI 0) = th0 σ1 from rfl, r_isL_y _ _ (show (th0 σ1).1 133 22 = nI sz from (sX.1.2 22 (by omega)).trans h2) h3 hl]
      simp only [pm_cl_some, Option.toList_some, Option.toList_none, List.cons_append, List.nil_append]
      rw [sg_X12_advice_10, if_neg n10, r_isOn _ _ rw_now (show l < 6 by omega), sX.1.1 140 rfl, sX.1.1 142 rfl, relM_in (t := σ.1 4) (T := T) (h7 1 (by omega)) h8 hl]
      simp only [pm_cl_some, Option.toList_some, Option.toList_none, List.cons_append, List.nil_append]
    cases hin : s_in (σ.1 5) (σ.1 24) l with
    | false =>
      refine ⟨.int (-2000000), σ, th0 σ, by rw [if_pos bf0], ?_, PostW_B (PostB_th h) w⟩
      rw [hrf σ (sameX_th (sameX_rfl σ)), hin, sg_X12_advice_22, if_pos bf0]
    | true =>
      rw [hin] at hrf
      rw [if_neg bt0]
      rcases rng_cases y 0 1 (by omega) (by omega) with hy | ⟨i, -, hi, rfl⟩
      · refine ⟨.int (-2000000), σ, th0 σ, ?_, ?_, PostW_B (PostB_th h) w⟩
        · rw [q_np_n _ _ hy]
          simp only [pm_cl_some, Option.toList_some, Option.toList_none, List.cons_append, List.nil_append]
          rw [sg_X11_advice_12, if_neg n10]
        · rw [hrf σ (sameX_th (sameX_rfl σ)), sg_X12_advice_22, if_neg bt0, r_rng_n _ _ (L := 0) (H := 1) (a := 0) (b := 1) (by decide) (by decide) hy]
          simp only [pm_cl_some, Option.toList_some, Option.toList_none, List.cons_append, List.nil_append]
          rw [sg_X12_advice_32, if_pos n00]
      · rw [q_np_y _ _ hi]
        simp only [pm_cl_some, Option.toList_some, Option.toList_none, List.cons_append, List.nil_append]
        rw [sg_X11_advice_12, if_pos n00, q_lf (d + 16) h hsz]
        simp only [pm_cl_some, Option.toList_some, Option.toList_none, List.cons_append, List.nil_append]
        rw [sg_X11_advice_22]
        have hrf2 : ∀ σ1, sameX σ (th0 σ1) → xe (d + 49) 230 [.ref 133, .int (nI l), .int (nI i)] σ1 = pm_run (xe (d + 48)) pg_X12_advice (43, [.ref 133, .int (nI l), .int (nI i), .null, .null, .null, .null, .null], [.int (nI (lft (R 1) sz (σ.1 5) (σ.1 24)))], th0 σ1) := by
          intro σ1 sX
          rw [hrf σ1 sX, sg_X12_advice_22, if_neg bt0, r_rng_y _ _ (L := 0) (H := 1) (a := 0) (b := 1) (by decide) (by decide) (by omega) hi (by omega)]
          simp only [pm_cl_some, Option.toList_some, Option.toList_none, List.cons_append, List.nil_append]
          rw [sg_X12_advice_32, if_neg n10, r_lf (d + 46) h hsz sX.1]
          simp only [pm_cl_some, Option.toList_some, Option.toList_none, List.cons_append, List.nil_append]
        by_cases c8 : 8 < lft (R 1) sz (σ.1 5) (σ.1 24)
        · refine ⟨.int (-2000000), σ, th0 σ, by rw [if_pos (nI_lt c8 (by omega))], ?_, PostW_B (PostB_th h) w⟩
          rw [hrf2 σ (sameX_th (sameX_rfl σ)), sg_X12_advice_43, if_pos (nI_lt c8 (by omega))]
        · obtain ⟨lo, lo1, lo2, lo3⟩ := rel_lo99 h3 hT h8 hl hin
          rw [if_neg (nI_nlt (by omega) (by omega)), q_least (d + 18) σ st_23 (show l < 6 by omega), lo1]
          simp only [pm_cl_some, Option.toList_some, Option.toList_none, List.cons_append, List.nil_append]
          have hL : (if (nI lo + nI 10) - nI 1 < nI 99 then (nI lo + nI 10) - nI 1 else nI 99) = nI (min (lo + 9) 99) := by
            rw [nI_add, pk_sub (by omega)]
            by_cases c : lo + 10 - 1 < 99
            · rw [if_pos (nI_lt c (by omega)), show min (lo + 9) 99 = lo + 10 - 1 by omega]
            · rw [if_neg (nI_nlt (by omega) (by omega)), show min (lo + 9) 99 = 99 by omega]
          rw [sg_X11_advice_38, hL]
          obtain ⟨σ1, i1, i2⟩ := q_adv_l d hk h w hl (L := min (lo + 9) 99) (by omega) (by omega) (nI i) (min (lo + 9) 99 + 1 - lo) lo σ (-1) (nI 0) (.int (nI lo)) .null (by omega) lo2 (sameX_rfl σ)
          have sX : sameX σ (th0 σ1) := sameX_th i2
          obtain ⟨hB, hW'⟩ := sameX_R sX h w
          obtain ⟨σ2, j1, j2, j3⟩ := r_adv_l d hk h3 hT (EnM_X (EnM_of h w) sX) (lg := lgs σ 28) (n := n) (f := σ.1 24) (by rw [sX.1.1 142 rfl]; exact h8) hl (lo := lo) (L := min (lo + 9) 99) (by omega) lo3 (by omega) (nI i) (min (lo + 9) 99 + 1 - lo) lo (th0 σ1) (-1) (nI 0) .null (by omega) lo2 (sameQ_rfl _) ⟨hW'.2.2.2.1, hW'.2.2.2.2.1⟩
          refine ⟨_, σ1, σ2, i1, ?_, PostW_Q hB hW' j2 j3.1 j3.2⟩
          rw [hrf2 σ1 sX, sg_X12_advice_43, if_neg (nI_nlt (by omega) (by omega)), r_least (d + 47) _ rw_now (show l < 6 by omega), sX.1.1 142 rfl, least_eq h8.2.2.1 hl, lo1]
          simp only [pm_cl_some, Option.toList_some, Option.toList_none, List.cons_append, List.nil_append]
          rw [sg_X12_advice_66, j1]

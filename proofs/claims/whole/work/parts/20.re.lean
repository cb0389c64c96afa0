/-! ===== the HALL's text: all items, the reference ===== -/
theorem r_loL (d : Nat) (σ : pm_H) : ∀ w, w < 10 → xe (d + 1) 85 [.int (nI 108), .int (nI w)] σ = some (some (.int (nI (loL w))), σ) := by
  intro w hw
  rw [en_X12_leastOf, sg_X12_leastOf_0]
  rcases (show w = 0 ∨ w = 1 ∨ w = 2 ∨ w = 3 ∨ w = 4 ∨ w = 5 ∨ w = 6 ∨ w = 7 ∨ w = 8 ∨ w = 9 by omega) with rfl | rfl | rfl | rfl | rfl | rfl | rfl | rfl | rfl | rfl <;> rfl
theorem r_hiL (d : Nat) (σ : pm_H) : ∀ w, w < 10 → xe (d + 1) 86 [.int (nI 108), .int (nI w)] σ = some (some (.int (nI (hiL w))), σ) := by
  intro w hw
  rw [en_X12_mostOf, sg_X12_mostOf_0]
  rcases (show w = 0 ∨ w = 1 ∨ w = 2 ∨ w = 3 ∨ w = 4 ∨ w = 5 ∨ w = 6 ∨ w = 7 ∨ w = 8 ∨ w = 9 by omega) with rfl | rfl | rfl | rfl | rfl | rfl | rfl | rfl | rfl | rfl <;> rfl
theorem r_loR (d : Nat) (σ : pm_H) : ∀ w, w < 4 → xe (d + 1) 85 [.int (nI 114), .int (nI w)] σ = some (some (.int (nI (loR w))), σ) := by
  intro w hw
  rw [en_X12_leastOf, sg_X12_leastOf_0]
  rcases (show w = 0 ∨ w = 1 ∨ w = 2 ∨ w = 3 by omega) with rfl | rfl | rfl | rfl <;> rfl
theorem r_hiR (d : Nat) (σ : pm_H) : ∀ w, w < 4 → xe (d + 1) 86 [.int (nI 114), .int (nI w)] σ = some (some (.int (nI (hiR w))), σ) := by
  intro w hw
  rw [en_X12_mostOf, sg_X12_mostOf_0]
  rcases (show w = 0 ∨ w = 1 ∨ w = 2 ∨ w = 3 by omega) with rfl | rfl | rfl | rfl <;> rfl
theorem r_usR (d : Nat) (σ : pm_H) : ∀ w, w < 4 → xe (d + 1) 72 [.int (nI 114), .int (nI w)] σ = some (some (.int (nI (usR w))), σ) := by
  intro w hw
  rw [en_X12_usual, sg_X12_usual_0]
  rcases (show w = 0 ∨ w = 1 ∨ w = 2 ∨ w = 3 by omega) with rfl | rfl | rfl | rfl <;> rfl
theorem r_usL (d : Nat) (σ : pm_H) : ∀ w, w < 10 → xe (d + 1) 72 [.int (nI 108), .int (nI w)] σ = some (some (.int (nI (usL w))), σ) := by
  intro w hw
  rw [en_X12_usual, sg_X12_usual_0, if_neg (by decide), sw_in (ts := [88, 91, 91, 94, 101, 101, 94, 96, 88, 99]) w (show w < 10 by omega) (by decide)]
  rcases (show w = 0 ∨ w = 1 ∨ w = 2 ∨ w = 3 ∨ w = 4 ∨ w = 5 ∨ w = 6 ∨ w = 7 ∨ w = 8 ∨ w = 9 by omega) with rfl | rfl | rfl | rfl | rfl | rfl | rfl | rfl | rfl | rfl
  · exact sg_X12_usual_88
  · exact sg_X12_usual_91
  · exact sg_X12_usual_91
  · exact sg_X12_usual_94
  · exact sg_X12_usual_101
  · exact sg_X12_usual_101
  · exact sg_X12_usual_94
  · exact sg_X12_usual_96
  · exact sg_X12_usual_88
  · exact sg_X12_usual_99
theorem ixn_s : ∀ c, c < 256 → ixn 6 (tkI c) 10 0 = sti c := by decide +kernel
theorem ixn_c : ∀ c, c < 256 → ixn 7 (tkI c) 4 0 = cti c := by decide +kernel
def itmR (X : Nat → Option Nat) (lo hi : Nat → Nat) (b : Nat → Nat) (n : Nat) : Nat → Nat → Nat → (Nat → Nat) → Nat ⊕ ((Nat → Nat) × Nat)
  | 0, p, _, u => .inr (u, p)
  | m + 1, p, s, u => match X (tk b n p) with
    | none => .inr (u, skp b n p)
    | some w => if s / 2 ^ w % 2 = 1 then .inl (skp b n p) else
      match numD b n 2 (skp b n (skp b n p + 1)) with
      | .inl g => .inl g
      | .inr (v, q) => if v < lo w ∨ hi w < v then .inl (q - 1) else itmR X lo hi b n m q (s ||| (1 <<< w)) (upn u w v)
def okJ (σ : pm_H) (c fr N : Nat) (f0 : Nat → Int32) (dp : Int32) (n : Nat) (r : Nat ⊕ ((Nat → Nat) × Nat)) (o : Option pm_R) : Prop := match r with
  | .inl g => g ≤ n ∧ ∃ p' f9, o = some (none, my (pm_wC σ c f9) p' (nI g) dp)
  | .inr (u, q) => q ≤ n ∧ ∃ f9, o = some (none, my (pm_wC σ c f9) q (-1) dp) ∧ (∀ w, w < N → f9 (fr + w) = nI (u w)) ∧ ∀ j, (j < fr ∨ fr + N ≤ j) → f9 j = f0 j
theorem r_plo_s (d : Nat) (σ : pm_H) (t : Int32) : ∀ (k i : Nat), i + k = 10 → pm_run (xe (d + 4)) pg_X12_placeOf (2, [.ref 170, .int t, .int (nI i)], [], σ) = some (some (.int (oi1 (ixn 6 t k i))), σ)
  | 0, i, e => by
    rw [sg_X12_placeOf_s_2, q_slen (d + 2) σ kd_s kd_sv]
    simp only [pm_cl_some, Option.toList_some, Option.toList_none, List.cons_append, List.nil_append]
    rw [sg_X12_placeOf_s_7, if_neg (nI_nlt (by omega) (by omega))]
    rfl
  | k + 1, i, e => by
    obtain ⟨c, c1, c2⟩ := asc_at (j := 6) (n := 10) (by decide +kernel) (show i < 10 by omega)
    rw [sg_X12_placeOf_s_2, q_slen (d + 2) σ kd_s kd_sv]
    simp only [pm_cl_some, Option.toList_some, Option.toList_none, List.cons_append, List.nil_append]
    rw [sg_X12_placeOf_s_7, if_pos (nI_lt (by omega) (by omega)), q_chat d σ kd_s kd_sv (show i < 10 by omega) (by omega) c1 c2]
    simp only [pm_cl_some, Option.toList_some, Option.toList_none, List.cons_append, List.nil_append]
    rw [sg_X12_placeOf_s_15, nI_add]
    unfold ixn
    rw [c2]
    by_cases e2 : nI c = t
    · rw [if_pos e2, if_pos e2]
      rfl
    · rw [if_neg e2, if_neg e2]
      exact r_plo_s d σ t k (i + 1) (by omega)
theorem r_pl_s (d : Nat) (σ : pm_H) {c : Nat} (hc : c ≤ 255) : xe (d + 5) 77 [.ref 170, .int (tkI c)] σ = some (some (.int (oi1 (sti c))), σ) := by
  rw [en_X12_placeOf_s, sg_X12_placeOf_s_0, r_plo_s d σ _ 10 0 (by omega), ixn_s c (by omega)]
theorem r_it_l (d : Nat) {b : Nat → Nat} {n fr : Nat} {f0 : Nat → Int32} {dp : Int32} {σ : pm_H} (hfr : fr + 10 ≤ 60) (h : tpM b n σ) : ∀ (m p s : Nat) (u : Nat → Nat) (f9 : Nat → Int32), pc s + m = 10 + 1 → s < 2 ^ 10 → p ≤ n → (∀ w, w < 10 → f9 (fr + w) = nI (u w)) → (∀ j, (j < fr ∨ fr + 10 ≤ j) → f9 j = f0 j) → okJ σ 139 fr 10 f0 dp n (itmR sti loL hiL b n m p s u) (pm_run (xe (d + 5)) pg_X12_readItems (45, [.ref 133, .int (nI 108), .ref 139, .int (nI fr), .ref 170, .int (nI s), .int (oi1 (sti (tk b n p)))], [], my (pm_wC σ 139 f9) (skp b n p) (-1) dp))
  | 0, p, s, u, f9, e, hs, hp, h1, h2 => by
    have := pc_10 s
    omega
  | m + 1, p, s, u, f9, e, hs, hp, h1, h2 => by
    have hn : n ≤ 240 := h.1.1
    have ht := tpM_w (u := f9) (c := 139) h (by decide) (Or.inr (fun N e => by cases e))
    have htk := tk_le (p := p) h.1
    have hq := skp_le b hp
    rw [sg_X12_readItems_l_45, my_11]
    unfold itmR
    cases hX : sti (tk b n p) with
    | none =>
      rw [show oi1 none = -1 from rfl, if_pos rfl]
      exact ⟨hq, f9, rfl, h1, h2⟩
    | some w =>
      have hw := sti_lt hX
      have hp1 : skp b n p < n := by
        rcases Nat.lt_or_ge (skp b n p) n with q | q
        · exact q
        · rw [show tk b n p = 0 by unfold tk; rw [if_neg (by omega)]] at hX
          cases hX
      rw [show oi1 (some w) = nI w from rfl, if_neg (nI_nm1 (by omega)), if_pos rfl, en_X12_has, sg_X12_has_0, hb_d (by omega) (by omega)]
      show okJ _ _ _ _ _ _ _ (if s / 2 ^ w % 2 = 1 then _ else _) _
      by_cases cb : s / 2 ^ w % 2 = 1
      · rw [cb, if_pos rfl, if_pos rfl]
        simp only [pm_cl_some, Option.toList_some, Option.toList_none, List.cons_append, List.nil_append]
        rw [sg_X12_readItems_l_66, if_neg n10, r_fa0]
        simp only [pm_cl_some, Option.toList_some, Option.toList_none, List.cons_append, List.nil_append]
        rw [sg_X12_readItems_l_73]
        exact ⟨hq, _, f9, rfl⟩
      · obtain ⟨ct1, ct2, ct3, ct4⟩ := ct_L w hw
        have hri := r_ri_l (d + 3) (q := skp b n p) (pl := fr + w) (lo := loL w) (hi := hiL w) (dp := dp) ht hp1 (by omega) ct3 ct4
        have hsq := skp_le b (show skp b n p + 1 ≤ n by omega)
        have hsg := skp_ge b n (skp b n p + 1)
        obtain ⟨nb1, nb2⟩ := numD_b (b := b) hsq
        rw [show s / 2 ^ w % 2 = 0 by omega, if_neg (show ¬ (0 : Nat) = 1 by decide), if_neg (show ¬ nI 0 = nI 1 by decide)]
        simp only [pm_cl_some, Option.toList_some, Option.toList_none, List.cons_append, List.nil_append]
        rw [sg_X12_readItems_l_66, if_pos n00, r_loL (d + 4) _ w hw]
        simp only [pm_cl_some, Option.toList_some, Option.toList_none, List.cons_append, List.nil_append]
        rw [sg_X12_readItems_l_96, r_hiL (d + 4) _ w hw]
        simp only [pm_cl_some, Option.toList_some, Option.toList_none, List.cons_append, List.nil_append]
        rw [sg_X12_readItems_l_102, nI_add, sh1_d _ (by omega), nI_or]
        cases hN : numD b n 2 (skp b n (skp b n p + 1)) with
        | inl g =>
          rw [hN] at hri
          have hg := nb1 g hN
          rw [show xe (d + 5) 87 [.ref 133, .ref 139, .int (nI (fr + w)), .int (nI (loL w)), .int (nI (hiL w))] (my (pm_wC σ 139 f9) (skp b n p) (-1) dp) = _ from hri]
          simp only [pm_cl_some, Option.toList_some, Option.toList_none, List.cons_append, List.nil_append]
          rw [sg_X12_readItems_l_105, my_11, if_neg (nI_nm1 (by omega)), sg_X12_readItems_l_45, if_neg (nI_nm1 (by omega)), my_11, if_neg (nI_nm1 (by omega))]
          exact ⟨hg, g, f9, rfl⟩
        | inr vq =>
          obtain ⟨v, q⟩ := vq
          rw [hN] at hri
          obtain ⟨y1, y2, y3⟩ := nb2 v q hN
          rw [show xe (d + 5) 87 [.ref 133, .ref 139, .int (nI (fr + w)), .int (nI (loL w)), .int (nI (hiL w))] (my (pm_wC σ 139 f9) (skp b n p) (-1) dp) = _ from hri]
          show okJ _ _ _ _ _ _ _ (if v < loL w ∨ hiL w < v then _ else _) _
          by_cases c : v < loL w ∨ hiL w < v
          · rw [if_pos c, if_pos c]
            simp only [pm_cl_some, Option.toList_some, Option.toList_none, List.cons_append, List.nil_append]
            rw [sg_X12_readItems_l_105, my_11, if_neg (nI_nm1 (by omega)), sg_X12_readItems_l_45, if_neg (nI_nm1 (by omega)), my_11, if_neg (nI_nm1 (by omega))]
            exact ⟨by omega, q - 1, f9, rfl⟩
          · rw [if_neg c, if_neg c, wC_at, wC_wC]
            simp only [pm_cl_some, Option.toList_some, Option.toList_none, List.cons_append, List.nil_append]
            have ht' := tpM_w (u := upd f9 (fr + w) (nI v)) (c := 139) h (by decide) (Or.inr (fun N e => by cases e))
            rw [sg_X12_readItems_l_105, my_11, if_pos rfl, r_lk (d + 4) ht' y2]
            simp only [pm_cl_some, Option.toList_some, Option.toList_none, List.cons_append, List.nil_append]
            rw [sg_X12_readItems_l_119, r_pl_s d _ (tk_le h.1)]
            simp only [pm_cl_some, Option.toList_some, Option.toList_none, List.cons_append, List.nil_append]
            rw [sg_X12_readItems_l_122]
            refine r_it_l d hfr h m q (s ||| (1 <<< w)) (upn u w v) (upd f9 (fr + w) (nI v)) (by rw [pc_up (by omega) (by omega) cb]; omega) (Nat.or_lt_two_pow hs (sh_lt hw)) y2 (fun w' hw' => ?_) (fun j hj => ?_)
            · by_cases ew : w' = w
              · subst ew
                rw [up_at, un_at]
              · rw [up_ne _ _ (by omega), un_ne _ _ ew]
                exact h1 w' hw'
            · rw [up_ne _ _ (by omega)]
              exact h2 j hj
theorem r_plo_c (d : Nat) (σ : pm_H) (t : Int32) : ∀ (k i : Nat), i + k = 4 → pm_run (xe (d + 4)) pg_X12_placeOf (2, [.ref 171, .int t, .int (nI i)], [], σ) = some (some (.int (oi1 (ixn 7 t k i))), σ)
  | 0, i, e => by
    rw [sg_X12_placeOf_c_2, q_slen (d + 2) σ kd_c kd_cv]
    simp only [pm_cl_some, Option.toList_some, Option.toList_none, List.cons_append, List.nil_append]
    rw [sg_X12_placeOf_c_7, if_neg (nI_nlt (by omega) (by omega))]
    rfl
  | k + 1, i, e => by
    obtain ⟨c, c1, c2⟩ := asc_at (j := 7) (n := 4) (by decide +kernel) (show i < 4 by omega)
    rw [sg_X12_placeOf_c_2, q_slen (d + 2) σ kd_c kd_cv]
    simp only [pm_cl_some, Option.toList_some, Option.toList_none, List.cons_append, List.nil_append]
    rw [sg_X12_placeOf_c_7, if_pos (nI_lt (by omega) (by omega)), q_chat d σ kd_c kd_cv (show i < 4 by omega) (by omega) c1 c2]
    simp only [pm_cl_some, Option.toList_some, Option.toList_none, List.cons_append, List.nil_append]
    rw [sg_X12_placeOf_c_15, nI_add]
    unfold ixn
    rw [c2]
    by_cases e2 : nI c = t
    · rw [if_pos e2, if_pos e2]
      rfl
    · rw [if_neg e2, if_neg e2]
      exact r_plo_c d σ t k (i + 1) (by omega)
theorem r_pl_c (d : Nat) (σ : pm_H) {c : Nat} (hc : c ≤ 255) : xe (d + 5) 77 [.ref 171, .int (tkI c)] σ = some (some (.int (oi1 (cti c))), σ) := by
  rw [en_X12_placeOf_c, sg_X12_placeOf_c_0, r_plo_c d σ _ 4 0 (by omega), ixn_c c (by omega)]
theorem r_it_r (d : Nat) {b : Nat → Nat} {n fr : Nat} {f0 : Nat → Int32} {dp : Int32} {σ : pm_H} (hfr : fr + 4 ≤ 4) (h : tpM b n σ) : ∀ (m p s : Nat) (u : Nat → Nat) (f9 : Nat → Int32), pc s + m = 4 + 1 → s < 2 ^ 4 → p ≤ n → (∀ w, w < 4 → f9 (fr + w) = nI (u w)) → (∀ j, (j < fr ∨ fr + 4 ≤ j) → f9 j = f0 j) → okJ σ 141 fr 4 f0 dp n (itmR cti loR hiR b n m p s u) (pm_run (xe (d + 5)) pg_X12_readItems (45, [.ref 133, .int (nI 114), .ref 141, .int (nI fr), .ref 171, .int (nI s), .int (oi1 (cti (tk b n p)))], [], my (pm_wC σ 141 f9) (skp b n p) (-1) dp))
  | 0, p, s, u, f9, e, hs, hp, h1, h2 => by
    have := pc_4 (show s < 16 from hs)
    omega
  | m + 1, p, s, u, f9, e, hs, hp, h1, h2 => by
    have hn : n ≤ 240 := h.1.1
    have ht := tpM_w (u := f9) (c := 141) h (by decide) (Or.inr (fun N e => by cases e))
    have htk := tk_le (p := p) h.1
    have hq := skp_le b hp
    rw [sg_X12_readItems_r_45, my_11]
    unfold itmR
    cases hX : cti (tk b n p) with
    | none =>
      rw [show oi1 none = -1 from rfl, if_pos rfl]
      exact ⟨hq, f9, rfl, h1, h2⟩
    | some w =>
      have hw := cti_lt hX
      have hp1 : skp b n p < n := by
        rcases Nat.lt_or_ge (skp b n p) n with q | q
        · exact q
        · rw [show tk b n p = 0 by unfold tk; rw [if_neg (by omega)]] at hX
          cases hX
      rw [show oi1 (some w) = nI w from rfl, if_neg (nI_nm1 (by omega)), if_pos rfl, en_X12_has, sg_X12_has_0, hb_d (by omega) (by omega)]
      show okJ _ _ _ _ _ _ _ (if s / 2 ^ w % 2 = 1 then _ else _) _
      by_cases cb : s / 2 ^ w % 2 = 1
      · rw [cb, if_pos rfl, if_pos rfl]
        simp only [pm_cl_some, Option.toList_some, Option.toList_none, List.cons_append, List.nil_append]
        rw [sg_X12_readItems_r_66, if_neg n10, r_fa0]
        simp only [pm_cl_some, Option.toList_some, Option.toList_none, List.cons_append, List.nil_append]
        rw [sg_X12_readItems_r_73]
        exact ⟨hq, _, f9, rfl⟩
      · obtain ⟨ct1, ct2, ct3, ct4⟩ := ct_R w hw
        have hri := r_ri_r (d + 3) (q := skp b n p) (pl := fr + w) (lo := loR w) (hi := hiR w) (dp := dp) ht hp1 (by omega) ct3 ct4
        have hsq := skp_le b (show skp b n p + 1 ≤ n by omega)
        have hsg := skp_ge b n (skp b n p + 1)
        obtain ⟨nb1, nb2⟩ := numD_b (b := b) hsq
        rw [show s / 2 ^ w % 2 = 0 by omega, if_neg (show ¬ (0 : Nat) = 1 by decide), if_neg (show ¬ nI 0 = nI 1 by decide)]
        simp only [pm_cl_some, Option.toList_some, Option.toList_none, List.cons_append, List.nil_append]
        rw [sg_X12_readItems_r_66, if_pos n00, r_loR (d + 4) _ w hw]
        simp only [pm_cl_some, Option.toList_some, Option.toList_none, List.cons_append, List.nil_append]
        rw [sg_X12_readItems_r_96, r_hiR (d + 4) _ w hw]
        simp only [pm_cl_some, Option.toList_some, Option.toList_none, List.cons_append, List.nil_append]
        rw [sg_X12_readItems_r_102, nI_add, sh1_d _ (by omega), nI_or]
        cases hN : numD b n 2 (skp b n (skp b n p + 1)) with
        | inl g =>
          rw [hN] at hri
          have hg := nb1 g hN
          rw [show xe (d + 5) 87 [.ref 133, .ref 141, .int (nI (fr + w)), .int (nI (loR w)), .int (nI (hiR w))] (my (pm_wC σ 141 f9) (skp b n p) (-1) dp) = _ from hri]
          simp only [pm_cl_some, Option.toList_some, Option.toList_none, List.cons_append, List.nil_append]
          rw [sg_X12_readItems_r_105, my_11, if_neg (nI_nm1 (by omega)), sg_X12_readItems_r_45, if_neg (nI_nm1 (by omega)), my_11, if_neg (nI_nm1 (by omega))]
          exact ⟨hg, g, f9, rfl⟩
        | inr vq =>
          obtain ⟨v, q⟩ := vq
          rw [hN] at hri
          obtain ⟨y1, y2, y3⟩ := nb2 v q hN
          rw [show xe (d + 5) 87 [.ref 133, .ref 141, .int (nI (fr + w)), .int (nI (loR w)), .int (nI (hiR w))] (my (pm_wC σ 141 f9) (skp b n p) (-1) dp) = _ from hri]
          show okJ _ _ _ _ _ _ _ (if v < loR w ∨ hiR w < v then _ else _) _
          by_cases c : v < loR w ∨ hiR w < v
          · rw [if_pos c, if_pos c]
            simp only [pm_cl_some, Option.toList_some, Option.toList_none, List.cons_append, List.nil_append]
            rw [sg_X12_readItems_r_105, my_11, if_neg (nI_nm1 (by omega)), sg_X12_readItems_r_45, if_neg (nI_nm1 (by omega)), my_11, if_neg (nI_nm1 (by omega))]
            exact ⟨by omega, q - 1, f9, rfl⟩
          · rw [if_neg c, if_neg c, wC_at, wC_wC]
            simp only [pm_cl_some, Option.toList_some, Option.toList_none, List.cons_append, List.nil_append]
            have ht' := tpM_w (u := upd f9 (fr + w) (nI v)) (c := 141) h (by decide) (Or.inr (fun N e => by cases e))
            rw [sg_X12_readItems_r_105, my_11, if_pos rfl, r_lk (d + 4) ht' y2]
            simp only [pm_cl_some, Option.toList_some, Option.toList_none, List.cons_append, List.nil_append]
            rw [sg_X12_readItems_r_119, r_pl_c d _ (tk_le h.1)]
            simp only [pm_cl_some, Option.toList_some, Option.toList_none, List.cons_append, List.nil_append]
            rw [sg_X12_readItems_r_122]
            refine r_it_r d hfr h m q (s ||| (1 <<< w)) (upn u w v) (upd f9 (fr + w) (nI v)) (by rw [pc_up (by omega) (by omega) cb]; omega) (Nat.or_lt_two_pow hs (sh_lt hw)) y2 (fun w' hw' => ?_) (fun j hj => ?_)
            · by_cases ew : w' = w
              · subst ew
                rw [up_at, un_at]
              · rw [up_ne _ _ (by omega), un_ne _ _ ew]
                exact h1 w' hw'
            · rw [up_ne _ _ (by omega)]
              exact h2 j hj

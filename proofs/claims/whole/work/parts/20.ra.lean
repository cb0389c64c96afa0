/-! ===== the HALL's text: items, the class ===== -/
def pc (s : Nat) : Nat := s % 2 + s / 2 % 2 + s / 4 % 2 + s / 8 % 2 + s / 16 % 2 + s / 32 % 2 + s / 64 % 2 + s / 128 % 2 + s / 256 % 2 + s / 512 % 2
theorem pc_10 (s : Nat) : pc s ≤ 10 := by
  unfold pc
  omega
theorem pc_4 {s : Nat} (h : s < 16) : pc s ≤ 4 := by
  unfold pc
  omega
theorem pc_tab : ∀ a, a < 32 → ∀ c, c < 32 → ∀ w, w < 10 → (Nat.beq ((32 * a + c) / 2 ^ w % 2) 1 || Nat.beq (pc ((32 * a + c) ||| (1 <<< w))) (pc (32 * a + c) + 1)) = true := by decide +kernel
theorem pc_up {s w : Nat} (hs : s < 1024) (hw : w < 10) (h : ¬ s / 2 ^ w % 2 = 1) : pc (s ||| (1 <<< w)) = pc s + 1 := by
  have e : 32 * (s / 32) + s % 32 = s := Nat.div_add_mod s 32
  have := pc_tab (s / 32) (by omega) (s % 32) (Nat.mod_lt _ (by omega)) w hw
  rw [e, beq_f h] at this
  exact Nat.eq_of_beq_eq_true this
theorem hb_tab : ∀ a, a < 32 → ∀ c, c < 32 → ∀ w, w < 10 → (nI (32 * a + c) >>> (nI w &&& 31)) &&& nI 1 = nI ((32 * a + c) / 2 ^ w % 2) := by decide +kernel
theorem hb_d {s w : Nat} (hs : s < 1024) (hw : w < 10) : (nI s >>> (nI w &&& 31)) &&& nI 1 = nI (s / 2 ^ w % 2) := by
  have e : 32 * (s / 32) + s % 32 = s := Nat.div_add_mod s 32
  have := hb_tab (s / 32) (by omega) (s % 32) (Nat.mod_lt _ (by omega)) w hw
  rw [e] at this
  exact this
theorem sh_lt {w N : Nat} (h : w < N) : 1 <<< w < 2 ^ N := by
  rw [Nat.shiftLeft_eq, Nat.one_mul]
  exact Nat.pow_lt_pow_right (by omega) h
def loL (w : Nat) : Nat := if w = 2 ∨ w = 3 ∨ 6 < w then 1 else 0
def hiL (w : Nat) : Nat := if w < 3 ∨ w = 7 ∨ w = 8 then 99 else 9
def loR (w : Nat) : Nat := if w = 1 ∨ w = 2 then 1 else 0
def hiR (w : Nat) : Nat := if w = 0 then 2 else if w = 1 then 3 else if w = 2 then 5 else 1
theorem ct_L : ∀ w, w < 10 → (pm_ct 2 w = nI (loL w) ∧ pm_ct 3 w = nI (hiL w) ∧ loL w ≤ 99 ∧ hiL w ≤ 99) := by decide
theorem ct_R : ∀ w, w < 4 → (pm_ct 4 w = nI (loR w) ∧ pm_ct 5 w = nI (hiR w) ∧ loR w ≤ 99 ∧ hiR w ≤ 99) := by decide
theorem sti_lt {t w : Nat} (h : sti t = some w) : w < 10 := by
  unfold sti at h
  repeat' split at h
  all_goals first | (injection h with h; omega) | cases h
theorem cti_lt {t w : Nat} (h : cti t = some w) : w < 4 := by
  unfold cti at h
  repeat' split at h
  all_goals first | (injection h with h; omega) | cases h
theorem chr65 : ∀ t, t < 256 → ((nI t).toUInt32 % 65536).toInt32 = nI t := by decide +kernel
def itm (X : Nat → Option Nat) (lo hi : Nat → Nat) (b : Nat → Nat) (n : Nat) : Nat → Nat → Nat → (Nat → Nat) → Nat ⊕ ((Nat → Nat) × Nat)
  | 0, p, _, u => .inr (u, p)
  | m + 1, p, s, u => if tk b n p = 0 ∨ tk b n p = 59 then .inr (u, skp b n p) else
    match X (tk b n p) with
    | none => .inl (skp b n p)
    | some w => if s / 2 ^ w % 2 = 1 then .inl (skp b n p) else
      match numD b n 2 (skp b n (skp b n p + 1)) with
      | .inl g => .inl g
      | .inr (v, q) => if v < lo w ∨ hi w < v then .inl (q - 1) else itm X lo hi b n m q (s ||| (1 <<< w)) (upn u w v)
theorem numD_b {b : Nat → Nat} {n p : Nat} (hp : p ≤ n) : (∀ f, numD b n 2 p = .inl f → f ≤ n) ∧ ∀ v q, numD b n 2 p = .inr (v, q) → p ≤ q ∧ q ≤ n ∧ v < 10000 := by
  unfold numD
  split
  · exact nmf_b 2 p 0 hp (by decide) (by omega)
  · refine ⟨fun f e => ?_, fun v q e => by cases e⟩
    injection e with e
    omega
theorem lx_c {σ : pm_H} {p m c : Nat} {f : Int32} {s u : Nat → Int32} (h1 : c ≠ 1) (h10 : c ≠ 10) (h11 : c ≠ 11) : pm_wC (lx σ p f m s) c u = lx (pm_wC σ c u) p f m s := by
  refine Prod.ext (funext fun q => ?_) rfl
  by_cases h : q = c
  · subst h
    rw [wC_at]
    simp only [lx, h1, h10, h11, if_false]
    rw [wC_at]
  · rw [wC_ne _ _ h]
    simp only [lx]
    rw [wC_ne _ _ (Ne.symm h10), wC_ne _ _ (Ne.symm h1), wC_ne _ _ h]
theorem lx_cc {σ : pm_H} {p m c : Nat} {f : Int32} {s : Nat → Int32} (h1 : c ≠ 1) (h10 : c ≠ 10) (h11 : c ≠ 11) : (lx σ p f m s).1 c = σ.1 c := by
  simp only [lx, h1, h10, h11, if_false]
theorem tpX_w {b : Nat → Nat} {n c : Nat} {σ : pm_H} {u : Nat → Int32} (h : tpX b n σ) (h1 : c ≠ 1) (h2 : c ≠ 2) : tpX b n (pm_wC σ c u) := by
  unfold tpX
  rw [wC_ne _ _ (Ne.symm h1), wC_ne _ _ (Ne.symm h2)]
  exact h
def okIt (σ : pm_H) (c fr N : Nat) (f0 : Nat → Int32) (M : Nat) (S : Nat → Int32) (n : Nat) (r : Nat ⊕ ((Nat → Nat) × Nat)) (o : Option pm_R) : Prop := match r with
  | .inl g => g ≤ n ∧ ∃ p' f8, p' ≤ n ∧ o = some (none, lx (pm_wC σ c f8) p' (nI g) M S)
  | .inr (u, q) => q ≤ n ∧ ∃ f8, o = some (none, lx (pm_wC σ c f8) q (-1) M S) ∧ (∀ w, w < N → f8 (fr + w) = nI (u w)) ∧ ∀ j, (j < fr ∨ fr + N ≤ j) → f8 j = f0 j
theorem q_it_l (d : Nat) {b : Nat → Nat} {n M fr : Nat} {S f0 : Nat → Int32} {σ : pm_H} (hfr : fr + 10 ≤ 60) (h : tpX b n σ) : ∀ (m k p s : Nat) (u : Nat → Nat) (f8 : Nat → Int32) (w8 w9 w10 : Value), k + m = 10 + 1 → pc s = k → s < 2 ^ 10 → p ≤ n → (∀ w, w < 10 → f8 (fr + w) = nI (u w)) → (∀ j, (j < fr ∨ fr + 10 ≤ j) → f8 j = f0 j) → okIt σ 8 fr 10 f0 M S n (itm sti loL hiL b n m p s u) (pm_run (xe (d + 4)) pg_X2_readItems (6, [.ref 6, .ref 170, .ref 162, .ref 163, .ref 8, .int (nI fr), .int (nI s), .int (nI k), w8, w9, w10], [], lx (pm_wC σ 8 f8) p (-1) M S))
  | 0, k, p, s, u, f8, w8, w9, w10, e, hk, hs, hp, h1, h2 => by
    have := pc_10 s
    omega
  | m + 1, k, p, s, u, f8, w8, w9, w10, e, hk, hs, hp, h1, h2 => by
    have hn := h.1
    have ht := tpX_w (u := f8) (c := 8) h (by decide) (by decide)
    have hok := tpX_b h
    have htk := tk_le (p := p) hok
    have hq := skp_le b hp
    rw [sg_X2_readItems_l_6, q_slen (d + 2) _ kd_s kd_sv]
    simp only [pm_cl_some, Option.toList_some, Option.toList_none, List.cons_append, List.nil_append]
    rw [sg_X2_readItems_l_12, if_neg (nI_nlt (by omega) (by omega)), q_lk (d + 3) ht hp]
    simp only [pm_cl_some, Option.toList_some, Option.toList_none, List.cons_append, List.nil_append]
    rw [sg_X2_readItems_l_22, chr65 _ (by omega)]
    unfold itm
    by_cases c0 : tk b n p = 0
    · rw [c0, if_pos n00, if_pos (Or.inl rfl)]
      exact ⟨hq, f8, rfl, h1, h2⟩
    rw [if_neg (nI_ne0 (by omega) (by omega))]
    by_cases c59 : tk b n p = 59
    · rw [c59, if_pos rfl, if_pos (Or.inr rfl)]
      exact ⟨hq, f8, rfl, h1, h2⟩
    rw [if_neg (fun e => c59 ((nI_eq (by omega) (by omega)).mp e)), if_neg (fun e => e.elim c0 c59), q_ixs d _ htk]
    simp only [pm_cl_some, Option.toList_some, Option.toList_none, List.cons_append, List.nil_append]
    rw [sg_X2_readItems_l_44, lx_12]
    cases hX : sti (tk b n p) with
    | none =>
      rw [show oi1 none = -1 from rfl, if_pos (by decide), q_fa0]
      simp only [pm_cl_some, Option.toList_some, Option.toList_none, List.cons_append, List.nil_append]
      rw [sg_X2_readItems_l_75]
      exact ⟨hq, _, f8, hq, rfl⟩
    | some w =>
      have hw := sti_lt hX
      have hp1 : skp b n p < n := by
        rcases Nat.lt_or_ge (skp b n p) n with q | q
        · exact q
        · exact absurd (show tk b n p = 0 by unfold tk; rw [if_neg (by omega)]) c0
      rw [show oi1 (some w) = nI w from rfl, if_neg (nI_pos (by omega)), hb_d (by omega) (by omega)]
      show okIt _ _ _ _ _ _ _ _ (if s / 2 ^ w % 2 = 1 then _ else _) _
      by_cases cb : s / 2 ^ w % 2 = 1
      · rw [cb, if_neg n10, if_pos rfl, q_fa0]
        simp only [pm_cl_some, Option.toList_some, Option.toList_none, List.cons_append, List.nil_append]
        rw [sg_X2_readItems_l_75]
        exact ⟨hq, _, f8, hq, rfl⟩
      · rw [show s / 2 ^ w % 2 = 0 by omega, if_pos n00, if_neg (by omega), nI_add, lx_p]
        have hnum := q_num (d + 2) (m := M) (s := S) (D := 2) ht (show skp b n p + 1 ≤ n by omega) (by omega) (by omega)
        have hsq := skp_le b (show skp b n p + 1 ≤ n by omega)
        have hsg := skp_ge b n (skp b n p + 1)
        obtain ⟨nb1, nb2⟩ := numD_b (b := b) hsq
        obtain ⟨ct1, ct2, ct3, ct4⟩ := ct_L w hw
        cases hN : numD b n 2 (skp b n (skp b n p + 1)) with
        | inl g =>
          rw [hN] at hnum
          have hg := nb1 g hN
          obtain ⟨v, hv⟩ := hnum
          rw [hv]
          simp only [pm_cl_some, Option.toList_some, Option.toList_none, List.cons_append, List.nil_append]
          rw [sg_X2_readItems_l_106, ck_n _ (by omega) (by omega), ck_n _ (by omega) (by omega)]
          have fin : ∀ x : Value, pm_cl (xe (d + 4) 54 [.ref 1] (lx (pm_wC σ 8 f8) g (nI g) M S)) (fun r => pm_run (xe (d + 4)) pg_X2_readItems (149, [.ref 6, .ref 170, .ref 162, .ref 163, .ref 8, .int (nI fr), .int (nI s ||| (nI 1 <<< (nI w &&& 31))), .int (nI k), .int (nI (tk b n p)), .int (nI w), .int v], r.1.toList ++ [], r.2)) = some (none, lx (pm_wC σ 8 f8) g (nI g) M S) := by
            intro _
            rw [q_fl1 (d + 3) (by omega)]
            simp only [pm_cl_some, Option.toList_some, Option.toList_none, List.cons_append, List.nil_append]
            rw [sg_X2_readItems_l_149, if_neg n10]
          have bad : ∀ y : Int32, pm_cl (xe (d + 4) 51 [.ref 1, .int y] (lx (pm_wC σ 8 f8) g (nI g) M S)) (fun r => pm_run (xe (d + 4)) pg_X2_readItems (142, [.ref 6, .ref 170, .ref 162, .ref 163, .ref 8, .int (nI fr), .int (nI s ||| (nI 1 <<< (nI w &&& 31))), .int (nI k), .int (nI (tk b n p)), .int (nI w), .int v], r.1.toList ++ [], r.2)) = some (none, lx (pm_wC σ 8 f8) g (nI g) M S) := by
            intro y
            rw [q_fa1 (d + 3) y (by omega)]
            simp only [pm_cl_some, Option.toList_some, Option.toList_none, List.cons_append, List.nil_append]
            rw [sg_X2_readItems_l_142, fin .null]
          rw [bad, fin .null, ite_self, ite_self]
          exact ⟨hg, g, f8, hg, rfl⟩
        | inr vq =>
          obtain ⟨v, q⟩ := vq
          rw [hN] at hnum
          obtain ⟨y1, y2, y3⟩ := nb2 v q hN
          have hnum' : xe (d + 4) 52 [.ref 1, .int (nI 2)] (lx (pm_wC σ 8 f8) (skp b n p + 1) (-1) M S) = some (some (.int (nI v)), lx (pm_wC σ 8 f8) q (-1) M S) := hnum
          rw [hnum']
          simp only [pm_cl_some, Option.toList_some, Option.toList_none, List.cons_append, List.nil_append]
          rw [sg_X2_readItems_l_106, ck_n _ (by omega) (by omega), ck_n _ (by omega) (by omega), nI_clamp (show w < 2 ^ 31 by omega), ct1, ct2, lx_12, pk_sub (show 1 ≤ q by omega)]
          show okIt _ _ _ _ _ _ _ _ (if v < loL w ∨ hiL w < v then _ else _) _
          have bad : pm_cl (xe (d + 4) 51 [.ref 1, .int (nI (q - 1))] (lx (pm_wC σ 8 f8) q (-1) M S)) (fun r => pm_run (xe (d + 4)) pg_X2_readItems (142, [.ref 6, .ref 170, .ref 162, .ref 163, .ref 8, .int (nI fr), .int (nI s ||| (nI 1 <<< (nI w &&& 31))), .int (nI k), .int (nI (tk b n p)), .int (nI w), .int (nI v)], r.1.toList ++ [], r.2)) = some (none, lx (pm_wC σ 8 f8) q (nI (q - 1)) M S) := by
            rw [q_fa0]
            simp only [pm_cl_some, Option.toList_some, Option.toList_none, List.cons_append, List.nil_append]
            rw [sg_X2_readItems_l_142, q_fl1 (d + 3) (by omega)]
            simp only [pm_cl_some, Option.toList_some, Option.toList_none, List.cons_append, List.nil_append]
            rw [sg_X2_readItems_l_149, if_neg n10]
          by_cases c1 : v < loL w
          · rw [if_pos (nI_lt c1 (by omega)), if_pos (Or.inl c1), bad]
            exact ⟨by omega, q, f8, y2, rfl⟩
          rw [if_neg (nI_nlt (by omega) (by omega))]
          by_cases c2 : hiL w < v
          · rw [if_pos (nI_lt c2 (by omega)), if_pos (Or.inr c2), bad]
            exact ⟨by omega, q, f8, y2, rfl⟩
          rw [if_neg (nI_nlt (by omega) (by omega)), if_neg (fun e => e.elim c1 c2), q_fl0]
          simp only [pm_cl_some, Option.toList_some, Option.toList_none, List.cons_append, List.nil_append]
          rw [sg_X2_readItems_l_149, if_pos n00, nI_add, ck_n _ (by omega) (by omega), nI_clamp (by omega), nI_add, sh1_d _ (by omega), nI_or, wI_wC, lx_c (by decide) (by decide) (by decide), lx_cc (by decide) (by decide) (by decide), wC_at, wC_wC]
          refine q_it_l d hfr h m (k + 1) q (s ||| (1 <<< w)) (upn u w v) (upd f8 (fr + w) (nI v)) _ _ _ (by omega) (by rw [pc_up (by omega) (by omega) cb, hk]) (Nat.or_lt_two_pow hs (sh_lt hw)) y2 (fun w' hw' => ?_) (fun j hj => ?_)
          · by_cases ew : w' = w
            · subst ew
              rw [up_at, un_at]
            · rw [up_ne _ _ (by omega), un_ne _ _ ew]
              exact h1 w' hw'
          · rw [up_ne _ _ (by omega)]
            exact h2 j hj
theorem q_it_r (d : Nat) {b : Nat → Nat} {n M fr : Nat} {S f0 : Nat → Int32} {σ : pm_H} (hfr : fr + 4 ≤ 4) (h : tpX b n σ) : ∀ (m k p s : Nat) (u : Nat → Nat) (f8 : Nat → Int32) (w8 w9 w10 : Value), k + m = 4 + 1 → pc s = k → s < 2 ^ 4 → p ≤ n → (∀ w, w < 4 → f8 (fr + w) = nI (u w)) → (∀ j, (j < fr ∨ fr + 4 ≤ j) → f8 j = f0 j) → okIt σ 9 fr 4 f0 M S n (itm cti loR hiR b n m p s u) (pm_run (xe (d + 4)) pg_X2_readItems (6, [.ref 6, .ref 171, .ref 164, .ref 165, .ref 9, .int (nI fr), .int (nI s), .int (nI k), w8, w9, w10], [], lx (pm_wC σ 9 f8) p (-1) M S))
  | 0, k, p, s, u, f8, w8, w9, w10, e, hk, hs, hp, h1, h2 => by
    have := pc_4 (show s < 16 from hs)
    omega
  | m + 1, k, p, s, u, f8, w8, w9, w10, e, hk, hs, hp, h1, h2 => by
    have hn := h.1
    have ht := tpX_w (u := f8) (c := 9) h (by decide) (by decide)
    have hok := tpX_b h
    have htk := tk_le (p := p) hok
    have hq := skp_le b hp
    rw [sg_X2_readItems_r_6, q_slen (d + 2) _ kd_c kd_cv]
    simp only [pm_cl_some, Option.toList_some, Option.toList_none, List.cons_append, List.nil_append]
    rw [sg_X2_readItems_r_12, if_neg (nI_nlt (by omega) (by omega)), q_lk (d + 3) ht hp]
    simp only [pm_cl_some, Option.toList_some, Option.toList_none, List.cons_append, List.nil_append]
    rw [sg_X2_readItems_r_22, chr65 _ (by omega)]
    unfold itm
    by_cases c0 : tk b n p = 0
    · rw [c0, if_pos n00, if_pos (Or.inl rfl)]
      exact ⟨hq, f8, rfl, h1, h2⟩
    rw [if_neg (nI_ne0 (by omega) (by omega))]
    by_cases c59 : tk b n p = 59
    · rw [c59, if_pos rfl, if_pos (Or.inr rfl)]
      exact ⟨hq, f8, rfl, h1, h2⟩
    rw [if_neg (fun e => c59 ((nI_eq (by omega) (by omega)).mp e)), if_neg (fun e => e.elim c0 c59), q_ixr d _ htk]
    simp only [pm_cl_some, Option.toList_some, Option.toList_none, List.cons_append, List.nil_append]
    rw [sg_X2_readItems_r_44, lx_12]
    cases hX : cti (tk b n p) with
    | none =>
      rw [show oi1 none = -1 from rfl, if_pos (by decide), q_fa0]
      simp only [pm_cl_some, Option.toList_some, Option.toList_none, List.cons_append, List.nil_append]
      rw [sg_X2_readItems_r_75]
      exact ⟨hq, _, f8, hq, rfl⟩
    | some w =>
      have hw := cti_lt hX
      have hp1 : skp b n p < n := by
        rcases Nat.lt_or_ge (skp b n p) n with q | q
        · exact q
        · exact absurd (show tk b n p = 0 by unfold tk; rw [if_neg (by omega)]) c0
      rw [show oi1 (some w) = nI w from rfl, if_neg (nI_pos (by omega)), hb_d (by omega) (by omega)]
      show okIt _ _ _ _ _ _ _ _ (if s / 2 ^ w % 2 = 1 then _ else _) _
      by_cases cb : s / 2 ^ w % 2 = 1
      · rw [cb, if_neg n10, if_pos rfl, q_fa0]
        simp only [pm_cl_some, Option.toList_some, Option.toList_none, List.cons_append, List.nil_append]
        rw [sg_X2_readItems_r_75]
        exact ⟨hq, _, f8, hq, rfl⟩
      · rw [show s / 2 ^ w % 2 = 0 by omega, if_pos n00, if_neg (by omega), nI_add, lx_p]
        have hnum := q_num (d + 2) (m := M) (s := S) (D := 2) ht (show skp b n p + 1 ≤ n by omega) (by omega) (by omega)
        have hsq := skp_le b (show skp b n p + 1 ≤ n by omega)
        have hsg := skp_ge b n (skp b n p + 1)
        obtain ⟨nb1, nb2⟩ := numD_b (b := b) hsq
        obtain ⟨ct1, ct2, ct3, ct4⟩ := ct_R w hw
        cases hN : numD b n 2 (skp b n (skp b n p + 1)) with
        | inl g =>
          rw [hN] at hnum
          have hg := nb1 g hN
          obtain ⟨v, hv⟩ := hnum
          rw [hv]
          simp only [pm_cl_some, Option.toList_some, Option.toList_none, List.cons_append, List.nil_append]
          rw [sg_X2_readItems_r_106, ck_n _ (by omega) (by omega), ck_n _ (by omega) (by omega)]
          have fin : ∀ x : Value, pm_cl (xe (d + 4) 54 [.ref 1] (lx (pm_wC σ 9 f8) g (nI g) M S)) (fun r => pm_run (xe (d + 4)) pg_X2_readItems (149, [.ref 6, .ref 171, .ref 164, .ref 165, .ref 9, .int (nI fr), .int (nI s ||| (nI 1 <<< (nI w &&& 31))), .int (nI k), .int (nI (tk b n p)), .int (nI w), .int v], r.1.toList ++ [], r.2)) = some (none, lx (pm_wC σ 9 f8) g (nI g) M S) := by
            intro _
            rw [q_fl1 (d + 3) (by omega)]
            simp only [pm_cl_some, Option.toList_some, Option.toList_none, List.cons_append, List.nil_append]
            rw [sg_X2_readItems_r_149, if_neg n10]
          have bad : ∀ y : Int32, pm_cl (xe (d + 4) 51 [.ref 1, .int y] (lx (pm_wC σ 9 f8) g (nI g) M S)) (fun r => pm_run (xe (d + 4)) pg_X2_readItems (142, [.ref 6, .ref 171, .ref 164, .ref 165, .ref 9, .int (nI fr), .int (nI s ||| (nI 1 <<< (nI w &&& 31))), .int (nI k), .int (nI (tk b n p)), .int (nI w), .int v], r.1.toList ++ [], r.2)) = some (none, lx (pm_wC σ 9 f8) g (nI g) M S) := by
            intro y
            rw [q_fa1 (d + 3) y (by omega)]
            simp only [pm_cl_some, Option.toList_some, Option.toList_none, List.cons_append, List.nil_append]
            rw [sg_X2_readItems_r_142, fin .null]
          rw [bad, fin .null, ite_self, ite_self]
          exact ⟨hg, g, f8, hg, rfl⟩
        | inr vq =>
          obtain ⟨v, q⟩ := vq
          rw [hN] at hnum
          obtain ⟨y1, y2, y3⟩ := nb2 v q hN
          have hnum' : xe (d + 4) 52 [.ref 1, .int (nI 2)] (lx (pm_wC σ 9 f8) (skp b n p + 1) (-1) M S) = some (some (.int (nI v)), lx (pm_wC σ 9 f8) q (-1) M S) := hnum
          rw [hnum']
          simp only [pm_cl_some, Option.toList_some, Option.toList_none, List.cons_append, List.nil_append]
          rw [sg_X2_readItems_r_106, ck_n _ (by omega) (by omega), ck_n _ (by omega) (by omega), nI_clamp (show w < 2 ^ 31 by omega), ct1, ct2, lx_12, pk_sub (show 1 ≤ q by omega)]
          show okIt _ _ _ _ _ _ _ _ (if v < loR w ∨ hiR w < v then _ else _) _
          have bad : pm_cl (xe (d + 4) 51 [.ref 1, .int (nI (q - 1))] (lx (pm_wC σ 9 f8) q (-1) M S)) (fun r => pm_run (xe (d + 4)) pg_X2_readItems (142, [.ref 6, .ref 171, .ref 164, .ref 165, .ref 9, .int (nI fr), .int (nI s ||| (nI 1 <<< (nI w &&& 31))), .int (nI k), .int (nI (tk b n p)), .int (nI w), .int (nI v)], r.1.toList ++ [], r.2)) = some (none, lx (pm_wC σ 9 f8) q (nI (q - 1)) M S) := by
            rw [q_fa0]
            simp only [pm_cl_some, Option.toList_some, Option.toList_none, List.cons_append, List.nil_append]
            rw [sg_X2_readItems_r_142, q_fl1 (d + 3) (by omega)]
            simp only [pm_cl_some, Option.toList_some, Option.toList_none, List.cons_append, List.nil_append]
            rw [sg_X2_readItems_r_149, if_neg n10]
          by_cases c1 : v < loR w
          · rw [if_pos (nI_lt c1 (by omega)), if_pos (Or.inl c1), bad]
            exact ⟨by omega, q, f8, y2, rfl⟩
          rw [if_neg (nI_nlt (by omega) (by omega))]
          by_cases c2 : hiR w < v
          · rw [if_pos (nI_lt c2 (by omega)), if_pos (Or.inr c2), bad]
            exact ⟨by omega, q, f8, y2, rfl⟩
          rw [if_neg (nI_nlt (by omega) (by omega)), if_neg (fun e => e.elim c1 c2), q_fl0]
          simp only [pm_cl_some, Option.toList_some, Option.toList_none, List.cons_append, List.nil_append]
          rw [sg_X2_readItems_r_149, if_pos n00, nI_add, ck_n _ (by omega) (by omega), nI_clamp (by omega), nI_add, sh1_d _ (by omega), nI_or, wI_wC, lx_c (by decide) (by decide) (by decide), lx_cc (by decide) (by decide) (by decide), wC_at, wC_wC]
          refine q_it_r d hfr h m (k + 1) q (s ||| (1 <<< w)) (upn u w v) (upd f8 (fr + w) (nI v)) _ _ _ (by omega) (by rw [pc_up (by omega) (by omega) cb, hk]) (Nat.or_lt_two_pow hs (sh_lt hw)) y2 (fun w' hw' => ?_) (fun j hj => ?_)
          · by_cases ew : w' = w
            · subst ew
              rw [up_at, un_at]
            · rw [up_ne _ _ (by omega), un_ne _ _ ew]
              exact h1 w' hw'
          · rw [up_ne _ _ (by omega)]
            exact h2 j hj

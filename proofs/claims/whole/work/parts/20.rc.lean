/-! ===== the HALL's text: the whole, the class ===== -/
theorem itm_e {X : Nat → Option Nat} {lo hi : Nat → Nat} {b : Nat → Nat} {n N : Nat} (hX : ∀ t w, X t = some w → w < N) (hN : N ≤ 10) (hpc : ∀ s, s < 2 ^ N → pc s ≤ N) : ∀ (m p s : Nat) (u : Nat → Nat), p ≤ n → s < 2 ^ N → pc s + m = N + 1 → ∀ u' q, itm X lo hi b n m p s u = .inr (u', q) → tk b n q = 0 ∨ tk b n q = 59
  | 0, p, s, u, hp, hs, hm, u', q, e => by
    have := hpc s hs
    omega
  | m + 1, p, s, u, hp, hs, hm, u', q, e => by
    have hq := skp_le b hp
    unfold itm at e
    by_cases c : tk b n p = 0 ∨ tk b n p = 59
    · rw [if_pos c] at e
      injection e with e
      injection e with e1 e2
      rw [← e2, tk_skp]
      exact c
    · rw [if_neg c] at e
      cases hXX : X (tk b n p) with
      | none =>
        rw [hXX] at e
        cases e
      | some w =>
        rw [hXX] at e
        have hw := hX _ w hXX
        have e' : (if s / 2 ^ w % 2 = 1 then Sum.inl (skp b n p) else match numD b n 2 (skp b n (skp b n p + 1)) with
          | .inl g => .inl g
          | .inr (v, q) => if v < lo w ∨ hi w < v then .inl (q - 1) else itm X lo hi b n m q (s ||| (1 <<< w)) (upn u w v)) = .inr (u', q) := e
        by_cases cb : s / 2 ^ w % 2 = 1
        · rw [if_pos cb] at e'
          cases e'
        · rw [if_neg cb] at e'
          have hp1 : skp b n p < n := by
            rcases Nat.lt_or_ge (skp b n p) n with q | q
            · exact q
            · exact absurd (Or.inl (show tk b n p = 0 by unfold tk; rw [if_neg (by omega)])) c
          have hsq := skp_le b (show skp b n p + 1 ≤ n by omega)
          obtain ⟨nb1, nb2⟩ := numD_b (b := b) hsq
          cases hNN : numD b n 2 (skp b n (skp b n p + 1)) with
          | inl g =>
            rw [hNN] at e'
            cases e'
          | inr vq =>
            obtain ⟨v, q0⟩ := vq
            rw [hNN] at e'
            obtain ⟨y1, y2, y3⟩ := nb2 v q0 hNN
            have e2 : (if v < lo w ∨ hi w < v then Sum.inl (q0 - 1) else itm X lo hi b n m q0 (s ||| (1 <<< w)) (upn u w v)) = .inr (u', q) := e'
            by_cases cr : v < lo w ∨ hi w < v
            · rw [if_pos cr] at e2
              cases e2
            · rw [if_neg cr] at e2
              have h1024 : s < 1024 := Nat.lt_of_lt_of_le hs (Nat.pow_le_pow_right (by omega) hN)
              exact itm_e hX hN hpc m q0 _ _ y2 (Nat.or_lt_two_pow hs (sh_lt hw)) (by rw [pc_up h1024 (by omega) cb]; omega) u' q e2
theorem hcl_e {b : Nat → Nat} {n p q : Nat} {st st' : HSt} (hp : p ≤ n) (e : hcl b n p st = .inr (st', q)) : p + 1 ≤ q ∧ q ≤ n ∧ (tk b n q = 0 ∨ tk b n q = 59) := by
  have hg := skp_ge b n p
  have hp1 : tk b n p ≠ 0 → skp b n p < n := fun c0 => by
    rcases Nat.lt_or_ge (skp b n p) n with q | q
    · exact q
    · exact absurd (show tk b n p = 0 by unfold tk; rw [if_neg (by omega)]) c0
  unfold hcl at e
  by_cases c1 : tk b n p = 108 ∧ st.1 < 6
  · rw [if_pos c1] at e
    have hlt := hp1 (by omega)
    cases hI : itm sti loL hiL b n 11 (skp b n p + 1) 0 usL with
    | inl g =>
      rw [hI] at e
      cases e
    | inr uq =>
      obtain ⟨u, q0⟩ := uq
      rw [hI] at e
      injection e with e
      injection e with e1 e2
      subst e2
      have a1 := itm_b 11 _ _ _ (show skp b n p + 1 ≤ n by omega) u q0 hI
      exact ⟨by omega, a1.2, itm_e (N := 10) (fun t w => sti_lt) (by omega) (fun s _ => pc_10 s) 11 _ 0 _ (show skp b n p + 1 ≤ n by omega) (by decide) (by decide) u q0 hI⟩
  · rw [if_neg c1] at e
    by_cases c2 : tk b n p = 114 ∧ st.2.2.1 = false
    · rw [if_pos c2] at e
      have hlt := hp1 (by omega)
      cases hI : itm cti loR hiR b n 5 (skp b n p + 1) 0 usR with
      | inl g =>
        rw [hI] at e
        cases e
      | inr uq =>
        obtain ⟨u, q0⟩ := uq
        rw [hI] at e
        injection e with e
        injection e with e1 e2
        subst e2
        have a1 := itm_b 5 _ _ _ (show skp b n p + 1 ≤ n by omega) u q0 hI
        exact ⟨by omega, a1.2, itm_e (N := 4) (fun t w => cti_lt) (by omega) (fun s hs => pc_4 hs) 5 _ 0 _ (show skp b n p + 1 ≤ n by omega) (by decide) (by decide) u q0 hI⟩
    · rw [if_neg c2] at e
      cases e
def okR (σ : pm_H) (M : Nat) (S : Nat → Int32) (n : Nat) (r : Nat ⊕ HSt) (o : Option pm_R) : Prop := match r with
  | .inl g => g ≤ n ∧ ∃ σ'' p', ((∀ c, c < 6 ∨ 9 < c → σ''.1 c = σ.1 c) ∧ σ''.2 = σ.2) ∧ o = some (some (.int (nI g)), lx σ'' p' (nI g) M S)
  | .inr st => st.1 ≠ 0 ∧ ∃ σ'' p', HS σ σ'' st ∧ o = some (some (.int (-1)), lx σ'' p' (-1) M S)
theorem q_rd_h (d : Nat) {b : Nat → Nat} {n M : Nat} {S : Nat → Int32} {σ : pm_H} (h : tpX b n σ) : ∀ (m k p : Nat) (σ' : pm_H) (st : HSt), k + m = 121 → 2 * k ≤ p → p ≤ n → HS σ σ' st → okR σ M S n (hal b n m p st) (pm_run (xe (d + 6)) pg_X2_read (21, [.ref 6, .int (nI k)], [], lx σ' p (-1) M S))
  | 0, k, p, σ', st, e, hk, hp, hS => by
    have := h.1
    omega
  | m + 1, k, p, σ', st, e, hk, hp, hS => by
    have hn := h.1
    have hc := q_hcl d (M := M) (S := S) h hp hS
    rw [sg_X2_read_21, if_pos (nI_lt (by omega) (by omega))]
    unfold hal
    cases hH : hcl b n p st with
    | inl g =>
      rw [hH] at hc
      obtain ⟨hg, σ'', p', hp', fr, ho⟩ := hc
      rw [ho]
      simp only [pm_cl_some, Option.toList_some, Option.toList_none, List.cons_append, List.nil_append]
      rw [sg_X2_read_32, q_fl1 (d + 5) (by omega)]
      simp only [pm_cl_some, Option.toList_some, Option.toList_none, List.cons_append, List.nil_append]
      rw [sg_X2_read_39, if_neg n10, q_fa1 (d + 5) _ (by omega)]
      simp only [pm_cl_some, Option.toList_some, Option.toList_none, List.cons_append, List.nil_append]
      rw [sg_X2_read_94, lx_13, ite_self]
      exact ⟨hg, σ'', p', fr, rfl⟩
    | inr sq =>
      obtain ⟨st', q⟩ := sq
      rw [hH] at hc
      obtain ⟨hq, σ'', hS', ho⟩ := hc
      obtain ⟨a1, a2, a3⟩ := hcl_e hp hH
      have ht := tpX_f h hS'.1.1
      have htk := tk_le (p := q) (tpX_b h)
      have hsq := skp_le b hq
      have hsg := skp_ge b n q
      rw [ho]
      simp only [pm_cl_some, Option.toList_some, Option.toList_none, List.cons_append, List.nil_append]
      rw [sg_X2_read_32, q_fl0]
      simp only [pm_cl_some, Option.toList_some, Option.toList_none, List.cons_append, List.nil_append]
      rw [sg_X2_read_39, if_pos n00, q_lk (d + 5) ht hq]
      simp only [pm_cl_some, Option.toList_some, Option.toList_none, List.cons_append, List.nil_append]
      rw [sg_X2_read_49]
      show okR _ _ _ _ (if tk b n q = 0 then (if st'.1 = 0 then .inl (skp b n q) else .inr st') else if tk b n q = 59 then hal b n m (skp b n q + 1) st' else .inl (skp b n q)) _
      rcases a3 with c0 | c59
      · rw [c0, if_pos n00, if_pos rfl, lx_cc (by decide) (by decide) (by decide), hS'.2.1.1, lx_12, q_fa0]
        simp only [pm_cl_some, Option.toList_some, Option.toList_none, List.cons_append, List.nil_append]
        rw [sg_X2_read_94, lx_13, lx_13]
        by_cases cz : st'.1 = 0
        · rw [cz, if_pos n00, if_pos rfl]
          exact ⟨hsq, σ'', _, hS'.1, rfl⟩
        · rw [if_neg (nI_ne0 (by omega) (by have := hS'.2.1.2; omega)), if_neg cz]
          exact ⟨cz, σ'', _, hS', rfl⟩
      · have hlt : skp b n q < n := by
          rcases Nat.lt_or_ge (skp b n q) n with q' | q'
          · exact q'
          · exact absurd c59 (by unfold tk; rw [if_neg (by omega)]; omega)
        rw [c59, if_neg (show ¬ (59 : Nat) = 0 by decide), if_pos (show (59 : Nat) = 59 from rfl), if_neg (show ¬ nI 59 = 0 by decide), q_exy (d + 4) ht hsq (by rw [tk_skp]; exact c59)]
        simp only [pm_cl_some, Option.toList_some, Option.toList_none, List.cons_append, List.nil_append]
        rw [sg_X2_read_64, nI_add, skp_skp]
        exact q_rd_h d h m (k + 1) (skp b n q + 1) σ'' st' (by omega) (by omega) (by omega) hS'
theorem q_clr_l {ev : pm_Ev} {σ : pm_H} : ∀ (m i : Nat) (u : Nat → Int32), i + m = 6 → (∀ l, l < i → ∀ w, w < 10 → u (l * 10 + w) = nI (usL w)) → ∃ u', pm_run ev pg_X1_clear (20, [.ref 7, .int (nI i)], [], pm_wC σ 8 u) = some (none, pm_wC σ 8 u') ∧ ∀ l, l < 6 → ∀ w, w < 10 → u' (l * 10 + w) = nI (usL w)
  | 0, i, u, e, hu => ⟨u, by rw [sg_X1_clear_20, if_neg (nI_nlt (by omega) (by omega))], fun l hl => hu l (by omega)⟩
  | m + 1, i, u, e, hu => by
    have hcp : ∀ t : Option pm_R, pm_cpk (nI 0) (nI (i * 10)) (nI 10) 10 60 t = t := fun t => if_pos (by
      rw [nI_clamp (by omega), nI_clamp (by omega), nI_clamp (by omega)]
      exact ⟨nI_pos (by omega), nI_pos (by omega), nI_pos (by omega), by omega, by omega⟩)
    rw [sg_X1_clear_20, if_pos (nI_lt (by omega) (by omega)), pk_mul, hcp, nI_clamp (by omega), nI_clamp (by omega), nI_clamp (by omega), wC_at, wC_wC, nI_add]
    refine q_clr_l m (i + 1) _ (by omega) (fun l hl w hw => ?_)
    by_cases el : l = i
    · subst el
      rw [pk_cpy_in (by omega) (by omega), show 0 + (l * 10 + w - l * 10) = w by omega]
      exact us_L w hw
    · rw [pk_cpy_out (by omega)]
      exact hu l (by omega) w hw
theorem nI_ex (x : Int32) : ∃ M, x = nI M := ⟨x.toBitVec.toNat, Int32.toBitVec_inj.mp (by
  show x.toBitVec = BitVec.ofNat 32 x.toBitVec.toNat
  rw [BitVec.ofNat_toNat, BitVec.setWidth_eq])⟩
theorem lx_00 {σ : pm_H} {M : Nat} (h : σ.1 10 2 = nI M) : pm_wI (pm_wI σ 1 2 (nI 0)) 1 3 (-1) = lx σ 0 (-1) M (σ.1 11) := by
  refine Prod.ext (funext fun q => ?_) rfl
  rw [wI_wC, wI_wC, wC_at]
  by_cases h1 : q = 1
  · subst h1
    rw [wC_at]
    rfl
  · rw [wC_ne _ _ h1, wC_ne _ _ h1]
    by_cases h11 : q = 11
    · subst h11
      rfl
    · by_cases h10 : q = 10
      · subst h10
        show _ = upd (σ.1 10) 2 (nI M)
        rw [← h]
        funext j
        by_cases hj : j = 2
        · subst hj
          rw [up_at]
        · rw [up_ne _ _ hj]
      · simp only [lx, h1, h10, h11, if_false]
/-- what the class's reader of HALLS answers -/
theorem q_readHall (d : Nat) {b : Nat → Nat} {n : Nat} {σ : pm_H} (h : tpX b n σ) : ∃ M, σ.1 10 2 = nI M ∧ okR σ M (σ.1 11) n (hal b n 121 0 (0, fun _ => usL, false, usR)) (xe (d + 7) 23 [.ref 6] σ) := by
  obtain ⟨M, hM⟩ := nI_ex (σ.1 10 2)
  refine ⟨M, hM, ?_⟩
  have hcp : ∀ t : Option pm_R, pm_cpk (nI 0) (nI 0) (nI 4) 4 4 t = t := fun t => if_pos (by decide)
  rw [en_X2_read, sg_X2_read_0, en_X10_start, sg_X10_start_0, lx_00 hM]
  simp only [pm_cl_some, Option.toList_some, Option.toList_none, List.cons_append, List.nil_append]
  rw [sg_X2_read_7, en_X1_clear, sg_X1_clear_0, hcp, nI_clamp (by omega), nI_clamp (by omega), sg_X1_clear_18, wI_wC, lx_c (by decide) (by decide) (by decide), lx_c (by decide) (by decide) (by decide)]
  obtain ⟨u', i1, i2⟩ := q_clr_l (ev := xe (d + 5)) (σ := lx (pm_wC (pm_wC σ 7 (upd ((lx σ 0 (-1) M (σ.1 11)).1 7) 2 (nI 0))) 9 (va_cpy (pm_ct 1) ((lx (pm_wC σ 7 (upd ((lx σ 0 (-1) M (σ.1 11)).1 7) 2 (nI 0))) 0 (-1) M (σ.1 11)).1 9) 0 0 4)) 0 (-1) M (σ.1 11)) 6 0 (σ.1 8) (by omega) (fun l hl => by omega)
  rw [show pm_wC (lx (pm_wC (pm_wC σ 7 (upd ((lx σ 0 (-1) M (σ.1 11)).1 7) 2 (nI 0))) 9 (va_cpy (pm_ct 1) ((lx (pm_wC σ 7 (upd ((lx σ 0 (-1) M (σ.1 11)).1 7) 2 (nI 0))) 0 (-1) M (σ.1 11)).1 9) 0 0 4)) 0 (-1) M (σ.1 11)) 8 (σ.1 8) = lx (pm_wC (pm_wC σ 7 (upd ((lx σ 0 (-1) M (σ.1 11)).1 7) 2 (nI 0))) 9 (va_cpy (pm_ct 1) ((lx (pm_wC σ 7 (upd ((lx σ 0 (-1) M (σ.1 11)).1 7) 2 (nI 0))) 0 (-1) M (σ.1 11)).1 9) 0 0 4)) 0 (-1) M (σ.1 11) by
    exact wC_self _ 8] at i1
  rw [i1]
  simp only [pm_cl_some, Option.toList_some, Option.toList_none, List.cons_append, List.nil_append]
  rw [sg_X2_read_14, lx_c (by decide) (by decide) (by decide), wI_wC, lx_c (by decide) (by decide) (by decide)]
  refine q_rd_h d h 121 0 0 _ (0, fun _ => usL, false, usR) (by omega) (by omega) (Nat.zero_le _) ⟨⟨fun c hc => ?_, rfl⟩, ⟨?_, Nat.zero_le _⟩, ?_, fun l hl w hw => ?_, fun w hw => ?_, fun l _ => rfl, fun _ => rfl⟩
  · rw [wC_ne _ _ (by omega), wC_ne _ _ (by omega), wC_ne _ _ (by omega), wC_ne _ _ (by omega)]
  · rw [wC_ne _ _ (by decide), wC_ne _ _ (by decide), wC_ne _ _ (by decide), wC_at, up_at]
  · rw [wC_at, up_at]
    rfl
  · rw [wC_ne _ _ (by decide), wC_at]
    exact i2 l hl w hw
  · rw [wC_ne _ _ (by decide), wC_ne _ _ (by decide), wC_at, pk_cpy_in (by omega) (by omega), show 0 + (w - 0) = w by omega]
    exact us_R w hw

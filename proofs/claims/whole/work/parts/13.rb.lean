/-! ===== waits ===== -/
theorem nx1_some (p : Nat → Bool) (a : Nat → Nat → Bool) : ∀ (k i : Nat) (b : Option Nat), (b ≠ none ∨ ∃ l, i ≤ l ∧ l < i + k ∧ p l = true) → nx1 p a i k b ≠ none
  | 0, i, b, h => by
    rcases h with h | ⟨l, h1, h2, -⟩
    · exact h
    · omega
  | k + 1, i, b, h => by
    unfold nx1
    have fin : ∀ b', (b' ≠ none ∨ ∃ l, i + 1 ≤ l ∧ l < i + 1 + k ∧ p l = true) → nx1 p a (i + 1) k b' ≠ none := fun b' h' => nx1_some p a k (i + 1) b' h'
    cases b with
    | none =>
      cases hp : p i
      · simp only [Bool.false_and, Bool.false_eq_true, if_false]
        refine fin none (Or.inr ?_)
        rcases h with h | ⟨l, h1, h2, h3⟩
        · exact absurd rfl h
        · refine ⟨l, ?_, by omega, h3⟩
          by_cases e : l = i
          · subst e
            rw [hp] at h3
            cases h3
          · omega
      · simp only [Bool.true_and, if_true]
        exact fin (some i) (Or.inl (by simp))
    | some j =>
      refine fin _ (Or.inl ?_)
      show (if p i && a i j then some i else some j) ≠ none
      cases p i && a i j <;> simp
theorem non_f {p : Nat → Bool} {sz l : Nat} (hl : l < sz) (h : p l = true) : non p 0 sz = false := by
  cases hn : non p 0 sz
  · rfl
  · rw [non_all p sz 0 hn l (by omega) (by omega)] at h
    cases h
/-- while someone is in, nothing goes on -/
theorem g_on_id {sz l : Nat} {t r f : Nat → Int32} (hl : l < sz) (h : s_in r f l = true) : g_on sz t r f = f := by
  unfold g_on g_over
  rw [non_f hl h]
  simp only [Bool.false_eq_true, if_false, ite_self]
  rw [non_f hl h]
  simp only [Bool.false_eq_true, if_false, ite_self]
theorem g_made_in {t r f : Nat → Int32} {who l : Nat} (hw : who < 6) (hl : l < 6) (hne : l ≠ who) (good : Bool) : s_in r (g_made t r f who good) l = s_in r f l := by
  have h47 := g_made_47 (t := t) (r := r) (f := f) (who := who) (l := l) hw hl (good := good)
  have h11 : g_made t r f who good (11 + l) = f (11 + l) ∧ g_made t r f who good (17 + l) = f (17 + l) := by
    unfold g_made g_mk2
    cases good with
    | false =>
      simp only [Bool.false_eq_true, if_false]
      constructor <;> simp (disch := omega) only [up_ne]
    | true =>
      simp only [if_true]
      by_cases e0 : upd (upd (upd f 2 (f 2 + (if f 3 = nI who then nI 2 else nI 1))) 1 (f (5 + who))) 3 (nI who) 0 = 0
      · rw [if_pos e0]
        constructor <;> simp (disch := omega) only [up_ne]
      · rw [if_neg e0]
        constructor <;> simp (disch := omega) only [up_ne]
  unfold s_in
  rw [h47, h11.1, h11.2]
theorem lp_waits (dx dm : Nat) {k sz n a e : Nat} {T R : Nat → Nat} {σ : pm_H} (h : RelB k sz T R n a e σ) {l : Nat} (hl : l < sz) : ∀ (m n' k' : Nat) (f g : Nat → Int32) (lg : Nat → Nat → Int32) (v : Value), n' + m = 36 → k' ≤ n' → relM k sz (σ.1 5) (R 1) f lg g n' → s_in (σ.1 5) f l = true → ∃ v' f' g', pm_run (xe (dx + 5)) pg_X11_waits (25, [.ref 0, .int (nI l), .int (nI k'), .int (nI k'), v], [], pm_wC σ 26 f) = some (some (.int v'), pm_wC σ 26 f') ∧ ∀ σ', RR σ σ' → pm_run (xe (dm + 4)) pg_X12_waits (40, [.ref 133, .int (nI l), .int (nI k')], [], pm_wC σ' 143 g) = some (some (.int v'), pm_wC σ' 143 g')
  | 0, n', k', f, g, lg, v, hm, hk, hM, hin => by
    obtain ⟨rd, hrd, h0, -⟩ := relM_rd hM hl hin
    have := (relM_lift (t' := σ.1 138) (r' := σ.1 140) (li := 7) h.1.2.2.1 (h.1.2.2.2.2.1 (by omega)) h.1.2.2.2.2.2.1 h.1.2.2.2.2.2.2 hM hl hin (by omega) h0 hrd).1
    omega
  | m + 1, n', k', f, g, lg, v, hm, hk, hM, hin => by
    have h1 := h.1.1
    have h2 := h.1.2.1
    have h3 := h.1.2.2.1
    have h4 := h.1.2.2.2.1
    have h7 := h.1.2.2.2.2.2.2
    have hsm := relM_sm h3 h4 hM
    have hnx := relM_next (R := R) (h7 1 (by omega)) hM
    cases hq : nx1 (s_in (σ.1 5) f) (s_ah f) 0 sz none with
    | none => exact absurd hq (nx1_some _ _ sz 0 none (Or.inr ⟨l, by omega, by omega, hin⟩))
    | some who =>
      obtain ⟨hw, hwin⟩ := nx1_in _ _ sz 0 none (fun j e => by cases e) who hq
      rw [Nat.zero_add] at hw
      rw [hq] at hnx
      have cls : pm_run (xe (dx + 5)) pg_X11_waits (25, [.ref 0, .int (nI l), .int (nI k'), .int (nI k'), v], [], pm_wC σ 26 f) = pm_run (xe (dx + 5)) pg_X11_waits (38, [.ref 0, .int (nI l), .int (nI k'), .int (nI k'), .null], [.int (nI who)], pm_wC σ 26 f) := by
        rw [sg_X11_waits_25, if_pos (nI_lt (by omega) (by omega)), q_called (dx + 2) _ st_25 (by rw [wC_ne _ _ (by decide)]; exact h1) h3, wC_ne _ _ (by decide), wC_at, hq]
        simp only [pm_cl_some, Option.toList_some, List.cons_append, List.nil_append, oi]
      have nxt : ∀ σ', RR σ σ' → xe (dm + 4) 152 [.ref 133, .ref 143] (pm_wC σ' 143 g) = some (some (.int (nI who)), pm_wC σ' 143 g) := fun σ' hR => by
        rw [r_nextOf (dm + 2) _ rw_trial (by rw [wC_ne _ _ (by decide), hR.1]; exact h2) h3 (by rw [wC_at]; exact hsm), wC_ne _ _ (by decide), wC_at, hR.2.2.1, hnx]
        rfl
      have ref : ∀ σ', RR σ σ' → pm_run (xe (dm + 4)) pg_X12_waits (40, [.ref 133, .int (nI l), .int (nI k')], [], pm_wC σ' 143 g) = pm_run (xe (dm + 4)) pg_X12_waits (48, [.ref 133, .int (nI l), .int (nI k')], [.int (nI who)], pm_wC σ' 143 g) := fun σ' hR => by
        rw [sg_X12_waits_40, nxt σ' hR]
        simp only [pm_cl_some, Option.toList_some, List.cons_append, List.nil_append]
      by_cases c : who = l
      · subst c
        exact ⟨nI k', f, g, by rw [cls, sg_X11_waits_38, if_pos rfl], fun σ' hR => by rw [ref σ' hR, sg_X12_waits_48, if_pos rfl]⟩
      · have hne : ¬ nI who = nI l := fun e => c ((nI_eq (by omega) (by omega)).mp e)
        obtain ⟨rd, hrd, h0, h66⟩ := relM_rd hM hw hwin
        obtain ⟨hn36, -, h70⟩ := relM_n h3 h4 hM
        obtain ⟨hn', hM'⟩ := relM_lift (t' := σ.1 138) (r' := σ.1 140) (li := 7) h3 (h.1.2.2.2.2.1 (by omega)) h.1.2.2.2.2.2.1 h7 hM hw hwin (by omega) h0 hrd
        have hin2 : s_in (σ.1 5) (g_on sz (σ.1 4) (σ.1 5) (g_made (σ.1 4) (σ.1 5) f who true)) l = true := by
          have hx : s_in (σ.1 5) (g_made (σ.1 4) (σ.1 5) f who true) l = true := by rw [g_made_in (by omega) (by omega) (Ne.symm c)]; exact hin
          rw [g_on_id hl hx]
          exact hx
        obtain ⟨v', f', g', ih1, ih2⟩ := lp_waits dx dm h hl m (n' + 1) (k' + 1) _ _ _ (.int (nI who)) (by omega) (by omega) hM' hin2
        refine ⟨v', f', g', ?_, fun σ' hR => ?_⟩
        · have hmk := w_make dx (pm_wC σ 26 f) (c := 25) (who := who) true st_25 h3 (by rw [wC_ne _ _ (by decide)]; exact h1) (by omega)
          simp only [Nat.reduceAdd, wC_at, wC_wC, wC_ne _ _ (show 4 ≠ 26 by decide), wC_ne _ _ (show 5 ≠ 26 by decide), show b32 true = nI 1 from rfl] at hmk
          rw [cls, sg_X11_waits_38, if_neg hne, if_neg (nI_nm1 (by omega)), hmk]
          simp only [pm_cl_some, Option.toList_some, List.cons_append, List.nil_append]
          rw [sg_X11_waits_65, nI_add]
          exact ih1
        · have hlf := r_lifts dm (pm_wC σ' 143 g) (q := 143) (l := who) (li := 7) (n := n') (rd := rd) rw_trial h3 (by rw [wC_ne _ _ (by decide), hR.1]; exact h2) (by omega) (by omega) (by omega) hrd (by rw [wC_at]; exact h70) (by rw [wC_at]; exact h66)
          simp only [wC_at, wC_wC, wC_ne _ _ (show 138 ≠ 143 by decide), wC_ne _ _ (show 140 ≠ 143 by decide), hR.2.1, hR.2.2.1] at hlf
          rw [ref σ' hR, sg_X12_waits_48, if_neg hne, nxt σ' hR]
          simp only [pm_cl_some, Option.toList_some, List.cons_append, List.nil_append]
          rw [sg_X12_waits_65, hlf]
          simp only [pm_cl_some, Option.toList_none, List.nil_append]
          rw [sg_X12_waits_70, nI_add]
          exact ih2 σ' hR
theorem b_waits (d : Nat) {k sz n a e : Nat} {T R : Nat → Nat} {σ : pm_H} (h : RelB k sz T R n a e σ) (x : Int32) : Both (d + 6) (d + 5) 264 265 [.int x] σ (PostB k sz T R σ) := by
  have hh := h
  obtain ⟨⟨h1, h2, h3, h4, h5, h6, h7⟩, ⟨h8, h9⟩, -⟩ := hh
  obtain ⟨hn36, -, hw70⟩ := relM_n h3 h4 h8
  have hz : ∀ f, (th0 (pm_wC σ 26 f)).1 133 22 = nI sz := fun f => by rw [th_f _ (by decide), wC_ne _ _ (by decide)]; exact h2
  unfold Both
  rw [en_X11_waits, sg_X11_waits_0]
  have rr0 : ∀ f, xe (d + 5) 265 [.ref 133, .int x] (pm_wC σ 26 f) = pm_cl (xe (d + 4) 132 [.ref 133, .int x] (th0 (pm_wC σ 26 f))) (fun r => pm_run (xe (d + 4)) pg_X12_waits (10, [.ref 133, .int x, .null], r.1.toList ++ [], r.2)) := fun f => by
    rw [en_X12_waits, sg_X12_waits_0]
    rfl
  have fin : ∀ v f, xe (d + 5) 265 [.ref 133, .int x] (pm_wC σ 26 f) = some (some v, th0 (pm_wC σ 26 f)) → f = σ.1 26 → ∃ σ2, xe (d + 5) 265 [.ref 133, .int x] σ = some (some v, σ2) ∧ PostB k sz T R σ σ2 := fun v f hv hf => by
    subst hf
    rw [wC_self] at hv
    exact ⟨_, hv, PostB_th h⟩
  rcases ix_cases x h3 with hx | ⟨l, hl, rfl⟩
  · obtain ⟨σ2, e1, e2⟩ := fin (.int (-1)) (σ.1 26) (by
      rw [rr0, r_isL_n (d + 3) _ (hz _) hx]
      simp only [pm_cl_some, Option.toList_some, List.cons_append, List.nil_append]
      rw [sg_X12_waits_10, if_pos n00]) rfl
    refine ⟨.int (-1), σ, σ2, ?_, e1, e2⟩
    rw [q_in_n (d + 3) σ h1 hx]
    simp only [pm_cl_some, Option.toList_some, List.cons_append, List.nil_append]
    rw [sg_X11_waits_5, if_pos n00]
  · rw [q_in_y (d + 2) σ h1 h3 hl]
    simp only [pm_cl_some, Option.toList_some, List.cons_append, List.nil_append]
    rw [sg_X11_waits_5]
    have hml := relM_in (t := σ.1 4) (T := T) (h7 1 (by omega)) h8 hl
    have rr1 : ∀ f, xe (d + 5) 265 [.ref 133, .int (nI l)] (pm_wC σ 26 f) = pm_run (xe (d + 4)) pg_X12_waits (22, [.ref 133, .int (nI l), .null], [.int (b32 (s_in (σ.1 5) (σ.1 24) l))], th0 (pm_wC σ 26 f)) := fun f => by
      rw [rr0 f, r_isL_y (d + 3) _ (hz f) h3 hl]
      simp only [pm_cl_some, Option.toList_some, List.cons_append, List.nil_append]
      rw [sg_X12_waits_10, if_neg n10, r_isOn (d + 3) _ rw_now (by omega), (RR_t (σ := σ) f).2.2.1, (RR_t (σ := σ) f).2.2.2, hml]
      simp only [pm_cl_some, Option.toList_some, List.cons_append, List.nil_append]
    cases hil : s_in (σ.1 5) (σ.1 24) l
    · obtain ⟨σ2, e1, e2⟩ := fin (.int (-1)) (σ.1 26) (by rw [rr1, hil, sg_X12_waits_22, if_pos bf0]) rfl
      rw [if_pos bf0]
      exact ⟨_, _, σ2, rfl, e1, e2⟩
    · rw [if_neg bt0, q_become (d + 4) σ st_25 st_23]
      simp only [pm_cl_some, Option.toList_none, List.nil_append, Nat.reduceAdd]
      rw [sg_X11_waits_21]
      have hM0 : relM k sz (σ.1 5) (R 1) (va_cpy (σ.1 24) (σ.1 26) 0 0 71) (lgs σ 28) (u_copy (σ.1 142) (σ.1 143) n) n := relM_ext h3 (fun j hj => cpy71 _ _ hj) (fun j hj => if_pos hj) (fun _ _ _ _ => rfl) h8
      have hin0 : s_in (σ.1 5) (va_cpy (σ.1 24) (σ.1 26) 0 0 71) l = true := by
        unfold s_in at hil ⊢
        rw [cpy71 _ _ (by omega), cpy71 _ _ (by omega), cpy71 _ _ (by omega)]
        exact hil
      obtain ⟨v, f', g', v1, v2⟩ := lp_waits d d h hl (36 - n) n 0 _ _ _ .null (by omega) (by omega) hM0 hin0
      refine ⟨.int v, _, _, v1, ?_, PostB_tr h f' g'⟩
      have hR := RR_t (σ := σ) f'
      have e143 : (th0 (pm_wC σ 26 f')).1 143 = σ.1 143 := by rw [th_ne _ (by decide), wC_ne _ _ (by decide)]
      rw [rr1, hil, sg_X12_waits_22, if_neg bt0, r_copy (d + 3) _ rw_now rw_trial (by decide) hn36 (by rw [hR.2.2.2]; exact hw70), hR.2.2.2, e143]
      simp only [pm_cl_some, Option.toList_none, List.nil_append]
      rw [sg_X12_waits_38]
      exact v2 _ hR

/-! ===== text(0): the reference begins a MEET; both ===== -/
theorem r_tx_126 {ev : pm_Ev} {σ : pm_H} : ∀ (m i : Nat) (u : Nat → Int32) (w1 w2 : Value), i + m = 60 → (∀ j, j < i → u j = σ.1 139 j) → ∃ u', pm_run ev pg_X12_text (126, [.ref 133, w1, w2, .int (nI i)], [], pm_wC σ 138 u) = pm_run ev pg_X12_text (152, [.ref 133, .null, .null, .int (nI 0)], [], pm_wC σ 138 u') ∧ ∀ j, j < 60 → u' j = σ.1 139 j
  | 0, i, u, w1, w2, e, h => ⟨u, by rw [sg_X12_text_126, if_neg (nI_nlt (by omega) (by omega))], fun j hj => h j (by omega)⟩
  | m + 1, i, u, w1, w2, e, h => by
    rw [sg_X12_text_126, if_pos (nI_lt (by omega) (by omega)), ck_n _ (show i < 60 by omega) (by omega), ck_n _ (show i < 60 by omega) (by omega), nI_clamp (by omega), wI_wC, wC_at, wC_wC, wC_ne _ _ (show (139 : Nat) ≠ 138 by decide), nI_add]
    refine r_tx_126 m (i + 1) _ _ _ (by omega) (fun j hj => ?_)
    by_cases c : j = i
    · subst c
      rw [up_at]
    · rw [up_ne _ _ c]
      exact h j (by omega)
theorem r_tx_152 {ev : pm_Ev} {σ : pm_H} : ∀ (m i : Nat) (u : Nat → Int32) (w1 w2 : Value), i + m = 4 → (∀ j, j < i → u j = σ.1 141 j) → ∃ u', pm_run ev pg_X12_text (152, [.ref 133, w1, w2, .int (nI i)], [], pm_wC σ 140 u) = pm_run ev pg_X12_text (177, [.ref 133, .null, .null, .int (nI 0)], [], pm_wC σ 140 u') ∧ ∀ j, j < 4 → u' j = σ.1 141 j
  | 0, i, u, w1, w2, e, h => ⟨u, by rw [sg_X12_text_152, if_neg (nI_nlt (by omega) (by omega))], fun j hj => h j (by omega)⟩
  | m + 1, i, u, w1, w2, e, h => by
    rw [sg_X12_text_152, if_pos (nI_lt (by omega) (by omega)), ck_n _ (show i < 4 by omega) (by omega), ck_n _ (show i < 4 by omega) (by omega), nI_clamp (by omega), wI_wC, wC_at, wC_wC, wC_ne _ _ (show (141 : Nat) ≠ 140 by decide), nI_add]
    refine r_tx_152 m (i + 1) _ _ _ (by omega) (fun j hj => ?_)
    by_cases c : j = i
    · subst c
      rw [up_at]
    · rw [up_ne _ _ c]
      exact h j (by omega)
theorem r_tx_177 {ev : pm_Ev} {σ : pm_H} : ∀ (m i : Nat) (u : Nat → Int32) (w1 w2 : Value), i + m = 251 → (∀ j, j < i → u j = nI 0) → ∃ u', pm_run ev pg_X12_text (177, [.ref 133, w1, w2, .int (nI i)], [], pm_wC σ 142 u) = pm_run ev pg_X12_text (207, [.ref 133, .null, .null, .int (nI 0)], [], pm_wC σ 142 u') ∧ (∀ j, j < 251 → j ≠ 69 → u' j = nI 0) ∧ u' 69 = -1
  | 0, i, u, w1, w2, e, h => ⟨upd u 69 (-1), by rw [sg_X12_text_177, if_neg (nI_nlt (by omega) (by omega)), ck_n _ (by omega) (by omega), nI_clamp (by omega), wI_wC, wC_at, wC_wC], fun j hj hn => by rw [up_ne _ _ hn]; exact h j (by omega), up_at _ _ _⟩
  | m + 1, i, u, w1, w2, e, h => by
    rw [sg_X12_text_177, if_pos (nI_lt (by omega) (by omega)), ck_n _ (show i < 251 by omega) (by omega), nI_clamp (by omega), wI_wC, wC_at, wC_wC, nI_add]
    refine r_tx_177 m (i + 1) _ _ _ (by omega) (fun j hj => ?_)
    by_cases c : j = i
    · subst c
      rw [up_at]
    · rw [up_ne _ _ c]
      exact h j (by omega)
def tx_fin (σ : pm_H) (u : Nat → Int32) : pm_H := pm_wI (pm_wI (pm_wC σ 142 u) 133 33 (nI 0)) 133 47 (nI 0)
theorem r_tx_207 {ev : pm_Ev} {σ : pm_H} {sz : Nat} (hs : sz ≤ 6) (hz : σ.1 133 22 = nI sz) : ∀ (m i : Nat) (u : Nat → Int32) (w1 w2 : Value), i + m = sz → QB i (σ.1 138) (σ.1 140) u → ∃ u', pm_run ev pg_X12_text (207, [.ref 133, w1, w2, .int (nI i)], [], pm_wC σ 142 u) = some (some (.int (nI sz)), tx_fin σ u') ∧ QB sz (σ.1 138) (σ.1 140) u'
  | 0, i, u, w1, w2, e, h => by
    have ei : i = sz := by omega
    subst ei
    have hz' : (pm_wI (pm_wI (pm_wC σ 142 u) 133 33 (nI 0)) 133 47 (nI 0)).1 133 22 = nI i := by rw [wI_wC, wC_at, up_ne _ _ (by decide), wI_wC, wC_at, up_ne _ _ (by decide), wC_ne _ _ (by decide)]; exact hz
    exact ⟨u, by rw [sg_X12_text_207, hz', wC_ne _ _ (show (133 : Nat) ≠ 142 by decide), hz, if_neg (nI_nlt (by omega) (by omega))]; rfl, h⟩
  | m + 1, i, u, w1, w2, e, h => by
    rw [sg_X12_text_207, wC_ne _ _ (show (133 : Nat) ≠ 142 by decide), hz, if_pos (nI_lt (by omega) (by omega))]
    simp (disch := omega) only [pk_mul, nI_add, ck_n, nI_clamp, wI_wC, wC_at, wC_wC, wC_ne _ _ (show (138 : Nat) ≠ 142 by decide), wC_ne _ _ (show (140 : Nat) ≠ 142 by decide)]
    rw [sg_X12_text_267]
    simp (disch := omega) only [pk_mul, nI_add, ck_n, nI_clamp, wI_wC, wC_at, wC_wC, wC_ne _ _ (show (138 : Nat) ≠ 142 by decide), wC_ne _ _ (show (140 : Nat) ≠ 142 by decide)]
    refine r_tx_207 hs hz m (i + 1) _ _ _ (by omega) ?_
    obtain ⟨q1, q2, q66, q67, q68, q69, q70⟩ := h
    refine ⟨fun l hl => ?_, fun l hl a ha => ?_, ?_, ?_, ?_, ?_, ?_⟩
    · by_cases c : l = i
      · subst c
        refine ⟨?_, ?_, ?_, ?_⟩ <;> simp (disch := omega) only [up_ne, up_at]
      · obtain ⟨a0, a4, a5, a7⟩ := q1 l (by omega)
        refine ⟨?_, ?_, ?_, ?_⟩ <;> simp (disch := omega) only [up_ne, a0, a4, a5, a7]
    · have b := q2 l hl a ha
      rcases ha with rfl | rfl | rfl | rfl | rfl | rfl <;> simp (disch := omega) only [up_ne, b]
    · simp (disch := omega) only [up_ne, q66]
    · simp (disch := omega) only [up_ne, q67]
    · simp (disch := omega) only [up_ne, q68]
    · simp (disch := omega) only [up_ne, q69]
    · simp (disch := omega) only [up_ne, q70]
theorem r_take {ev : pm_Ev} {σ : pm_H} {sz : Nat} (hs : sz ≤ 6) (hz : σ.1 133 22 = nI sz) (l1 l2 : Int32) : ∃ σ', pm_run ev pg_X12_text (124, [.ref 133, .int l1, .int l2, .null], [], σ) = some (some (.int (nI sz)), σ') ∧ (∀ c, c ≠ 133 → c ≠ 138 → c ≠ 140 → c ≠ 142 → σ'.1 c = σ.1 c) ∧ σ'.2 = σ.2 ∧ (∀ k, k ≠ 33 → k ≠ 47 → σ'.1 133 k = σ.1 133 k) ∧ σ'.1 133 33 = nI 0 ∧ σ'.1 133 47 = nI 0 ∧ (∀ j, j < 60 → σ'.1 138 j = σ.1 139 j) ∧ (∀ j, j < 4 → σ'.1 140 j = σ.1 141 j) ∧ QB sz (σ'.1 138) (σ'.1 140) (σ'.1 142) := by
  obtain ⟨u1, h1, g1⟩ := r_tx_126 (ev := ev) (σ := σ) 60 0 (σ.1 138) (.int l1) (.int l2) (by omega) (fun j hj => absurd hj (Nat.not_lt_zero j))
  rw [wC_self] at h1
  obtain ⟨u2, h2, g2⟩ := r_tx_152 (ev := ev) (σ := pm_wC σ 138 u1) 4 0 ((pm_wC σ 138 u1).1 140) .null .null (by omega) (fun j hj => absurd hj (Nat.not_lt_zero j))
  rw [wC_self] at h2
  obtain ⟨u3, h3, g3, g3'⟩ := r_tx_177 (ev := ev) (σ := pm_wC (pm_wC σ 138 u1) 140 u2) 251 0 ((pm_wC (pm_wC σ 138 u1) 140 u2).1 142) .null .null (by omega) (fun j hj => absurd hj (Nat.not_lt_zero j))
  rw [wC_self] at h3
  have hz' : (pm_wC (pm_wC σ 138 u1) 140 u2).1 133 22 = nI sz := by rw [wC_ne _ _ (by decide), wC_ne _ _ (by decide)]; exact hz
  obtain ⟨u4, h4, g4⟩ := r_tx_207 (ev := ev) (σ := pm_wC (pm_wC σ 138 u1) 140 u2) hs hz' sz 0 u3 .null .null (by omega) ⟨fun l hl => absurd hl (Nat.not_lt_zero l), fun l hl a ha => g3 _ (by omega) (by omega), g3 66 (by omega) (by omega), g3 67 (by omega) (by omega), g3 68 (by omega) (by omega), g3', g3 70 (by omega) (by omega)⟩
  have e138 : (pm_wC (pm_wC σ 138 u1) 140 u2).1 138 = u1 := by rw [wC_ne _ _ (by decide), wC_at]
  have e140 : (pm_wC (pm_wC σ 138 u1) 140 u2).1 140 = u2 := wC_at _ _ _
  rw [e138, e140] at g4
  rw [wC_ne _ _ (by decide)] at g2
  refine ⟨pm_wI (pm_wI (pm_wC (pm_wC (pm_wC σ 138 u1) 140 u2) 142 u4) 133 33 (nI 0)) 133 47 (nI 0), by rw [sg_X12_text_124, h1, h2, h3, h4]; rfl, fun c a1 a2 a3 a4 => ?_, rfl, fun k k1 k2 => ?_, ?_, ?_, fun j hj => ?_, fun j hj => ?_, ?_⟩
  · rw [wI_wC, wC_ne _ _ a1, wI_wC, wC_ne _ _ a1, wC_ne _ _ a4, wC_ne _ _ a3, wC_ne _ _ a2]
  · rw [wI_wC, wC_at, up_ne _ _ k2, wI_wC, wC_at, up_ne _ _ k1, wC_ne _ _ (by decide), wC_ne _ _ (by decide), wC_ne _ _ (by decide)]
  · rw [wI_wC, wC_at, up_ne _ _ (by decide), wI_wC, wC_at, up_at]
  · rw [wI_wC, wC_at, up_at]
  · rw [wI_wC, wC_ne _ _ (by decide), wI_wC, wC_ne _ _ (by decide), wC_ne _ _ (by decide), e138]
    exact g1 j hj
  · rw [wI_wC, wC_ne _ _ (by decide), wI_wC, wC_ne _ _ (by decide), wC_ne _ _ (by decide), e140]
    exact g2 j hj
  · have x138 : (pm_wI (pm_wI (pm_wC (pm_wC (pm_wC σ 138 u1) 140 u2) 142 u4) 133 33 (nI 0)) 133 47 (nI 0)).1 138 = u1 := by rw [wI_wC, wC_ne _ _ (by decide), wI_wC, wC_ne _ _ (by decide), wC_ne _ _ (by decide), e138]
    have x140 : (pm_wI (pm_wI (pm_wC (pm_wC (pm_wC σ 138 u1) 140 u2) 142 u4) 133 33 (nI 0)) 133 47 (nI 0)).1 140 = u2 := by rw [wI_wC, wC_ne _ _ (by decide), wI_wC, wC_ne _ _ (by decide), wC_ne _ _ (by decide), e140]
    have x142 : (pm_wI (pm_wI (pm_wC (pm_wC (pm_wC σ 138 u1) 140 u2) 142 u4) 133 33 (nI 0)) 133 47 (nI 0)).1 142 = u4 := by rw [wI_wC, wC_ne _ _ (by decide), wI_wC, wC_ne _ _ (by decide), wC_at]
    rw [x138, x140, x142]
    exact g4
theorem okT_of {sz : Nat} {t r : Nat → Int32} {st : HSt} (hg : gdH st) (hsz : sz = st.1) (ht : ∀ l, l < sz → ∀ w, w < 10 → t (l * 10 + w) = nI (st.2.1 l w)) (hr : ∀ w, w < 4 → r w = nI (st.2.2.2 w)) : okT sz t r (fun j => st.2.1 (j / 10) (j % 10)) st.2.2.2 := by
  obtain ⟨g1, g2, g3⟩ := hg
  have e : ∀ l w, w < 10 → st.2.1 ((l * 10 + w) / 10) ((l * 10 + w) % 10) = st.2.1 l w := fun l w hw => by
    rw [show (l * 10 + w) / 10 = l by omega, show (l * 10 + w) % 10 = w by omega]
  refine ⟨fun l hl k hk => ?_, hr, ?_, fun l hl => ?_⟩
  · show t (l * 10 + k) = nI (st.2.1 ((l * 10 + k) / 10) ((l * 10 + k) % 10))
    rw [e l k hk]
    exact ht l hl k hk
  · have r0 := g2 0
    have r1 := g2 1
    have r2 := g2 2
    have r3 := g2 3
    simp only [loR, hiR] at r0 r1 r2 r3
    simp at r0 r1 r2 r3
    omega
  · show (st.2.1 ((l * 10 + 0) / 10) ((l * 10 + 0) % 10) ≤ 99 ∧ st.2.1 ((l * 10 + 1) / 10) ((l * 10 + 1) % 10) ≤ 99 ∧ 1 ≤ st.2.1 ((l * 10 + 2) / 10) ((l * 10 + 2) % 10) ∧ st.2.1 ((l * 10 + 2) / 10) ((l * 10 + 2) % 10) ≤ 99 ∧ 1 ≤ st.2.1 ((l * 10 + 3) / 10) ((l * 10 + 3) % 10) ∧ st.2.1 ((l * 10 + 3) / 10) ((l * 10 + 3) % 10) ≤ 9) ∧ (st.2.1 ((l * 10 + 4) / 10) ((l * 10 + 4) % 10) ≤ 9 ∧ st.2.1 ((l * 10 + 5) / 10) ((l * 10 + 5) % 10) ≤ 9 ∧ st.2.1 ((l * 10 + 6) / 10) ((l * 10 + 6) % 10) ≤ 9 ∧ 1 ≤ st.2.1 ((l * 10 + 7) / 10) ((l * 10 + 7) % 10) ∧ st.2.1 ((l * 10 + 7) / 10) ((l * 10 + 7) % 10) ≤ 99 ∧ 1 ≤ st.2.1 ((l * 10 + 8) / 10) ((l * 10 + 8) % 10)) ∧ st.2.1 ((l * 10 + 8) / 10) ((l * 10 + 8) % 10) ≤ 99 ∧ 1 ≤ st.2.1 ((l * 10 + 9) / 10) ((l * 10 + 9) % 10) ∧ st.2.1 ((l * 10 + 9) / 10) ((l * 10 + 9) % 10) ≤ 9
    rw [e l 0 (by omega), e l 1 (by omega), e l 2 (by omega), e l 3 (by omega), e l 4 (by omega), e l 5 (by omega), e l 6 (by omega), e l 7 (by omega), e l 8 (by omega), e l 9 (by omega)]
    have l0 := g1 l 0
    have l1 := g1 l 1
    have l2 := g1 l 2
    have l3 := g1 l 3
    have l4 := g1 l 4
    have l5 := g1 l 5
    have l6 := g1 l 6
    have l7 := g1 l 7
    have l8 := g1 l 8
    have l9 := g1 l 9
    simp only [loL, hiL] at l0 l1 l2 l3 l4 l5 l6 l7 l8 l9
    simp at l0 l1 l2 l3 l4 l5 l6 l7 l8 l9
    omega
theorem b_text0 (d : Nat) {k sz n a e nl : Nat} {T R : Nat → Nat} {V : Nat → LV → Int32} {σ : pm_H} (h : RelB k sz T R n a e σ) (w : LW nl V σ) : Both (d + 32) (d + 34) 106 115 [.int (nI 0)] σ (PostX k) := by
  obtain ⟨b, m, hb, t2, t3, t4⟩ := w.1
  have ht : tpX b m σ := ⟨hb.1, t2, fun i hi => ⟨(t4 i hi).1, hb.2 i hi⟩⟩
  have hm240 := hb.1
  unfold Both
  rw [en_X11_text, sg_X11_text_0, if_pos n00]
  have hr : ∀ σ1, xe (d + 34) 115 [.ref 133, .int (nI 0)] σ1 = pm_cl (xe (d + 33) 68 [.ref 133, .int (nI 0)] (th0 σ1)) (fun r => pm_run (xe (d + 33)) pg_X12_text (34, [.ref 133, .int (nI 0), .null, .null], r.1.toList ++ [], r.2)) := by
    intro σ1
    rw [en_X12_text, sg_X12_text_0, show pm_wI σ1 133 0 (nI 0) = th0 σ1 from rfl, r_rng_y _ _ (L := 0) (H := 1) (a := 0) (b := 1) (by decide) (by decide) (by omega) (by omega) (by omega)]
    simp only [pm_cl_some, Option.toList_some, Option.toList_none, List.cons_append, List.nil_append]
    rw [sg_X12_text_12, if_neg n10, if_neg (show ¬ nI 0 = nI 1 by decide)]
  obtain ⟨M, hM, hc⟩ := q_readHall (d + 24) ht
  rw [hal_eq 121 0 _ (Nat.zero_le _)] at hc
  cases hH : halR b m 121 0 (0, fun _ => usL, false, usR) with
  | inl g =>
    rw [hH] at hc
    obtain ⟨hg, σ'', p', fr, ho⟩ := hc
    rw [show xe (d + 31) 23 [.ref 6] σ = _ from ho]
    simp only [pm_cl_some, Option.toList_some, Option.toList_none, List.cons_append, List.nil_append]
    rw [sg_X11_text_11, if_neg (nI_nm1 (by omega)), if_neg (show ¬ nI 0 = nI 1 by decide)]
    have s1 : sameX σ (th0 (lx σ'' p' (nI g) M (σ.1 11))) := sameX_th (X_lx fr.1 fr.2)
    have s2 := sameX_th s1
    have hm := r_fault_0 d (σ1 := th0 (lx σ'' p' (nI g) M (σ.1 11))) hb ((s2.2.1.2.2 6 (by omega)).trans t3) (fun i hi => by rw [s2.2.1.1 134 rfl]; exact (t4 i hi).2)
    rw [hH] at hm
    obtain ⟨-, σ3, p3, fm, ho'⟩ := hm
    refine ⟨.int (-1), lx σ'' p' (nI g) M (σ.1 11), my σ3 p3 (nI g) ((sg5 (th0 (th0 (lx σ'' p' (nI g) M (σ.1 11)))) m).1 133 12), rfl, ?_, sz, T, R, nl, V, ?_⟩
    · rw [hr, ho']
      simp only [pm_cl_some, Option.toList_some, Option.toList_none, List.cons_append, List.nil_append]
      rw [sg_X12_text_34, if_neg (nI_nm1 (by omega))]
    · obtain ⟨hB, hW'⟩ := sameX_R (sameX_tr s2 (X_my (p := p3) (f := nI g) (dp := (sg5 (th0 (th0 (lx σ'' p' (nI g) M (σ.1 11)))) m).1 133 12) fm)) h w
      exact PostW_Q hB hW' (sameQ_rfl _) hW'.2.2.2.1 hW'.2.2.2.2.1
  | inr st =>
    rw [hH] at hc
    obtain ⟨hg, σ'', p', hS, ho⟩ := hc
    rw [show xe (d + 31) 23 [.ref 6] σ = _ from ho]
    simp only [pm_cl_some, Option.toList_some, Option.toList_none, List.cons_append, List.nil_append]
    rw [sg_X11_text_11, if_pos rfl]
    obtain ⟨⟨s1, s1'⟩, ⟨s7, sz6⟩, -, s8, s9, -⟩ := hS
    have hgd := hal_ok (b := b) (n := m) (st := st) (by rw [hal_eq 121 0 _ (Nat.zero_le _)]; exact hH)
    have hlc : ∀ c, c ≠ 1 → c ≠ 10 → c ≠ 11 → (lx σ'' p' (-1) M (σ.1 11)).1 c = σ''.1 c := fun c a1 a2 a3 => lx_cc a1 a2 a3
    have hl2 : (lx σ'' p' (-1) M (σ.1 11)).2 = σ.2 := s1'
    obtain ⟨σc, q0, q1, q2, ⟨q16, q17, q0j⟩, q11, q3, q4, q5, ⟨f0, q24, qf0⟩, q27⟩ := q_takeHall (d + 26) (sz := st.1) (σ := lx σ'' p' (-1) M (σ.1 11)) sz6 (by rw [hlc 7 (by decide) (by decide) (by decide)]; exact s7)
    rw [q0]
    simp only [pm_cl_some, Option.toList_some, Option.toList_none, List.cons_append, List.nil_append]
    rw [sg_X11_text_19]
    have c4 : ∀ l, l < 6 → ∀ j, j < 10 → σc.1 4 (l * 10 + j) = nI (st.2.1 l j) := fun l hl j hj => by
      rw [q4 _ (by omega), hlc 8 (by decide) (by decide) (by decide)]
      exact s8 l hl j hj
    have c5 : ∀ j, j < 4 → σc.1 5 j = nI (st.2.2.2 j) := fun j hj => by
      rw [q5 _ hj, hlc 9 (by decide) (by decide) (by decide)]
      exact s9 j hj
    have cc : ∀ c, c ≠ 0 → c ≠ 1 → c ≠ 3 → c ≠ 4 → c ≠ 5 → c ≠ 24 → c ≠ 27 → c ≠ 10 → c ≠ 11 → (c < 6 ∨ 9 < c) → σc.1 c = σ.1 c := fun c a0 a1 a3 a4 a5 a24 a27 a10 a11 ab => by rw [q1 c a0 a1 a3 a4 a5 a24 a27, hlc c a1 a10 a11, s1 c ab]
    have c133 : σc.1 133 = σ.1 133 := cc 133 (by decide) (by decide) (by decide) (by decide) (by decide) (by decide) (by decide) (by decide) (by decide) (by decide)
    have c134 : σc.1 134 = σ.1 134 := cc 134 (by decide) (by decide) (by decide) (by decide) (by decide) (by decide) (by decide) (by decide) (by decide) (by decide)
    have hm := r_fault_0 d (σ1 := th0 σc) hb (by rw [th_f _ (by decide), th_f _ (by decide), c133]; exact t3) (fun i hi => by rw [th_ne _ (by decide), th_ne _ (by decide), c134]; exact (t4 i hi).2)
    rw [hH] at hm
    obtain ⟨-, σ3, p3, ⟨⟨fm1, fm2, fm3⟩, ⟨m23, -⟩, -, m139, m141⟩, ho'⟩ := hm
    have hs5 : ∀ c, c ≠ 133 → (sg5 (th0 (th0 σc)) m).1 c = σc.1 c := fun c hc => by
      unfold sg5
      rw [wI_wC, wC_ne _ _ hc, wI_wC, wC_ne _ _ hc, wI_wC, wC_ne _ _ hc, th_ne _ hc, th_ne _ hc]
    have hs5k : ∀ j, j ≠ 0 → j ≠ 5 → j ≠ 8 → j ≠ 9 → (sg5 (th0 (th0 σc)) m).1 133 j = σ.1 133 j := fun j j0 j5 j8 j9 => by
      unfold sg5
      rw [wI_wC, wC_at, up_ne _ _ j9, wI_wC, wC_at, up_ne _ _ j8, wI_wC, wC_at, up_ne _ _ j5, th_f _ j0, th_f _ j0, c133]
    have y2 : (sg5 (th0 (th0 σc)) m).2 = σc.2 := rfl
    generalize (sg5 (th0 (th0 σc)) m) = σy at fm1 fm2 fm3 hs5 hs5k y2 ho'
    have u1 : ∀ c, c ≠ 133 → c ≠ 139 → c ≠ 141 → (my σ3 p3 (-1) (σy.1 133 12)).1 c = σc.1 c := fun c a1 a2 a3 => by rw [my_ne a1, fm1 c a1 a2 a3, hs5 c a1]
    have uk : ∀ j, (j ≠ 0 ∧ j ≠ 5 ∧ j ≠ 8 ∧ j ≠ 9 ∧ j ≠ 10 ∧ j ≠ 11 ∧ j ≠ 12) → j ≠ 23 → j ≠ 24 → (my σ3 p3 (-1) (σy.1 133 12)).1 133 j = σ.1 133 j := fun j hj a1 a2 => by rw [my_k ⟨hj.2.2.2.2.1, hj.2.2.2.2.2.1, hj.2.2.2.2.2.2⟩, fm3 j a1 a2, hs5k j hj.1 hj.2.1 hj.2.2.1 hj.2.2.2.1]
    have u23 : (my σ3 p3 (-1) (σy.1 133 12)).1 133 23 = nI st.1 := by rw [my_k (by decide)]; exact m23
    have u139 : (my σ3 p3 (-1) (σy.1 133 12)).1 139 = σ3.1 139 := my_ne (by decide)
    have u141 : (my σ3 p3 (-1) (σy.1 133 12)).1 141 = σ3.1 141 := my_ne (by decide)
    have u2 : (my σ3 p3 (-1) (σy.1 133 12)).2 = σc.2 := (show σ3.2 = σc.2 from fm2.trans y2)
    generalize my σ3 p3 (-1) (σy.1 133 12) = σm at ho' u1 uk u23 u139 u141 u2
    have hz : (pm_wI (pm_wI σm 133 6 (nI 0)) 133 22 ((pm_wI σm 133 6 (nI 0)).1 133 23)).1 133 22 = nI st.1 := by rw [wI_wC, wC_at, up_at, wI_wC, wC_at, up_ne _ _ (by decide)]; exact u23
    obtain ⟨σ5, v0, v1, v2, v3, v33, v47, v138, v140, vQ⟩ := r_take (ev := xe (d + 33)) sz6 hz (nI 0) (σm.1 133 6)
    refine ⟨.int (nI st.1), σc, σ5, rfl, ?_, st.1, fun j => st.2.1 (j / 10) (j % 10), st.2.2.2, nl, V, ?_⟩
    · rw [hr, ho']
      simp only [pm_cl_some, Option.toList_some, Option.toList_none, List.cons_append, List.nil_append]
      rw [sg_X12_text_34, if_pos rfl, if_neg (show ¬ nI 0 = nI 1 by decide)]
      exact v0
    · have w1 : ∀ c, c ≠ 133 → (pm_wI (pm_wI σm 133 6 (nI 0)) 133 22 ((pm_wI σm 133 6 (nI 0)).1 133 23)).1 c = σm.1 c := fun c hc => by rw [wI_wC, wC_ne _ _ hc, wI_wC, wC_ne _ _ hc]
      have wk : ∀ j, j ≠ 6 → j ≠ 22 → (pm_wI (pm_wI σm 133 6 (nI 0)) 133 22 ((pm_wI σm 133 6 (nI 0)).1 133 23)).1 133 j = σm.1 133 j := fun j a1 a2 => by rw [wI_wC, wC_at, up_ne _ _ a2, wI_wC, wC_at, up_ne _ _ a1]
      have w6 : (pm_wI (pm_wI σm 133 6 (nI 0)) 133 22 ((pm_wI σm 133 6 (nI 0)).1 133 23)).1 133 6 = nI 0 := by rw [wI_wC, wC_at, up_ne _ _ (by decide), wI_wC, wC_at, up_at]
      have w2 : (pm_wI (pm_wI σm 133 6 (nI 0)) 133 22 ((pm_wI σm 133 6 (nI 0)).1 133 23)).2 = σm.2 := rfl
      generalize pm_wI (pm_wI σm 133 6 (nI 0)) 133 22 ((pm_wI σm 133 6 (nI 0)).1 133 23) = σz at hz v0 v1 v2 v3 v138 v140 w1 wk w6 w2
      have z1 : ∀ c, c ≠ 133 → c ≠ 138 → c ≠ 139 → c ≠ 140 → c ≠ 141 → c ≠ 142 → σ5.1 c = σc.1 c := fun c a1 a2 a3 a4 a5 a6 => by rw [v1 c a1 a2 a4 a6, w1 c a1, u1 c a1 a3 a5]
      have zk : ∀ j, (j = 7 ∨ j = 27 ∨ j = 28 ∨ j = 29) → σ5.1 133 j = σ.1 133 j := fun j hj => by rw [v3 j (by omega) (by omega), wk j (by omega) (by omega), uk j (by omega) (by omega) (by omega)]
      have z138 : ∀ l, l < st.1 → ∀ j, j < 10 → σ5.1 138 (10 * l + j) = nI (st.2.1 l j) := fun l hl j hj => by
        rw [v138 _ (by omega), w1 139 (by decide), u139]
        exact m139 l hl j hj
      have z140 : ∀ j, j < 4 → σ5.1 140 j = nI (st.2.2.2 j) := fun j hj => by
        rw [v140 _ hj, w1 141 (by decide), u141]
        exact m141 j hj
      have y4 : σ5.1 4 = σc.1 4 := z1 4 (by decide) (by decide) (by decide) (by decide) (by decide) (by decide)
      have y5 : σ5.1 5 = σc.1 5 := z1 5 (by decide) (by decide) (by decide) (by decide) (by decide) (by decide)
      have y0 : σ5.1 0 = σc.1 0 := z1 0 (by decide) (by decide) (by decide) (by decide) (by decide) (by decide)
      have hT : okT st.1 (σ5.1 4) (σ5.1 5) (fun j => st.2.1 (j / 10) (j % 10)) st.2.2.2 := okT_of hgd.1 rfl (fun l hl j hj => by rw [y4]; exact c4 l (by omega) j hj) (fun j hj => by rw [y5]; exact c5 j hj)
      have h138 : ∀ l, l < st.1 → ∀ j, j < 10 → σ5.1 138 (10 * l + j) = σ5.1 4 (l * 10 + j) := fun l hl j hj => by rw [z138 l hl j hj, y4, c4 l (by omega) j hj]
      have h140 : ∀ j, j < 4 → σ5.1 140 j = σ5.1 5 j := fun j hj => by rw [z140 j hj, y5, c5 j hj]
      obtain ⟨-, -, ⟨⟨-, he, -, h15, -⟩, -⟩, -, hf1, hf2⟩ := h
      have e24 : σ5.1 24 = upd (g_begL (σ5.1 4) (σ5.1 5) 0 st.1 f0) 3 (-1) := by rw [z1 24 (by decide) (by decide) (by decide) (by decide) (by decide) (by decide), y4, y5]; exact q24
      have hl18 : (lx σ'' p' (-1) M (σ.1 11)).1 0 = σ.1 0 := by rw [hlc 0 (by decide) (by decide) (by decide), s1 0 (by omega)]
      refine ⟨⟨0, 0, e, ⟨?_, ?_, sz6, ?_, fun _ => hT, h138, h140⟩, ⟨?_, ?_⟩, ⟨⟨by omega, he, ?_, ?_, v33⟩, fun _ => 0, fun p q _ _ => Nat.le_refl _, fun p hp => absurd hp (Nat.not_lt_zero p)⟩, ⟨?_, Or.inl ?_⟩, ?_, ?_⟩, LW_T w ⟨b, 0, ⟨by omega, fun i hi => absurd hi (Nat.not_lt_zero i)⟩, ?_, ?_, fun i hi => absurd hi (Nat.not_lt_zero i)⟩ (fun c hc n2 n134 => ?_) (fun j hj => zk j (by omega)) ⟨?_, ?_⟩⟩
      · rw [z1 3 (by decide) (by decide) (by decide) (by decide) (by decide) (by decide)]
        exact q3
      · rw [v3 22 (by decide) (by decide)]
        exact hz
      · exact hT.2.2.1.2.1
      · rw [e24]
        exact relM_beg sz6 hT h138 h140 (rp_up3 (rp_begL sz6 hT st.1 0 f0 (by omega) (fun j hj _ => by rw [NB_z]; exact qf0 j hj)) _) (up_at _ _ _) vQ
      · rw [z1 27 (by decide) (by decide) (by decide) (by decide) (by decide) (by decide)]
        exact q27
      · rw [y0]; exact q16
      · rw [y0, q0j 15 (by decide) (by decide), hl18]; exact h15
      · rw [v47, y0, q17]
      · rw [y0]; exact q17
      · rw [zk 29 (by omega), y0, q0j 18 (by decide) (by decide), hl18]; exact hf1
      · rw [y0, q0j 18 (by decide) (by decide), hl18]; exact hf2
      · rw [z1 1 (by decide) (by decide) (by decide) (by decide) (by decide) (by decide)]
        exact q11
      · rw [v3 6 (by decide) (by decide)]
        exact w6
      · have kl : c ≠ 133 ∧ c ≠ 138 ∧ c ≠ 139 ∧ c ≠ 140 ∧ c ≠ 141 ∧ c ≠ 142 ∧ c ≠ 0 ∧ c ≠ 1 ∧ c ≠ 3 ∧ c ≠ 4 ∧ c ≠ 5 ∧ c ≠ 24 ∧ c ≠ 27 ∧ c ≠ 10 ∧ c ≠ 11 ∧ (c < 6 ∨ 9 < c) := by
          unfold kpL at hc
          simp only [decide_eq_true_eq] at hc
          omega
        obtain ⟨a1, a2, a3, a4, a5, a6, b1, b2, b3, b4, b5, b6, b7, b8, b9, b10⟩ := kl
        rw [z1 c a1 a2 a3 a4 a5 a6, cc c b1 b2 b3 b4 b5 b6 b7 b8 b9 b10]
      · rw [v2, w2, u2, q2, hl2]
      · rw [z1 145 (by decide) (by decide) (by decide) (by decide) (by decide) (by decide), cc 145 (by decide) (by decide) (by decide) (by decide) (by decide) (by decide) (by decide) (by decide) (by decide) (by decide)]
theorem b_text (d : Nat) {k sz n a e nl : Nat} {T R : Nat → Nat} {V : Nat → LV → Int32} {σ : pm_H} (h : RelB k sz T R n a e σ) (w : LW nl V σ) (x : Int32) : Both (d + 32) (d + 34) 106 115 [.int x] σ (PostX k) := by
  rcases rng_cases x 0 1 (by omega) (by omega) with hx | ⟨j, -, hj, rfl⟩
  · unfold Both
    refine ⟨.int (-1), σ, th0 σ, ?_, ?_, sz, T, R, nl, V, PostW_B (PostB_th h) w⟩
    · rw [en_X11_text, sg_X11_text_0, if_neg (fun e => by rw [e] at hx; exact absurd hx (by decide)), if_neg (fun e => by rw [e] at hx; exact absurd hx (by decide))]
    · rw [en_X12_text, sg_X12_text_0, show pm_wI σ 133 0 (nI 0) = th0 σ from rfl, r_rng_n _ _ (L := 0) (H := 1) (a := 0) (b := 1) (by decide) (by decide) hx]
      simp only [pm_cl_some, Option.toList_some, Option.toList_none, List.cons_append, List.nil_append]
      rw [sg_X12_text_12, if_pos n00]
  · rcases (show j = 0 ∨ j = 1 by omega) with rfl | rfl
    · exact b_text0 d h w
    · exact b_text1 d h w

/-! ===== text(1): both ===== -/
theorem r_fault_1 (d : Nat) {b : Nat → Nat} {m : Nat} {σ1 : pm_H} (hb : okb b m) (e6 : (th0 σ1).1 133 6 = nI m) (e134 : ∀ i, i < m → (th0 σ1).1 134 i = byt (b i)) (hL : bdL (LM (th0 σ1))) : ∃ σ3, xe (d + 33) 68 [.ref 133, .int (nI 1)] σ1 = some (some (.int (σ3.1 133 11)), σ3) ∧ g133 (th0 σ1) σ3 ∧ goR (th0 σ1) σ3 (pLaw b m) := by
  obtain ⟨σ3, i1, i2, i3⟩ := r_go_t d (B := 0) (σ := th0 σ1) hb (by have := hb.1; omega) (fun i hi => by rw [Nat.zero_add]; exact e134 i hi) hL
  refine ⟨σ3, ?_, i2, i3⟩
  rw [en_X12_fault, sg_X12_fault_0, show pm_wI σ1 133 0 (nI 0) = th0 σ1 from rfl, r_rng_y _ _ (L := 0) (H := 1) (a := 0) (b := 1) (by decide) (by decide) (by omega) (by omega) (by omega)]
  simp only [pm_cl_some, Option.toList_some, Option.toList_none, List.cons_append, List.nil_append]
  rw [sg_X12_fault_12, if_neg n10, if_neg n10, e6, i1]
  simp only [pm_cl_some, Option.toList_some, Option.toList_none, List.cons_append, List.nil_append]
  rw [sg_X12_fault_42]
def okRF (σ : pm_H) (n : Nat) (r : Nat ⊕ HSt) (o : Option pm_R) : Prop := match r with
  | .inl g => g ≤ n ∧ ∃ σ'' p', FM (sg5 σ n) σ'' ∧ o = some (some (.int (nI g)), my σ'' p' (nI g) ((sg5 σ n).1 133 12))
  | .inr st => st.1 ≠ 0 ∧ ∃ σ'' p', HM (sg5 σ n) σ'' st ∧ o = some (some (.int (-1)), my σ'' p' (-1) ((sg5 σ n).1 133 12))
theorem r_fault_0 (d : Nat) {b : Nat → Nat} {m : Nat} {σ1 : pm_H} (hb : okb b m) (e6 : (th0 σ1).1 133 6 = nI m) (e134 : ∀ i, i < m → (th0 σ1).1 134 i = byt (b i)) : okRF (th0 σ1) m (halR b m 121 0 (0, fun _ => usL, false, usR)) (xe (d + 33) 68 [.ref 133, .int (nI 0)] σ1) := by
  have hm := r_readHall (d + 24) (σ := th0 σ1) hb e6 e134
  rw [en_X12_fault, sg_X12_fault_0, show pm_wI σ1 133 0 (nI 0) = th0 σ1 from rfl, r_rng_y _ _ (L := 0) (H := 1) (a := 0) (b := 1) (by decide) (by decide) (by omega) (by omega) (by omega)]
  simp only [pm_cl_some, Option.toList_some, Option.toList_none, List.cons_append, List.nil_append]
  rw [sg_X12_fault_12, if_neg n10, if_pos n00]
  cases hH : halR b m 121 0 (0, fun _ => usL, false, usR) with
  | inl g =>
    rw [hH] at hm
    obtain ⟨hg, σ3, p3, fm, ho⟩ := hm
    refine ⟨hg, σ3, p3, fm, ?_⟩
    rw [show xe (d + 32) 70 [.ref 133] (th0 σ1) = _ from ho]
    simp only [pm_cl_some, Option.toList_some, Option.toList_none, List.cons_append, List.nil_append]
    rw [sg_X12_fault_26, my_11]
  | inr st =>
    rw [hH] at hm
    obtain ⟨hg, σ3, p3, fm, ho⟩ := hm
    refine ⟨hg, σ3, p3, fm, ?_⟩
    rw [show xe (d + 32) 70 [.ref 133] (th0 σ1) = _ from ho]
    simp only [pm_cl_some, Option.toList_some, Option.toList_none, List.cons_append, List.nil_append]
    rw [sg_X12_fault_26, my_11]
def PostX (k : Nat) (σ' : pm_H) : Prop := ∃ sz T R nl V, PostW k sz T R nl V σ'
theorem b_text1 (d : Nat) {k sz n a e nl : Nat} {T R : Nat → Nat} {V : Nat → LV → Int32} {σ : pm_H} (h : RelB k sz T R n a e σ) (w : LW nl V σ) : Both (d + 32) (d + 34) 106 115 [.int (nI 1)] σ (PostX k) := by
  obtain ⟨b, m, hb, t2, t3, t4⟩ := w.1
  have ht : tpX b m σ := ⟨hb.1, t2, fun i hi => ⟨(t4 i hi).1, hb.2 i hi⟩⟩
  have c5 : σ.1 12 5 = nI nl := w.2.1.2.1
  have m7 : σ.1 133 7 = nI nl := w.2.2.1.2.1
  have hn6 := w.2.1.1
  unfold Both
  rw [en_X11_text, sg_X11_text_0, if_neg n10, if_pos rfl, c5]
  have hr : ∀ σ1, (th0 σ1).1 133 7 = nI nl → xe (d + 34) 115 [.ref 133, .int (nI 1)] σ1 = (if nI nl = nI 6 then some (some (.int (-1)), th0 σ1) else pm_cl (xe (d + 33) 68 [.ref 133, .int (nI 1)] (th0 σ1)) (fun r => pm_run (xe (d + 33)) pg_X12_text (34, [.ref 133, .int (nI 1), .null, .null], r.1.toList ++ [], r.2))) := by
    intro σ1 h7
    rw [en_X12_text, sg_X12_text_0, show pm_wI σ1 133 0 (nI 0) = th0 σ1 from rfl, r_rng_y _ _ (L := 0) (H := 1) (a := 0) (b := 1) (by decide) (by decide) (by omega) (by omega) (by omega)]
    simp only [pm_cl_some, Option.toList_some, Option.toList_none, List.cons_append, List.nil_append]
    rw [sg_X12_text_12, if_neg n10, if_pos rfl, h7]
  by_cases h6 : nl = 6
  · refine ⟨.int (-1), σ, th0 σ, ?_, ?_, sz, T, R, nl, V, PostW_B (PostB_th h) w⟩
    · rw [h6, if_neg (show ¬ nI 6 < nI 6 by decide)]
    · rw [hr σ (by rw [th_f _ (by decide)]; exact m7), if_pos (by rw [h6])]
  · have hnl : nl < 6 := by omega
    have hne : ¬ nI nl = nI 6 := fun e => h6 ((nI_eq (by omega) (by omega)).mp e)
    rw [if_pos (nI_lt hnl (by omega))]
    have hc := q_readLaw d ht
    have hok := pLaw_ok (b := b) (n := m)
    have hm240 := hb.1
    cases hH : pLaw b m with
    | inl g =>
      rw [hH] at hc hok
      have hg : g ≤ m := hok
      obtain ⟨p', m', s', hp', hm', ho⟩ := hc
      rw [ho]
      simp only [pm_cl_some, Option.toList_some, Option.toList_none, List.cons_append, List.nil_append]
      rw [sg_X11_text_44, if_neg (nI_nm1 (by omega))]
      have s1 : sameX σ (th0 (lx σ p' (nI g) m' s')) := sameX_th (X_lx (fun _ _ => rfl) rfl)
      have s2 : sameX σ (th0 (th0 (lx σ p' (nI g) m' s'))) := sameX_th s1
      obtain ⟨σ3, f1, f2, f3⟩ := r_fault_1 d (σ1 := th0 (lx σ p' (nI g) m' s')) hb ((s2.2.1.2.2 6 (by omega)).trans t3) (fun i hi => by rw [s2.2.1.1 134 rfl]; exact (t4 i hi).2) (by rw [LM_same (s2.2.1.1 137 rfl)]; exact w.2.2.2.2.1)
      rw [hH] at f3
      refine ⟨.int (-1), lx σ p' (nI g) m' s', σ3, rfl, ?_, sz, T, R, nl, V, ?_⟩
      · rw [hr _ ((s1.2.1.2.2 7 (by omega)).trans m7), if_neg hne, f1]
        simp only [pm_cl_some, Option.toList_some, Option.toList_none, List.cons_append, List.nil_append]
        rw [sg_X12_text_34, show σ3.1 133 11 = nI g from f3, if_neg (nI_nm1 (by omega))]
      · obtain ⟨hB, hW'⟩ := sameX_R (sameX_tr s2 (X_g f2)) h w
        exact PostW_Q hB hW' (sameQ_rfl _) hW'.2.2.2.1 hW'.2.2.2.2.1
    | inr cvq =>
      obtain ⟨c, v, q⟩ := cvq
      rw [hH] at hc
      have ho : xe (d + 31) 56 [.ref 10] σ = some (some (.int (-1)), lx σ q (-1) c.length (pts (σ.1 11) 0 c)) := hc
      have hlen : c.length ≤ 240 := by
        have hb0 : bdL (fun _ => 0) := fun i _ => bd_nI (a := 0) (by omega)
        have := (pLaw_run hH hb0).2.2
        omega
      rw [ho]
      simp only [pm_cl_some, Option.toList_some, Option.toList_none, List.cons_append, List.nil_append]
      rw [sg_X11_text_44, if_pos rfl]
      have e10 : (pm_wI (lx σ q (-1) c.length (pts (σ.1 11) 0 c)) 1 1 (nI 0)).1 10 2 = nI c.length := by rw [wI_wC, wC_ne _ _ (by decide), lx_m]
      have e12 : (pm_wI (lx σ q (-1) c.length (pts (σ.1 11) 0 c)) 1 1 (nI 0)).1 12 5 = nI nl := by
        rw [wI_wC, wC_ne _ _ (by decide), lx_cc (by decide) (by decide) (by decide)]
        exact c5
      rw [e10, q_ladd (d + 30) e12 hnl hlen]
      simp only [pm_cl_some, Option.toList_some, Option.toList_none, List.cons_append, List.nil_append]
      rw [sg_X11_text_77]
      have hl11 : (pm_wI (lx σ q (-1) c.length (pts (σ.1 11) 0 c)) 1 1 (nI 0)).1 11 = pts (σ.1 11) 0 c := by rw [wI_wC, wC_ne _ _ (by decide), lx_s]
      have hlo : ∀ p, p ≠ 1 → p ≠ 10 → p ≠ 11 → (pm_wI (lx σ q (-1) c.length (pts (σ.1 11) 0 c)) 1 1 (nI 0)).1 p = σ.1 p := fun p a1 a2 a3 => by rw [wI_wC, wC_ne _ _ a1, lx_cc a1 a2 a3]
      have hl1 : (pm_wI (lx σ q (-1) c.length (pts (σ.1 11) 0 c)) 1 1 (nI 0)).1 1 1 = nI 0 := by rw [wI_wC, wC_at, up_at]
      have hl2 : (pm_wI (lx σ q (-1) c.length (pts (σ.1 11) 0 c)) 1 1 (nI 0)).2 = σ.2 := rfl
      generalize pm_wI (lx σ q (-1) c.length (pts (σ.1 11) 0 c)) 1 1 (nI 0) = σa at e10 e12 hl11 hlo hl1 hl2 ⊢
      have fc : ∀ p, p ≠ 1 → p ≠ 10 → p ≠ 11 → p ≠ 12 → p ≠ 14 + nl → p ≠ 20 → (pm_wI (pm_wI (pm_wC σa (14 + nl) (va_cpy (σa.1 11) (σa.1 (14 + nl)) 0 0 c.length)) 20 nl (nI c.length)) 12 5 (nI (nl + 1))).1 p = σ.1 p := fun p a1 a2 a3 a4 a5 a6 => by rw [wI_wC, wC_ne _ _ a4, wI_wC, wC_ne _ _ a6, wC_ne _ _ a5, hlo p a1 a2 a3]
      have fc1 : (pm_wI (pm_wI (pm_wC σa (14 + nl) (va_cpy (σa.1 11) (σa.1 (14 + nl)) 0 0 c.length)) 20 nl (nI c.length)) 12 5 (nI (nl + 1))).1 1 1 = nI 0 := by rw [wI_wC, wC_ne _ _ (by decide), wI_wC, wC_ne _ _ (by decide), wC_ne _ _ (by omega), hl1]
      have fc12 : (pm_wI (pm_wI (pm_wC σa (14 + nl) (va_cpy (σa.1 11) (σa.1 (14 + nl)) 0 0 c.length)) 20 nl (nI c.length)) 12 5 (nI (nl + 1))).1 12 = upd (σ.1 12) 5 (nI (nl + 1)) := by rw [wI_wC, wC_at, wI_wC, wC_ne _ _ (by decide), wC_ne _ _ (by omega), hlo 12 (by decide) (by decide) (by decide)]
      have fc20 : (pm_wI (pm_wI (pm_wC σa (14 + nl) (va_cpy (σa.1 11) (σa.1 (14 + nl)) 0 0 c.length)) 20 nl (nI c.length)) 12 5 (nI (nl + 1))).1 20 = upd (σ.1 20) nl (nI c.length) := by rw [wI_wC, wC_ne _ _ (by decide), wI_wC, wC_at, wC_ne _ _ (by omega), hlo 20 (by decide) (by decide) (by decide)]
      have fc14 : (pm_wI (pm_wI (pm_wC σa (14 + nl) (va_cpy (σa.1 11) (σa.1 (14 + nl)) 0 0 c.length)) 20 nl (nI c.length)) 12 5 (nI (nl + 1))).1 (14 + nl) = va_cpy (pts (σ.1 11) 0 c) (σ.1 (14 + nl)) 0 0 c.length := by rw [wI_wC, wC_ne _ _ (by omega), wI_wC, wC_ne _ _ (by omega), wC_at, hl11, hlo (14 + nl) (by omega) (by omega) (by omega)]
      have fcz : (pm_wI (pm_wI (pm_wC σa (14 + nl) (va_cpy (σa.1 11) (σa.1 (14 + nl)) 0 0 c.length)) 20 nl (nI c.length)) 12 5 (nI (nl + 1))).2 = σ.2 := hl2
      generalize pm_wI (pm_wI (pm_wC σa (14 + nl) (va_cpy (σa.1 11) (σa.1 (14 + nl)) 0 0 c.length)) 20 nl (nI c.length)) 12 5 (nI (nl + 1)) = σc at fc fc1 fc12 fc20 fc14 fcz ⊢
      have c133 : σc.1 133 = σ.1 133 := fc 133 (by decide) (by decide) (by decide) (by decide) (by omega) (by decide)
      have c134 : σc.1 134 = σ.1 134 := fc 134 (by decide) (by decide) (by decide) (by decide) (by omega) (by decide)
      have c137 : σc.1 137 = σ.1 137 := fc 137 (by decide) (by decide) (by decide) (by decide) (by omega) (by decide)
      obtain ⟨σ3, f1, f2, f3⟩ := r_fault_1 d (σ1 := th0 σc) hb (by rw [th_f _ (by decide), th_f _ (by decide), c133]; exact t3) (fun i hi => by rw [th_ne _ (by decide), th_ne _ (by decide), c134]; exact (t4 i hi).2) (by rw [LM_same (σ := σ) (by rw [th_ne _ (by decide), th_ne _ (by decide), c137])]; exact w.2.2.2.2.1)
      rw [hH] at f3
      have e36 : σ3.1 133 6 = nI m := by rw [f2.2.2 6 rfl, th_f _ (by decide), th_f _ (by decide), c133]; exact t3
      have e37 : (pm_wI σ3 133 6 (nI 0)).1 133 7 = nI nl := by rw [wI_wC, wC_at, up_ne _ _ (by decide), f2.2.2 7 rfl, th_f _ (by decide), th_f _ (by decide), c133]; exact m7
      have e34 : ∀ i, i < m → (pm_wI σ3 133 6 (nI 0)).1 134 i = byt (b i) := fun i hi => by
        rw [wI_wC, wC_ne _ _ (by decide), f2.1 134 (by decide), th_ne _ (by decide), th_ne _ (by decide), c134]
        exact (t4 i hi).2
      obtain ⟨u', g1, g2, g3⟩ := r_tx_l (ev := xe (d + 33)) (σ := pm_wI σ3 133 6 (nI 0)) (u0 := (pm_wI σ3 133 6 (nI 0)).1 135) hb hnl e37 e34 m 0 ((pm_wI σ3 133 6 (nI 0)).1 135) (.int (nI 1)) (by omega) (fun j hj => absurd hj (Nat.not_lt_zero j)) (fun j hj => rfl)
      rw [wC_self] at g1
      refine ⟨.int (nI nl), σc, pm_wI (pm_wI (pm_wC (pm_wI σ3 133 6 (nI 0)) 135 u') 136 nl (nI m)) 133 7 (nI (nl + 1)), rfl, ?_, ?_⟩
      · rw [hr _ (by rw [th_f _ (by decide), c133]; exact m7), if_neg hne, f1]
        simp only [pm_cl_some, Option.toList_some, Option.toList_none, List.cons_append, List.nil_append]
        rw [sg_X12_text_34, show σ3.1 133 11 = -1 from f3.1, if_pos rfl, if_pos rfl, e36]
        exact g1
      · have g5 : ∀ p, p ≠ 133 → p ≠ 135 → p ≠ 136 → (pm_wI (pm_wI (pm_wC (pm_wI σ3 133 6 (nI 0)) 135 u') 136 nl (nI m)) 133 7 (nI (nl + 1))).1 p = σc.1 p := fun p a1 a2 a3 => by rw [wI_wC, wC_ne _ _ a1, wI_wC, wC_ne _ _ a3, wC_ne _ _ a2, wI_wC, wC_ne _ _ a1, f2.1 p a1, th_ne _ a1, th_ne _ a1]
        have k5 : ∀ p, gk p = true → p ≠ 0 → p ≠ 6 → p ≠ 7 → (pm_wI (pm_wI (pm_wC (pm_wI σ3 133 6 (nI 0)) 135 u') 136 nl (nI m)) 133 7 (nI (nl + 1))).1 133 p = σ.1 133 p := fun p a1 a2 a3 a4 => by rw [wI_wC, wC_at, up_ne _ _ a4, wI_wC, wC_ne _ _ (by decide), wC_ne _ _ (by decide), wI_wC, wC_at, up_ne _ _ a3, f2.2.2 p a1, th_f _ a2, th_f _ a2, c133]
        have k6 : (pm_wI (pm_wI (pm_wC (pm_wI σ3 133 6 (nI 0)) 135 u') 136 nl (nI m)) 133 7 (nI (nl + 1))).1 133 6 = nI 0 := by rw [wI_wC, wC_at, up_ne _ _ (by decide), wI_wC, wC_ne _ _ (by decide), wC_ne _ _ (by decide), wI_wC, wC_at, up_at]
        have k7 : (pm_wI (pm_wI (pm_wC (pm_wI σ3 133 6 (nI 0)) 135 u') 136 nl (nI m)) 133 7 (nI (nl + 1))).1 133 7 = nI (nl + 1) := by rw [wI_wC, wC_at, up_at]
        have k136 : (pm_wI (pm_wI (pm_wC (pm_wI σ3 133 6 (nI 0)) 135 u') 136 nl (nI m)) 133 7 (nI (nl + 1))).1 136 = upd (σ.1 136) nl (nI m) := by rw [wI_wC, wC_ne _ _ (by decide), wI_wC, wC_at, wC_ne _ _ (by decide), wI_wC, wC_ne _ _ (by decide), f2.1 136 (by decide), th_ne _ (by decide), th_ne _ (by decide), fc 136 (by decide) (by decide) (by decide) (by decide) (by omega) (by decide)]
        have k135 : (pm_wI (pm_wI (pm_wC (pm_wI σ3 133 6 (nI 0)) 135 u') 136 nl (nI m)) 133 7 (nI (nl + 1))).1 135 = u' := by rw [wI_wC, wC_ne _ _ (by decide), wI_wC, wC_ne _ _ (by decide), wC_at]
        have u135 : (pm_wI σ3 133 6 (nI 0)).1 135 = σ.1 135 := by rw [wI_wC, wC_ne _ _ (by decide), f2.1 135 (by decide), th_ne _ (by decide), th_ne _ (by decide), fc 135 (by decide) (by decide) (by decide) (by decide) (by omega) (by decide)]
        have z5 : (pm_wI (pm_wI (pm_wC (pm_wI σ3 133 6 (nI 0)) 135 u') 136 nl (nI m)) 133 7 (nI (nl + 1))).2 = σ.2 := (show σ3.2 = σ.2 from f2.2.1.trans fcz)
        generalize pm_wI (pm_wI (pm_wC (pm_wI σ3 133 6 (nI 0)) 135 u') 136 nl (nI m)) 133 7 (nI (nl + 1)) = σ5 at g5 k5 k6 k7 k136 k135 z5 ⊢
        refine ⟨sz, T, R, nl + 1, fun j => if j = nl then wv v else V j, ⟨n, a, e, RelB_mono (RelB_same h ⟨fun p hp => ?_, fun j hj => k5 j ?_ (by omega) (by omega) (by omega)⟩) (Nat.le_succ k)⟩, LW_grow w hnl hb hH ⟨b, 0, ⟨by omega, fun i hi => absurd hi (Nat.not_lt_zero i)⟩, ?_, k6, fun i hi => absurd hi (Nat.not_lt_zero i)⟩ ?_ ?_ ?_ ⟨?_, fun j hj => ?_⟩ ⟨?_, fun j hj => ?_⟩ k7 (k5 27 rfl (by decide) (by decide) (by decide)) (k5 28 rfl (by decide) (by decide) (by decide)) ⟨by rw [k136, up_at], fun j hj => by rw [k136, up_ne _ _ (by omega)]⟩ ⟨fun j hj => by rw [k135]; exact g2 j hj, fun j hj => by rw [k135, g3 j hj, u135]⟩ ⟨by rw [z5], ?_⟩ ?_⟩
        · have kb : p ≠ 133 ∧ p ≠ 135 ∧ p ≠ 136 ∧ p ≠ 1 ∧ p ≠ 10 ∧ p ≠ 11 ∧ p ≠ 12 ∧ p ≠ 14 + nl ∧ p ≠ 20 := by
            unfold kpB at hp
            simp only [decide_eq_true_eq] at hp
            omega
          obtain ⟨a1, a2, a3, a4, a5, a6, a7, a8, a9⟩ := kb
          rw [g5 p a1 a2 a3, fc p a4 a5 a6 a7 a8 a9]
        · rcases hj with rfl | rfl | rfl | rfl <;> rfl
        · rw [g5 1 (by decide) (by decide) (by decide)]
          exact fc1
        · rw [g5 12 (by decide) (by decide) (by decide), fc12, up_at]
        · rw [g5 12 (by decide) (by decide) (by decide), fc12, up_ne _ _ (by decide)]
        · rw [g5 12 (by decide) (by decide) (by decide), fc12, up_ne _ _ (by decide)]
        · rw [g5 20 (by decide) (by decide) (by decide), fc20, up_at]
        · rw [g5 20 (by decide) (by decide) (by decide), fc20, up_ne _ _ (by omega)]
        · rw [g5 (14 + nl) (by omega) (by omega) (by omega), fc14]
          refine cod_ext c 0 (fun j _ hj => ?_) (cod_pts c (σ.1 11) 0)
          show (if 0 ≤ j ∧ j < 0 + c.length then pts (σ.1 11) 0 c (0 + (j - 0)) else σ.1 (14 + nl) j) = _
          rw [if_pos ⟨Nat.zero_le j, hj⟩, Nat.sub_zero, Nat.zero_add]
        · rw [g5 (14 + j) (by omega) (by omega) (by omega), fc (14 + j) (by omega) (by omega) (by omega) (by omega) (by omega) (by omega)]
        · rw [g5 145 (by decide) (by decide) (by decide), fc 145 (by decide) (by decide) (by decide) (by decide) (by omega) (by decide)]
        · rw [LM_same (σ := σ) (by rw [g5 137 (by decide) (by decide) (by decide), c137])]
          exact w.2.2.2.2.1

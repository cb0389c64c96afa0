/-! ===== fault ===== -/
theorem X_lx {σ σ' : pm_H} {p m : Nat} {f : Int32} {s : Nat → Int32} (h : ∀ c, c < 6 ∨ 9 < c → σ'.1 c = σ.1 c) (h2 : σ'.2 = σ.2) : sameX σ (lx σ' p f m s) := by
  have kb : ∀ c, kpB c = true → (c < 6 ∨ 9 < c) ∧ c ≠ 1 ∧ c ≠ 10 ∧ c ≠ 11 := fun c hc => by
    unfold kpB at hc
    simp only [decide_eq_true_eq] at hc
    omega
  have kl : ∀ c, kpL c = true → (c < 6 ∨ 9 < c) ∧ c ≠ 1 ∧ c ≠ 10 ∧ c ≠ 11 := fun c hc => by
    unfold kpL at hc
    simp only [decide_eq_true_eq] at hc
    omega
  have e133 : (lx σ' p f m s).1 133 = σ.1 133 := by rw [lx_cc (by decide) (by decide) (by decide)]; exact h 133 (by omega)
  refine ⟨⟨fun c hc => ?_, fun j _ => by rw [e133]⟩, ⟨fun c hc => ?_, ?_, fun j _ => by rw [e133]⟩, ?_, ?_⟩
  · obtain ⟨a, a1, a2, a3⟩ := kb c hc
    rw [lx_cc a1 a2 a3]
    exact h c a
  · obtain ⟨a, a1, a2, a3⟩ := kl c hc
    rw [lx_cc a1 a2 a3]
    exact h c a
  · rw [lx_11, h 1 (by omega)]
  · show σ'.2 144 = _
    rw [h2]
  · rw [lx_cc (by decide) (by decide) (by decide)]
    exact h 145 (by omega)
theorem X_my {σ σ' : pm_H} {p n : Nat} {f dp : Int32} (h : FM (sg5 σ n) σ') : sameX σ (my σ' p f dp) := by
  have hs : ∀ c, c ≠ 133 → (sg5 σ n).1 c = σ.1 c := fun c hc => by
    unfold sg5
    rw [wI_wC, wC_ne _ _ hc, wI_wC, wC_ne _ _ hc, wI_wC, wC_ne _ _ hc]
  have hk : ∀ k, k ≠ 5 → k ≠ 8 → k ≠ 9 → (sg5 σ n).1 133 k = σ.1 133 k := fun k h5 h8 h9 => by
    unfold sg5
    rw [wI_wC, wC_at, up_ne _ _ h9, wI_wC, wC_at, up_ne _ _ h8, wI_wC, wC_at, up_ne _ _ h5]
  have hc : ∀ c, c ≠ 133 → c ≠ 139 → c ≠ 141 → (my σ' p f dp).1 c = σ.1 c := fun c h1 h2 h3 => by rw [my_ne h1, h.1 c h1 h2 h3, hs c h1]
  have hf : ∀ k, (k ≠ 10 ∧ k ≠ 11 ∧ k ≠ 12) ∧ k ≠ 23 ∧ k ≠ 24 ∧ k ≠ 5 ∧ k ≠ 8 ∧ k ≠ 9 → (my σ' p f dp).1 133 k = σ.1 133 k := fun k hh => by rw [my_k hh.1, h.2.2 k hh.2.1 hh.2.2.1, hk k hh.2.2.2.1 hh.2.2.2.2.1 hh.2.2.2.2.2]
  refine ⟨⟨fun c hc' => hc c (kpB_ne hc').1 (fun e => by subst e; cases hc') (fun e => by subst e; cases hc'), fun j hj => hf j (by omega)⟩, ⟨fun c hc' => hc c (kpL_ne hc').1 (fun e => by subst e; cases hc') (fun e => by subst e; cases hc'), by rw [hc 1 (by decide) (by decide) (by decide)], fun j hj => hf j (by omega)⟩, ?_, hc 145 (by decide) (by decide) (by decide)⟩
  show σ'.2 144 = _
  rw [h.2.1]
  rfl
theorem X_g {σ σ' : pm_H} (h : g133 σ σ') : sameX σ σ' := by
  refine ⟨⟨fun c hc => h.1 c (kpB_ne hc).1, fun j hj => h.2.2 j ?_⟩, ⟨fun c hc => h.1 c (kpL_ne hc).1, by rw [h.1 1 (by decide)], fun j hj => h.2.2 j ?_⟩, by rw [h.2.1], h.1 145 (by decide)⟩
  · rcases hj with rfl | rfl | rfl | rfl <;> rfl
  · rcases hj with rfl | rfl | rfl | rfl <;> rfl
theorem b_fault (d : Nat) {k sz n a e nl : Nat} {T R : Nat → Nat} {V : Nat → LV → Int32} {σ : pm_H} (h : RelB k sz T R n a e σ) (w : LW nl V σ) (x : Int32) : Both (d + 32) (d + 33) 22 68 [.int x] σ (PostW k sz T R nl V) := by
  obtain ⟨b, m, hb, t2, t3, t4⟩ := w.1
  have ht : tpX b m σ := ⟨hb.1, t2, fun i hi => ⟨(t4 i hi).1, hb.2 i hi⟩⟩
  unfold Both
  rw [en_X11_fault, sg_X11_fault_0]
  rcases rng_cases x 0 1 (by omega) (by omega) with hx | ⟨j, -, hj, rfl⟩
  · refine ⟨.int (-2), σ, th0 σ, ?_, ?_, PostW_B (PostB_th h) w⟩
    · rw [if_neg (fun e => by rw [e] at hx; exact absurd hx (by decide)), if_neg (fun e => by rw [e] at hx; exact absurd hx (by decide))]
    · rw [en_X12_fault, sg_X12_fault_0, show pm_wI σ 133 0 (nI 0) = th0 σ from rfl, r_rng_n _ _ (L := 0) (H := 1) (a := 0) (b := 1) (by decide) (by decide) hx]
      simp only [pm_cl_some, Option.toList_some, Option.toList_none, List.cons_append, List.nil_append]
      rw [sg_X12_fault_12, if_pos n00]
  · have hr : ∀ σ1, xe (d + 33) 68 [.ref 133, .int (nI j)] σ1 = (if nI j = 0 then pm_cl (xe (d + 32) 70 [.ref 133] (th0 σ1)) (fun r => pm_run (xe (d + 32)) pg_X12_fault (26, [.ref 133, .int (nI j)], r.1.toList ++ [], r.2)) else pm_cl (xe (d + 32) 90 [.ref 133, .ref 134, .int (nI 0), .int ((th0 σ1).1 133 6)] (th0 σ1)) (fun r => pm_run (xe (d + 32)) pg_X12_fault (42, [.ref 133, .int (nI j)], r.1.toList ++ [], r.2))) := by
      intro σ1
      rw [en_X12_fault, sg_X12_fault_0, show pm_wI σ1 133 0 (nI 0) = th0 σ1 from rfl, r_rng_y _ _ (L := 0) (H := 1) (a := 0) (b := 1) (by decide) (by decide) (by omega) hj (by omega)]
      simp only [pm_cl_some, Option.toList_some, Option.toList_none, List.cons_append, List.nil_append]
      rw [sg_X12_fault_12, if_neg n10]
    have fin : ∀ σ1 σ2 (v : Int32), sameX σ (th0 σ1) → sameX (th0 σ1) σ2 → PostW k sz T R nl V σ2 := fun σ1 σ2 _ s1 s2 => by
      obtain ⟨hB, hW'⟩ := sameX_R (sameX_tr s1 s2) h w
      exact PostW_Q hB hW' (sameQ_rfl _) hW'.2.2.2.1 hW'.2.2.2.2.1
    have r6 : ∀ σ1, sameX σ (th0 σ1) → (th0 σ1).1 133 6 = nI m ∧ ∀ i, i < m → (th0 σ1).1 134 i = byt (b i) := fun σ1 s1 => ⟨(s1.2.1.2.2 6 (by omega)).trans t3, fun i hi => by rw [s1.2.1.1 134 rfl]; exact (t4 i hi).2⟩
    rcases (show j = 0 ∨ j = 1 by omega) with rfl | rfl
    · obtain ⟨M, hM, hc⟩ := q_readHall (d + 24) ht
      rw [if_pos n00]
      rw [hal_eq 121 0 _ (Nat.zero_le _)] at hc
      cases hH : halR b m 121 0 (0, fun _ => usL, false, usR) with
      | inl g =>
        rw [hH] at hc
        obtain ⟨hg, σ'', p', fr, ho⟩ := hc
        rw [show xe (d + 31) 23 [.ref 6] σ = _ from ho]
        simp only [pm_cl_some, Option.toList_some, Option.toList_none, List.cons_append, List.nil_append]
        rw [sg_X11_fault_11]
        have s1 : sameX σ (th0 (lx σ'' p' (nI g) M (σ.1 11))) := sameX_th (X_lx fr.1 fr.2)
        obtain ⟨e6, e134⟩ := r6 _ s1
        have hm := r_readHall (d + 24) (σ := th0 (lx σ'' p' (nI g) M (σ.1 11))) hb e6 e134
        rw [hH] at hm
        obtain ⟨-, σ3, p3, fm, ho'⟩ := hm
        refine ⟨_, _, _, rfl, ?_, fin _ _ 0 s1 (X_my (p := p3) (f := nI g) (dp := (sg5 (th0 (lx σ'' p' (nI g) M (σ.1 11))) m).1 133 12) fm)⟩
        rw [hr, if_pos n00, show xe (d + 32) 70 [.ref 133] (th0 (lx σ'' p' (nI g) M (σ.1 11))) = _ from ho']
        simp only [pm_cl_some, Option.toList_some, Option.toList_none, List.cons_append, List.nil_append]
        rw [sg_X12_fault_26, my_11]
      | inr st =>
        rw [hH] at hc
        obtain ⟨hg, σ'', p', hS, ho⟩ := hc
        rw [show xe (d + 31) 23 [.ref 6] σ = _ from ho]
        simp only [pm_cl_some, Option.toList_some, Option.toList_none, List.cons_append, List.nil_append]
        rw [sg_X11_fault_11]
        have s1 : sameX σ (th0 (lx σ'' p' (-1) M (σ.1 11))) := sameX_th (X_lx hS.1.1 hS.1.2)
        obtain ⟨e6, e134⟩ := r6 _ s1
        have hm := r_readHall (d + 24) (σ := th0 (lx σ'' p' (-1) M (σ.1 11))) hb e6 e134
        rw [hH] at hm
        obtain ⟨-, σ3, p3, hm', ho'⟩ := hm
        refine ⟨_, _, _, rfl, ?_, fin _ _ 0 s1 (X_my (p := p3) (f := -1) (dp := (sg5 (th0 (lx σ'' p' (-1) M (σ.1 11))) m).1 133 12) hm'.1)⟩
        rw [hr, if_pos n00, show xe (d + 32) 70 [.ref 133] (th0 (lx σ'' p' (-1) M (σ.1 11))) = _ from ho']
        simp only [pm_cl_some, Option.toList_some, Option.toList_none, List.cons_append, List.nil_append]
        rw [sg_X12_fault_26, my_11]
    · have hc := q_readLaw d ht
      rw [if_neg n10, if_pos rfl]
      cases hH : pLaw b m with
      | inl g =>
        rw [hH] at hc
        obtain ⟨p', m', s', hp', hm', ho⟩ := hc
        rw [ho]
        simp only [pm_cl_some, Option.toList_some, Option.toList_none, List.cons_append, List.nil_append]
        rw [sg_X11_fault_24]
        have s1 : sameX σ (th0 (lx σ p' (nI g) m' s')) := sameX_th (X_lx (fun _ _ => rfl) rfl)
        obtain ⟨e6, e134⟩ := r6 _ s1
        obtain ⟨σ3, i1, i2, i3⟩ := r_go_t d (B := 0) (σ := th0 (lx σ p' (nI g) m' s')) hb (by have := hb.1; omega) (fun i hi => by rw [Nat.zero_add]; exact e134 i hi) (by rw [LM_same (s1.2.1.1 137 rfl)]; exact w.2.2.2.2.1)
        rw [hH] at i3
        refine ⟨_, _, _, rfl, ?_, fin _ _ 0 s1 (X_g i2)⟩
        rw [hr, if_neg n10, e6, i1]
        simp only [pm_cl_some, Option.toList_some, Option.toList_none, List.cons_append, List.nil_append]
        rw [sg_X12_fault_42, show σ3.1 133 11 = nI g from i3]
      | inr cvq =>
        obtain ⟨c, v, q⟩ := cvq
        rw [hH] at hc
        have ho : xe (d + 31) 56 [.ref 10] σ = some (some (.int (-1)), lx σ q (-1) c.length (pts (σ.1 11) 0 c)) := hc
        rw [ho]
        simp only [pm_cl_some, Option.toList_some, Option.toList_none, List.cons_append, List.nil_append]
        rw [sg_X11_fault_24]
        have s1 : sameX σ (th0 (lx σ q (-1) c.length (pts (σ.1 11) 0 c))) := sameX_th (X_lx (fun _ _ => rfl) rfl)
        obtain ⟨e6, e134⟩ := r6 _ s1
        obtain ⟨σ3, i1, i2, i3⟩ := r_go_t d (B := 0) (σ := th0 (lx σ q (-1) c.length (pts (σ.1 11) 0 c))) hb (by have := hb.1; omega) (fun i hi => by rw [Nat.zero_add]; exact e134 i hi) (by rw [LM_same (s1.2.1.1 137 rfl)]; exact w.2.2.2.2.1)
        rw [hH] at i3
        refine ⟨_, _, _, rfl, ?_, fin _ _ 0 s1 (X_g i2)⟩
        rw [hr, if_neg n10, e6, i1]
        simp only [pm_cl_some, Option.toList_some, Option.toList_none, List.cons_append, List.nil_append]
        rw [sg_X12_fault_42, show σ3.1 133 11 = -1 from i3.1]

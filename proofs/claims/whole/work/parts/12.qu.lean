/-! ===== undo, image, back ===== -/
theorem r_copy_l (d : Nat) {q0 q1 N : Nat} (h0 : rw_ok q0) (h1 : rw_ok q1) (hne : q0 ≠ q1) (hN : N ≤ 251) : ∀ (k i : Nat) (σ : pm_H), i + k = N → pm_run (xe d) pg_X12_copy (12, [.ref q0, .ref q1, .int (nI N), .int (nI i)], [], σ) = some (none, pm_wC σ q1 (fun j => if i ≤ j ∧ j < N then σ.1 q0 j else σ.1 q1 j))
  | 0, i, σ, h => by
    rw [sg_X12_copy_12 h0 h1, if_neg (nI_nlt (by omega) (by omega))]
    have : (fun j => if i ≤ j ∧ j < N then σ.1 q0 j else σ.1 q1 j) = σ.1 q1 := funext fun j => if_neg (by omega)
    rw [this, wC_self]
  | k + 1, i, σ, h => by
    rw [sg_X12_copy_12 h0 h1, if_pos (nI_lt (by omega) (by omega))]
    simp (disch := omega) only [nI_add, ck_n, nI_clamp]
    rw [r_copy_l d h0 h1 hne hN k (i + 1) _ (by omega)]
    simp only [wI_wC, wC_wC, wC_at, wC_ne σ _ hne]
    have : (fun j => if i + 1 ≤ j ∧ j < N then σ.1 q0 j else upd (σ.1 q1) i (σ.1 q0 i) j) = (fun j => if i ≤ j ∧ j < N then σ.1 q0 j else σ.1 q1 j) := funext fun j => by
      by_cases c : j = i
      · subst c
        rw [if_neg (by omega), if_pos (by omega), up_at]
      · rw [up_ne _ _ c]
        by_cases c2 : i ≤ j ∧ j < N
        · rw [if_pos c2, if_pos (by omega)]
        · rw [if_neg c2, if_neg (by omega)]
    rw [this]
def u_copy (w w' : Nat → Int32) (n : Nat) : Nat → Int32 := fun j => if j < 71 + 5 * n then w j else w' j
theorem r_copy (d : Nat) (σ : pm_H) {q0 q1 n : Nat} (h0 : rw_ok q0) (h1 : rw_ok q1) (hne : q0 ≠ q1) (hn : n ≤ 36) (h70 : σ.1 q0 70 = nI n) : xe (d + 1) 221 [.ref q0, .ref q1] σ = some (none, pm_wC σ q1 (u_copy (σ.1 q0) (σ.1 q1) n)) := by
  rw [en_X12_copy, sg_X12_copy_0 h0 h1]
  simp (disch := omega) only [ck_n, nI_clamp, h70, pk_mul, nI_add]
  rw [r_copy_l d h0 h1 hne (by omega) (71 + 5 * n) 0 σ (by omega)]
  simp only [Nat.zero_le, true_and]
  rfl
theorem rw_image : rw_ok 156 := rfl
/-- a log becomes another -/
def x_lb (σ : pm_H) (b c : Nat) : pm_H :=
  pm_wC (pm_wC (pm_wC (pm_wC (pm_wC (pm_wC σ b (upd (σ.1 b) 5 (σ.1 c 5))) (b + 1) (va_cpy (σ.1 (c + 1)) (σ.1 (b + 1)) 0 0 36)) (b + 2) (va_cpy (σ.1 (c + 2)) (σ.1 (b + 2)) 0 0 36)) (b + 3) (va_cpy (σ.1 (c + 3)) (σ.1 (b + 3)) 0 0 36)) (b + 4) (va_cpy (σ.1 (c + 4)) (σ.1 (b + 4)) 0 0 36)) (b + 5) (va_cpy (σ.1 (c + 5)) (σ.1 (b + 5)) 0 0 36)
theorem cp36 (t : Option pm_R) : pm_cpk (nI 0) (nI 0) (nI 36) 36 36 t = t := if_pos (by decide)
theorem q_logBi (d : Nat) (σ : pm_H) : xe (d + 1) 317 [.ref 35, .ref 27] σ = some (none, x_lb σ 35 27) := by
  rw [en_X6_become_i, sg_X6_become_i_0, cp36]
  simp (disch := omega) only [nI_clamp, wI_wC, wC_ne]
  rw [sg_X6_become_i_23, cp36, cp36]
  simp (disch := omega) only [nI_clamp, wI_wC, wC_ne]
  rw [sg_X6_become_i_53, cp36, cp36]
  simp (disch := omega) only [nI_clamp, wI_wC, wC_ne]
  rfl
theorem q_logBb (d : Nat) (σ : pm_H) : xe (d + 1) 317 [.ref 27, .ref 35] σ = some (none, x_lb σ 27 35) := by
  rw [en_X6_become_b, sg_X6_become_b_0, cp36]
  simp (disch := omega) only [nI_clamp, wI_wC, wC_ne]
  rw [sg_X6_become_b_23, cp36, cp36]
  simp (disch := omega) only [nI_clamp, wI_wC, wC_ne]
  rw [sg_X6_become_b_53, cp36, cp36]
  simp (disch := omega) only [nI_clamp, wI_wC, wC_ne]
  rfl
theorem xlb_ne (σ : pm_H) {b c q : Nat} (h : q < b ∨ b + 5 < q) : (x_lb σ b c).1 q = σ.1 q := by
  unfold x_lb
  simp (disch := omega) only [wC_ne]
theorem xlb_0 (σ : pm_H) (b c : Nat) : (x_lb σ b c).1 b 5 = σ.1 c 5 := by
  unfold x_lb
  simp (disch := omega) only [wC_ne, wC_at, up_at]
theorem xlb_q (σ : pm_H) {b c q i : Nat} (hq : q < 5) (hi : i < 36) : lgs (x_lb σ b c) (b + 1) q i = lgs σ (c + 1) q i := by
  unfold lgs x_lb
  rcases (show q = 0 ∨ q = 1 ∨ q = 2 ∨ q = 3 ∨ q = 4 by omega) with rfl | rfl | rfl | rfl | rfl <;> (simp (disch := omega) only [Nat.add_assoc, Nat.reduceAdd, wC_ne, wC_at]; rw [pk_cpy_in (by omega) (by omega)]; simp only [Nat.zero_add, Nat.sub_zero])
theorem cpy71 (f g : Nat → Int32) {j : Nat} (hj : j < 71) : va_cpy f g 0 0 71 j = f j := by
  rw [pk_cpy_in (by omega) (by omega), Nat.zero_add, Nat.sub_zero]
theorem b_image (d : Nat) {k sz n a e : Nat} {T R : Nat → Nat} {σ : pm_H} (h : RelB k sz T R n a e σ) : Both (d + 2) (d + 2) 316 318 [] σ (PostB k sz T R σ) := by
  have hh := h
  obtain ⟨⟨h1, h2, h3, h4, h5, h6, h7⟩, ⟨h8, h9⟩, ⟨⟨h10, h11, h12, h13, h14⟩, h15⟩, ⟨h16, h17⟩, h18, h19⟩ := hh
  obtain ⟨hn36, hf4, hw70⟩ := relM_n h3 h4 h8
  unfold Both
  rw [en_X11_image, sg_X11_image_0, h1]
  have hz : (th0 σ).1 133 22 = nI sz := by rw [th_f _ (by decide)]; exact h2
  by_cases c : sz = 0
  · subst c
    refine ⟨.int (-1), σ, th0 σ, by rw [if_pos n00], ?_, PostB_th h⟩
    rw [en_X12_image, sg_X12_image_0, show pm_wI σ 133 0 (nI 0) = th0 σ from rfl, hz, if_pos n00]
  · rw [if_neg (nI_ne0 (by omega) (by omega)), q_become d σ st_33 st_23]
    simp only [pm_cl_some, Option.toList_none, List.nil_append, Nat.reduceAdd]
    rw [sg_X11_image_23, q_logBi d]
    simp only [pm_cl_some, Option.toList_none, List.nil_append]
    rw [sg_X11_image_34, q_made d _ st_23]
    simp only [pm_cl_some, Option.toList_some, List.cons_append, List.nil_append, Nat.reduceAdd]
    rw [sg_X11_image_46]
    generalize hs1 : pm_wI (x_lb (pm_wC σ 34 (va_cpy (σ.1 24) (σ.1 34) 0 0 71)) 35 27) 0 17 (nI 1) = s1
    have cc : ∀ c, c ≠ 0 → (c < 34 ∨ 40 < c) → s1.1 c = σ.1 c := fun c c0 c1 => by
      rw [← hs1, wI_wC, wC_ne _ _ c0, xlb_ne _ (by omega), wC_ne _ _ (by omega)]
    have c0 : ∀ j, j ≠ 17 → s1.1 0 j = σ.1 0 j := fun j hj => by
      rw [← hs1, wI_wC, wC_at, up_ne _ _ hj, xlb_ne _ (by omega), wC_ne _ _ (by omega)]
    have c17 : s1.1 0 17 = nI 1 := by rw [← hs1, wI_wC, wC_at, up_at]
    have c34 : ∀ j, j < 71 → s1.1 34 j = σ.1 24 j := fun j hj => by
      rw [← hs1, wI_wC, wC_ne _ _ (by decide), xlb_ne _ (by omega), wC_at, cpy71 _ _ hj]
    have c35 : s1.1 35 5 = σ.1 27 5 := by
      rw [← hs1, wI_wC, wC_ne _ _ (by decide), xlb_0, wC_ne _ _ (by decide)]
    have c36 : ∀ q i, q < 5 → i < 36 → lgs s1 36 q i = lgs σ 28 q i := fun q i hq hi => by
      have : lgs s1 36 q i = lgs (x_lb (pm_wC σ 34 (va_cpy (σ.1 24) (σ.1 34) 0 0 71)) 35 27) 36 q i := by
        unfold lgs
        rw [← hs1, wI_wC, wC_ne _ _ (by omega)]
      rw [this]
      refine (xlb_q _ (b := 35) (c := 27) hq hi).trans ?_
      unfold lgs
      rw [wC_ne _ _ (by omega)]
    rw [cc 24 (by decide) (by decide), hf4]
    have cL : ∀ b q, 0 < b → b + q < 34 ∨ 40 < b + q → lgs s1 b q = lgs σ b q := fun b q h0 hq => by
      unfold lgs
      exact cc _ (by omega) hq
    refine ⟨_, _, pm_wI (pm_wC (th0 s1) 156 (u_copy (σ.1 142) (σ.1 156) n)) 133 47 (nI 1), rfl, ?_, ?_⟩
    · rw [en_X12_image, sg_X12_image_0, show pm_wI s1 133 0 (nI 0) = th0 s1 from rfl, th_f _ (by decide), cc 133 (by decide) (by decide), h2, if_neg (nI_ne0 (by omega) (by omega)), r_copy d (th0 s1) rw_now rw_image (by decide) hn36 (by rw [th_ne _ (by decide), cc 142 (by decide) (by decide)]; exact hw70), th_ne _ (by decide), th_ne _ (by decide), cc 142 (by decide) (by decide), cc 156 (by decide) (by decide)]
      simp only [pm_cl_some, Option.toList_none, List.nil_append]
      rw [sg_X12_image_25, ck_n _ (by omega) (by omega), nI_clamp (by omega), wI_wC, wC_ne _ _ (by decide), wC_ne _ _ (by decide), th_ne _ (by decide), cc 142 (by decide) (by decide), hw70]
    · generalize hs2 : pm_wI (pm_wC (th0 s1) 156 (u_copy (σ.1 142) (σ.1 156) n)) 133 47 (nI 1) = s2
      have d1 : ∀ c, c ≠ 133 → c ≠ 156 → s2.1 c = s1.1 c := fun c e1 e2 => by
        rw [← hs2, wI_wC, wC_ne _ _ e1, wC_ne _ _ e2, th_ne _ e1]
      have d2 : ∀ j, j ≠ 0 → j ≠ 47 → s2.1 133 j = σ.1 133 j := fun j e0 e1 => by
        rw [← hs2, wI_wC, wC_at, up_ne _ _ e1, wC_ne _ _ (by decide), th_f _ e0, cc 133 (by decide) (by decide)]
      have d3 : s2.1 133 47 = nI 1 := by rw [← hs2, wI_wC, wC_at, up_at]
      have d4 : s2.1 156 = u_copy (σ.1 142) (σ.1 156) n := by rw [← hs2, wI_wC, wC_ne _ _ (by decide), wC_at]
      have dd : ∀ c, c ≠ 0 → (c < 34 ∨ 40 < c) → c ≠ 133 → c ≠ 156 → s2.1 c = σ.1 c := fun c e0 e1 e2 e3 => (d1 c e2 e3).trans (cc c e0 e1)
      have dL : ∀ b q, 0 < b → b + q < 133 → lgs s2 b q = lgs s1 b q := fun b q h0 hq => by
        unfold lgs
        exact d1 _ (by omega) (by omega)
      refine ⟨⟨n, a, e, RelB_mono (k := k) ⟨⟨?_, ?_, h3, h4, ?_, ?_, ?_⟩, ⟨?_, ?_⟩, ⟨⟨h10, h11, ?_, ?_, ?_⟩, ?_⟩, ⟨?_, Or.inr ⟨?_, n, ?_, ?_⟩⟩, ?_, ?_⟩ (Nat.le_succ k)⟩, ⟨?_, ?_, ?_⟩, ?_, ?_⟩
      · rw [dd 3 (by decide) (by decide) (by decide) (by decide)]; exact h1
      · rw [d2 22 (by decide) (by decide)]; exact h2
      · rw [dd 4 (by decide) (by decide) (by decide) (by decide), dd 5 (by decide) (by decide) (by decide) (by decide)]; exact h5
      · rw [dd 4 (by decide) (by decide) (by decide) (by decide), dd 138 (by decide) (by decide) (by decide) (by decide)]; exact h6
      · rw [dd 140 (by decide) (by decide) (by decide) (by decide), dd 5 (by decide) (by decide) (by decide) (by decide)]; exact h7
      · rw [dd 5 (by decide) (by decide) (by decide) (by decide), dd 24 (by decide) (by decide) (by decide) (by decide), dd 142 (by decide) (by decide) (by decide) (by decide)]
        exact relM_ext h3 (fun _ _ => rfl) (fun _ _ => rfl) (fun q i hq _ => by rw [dL 28 q (by omega) (by omega), cL 28 q (by omega) (by omega)]) h8
      · rw [dd 27 (by decide) (by decide) (by decide) (by decide)]; exact h9
      · rw [d1 0 (by decide) (by decide), c0 16 (by decide)]; exact h12
      · rw [d1 0 (by decide) (by decide), c0 15 (by decide)]; exact h13
      · rw [d2 33 (by decide) (by decide)]; exact h14
      · rw [dd 5 (by decide) (by decide) (by decide) (by decide), dd 146 (by decide) (by decide) (by decide) (by decide)]
        exact relP_ext h3 h15 (fun i hi j _ => by rw [dL 93 i (by omega) (by omega), cL 93 i (by omega) (by omega)]) (fun q i hq _ => by rw [dL 28 q (by omega) (by omega), cL 28 q (by omega) (by omega)])
      · rw [d3, d1 0 (by decide) (by decide), c17]
      · rw [d1 0 (by decide) (by decide), c17]
      · rw [dd 5 (by decide) (by decide) (by decide) (by decide), d1 34 (by decide) (by decide), d4]
        refine relM_ext h3 c34 (fun j hj => ?_) (fun q i hq hi => ?_) h8
        · unfold u_copy
          rw [if_pos hj]
        · rw [dL 36 q (by omega) (by omega), c36 q i hq (by omega)]
      · rw [d1 35 (by decide) (by decide), c35]; exact h9
      · rw [d2 29 (by decide) (by decide), d1 0 (by decide) (by decide), c0 18 (by decide)]; exact h18
      · rw [d1 0 (by decide) (by decide), c0 18 (by decide)]; exact h19
      · intro c hc
        unfold kpL at hc
        simp only [decide_eq_true_eq] at hc
        exact dd c (by omega) (by omega) (by omega) (by omega)
      · rw [dd 1 (by decide) (by decide) (by decide) (by decide)]
      · exact fun i hi => d2 i (by omega) (by omega)
      · rw [← hs2, ← hs1]; rfl
      · exact dd 145 (by decide) (by decide) (by decide) (by decide)
theorem b_back (d : Nat) {k sz n a e : Nat} {T R : Nat → Nat} {σ : pm_H} (h : RelB k sz T R n a e σ) : Both (d + 2) (d + 2) 319 320 [] σ (PostB k sz T R σ) := by
  have hh := h
  obtain ⟨⟨h1, h2, h3, h4, h5, h6, h7⟩, ⟨h8, h9⟩, ⟨⟨h10, h11, h12, h13, h14⟩, h15⟩, ⟨h16, h17⟩, h18, h19⟩ := hh
  unfold Both
  rw [en_X11_back, sg_X11_back_0]
  rcases h17 with h17 | ⟨h17, m, h20, h21⟩
  · refine ⟨.int (-1), σ, th0 σ, by rw [h17, if_pos n00], ?_, PostB_th h⟩
    rw [en_X12_back, sg_X12_back_0, show pm_wI σ 133 0 (nI 0) = th0 σ from rfl, th_f _ (by decide), h16, h17, if_pos n00]
  · obtain ⟨hn36, hf4, hw70⟩ := relM_n h3 h4 h20
    rw [h17, if_neg n10, q_become d σ st_23 st_33]
    simp only [pm_cl_some, Option.toList_none, List.nil_append, Nat.reduceAdd]
    rw [sg_X11_back_20, q_logBb d]
    simp only [pm_cl_some, Option.toList_none, List.nil_append]
    rw [sg_X11_back_31, q_made d _ st_23]
    simp only [pm_cl_some, Option.toList_some, List.cons_append, List.nil_append, Nat.reduceAdd]
    rw [sg_X11_back_43]
    generalize hs1 : pm_wI (x_lb (pm_wC σ 24 (va_cpy (σ.1 34) (σ.1 24) 0 0 71)) 27 35) 0 16 (nI 0) = s1
    have cc : ∀ c, c ≠ 0 → c ≠ 24 → (c < 27 ∨ 32 < c) → s1.1 c = σ.1 c := fun c c0 c2 c1 => by
      rw [← hs1, wI_wC, wC_ne _ _ c0, xlb_ne _ (by omega), wC_ne _ _ (by omega)]
    have c0 : ∀ j, j ≠ 16 → s1.1 0 j = σ.1 0 j := fun j hj => by
      rw [← hs1, wI_wC, wC_at, up_ne _ _ hj, xlb_ne _ (by omega), wC_ne _ _ (by omega)]
    have c16 : s1.1 0 16 = nI 0 := by rw [← hs1, wI_wC, wC_at, up_at]
    have c24 : ∀ j, j < 71 → s1.1 24 j = σ.1 34 j := fun j hj => by
      rw [← hs1, wI_wC, wC_ne _ _ (by decide), xlb_ne _ (by omega), wC_at, cpy71 _ _ hj]
    have c27 : s1.1 27 5 = σ.1 35 5 := by
      rw [← hs1, wI_wC, wC_ne _ _ (by decide), xlb_0, wC_ne _ _ (by decide)]
    have c28 : ∀ q i, q < 5 → i < 36 → lgs s1 28 q i = lgs σ 36 q i := fun q i hq hi => by
      have : lgs s1 28 q i = lgs (x_lb (pm_wC σ 24 (va_cpy (σ.1 34) (σ.1 24) 0 0 71)) 27 35) 28 q i := by
        unfold lgs
        rw [← hs1, wI_wC, wC_ne _ _ (by omega)]
      rw [this]
      refine (xlb_q _ (b := 27) (c := 35) hq hi).trans ?_
      unfold lgs
      rw [wC_ne _ _ (by omega)]
    rw [c24 4 (by omega), hf4]
    refine ⟨_, _, pm_wI (pm_wC (th0 s1) 142 (u_copy (σ.1 156) (σ.1 142) m)) 133 33 (nI 0), rfl, ?_, ?_⟩
    · rw [en_X12_back, sg_X12_back_0, show pm_wI s1 133 0 (nI 0) = th0 s1 from rfl, th_f _ (by decide), cc 133 (by decide) (by decide) (by decide), h16, h17, if_neg n10, r_copy d (th0 s1) rw_image rw_now (by decide) hn36 (by rw [th_ne _ (by decide), cc 156 (by decide) (by decide) (by decide)]; exact hw70), th_ne _ (by decide), th_ne _ (by decide), cc 142 (by decide) (by decide) (by decide), cc 156 (by decide) (by decide) (by decide)]
      simp only [pm_cl_some, Option.toList_none, List.nil_append]
      rw [sg_X12_back_25, ck_n _ (by omega) (by omega), nI_clamp (by omega), wI_wC, wC_ne _ _ (by decide), wC_at]
      unfold u_copy
      rw [if_pos (by omega), hw70]
    · generalize hs2 : pm_wI (pm_wC (th0 s1) 142 (u_copy (σ.1 156) (σ.1 142) m)) 133 33 (nI 0) = s2
      have d1 : ∀ c, c ≠ 133 → c ≠ 142 → s2.1 c = s1.1 c := fun c e1 e2 => by
        rw [← hs2, wI_wC, wC_ne _ _ e1, wC_ne _ _ e2, th_ne _ e1]
      have d2 : ∀ j, j ≠ 0 → j ≠ 33 → s2.1 133 j = σ.1 133 j := fun j e0 e1 => by
        rw [← hs2, wI_wC, wC_at, up_ne _ _ e1, wC_ne _ _ (by decide), th_f _ e0, cc 133 (by decide) (by decide) (by decide)]
      have d3 : s2.1 133 33 = nI 0 := by rw [← hs2, wI_wC, wC_at, up_at]
      have d4 : s2.1 142 = u_copy (σ.1 156) (σ.1 142) m := by rw [← hs2, wI_wC, wC_ne _ _ (by decide), wC_at]
      have dd : ∀ c, c ≠ 0 → c ≠ 24 → (c < 27 ∨ 32 < c) → c ≠ 133 → c ≠ 142 → s2.1 c = σ.1 c := fun c e0 e4 e1 e2 e3 => (d1 c e2 e3).trans (cc c e0 e4 e1)
      have dL : ∀ b q, 0 < b → b + q < 133 → lgs s2 b q = lgs s1 b q := fun b q h0 hq => by
        unfold lgs
        exact d1 _ (by omega) (by omega)
      refine ⟨⟨m, 0, e, RelB_mono (k := k) ⟨⟨?_, ?_, h3, h4, ?_, ?_, ?_⟩, ⟨?_, ?_⟩, ⟨⟨by omega, h11, ?_, ?_, ?_⟩, ?_⟩, ⟨?_, Or.inr ⟨?_, m, ?_, ?_⟩⟩, ?_, ?_⟩ (Nat.le_succ k)⟩, ⟨?_, ?_, ?_⟩, ?_, ?_⟩
      · rw [dd 3 (by decide) (by decide) (by decide) (by decide) (by decide)]; exact h1
      · rw [d2 22 (by decide) (by decide)]; exact h2
      · rw [dd 4 (by decide) (by decide) (by decide) (by decide) (by decide), dd 5 (by decide) (by decide) (by decide) (by decide) (by decide)]; exact h5
      · rw [dd 4 (by decide) (by decide) (by decide) (by decide) (by decide), dd 138 (by decide) (by decide) (by decide) (by decide) (by decide)]; exact h6
      · rw [dd 140 (by decide) (by decide) (by decide) (by decide) (by decide), dd 5 (by decide) (by decide) (by decide) (by decide) (by decide)]; exact h7
      · rw [dd 5 (by decide) (by decide) (by decide) (by decide) (by decide), d1 24 (by decide) (by decide), d4]
        refine relM_ext h3 c24 (fun j hj => ?_) (fun q i hq hi => ?_) h20
        · unfold u_copy
          rw [if_pos hj]
        · rw [dL 28 q (by omega) (by omega), c28 q i hq (by omega)]
      · rw [d1 27 (by decide) (by decide), c27]; exact h21
      · rw [d1 0 (by decide) (by decide), c16]
      · rw [d1 0 (by decide) (by decide), c0 15 (by decide)]; exact h13
      · rw [d3]
      · exact ⟨fun _ => 0, fun _ _ _ hq => by omega, fun p hp => by omega⟩
      · rw [d2 47 (by decide) (by decide), d1 0 (by decide) (by decide), c0 17 (by decide)]; exact h16
      · rw [d1 0 (by decide) (by decide), c0 17 (by decide)]; exact h17
      · rw [dd 5 (by decide) (by decide) (by decide) (by decide) (by decide), dd 34 (by decide) (by decide) (by decide) (by decide) (by decide), dd 156 (by decide) (by decide) (by decide) (by decide) (by decide)]
        refine relM_ext h3 (fun _ _ => rfl) (fun _ _ => rfl) (fun q i hq hi => ?_) h20
        rw [dL 36 q (by omega) (by omega)]
        unfold lgs
        rw [cc (36 + q) (by omega) (by omega) (by omega)]
      · rw [dd 35 (by decide) (by decide) (by decide) (by decide) (by decide)]; exact h21
      · rw [d2 29 (by decide) (by decide), d1 0 (by decide) (by decide), c0 18 (by decide)]; exact h18
      · rw [d1 0 (by decide) (by decide), c0 18 (by decide)]; exact h19
      · intro c hc
        unfold kpL at hc
        simp only [decide_eq_true_eq] at hc
        exact dd c (by omega) (by omega) (by omega) (by omega) (by omega)
      · rw [dd 1 (by decide) (by decide) (by decide) (by decide) (by decide)]
      · exact fun i hi => d2 i (by omega) (by omega)
      · rw [← hs2, ← hs1]; rfl
      · exact dd 145 (by decide) (by decide) (by decide) (by decide) (by decide)
theorem r_undo_l (d : Nat) {a : Nat} (ha : a < 40) : ∀ (k i : Nat) (σ : pm_H), i + k = 251 → σ.1 133 33 = nI a → pm_run (xe d) pg_X12_undo (26, [.ref 133, .int (nI i)], [], σ) = some (some (.int (nI a)), pm_wC σ 142 (fun j => if i ≤ j ∧ j < 251 then σ.1 146 (251 * a + j) else σ.1 142 j))
  | 0, i, σ, h, h33 => by
    rw [sg_X12_undo_26, if_neg (nI_nlt (by omega) (by omega)), h33]
    have : (fun j => if i ≤ j ∧ j < 251 then σ.1 146 (251 * a + j) else σ.1 142 j) = σ.1 142 := funext fun j => if_neg (by omega)
    rw [this, wC_self]
  | k + 1, i, σ, h, h33 => by
    rw [sg_X12_undo_26, if_pos (nI_lt (by omega) (by omega)), h33]
    simp (disch := omega) only [pk_mul, nI_add, ck_n, nI_clamp]
    rw [r_undo_l d ha k (i + 1) _ (by omega) (by rw [wI_wC, wC_ne _ _ (by decide)]; exact h33)]
    simp only [wI_wC, wC_wC, wC_at, wC_ne σ _ (show 146 ≠ 142 by decide)]
    have : (fun j => if i + 1 ≤ j ∧ j < 251 then σ.1 146 (251 * a + j) else upd (σ.1 142) i (σ.1 146 (251 * a + i)) j) = (fun j => if i ≤ j ∧ j < 251 then σ.1 146 (251 * a + j) else σ.1 142 j) := funext fun j => by
      by_cases c : j = i
      · subst c
        rw [if_neg (by omega), if_pos (by omega), up_at]
      · rw [up_ne _ _ c]
        by_cases c2 : i ≤ j ∧ j < 251
        · rw [if_pos c2, if_pos (by omega)]
        · rw [if_neg c2, if_neg (by omega)]
    rw [this]
theorem b_undo (d : Nat) {k sz n a e : Nat} {T R : Nat → Nat} {σ : pm_H} (h : RelB k sz T R n a e σ) : Both (d + 2) (d + 1) 202 204 [] σ (PostB k sz T R σ) := by
  have hh := h
  obtain ⟨⟨h1, h2, h3, h4, h5, h6, h7⟩, ⟨h8, h9⟩, ⟨⟨h10, h11, h12, h13, h14⟩, h15⟩, ⟨h16, h17⟩, h18, h19⟩ := hh
  unfold Both
  have hE : (((σ.1 0 15 + nI 40) - nI 1) - ((σ.1 0 15 + nI 40) - nI 1) / nI 40 * nI 40) = nI ((e + 39) % 40) := by
    rw [h13, nI_add, pk_sub (by omega), pk_rem (by omega) (by omega) (by omega), show e + 40 - 1 = e + 39 by omega]
  have he2 : (e + 39) % 40 < 40 := Nat.mod_lt _ (by omega)
  have hcp : ∀ t : Option pm_R, pm_cpk (nI 0) (nI 0) (nI 71) 71 71 t = t := fun t => if_pos (by decide)
  rw [en_X11_undo, sg_X11_undo_0 (by rw [hE, wI_wC, wC_at, up_at, nI_clamp (by omega)]; exact kd_past _ he2), h12]
  by_cases c : a = 0
  · subst c
    refine ⟨.int (-1), σ, th0 σ, by rw [if_pos n00], ?_, PostB_th h⟩
    rw [en_X12_undo, sg_X12_undo_0, show pm_wI σ 133 0 (nI 0) = th0 σ from rfl, th_f _ (by decide), h14, if_pos n00]
  · obtain ⟨m, hm, h20, h21⟩ := relP_pop (by omega) h10 h11 h15
    obtain ⟨hn36, hf4, hw70⟩ := relM_n h3 h4 h20
    rw [if_neg (nI_ne0 (by omega) (by omega)), hE]
    simp only [wI_wC, wC_at, up_at]
    rw [ck_n _ he2 (by omega), hcp]
    simp (disch := omega) only [nI_clamp, wC_ne]
    rw [sg_X11_undo_48, q_made d _ st_23]
    simp only [pm_cl_some, Option.toList_some, List.cons_append, List.nil_append, Nat.reduceAdd]
    rw [sg_X11_undo_69]
    have hv : (pm_wI (pm_wC (pm_wC σ 0 (upd (σ.1 0) 15 (nI ((e + 39) % 40)))) 24 (va_cpy (σ.1 (93 + (e + 39) % 40)) (σ.1 24) 0 0 71)) 0 16 ((pm_wC (pm_wC σ 0 (upd (σ.1 0) 15 (nI ((e + 39) % 40)))) 24 (va_cpy (σ.1 (93 + (e + 39) % 40)) (σ.1 24) 0 0 71)).1 0 16 - nI 1)).1 24 4 = nI m := by
      rw [wI_wC, wC_ne _ _ (by decide), wC_at, cpy71 _ _ (by omega)]
      exact hf4
    rw [hv]
    generalize hs1 : pm_wI (pm_wI (pm_wC (pm_wC σ 0 (upd (σ.1 0) 15 (nI ((e + 39) % 40)))) 24 (va_cpy (σ.1 (93 + (e + 39) % 40)) (σ.1 24) 0 0 71)) 0 16 ((pm_wC (pm_wC σ 0 (upd (σ.1 0) 15 (nI ((e + 39) % 40)))) 24 (va_cpy (σ.1 (93 + (e + 39) % 40)) (σ.1 24) 0 0 71)).1 0 16 - nI 1)) 27 5 (nI m) = s1
    have cc : ∀ c, c ≠ 0 → c ≠ 24 → c ≠ 27 → s1.1 c = σ.1 c := fun c c0 c2 c1 => by
      rw [← hs1]
      simp only [wI_wC, wC_ne _ _ c0, wC_ne _ _ c2, wC_ne _ _ c1]
    have c16 : s1.1 0 16 = nI (a - 1) := by
      rw [← hs1]
      simp (disch := omega) only [wI_wC, wC_ne, wC_at, up_at, up_ne]
      rw [h12, pk_sub (by omega)]
    have c15 : s1.1 0 15 = nI ((e + 39) % 40) := by
      rw [← hs1]
      simp (disch := omega) only [wI_wC, wC_ne, wC_at, up_at, up_ne]
    have c0 : ∀ j, j ≠ 15 → j ≠ 16 → s1.1 0 j = σ.1 0 j := fun j h1 h2 => by
      rw [← hs1]
      simp (disch := omega) only [wI_wC, wC_ne, wC_at, up_ne]
    have c24 : ∀ j, j < 71 → s1.1 24 j = σ.1 (93 + (e + 39) % 40) j := fun j hj => by
      rw [← hs1]
      simp (disch := omega) only [wI_wC, wC_ne, wC_at]
      rw [cpy71 _ _ hj]
    have c27 : s1.1 27 5 = nI m := by rw [← hs1, wI_wC, wC_at, up_at]
    rw [c16]
    have cL : ∀ b q, 0 < b → b + q < 133 → b + q ≠ 24 → b + q ≠ 27 → lgs s1 b q = lgs σ b q := fun b q h0 hq h24 h27 => by
      unfold lgs
      exact cc _ (by omega) h24 h27
    generalize hs3 : pm_wI (th0 s1) 133 33 (nI (a - 1)) = s3
    have f142 : s3.1 142 = σ.1 142 := by rw [← hs3, wI_wC, wC_ne _ _ (by decide), th_ne _ (by decide), cc 142 (by decide) (by decide) (by decide)]
    have f146 : s3.1 146 = σ.1 146 := by rw [← hs3, wI_wC, wC_ne _ _ (by decide), th_ne _ (by decide), cc 146 (by decide) (by decide) (by decide)]
    refine ⟨_, _, pm_wC s3 142 (fun j => if 0 ≤ j ∧ j < 251 then σ.1 146 (251 * (a - 1) + j) else σ.1 142 j), rfl, ?_, ?_⟩
    · rw [en_X12_undo, sg_X12_undo_0, show pm_wI s1 133 0 (nI 0) = th0 s1 from rfl, th_f _ (by decide), cc 133 (by decide) (by decide) (by decide), h14, if_neg (nI_ne0 (by omega) (by omega)), pk_sub (by omega), hs3, sg_X12_undo_24, r_undo_l d (a := a - 1) (by omega) 251 0 s3 (by omega) (by rw [← hs3, wI_wC, wC_at, up_at]), f142, f146]
    · generalize hs2 : pm_wC s3 142 (fun j => if 0 ≤ j ∧ j < 251 then σ.1 146 (251 * (a - 1) + j) else σ.1 142 j) = s2
      have d1 : ∀ c, c ≠ 133 → c ≠ 142 → s2.1 c = s1.1 c := fun c e1 e2 => by
        rw [← hs2, wC_ne _ _ e2, ← hs3, wI_wC, wC_ne _ _ e1, th_ne _ e1]
      have d2 : ∀ j, j ≠ 0 → j ≠ 33 → s2.1 133 j = σ.1 133 j := fun j e0 e1 => by
        rw [← hs2, wC_ne _ _ (by decide), ← hs3, wI_wC, wC_at, up_ne _ _ e1, th_f _ e0, cc 133 (by decide) (by decide) (by decide)]
      have d3 : s2.1 133 33 = nI (a - 1) := by rw [← hs2, wC_ne _ _ (by decide), ← hs3, wI_wC, wC_at, up_at]
      have d4 : s2.1 142 = (fun j => if 0 ≤ j ∧ j < 251 then σ.1 146 (251 * (a - 1) + j) else σ.1 142 j) := by rw [← hs2, wC_at]
      have dd : ∀ c, c ≠ 0 → c ≠ 24 → c ≠ 27 → c ≠ 133 → c ≠ 142 → s2.1 c = σ.1 c := fun c e0 e4 e1 e2 e3 => (d1 c e2 e3).trans (cc c e0 e4 e1)
      have dL : ∀ b q, 0 < b → b + q < 133 → b + q ≠ 24 → b + q ≠ 27 → lgs s2 b q = lgs σ b q := fun b q h0 hq h24 h27 => by
        unfold lgs
        exact dd _ (by omega) h24 h27 (by omega) (by omega)
      refine ⟨⟨m, a - 1, (e + 39) % 40, RelB_mono (k := k) ⟨⟨?_, ?_, h3, h4, ?_, ?_, ?_⟩, ⟨?_, ?_⟩, ⟨⟨by omega, he2, ?_, ?_, ?_⟩, ?_⟩, ⟨?_, ?_⟩, ?_, ?_⟩ (Nat.le_succ k)⟩, ⟨?_, ?_, ?_⟩, ?_, ?_⟩
      · rw [dd 3 (by decide) (by decide) (by decide) (by decide) (by decide)]; exact h1
      · rw [d2 22 (by decide) (by decide)]; exact h2
      · rw [dd 4 (by decide) (by decide) (by decide) (by decide) (by decide), dd 5 (by decide) (by decide) (by decide) (by decide) (by decide)]; exact h5
      · rw [dd 4 (by decide) (by decide) (by decide) (by decide) (by decide), dd 138 (by decide) (by decide) (by decide) (by decide) (by decide)]; exact h6
      · rw [dd 140 (by decide) (by decide) (by decide) (by decide) (by decide), dd 5 (by decide) (by decide) (by decide) (by decide) (by decide)]; exact h7
      · rw [dd 5 (by decide) (by decide) (by decide) (by decide) (by decide), d1 24 (by decide) (by decide), d4]
        refine relM_ext h3 c24 (fun j hj => ?_) (fun q i hq hi => ?_) h20
        · rw [if_pos (by omega)]
        · rw [dL 28 q (by omega) (by omega) (by omega) (by omega)]
      · rw [d1 27 (by decide) (by decide), c27]
      · rw [d1 0 (by decide) (by decide), c16]
      · rw [d1 0 (by decide) (by decide), c15]
      · rw [d3]
      · rw [dd 5 (by decide) (by decide) (by decide) (by decide) (by decide), dd 146 (by decide) (by decide) (by decide) (by decide) (by decide)]
        exact relP_ext h3 h21 (fun i hi j _ => by rw [dL 93 i (by omega) (by omega) (by omega) (by omega)]) (fun q i hq _ => by rw [dL 28 q (by omega) (by omega) (by omega) (by omega)])
      · rw [d2 47 (by decide) (by decide), d1 0 (by decide) (by decide), c0 17 (by decide) (by decide)]; exact h16
      · rw [d1 0 (by decide) (by decide), c0 17 (by decide) (by decide), dd 5 (by decide) (by decide) (by decide) (by decide) (by decide), dd 34 (by decide) (by decide) (by decide) (by decide) (by decide), dd 156 (by decide) (by decide) (by decide) (by decide) (by decide), dd 35 (by decide) (by decide) (by decide) (by decide) (by decide)]
        rcases h17 with h | ⟨h, m, hm, hm2⟩
        · exact Or.inl h
        · exact Or.inr ⟨h, m, relM_ext h3 (fun _ _ => rfl) (fun _ _ => rfl) (fun q i hq _ => by rw [dL 36 q (by omega) (by omega) (by omega) (by omega)]) hm, hm2⟩
      · rw [d2 29 (by decide) (by decide), d1 0 (by decide) (by decide), c0 18 (by decide) (by decide)]; exact h18
      · rw [d1 0 (by decide) (by decide), c0 18 (by decide) (by decide)]; exact h19
      · intro c hc
        unfold kpL at hc
        simp only [decide_eq_true_eq] at hc
        exact dd c (by omega) (by omega) (by omega) (by omega) (by omega)
      · rw [dd 1 (by decide) (by decide) (by decide) (by decide) (by decide)]
      · exact fun i hi => d2 i (by omega) (by omega)
      · rw [← hs2, ← hs3, ← hs1]; rfl
      · exact dd 145 (by decide) (by decide) (by decide) (by decide) (by decide)

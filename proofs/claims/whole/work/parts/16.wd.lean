/-! ===== TAPE and LAWS together with the MEET; odds, value, law ===== -/
def R_t (σ : pm_H) : Prop := ∃ (b : Nat → Nat) (n : Nat), okb b n ∧ σ.1 1 1 = nI n ∧ σ.1 133 6 = nI n ∧ ∀ i, i < n → σ.1 2 i = nI (b i) ∧ σ.1 134 i = byt (b i)
def LW (nl : Nat) (V : Nat → LV → Int32) (σ : pm_H) : Prop := R_t σ ∧ CLw nl V σ ∧ MLw nl V σ ∧ MOw nl V σ ∧ bdL (LM σ) ∧ (σ.1 133 27 = σ.1 12 6 ∧ σ.1 133 28 = σ.1 12 7) ∧ lawok nl (σ.1 12 6) ∧ lawok nl (σ.1 12 7)
def sameK (σ σ' : pm_H) : Prop := (∀ c, kpL c = true → c ≠ 137 → σ'.1 c = σ.1 c) ∧ σ'.1 1 1 = σ.1 1 1 ∧ ∀ j, (j = 6 ∨ j = 7 ∨ j = 27 ∨ j = 28) → σ'.1 133 j = σ.1 133 j
theorem sameK_L {σ σ' : pm_H} (h : sameL σ σ') : sameK σ σ' := ⟨fun c hc _ => h.1 c hc, h.2⟩
def sameQ (σ σ' : pm_H) : Prop := sameB σ σ' ∧ sameK σ σ'
theorem sameQ_tr {σ σ1 σ2 : pm_H} (h : sameQ σ σ1) (h' : sameQ σ1 σ2) : sameQ σ σ2 := ⟨sameB_tr h.1 h'.1, fun c hc hn => (h'.2.1 c hc hn).trans (h.2.1 c hc hn), h'.2.2.1.trans h.2.2.1, fun j hj => (h'.2.2.2 j hj).trans (h.2.2.2 j hj)⟩
theorem sameQ_rfl (σ : pm_H) : sameQ σ σ := ⟨sameB_rfl σ, fun _ _ _ => rfl, rfl, fun _ _ => rfl⟩
theorem kpL_lw {j : Nat} (hj : j < 6) : kpL (14 + j) = true := by
  unfold kpL
  simp
  omega
theorem LW_K {nl : Nat} {V : Nat → LV → Int32} {σ σ' : pm_H} (h : LW nl V σ) (s : sameK σ σ') (hO : MOw nl V σ') (hL : bdL (LM σ')) : LW nl V σ' := by
  obtain ⟨⟨b, n, t1, t2, t3, t4⟩, ⟨c1, c2, c3⟩, ⟨m1, m2, m3⟩, -, -, ⟨f1, f2⟩, o1, o2⟩ := h
  obtain ⟨s1, s2, s3⟩ := s
  have s12 := s1 12 rfl (by decide)
  refine ⟨⟨b, n, t1, s2.trans t2, (s3 6 (by omega)).trans t3, fun i hi => ?_⟩, ⟨c1, by rw [s12]; exact c2, fun j hj => ?_⟩, ⟨m1, (s3 7 (by omega)).trans m2, fun j hj => ?_⟩, hO, hL, ⟨by rw [s3 27 (by omega), s12]; exact f1, by rw [s3 28 (by omega), s12]; exact f2⟩, by rw [s12]; exact o1, by rw [s12]; exact o2⟩
  · rw [s1 2 rfl (by decide), s1 134 rfl (by decide)]
    exact t4 i hi
  · obtain ⟨cc, a1, a2, a3, a4⟩ := c3 j hj
    exact ⟨cc, by rw [s1 20 rfl (by decide)]; exact a1, a2, by rw [s1 (14 + j) (kpL_lw (by omega)) (by omega)]; exact a3, a4⟩
  · obtain ⟨b', n', c', v', q', a1, a2, a3, a4, a5⟩ := m3 j hj
    exact ⟨b', n', c', v', q', a1, a2, a3, by rw [s1 136 rfl (by decide)]; exact a4, fun i hi => by rw [s1 135 rfl (by decide)]; exact a5 i hi⟩
theorem MOw_same {nl : Nat} {V : Nat → LV → Int32} {σ σ' : pm_H} (h : MOw nl V σ) (s : sameO σ σ') : MOw nl V σ' := by
  intro p hp
  rw [s.1, s.2]
  exact h p hp
theorem LM_same {σ σ' : pm_H} (s : σ'.1 137 = σ.1 137) : LM σ' = LM σ := by
  unfold LM
  rw [s]
theorem LW_same {nl : Nat} {V : Nat → LV → Int32} {σ σ' : pm_H} (h : LW nl V σ) (s : sameL σ σ') (sO : sameO σ σ') : LW nl V σ' := LW_K h (sameK_L s) (MOw_same h.2.2.2.1 sO) (by rw [LM_same (s.1 137 rfl)]; exact h.2.2.2.2.1)
def PostW (k sz : Nat) (T R : Nat → Nat) (nl : Nat) (V : Nat → LV → Int32) (σ' : pm_H) : Prop := (∃ n a e, RelB (k + 1) sz T R n a e σ') ∧ LW nl V σ'
theorem PostW_B {k sz nl : Nat} {T R : Nat → Nat} {V : Nat → LV → Int32} {σ σ' : pm_H} (h : PostB k sz T R σ σ') (w : LW nl V σ) : PostW k sz T R nl V σ' := ⟨h.1, LW_same w h.2.1 h.2.2⟩
theorem PostW_Q {k sz n a e nl : Nat} {T R : Nat → Nat} {V : Nat → LV → Int32} {σ σ' : pm_H} (h : RelB k sz T R n a e σ) (w : LW nl V σ) (s : sameQ σ σ') (hO : MOw nl V σ') (hL : bdL (LM σ')) : PostW k sz T R nl V σ' := ⟨⟨n, a, e, RelB_mono (RelB_same h s.1) (Nat.le_succ k)⟩, LW_K w s.2 hO hL⟩
theorem Both_mono {dx dm μx μm : Nat} {as : List Value} {σ : pm_H} {P Q : pm_H → Prop} (h : Both dx dm μx μm as σ P) (hPQ : ∀ σ', P σ' → Q σ') : Both dx dm μx μm as σ Q := by
  obtain ⟨v, σ1, σ2, h1, h2, h3⟩ := h
  exact ⟨v, σ1, σ2, h1, h2, hPQ σ2 h3⟩
theorem kpB_ne {c : Nat} (h : kpB c = true) : c ≠ 133 ∧ c ≠ 137 ∧ c ≠ 145 ∧ c ≠ 143 ∧ c ≠ 147 ∧ c ≠ 150 ∧ c ≠ 151 ∧ c ≠ 152 ∧ c ≠ 153 ∧ c ≠ 154 ∧ c ≠ 155 := by
  unfold kpB at h
  simp at h
  omega
theorem kpL_ne {c : Nat} (h : kpL c = true) : c ≠ 133 ∧ c ≠ 1 ∧ c ≠ 145 ∧ c ≠ 143 ∧ c ≠ 147 ∧ c ≠ 150 ∧ c ≠ 151 ∧ c ≠ 152 ∧ c ≠ 153 ∧ c ≠ 154 ∧ c ≠ 155 := by
  unfold kpL at h
  simp at h
  omega
theorem rO_Q {σ σ' : pm_H} (h : rO σ σ') : sameQ σ σ' := by
  obtain ⟨h1, -, h3⟩ := h
  refine ⟨⟨fun c hc => ?_, fun j hj => h3 j ?_⟩, fun c hc hn => ?_, ?_, fun j hj => h3 j ?_⟩
  · have := kpB_ne hc
    exact h1 c this.1 this.2.1 this.2.2.1
  · rcases hj with rfl | rfl | rfl | rfl <;> rfl
  · have := kpL_ne hc
    exact h1 c this.1 hn this.2.2.1
  · rw [h1 1 (by decide) (by decide) (by decide)]
  · rcases hj with rfl | rfl | rfl | rfl <;> rfl
/-- the class has worked aside -/
def sameX (σ σ' : pm_H) : Prop := sameB σ σ' ∧ sameL σ σ' ∧ sameO σ σ'
theorem sameX_rfl (σ : pm_H) : sameX σ σ := ⟨sameB_rfl σ, sameL_rfl σ, sameO_rfl σ⟩
theorem sameX_tr {σ σ1 σ2 : pm_H} (h : sameX σ σ1) (h' : sameX σ1 σ2) : sameX σ σ2 := ⟨sameB_tr h.1 h'.1, sameL_tr h.2.1 h'.2.1, sameO_tr h.2.2 h'.2.2⟩
theorem sameX_w {σ σ' : pm_H} (s : sameX σ σ') {c : Nat} (f : Nat → Int32) (h : kpB c = false ∧ kpL c = false) (h1 : c ≠ 133 ∧ c ≠ 1 ∧ c ≠ 145) : sameX σ (pm_wC σ' c f) := sameX_tr s ⟨sameB_w _ f h.1 h1.1, sameL_w _ f h.2 h1.1 h1.2.1, sameO_w _ f h1.2.2⟩
theorem sameX_th {σ σ' : pm_H} (s : sameX σ σ') : sameX σ (th0 σ') := sameX_tr s ⟨th0_B _, th0_L _, th0_O _⟩
theorem sameX_R {k sz n a e nl : Nat} {T R : Nat → Nat} {V : Nat → LV → Int32} {σ σ' : pm_H} (s : sameX σ σ') (h : RelB k sz T R n a e σ) (w : LW nl V σ) : RelB k sz T R n a e σ' ∧ LW nl V σ' := ⟨RelB_same h s.1, LW_same w s.2.1 s.2.2⟩
theorem b_odds (d : Nat) {k sz n a e nl : Nat} {T R : Nat → Nat} {V : Nat → LV → Int32} {σ : pm_H} (hk : k ≤ 5000) (h : RelB k sz T R n a e σ) (w : LW nl V σ) (x y : Int32) : Both (d + 6) (d + 35) 154 159 [.int x, .int y] σ (PostW k sz T R nl V) := by
  have hh := h
  obtain ⟨⟨h1, h2, h3, h4, h5, h6, h7⟩, ⟨h8, h9⟩, -⟩ := hh
  have hz : (th0 σ).1 133 22 = nI sz := by rw [th_f _ (by decide)]; exact h2
  unfold Both
  rw [en_X11_odds, sg_X11_odds_0]
  rcases ix_cases x h3 with hx | ⟨l, hl, rfl⟩
  · refine ⟨.int (-1), σ, th0 σ, ?_, ?_, PostW_B (PostB_th h) w⟩
    · rw [q_isL_n _ _ h1 hx]
      simp only [pm_cl_some, Option.toList_some, Option.toList_none, List.cons_append, List.nil_append]
      rw [sg_X11_odds_5, if_pos n00]
    · rw [en_X12_odds, sg_X12_odds_0, show pm_wI σ 133 0 (nI 0) = th0 σ from rfl, r_isL_n _ _ hz hx]
      simp only [pm_cl_some, Option.toList_some, Option.toList_none, List.cons_append, List.nil_append]
      rw [sg_X12_odds_10, if_pos n00]
  · rw [q_isL_y _ _ h1 h3 hl]
    simp only [pm_cl_some, Option.toList_some, Option.toList_none, List.cons_append, List.nil_append]
    rw [sg_X11_odds_5, if_neg n10]
    rcases rng_cases y 1 99 (by omega) (by omega) with hy | ⟨W, hW1, hW, rfl⟩
    · refine ⟨.int (-1), σ, th0 σ, ?_, ?_, PostW_B (PostB_th h) w⟩
      · rcases hy with hy | hy
        · rw [if_pos hy]
        · rw [if_pos hy]
          exact ite_self _
      · rw [en_X12_odds, sg_X12_odds_0, show pm_wI σ 133 0 (nI 0) = th0 σ from rfl, r_isL_y _ _ hz h3 hl]
        simp only [pm_cl_some, Option.toList_some, Option.toList_none, List.cons_append, List.nil_append]
        rw [sg_X12_odds_10, if_neg n10, r_rng_n _ _ (L := 1) (H := 99) (a := 1) (b := 99) (by decide) (by decide) hy]
        simp only [pm_cl_some, Option.toList_some, Option.toList_none, List.cons_append, List.nil_append]
        rw [sg_X12_odds_22, if_pos n00]
    · rw [if_neg (nI_nlt hW1 (by omega)), if_neg (nI_nlt hW (by omega)), w_take (d + 3) σ mo_91 st_23 (show l < 6 by omega)]
      simp only [pm_cl_some, Option.toList_some, Option.toList_none, List.cons_append, List.nil_append]
      obtain ⟨F, f1, f2, f3⟩ := h8.1
      have hT := h5 (by omega)
      obtain ⟨g21, g22, hg⟩ := q_oddT (d + 1) (u := 91) (c := 23) (W := W) w.2.1 w.2.2.2.2.2.2.1 mo_91 st_23 h3 hk hT f1 f2 hl hW
      rw [sg_X11_odds_33, hg]
      simp only [pm_cl_some, Option.toList_some, Option.toList_none, List.cons_append, List.nil_append]
      rw [sg_X11_odds_45]
      have sX : sameX σ (th0 (pm_wC (pm_wC (pm_wC σ 91 (g_take (σ.1 4) (σ.1 (23 + 1)) (σ.1 91) l)) 21 g21) 22 g22)) := sameX_th (sameX_w (sameX_w (sameX_w (sameX_rfl σ) _ ⟨rfl, rfl⟩ (by decide)) _ ⟨rfl, rfl⟩ (by decide)) _ ⟨rfl, rfl⟩ (by decide))
      obtain ⟨hB, hW'⟩ := sameX_R sX h w
      generalize pm_wC (pm_wC (pm_wC σ 91 (g_take (σ.1 4) (σ.1 (23 + 1)) (σ.1 91) l)) 21 g21) 22 g22 = σ1 at sX hB hW' ⊢
      have e27 : (th0 σ1).1 133 27 = σ.1 12 6 := (hW'.2.2.2.2.2.1.1).trans (by rw [sX.2.1.1 12 rfl])
      obtain ⟨σ2, s1, s2, s3, s4⟩ := r_oddT d (σ := th0 σ1) (q := 142) (W := W) (f := σ.1 24) hW'.2.2.1 hW'.2.2.2.1 (by rw [e27]; exact w.2.2.2.2.2.2.1) hW'.2.2.2.2.1 rw_now h3 hk hT (fun l hl j hj => by rw [sX.1.1 138 rfl]; exact h6 l hl j hj) (by rw [sX.1.1 142 rfl]; exact h8.2.2.1) f1 f2 hl hW
      refine ⟨_, σ1, σ2, rfl, ?_, PostW_Q hB hW' (rO_Q s2) s3 s4⟩
      rw [en_X12_odds, sg_X12_odds_0, show pm_wI σ1 133 0 (nI 0) = th0 σ1 from rfl, r_isL_y _ _ (show (th0 σ1).1 133 22 = nI sz by rw [sX.1.2 22 (by omega)]; exact h2) h3 hl]
      simp only [pm_cl_some, Option.toList_some, Option.toList_none, List.cons_append, List.nil_append]
      rw [sg_X12_odds_10, if_neg n10, r_rng_y _ _ (L := 1) (H := 99) (a := 1) (b := 99) (by decide) (by decide) hW1 hW (by omega)]
      simp only [pm_cl_some, Option.toList_some, Option.toList_none, List.cons_append, List.nil_append]
      rw [sg_X12_odds_22, if_neg n10, s1, e27]
      simp only [pm_cl_some, Option.toList_some, Option.toList_none, List.cons_append, List.nil_append]
      rw [sg_X12_odds_35]
theorem b_value (d : Nat) {k sz n a e nl : Nat} {T R : Nat → Nat} {V : Nat → LV → Int32} {σ : pm_H} (h : RelB k sz T R n a e σ) (w : LW nl V σ) (x : Int32) : Both (d + 5) (d + 34) 162 164 [.int x] σ (PostW k sz T R nl V) := by
  have hh := h
  obtain ⟨⟨h1, h2, h3, h4, h5, h6, h7⟩, ⟨h8, h9⟩, -⟩ := hh
  have hz : (th0 σ).1 133 22 = nI sz := by rw [th_f _ (by decide)]; exact h2
  unfold Both
  rw [en_X11_value, sg_X11_value_0]
  rcases ix_cases x h3 with hx | ⟨l, hl, rfl⟩
  · refine ⟨.int (-2000000), σ, th0 σ, ?_, ?_, PostW_B (PostB_th h) w⟩
    · rw [q_isL_n _ _ h1 hx]
      simp only [pm_cl_some, Option.toList_some, Option.toList_none, List.cons_append, List.nil_append]
      rw [sg_X11_value_5, if_pos n00]
    · rw [en_X12_value, sg_X12_value_0, show pm_wI σ 133 0 (nI 0) = th0 σ from rfl, r_isL_n _ _ hz hx]
      simp only [pm_cl_some, Option.toList_some, Option.toList_none, List.cons_append, List.nil_append]
      rw [sg_X12_value_10, if_pos n00]
  · rw [q_isL_y _ _ h1 h3 hl]
    simp only [pm_cl_some, Option.toList_some, Option.toList_none, List.cons_append, List.nil_append]
    rw [sg_X11_value_5, if_neg n10]
    have hT := h5 (by omega)
    obtain ⟨P, p1, p2, p3⟩ := s_place_n (sz := sz) (l := l) (t := σ.1 4) (r := σ.1 5) (f := σ.1 24)
    obtain ⟨S, q1, q2⟩ := relM_sums h3 h8 l hl
    obtain ⟨t1, t2⟩ := okT_2 hT l hl
    obtain ⟨g21, g22, hg⟩ := q_wop d (c := 23) w.2.1 w.2.2.2.2.2.2.2 st_23 (show l < 6 by omega) h1 h3 p2 q2 t1 (by omega)
    rw [hg]
    simp only [pm_cl_some, Option.toList_some, Option.toList_none, List.cons_append, List.nil_append]
    rw [sg_X11_value_20]
    have sX : sameX σ (th0 (pm_wC (pm_wC σ 21 g21) 22 g22)) := sameX_th (sameX_w (sameX_w (sameX_rfl σ) _ ⟨rfl, rfl⟩ (by decide)) _ ⟨rfl, rfl⟩ (by decide))
    obtain ⟨hB, hW'⟩ := sameX_R sX h w
    generalize pm_wC (pm_wC σ 21 g21) 22 g22 = σ1 at sX hB hW' ⊢
    have e28 : (th0 σ1).1 133 28 = σ.1 12 7 := (hW'.2.2.2.2.2.1.2).trans (by rw [sX.2.1.1 12 rfl])
    have e22 : (th0 σ1).1 133 22 = nI sz := by rw [sX.1.2 22 (by omega)]; exact h2
    have e138 := sX.1.1 138 rfl
    have e140 := sX.1.1 140 rfl
    have e142 := sX.1.1 142 rfl
    obtain ⟨σ2, s1, s2, s3, s4⟩ := r_valueOf d (σ := th0 σ1) (q := 142) (P := P) (S := S) (B := T (l * 10 + 2)) hW'.2.2.1 hW'.2.2.2.1 (by rw [e28]; exact w.2.2.2.2.2.2.2) hW'.2.2.2.2.1 rw_now e22 h3 hl (by rw [e138, e142]; exact relM_okP h3 hT h6 h8) (by rw [e138, e140, e142, relM_place (T := T) (R := R) h3 h6 h7 h8 hl]; exact p2) (by rw [e142, sum_eq h8.2.2.1 hl]; exact q2) (by rw [e138, h6 l hl 2 (by omega)]; exact t1) (by omega)
    refine ⟨_, σ1, σ2, rfl, ?_, PostW_Q hB hW' (rO_Q s2) s3 s4⟩
    rw [en_X12_value, sg_X12_value_0, show pm_wI σ1 133 0 (nI 0) = th0 σ1 from rfl, r_isL_y _ _ e22 h3 hl]
    simp only [pm_cl_some, Option.toList_some, Option.toList_none, List.cons_append, List.nil_append]
    rw [sg_X12_value_10, if_neg n10, s1, e28]
    simp only [pm_cl_some, Option.toList_some, Option.toList_none, List.cons_append, List.nil_append]
    rw [sg_X12_value_22]
/-- which LAW holds is changed, in both -/
theorem LW_set {nl : Nat} {V : Nat → LV → Int32} {σ σ' : pm_H} {y : Int32} (w : LW nl V σ) (hy : lawok nl y) (i : Nat) (hi : i = 0 ∨ i = 1) (hc : ∀ c, kpL c = true → c ≠ 12 → σ'.1 c = σ.1 c) (h12 : σ'.1 12 = upd (σ.1 12) (6 + i) y) (h1 : σ'.1 1 1 = σ.1 1 1) (h133 : ∀ j, (j = 6 ∨ j = 7 ∨ j = 27 ∨ j = 28) → σ'.1 133 j = upd (σ.1 133) (27 + i) y j) (hO : sameO σ σ') : LW nl V σ' := by
  obtain ⟨⟨b, n, t1, t2, t3, t4⟩, ⟨c1, c2, c3⟩, ⟨m1, m2, m3⟩, o, l, ⟨f1, f2⟩, o1, o2⟩ := w
  refine ⟨⟨b, n, t1, h1.trans t2, ?_, fun i hi => ?_⟩, ⟨c1, ?_, fun j hj => ?_⟩, ⟨m1, ?_, fun j hj => ?_⟩, MOw_same o hO, by rw [LM_same (hc 137 rfl (by decide))]; exact l, ⟨?_, ?_⟩, ?_, ?_⟩
  · rw [h133 6 (by omega), up_ne _ _ (by omega)]; exact t3
  · rw [hc 2 rfl (by decide), hc 134 rfl (by decide)]
    exact t4 i hi
  · rw [h12, up_ne _ _ (by omega)]; exact c2
  · obtain ⟨cc, a1, a2, a3, a4⟩ := c3 j hj
    exact ⟨cc, by rw [hc 20 rfl (by decide)]; exact a1, a2, by rw [hc (14 + j) (kpL_lw (by omega)) (by omega)]; exact a3, a4⟩
  · rw [h133 7 (by omega), up_ne _ _ (by omega)]; exact m2
  · obtain ⟨b', n', c', v', q', a1, a2, a3, a4, a5⟩ := m3 j hj
    exact ⟨b', n', c', v', q', a1, a2, a3, by rw [hc 136 rfl (by decide)]; exact a4, fun i hi => by rw [hc 135 rfl (by decide)]; exact a5 i hi⟩
  · rw [h133 27 (by omega), h12]
    rcases hi with rfl | rfl
    · rw [up_at, up_at]
    · rw [up_ne _ _ (by decide), up_ne _ _ (by decide)]; exact f1
  · rw [h133 28 (by omega), h12]
    rcases hi with rfl | rfl
    · rw [up_ne _ _ (by decide), up_ne _ _ (by decide)]; exact f2
    · rw [up_at, up_at]
  · rw [h12]
    rcases hi with rfl | rfl
    · rw [up_at]; exact hy
    · rw [up_ne _ _ (by decide)]; exact o1
  · rw [h12]
    rcases hi with rfl | rfl
    · rw [up_ne _ _ (by decide)]; exact o2
    · rw [up_at]; exact hy
theorem PostW_set {k sz n a e nl : Nat} {T R : Nat → Nat} {V : Nat → LV → Int32} {σ : pm_H} {y : Int32} (h : RelB k sz T R n a e σ) (w : LW nl V σ) (hy : lawok nl y) (i : Nat) (hi : i = 0 ∨ i = 1) : PostW k sz T R nl V (pm_wI (th0 (pm_wI σ 12 (6 + i) y)) 133 (27 + i) y) := by
  refine ⟨⟨n, a, e, RelB_mono (RelB_same h ?_) (Nat.le_succ k)⟩, LW_set w hy i hi (fun c hc hn => ?_) ?_ ?_ (fun j hj => ?_) ⟨rfl, ?_⟩⟩
  · exact sameB_tr (sameB_tr (by rw [wI_wC]; exact sameB_w σ _ rfl (by decide)) (th0_B _)) (sameB_m _ y (by omega))
  · have := kpL_ne hc
    rw [wI_wC, wC_ne _ _ this.1, th_ne _ this.1, wI_wC, wC_ne _ _ hn]
  · rw [wI_wC, wC_ne _ _ (by decide), th_ne _ (by decide), wI_wC, wC_at]
  · rw [wI_wC, wC_ne _ _ (by decide), th_ne _ (by decide), wI_wC, wC_ne _ _ (by decide)]
  · rw [wI_wC, wC_at]
    by_cases c : j = 27 + i
    · subst c
      rw [up_at, up_at]
    · rw [up_ne _ _ c, up_ne _ _ c, th_f _ (by omega), wI_wC, wC_ne _ _ (by decide)]
  · rw [wI_wC, wC_ne _ _ (by decide), th_ne _ (by decide), wI_wC, wC_ne _ _ (by decide)]
theorem b_law (d : Nat) {k sz n a e nl : Nat} {T R : Nat → Nat} {V : Nat → LV → Int32} {σ : pm_H} (h : RelB k sz T R n a e σ) (w : LW nl V σ) (x y : Int32) : Both (d + 1) (d + 2) 144 145 [.int x, .int y] σ (PostW k sz T R nl V) := by
  have c5 : σ.1 12 5 = nI nl := w.2.1.2.1
  have m7 : σ.1 133 7 = nI nl := w.2.2.1.2.1
  have hn6 := w.2.1.1
  unfold Both
  rw [en_X11_law, sg_X11_law_0, c5]
  rcases rng_cases x 0 1 (by omega) (by omega) with hx | ⟨i, -, hi, rfl⟩
  · refine ⟨.int (nI 0), σ, th0 σ, ?_, ?_, PostW_B (PostB_th h) w⟩
    · have nx0 : ¬ x = 0 := fun e => by rw [e] at hx; exact absurd hx (by decide)
      have nx1 : ¬ x = nI 1 := fun e => by rw [e] at hx; exact absurd hx (by decide)
      rw [if_neg nx0, if_neg nx1, ite_self, ite_self]
    · rw [en_X12_law, sg_X12_law_0, show pm_wI σ 133 0 (nI 0) = th0 σ from rfl, r_rng_n _ _ (L := 0) (H := 1) (a := 0) (b := 1) (by decide) (by decide) hx]
      simp only [pm_cl_some, Option.toList_some, Option.toList_none, List.cons_append, List.nil_append]
      rw [sg_X12_law_12, if_pos n00]
  · have hrf : ∀ σ1, xe (d + 2) 145 [.ref 133, .int (nI i), .int y] σ1 = pm_run (xe (d + 1)) pg_X12_law (12, [.ref 133, .int (nI i), .int y], [.int (nI 1)], th0 σ1) := by
      intro σ1
      rw [en_X12_law, sg_X12_law_0, show pm_wI σ1 133 0 (nI 0) = th0 σ1 from rfl, r_rng_y _ _ (L := 0) (H := 1) (a := 0) (b := 1) (by decide) (by decide) (by omega) hi (by omega)]
      simp only [pm_cl_some, Option.toList_some, Option.toList_none, List.cons_append, List.nil_append]
    have good : lawok nl y → ¬ y < -1 → y < nI nl → (y = -1 ∨ ∃ j, j < nl ∧ y = nI j) → ∃ v σ1 σ2, (if y < -1 then some (some (Value.int (nI 0)), σ) else (if y < nI nl then (if nI i = 0 then some (some (Value.int (nI 1)), pm_wI σ 12 6 y) else (if nI i = nI 1 then some (some (Value.int (nI 1)), pm_wI σ 12 7 y) else some (some (Value.int (nI 0)), σ))) else some (some (Value.int (nI 0)), σ))) = some (some v, σ1) ∧ xe (d + 2) 145 [.ref 133, .int (nI i), .int y] σ1 = some (some v, σ2) ∧ PostW k sz T R nl V σ2 := by
      intro hok g1 g2 g3
      have fin : ∀ σ1, (th0 σ1).1 133 7 = nI nl → xe (d + 2) 145 [.ref 133, .int (nI i), .int y] σ1 = (if nI i = 0 then some (some (Value.int (nI 1)), pm_wI (th0 σ1) 133 27 y) else some (some (Value.int (nI 1)), pm_wI (th0 σ1) 133 28 y)) := by
        intro σ1 h7
        rw [hrf, sg_X12_law_12, if_neg n10]
        rcases g3 with g3 | ⟨j, hj, g3⟩
        · rw [if_pos g3]
        · rw [if_neg (by rw [g3]; exact nI_nm1 (by omega)), h7, g3, pk_sub (show 1 ≤ nl by omega), r_rng_y _ _ (L := 0) (a := 0) (b := nl - 1) (by decide) rfl (by omega) (by omega) (by omega)]
          simp only [pm_cl_some, Option.toList_some, Option.toList_none, List.cons_append, List.nil_append]
          rw [sg_X12_law_33, if_neg n10]
      rcases (show i = 0 ∨ i = 1 by omega) with rfl | rfl
      · refine ⟨.int (nI 1), pm_wI σ 12 6 y, _, ?_, ?_, PostW_set h w hok 0 (Or.inl rfl)⟩
        · rw [if_neg g1, if_pos g2, if_pos n00]
        · rw [fin _ (by rw [th_f _ (by decide), wI_wC, wC_ne _ _ (by decide)]; exact m7), if_pos n00]
      · refine ⟨.int (nI 1), pm_wI σ 12 7 y, _, ?_, ?_, PostW_set h w hok 1 (Or.inr rfl)⟩
        · rw [if_neg g1, if_pos g2, if_neg n10, if_pos rfl]
        · rw [fin _ (by rw [th_f _ (by decide), wI_wC, wC_ne _ _ (by decide)]; exact m7), if_neg n10]
    have bad : (y < -1 ∨ ¬ y < nI nl) → (¬ y = -1) → (y < 0 ∨ nI nl ≤ y) → ∃ v σ1 σ2, (if y < -1 then some (some (Value.int (nI 0)), σ) else (if y < nI nl then (if nI i = 0 then some (some (Value.int (nI 1)), pm_wI σ 12 6 y) else (if nI i = nI 1 then some (some (Value.int (nI 1)), pm_wI σ 12 7 y) else some (some (Value.int (nI 0)), σ))) else some (some (Value.int (nI 0)), σ))) = some (some v, σ1) ∧ xe (d + 2) 145 [.ref 133, .int (nI i), .int y] σ1 = some (some v, σ2) ∧ PostW k sz T R nl V σ2 := by
      intro g1 g2 g3
      refine ⟨.int (nI 0), σ, th0 σ, ?_, ?_, PostW_B (PostB_th h) w⟩
      · rcases g1 with g1 | g1
        · rw [if_pos g1]
        · rw [if_neg g1, ite_self]
      · rw [hrf, sg_X12_law_12, if_neg n10, if_neg g2, th_f _ (by decide), m7, r_rng _ _ y (nI 0) (nI nl - nI 1) (L := 0) (by decide) rfl]
        have hf : (!decide (y < nI 0) && !decide (nI nl - nI 1 < y)) = false := by
          rcases g3 with g3 | g3
          · rw [decide_eq_true (show y < nI 0 from g3)]; rfl
          · have : nI nl - nI 1 < y := by
              rw [Int32.lt_iff_toInt_lt, pk_sub_toInt (by omega) (by omega)]
              rw [Int32.le_iff_toInt_le, nI_toInt (by omega)] at g3
              omega
            rw [decide_eq_true this]
            simp
        rw [hf]
        simp only [pm_cl_some, Option.toList_some, Option.toList_none, List.cons_append, List.nil_append]
        rw [sg_X12_law_33, if_pos bf0]
    rcases pk_ix y (n := nl) (by omega) with hy | hy | ⟨j, hj, rfl⟩
    · by_cases c : y = -1
      · exact good (Or.inl c) (by rw [c]; decide) (by rw [c, Int32.lt_iff_toInt_lt, nI_toInt (by omega), show (-1 : Int32).toInt = -1 by decide]; omega) (Or.inl c)
      · refine bad (Or.inl ?_) c (Or.inl hy)
        rw [Int32.lt_iff_toInt_lt] at hy ⊢
        rw [show (0 : Int32).toInt = 0 by decide] at hy
        rw [show (-1 : Int32).toInt = -1 by decide]
        have : ¬ y.toInt = -1 := fun e => c (Int32.toInt_inj.mp (by rw [e]; decide))
        omega
    · refine bad (Or.inr (Int32.not_lt.mpr hy)) (fun e => ?_) (Or.inr hy)
      rw [e, Int32.le_iff_toInt_le, nI_toInt (by omega), show (-1 : Int32).toInt = -1 by decide] at hy
      omega
    · exact good (Or.inr ⟨j, hj, rfl⟩) (fun c => by
        rw [Int32.lt_iff_toInt_lt, nI_toInt (by omega), show (-1 : Int32).toInt = -1 by decide] at c
        omega) (nI_lt hj (by omega)) (Or.inr ⟨j, hj, rfl⟩)

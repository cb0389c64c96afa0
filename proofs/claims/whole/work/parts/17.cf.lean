/-! ===== wins, mean, hopes ===== -/
def tS (g : Nat → Int64) : Int64 → Nat → Nat → Int64
  | a, _, 0 => a
  | a, i, k + 1 => tS g (a + g i) (i + 1) k
theorem q_pu_l (d : Nat) {l p : Nat} {g : Nat → Int64} {σ : pm_H} (hl : l < 6) (hp : p ≤ 6) (h : ∀ q, q < 7 → σ.2 70 (l * 7 + q) = g q) : ∀ (k i : Nat) (a : Int64) (w4 : Value), i + k = p + 1 → pm_run (xe d) pg_X0_partsUpTo (5, [.ref 41, .int (nI l), .int (nI p), .long a, w4, .int (nI i)], [], σ) = some (some (.int (tS g a i k).toInt32), σ)
  | 0, i, a, w4, e => by
    rw [sg_X0_partsUpTo_5, if_pos (nI_lt (by omega) (by omega))]
    rfl
  | k + 1, i, a, w4, e => by
    rw [sg_X0_partsUpTo_5, if_neg (nI_nlt (by omega) (by omega)), if_pos (nI_lt (by omega) (by omega)), pk_mul, nI_add, ck_n _ (by omega) (by omega), nI_clamp (by omega), h i (by omega), nI_add]
    exact q_pu_l d hl hp h k (i + 1) _ .null (by omega)
theorem q_pu (d : Nat) {l p : Nat} {g : Nat → Int64} {σ : pm_H} (hl : l < 6) (hp : p ≤ 6) (hp1 : 1 ≤ p) (h : ∀ q, q < 7 → σ.2 70 (l * 7 + q) = g q) : xe (d + 1) 218 [.ref 41, .int (nI l), .int (nI p)] σ = some (some (.int (tS g 0 1 p).toInt32), σ) := by
  rw [en_X0_partsUpTo, sg_X0_partsUpTo_0, q_pu_l d hl hp h p 1 0 _ (by omega)]
theorem r_wi_l (d : Nat) {l p : Nat} {g : Nat → Int64} {σ : pm_H} (hl : l < 6) (hp : p ≤ 6) (h : ∀ q, q < 7 → σ.2 148 (7 * l + q) = g q) : ∀ (k i : Nat) (a : Int64) (w4 : Value), i + k = p + 1 → pm_run (xe d) pg_X12_wins (49, [.ref 133, .int (nI l), .int (nI p), .long a, w4, .int (nI i)], [], σ) = some (some (.int (tS g a i k).toInt32), σ)
  | 0, i, a, w4, e => by
    rw [sg_X12_wins_49, if_pos (nI_lt (by omega) (by omega))]
    rfl
  | k + 1, i, a, w4, e => by
    rw [sg_X12_wins_49, if_neg (nI_nlt (by omega) (by omega)), pk_mul, nI_add, ck_n _ (by omega) (by omega), nI_clamp (by omega), h i (by omega), nI_add]
    exact r_wi_l d hl hp h k (i + 1) _ .null (by omega)
theorem b_wins (d : Nat) {k sz n a e nl : Nat} {T R : Nat → Nat} {V : Nat → LV → Int32} {σ : pm_H} (hk : k ≤ 5000) (h : RelB k sz T R n a e σ) (w : LW nl V σ) (x y : Int32) : Both (d + 20) (d + 50) 212 219 [.int x, .int y] σ (PostW k sz T R nl V) := by
  have hh := h
  obtain ⟨⟨h1, h2, h3, h4, h5, h6, h7⟩, ⟨h8, h9⟩, -⟩ := hh
  have hz : (th0 σ).1 133 22 = nI sz := by rw [th_f _ (by decide)]; exact h2
  unfold Both
  rw [en_X11_wins, sg_X11_wins_0]
  rcases ix_cases x h3 with hx | ⟨l, hl, rfl⟩
  · refine ⟨.int (-1), σ, th0 σ, ?_, ?_, PostW_B (PostB_th h) w⟩
    · rw [q_isL_n _ _ h1 hx]
      simp only [pm_cl_some, Option.toList_some, Option.toList_none, List.cons_append, List.nil_append]
      rw [sg_X11_wins_5, if_pos n00]
    · rw [en_X12_wins, sg_X12_wins_0, show pm_wI σ 133 0 (nI 0) = th0 σ from rfl, r_isL_n _ _ hz hx]
      simp only [pm_cl_some, Option.toList_some, Option.toList_none, List.cons_append, List.nil_append]
      rw [sg_X12_wins_10, if_pos n00]
  · rw [q_isL_y _ _ h1 h3 hl]
    simp only [pm_cl_some, Option.toList_some, Option.toList_none, List.cons_append, List.nil_append]
    rw [sg_X11_wins_5, if_neg n10]
    rcases rng_cases y 1 6 (by omega) (by omega) with hy | ⟨p, hp1, hp6, rfl⟩
    · refine ⟨.int (-1), σ, th0 σ, ?_, ?_, PostW_B (PostB_th h) w⟩
      · rcases hy with hy | hy
        · rw [if_pos hy]
        · rw [if_pos hy]
          exact ite_self _
      · rw [en_X12_wins, sg_X12_wins_0, show pm_wI σ 133 0 (nI 0) = th0 σ from rfl, r_isL_y _ _ hz h3 hl]
        simp only [pm_cl_some, Option.toList_some, Option.toList_none, List.cons_append, List.nil_append]
        rw [sg_X12_wins_10, if_neg n10, r_rng_n _ _ (L := 1) (H := 6) (a := 1) (b := 6) (by decide) (by decide) hy]
        simp only [pm_cl_some, Option.toList_some, Option.toList_none, List.cons_append, List.nil_append]
        rw [sg_X12_wins_22, if_pos n00]
    · have hsz : 0 < sz := by omega
      have hT := h5 hsz
      have hlf := lft_le (r := σ.1 5) (f := σ.1 24) h4 h3
      rw [if_neg (nI_nlt hp1 (by omega)), if_neg (nI_nlt hp6 (by omega)), q_lf (d + 16) h hsz]
      simp only [pm_cl_some, Option.toList_some, Option.toList_none, List.cons_append, List.nil_append]
      rw [sg_X11_wins_26]
      have hrf : ∀ σ1, sameX σ (th0 σ1) → xe (d + 50) 219 [.ref 133, .int (nI l), .int (nI p)] σ1 = pm_run (xe (d + 49)) pg_X12_wins (33, [.ref 133, .int (nI l), .int (nI p), .null, .null, .null], [.int (nI (lft (R 1) sz (σ.1 5) (σ.1 24)))], th0 σ1) := by
        intro σ1 sX
        rw [en_X12_wins, sg_X12_wins_0, show pm_wI σ1 133 0 (nI 0) = th0 σ1 from rfl, r_isL_y _ _ (show (th0 σ1).1 133 22 = nI sz from (sX.1.2 22 (by omega)).trans h2) h3 hl]
        simp only [pm_cl_some, Option.toList_some, Option.toList_none, List.cons_append, List.nil_append]
        rw [sg_X12_wins_10, if_neg n10, r_rng_y _ _ (L := 1) (H := 6) (a := 1) (b := 6) (by decide) (by decide) hp1 hp6 (by omega)]
        simp only [pm_cl_some, Option.toList_some, Option.toList_none, List.cons_append, List.nil_append]
        rw [sg_X12_wins_22, if_neg n10, r_lf (d + 47) h hsz sX.1]
        simp only [pm_cl_some, Option.toList_some, Option.toList_none, List.cons_append, List.nil_append]
      by_cases c12 : 12 < lft (R 1) sz (σ.1 5) (σ.1 24)
      · refine ⟨.int (-1), σ, th0 σ, by rw [if_pos (nI_lt c12 (by omega))], ?_, PostW_B (PostB_th h) w⟩
        rw [hrf σ (sameX_th (sameX_rfl σ)), sg_X12_wins_33, if_pos (nI_lt c12 (by omega))]
      · rw [if_neg (nI_nlt (by omega) (by omega))]
        have hR : RI k sz R (σ.1 5) (σ.1 24) := ⟨by obtain ⟨F, f1, f2, -⟩ := h8.1; exact ⟨F, f1, f2⟩, h8.2.1⟩
        obtain ⟨σ1, i1, i2, i3⟩ := q_go d (f := σ.1 24) h3 hk hT (Or.inl rfl) (EnX_of h w) (fun _ _ => rfl) hR (by omega) (nI 1 <<< (nI l &&& 31)) false
        rw [show nI 0 = b32 false from rfl, i1]
        simp only [pm_cl_some, Option.toList_some, Option.toList_none, List.cons_append, List.nil_append]
        rw [sg_X11_wins_48, q_pu (d + 18) (show l < 6 by omega) hp6 hp1 ((i3 l hl (wb_1 l (by omega))).2 rfl)]
        simp only [pm_cl_some, Option.toList_some, Option.toList_none, List.cons_append, List.nil_append]
        rw [sg_X11_wins_57]
        have sX : sameX σ (th0 σ1) := sameX_th (FRG_X i2)
        obtain ⟨hB, hW'⟩ := sameX_R sX h w
        obtain ⟨σ2, j1, j2, j3, j4⟩ := r_layNow d (σ := th0 σ1) (n := n) (f := σ.1 24) (lg := lgs σ 28) h3 hk hT (EnM_X (EnM_of h w) sX) ⟨hW'.2.2.2.1, hW'.2.2.2.2.1⟩ (by rw [sX.1.1 142 rfl]; exact h8) (by omega)
        refine ⟨_, σ1, σ2, rfl, ?_, PostW_Q hB hW' j2 j3.1 j3.2⟩
        rw [hrf σ1 sX, sg_X12_wins_33, if_neg (nI_nlt (by omega) (by omega)), j1]
        simp only [pm_cl_some, Option.toList_some, Option.toList_none, List.cons_append, List.nil_append]
        rw [sg_X12_wins_44, r_wi_l (d + 49) (show l < 6 by omega) hp6 (j4 l hl).2 p 1 0 _ (by omega)]
theorem b_mean (d : Nat) {k sz n a e nl : Nat} {T R : Nat → Nat} {V : Nat → LV → Int32} {σ : pm_H} (hk : k ≤ 5000) (h : RelB k sz T R n a e σ) (w : LW nl V σ) (x : Int32) : Both (d + 20) (d + 50) 225 227 [.int x] σ (PostW k sz T R nl V) := by
  have hh := h
  obtain ⟨⟨h1, h2, h3, h4, h5, h6, h7⟩, ⟨h8, h9⟩, -⟩ := hh
  have hz : (th0 σ).1 133 22 = nI sz := by rw [th_f _ (by decide)]; exact h2
  unfold Both
  rw [en_X11_mean, sg_X11_mean_0]
  rcases ix_cases x h3 with hx | ⟨l, hl, rfl⟩
  · refine ⟨.int (-2000000), σ, th0 σ, ?_, ?_, PostW_B (PostB_th h) w⟩
    · rw [q_isL_n _ _ h1 hx]
      simp only [pm_cl_some, Option.toList_some, Option.toList_none, List.cons_append, List.nil_append]
      rw [sg_X11_mean_5, if_pos n00]
    · rw [en_X12_mean, sg_X12_mean_0, show pm_wI σ 133 0 (nI 0) = th0 σ from rfl, r_isL_n _ _ hz hx]
      simp only [pm_cl_some, Option.toList_some, Option.toList_none, List.cons_append, List.nil_append]
      rw [sg_X12_mean_10, if_pos n00]
  · have hsz : 0 < sz := by omega
    have hT := h5 hsz
    have hlf := lft_le (r := σ.1 5) (f := σ.1 24) h4 h3
    rw [q_isL_y _ _ h1 h3 hl]
    simp only [pm_cl_some, Option.toList_some, Option.toList_none, List.cons_append, List.nil_append]
    rw [sg_X11_mean_5, if_neg n10, q_lf (d + 16) h hsz]
    simp only [pm_cl_some, Option.toList_some, Option.toList_none, List.cons_append, List.nil_append]
    rw [sg_X11_mean_15]
    have hrf : ∀ σ1, sameX σ (th0 σ1) → xe (d + 50) 227 [.ref 133, .int (nI l)] σ1 = pm_run (xe (d + 49)) pg_X12_mean (21, [.ref 133, .int (nI l)], [.int (nI (lft (R 1) sz (σ.1 5) (σ.1 24)))], th0 σ1) := by
      intro σ1 sX
      rw [en_X12_mean, sg_X12_mean_0, show pm_wI σ1 133 0 (nI 0) = th0 σ1 from rfl, r_isL_y _ _ (show (th0 σ1).1 133 22 = nI sz from (sX.1.2 22 (by omega)).trans h2) h3 hl]
      simp only [pm_cl_some, Option.toList_some, Option.toList_none, List.cons_append, List.nil_append]
      rw [sg_X12_mean_10, if_neg n10, r_lf (d + 47) h hsz sX.1]
      simp only [pm_cl_some, Option.toList_some, Option.toList_none, List.cons_append, List.nil_append]
    by_cases c12 : 12 < lft (R 1) sz (σ.1 5) (σ.1 24)
    · refine ⟨.int (-2000000), σ, th0 σ, by rw [if_pos (nI_lt c12 (by omega))], ?_, PostW_B (PostB_th h) w⟩
      rw [hrf σ (sameX_th (sameX_rfl σ)), sg_X12_mean_21, if_pos (nI_lt c12 (by omega))]
    · rw [if_neg (nI_nlt (by omega) (by omega))]
      have hR : RI k sz R (σ.1 5) (σ.1 24) := ⟨by obtain ⟨F, f1, f2, -⟩ := h8.1; exact ⟨F, f1, f2⟩, h8.2.1⟩
      obtain ⟨σ1, i1, i2, i3⟩ := q_go d (f := σ.1 24) h3 hk hT (Or.inl rfl) (EnX_of h w) (fun _ _ => rfl) hR (by omega) (nI 1 <<< (nI l &&& 31)) true
      rw [show xe (d + 19) 213 [.ref 41, .ref 23, .int (nI 1 <<< (nI l &&& 31)), .int (nI 1)] σ = some (none, σ1) from i1]
      simp only [pm_cl_some, Option.toList_some, Option.toList_none, List.cons_append, List.nil_append]
      rw [sg_X11_mean_38, en_X0_meanOf, sg_X0_meanOf_0, ck_n _ (show l < 6 by omega) (by omega), nI_clamp (by omega), (i3 l hl (wb_1 l (by omega))).1 rfl]
      simp only [pm_cl_some, Option.toList_some, Option.toList_none, List.cons_append, List.nil_append]
      rw [sg_X11_mean_46]
      have sX : sameX σ (th0 σ1) := sameX_th (FRG_X i2)
      obtain ⟨hB, hW'⟩ := sameX_R sX h w
      obtain ⟨σ2, j1, j2, j3, j4⟩ := r_layNow d (σ := th0 σ1) (n := n) (f := σ.1 24) (lg := lgs σ 28) h3 hk hT (EnM_X (EnM_of h w) sX) ⟨hW'.2.2.2.1, hW'.2.2.2.2.1⟩ (by rw [sX.1.1 142 rfl]; exact h8) (by omega)
      refine ⟨_, σ1, σ2, rfl, ?_, PostW_Q hB hW' j2 j3.1 j3.2⟩
      rw [hrf σ1 sX, sg_X12_mean_21, if_neg (nI_nlt (by omega) (by omega)), j1]
      simp only [pm_cl_some, Option.toList_some, Option.toList_none, List.cons_append, List.nil_append]
      rw [sg_X12_mean_34, ck_n _ (show l < 6 by omega) (by omega), nI_clamp (by omega), (j4 l hl).1]
theorem sP_N {nx : (Nat → Int32) → Option Nat} {ch : (Nat → Int32) → Nat → Nat} {st : (Nat → Int32) → Nat → Bool → (Nat → Int32)} (hch : ∀ f l, ch f l ≤ 100) (pl : (Nat → Int32) → Nat → Int32) (l q : Nat) : ∀ (m : Nat) (f : Nat → Int32) (s : Nat), ∃ x, x ≤ s ∧ sP pl l q (ends nx ch st m f s) = lN x
  | 0, f, s => by
    show ∃ x, x ≤ s ∧ (if pl f l = nI q then lN s else 0) + 0 = lN x
    rw [Int64.add_zero]
    split
    · exact ⟨s, Nat.le_refl _, rfl⟩
    · exact ⟨0, Nat.zero_le _, rfl⟩
  | m + 1, f, s => by
    unfold ends
    split
    · show ∃ x, x ≤ s ∧ (if pl f l = nI q then lN s else 0) + 0 = lN x
      rw [Int64.add_zero]
      split
      · exact ⟨s, Nat.le_refl _, rfl⟩
      · exact ⟨0, Nat.zero_le _, rfl⟩
    · rename_i who _
      obtain ⟨x1, a1, a2⟩ := sP_N (nx := nx) (st := st) hch pl l q m (st f who true) (s * ch f who / 100)
      obtain ⟨x2, b1, b2⟩ := sP_N (nx := nx) (st := st) hch pl l q m (st f who false) (s - s * ch f who / 100)
      have := div_le (s := s) (hch f who)
      exact ⟨x1 + x2, by omega, by rw [sP_app, a2, b2, lN_add]⟩
theorem chF_le (V : Nat → LV → Int32) (o : Int32) (t f : Nat → Int32) (l : Nat) : chF V o t f l ≤ 100 := by
  unfold chF oddN oddv
  obtain ⟨c, c1, c2⟩ := clm_r (if o = -1 then nI 50 + nI (nt t (l * 10 + 3)) * (isI (nowI (nt t (l * 10 + 4)) (nt t (l * 10 + 5)) (if nt f 0 = 0 then nt t (l * 10 + 0) else nt t (l * 10 + 1)) (nt f (29 + l)) (nt f (35 + l)) (nt f 2 - nt f (41 + l))) - nI ((f (5 + l)).toNatClampNeg)) else V o.toNatClampNeg (LofN ((f (5 + l)).toNatClampNeg) (nowI (nt t (l * 10 + 4)) (nt t (l * 10 + 5)) (if nt f 0 = 0 then nt t (l * 10 + 0) else nt t (l * 10 + 1)) (nt f (29 + l)) (nt f (35 + l)) (nt f 2 - nt f (41 + l))) (nt t (l * 10 + 3)) (nt f (11 + l)) (nt f 2 - nt f (41 + l)) (nt t (l * 10 + 2))))
  rw [c2, nI_clamp (by omega)]
  exact c1
theorem wb_a : ∀ sz, sz < 7 → ∀ l, l < sz → wb (nI 1 <<< (nI sz &&& 31) - nI 1) l := by
  unfold wb
  decide
theorem lp_hopes (dx dm : Nat) {sz : Nat} {g : Nat → Nat → Int64} {σ σ' : pm_H} (hs : sz ≤ 6) (hz : σ.1 3 2 = nI sz) (hz' : σ'.1 133 22 = nI sz) (hg : ∀ l, l < sz → ∃ x, x ≤ 1000000000 ∧ g l 1 = lN x) (h : ∀ l, l < sz → ∀ q, q < 7 → σ.2 70 (l * 7 + q) = g l q) (h' : ∀ l, l < sz → ∀ q, q < 7 → σ'.2 148 (7 * l + q) = g l q) : ∀ (m i : Nat) (b : Int32), i + m = sz → ∃ v, pm_run (xe (dx + 1)) pg_X11_hopes (51, [.ref 0, .int b, .int (nI i)], [], σ) = some (some (.int v), σ) ∧ pm_run (xe dm) pg_X12_hopes (35, [.ref 133, .int b, .int (nI i)], [], σ') = some (some (.int v), σ')
  | 0, i, b, e => ⟨b, by rw [sg_X11_hopes_51, hz, if_neg (nI_nlt (by omega) (by omega))], by rw [sg_X12_hopes_35, hz', if_neg (nI_nlt (by omega) (by omega))]⟩
  | m + 1, i, b, e => by
    obtain ⟨x, x1, x2⟩ := hg i (by omega)
    rw [sg_X11_hopes_51, hz, if_pos (nI_lt (by omega) (by omega)), q_pu dx (show i < 6 by omega) (show 1 ≤ 6 by omega) (by omega) (h i (by omega)), sg_X12_hopes_35, hz', if_pos (nI_lt (by omega) (by omega)), pk_mul, nI_add, ck_n _ (by omega) (by omega), nI_clamp (by omega), h' i (by omega) 1 (by omega)]
    simp only [pm_cl_some, Option.toList_some, Option.toList_none, List.cons_append, List.nil_append]
    rw [sg_X11_hopes_72, show tS (g i) 0 1 1 = 0 + g i 1 from rfl, Int64.zero_add, x2, lN_i, nI_add]
    by_cases c : 0 < x
    · rw [if_pos (nI_gt0 c (by omega)), if_pos ((lg_cmp_gt _ _).mpr (by rw [show (0 : Int64) = lN 0 from rfl, pk_lLT (by omega) (by omega)]; exact c))]
      exact lp_hopes dx dm hs hz hz' hg h h' m (i + 1) _ (by omega)
    · rw [show x = 0 by omega, if_neg (by decide), if_neg (by decide)]
      exact lp_hopes dx dm hs hz hz' hg h h' m (i + 1) _ (by omega)
theorem b_hopes (d : Nat) {k sz n a e nl : Nat} {T R : Nat → Nat} {V : Nat → LV → Int32} {σ : pm_H} (hk : k ≤ 5000) (h : RelB k sz T R n a e σ) (w : LW nl V σ) : Both (d + 20) (d + 50) 306 307 [] σ (PostW k sz T R nl V) := by
  have hh := h
  obtain ⟨⟨h1, h2, h3, h4, h5, h6, h7⟩, ⟨h8, h9⟩, -⟩ := hh
  have hz : (th0 σ).1 133 22 = nI sz := by rw [th_f _ (by decide)]; exact h2
  unfold Both
  rw [en_X11_hopes, sg_X11_hopes_0, h1]
  by_cases hs0 : sz = 0
  · subst hs0
    refine ⟨.int (-1), σ, th0 σ, by rw [if_pos n00], ?_, PostW_B (PostB_th h) w⟩
    rw [en_X12_hopes, sg_X12_hopes_0, show pm_wI σ 133 0 (nI 0) = th0 σ from rfl, hz, if_pos n00]
  · have hsz : 0 < sz := by omega
    have hT := h5 hsz
    have hlf := lft_le (r := σ.1 5) (f := σ.1 24) h4 h3
    rw [if_neg (nI_ne0 hsz (by omega)), q_lf (d + 16) h hsz]
    simp only [pm_cl_some, Option.toList_some, Option.toList_none, List.cons_append, List.nil_append]
    rw [sg_X11_hopes_17, h1]
    have hrf : ∀ σ1, sameX σ (th0 σ1) → xe (d + 50) 307 [.ref 133] σ1 = pm_run (xe (d + 49)) pg_X12_hopes (20, [.ref 133, .null, .null], [.int (nI (lft (R 1) sz (σ.1 5) (σ.1 24)))], th0 σ1) := by
      intro σ1 sX
      rw [en_X12_hopes, sg_X12_hopes_0, show pm_wI σ1 133 0 (nI 0) = th0 σ1 from rfl, show (th0 σ1).1 133 22 = nI sz from (sX.1.2 22 (by omega)).trans h2, if_neg (nI_ne0 hsz (by omega)), r_lf (d + 47) h hsz sX.1]
      simp only [pm_cl_some, Option.toList_some, Option.toList_none, List.cons_append, List.nil_append]
    by_cases c12 : 12 < lft (R 1) sz (σ.1 5) (σ.1 24)
    · refine ⟨.int (-1), σ, th0 σ, by rw [if_pos (nI_lt c12 (by omega))], ?_, PostW_B (PostB_th h) w⟩
      rw [hrf σ (sameX_th (sameX_rfl σ)), sg_X12_hopes_20, if_pos (nI_lt c12 (by omega))]
    · rw [if_neg (nI_nlt (by omega) (by omega))]
      have hR : RI k sz R (σ.1 5) (σ.1 24) := ⟨by obtain ⟨F, f1, f2, -⟩ := h8.1; exact ⟨F, f1, f2⟩, h8.2.1⟩
      obtain ⟨σ1, i1, i2, i3⟩ := q_go d (f := σ.1 24) h3 hk hT (Or.inl rfl) (EnX_of h w) (fun _ _ => rfl) hR (by omega) (nI 1 <<< (nI sz &&& 31) - nI 1) false
      rw [show xe (d + 19) 213 [.ref 41, .ref 23, .int (nI 1 <<< (nI sz &&& 31) - nI 1), .int (nI 0)] σ = some (none, σ1) from i1]
      simp only [pm_cl_some, Option.toList_some, Option.toList_none, List.cons_append, List.nil_append]
      have sX : sameX σ (th0 σ1) := sameX_th (FRG_X i2)
      obtain ⟨hB, hW'⟩ := sameX_R sX h w
      obtain ⟨σ2, j1, j2, j3, j4⟩ := r_layNow d (σ := th0 σ1) (n := n) (f := σ.1 24) (lg := lgs σ 28) h3 hk hT (EnM_X (EnM_of h w) sX) ⟨hW'.2.2.2.1, hW'.2.2.2.2.1⟩ (by rw [sX.1.1 142 rfl]; exact h8) (by omega)
      obtain ⟨v, v1, v2⟩ := lp_hopes (d + 18) (d + 49) (sz := sz) (σ := σ1) (σ' := σ2) (g := fun l q => sP (s_place sz (σ.1 4) (σ.1 5)) l q (esA V (σ.1 12 6) sz (σ.1 4) (σ.1 5) (σ.1 24))) h3 (by rw [(FRG_X i2).1.1 3 rfl]; exact h1) ((j2.1.2 22 (by omega)).trans ((sX.1.2 22 (by omega)).trans h2)) (fun l _ => sP_N (chF_le V (σ.1 12 6) (σ.1 4)) _ l 1 12 (σ.1 24) 1000000000) (fun l hl => (i3 l hl (wb_a sz (by omega) l hl)).2 rfl) (fun l hl => (j4 l hl).2) sz 0 (nI 0) (by omega)
      refine ⟨.int v, σ1, σ2, ?_, ?_, PostW_Q hB hW' j2 j3.1 j3.2⟩
      · rw [sg_X11_hopes_47, v1]
      · rw [hrf σ1 sX, sg_X12_hopes_20, if_neg (nI_nlt (by omega) (by omega)), j1]
        simp only [pm_cl_some, Option.toList_some, Option.toList_none, List.cons_append, List.nil_append]
        rw [sg_X12_hopes_31, v2]

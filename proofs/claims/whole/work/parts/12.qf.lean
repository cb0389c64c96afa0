/-! ===== lights; a lift of the reference ===== -/
def gd (n : Nat) : Bool := n == 3 || n == 5 || n == 6 || n == 7
def bc (n : Nat) : Nat := n % 2 + n / 2 % 2 + n / 4 % 2
theorem q_bit (d : Nat) (σ : pm_H) {n : Nat} (hn : n < 8) : xe (d + 1) 170 [.int (nI n)] σ = some (some (.int (nI (bc n))), σ) := by
  rw [en_J6_bitCount_0f7a4, sg_J6_bitCount_0f7a4_0]
  refine congrArg (fun x => some (some (Value.int x), σ)) ?_
  rcases (show n = 0 ∨ n = 1 ∨ n = 2 ∨ n = 3 ∨ n = 4 ∨ n = 5 ∨ n = 6 ∨ n = 7 by omega) with rfl | rfl | rfl | rfl | rfl | rfl | rfl | rfl <;> decide +kernel
theorem bc_gd {n : Nat} (hn : n < 8) : (nI 1 < nI (bc n)) = (gd n = true) := by
  rcases (show n = 0 ∨ n = 1 ∨ n = 2 ∨ n = 3 ∨ n = 4 ∨ n = 5 ∨ n = 6 ∨ n = 7 by omega) with rfl | rfl | rfl | rfl | rfl | rfl | rfl | rfl <;> decide
theorem r_isGood (d : Nat) (σ : pm_H) {n : Nat} (hn : n < 8) : xe (d + 2) 180 [.int (nI n)] σ = some (some (.int (b32 (gd n))), σ) := by
  rw [en_X12_isGood, sg_X12_isGood_0, q_bit d σ hn]
  simp only [pm_cl_some, Option.toList_some, List.cons_append, List.nil_append]
  rw [sg_X12_isGood_4]
  simp only [bc_gd hn]
  cases gd n <;> rfl
def h_mk2 (t r w : Nat → Int32) (n l : Nat) (wt li : Int32) (good : Bool) (rd : Nat) : Nat → Int32 :=
  let b := 71 + 5 * n
  let w2 := upd (upd (upd (upd (upd (upd w 69 (nI l)) b (nI l)) (b + 1) wt) (b + 2) li) (b + 3) (w 68)) (b + 4) (w 66)
  let more := if t (10 * l + 9) < r 2 then r 2 else t (10 * l + 9)
  let w3 := if good then upd (upd (if rd = 1 then upd (upd w2 (11 * l + 2 + rd) wt) (11 * l + 10) (w 70) else upd w2 (11 * l + 2 + rd) wt) (11 * l + 4) (wt + r 2)) (11 * l + 0) (if wt + more < nI 99 then wt + more else nI 99) else upd w2 (11 * l + 4) wt
  upd (upd (upd (upd (upd w3 70 (w 70 + nI 1)) (11 * l + 1) (w (11 * l + 1) + nI 1)) (11 * l + 9) (w (11 * l + 9) + nI 1)) (11 * l + 8) (w 68)) (11 * l + 5) (r 0)
theorem r_lifts_end (d : Nat) (σ : pm_H) {q sz : Nat} (hq : rw_ok q) (hs : sz ≤ 6) (hz : σ.1 133 22 = nI sz) (W : Nat → Int32) (h : W 66 = nI 0 ∨ W 66 = nI 1 ∨ W 66 = nI 2) (K : pm_R → Option pm_R) (hK : ∀ s, K (none, s) = some (none, s)) : pm_cl (xe (d + 3) 181 [.ref 133, .ref q] (pm_wC σ q W)) K = some (none, pm_wC σ q (h_on sz (σ.1 138) (σ.1 140) W)) := by
  rw [r_goesOn d _ hq hs (by rw [wC_ne σ _ (rw_133 hq)]; exact hz) (by rw [wC_at]; exact h)]
  simp only [pm_cl_some, wC_at, wC_wC, wC_ne _ _ (rw_138 hq), wC_ne _ _ (rw_140 hq), hK]
theorem r_lifts40 (d : Nat) (σ : pm_H) {q sz n l li rd : Nat} {wt : Int32} (hq : rw_ok q) (hs : sz ≤ 6) (hz : σ.1 133 22 = nI sz) (hl : l < 6) (hli : li < 8) (hn : n < 36) (hrd : rd < 2) (W : Nat → Int32) (h70 : W 70 = nI n) (h66 : W 66 = nI rd) : pm_run (xe (d + 3)) pg_X12_lifts (40, [.ref 133, .ref q, .int (nI l), .int (nI li), .int (nI (11 * l)), .int wt, .null], [], pm_wC σ q W) = some (none, pm_wC σ q (h_on sz (σ.1 138) (σ.1 140) (h_mk2 (σ.1 138) (σ.1 140) W n l wt (nI li) (gd li) rd))) := by
  rw [sg_X12_lifts_40 hq]
  simp (disch := omega) only [ck_n, nI_clamp, wI_wC, wC_at, wC_wC, up_ne, h70, pk_mul, nI_add]
  rw [sg_X12_lifts_61 hq]
  simp (disch := omega) only [ck_n, nI_clamp, wI_wC, wC_at, wC_wC, up_ne, nI_add]
  rw [sg_X12_lifts_86 hq]
  simp (disch := omega) only [ck_n, nI_clamp, wI_wC, wC_at, wC_wC, up_ne, nI_add]
  rw [r_isGood (d + 1) _ hli]
  simp only [pm_cl_some, Option.toList_some, List.cons_append, List.nil_append]
  rw [sg_X12_lifts_100 hq]
  simp (disch := omega) only [ck_n, nI_clamp, wI_wC, wC_at, wC_wC, up_ne, nI_add, h66]
  cases gd li with
  | false =>
    rw [if_pos (by decide), sg_X12_lifts_204 hq]
    simp (disch := omega) only [ck_n, nI_clamp, wI_wC, wC_at, wC_wC, up_ne, nI_add]
    rw [sg_X12_lifts_225 hq]
    simp (disch := omega) only [ck_n, nI_clamp, wI_wC, wC_at, wC_wC, up_ne, nI_add, wC_ne _ _ (rw_140 hq)]
    rw [sg_X12_lifts_248 hq, r_lifts_end d σ hq hs hz _ ?_ _ (fun s => sg_X12_lifts_253 hq)]
    · simp only [h_mk2, Bool.false_eq_true, if_false, h66]
    · simp (disch := omega) only [up_ne, h66]
      rcases (show rd = 0 ∨ rd = 1 by omega) with rfl | rfl
      · exact Or.inl rfl
      · exact Or.inr (Or.inl rfl)
  | true =>
    rw [if_neg (by decide)]
    rcases (show rd = 0 ∨ rd = 1 by omega) with rfl | rfl
    · rw [if_neg (by decide), sg_X12_lifts_150 hq]
      simp (disch := omega) only [ck_n, nI_clamp, wI_wC, wC_at, wC_wC, up_ne, pk_mul, nI_add, wC_ne _ _ (rw_138 hq), wC_ne _ _ (rw_140 hq)]
      rw [sg_X12_lifts_204 hq]
      simp (disch := omega) only [ck_n, nI_clamp, wI_wC, wC_at, wC_wC, up_ne, nI_add]
      rw [sg_X12_lifts_225 hq]
      simp (disch := omega) only [ck_n, nI_clamp, wI_wC, wC_at, wC_wC, up_ne, nI_add, wC_ne _ _ (rw_140 hq)]
      rw [sg_X12_lifts_248 hq, r_lifts_end d σ hq hs hz _ ?_ _ (fun s => sg_X12_lifts_253 hq)]
      · simp only [h_mk2, if_true, h66, show ¬ (0 = 1) by decide, if_false]
      · simp (disch := omega) only [up_ne, h66]
        exact Or.inl trivial
    · rw [if_pos (by decide), sg_X12_lifts_135 hq]
      simp (disch := omega) only [ck_n, nI_clamp, wI_wC, wC_at, wC_wC, up_ne, pk_mul, nI_add, wC_ne _ _ (rw_138 hq), wC_ne _ _ (rw_140 hq)]
      rw [sg_X12_lifts_196 hq]
      simp (disch := omega) only [ck_n, nI_clamp, wI_wC, wC_at, wC_wC, up_ne, nI_add]
      rw [sg_X12_lifts_214 hq]
      simp (disch := omega) only [ck_n, nI_clamp, wI_wC, wC_at, wC_wC, up_ne, nI_add]
      rw [sg_X12_lifts_236 hq]
      simp (disch := omega) only [ck_n, nI_clamp, wI_wC, wC_at, wC_wC, up_ne, nI_add, wC_ne _ _ (rw_140 hq)]
      rw [r_lifts_end d σ hq hs hz _ ?_ _ (fun s => sg_X12_lifts_253 hq)]
      · simp only [h_mk2, if_true, h66]
      · simp (disch := omega) only [up_ne, h66]
        exact Or.inr (Or.inl trivial)
def h_made (t r w : Nat → Int32) (n l : Nat) (li : Int32) (good : Bool) (rd : Nat) : Nat → Int32 :=
  h_mk2 t r (upd (upd w 67 (w (11 * l + 0))) 68 (w 68 + (if w 69 = nI l then nI 2 else nI 1))) n l (w (11 * l + 0)) li good rd
theorem r_lifts (d : Nat) (σ : pm_H) {q sz n l li rd : Nat} (hq : rw_ok q) (hs : sz ≤ 6) (hz : σ.1 133 22 = nI sz) (hl : l < 6) (hli : li < 8) (hn : n < 36) (hrd : rd < 2) (h70 : σ.1 q 70 = nI n) (h66 : σ.1 q 66 = nI rd) : xe (d + 4) 179 [.ref 133, .ref q, .int (nI l), .int (nI li)] σ = some (none, pm_wC σ q (h_on sz (σ.1 138) (σ.1 140) (h_made (σ.1 138) (σ.1 140) (σ.1 q) n l (nI li) (gd li) rd))) := by
  rw [en_X12_lifts, sg_X12_lifts_0 hq]
  simp (disch := omega) only [ck_n, nI_clamp, wI_wC, wC_at, wC_wC, up_ne, pk_mul, nI_add]
  unfold h_made
  by_cases h : σ.1 q 69 = nI l
  · rw [if_pos h, if_pos h, r_lifts40 d σ hq hs hz hl hli hn hrd _ (by simp (disch := omega) only [up_ne]; exact h70) (by simp (disch := omega) only [up_ne]; exact h66)]
  · rw [if_neg h, if_neg h, r_lifts40 d σ hq hs hz hl hli hn hrd _ (by simp (disch := omega) only [up_ne]; exact h70) (by simp (disch := omega) only [up_ne]; exact h66)]

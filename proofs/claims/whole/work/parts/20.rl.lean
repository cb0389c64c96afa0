/-! ===== text: one LAW more ===== -/
theorem kd14 : ∀ i, i < 6 → pm_kd (14 + i) = .inl (0, 240, 0) := by
  intro i hi
  rcases (show i = 0 ∨ i = 1 ∨ i = 2 ∨ i = 3 ∨ i = 4 ∨ i = 5 by omega) with rfl | rfl | rfl | rfl | rfl | rfl <;> rfl
theorem q_ladd (d : Nat) {nl L : Nat} {σ : pm_H} (h5 : σ.1 12 5 = nI nl) (hnl : nl < 6) (hL : L ≤ 240) : xe (d + 1) 114 [.ref 12, .ref 11, .int (nI L)] σ = some (some (.int (nI nl)), pm_wI (pm_wI (pm_wC σ (14 + nl) (va_cpy (σ.1 11) (σ.1 (14 + nl)) 0 0 L)) 20 nl (nI L)) 12 5 (nI (nl + 1))) := by
  have hc : (nI nl : Int32).toNatClampNeg = nl := nI_clamp (by omega)
  have hcp : ∀ t : Option pm_R, pm_cpk (nI 0) (nI 0) (nI L) 240 240 t = t := fun t => if_pos (by
    rw [nI_clamp (by omega), nI_clamp (by omega)]
    exact ⟨nI_pos (by omega), nI_pos (by omega), nI_pos (by omega), by omega, by omega⟩)
  have e12 : (pm_wC σ (14 + nl) (va_cpy (σ.1 11) (σ.1 (14 + nl)) 0 0 L)).1 12 5 = nI nl := by rw [wC_ne _ _ (by omega)]; exact h5
  rw [en_X5_add, sg_X5_add_0 (by rw [h5, hc]; exact kd14 nl hnl), h5, hc, if_pos (nI_lt hnl (by omega)), if_neg (nI_pos (by omega)), if_neg (nI_nlt hL (by omega)), ck_n _ hnl (by omega), hcp, nI_clamp (show 0 < 2 ^ 31 by omega), nI_clamp (show L < 2 ^ 31 by omega), e12, ck_n _ hnl (by omega), hc, sg_X5_add_48]
  have e12' : (pm_wI (pm_wC σ (14 + nl) (va_cpy (σ.1 11) (σ.1 (14 + nl)) 0 0 L)) 20 nl (nI L)).1 12 5 = nI nl := by rw [wI_wC, wC_ne _ _ (by decide)]; exact e12
  rw [e12', nI_add, wI_wC _ 12, wC_at, up_at, pk_sub (by omega), Nat.add_sub_cancel]
theorem byt_n : ∀ x, x < 256 → (byt x).toInt8.toInt32 = byt x := by decide +kernel
theorem r_tx_l {ev : pm_Ev} {b : Nat → Nat} {n nl : Nat} {σ : pm_H} {u0 : Nat → Int32} (hb : okb b n) (hnl : nl < 6) (h7 : σ.1 133 7 = nI nl) (hx : ∀ i, i < n → σ.1 134 i = byt (b i)) : ∀ (m i : Nat) (u : Nat → Int32) (w1 : Value), i + m = n → (∀ j, j < i → u (240 * nl + j) = byt (b j)) → (∀ j, j < 240 * nl → u j = u0 j) → ∃ u', pm_run ev pg_X12_text (57, [.ref 133, w1, .int (nI n), .int (nI i)], [], pm_wC σ 135 u) = some (some (.int (nI nl)), pm_wI (pm_wI (pm_wC σ 135 u') 136 nl (nI n)) 133 7 (nI (nl + 1))) ∧ (∀ j, j < n → u' (240 * nl + j) = byt (b j)) ∧ ∀ j, j < 240 * nl → u' j = u0 j
  | 0, i, u, w1, e, h1, h2 => by
    refine ⟨u, ?_, fun j hj => h1 j (by omega), h2⟩
    have hn := hb.1
    have e7 : (pm_wC σ 135 u).1 133 7 = nI nl := by rw [wC_ne _ _ (by decide)]; exact h7
    have e7' : (pm_wI (pm_wC σ 135 u) 136 nl (nI n)).1 133 7 = nI nl := by rw [wI_wC, wC_ne _ _ (by decide)]; exact e7
    rw [sg_X12_text_57, if_neg (nI_nlt (by omega) (by omega)), e7, ck_n _ hnl (by omega), nI_clamp (by omega), e7', nI_add, sg_X12_text_109, wI_wC _ 133, wC_at, up_at, pk_sub (by omega), Nat.add_sub_cancel]
  | m + 1, i, u, w1, e, h1, h2 => by
    have hn := hb.1
    have e7 : (pm_wC σ 135 u).1 133 7 = nI nl := by rw [wC_ne _ _ (by decide)]; exact h7
    have hbi := hb.2 i (by omega)
    rw [sg_X12_text_57, if_pos (nI_lt (by omega) (by omega)), e7, pk_mul, nI_add, ck_n _ (by omega) (by omega), ck_n _ (by omega) (by omega), nI_clamp (by omega), nI_clamp (by omega), wC_ne _ _ (show (134 : Nat) ≠ 135 by decide), hx i (by omega), vp_nar_byte, byt_n _ (by omega), wI_wC, wC_at, wC_wC, nI_add]
    refine r_tx_l hb hnl h7 hx m (i + 1) _ _ (by omega) (fun j hj => ?_) (fun j hj => ?_)
    · by_cases ej : j = i
      · subst ej
        rw [up_at]
      · rw [up_ne _ _ (by omega)]
        exact h1 j (by omega)
    · rw [up_ne _ _ (by omega)]
      exact h2 j hj

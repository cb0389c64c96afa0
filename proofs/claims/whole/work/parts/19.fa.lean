/-! ===== feed, end ===== -/
theorem and255 (y : Int32) : ∃ x, x < 256 ∧ y &&& nI 255 = nI x := by
  refine ⟨(y.toBitVec &&& 255#32).toNat, ?_, ?_⟩
  · have : (y.toBitVec &&& 255#32).toNat ≤ 255 := by
      rw [BitVec.toNat_and]
      exact Nat.and_le_right
    omega
  · apply Int32.toBitVec_inj.mp
    show y.toBitVec &&& (nI 255).toBitVec = BitVec.ofNat 32 _
    rw [BitVec.ofNat_toNat, BitVec.setWidth_eq]
    rfl
theorem w255_f : ∀ i, i < 32 → 8 ≤ i → (255#32).getLsbD i = false := by decide
theorem w255_t : ∀ i, i < 8 → (255#32).getLsbD i = true := by decide
theorem bv_sh (x : BitVec 32) (s : Nat) (hs : s ≤ 24) : (x >>> s) &&& 255#32 = (x.sshiftRight s) &&& 255#32 := by
  apply BitVec.eq_of_getLsbD_eq
  intro i hi
  rw [BitVec.getLsbD_and, BitVec.getLsbD_and, BitVec.getLsbD_ushiftRight, BitVec.getLsbD_sshiftRight]
  by_cases h8 : i < 8
  · rw [if_pos (show s + i < 32 by omega), decide_eq_false (show ¬ 32 ≤ i by omega), Bool.not_false, Bool.true_and]
  · rw [w255_f i hi (by omega), Bool.and_false, Bool.and_false]
theorem sh_x0 (v : Int32) : ∀ m, m < 4 → ((v.toUInt32 >>> ((nI (8 * m)).toUInt32 &&& Int32.toUInt32 31)).toInt32) &&& nI 255 = (v >>> (nI (8 * m) &&& 31)) &&& nI 255 := by
  intro m hm
  apply Int32.toBitVec_inj.mp
  rw [Int32.toBitVec_and, Int32.toBitVec_and, Int32.toBitVec_shiftRight]
  show (v.toUInt32 >>> ((nI (8 * m)).toUInt32 &&& Int32.toUInt32 31)).toBitVec &&& 255#32 = _ &&& 255#32
  rw [UInt32.toBitVec_shiftRight]
  show v.toBitVec >>> _ &&& 255#32 = _
  rcases (show m = 0 ∨ m = 1 ∨ m = 2 ∨ m = 3 by omega) with rfl | rfl | rfl | rfl
  · exact bv_sh v.toBitVec 0 (by omega)
  · exact bv_sh v.toBitVec 8 (by omega)
  · exact bv_sh v.toBitVec 16 (by omega)
  · exact bv_sh v.toBitVec 24 (by omega)
theorem to8 (y : Int32) : y.toInt8 = (y &&& nI 255).toInt8 := by
  apply Int8.toBitVec_inj.mp
  rw [Int32.toBitVec_toInt8, Int32.toBitVec_toInt8, BitVec.signExtend_eq_setWidth_of_le _ (by omega), BitVec.signExtend_eq_setWidth_of_le _ (by omega)]
  apply BitVec.eq_of_getLsbD_eq
  intro i hi
  rw [BitVec.getLsbD_setWidth, BitVec.getLsbD_setWidth, Int32.toBitVec_and, BitVec.getLsbD_and]
  show _ = (_ && (_ && (255#32).getLsbD i))
  rw [w255_t i hi, Bool.and_true]
theorem to8_byt : ∀ x, x < 256 → (nI x).toInt8.toInt32.toInt8.toInt32 = byt x := by decide +kernel
def bs (v : Int32) (s : Nat) : Nat := ((v >>> (nI s &&& 31)) &&& nI 255).toNatClampNeg
theorem bs_d (v : Int32) (s : Nat) : (v >>> (nI s &&& 31)) &&& nI 255 = nI (bs v s) ∧ bs v s < 256 := by
  obtain ⟨x, x1, x2⟩ := and255 (v >>> (nI s &&& 31))
  unfold bs
  rw [x2, nI_clamp (by omega)]
  exact ⟨rfl, x1⟩
theorem bs_byt (v : Int32) (s : Nat) : vp_nar .byte ((v >>> (nI s &&& 31)).toInt8.toInt32) = byt (bs v s) := by
  rw [vp_nar_byte, to8 (v >>> (nI s &&& 31)), (bs_d v s).1, to8_byt _ (bs_d v s).2]
def btm (v : Int32) : Nat → List Nat
  | 0 => []
  | m + 1 => if bs v (8 * m) = 0 then btm v m else bs v (8 * m) :: btm v m
theorem btm_le (v : Int32) : ∀ m, (btm v m).length ≤ m
  | 0 => Nat.le_refl 0
  | m + 1 => by
    have := btm_le v m
    unfold btm
    split
    · omega
    · rw [List.length_cons]; omega
theorem btm_ok (v : Int32) : ∀ m i, i < (btm v m).length → 1 ≤ (btm v m).getD i 0 ∧ (btm v m).getD i 0 ≤ 255
  | 0, i, h => absurd h (Nat.not_lt_zero i)
  | m + 1, i, h => by
    have hb := (bs_d v (8 * m)).2
    unfold btm at h ⊢
    by_cases e : bs v (8 * m) = 0
    · rw [if_pos e] at h ⊢
      exact btm_ok v m i h
    · rw [if_neg e] at h ⊢
      cases i with
      | zero => exact ⟨by show 1 ≤ bs v (8 * m); omega, by show bs v (8 * m) ≤ 255; omega⟩
      | succ i => exact btm_ok v m i (by rw [List.length_cons] at h; omega)
def shv : Nat → Int32
  | 0 => -8
  | m + 1 => nI (8 * m)
theorem shv_p : ∀ m, m < 4 → shv (m + 1) + (-8) = shv m := by decide
theorem shv_n : ∀ m, m < 4 → ¬ shv (m + 1) < 0 := by decide
theorem shv_0 : shv 0 < 0 := by decide
theorem shv_x (v : Int32) (m : Nat) (hm : m < 4) : ((v.toUInt32 >>> ((shv (m + 1)).toUInt32 &&& Int32.toUInt32 31)).toInt32) &&& nI 255 = nI (bs v (8 * m)) := (sh_x0 v m hm).trans (bs_d v (8 * m)).1
theorem shv_y (v : Int32) (m : Nat) : (v >>> (shv (m + 1) &&& 31)) &&& nI 255 = nI (bs v (8 * m)) := (bs_d v (8 * m)).1
theorem q_sg_l {ev : pm_Ev} {v : Int32} : ∀ (m c : Nat) (σ : pm_H), m ≤ 4 → pm_run ev pg_X10_signsIn (5, [.int v, .int (nI c), .int (shv m)], [], σ) = some (some (.int (nI (c + (btm v m).length))), σ)
  | 0, c, σ, _ => by rw [sg_X10_signsIn_5, if_pos shv_0]; rfl
  | m + 1, c, σ, h => by
    have hb := (bs_d v (8 * m)).2
    rw [sg_X10_signsIn_5, if_neg (shv_n m (by omega)), shv_x v m (by omega), shv_p m (by omega), nI_add, nI_add]
    unfold btm
    by_cases e : bs v (8 * m) = 0
    · rw [if_pos (by rw [e]; exact n00), if_pos e]
      exact q_sg_l m (c + 0) σ (by omega)
    · rw [if_neg (nI_ne0 (by omega) (by omega)), if_neg e, q_sg_l m (c + 1) σ (by omega), List.length_cons, show c + 1 + (btm v m).length = c + ((btm v m).length + 1) by omega]
theorem q_sgI (d : Nat) (v : Int32) (σ : pm_H) : xe (d + 1) 15 [.int v] σ = some (some (.int (nI (btm v 4).length)), σ) := by
  rw [en_X10_signsIn, sg_X10_signsIn_0, show nI 24 = shv 4 from rfl, q_sg_l 4 0 σ (by omega), Nat.zero_add]
theorem r_sg_l {ev : pm_Ev} {v : Int32} : ∀ (m c : Nat) (σ : pm_H), m ≤ 4 → pm_run ev pg_X12_bytesIn (5, [.int v, .int (nI c), .int (shv m)], [], σ) = some (some (.int (nI (c + (btm v m).length))), σ)
  | 0, c, σ, _ => by rw [sg_X12_bytesIn_5, if_pos shv_0]; rfl
  | m + 1, c, σ, h => by
    have hb := (bs_d v (8 * m)).2
    rw [sg_X12_bytesIn_5, if_neg (shv_n m (by omega)), shv_y v m, shv_p m (by omega), nI_add, nI_add]
    unfold btm
    by_cases e : bs v (8 * m) = 0
    · rw [if_pos (by rw [e]; exact n00), if_pos e]
      exact r_sg_l m (c + 0) σ (by omega)
    · rw [if_neg (nI_ne0 (by omega) (by omega)), if_neg e, r_sg_l m (c + 1) σ (by omega), List.length_cons, show c + 1 + (btm v m).length = c + ((btm v m).length + 1) by omega]
theorem r_sgI (d : Nat) (v : Int32) (σ : pm_H) : xe (d + 1) 18 [.int v] σ = some (some (.int (nI (btm v 4).length)), σ) := by
  rw [en_X12_bytesIn, sg_X12_bytesIn_0, show nI 24 = shv 4 from rfl, r_sg_l 4 0 σ (by omega), Nat.zero_add]
/-- the class's tape has these bytes -/
def cX (b : Nat → Nat) (n : Nat) (σ : pm_H) : Prop := σ.1 1 1 = nI n ∧ ∀ i, i < n → σ.1 2 i = nI (b i)
def onT (σ σ' : pm_H) : Prop := σ'.2 = σ.2 ∧ ∀ c, c ≠ 1 → c ≠ 2 → σ'.1 c = σ.1 c
theorem onT_tr {σ σ1 σ2 : pm_H} (h : onT σ σ1) (h' : onT σ1 σ2) : onT σ σ2 := ⟨h'.1.trans h.1, fun c a b => (h'.2 c a b).trans (h.2 c a b)⟩
theorem q_ad_l {ev : pm_Ev} {v : Int32} {b : Nat → Nat} : ∀ (m n : Nat) (σ : pm_H) (w3 : Value), m ≤ 4 → cX b n σ → n + (btm v m).length ≤ 240 → (∀ i, i < (btm v m).length → b (n + i) = (btm v m).getD i 0) → ∃ σ', pm_run ev pg_X10_add (3, [.ref 1, .int v, .int (shv m), w3], [], σ) = some (none, σ') ∧ onT σ σ' ∧ cX b (n + (btm v m).length) σ'
  | 0, n, σ, w3, _, h, _, _ => ⟨σ, by rw [sg_X10_add_3, if_pos shv_0], ⟨rfl, fun _ _ _ => rfl⟩, h⟩
  | m + 1, n, σ, w3, hm, h, hn, hL => by
    have hb := (bs_d v (8 * m)).2
    unfold btm at hn hL
    rw [sg_X10_add_3, if_neg (shv_n m (by omega)), shv_x v m (by omega), shv_p m (by omega)]
    by_cases e : bs v (8 * m) = 0
    · rw [if_pos e] at hn hL
      rw [if_pos (by rw [e]; exact n00), show btm v (m + 1) = btm v m from if_pos e]
      exact q_ad_l m n σ _ (by omega) h hn hL
    · rw [if_neg e] at hn hL
      rw [List.length_cons] at hn hL
      rw [if_neg (nI_ne0 (by omega) (by omega)), h.1, if_pos (nI_lt (by omega) (by omega)), ck_n _ (by omega) (by omega), nI_clamp (by omega), wI_wC, wI_wC, wC_ne _ _ (show (1 : Nat) ≠ 2 by decide), h.1, nI_add, sg_X10_add_49, shv_p m (by omega), show btm v (m + 1) = bs v (8 * m) :: btm v m from if_neg e, List.length_cons]
      obtain ⟨σ', i1, i2, i3⟩ := q_ad_l (ev := ev) (v := v) (b := b) m (n + 1) (pm_wC (pm_wC σ 2 (upd (σ.1 2) n (nI (bs v (8 * m))))) 1 (upd (σ.1 1) 1 (nI (n + 1)))) (.int (nI (bs v (8 * m)))) (by omega) (by
        refine ⟨by rw [wC_at, up_at], fun i hi => ?_⟩
        rw [wC_ne _ _ (by decide), wC_at]
        by_cases ei : i = n
        · subst ei
          rw [up_at]
          have := hL 0 (by omega)
          rw [Nat.add_zero] at this
          rw [this]
          rfl
        · rw [up_ne _ _ ei]
          exact h.2 i (by omega)) (by omega) (fun i hi => by
        have := hL (i + 1) (by omega)
        rw [show n + 1 + i = n + (i + 1) by omega, this]
        rfl)
      refine ⟨σ', i1, onT_tr (σ1 := pm_wC (pm_wC σ 2 (upd (σ.1 2) n (nI (bs v (8 * m))))) 1 (upd (σ.1 1) 1 (nI (n + 1)))) ⟨rfl, fun c c1 c2 => by rw [wC_ne _ _ c1, wC_ne _ _ c2]⟩ i2, ?_⟩
      rw [show n + ((btm v m).length + 1) = n + 1 + (btm v m).length by omega]
      exact i3
theorem q_add (d : Nat) {v : Int32} {b : Nat → Nat} {n : Nat} {σ : pm_H} (h : cX b n σ) (hn : n + (btm v 4).length ≤ 240) (hL : ∀ i, i < (btm v 4).length → b (n + i) = (btm v 4).getD i 0) : ∃ σ', xe (d + 1) 16 [.ref 1, .int v] σ = some (none, σ') ∧ onT σ σ' ∧ cX b (n + (btm v 4).length) σ' := by
  rw [en_X10_add, sg_X10_add_0, show nI 24 = shv 4 from rfl]
  exact q_ad_l 4 n σ _ (by omega) h hn hL
/-- the reference's -/
def rX (b : Nat → Nat) (n : Nat) (σ : pm_H) : Prop := σ.1 133 6 = nI n ∧ ∀ i, i < n → σ.1 134 i = byt (b i)
def onR (σ σ' : pm_H) : Prop := σ'.2 = σ.2 ∧ (∀ c, c ≠ 133 → c ≠ 134 → σ'.1 c = σ.1 c) ∧ ∀ j, j ≠ 6 → σ'.1 133 j = σ.1 133 j
theorem onR_tr {σ σ1 σ2 : pm_H} (h : onR σ σ1) (h' : onR σ1 σ2) : onR σ σ2 := ⟨h'.1.trans h.1, fun c a b => (h'.2.1 c a b).trans (h.2.1 c a b), fun j hj => (h'.2.2 j hj).trans (h.2.2 j hj)⟩
theorem r_ad_l {ev : pm_Ev} {v : Int32} {b : Nat → Nat} : ∀ (m n : Nat) (σ : pm_H), m ≤ 4 → rX b n σ → n + (btm v m).length ≤ 240 → (∀ i, i < (btm v m).length → b (n + i) = (btm v m).getD i 0) → ∃ σ', pm_run ev pg_X12_put (3, [.ref 133, .int v, .int (shv m)], [], σ) = some (none, σ') ∧ onR σ σ' ∧ rX b (n + (btm v m).length) σ'
  | 0, n, σ, _, h, _, _ => ⟨σ, by rw [sg_X12_put_3, if_pos shv_0], ⟨rfl, fun _ _ _ => rfl, fun _ _ => rfl⟩, h⟩
  | m + 1, n, σ, hm, h, hn, hL => by
    have hb := (bs_d v (8 * m)).2
    unfold btm at hn hL
    rw [sg_X12_put_3, if_neg (shv_n m (by omega)), shv_y v m, shv_p m (by omega)]
    by_cases e : bs v (8 * m) = 0
    · rw [if_pos e] at hn hL
      rw [if_pos (by rw [e]; exact n00), show btm v (m + 1) = btm v m from if_pos e]
      exact r_ad_l m n σ (by omega) h hn hL
    · rw [if_neg e] at hn hL
      rw [List.length_cons] at hn hL
      rw [if_neg (nI_ne0 (by omega) (by omega)), h.1, ck_n _ (by omega) (by omega), nI_clamp (by omega), show vp_nar .byte ((v >>> (shv (m + 1) &&& 31)).toInt8.toInt32) = byt (bs v (8 * m)) from bs_byt v (8 * m), wI_wC, wI_wC, wC_ne _ _ (show (133 : Nat) ≠ 134 by decide), h.1, nI_add, sg_X12_put_43, shv_p m (by omega), show btm v (m + 1) = bs v (8 * m) :: btm v m from if_neg e, List.length_cons]
      obtain ⟨σ', i1, i2, i3⟩ := r_ad_l (ev := ev) (v := v) (b := b) m (n + 1) (pm_wC (pm_wC σ 134 (upd (σ.1 134) n (byt (bs v (8 * m))))) 133 (upd (σ.1 133) 6 (nI (n + 1)))) (by omega) (by
        refine ⟨by rw [wC_at, up_at], fun i hi => ?_⟩
        rw [wC_ne _ _ (by decide), wC_at]
        by_cases ei : i = n
        · subst ei
          rw [up_at]
          have := hL 0 (by omega)
          rw [Nat.add_zero] at this
          rw [this]
          rfl
        · rw [up_ne _ _ ei]
          exact h.2 i (by omega)) (by omega) (fun i hi => by
        have := hL (i + 1) (by omega)
        rw [show n + 1 + i = n + (i + 1) by omega, this]
        rfl)
      refine ⟨σ', i1, onR_tr (σ1 := pm_wC (pm_wC σ 134 (upd (σ.1 134) n (byt (bs v (8 * m))))) 133 (upd (σ.1 133) 6 (nI (n + 1)))) ⟨rfl, fun c c1 c2 => by rw [wC_ne _ _ c1, wC_ne _ _ c2], fun j hj => by rw [wC_at, up_ne _ _ hj]⟩ i2, ?_⟩
      rw [show n + ((btm v m).length + 1) = n + 1 + (btm v m).length by omega]
      exact i3
theorem r_put (d : Nat) {v : Int32} {b : Nat → Nat} {n : Nat} {σ : pm_H} (h : rX b n σ) (hn : n + (btm v 4).length ≤ 240) (hL : ∀ i, i < (btm v 4).length → b (n + i) = (btm v 4).getD i 0) : ∃ σ', xe (d + 1) 19 [.ref 133, .int v] σ = some (none, σ') ∧ onR σ σ' ∧ rX b (n + (btm v 4).length) σ' := by
  rw [en_X12_put, sg_X12_put_0, show nI 24 = shv 4 from rfl]
  exact r_ad_l 4 n σ (by omega) h hn hL
/-- the tape has changed, in both -/
theorem LW_T {nl : Nat} {V : Nat → LV → Int32} {σ σ' : pm_H} (h : LW nl V σ) (ht : R_t σ') (hc : ∀ c, kpL c = true → c ≠ 2 → c ≠ 134 → σ'.1 c = σ.1 c) (hm : ∀ j, (j = 7 ∨ j = 27 ∨ j = 28) → σ'.1 133 j = σ.1 133 j) (hO : sameO σ σ') : LW nl V σ' := by
  obtain ⟨-, ⟨c1, c2, c3⟩, ⟨m1, m2, m3⟩, o, l, ⟨f1, f2⟩, o1, o2⟩ := h
  have s12 := hc 12 rfl (by decide) (by decide)
  refine ⟨ht, ⟨c1, by rw [s12]; exact c2, fun j hj => ?_⟩, ⟨m1, (hm 7 (by omega)).trans m2, fun j hj => ?_⟩, MOw_same o hO, by rw [LM_same (hc 137 rfl (by decide) (by decide))]; exact l, ⟨by rw [hm 27 (by omega), s12]; exact f1, by rw [hm 28 (by omega), s12]; exact f2⟩, by rw [s12]; exact o1, by rw [s12]; exact o2⟩
  · obtain ⟨cc, a1, a2, a3, a4⟩ := c3 j hj
    exact ⟨cc, by rw [hc 20 rfl (by decide) (by decide)]; exact a1, a2, by rw [hc (14 + j) (kpL_lw (by omega)) (by omega) (by omega)]; exact a3, a4⟩
  · obtain ⟨b', n', c', v', q', a1, a2, a3, a4, a5⟩ := m3 j hj
    exact ⟨b', n', c', v', q', a1, a2, a3, by rw [hc 136 rfl (by decide) (by decide)]; exact a4, fun i hi => by rw [hc 135 rfl (by decide) (by decide)]; exact a5 i hi⟩
theorem kpB_tp {c : Nat} (h : kpB c = true) : c ≠ 1 ∧ c ≠ 2 ∧ c ≠ 133 ∧ c ≠ 134 := by
  unfold kpB at h
  simp at h
  omega
theorem kpL_tp {c : Nat} (h : kpL c = true) : c ≠ 1 ∧ c ≠ 133 := by
  unfold kpL at h
  simp at h
  omega
theorem PostW_T {k sz n a e nl : Nat} {T R : Nat → Nat} {V : Nat → LV → Int32} {σ σ1 σ2 : pm_H} (h : RelB k sz T R n a e σ) (w : LW nl V σ) (h1 : onT σ σ1) (h2 : onR (th0 σ1) σ2) (ht : R_t σ2) : PostW k sz T R nl V σ2 := by
  refine ⟨⟨n, a, e, RelB_mono (RelB_same h ⟨fun c hc => ?_, fun j hj => ?_⟩) (Nat.le_succ k)⟩, LW_T w ht (fun c hc n2 n134 => ?_) (fun j hj => ?_) ⟨?_, ?_⟩⟩
  · obtain ⟨a1, a2, a3, a4⟩ := kpB_tp hc
    rw [h2.2.1 c a3 a4, th_ne _ a3, h1.2 c a1 a2]
  · rw [h2.2.2 j (by omega), th_f _ (by omega), h1.2 133 (by decide) (by decide)]
  · obtain ⟨a1, a3⟩ := kpL_tp hc
    rw [h2.2.1 c a3 n134, th_ne _ a3, h1.2 c a1 n2]
  · rw [h2.2.2 j (by omega), th_f _ (by omega), h1.2 133 (by decide) (by decide)]
  · rw [h2.1]
    show σ1.2 144 = _
    rw [h1.1]
  · rw [h2.2.1 145 (by decide) (by decide), th_ne _ (by decide), h1.2 145 (by decide) (by decide)]
theorem getD_app {α : Type} (z : α) : ∀ (a b : List α) (i : Nat), i < a.length → (a ++ b).getD i z = a.getD i z
  | [], b, i, h => absurd h (Nat.not_lt_zero i)
  | x :: a, b, 0, h => rfl
  | x :: a, b, i + 1, h => getD_app z a b i (by rw [List.length_cons] at h; omega)
theorem getD_app2 {α : Type} (z : α) : ∀ (a b : List α) (i : Nat), (a ++ b).getD (a.length + i) z = b.getD i z
  | [], b, i => by rw [List.length_nil, Nat.zero_add]; rfl
  | x :: a, b, i => by
    rw [List.length_cons, show a.length + 1 + i = (a.length + i) + 1 by omega]
    exact getD_app2 z a b i
theorem b_feed (d : Nat) {k sz n a e nl : Nat} {T R : Nat → Nat} {V : Nat → LV → Int32} {σ : pm_H} (h : RelB k sz T R n a e σ) (w : LW nl V σ) (v1 v2 v3 v4 v5 : Int32) : Both (d + 2) (d + 2) 14 17 [.int v1, .int v2, .int v3, .int v4, .int v5] σ (PostW k sz T R nl V) := by
  obtain ⟨b, m, ⟨t1, t1'⟩, t2, t3, t4⟩ := w.1
  have z1 := btm_le v1 4
  have z2 := btm_le v2 4
  have z3 := btm_le v3 4
  have z4 := btm_le v4 4
  have z5 := btm_le v5 4
  unfold Both
  rw [en_X11_feed, sg_X11_feed_0, q_sgI]
  simp only [pm_cl_some, Option.toList_some, Option.toList_none, List.cons_append, List.nil_append]
  rw [sg_X11_feed_4, q_sgI]
  simp only [pm_cl_some, Option.toList_some, Option.toList_none, List.cons_append, List.nil_append]
  rw [sg_X11_feed_8, q_sgI, nI_add]
  simp only [pm_cl_some, Option.toList_some, Option.toList_none, List.cons_append, List.nil_append]
  rw [sg_X11_feed_13, q_sgI, nI_add]
  simp only [pm_cl_some, Option.toList_some, Option.toList_none, List.cons_append, List.nil_append]
  rw [sg_X11_feed_19, q_sgI, nI_add]
  simp only [pm_cl_some, Option.toList_some, Option.toList_none, List.cons_append, List.nil_append]
  rw [sg_X11_feed_25, nI_add, t2, nI_add]
  have hr : ∀ σ1, xe (d + 2) 17 [.ref 133, .int v1, .int v2, .int v3, .int v4, .int v5] σ1 = pm_run (xe (d + 1)) pg_X12_feed (35, [.ref 133, .int v1, .int v2, .int v3, .int v4, .int v5], [.int (nI (btm v5 4).length), .int ((((th0 σ1).1 133 6 + nI (btm v1 4).length) + nI (btm v2 4).length) + nI (btm v3 4).length + nI (btm v4 4).length)], th0 σ1) := by
    intro σ1
    rw [en_X12_feed, sg_X12_feed_0, show pm_wI σ1 133 0 (nI 0) = th0 σ1 from rfl, r_sgI]
    simp only [pm_cl_some, Option.toList_some, Option.toList_none, List.cons_append, List.nil_append]
    rw [sg_X12_feed_13, r_sgI]
    simp only [pm_cl_some, Option.toList_some, Option.toList_none, List.cons_append, List.nil_append]
    rw [sg_X12_feed_18, r_sgI]
    simp only [pm_cl_some, Option.toList_some, Option.toList_none, List.cons_append, List.nil_append]
    rw [sg_X12_feed_23, r_sgI]
    simp only [pm_cl_some, Option.toList_some, Option.toList_none, List.cons_append, List.nil_append]
    rw [sg_X12_feed_29, r_sgI]
    simp only [pm_cl_some, Option.toList_some, Option.toList_none, List.cons_append, List.nil_append]
  by_cases c : 240 < m + ((btm v1 4).length + (btm v2 4).length + (btm v3 4).length + (btm v4 4).length + (btm v5 4).length)
  · refine ⟨.int (-1), σ, th0 σ, by rw [if_pos (nI_lt c (by omega))], ?_, PostW_B (PostB_th h) w⟩
    rw [hr σ, sg_X12_feed_35, th_f _ (by decide), t3]
    simp only [nI_add]
    rw [if_pos (nI_lt (by omega) (by omega))]
  · rw [if_neg (nI_nlt (by omega) (by omega))]
    obtain ⟨B, hB⟩ : ∃ B : Nat → Nat, B = fun i => if i < m then b i else (btm v1 4 ++ (btm v2 4 ++ (btm v3 4 ++ (btm v4 4 ++ btm v5 4)))).getD (i - m) 0 := ⟨_, rfl⟩
    have B0 : ∀ i, i < m → B i = b i := fun i hi => by rw [hB]; exact if_pos hi
    have Bn : ∀ i, B (m + i) = (btm v1 4 ++ (btm v2 4 ++ (btm v3 4 ++ (btm v4 4 ++ btm v5 4)))).getD i 0 := fun i => by
      rw [hB]
      show (if m + i < m then _ else _) = _
      rw [if_neg (by omega), show m + i - m = i by omega]
    clear hB
    have L1 : ∀ i, i < (btm v1 4).length → B (m + i) = (btm v1 4).getD i 0 := fun i hi => by rw [Bn, getD_app _ _ _ _ hi]
    have L2 : ∀ i, i < (btm v2 4).length → B (m + (btm v1 4).length + i) = (btm v2 4).getD i 0 := fun i hi => by rw [Nat.add_assoc, Bn, getD_app2, getD_app _ _ _ _ hi]
    have L3 : ∀ i, i < (btm v3 4).length → B (m + (btm v1 4).length + (btm v2 4).length + i) = (btm v3 4).getD i 0 := fun i hi => by rw [show m + (btm v1 4).length + (btm v2 4).length + i = m + ((btm v1 4).length + ((btm v2 4).length + i)) by omega, Bn, getD_app2, getD_app2, getD_app _ _ _ _ hi]
    have L4 : ∀ i, i < (btm v4 4).length → B (m + (btm v1 4).length + (btm v2 4).length + (btm v3 4).length + i) = (btm v4 4).getD i 0 := fun i hi => by rw [show m + (btm v1 4).length + (btm v2 4).length + (btm v3 4).length + i = m + ((btm v1 4).length + ((btm v2 4).length + ((btm v3 4).length + i))) by omega, Bn, getD_app2, getD_app2, getD_app2, getD_app _ _ _ _ hi]
    have L5 : ∀ i, i < (btm v5 4).length → B (m + (btm v1 4).length + (btm v2 4).length + (btm v3 4).length + (btm v4 4).length + i) = (btm v5 4).getD i 0 := fun i hi => by rw [show m + (btm v1 4).length + (btm v2 4).length + (btm v3 4).length + (btm v4 4).length + i = m + ((btm v1 4).length + ((btm v2 4).length + ((btm v3 4).length + ((btm v4 4).length + i)))) by omega, Bn, getD_app2, getD_app2, getD_app2, getD_app2]
    have ok : ∀ i, i < m + (btm v1 4).length + (btm v2 4).length + (btm v3 4).length + (btm v4 4).length + (btm v5 4).length → 1 ≤ B i ∧ B i ≤ 255 := by
      intro i hi
      by_cases c0 : i < m
      · rw [B0 i c0]
        exact t1' i c0
      by_cases c1 : i < m + (btm v1 4).length
      · have := L1 (i - m) (by omega)
        rw [show m + (i - m) = i by omega] at this
        rw [this]
        exact btm_ok v1 4 _ (by omega)
      by_cases c2 : i < m + (btm v1 4).length + (btm v2 4).length
      · have := L2 (i - (m + (btm v1 4).length)) (by omega)
        rw [show m + (btm v1 4).length + (i - (m + (btm v1 4).length)) = i by omega] at this
        rw [this]
        exact btm_ok v2 4 _ (by omega)
      by_cases c3 : i < m + (btm v1 4).length + (btm v2 4).length + (btm v3 4).length
      · have := L3 (i - (m + (btm v1 4).length + (btm v2 4).length)) (by omega)
        rw [show m + (btm v1 4).length + (btm v2 4).length + (i - (m + (btm v1 4).length + (btm v2 4).length)) = i by omega] at this
        rw [this]
        exact btm_ok v3 4 _ (by omega)
      by_cases c4 : i < m + (btm v1 4).length + (btm v2 4).length + (btm v3 4).length + (btm v4 4).length
      · have := L4 (i - (m + (btm v1 4).length + (btm v2 4).length + (btm v3 4).length)) (by omega)
        rw [show m + (btm v1 4).length + (btm v2 4).length + (btm v3 4).length + (i - (m + (btm v1 4).length + (btm v2 4).length + (btm v3 4).length)) = i by omega] at this
        rw [this]
        exact btm_ok v4 4 _ (by omega)
      · have := L5 (i - (m + (btm v1 4).length + (btm v2 4).length + (btm v3 4).length + (btm v4 4).length)) (by omega)
        rw [show m + (btm v1 4).length + (btm v2 4).length + (btm v3 4).length + (btm v4 4).length + (i - (m + (btm v1 4).length + (btm v2 4).length + (btm v3 4).length + (btm v4 4).length)) = i by omega] at this
        rw [this]
        exact btm_ok v5 4 _ (by omega)
    obtain ⟨s1, p1, o1, x1⟩ := q_add d (v := v1) (b := B) (n := m) (σ := σ) ⟨t2, fun i hi => by rw [B0 i hi]; exact (t4 i hi).1⟩ (by omega) L1
    obtain ⟨s2, p2, o2, x2⟩ := q_add d (v := v2) x1 (by omega) L2
    obtain ⟨s3, p3, o3, x3⟩ := q_add d (v := v3) x2 (by omega) L3
    obtain ⟨s4, p4, o4, x4⟩ := q_add d (v := v4) x3 (by omega) L4
    obtain ⟨s5, p5, o5, x5⟩ := q_add d (v := v5) x4 (by omega) L5
    rw [p1]
    simp only [pm_cl_some, Option.toList_some, Option.toList_none, List.cons_append, List.nil_append]
    rw [sg_X11_feed_54, p2]
    simp only [pm_cl_some, Option.toList_some, Option.toList_none, List.cons_append, List.nil_append]
    rw [sg_X11_feed_62, p3]
    simp only [pm_cl_some, Option.toList_some, Option.toList_none, List.cons_append, List.nil_append]
    rw [sg_X11_feed_70, p4]
    simp only [pm_cl_some, Option.toList_some, Option.toList_none, List.cons_append, List.nil_append]
    rw [sg_X11_feed_79, p5]
    simp only [pm_cl_some, Option.toList_some, Option.toList_none, List.cons_append, List.nil_append]
    rw [sg_X11_feed_88, x5.1]
    have O := onT_tr (onT_tr (onT_tr (onT_tr o1 o2) o3) o4) o5
    have e6 : (th0 s5).1 133 6 = nI m := by rw [th_f _ (by decide), O.2 133 (by decide) (by decide)]; exact t3
    obtain ⟨u1, p1', o1', x1'⟩ := r_put d (v := v1) (b := B) (n := m) (σ := th0 s5) ⟨e6, fun i hi => by rw [B0 i hi, th_ne _ (by decide), O.2 134 (by decide) (by decide)]; exact (t4 i hi).2⟩ (by omega) L1
    obtain ⟨u2, p2', o2', x2'⟩ := r_put d (v := v2) x1' (by omega) L2
    obtain ⟨u3, p3', o3', x3'⟩ := r_put d (v := v3) x2' (by omega) L3
    obtain ⟨u4, p4', o4', x4'⟩ := r_put d (v := v4) x3' (by omega) L4
    obtain ⟨u5, p5', o5', x5'⟩ := r_put d (v := v5) x4' (by omega) L5
    have O' := onR_tr (onR_tr (onR_tr (onR_tr o1' o2') o3') o4') o5'
    refine ⟨_, s5, u5, rfl, ?_, PostW_T h w O O' ⟨B, _, ⟨by omega, ok⟩, ?_, x5'.1, fun i hi => ⟨?_, x5'.2 i hi⟩⟩⟩
    · rw [hr s5, sg_X12_feed_35, e6]
      simp only [nI_add]
      rw [if_neg (nI_nlt (by omega) (by omega)), p1']
      simp only [pm_cl_some, Option.toList_some, Option.toList_none, List.cons_append, List.nil_append]
      rw [sg_X12_feed_49, p2']
      simp only [pm_cl_some, Option.toList_some, Option.toList_none, List.cons_append, List.nil_append]
      rw [sg_X12_feed_54, p3']
      simp only [pm_cl_some, Option.toList_some, Option.toList_none, List.cons_append, List.nil_append]
      rw [sg_X12_feed_59, p4']
      simp only [pm_cl_some, Option.toList_some, Option.toList_none, List.cons_append, List.nil_append]
      rw [sg_X12_feed_65, p5']
      simp only [pm_cl_some, Option.toList_some, Option.toList_none, List.cons_append, List.nil_append]
      rw [sg_X12_feed_71, x5'.1]
    · rw [O'.2.1 1 (by decide) (by decide), th_ne _ (by decide)]
      exact x5.1
    · rw [O'.2.1 2 (by decide) (by decide), th_ne _ (by decide)]
      exact x5.2 i hi
theorem b_end (d : Nat) {k sz n a e nl : Nat} {T R : Nat → Nat} {V : Nat → LV → Int32} {σ : pm_H} (h : RelB k sz T R n a e σ) (w : LW nl V σ) (x : Int32) : Both (d + 1) (d + 1) 20 21 [.int x] σ (PostW k sz T R nl V) := by
  obtain ⟨b, m, ⟨t1, t1'⟩, t2, t3, t4⟩ := w.1
  unfold Both
  rw [en_X11_end, sg_X11_end_0, t2]
  rcases rng_cases x 0 m (by omega) (by omega) with hx | ⟨j, -, hj, rfl⟩
  · refine ⟨.int (nI 0), σ, th0 σ, ?_, ?_, PostW_B (PostB_th h) w⟩
    · rcases hx with hx | hx
      · rw [if_pos (show x < 0 from hx)]
      · rw [if_pos hx]
        exact ite_self _
    · rw [en_X12_end, sg_X12_end_0, show pm_wI σ 133 0 (nI 0) = th0 σ from rfl, th_f _ (by decide), t3]
      rcases hx with hx | hx
      · rw [if_pos (show x < 0 from hx)]
      · rw [if_pos hx]
        exact ite_self _
  · refine ⟨.int (nI 1), pm_wI σ 1 1 (nI j), pm_wI (th0 (pm_wI σ 1 1 (nI j))) 133 6 (nI j), ?_, ?_, PostW_T h w (σ1 := pm_wI σ 1 1 (nI j)) ⟨rfl, fun c c1 _ => by rw [wI_wC, wC_ne _ _ c1]⟩ ⟨rfl, fun c c1 _ => by rw [wI_wC, wC_ne _ _ c1], fun j hj => by rw [wI_wC, wC_at, up_ne _ _ hj]⟩ ⟨b, j, ⟨by omega, fun i hi => t1' i (by omega)⟩, ?_, ?_, fun i hi => ?_⟩⟩
    · rw [if_neg (nI_pos (by omega)), if_neg (nI_nlt hj (by omega))]
    · rw [en_X12_end, sg_X12_end_0, show pm_wI (pm_wI σ 1 1 (nI j)) 133 0 (nI 0) = th0 (pm_wI σ 1 1 (nI j)) from rfl, th_f _ (by decide), wI_wC σ, wC_ne _ _ (show (133 : Nat) ≠ 1 by decide), t3, if_neg (nI_pos (by omega)), if_neg (nI_nlt hj (by omega))]
    · rw [wI_wC, wC_ne _ _ (by decide), th_ne _ (by decide), wI_wC, wC_at, up_at]
    · rw [wI_wC, wC_at, up_at]
    · rw [wI_wC, wC_ne _ _ (by decide), wC_ne _ _ (by decide), th_ne _ (by decide), th_ne _ (by decide), wI_wC, wC_ne _ _ (by decide), wC_ne _ _ (by decide)]
      exact t4 i (by omega)

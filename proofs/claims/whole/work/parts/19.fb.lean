/-! ===== meet: draws, lights ===== -/
abbrev s33 : UInt64 := (nI 33 : Int32).toInt64.toUInt64 &&& Int64.toUInt64 63
def rm (x : Int64) : Int64 := ((x.toUInt64 >>> s33).toInt64) - ((x.toUInt64 >>> s33).toInt64) / (100 : Int64) * (100 : Int64)
theorem rm_N (x : Int64) : ∃ r, r < 100 ∧ rm x = lN r := by
  obtain ⟨z, hz, e⟩ : ∃ z, z < 2 ^ 63 ∧ (x.toUInt64 >>> s33).toInt64 = lN z := by
    refine ⟨(x.toUInt64 >>> s33).toBitVec.toNat, ?_, ?_⟩
    · rw [UInt64.toBitVec_shiftRight]
      show (x.toUInt64.toBitVec >>> (s33.toBitVec % 64).toNat).toNat < _
      rw [BitVec.toNat_ushiftRight, show (s33.toBitVec % 64).toNat = 33 from by decide, Nat.shiftRight_eq_div_pow]
      have := x.toUInt64.toBitVec.isLt
      omega
    · apply Int64.toBitVec_inj.mp
      show (x.toUInt64 >>> s33).toBitVec = BitVec.ofNat 64 (x.toUInt64 >>> s33).toBitVec.toNat
      rw [BitVec.ofNat_toNat, BitVec.setWidth_eq]
  refine ⟨z % 100, Nat.mod_lt _ (by omega), ?_⟩
  unfold rm
  rw [e, show (100 : Int64) = lN 100 from rfl, pk_lRem hz (by omega) (by omega)]
def rr (x : Int64) : Nat := (rm x).toInt32.toNatClampNeg
theorem rr_d (x : Int64) : rr x < 100 ∧ rm x = lN (rr x) := by
  obtain ⟨r, r1, r2⟩ := rm_N x
  unfold rr
  rw [r2, lN_i, nI_clamp (by omega)]
  exact ⟨r1, rfl⟩
def dr (x : Int64) : Int64 := (x * (6364136223846793005 : Int64)) + (1442695040888963407 : Int64)
theorem q_drawn (d : Nat) (x : Int64) (σ : pm_H) : xe (d + 1) 198 [.long x] σ = some (some (.long (dr x)), σ) := by
  rw [en_X11_drawn, sg_X11_drawn_0]
  rfl
theorem q_below (d : Nat) (x : Int64) {b : Nat} (hb : b ≤ 100) (σ : pm_H) : xe (d + 1) 199 [.long x, .int (nI b)] σ = some (some (.int (b32 (decide (rr x < b)))), σ) := by
  obtain ⟨r1, r2⟩ := rr_d x
  rw [en_X11_below, sg_X11_below_0]
  show (if lg_cmp (rm x) (nI b).toInt64 < 0 then _ else _) = _
  rw [r2, nI_l (by omega)]
  by_cases c : rr x < b
  · rw [if_pos ((lg_cmp_lt _ _).mpr ((pk_lLT (by omega) (by omega)).mpr c)), decide_eq_true c]
    rfl
  · rw [if_neg (fun e => c ((pk_lLT (by omega) (by omega)).mp ((lg_cmp_lt _ _).mp e))), decide_eq_false c]
    rfl
def jX (σ σ' : pm_H) (x : Int64) : Prop := σ'.1 = σ.1 ∧ (∀ c, c ≠ 133 → σ'.2 c = σ.2 c) ∧ σ'.2 133 34 = x
theorem r_draw (d : Nat) {x : Int64} {σ : pm_H} (h : σ.2 133 34 = x) : ∃ σ', xe (d + 1) 201 [.ref 133, .int (nI 100)] σ = some (some (.int (nI (rr (dr x)))), σ') ∧ jX σ σ' (dr x) := by
  refine ⟨pm_wJ σ 133 34 (dr x), ?_, rfl, fun c hc => (pm_wJ_ne σ 34 (dr x) hc).2, ?_⟩
  · rw [en_X12_draw, sg_X12_draw_0, h, if_neg (by decide)]
    have e : (pm_wJ σ 133 34 (dr x)).2 133 34 = dr x := by
      unfold pm_wJ vp_updL
      simp
    rw [show (pm_wJ σ 133 34 (x * (6364136223846793005 : Int64) + (1442695040888963407 : Int64))).2 133 34 = dr x from e, show (nI 100).toInt64 = (100 : Int64) from by decide]
    show some (some (Value.int (rm (dr x)).toInt32), _) = _
    rw [(rr_d (dr x)).2, lN_i]
    rfl
  · unfold pm_wJ vp_updL
    simp
def lgt (g : Bool) (er : Nat) : Nat → Nat → Int64 → Int32 → Int64 × Int32
  | 0, _, x, li => (x, li)
  | m + 1, j, x, li => lgt g er m (j + 1) (dr x) (li ||| (if b32 g = b32 (decide (rr (dr x) < er)) then nI 0 else nI 1 <<< (nI j &&& 31)))
theorem lgt_8 (g : Bool) (er : Nat) (x : Int64) : ∃ L, L < 8 ∧ (lgt g er 3 0 x (nI 0)).2 = nI L := by
  unfold lgt lgt lgt lgt
  show ∃ L, L < 8 ∧ ((nI 0 ||| _) ||| _) ||| _ = nI L
  cases decide (rr (dr x) < er) <;> cases decide (rr (dr (dr x)) < er) <;> cases decide (rr (dr (dr (dr x))) < er) <;> cases g <;> first | exact ⟨0, by decide⟩ | exact ⟨1, by decide⟩ | exact ⟨2, by decide⟩ | exact ⟨3, by decide⟩ | exact ⟨4, by decide⟩ | exact ⟨5, by decide⟩ | exact ⟨6, by decide⟩ | exact ⟨7, by decide⟩
theorem q_lgt (d : Nat) {g : Bool} {er : Nat} {σ : pm_H} {N a6 a7 a8 : Int32} (he : er ≤ 99) (h18 : σ.1 0 18 = nI er) : ∀ (m j : Nat) (x : Int64) (li : Int32), j + m = 3 → pm_run (xe (d + 1)) pg_X11_meet (111, [.ref 0, .int N, .null, .null, .long x, .null, .int a6, .int a7, .int a8, .int (b32 g), .int li, .int (nI j)], [], σ) = pm_run (xe (d + 1)) pg_X11_meet (111, [.ref 0, .int N, .null, .null, .long (lgt g er m j x li).1, .null, .int a6, .int a7, .int a8, .int (b32 g), .int (lgt g er m j x li).2, .int (nI 3)], [], σ)
  | 0, j, x, li, e => by
    rw [show j = 3 by omega]
    rfl
  | m + 1, j, x, li, e => by
    rw [sg_X11_meet_111, if_pos (nI_lt (by omega) (by omega)), q_drawn]
    simp only [pm_cl_some, Option.toList_some, Option.toList_none, List.cons_append, List.nil_append]
    rw [sg_X11_meet_122, h18, q_below d (dr x) (by omega)]
    simp only [pm_cl_some, Option.toList_some, Option.toList_none, List.cons_append, List.nil_append]
    rw [sg_X11_meet_137, nI_add]
    unfold lgt
    rw [← q_lgt d he h18 m (j + 1) (dr x) _ (by omega)]
    split <;> rfl
theorem r_lgt (d : Nat) {g : Bool} {er : Nat} {N a4 a5 : Int32} (he : er ≤ 99) : ∀ (m j : Nat) (x : Int64) (li : Int32) (σ : pm_H), j + m = 3 → σ.1 133 29 = nI er → σ.2 133 34 = x → ∃ σ', pm_run (xe (d + 1)) pg_X12_meet (105, [.ref 133, .int N, .null, .null, .int a4, .int a5, .int (b32 g), .int li, .int (nI j)], [], σ) = pm_run (xe (d + 1)) pg_X12_meet (105, [.ref 133, .int N, .null, .null, .int a4, .int a5, .int (b32 g), .int (lgt g er m j x li).2, .int (nI 3)], [], σ') ∧ jX σ σ' (lgt g er m j x li).1
  | 0, j, x, li, σ, e, h29, h => by
    rw [show j = 3 by omega]
    exact ⟨σ, rfl, rfl, fun _ _ => rfl, h⟩
  | m + 1, j, x, li, σ, e, h29, h => by
    obtain ⟨σ1, i1, i2⟩ := r_draw d h
    obtain ⟨r1, -⟩ := rr_d (dr x)
    rw [sg_X12_meet_105, if_pos (nI_lt (by omega) (by omega)), i1]
    simp only [pm_cl_some, Option.toList_some, Option.toList_none, List.cons_append, List.nil_append]
    have h29' : σ1.1 133 29 = nI er := by rw [i2.1]; exact h29
    rw [sg_X12_meet_119, h29', nI_add]
    unfold lgt
    obtain ⟨σ2, j1, j2⟩ := r_lgt d (g := g) (N := N) (a4 := a4) (a5 := a5) he m (j + 1) (dr x) (li ||| (if b32 g = b32 (decide (rr (dr x) < er)) then nI 0 else nI 1 <<< (nI j &&& 31))) σ1 (by omega) h29' i2.2.2
    refine ⟨σ2, ?_, j2.1.trans i2.1, fun c hc => (j2.2.1 c hc).trans (i2.2.1 c hc), j2.2.2⟩
    rw [← j1]
    by_cases c : rr (dr x) < er
    · rw [if_pos (nI_lt c (by omega)), decide_eq_true c]
      cases g
      · rw [if_neg (show ¬ nI 1 = b32 false by decide), if_neg (show ¬ b32 false = b32 true by decide)]
      · rw [if_pos (show nI 1 = b32 true from rfl), if_pos rfl]
    · rw [if_neg (nI_nlt (by omega) (by omega)), decide_eq_false c]
      cases g
      · rw [if_pos (show nI 0 = b32 false from rfl), if_pos rfl]
      · rw [if_neg (show ¬ nI 0 = b32 true by decide), if_neg (show ¬ b32 true = b32 false by decide)]
/-! ===== meet: two states, the class's and the reference's ===== -/
def mx (s t : pm_H) : pm_H := (fun c => if c < 133 then s.1 c else t.1 c, t.2)
theorem mx_s (s t : pm_H) {c : Nat} (h : c < 133) : (mx s t).1 c = s.1 c := if_pos h
theorem mx_t (s t : pm_H) {c : Nat} (h : ¬ c < 133) : (mx s t).1 c = t.1 c := if_neg h
/-- a lift, in both -/
theorem mx_lift {k sz n a e who L rd : Nat} {T R : Nat → Nat} {s t s2 t3 : pm_H} (h : RelB k sz T R n a e (mx s t)) (hw : who < sz) (hin : s_in (s.1 5) (s.1 24) who = true) (hL : L < 8) (h0 : s.1 24 0 = nI rd) (hrd : rd < 2) (hs2 : ∀ c, c ≠ 91 → c ≠ 21 → c ≠ 22 → s2.1 c = s.1 c) (ht3 : ∀ c, c ≠ 133 → c ≠ 137 → c ≠ 145 → t3.1 c = t.1 c) (hj : ∀ j, gk j = true → t3.1 133 j = t.1 133 j) : n < 36 ∧ RelB k sz T R (n + 1) (if a = 40 then 40 else a + 1) ((e + 1) % 40) (mx (x_lift s2 sz n a e who L) (pm_wC (m_past t3 a) 142 (h_on sz (t.1 138) (t.1 140) (h_made (t.1 138) (t.1 140) (t.1 142) n who (nI L) (gd L) rd)))) := by
  have hh := h
  obtain ⟨⟨h1, h2, h3, h4, h5, h6, h7⟩, ⟨h8, h9⟩, ⟨⟨h10, h11, h12, h13, h14⟩, h15⟩, -⟩ := hh
  rw [mx_s s t (show 5 < 133 by decide), mx_s s t (show 24 < 133 by decide), mx_t s t (show ¬ 142 < 133 by decide)] at h8
  rw [mx_s s t (show 5 < 133 by decide), mx_s s t (show 4 < 133 by decide)] at h5
  rw [mx_s s t (show 4 < 133 by decide), mx_t s t (show ¬ 138 < 133 by decide)] at h6
  rw [mx_s s t (show 5 < 133 by decide), mx_t s t (show ¬ 140 < 133 by decide)] at h7
  obtain ⟨hn36, hM⟩ := relM_lift (t' := t.1 138) (r' := t.1 140) h3 (h5 (by omega)) h6 h7 h8 hw hin hL h0 hrd
  have z4 := hs2 4 (by decide) (by decide) (by decide)
  have z5 := hs2 5 (by decide) (by decide) (by decide)
  have z24 := hs2 24 (by decide) (by decide) (by decide)
  generalize hσ1 : x_lift s2 sz n a e who L = σ1
  have hs1 : σ1 = x_log (pm_wC (x_past s2 a e) 24 (g_on sz (s.1 4) (s.1 5) (g_made (s.1 4) (s.1 5) (s.1 24) who (gd L)))) n (v_lift (s.1 24) who L) := by
    rw [← hσ1]
    unfold x_lift
    rw [z4, z5, z24]
  obtain ⟨l1, l2, l3⟩ := xl_log (pm_wC (x_past s2 a e) 24 (g_on sz (s.1 4) (s.1 5) (g_made (s.1 4) (s.1 5) (s.1 24) who (gd L)))) n (v_lift (s.1 24) who L)
  rw [← hs1] at l1 l2 l3
  have c1 : ∀ c, c ≠ 0 → c ≠ 93 + e → c ≠ 24 → (c < 27 ∨ 32 < c) → c ≠ 91 → c ≠ 21 → c ≠ 22 → σ1.1 c = s.1 c := fun c h0 he h24 hc k1 k2 k3 => by rw [l1 c hc, wC_ne _ _ h24, past_ne _ h0 he, hs2 c k1 k2 k3]
  generalize hW : h_on sz (t.1 138) (t.1 140) (h_made (t.1 138) (t.1 140) (t.1 142) n who (nI L) (gd L) rd) = W at hM
  have u1 : ∀ c, c ≠ 133 → c ≠ 146 → c ≠ 142 → c ≠ 137 → c ≠ 145 → (pm_wC (m_past t3 a) 142 W).1 c = t.1 c := fun c k1 k2 k3 k4 k5 => by rw [wC_ne _ _ k3, mp_ne _ k1 k2, ht3 c k1 k4 k5]
  have uf : ∀ j, j ≠ 33 → gk j = true → (pm_wC (m_past t3 a) 142 W).1 133 j = t.1 133 j := fun j k1 k2 => by rw [wC_ne _ _ (by decide), mp_133, up_ne _ _ k1, hj j k2]
  refine ⟨hn36, RelB_act h (Nat.le_refl k) (Nat.le_succ n) ?_ ⟨?_, ?_⟩ ?_ ?_ ?_ ?_ ?_ ?_ ?_⟩
  · rw [mx_s _ _ (by decide), mx_s _ _ (by decide), l1 0 (by omega), wC_ne _ _ (by decide), xp_0, hs2 0 (by decide) (by decide) (by decide)]
  · intro j hj'
    rw [mx_t _ _ (by decide), mx_t _ _ (by decide)]
    rcases hj' with rfl | rfl | rfl <;> exact uf _ (by decide) rfl
  · rw [mx_t _ _ (by decide), wC_ne _ _ (by decide), mp_133, up_at]
  · intro c hc
    by_cases c3 : c < 133
    · rw [mx_s _ _ c3, mx_s _ _ c3]
      exact c1 c (by omega) (by omega) (by omega) (by omega) (by omega) (by omega) (by omega)
    · rw [mx_t _ _ c3, mx_t _ _ c3]
      exact u1 c (by omega) (by omega) (by omega) (by omega) (by omega)
  · intro i hi hie
    rw [mx_s _ _ (by omega), mx_s _ _ (by omega)]
    exact c1 _ (by omega) (by omega) (by omega) (by omega) (by omega) (by omega) (by omega)
  · intro j hj'
    rw [mx_s _ _ (by omega), mx_s _ _ (by omega), l1 _ (by omega), wC_ne _ _ (by omega), xp_e _ _ _ hj', z24]
  · rw [mx_t _ _ (by decide), mx_t _ _ (by decide), mx_t _ _ (by decide), wC_ne _ _ (by decide), mp_146, ht3 142 (by decide) (by decide) (by decide), ht3 146 (by decide) (by decide) (by decide)]
  · rw [mx_s s t (show 5 < 133 by decide), mx_s _ _ (show 24 < 133 by decide), mx_t _ _ (show ¬ 142 < 133 by decide), wC_at, l1 24 (by omega), wC_at]
    refine relM_ext h3 (fun _ _ => rfl) (fun _ _ => rfl) (fun q i hq hi => ?_) hM
    show (mx σ1 _).1 (28 + q) i = _
    rw [mx_s _ _ (by omega)]
    refine (l3 q i hq).trans ?_
    unfold lg_add
    have e28 : lgs (pm_wC (x_past s2 a e) 24 (g_on sz (s.1 4) (s.1 5) (g_made (s.1 4) (s.1 5) (s.1 24) who (gd L)))) 28 q = lgs (mx s t) 28 q := by
      unfold lgs
      rw [wC_ne _ _ (by omega), past_ne _ (by omega) (by omega), mx_s _ _ (by omega), hs2 _ (by omega) (by omega) (by omega)]
    rw [e28]
    unfold v_lift
    rw [h0]
  · intro q i hq hi
    show (mx σ1 _).1 (28 + q) i = (mx s t).1 (28 + q) i
    rw [mx_s _ _ (by omega), mx_s _ _ (by omega)]
    refine (l3 q i hq).trans ?_
    unfold lg_add
    rw [up_ne _ _ (by omega)]
    unfold lgs
    rw [wC_ne _ _ (by omega), past_ne _ (by omega) (by omega), hs2 _ (by omega) (by omega) (by omega)]
  · rw [mx_s _ _ (by decide)]
    exact l2
theorem xl_fr (σ : pm_H) (sz n a e who L : Nat) (he : e < 40) : (∀ c, c = 1 ∨ c = 2 ∨ c = 12 ∨ 14 ≤ c ∧ c ≤ 20 ∨ 133 ≤ c → (x_lift σ sz n a e who L).1 c = σ.1 c) ∧ (x_lift σ sz n a e who L).2 = σ.2 := by
  refine ⟨fun c hc => ?_, rfl⟩
  unfold x_lift
  rw [(xl_log _ _ _).1 c (by omega), wC_ne _ _ (by omega), past_ne _ (by omega) (by omega)]

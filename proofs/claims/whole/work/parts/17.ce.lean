/-! ===== a course is gone: class and reference ===== -/
theorem q_fJ_l (d : Nat) {q n : Nat} (hq : pm_kd q = .inl (2, n, 0)) (hn : n < 2 ^ 31) (v : Int64) : ∀ (k i : Nat) (σ : pm_H) (w2 : Value), i + k = n → ∃ σ', pm_run (xe d) pg_J7_fill_d0a16 (6, [.ref q, .long v, w2, .int (nI i), .int (nI n)], [], σ) = some (none, σ') ∧ σ'.1 = σ.1 ∧ (∀ c, c ≠ q → σ'.2 c = σ.2 c) ∧ ∀ j, σ'.2 q j = if i ≤ j ∧ j < n then v else σ.2 q j
  | 0, i, σ, w2, e => ⟨σ, by rw [sg_J7_fill_d0a16_6 hq, if_neg (nI_nlt (by omega) (by omega))], rfl, fun _ _ => rfl, fun j => by rw [if_neg (by omega)]⟩
  | k + 1, i, σ, w2, e => by
    rw [sg_J7_fill_d0a16_6 hq, if_pos (nI_lt (by omega) (by omega)), ck_n _ (show i < n by omega) hn, nI_clamp (by omega), nI_add]
    obtain ⟨σ', e1, e2, e3, e4⟩ := q_fJ_l d hq hn v k (i + 1) (pm_wJ σ q i v) .null (by omega)
    refine ⟨σ', e1, e2, fun c hc => (e3 c hc).trans (pm_wJ_ne σ _ _ hc).2, fun j => ?_⟩
    rw [e4 j, wJ_2]
    by_cases c1 : j = i
    · subst c1
      rw [if_neg (by omega), pk_uLs, if_pos (by omega)]
    · rw [pk_uLn c1]
      by_cases c2 : i ≤ j ∧ j < n
      · rw [if_pos c2, if_pos (by omega)]
      · rw [if_neg c2, if_neg (by omega)]
theorem q_fJ (d : Nat) (σ : pm_H) {q n : Nat} (hq : pm_kd q = .inl (2, n, 0)) (hn : n < 2 ^ 31) (v : Int64) : ∃ σ', xe (d + 1) 214 [.ref q, .long v] σ = some (none, σ') ∧ σ'.1 = σ.1 ∧ (∀ c, c ≠ q → σ'.2 c = σ.2 c) ∧ ∀ j, j < n → σ'.2 q j = v := by
  obtain ⟨σ', e1, e2, e3, e4⟩ := q_fJ_l d hq hn v n 0 σ .null (by omega)
  refine ⟨σ', ?_, e2, e3, fun j hj => by rw [e4 j, if_pos (by omega)]⟩
  rw [en_J7_fill_d0a16, sg_J7_fill_d0a16_0 hq, e1]
def FRG (σ σ' : pm_H) : Prop := (∀ c, c ≠ 21 → c ≠ 22 → c ≠ 41 → c ≠ 42 → (∀ i, i < 13 → c ≠ 45 + 2 * i) → σ'.1 c = σ.1 c) ∧ ∀ c, c ≠ 70 → c ≠ 71 → σ'.2 c = σ.2 c
def esA (V : Nat → LV → Int32) (o1 : Int32) (sz : Nat) (t r f : Nat → Int32) : List ((Nat → Int32) × Nat) := ends (nxF sz r) (chF V o1 t) (stF sz t r) 12 f 1000000000
theorem q_go (d : Nat) {k sz nl c : Nat} {V : Nat → LV → Int32} {t r f : Nat → Int32} {T R : Nat → Nat} {o1 o2 : Int32} {σ : pm_H} (hs : sz ≤ 6) (hk : k ≤ 5000) (ht : okT sz t r T R) (hc : c = 23 ∨ c = 25) (hE : EnX sz nl V t r o1 o2 σ) (hf : E71 (σ.1 (c + 1)) f) (hR : RI k sz R r f) (hl : lft (R 1) sz r f ≤ 12) (W : Int32) (wg : Bool) : ∃ σ', xe (d + 19) 213 [.ref 41, .ref c, .int W, .int (b32 wg)] σ = some (none, σ') ∧ FRG σ σ' ∧ ∀ l, l < sz → wb W l → (wg = true → σ'.2 71 l = sM (vlF V o2 sz t r) l (esA V o1 sz t r f)) ∧ (wg = false → ∀ q, q < 7 → σ'.2 70 (l * 7 + q) = sP (s_place sz t r) l q (esA V o1 sz t r f)) := by
  have hst : st_ok c := by rcases hc with rfl | rfl; exact st_23; exact st_25
  have h44 := st_lev 0 (by omega)
  obtain ⟨σ1, a1, a2, a3, a4⟩ := q_fJ (d + 17) σ kd_70 (by decide) 0
  obtain ⟨σ2, b1, b2, b3, b4⟩ := q_fJ (d + 17) σ1 kd_71 (by decide) 0
  rw [en_X0_go, sg_X0_go_0 hst.1 hst.2, a1]
  simp only [pm_cl_some, Option.toList_some, Option.toList_none, List.cons_append, List.nil_append]
  rw [sg_X0_go_8 hst.1 hst.2, b1]
  simp only [pm_cl_some, Option.toList_some, Option.toList_none, List.cons_append, List.nil_append]
  rw [sg_X0_go_16 hst.1 hst.2 (by rw [nI_clamp (by omega)]; exact h44.1) (by rw [nI_clamp (by omega)]; exact h44.2), if_pos (show b32 wg = 0 ∨ b32 wg = 1 by cases wg; exact Or.inl bf0; exact Or.inr rfl), ck_n _ (by omega) (by omega), nI_clamp (show 0 < 2 ^ 31 by omega), q_become (d + 17) _ h44 hst]
  simp only [pm_cl_some, Option.toList_some, Option.toList_none, List.cons_append, List.nil_append]
  have e12 : σ2.1 = σ.1 := b2.trans a2
  have nc : c + 1 ≠ 41 ∧ c + 1 ≠ 45 := by omega
  have hg3 : FRG σ (pm_wC (pm_wI (pm_wI σ2 41 6 W) 41 7 (b32 wg)) (44 + 2 * 0 + 1) (va_cpy ((pm_wI (pm_wI σ2 41 6 W) 41 7 (b32 wg)).1 (c + 1)) ((pm_wI (pm_wI σ2 41 6 W) 41 7 (b32 wg)).1 (44 + 2 * 0 + 1)) 0 0 71)) := ⟨fun q h1 h2 h3 h4 h5 => by rw [wC_ne _ _ (by have := h5 0 (by omega); omega), wI_wC, wC_ne _ _ h3, wI_wC, wC_ne _ _ h3, e12], fun q h1 h2 => (b3 q h2).trans (a3 q h1)⟩
  have hr3 : E71 ((pm_wC (pm_wI (pm_wI σ2 41 6 W) 41 7 (b32 wg)) (44 + 2 * 0 + 1) (va_cpy ((pm_wI (pm_wI σ2 41 6 W) 41 7 (b32 wg)).1 (c + 1)) ((pm_wI (pm_wI σ2 41 6 W) 41 7 (b32 wg)).1 (44 + 2 * 0 + 1)) 0 0 71)).1 (45 + 2 * 0)) f := by
    rw [show 45 + 2 * 0 = 44 + 2 * 0 + 1 by omega, wC_at]
    refine E_cpy ?_
    rw [wI_wC, wC_ne _ _ nc.1, wI_wC, wC_ne _ _ nc.1, e12]
    exact hf
  have h41 : (pm_wC (pm_wI (pm_wI σ2 41 6 W) 41 7 (b32 wg)) (44 + 2 * 0 + 1) (va_cpy ((pm_wI (pm_wI σ2 41 6 W) 41 7 (b32 wg)).1 (c + 1)) ((pm_wI (pm_wI σ2 41 6 W) 41 7 (b32 wg)).1 (44 + 2 * 0 + 1)) 0 0 71)).1 41 = upd (upd (σ2.1 41) 6 W) 7 (b32 wg) := by
    rw [wC_ne _ _ (by decide), wI_wC, wC_at, wI_wC, wC_at]
  have hz3 : ∀ l, l < 6 → (pm_wC (pm_wI (pm_wI σ2 41 6 W) 41 7 (b32 wg)) (44 + 2 * 0 + 1) (va_cpy ((pm_wI (pm_wI σ2 41 6 W) 41 7 (b32 wg)).1 (c + 1)) ((pm_wI (pm_wI σ2 41 6 W) 41 7 (b32 wg)).1 (44 + 2 * 0 + 1)) 0 0 71)).2 71 l = 0 ∧ ∀ q, q < 7 → (pm_wC (pm_wI (pm_wI σ2 41 6 W) 41 7 (b32 wg)) (44 + 2 * 0 + 1) (va_cpy ((pm_wI (pm_wI σ2 41 6 W) 41 7 (b32 wg)).1 (c + 1)) ((pm_wI (pm_wI σ2 41 6 W) 41 7 (b32 wg)).1 (44 + 2 * 0 + 1)) 0 0 71)).2 70 (l * 7 + q) = 0 := fun l hl => ⟨b4 l hl, fun q hq => by show σ2.2 70 (l * 7 + q) = 0; rw [b3 70 (by decide)]; exact a4 _ (by omega)⟩
  generalize pm_wC (pm_wI (pm_wI σ2 41 6 W) 41 7 (b32 wg)) (44 + 2 * 0 + 1) (va_cpy ((pm_wI (pm_wI σ2 41 6 W) 41 7 (b32 wg)).1 (c + 1)) ((pm_wI (pm_wI σ2 41 6 W) 41 7 (b32 wg)).1 (44 + 2 * 0 + 1)) 0 0 71) = σ3 at hg3 hr3 h41 hz3 ⊢
  have hE3 : EnX sz nl V t r o1 o2 σ3 := by
    obtain ⟨h1, h2, h3, ⟨c1, c2, c3⟩, ⟨h5, h6⟩, h7, h8⟩ := hE
    have g : ∀ c, c < 21 → σ3.1 c = σ.1 c := fun c hc => hg3.1 c (by omega) (by omega) (by omega) (by omega) (fun i _ => by omega)
    exact ⟨by rw [g 3 (by omega)]; exact h1, by rw [g 4 (by omega)]; exact h2, by rw [g 5 (by omega)]; exact h3, ⟨c1, by rw [g 12 (by omega)]; exact c2, fun j hj => by
      obtain ⟨cc, a1, a2, a3, a4⟩ := c3 j hj
      exact ⟨cc, by rw [g 20 (by omega)]; exact a1, a2, by rw [g (14 + j) (by omega)]; exact a3, a4⟩⟩, ⟨by rw [g 12 (by omega)]; exact h5, by rw [g 12 (by omega)]; exact h6⟩, h7, h8⟩
  obtain ⟨σ', i1, i2, i3⟩ := q_goOn d hs hk ht 12 0 1000000000 f σ3 (by omega) hl hR (by omega) hE3 hr3 (by rw [h41, up_at]; cases wg; exact Or.inl rfl; exact Or.inr rfl)
  rw [sg_X0_go_36 hst.1 hst.2, show (1000000000 : Int64) = lN 1000000000 from rfl, i1]
  simp only [pm_cl_some, Option.toList_some, Option.toList_none, List.cons_append, List.nil_append]
  rw [sg_X0_go_44 hst.1 hst.2]
  refine ⟨σ', rfl, ⟨fun q h1 h2 h3 h4 h5 => (i2.1 q h1 h2 h4 (fun i _ hi => h5 i hi)).trans (hg3.1 q h1 h2 h3 h4 h5), fun q h1 h2 => (i2.2 q h1 h2).trans (hg3.2 q h1 h2)⟩, fun l hl' hb => ?_⟩
  obtain ⟨j1, j2⟩ := i3 l hl' (by rw [h41, up_ne _ _ (by decide), up_at]; exact hb)
  rw [h41, up_at] at j1 j2
  refine ⟨fun h => ?_, fun h q hq => ?_⟩
  · rw [j1 (by rw [h]; rfl), (hz3 l (by omega)).1, Int64.zero_add]
    rfl
  · rw [j2 (by rw [h]; rfl) q hq, (hz3 l (by omega)).2 q hq, Int64.zero_add]
    rfl
theorem FRG_X {σ σ' : pm_H} (h : FRG σ σ') : sameX σ σ' := by
  have g : ∀ c, (kpB c = true ∨ kpL c = true ∨ c = 1 ∨ c = 133 ∨ c = 145) → σ'.1 c = σ.1 c := by
    intro c hc
    have hc' : c ≠ 21 ∧ c ≠ 22 ∧ c ≠ 41 ∧ c ≠ 42 ∧ ∀ i, i < 13 → c ≠ 45 + 2 * i := by
      unfold kpB kpL at hc
      simp at hc
      refine ⟨by omega, by omega, by omega, by omega, fun i _ => by omega⟩
    exact h.1 c hc'.1 hc'.2.1 hc'.2.2.1 hc'.2.2.2.1 hc'.2.2.2.2
  exact ⟨⟨fun c hc => g c (Or.inl hc), fun j _ => by rw [g 133 (by omega)]⟩, ⟨fun c hc => g c (Or.inr (Or.inl hc)), by rw [g 1 (by omega)], fun j _ => by rw [g 133 (by omega)]⟩, h.2 144 (by decide) (by decide), g 145 (by omega)⟩
/-! the reference -/
theorem r_z1 (d : Nat) {q : Nat} (hq : rw_ok q) : ∀ (k i : Nat) (σ : pm_H), i + k = 42 → ∃ σ', pm_run (xe d) pg_X12_layOn (2, [.ref 133, .ref q, .int (nI i)], [], σ) = pm_run (xe d) pg_X12_layOn (23, [.ref 133, .ref q, .int (nI 0)], [], σ') ∧ σ'.1 = σ.1 ∧ (∀ c, c ≠ 148 → σ'.2 c = σ.2 c) ∧ ∀ j, σ'.2 148 j = if i ≤ j ∧ j < 42 then 0 else σ.2 148 j
  | 0, i, σ, e => ⟨σ, by rw [sg_X12_layOn_2 hq, if_neg (nI_nlt (by omega) (by omega))], rfl, fun _ _ => rfl, fun j => by rw [if_neg (by omega)]⟩
  | k + 1, i, σ, e => by
    rw [sg_X12_layOn_2 hq, if_pos (nI_lt (by omega) (by omega)), ck_n _ (show i < 42 by omega) (by omega), nI_clamp (by omega), nI_add]
    obtain ⟨σ', e1, e2, e3, e4⟩ := r_z1 d hq k (i + 1) (pm_wJ σ 148 i 0) (by omega)
    refine ⟨σ', e1, e2, fun c hc => (e3 c hc).trans (pm_wJ_ne σ _ _ hc).2, fun j => ?_⟩
    rw [e4 j, wJ_2]
    by_cases c1 : j = i
    · subst c1
      rw [if_neg (by omega), pk_uLs, if_pos (by omega)]
    · rw [pk_uLn c1]
      by_cases c2 : i ≤ j ∧ j < 42
      · rw [if_pos c2, if_pos (by omega)]
      · rw [if_neg c2, if_neg (by omega)]
theorem r_z2 (d : Nat) {q : Nat} (hq : rw_ok q) : ∀ (k i : Nat) (σ : pm_H), i + k = 6 → ∃ σ', pm_run (xe d) pg_X12_layOn (23, [.ref 133, .ref q, .int (nI i)], [], σ) = pm_cl (xe d 223 [.ref 133, .ref q, .int (nI 0), .long (1000000000 : Int64)] σ') (fun r => pm_run (xe d) pg_X12_layOn (51, [.ref 133, .ref q, .int (nI 6)], r.1.toList ++ [], r.2)) ∧ σ'.1 = σ.1 ∧ (∀ c, c ≠ 149 → σ'.2 c = σ.2 c) ∧ ∀ j, σ'.2 149 j = if i ≤ j ∧ j < 6 then 0 else σ.2 149 j
  | 0, i, σ, e => ⟨σ, by rw [sg_X12_layOn_23 hq, if_neg (nI_nlt (by omega) (by omega)), show i = 6 by omega], rfl, fun _ _ => rfl, fun j => by rw [if_neg (by omega)]⟩
  | k + 1, i, σ, e => by
    rw [sg_X12_layOn_23 hq, if_pos (nI_lt (by omega) (by omega)), ck_n _ (show i < 6 by omega) (by omega), nI_clamp (by omega), nI_add]
    obtain ⟨σ', e1, e2, e3, e4⟩ := r_z2 d hq k (i + 1) (pm_wJ σ 149 i 0) (by omega)
    refine ⟨σ', e1, e2, fun c hc => (e3 c hc).trans (pm_wJ_ne σ _ _ hc).2, fun j => ?_⟩
    rw [e4 j, wJ_2]
    by_cases c1 : j = i
    · subst c1
      rw [if_neg (by omega), pk_uLs, if_pos (by omega)]
    · rw [pk_uLn c1]
      by_cases c2 : i ≤ j ∧ j < 6
      · rw [if_pos c2, if_pos (by omega)]
      · rw [if_neg c2, if_neg (by omega)]
theorem r_layOn (d : Nat) {k sz nl n : Nat} {V : Nat → LV → Int32} {t r f : Nat → Int32} {T R : Nat → Nat} {lg : Nat → Nat → Int32} {o1 o2 : Int32} {σ : pm_H} (hs : sz ≤ 6) (hk : k ≤ 5000) (ht : okT sz t r T R) (hE : EnM sz nl V t r o1 o2 σ) (hD : DyM nl V σ) (hM : relM k sz r (R 1) f lg (σ.1 143) n) (hl : lft (R 1) sz r f ≤ 12) : ∃ σ', xe (d + 48) 222 [.ref 133, .ref 143] σ = some (none, σ') ∧ FRM 0 σ σ' ∧ DyM nl V σ' ∧ ∀ l, l < sz → σ'.2 149 l = sM (vlF V o2 sz t r) l (esA V o1 sz t r f) ∧ ∀ q, q < 7 → σ'.2 148 (7 * l + q) = sP (s_place sz t r) l q (esA V o1 sz t r f) := by
  obtain ⟨σ1, a1, a2, a3, a4⟩ := r_z1 (d + 47) rw_trial 42 0 σ (by omega)
  obtain ⟨σ2, b1, b2, b3, b4⟩ := r_z2 (d + 47) rw_trial 6 0 σ1 (by omega)
  rw [en_X12_layOn, sg_X12_layOn_0 rw_trial, a1, b1, show (1000000000 : Int64) = lN 1000000000 from rfl]
  have e12 : σ2.1 = σ.1 := b2.trans a2
  have hF : FRM 0 σ σ2 := ⟨fun c _ _ _ _ _ => by rw [e12], fun j hj => by omega, fun c h1 h2 h3 => (b3 c h3).trans (a3 c h2), fun k' _ => by rw [e12]⟩
  obtain ⟨σ', i1, i2, i3, i4⟩ := r_goOn d hs hk ht 12 0 1000000000 143 n f lg σ2 (by omega) hl (Or.inl rfl) (by rw [e12]; exact hM) (by omega) (EnM_F hE hF) ⟨fun p hp => by rw [e12, b3 144 (by decide), a3 144 (by decide)]; exact hD.1 p hp, by rw [LM_same (σ := σ) (show σ2.1 137 = σ.1 137 by rw [e12])]; exact hD.2⟩
  rw [i1]
  simp only [pm_cl_some, Option.toList_some, Option.toList_none, List.cons_append, List.nil_append]
  rw [sg_X12_layOn_51 rw_trial]
  refine ⟨σ', rfl, FRM_tr hF i2, i3, fun l hl' => ?_⟩
  obtain ⟨j1, j2⟩ := i4 l hl'
  refine ⟨?_, fun q hq => ?_⟩
  · rw [j1, b4 l, if_pos (by omega), Int64.zero_add]
    rfl
  · rw [j2 q hq, b3 148 (by decide), a4 (7 * l + q), if_pos (by omega), Int64.zero_add]
    rfl
/-- what a query of the reference leaves -/
theorem FRM_Q {dp : Nat} {σ σ' : pm_H} (h : FRM dp σ σ') : sameQ σ σ' := by
  refine ⟨⟨fun c hc => ?_, fun j hj => h.2.2.2 j ?_⟩, fun c hc hn => ?_, ?_, fun j hj => h.2.2.2 j ?_⟩
  · have := kpB_ne hc
    exact h.1 c this.1 this.2.1 this.2.2.1 this.2.2.2.2.1 this.2.2.2.2.2.1
  · rcases hj with rfl | rfl | rfl | rfl <;> rfl
  · have := kpL_ne hc
    exact h.1 c this.1 hn this.2.2.1 this.2.2.2.2.1 this.2.2.2.2.2.1
  · rw [h.1 1 (by decide) (by decide) (by decide) (by decide) (by decide)]
  · rcases hj with rfl | rfl | rfl | rfl <;> rfl
theorem sameQ_w (σ : pm_H) {c : Nat} (f : Nat → Int32) (h : kpB c = false ∧ kpL c = false) (h1 : c ≠ 133 ∧ c ≠ 1) : sameQ σ (pm_wC σ c f) := ⟨sameB_w σ f h.1 h1.1, sameK_L (sameL_w σ f h.2 h1.1 h1.2)⟩
theorem EnM_Q {sz nl : Nat} {V : Nat → LV → Int32} {t r : Nat → Int32} {o1 o2 : Int32} {σ σ' : pm_H} (h : EnM sz nl V t r o1 o2 σ) (s : sameQ σ σ') : EnM sz nl V t r o1 o2 σ' := by
  obtain ⟨h1, h2, h3, ⟨m1, m2, m3⟩, ⟨h5, h6⟩, h7, h8⟩ := h
  refine ⟨(s.1.2 22 (by omega)).trans h1, fun l hl j hj => by rw [s.1.1 138 rfl]; exact h2 l hl j hj, fun j hj => by rw [s.1.1 140 rfl]; exact h3 j hj, ⟨m1, (s.2.2.2 7 (by omega)).trans m2, fun j hj => ?_⟩, ⟨(s.2.2.2 27 (by omega)).trans h5, (s.2.2.2 28 (by omega)).trans h6⟩, h7, h8⟩
  obtain ⟨b', n', c', v', q', a1, a2, a3, a4, a5⟩ := m3 j hj
  exact ⟨b', n', c', v', q', a1, a2, a3, by rw [s.2.1 136 rfl (by decide)]; exact a4, fun i hi => by rw [s.2.1 135 rfl (by decide)]; exact a5 i hi⟩
theorem r_layNow (d : Nat) {k sz nl n : Nat} {V : Nat → LV → Int32} {t r f : Nat → Int32} {T R : Nat → Nat} {lg : Nat → Nat → Int32} {o1 o2 : Int32} {σ : pm_H} (hs : sz ≤ 6) (hk : k ≤ 5000) (ht : okT sz t r T R) (hE : EnM sz nl V t r o1 o2 σ) (hD : DyM nl V σ) (hM : relM k sz r (R 1) f lg (σ.1 142) n) (hl : lft (R 1) sz r f ≤ 12) : ∃ σ', xe (d + 49) 220 [.ref 133] σ = some (none, σ') ∧ sameQ σ σ' ∧ DyM nl V σ' ∧ ∀ l, l < sz → σ'.2 149 l = sM (vlF V o2 sz t r) l (esA V o1 sz t r f) ∧ ∀ q, q < 7 → σ'.2 148 (7 * l + q) = sP (s_place sz t r) l q (esA V o1 sz t r f) := by
  obtain ⟨hn36, f4, w70⟩ := relM_n hs ht.2.2.1.2.1 hM
  rw [en_X12_layNow, sg_X12_layNow_0, r_copy (d + 47) σ rw_now rw_trial (by decide) hn36 w70]
  simp only [pm_cl_some, Option.toList_some, Option.toList_none, List.cons_append, List.nil_append]
  rw [sg_X12_layNow_11]
  have sq : sameQ σ (pm_wC σ 143 (u_copy (σ.1 142) (σ.1 143) n)) := sameQ_w σ _ ⟨rfl, rfl⟩ (by decide)
  obtain ⟨σ', i1, i2, i3, i4⟩ := r_layOn d (n := n) (f := f) (lg := lg) (σ := pm_wC σ 143 (u_copy (σ.1 142) (σ.1 143) n)) hs hk ht (EnM_Q hE sq) ⟨fun p hp => by rw [wC_ne _ _ (show (145 : Nat) ≠ 143 by decide)]; exact hD.1 p hp, by rw [LM_same (wC_ne _ _ (by decide))]; exact hD.2⟩ (by rw [wC_at]; exact relM_ext hs (fun _ _ => rfl) (fun j hj => if_pos hj) (fun _ _ _ _ => rfl) hM) hl
  rw [i1]
  simp only [pm_cl_some, Option.toList_some, Option.toList_none, List.cons_append, List.nil_append]
  rw [sg_X12_layNow_19]
  exact ⟨σ', rfl, sameQ_tr sq (FRM_Q i2), i3, i4⟩
/-! what both know -/
theorem EnX_of {k sz n a e nl : Nat} {T R : Nat → Nat} {V : Nat → LV → Int32} {σ : pm_H} (h : RelB k sz T R n a e σ) (w : LW nl V σ) : EnX sz nl V (σ.1 4) (σ.1 5) (σ.1 12 6) (σ.1 12 7) σ := ⟨h.1.1, rfl, rfl, w.2.1, ⟨rfl, rfl⟩, w.2.2.2.2.2.2.1, w.2.2.2.2.2.2.2⟩
theorem EnM_of {k sz n a e nl : Nat} {T R : Nat → Nat} {V : Nat → LV → Int32} {σ : pm_H} (h : RelB k sz T R n a e σ) (w : LW nl V σ) : EnM sz nl V (σ.1 4) (σ.1 5) (σ.1 12 6) (σ.1 12 7) σ := ⟨h.1.2.1, h.1.2.2.2.2.2.1, h.1.2.2.2.2.2.2, w.2.2.1, w.2.2.2.2.2.1, w.2.2.2.2.2.2.1, w.2.2.2.2.2.2.2⟩
theorem EnM_X {sz nl : Nat} {V : Nat → LV → Int32} {t r : Nat → Int32} {o1 o2 : Int32} {σ σ' : pm_H} (h : EnM sz nl V t r o1 o2 σ) (s : sameX σ σ') : EnM sz nl V t r o1 o2 σ' := EnM_Q h ⟨s.1, sameK_L s.2.1⟩
theorem lfX_le {R1 : Nat} {r f : Nat → Int32} {l : Nat} (h : R1 ≤ 3) : lfX R1 r f l ≤ 6 := by
  unfold lfX
  split <;> split <;> omega
theorem lft_le {R1 sz : Nat} {r f : Nat → Int32} (h : R1 ≤ 3) (hs : sz ≤ 6) : lft R1 sz r f ≤ 36 := by
  have := sumN_le (G := lfX R1 r f) (b := 6) sz (fun l _ => lfX_le h)
  unfold lft
  omega
theorem q_lf (d : Nat) {k sz n a e : Nat} {T R : Nat → Nat} {σ : pm_H} (h : RelB k sz T R n a e σ) (hz : 0 < sz) : xe (d + 3) 208 [.ref 23] σ = some (some (.int (nI (lft (R 1) sz (σ.1 5) (σ.1 24)))), σ) := by
  obtain ⟨⟨h1, h2, h3, h4, h5, h6, h7⟩, ⟨h8, h9⟩, -⟩ := h
  obtain ⟨F, f1, f2, -⟩ := h8.1
  rw [q_left d σ st_23 h1 h3, lft_q h3 (h5 hz) f1 f2]
theorem r_lf (d : Nat) {k sz n a e : Nat} {T R : Nat → Nat} {σ σ' : pm_H} (h : RelB k sz T R n a e σ) (hz : 0 < sz) (s : sameB σ σ') : xe (d + 2) 211 [.ref 133, .ref 142] σ' = some (some (.int (nI (lft (R 1) sz (σ.1 5) (σ.1 24)))), σ') := by
  obtain ⟨⟨h1, h2, h3, h4, h5, h6, h7⟩, ⟨h8, h9⟩, -⟩ := h
  obtain ⟨F, f1, f2, -⟩ := h8.1
  rw [r_left d σ' rw_now ((s.2 22 (by omega)).trans h2) h3, s.1 140 rfl, s.1 142 rfl, left_eq h8.2.2.1 h8.2.1 (okO_2 h8) (h7 1 (by omega)), lft_q h3 (h5 hz) f1 f2]
theorem wb_1 : ∀ l, l < 6 → wb (nI 1 <<< (nI l &&& 31)) l := by
  unfold wb
  decide

/-! ===== what a method of the class answers is an int ===== -/
def pm_Ri (f : pm_F) : Prop := ∀ (ev : pm_Ev) (g : pm_S) (r : pm_R), f ev g = some (.inr r) → ∃ x : Int32, r.1 = some (.int x)
def pm_RiL : List (Nat × pm_F) → Prop
  | [] => True
  | q :: l => pm_Ri q.2 ∧ pm_RiL l
theorem ri_c {pc : Nat} {f : pm_F} {l : List (Nat × pm_F)} (h : pm_Ri f) (t : pm_RiL l) : pm_RiL ((pc, f) :: l) := ⟨h, t⟩
theorem ri_n : pm_RiL [] := trivial
theorem ri_at : ∀ (P : List (Nat × pm_F)) (pc : Nat) (f : pm_F), pm_RiL P → pm_at P pc = some f → pm_Ri f
  | [], _, _, _, h => by cases h
  | q :: l, pc, f, ha, h => by
    unfold pm_at at h
    by_cases e : q.1 = pc
    · rw [if_pos e] at h
      cases h
      exact ha.1
    · rw [if_neg e] at h
      exact ri_at l pc f ha.2 h
theorem ri_run {ev : pm_Ev} {P : List (Nat × pm_F)} (hP : pm_RiL P) : ∀ (n : Nat) (g : pm_S) (r : pm_R), pm_runF ev P n g = some r → ∃ x : Int32, r.1 = some (.int x)
  | 0, _, _, h => by cases h
  | n + 1, g, r, h => by
    have h : pm_k (pm_stp ev P g) (pm_runF ev P n) = some r := h
    cases ho : pm_stp ev P g with
    | none => rw [ho] at h; cases h
    | some o =>
      rw [ho] at h
      cases o with
      | inl g' => exact ri_run hP n g' r h
      | inr q =>
        cases h
        unfold pm_stp at ho
        split at ho
        · cases ho
        · rename_i f hf
          exact ri_at P g.1 f hP hf ev g _ ho
theorem int_of {d μ : Nat} {as : List Value} {σ σ' : pm_H} {v : Value} (hP : pm_RiL (pm_PP μ)) (h : xe d μ as σ = some (some v, σ')) : ∃ x : Int32, v = .int x := by
  match d, h with
  | 0, h => cases h
  | d + 1, h =>
    have h : (if (pm_fl as).length ≤ (pm_M μ).2.2.1 then pm_run (pm_ex pm_PP d) (pm_PP μ) (0, pm_ent (pm_M μ).2.2.1 as, [], σ) else none) = some (some v, σ') := h
    split at h
    · obtain ⟨n, hn⟩ := pm_run_of h
      obtain ⟨x, hx⟩ := ri_run hP n _ _ hn
      exact ⟨x, Option.some.inj hx⟩
    · cases h
theorem ri_kl {ds : List Nat} {f : pm_F} (h : pm_Ri f) : pm_Ri (pm_kl ds f) := fun ev g r e => h ev _ r e
theorem ri_tsw {lo : Int} {ts : List Nat} {dt : Nat} : pm_Ri (pm_tsw lo ts dt) := by
  intro ev g r h
  dsimp only [pm_tsw] at h
  split at h
  · rename_i x st hst
    rcases pm_sel_of x (fun t => some (.inl (t, g.2.1, st, g.2.2.2))) dt ts lo with ⟨-, e⟩ | ⟨j, t, -, -, e⟩
    · rw [e] at h
      cases h
    · rw [e] at h
      cases h
  · cases h
theorem ri_aald  : pm_Ri (pm_aald) := by
  intro ev g r h
  dsimp only [pm_aald] at h
  repeat' split at h
  all_goals first | (cases h; done) | (cases h; exact ⟨_, rfl⟩)
theorem ri_al {i n : Nat} : pm_Ri (pm_al i n) := by
  intro ev g r h
  dsimp only [pm_al] at h
  repeat' split at h
  all_goals first | (cases h; done) | (cases h; exact ⟨_, rfl⟩)
theorem ri_b2 {op : Int32 → Int32 → Int32} : pm_Ri (pm_b2 op) := by
  intro ev g r h
  dsimp only [pm_b2] at h
  repeat' split at h
  all_goals first | (cases h; done) | (cases h; exact ⟨_, rfl⟩)
theorem ri_cS {μ n : Nat} : pm_Ri (pm_cS μ n) := by
  intro ev g r h
  dsimp only [pm_cS] at h
  repeat' split at h
  all_goals first | (cases h; done) | (cases h; exact ⟨_, rfl⟩)
theorem ri_cV {μ ci n : Nat} : pm_Ri (pm_cV μ ci n) := by
  intro ev g r h
  dsimp only [pm_cV] at h
  repeat' split at h
  all_goals first | (cases h; done) | (cases h; exact ⟨_, rfl⟩)
theorem ri_ceq {t : Nat} : pm_Ri (pm_ceq t) := by
  intro ev g r h
  dsimp only [pm_ceq] at h
  repeat' split at h
  all_goals first | (cases h; done) | (cases h; exact ⟨_, rfl⟩)
theorem ri_cge {t : Nat} : pm_Ri (pm_cge t) := by
  intro ev g r h
  dsimp only [pm_cge] at h
  repeat' split at h
  all_goals first | (cases h; done) | (cases h; exact ⟨_, rfl⟩)
theorem ri_cgt {t : Nat} : pm_Ri (pm_cgt t) := by
  intro ev g r h
  dsimp only [pm_cgt] at h
  repeat' split at h
  all_goals first | (cases h; done) | (cases h; exact ⟨_, rfl⟩)
theorem ri_ci {v : Int32} {n : Nat} : pm_Ri (pm_ci v n) := by
  intro ev g r h
  dsimp only [pm_ci] at h
  repeat' split at h
  all_goals first | (cases h; done) | (cases h; exact ⟨_, rfl⟩)
theorem ri_cle {t : Nat} : pm_Ri (pm_cle t) := by
  intro ev g r h
  dsimp only [pm_cle] at h
  repeat' split at h
  all_goals first | (cases h; done) | (cases h; exact ⟨_, rfl⟩)
theorem ri_clt {t : Nat} : pm_Ri (pm_clt t) := by
  intro ev g r h
  dsimp only [pm_clt] at h
  repeat' split at h
  all_goals first | (cases h; done) | (cases h; exact ⟨_, rfl⟩)
theorem ri_cne {t : Nat} : pm_Ri (pm_cne t) := by
  intro ev g r h
  dsimp only [pm_cne] at h
  repeat' split at h
  all_goals first | (cases h; done) | (cases h; exact ⟨_, rfl⟩)
theorem ri_cpy  : pm_Ri (pm_cpy) := by
  intro ev g r h
  dsimp only [pm_cpy] at h
  repeat' split at h
  all_goals first | (cases h; done) | (cases h; exact ⟨_, rfl⟩)
theorem ri_d2 {op : Int32 → Int32 → Int32} : pm_Ri (pm_d2 op) := by
  intro ev g r h
  dsimp only [pm_d2] at h
  repeat' split at h
  all_goals first | (cases h; done) | (cases h; exact ⟨_, rfl⟩)
theorem ri_dup  : pm_Ri (pm_dup) := by
  intro ev g r h
  dsimp only [pm_dup] at h
  repeat' split at h
  all_goals first | (cases h; done) | (cases h; exact ⟨_, rfl⟩)
theorem ri_get {ci f : Nat} : pm_Ri (pm_get ci f) := by
  intro ev g r h
  dsimp only [pm_get] at h
  repeat' split at h
  all_goals first | (cases h; done) | (cases h; exact ⟨_, rfl⟩)
theorem ri_goto {t : Nat} : pm_Ri (pm_goto t) := by
  intro ev g r h
  dsimp only [pm_goto] at h
  repeat' split at h
  all_goals first | (cases h; done) | (cases h; exact ⟨_, rfl⟩)
theorem ri_iald  : pm_Ri (pm_iald) := by
  intro ev g r h
  dsimp only [pm_iald] at h
  repeat' split at h
  all_goals first | (cases h; done) | (cases h; exact ⟨_, rfl⟩)
theorem ri_il {i n : Nat} : pm_Ri (pm_il i n) := by
  intro ev g r h
  dsimp only [pm_il] at h
  repeat' split at h
  all_goals first | (cases h; done) | (cases h; exact ⟨_, rfl⟩)
theorem ri_inc {i : Nat} {v : Int32} : pm_Ri (pm_inc i v) := by
  intro ev g r h
  dsimp only [pm_inc] at h
  repeat' split at h
  all_goals first | (cases h; done) | (cases h; exact ⟨_, rfl⟩)
theorem ri_iret {ty : FieldType} : pm_Ri (pm_iret ty) := by
  intro ev g r h
  dsimp only [pm_iret] at h
  repeat' split at h
  all_goals first | (cases h; done) | (cases h; exact ⟨_, rfl⟩)
theorem ri_is {i n : Nat} : pm_Ri (pm_is i n) := by
  intro ev g r h
  dsimp only [pm_is] at h
  repeat' split at h
  all_goals first | (cases h; done) | (cases h; exact ⟨_, rfl⟩)
theorem ri_ll {i n : Nat} : pm_Ri (pm_ll i n) := by
  intro ev g r h
  dsimp only [pm_ll] at h
  repeat' split at h
  all_goals first | (cases h; done) | (cases h; exact ⟨_, rfl⟩)
theorem ri_lz {i n : Nat} : pm_Ri (pm_lz i n) := by
  intro ev g r h
  dsimp only [pm_lz] at h
  repeat' split at h
  all_goals first | (cases h; done) | (cases h; exact ⟨_, rfl⟩)
theorem ri_max  : pm_Ri (pm_max) := by
  intro ev g r h
  dsimp only [pm_max] at h
  repeat' split at h
  all_goals first | (cases h; done) | (cases h; exact ⟨_, rfl⟩)
theorem ri_min  : pm_Ri (pm_min) := by
  intro ev g r h
  dsimp only [pm_min] at h
  repeat' split at h
  all_goals first | (cases h; done) | (cases h; exact ⟨_, rfl⟩)
theorem ri_pop  : pm_Ri (pm_pop) := by
  intro ev g r h
  dsimp only [pm_pop] at h
  repeat' split at h
  all_goals first | (cases h; done) | (cases h; exact ⟨_, rfl⟩)
theorem ri_put {ci f : Nat} {z : Bool} : pm_Ri (pm_put ci f z) := by
  intro ev g r h
  dsimp only [pm_put] at h
  repeat' split at h
  all_goals first | (cases h; done) | (cases h; exact ⟨_, rfl⟩)
theorem ri_zeq {t : Nat} : pm_Ri (pm_zeq t) := by
  intro ev g r h
  dsimp only [pm_zeq] at h
  repeat' split at h
  all_goals first | (cases h; done) | (cases h; exact ⟨_, rfl⟩)
theorem ri_zle {t : Nat} : pm_Ri (pm_zle t) := by
  intro ev g r h
  dsimp only [pm_zle] at h
  repeat' split at h
  all_goals first | (cases h; done) | (cases h; exact ⟨_, rfl⟩)
theorem ri_zlt {t : Nat} : pm_Ri (pm_zlt t) := by
  intro ev g r h
  dsimp only [pm_zlt] at h
  repeat' split at h
  all_goals first | (cases h; done) | (cases h; exact ⟨_, rfl⟩)
theorem ri_zne {t : Nat} : pm_Ri (pm_zne t) := by
  intro ev g r h
  dsimp only [pm_zne] at h
  repeat' split at h
  all_goals first | (cases h; done) | (cases h; exact ⟨_, rfl⟩)
set_option maxRecDepth 100000 in
theorem ri_X11_feed : pm_RiL (pm_PP 14) := ri_c ri_il (ri_c ri_cS (ri_c ri_il (ri_c ri_cS (ri_c ri_b2 (ri_c ri_il (ri_c ri_cS (ri_c ri_b2 (ri_c ri_il (ri_c ri_cS (ri_c ri_b2 (ri_c ri_il (ri_c ri_cS (ri_c ri_b2 (ri_c ri_is (ri_c ri_al (ri_c ri_get (ri_c ri_get (ri_c ri_il (ri_c ri_b2 (ri_c ri_ci (ri_c ri_cle (ri_c ri_ci (ri_c ri_iret (ri_c ri_al (ri_c ri_get (ri_c ri_il (ri_c ri_cV (ri_c ri_al (ri_c ri_get (ri_c ri_il (ri_c ri_cV (ri_c ri_al (ri_c ri_get (ri_c ri_il (ri_c ri_cV (ri_c ri_al (ri_c ri_get (ri_c ri_il (ri_c ri_cV (ri_c ri_al (ri_c ri_get (ri_c ri_il (ri_c ri_cV (ri_c ri_al (ri_c ri_get (ri_c ri_get (ri_c ri_iret (ri_n))))))))))))))))))))))))))))))))))))))))))))))))
set_option maxRecDepth 100000 in
theorem ri_X11_end : pm_RiL (pm_PP 20) := ri_c ri_il (ri_c ri_zlt (ri_c ri_il (ri_c ri_al (ri_c ri_get (ri_c ri_get (ri_c ri_cle (ri_c ri_ci (ri_c ri_iret (ri_c ri_al (ri_c ri_get (ri_c ri_il (ri_c ri_put (ri_c ri_ci (ri_c ri_iret (ri_n)))))))))))))))
set_option maxRecDepth 100000 in
theorem ri_X11_fault : pm_RiL (pm_PP 22) := ri_c ri_il (ri_c ri_zne (ri_c ri_al (ri_c ri_get (ri_c ri_cV (ri_c ri_iret (ri_c ri_il (ri_c ri_ci (ri_c ri_cne (ri_c ri_al (ri_c ri_get (ri_c ri_cV (ri_c ri_goto (ri_c ri_ci (ri_c ri_iret (ri_n)))))))))))))))
set_option maxRecDepth 100000 in
theorem ri_X11_text : pm_RiL (pm_PP 106) := ri_c ri_il (ri_c ri_zne (ri_c ri_al (ri_c ri_get (ri_c ri_cV (ri_c ri_ci (ri_c ri_cne (ri_c ri_al (ri_c ri_cV (ri_c ri_iret (ri_c ri_il (ri_c ri_ci (ri_c ri_cne (ri_c ri_al (ri_c ri_get (ri_c ri_get (ri_c ri_ci (ri_c ri_cge (ri_c ri_al (ri_c ri_get (ri_c ri_cV (ri_c ri_ci (ri_c ri_cne (ri_c ri_al (ri_c ri_get (ri_c ri_ci (ri_c ri_put (ri_c ri_al (ri_c ri_get (ri_c ri_al (ri_c ri_get (ri_c ri_get (ri_c ri_al (ri_c ri_get (ri_c ri_get (ri_c ri_cV (ri_c ri_iret (ri_c ri_ci (ri_c ri_iret (ri_n)))))))))))))))))))))))))))))))))))))))
set_option maxRecDepth 100000 in
theorem ri_X11_lifter : pm_RiL (pm_PP 116) := ri_c ri_al (ri_c ri_il (ri_c ri_cV (ri_c ri_zne (ri_c ri_dup (ri_c ri_il (ri_c ri_tsw (ri_c ri_al (ri_c ri_get (ri_c ri_ci (ri_c ri_il (ri_c ri_cV (ri_c ri_iret (ri_c ri_al (ri_c ri_get (ri_c ri_ci (ri_c ri_il (ri_c ri_cV (ri_c ri_iret (ri_c ri_al (ri_c ri_get (ri_c ri_ci (ri_c ri_il (ri_c ri_cV (ri_c ri_iret (ri_c ri_al (ri_c ri_get (ri_c ri_ci (ri_c ri_il (ri_c ri_cV (ri_c ri_iret (ri_c ri_al (ri_c ri_get (ri_c ri_ci (ri_c ri_il (ri_c ri_cV (ri_c ri_iret (ri_c ri_al (ri_c ri_get (ri_c ri_ci (ri_c ri_il (ri_c ri_cV (ri_c ri_iret (ri_c ri_al (ri_c ri_get (ri_c ri_il (ri_c ri_cV (ri_c ri_zeq (ri_c ri_al (ri_c ri_get (ri_c ri_ci (ri_c ri_il (ri_c ri_cV (ri_c ri_goto (ri_c ri_ci (ri_c ri_iret (ri_c ri_al (ri_c ri_get (ri_c ri_ci (ri_c ri_il (ri_c ri_cV (ri_c ri_iret (ri_c ri_al (ri_c ri_get (ri_c ri_ci (ri_c ri_il (ri_c ri_cV (ri_c ri_iret (ri_c ri_al (ri_c ri_get (ri_c ri_ci (ri_c ri_il (ri_c ri_cV (ri_c ri_iret (ri_c ri_al (ri_c ri_get (ri_c ri_il (ri_c ri_cV (ri_c ri_iret (ri_c ri_al (ri_c ri_get (ri_c ri_il (ri_c ri_cV (ri_c ri_iret (ri_c ri_al (ri_c ri_get (ri_c ri_ci (ri_c ri_il (ri_c ri_cV (ri_c ri_iret (ri_c ri_al (ri_c ri_get (ri_c ri_il (ri_c ri_cV (ri_c ri_iret (ri_c ri_al (ri_c ri_il (ri_c ri_cV (ri_c ri_iret (ri_c ri_al (ri_c ri_get (ri_c ri_ci (ri_c ri_il (ri_c ri_cV (ri_c ri_iret (ri_c ri_al (ri_c ri_get (ri_c ri_ci (ri_c ri_il (ri_c ri_cV (ri_c ri_iret (ri_c ri_dup (ri_n))))))))))))))))))))))))))))))))))))))))))))))))))))))))))))))))))))))))))))))))))))))))))))))))))))))))))))))))
set_option maxRecDepth 100000 in
theorem ri_X11_rule : pm_RiL (pm_PP 142) := ri_c ri_al (ri_c ri_get (ri_c ri_get (ri_c ri_zeq (ri_c ri_il (ri_c ri_zlt (ri_c ri_il (ri_c ri_ci (ri_c ri_clt (ri_c ri_ci (ri_c ri_iret (ri_c ri_al (ri_c ri_get (ri_c ri_get (ri_c ri_il (ri_c ri_iald (ri_c ri_iret (ri_n)))))))))))))))))
set_option maxRecDepth 100000 in
theorem ri_X11_law : pm_RiL (pm_PP 144) := ri_c ri_il (ri_c ri_ci (ri_c ri_clt (ri_c ri_il (ri_c ri_al (ri_c ri_get (ri_c ri_get (ri_c ri_clt (ri_c ri_ci (ri_c ri_iret (ri_c ri_il (ri_c ri_zne (ri_c ri_al (ri_c ri_get (ri_c ri_il (ri_c ri_put (ri_c ri_ci (ri_c ri_iret (ri_c ri_il (ri_c ri_ci (ri_c ri_cne (ri_c ri_al (ri_c ri_get (ri_c ri_il (ri_c ri_put (ri_c ri_ci (ri_c ri_iret (ri_c ri_ci (ri_c ri_iret (ri_n)))))))))))))))))))))))))))))
set_option maxRecDepth 100000 in
theorem ri_X11_errs : pm_RiL (pm_PP 146) := ri_c ri_il (ri_c ri_zlt (ri_c ri_il (ri_c ri_ci (ri_c ri_cgt (ri_c ri_il (ri_c ri_al (ri_c ri_get (ri_c ri_cne (ri_c ri_ci (ri_c ri_iret (ri_c ri_al (ri_c ri_il (ri_c ri_put (ri_c ri_ci (ri_c ri_iret (ri_n))))))))))))))))
set_option maxRecDepth 100000 in
theorem ri_X11_next : pm_RiL (pm_PP 148) := ri_c ri_al (ri_c ri_get (ri_c ri_cV (ri_c ri_iret (ri_n))))
set_option maxRecDepth 100000 in
theorem ri_X11_odds : pm_RiL (pm_PP 154) := ri_c ri_al (ri_c ri_il (ri_c ri_cV (ri_c ri_zeq (ri_c ri_il (ri_c ri_ci (ri_c ri_clt (ri_c ri_il (ri_c ri_ci (ri_c ri_cle (ri_c ri_ci (ri_c ri_iret (ri_c ri_al (ri_c ri_get (ri_c ri_al (ri_c ri_get (ri_c ri_il (ri_c ri_cV (ri_c ri_al (ri_c ri_get (ri_c ri_al (ri_c ri_get (ri_c ri_il (ri_c ri_cV (ri_c ri_iret (ri_n)))))))))))))))))))))))))
set_option maxRecDepth 100000 in
theorem ri_X11_value : pm_RiL (pm_PP 162) := ri_c ri_al (ri_c ri_il (ri_c ri_cV (ri_c ri_zeq (ri_c ri_al (ri_c ri_get (ri_c ri_al (ri_c ri_get (ri_c ri_il (ri_c ri_cV (ri_c ri_goto (ri_c ri_ci (ri_c ri_iret (ri_n)))))))))))))
set_option maxRecDepth 100000 in
theorem ri_X11_lift : pm_RiL (pm_PP 166) := ri_c ri_al (ri_c ri_get (ri_c ri_cV (ri_c ri_is (ri_c ri_il (ri_c ri_ci (ri_c ri_ceq (ri_c ri_il (ri_c ri_zlt (ri_c ri_il (ri_c ri_ci (ri_c ri_cle (ri_c ri_ci (ri_c ri_iret (ri_c ri_al (ri_c ri_il (ri_c ri_il (ri_c ri_cV (ri_c ri_il (ri_c ri_cS (ri_c ri_zeq (ri_c ri_ci (ri_c ri_goto (ri_c ri_ci (ri_c ri_iret (ri_n)))))))))))))))))))))))))
set_option maxRecDepth 100000 in
theorem ri_X11_change : pm_RiL (pm_PP 183) := ri_c ri_al (ri_c ri_il (ri_c ri_cV (ri_c ri_zeq (ri_c ri_il (ri_c ri_ci (ri_c ri_cgt (ri_c ri_il (ri_c ri_al (ri_c ri_get (ri_c ri_il (ri_c ri_cV (ri_c ri_clt (ri_c ri_al (ri_c ri_get (ri_c ri_ci (ri_c ri_il (ri_c ri_cV (ri_c ri_zle (ri_c ri_il (ri_c ri_al (ri_c ri_get (ri_c ri_ci (ri_c ri_il (ri_c ri_cV (ri_c ri_cne (ri_c ri_ci (ri_c ri_iret (ri_c ri_al (ri_c ri_cV (ri_c ri_al (ri_c ri_get (ri_c ri_il (ri_c ri_il (ri_c ri_cV (ri_c ri_al (ri_c ri_get (ri_c ri_il (ri_c ri_cV (ri_c ri_iret (ri_n))))))))))))))))))))))))))))))))))))))))
set_option maxRecDepth 100000 in
theorem ri_X11_home : pm_RiL (pm_PP 190) := ri_c ri_al (ri_c ri_il (ri_c ri_cV (ri_c ri_zne (ri_c ri_ci (ri_c ri_iret (ri_c ri_al (ri_c ri_cV (ri_c ri_al (ri_c ri_get (ri_c ri_il (ri_c ri_cV (ri_c ri_al (ri_c ri_get (ri_c ri_cV (ri_c ri_iret (ri_n))))))))))))))))
set_option maxRecDepth 100000 in
theorem ri_X11_warm : pm_RiL (pm_PP 194) := ri_c ri_al (ri_c ri_il (ri_c ri_cV (ri_c ri_zne (ri_c ri_ci (ri_c ri_iret (ri_c ri_al (ri_c ri_cV (ri_c ri_al (ri_c ri_get (ri_c ri_il (ri_c ri_cV (ri_c ri_al (ri_c ri_il (ri_c ri_cV (ri_c ri_iret (ri_n))))))))))))))))
set_option maxRecDepth 100000 in
theorem ri_X11_meet : pm_RiL (pm_PP 197) := ri_c ri_il (ri_c ri_ci (ri_c ri_clt (ri_c ri_il (ri_c ri_ci (ri_c ri_cgt (ri_c ri_al (ri_c ri_get (ri_c ri_cV (ri_c ri_ci (ri_c ri_cne (ri_c ri_ci (ri_c ri_iret (ri_c ri_ll (ri_c ri_lz (ri_c ri_ci (ri_c ri_is (ri_c ri_ci (ri_c ri_is (ri_c (ri_kl ri_il) (ri_c ri_il (ri_c ri_cge (ri_c ri_al (ri_c ri_get (ri_c ri_cV (ri_c ri_is (ri_c ri_il (ri_c ri_ci (ri_c ri_cne (ri_c ri_goto (ri_c ri_ll (ri_c ri_cS (ri_c ri_lz (ri_c ri_al (ri_c ri_get (ri_c ri_al (ri_c ri_get (ri_c ri_il (ri_c ri_cV (ri_c ri_ll (ri_c ri_al (ri_c ri_get (ri_c ri_al (ri_c ri_get (ri_c ri_al (ri_c ri_get (ri_c ri_ci (ri_c ri_il (ri_c ri_cV (ri_c ri_cV (ri_c ri_cS (ri_c ri_is (ri_c ri_ci (ri_c ri_is (ri_c ri_ci (ri_c ri_is (ri_c (ri_kl ri_il) (ri_c ri_ci (ri_c ri_cge (ri_c ri_ll (ri_c ri_cS (ri_c ri_lz (ri_c ri_il (ri_c ri_il (ri_c ri_ll (ri_c ri_al (ri_c ri_get (ri_c ri_cS (ri_c ri_ceq (ri_c ri_ci (ri_c ri_il (ri_c ri_b2 (ri_c ri_goto (ri_c ri_ci (ri_c ri_b2 (ri_c ri_is (ri_c ri_inc (ri_c ri_goto (ri_c ri_al (ri_c ri_il (ri_c ri_il (ri_c ri_cV (ri_c ri_inc (ri_c ri_inc (ri_c ri_goto (ri_c ri_il (ri_c ri_iret (ri_n)))))))))))))))))))))))))))))))))))))))))))))))))))))))))))))))))))))))))))))))))))))))
set_option maxRecDepth 100000 in
theorem ri_X11_undo : pm_RiL (pm_PP 202) := ri_c ri_al (ri_c ri_get (ri_c ri_zne (ri_c ri_ci (ri_c ri_iret (ri_c ri_al (ri_c ri_al (ri_c ri_get (ri_c ri_ci (ri_c ri_b2 (ri_c ri_ci (ri_c ri_b2 (ri_c ri_ci (ri_c ri_d2 (ri_c ri_put (ri_c ri_al (ri_c ri_get (ri_c ri_al (ri_c ri_get (ri_c ri_aald (ri_c ri_ci (ri_c ri_al (ri_c ri_get (ri_c ri_get (ri_c ri_ci (ri_c ri_ci (ri_c ri_cpy (ri_c ri_al (ri_c ri_dup (ri_c ri_get (ri_c ri_ci (ri_c ri_b2 (ri_c ri_put (ri_c ri_al (ri_c ri_get (ri_c ri_al (ri_c ri_get (ri_c ri_cV (ri_c ri_put (ri_c ri_al (ri_c ri_get (ri_c ri_iret (ri_n))))))))))))))))))))))))))))))))))))))))))
set_option maxRecDepth 100000 in
theorem ri_X11_sheet : pm_RiL (pm_PP 205) := ri_c ri_il (ri_c ri_zlt (ri_c ri_il (ri_c ri_al (ri_c ri_get (ri_c ri_get (ri_c ri_clt (ri_c ri_ci (ri_c ri_iret (ri_c ri_il (ri_c ri_tsw (ri_c ri_al (ri_c ri_get (ri_c ri_get (ri_c ri_il (ri_c ri_iald (ri_c ri_iret (ri_c ri_al (ri_c ri_get (ri_c ri_get (ri_c ri_il (ri_c ri_iald (ri_c ri_iret (ri_c ri_al (ri_c ri_get (ri_c ri_get (ri_c ri_il (ri_c ri_iald (ri_c ri_iret (ri_c ri_al (ri_c ri_get (ri_c ri_get (ri_c ri_il (ri_c ri_iald (ri_c ri_iret (ri_c ri_ci (ri_c ri_iret (ri_n)))))))))))))))))))))))))))))))))))))
set_option maxRecDepth 100000 in
theorem ri_X11_left : pm_RiL (pm_PP 207) := ri_c ri_al (ri_c ri_get (ri_c ri_get (ri_c ri_zne (ri_c ri_ci (ri_c ri_goto (ri_c ri_al (ri_c ri_get (ri_c ri_cV (ri_c ri_iret (ri_n))))))))))
set_option maxRecDepth 100000 in
theorem ri_X11_wins : pm_RiL (pm_PP 212) := ri_c ri_al (ri_c ri_il (ri_c ri_cV (ri_c ri_zeq (ri_c ri_il (ri_c ri_ci (ri_c ri_clt (ri_c ri_il (ri_c ri_ci (ri_c ri_cgt (ri_c ri_al (ri_c ri_get (ri_c ri_cV (ri_c ri_ci (ri_c ri_cle (ri_c ri_ci (ri_c ri_iret (ri_c ri_al (ri_c ri_get (ri_c ri_al (ri_c ri_get (ri_c ri_ci (ri_c ri_il (ri_c ri_b2 (ri_c ri_ci (ri_c ri_cV (ri_c ri_al (ri_c ri_get (ri_c ri_il (ri_c ri_il (ri_c ri_cV (ri_c ri_iret (ri_n))))))))))))))))))))))))))))))))
set_option maxRecDepth 100000 in
theorem ri_X11_mean : pm_RiL (pm_PP 225) := ri_c ri_al (ri_c ri_il (ri_c ri_cV (ri_c ri_zeq (ri_c ri_al (ri_c ri_get (ri_c ri_cV (ri_c ri_ci (ri_c ri_cle (ri_c ri_ci (ri_c ri_iret (ri_c ri_al (ri_c ri_get (ri_c ri_al (ri_c ri_get (ri_c ri_ci (ri_c ri_il (ri_c ri_b2 (ri_c ri_ci (ri_c ri_cV (ri_c ri_al (ri_c ri_get (ri_c ri_il (ri_c ri_cV (ri_c ri_iret (ri_n)))))))))))))))))))))))))
set_option maxRecDepth 100000 in
theorem ri_X11_advice : pm_RiL (pm_PP 228) := ri_c ri_al (ri_c ri_il (ri_c ri_cV (ri_c ri_zeq (ri_c ri_il (ri_c ri_cS (ri_c ri_zne (ri_c ri_al (ri_c ri_get (ri_c ri_cV (ri_c ri_ci (ri_c ri_cle (ri_c ri_ci (ri_c ri_iret (ri_c ri_al (ri_c ri_get (ri_c ri_il (ri_c ri_cV (ri_c ri_is (ri_c ri_ci (ri_c ri_il (ri_c ri_ci (ri_c ri_b2 (ri_c ri_ci (ri_c ri_b2 (ri_c ri_min (ri_c ri_is (ri_c ri_ci (ri_c ri_is (ri_c ri_ci (ri_c ri_is (ri_c ri_il (ri_c ri_is (ri_c (ri_kl ri_il) (ri_c ri_il (ri_c ri_cgt (ri_c ri_al (ri_c ri_get (ri_c ri_al (ri_c ri_get (ri_c ri_cV (ri_c ri_al (ri_c ri_get (ri_c ri_il (ri_c ri_il (ri_c ri_cV (ri_c ri_al (ri_c ri_get (ri_c ri_al (ri_c ri_get (ri_c ri_ci (ri_c ri_il (ri_c ri_b2 (ri_c ri_ci (ri_c ri_cV (ri_c ri_al (ri_c ri_get (ri_c ri_il (ri_c ri_cV (ri_c ri_is (ri_c ri_il (ri_c ri_ci (ri_c ri_ceq (ri_c ri_il (ri_c ri_il (ri_c ri_cle (ri_c ri_il (ri_c ri_is (ri_c ri_il (ri_c ri_is (ri_c ri_inc (ri_c ri_goto (ri_c ri_il (ri_c ri_zne (ri_c ri_il (ri_c ri_goto (ri_c ri_il (ri_c ri_iret (ri_n))))))))))))))))))))))))))))))))))))))))))))))))))))))))))))))))))))))))))))))
set_option maxRecDepth 100000 in
theorem ri_X11_rests : pm_RiL (pm_PP 231) := ri_c ri_al (ri_c ri_get (ri_c ri_al (ri_c ri_get (ri_c ri_cV (ri_c ri_zne (ri_c ri_ci (ri_c ri_iret (ri_c ri_ci (ri_c ri_is (ri_c (ri_kl ri_il) (ri_c ri_al (ri_c ri_get (ri_c ri_cV (ri_c ri_cge (ri_c ri_al (ri_c ri_get (ri_c ri_al (ri_c ri_get (ri_c ri_cV (ri_c ri_al (ri_c ri_get (ri_c ri_il (ri_c ri_al (ri_c ri_get (ri_c ri_cV (ri_c ri_al (ri_c ri_get (ri_c ri_al (ri_c ri_get (ri_c ri_al (ri_c ri_get (ri_c ri_cV (ri_c ri_ci (ri_c ri_cV (ri_c ri_al (ri_c ri_get (ri_c ri_il (ri_c ri_al (ri_c ri_get (ri_c ri_cV (ri_c ri_inc (ri_c ri_goto (ri_c ri_al (ri_c ri_get (ri_c ri_il (ri_c ri_cV (ri_c ri_iret (ri_n))))))))))))))))))))))))))))))))))))))))))))))))
set_option maxRecDepth 100000 in
theorem ri_X11_alone : pm_RiL (pm_PP 249) := ri_c ri_al (ri_c ri_il (ri_c ri_cV (ri_c ri_zeq (ri_c ri_il (ri_c ri_cS (ri_c ri_zeq (ri_c ri_ci (ri_c ri_iret (ri_c ri_al (ri_c ri_get (ri_c ri_al (ri_c ri_get (ri_c ri_il (ri_c ri_cV (ri_c ri_il (ri_c ri_zne (ri_c ri_al (ri_c ri_get (ri_c ri_get (ri_c ri_goto (ri_c ri_al (ri_c ri_get (ri_c ri_get (ri_c ri_iret (ri_n)))))))))))))))))))))))))
set_option maxRecDepth 100000 in
theorem ri_X11_empty : pm_RiL (pm_PP 259) := ri_c ri_al (ri_c ri_il (ri_c ri_cV (ri_c ri_zeq (ri_c ri_al (ri_c ri_get (ri_c ri_al (ri_c ri_get (ri_c ri_il (ri_c ri_cV (ri_c ri_goto (ri_c ri_ci (ri_c ri_iret (ri_n)))))))))))))
set_option maxRecDepth 100000 in
theorem ri_X11_needs : pm_RiL (pm_PP 262) := ri_c ri_al (ri_c ri_il (ri_c ri_cV (ri_c ri_zeq (ri_c ri_al (ri_c ri_get (ri_c ri_cV (ri_c ri_ci (ri_c ri_cne (ri_c ri_il (ri_c ri_ci (ri_c ri_clt (ri_c ri_il (ri_c ri_ci (ri_c ri_cle (ri_c ri_ci (ri_c ri_iret (ri_c ri_al (ri_c ri_get (ri_c ri_il (ri_c ri_cV (ri_c ri_is (ri_c (ri_kl ri_il) (ri_c ri_ci (ri_c ri_cgt (ri_c ri_al (ri_c ri_get (ri_c ri_al (ri_c ri_get (ri_c ri_cV (ri_c ri_al (ri_c ri_get (ri_c ri_il (ri_c ri_il (ri_c ri_cV (ri_c ri_al (ri_c ri_get (ri_c ri_il (ri_c ri_ci (ri_c ri_cV (ri_c ri_pop (ri_c ri_al (ri_c ri_get (ri_c ri_il (ri_c ri_cV (ri_c ri_il (ri_c ri_cgt (ri_c ri_il (ri_c ri_iret (ri_c ri_inc (ri_c ri_goto (ri_c ri_ci (ri_c ri_iret (ri_n)))))))))))))))))))))))))))))))))))))))))))))))))))))
set_option maxRecDepth 100000 in
theorem ri_X11_waits : pm_RiL (pm_PP 264) := ri_c ri_al (ri_c ri_il (ri_c ri_cV (ri_c ri_zne (ri_c ri_ci (ri_c ri_iret (ri_c ri_al (ri_c ri_get (ri_c ri_al (ri_c ri_get (ri_c ri_cV (ri_c ri_ci (ri_c ri_is (ri_c ri_ci (ri_c ri_is (ri_c (ri_kl ri_il) (ri_c ri_ci (ri_c ri_cge (ri_c ri_al (ri_c ri_get (ri_c ri_cV (ri_c ri_is (ri_c ri_il (ri_c ri_il (ri_c ri_ceq (ri_c ri_il (ri_c ri_ci (ri_c ri_cne (ri_c ri_goto (ri_c ri_al (ri_c ri_get (ri_c ri_il (ri_c ri_ci (ri_c ri_cV (ri_c ri_pop (ri_c ri_inc (ri_c ri_inc (ri_c ri_goto (ri_c ri_il (ri_c ri_iret (ri_n))))))))))))))))))))))))))))))))))))))))
set_option maxRecDepth 100000 in
theorem ri_X11_colder : pm_RiL (pm_PP 266) := ri_c ri_al (ri_c ri_il (ri_c ri_cV (ri_c ri_zeq (ri_c ri_il (ri_c ri_zlt (ri_c ri_il (ri_c ri_ci (ri_c ri_cle (ri_c ri_ci (ri_c ri_iret (ri_c ri_al (ri_c ri_get (ri_c ri_ci (ri_c ri_il (ri_c ri_cV (ri_c ri_is (ri_c ri_al (ri_c ri_get (ri_c ri_al (ri_c ri_get (ri_c ri_il (ri_c ri_cV (ri_c ri_al (ri_c ri_get (ri_c ri_al (ri_c ri_get (ri_c ri_il (ri_c ri_cV (ri_c ri_is (ri_c ri_al (ri_c ri_get (ri_c ri_dup (ri_c ri_get (ri_c ri_il (ri_c ri_b2 (ri_c ri_put (ri_c ri_il (ri_c ri_al (ri_c ri_get (ri_c ri_al (ri_c ri_get (ri_c ri_il (ri_c ri_cV (ri_c ri_b2 (ri_c ri_iret (ri_n))))))))))))))))))))))))))))))))))))))))))))))
set_option maxRecDepth 100000 in
theorem ri_X11_much : pm_RiL (pm_PP 268) := ri_c ri_al (ri_c ri_il (ri_c ri_cV (ri_c ri_zeq (ri_c ri_il (ri_c ri_cS (ri_c ri_zne (ri_c ri_il (ri_c ri_zlt (ri_c ri_il (ri_c ri_ci (ri_c ri_cgt (ri_c ri_il (ri_c ri_zlt (ri_c ri_il (ri_c ri_ci (ri_c ri_cle (ri_c ri_ci (ri_c ri_iret (ri_c ri_ci (ri_c ri_al (ri_c ri_get (ri_c ri_il (ri_c ri_il (ri_c ri_cV (ri_c ri_il (ri_c ri_b2 (ri_c ri_max (ri_c ri_is (ri_c ri_ci (ri_c ri_al (ri_c ri_get (ri_c ri_il (ri_c ri_il (ri_c ri_cV (ri_c ri_il (ri_c ri_b2 (ri_c ri_min (ri_c ri_is (ri_c ri_il (ri_c ri_zne (ri_c ri_ci (ri_c ri_il (ri_c ri_il (ri_c ri_b2 (ri_c ri_ci (ri_c ri_b2 (ri_c ri_max (ri_c ri_iret (ri_c ri_il (ri_c ri_il (ri_c ri_cge (ri_c ri_ci (ri_c ri_iret (ri_c ri_il (ri_c ri_ci (ri_c ri_cne (ri_c ri_il (ri_c ri_goto (ri_c ri_il (ri_c ri_iret (ri_n)))))))))))))))))))))))))))))))))))))))))))))))))))))))))))))
set_option maxRecDepth 100000 in
theorem ri_X11_lose : pm_RiL (pm_PP 275) := ri_c ri_al (ri_c ri_il (ri_c ri_cV (ri_c ri_zeq (ri_c ri_al (ri_c ri_get (ri_c ri_il (ri_c ri_cV (ri_c ri_zne (ri_c ri_ci (ri_c ri_iret (ri_c ri_al (ri_c ri_get (ri_c ri_ci (ri_c ri_il (ri_c ri_cV (ri_c ri_is (ri_c ri_il (ri_c ri_ci (ri_c ri_b2 (ri_c ri_is (ri_c ri_ci (ri_c ri_is (ri_c (ri_kl ri_il) (ri_c ri_al (ri_c ri_get (ri_c ri_get (ri_c ri_cge (ri_c ri_il (ri_c ri_il (ri_c ri_ceq (ri_c ri_al (ri_c ri_get (ri_c ri_il (ri_c ri_cV (ri_c ri_al (ri_c ri_get (ri_c ri_il (ri_c ri_cV (ri_c ri_cne (ri_c ri_il (ri_c ri_al (ri_c ri_get (ri_c ri_ci (ri_c ri_il (ri_c ri_cV (ri_c ri_min (ri_c ri_is (ri_c ri_inc (ri_c ri_goto (ri_c ri_ci (ri_c ri_il (ri_c ri_il (ri_c ri_b2 (ri_c ri_ci (ri_c ri_b2 (ri_c ri_max (ri_c ri_is (ri_c ri_il (ri_c ri_ci (ri_c ri_cgt (ri_c ri_il (ri_c ri_il (ri_c ri_b2 (ri_c ri_ci (ri_c ri_cge (ri_c ri_ci (ri_c ri_goto (ri_c ri_il (ri_c ri_iret (ri_n))))))))))))))))))))))))))))))))))))))))))))))))))))))))))))))))))))))
set_option maxRecDepth 100000 in
theorem ri_X11_judge : pm_RiL (pm_PP 277) := ri_c ri_al (ri_c ri_get (ri_c ri_get (ri_c ri_zeq (ri_c ri_il (ri_c ri_zlt (ri_c ri_il (ri_c ri_ci (ri_c ri_cgt (ri_c ri_il (ri_c ri_cS (ri_c ri_zeq (ri_c ri_ci (ri_c ri_iret (ri_c ri_il (ri_c ri_zne (ri_c ri_al (ri_c ri_get (ri_c ri_il (ri_c ri_cV (ri_c ri_goto (ri_c ri_al (ri_c ri_get (ri_c ri_il (ri_c ri_cV (ri_c ri_iret (ri_n))))))))))))))))))))))))))
set_option maxRecDepth 100000 in
theorem ri_X11_calls : pm_RiL (pm_PP 281) := ri_c ri_il (ri_c ri_ci (ri_c ri_clt (ri_c ri_il (ri_c ri_ci (ri_c ri_cgt (ri_c ri_il (ri_c ri_ci (ri_c ri_clt (ri_c ri_il (ri_c ri_ci (ri_c ri_cgt (ri_c ri_al (ri_c ri_get (ri_c ri_get (ri_c ri_ci (ri_c ri_clt (ri_c ri_al (ri_c ri_get (ri_c ri_get (ri_c ri_ci (ri_c ri_cgt (ri_c ri_il (ri_c ri_al (ri_c ri_get (ri_c ri_get (ri_c ri_cS (ri_c ri_zne (ri_c ri_ci (ri_c ri_iret (ri_c ri_al (ri_c ri_il (ri_c ri_il (ri_c ri_il (ri_c ri_cV (ri_c ri_iret (ri_n))))))))))))))))))))))))))))))))))))
set_option maxRecDepth 100000 in
theorem ri_X11_other : pm_RiL (pm_PP 291) := ri_c ri_al (ri_c ri_get (ri_c ri_get (ri_c ri_zeq (ri_c ri_il (ri_c ri_zlt (ri_c ri_il (ri_c ri_ci (ri_c ri_cgt (ri_c ri_il (ri_c ri_cS (ri_c ri_zeq (ri_c ri_ci (ri_c ri_iret (ri_c ri_ci (ri_c ri_is (ri_c ri_ci (ri_c ri_is (ri_c (ri_kl ri_il) (ri_c ri_al (ri_c ri_get (ri_c ri_get (ri_c ri_cge (ri_c ri_al (ri_c ri_il (ri_c ri_il (ri_c ri_cV (ri_c ri_al (ri_c ri_il (ri_c ri_il (ri_c ri_cV (ri_c ri_cle (ri_c ri_il (ri_c ri_goto (ri_c ri_il (ri_c ri_is (ri_c ri_inc (ri_c ri_goto (ri_c ri_il (ri_c ri_zne (ri_c ri_il (ri_c ri_goto (ri_c ri_al (ri_c ri_il (ri_c ri_il (ri_c ri_cV (ri_c ri_iret (ri_n)))))))))))))))))))))))))))))))))))))))))))))))
set_option maxRecDepth 100000 in
theorem ri_X11_ready : pm_RiL (pm_PP 299) := ri_c ri_al (ri_c ri_il (ri_c ri_cV (ri_c ri_zeq (ri_c ri_il (ri_c ri_cS (ri_c ri_zeq (ri_c ri_ci (ri_c ri_iret (ri_c ri_al (ri_c ri_get (ri_c ri_ci (ri_c ri_il (ri_c ri_cV (ri_c ri_is (ri_c ri_al (ri_c ri_get (ri_c ri_al (ri_c ri_get (ri_c ri_il (ri_c ri_cV (ri_c ri_ci (ri_c ri_is (ri_c ri_al (ri_c ri_get (ri_c ri_al (ri_c ri_get (ri_c ri_il (ri_c ri_cV (ri_c ri_is (ri_c ri_ci (ri_c ri_is (ri_c (ri_kl ri_il) (ri_c ri_ci (ri_c ri_cgt (ri_c ri_al (ri_c ri_get (ri_c ri_cV (ri_c ri_al (ri_c ri_get (ri_c ri_al (ri_c ri_get (ri_c ri_il (ri_c ri_cV (ri_c ri_is (ri_c ri_il (ri_c ri_il (ri_c ri_cle (ri_c ri_il (ri_c ri_is (ri_c ri_il (ri_c ri_is (ri_c ri_inc (ri_c ri_goto (ri_c ri_il (ri_c ri_zne (ri_c ri_il (ri_c ri_goto (ri_c ri_il (ri_c ri_iret (ri_n))))))))))))))))))))))))))))))))))))))))))))))))))))))))))))
set_option maxRecDepth 100000 in
theorem ri_X11_yields : pm_RiL (pm_PP 302) := ri_c ri_al (ri_c ri_il (ri_c ri_cV (ri_c ri_zeq (ri_c ri_al (ri_c ri_il (ri_c ri_cV (ri_c ri_zeq (ri_c ri_il (ri_c ri_il (ri_c ri_cne (ri_c ri_ci (ri_c ri_iret (ri_c ri_al (ri_c ri_get (ri_c ri_al (ri_c ri_get (ri_c ri_cV (ri_c ri_al (ri_c ri_get (ri_c ri_il (ri_c ri_cV (ri_c ri_is (ri_c (ri_kl ri_il) (ri_c ri_ci (ri_c ri_cgt (ri_c ri_al (ri_c ri_get (ri_c ri_il (ri_c ri_il (ri_c ri_cV (ri_c ri_al (ri_c ri_get (ri_c ri_il (ri_c ri_il (ri_c ri_cV (ri_c ri_zeq (ri_c ri_il (ri_c ri_iret (ri_c ri_inc (ri_c ri_goto (ri_c ri_ci (ri_c ri_iret (ri_n)))))))))))))))))))))))))))))))))))))))))))
set_option maxRecDepth 100000 in
theorem ri_X11_goods : pm_RiL (pm_PP 304) := ri_c ri_al (ri_c ri_il (ri_c ri_cV (ri_c ri_zeq (ri_c ri_il (ri_c ri_cS (ri_c ri_zne (ri_c ri_al (ri_c ri_get (ri_c ri_il (ri_c ri_il (ri_c ri_cV (ri_c ri_goto (ri_c ri_ci (ri_c ri_iret (ri_n)))))))))))))))
set_option maxRecDepth 100000 in
theorem ri_X11_hopes : pm_RiL (pm_PP 306) := ri_c ri_al (ri_c ri_get (ri_c ri_get (ri_c ri_zeq (ri_c ri_al (ri_c ri_get (ri_c ri_cV (ri_c ri_ci (ri_c ri_cle (ri_c ri_ci (ri_c ri_iret (ri_c ri_al (ri_c ri_get (ri_c ri_al (ri_c ri_get (ri_c ri_ci (ri_c ri_al (ri_c ri_get (ri_c ri_get (ri_c ri_b2 (ri_c ri_ci (ri_c ri_b2 (ri_c ri_ci (ri_c ri_cV (ri_c ri_ci (ri_c ri_is (ri_c ri_ci (ri_c ri_is (ri_c (ri_kl ri_il) (ri_c ri_al (ri_c ri_get (ri_c ri_get (ri_c ri_cge (ri_c ri_il (ri_c ri_al (ri_c ri_get (ri_c ri_il (ri_c ri_ci (ri_c ri_cV (ri_c ri_zle (ri_c ri_ci (ri_c ri_il (ri_c ri_b2 (ri_c ri_goto (ri_c ri_ci (ri_c ri_b2 (ri_c ri_is (ri_c ri_inc (ri_c ri_goto (ri_c ri_il (ri_c ri_iret (ri_n)))))))))))))))))))))))))))))))))))))))))))))))))))
set_option maxRecDepth 100000 in
theorem ri_X11_kilos : pm_RiL (pm_PP 308) := ri_c ri_al (ri_c ri_il (ri_c ri_cV (ri_c ri_zeq (ri_c ri_il (ri_c ri_cS (ri_c ri_zne (ri_c ri_al (ri_c ri_get (ri_c ri_il (ri_c ri_il (ri_c ri_cV (ri_c ri_goto (ri_c ri_ci (ri_c ri_iret (ri_n)))))))))))))))
set_option maxRecDepth 100000 in
theorem ri_X11_heaviest : pm_RiL (pm_PP 310) := ri_c ri_il (ri_c ri_cS (ri_c ri_zne (ri_c ri_il (ri_c ri_cS (ri_c ri_zeq (ri_c ri_ci (ri_c ri_iret (ri_c ri_al (ri_c ri_get (ri_c ri_il (ri_c ri_cV (ri_c ri_is (ri_c ri_il (ri_c ri_ci (ri_c ri_cne (ri_c ri_ci (ri_c ri_iret (ri_c ri_il (ri_c ri_zne (ri_c ri_al (ri_c ri_get (ri_c ri_get (ri_c ri_il (ri_c ri_iald (ri_c ri_goto (ri_c ri_al (ri_c ri_get (ri_c ri_get (ri_c ri_il (ri_c ri_iald (ri_c ri_iret (ri_n))))))))))))))))))))))))))))))))
set_option maxRecDepth 100000 in
theorem ri_X11_idle : pm_RiL (pm_PP 313) := ri_c ri_al (ri_c ri_il (ri_c ri_cV (ri_c ri_zeq (ri_c ri_il (ri_c ri_cS (ri_c ri_zne (ri_c ri_al (ri_c ri_get (ri_c ri_il (ri_c ri_il (ri_c ri_cV (ri_c ri_goto (ri_c ri_ci (ri_c ri_iret (ri_n)))))))))))))))
set_option maxRecDepth 100000 in
theorem ri_X11_image : pm_RiL (pm_PP 316) := ri_c ri_al (ri_c ri_get (ri_c ri_get (ri_c ri_zne (ri_c ri_ci (ri_c ri_iret (ri_c ri_al (ri_c ri_get (ri_c ri_al (ri_c ri_get (ri_c ri_cV (ri_c ri_al (ri_c ri_get (ri_c ri_al (ri_c ri_get (ri_c ri_cV (ri_c ri_al (ri_c ri_ci (ri_c ri_put (ri_c ri_al (ri_c ri_get (ri_c ri_cV (ri_c ri_iret (ri_n)))))))))))))))))))))))
set_option maxRecDepth 100000 in
theorem ri_X11_back : pm_RiL (pm_PP 319) := ri_c ri_al (ri_c ri_get (ri_c ri_zne (ri_c ri_ci (ri_c ri_iret (ri_c ri_al (ri_c ri_get (ri_c ri_al (ri_c ri_get (ri_c ri_cV (ri_c ri_al (ri_c ri_get (ri_c ri_al (ri_c ri_get (ri_c ri_cV (ri_c ri_al (ri_c ri_ci (ri_c ri_put (ri_c ri_al (ri_c ri_get (ri_c ri_cV (ri_c ri_iret (ri_n))))))))))))))))))))))
set_option maxRecDepth 100000 in
theorem ri_X11_count : pm_RiL (pm_PP 321) := ri_c ri_il (ri_c ri_tsw (ri_c ri_al (ri_c ri_get (ri_c ri_get (ri_c ri_iret (ri_c ri_al (ri_c ri_get (ri_c ri_get (ri_c ri_iret (ri_c ri_al (ri_c ri_get (ri_c ri_get (ri_c ri_iret (ri_c ri_al (ri_c ri_get (ri_c ri_cV (ri_c ri_iret (ri_c ri_al (ri_c ri_get (ri_c ri_cV (ri_c ri_iret (ri_c ri_al (ri_c ri_get (ri_c ri_cV (ri_c ri_iret (ri_c ri_al (ri_c ri_get (ri_c ri_get (ri_c ri_iret (ri_c ri_al (ri_c ri_get (ri_c ri_get (ri_c ri_iret (ri_c ri_al (ri_c ri_get (ri_c ri_iret (ri_c ri_al (ri_c ri_get (ri_c ri_cV (ri_c ri_iret (ri_c ri_al (ri_c ri_get (ri_c ri_cV (ri_c ri_iret (ri_c ri_al (ri_c ri_get (ri_c ri_iret (ri_c ri_ci (ri_c ri_iret (ri_n))))))))))))))))))))))))))))))))))))))))))))))))))

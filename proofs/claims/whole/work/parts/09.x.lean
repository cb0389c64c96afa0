/-! ===== the machine of numbers, step by step, as equations ===== -/
def pm_ck (i : Int32) (n : Nat) (t : Option pm_R) : Option pm_R := if i < 0 ∨ n ≤ i.toNatClampNeg then none else t
theorem pm_ck_ok {i : Int32} {n : Nat} (h : vp_in i n) (t : Option pm_R) : pm_ck i n t = t := if_neg h
theorem pm_ck_nI {k n : Nat} (h : k < n) (hn : n < 2 ^ 31) (t : Option pm_R) : pm_ck (nI k) n t = t := pm_ck_ok (vp_in_nI h hn) t
def pm_cl (o : Option pm_R) (k : pm_R → Option pm_R) : Option pm_R := match o with
  | some r => k r
  | none => none
theorem pm_cl_some (r : pm_R) (k : pm_R → Option pm_R) : pm_cl (some r) k = k r := rfl
def pm_hx (P : List (Nat × pm_F)) (pc : Nat) (L0 : List Value) (f : pm_F) (L : List Value) : Prop := ∀ (ev : pm_Ev) (st : List Value) (σ : pm_H), pm_stp ev P (pc, L0, st, σ) = f ev (pc, L, st, σ)
theorem hx_p {P : List (Nat × pm_F)} {pc : Nat} {f : pm_F} {L : List Value} (h : pm_at P pc = some f) : pm_hx P pc L f L := by
  intro ev st σ
  show (match pm_at P pc with
    | none => none
    | some f => f ev (pc, L, st, σ)) = _
  rw [h]
theorem hx_k {P : List (Nat × pm_F)} {pc : Nat} {f : pm_F} {L L' : List Value} {ds : List Nat} (h : pm_at P pc = some (pm_kl ds f)) (e : pm_kill L ds = L') : pm_hx P pc L f L' := by
  subst e
  intro ev st σ
  show (match pm_at P pc with
    | none => none
    | some f => f ev (pc, L, st, σ)) = _
  rw [h]
  rfl
section PX
variable {ev : pm_Ev} {P : List (Nat × pm_F)} {pc : Nat} {L0 L st : List Value} {σ : pm_H}
theorem pm_x {f : pm_F} (h : pm_hx P pc L0 f L) {g : pm_S} (ho : f ev (pc, L, st, σ) = some (.inl g)) : pm_run ev P (pc, L0, st, σ) = pm_run ev P g := by
  rw [pm_run_eq, h ev st σ, ho]
  rfl
theorem pm_xr {f : pm_F} (h : pm_hx P pc L0 f L) {r : pm_R} (ho : f ev (pc, L, st, σ) = some (.inr r)) : pm_run ev P (pc, L0, st, σ) = some r := by
  rw [pm_run_eq, h ev st σ, ho]
  rfl
theorem pm_xn {f : pm_F} (h : pm_hx P pc L0 f L) (ho : f ev (pc, L, st, σ) = none) : pm_run ev P (pc, L0, st, σ) = none := by
  rw [pm_run_eq, h ev st σ, ho]
  rfl
theorem x_none (h : pm_at P pc = none) : pm_run ev P (pc, L, st, σ) = none := by
  rw [pm_run_eq]
  show pm_k (match pm_at P pc with
    | none => none
    | some f => f ev (pc, L, st, σ)) _ = _
  rw [h]
  rfl
theorem x_ci {v : Int32} {n : Nat} (h : pm_hx P pc L0 (pm_ci v n) L) : pm_run ev P (pc, L0, st, σ) = pm_run ev P (pc + n, L, .int v :: st, σ) := pm_x h rfl
theorem x_cj {v : Int64} {n : Nat} (h : pm_hx P pc L0 (pm_cj v n) L) : pm_run ev P (pc, L0, st, σ) = pm_run ev P (pc + n, L, .long v :: st, σ) := pm_x h rfl
theorem x_cr {v n : Nat} (h : pm_hx P pc L0 (pm_cr v n) L) : pm_run ev P (pc, L0, st, σ) = pm_run ev P (pc + n, L, .ref v :: st, σ) := pm_x h rfl
theorem x_il {i n : Nat} {x : Int32} (h : pm_hx P pc L0 (pm_il i n) L) (hL : L[i]? = some (.int x)) : pm_run ev P (pc, L0, st, σ) = pm_run ev P (pc + n, L, .int x :: st, σ) := pm_x h (by show (match L[i]? with | some (.int x) => _ | _ => _) = _; rw [hL])
theorem x_ll {i n : Nat} {x : Int64} (h : pm_hx P pc L0 (pm_ll i n) L) (hL : L[i]? = some (.long x)) : pm_run ev P (pc, L0, st, σ) = pm_run ev P (pc + n, L, .long x :: st, σ) := pm_x h (by show (match L[i]? with | some (.long x) => _ | _ => _) = _; rw [hL])
theorem x_al {i n x : Nat} (h : pm_hx P pc L0 (pm_al i n) L) (hL : L[i]? = some (.ref x)) : pm_run ev P (pc, L0, st, σ) = pm_run ev P (pc + n, L, .ref x :: st, σ) := pm_x h (by show (match L[i]? with | some (.ref x) => _ | _ => _) = _; rw [hL])
theorem x_is {i n : Nat} {x : Int32} {L' : List Value} (h : pm_hx P pc L0 (pm_is i n) L) (hi : i < L.length) (hL : pm_s1 L i (.int x) = L') : pm_run ev P (pc, L0, .int x :: st, σ) = pm_run ev P (pc + n, L', st, σ) := by
  subst hL
  exact pm_x h (if_pos hi)
theorem x_az {i n x : Nat} {L' : List Value} (h : pm_hx P pc L0 (pm_az i n) L) (hi : i < L.length) (hL : pm_s1 L i (.ref x) = L') : pm_run ev P (pc, L0, .ref x :: st, σ) = pm_run ev P (pc + n, L', st, σ) := by
  subst hL
  exact pm_x h (if_pos hi)
theorem x_lz {i n : Nat} {x : Int64} {L' : List Value} (h : pm_hx P pc L0 (pm_lz i n) L) (hi : i + 1 < L.length) (hL : pm_s2 L i (.long x) = L') : pm_run ev P (pc, L0, .long x :: st, σ) = pm_run ev P (pc + n, L', st, σ) := by
  subst hL
  exact pm_x h (if_pos hi)
theorem x_inc {i : Nat} {x v : Int32} {L' : List Value} (h : pm_hx P pc L0 (pm_inc i v) L) (hx : L[i]? = some (.int x)) (hL : pm_s1 L i (.int (x + v)) = L') : pm_run ev P (pc, L0, st, σ) = pm_run ev P (pc + 3, L', st, σ) := by
  subst hL
  exact pm_x h (by show (match L[i]? with | some (.int x) => _ | _ => _) = _; rw [hx])
theorem x_b2 {op : Int32 → Int32 → Int32} {x y : Int32} (h : pm_hx P pc L0 (pm_b2 op) L) : pm_run ev P (pc, L0, .int y :: .int x :: st, σ) = pm_run ev P (pc + 1, L, .int (op x y) :: st, σ) := pm_x h rfl
theorem x_j2 {op : Int64 → Int64 → Int64} {x y : Int64} (h : pm_hx P pc L0 (pm_j2 op) L) : pm_run ev P (pc, L0, .long y :: .long x :: st, σ) = pm_run ev P (pc + 1, L, .long (op x y) :: st, σ) := pm_x h rfl
theorem x_js {op : Int64 → Int32 → Int64} {x : Int64} {y : Int32} (h : pm_hx P pc L0 (pm_js op) L) : pm_run ev P (pc, L0, .int y :: .long x :: st, σ) = pm_run ev P (pc + 1, L, .long (op x y) :: st, σ) := pm_x h rfl
theorem x_u1 {op : Int32 → Int32} {x : Int32} (h : pm_hx P pc L0 (pm_u1 op) L) : pm_run ev P (pc, L0, .int x :: st, σ) = pm_run ev P (pc + 1, L, .int (op x) :: st, σ) := pm_x h rfl
theorem x_i2l {x : Int32} (h : pm_hx P pc L0 pm_i2l L) : pm_run ev P (pc, L0, .int x :: st, σ) = pm_run ev P (pc + 1, L, .long x.toInt64 :: st, σ) := pm_x h rfl
theorem x_l2i {x : Int64} (h : pm_hx P pc L0 pm_l2i L) : pm_run ev P (pc, L0, .long x :: st, σ) = pm_run ev P (pc + 1, L, .int x.toInt32 :: st, σ) := pm_x h rfl
theorem x_lcmp {x y : Int64} (h : pm_hx P pc L0 pm_lcmp L) : pm_run ev P (pc, L0, .long y :: .long x :: st, σ) = pm_run ev P (pc + 1, L, .int (lg_cmp x y) :: st, σ) := pm_x h rfl
theorem x_d2 {op : Int32 → Int32 → Int32} {x y : Int32} (h : pm_hx P pc L0 (pm_d2 op) L) : pm_run ev P (pc, L0, .int y :: .int x :: st, σ) = if y = 0 then none else pm_run ev P (pc + 1, L, .int (op x y) :: st, σ) := by
  by_cases hy : y = 0
  · rw [if_pos hy]
    exact pm_xn h (if_pos hy)
  · rw [if_neg hy]
    exact pm_x h (if_neg hy)
theorem x_d2n {op : Int32 → Int32 → Int32} {x y : Int32} (h : pm_hx P pc L0 (pm_d2 op) L) (hy : ¬ y = 0) : pm_run ev P (pc, L0, .int y :: .int x :: st, σ) = pm_run ev P (pc + 1, L, .int (op x y) :: st, σ) := pm_x h (if_neg hy)
theorem x_e2 {op : Int64 → Int64 → Int64} {x y : Int64} (h : pm_hx P pc L0 (pm_e2 op) L) : pm_run ev P (pc, L0, .long y :: .long x :: st, σ) = if y = 0 then none else pm_run ev P (pc + 1, L, .long (op x y) :: st, σ) := by
  by_cases hy : y = 0
  · rw [if_pos hy]
    exact pm_xn h (if_pos hy)
  · rw [if_neg hy]
    exact pm_x h (if_neg hy)
theorem x_e2n {op : Int64 → Int64 → Int64} {x y : Int64} (h : pm_hx P pc L0 (pm_e2 op) L) (hy : ¬ y = 0) : pm_run ev P (pc, L0, .long y :: .long x :: st, σ) = pm_run ev P (pc + 1, L, .long (op x y) :: st, σ) := pm_x h (if_neg hy)
theorem x_dup {v : Value} (h : pm_hx P pc L0 pm_dup L) (hc : v.category = 1) : pm_run ev P (pc, L0, v :: st, σ) = pm_run ev P (pc + 1, L, v :: v :: st, σ) := pm_x h (if_pos hc)
theorem x_pop {v : Value} (h : pm_hx P pc L0 pm_pop L) (hc : v.category = 1) : pm_run ev P (pc, L0, v :: st, σ) = pm_run ev P (pc + 1, L, st, σ) := pm_x h (if_pos hc)
theorem x_dup2 {v w : Value} (h : pm_hx P pc L0 pm_dup2 L) (hc : v.category = 1 ∧ w.category = 1) : pm_run ev P (pc, L0, v :: w :: st, σ) = pm_run ev P (pc + 1, L, v :: w :: v :: w :: st, σ) := pm_x h (if_pos hc)
theorem x_goto {t : Nat} (h : pm_hx P pc L0 (pm_goto t) L) : pm_run ev P (pc, L0, st, σ) = pm_run ev P (t, L, st, σ) := pm_x h rfl
theorem x_zeq {t : Nat} {x : Int32} (h : pm_hx P pc L0 (pm_zeq t) L) : pm_run ev P (pc, L0, .int x :: st, σ) = if x = 0 then pm_run ev P (t, L, st, σ) else pm_run ev P (pc + 3, L, st, σ) := by
  by_cases hc : x = 0
  · rw [if_pos hc]
    exact pm_x h (if_pos hc)
  · rw [if_neg hc]
    exact pm_x h (if_neg hc)
theorem x_zne {t : Nat} {x : Int32} (h : pm_hx P pc L0 (pm_zne t) L) : pm_run ev P (pc, L0, .int x :: st, σ) = if x = 0 then pm_run ev P (pc + 3, L, st, σ) else pm_run ev P (t, L, st, σ) := by
  by_cases hc : x = 0
  · rw [if_pos hc]
    exact pm_x h (if_pos hc)
  · rw [if_neg hc]
    exact pm_x h (if_neg hc)
theorem x_zlt {t : Nat} {x : Int32} (h : pm_hx P pc L0 (pm_zlt t) L) : pm_run ev P (pc, L0, .int x :: st, σ) = if x < 0 then pm_run ev P (t, L, st, σ) else pm_run ev P (pc + 3, L, st, σ) := by
  by_cases hc : x < 0
  · rw [if_pos hc]
    exact pm_x h (if_pos hc)
  · rw [if_neg hc]
    exact pm_x h (if_neg hc)
theorem x_zge {t : Nat} {x : Int32} (h : pm_hx P pc L0 (pm_zge t) L) : pm_run ev P (pc, L0, .int x :: st, σ) = if x < 0 then pm_run ev P (pc + 3, L, st, σ) else pm_run ev P (t, L, st, σ) := by
  by_cases hc : x < 0
  · rw [if_pos hc]
    exact pm_x h (if_pos hc)
  · rw [if_neg hc]
    exact pm_x h (if_neg hc)
theorem x_zgt {t : Nat} {x : Int32} (h : pm_hx P pc L0 (pm_zgt t) L) : pm_run ev P (pc, L0, .int x :: st, σ) = if 0 < x then pm_run ev P (t, L, st, σ) else pm_run ev P (pc + 3, L, st, σ) := by
  by_cases hc : 0 < x
  · rw [if_pos hc]
    exact pm_x h (if_pos hc)
  · rw [if_neg hc]
    exact pm_x h (if_neg hc)
theorem x_zle {t : Nat} {x : Int32} (h : pm_hx P pc L0 (pm_zle t) L) : pm_run ev P (pc, L0, .int x :: st, σ) = if 0 < x then pm_run ev P (pc + 3, L, st, σ) else pm_run ev P (t, L, st, σ) := by
  by_cases hc : 0 < x
  · rw [if_pos hc]
    exact pm_x h (if_pos hc)
  · rw [if_neg hc]
    exact pm_x h (if_neg hc)
theorem x_ceq {t : Nat} {x y : Int32} (h : pm_hx P pc L0 (pm_ceq t) L) : pm_run ev P (pc, L0, .int y :: .int x :: st, σ) = if x = y then pm_run ev P (t, L, st, σ) else pm_run ev P (pc + 3, L, st, σ) := by
  by_cases hc : x = y
  · rw [if_pos hc]
    exact pm_x h (if_pos hc)
  · rw [if_neg hc]
    exact pm_x h (if_neg hc)
theorem x_cne {t : Nat} {x y : Int32} (h : pm_hx P pc L0 (pm_cne t) L) : pm_run ev P (pc, L0, .int y :: .int x :: st, σ) = if x = y then pm_run ev P (pc + 3, L, st, σ) else pm_run ev P (t, L, st, σ) := by
  by_cases hc : x = y
  · rw [if_pos hc]
    exact pm_x h (if_pos hc)
  · rw [if_neg hc]
    exact pm_x h (if_neg hc)
theorem x_clt {t : Nat} {x y : Int32} (h : pm_hx P pc L0 (pm_clt t) L) : pm_run ev P (pc, L0, .int y :: .int x :: st, σ) = if x < y then pm_run ev P (t, L, st, σ) else pm_run ev P (pc + 3, L, st, σ) := by
  by_cases hc : x < y
  · rw [if_pos hc]
    exact pm_x h (if_pos hc)
  · rw [if_neg hc]
    exact pm_x h (if_neg hc)
theorem x_cge {t : Nat} {x y : Int32} (h : pm_hx P pc L0 (pm_cge t) L) : pm_run ev P (pc, L0, .int y :: .int x :: st, σ) = if x < y then pm_run ev P (pc + 3, L, st, σ) else pm_run ev P (t, L, st, σ) := by
  by_cases hc : x < y
  · rw [if_pos hc]
    exact pm_x h (if_pos hc)
  · rw [if_neg hc]
    exact pm_x h (if_neg hc)
theorem x_cgt {t : Nat} {x y : Int32} (h : pm_hx P pc L0 (pm_cgt t) L) : pm_run ev P (pc, L0, .int y :: .int x :: st, σ) = if y < x then pm_run ev P (t, L, st, σ) else pm_run ev P (pc + 3, L, st, σ) := by
  by_cases hc : y < x
  · rw [if_pos hc]
    exact pm_x h (if_pos hc)
  · rw [if_neg hc]
    exact pm_x h (if_neg hc)
theorem x_cle {t : Nat} {x y : Int32} (h : pm_hx P pc L0 (pm_cle t) L) : pm_run ev P (pc, L0, .int y :: .int x :: st, σ) = if y < x then pm_run ev P (pc + 3, L, st, σ) else pm_run ev P (t, L, st, σ) := by
  by_cases hc : y < x
  · rw [if_pos hc]
    exact pm_x h (if_pos hc)
  · rw [if_neg hc]
    exact pm_x h (if_neg hc)
theorem x_iald {c n b : Nat} {i : Int32} (h : pm_hx P pc L0 pm_iald L) (hk : pm_kd c = .inl (0, n, b)) : pm_run ev P (pc, L0, .int i :: .ref c :: st, σ) = pm_ck i n (pm_run ev P (pc + 1, L, .int (σ.1 c i.toNatClampNeg) :: st, σ)) := by
  unfold pm_ck
  by_cases hc : i < 0 ∨ n ≤ i.toNatClampNeg
  · rw [if_pos hc]
    refine pm_xn h ?_
    simp only [pm_iald, hk]
    exact if_pos hc
  · rw [if_neg hc]
    refine pm_x h ?_
    simp only [pm_iald, hk]
    exact if_neg hc
theorem x_iald5 {c n b : Nat} {i : Int32} (h : pm_hx P pc L0 pm_iald L) (hk : pm_kd c = .inl (5, n, b)) : pm_run ev P (pc, L0, .int i :: .ref c :: st, σ) = pm_ck i n (pm_run ev P (pc + 1, L, .int (pm_ct b i.toNatClampNeg) :: st, σ)) := by
  unfold pm_ck
  by_cases hc : i < 0 ∨ n ≤ i.toNatClampNeg
  · rw [if_pos hc]
    refine pm_xn h ?_
    simp only [pm_iald, hk]
    exact if_pos hc
  · rw [if_neg hc]
    refine pm_x h ?_
    simp only [pm_iald, hk]
    exact if_neg hc
theorem x_bald {c n b : Nat} {i : Int32} (h : pm_hx P pc L0 pm_bald L) (hk : pm_kd c = .inl (1, n, b)) : pm_run ev P (pc, L0, .int i :: .ref c :: st, σ) = pm_ck i n (pm_run ev P (pc + 1, L, .int (σ.1 c i.toNatClampNeg) :: st, σ)) := by
  unfold pm_ck
  by_cases hc : i < 0 ∨ n ≤ i.toNatClampNeg
  · rw [if_pos hc]
    refine pm_xn h ?_
    simp only [pm_bald, hk]
    exact if_pos hc
  · rw [if_neg hc]
    refine pm_x h ?_
    simp only [pm_bald, hk]
    exact if_neg hc
theorem x_bald6 {c n b : Nat} {i : Int32} (h : pm_hx P pc L0 pm_bald L) (hk : pm_kd c = .inl (6, n, b)) : pm_run ev P (pc, L0, .int i :: .ref c :: st, σ) = pm_ck i n (pm_run ev P (pc + 1, L, .int (pm_ct b i.toNatClampNeg) :: st, σ)) := by
  unfold pm_ck
  by_cases hc : i < 0 ∨ n ≤ i.toNatClampNeg
  · rw [if_pos hc]
    refine pm_xn h ?_
    simp only [pm_bald, hk]
    exact if_pos hc
  · rw [if_neg hc]
    refine pm_x h ?_
    simp only [pm_bald, hk]
    exact if_neg hc
theorem x_lald {c n b : Nat} {i : Int32} (h : pm_hx P pc L0 pm_lald L) (hk : pm_kd c = .inl (2, n, b)) : pm_run ev P (pc, L0, .int i :: .ref c :: st, σ) = pm_ck i n (pm_run ev P (pc + 1, L, .long (σ.2 c i.toNatClampNeg) :: st, σ)) := by
  unfold pm_ck
  by_cases hc : i < 0 ∨ n ≤ i.toNatClampNeg
  · rw [if_pos hc]
    refine pm_xn h ?_
    simp only [pm_lald, hk]
    exact if_pos hc
  · rw [if_neg hc]
    refine pm_x h ?_
    simp only [pm_lald, hk]
    exact if_neg hc
theorem x_aald3 {c n b : Nat} {i : Int32} (h : pm_hx P pc L0 pm_aald L) (hk : pm_kd c = .inl (3, n, b)) : pm_run ev P (pc, L0, .int i :: .ref c :: st, σ) = pm_ck i n (pm_run ev P (pc + 1, L, .ref (b + i.toNatClampNeg) :: st, σ)) := by
  unfold pm_ck
  by_cases hc : i < 0 ∨ n ≤ i.toNatClampNeg
  · rw [if_pos hc]
    refine pm_xn h ?_
    simp only [pm_aald, hk]
    exact if_pos hc
  · rw [if_neg hc]
    refine pm_x h ?_
    simp only [pm_aald, hk]
    exact if_neg hc
theorem x_aald4 {c n b : Nat} {i : Int32} (h : pm_hx P pc L0 pm_aald L) (hk : pm_kd c = .inl (4, n, b)) : pm_run ev P (pc, L0, .int i :: .ref c :: st, σ) = pm_ck i n (pm_run ev P (pc + 1, L, .ref (b + 2 * i.toNatClampNeg) :: st, σ)) := by
  unfold pm_ck
  by_cases hc : i < 0 ∨ n ≤ i.toNatClampNeg
  · rw [if_pos hc]
    refine pm_xn h ?_
    simp only [pm_aald, hk]
    exact if_pos hc
  · rw [if_neg hc]
    refine pm_x h ?_
    simp only [pm_aald, hk]
    exact if_neg hc
theorem x_iast {c n b : Nat} {i : Int32} {x : Int32} (h : pm_hx P pc L0 pm_iast L) (hk : pm_kd c = .inl (0, n, b)) : pm_run ev P (pc, L0, .int x :: .int i :: .ref c :: st, σ) = pm_ck i n (pm_run ev P (pc + 1, L, st, pm_wI σ c i.toNatClampNeg x)) := by
  unfold pm_ck
  by_cases hc : i < 0 ∨ n ≤ i.toNatClampNeg
  · rw [if_pos hc]
    refine pm_xn h ?_
    simp only [pm_iast, hk]
    exact if_pos hc
  · rw [if_neg hc]
    refine pm_x h ?_
    simp only [pm_iast, hk]
    exact if_neg hc
theorem x_bast {c n b : Nat} {i : Int32} {x : Int32} (h : pm_hx P pc L0 pm_bast L) (hk : pm_kd c = .inl (1, n, b)) : pm_run ev P (pc, L0, .int x :: .int i :: .ref c :: st, σ) = pm_ck i n (pm_run ev P (pc + 1, L, st, pm_wI σ c i.toNatClampNeg (vp_nar .byte x))) := by
  unfold pm_ck
  by_cases hc : i < 0 ∨ n ≤ i.toNatClampNeg
  · rw [if_pos hc]
    refine pm_xn h ?_
    simp only [pm_bast, hk]
    exact if_pos hc
  · rw [if_neg hc]
    refine pm_x h ?_
    simp only [pm_bast, hk]
    exact if_neg hc
theorem x_last {c n b : Nat} {i : Int32} {x : Int64} (h : pm_hx P pc L0 pm_last L) (hk : pm_kd c = .inl (2, n, b)) : pm_run ev P (pc, L0, .long x :: .int i :: .ref c :: st, σ) = pm_ck i n (pm_run ev P (pc + 1, L, st, pm_wJ σ c i.toNatClampNeg x)) := by
  unfold pm_ck
  by_cases hc : i < 0 ∨ n ≤ i.toNatClampNeg
  · rw [if_pos hc]
    refine pm_xn h ?_
    simp only [pm_last, hk]
    exact if_pos hc
  · rw [if_neg hc]
    refine pm_x h ?_
    simp only [pm_last, hk]
    exact if_neg hc
theorem x_alen {c tag n b : Nat} (h : pm_hx P pc L0 pm_alen L) (hk : pm_kd c = .inl (tag, n, b)) (ht : tag < 5 ∨ tag = 6) : pm_run ev P (pc, L0, .ref c :: st, σ) = pm_run ev P (pc + 1, L, .int (Int32.ofNat n) :: st, σ) := by
  refine pm_x h ?_
  simp only [pm_alen, hk]
  exact if_pos ht
theorem x_get0 {ci f c : Nat} {q : List Nat} (h : pm_hx P pc L0 (pm_get ci f) L) (hk : pm_kd c = .inr (ci, q)) (hq : q[f]? = some 0) : pm_run ev P (pc, L0, .ref c :: st, σ) = pm_run ev P (pc + 3, L, .int (σ.1 c f) :: st, σ) := by
  refine pm_x h ?_
  simp only [pm_get, hk, hq, if_true]
theorem x_get1 {ci f c : Nat} {q : List Nat} (h : pm_hx P pc L0 (pm_get ci f) L) (hk : pm_kd c = .inr (ci, q)) (hq : q[f]? = some 1) : pm_run ev P (pc, L0, .ref c :: st, σ) = pm_run ev P (pc + 3, L, .ref (σ.1 c f).toNatClampNeg :: st, σ) := by
  refine pm_x h ?_
  simp only [pm_get, hk, hq, if_true]
theorem x_get2 {ci f c : Nat} {q : List Nat} (h : pm_hx P pc L0 (pm_get ci f) L) (hk : pm_kd c = .inr (ci, q)) (hq : q[f]? = some 2) : pm_run ev P (pc, L0, .ref c :: st, σ) = pm_run ev P (pc + 3, L, .long (σ.2 c f) :: st, σ) := by
  refine pm_x h ?_
  simp only [pm_get, hk, hq, if_true]
theorem x_get3 {ci f c n : Nat} {q : List Nat} (h : pm_hx P pc L0 (pm_get ci f) L) (hk : pm_kd c = .inr (ci, q)) (hq : q[f]? = some (n + 3)) : pm_run ev P (pc, L0, .ref c :: st, σ) = pm_run ev P (pc + 3, L, .ref n :: st, σ) := by
  refine pm_x h ?_
  simp only [pm_get, hk, hq, if_true]
theorem x_put {ci f c : Nat} {q : List Nat} {x : Int32} (h : pm_hx P pc L0 (pm_put ci f false) L) (hk : pm_kd c = .inr (ci, q)) (hq : q[f]? = some 0) : pm_run ev P (pc, L0, .int x :: .ref c :: st, σ) = pm_run ev P (pc + 3, L, st, pm_wI σ c f x) := by
  refine pm_x h ?_
  simp only [pm_put, hk]
  exact if_pos ⟨trivial, hq, Or.inl trivial⟩
theorem x_putz {ci f c : Nat} {q : List Nat} {x : Int32} (h : pm_hx P pc L0 (pm_put ci f true) L) (hk : pm_kd c = .inr (ci, q)) (hq : q[f]? = some 0) (hx : x = 0 ∨ x = 1) : pm_run ev P (pc, L0, .int x :: .ref c :: st, σ) = pm_run ev P (pc + 3, L, st, pm_wI σ c f x) := by
  refine pm_x h ?_
  simp only [pm_put, hk]
  exact if_pos ⟨trivial, hq, Or.inr hx⟩
theorem x_putzc {ci f c : Nat} {q : List Nat} {x : Int32} (h : pm_hx P pc L0 (pm_put ci f true) L) (hk : pm_kd c = .inr (ci, q)) (hq : q[f]? = some 0) : pm_run ev P (pc, L0, .int x :: .ref c :: st, σ) = if x = 0 ∨ x = 1 then pm_run ev P (pc + 3, L, st, pm_wI σ c f x) else none := by
  by_cases hx : x = 0 ∨ x = 1
  · rw [if_pos hx]
    exact x_putz h hk hq hx
  · rw [if_neg hx]
    refine pm_xn h ?_
    simp only [pm_put, hk]
    exact if_neg fun z => z.2.2.elim (fun w => by cases w) hx
theorem x_putr {ci f c x : Nat} {q : List Nat} (h : pm_hx P pc L0 (pm_putr ci f) L) (hk : pm_kd c = .inr (ci, q)) (hq : q[f]? = some 1) (hx : x < 2 ^ 31) : pm_run ev P (pc, L0, .ref x :: .ref c :: st, σ) = pm_run ev P (pc + 3, L, st, pm_wI σ c f (Int32.ofNat x)) := by
  refine pm_x h ?_
  simp only [pm_putr, hk]
  exact if_pos ⟨trivial, hq, hx⟩
theorem x_putj {ci f c : Nat} {q : List Nat} {x : Int64} (h : pm_hx P pc L0 (pm_putj ci f) L) (hk : pm_kd c = .inr (ci, q)) (hq : q[f]? = some 2) : pm_run ev P (pc, L0, .long x :: .ref c :: st, σ) = pm_run ev P (pc + 3, L, st, pm_wJ σ c f x) := by
  refine pm_x h ?_
  simp only [pm_putj, hk]
  exact if_pos ⟨trivial, hq⟩
theorem x_cV {μ ci n c : Nat} {q : List Nat} {as rest : List Value} (h : pm_hx P pc L0 (pm_cV μ ci n) L) (hd : st.drop n = .ref c :: rest) (hk : pm_kd c = .inr (ci, q)) (hl : pm_sw rest ≤ 8) (ha : (st.take n).reverse = as) : pm_run ev P (pc, L0, st, σ) = pm_cl (ev μ (.ref c :: as) σ) fun r => pm_run ev P (pc + 3, L, r.1.toList ++ rest, r.2) := by
  subst ha
  cases he : ev μ (.ref c :: (st.take n).reverse) σ with
  | none =>
    refine pm_xn h ?_
    simp only [pm_cV, hd, hk, he]
    rw [if_pos ⟨trivial, hl⟩]
  | some r =>
    refine pm_x h ?_
    simp only [pm_cV, hd, hk, he]
    rw [if_pos ⟨trivial, hl⟩]
theorem x_cQ {μ n c v : Nat} {as rest : List Value} (h : pm_hx P pc L0 (pm_cQ μ n) L) (hd : st.drop n = .ref c :: rest) (hk : pm_kd c = .inr (100, [v])) (hl : pm_sw rest ≤ 8) (ha : (st.take n).reverse = as) : pm_run ev P (pc, L0, st, σ) = pm_cl (ev μ (.ref c :: as) σ) fun r => pm_run ev P (pc + 3, L, r.1.toList ++ rest, r.2) := by
  subst ha
  cases he : ev μ (.ref c :: (st.take n).reverse) σ with
  | none =>
    refine pm_xn h ?_
    simp only [pm_cQ, hd, hk, he]
    rw [if_pos hl]
  | some r =>
    refine pm_x h ?_
    simp only [pm_cQ, hd, hk, he]
    rw [if_pos hl]
theorem x_cS {μ n : Nat} {as rest : List Value} (h : pm_hx P pc L0 (pm_cS μ n) L) (hn : n ≤ st.length) (hd : st.drop n = rest) (hl : pm_sw rest ≤ 8) (ha : (st.take n).reverse = as) : pm_run ev P (pc, L0, st, σ) = pm_cl (ev μ as σ) fun r => pm_run ev P (pc + 3, L, r.1.toList ++ rest, r.2) := by
  subst ha
  subst hd
  cases he : ev μ (st.take n).reverse σ with
  | none =>
    refine pm_xn h ?_
    simp only [pm_cS, he]
    rw [if_pos ⟨hn, hl⟩]
  | some r =>
    refine pm_x h ?_
    simp only [pm_cS, he]
    rw [if_pos ⟨hn, hl⟩]
theorem x_max {x y : Int32} (h : pm_hx P pc L0 pm_max L) (hl : pm_sw st ≤ 8) : pm_run ev P (pc, L0, .int y :: .int x :: st, σ) = pm_run ev P (pc + 3, L, .int (if x < y then y else x) :: st, σ) := pm_x h (if_pos hl)
theorem x_min {x y : Int32} (h : pm_hx P pc L0 pm_min L) (hl : pm_sw st ≤ 8) : pm_run ev P (pc, L0, .int y :: .int x :: st, σ) = pm_run ev P (pc + 3, L, .int (if y < x then y else x) :: st, σ) := pm_x h (if_pos hl)
theorem x_maxj {x y : Int64} (h : pm_hx P pc L0 pm_maxj L) (hl : pm_sw st ≤ 8) : pm_run ev P (pc, L0, .long y :: .long x :: st, σ) = pm_run ev P (pc + 3, L, .long (if y < x then x else y) :: st, σ) := pm_x h (if_pos hl)
theorem x_minj {x y : Int64} (h : pm_hx P pc L0 pm_minj L) (hl : pm_sw st ≤ 8) : pm_run ev P (pc, L0, .long y :: .long x :: st, σ) = pm_run ev P (pc + 3, L, .long (if y < x then y else x) :: st, σ) := pm_x h (if_pos hl)
def pm_cpk (sp dp n : Int32) (n0 n1 : Nat) (t : Option pm_R) : Option pm_R := if ¬ sp < 0 ∧ ¬ dp < 0 ∧ ¬ n < 0 ∧ sp.toNatClampNeg + n.toNatClampNeg ≤ n0 ∧ dp.toNatClampNeg + n.toNatClampNeg ≤ n1 then t else none
theorem x_cpy {n dp sp : Int32} {c0 c1 n0 n1 b0 b1 : Nat} (h : pm_hx P pc L0 pm_cpy L) (hk0 : pm_kd c0 = .inl (0, n0, b0)) (hk1 : pm_kd c1 = .inl (0, n1, b1)) (hl : pm_sw st ≤ 8) : pm_run ev P (pc, L0, .int n :: .int dp :: .ref c1 :: .int sp :: .ref c0 :: st, σ) = pm_cpk sp dp n n0 n1 (pm_run ev P (pc + 3, L, st, pm_wC σ c1 (va_cpy (σ.1 c0) (σ.1 c1) sp.toNatClampNeg dp.toNatClampNeg n.toNatClampNeg))) := by
  unfold pm_cpk
  by_cases hc : ¬ sp < 0 ∧ ¬ dp < 0 ∧ ¬ n < 0 ∧ sp.toNatClampNeg + n.toNatClampNeg ≤ n0 ∧ dp.toNatClampNeg + n.toNatClampNeg ≤ n1
  · rw [if_pos hc]
    refine pm_x h ?_
    simp only [pm_cpy, hk0, hk1]
    exact if_pos ⟨hl, hc⟩
  · rw [if_neg hc]
    refine pm_xn h ?_
    simp only [pm_cpy, hk0, hk1]
    exact if_neg fun z => hc z.2
theorem x_cpy5 {n dp sp : Int32} {c0 c1 n0 n1 b0 b1 : Nat} (h : pm_hx P pc L0 pm_cpy L) (hk0 : pm_kd c0 = .inl (5, n0, b0)) (hk1 : pm_kd c1 = .inl (0, n1, b1)) (hl : pm_sw st ≤ 8) : pm_run ev P (pc, L0, .int n :: .int dp :: .ref c1 :: .int sp :: .ref c0 :: st, σ) = pm_cpk sp dp n n0 n1 (pm_run ev P (pc + 3, L, st, pm_wC σ c1 (va_cpy (pm_ct b0) (σ.1 c1) sp.toNatClampNeg dp.toNatClampNeg n.toNatClampNeg))) := by
  unfold pm_cpk
  by_cases hc : ¬ sp < 0 ∧ ¬ dp < 0 ∧ ¬ n < 0 ∧ sp.toNatClampNeg + n.toNatClampNeg ≤ n0 ∧ dp.toNatClampNeg + n.toNatClampNeg ≤ n1
  · rw [if_pos hc]
    refine pm_x h ?_
    simp only [pm_cpy, hk0, hk1]
    exact if_pos ⟨hl, hc⟩
  · rw [if_neg hc]
    refine pm_xn h ?_
    simp only [pm_cpy, hk0, hk1]
    exact if_neg fun z => hc z.2
theorem x_sval {c v : Nat} (h : pm_hx P pc L0 pm_sval L) (hk : pm_kd c = .inr (100, [v])) : pm_run ev P (pc, L0, .ref c :: st, σ) = pm_run ev P (pc + 3, L, .ref v :: st, σ) := by
  refine pm_x h ?_
  simp only [pm_sval, hk]
theorem x_scod {c v : Nat} (h : pm_hx P pc L0 pm_scod L) (hk : pm_kd c = .inr (100, [v])) : pm_run ev P (pc, L0, .ref c :: st, σ) = pm_run ev P (pc + 3, L, .int 0 :: st, σ) := by
  refine pm_x h ?_
  simp only [pm_scod, hk]
theorem x_iret {ty : FieldType} {v : Int32} (h : pm_hx P pc L0 (pm_iret ty) L) (hn : narrow ty (.int v) = .int v) : pm_run ev P (pc, L0, [.int v], σ) = some (some (.int v), σ) := pm_xr h (if_pos hn)
theorem x_iretc {ty : FieldType} {v : Int32} (h : pm_hx P pc L0 (pm_iret ty) L) : pm_run ev P (pc, L0, [.int v], σ) = if narrow ty (.int v) = .int v then some (some (.int v), σ) else none := by
  by_cases hn : narrow ty (.int v) = .int v
  · rw [if_pos hn]
    exact x_iret h hn
  · rw [if_neg hn]
    exact pm_xn h (if_neg hn)
theorem x_lret {v : Int64} (h : pm_hx P pc L0 pm_lret L) : pm_run ev P (pc, L0, [.long v], σ) = some (some (.long v), σ) := pm_xr h rfl
theorem x_vret (h : pm_hx P pc L0 pm_vret L) : pm_run ev P (pc, L0, [], σ) = some (none, σ) := pm_xr h rfl
def pm_swk (x : Int32) (k : Nat → Option pm_R) (dflt : Nat) : Int → List Nat → Option pm_R
  | _, [] => k dflt
  | i, t :: ts => if x.toInt = i then k t else pm_swk x k dflt (i + 1) ts
theorem pm_sel_swk (x : Int32) (G : Nat → pm_S) (K : pm_S → Option pm_R) (dflt : Nat) : ∀ (ts : List Nat) (lo : Int), pm_k (pm_sel x (fun t => some (.inl (G t))) dflt lo ts) K = pm_swk x (fun t => K (G t)) dflt lo ts
  | [], _ => rfl
  | t :: ts, lo => by
    unfold pm_sel pm_swk
    by_cases hc : x.toInt = lo
    · rw [if_pos hc, if_pos hc]
      rfl
    · rw [if_neg hc, if_neg hc]
      exact pm_sel_swk x G K dflt ts (lo + 1)
theorem x_tsw {lo : Int} {ts : List Nat} {dt : Nat} {x : Int32} (h : pm_hx P pc L0 (pm_tsw lo ts dt) L) : pm_run ev P (pc, L0, .int x :: st, σ) = pm_swk x (fun t => pm_run ev P (t, L, st, σ)) dt lo ts := by
  rw [pm_run_eq, h ev (.int x :: st) σ]
  exact pm_sel_swk x (fun t => (t, L, st, σ)) (pm_run ev P) dt ts lo
end PX

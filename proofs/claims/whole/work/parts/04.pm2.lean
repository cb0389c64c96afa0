/-! ===== steps on rows, fields, calls, returns ===== -/
theorem pm_en_row {cA : Nat → ClassId} {ad : Nat → Nat} {σ : pm_H} {c tag n base : Nat} (h : pm_kd c = .inl (tag, n, base)) : pm_en cA ad σ c = .inl (cA tag, n, pm_ar ad σ c tag base) := by
  unfold pm_en
  rw [h]
theorem pm_en_obj {cA : Nat → ClassId} {ad : Nat → Nat} {σ : pm_H} {c ci : Nat} {q : List Nat} (h : pm_kd c = .inr (ci, q)) : pm_en cA ad σ c = .inr (ci, pm_fs ad σ c 0 q) := by
  unfold pm_en
  rw [h]
theorem pm_kt_ok : (List.range pm_kt.length).all (fun c => match pm_kt.getD c (.inl (9, 0, 0)) with
  | .inl (tag, _, _) => decide (c < pm_N ∨ 5 ≤ tag)
  | .inr (ci, _) => decide (c < pm_N ∨ ci = 100)) = true := by decide +kernel
theorem pm_kd_row {c tag n base : Nat} (h : pm_kd c = .inl (tag, n, base)) (ht : tag < 5) : c < pm_N := by
  by_cases hc : c < pm_kt.length
  · have h1 := List.all_eq_true.mp pm_kt_ok c (List.mem_range.mpr hc)
    unfold pm_kd at h
    rw [h] at h1
    have h2 := of_decide_eq_true h1
    omega
  · have h1 : pm_kd c = .inl (9, 0, 0) := by
      unfold pm_kd
      rw [List.getD_eq_getElem?_getD, List.getElem?_eq_none (by omega)]
      rfl
    rw [h1] at h
    cases h
    omega
theorem pm_kd_obj {c ci : Nat} {q : List Nat} (h : pm_kd c = .inr (ci, q)) (ht : ci < 100) : c < pm_N := by
  by_cases hc : c < pm_kt.length
  · have h1 := List.all_eq_true.mp pm_kt_ok c (List.mem_range.mpr hc)
    unfold pm_kd at h
    rw [h] at h1
    have h2 := of_decide_eq_true h1
    omega
  · have h1 : pm_kd c = .inl (9, 0, 0) := by
      unfold pm_kd
      rw [List.getD_eq_getElem?_getD, List.getElem?_eq_none (by omega)]
      rfl
    rw [h1] at h
    cases h
theorem pm_at_row {cA : Nat → ClassId} {ad : Nat → Nat} {σ : pm_H} {c tag n base : Nat} (h : pm_kd c = .inl (tag, n, base)) (ht : tag < 5) : (pm_ws cA ad σ)[c]? = some (ad c, .inl (cA tag, n, pm_ar ad σ c tag base)) := by
  rw [pm_ws_at (pm_kd_row h ht), pm_en_row h]
theorem pm_at_obj {cA : Nat → ClassId} {ad : Nat → Nat} {σ : pm_H} {c ci : Nat} {q : List Nat} (h : pm_kd c = .inr (ci, q)) (ht : ci < 100) : (pm_ws cA ad σ)[c]? = some (ad c, .inr (ci, pm_fs ad σ c 0 q)) := by
  rw [pm_ws_at (pm_kd_obj h ht), pm_en_obj h]
theorem pm_set_row {cA : Nat → ClassId} {ad : Nat → Nat} {σ : pm_H} {c tag n base : Nat} (h : pm_kd c = .inl (tag, n, base)) (hg : tag = 0 ∨ tag = 1) (f : Nat → Int32) : (pm_ws cA ad σ).set c (ad c, .inl (cA tag, n, .inl f)) = pm_ws cA ad (pm_wC σ c f) := by
  rw [← pm_ws_set (σ := σ) (σ' := pm_wC σ c f) (fun q hq => pm_wC_ne σ f hq), pm_en_row h]
  rcases hg with rfl | rfl <;> simp [pm_ar, pm_wC_at]
theorem pm_set_long {cA : Nat → ClassId} {ad : Nat → Nat} {σ : pm_H} {c n base : Nat} (h : pm_kd c = .inl (2, n, base)) (k : Nat) (v : Int64) : (pm_ws cA ad σ).set c (ad c, .inl (cA 2, n, .inr (.inl (vp_updL (σ.2 c) k v)))) = pm_ws cA ad (pm_wJ σ c k v) := by
  rw [← pm_ws_set (σ := σ) (σ' := pm_wJ σ c k v) (fun q hq => pm_wJ_ne σ k v hq), pm_en_row h]
  simp [pm_ar, pm_wJ]
def pm_iald : pm_F := fun _ g => match g.2.2.1 with
  | .int i :: .ref c :: st => match pm_kd c with
    | .inl (0, n, _) => if i < 0 ∨ n ≤ i.toNatClampNeg then none else some (.inl (g.1 + 1, g.2.1, .int (g.2.2.2.1 c i.toNatClampNeg) :: st, g.2.2.2))
    | .inl (5, n, j) => if i < 0 ∨ n ≤ i.toNatClampNeg then none else some (.inl (g.1 + 1, g.2.1, .int (pm_ct j i.toNatClampNeg) :: st, g.2.2.2))
    | _ => none
  | _ => none
def pm_bald : pm_F := fun _ g => match g.2.2.1 with
  | .int i :: .ref c :: st => match pm_kd c with
    | .inl (1, n, _) => if i < 0 ∨ n ≤ i.toNatClampNeg then none else some (.inl (g.1 + 1, g.2.1, .int (g.2.2.2.1 c i.toNatClampNeg) :: st, g.2.2.2))
    | .inl (6, n, j) => if i < 0 ∨ n ≤ i.toNatClampNeg then none else some (.inl (g.1 + 1, g.2.1, .int (pm_ct j i.toNatClampNeg) :: st, g.2.2.2))
    | _ => none
  | _ => none
def pm_lald : pm_F := fun _ g => match g.2.2.1 with
  | .int i :: .ref c :: st => match pm_kd c with
    | .inl (2, n, _) => if i < 0 ∨ n ≤ i.toNatClampNeg then none else some (.inl (g.1 + 1, g.2.1, .long (g.2.2.2.2 c i.toNatClampNeg) :: st, g.2.2.2))
    | _ => none
  | _ => none
def pm_aald : pm_F := fun _ g => match g.2.2.1 with
  | .int i :: .ref c :: st => match pm_kd c with
    | .inl (3, n, b) => if i < 0 ∨ n ≤ i.toNatClampNeg then none else some (.inl (g.1 + 1, g.2.1, .ref (b + i.toNatClampNeg) :: st, g.2.2.2))
    | .inl (4, n, b) => if i < 0 ∨ n ≤ i.toNatClampNeg then none else some (.inl (g.1 + 1, g.2.1, .ref (b + 2 * i.toNatClampNeg) :: st, g.2.2.2))
    | _ => none
  | _ => none
def pm_alen : pm_F := fun _ g => match g.2.2.1 with
  | .ref c :: st => match pm_kd c with
    | .inl (tag, n, _) => if tag < 5 ∨ tag = 6 then some (.inl (g.1 + 1, g.2.1, .int (Int32.ofNat n) :: st, g.2.2.2)) else none
    | _ => none
  | _ => none
def pm_iast : pm_F := fun _ g => match g.2.2.1 with
  | .int x :: .int i :: .ref c :: st => match pm_kd c with
    | .inl (0, n, _) => if i < 0 ∨ n ≤ i.toNatClampNeg then none else some (.inl (g.1 + 1, g.2.1, st, pm_wI g.2.2.2 c i.toNatClampNeg x))
    | _ => none
  | _ => none
def pm_bast : pm_F := fun _ g => match g.2.2.1 with
  | .int x :: .int i :: .ref c :: st => match pm_kd c with
    | .inl (1, n, _) => if i < 0 ∨ n ≤ i.toNatClampNeg then none else some (.inl (g.1 + 1, g.2.1, st, pm_wI g.2.2.2 c i.toNatClampNeg (vp_nar .byte x)))
    | _ => none
  | _ => none
def pm_last : pm_F := fun _ g => match g.2.2.1 with
  | .long x :: .int i :: .ref c :: st => match pm_kd c with
    | .inl (2, n, _) => if i < 0 ∨ n ≤ i.toNatClampNeg then none else some (.inl (g.1 + 1, g.2.1, st, pm_wJ g.2.2.2 c i.toNatClampNeg x))
    | _ => none
  | _ => none

theorem pm_X_lt {b L : Nat} {xs : Nat → Int32} {U : State} {H : Heap} (h : va_X b L xs U H) : b < H.size := by
  obtain ⟨scr, h1, -⟩ := h
  exact (Array.getElem?_eq_some_iff.mp h1).1

theorem ps_iald {X : State → (Nat → Nat) → (Nat → Prop) → Prop} {own : String} {cc : ByteArray} {nL : Nat} {ret : Option FieldType} {pc : Nat} (hd : decode cc pc = .ok (.iaload, 1)) : pm_Snd X own cc nL ret pc pm_iald := by
  intro p l e R s m args below meth co cells slots d D cA ad A Q ev hC hE L st σ o h k
  obtain ⟨⟨hx, hb, hml, hown, hts⟩, ⟨hr, hlk⟩, ⟨hR1, hR2, hR3, hR4⟩, hK, hJ, hCt, hX⟩ := hC
  dsimp only [pm_iald] at h
  split at h
  · rename_i i c rest
    split at h
    · rename_i n b hk
      split at h
      · cases h
      · rename_i hin
        cases h
        exact fun H locs ls hL hP hS => va_iald hx hb hK hP c 0 (pm_at_row hk (by decide)) rfl hin hd (k H locs ls hL hP hS)
    · rename_i n b hk
      split at h
      · cases h
      · rename_i hin
        cases h
        exact fun H locs ls hL hP hS => va_sld hx hb (hCt.1 c n b hk).1 (pm_X_lt (hCt.1 c n b hk).1) (hCt.1 c n b hk).2 hS hin hd (k H locs ls hL hP hS)
    · cases h
  · cases h

theorem ps_bald {X : State → (Nat → Nat) → (Nat → Prop) → Prop} {own : String} {cc : ByteArray} {nL : Nat} {ret : Option FieldType} {pc : Nat} (hd : decode cc pc = .ok (.baload, 1)) : pm_Snd X own cc nL ret pc pm_bald := by
  intro p l e R s m args below meth co cells slots d D cA ad A Q ev hC hE L st σ o h k
  obtain ⟨⟨hx, hb, hml, hown, hts⟩, ⟨hr, hlk⟩, ⟨hR1, hR2, hR3, hR4⟩, hK, hJ, hCt, hX⟩ := hC
  dsimp only [pm_bald] at h
  split at h
  · rename_i i c rest
    split at h
    · rename_i n b hk
      split at h
      · cases h
      · rename_i hin
        cases h
        exact fun H locs ls hL hP hS => va_bald hx hb hK hP c 1 (pm_at_row hk (by decide)) rfl hin hd (k H locs ls hL hP hS)
    · rename_i n b hk
      split at h
      · cases h
      · rename_i hin
        cases h
        exact fun H locs ls hL hP hS => va_tb hx hb (hCt.2.1 c n b hk) hS hin rfl hd (k H locs ls hL hP hS)
    · cases h
  · cases h

theorem ps_lald {X : State → (Nat → Nat) → (Nat → Prop) → Prop} {own : String} {cc : ByteArray} {nL : Nat} {ret : Option FieldType} {pc : Nat} (hd : decode cc pc = .ok (.laload, 1)) : pm_Snd X own cc nL ret pc pm_lald := by
  intro p l e R s m args below meth co cells slots d D cA ad A Q ev hC hE L st σ o h k
  obtain ⟨⟨hx, hb, hml, hown, hts⟩, ⟨hr, hlk⟩, ⟨hR1, hR2, hR3, hR4⟩, hK, hJ, hCt, hX⟩ := hC
  dsimp only [pm_lald] at h
  split at h
  · rename_i i c rest
    split at h
    · rename_i n b hk
      split at h
      · cases h
      · rename_i hin
        cases h
        exact fun H locs ls hL hP hS => va_lald hx hb hK hP c 2 (pm_at_row hk (by decide)) rfl hin hd (k H locs ls hL hP hS)
    · cases h
  · cases h

theorem ps_aald {X : State → (Nat → Nat) → (Nat → Prop) → Prop} {own : String} {cc : ByteArray} {nL : Nat} {ret : Option FieldType} {pc : Nat} (hd : decode cc pc = .ok (.aaload, 1)) : pm_Snd X own cc nL ret pc pm_aald := by
  intro p l e R s m args below meth co cells slots d D cA ad A Q ev hC hE L st σ o h k
  obtain ⟨⟨hx, hb, hml, hown, hts⟩, ⟨hr, hlk⟩, ⟨hR1, hR2, hR3, hR4⟩, hK, hJ, hCt, hX⟩ := hC
  dsimp only [pm_aald] at h
  split at h
  · rename_i i c rest
    split at h
    · rename_i n b hk
      split at h
      · cases h
      · rename_i hin
        cases h
        exact fun H locs ls hL hP hS => W.aald (v := .ref (ad (b + i.toNatClampNeg))) (ty := .array .int) hx hb (hP c _ (pm_at_row hk (by decide))) ((hK.2 3 _ rfl).1 n (fun j => va_rf (some (ad (b + j))))) rfl (fun q => by cases q) (by show ¬ (i < 0 ∨ (arrV _ _ _).slots.size ≤ _); rw [arrV_size]; exact hin) (by show (arrV _ _ _).slots[_]? = _; rw [arrV_read _ _ (Nat.not_le.mp fun q => hin (Or.inr q))]; rfl) rfl rfl hd (k H locs ls hL hP hS)
    · rename_i n b hk
      split at h
      · cases h
      · rename_i hin
        cases h
        exact fun H locs ls hL hP hS => va_aldq hx hb hK hP c 4 (pm_at_row hk (by decide)) rfl hin hd (k H locs ls hL hP hS)
    · cases h
  · cases h

theorem ps_iast {X : State → (Nat → Nat) → (Nat → Prop) → Prop} {own : String} {cc : ByteArray} {nL : Nat} {ret : Option FieldType} {pc : Nat} (hd : decode cc pc = .ok (.iastore, 1)) : pm_Snd X own cc nL ret pc pm_iast := by
  intro p l e R s m args below meth co cells slots d D cA ad A Q ev hC hE L st σ o h k
  obtain ⟨⟨hx, hb, hml, hown, hts⟩, ⟨hr, hlk⟩, ⟨hR1, hR2, hR3, hR4⟩, hK, hJ, hCt, hX⟩ := hC
  dsimp only [pm_iast] at h
  split at h
  · rename_i x i c rest
    split at h
    · rename_i n b hk
      split at h
      · cases h
      · rename_i hin
        cases h
        intro H locs ls hL hP hS
        refine va_iast hx hb hK hP (pm_ws_D hJ σ) hS c 0 (pm_at_row hk (by decide)) rfl hin hd (fun H1 locs1 hP1 _ hS1 => ?_)
        rw [pm_set_row hk (Or.inl rfl)] at hP1
        exact k H1 locs1 ls hL hP1 hS1
    · cases h
  · cases h

theorem ps_bast {X : State → (Nat → Nat) → (Nat → Prop) → Prop} {own : String} {cc : ByteArray} {nL : Nat} {ret : Option FieldType} {pc : Nat} (hd : decode cc pc = .ok (.bastore, 1)) : pm_Snd X own cc nL ret pc pm_bast := by
  intro p l e R s m args below meth co cells slots d D cA ad A Q ev hC hE L st σ o h k
  obtain ⟨⟨hx, hb, hml, hown, hts⟩, ⟨hr, hlk⟩, ⟨hR1, hR2, hR3, hR4⟩, hK, hJ, hCt, hX⟩ := hC
  dsimp only [pm_bast] at h
  split at h
  · rename_i x i c rest
    split at h
    · rename_i n b hk
      split at h
      · cases h
      · rename_i hin
        cases h
        intro H locs ls hL hP hS
        refine va_bast hx hb hK hP (pm_ws_D hJ σ) hS c 1 (pm_at_row hk (by decide)) rfl hin hd (fun H1 locs1 hP1 _ hS1 => ?_)
        rw [pm_set_row hk (Or.inr rfl)] at hP1
        exact k H1 locs1 ls hL hP1 hS1
    · cases h
  · cases h

theorem ps_last {X : State → (Nat → Nat) → (Nat → Prop) → Prop} {own : String} {cc : ByteArray} {nL : Nat} {ret : Option FieldType} {pc : Nat} (hd : decode cc pc = .ok (.lastore, 1)) : pm_Snd X own cc nL ret pc pm_last := by
  intro p l e R s m args below meth co cells slots d D cA ad A Q ev hC hE L st σ o h k
  obtain ⟨⟨hx, hb, hml, hown, hts⟩, ⟨hr, hlk⟩, ⟨hR1, hR2, hR3, hR4⟩, hK, hJ, hCt, hX⟩ := hC
  dsimp only [pm_last] at h
  split at h
  · rename_i x i c rest
    split at h
    · rename_i n b hk
      split at h
      · cases h
      · rename_i hin
        cases h
        intro H locs ls hL hP hS
        refine va_last hx hb hK hP (pm_ws_D hJ σ) hS c 2 (pm_at_row hk (by decide)) rfl hin hd (fun H1 locs1 hP1 _ hS1 => ?_)
        rw [pm_set_long hk] at hP1
        exact k H1 locs1 ls hL hP1 hS1
    · cases h
  · cases h

theorem ps_alen {X : State → (Nat → Nat) → (Nat → Prop) → Prop} {own : String} {cc : ByteArray} {nL : Nat} {ret : Option FieldType} {pc : Nat} (hd : decode cc pc = .ok (.arraylength, 1)) : pm_Snd X own cc nL ret pc pm_alen := by
  intro p l e R s m args below meth co cells slots d D cA ad A Q ev hC hE L st σ o h k
  obtain ⟨⟨hx, hb, hml, hown, hts⟩, ⟨hr, hlk⟩, ⟨hR1, hR2, hR3, hR4⟩, hK, hJ, hCt, hX⟩ := hC
  dsimp only [pm_alen] at h
  split at h
  · rename_i c rest
    split at h
    · rename_i tag n b hk
      split at h
      · rename_i hin
        cases h
        intro H locs ls hL hP hS
        by_cases h6 : tag = 6
        · subst h6
          exact va_tlen hx hb (hCt.2.1 c n b hk) hS rfl hd (k H locs ls hL hP hS)
        · have ht : tag < 5 := hin.resolve_right h6
          have hty : ∃ ty, (pm_tys cA)[tag]? = some (cA tag, ty) := by
            match tag, ht with
            | 0, _ => exact ⟨_, rfl⟩
            | 1, _ => exact ⟨_, rfl⟩
            | 2, _ => exact ⟨_, rfl⟩
            | 3, _ => exact ⟨_, rfl⟩
            | 4, _ => exact ⟨_, rfl⟩
          obtain ⟨ty, hty⟩ := hty
          exact va_alen hx hb hK hP c tag (pm_at_row hk ht) hty rfl hd (k H locs ls hL hP hS)
      · cases h
    · cases h
  · cases h

def pm_get (ci f : Nat) : pm_F := fun _ g => match g.2.2.1 with
  | .ref c :: st => match pm_kd c with
    | .inr (cj, q) => if cj = ci then match q[f]? with
      | some 0 => some (.inl (g.1 + 3, g.2.1, .int (g.2.2.2.1 c f) :: st, g.2.2.2))
      | some 1 => some (.inl (g.1 + 3, g.2.1, .ref (g.2.2.2.1 c f).toNatClampNeg :: st, g.2.2.2))
      | some 2 => some (.inl (g.1 + 3, g.2.1, .long (g.2.2.2.2 c f) :: st, g.2.2.2))
      | some (n + 3) => some (.inl (g.1 + 3, g.2.1, .ref n :: st, g.2.2.2))
      | none => none
      else none
    | _ => none
  | _ => none
def pm_put (ci f : Nat) (z : Bool) : pm_F := fun _ g => match g.2.2.1 with
  | .int x :: .ref c :: st => match pm_kd c with
    | .inr (cj, q) => if cj = ci ∧ q[f]? = some 0 ∧ (z = false ∨ x = 0 ∨ x = 1) then some (.inl (g.1 + 3, g.2.1, st, pm_wI g.2.2.2 c f x)) else none
    | _ => none
  | _ => none
def pm_putr (ci f : Nat) : pm_F := fun _ g => match g.2.2.1 with
  | .ref x :: .ref c :: st => match pm_kd c with
    | .inr (cj, q) => if cj = ci ∧ q[f]? = some 1 ∧ x < 2 ^ 31 then some (.inl (g.1 + 3, g.2.1, st, pm_wI g.2.2.2 c f (Int32.ofNat x))) else none
    | _ => none
  | _ => none
def pm_putj (ci f : Nat) : pm_F := fun _ g => match g.2.2.1 with
  | .long x :: .ref c :: st => match pm_kd c with
    | .inr (cj, q) => if cj = ci ∧ q[f]? = some 2 then some (.inl (g.1 + 3, g.2.1, st, pm_wJ g.2.2.2 c f x)) else none
    | _ => none
  | _ => none

theorem ps_get {X : State → (Nat → Nat) → (Nat → Prop) → Prop} {own : String} {cc : ByteArray} {nL : Nat} {ret : Option FieldType} {pc : Nat} {C : String} {T : u_T} {N ci f idx : Nat} (hd : decode cc pc = .ok (.getfield idx, 3)) (hin : ∀ w ∈ u_ws C T N, w ∈ pm_TB) (hc : vwCl[ci]? = some (C, T, N)) (h100 : ci < 100) (hf : f < N) (hw : Cond.fieldLink own idx (T f).1 (T f).2.1 (T f).2.2.1 ∈ pm_TB) : pm_Snd X own cc nL ret pc (pm_get ci f) := by
  intro p l e R s m args below meth co cells slots d D cA ad A Q ev hC hE L st σ o h k
  obtain ⟨⟨hx, hb, hml, hown, hts⟩, ⟨hr, hlk⟩, ⟨hR1, hR2, hR3, hR4⟩, hK, hJ, hCt, hX⟩ := hC
  dsimp only [pm_get] at h
  split at h
  · rename_i c rest
    split at h
    · rename_i cj q hk
      split at h
      · rename_i hcj
        subst hcj
        have go : ∀ (y : Nat) (v : Value), q[f]? = some y → pm_fv ad σ c f y = pm_cv ad v → pm_G p l e R s m args below meth co cells slots D cA ad A nL Q (pc + 3, L, v :: rest, σ) → pm_G p l e R s m args below meth co cells slots D cA ad A nL Q (pc, L, .ref c :: rest, σ) := by
          intro y v hy hv kk H locs ls hL hP hS
          have hat := pm_fs_at ad σ c q 0 f y hy
          rw [Nat.zero_add] at hat
          refine va_get hx hb hts hin hown hK hP c (pm_at_obj hk h100) hc f hf (hts _ hw) (fun _ z => z) hat hd ?_
          rw [hv]
          exact kk H locs ls hL hP hS
        split at h
        · rename_i hy
          cases h
          exact go 0 (.int (σ.1 c f)) hy rfl k
        · rename_i hy
          cases h
          exact go 1 (.ref (σ.1 c f).toNatClampNeg) hy rfl k
        · rename_i hy
          cases h
          exact go 2 (.long (σ.2 c f)) hy rfl k
        · rename_i n hy
          cases h
          exact go (n + 3) (.ref n) hy rfl k
        · cases h
      · cases h
    · cases h
  · cases h
theorem pm_fs_upd (ad : Nat → Nat) (σ σ' : pm_H) (c f y : Nat) (h1 : ∀ j, j ≠ f → σ'.1 c j = σ.1 c j) (h2 : ∀ j, j ≠ f → σ'.2 c j = σ.2 c j) : ∀ (l : List Nat) (k i : Nat), k + i = f → l[i]? = some y → pm_fs ad σ' c k l = (pm_fs ad σ c k l).set i (pm_fv ad σ' c f y)
  | [], _, _, _, h => by simp at h
  | a :: l, k, 0, e, h => by
    simp at h
    subst h
    have e' : k = f := by omega
    subst e'
    have tl : ∀ (l : List Nat) (k' : Nat), k < k' → pm_fs ad σ' c k' l = pm_fs ad σ c k' l := by
      intro l
      induction l with
      | nil => intro _ _; rfl
      | cons b l ih =>
        intro k' hk
        show pm_fv ad σ' c k' b :: pm_fs ad σ' c (k' + 1) l = pm_fv ad σ c k' b :: pm_fs ad σ c (k' + 1) l
        rw [ih (k' + 1) (by omega)]
        congr 1
        match b with
        | 0 => simp [pm_fv, h1 k' (by omega)]
        | 1 => simp [pm_fv, h1 k' (by omega)]
        | 2 => simp [pm_fv, h2 k' (by omega)]
        | n + 3 => rfl
    show pm_fv ad σ' c k a :: pm_fs ad σ' c (k + 1) l = pm_fv ad σ' c k a :: pm_fs ad σ c (k + 1) l
    rw [tl l (k + 1) (by omega)]
  | a :: l, k, i + 1, e, h => by
    show pm_fv ad σ' c k a :: pm_fs ad σ' c (k + 1) l = pm_fv ad σ c k a :: (pm_fs ad σ c (k + 1) l).set i (pm_fv ad σ' c f y)
    rw [pm_fs_upd ad σ σ' c f y h1 h2 l (k + 1) i (by omega) (by simpa using h)]
    congr 1
    match a with
    | 0 => simp [pm_fv, h1 k (by omega)]
    | 1 => simp [pm_fv, h1 k (by omega)]
    | 2 => simp [pm_fv, h2 k (by omega)]
    | n + 3 => rfl
theorem pm_set_obj {cA : Nat → ClassId} {ad : Nat → Nat} {σ σ' : pm_H} {c ci f y : Nat} {q : List Nat} {v : Value} (h : pm_kd c = .inr (ci, q)) (hy : q[f]? = some y) (hv : pm_fv ad σ' c f y = v) (hn : ∀ q, q ≠ c → σ'.1 q = σ.1 q ∧ σ'.2 q = σ.2 q) (h1 : ∀ j, j ≠ f → σ'.1 c j = σ.1 c j) (h2 : ∀ j, j ≠ f → σ'.2 c j = σ.2 c j) : (pm_ws cA ad σ).set c (ad c, .inr (ci, (pm_fs ad σ c 0 q).set f v)) = pm_ws cA ad σ' := by
  rw [← pm_ws_set (σ := σ) (σ' := σ') hn, pm_en_obj h, pm_fs_upd ad σ σ' c f y h1 h2 q 0 f (by omega) hy, hv]

theorem ps_put {X : State → (Nat → Nat) → (Nat → Prop) → Prop} {own : String} {cc : ByteArray} {nL : Nat} {ret : Option FieldType} {pc : Nat} {C : String} {T : u_T} {N ci f idx : Nat} {z : Bool} {ty : FieldType} (hd : decode cc pc = .ok (.putfield idx, 3)) (hin : ∀ w ∈ u_ws C T N, w ∈ pm_TB) (ty0 : Nat → FieldType) (hty : ∀ k, k < N → parseFieldDescriptor (T k).2.2.1 = some (ty0 k)) (hnm : ∀ a, a < N → ∀ b, b < N → a ≠ b → (T a).2.1 ≠ (T b).2.1) (hc : vwCl[ci]? = some (C, T, N)) (h100 : ci < 100) (hf : f < N) (hw : Cond.fieldLink own idx (T f).1 (T f).2.1 (T f).2.2.1 ∈ pm_TB) (hfin : (T f).2.2.2 = false) (hty2 : parseFieldDescriptor (T f).2.2.1 = some ty) (hz0 : z = true ∨ ty = .int) (hz1 : ty = .int ∨ ty = .boolean) : pm_Snd X own cc nL ret pc (pm_put ci f z) := by
  intro p l e R s m args below meth co cells slots d D cA ad A Q ev hC hE L st σ o h k
  obtain ⟨⟨hx, hb, hml, hown, hts⟩, ⟨hr, hlk⟩, ⟨hR1, hR2, hR3, hR4⟩, hK, hJ, hCt, hX⟩ := hC
  dsimp only [pm_put] at h
  split at h
  · rename_i x c rest
    split at h
    · rename_i cj q hk
      split at h
      · rename_i hcc
        obtain ⟨hcj, hy, hz⟩ := hcc
        subst hcj
        cases h
        intro H locs ls hL hP hS
        have hnf : narrow ty (.int x) = .int x ∧ fits ty (.int x) = true := by
          rcases hz1 with rfl | rfl
          · exact ⟨rfl, rfl⟩
          · rcases hz0 with hz0 | hz0
            · rcases hz with hz | rfl | rfl
              · rw [hz0] at hz; cases hz
              · exact ⟨by decide, by decide⟩
              · exact ⟨by decide, by decide⟩
            · cases hz0
        refine va_put hx hb hts hin ty0 hty hnm hown hK hP (pm_ws_D hJ σ) hS c (pm_at_obj hk h100) hc f hf (hts _ hw) (fun _ z => z) hfin hty2 hnf.1 hnf.2 (by rw [pm_fs_len]; exact (List.getElem?_eq_some_iff.mp hy).1) hd (fun H1 locs1 hP1 _ hS1 => ?_)
        rw [pm_set_obj (σ' := pm_wI σ c f x) hk hy (by simp [pm_fv, pm_wI, pm_wC_at, upd, pm_cv]) (fun q hq => pm_wC_ne σ _ hq) (fun j hj => by simp [pm_wI, pm_wC_at, upd, hj]) (fun j hj => rfl)] at hP1
        exact k H1 locs1 ls hL hP1 hS1
      · cases h
    · cases h
  · cases h

theorem ps_putr {X : State → (Nat → Nat) → (Nat → Prop) → Prop} {own : String} {cc : ByteArray} {nL : Nat} {ret : Option FieldType} {pc : Nat} {C : String} {T : u_T} {N ci f idx : Nat}  (hd : decode cc pc = .ok (.putfield idx, 3)) (hin : ∀ w ∈ u_ws C T N, w ∈ pm_TB) (ty0 : Nat → FieldType) (hty : ∀ k, k < N → parseFieldDescriptor (T k).2.2.1 = some (ty0 k)) (hnm : ∀ a, a < N → ∀ b, b < N → a ≠ b → (T a).2.1 ≠ (T b).2.1) (hc : vwCl[ci]? = some (C, T, N)) (h100 : ci < 100) (hf : f < N) (hw : Cond.fieldLink own idx (T f).1 (T f).2.1 (T f).2.2.1 ∈ pm_TB) (hfin : (T f).2.2.2 = false) (hty2 : parseFieldDescriptor (T f).2.2.1 = some (.array .byte)) : pm_Snd X own cc nL ret pc (pm_putr ci f) := by
  intro p l e R s m args below meth co cells slots d D cA ad A Q ev hC hE L st σ o h k
  obtain ⟨⟨hx, hb, hml, hown, hts⟩, ⟨hr, hlk⟩, ⟨hR1, hR2, hR3, hR4⟩, hK, hJ, hCt, hX⟩ := hC
  dsimp only [pm_putr] at h
  split at h
  · rename_i x c rest
    split at h
    · rename_i cj q hk
      split at h
      · rename_i hcc
        obtain ⟨hcj, hy, hz⟩ := hcc
        subst hcj
        cases h
        intro H locs ls hL hP hS
        have hnf : narrow (.array .byte) (.ref (ad x)) = .ref (ad x) ∧ fits (.array .byte) (.ref (ad x)) = true := ⟨rfl, rfl⟩
        refine va_put hx hb hts hin ty0 hty hnm hown hK hP (pm_ws_D hJ σ) hS c (pm_at_obj hk h100) hc f hf (hts _ hw) (fun _ z => z) hfin hty2 hnf.1 hnf.2 (by rw [pm_fs_len]; exact (List.getElem?_eq_some_iff.mp hy).1) hd (fun H1 locs1 hP1 _ hS1 => ?_)
        rw [pm_set_obj (σ' := pm_wI σ c f (Int32.ofNat x)) hk hy (by show Value.ref (ad _) = _; rw [show (pm_wI σ c f (Int32.ofNat x)).1 c f = nI x by simp [pm_wI, pm_wC_at, upd, nI], nI_clamp hz]; rfl) (fun q hq => pm_wC_ne σ _ hq) (fun j hj => by simp [pm_wI, pm_wC_at, upd, hj]) (fun j hj => rfl)] at hP1
        exact k H1 locs1 ls hL hP1 hS1
      · cases h
    · cases h
  · cases h

theorem ps_putj {X : State → (Nat → Nat) → (Nat → Prop) → Prop} {own : String} {cc : ByteArray} {nL : Nat} {ret : Option FieldType} {pc : Nat} {C : String} {T : u_T} {N ci f idx : Nat}  (hd : decode cc pc = .ok (.putfield idx, 3)) (hin : ∀ w ∈ u_ws C T N, w ∈ pm_TB) (ty0 : Nat → FieldType) (hty : ∀ k, k < N → parseFieldDescriptor (T k).2.2.1 = some (ty0 k)) (hnm : ∀ a, a < N → ∀ b, b < N → a ≠ b → (T a).2.1 ≠ (T b).2.1) (hc : vwCl[ci]? = some (C, T, N)) (h100 : ci < 100) (hf : f < N) (hw : Cond.fieldLink own idx (T f).1 (T f).2.1 (T f).2.2.1 ∈ pm_TB) (hfin : (T f).2.2.2 = false) (hty2 : parseFieldDescriptor (T f).2.2.1 = some .long) : pm_Snd X own cc nL ret pc (pm_putj ci f) := by
  intro p l e R s m args below meth co cells slots d D cA ad A Q ev hC hE L st σ o h k
  obtain ⟨⟨hx, hb, hml, hown, hts⟩, ⟨hr, hlk⟩, ⟨hR1, hR2, hR3, hR4⟩, hK, hJ, hCt, hX⟩ := hC
  dsimp only [pm_putj] at h
  split at h
  · rename_i x c rest
    split at h
    · rename_i cj q hk
      split at h
      · rename_i hcc
        obtain ⟨hcj, hy⟩ := hcc
        subst hcj
        cases h
        intro H locs ls hL hP hS
        have hnf : narrow .long (.long x) = .long x ∧ fits .long (.long x) = true := ⟨rfl, rfl⟩
        refine va_put hx hb hts hin ty0 hty hnm hown hK hP (pm_ws_D hJ σ) hS c (pm_at_obj hk h100) hc f hf (hts _ hw) (fun _ z => z) hfin hty2 hnf.1 hnf.2 (by rw [pm_fs_len]; exact (List.getElem?_eq_some_iff.mp hy).1) hd (fun H1 locs1 hP1 _ hS1 => ?_)
        rw [pm_set_obj (σ' := pm_wJ σ c f x) hk hy (by simp [pm_fv, pm_wJ, vp_updL, pm_cv]) (fun q hq => pm_wJ_ne σ _ _ hq) (fun j hj => rfl) (fun j hj => by simp [pm_wJ, vp_updL, hj])] at hP1
        exact k H1 locs1 ls hL hP1 hS1
      · cases h
    · cases h
  · cases h

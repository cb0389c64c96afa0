/-! ===== a machine of numbers: its words ===== -/
abbrev pm_H : Type := (Nat → Nat → Int32) × (Nat → Nat → Int64)
abbrev pm_S : Type := Nat × List Value × List Value × pm_H
abbrev pm_R : Type := Option Value × pm_H
abbrev pm_Ev : Type := Nat → List Value → pm_H → Option pm_R
abbrev pm_F : Type := pm_Ev → pm_S → Option (pm_S ⊕ pm_R)
def pm_cv (ad : Nat → Nat) (v : Value) : Value := match v with
  | .ref n => .ref (ad n)
  | v => v
theorem pm_cv_cat (ad : Nat → Nat) (v : Value) : (pm_cv ad v).category = v.category := by cases v <;> rfl
/-- what a field holds: by its code: 0 a number, 1 a row that changes, 2 a long, n + 3 always the cell n -/
def pm_fv (ad : Nat → Nat) (σ : pm_H) (c k q : Nat) : Value := match q with
  | 0 => .int (σ.1 c k)
  | 1 => .ref (ad (σ.1 c k).toNatClampNeg)
  | 2 => .long (σ.2 c k)
  | n + 3 => .ref (ad n)
def pm_fs (ad : Nat → Nat) (σ : pm_H) (c : Nat) : Nat → List Nat → List Value
  | _, [] => []
  | k, q :: l => pm_fv ad σ c k q :: pm_fs ad σ c (k + 1) l
/-- what a row holds: by its tag: 2 longs, 3 rows, 4 stands, else numbers -/
def pm_ar (ad : Nat → Nat) (σ : pm_H) (c tag base : Nat) : (Nat → Int32) ⊕ (Nat → Int64) ⊕ (Nat → UInt32) ⊕ (Nat → UInt64) ⊕ (Nat → Option Nat) := match tag with
  | 2 => .inr (.inl (σ.2 c))
  | 3 => .inr (.inr (.inr (.inr (fun i => some (ad (base + i))))))
  | 4 => .inr (.inr (.inr (.inr (fun i => some (ad (base + 2 * i))))))
  | _ => .inl (σ.1 c)
def pm_en (cA : Nat → ClassId) (ad : Nat → Nat) (σ : pm_H) (c : Nat) : va_E := match pm_kd c with
  | .inl (tag, n, base) => .inl (cA tag, n, pm_ar ad σ c tag base)
  | .inr (ci, q) => .inr (ci, pm_fs ad σ c 0 q)
def pm_ws (cA : Nat → ClassId) (ad : Nat → Nat) (σ : pm_H) : va_W := (List.range pm_N).map fun c => (ad c, pm_en cA ad σ c)
abbrev pm_tys (cA : Nat → ClassId) : List (ClassId × FieldType) := [(cA 0, .int), (cA 1, .byte), (cA 2, .long), (cA 3, .array .int), (cA 4, .object "ThreeLifts$Stand")]
theorem pm_fs_len (ad : Nat → Nat) (σ : pm_H) (c : Nat) : ∀ (l : List Nat) (k : Nat), (pm_fs ad σ c k l).length = l.length
  | [], _ => rfl
  | _ :: l, k => congrArg (· + 1) (pm_fs_len ad σ c l (k + 1))
theorem pm_fs_at (ad : Nat → Nat) (σ : pm_H) (c : Nat) : ∀ (l : List Nat) (k i q : Nat), l[i]? = some q → (pm_fs ad σ c k l)[i]? = some (pm_fv ad σ c (k + i) q)
  | [], _, _, _, h => by simp at h
  | a :: l, k, 0, q, h => by
    simp at h
    subst h
    rfl
  | a :: l, k, i + 1, q, h => by
    have := pm_fs_at ad σ c l (k + 1) i q (by simpa using h)
    rw [show k + (i + 1) = k + 1 + i by omega]
    simpa [pm_fs] using this
theorem pm_fs_eq (ad : Nat → Nat) (σ σ' : pm_H) (c : Nat) (h : σ'.1 c = σ.1 c) (h2 : σ'.2 c = σ.2 c) : ∀ (l : List Nat) (k : Nat), pm_fs ad σ' c k l = pm_fs ad σ c k l
  | [], _ => rfl
  | q :: l, k => by
    show pm_fv ad σ' c k q :: pm_fs ad σ' c (k + 1) l = pm_fv ad σ c k q :: pm_fs ad σ c (k + 1) l
    rw [pm_fs_eq ad σ σ' c h h2 l (k + 1)]
    congr 1
    match q with
    | 0 => simp [pm_fv, h]
    | 1 => simp [pm_fv, h]
    | 2 => simp [pm_fv, h2]
    | n + 3 => rfl
theorem pm_en_eq {cA : Nat → ClassId} {ad : Nat → Nat} {σ σ' : pm_H} {c : Nat} (h1 : σ'.1 c = σ.1 c) (h2 : σ'.2 c = σ.2 c) : pm_en cA ad σ' c = pm_en cA ad σ c := by
  unfold pm_en
  split
  · rename_i tag n base _
    have : pm_ar ad σ' c tag base = pm_ar ad σ c tag base := by
      unfold pm_ar
      split <;> simp [h1, h2]
    rw [this]
  · rw [pm_fs_eq ad σ σ' c h1 h2]
theorem pm_ws_at {cA : Nat → ClassId} {ad : Nat → Nat} {σ : pm_H} {c : Nat} (h : c < pm_N) : (pm_ws cA ad σ)[c]? = some (ad c, pm_en cA ad σ c) := by
  simp [pm_ws, h]
theorem pm_ws_of {cA : Nat → ClassId} {ad : Nat → Nat} {σ : pm_H} {c : Nat} {q : Nat × va_E} (h : (pm_ws cA ad σ)[c]? = some q) : c < pm_N ∧ q = (ad c, pm_en cA ad σ c) := by
  by_cases hc : c < pm_N
  · rw [pm_ws_at hc] at h
    exact ⟨hc, (Option.some.inj h).symm⟩
  · simp [pm_ws, hc] at h
theorem pm_ws_set {cA : Nat → ClassId} {ad : Nat → Nat} {σ σ' : pm_H} {c : Nat} (hn : ∀ q, q ≠ c → σ'.1 q = σ.1 q ∧ σ'.2 q = σ.2 q) : (pm_ws cA ad σ).set c (ad c, pm_en cA ad σ' c) = pm_ws cA ad σ' := by
  apply List.ext_getElem?
  intro i
  rw [List.getElem?_set]
  by_cases h : c = i
  · subst h
    by_cases hl : c < pm_N
    · simp [pm_ws, hl]
    · simp [pm_ws, hl]
  · rw [if_neg h]
    by_cases hl : i < pm_N
    · rw [pm_ws_at hl, pm_ws_at hl, pm_en_eq (hn i (fun e => h e.symm)).1 (hn i (fun e => h e.symm)).2]
    · simp [pm_ws, hl]
/-- the cells are apart, and are those that may be written -/
def pm_J (ad : Nat → Nat) (A : Nat → Prop) : Prop := (∀ i j : Nat, i < pm_N → j < pm_N → ad i = ad j → i = j) ∧ ∀ i : Nat, i < pm_N → A (ad i)
theorem pm_ws_D {cA : Nat → ClassId} {ad : Nat → Nat} {A : Nat → Prop} (h : pm_J ad A) (σ : pm_H) : va_D A (pm_ws cA ad σ) := by
  refine ⟨fun i j p q hp hq e => ?_, fun k q hk => ?_⟩
  · obtain ⟨hi, rfl⟩ := pm_ws_of hp
    obtain ⟨hj, rfl⟩ := pm_ws_of hq
    exact h.1 i j hi hj e
  · obtain ⟨hk2, rfl⟩ := pm_ws_of hk
    exact h.2 k hk2
/-! what is written -/
def pm_wC (σ : pm_H) (c : Nat) (f : Nat → Int32) : pm_H := (fun q => if q = c then f else σ.1 q, σ.2)
def pm_wI (σ : pm_H) (c k : Nat) (v : Int32) : pm_H := pm_wC σ c (upd (σ.1 c) k v)
def pm_wJ (σ : pm_H) (c k : Nat) (v : Int64) : pm_H := (σ.1, fun q => if q = c then vp_updL (σ.2 c) k v else σ.2 q)
theorem pm_wC_at (σ : pm_H) (c : Nat) (f : Nat → Int32) : (pm_wC σ c f).1 c = f := by simp [pm_wC]
theorem pm_wC_ne (σ : pm_H) {c q : Nat} (f : Nat → Int32) (h : q ≠ c) : (pm_wC σ c f).1 q = σ.1 q ∧ (pm_wC σ c f).2 q = σ.2 q := by simp [pm_wC, h]
theorem pm_wJ_ne (σ : pm_H) {c q : Nat} (k : Nat) (v : Int64) (h : q ≠ c) : (pm_wJ σ c k v).1 q = σ.1 q ∧ (pm_wJ σ c k v).2 q = σ.2 q := by simp [pm_wJ, h]
/-! the locals -/
def pm_as (ad : Nat → Nat) : Nat → List Value → List (Nat × Value)
  | _, [] => []
  | i, v :: l => if v = .null then pm_as ad (i + 1) l else (i, pm_cv ad v) :: pm_as ad (i + 1) l
theorem pm_as_of {ad : Nat → Nat} : ∀ (L : List Value) (i : Nat) (q : Nat × Value), q ∈ pm_as ad i L → ∃ (k : Nat) (v : Value), L[k]? = some v ∧ v ≠ .null ∧ q = (i + k, pm_cv ad v)
  | [], _, _, h => by cases h
  | a :: L, i, q, h => by
    have up : q ∈ pm_as ad (i + 1) L → ∃ (k : Nat) (v : Value), (a :: L)[k]? = some v ∧ v ≠ .null ∧ q = (i + k, pm_cv ad v) := fun h => by
      obtain ⟨k, v, h1, h2, h3⟩ := pm_as_of L (i + 1) q h
      exact ⟨k + 1, v, by simpa using h1, h2, by rw [h3]; congr 1; omega⟩
    unfold pm_as at h
    by_cases ha : a = .null
    · rw [if_pos ha] at h
      exact up h
    · rw [if_neg ha] at h
      rcases List.mem_cons.mp h with rfl | h
      · exact ⟨0, a, rfl, ha, rfl⟩
      · exact up h
theorem pm_as_in {ad : Nat → Nat} : ∀ (L : List Value) (i k : Nat) (v : Value), L[k]? = some v → v ≠ .null → (i + k, pm_cv ad v) ∈ pm_as ad i L
  | [], _, _, _, h, _ => by simp at h
  | a :: L, i, 0, v, h, hv => by
    simp at h
    subst h
    unfold pm_as
    rw [if_neg hv]
    exact List.mem_cons_self
  | a :: L, i, k + 1, v, h, hv => by
    have h1 := pm_as_in (ad := ad) L (i + 1) k v (by simpa using h) hv
    rw [show i + 1 + k = i + (k + 1) by omega] at h1
    unfold pm_as
    by_cases ha : a = .null
    · rw [if_pos ha]
      exact h1
    · rw [if_neg ha]
      exact List.mem_cons_of_mem _ h1
def pm_L (ad : Nat → Nat) (nL : Nat) (L : List Value) (ls : Array Slot) : Prop := L.length = nL ∧ lv_has ls nL (pm_as ad 0 L)
theorem pm_L.at {ad : Nat → Nat} {nL : Nat} {L : List Value} {ls : Array Slot} (h : pm_L ad nL L ls) {i : Nat} {v : Value} (hv : L[i]? = some v) (hn : v ≠ .null) : ls[i]? = some (.val (pm_cv ad v)) := by
  have := h.2.2.2 _ (pm_as_in (ad := ad) L 0 i v hv hn)
  simpa using this
def pm_clr (L : List Value) (i : Nat) : List Value := match i with
  | 0 => L
  | j + 1 => match L[j]? with
    | some (.long _) => L.set j .null
    | some (.double _) => L.set j .null
    | _ => L
def pm_s1 (L : List Value) (i : Nat) (v : Value) : List Value := (pm_clr L i).set i v
def pm_s2 (L : List Value) (i : Nat) (v : Value) : List Value := ((pm_clr L i).set i v).set (i + 1) .null
theorem pm_clr_len (L : List Value) (i : Nat) : (pm_clr L i).length = L.length := by
  unfold pm_clr
  split
  · rfl
  · split <;> simp
theorem pm_clr_at {L : List Value} {i k : Nat} {v : Value} (h : (pm_clr L i)[k]? = some v) (hv : v ≠ .null) : L[k]? = some v ∧ ¬ (k + 1 = i ∧ v.category = 2) := by
  unfold pm_clr at h
  split at h
  · exact ⟨h, fun q => by omega⟩
  · rename_i j
    by_cases hk : k = j
    · subst hk
      split at h
      · rename_i x hx
        have hl : k < L.length := (List.getElem?_eq_some_iff.mp hx).1
        simp [hl] at h
        exact absurd h.symm hv
      · rename_i x hx
        have hl : k < L.length := (List.getElem?_eq_some_iff.mp hx).1
        simp [hl] at h
        exact absurd h.symm hv
      · rename_i n1 n2
        refine ⟨h, fun q => ?_⟩
        cases v with
        | long x => exact n1 x h
        | double x => exact n2 x h
        | _ => simp [Value.category] at q
    · refine ⟨?_, fun q => hk (by omega)⟩
      split at h
      · rwa [List.getElem?_set_ne (fun e => hk e.symm)] at h
      · rwa [List.getElem?_set_ne (fun e => hk e.symm)] at h
      · exact h
theorem pm_L_s1 {ad : Nat → Nat} {nL : Nat} {L : List Value} {ls : Array Slot} {i : Nat} {v : Value} (hlen : L.length = nL) (h : lv_has ls nL ((i, pm_cv ad v) :: (pm_as ad 0 L).filter (fun q => !(q.1 == i) && !(q.1 + 1 == i && q.2.category == 2)))) : pm_L ad nL (pm_s1 L i v) ls := by
  refine ⟨by simp [pm_s1, pm_clr_len, hlen], h.1, h.2.1, fun q hq => ?_⟩
  obtain ⟨k, w, h1, h2, rfl⟩ := pm_as_of _ _ _ hq
  unfold pm_s1 at h1
  by_cases hk : i = k
  · subst hk
    have hl : i < (pm_clr L i).length := by
      have := (List.getElem?_eq_some_iff.mp h1).1
      simpa using this
    simp [hl] at h1
    subst h1
    have := h.2.2 _ List.mem_cons_self
    simpa using this
  · rw [List.getElem?_set_ne hk] at h1
    obtain ⟨h3, h4⟩ := pm_clr_at h1 h2
    refine h.2.2 _ (List.mem_cons_of_mem _ (List.mem_filter.mpr ⟨pm_as_in L 0 k w h3 h2, ?_⟩))
    have e1 : ((0 + k == i) = false) := by simp; omega
    simp only [pm_cv_cat, e1, Bool.not_false, Bool.true_and, Bool.not_eq_true', Bool.and_eq_false_iff, beq_eq_false_iff_ne, ne_eq]
    by_cases e : 0 + k + 1 = i
    · exact Or.inr fun q => h4 ⟨by omega, q⟩
    · exact Or.inl e
theorem pm_L_s2 {ad : Nat → Nat} {nL : Nat} {L : List Value} {ls : Array Slot} {i : Nat} {v : Value} (hlen : L.length = nL) (h : lv_has ls nL ((i, pm_cv ad v) :: (pm_as ad 0 L).filter (fun q => !(q.1 == i) && (!(q.1 == i + 1) && !(q.1 + 1 == i && q.2.category == 2))))) : pm_L ad nL (pm_s2 L i v) ls := by
  refine ⟨by simp [pm_s2, pm_clr_len, hlen], h.1, h.2.1, fun q hq => ?_⟩
  obtain ⟨k, w, h1, h2, rfl⟩ := pm_as_of _ _ _ hq
  unfold pm_s2 at h1
  by_cases hk1 : i + 1 = k
  · subst hk1
    have hl : i + 1 < ((pm_clr L i).set i v).length := by
      have := (List.getElem?_eq_some_iff.mp h1).1
      simpa using this
    rw [List.getElem?_set_self hl] at h1
    exact absurd (Option.some.inj h1).symm h2
  · rw [List.getElem?_set_ne hk1] at h1
    by_cases hk : i = k
    · subst hk
      have hl : i < (pm_clr L i).length := by
        have := (List.getElem?_eq_some_iff.mp h1).1
        simpa using this
      simp [hl] at h1
      subst h1
      have := h.2.2 _ List.mem_cons_self
      simpa using this
    · rw [List.getElem?_set_ne hk] at h1
      obtain ⟨h3, h4⟩ := pm_clr_at h1 h2
      refine h.2.2 _ (List.mem_cons_of_mem _ (List.mem_filter.mpr ⟨pm_as_in L 0 k w h3 h2, ?_⟩))
      have e1 : ((0 + k == i) = false) := by simp; omega
      have e2 : ((0 + k == i + 1) = false) := by simp; omega
      simp only [pm_cv_cat, e1, e2, Bool.not_false, Bool.true_and, Bool.not_eq_true', Bool.and_eq_false_iff, beq_eq_false_iff_ne, ne_eq]
      by_cases e : 0 + k + 1 = i
      · exact Or.inr fun q => h4 ⟨by omega, q⟩
      · exact Or.inl e
/-! ===== what holds where the machine of numbers goes ===== -/
/-- what is never written: rows of numbers, texts with their bytes, statics -/
def pm_Ct (ad : Nat → Nat) (A : Nat → Prop) (U : State) (H : Heap) : Prop :=
  (∀ c n j : Nat, pm_kd c = .inl (5, n, j) → va_X (ad c) n (pm_ct j) U H ∧ ¬ A (ad c)) ∧
  (∀ c n j : Nat, pm_kd c = .inl (6, n, j) → va_T .byte (ad c) n (fun i => .int (pm_ct j i)) A U H) ∧
  (∀ c v : Nat, pm_kd c = .inr (100, [v]) → va_O "java/lang/String" (ad c) A U H ∧ va_OF "java/lang/String" "coder" "B" (.int 0) (ad c) A U H ∧ va_OF "java/lang/String" "value" "[B" (.ref (ad v)) (ad c) A U H) ∧
  (∀ q ∈ pm_sr, va_Z q.1 q.2.1 q.2.2.1 (.ref (ad q.2.2.2)) A U H) ∧
  (∀ q ∈ pm_si, va_Z q.1 q.2.1 q.2.2.1 (.int q.2.2.2) A U H) ∧
  (∀ q ∈ pm_sl, vk_R q.1 q.2.1 q.2.2.1 (ad q.2.2.2) U) ∧
  va_Zq "jdk/internal/util/Preconditions" "SIOOBE_FORMATTER" "Ljava/util/function/BiFunction;" A U H
theorem pm_X_kept {b L : Nat} {xs : Nat → Int32} {A : Nat → Prop} {U : State} {H H1 : Heap} (h : va_X b L xs U H) (hA : ¬ A b) (hq : ∀ a : Nat, a < H.size → ¬ A a → H1[a]? = H[a]?) : va_X b L xs U H1 := by
  obtain ⟨scr, h1, h2⟩ := h
  exact ⟨scr, by rw [hq b (Array.getElem?_eq_some_iff.mp h1).1 hA]; exact h1, h2⟩
theorem pm_Ct_kept {ad : Nat → Nat} {A : Nat → Prop} {U : State} {H H1 : Heap} (h : pm_Ct ad A U H) (hq : ∀ a : Nat, a < H.size → ¬ A a → H1[a]? = H[a]?) : pm_Ct ad A U H1 := by
  obtain ⟨h1, h2, h3, h4, h5, h6, h7⟩ := h
  exact ⟨fun c n j e => ⟨pm_X_kept (h1 c n j e).1 (h1 c n j e).2 hq, (h1 c n j e).2⟩, fun c n j e => (h2 c n j e).kept hq, fun c v e => ⟨(h3 c v e).1.kept hq, (h3 c v e).2.1.kept hq, (h3 c v e).2.2.kept hq⟩, fun q e => (h4 q e).kept hq, fun q e => (h5 q e).kept hq, h6, h7.kept hq⟩
theorem pm_Ct_moved {ad : Nat → Nat} {A : Nat → Prop} {s U : State} {H : Heap} (hW : s.WarmedH U.vm) (h : pm_Ct ad A s H) : pm_Ct ad A U H := by
  obtain ⟨h1, h2, h3, h4, h5, h6, h7⟩ := h
  have hv := hW.alike
  exact ⟨fun c n j e => ⟨va_X.moved hv (h1 c n j e).1, (h1 c n j e).2⟩, fun c n j e => (h2 c n j e).moved hv, fun c v e => ⟨(h3 c v e).1.moved hv, (h3 c v e).2.1.moved hv, (h3 c v e).2.2.moved hv⟩, fun q e => (h4 q e).moved hv, fun q e => (h5 q e).moved hv, fun q e => (h6 q e).warm hW, h7.moved hv⟩
/-- the world: the cells as the numbers say, the tables, what is never written -/
def pm_Wd (D : va_G) (cA : Nat → ClassId) (ad : Nat → Nat) (A : Nat → Prop) (σ : pm_H) (U : State) : Prop :=
  va_P D vwCl (pm_ws cA ad σ) U.heap ∧ va_K D vwCl (pm_tys cA) U ∧ pm_Ct ad A U U.heap
def pm_Qc (D : va_G) (cA : Nat → ClassId) (ad : Nat → Nat) (A : Nat → Prop) (r : pm_R) : Array Value → State → Outcome → State → Prop := fun _ st o t =>
  o = .returned (r.1.map (pm_cv ad)) ∧ va_P D vwCl (pm_ws cA ad r.2) t.heap ∧ va_F A st t
def pm_rm (d : Nat) : Room := { frames := d + 1, cells := 0, slots := 0, locals := 64 * (d + 1) }
def pm_wl (i : pm_MI) : List Cond := Cond.code i.1 i.2.1 i.2.2.1 i.2.2.2 :: pm_TB
/-- what is known of a method's body while it goes -/
def pm_C (p : Program) (s : State) (m : MethodId) (args : Array Value) (meth : Method) (c : Code) (R : Room) (cells slots d : Nat) (D : va_G) (cA : Nat → ClassId) (ad : Nat → Nat) (A : Nat → Prop) (X : State → (Nat → Nat) → (Nat → Prop) → Prop) (own : String) (cc : ByteArray) (nL : Nat) (ret : Option FieldType) : Prop :=
  (p.tables.exec = Jvm.exec ∧ c.code = cc ∧ c.maxLocals = nL ∧ s.vm.findClass own = some m.cls ∧ (∀ w ∈ pm_TB, w.before args s = true)) ∧
  (meth.sig.returnType = ret ∧ meth.locks = false) ∧
  (d + 1 ≤ R.frames ∧ 64 * (d + 1) ≤ R.locals ∧ cells ≤ R.cells ∧ slots ≤ R.slots) ∧
  (va_K D vwCl (pm_tys cA) s ∧ pm_J ad A ∧ pm_Ct ad A s s.heap ∧ X s ad A)
/-- the calls are met, one frame less -/
def pm_Eo (l : Launch) (d : Nat) (D : va_G) (cA : Nat → ClassId) (ad : Nat → Nat) (A : Nat → Prop) (ev : pm_Ev) : Prop :=
  ∀ (μ : Nat) (as : List Value) (σ : pm_H) (r : pm_R), ev μ as σ = some r → ∃ d', d = d' + 1 ∧ Met l (pm_M μ).1 (pm_wl (pm_M μ)) (pm_rm d') (va_Pc (as.map (pm_cv ad)) (fun U => pm_Wd D cA ad A σ U)) (pm_Qc D cA ad A r) 0 0 A
def pm_G (p : Program) (l : Launch) (e : Env) (R : Room) (s : State) (m : MethodId) (args : Array Value) (below : List Frame) (meth : Method) (c : Code) (cells slots : Nat) (D : va_G) (cA : Nat → ClassId) (ad : Nat → Nat) (A : Nat → Prop) (nL : Nat) (Q : State → Prop) (g : pm_S) : Prop :=
  ∀ (H : Heap) (locs : List Loc) (ls : Array Slot), pm_L ad nL g.2.1 ls → va_P D vwCl (pm_ws cA ad g.2.2.2) H → va_S A s.heap H locs → W p l e R s m args below meth c H locs cells slots Q (F0 m g.1 ls (g.2.2.1.map (pm_cv ad)))
def pm_nx (G : pm_S → Prop) (F : pm_R → Prop) (o : pm_S ⊕ pm_R) : Prop := match o with
  | .inl g => G g
  | .inr r => F r
/-- a step is sound -/
def pm_Snd (X : State → (Nat → Nat) → (Nat → Prop) → Prop) (own : String) (cc : ByteArray) (nL : Nat) (ret : Option FieldType) (pc : Nat) (f : pm_F) : Prop :=
  ∀ (p : Program) (l : Launch) (e : Env) (R : Room) (s : State) (m : MethodId) (args : Array Value) (below : List Frame) (meth : Method) (c : Code) (cells slots d : Nat) (D : va_G) (cA : Nat → ClassId) (ad : Nat → Nat) (A : Nat → Prop) (Q : State → Prop) (ev : pm_Ev),
    pm_C p s m args meth c R cells slots d D cA ad A X own cc nL ret → pm_Eo l d D cA ad A ev → ∀ (L st : List Value) (σ : pm_H) (o : pm_S ⊕ pm_R), f ev (pc, L, st, σ) = some o →
    pm_nx (fun g => pm_G p l e R s m args below meth c cells slots D cA ad A nL Q g) (fun r => cells = 0 ∧ slots = 0 ∧ Q = MQ below (pm_Qc D cA ad A r) args s 0 0 A) o →
    pm_G p l e R s m args below meth c cells slots D cA ad A nL Q (pc, L, st, σ)
/-! ===== the steps, each sound ===== -/
def pm_ci (v : Int32) (n : Nat) : pm_F := fun _ g => some (.inl (g.1 + n, g.2.1, .int v :: g.2.2.1, g.2.2.2))
def pm_cj (v : Int64) (n : Nat) : pm_F := fun _ g => some (.inl (g.1 + n, g.2.1, .long v :: g.2.2.1, g.2.2.2))
def pm_cr (v n : Nat) : pm_F := fun _ g => some (.inl (g.1 + n, g.2.1, .ref v :: g.2.2.1, g.2.2.2))

theorem ps_iconst {X : State → (Nat → Nat) → (Nat → Prop) → Prop} {own : String} {cc : ByteArray} {nL : Nat} {ret : Option FieldType} {pc : Nat} {n : Int} {v : Int32} (hd : decode cc pc = .ok (.iconst n, 1)) (hv : Int32.ofInt n = v) : pm_Snd X own cc nL ret pc (pm_ci v 1) := by
  intro p l e R s m args below meth co cells slots d D cA ad A Q ev hC hE L st σ o h k
  obtain ⟨⟨hx, hb, hml, hown, hts⟩, ⟨hr, hlk⟩, ⟨hR1, hR2, hR3, hR4⟩, hK, hJ, hCt, hX⟩ := hC
  cases h
  exact fun H locs ls hL hP hS => lv_iconst hx hb hd hv (k H locs ls hL hP hS)

theorem ps_bipush {X : State → (Nat → Nat) → (Nat → Prop) → Prop} {own : String} {cc : ByteArray} {nL : Nat} {ret : Option FieldType} {pc : Nat} {n : Int} {v : Int32} (hd : decode cc pc = .ok (.bipush n, 2)) (hv : (Int8.ofInt n).toInt32 = v) : pm_Snd X own cc nL ret pc (pm_ci v 2) := by
  intro p l e R s m args below meth co cells slots d D cA ad A Q ev hC hE L st σ o h k
  obtain ⟨⟨hx, hb, hml, hown, hts⟩, ⟨hr, hlk⟩, ⟨hR1, hR2, hR3, hR4⟩, hK, hJ, hCt, hX⟩ := hC
  cases h
  exact fun H locs ls hL hP hS => lv_bipush hx hb hd hv (k H locs ls hL hP hS)

theorem ps_sipush {X : State → (Nat → Nat) → (Nat → Prop) → Prop} {own : String} {cc : ByteArray} {nL : Nat} {ret : Option FieldType} {pc : Nat} {n : Int} {v : Int32} (hd : decode cc pc = .ok (.sipush n, 3)) (hv : (Int16.ofInt n).toInt32 = v) : pm_Snd X own cc nL ret pc (pm_ci v 3) := by
  intro p l e R s m args below meth co cells slots d D cA ad A Q ev hC hE L st σ o h k
  obtain ⟨⟨hx, hb, hml, hown, hts⟩, ⟨hr, hlk⟩, ⟨hR1, hR2, hR3, hR4⟩, hK, hJ, hCt, hX⟩ := hC
  cases h
  exact fun H locs ls hL hP hS => lv_sipush hx hb hd hv (k H locs ls hL hP hS)

theorem ps_lconst {X : State → (Nat → Nat) → (Nat → Prop) → Prop} {own : String} {cc : ByteArray} {nL : Nat} {ret : Option FieldType} {pc : Nat} {n : Fin 2} {v : Int64} (hd : decode cc pc = .ok (.lconst n, 1)) (hv : Int64.ofNat (n : Nat) = v) : pm_Snd X own cc nL ret pc (pm_cj v 1) := by
  intro p l e R s m args below meth co cells slots d D cA ad A Q ev hC hE L st σ o h k
  obtain ⟨⟨hx, hb, hml, hown, hts⟩, ⟨hr, hlk⟩, ⟨hR1, hR2, hR3, hR4⟩, hK, hJ, hCt, hX⟩ := hC
  cases h
  exact fun H locs ls hL hP hS => lv_lconst hx hb hd hv (k H locs ls hL hP hS)

theorem ps_ldc {X : State → (Nat → Nat) → (Nat → Prop) → Prop} {own : String} {cc : ByteArray} {nL : Nat} {ret : Option FieldType} {pc : Nat} {i : Nat} {v : Int32} (hd : decode cc pc = .ok (.ldc i, 2)) (hw : Jvm.Cond.constant own i v ∈ pm_TB) : pm_Snd X own cc nL ret pc (pm_ci v 2) := by
  intro p l e R s m args below meth co cells slots d D cA ad A Q ev hC hE L st σ o h k
  obtain ⟨⟨hx, hb, hml, hown, hts⟩, ⟨hr, hlk⟩, ⟨hR1, hR2, hR3, hR4⟩, hK, hJ, hCt, hX⟩ := hC
  cases h
  exact fun H locs ls hL hP hS => lv_ldc hx hb hown (hts _ hw) hd (k H locs ls hL hP hS)

theorem ps_ldcw {X : State → (Nat → Nat) → (Nat → Prop) → Prop} {own : String} {cc : ByteArray} {nL : Nat} {ret : Option FieldType} {pc : Nat} {i : Nat} {v : Int32} (hd : decode cc pc = .ok (.ldc_w i, 3)) (hw : Jvm.Cond.constant own i v ∈ pm_TB) : pm_Snd X own cc nL ret pc (pm_ci v 3) := by
  intro p l e R s m args below meth co cells slots d D cA ad A Q ev hC hE L st σ o h k
  obtain ⟨⟨hx, hb, hml, hown, hts⟩, ⟨hr, hlk⟩, ⟨hR1, hR2, hR3, hR4⟩, hK, hJ, hCt, hX⟩ := hC
  cases h
  exact fun H locs ls hL hP hS => lv_ldcw hx hb hown (hts _ hw) hd (k H locs ls hL hP hS)

theorem ps_ldc2 {X : State → (Nat → Nat) → (Nat → Prop) → Prop} {own : String} {cc : ByteArray} {nL : Nat} {ret : Option FieldType} {pc : Nat} {i : Nat} {v : Int64} (hd : decode cc pc = .ok (.ldc2_w i, 3)) (hw : Jvm.Cond.constantLong own i v ∈ pm_TB) : pm_Snd X own cc nL ret pc (pm_cj v 3) := by
  intro p l e R s m args below meth co cells slots d D cA ad A Q ev hC hE L st σ o h k
  obtain ⟨⟨hx, hb, hml, hown, hts⟩, ⟨hr, hlk⟩, ⟨hR1, hR2, hR3, hR4⟩, hK, hJ, hCt, hX⟩ := hC
  cases h
  exact fun H locs ls hL hP hS => lv_ldc2 hx hb hown (hts _ hw) hd (k H locs ls hL hP hS)

def pm_il (i n : Nat) : pm_F := fun _ g => match g.2.1[i]? with
  | some (.int x) => some (.inl (g.1 + n, g.2.1, .int x :: g.2.2.1, g.2.2.2))
  | _ => none

theorem ps_iload_n {X : State → (Nat → Nat) → (Nat → Prop) → Prop} {own : String} {cc : ByteArray} {nL : Nat} {ret : Option FieldType} {pc : Nat} {q : Fin 4} {i : Nat} (hd : decode cc pc = .ok (.iload_n q, 1)) (hi : (q : Nat) = i) : pm_Snd X own cc nL ret pc (pm_il i 1) := by
  intro p l e R s m args below meth co cells slots d D cA ad A Q ev hC hE L st σ o h k
  obtain ⟨⟨hx, hb, hml, hown, hts⟩, ⟨hr, hlk⟩, ⟨hR1, hR2, hR3, hR4⟩, hK, hJ, hCt, hX⟩ := hC
  dsimp only [pm_il] at h
  split at h
  · rename_i x hx0
    cases h
    exact fun H locs ls hL hP hS => lv_iload_n hx hb hd hi (hL.at hx0 (fun z => by cases z)) (k H locs ls hL hP hS)
  · cases h

theorem ps_iload {X : State → (Nat → Nat) → (Nat → Prop) → Prop} {own : String} {cc : ByteArray} {nL : Nat} {ret : Option FieldType} {pc : Nat} {i : Nat} (hd : decode cc pc = .ok (.iload i, 2)) : pm_Snd X own cc nL ret pc (pm_il i 2) := by
  intro p l e R s m args below meth co cells slots d D cA ad A Q ev hC hE L st σ o h k
  obtain ⟨⟨hx, hb, hml, hown, hts⟩, ⟨hr, hlk⟩, ⟨hR1, hR2, hR3, hR4⟩, hK, hJ, hCt, hX⟩ := hC
  dsimp only [pm_il] at h
  split at h
  · rename_i x hx0
    cases h
    exact fun H locs ls hL hP hS => lv_iload hx hb hd (hL.at hx0 (fun z => by cases z)) (k H locs ls hL hP hS)
  · cases h

def pm_ll (i n : Nat) : pm_F := fun _ g => match g.2.1[i]? with
  | some (.long x) => some (.inl (g.1 + n, g.2.1, .long x :: g.2.2.1, g.2.2.2))
  | _ => none

theorem ps_lload_n {X : State → (Nat → Nat) → (Nat → Prop) → Prop} {own : String} {cc : ByteArray} {nL : Nat} {ret : Option FieldType} {pc : Nat} {q : Fin 4} {i : Nat} (hd : decode cc pc = .ok (.lload_n q, 1)) (hi : (q : Nat) = i) : pm_Snd X own cc nL ret pc (pm_ll i 1) := by
  intro p l e R s m args below meth co cells slots d D cA ad A Q ev hC hE L st σ o h k
  obtain ⟨⟨hx, hb, hml, hown, hts⟩, ⟨hr, hlk⟩, ⟨hR1, hR2, hR3, hR4⟩, hK, hJ, hCt, hX⟩ := hC
  dsimp only [pm_ll] at h
  split at h
  · rename_i x hx0
    cases h
    exact fun H locs ls hL hP hS => lv_lload_n hx hb hd hi (hL.at hx0 (fun z => by cases z)) (k H locs ls hL hP hS)
  · cases h

theorem ps_lload {X : State → (Nat → Nat) → (Nat → Prop) → Prop} {own : String} {cc : ByteArray} {nL : Nat} {ret : Option FieldType} {pc : Nat} {i : Nat} (hd : decode cc pc = .ok (.lload i, 2)) : pm_Snd X own cc nL ret pc (pm_ll i 2) := by
  intro p l e R s m args below meth co cells slots d D cA ad A Q ev hC hE L st σ o h k
  obtain ⟨⟨hx, hb, hml, hown, hts⟩, ⟨hr, hlk⟩, ⟨hR1, hR2, hR3, hR4⟩, hK, hJ, hCt, hX⟩ := hC
  dsimp only [pm_ll] at h
  split at h
  · rename_i x hx0
    cases h
    exact fun H locs ls hL hP hS => lv_lload hx hb hd (hL.at hx0 (fun z => by cases z)) (k H locs ls hL hP hS)
  · cases h

def pm_al (i n : Nat) : pm_F := fun _ g => match g.2.1[i]? with
  | some (.ref x) => some (.inl (g.1 + n, g.2.1, .ref x :: g.2.2.1, g.2.2.2))
  | _ => none

theorem ps_aload_n {X : State → (Nat → Nat) → (Nat → Prop) → Prop} {own : String} {cc : ByteArray} {nL : Nat} {ret : Option FieldType} {pc : Nat} {q : Fin 4} {i : Nat} (hd : decode cc pc = .ok (.aload_n q, 1)) (hi : (q : Nat) = i) : pm_Snd X own cc nL ret pc (pm_al i 1) := by
  intro p l e R s m args below meth co cells slots d D cA ad A Q ev hC hE L st σ o h k
  obtain ⟨⟨hx, hb, hml, hown, hts⟩, ⟨hr, hlk⟩, ⟨hR1, hR2, hR3, hR4⟩, hK, hJ, hCt, hX⟩ := hC
  dsimp only [pm_al] at h
  split at h
  · rename_i x hx0
    cases h
    exact fun H locs ls hL hP hS => lv_aload_n hx hb hd hi (hL.at hx0 (fun z => by cases z)) (k H locs ls hL hP hS)
  · cases h

theorem ps_aload {X : State → (Nat → Nat) → (Nat → Prop) → Prop} {own : String} {cc : ByteArray} {nL : Nat} {ret : Option FieldType} {pc : Nat} {i : Nat} (hd : decode cc pc = .ok (.aload i, 2)) : pm_Snd X own cc nL ret pc (pm_al i 2) := by
  intro p l e R s m args below meth co cells slots d D cA ad A Q ev hC hE L st σ o h k
  obtain ⟨⟨hx, hb, hml, hown, hts⟩, ⟨hr, hlk⟩, ⟨hR1, hR2, hR3, hR4⟩, hK, hJ, hCt, hX⟩ := hC
  dsimp only [pm_al] at h
  split at h
  · rename_i x hx0
    cases h
    exact fun H locs ls hL hP hS => lv_aload hx hb hd (hL.at hx0 (fun z => by cases z)) (k H locs ls hL hP hS)
  · cases h

def pm_is (i n : Nat) : pm_F := fun _ g => match g.2.2.1 with
  | .int x :: st => if i < g.2.1.length then some (.inl (g.1 + n, pm_s1 g.2.1 i (.int x), st, g.2.2.2)) else none
  | _ => none

theorem ps_istore_n {X : State → (Nat → Nat) → (Nat → Prop) → Prop} {own : String} {cc : ByteArray} {nL : Nat} {ret : Option FieldType} {pc : Nat} {q : Fin 4} {i : Nat} (hd : decode cc pc = .ok (.istore_n q, 1)) (hi : (q : Nat) = i) : pm_Snd X own cc nL ret pc (pm_is i 1) := by
  intro p l e R s m args below meth co cells slots d D cA ad A Q ev hC hE L st σ o h k
  obtain ⟨⟨hx, hb, hml, hown, hts⟩, ⟨hr, hlk⟩, ⟨hR1, hR2, hR3, hR4⟩, hK, hJ, hCt, hX⟩ := hC
  dsimp only [pm_is] at h
  split at h
  · rename_i x rest
    split at h
    · rename_i hi0
      cases h
      exact fun H locs ls hL hP hS => lv_istore_n hx hb hd hi hL.2 (by rw [← hL.1]; exact hi0) rfl (fun ls' hl => k H locs ls' (pm_L_s1 (v := .int x) hL.1 hl) hP hS)
    · cases h
  · cases h

theorem ps_istore {X : State → (Nat → Nat) → (Nat → Prop) → Prop} {own : String} {cc : ByteArray} {nL : Nat} {ret : Option FieldType} {pc : Nat} {i : Nat} (hd : decode cc pc = .ok (.istore i, 2)) : pm_Snd X own cc nL ret pc (pm_is i 2) := by
  intro p l e R s m args below meth co cells slots d D cA ad A Q ev hC hE L st σ o h k
  obtain ⟨⟨hx, hb, hml, hown, hts⟩, ⟨hr, hlk⟩, ⟨hR1, hR2, hR3, hR4⟩, hK, hJ, hCt, hX⟩ := hC
  dsimp only [pm_is] at h
  split at h
  · rename_i x rest
    split at h
    · rename_i hi0
      cases h
      exact fun H locs ls hL hP hS => lv_istore hx hb hd hL.2 (by rw [← hL.1]; exact hi0) rfl (fun ls' hl => k H locs ls' (pm_L_s1 (v := .int x) hL.1 hl) hP hS)
    · cases h
  · cases h

def pm_az (i n : Nat) : pm_F := fun _ g => match g.2.2.1 with
  | .ref x :: st => if i < g.2.1.length then some (.inl (g.1 + n, pm_s1 g.2.1 i (.ref x), st, g.2.2.2)) else none
  | _ => none

theorem ps_astore_n {X : State → (Nat → Nat) → (Nat → Prop) → Prop} {own : String} {cc : ByteArray} {nL : Nat} {ret : Option FieldType} {pc : Nat} {q : Fin 4} {i : Nat} (hd : decode cc pc = .ok (.astore_n q, 1)) (hi : (q : Nat) = i) : pm_Snd X own cc nL ret pc (pm_az i 1) := by
  intro p l e R s m args below meth co cells slots d D cA ad A Q ev hC hE L st σ o h k
  obtain ⟨⟨hx, hb, hml, hown, hts⟩, ⟨hr, hlk⟩, ⟨hR1, hR2, hR3, hR4⟩, hK, hJ, hCt, hX⟩ := hC
  dsimp only [pm_az] at h
  split at h
  · rename_i x rest
    split at h
    · rename_i hi0
      cases h
      exact fun H locs ls hL hP hS => lv_astore_n hx hb hd hi hL.2 (by rw [← hL.1]; exact hi0) rfl (fun ls' hl => k H locs ls' (pm_L_s1 (v := .ref x) hL.1 hl) hP hS)
    · cases h
  · cases h

theorem ps_astore {X : State → (Nat → Nat) → (Nat → Prop) → Prop} {own : String} {cc : ByteArray} {nL : Nat} {ret : Option FieldType} {pc : Nat} {i : Nat} (hd : decode cc pc = .ok (.astore i, 2)) : pm_Snd X own cc nL ret pc (pm_az i 2) := by
  intro p l e R s m args below meth co cells slots d D cA ad A Q ev hC hE L st σ o h k
  obtain ⟨⟨hx, hb, hml, hown, hts⟩, ⟨hr, hlk⟩, ⟨hR1, hR2, hR3, hR4⟩, hK, hJ, hCt, hX⟩ := hC
  dsimp only [pm_az] at h
  split at h
  · rename_i x rest
    split at h
    · rename_i hi0
      cases h
      exact fun H locs ls hL hP hS => lv_astore hx hb hd hL.2 (by rw [← hL.1]; exact hi0) rfl (fun ls' hl => k H locs ls' (pm_L_s1 (v := .ref x) hL.1 hl) hP hS)
    · cases h
  · cases h

def pm_lz (i n : Nat) : pm_F := fun _ g => match g.2.2.1 with
  | .long x :: st => if i + 1 < g.2.1.length then some (.inl (g.1 + n, pm_s2 g.2.1 i (.long x), st, g.2.2.2)) else none
  | _ => none

theorem ps_lstore_n {X : State → (Nat → Nat) → (Nat → Prop) → Prop} {own : String} {cc : ByteArray} {nL : Nat} {ret : Option FieldType} {pc : Nat} {q : Fin 4} {i : Nat} (hd : decode cc pc = .ok (.lstore_n q, 1)) (hi : (q : Nat) = i) : pm_Snd X own cc nL ret pc (pm_lz i 1) := by
  intro p l e R s m args below meth co cells slots d D cA ad A Q ev hC hE L st σ o h k
  obtain ⟨⟨hx, hb, hml, hown, hts⟩, ⟨hr, hlk⟩, ⟨hR1, hR2, hR3, hR4⟩, hK, hJ, hCt, hX⟩ := hC
  dsimp only [pm_lz] at h
  split at h
  · rename_i x rest
    split at h
    · rename_i hi0
      cases h
      exact fun H locs ls hL hP hS => lv_lstore_n hx hb hd hi hL.2 (by rw [← hL.1]; exact hi0) rfl (fun ls' hl => k H locs ls' (pm_L_s2 (v := .long x) hL.1 hl) hP hS)
    · cases h
  · cases h

theorem ps_lstore {X : State → (Nat → Nat) → (Nat → Prop) → Prop} {own : String} {cc : ByteArray} {nL : Nat} {ret : Option FieldType} {pc : Nat} {i : Nat} (hd : decode cc pc = .ok (.lstore i, 2)) : pm_Snd X own cc nL ret pc (pm_lz i 2) := by
  intro p l e R s m args below meth co cells slots d D cA ad A Q ev hC hE L st σ o h k
  obtain ⟨⟨hx, hb, hml, hown, hts⟩, ⟨hr, hlk⟩, ⟨hR1, hR2, hR3, hR4⟩, hK, hJ, hCt, hX⟩ := hC
  dsimp only [pm_lz] at h
  split at h
  · rename_i x rest
    split at h
    · rename_i hi0
      cases h
      exact fun H locs ls hL hP hS => lv_lstore hx hb hd hL.2 (by rw [← hL.1]; exact hi0) rfl (fun ls' hl => k H locs ls' (pm_L_s2 (v := .long x) hL.1 hl) hP hS)
    · cases h
  · cases h

def pm_inc (i : Nat) (v : Int32) : pm_F := fun _ g => match g.2.1[i]? with
  | some (.int x) => some (.inl (g.1 + 3, pm_s1 g.2.1 i (.int (x + v)), g.2.2.1, g.2.2.2))
  | _ => none

theorem ps_iinc {X : State → (Nat → Nat) → (Nat → Prop) → Prop} {own : String} {cc : ByteArray} {nL : Nat} {ret : Option FieldType} {pc : Nat} {i : Nat} {n : Int} {v : Int32} (hd : decode cc pc = .ok (.iinc i n, 3)) (hv : Int32.ofInt n = v) : pm_Snd X own cc nL ret pc (pm_inc i v) := by
  intro p l e R s m args below meth co cells slots d D cA ad A Q ev hC hE L st σ o h k
  obtain ⟨⟨hx, hb, hml, hown, hts⟩, ⟨hr, hlk⟩, ⟨hR1, hR2, hR3, hR4⟩, hK, hJ, hCt, hX⟩ := hC
  subst hv
  dsimp only [pm_inc] at h
  split at h
  · rename_i x hx0
    cases h
    intro H locs ls hL hP hS
    have hm := pm_as_in (ad := ad) L 0 i (.int x) hx0 (fun z => by cases z)
    obtain ⟨j, hj⟩ := List.getElem?_of_mem hm
    exact lv_iinc (k := j) hx hb hd hL.2 (by rw [hj]; simp [pm_cv]) rfl (by rw [← hL.1]; exact (List.getElem?_eq_some_iff.mp hx0).1) rfl (fun ls' hl => k H locs ls' (pm_L_s1 (v := .int (x + Int32.ofInt n)) hL.1 hl) hP hS)
  · cases h

def pm_b2 (op : Int32 → Int32 → Int32) : pm_F := fun _ g => match g.2.2.1 with
  | .int y :: .int x :: st => some (.inl (g.1 + 1, g.2.1, .int (op x y) :: st, g.2.2.2))
  | _ => none
def pm_d2 (op : Int32 → Int32 → Int32) : pm_F := fun _ g => match g.2.2.1 with
  | .int y :: .int x :: st => if y = 0 then none else some (.inl (g.1 + 1, g.2.1, .int (op x y) :: st, g.2.2.2))
  | _ => none
def pm_j2 (op : Int64 → Int64 → Int64) : pm_F := fun _ g => match g.2.2.1 with
  | .long y :: .long x :: st => some (.inl (g.1 + 1, g.2.1, .long (op x y) :: st, g.2.2.2))
  | _ => none
def pm_e2 (op : Int64 → Int64 → Int64) : pm_F := fun _ g => match g.2.2.1 with
  | .long y :: .long x :: st => if y = 0 then none else some (.inl (g.1 + 1, g.2.1, .long (op x y) :: st, g.2.2.2))
  | _ => none
def pm_js (op : Int64 → Int32 → Int64) : pm_F := fun _ g => match g.2.2.1 with
  | .int y :: .long x :: st => some (.inl (g.1 + 1, g.2.1, .long (op x y) :: st, g.2.2.2))
  | _ => none
def pm_u1 (op : Int32 → Int32) : pm_F := fun _ g => match g.2.2.1 with
  | .int x :: st => some (.inl (g.1 + 1, g.2.1, .int (op x) :: st, g.2.2.2))
  | _ => none
def pm_i2l : pm_F := fun _ g => match g.2.2.1 with
  | .int x :: st => some (.inl (g.1 + 1, g.2.1, .long x.toInt64 :: st, g.2.2.2))
  | _ => none
def pm_l2i : pm_F := fun _ g => match g.2.2.1 with
  | .long x :: st => some (.inl (g.1 + 1, g.2.1, .int x.toInt32 :: st, g.2.2.2))
  | _ => none
def pm_lcmp : pm_F := fun _ g => match g.2.2.1 with
  | .long y :: .long x :: st => some (.inl (g.1 + 1, g.2.1, .int (lg_cmp x y) :: st, g.2.2.2))
  | _ => none

theorem ps_iadd {X : State → (Nat → Nat) → (Nat → Prop) → Prop} {own : String} {cc : ByteArray} {nL : Nat} {ret : Option FieldType} {pc : Nat} (hd : decode cc pc = .ok (.iadd, 1)) : pm_Snd X own cc nL ret pc (pm_b2 fun x y => x + y) := by
  intro p l e R s m args below meth co cells slots d D cA ad A Q ev hC hE L st σ o h k
  obtain ⟨⟨hx, hb, hml, hown, hts⟩, ⟨hr, hlk⟩, ⟨hR1, hR2, hR3, hR4⟩, hK, hJ, hCt, hX⟩ := hC
  dsimp only [pm_b2] at h
  split at h
  · rename_i y x rest
    cases h
    exact fun H locs ls hL hP hS => lv_iadd hx hb hd (k H locs ls hL hP hS)
  · cases h

theorem ps_isub {X : State → (Nat → Nat) → (Nat → Prop) → Prop} {own : String} {cc : ByteArray} {nL : Nat} {ret : Option FieldType} {pc : Nat} (hd : decode cc pc = .ok (.isub, 1)) : pm_Snd X own cc nL ret pc (pm_b2 fun x y => x - y) := by
  intro p l e R s m args below meth co cells slots d D cA ad A Q ev hC hE L st σ o h k
  obtain ⟨⟨hx, hb, hml, hown, hts⟩, ⟨hr, hlk⟩, ⟨hR1, hR2, hR3, hR4⟩, hK, hJ, hCt, hX⟩ := hC
  dsimp only [pm_b2] at h
  split at h
  · rename_i y x rest
    cases h
    exact fun H locs ls hL hP hS => lv_isub hx hb hd (k H locs ls hL hP hS)
  · cases h

theorem ps_imul {X : State → (Nat → Nat) → (Nat → Prop) → Prop} {own : String} {cc : ByteArray} {nL : Nat} {ret : Option FieldType} {pc : Nat} (hd : decode cc pc = .ok (.imul, 1)) : pm_Snd X own cc nL ret pc (pm_b2 fun x y => x * y) := by
  intro p l e R s m args below meth co cells slots d D cA ad A Q ev hC hE L st σ o h k
  obtain ⟨⟨hx, hb, hml, hown, hts⟩, ⟨hr, hlk⟩, ⟨hR1, hR2, hR3, hR4⟩, hK, hJ, hCt, hX⟩ := hC
  dsimp only [pm_b2] at h
  split at h
  · rename_i y x rest
    cases h
    exact fun H locs ls hL hP hS => lv_imul hx hb hd (k H locs ls hL hP hS)
  · cases h

theorem ps_iand {X : State → (Nat → Nat) → (Nat → Prop) → Prop} {own : String} {cc : ByteArray} {nL : Nat} {ret : Option FieldType} {pc : Nat} (hd : decode cc pc = .ok (.iand, 1)) : pm_Snd X own cc nL ret pc (pm_b2 fun x y => x &&& y) := by
  intro p l e R s m args below meth co cells slots d D cA ad A Q ev hC hE L st σ o h k
  obtain ⟨⟨hx, hb, hml, hown, hts⟩, ⟨hr, hlk⟩, ⟨hR1, hR2, hR3, hR4⟩, hK, hJ, hCt, hX⟩ := hC
  dsimp only [pm_b2] at h
  split at h
  · rename_i y x rest
    cases h
    exact fun H locs ls hL hP hS => lv_iand hx hb hd (k H locs ls hL hP hS)
  · cases h

theorem ps_ior {X : State → (Nat → Nat) → (Nat → Prop) → Prop} {own : String} {cc : ByteArray} {nL : Nat} {ret : Option FieldType} {pc : Nat} (hd : decode cc pc = .ok (.ior, 1)) : pm_Snd X own cc nL ret pc (pm_b2 fun x y => x ||| y) := by
  intro p l e R s m args below meth co cells slots d D cA ad A Q ev hC hE L st σ o h k
  obtain ⟨⟨hx, hb, hml, hown, hts⟩, ⟨hr, hlk⟩, ⟨hR1, hR2, hR3, hR4⟩, hK, hJ, hCt, hX⟩ := hC
  dsimp only [pm_b2] at h
  split at h
  · rename_i y x rest
    cases h
    exact fun H locs ls hL hP hS => lv_ior hx hb hd (k H locs ls hL hP hS)
  · cases h

theorem ps_ixor {X : State → (Nat → Nat) → (Nat → Prop) → Prop} {own : String} {cc : ByteArray} {nL : Nat} {ret : Option FieldType} {pc : Nat} (hd : decode cc pc = .ok (.ixor, 1)) : pm_Snd X own cc nL ret pc (pm_b2 fun x y => x ^^^ y) := by
  intro p l e R s m args below meth co cells slots d D cA ad A Q ev hC hE L st σ o h k
  obtain ⟨⟨hx, hb, hml, hown, hts⟩, ⟨hr, hlk⟩, ⟨hR1, hR2, hR3, hR4⟩, hK, hJ, hCt, hX⟩ := hC
  dsimp only [pm_b2] at h
  split at h
  · rename_i y x rest
    cases h
    exact fun H locs ls hL hP hS => lv_ixor hx hb hd (k H locs ls hL hP hS)
  · cases h

theorem ps_ishl {X : State → (Nat → Nat) → (Nat → Prop) → Prop} {own : String} {cc : ByteArray} {nL : Nat} {ret : Option FieldType} {pc : Nat} (hd : decode cc pc = .ok (.ishl, 1)) : pm_Snd X own cc nL ret pc (pm_b2 fun x y => x <<< (y &&& 31)) := by
  intro p l e R s m args below meth co cells slots d D cA ad A Q ev hC hE L st σ o h k
  obtain ⟨⟨hx, hb, hml, hown, hts⟩, ⟨hr, hlk⟩, ⟨hR1, hR2, hR3, hR4⟩, hK, hJ, hCt, hX⟩ := hC
  dsimp only [pm_b2] at h
  split at h
  · rename_i y x rest
    cases h
    exact fun H locs ls hL hP hS => lv_ishl hx hb hd (k H locs ls hL hP hS)
  · cases h

theorem ps_ishr {X : State → (Nat → Nat) → (Nat → Prop) → Prop} {own : String} {cc : ByteArray} {nL : Nat} {ret : Option FieldType} {pc : Nat} (hd : decode cc pc = .ok (.ishr, 1)) : pm_Snd X own cc nL ret pc (pm_b2 fun x y => x >>> (y &&& 31)) := by
  intro p l e R s m args below meth co cells slots d D cA ad A Q ev hC hE L st σ o h k
  obtain ⟨⟨hx, hb, hml, hown, hts⟩, ⟨hr, hlk⟩, ⟨hR1, hR2, hR3, hR4⟩, hK, hJ, hCt, hX⟩ := hC
  dsimp only [pm_b2] at h
  split at h
  · rename_i y x rest
    cases h
    exact fun H locs ls hL hP hS => lv_ishr hx hb hd (k H locs ls hL hP hS)
  · cases h

theorem ps_iushr {X : State → (Nat → Nat) → (Nat → Prop) → Prop} {own : String} {cc : ByteArray} {nL : Nat} {ret : Option FieldType} {pc : Nat} (hd : decode cc pc = .ok (.iushr, 1)) : pm_Snd X own cc nL ret pc (pm_b2 fun x y => (x.toUInt32 >>> (y.toUInt32 &&& Int32.toUInt32 31)).toInt32) := by
  intro p l e R s m args below meth co cells slots d D cA ad A Q ev hC hE L st σ o h k
  obtain ⟨⟨hx, hb, hml, hown, hts⟩, ⟨hr, hlk⟩, ⟨hR1, hR2, hR3, hR4⟩, hK, hJ, hCt, hX⟩ := hC
  dsimp only [pm_b2] at h
  split at h
  · rename_i y x rest
    cases h
    exact fun H locs ls hL hP hS => lv_iushr hx hb hd rfl (k H locs ls hL hP hS)
  · cases h

theorem ps_ladd {X : State → (Nat → Nat) → (Nat → Prop) → Prop} {own : String} {cc : ByteArray} {nL : Nat} {ret : Option FieldType} {pc : Nat} (hd : decode cc pc = .ok (.ladd, 1)) : pm_Snd X own cc nL ret pc (pm_j2 fun x y => x + y) := by
  intro p l e R s m args below meth co cells slots d D cA ad A Q ev hC hE L st σ o h k
  obtain ⟨⟨hx, hb, hml, hown, hts⟩, ⟨hr, hlk⟩, ⟨hR1, hR2, hR3, hR4⟩, hK, hJ, hCt, hX⟩ := hC
  dsimp only [pm_j2] at h
  split at h
  · rename_i y x rest
    cases h
    exact fun H locs ls hL hP hS => lv_ladd hx hb hd (k H locs ls hL hP hS)
  · cases h

theorem ps_lsub {X : State → (Nat → Nat) → (Nat → Prop) → Prop} {own : String} {cc : ByteArray} {nL : Nat} {ret : Option FieldType} {pc : Nat} (hd : decode cc pc = .ok (.lsub, 1)) : pm_Snd X own cc nL ret pc (pm_j2 fun x y => x - y) := by
  intro p l e R s m args below meth co cells slots d D cA ad A Q ev hC hE L st σ o h k
  obtain ⟨⟨hx, hb, hml, hown, hts⟩, ⟨hr, hlk⟩, ⟨hR1, hR2, hR3, hR4⟩, hK, hJ, hCt, hX⟩ := hC
  dsimp only [pm_j2] at h
  split at h
  · rename_i y x rest
    cases h
    exact fun H locs ls hL hP hS => lv_lsub hx hb hd (k H locs ls hL hP hS)
  · cases h

theorem ps_lmul {X : State → (Nat → Nat) → (Nat → Prop) → Prop} {own : String} {cc : ByteArray} {nL : Nat} {ret : Option FieldType} {pc : Nat} (hd : decode cc pc = .ok (.lmul, 1)) : pm_Snd X own cc nL ret pc (pm_j2 fun x y => x * y) := by
  intro p l e R s m args below meth co cells slots d D cA ad A Q ev hC hE L st σ o h k
  obtain ⟨⟨hx, hb, hml, hown, hts⟩, ⟨hr, hlk⟩, ⟨hR1, hR2, hR3, hR4⟩, hK, hJ, hCt, hX⟩ := hC
  dsimp only [pm_j2] at h
  split at h
  · rename_i y x rest
    cases h
    exact fun H locs ls hL hP hS => lv_lmul hx hb hd (k H locs ls hL hP hS)
  · cases h

theorem ps_land {X : State → (Nat → Nat) → (Nat → Prop) → Prop} {own : String} {cc : ByteArray} {nL : Nat} {ret : Option FieldType} {pc : Nat} (hd : decode cc pc = .ok (.land, 1)) : pm_Snd X own cc nL ret pc (pm_j2 fun x y => x &&& y) := by
  intro p l e R s m args below meth co cells slots d D cA ad A Q ev hC hE L st σ o h k
  obtain ⟨⟨hx, hb, hml, hown, hts⟩, ⟨hr, hlk⟩, ⟨hR1, hR2, hR3, hR4⟩, hK, hJ, hCt, hX⟩ := hC
  dsimp only [pm_j2] at h
  split at h
  · rename_i y x rest
    cases h
    exact fun H locs ls hL hP hS => lv_land hx hb hd (k H locs ls hL hP hS)
  · cases h

theorem ps_lor {X : State → (Nat → Nat) → (Nat → Prop) → Prop} {own : String} {cc : ByteArray} {nL : Nat} {ret : Option FieldType} {pc : Nat} (hd : decode cc pc = .ok (.lor, 1)) : pm_Snd X own cc nL ret pc (pm_j2 fun x y => x ||| y) := by
  intro p l e R s m args below meth co cells slots d D cA ad A Q ev hC hE L st σ o h k
  obtain ⟨⟨hx, hb, hml, hown, hts⟩, ⟨hr, hlk⟩, ⟨hR1, hR2, hR3, hR4⟩, hK, hJ, hCt, hX⟩ := hC
  dsimp only [pm_j2] at h
  split at h
  · rename_i y x rest
    cases h
    exact fun H locs ls hL hP hS => lv_lor hx hb hd (k H locs ls hL hP hS)
  · cases h

theorem ps_lushr {X : State → (Nat → Nat) → (Nat → Prop) → Prop} {own : String} {cc : ByteArray} {nL : Nat} {ret : Option FieldType} {pc : Nat} (hd : decode cc pc = .ok (.lushr, 1)) : pm_Snd X own cc nL ret pc (pm_js fun x y => (x.toUInt64 >>> (y.toInt64.toUInt64 &&& Int64.toUInt64 63)).toInt64) := by
  intro p l e R s m args below meth co cells slots d D cA ad A Q ev hC hE L st σ o h k
  obtain ⟨⟨hx, hb, hml, hown, hts⟩, ⟨hr, hlk⟩, ⟨hR1, hR2, hR3, hR4⟩, hK, hJ, hCt, hX⟩ := hC
  dsimp only [pm_js] at h
  split at h
  · rename_i y x rest
    cases h
    exact fun H locs ls hL hP hS => lv_lushr hx hb hd rfl (k H locs ls hL hP hS)
  · cases h

theorem ps_lshl {X : State → (Nat → Nat) → (Nat → Prop) → Prop} {own : String} {cc : ByteArray} {nL : Nat} {ret : Option FieldType} {pc : Nat} (hd : decode cc pc = .ok (.lshl, 1)) : pm_Snd X own cc nL ret pc (pm_js fun x y => x <<< (y.toInt64 &&& 63)) := by
  intro p l e R s m args below meth co cells slots d D cA ad A Q ev hC hE L st σ o h k
  obtain ⟨⟨hx, hb, hml, hown, hts⟩, ⟨hr, hlk⟩, ⟨hR1, hR2, hR3, hR4⟩, hK, hJ, hCt, hX⟩ := hC
  dsimp only [pm_js] at h
  split at h
  · rename_i y x rest
    cases h
    exact fun H locs ls hL hP hS => lv_lshl hx hb hd rfl (k H locs ls hL hP hS)
  · cases h

theorem ps_ineg {X : State → (Nat → Nat) → (Nat → Prop) → Prop} {own : String} {cc : ByteArray} {nL : Nat} {ret : Option FieldType} {pc : Nat} (hd : decode cc pc = .ok (.ineg, 1)) : pm_Snd X own cc nL ret pc (pm_u1 fun x => -x) := by
  intro p l e R s m args below meth co cells slots d D cA ad A Q ev hC hE L st σ o h k
  obtain ⟨⟨hx, hb, hml, hown, hts⟩, ⟨hr, hlk⟩, ⟨hR1, hR2, hR3, hR4⟩, hK, hJ, hCt, hX⟩ := hC
  dsimp only [pm_u1] at h
  split at h
  · rename_i x rest
    cases h
    exact fun H locs ls hL hP hS => lv_ineg hx hb hd (k H locs ls hL hP hS)
  · cases h

theorem ps_i2b {X : State → (Nat → Nat) → (Nat → Prop) → Prop} {own : String} {cc : ByteArray} {nL : Nat} {ret : Option FieldType} {pc : Nat} (hd : decode cc pc = .ok (.i2b, 1)) : pm_Snd X own cc nL ret pc (pm_u1 fun x => x.toInt8.toInt32) := by
  intro p l e R s m args below meth co cells slots d D cA ad A Q ev hC hE L st σ o h k
  obtain ⟨⟨hx, hb, hml, hown, hts⟩, ⟨hr, hlk⟩, ⟨hR1, hR2, hR3, hR4⟩, hK, hJ, hCt, hX⟩ := hC
  dsimp only [pm_u1] at h
  split at h
  · rename_i x rest
    cases h
    exact fun H locs ls hL hP hS => lv_i2b hx hb hd rfl (k H locs ls hL hP hS)
  · cases h

theorem ps_i2c {X : State → (Nat → Nat) → (Nat → Prop) → Prop} {own : String} {cc : ByteArray} {nL : Nat} {ret : Option FieldType} {pc : Nat} (hd : decode cc pc = .ok (.i2c, 1)) : pm_Snd X own cc nL ret pc (pm_u1 fun x => (x.toUInt32 % 65536).toInt32) := by
  intro p l e R s m args below meth co cells slots d D cA ad A Q ev hC hE L st σ o h k
  obtain ⟨⟨hx, hb, hml, hown, hts⟩, ⟨hr, hlk⟩, ⟨hR1, hR2, hR3, hR4⟩, hK, hJ, hCt, hX⟩ := hC
  dsimp only [pm_u1] at h
  split at h
  · rename_i x rest
    cases h
    exact fun H locs ls hL hP hS => lv_i2c hx hb hd rfl (k H locs ls hL hP hS)
  · cases h

theorem ps_i2l {X : State → (Nat → Nat) → (Nat → Prop) → Prop} {own : String} {cc : ByteArray} {nL : Nat} {ret : Option FieldType} {pc : Nat} (hd : decode cc pc = .ok (.i2l, 1)) : pm_Snd X own cc nL ret pc pm_i2l := by
  intro p l e R s m args below meth co cells slots d D cA ad A Q ev hC hE L st σ o h k
  obtain ⟨⟨hx, hb, hml, hown, hts⟩, ⟨hr, hlk⟩, ⟨hR1, hR2, hR3, hR4⟩, hK, hJ, hCt, hX⟩ := hC
  dsimp only [pm_i2l] at h
  split at h
  · rename_i x rest
    cases h
    exact fun H locs ls hL hP hS => lv_i2l hx hb hd rfl (k H locs ls hL hP hS)
  · cases h

theorem ps_l2i {X : State → (Nat → Nat) → (Nat → Prop) → Prop} {own : String} {cc : ByteArray} {nL : Nat} {ret : Option FieldType} {pc : Nat} (hd : decode cc pc = .ok (.l2i, 1)) : pm_Snd X own cc nL ret pc pm_l2i := by
  intro p l e R s m args below meth co cells slots d D cA ad A Q ev hC hE L st σ o h k
  obtain ⟨⟨hx, hb, hml, hown, hts⟩, ⟨hr, hlk⟩, ⟨hR1, hR2, hR3, hR4⟩, hK, hJ, hCt, hX⟩ := hC
  dsimp only [pm_l2i] at h
  split at h
  · rename_i x rest
    cases h
    exact fun H locs ls hL hP hS => lv_l2i hx hb hd rfl (k H locs ls hL hP hS)
  · cases h

theorem ps_lcmp {X : State → (Nat → Nat) → (Nat → Prop) → Prop} {own : String} {cc : ByteArray} {nL : Nat} {ret : Option FieldType} {pc : Nat} (hd : decode cc pc = .ok (.lcmp, 1)) : pm_Snd X own cc nL ret pc pm_lcmp := by
  intro p l e R s m args below meth co cells slots d D cA ad A Q ev hC hE L st σ o h k
  obtain ⟨⟨hx, hb, hml, hown, hts⟩, ⟨hr, hlk⟩, ⟨hR1, hR2, hR3, hR4⟩, hK, hJ, hCt, hX⟩ := hC
  dsimp only [pm_lcmp] at h
  split at h
  · rename_i y x rest
    cases h
    exact fun H locs ls hL hP hS => W.lcmp hx hb hd (k H locs ls hL hP hS)
  · cases h

theorem ps_idiv {X : State → (Nat → Nat) → (Nat → Prop) → Prop} {own : String} {cc : ByteArray} {nL : Nat} {ret : Option FieldType} {pc : Nat} (hd : decode cc pc = .ok (.idiv, 1)) : pm_Snd X own cc nL ret pc (pm_d2 fun x y => x / y) := by
  intro p l e R s m args below meth co cells slots d D cA ad A Q ev hC hE L st σ o h k
  obtain ⟨⟨hx, hb, hml, hown, hts⟩, ⟨hr, hlk⟩, ⟨hR1, hR2, hR3, hR4⟩, hK, hJ, hCt, hX⟩ := hC
  dsimp only [pm_d2] at h
  split at h
  · rename_i y x rest
    split at h
    · cases h
    · rename_i hne
      cases h
      exact fun H locs ls hL hP hS => lv_idiv hx hb hd hne (k H locs ls hL hP hS)
  · cases h

theorem ps_irem {X : State → (Nat → Nat) → (Nat → Prop) → Prop} {own : String} {cc : ByteArray} {nL : Nat} {ret : Option FieldType} {pc : Nat} (hd : decode cc pc = .ok (.irem, 1)) : pm_Snd X own cc nL ret pc (pm_d2 fun x y => x - x / y * y) := by
  intro p l e R s m args below meth co cells slots d D cA ad A Q ev hC hE L st σ o h k
  obtain ⟨⟨hx, hb, hml, hown, hts⟩, ⟨hr, hlk⟩, ⟨hR1, hR2, hR3, hR4⟩, hK, hJ, hCt, hX⟩ := hC
  dsimp only [pm_d2] at h
  split at h
  · rename_i y x rest
    split at h
    · cases h
    · rename_i hne
      cases h
      exact fun H locs ls hL hP hS => lv_irem hx hb hd hne (k H locs ls hL hP hS)
  · cases h

theorem ps_ldiv {X : State → (Nat → Nat) → (Nat → Prop) → Prop} {own : String} {cc : ByteArray} {nL : Nat} {ret : Option FieldType} {pc : Nat} (hd : decode cc pc = .ok (.ldiv, 1)) : pm_Snd X own cc nL ret pc (pm_e2 fun x y => x / y) := by
  intro p l e R s m args below meth co cells slots d D cA ad A Q ev hC hE L st σ o h k
  obtain ⟨⟨hx, hb, hml, hown, hts⟩, ⟨hr, hlk⟩, ⟨hR1, hR2, hR3, hR4⟩, hK, hJ, hCt, hX⟩ := hC
  dsimp only [pm_e2] at h
  split at h
  · rename_i y x rest
    split at h
    · cases h
    · rename_i hne
      cases h
      exact fun H locs ls hL hP hS => lv_ldiv hx hb hd hne (k H locs ls hL hP hS)
  · cases h

theorem ps_lrem {X : State → (Nat → Nat) → (Nat → Prop) → Prop} {own : String} {cc : ByteArray} {nL : Nat} {ret : Option FieldType} {pc : Nat} (hd : decode cc pc = .ok (.lrem, 1)) : pm_Snd X own cc nL ret pc (pm_e2 fun x y => x - x / y * y) := by
  intro p l e R s m args below meth co cells slots d D cA ad A Q ev hC hE L st σ o h k
  obtain ⟨⟨hx, hb, hml, hown, hts⟩, ⟨hr, hlk⟩, ⟨hR1, hR2, hR3, hR4⟩, hK, hJ, hCt, hX⟩ := hC
  dsimp only [pm_e2] at h
  split at h
  · rename_i y x rest
    split at h
    · cases h
    · rename_i hne
      cases h
      exact fun H locs ls hL hP hS => lv_lrem hx hb hd hne (k H locs ls hL hP hS)
  · cases h

def pm_dup : pm_F := fun _ g => match g.2.2.1 with
  | v :: st => if v.category = 1 then some (.inl (g.1 + 1, g.2.1, v :: v :: st, g.2.2.2)) else none
  | _ => none
def pm_pop : pm_F := fun _ g => match g.2.2.1 with
  | v :: st => if v.category = 1 then some (.inl (g.1 + 1, g.2.1, st, g.2.2.2)) else none
  | _ => none
def pm_dup2 : pm_F := fun _ g => match g.2.2.1 with
  | v :: w :: st => if v.category = 1 ∧ w.category = 1 then some (.inl (g.1 + 1, g.2.1, v :: w :: v :: w :: st, g.2.2.2)) else none
  | _ => none

theorem ps_dup {X : State → (Nat → Nat) → (Nat → Prop) → Prop} {own : String} {cc : ByteArray} {nL : Nat} {ret : Option FieldType} {pc : Nat} (hd : decode cc pc = .ok (.dup, 1)) : pm_Snd X own cc nL ret pc pm_dup := by
  intro p l e R s m args below meth co cells slots d D cA ad A Q ev hC hE L st σ o h k
  obtain ⟨⟨hx, hb, hml, hown, hts⟩, ⟨hr, hlk⟩, ⟨hR1, hR2, hR3, hR4⟩, hK, hJ, hCt, hX⟩ := hC
  dsimp only [pm_dup] at h
  split at h
  · rename_i v rest
    split at h
    · rename_i hc
      cases h
      exact fun H locs ls hL hP hS => lv_dup hx hb hd (by rw [pm_cv_cat]; exact hc) (k H locs ls hL hP hS)
    · cases h
  · cases h

theorem ps_pop {X : State → (Nat → Nat) → (Nat → Prop) → Prop} {own : String} {cc : ByteArray} {nL : Nat} {ret : Option FieldType} {pc : Nat} (hd : decode cc pc = .ok (.pop, 1)) : pm_Snd X own cc nL ret pc pm_pop := by
  intro p l e R s m args below meth co cells slots d D cA ad A Q ev hC hE L st σ o h k
  obtain ⟨⟨hx, hb, hml, hown, hts⟩, ⟨hr, hlk⟩, ⟨hR1, hR2, hR3, hR4⟩, hK, hJ, hCt, hX⟩ := hC
  dsimp only [pm_pop] at h
  split at h
  · rename_i v rest
    split at h
    · rename_i hc
      cases h
      exact fun H locs ls hL hP hS => lv_pop hx hb hd (by rw [pm_cv_cat]; exact hc) (k H locs ls hL hP hS)
    · cases h
  · cases h

theorem ps_dup2 {X : State → (Nat → Nat) → (Nat → Prop) → Prop} {own : String} {cc : ByteArray} {nL : Nat} {ret : Option FieldType} {pc : Nat} (hd : decode cc pc = .ok (.dup2, 1)) : pm_Snd X own cc nL ret pc pm_dup2 := by
  intro p l e R s m args below meth co cells slots d D cA ad A Q ev hC hE L st σ o h k
  obtain ⟨⟨hx, hb, hml, hown, hts⟩, ⟨hr, hlk⟩, ⟨hR1, hR2, hR3, hR4⟩, hK, hJ, hCt, hX⟩ := hC
  dsimp only [pm_dup2] at h
  split at h
  · rename_i v w rest
    split at h
    · rename_i hc
      cases h
      exact fun H locs ls hL hP hS => lv_dup2_11 hx hb hd (by rw [pm_cv_cat]; exact hc.1) (by rw [pm_cv_cat]; exact hc.2) (k H locs ls hL hP hS)
    · cases h
  · cases h

def pm_goto (t : Nat) : pm_F := fun _ g => some (.inl (t, g.2.1, g.2.2.1, g.2.2.2))

theorem ps_goto {X : State → (Nat → Nat) → (Nat → Prop) → Prop} {own : String} {cc : ByteArray} {nL : Nat} {ret : Option FieldType} {pc : Nat} {off : Int} {t : Nat} (hd : decode cc pc = .ok (.goto off, 3)) (ht : (pc : Int) + off = (t : Int)) : pm_Snd X own cc nL ret pc (pm_goto t) := by
  intro p l e R s m args below meth co cells slots d D cA ad A Q ev hC hE L st σ o h k
  obtain ⟨⟨hx, hb, hml, hown, hts⟩, ⟨hr, hlk⟩, ⟨hR1, hR2, hR3, hR4⟩, hK, hJ, hCt, hX⟩ := hC
  cases h
  exact fun H locs ls hL hP hS => lv_goto hx hb hd ht (k H locs ls hL hP hS)

def pm_zeq (t : Nat) : pm_F := fun _ g => match g.2.2.1 with
  | .int x :: st => if x = 0 then some (.inl (t, g.2.1, st, g.2.2.2)) else some (.inl (g.1 + 3, g.2.1, st, g.2.2.2))
  | _ => none

theorem ps_zeq {X : State → (Nat → Nat) → (Nat → Prop) → Prop} {own : String} {cc : ByteArray} {nL : Nat} {ret : Option FieldType} {pc : Nat} {off : Int} {t : Nat} (hd : decode cc pc = .ok (.ifCond .eq off, 3)) (ht : (pc : Int) + off = (t : Int)) : pm_Snd X own cc nL ret pc (pm_zeq t) := by
  intro p l e R s m args below meth co cells slots d D cA ad A Q ev hC hE L st σ o h k
  obtain ⟨⟨hx, hb, hml, hown, hts⟩, ⟨hr, hlk⟩, ⟨hR1, hR2, hR3, hR4⟩, hK, hJ, hCt, hX⟩ := hC
  dsimp only [pm_zeq] at h
  split at h
  · rename_i x rest
    split at h
    · rename_i hc
      cases h
      exact fun H locs ls hL hP hS => lv_if_eq hx hb hd ht (fun _ => k H locs ls hL hP hS) (fun q => absurd hc q)
    · rename_i hc
      cases h
      exact fun H locs ls hL hP hS => lv_if_eq hx hb hd ht (fun q => absurd q hc) (fun _ => k H locs ls hL hP hS)
  · cases h

def pm_zne (t : Nat) : pm_F := fun _ g => match g.2.2.1 with
  | .int x :: st => if x = 0 then some (.inl (g.1 + 3, g.2.1, st, g.2.2.2)) else some (.inl (t, g.2.1, st, g.2.2.2))
  | _ => none

theorem ps_zne {X : State → (Nat → Nat) → (Nat → Prop) → Prop} {own : String} {cc : ByteArray} {nL : Nat} {ret : Option FieldType} {pc : Nat} {off : Int} {t : Nat} (hd : decode cc pc = .ok (.ifCond .ne off, 3)) (ht : (pc : Int) + off = (t : Int)) : pm_Snd X own cc nL ret pc (pm_zne t) := by
  intro p l e R s m args below meth co cells slots d D cA ad A Q ev hC hE L st σ o h k
  obtain ⟨⟨hx, hb, hml, hown, hts⟩, ⟨hr, hlk⟩, ⟨hR1, hR2, hR3, hR4⟩, hK, hJ, hCt, hX⟩ := hC
  dsimp only [pm_zne] at h
  split at h
  · rename_i x rest
    split at h
    · rename_i hc
      cases h
      exact fun H locs ls hL hP hS => lv_if_ne hx hb hd ht (fun q => absurd hc q) (fun _ => k H locs ls hL hP hS)
    · rename_i hc
      cases h
      exact fun H locs ls hL hP hS => lv_if_ne hx hb hd ht (fun _ => k H locs ls hL hP hS) (fun q => absurd q hc)
  · cases h

def pm_zlt (t : Nat) : pm_F := fun _ g => match g.2.2.1 with
  | .int x :: st => if x < 0 then some (.inl (t, g.2.1, st, g.2.2.2)) else some (.inl (g.1 + 3, g.2.1, st, g.2.2.2))
  | _ => none

theorem ps_zlt {X : State → (Nat → Nat) → (Nat → Prop) → Prop} {own : String} {cc : ByteArray} {nL : Nat} {ret : Option FieldType} {pc : Nat} {off : Int} {t : Nat} (hd : decode cc pc = .ok (.ifCond .lt off, 3)) (ht : (pc : Int) + off = (t : Int)) : pm_Snd X own cc nL ret pc (pm_zlt t) := by
  intro p l e R s m args below meth co cells slots d D cA ad A Q ev hC hE L st σ o h k
  obtain ⟨⟨hx, hb, hml, hown, hts⟩, ⟨hr, hlk⟩, ⟨hR1, hR2, hR3, hR4⟩, hK, hJ, hCt, hX⟩ := hC
  dsimp only [pm_zlt] at h
  split at h
  · rename_i x rest
    split at h
    · rename_i hc
      cases h
      exact fun H locs ls hL hP hS => lv_if_lt hx hb hd ht (fun _ => k H locs ls hL hP hS) (fun q => absurd hc q)
    · rename_i hc
      cases h
      exact fun H locs ls hL hP hS => lv_if_lt hx hb hd ht (fun q => absurd q hc) (fun _ => k H locs ls hL hP hS)
  · cases h

def pm_zge (t : Nat) : pm_F := fun _ g => match g.2.2.1 with
  | .int x :: st => if x < 0 then some (.inl (g.1 + 3, g.2.1, st, g.2.2.2)) else some (.inl (t, g.2.1, st, g.2.2.2))
  | _ => none

theorem ps_zge {X : State → (Nat → Nat) → (Nat → Prop) → Prop} {own : String} {cc : ByteArray} {nL : Nat} {ret : Option FieldType} {pc : Nat} {off : Int} {t : Nat} (hd : decode cc pc = .ok (.ifCond .ge off, 3)) (ht : (pc : Int) + off = (t : Int)) : pm_Snd X own cc nL ret pc (pm_zge t) := by
  intro p l e R s m args below meth co cells slots d D cA ad A Q ev hC hE L st σ o h k
  obtain ⟨⟨hx, hb, hml, hown, hts⟩, ⟨hr, hlk⟩, ⟨hR1, hR2, hR3, hR4⟩, hK, hJ, hCt, hX⟩ := hC
  dsimp only [pm_zge] at h
  split at h
  · rename_i x rest
    split at h
    · rename_i hc
      cases h
      exact fun H locs ls hL hP hS => lv_if_ge hx hb hd ht (fun q => absurd hc (Int32.not_lt.mpr q)) (fun _ => k H locs ls hL hP hS)
    · rename_i hc
      cases h
      exact fun H locs ls hL hP hS => lv_if_ge hx hb hd ht (fun _ => k H locs ls hL hP hS) (fun q => absurd (Int32.not_le.mp q) hc)
  · cases h

def pm_zgt (t : Nat) : pm_F := fun _ g => match g.2.2.1 with
  | .int x :: st => if 0 < x then some (.inl (t, g.2.1, st, g.2.2.2)) else some (.inl (g.1 + 3, g.2.1, st, g.2.2.2))
  | _ => none

theorem ps_zgt {X : State → (Nat → Nat) → (Nat → Prop) → Prop} {own : String} {cc : ByteArray} {nL : Nat} {ret : Option FieldType} {pc : Nat} {off : Int} {t : Nat} (hd : decode cc pc = .ok (.ifCond .gt off, 3)) (ht : (pc : Int) + off = (t : Int)) : pm_Snd X own cc nL ret pc (pm_zgt t) := by
  intro p l e R s m args below meth co cells slots d D cA ad A Q ev hC hE L st σ o h k
  obtain ⟨⟨hx, hb, hml, hown, hts⟩, ⟨hr, hlk⟩, ⟨hR1, hR2, hR3, hR4⟩, hK, hJ, hCt, hX⟩ := hC
  dsimp only [pm_zgt] at h
  split at h
  · rename_i x rest
    split at h
    · rename_i hc
      cases h
      exact fun H locs ls hL hP hS => lv_if_gt hx hb hd ht (fun _ => k H locs ls hL hP hS) (fun q => absurd hc q)
    · rename_i hc
      cases h
      exact fun H locs ls hL hP hS => lv_if_gt hx hb hd ht (fun q => absurd q hc) (fun _ => k H locs ls hL hP hS)
  · cases h

def pm_zle (t : Nat) : pm_F := fun _ g => match g.2.2.1 with
  | .int x :: st => if 0 < x then some (.inl (g.1 + 3, g.2.1, st, g.2.2.2)) else some (.inl (t, g.2.1, st, g.2.2.2))
  | _ => none

theorem ps_zle {X : State → (Nat → Nat) → (Nat → Prop) → Prop} {own : String} {cc : ByteArray} {nL : Nat} {ret : Option FieldType} {pc : Nat} {off : Int} {t : Nat} (hd : decode cc pc = .ok (.ifCond .le off, 3)) (ht : (pc : Int) + off = (t : Int)) : pm_Snd X own cc nL ret pc (pm_zle t) := by
  intro p l e R s m args below meth co cells slots d D cA ad A Q ev hC hE L st σ o h k
  obtain ⟨⟨hx, hb, hml, hown, hts⟩, ⟨hr, hlk⟩, ⟨hR1, hR2, hR3, hR4⟩, hK, hJ, hCt, hX⟩ := hC
  dsimp only [pm_zle] at h
  split at h
  · rename_i x rest
    split at h
    · rename_i hc
      cases h
      exact fun H locs ls hL hP hS => lv_if_le hx hb hd ht (fun q => absurd hc (Int32.not_lt.mpr q)) (fun _ => k H locs ls hL hP hS)
    · rename_i hc
      cases h
      exact fun H locs ls hL hP hS => lv_if_le hx hb hd ht (fun _ => k H locs ls hL hP hS) (fun q => absurd (Int32.not_le.mp q) hc)
  · cases h

def pm_ceq (t : Nat) : pm_F := fun _ g => match g.2.2.1 with
  | .int y :: .int x :: st => if x = y then some (.inl (t, g.2.1, st, g.2.2.2)) else some (.inl (g.1 + 3, g.2.1, st, g.2.2.2))
  | _ => none

theorem ps_ceq {X : State → (Nat → Nat) → (Nat → Prop) → Prop} {own : String} {cc : ByteArray} {nL : Nat} {ret : Option FieldType} {pc : Nat} {off : Int} {t : Nat} (hd : decode cc pc = .ok (.if_icmp .eq off, 3)) (ht : (pc : Int) + off = (t : Int)) : pm_Snd X own cc nL ret pc (pm_ceq t) := by
  intro p l e R s m args below meth co cells slots d D cA ad A Q ev hC hE L st σ o h k
  obtain ⟨⟨hx, hb, hml, hown, hts⟩, ⟨hr, hlk⟩, ⟨hR1, hR2, hR3, hR4⟩, hK, hJ, hCt, hX⟩ := hC
  dsimp only [pm_ceq] at h
  split at h
  · rename_i y x rest
    split at h
    · rename_i hc
      cases h
      exact fun H locs ls hL hP hS => lv_icmp_eq hx hb hd ht (fun _ => k H locs ls hL hP hS) (fun q => absurd hc q)
    · rename_i hc
      cases h
      exact fun H locs ls hL hP hS => lv_icmp_eq hx hb hd ht (fun q => absurd q hc) (fun _ => k H locs ls hL hP hS)
  · cases h

def pm_cne (t : Nat) : pm_F := fun _ g => match g.2.2.1 with
  | .int y :: .int x :: st => if x = y then some (.inl (g.1 + 3, g.2.1, st, g.2.2.2)) else some (.inl (t, g.2.1, st, g.2.2.2))
  | _ => none

theorem ps_cne {X : State → (Nat → Nat) → (Nat → Prop) → Prop} {own : String} {cc : ByteArray} {nL : Nat} {ret : Option FieldType} {pc : Nat} {off : Int} {t : Nat} (hd : decode cc pc = .ok (.if_icmp .ne off, 3)) (ht : (pc : Int) + off = (t : Int)) : pm_Snd X own cc nL ret pc (pm_cne t) := by
  intro p l e R s m args below meth co cells slots d D cA ad A Q ev hC hE L st σ o h k
  obtain ⟨⟨hx, hb, hml, hown, hts⟩, ⟨hr, hlk⟩, ⟨hR1, hR2, hR3, hR4⟩, hK, hJ, hCt, hX⟩ := hC
  dsimp only [pm_cne] at h
  split at h
  · rename_i y x rest
    split at h
    · rename_i hc
      cases h
      exact fun H locs ls hL hP hS => lv_icmp_ne hx hb hd ht (fun q => absurd hc q) (fun _ => k H locs ls hL hP hS)
    · rename_i hc
      cases h
      exact fun H locs ls hL hP hS => lv_icmp_ne hx hb hd ht (fun _ => k H locs ls hL hP hS) (fun q => absurd q hc)
  · cases h

def pm_clt (t : Nat) : pm_F := fun _ g => match g.2.2.1 with
  | .int y :: .int x :: st => if x < y then some (.inl (t, g.2.1, st, g.2.2.2)) else some (.inl (g.1 + 3, g.2.1, st, g.2.2.2))
  | _ => none

theorem ps_clt {X : State → (Nat → Nat) → (Nat → Prop) → Prop} {own : String} {cc : ByteArray} {nL : Nat} {ret : Option FieldType} {pc : Nat} {off : Int} {t : Nat} (hd : decode cc pc = .ok (.if_icmp .lt off, 3)) (ht : (pc : Int) + off = (t : Int)) : pm_Snd X own cc nL ret pc (pm_clt t) := by
  intro p l e R s m args below meth co cells slots d D cA ad A Q ev hC hE L st σ o h k
  obtain ⟨⟨hx, hb, hml, hown, hts⟩, ⟨hr, hlk⟩, ⟨hR1, hR2, hR3, hR4⟩, hK, hJ, hCt, hX⟩ := hC
  dsimp only [pm_clt] at h
  split at h
  · rename_i y x rest
    split at h
    · rename_i hc
      cases h
      exact fun H locs ls hL hP hS => lv_icmp_lt hx hb hd ht (fun _ => k H locs ls hL hP hS) (fun q => absurd hc q)
    · rename_i hc
      cases h
      exact fun H locs ls hL hP hS => lv_icmp_lt hx hb hd ht (fun q => absurd q hc) (fun _ => k H locs ls hL hP hS)
  · cases h

def pm_cge (t : Nat) : pm_F := fun _ g => match g.2.2.1 with
  | .int y :: .int x :: st => if x < y then some (.inl (g.1 + 3, g.2.1, st, g.2.2.2)) else some (.inl (t, g.2.1, st, g.2.2.2))
  | _ => none

theorem ps_cge {X : State → (Nat → Nat) → (Nat → Prop) → Prop} {own : String} {cc : ByteArray} {nL : Nat} {ret : Option FieldType} {pc : Nat} {off : Int} {t : Nat} (hd : decode cc pc = .ok (.if_icmp .ge off, 3)) (ht : (pc : Int) + off = (t : Int)) : pm_Snd X own cc nL ret pc (pm_cge t) := by
  intro p l e R s m args below meth co cells slots d D cA ad A Q ev hC hE L st σ o h k
  obtain ⟨⟨hx, hb, hml, hown, hts⟩, ⟨hr, hlk⟩, ⟨hR1, hR2, hR3, hR4⟩, hK, hJ, hCt, hX⟩ := hC
  dsimp only [pm_cge] at h
  split at h
  · rename_i y x rest
    split at h
    · rename_i hc
      cases h
      exact fun H locs ls hL hP hS => lv_icmp_ge hx hb hd ht (fun q => absurd hc (Int32.not_lt.mpr q)) (fun _ => k H locs ls hL hP hS)
    · rename_i hc
      cases h
      exact fun H locs ls hL hP hS => lv_icmp_ge hx hb hd ht (fun _ => k H locs ls hL hP hS) (fun q => absurd (Int32.not_le.mp q) hc)
  · cases h

def pm_cgt (t : Nat) : pm_F := fun _ g => match g.2.2.1 with
  | .int y :: .int x :: st => if y < x then some (.inl (t, g.2.1, st, g.2.2.2)) else some (.inl (g.1 + 3, g.2.1, st, g.2.2.2))
  | _ => none

theorem ps_cgt {X : State → (Nat → Nat) → (Nat → Prop) → Prop} {own : String} {cc : ByteArray} {nL : Nat} {ret : Option FieldType} {pc : Nat} {off : Int} {t : Nat} (hd : decode cc pc = .ok (.if_icmp .gt off, 3)) (ht : (pc : Int) + off = (t : Int)) : pm_Snd X own cc nL ret pc (pm_cgt t) := by
  intro p l e R s m args below meth co cells slots d D cA ad A Q ev hC hE L st σ o h k
  obtain ⟨⟨hx, hb, hml, hown, hts⟩, ⟨hr, hlk⟩, ⟨hR1, hR2, hR3, hR4⟩, hK, hJ, hCt, hX⟩ := hC
  dsimp only [pm_cgt] at h
  split at h
  · rename_i y x rest
    split at h
    · rename_i hc
      cases h
      exact fun H locs ls hL hP hS => lv_icmp_gt hx hb hd ht (fun _ => k H locs ls hL hP hS) (fun q => absurd hc q)
    · rename_i hc
      cases h
      exact fun H locs ls hL hP hS => lv_icmp_gt hx hb hd ht (fun q => absurd q hc) (fun _ => k H locs ls hL hP hS)
  · cases h

def pm_cle (t : Nat) : pm_F := fun _ g => match g.2.2.1 with
  | .int y :: .int x :: st => if y < x then some (.inl (g.1 + 3, g.2.1, st, g.2.2.2)) else some (.inl (t, g.2.1, st, g.2.2.2))
  | _ => none

theorem ps_cle {X : State → (Nat → Nat) → (Nat → Prop) → Prop} {own : String} {cc : ByteArray} {nL : Nat} {ret : Option FieldType} {pc : Nat} {off : Int} {t : Nat} (hd : decode cc pc = .ok (.if_icmp .le off, 3)) (ht : (pc : Int) + off = (t : Int)) : pm_Snd X own cc nL ret pc (pm_cle t) := by
  intro p l e R s m args below meth co cells slots d D cA ad A Q ev hC hE L st σ o h k
  obtain ⟨⟨hx, hb, hml, hown, hts⟩, ⟨hr, hlk⟩, ⟨hR1, hR2, hR3, hR4⟩, hK, hJ, hCt, hX⟩ := hC
  dsimp only [pm_cle] at h
  split at h
  · rename_i y x rest
    split at h
    · rename_i hc
      cases h
      exact fun H locs ls hL hP hS => lv_icmp_le hx hb hd ht (fun q => absurd hc (Int32.not_lt.mpr q)) (fun _ => k H locs ls hL hP hS)
    · rename_i hc
      cases h
      exact fun H locs ls hL hP hS => lv_icmp_le hx hb hd ht (fun _ => k H locs ls hL hP hS) (fun q => absurd (Int32.not_le.mp q) hc)
  · cases h

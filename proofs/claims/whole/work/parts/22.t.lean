/-! ===== the cells as they are made are the numbers at the beginning ===== -/
def sig0 : pm_H := (fun c => if c = 12 then (fun k => if k = 6 then -1 else if k = 7 then -1 else 0) else if c = 133 then (fun k => if k = 5 then Int32.ofNat 134 else if k = 27 then -1 else if k = 28 then -1 else 0) else fun _ => 0, fun _ _ => 0)
theorem z_nI : (0 : Int32) = nI 0 := by decide
theorem LInv_0 : LInv 0 sig0 := by
  refine ⟨0, fun _ => 0, fun _ => 0, 0, 0, 0, 0, fun _ _ => 0, ⟨⟨z_nI, z_nI, by omega, by decide, fun h => absurd h (by omega), fun l hl => absurd hl (by omega), fun j hj => rfl⟩, ⟨⟨⟨fun _ => 0, fun j h1 h2 => z_nI, ⟨by decide, by decide, by decide, rfl, fun l hl => absurd hl (by omega)⟩, rfl⟩, fun _ l hl => absurd hl (by omega), ⟨⟨rfl, rfl, rfl, rfl, rfl⟩, fun l hl => absurd hl (by omega)⟩, fun l hl => absurd hl (by omega), fun l hl => absurd hl (by omega), fun i hi => absurd hi (by omega), fun l hl => absurd hl (by omega)⟩, z_nI⟩, ⟨⟨by omega, by omega, z_nI, z_nI, z_nI⟩, fun _ => 0, fun p q _ _ => Nat.le_refl _, fun p hp => absurd hp (by omega)⟩, ⟨rfl, Or.inl z_nI⟩, rfl, 0, by omega, z_nI⟩, ⟨fun _ => 0, 0, ⟨by omega, fun i hi => absurd hi (by omega)⟩, z_nI, z_nI, fun i hi => absurd hi (by omega)⟩, ⟨by omega, z_nI, fun j hj => absurd hj (by omega)⟩, ⟨by omega, z_nI, fun j hj => absurd hj (by omega)⟩, fun p hp => Or.inl rfl, fun i hi => ?_, ⟨rfl, rfl⟩, Or.inl rfl, Or.inl rfl⟩
  exact bd_nI (a := 0) (by omega)
theorem at_refs {D : va_G} {cl : List vw_C} {a n : Nat} {cI : ClassId} {f g : Nat → Option Nat} {H : Heap} (h : va_at D cl (a, .inl (cI, n, .inr (.inr (.inr (.inr f))))) H) (e : ∀ i, i < n → f i = g i) : va_at D cl (a, .inl (cI, n, .inr (.inr (.inr (.inr g))))) H := by
  have h' : H[a]? = some (vp_cell cI (n, .inr (.inr (.inr (.inr f))))) := h
  show H[a]? = some (vp_cell cI (n, .inr (.inr (.inr (.inr g)))))
  rw [h', vp_cell_q, vp_cell_q]
  have e2 : arrV cI n (fun j => va_rf (f j)) = arrV cI n (fun j => va_rf (g j)) := by
    show ({ cls := cI, slots := Array.ofFn (n := n) fun j => va_rf (f j), vm := .none } : Cell) = { cls := cI, slots := Array.ofFn (n := n) fun j => va_rf (g j), vm := .none }
    have : (fun j : Fin n => va_rf (f j)) = fun j : Fin n => va_rf (g j) := funext fun j => by rw [e j.1 j.2]
    rw [this]
  rw [e2]
def adM (q0 q1 qo b : Nat) (u v adC : Nat → Nat) : Nat → Nat := fun c => if c = 0 then q0 else if c < 133 then u c else if c = 133 then q1 else if c < 157 then v (c - 133) else if c = 157 then qo else if c = 190 then b else adC c
def wdM (cA : Nat → ClassId) (q0 q1 qo sy sw : Nat) (u v : cn_U) : va_W := (wd_X11 cA q0 u.1 u.2 ++ wd_X12 cA q1 sy sw v.1 v.2) ++ [(qo, .inl (cA 2, 1, .inr (.inl (fun _ => 0))))]
def enM (cA : Nat → ClassId) (g : Nat → Nat → Option Nat) (ad : Nat → Nat) (c : Nat) : va_E := if c = 13 then .inl (cA 3, 6, .inr (.inr (.inr (.inr (g 13))))) else if c = 43 then .inl (cA 4, 13, .inr (.inr (.inr (.inr (g 43))))) else if c = 78 then .inl (cA 3, 4, .inr (.inr (.inr (.inr (g 78))))) else if c = 83 then .inl (cA 3, 3, .inr (.inr (.inr (.inr (g 83))))) else if c = 87 then .inl (cA 3, 3, .inr (.inr (.inr (.inr (g 87))))) else if c = 92 then .inl (cA 3, 40, .inr (.inr (.inr (.inr (g 92))))) else pm_en cA ad sig0 c
theorem adM_u {q0 q1 qo b : Nat} {u v adC : Nat → Nat} {c : Nat} (h1 : 0 < c) (h2 : c < 133) : adM q0 q1 qo b u v adC c = u c := by
  unfold adM
  rw [if_neg (by omega), if_pos h2]
set_option maxRecDepth 20000 in
set_option maxHeartbeats 4000000 in
theorem wdM_e1 {cA : Nat → ClassId} {q0 q1 qo b : Nat} {u v : cn_U} {adC : Nat → Nat} : wd_X11 cA q0 u.1 u.2 = (List.range 133).map (fun c => (adM q0 q1 qo b u.1 v.1 adC c, enM cA u.2 (adM q0 q1 qo b u.1 v.1 adC) c)) := rfl
set_option maxRecDepth 20000 in
set_option maxHeartbeats 4000000 in
theorem wdM_e2 {cA : Nat → ClassId} {q0 q1 qo b : Nat} {u v : cn_U} {adC : Nat → Nat} : wd_X12 cA q1 (adC 173) (adC 172) v.1 v.2 = (List.range 24).map (fun i => (fun c => (adM q0 q1 qo b u.1 v.1 adC c, enM cA u.2 (adM q0 q1 qo b u.1 v.1 adC) c)) (133 + i)) := rfl

-- hold, let, likely
def setC (D : Dm) (c : Nat) (w : Vl) : Dm := fun c' i => if c' = c then w i else D c' i
theorem upd_set (D : Dm) (c : Nat) (j x : Int) : upd2 D c j x = setC D c (upV (D c) j x) := by
  funext c' i
  simp only [upd2, setC, upV]
  by_cases h : c' = c
  · subst h; by_cases q : i = j <;> simp [q]
  · simp [h]
theorem set_id (D : Dm) (c : Nat) : setC D c (D c) = D := by
  funext c' i
  simp only [setC]
  split
  · next h => rw [h]
  · rfl
def q_hold (v : Vl) (s f : Int) : Ans := if (0 ≤ s ∧ s < v 0) ∧ (f = -1 ∨ (0 ≤ f ∧ f < v 2)) then (if v ((8 + (5 * s)) + 4) = f then aNo 7 0 else aNo 0 1) else aNo 1 0
def w_hold (v : Vl) (s f : Int) : Vl := if (0 ≤ s ∧ s < v 0) ∧ (f = -1 ∨ (0 ≤ f ∧ f < v 2)) then (if v ((8 + (5 * s)) + 4) = f then v else upV v ((8 + (5 * s)) + 4) f) else v
def q_let (k x : Int) : Ans := if (k = 0 ∧ 1 ≤ x ∧ x ≤ 99) ∨ (k = 1 ∧ 0 ≤ x ∧ x ≤ 99) then aNo 0 1 else aNo 1 0
def w_let (v : Vl) (k x : Int) : Vl := if (k = 0 ∧ 1 ≤ x ∧ x ≤ 99) ∨ (k = 1 ∧ 0 ≤ x ∧ x ≤ 99) then upV v (3 + k) x else v
section
variable {l : Launch} {E : Ev} {G : Sh} {D : Dm} {a : Ans}
theorem c_X10_hold (hL : Lay G) (hv : wfV (D 108)) {s f : Int} (hs : iRg s) (hf : iRg f) (ha : a = q_hold (D 108) s f) : C0 l E MX10_hold 0 [vR E 107, vI s, vI f] G D (fun r D' => r = a.2.1 ∧ mQ (setC D 108 (w_hold (D 108) s f)) D' a) := by
  have hS := wfS hv
  have go : ∀ (q : 0 ≤ s ∧ s < D 108 0) (q2 : f = -1 ∨ (0 ≤ f ∧ f < D 108 2)), (D 108 ((8 + (5 * s)) + 4) ≠ f → (1 = a.2.1 ∧ mQ (setC D 108 (w_hold (D 108) s f)) (upd2 (upd2 D 108 ((8 + (5 * s)) + 4) f) 107 1 0) a)) ∧ (D 108 ((8 + (5 * s)) + 4) = f → (0 = a.2.1 ∧ mQ (setC D 108 (w_hold (D 108) s f)) (upd2 D 107 1 7) a)) := by
    intro q q2
    constructor
    · intro z
      rw [w_hold, if_pos ⟨q, q2⟩, if_neg z, ← upd_set]
      exact mQ.no (by rw [ha, q_hold, if_pos ⟨q, q2⟩, if_neg z]) mS.rf
    · intro z
      rw [w_hold, if_pos ⟨q, q2⟩, if_pos z, set_id]
      exact mQ.no (by rw [ha, q_hold, if_pos ⟨q, q2⟩, if_pos z]) mS.rf
  have no : ¬ ((0 ≤ s ∧ s < D 108 0) ∧ (f = -1 ∨ (0 ≤ f ∧ f < D 108 2))) → (0 = a.2.1 ∧ mQ (setC D 108 (w_hold (D 108) s f)) (upd2 D 107 1 1) a) := by
    intro q
    rw [w_hold, if_neg q, set_id]
    exact mQ.no (by rw [ha, q_hold, if_neg q]) mS.rf
  refine s_X10_hold hL ⟨hs, fun q => ⟨rfl, no (fun z => q z.1)⟩, fun q => ⟨hf, fun q2 => ⟨by omega, fun z => ⟨rfl, (go q (Or.inl q2)).1 z⟩, fun z => ⟨rfl, (go q (Or.inl q2)).2 z⟩⟩, fun q2 => ⟨fun q3 => ⟨by omega, fun z => ⟨rfl, (go q (Or.inr q3)).1 z⟩, fun z => ⟨rfl, (go q (Or.inr q3)).2 z⟩⟩, fun q3 => ⟨rfl, no (by omega)⟩⟩⟩⟩
theorem c_X10_likely (hL : Lay G) (hv : wfV (D 108)) {h od : Int} (hh : iRg h) (ho : iRg od) (ha : a = q_likely (D 108) h od) : C0 l E MX10_likely 0 [vR E 107, vI h, vI od] G D (fun r D' => r = a.2.1 ∧ mQ (setC D 108 (w_likely (D 108) h od)) D' a) := by
  have hH := wfH hv
  have no : ¬ ((0 ≤ h ∧ h < D 108 1) ∧ 0 ≤ od ∧ od ≤ 16) → (0 = a.2.1 ∧ mQ (setC D 108 (w_likely (D 108) h od)) (upd2 D 107 1 1) a) := by
    intro q
    rw [w_likely, if_neg q, set_id]
    exact mQ.no (by rw [ha, q_likely, if_neg q]) mS.rf
  refine s_X10_likely hL ⟨hh, fun q => ⟨rfl, no (fun z => q z.1)⟩, fun q => ⟨ho, fun q2 => ⟨rfl, no (by omega)⟩, fun q2 => ⟨fun q3 => ⟨by omega, rfl, ?_⟩, fun q3 => ⟨rfl, no (by omega)⟩⟩⟩⟩
  rw [w_likely, if_pos ⟨q, q2, q3⟩, oddV, ← upd_set]
  exact mQ.no (by rw [ha, q_likely, if_pos ⟨q, q2, q3⟩]) mS.rf
theorem c_X10_let (hL : Lay G) {k x : Int} (hk : iRg k) (hx : iRg x) (ha : a = q_let k x) : C0 l E MX10_let 0 [vR E 107, vI k, vI x] G D (fun r D' => r = a.2.1 ∧ mQ (setC D 108 (w_let (D 108) k x)) D' a) := by
  have no : ¬ ((k = 0 ∧ 1 ≤ x ∧ x ≤ 99) ∨ (k = 1 ∧ 0 ≤ x ∧ x ≤ 99)) → (0 = a.2.1 ∧ mQ (setC D 108 (w_let (D 108) k x)) (upd2 D 107 1 1) a) := by
    intro q
    rw [w_let, if_neg q, set_id]
    exact mQ.no (by rw [ha, q_let, if_neg q]) mS.rf
  have ys : ((k = 0 ∧ 1 ≤ x ∧ x ≤ 99) ∨ (k = 1 ∧ 0 ≤ x ∧ x ≤ 99)) → (1 = a.2.1 ∧ mQ (setC D 108 (w_let (D 108) k x)) (upd2 (upd2 D 108 (3 + k) x) 107 1 0) a) := by
    intro q
    rw [w_let, if_pos q, ← upd_set]
    exact mQ.no (by rw [ha, q_let, if_pos q]) mS.rf
  refine s_X10_let hL ⟨hk, fun q => ⟨rfl, no (by omega)⟩, fun q => ⟨fun q2 => ⟨rfl, no (by omega)⟩, fun q2 => ⟨fun q3 => ⟨hx, fun q4 => ⟨rfl, no (by omega)⟩, fun q4 => ⟨fun q5 => ⟨fun q6 => ⟨rfl, ?_⟩, fun q6 => absurd q6 q3⟩, fun q5 => ⟨rfl, no (by omega)⟩⟩⟩, fun q3 => ⟨hx, fun q4 => ⟨rfl, no (by omega)⟩, fun q4 => ⟨fun q5 => ⟨fun q6 => absurd q3 q6, fun q6 => ⟨rfl, ?_⟩⟩, fun q5 => ⟨rfl, no (by omega)⟩⟩⟩⟩⟩⟩
  · have k1 : k = 1 := by omega
    subst k1
    exact ys (Or.inr ⟨rfl, q4, q5⟩)
  · subst q3
    exact ys (Or.inl ⟨rfl, q4, q5⟩)
end

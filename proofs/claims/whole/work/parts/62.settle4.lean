-- settle of the reference
def slF : Nat → Vl → Vl × Nat
  | 0, v => (v, 0)
  | k + 1, v => if stF v = -1 then (v, 0) else ((slF k (stV v)).1, (slF k (stV v)).2 + 1)
theorem wfV_st {v : Vl} (hv : wfV v) (h : stF v ≠ -1) : wfV (stV v) := by
  have hF := wfF hv
  have hs := wfS hv
  have hb := fst_b (stQ v) (10 * v 2).toNat 0
  have hq : ∀ (n : Nat) (lo : Int), fstF (stQ v) lo n ≠ -1 → stQ v (fstF (stQ v) lo n) = true := by
    intro n
    induction n with
    | zero => intro lo z; exact absurd rfl z
    | succ n ih =>
      intro lo z
      rw [fstF] at z ⊢
      by_cases y : stQ v lo = true
      · rw [if_pos y]; exact y
      · rw [if_neg y] at z ⊢; exact ih _ z
  have h2 : stQ v (stF v) = true := hq _ _ h
  unfold stQ at h2
  simp only [decide_eq_true_eq] at h2
  obtain ⟨k1, k2, k3⟩ := swK_is h2.2.2
  obtain ⟨i1, i2⟩ := swQ_in k2
  have hsf : stF v = -1 ∨ (0 ≤ stF v ∧ stF v < 0 + ((10 * v 2).toNat : Nat)) := hb
  unfold stV swV
  have w1 := wfV_own hv (s := ((swK v (stF v / 10) (stF v % 10) 0 / 10 : Nat) : Int)) (f := stF v % 10) (by omega) (by omega)
  have k0 : ∀ j : Int, j < 8 → upV v ((8 + (5 * ((swK v (stF v / 10) (stF v % 10) 0 / 10 : Nat) : Int))) + 4) (stF v % 10) j = v j := fun j hj => by simp only [upV]; rw [if_neg (by omega)]
  exact wfV_own w1 (by rw [k0 0 (by omega)]; omega) (by rw [k0 2 (by omega)]; omega)

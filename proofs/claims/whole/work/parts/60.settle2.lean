-- a village with another holder
theorem wfV_own {v : Vl} (hv : wfV v) {s f : Int} (hs : 0 ≤ s ∧ s < v 0) (hf : -1 ≤ f ∧ f < v 2) : wfV (upV v ((8 + (5 * s)) + 4) f) := by
  have hS := wfS hv
  have hH := wfH hv
  have key : ∀ k : Int, k ≠ (8 + (5 * s)) + 4 → upV v ((8 + (5 * s)) + 4) f k = v k := fun k hk => by simp only [upV]; rw [if_neg hk]
  refine ⟨by rw [key 0 (by omega)]; exact hS, by rw [key 1 (by omega)]; exact hH, by rw [key 2 (by omega)]; exact wfF hv, by rw [key 3 (by omega)]; exact wfP hv, by rw [key 4 (by omega)]; exact wfU hv, fun t h0 h1 => ?_, fun h h0 h1 => ?_, fun g h0 h1 => ?_⟩
  · rw [key 0 (by omega)] at h1
    have hw := wfs hv h0 h1
    rw [key ((8 + (5 * t)) + 0) (by omega), key ((8 + (5 * t)) + 1) (by omega), key ((8 + (5 * t)) + 2) (by omega), key ((8 + (5 * t)) + 3) (by omega), key 2 (by omega)]
    refine ⟨hw.1, hw.2.1, hw.2.2.1, hw.2.2.2.1, ?_⟩
    by_cases z : t = s
    · subst z; simp only [upV]; simpa using hf
    · rw [key ((8 + (5 * t)) + 4) (by omega)]; exact hw.2.2.2.2
  · rw [key 1 (by omega)] at h1
    rw [key ((58 + (5 * h)) + 0) (by omega), key ((58 + (5 * h)) + 1) (by omega), key ((58 + (5 * h)) + 2) (by omega), key ((58 + (5 * h)) + 3) (by omega), key ((58 + (5 * h)) + 4) (by omega)]
    exact wfh hv h0 h1
  · rw [key 2 (by omega)] at h1
    rw [key ((88 + (3 * g)) + 0) (by omega), key ((88 + (3 * g)) + 1) (by omega), key ((88 + (3 * g)) + 2) (by omega)]
    exact wff hv h0 h1

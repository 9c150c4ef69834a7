/-! ===== the class's village and reckoner ===== -/
def fallN (v : Vl) (h : Int) : Nat := setN (fun s => decide (fallsP v h s)) (v 0).toNat
/-- the village at cell c is v -/
def CV (c : Nat) (v : Vl) (D : Dm) : Prop := D c 0 = v 0 ∧ D c 1 = v 1 ∧ D c 2 = v 2 ∧ D c 3 = v 3 ∧ D c 4 = v 4
  ∧ (∀ s, 0 ≤ s → s < v 0 → D (c + 1) s = v ((8 + (5 * s)) + 0) ∧ D (c + 2) s = v ((8 + (5 * s)) + 1) ∧ D (c + 3) s = v ((8 + (5 * s)) + 2) ∧ D (c + 4) s = v ((8 + (5 * s)) + 3) ∧ D (c + 5) s = v ((8 + (5 * s)) + 4))
  ∧ (∀ h, 0 ≤ h → h < v 1 → D (c + 6) h = v ((58 + (5 * h)) + 0) ∧ D (c + 7) h = v ((58 + (5 * h)) + 3) ∧ D (c + 9) h = ((fallN v h : Nat) : Int))
  ∧ (∀ f, 0 ≤ f → f < v 2 → D (c + 10) f = v ((88 + (3 * f)) + 0) ∧ D (c + 11) f = v ((88 + (3 * f)) + 1) ∧ D (c + 12) f = v ((88 + (3 * f)) + 2))
/-- and its odds -/
def CVo (c : Nat) (v : Vl) (D : Dm) : Prop := ∀ h : Int, 0 ≤ h → h < v 1 → D (c + 8) h = v ((58 + (5 * h)) + 4)
theorem CVo.same {c : Nat} {v : Vl} {D D' : Dm} (h : CVo c v D) (he : ∀ j, j ≤ 12 → D' (c + j) = D (c + j)) : CVo c v D' := fun i h0 h1 => by rw [he 8 (by omega)]; exact h i h0 h1
theorem CV_s {v : Vl} {D : Dm} (h : CV 1 v D) {s : Int} (h0 : 0 ≤ s) (h1 : s < v 0) : D 2 s = v ((8 + (5 * s)) + 0) ∧ D 3 s = v ((8 + (5 * s)) + 1) ∧ D 4 s = v ((8 + (5 * s)) + 2) ∧ D 5 s = v ((8 + (5 * s)) + 3) ∧ D 6 s = v ((8 + (5 * s)) + 4) := h.2.2.2.2.2.1 s h0 h1
theorem CV_h {v : Vl} {D : Dm} (h : CV 1 v D) {i : Int} (h0 : 0 ≤ i) (h1 : i < v 1) : D 7 i = v ((58 + (5 * i)) + 0) ∧ D 8 i = v ((58 + (5 * i)) + 3) ∧ D 10 i = ((fallN v i : Nat) : Int) := h.2.2.2.2.2.2.1 i h0 h1
theorem CV_f {v : Vl} {D : Dm} (h : CV 1 v D) {f : Int} (h0 : 0 ≤ f) (h1 : f < v 2) : D 11 f = v ((88 + (3 * f)) + 0) ∧ D 12 f = v ((88 + (3 * f)) + 1) ∧ D 13 f = v ((88 + (3 * f)) + 2) := h.2.2.2.2.2.2.2 f h0 h1
section C1
variable {l : Launch} {E : Ev} {G : Sh} {D : Dm} {v : Vl}
theorem c_X8_heldBy (hL : Lay G) (hv : wfV v) (hC : CV 1 v D) (f : Int) (hf : -2147483648 ≤ f ∧ f < 2147483648) : C0 l E MX8_heldBy 0 [vR E 1, vI f] G D (fun r D' => r = ((heldN v f : Nat) : Int) ∧ D' = D) := by
  refine s_X8_heldBy hL ?_
  have hS := wfS hv
  have e0 : D 1 0 = v 0 := hC.1
  refine up_from (P := fun i => KX8_heldBy l E _ 4 [(0, vR E 1), (1, vI f), (2, vI ((setN (fun s => decide (v ((8 + (5 * s)) + 4) = f)) i.toNat : Nat) : Int)), (3, vI i)] G D) (lo := 0) (n := v 0) (by omega) ?_ ?_
  · exact s_X8_heldBy_4 hL ⟨by omega, fun _ => ⟨rfl, rfl, rfl⟩, fun h => absurd h (by omega)⟩
  · intro i h0 h1 ih
    have hs := CV_s hC h0 h1
    rw [setN_s _ h0] at ih
    refine s_X8_heldBy_4 hL ⟨by omega, fun h => absurd h (by omega), fun _ => ⟨⟨by omega, hf⟩, fun hb => ?_, fun hb => ?_⟩⟩
    · rw [if_neg (by simp; omega)] at ih
      exact ih
    · rw [if_pos (by simp; omega)] at ih
      rw [setN_or (by omega)]
      exact ih
end C1

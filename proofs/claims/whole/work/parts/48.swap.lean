-- swaps
def exS (S x y : Nat) : Nat := S ^^^ 2 ^ x ^^^ 2 ^ y
theorem ex_lt {S x y n : Nat} (hS : S < 2 ^ n) (hx : x < n) (hy : y < n) : exS S x y < 2 ^ n :=
  Nat.xor_lt_two_pow (Nat.xor_lt_two_pow hS (Nat.pow_lt_pow_right (by decide) hx)) (Nat.pow_lt_pow_right (by decide) hy)
theorem ex_or {S x y : Nat} (hx : S.testBit x = true) (hy : S.testBit y = false) : ndf S (2 ^ x) ||| 2 ^ y = exS S x y := by
  apply Nat.eq_of_testBit_eq
  intro i
  unfold exS
  rw [Nat.testBit_or, ndf_bit, Nat.testBit_xor, Nat.testBit_xor, Nat.testBit_two_pow, Nat.testBit_two_pow]
  by_cases a : x = i
  · subst a
    have hne : ¬ y = x := by intro e; subst e; rw [hx] at hy; cases hy
    simp [hx, hne]
  · by_cases b : y = i
    · subst b; simp [a, hy]
    · simp [a, b]
def grS (v : Vl) (f : Int) (S x y : Nat) : Bool := decide (worthS v f S < worthS v f (exS S x y))
/-- pair t = 10 a + b is a swap of f and g -/
def swQ (v : Vl) (f g : Int) (t : Nat) : Bool := (heldN v f).testBit (t / 10) && ((heldN v g).testBit (t % 10) && (grS v f (heldN v f) (t / 10) (t % 10) && grS v g (heldN v g) (t % 10) (t / 10)))
theorem held_dis {v : Vl} {f g : Int} (h : f ≠ g) {i : Nat} (hi : (heldN v f).testBit i = true) : (heldN v g).testBit i = false := by
  unfold heldN at hi ⊢
  rw [setN_bit] at hi ⊢
  by_cases q : i < (v 0).toNat
  · simp [q] at hi ⊢
    intro z; exact h (hi.symm.trans z)
  · simp [q]
section
variable {l : Launch} {E : Ev} {G : Sh} {D : Dm}
theorem c_X10_grows (hL : Lay G) (hv : wfV (D 108)) (hh : D 107 20 = 0) {f : Int} (hf : 0 ≤ f ∧ f < D 108 2) {S : Nat} (hS : S < 2 ^ (D 108 0).toNat) {x y : Int} (hx : 0 ≤ x ∧ x < D 108 0) (hy : 0 ≤ y ∧ y < D 108 0) (bx : S.testBit x.toNat = true) (bY : S.testBit y.toNat = false) : C0 l E MX10_grows 0 [vR E 107, vI f, vI S, vI x, vI y] G D (fun r D' => r = (if grS (D 108) f S x.toNat y.toNat then 1 else 0) ∧ rS D D') := by
  have hs := wfS hv
  have h10 := two_le hs
  have hx2 : 2 ^ x.toNat < 2 ^ (D 108 0).toNat := Nat.pow_lt_pow_right (by decide) (by omega)
  have hy2 : 2 ^ y.toNat < 2 ^ (D 108 0).toNat := Nat.pow_lt_pow_right (by decide) (by omega)
  have hT : exS S x.toNat y.toNat < 2 ^ (D 108 0).toNat := ex_lt hS (by omega) (by omega)
  have hnd : ndf S (2 ^ x.toNat) ≤ S := by unfold ndf; rw [xor_sub (by rw [Nat.and_assoc, Nat.and_comm (2 ^ x.toNat) S, ← Nat.and_assoc, Nat.and_self])]; omega
  have eT : iO (iA S (iX (iSl 1 x) (-1))) (iSl 1 y) = (exS S x.toNat y.toNat : Nat) := by
    rw [iSl1 (by omega), iSl1 (by omega), iN_nat S _ (by omega), iO_nat _ _ (by omega) (by omega), ex_or bx bY]
  refine s_X10_grows hL ?_
  rw [eT]
  refine C0.use (c_X10_worthOf hL hv hh hf hT) ?_
  rintro r D1 ⟨rfl, h1⟩
  try dsimp only
  have e := h1.at
  refine C0.use (c_X10_worthOf hL (by rw [e]; exact hv) (by rw [h1.hv]; exact hh) (by rw [e]; exact hf) (by rw [e]; exact hS)) ?_
  rintro r D2 ⟨rfl, h2⟩
  try dsimp only
  rw [e]
  have b1 := worth_b hv hf hT
  have b2 := worth_b hv hf hS
  refine ⟨⟨by omega, by omega⟩, fun q => ⟨rfl, ?_, h1.tr h2⟩, fun q => ⟨rfl, ?_, h1.tr h2⟩⟩
  · unfold grS; rw [if_neg (by simp only [decide_eq_true_eq]; omega)]
  · unfold grS; rw [if_pos (by simp only [decide_eq_true_eq]; exact q)]
end

-- the class's first swap
section
variable {l : Launch} {E : Ev} {G : Sh} {D : Dm} {v : Vl}
def stX (v : Vl) : Int := ((swK v (stF v / 10) (stF v % 10) 0 / 10 : Nat) : Int)
def stY (v : Vl) : Int := ((swK v (stF v / 10) (stF v % 10) 0 % 10 : Nat) : Int)
theorem c_X4_swapFirst (hL : Lay G) (hv : wfV v) (hR : Rd v G D) : C0 l E MX4_swapFirst 0 [vR E 56] G D (fun r D' => (stF v = -1 ∧ r = 0 ∧ cS D D') ∨ (stF v ≠ -1 ∧ r = 1 ∧ ((0 ≤ stX v ∧ stX v < v 0) ∧ (0 ≤ stY v ∧ stY v < v 0) ∧ (0 ≤ stF v / 10 ∧ stF v / 10 < v 2) ∧ (0 ≤ stF v % 10 ∧ stF v % 10 < v 2)) ∧ ∃ D1, cS D D1 ∧ D' = upd2 (upd2 D1 6 (stX v) (stF v % 10)) 6 (stY v) (stF v / 10))) := by
  have hF := wfF hv
  have hs := wfS hv
  refine s_X4_swapFirst hL ?_
  refine up_from (P := fun a => ∀ D', fstF (stQ v) (10 * a) (10 * v 2 - 10 * a).toNat = stF v → cS D D' → KX4_swapFirst l E _ 2 [(0, vR E 56), (1, vI a)] G D') (lo := 0) (n := v 2) (by omega) ?_ ?_ D (by rw [Int.mul_zero, Int.sub_zero]; rfl) cS.rf
  · intro D' he hm
    have e2 : D' 1 2 = v 2 := (hm.ready hL hR).1.2.2.1
    rw [Int.sub_self] at he
    exact s_X4_swapFirst_2 hL ⟨by omega, fun _ => ⟨rfl, Or.inl ⟨he.symm, rfl, hm⟩⟩, fun z => absurd z (by omega)⟩
  · intro a a0 a1 iha D' he hm
    have e2 : D' 1 2 = v 2 := (hm.ready hL hR).1.2.2.1
    refine s_X4_swapFirst_2 hL ⟨by omega, fun z => absurd z (by omega), fun _ => ?_⟩
    refine up_from (P := fun b => ∀ D', fstF (stQ v) (10 * a + b) (10 * v 2 - (10 * a + b)).toNat = stF v → cS D D' → KX4_swapFirst l E _ 17 [(0, vR E 56), (1, vI a), (2, vI b)] G D') (lo := a + 1) (n := v 2) (by omega) ?_ ?_ D' ?_ hm
    · intro D' he hm
      have e2 : D' 1 2 = v 2 := (hm.ready hL hR).1.2.2.1
      refine s_X4_swapFirst_17 hL ⟨by omega, fun _ => iha D' ?_ hm, fun z => absurd z (by omega)⟩
      rw [← he]
      exact (fst_skip (by omega) (by omega) (fun t t0 t1 => st_end t0 t1)).symm
    · intro b b0 b1 ih D' he hm
      have hR' := hm.ready hL hR
      have e2 : D' 1 2 = v 2 := hR'.1.2.2.1
      have e1 : (10 * v 2 - (10 * a + b)).toNat = (10 * v 2 - (10 * a + (b + 1))).toNat + 1 := by omega
      have ea : 10 * a + b + 1 = 10 * a + (b + 1) := by omega
      rw [e1, fstF, ea] at he
      have ed : (10 * a + b) / 10 = a := by omega
      have em : (10 * a + b) % 10 = b := by omega
      have hq : stQ v (10 * a + b) = decide (0 < swN v a b) := by
        unfold stQ; rw [ed, em]
        refine decide_eq_decide.2 ⟨fun z => z.2.2, fun z => ⟨by omega, by omega, z⟩⟩
      refine s_X4_swapFirst_17 hL ⟨by omega, fun z => absurd z (by omega), fun _ => ?_⟩
      refine C0.use (c_X4_countSwaps hL hv hR' (f := a) (g := b) (k := 0) (by omega) (by omega) (by omega) (by decide)) ?_
      rintro r D2 ⟨⟨hc, r0, r1⟩, hs2⟩
      try dsimp only
      have hm3 := hm.tr hs2
      refine ⟨by omega, fun z => ih D2 ?_ hm3, fun z => ?_⟩
      · rcases hc with c | c
        · have : r = (swN v a b : Nat) := c.1
          rw [if_neg (by rw [hq]; simp; omega)] at he
          exact he
        · have := c.1; omega
      · rcases hc with c | ⟨c1, t, t1, t2, t3, t4, t5⟩
        · have := c.2; omega
        · have hpos : 0 < swN v a b := by
            have := cnt_lt _ t1 t2
            unfold swN; omega
          have ek : swK v a b 0 = t := kth_is t1 t2 t3
          obtain ⟨i1, i2⟩ := swQ_in t2
          rw [if_pos (by rw [hq]; simpa using hpos)] at he
          have eX : stX v = (t / 10 : Nat) := by unfold stX; rw [← he, ed, em, ek]
          have eY : stY v = (t % 10 : Nat) := by unfold stY; rw [← he, ed, em, ek]
          rw [t4, t5, ← eX, ← eY]
          refine ⟨⟨by omega, by omega, by omega⟩, rfl, Or.inr ⟨by omega, rfl, ⟨by omega, by omega, by omega, by omega⟩, D2, hm3, ?_⟩⟩
          rw [← he, ed, em]
    · rw [← he]
      exact (fst_skip (by omega) (by omega) (fun t t0 t1 => st_low t0 t1 (by omega))).symm
end

-- given, both sides; the third of a ring
def q_given (n : Int) (w : Vl) (s : Int) : Ans := if n = -1 then aNo 6 (-1) else if 0 ≤ s ∧ s < n then aNo 0 (w s) else aNo 1 (-1)
section
variable {l : Launch} {E : Ev} {G : Sh} {D : Dm} {v : Vl} {a : Ans}
theorem c_X10_given (hL : Lay G) (hn : D 107 33 ≤ 8) {s : Int} (hs : iRg s) (ha : a = q_given (D 107 33) (D 120) s) : C0 l E MX10_given 0 [vR E 107, vI s] G D (fun r D' => r = a.2.1 ∧ mQ D D' a) :=
  s_X10_given hL ⟨fun q => ⟨hs, fun q2 => ⟨rfl, mQ.no (by rw [ha, q_given, if_neg q, if_neg (by omega)]) mS.rf⟩, fun q2 => ⟨fun q3 => ⟨by omega, rfl, mQ.no (by rw [ha, q_given, if_neg q, if_pos ⟨q2, q3⟩]) mS.rf⟩, fun q3 => ⟨rfl, mQ.no (by rw [ha, q_given, if_neg q, if_neg (by omega)]) mS.rf⟩⟩⟩, fun q => ⟨rfl, mQ.no (by rw [ha, q_given, if_pos q]) mS.rf⟩⟩
theorem c_X9_given (hL : Lay G) (hI : RI v G D) (hn : D 60 7 ≤ 8) {s : Int} (hs : iRg s) (ha : a = q_given (D 60 7) (D 65) s) : Ct l E MX9_given 0 0 0 [vR E 0, vI s] G D (cP v G D a) :=
  s_X9_given hL ⟨fun q => ⟨hs, fun q2 => cP.no hL hI (by rw [ha, q_given, if_neg q, if_neg (by omega)]) yS.rf (Or.inl rfl), fun q2 => ⟨fun q3 => ⟨by omega, cP.no hL hI (by rw [ha, q_given, if_neg q, if_pos ⟨q2, q3⟩]) yS.rf (Or.inl rfl)⟩, fun q3 => cP.no hL hI (by rw [ha, q_given, if_neg q, if_neg (by omega)]) yS.rf (Or.inl rfl)⟩⟩, fun q => cP.no hL hI (by rw [ha, q_given, if_pos q]) yS.rf (Or.inl rfl)⟩
/-- the strip of h that closes the ring -/
def rg3 (v : Vl) (f h : Int) (x y : Nat) (z : Int) : Bool := (heldN v h).testBit z.toNat && (grS v h (heldN v h) z.toNat y && grS v f (heldN v f) x z.toNat)
theorem c_X4_thirdOfRing (hL : Lay G) (hv : wfV v) (hR : Rd v G D) {f h : Int} (hf : 0 ≤ f ∧ f < v 2) (hh : 0 ≤ h ∧ h < v 2) (l1 : LK v f D) (l2 : LK v h D) {x y : Int} (hx : 0 ≤ x ∧ x < v 0) (hy : 0 ≤ y ∧ y < v 0) : C0 l E MX4_thirdOfRing 0 [vR E 56, vI f, vI h, vI x, vI y] G D (fun r D' => r = fstF (rg3 v f h x.toNat y.toNat) 0 (v 0).toNat ∧ kS D D') := by
  have hs := wfS hv
  have hF := wfF hv
  have h10 := two_le hs
  have hB : heldN v h < 2 ^ (v 0).toNat := setN_lt _ _
  refine s_X4_thirdOfRing hL ?_
  refine up_from (P := fun i => ∀ D', kS D D' → fstF (rg3 v f h x.toNat y.toNat) i (v 0 - i).toNat = fstF (rg3 v f h x.toNat y.toNat) 0 (v 0).toNat → KX4_thirdOfRing l E _ 3 [(0, vR E 56), (1, vI f), (2, vI h), (3, vI x), (4, vI y), (5, vI i)] G D') (lo := 0) (n := v 0) (by omega) ?_ ?_ D kS.rf (by rw [Int.sub_zero])
  · intro D' hk he
    have e0 : D' 1 0 = v 0 := (hk.s.ready hL hR).1.1
    rw [Int.sub_self] at he
    exact s_X4_thirdOfRing_3 hL ⟨by omega, fun _ => ⟨rfl, he, hk⟩, fun z => absurd z (by omega)⟩
  · intro i i0 i1 ih D' hk he
    have hR' := hk.s.ready hL hR
    have e0 : D' 1 0 = v 0 := hR'.1.1
    have e1 : (v 0 - i).toNat = (v 0 - (i + 1)).toNat + 1 := by omega
    rw [e1, fstF] at he
    have m1 := l1.k hk
    have m2 := l2.k hk
    have hskip : rg3 v f h x.toNat y.toNat i = false → ∀ D', kS D D' → KX4_thirdOfRing l E _ 3 [(0, vR E 56), (1, vI f), (2, vI h), (3, vI x), (4, vI y), (5, vI (i + 1))] G D' := fun q D' hk => ih D' hk (by rw [q] at he; exact he)
    refine s_X4_thirdOfRing_3 hL ?_
    rw [m2.1]
    refine ⟨by omega, fun z => absurd z (by omega), fun _ => ⟨by omega, fun q => hskip ?_ D' hk, fun q => ?_⟩⟩
    · unfold rg3; rw [bitI_eq0 i0 (by omega) (by omega) (Classical.byContradiction q)]; rfl
    · have bz := bitI_ne0 i0 (by omega) (by omega) q
      refine C0.use (c_X4_gains hL hv hR' hh m2 (x := i) (y := y) (by omega) hy) ?_
      rintro r D3 ⟨rfl, hk3⟩
      try dsimp only
      have hk4 := hk.tr hk3
      cases hg1 : grS v h (heldN v h) i.toNat y.toNat with
      | false => exact ⟨by simp, fun _ => hskip (by unfold rg3; rw [hg1]; simp) D3 hk4, fun z => absurd rfl z⟩
      | true =>
        refine ⟨by simp, fun z => absurd z (by simp), fun _ => ?_⟩
        refine C0.use (c_X4_gains hL hv (hk4.s.ready hL hR) hf (l1.k hk4) (x := x) (y := i) hx (by omega)) ?_
        rintro r D4 ⟨rfl, hk5⟩
        try dsimp only
        cases hg2 : grS v f (heldN v f) x.toNat i.toNat with
        | false => exact ⟨by simp, fun _ => hskip (by unfold rg3; rw [hg2]; simp) D4 (hk4.tr hk5), fun z => absurd rfl z⟩
        | true =>
          refine ⟨by simp, fun z => absurd z (by simp), fun _ => ⟨rfl, ?_, hk4.tr hk5⟩⟩
          rw [if_pos (by unfold rg3; rw [bz, hg1, hg2]; rfl)] at he
          exact he
end

-- rings
theorem fst_skip {q : Int → Bool} {lo hi N : Int} (h : lo ≤ hi) (hN : hi ≤ N) (hq : ∀ t : Int, lo ≤ t → t < hi → q t = false) : fstF q lo (N - lo).toNat = fstF q hi (N - hi).toNat := by
  refine up_from (P := fun i => fstF q i (N - i).toNat = fstF q hi (N - hi).toNat) (lo := lo) (n := hi) h rfl ?_
  intro i i0 i1 ih
  have e : (N - i).toNat = (N - (i + 1)).toNat + 1 := by omega
  rw [e, fstF, hq i i0 i1]
  exact ih
def rgQ (v : Vl) (f g h : Int) (t : Int) : Bool := (heldN v f).testBit (t / 10).toNat && ((heldN v g).testBit (t % 10).toNat && (grS v g (heldN v g) (t % 10).toNat (t / 10).toNat && decide (fstF (rg3 v f h (t / 10).toNat (t % 10).toNat) 0 (v 0).toNat ≠ -1)))
def rgF (v : Vl) (f g h : Int) : Int := fstF (rgQ v f g h) 0 (10 * v 0).toNat
def rgZ (v : Vl) (f g h : Int) : Int := fstF (rg3 v f h (rgF v f g h / 10).toNat (rgF v f g h % 10).toNat) 0 (v 0).toNat
theorem rg_end {v : Vl} (f g h : Int) {a t : Int} (a0 : 0 ≤ a) (h0 : 10 * a + v 0 ≤ t) (h1 : t < 10 * (a + 1)) (hs : 0 ≤ v 0) : rgQ v f g h t = false := by
  unfold rgQ
  have : (heldN v g).testBit (t % 10).toNat = false := by
    unfold heldN
    rw [setN_bit]
    have : ¬ (t % 10).toNat < (v 0).toNat := by omega
    simp [this]
  rw [this]; simp
section
variable {l : Launch} {E : Ev} {G : Sh} {D : Dm} {v : Vl}
theorem c_X4_findRing (hL : Lay G) (hv : wfV v) (hR : Rd v G D) {f g h : Int} (hf : 0 ≤ f ∧ f < v 2) (hg : 0 ≤ g ∧ g < v 2) (hh : 0 ≤ h ∧ h < v 2) (hfg : f ≠ g) (hfh : f ≠ h) (hgh : g ≠ h) : C0 l E MX4_findRing 0 [vR E 56, vI f, vI g, vI h] G D (fun r D' => ((rgF v f g h = -1 ∧ r = 0) ∨ (rgF v f g h ≠ -1 ∧ r = 1 ∧ D' 57 0 = rgF v f g h / 10 ∧ D' 57 1 = rgF v f g h % 10 ∧ D' 57 2 = rgZ v f g h)) ∧ cS D D') := by
  have hs := wfS hv
  have hF := wfF hv
  have h10 := two_le hs
  have hA : heldN v f < 2 ^ (v 0).toNat := setN_lt _ _
  have hB : heldN v g < 2 ^ (v 0).toNat := setN_lt _ _
  refine s_X4_findRing hL ?_
  refine C0.use (c_X4_look hL hv hR hf) ?_
  rintro - D1 ⟨lf, -, hs1⟩
  try dsimp only
  refine C0.use (c_X4_look hL hv (hs1.ready hL hR) hg) ?_
  rintro - D2 ⟨lg, lo2, hs2⟩
  try dsimp only
  refine C0.use (c_X4_look hL hv ((hs1.tr hs2).ready hL hR) hh) ?_
  rintro - D3 ⟨lh, lo3, hs3⟩
  try dsimp only
  have lf3 := lo3 f hfh (lo2 f hfg lf)
  have lg3 := lo3 g hgh lg
  refine up_from (P := fun a => ∀ D', fstF (rgQ v f g h) (10 * a) (10 * v 0 - 10 * a).toNat = rgF v f g h → LK v f D' → LK v g D' → LK v h D' → cS D D' → KX4_findRing l E _ 18 [(0, vR E 56), (1, vI f), (2, vI g), (3, vI h), (4, vI a)] G D') (lo := 0) (n := v 0) (by omega) ?_ ?_ D3 (by rw [Int.mul_zero, Int.sub_zero]; rfl) lf3 lg3 lh ((hs1.tr hs2).tr hs3)
  · intro D' he l1 l2 l3 hc
    have e0 : D' 1 0 = v 0 := (hc.ready hL hR).1.1
    rw [Int.sub_self] at he
    exact s_X4_findRing_18 hL ⟨by omega, fun _ => ⟨rfl, Or.inl ⟨he.symm, rfl⟩, hc⟩, fun z => absurd z (by omega)⟩
  · intro a a0 a1 iha D' he l1 l2 l3 hc
    have e0 : D' 1 0 = v 0 := (hc.ready hL hR).1.1
    refine s_X4_findRing_18 hL ⟨by omega, fun z => absurd z (by omega), fun _ => ?_⟩
    refine up_from (P := fun b => ∀ D', fstF (rgQ v f g h) (10 * a + b) (10 * v 0 - (10 * a + b)).toNat = rgF v f g h → LK v f D' → LK v g D' → LK v h D' → cS D D' → KX4_findRing l E _ 33 [(0, vR E 56), (1, vI f), (2, vI g), (3, vI h), (4, vI a), (5, vI b)] G D') (lo := 0) (n := v 0) (by omega) ?_ ?_ D' (by rw [Int.add_zero]; exact he) l1 l2 l3 hc
    · intro D' he l1 l2 l3 hc
      have e0 : D' 1 0 = v 0 := (hc.ready hL hR).1.1
      refine s_X4_findRing_33 hL ⟨by omega, fun _ => iha D' ?_ l1 l2 l3 hc, fun z => absurd z (by omega)⟩
      rw [← he]
      exact (fst_skip (by omega) (by omega) (fun t t0 t1 => rg_end f g h a0 t0 t1 hs.1)).symm
    · intro b b0 b1 ih D' he l1 l2 l3 hc
      have hR' := hc.ready hL hR
      have e0 : D' 1 0 = v 0 := hR'.1.1
      have e1 : (10 * v 0 - (10 * a + b)).toNat = (10 * v 0 - (10 * a + (b + 1))).toNat + 1 := by omega
      have ea : 10 * a + b + 1 = 10 * a + (b + 1) := by omega
      rw [e1, fstF, ea] at he
      have ed : (10 * a + b) / 10 = a := by omega
      have em : (10 * a + b) % 10 = b := by omega
      have hq : rgQ v f g h (10 * a + b) = ((heldN v f).testBit a.toNat && ((heldN v g).testBit b.toNat && (grS v g (heldN v g) b.toNat a.toNat && decide (fstF (rg3 v f h a.toNat b.toNat) 0 (v 0).toNat ≠ -1)))) := by unfold rgQ; rw [ed, em]
      have hskip : rgQ v f g h (10 * a + b) = false → ∀ D', LK v f D' → LK v g D' → LK v h D' → cS D D' → KX4_findRing l E _ 33 [(0, vR E 56), (1, vI f), (2, vI g), (3, vI h), (4, vI a), (5, vI (b + 1))] G D' := fun q D' => ih D' (by rw [q] at he; exact he)
      refine s_X4_findRing_33 hL ?_
      rw [l1.1, l2.1]
      refine ⟨by omega, fun z => absurd z (by omega), fun _ => ⟨by omega, fun q => hskip ?_ D' l1 l2 l3 hc, fun q => ⟨by omega, fun q2 => hskip ?_ D' l1 l2 l3 hc, fun q2 => ?_⟩⟩⟩
      · rw [hq, bitI_eq0 a0 (by omega) (by omega) (Classical.byContradiction q)]; rfl
      · rw [hq, bitI_eq0 b0 (by omega) (by omega) (Classical.byContradiction q2)]; simp
      · have ba := bitI_ne0 a0 (by omega) (by omega) q
        have bb := bitI_ne0 b0 (by omega) (by omega) q2
        refine C0.use (c_X4_gains hL hv hR' hg l2 (x := b) (y := a) (by omega) (by omega)) ?_
        rintro r D4 ⟨rfl, hk4⟩
        try dsimp only
        have hc4 := hc.tr hk4.s
        cases hg1 : grS v g (heldN v g) b.toNat a.toNat with
        | false => exact ⟨by simp, fun _ => hskip (by rw [hq, hg1]; simp) D4 (l1.k hk4) (l2.k hk4) (l3.k hk4) hc4, fun z => absurd rfl z⟩
        | true =>
          refine ⟨by simp, fun z => absurd z (by simp), fun _ => ?_⟩
          refine C0.use (c_X4_thirdOfRing hL hv (hc4.ready hL hR) hf hh (l1.k hk4) (l3.k hk4) (x := a) (y := b) (by omega) (by omega)) ?_
          rintro r D5 ⟨hr, hk5⟩
          try dsimp only
          have hk45 := hk4.tr hk5
          have hfb := fst_b (rg3 v f h a.toNat b.toNat) (v 0).toNat 0
          rw [← hr] at hfb
          refine ⟨by omega, fun z => hskip (by rw [hq, ← hr, z]; simp) D5 (l1.k hk45) (l2.k hk45) (l3.k hk45) (hc.tr hk45.s), fun z => ⟨by omega, rfl, Or.inr ?_, (((hc.tr hk45.s).up (by simp [scrC]) _).up (by simp [scrC]) _).up (by simp [scrC]) _⟩⟩
          have hqt : rgQ v f g h (10 * a + b) = true := by rw [hq, ba, bb, hg1, ← hr]; simp [z]
          rw [if_pos hqt] at he
          refine ⟨by omega, rfl, ?_, ?_, ?_⟩
          · rw [← he, ed]; simp [upd2]
          · rw [← he, em]; simp [upd2]
          · unfold rgZ; rw [← he, ed, em, ← hr]; simp [upd2]
end

-- ring of the reference
section
variable {l : Launch} {E : Ev} {G : Sh} {D : Dm} {a : Ans}
theorem c_X10_ring (hL : Lay G) (hv : wfV (D 108)) (hh0 : D 107 20 = 0) {f g h w : Int} (hf : iRg f) (hg : iRg g) (hh : iRg h) (hw : iRg w) (ha : a = q_ring (D 108) f g h w) : C0 l E MX10_ring 0 [vR E 107, vI f, vI g, vI h, vI w] G D (fun r D' => r = a.2.1 ∧ mQ D D' a) := by
  have hs := wfS hv
  have h10 := two_le hs
  have no : ¬ ((twoP (D 108) f g ∧ twoP (D 108) g h ∧ f ≠ h) ∧ 0 ≤ w ∧ w ≤ 2) → (-1 = a.2.1 ∧ mQ D (upd2 D 107 1 1) a) := fun q => mQ.no (by rw [ha, q_ring, if_neg q]) mS.rf
  refine s_X10_ring hL ⟨⟨hf, hg⟩, fun q => ⟨rfl, no (fun z => q z.1.1)⟩, fun q => ⟨hh, fun q2 => ⟨rfl, no (fun z => q2 z.1.2.1)⟩, fun q2 => ⟨fun q3 => ⟨rfl, no (fun z => q3 ⟨q.1, q2.2.1, z.1.2.2⟩)⟩, fun q3 => ⟨hw, fun q4 => ⟨rfl, no (by omega)⟩, fun q4 => ⟨fun q5 => ?_, fun q5 => ⟨rfl, no (by omega)⟩⟩⟩⟩⟩⟩
  rw [q_ring, if_pos ⟨⟨q, q2, q3.2.2⟩, q4, q5⟩] at ha
  have hA : heldN (D 108) f < 2 ^ (D 108 0).toNat := setN_lt _ _
  have hB : heldN (D 108) g < 2 ^ (D 108 0).toNat := setN_lt _ _
  have hCc : heldN (D 108) h < 2 ^ (D 108 0).toNat := setN_lt _ _
  refine C0.use (c_X10_held hL hv f hf) ?_
  rintro r D1 ⟨rfl, rfl⟩
  try dsimp only
  refine C0.use (c_X10_held hL hv g hg) ?_
  rintro r D2 ⟨rfl, rfl⟩
  try dsimp only
  refine C0.use (c_X10_held hL hv h hh) ?_
  rintro r D3 ⟨rfl, rfl⟩
  try dsimp only
  refine up_from (P := fun x => ∀ D', fstF (rgQ (D3 108) f g h) (10 * x) (10 * D3 108 0 - 10 * x).toNat = rgF (D3 108) f g h → mS D3 D' → KX10_ring l E _ 76 [(0, vR E 107), (1, vI f), (2, vI g), (3, vI h), (4, vI w), (5, vI (heldN (D3 108) f : Nat)), (6, vI (heldN (D3 108) g : Nat)), (7, vI (heldN (D3 108) h : Nat)), (8, vI (D3 108 0)), (9, vI x)] G D') (lo := 0) (n := D3 108 0) (by omega) ?_ ?_ D3 (by rw [Int.mul_zero, Int.sub_zero]; rfl) mS.rf
  · intro D' he hm
    rw [Int.sub_self] at he
    have he' : rgF (D3 108) f g h = -1 := he.symm
    exact s_X10_ring_76 hL ⟨⟨by omega, by omega⟩, fun _ => ⟨rfl, mQ.no (by rw [ha, if_pos he']) hm⟩, fun z => absurd z (by omega)⟩
  · intro x x0 x1 ihx D' he hm
    refine s_X10_ring_76 hL ⟨⟨by omega, by omega⟩, fun z => absurd z (by omega), fun _ => ?_⟩
    refine up_from (P := fun y => ∀ D', fstF (rgQ (D3 108) f g h) (10 * x + y) (10 * D3 108 0 - (10 * x + y)).toNat = rgF (D3 108) f g h → mS D3 D' → KX10_ring l E _ 86 [(0, vR E 107), (1, vI f), (2, vI g), (3, vI h), (4, vI w), (5, vI (heldN (D3 108) f : Nat)), (6, vI (heldN (D3 108) g : Nat)), (7, vI (heldN (D3 108) h : Nat)), (8, vI (D3 108 0)), (9, vI x), (10, vI y)] G D') (lo := 0) (n := D3 108 0) (by omega) ?_ ?_ D' (by rw [Int.add_zero]; exact he) hm
    · intro D' he hm
      refine s_X10_ring_86 hL ⟨⟨by omega, by omega⟩, fun _ => ihx D' ?_ hm, fun z => absurd z (by omega)⟩
      rw [← he]
      exact (fst_skip (by omega) (by omega) (fun t t0 t1 => rg_end f g h x0 t0 t1 hs.1)).symm
    · intro y y0 y1 ih D' he hm
      have ed : (10 * x + y) / 10 = x := by omega
      have em : (10 * x + y) % 10 = y := by omega
      have he0 := he
      have e1 : (10 * D3 108 0 - (10 * x + y)).toNat = (10 * D3 108 0 - (10 * x + (y + 1))).toNat + 1 := by omega
      have ea : 10 * x + y + 1 = 10 * x + (y + 1) := by omega
      rw [e1, fstF, ea] at he
      have hq : rgQ (D3 108) f g h (10 * x + y) = ((heldN (D3 108) f).testBit x.toNat && ((heldN (D3 108) g).testBit y.toNat && (grS (D3 108) g (heldN (D3 108) g) y.toNat x.toNat && decide (fstF (rg3 (D3 108) f h x.toNat y.toNat) 0 (D3 108 0).toNat ≠ -1)))) := by unfold rgQ; rw [ed, em]
      have hskip : rgQ (D3 108) f g h (10 * x + y) = false → ∀ D', mS D3 D' → KX10_ring l E _ 86 [(0, vR E 107), (1, vI f), (2, vI g), (3, vI h), (4, vI w), (5, vI (heldN (D3 108) f : Nat)), (6, vI (heldN (D3 108) g : Nat)), (7, vI (heldN (D3 108) h : Nat)), (8, vI (D3 108 0)), (9, vI x), (10, vI (y + 1))] G D' := fun q D' => ih D' (by rw [q] at he; exact he)
      refine s_X10_ring_86 hL ⟨⟨by omega, by omega⟩, fun z => absurd z (by omega), fun _ => ⟨fun b1 => ihx D' ?_ hm, fun b1 => ⟨fun b2 => hskip ?_ D' hm, fun b2 => ?_⟩⟩⟩
      · rw [← he0]
        refine (fst_skip (by omega) (by omega) (fun t t0 t1 => ?_)).symm
        have : t / 10 = x := by omega
        unfold rgQ
        rw [this, bitI_ne1 x0 (by omega) (by omega) b1]; rfl
      · rw [hq, bitI_eq0 y0 (by omega) (by omega) b2]; simp
      · have bx := bitI_eq1 x0 (by omega) (by omega) b1
        have bY := bitI_ne0 y0 (by omega) (by omega) b2
        have e := hm.at
        refine C0.use (c_X10_grows hL (by rw [e]; exact hv) (by rw [hm.hv]; exact hh0) (by rw [e]; exact q.2.1) (by rw [e]; exact hB) (by rw [e]; omega) (by rw [e]; omega) bY (held_dis q.2.2 bx)) ?_
        rintro r D4 ⟨rfl, hr4⟩
        try dsimp only
        rw [e]
        have hm4 := hm.tr hr4.m
        cases hg1 : grS (D3 108) g (heldN (D3 108) g) y.toNat x.toNat with
        | false => exact ⟨by simp, fun z => absurd rfl z, fun _ => hskip (by rw [hq, hg1]; simp) D4 hm4⟩
        | true =>
          refine ⟨by simp, fun _ => ?_, fun z => absurd z (by simp)⟩
          refine up_from (P := fun z => ∀ D', fstF (rg3 (D3 108) f h x.toNat y.toNat) z (D3 108 0 - z).toNat = fstF (rg3 (D3 108) f h x.toNat y.toNat) 0 (D3 108 0).toNat → mS D3 D' → KX10_ring l E _ 134 [(0, vR E 107), (1, vI f), (2, vI g), (3, vI h), (4, vI w), (5, vI (heldN (D3 108) f : Nat)), (6, vI (heldN (D3 108) g : Nat)), (7, vI (heldN (D3 108) h : Nat)), (8, vI (D3 108 0)), (9, vI x), (10, vI y), (11, vI z)] G D') (lo := 0) (n := D3 108 0) (by omega) ?_ ?_ D4 (by rw [Int.sub_zero]) hm4
          · intro D' hz hm
            rw [Int.sub_self] at hz
            have hz' : fstF (rg3 (D3 108) f h x.toNat y.toNat) 0 (D3 108 0).toNat = -1 := hz.symm
            exact s_X10_ring_134 hL ⟨⟨by omega, by omega⟩, fun _ => hskip (by rw [hq, hz']; simp) D' hm, fun z => absurd z (by omega)⟩
          · intro z z0 z1 ihz D' hz hm
            have e := hm.at
            have e2 : (D3 108 0 - z).toNat = (D3 108 0 - (z + 1)).toNat + 1 := by omega
            rw [e2, fstF] at hz
            have zskip : rg3 (D3 108) f h x.toNat y.toNat z = false → ∀ D', mS D3 D' → KX10_ring l E _ 134 [(0, vR E 107), (1, vI f), (2, vI g), (3, vI h), (4, vI w), (5, vI (heldN (D3 108) f : Nat)), (6, vI (heldN (D3 108) g : Nat)), (7, vI (heldN (D3 108) h : Nat)), (8, vI (D3 108 0)), (9, vI x), (10, vI y), (11, vI (z + 1))] G D' := fun q D' => ihz D' (by rw [q] at hz; exact hz)
            refine s_X10_ring_134 hL ⟨⟨by omega, by omega⟩, fun t => absurd t (by omega), fun _ => ⟨fun b3 => zskip ?_ D' hm, fun b3 => ?_⟩⟩
            · unfold rg3; rw [bitI_ne1 z0 (by omega) (by omega) b3]; rfl
            · have bz := bitI_eq1 z0 (by omega) (by omega) b3
              refine C0.use (c_X10_grows hL (by rw [e]; exact hv) (by rw [hm.hv]; exact hh0) (by rw [e]; exact q2.2.1) (by rw [e]; exact hCc) (by rw [e]; omega) (by rw [e]; omega) bz (held_dis q2.2.2 bY)) ?_
              rintro r D5 ⟨rfl, hr5⟩
              try dsimp only
              rw [e]
              have hm5 := hm.tr hr5.m
              have e5 := hm5.at
              cases hg2 : grS (D3 108) h (heldN (D3 108) h) z.toNat y.toNat with
              | false => exact ⟨by simp, fun _ => zskip (by unfold rg3; rw [hg2]; simp) D5 hm5, fun t => absurd rfl t⟩
              | true =>
                refine ⟨by simp, fun t => absurd t (by simp), fun _ => ?_⟩
                refine C0.use (c_X10_grows hL (by rw [e5]; exact hv) (by rw [hm5.hv]; exact hh0) (by rw [e5]; exact q.1) (by rw [e5]; exact hA) (by rw [e5]; omega) (by rw [e5]; omega) bx (held_dis (fun t => q3.2.2 t.symm) bz)) ?_
                rintro r D6 ⟨rfl, hr6⟩
                try dsimp only
                rw [e5]
                have hm6 := hm5.tr hr6.m
                cases hg3 : grS (D3 108) f (heldN (D3 108) f) x.toNat z.toNat with
                | false => exact ⟨by simp, fun _ => zskip (by unfold rg3; rw [hg3]; simp) D6 hm6, fun t => absurd rfl t⟩
                | true =>
                  have h3 : rg3 (D3 108) f h x.toNat y.toNat z = true := by unfold rg3; rw [bz, hg2, hg3]; rfl
                  rw [if_pos h3] at hz
                  have hqt : rgQ (D3 108) f g h (10 * x + y) = true := by rw [hq, bx, bY, hg1, ← hz]; simp; omega
                  rw [if_pos hqt] at he
                  have hzz : rgZ (D3 108) f g h = z := by unfold rgZ; rw [← he, ed, em, ← hz]
                  rw [hzz, ← he, if_neg (by omega), ed, em] at ha
                  refine ⟨by simp, fun t => absurd t (by simp), fun _ => ⟨hw, fun w0 => ⟨fun w1 => ⟨rfl, mQ.no (by rw [ha, if_neg w0, if_neg w1]) hm6⟩, fun w1 => ⟨rfl, mQ.no (by rw [ha, if_neg w0, if_pos w1]) hm6⟩⟩, fun w0 => ⟨rfl, mQ.no (by rw [ha, if_pos w0]) hm6⟩⟩⟩
end

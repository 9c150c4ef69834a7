-- the reference's count of swaps
def swAt (v : Vl) (f g k : Int) (n : Nat) (D : Dm) : Prop := ∀ t : Nat, t < n → swQ v f g t = true → (cntS (swQ v f g) t : Int) = k → D 107 27 = (t / 10 : Nat) ∧ D 107 28 = (t % 10 : Nat)
section
variable {l : Launch} {E : Ev} {G : Sh} {D : Dm}
theorem cnt_le (p : Nat → Bool) (n : Nat) : cntS p n ≤ n := by
  induction n with
  | zero => exact Nat.le_refl _
  | succ k ih => rw [cnt_s]; split <;> omega
theorem c_X10_swapsOf (hL : Lay G) (hv : wfV (D 108)) (hh : D 107 20 = 0) {f g k : Int} (hf : 0 ≤ f ∧ f < D 108 2) (hg : 0 ≤ g ∧ g < D 108 2) (hfg : f ≠ g) (hk : iRg k) : C0 l E MX10_swapsOf 0 [vR E 107, vI f, vI g, vI k] G D (fun r D' => r = (cntS (swQ (D 108) f g) (10 * (D 108 0).toNat) : Nat) ∧ swAt (D 108) f g k (10 * (D 108 0).toNat) D' ∧ mS D D') := by
  have hs := wfS hv
  have hF := wfF hv
  have h10 := two_le hs
  have hA : heldN (D 108) f < 2 ^ (D 108 0).toNat := setN_lt _ _
  have hB : heldN (D 108) g < 2 ^ (D 108 0).toNat := setN_lt _ _
  refine s_X10_swapsOf hL ?_
  refine C0.use (c_X10_held hL hv f (by omega)) ?_
  rintro r D1 ⟨rfl, rfl⟩
  try dsimp only
  refine C0.use (c_X10_held hL hv g (by omega)) ?_
  rintro r D2 ⟨rfl, rfl⟩
  try dsimp only
  refine up_from (P := fun a => ∀ (x : Int) (D' : Dm), x = (cntS (swQ (D2 108) f g) (10 * a.toNat) : Nat) → swAt (D2 108) f g k (10 * a.toNat) D' → mS D2 D' → KX10_swapsOf l E _ 20 [(0, vR E 107), (1, vI f), (2, vI g), (3, vI k), (4, vI (heldN (D2 108) f : Nat)), (5, vI (heldN (D2 108) g : Nat)), (6, vI x), (7, vI a)] G D') (lo := 0) (n := D2 108 0) (by omega) ?_ ?_ 0 D2 rfl (fun t ht => absurd ht (by simp)) mS.rf
  · intro x D' hx hw hm
    have e := hm.at
    exact s_X10_swapsOf_20 hL ⟨by omega, fun _ => ⟨rfl, hx, hw, hm⟩, fun z => absurd z (by rw [e]; omega)⟩
  · intro a a0 a1 iha x D' hx hw hm
    have e := hm.at
    refine s_X10_swapsOf_20 hL ⟨by omega, fun z => absurd z (by rw [e]; omega), fun _ => ?_⟩
    refine up_from (P := fun b => ∀ (x : Int) (D' : Dm), x = (cntS (swQ (D2 108) f g) (10 * a.toNat + b.toNat) : Nat) → swAt (D2 108) f g k (10 * a.toNat + b.toNat) D' → mS D2 D' → KX10_swapsOf l E _ 34 [(0, vR E 107), (1, vI f), (2, vI g), (3, vI k), (4, vI (heldN (D2 108) f : Nat)), (5, vI (heldN (D2 108) g : Nat)), (6, vI x), (7, vI a), (8, vI b)] G D') (lo := 0) (n := D2 108 0) (by omega) ?_ ?_ x D' hx hw hm
    · intro x D' hx hw hm
      have e := hm.at
      have hend : ∀ t : Nat, 10 * a.toNat + (D2 108 0).toNat ≤ t → t < 10 * (a + 1).toNat → swQ (D2 108) f g t = false := by
        intro t t0 t1
        unfold swQ
        have : (heldN (D2 108) g).testBit (t % 10) = false := by
          unfold heldN
          rw [setN_bit]
          have : ¬ t % 10 < (D2 108 0).toNat := by omega
          simp [this]
        rw [this]; simp
      refine s_X10_swapsOf_34 hL ⟨by omega, fun _ => iha x D' ?_ (fun t ht hq hc => ?_) hm, fun z => absurd z (by rw [e]; omega)⟩
      · rw [hx, (cnt_end (p := swQ (D2 108) f g) (a := 10 * a.toNat + (D2 108 0).toNat) (b := 10 * (a + 1).toNat) (by omega) hend (fun _ => 0)).1]
      · rcases Nat.lt_or_ge t (10 * a.toNat + (D2 108 0).toNat) with z | z
        · exact hw t z hq hc
        · rw [hend t z ht] at hq; cases hq
    · intro b b0 b1 ih x D' hx hw hm
      have e := hm.at
      have eb : 10 * a.toNat + (b + 1).toNat = 10 * a.toNat + b.toNat + 1 := by omega
      rw [eb, cnt_s] at ih
      have ed : (10 * a.toNat + b.toNat) / 10 = a.toNat := by omega
      have em : (10 * a.toNat + b.toNat) % 10 = b.toNat := by omega
      have hskip : swQ (D2 108) f g (10 * a.toNat + b.toNat) = false → ∀ D', swAt (D2 108) f g k (10 * a.toNat + b.toNat) D' → mS D2 D' → KX10_swapsOf l E _ 34 [(0, vR E 107), (1, vI f), (2, vI g), (3, vI k), (4, vI (heldN (D2 108) f : Nat)), (5, vI (heldN (D2 108) g : Nat)), (6, vI x), (7, vI a), (8, vI (b + 1))] G D' := fun q D' hw hm => ih x D' (by rw [q]; exact hx) (fun t ht hq hc => by
        rcases Nat.lt_or_ge t (10 * a.toNat + b.toNat) with z | z
        · exact hw t z hq hc
        · have : t = 10 * a.toNat + b.toNat := by omega
          rw [this, q] at hq; cases hq) hm
      have hsw : swQ (D2 108) f g (10 * a.toNat + b.toNat) = ((heldN (D2 108) f).testBit a.toNat && ((heldN (D2 108) g).testBit b.toNat && (grS (D2 108) f (heldN (D2 108) f) a.toNat b.toNat && grS (D2 108) g (heldN (D2 108) g) b.toNat a.toNat))) := by unfold swQ; rw [ed, em]
      have hcl := cnt_le (swQ (D2 108) f g) (10 * a.toNat + b.toNat)
      have keep : ∀ {D' D'' : Dm}, swAt (D2 108) f g k (10 * a.toNat + b.toNat) D' → rS D' D'' → swAt (D2 108) f g k (10 * a.toNat + b.toNat) D'' := fun hw hr t ht hq hc => by
        have := hw t ht hq hc
        rw [hr 107 27 (by simp [scrR]), hr 107 28 (by simp [scrR])]; exact this
      refine s_X10_swapsOf_34 hL ⟨by omega, fun z => absurd z (by rw [e]; omega), fun _ => ⟨fun q => hskip ?_ D' hw hm, fun q => ⟨fun q2 => hskip ?_ D' hw hm, fun q2 => ?_⟩⟩⟩
      · rw [hsw, bitI_eq0 a0 (by omega) (by omega) q]; rfl
      · rw [hsw, bitI_eq0 b0 (by omega) (by omega) q2]; simp
      · have ba := bitI_ne0 a0 (by omega) (by omega) q
        have bb := bitI_ne0 b0 (by omega) (by omega) q2
        refine C0.use (c_X10_grows hL (by rw [e]; exact hv) (by rw [hm.hv]; exact hh) (by rw [e]; exact hf) (by rw [e]; exact hA) (by rw [e]; omega) (by rw [e]; omega) ba (held_dis (fun z => hfg z.symm) bb)) ?_
        rintro r D3 ⟨rfl, hr3⟩
        try dsimp only
        rw [e]
        have hm3 := hm.tr hr3.m
        have hw3 := keep hw hr3
        cases hg1 : grS (D2 108) f (heldN (D2 108) f) a.toNat b.toNat with
        | false =>
          refine ⟨by simp, fun _ => hskip (by rw [hsw, hg1]; simp) D3 hw3 hm3, fun z => absurd rfl z⟩
        | true =>
          refine ⟨by simp, fun z => absurd z (by simp), fun _ => ?_⟩
          have e3 := hm3.at
          refine C0.use (c_X10_grows hL (by rw [e3]; exact hv) (by rw [hm3.hv]; exact hh) (by rw [e3]; exact hg) (by rw [e3]; exact hB) (by rw [e3]; omega) (by rw [e3]; omega) bb (held_dis hfg ba)) ?_
          rintro r D4 ⟨rfl, hr4⟩
          try dsimp only
          rw [e3]
          have hm4 := hm3.tr hr4.m
          have hw4 := keep hw3 hr4
          cases hg2 : grS (D2 108) g (heldN (D2 108) g) b.toNat a.toNat with
          | false =>
            refine ⟨by simp, fun z => absurd rfl z, fun _ => hskip (by rw [hsw, hg2]; simp) D4 hw4 hm4⟩
          | true =>
            have hq : swQ (D2 108) f g (10 * a.toNat + b.toNat) = true := by rw [hsw, ba, bb, hg1, hg2]; rfl
            rw [if_pos hq] at ih
            refine ⟨by simp, fun _ => ⟨⟨by omega, hk⟩, fun z => ?_, fun z => ⟨by omega, ?_⟩⟩, fun z => absurd z (by simp)⟩
            · refine ih _ D4 (by omega) (fun t ht hqt hc => ?_) hm4
              rcases Nat.lt_or_ge t (10 * a.toNat + b.toNat) with y | y
              · exact hw4 t y hqt hc
              · have : t = 10 * a.toNat + b.toNat := by omega
                rw [this] at hc; omega
            · refine ih _ _ (by omega) (fun t ht hqt hc => ?_) ((hm4.up (by simp [scrM]) _).up (by simp [scrM]) _)
              rcases Nat.lt_or_ge t (10 * a.toNat + b.toNat) with y | y
              · have := cnt_lt _ y hqt
                omega
              · have : t = 10 * a.toNat + b.toNat := by omega
                rw [this, ed, em]
                refine ⟨?_, ?_⟩
                · rw [upd2_place _ _ _ (by decide), upd2_same]; omega
                · rw [upd2_same]; omega
end

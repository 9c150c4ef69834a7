-- the class's count of swaps
def LK (v : Vl) (f : Int) (D : Dm) : Prop := D 58 f = (heldN v f : Nat) ∧ D 59 f = worthS v f (heldN v f)
theorem LK.k {v : Vl} {f : Int} {D D' : Dm} (h : LK v f D) (hk : kS D D') : LK v f D' := by
  unfold LK
  rw [hk 58 f (by simp [scrK]), hk 59 f (by simp [scrK])]; exact h
section
variable {l : Launch} {E : Ev} {G : Sh} {D : Dm} {v : Vl}
theorem c_X4_look (hL : Lay G) (hv : wfV v) (hR : Rd v G D) {f : Int} (hf : 0 ≤ f ∧ f < v 2) : C0 l E MX4_look 2 [vR E 56, vI f] G D (fun _ D' => LK v f D' ∧ (∀ g : Int, g ≠ f → LK v g D → LK v g D') ∧ cS D D') := by
  have hF := wfF hv
  have h10 := two_le (wfS hv)
  have hA : heldN v f < 2 ^ (v 0).toNat := setN_lt _ _
  refine s_X4_look hL ?_
  refine C0.use (c_X8_heldBy hL hv hR.1 f (by omega)) ?_
  rintro r D1 ⟨rfl, rfl⟩
  try dsimp only
  have hs1 : cS D1 (upd2 D1 58 f (heldN v f : Nat)) := cS.rf.up (by simp [scrC]) _
  refine ⟨⟨by omega, by omega⟩, ?_⟩
  refine C0.use (c_X5_worthOf hL hv (hs1.ready hL hR) hf hA) ?_
  rintro r D2 ⟨rfl, hk⟩
  try dsimp only
  have hb := worth_b hv hf hA
  refine ⟨by omega, rfl, ⟨?_, upd2_same _ _ _ _⟩, fun g hg hl => ⟨?_, ?_⟩, (hs1.tr hk.s).up (by simp [scrC]) _⟩
  · rw [upd2_cell _ _ _ _ (by decide), hk 58 f (by simp [scrK]), upd2_same]
  · rw [upd2_cell _ _ _ _ (by decide), hk 58 g (by simp [scrK]), upd2_place _ _ _ hg]; exact hl.1
  · rw [upd2_place _ _ _ hg, hk 59 g (by simp [scrK]), upd2_cell _ _ _ _ (by decide)]; exact hl.2
theorem c_X4_gains (hL : Lay G) (hv : wfV v) (hR : Rd v G D) {f : Int} (hf : 0 ≤ f ∧ f < v 2) (hl : LK v f D) {x y : Int} (hx : 0 ≤ x ∧ x < v 0) (hy : 0 ≤ y ∧ y < v 0) : C0 l E MX4_gains 0 [vR E 56, vI f, vI x, vI y] G D (fun r D' => r = (if grS v f (heldN v f) x.toNat y.toNat then 1 else 0) ∧ kS D D') := by
  have hF := wfF hv
  have hs := wfS hv
  have h10 := two_le hs
  have hA : heldN v f < 2 ^ (v 0).toNat := setN_lt _ _
  have hx2 : 2 ^ x.toNat < 2 ^ (v 0).toNat := Nat.pow_lt_pow_right (by decide) (by omega)
  have hy2 : 2 ^ y.toNat < 2 ^ (v 0).toNat := Nat.pow_lt_pow_right (by decide) (by omega)
  have hx1 : heldN v f ^^^ 2 ^ x.toNat < 2 ^ (v 0).toNat := Nat.xor_lt_two_pow hA hx2
  have hT : exS (heldN v f) x.toNat y.toNat < 2 ^ (v 0).toNat := ex_lt hA (by omega) (by omega)
  have eT : iX (iX (D 58 f) (iSl 1 x)) (iSl 1 y) = (exS (heldN v f) x.toNat y.toNat : Nat) := by
    rw [hl.1, iSl1 (by omega), iSl1 (by omega), iX_nat _ _ (by omega) (by omega), iX_nat _ _ (by omega) (by omega)]; rfl
  refine s_X4_gains hL ?_
  rw [eT]
  refine ⟨by omega, ?_⟩
  refine C0.use (c_X5_worthOf hL hv hR hf hT) ?_
  rintro r D1 ⟨rfl, hk⟩
  try dsimp only
  rw [(hl.k hk).2]
  have hb := worth_b hv hf hT
  refine ⟨by omega, fun q => ⟨rfl, ?_, hk⟩, fun q => ⟨rfl, ?_, hk⟩⟩
  · unfold grS; rw [if_neg (by simp only [decide_eq_true_eq]; omega)]
  · unfold grS; rw [if_pos (by simp only [decide_eq_true_eq]; exact q)]
def cSw (v : Vl) (f g k r : Int) (D' : Dm) : Prop := (r = (cntS (swQ v f g) (10 * (v 0).toNat) : Nat) ∧ r ≤ k) ∨ (k < r ∧ ∃ t : Nat, t < 10 * (v 0).toNat ∧ swQ v f g t = true ∧ (cntS (swQ v f g) t : Int) = k ∧ D' 57 0 = (t / 10 : Nat) ∧ D' 57 1 = (t % 10 : Nat))
theorem c_X4_countSwaps (hL : Lay G) (hv : wfV v) (hR : Rd v G D) {f g k : Int} (hf : 0 ≤ f ∧ f < v 2) (hg : 0 ≤ g ∧ g < v 2) (hfg : f ≠ g) (hk : 0 ≤ k ∧ k < 2147483648) : C0 l E MX4_countSwaps 0 [vR E 56, vI f, vI g, vI k] G D (fun r D' => (cSw v f g k r D' ∧ 0 ≤ r ∧ r ≤ 100) ∧ cS D D') := by
  have hs := wfS hv
  have hF := wfF hv
  have h10 := two_le hs
  have hA : heldN v f < 2 ^ (v 0).toNat := setN_lt _ _
  have hB : heldN v g < 2 ^ (v 0).toNat := setN_lt _ _
  refine s_X4_countSwaps hL ?_
  refine C0.use (c_X4_look hL hv hR hf) ?_
  rintro - D1 ⟨lf, -, hs1⟩
  try dsimp only
  refine C0.use (c_X4_look hL hv (hs1.ready hL hR) hg) ?_
  rintro - D2 ⟨lg, lo, hs2⟩
  try dsimp only
  have lf2 := lo f hfg lf
  have hcb : ∀ n, n ≤ 10 * (v 0).toNat → cntS (swQ v f g) n ≤ 100 := fun n hn => Nat.le_trans (cnt_le _ _) (by omega)
  refine up_from (P := fun a => ∀ (x : Int) (D' : Dm), x = (cntS (swQ v f g) (10 * a.toNat) : Nat) → x ≤ k → LK v f D' → LK v g D' → cS D D' → KX4_countSwaps l E _ 16 [(0, vR E 56), (1, vI f), (2, vI g), (3, vI k), (4, vI x), (5, vI a)] G D') (lo := 0) (n := v 0) (by omega) ?_ ?_ 0 D2 rfl hk.1 lf2 lg (hs1.tr hs2)
  · intro x D' hx hxk l1 l2 hc
    have e0 : D' 1 0 = v 0 := (hc.ready hL hR).1.1
    have := hcb _ (Nat.le_refl _)
    exact s_X4_countSwaps_16 hL ⟨by omega, fun _ => ⟨rfl, ⟨Or.inl ⟨hx, hxk⟩, by omega, by omega⟩, hc⟩, fun z => absurd z (by omega)⟩
  · intro a a0 a1 iha x D' hx hxk l1 l2 hc
    have e0 : D' 1 0 = v 0 := (hc.ready hL hR).1.1
    refine s_X4_countSwaps_16 hL ⟨by omega, fun z => absurd z (by omega), fun _ => ?_⟩
    refine up_from (P := fun b => ∀ (x : Int) (D' : Dm), x = (cntS (swQ v f g) (10 * a.toNat + b.toNat) : Nat) → x ≤ k → LK v f D' → LK v g D' → cS D D' → KX4_countSwaps l E _ 31 [(0, vR E 56), (1, vI f), (2, vI g), (3, vI k), (4, vI x), (5, vI a), (6, vI b)] G D') (lo := 0) (n := v 0) (by omega) ?_ ?_ x D' hx hxk l1 l2 hc
    · intro x D' hx hxk l1 l2 hc
      have e0 : D' 1 0 = v 0 := (hc.ready hL hR).1.1
      have hend : ∀ t : Nat, 10 * a.toNat + (v 0).toNat ≤ t → t < 10 * (a + 1).toNat → swQ v f g t = false := by
        intro t t0 t1
        unfold swQ
        have : (heldN v g).testBit (t % 10) = false := by
          unfold heldN
          rw [setN_bit]
          have : ¬ t % 10 < (v 0).toNat := by omega
          simp [this]
        rw [this]; simp
      refine s_X4_countSwaps_31 hL ⟨by omega, fun _ => iha x D' ?_ hxk l1 l2 hc, fun z => absurd z (by omega)⟩
      rw [hx, (cnt_end (p := swQ v f g) (a := 10 * a.toNat + (v 0).toNat) (b := 10 * (a + 1).toNat) (by omega) hend (fun _ => 0)).1]
    · intro b b0 b1 ih x D' hx hxk l1 l2 hc
      have hR' := hc.ready hL hR
      have e0 : D' 1 0 = v 0 := hR'.1.1
      have eb : 10 * a.toNat + (b + 1).toNat = 10 * a.toNat + b.toNat + 1 := by omega
      rw [eb, cnt_s] at ih
      have ed : (10 * a.toNat + b.toNat) / 10 = a.toNat := by omega
      have em : (10 * a.toNat + b.toNat) % 10 = b.toNat := by omega
      have hskip : swQ v f g (10 * a.toNat + b.toNat) = false → ∀ D', LK v f D' → LK v g D' → cS D D' → KX4_countSwaps l E _ 31 [(0, vR E 56), (1, vI f), (2, vI g), (3, vI k), (4, vI x), (5, vI a), (6, vI (b + 1))] G D' := fun q D' a1 a2 a3 => ih x D' (by rw [q]; exact hx) hxk a1 a2 a3
      have hsw : swQ v f g (10 * a.toNat + b.toNat) = ((heldN v f).testBit a.toNat && ((heldN v g).testBit b.toNat && (grS v f (heldN v f) a.toNat b.toNat && grS v g (heldN v g) b.toNat a.toNat))) := by unfold swQ; rw [ed, em]
      have hcl := hcb (10 * a.toNat + b.toNat) (by omega)
      refine s_X4_countSwaps_31 hL ?_
      rw [l1.1, l2.1]
      refine ⟨by omega, fun z => absurd z (by omega), fun _ => ⟨by omega, fun q => hskip ?_ D' l1 l2 hc, fun q => ⟨by omega, fun q2 => hskip ?_ D' l1 l2 hc, fun q2 => ?_⟩⟩⟩
      · rw [hsw, bitI_eq0 a0 (by omega) (by omega) (Classical.byContradiction q)]; rfl
      · rw [hsw, bitI_eq0 b0 (by omega) (by omega) (Classical.byContradiction q2)]; simp
      · have ba := bitI_ne0 a0 (by omega) (by omega) q
        have bb := bitI_ne0 b0 (by omega) (by omega) q2
        refine C0.use (c_X4_gains hL hv hR' hf l1 (x := a) (y := b) (by omega) (by omega)) ?_
        rintro r D3 ⟨rfl, hk3⟩
        try dsimp only
        have hc3 := hc.tr hk3.s
        have m1 := l1.k hk3
        have m2 := l2.k hk3
        cases hg1 : grS v f (heldN v f) a.toNat b.toNat with
        | false => exact ⟨by simp, fun _ => hskip (by rw [hsw, hg1]; simp) D3 m1 m2 hc3, fun z => absurd rfl z⟩
        | true =>
          refine ⟨by simp, fun z => absurd z (by simp), fun _ => ?_⟩
          refine C0.use (c_X4_gains hL hv (hc3.ready hL hR) hg m2 (x := b) (y := a) (by omega) (by omega)) ?_
          rintro r D4 ⟨rfl, hk4⟩
          try dsimp only
          have hc4 := hc3.tr hk4.s
          have n1 := m1.k hk4
          have n2 := m2.k hk4
          cases hg2 : grS v g (heldN v g) b.toNat a.toNat with
          | false => exact ⟨by simp, fun _ => hskip (by rw [hsw, hg2]; simp) D4 n1 n2 hc4, fun z => absurd rfl z⟩
          | true =>
            have hq : swQ v f g (10 * a.toNat + b.toNat) = true := by rw [hsw, ba, bb, hg1, hg2]; rfl
            rw [if_pos hq] at ih
            have hc5 := (hc4.up (c := 57) (i := 0) (by simp [scrC]) a).up (c := 57) (i := 1) (by simp [scrC]) b
            have lk : ∀ {h : Int}, LK v h D4 → LK v h (upd2 (upd2 D4 57 0 a) 57 1 b) := fun {h} q => by
              unfold LK
              rw [upd2_cell _ _ _ _ (by decide), upd2_cell _ _ _ _ (by decide), upd2_cell _ _ _ _ (by decide), upd2_cell _ _ _ _ (by decide)]; exact q
            refine ⟨by simp, fun z => absurd z (by simp), fun _ => ⟨⟨by omega, by omega, by omega⟩, fun z => ?_, fun z => ?_⟩⟩
            · exact ih _ _ (by omega) z (lk n1) (lk n2) hc5
            · refine ⟨rfl, ⟨Or.inr ⟨z, 10 * a.toNat + b.toNat, by omega, hq, by omega, ?_, ?_⟩, by omega, ?_⟩, hc5⟩
              · rw [upd2_place _ _ _ (by decide), upd2_same, ed]; omega
              · rw [upd2_same, em]; omega
              · have := hcb (10 * a.toNat + b.toNat + 1) (by omega)
                rw [cnt_s, if_pos hq] at this
                omega
end

-- give of the class
/-- the class's tables of hunger -/
def HT (v : Vl) (D : Dm) : Prop := ∀ (f : Int) (S : Nat), 0 ≤ f → f < v 2 → S < 2 ^ (v 0).toNat → D 61 ((f * 256) + S) = hlS v f S ∧ D 62 ((f * 256) + S) = atMostS v 0 f S (v ((88 + (3 * f)) + 2) - 1)
/-- a way and its shares -/
def WY (v : Vl) (D : Dm) (w : Row) : Prop := (∀ s, 0 ≤ s → s < v 0 → D 63 s = w s) ∧ (∀ f, 0 ≤ f → f < 3 → D 64 f = (shN v w f : Nat))
theorem p256 {k : Int} (h : 0 ≤ k ∧ k ≤ 8) : 2 ^ k.toNat ≤ 256 := by
  have : 2 ^ k.toNat ≤ 2 ^ 8 := Nat.pow_le_pow_right (by decide) (by omega)
  omega
theorem shN_lt (v : Vl) (w : Row) (f : Int) : shN v w f < 2 ^ (v 0).toNat := setN_lt _ _
/-- the scratch of give, its answer aside -/
def gS (D D' : Dm) : Prop := ∀ c i, ¬ scrC c i → c ≠ 65 → ¬ (c = 60 ∧ i = 7) → D' c i = D c i
section
variable {l : Launch} {E : Ev} {G : Sh} {D : Dm} {v : Vl} {a : Ans}
theorem c_X3_fillHungry (hL : Lay G) (hv : wfV v) (h8 : v 0 ≤ 8) (h3 : v 2 ≤ 3) (hR : Rd v G D) {f : Int} (hf : 0 ≤ f ∧ f < v 2) {S : Nat} (hS : S < 2 ^ (v 0).toNat) : C0 l E MX3_fillHungry 2 [vR E 60, vI f, vI S] G D (fun _ D' => D' 61 ((f * 256) + S) = hlS v f S ∧ D' 62 ((f * 256) + S) = atMostS v 0 f S (v ((88 + (3 * f)) + 2) - 1) ∧ (∀ i, i ≠ (f * 256) + S → D' 61 i = D 61 i ∧ D' 62 i = D 62 i) ∧ cS D D') := by
  have hs := wfS hv
  have hp := p256 (k := v 0) (by omega)
  have hlb := lotsB (wfH hv)
  have hn2 := wff hv hf.1 hf.2
  refine s_X3_fillHungry hL ?_
  refine C0.use (c_X5_fillNets hL hv hR hf hS (by decide)) ?_
  rintro - D1 ⟨hnt, ho⟩
  try dsimp only
  have hs1 := (off_kS ho).s
  have hR1 := hs1.ready hL hR
  have e1 : D1 1 1 = v 1 := hR1.1.2.1
  have en : D1 13 f = v ((88 + (3 * f)) + 2) := (CV_f hR1.1 hf.1 hf.2).2.2
  refine up_from (P := fun i => KX3_fillHungry l E _ 15 [(0, vR E 60), (1, vI f), (2, vI S), (3, vJ (fz (hlF v f S) 0 i.toNat)), (5, vI i)] G D1) (lo := 0) (n := iSl 1 (v 1)) (by omega) ?_ ?_
  · have hb := hl_b v f S (iSl 1 (v 1)).toNat
    refine s_X3_fillHungry_15 hL ⟨by omega, fun _ => ⟨⟨by omega, hb, by omega⟩, ?_⟩, fun z => absurd z (by rw [e1]; omega)⟩
    rw [en]
    have hs2 : cS D (upd2 D1 61 ((f * 256) + S) (fz (hlF v f S) 0 (iSl 1 (v 1)).toNat)) := hs1.up (by simp [scrC]) _
    have hnt2 : NT v 0 f S (upd2 D1 61 ((f * 256) + S) (fz (hlF v f S) 0 (iSl 1 (v 1)).toNat)) := fun lot a b => by rw [upd2_cell _ _ _ _ (by decide)]; exact hnt lot a b
    refine C0.use (c_X5_weightAtMost hL hv (hs2.ready hL hR) hnt2 (v ((88 + (3 * f)) + 2) - 1) (by omega)) ?_
    rintro r D2 ⟨rfl, rfl⟩
    try dsimp only
    have hab := am_b hv 0 f S (v ((88 + (3 * f)) + 2) - 1)
    refine ⟨by omega, rfl, ?_, upd2_same _ _ _ _, fun i hi => ⟨?_, ?_⟩, hs2.up (by simp [scrC]) _⟩
    · rw [upd2_cell _ _ _ _ (by decide), upd2_same]; rfl
    · rw [upd2_cell _ _ _ _ (by decide), upd2_place _ _ _ hi, ho 61 (by decide)]
    · rw [upd2_place _ _ _ hi, upd2_cell _ _ _ _ (by decide), ho 62 (by decide)]
  · intro i i0 i1 ih
    rw [fz_s _ _ i0, hlF] at ih
    refine s_X3_fillHungry_15 hL ?_
    rw [e1, en, hnt i i0 i1, hR1.2.1 i i0 i1]
    refine ⟨by omega, fun z => absurd z (by omega), fun _ => ⟨by omega, fun z => ?_, fun z => ⟨fun z2 => ?_, fun z2 => ?_⟩⟩⟩
    · rw [if_neg (by unfold hgB; simp only [Bool.and_eq_true, decide_eq_true_eq]; omega)] at ih
      exact ih
    · rw [if_neg (by unfold hgB; simp only [Bool.and_eq_true, decide_eq_true_eq]; omega)] at ih
      exact ih
    · rw [if_pos (by unfold hgB; simp only [Bool.and_eq_true, decide_eq_true_eq]; omega)] at ih
      exact ih
theorem c_X3_startWays (hL : Lay G) (hv : wfV v) (h8 : v 0 ≤ 8) (h2 : v 2 ≠ 0) (hC : CV 1 v D) : C0 l E MX3_startWays 2 [vR E 60] G D (fun _ D' => WY v D' (wyS v 0) ∧ (∀ c, c ≠ 63 → c ≠ 64 → D' c = D c)) := by
  have hs := wfS hv
  have hF := wfF hv
  have hp := p256 (k := v 0) (by omega)
  have e0 : D 1 0 = v 0 := hC.1
  refine s_X3_startWays hL ?_
  refine up_from (P := fun i => ∀ D', (∀ s, 0 ≤ s → s < i → D' 63 s = 0) → (∀ c, c ≠ 63 → D' c = D c) → KX3_startWays l E _ 2 [(0, vR E 60), (1, vI i)] G D') (lo := 0) (n := 8) (by omega) ?_ ?_ D (fun s a b => by omega) (fun _ _ => rfl)
  · intro D' h63 ho
    refine s_X3_startWays_2 hL ⟨by omega, fun _ => ?_, fun z => absurd z (by omega)⟩
    refine up_from (P := fun i => ∀ D', (∀ s, 0 ≤ s → s < 8 → D' 63 s = 0) → (∀ s, 0 ≤ s → s < i → D' 64 s = 0) → (∀ c, c ≠ 63 → c ≠ 64 → D' c = D c) → KX3_startWays l E _ 23 [(0, vR E 60), (1, vI i)] G D') (lo := 0) (n := 3) (by omega) ?_ ?_ D' h63 (fun s a b => by omega) (fun c a b => ho c a)
    · intro D2 h63 h64 ho2
      have e02 : D2 1 0 = v 0 := by rw [ho2 1 (by decide) (by decide)]; exact e0
      refine s_X3_startWays_23 hL ?_
      rw [e02, iSl1 (by omega)]
      have hpp := Nat.two_pow_pos (v 0).toNat
      refine ⟨by omega, fun _ => ⟨by omega, rfl, ⟨fun s a b => ?_, fun f a b => ?_⟩, fun c a b => ?_⟩, fun z => absurd z (by omega)⟩
      · rw [upd2_cell _ _ _ _ (by decide), h63 s a (by omega)]
        unfold wyS
        rw [dg_0]; rfl
      · have e : ∀ g : Int, 0 ≤ g → shN v (wyS v 0) g = if g = 0 then 2 ^ (v 0).toNat - 1 else 0 := by
          intro g hg
          apply Nat.eq_of_testBit_eq
          intro i
          have e1 : (shN v (wyS v 0) g).testBit i = (decide (i < (v 0).toNat) && decide (wyS v 0 i = g)) := setN_bit _ _ _
          have e2 : wyS v 0 i = 0 := by unfold wyS; rw [dg_0]; rfl
          rw [e1, e2]
          by_cases q : g = 0
          · rw [if_pos q, Nat.testBit_two_pow_sub_one, decide_eq_true q.symm, Bool.and_true]
          · rw [if_neg q, decide_eq_false (show ¬ (0 : Int) = g from fun z => q z.symm), Bool.and_false, Nat.zero_testBit]
        rw [e f a]
        by_cases q : f = 0
        · subst q; rw [upd2_same, if_pos rfl]; omega
        · rw [upd2_place _ _ _ q, if_neg q, h64 f a b]; rfl
      · funext i; rw [upd2_cell _ _ _ _ b, ho2 c a b]
    · intro i i0 i1 ih D2 h63 h64 ho2
      refine s_X3_startWays_23 hL ⟨by omega, fun z => absurd z (by omega), fun _ => ⟨by omega, ih _ (fun s a b => ?_) (fun s a b => ?_) (fun c a b => ?_)⟩⟩
      · rw [upd2_cell _ _ _ _ (by decide)]; exact h63 s a b
      · by_cases q : s = i
        · subst q; exact upd2_same _ _ _ _
        · rw [upd2_place _ _ _ q]; exact h64 s a (by omega)
      · funext j; rw [upd2_cell _ _ _ _ b, ho2 c a b]
  · intro i i0 i1 ih D' h63 ho
    refine s_X3_startWays_2 hL ⟨by omega, fun z => absurd z (by omega), fun _ => ⟨by omega, ih _ (fun s a b => ?_) (fun c a => ?_)⟩⟩
    · by_cases q : s = i
      · subst q; exact upd2_same _ _ _ _
      · rw [upd2_place _ _ _ q]; exact h63 s a (by omega)
    · funext j; rw [upd2_cell _ _ _ _ a, ho c a]
theorem c_X3_weightOfWay (hL : Lay G) (hv : wfV v) (h8 : v 0 ≤ 8) (h3 : v 2 ≤ 3) (hC : CV 1 v D) (hT : HT v D) {w : Row} (hW : WY v D w) : C0 l E MX3_weightOfWay 1 [vR E 60] G D (fun r D' => r = v0S v (shN v w) ∧ D' = D) := by
  have hF := wfF hv
  have hs := wfS hv
  have hp := p256 (k := v 0) (by omega)
  have e2 : D 1 2 = v 2 := hC.2.2.1
  refine s_X3_weightOfWay hL ?_
  refine up_from (P := fun f => KX3_weightOfWay l E _ 4 [(0, vR E 60), (1, vJ (sz (fun f => atMostS v 0 f (shN v w f) (v ((88 + (3 * f)) + 2) - 1)) f.toNat)), (3, vI f)] G D) (lo := 0) (n := v 2) hF.1 ?_ ?_
  · exact s_X3_weightOfWay_4 hL ⟨by omega, fun _ => ⟨rfl, rfl, rfl⟩, fun z => absurd z (by omega)⟩
  · intro f f0 f1 ih
    have hl := shN_lt v w f
    rw [sz_s _ f0] at ih
    refine s_X3_weightOfWay_4 hL ?_
    rw [hW.2 f f0 (by omega), (hT f _ f0 f1 hl).2]
    exact ⟨by omega, fun z => absurd z (by omega), fun _ => ⟨by omega, ih⟩⟩
theorem cn_s (v : Vl) (T : Int → Nat) (lot : Int) {f : Int} (h : 0 ≤ f) : cnL v T lot (f + 1).toNat = cnL v T lot f.toNat + cnF v T lot f := sz_s _ h
/-- which lots have c hungry families or more -/
def tb (v : Vl) (T : Int → Nat) (n : Nat) (c : Int) (i : Nat) : Bool := decide ((i : Int) < iSl 1 (v 1)) && (decide (0 < wtS v i) && decide (c ≤ cnL v T i n))
theorem c_X3_worstOfWay (hL : Lay G) (hv : wfV v) (h8 : v 0 ≤ 8) (h3 : v 2 ≤ 3) (hC : CV 1 v D) (hT : HT v D) {w : Row} (hW : WY v D w) : C0 l E MX3_worstOfWay 0 [vR E 60] G D (fun r D' => r = v1S v (shN v w) ∧ D' = D) := by
  have hF := wfF hv
  have hs := wfS hv
  have hp := p256 (k := v 0) (by omega)
  have hlb := lotsB (wfH hv)
  have e2 : D 1 2 = v 2 := hC.2.2.1
  refine s_X3_worstOfWay hL ?_
  have b0 : ∀ i, i < 64 → ∀ c : Int, 1 ≤ c → bJ 0 i = tb v (shN v w) 0 c i := by
    intro i hi c hc
    rw [bJ_0]
    have : cnL v (shN v w) i 0 = 0 := rfl
    unfold tb
    rw [this, decide_eq_false (show ¬ c ≤ 0 by omega), Bool.and_false, Bool.and_false]
  refine up_from (P := fun f => ∀ x1 x2 x3 : Int, (-9223372036854775808 ≤ x1 ∧ x1 < 9223372036854775808) → (-9223372036854775808 ≤ x2 ∧ x2 < 9223372036854775808) → (-9223372036854775808 ≤ x3 ∧ x3 < 9223372036854775808) → (∀ i, i < 64 → bJ x1 i = tb v (shN v w) f.toNat 1 i) → (∀ i, i < 64 → bJ x2 i = tb v (shN v w) f.toNat 2 i) → (∀ i, i < 64 → bJ x3 i = tb v (shN v w) f.toNat 3 i) → KX3_worstOfWay l E _ 10 [(0, vR E 60), (1, vJ x1), (3, vJ x2), (5, vJ x3), (7, vI f)] G D) (lo := 0) (n := v 2) hF.1 ?_ ?_ 0 0 0 (by decide) (by decide) (by decide) (fun i hi => b0 i hi 1 (by decide)) (fun i hi => b0 i hi 2 (by decide)) (fun i hi => b0 i hi 3 (by decide))
  · intro x1 x2 x3 r1 r2 r3 h1 h2 h3'
    have hb := v1_b hv h3 (shN v w) (iSl 1 (v 1)).toNat
    have key : ∀ (x c : Int), (-9223372036854775808 ≤ x ∧ x < 9223372036854775808) → 1 ≤ c → (∀ i, i < 64 → bJ x i = tb v (shN v w) (v 2).toNat c i) → (x ≠ 0 ↔ c ≤ v1S v (shN v w)) := by
      intro x c hx hc hb
      rw [bJ_ne hx]
      unfold v1S
      rw [v1_ge v _ hc]
      constructor
      · rintro ⟨i, hi, hbi⟩
        rw [hb i hi] at hbi
        unfold tb at hbi
        simp only [Bool.and_eq_true, decide_eq_true_eq] at hbi
        exact ⟨i, by omega, hbi.2.1, hbi.2.2⟩
      · rintro ⟨lot, q1, q2, q3⟩
        refine ⟨lot.toNat, by omega, ?_⟩
        rw [hb lot.toNat (by omega)]
        have e : ((lot.toNat : Nat) : Int) = lot := by omega
        unfold tb
        rw [e]
        simp only [Bool.and_eq_true, decide_eq_true_eq]
        exact ⟨by omega, q2, q3⟩
    have k1 := key x1 1 r1 (by decide) h1
    have k2 := key x2 2 r2 (by decide) h2
    have k3 := key x3 3 r3 (by decide) h3'
    have hb' : 0 ≤ v1S v (shN v w) ∧ v1S v (shN v w) ≤ 3 := hb
    refine s_X3_worstOfWay_10 hL ⟨by omega, fun _ => ⟨r3, fun z3 => ⟨r2, fun z2 => ⟨r1, fun z1 => ⟨rfl, ?_, rfl⟩, fun z1 => ⟨rfl, ?_, rfl⟩⟩, fun z2 => ⟨rfl, ?_, rfl⟩⟩, fun z3 => ⟨rfl, ?_, rfl⟩⟩, fun z => absurd z (by omega)⟩
    · have : ¬ 1 ≤ v1S v (shN v w) := fun q => absurd z1 (k1.2 q)
      omega
    · have q1 := k1.1 z1
      have : ¬ 2 ≤ v1S v (shN v w) := fun q => absurd z2 (k2.2 q)
      omega
    · have q1 := k2.1 z2
      have : ¬ 3 ≤ v1S v (shN v w) := fun q => absurd z3 (k3.2 q)
      omega
    · have q1 := k3.1 z3
      omega
  · intro f f0 f1 ih x1 x2 x3 r1 r2 r3 h1 h2 h3'
    have hl := shN_lt v w f
    refine s_X3_worstOfWay_10 hL ?_
    rw [hW.2 f f0 (by omega), (hT f _ f0 f1 hl).1]
    refine ⟨by omega, fun z => absurd z (by omega), fun _ => ⟨by omega, ?_⟩⟩
    have bits : ∀ i, i < 64 → bJ (hlS v f (shN v w f)) i = (decide ((i : Int) < iSl 1 (v 1)) && (hgB v f (shN v w f) i && decide (0 < wtS v i))) := by
      intro i hi
      have := hl_bit v f (shN v w f) hi (iSl 1 (v 1)).toNat (by omega)
      have e : decide (i < (iSl 1 (v 1)).toNat) = decide ((i : Int) < iSl 1 (v 1)) := by apply decide_eq_decide.2; omega
      rw [e] at this
      exact this
    have cs : ∀ i : Nat, cnL v (shN v w) i (f + 1).toNat = cnL v (shN v w) i f.toNat + (if hgB v f (shN v w f) i then 1 else 0) := fun i => cn_s v _ _ f0
    refine ih _ _ _ (jO_r _ _) (jO_r _ _) (jO_r _ _) (fun i hi => ?_) (fun i hi => ?_) (fun i hi => ?_)
    · have hc := cn_b v (shN v w) i f.toNat
      rw [bJ_or, h1 i hi, bits i hi]
      unfold tb
      rw [cs]
      cases decide ((i : Int) < iSl 1 (v 1)) <;> cases decide (0 < wtS v i) <;> cases hgB v f (shN v w f) i <;> simp <;> omega
    · have hc := cn_b v (shN v w) i f.toNat
      rw [bJ_or, bJ_and, h1 i hi, h2 i hi, bits i hi]
      unfold tb
      rw [cs]
      cases decide ((i : Int) < iSl 1 (v 1)) <;> cases decide (0 < wtS v i) <;> cases hgB v f (shN v w f) i <;> simp <;> (try omega)
      rw [← Bool.decide_or]; apply decide_eq_decide.2; omega
    · have hc := cn_b v (shN v w) i f.toNat
      rw [bJ_or, bJ_and, h2 i hi, h3' i hi, bits i hi]
      unfold tb
      rw [cs]
      cases decide ((i : Int) < iSl 1 (v 1)) <;> cases decide (0 < wtS v i) <;> cases hgB v f (shN v w f) i <;> simp <;> (try omega)
      rw [← Bool.decide_or]; apply decide_eq_decide.2; omega
end

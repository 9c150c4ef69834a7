-- narrow
def narR (v : Vl) (f k : Int) : Int := fstF (fun h => decide (k * allS v ≤ 16 * atMostS v h f (heldN v f) (v ((88 + (3 * f)) + 2) - 1))) 0 7
def q_narrow (v : Vl) (f k : Int) : Ans := if (0 ≤ f ∧ f < v 2) ∧ 1 ≤ k ∧ k ≤ 16 then (if narR v f k = -1 then aNo 6 (-1) else aNo 0 (narR v f k)) else aNo 1 (-1)
def mH (D D' : Dm) (h : Int) : Prop := D' 107 20 = h ∧ ∀ c i, ¬ scrM c i → ¬ (c = 107 ∧ i = 20) → D' c i = D c i
theorem mH.at {D D' : Dm} {h : Int} (q : mH D D' h) : D' 108 = D 108 := funext fun i => q.2 108 i (by simp [scrM]) (by simp)
theorem mH.up {D D1 : Dm} {h : Int} (q : mH D D1 h) (x : Int) : mH D (upd2 D1 107 20 x) x := ⟨upd2_same _ _ _ _, fun c i a b => by
  rw [← q.2 c i a b]; simp only [upd2]; rw [if_neg]; rintro ⟨rfl, rfl⟩; exact b ⟨rfl, rfl⟩⟩
theorem mH.tr {D D1 D2 : Dm} {h : Int} (q : mH D D1 h) (m : mS D1 D2) : mH D D2 h := ⟨m.hv.trans q.1, fun c i a b => (m c i a).trans (q.2 c i a b)⟩
theorem mH.back {D D1 : Dm} {h : Int} (q : mH D D1 h) (h0 : D 107 20 = 0) : mS D (upd2 D1 107 20 0) := by
  intro c i a
  simp only [upd2]
  split
  · next z => rw [z.1, z.2, h0]
  · next z => exact q.2 c i a z
section
variable {l : Launch} {E : Ev} {G : Sh} {D : Dm}
theorem c_X10_narrow (hL : Lay G) (hv : wfV (D 108)) (hh : D 107 20 = 0) {f k : Int} (hf : iRg f) (hk : iRg k) {a : Ans} (ha : a = q_narrow (D 108) f k) : C0 l E MX10_narrow 0 [vR E 107, vI f, vI k] G D (fun r D' => r = a.2.1 ∧ mQ D D' a) := by
  have hab := all_b hv
  have hF := wfF hv
  refine s_X10_narrow hL ⟨hf, fun g => ⟨rfl, mQ.no ?_ mS.rf⟩, fun g => ⟨hk, fun h1 => ⟨rfl, mQ.no ?_ mS.rf⟩, fun h1 => ⟨fun h6 => ?_, fun h6 => ⟨rfl, mQ.no ?_ mS.rf⟩⟩⟩⟩
  · rw [ha, q_narrow, if_neg (by omega)]
  · rw [ha, q_narrow, if_neg (by omega)]
  · rw [q_narrow, if_pos ⟨g, h1, h6⟩] at ha
    have hn := wff hv g.1 g.2
    have hho : heldN (D 108) f < 2 ^ (D 108 0).toNat := setN_lt _ _
    refine C0.use (c_X10_held hL hv f hf) ?_
    rintro r D1 ⟨rfl, rfl⟩
    try dsimp only
    refine up_from (P := fun i => ∀ D', mH D1 D' i → fstF (fun h => decide (k * allS (D1 108) ≤ 16 * atMostS (D1 108) h f (heldN (D1 108) f) (D1 108 ((88 + (3 * f)) + 2) - 1))) i (7 - i).toNat = narR (D1 108) f k → KX10_narrow l E _ 39 [(0, vR E 107), (1, vI f), (2, vI k), (3, vI (heldN (D1 108) f : Nat)), (4, vI (-1))] G D') (lo := 0) (n := 7) (by omega) ?_ ?_ _ ⟨upd2_same _ _ _ _, fun c i a b => by simp only [upd2]; rw [if_neg]; rintro ⟨rfl, rfl⟩; exact b ⟨rfl, rfl⟩⟩ rfl
    · intro D' hm he
      have he' : narR (D1 108) f k = -1 := he.symm
      refine s_X10_narrow_39 hL ⟨fun _ => ⟨by omega, fun z => absurd rfl z, fun _ => ⟨rfl, mQ.no (by rw [ha, if_pos he']) (hm.back hh)⟩⟩, fun z => absurd z (by rw [hm.1]; omega)⟩
    · intro i i0 i1 ih D' hm he
      have e1 : (7 - i).toNat = (7 - (i + 1)).toNat + 1 := by omega
      rw [e1, fstF] at he
      have e := hm.at
      refine s_X10_narrow_39 hL ⟨fun z => absurd z (by rw [hm.1]; omega), fun _ => ⟨by omega, fun z => absurd rfl z, fun _ => ⟨by omega, ?_⟩⟩⟩
      refine C0.use (c_X10_atMost hL (by rw [e]; exact hv) (by rw [hm.1]; omega) (by rw [e]; exact g) (S := heldN (D1 108) f) (by rw [e]; exact hho) _ (by rw [e]; omega)) ?_
      rintro r D2 ⟨rfl, hr2⟩
      try dsimp only
      have e2 : D2 108 = D1 108 := hr2.at.trans e
      refine ⟨by omega, ?_⟩
      refine C0.use (c_X10_allLots hL (by rw [e2]; exact hv)) ?_
      rintro r D3 ⟨rfl, rfl⟩
      try dsimp only
      have hm3 := hm.tr hr2.m
      rw [e2, e, hm.1, hm3.1]
      have hb := am_b hv i f (heldN (D1 108) f) (D1 108 ((88 + (3 * f)) + 2) - 1)
      have hkk := mulB (A := 16) (B := 16777216) (a := k) (b := allS (D1 108)) (by omega) (by omega)
      refine ⟨⟨by omega, by omega⟩, fun q => ⟨by omega, ?_⟩, fun q => ⟨by omega, ?_⟩⟩
      · rw [if_neg (by simp only [decide_eq_true_eq]; omega)] at he
        exact ih _ (hm3.up (i + 1)) he
      · rw [if_pos (by simp only [decide_eq_true_eq]; exact q)] at he
        rw [← he, if_neg (by omega)] at ha
        have hfin := ((hm3.up (i + 1)).back hh)
        refine s_X10_narrow_39 hL ⟨fun _ => ⟨by omega, fun _ => ⟨rfl, mQ.no ha hfin⟩, fun z => absurd z (by omega)⟩, fun _ => ⟨by omega, fun _ => ⟨fun _ => ⟨rfl, mQ.no ha hfin⟩, fun z => absurd z (by omega)⟩, fun z => absurd z (by omega)⟩⟩
  · rw [ha, q_narrow, if_neg (by omega)]
end
section
variable {l : Launch} {E : Ev} {G : Sh} {D : Dm} {v : Vl}
theorem c_X5_halvings (hL : Lay G) (hv : wfV v) (hR : Rd v G D) {f k : Int} (hf : 0 ≤ f ∧ f < v 2) (hk : 1 ≤ k ∧ k ≤ 16) : C0 l E MX5_halvingsUntilHungry 0 [vR E 42, vI f, vI k] G D (fun r D' => r = narR v f k ∧ cS D D') := by
  have hab := all_b hv
  have hF := wfF hv
  have hn := wff hv hf.1 hf.2
  have hho : heldN v f < 2 ^ (v 0).toNat := setN_lt _ _
  refine s_X5_halvingsUntilHungry hL ?_
  refine C0.use (c_X8_heldBy hL hv hR.1 f (by omega)) ?_
  rintro r D1 ⟨rfl, rfl⟩
  try dsimp only
  refine up_from (P := fun i => ∀ D', cS D1 D' → fstF (fun h => decide (k * allS v ≤ 16 * atMostS v h f (heldN v f) (v ((88 + (3 * f)) + 2) - 1))) i (7 - i).toNat = narR v f k → KX5_halvingsUntilHungry l E _ 12 [(0, vR E 42), (1, vI f), (2, vI k), (3, vI (heldN v f : Nat)), (4, vI i)] G D') (lo := 0) (n := 7) (by omega) ?_ ?_ _ cS.rf rfl
  · intro D' hs he
    exact s_X5_halvingsUntilHungry_12 hL ⟨by omega, fun _ => ⟨rfl, he, hs⟩, fun z => absurd z (by omega)⟩
  · intro i i0 i1 ih D' hs he
    have e1 : (7 - i).toNat = (7 - (i + 1)).toNat + 1 := by omega
    rw [e1, fstF] at he
    have hR' := hs.ready hL hR
    refine s_X5_halvingsUntilHungry_12 hL ⟨by omega, fun z => absurd z (by omega), fun _ => ?_⟩
    refine C0.use (c_X5_fillNets hL hv hR' hf hho (hh := i) (by omega)) ?_
    rintro - D2 ⟨hnt, ho⟩
    try dsimp only
    have hs2 := hs.tr (off_kS ho).s
    have hR2 := hs2.ready hL hR
    rw [show D2 13 f = v ((88 + (3 * f)) + 2) from (CV_f hR2.1 hf.1 hf.2).2.2]
    refine ⟨by omega, ?_⟩
    refine C0.use (c_X5_weightAtMost hL hv hR2 hnt (v ((88 + (3 * f)) + 2) - 1) (by omega)) ?_
    rintro r D3 ⟨rfl, rfl⟩
    try dsimp only
    rw [show D3 1 1 = v 1 from hR2.1.2.1, jAll hv]
    have hb := am_b hv i f (heldN v f) (v ((88 + (3 * f)) + 2) - 1)
    have hkk := mulB (A := 16) (B := 16777216) (a := k) (b := allS v) (by omega) (by omega)
    refine ⟨⟨by omega, by omega, by omega⟩, fun q => ?_, fun q => ?_⟩
    · rw [if_neg (by simp only [decide_eq_true_eq]; omega)] at he
      exact ih _ hs2 he
    · rw [if_pos (by simp only [decide_eq_true_eq]; omega)] at he
      exact ⟨rfl, he, hs2⟩
theorem c_X9_narrow (hL : Lay G) (hv : wfV v) (hC : CV 1 v D) (hO : CVo 1 v D) (hI : RI v G D) {f k : Int} (hf : iRg f) (hk : iRg k) {a : Ans} (ha : a = q_narrow v f k) : Ct l E MX9_narrow 0 (mcR G v) (msR G v) [vR E 0, vI f, vI k] G D (cP v G D a) := by
  refine s_X9_narrow hL ?_
  rw [show D 1 2 = v 2 from hC.2.2.1]
  refine ⟨hf, fun g => cP.no hL hI (by rw [ha, q_narrow, if_neg (fun q => g q.1)]) yS.rf (Or.inl rfl), fun g => ⟨hk, fun g2 => ?_, fun g2 => cP.no hL hI (by rw [ha, q_narrow, if_neg (fun q => g2 q.2)]) yS.rf (Or.inl rfl)⟩⟩
  rw [q_narrow, if_pos ⟨g, g2⟩] at ha
  refine (c_X5_ready hL hv hC hO hI).mono ?_
  rintro - G1 D2 ⟨hG1, hL1, hR1, hI1, hx1⟩
  refine ⟨hL1, ?_⟩
  refine C0.use (c_X5_halvings hL1 hv hR1 g g2) ?_
  rintro r D3 ⟨hr, hs3⟩
  try dsimp only
  have hed := fst_b (fun h => decide (k * allS v ≤ 16 * atMostS v h f (heldN v f) (v ((88 + (3 * f)) + 2) - 1))) 7 0
  have hrb : r = -1 ∨ (0 ≤ r ∧ r < 0 + (7 : Nat)) := by rw [hr]; exact hed
  rw [← hr] at ha
  refine ⟨by omega, fun q => ?_, fun q => ?_⟩
  · exact cP.no hL1 (hI1.cs hL1 hs3) (by rw [ha, if_neg q]) (hx1.y.tr hs3.y) (Or.inr hG1)
  · exact cP.no hL1 (hI1.cs hL1 hs3) (by rw [ha, if_pos q]) (hx1.y.tr hs3.y) (Or.inr hG1)
end

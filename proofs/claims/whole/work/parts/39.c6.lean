-- edge and change of the class
theorem fst_cg {q q' : Int → Bool} (h : ∀ i, q i = q' i) (lo : Int) (n : Nat) : fstF q lo n = fstF q' lo n := by rw [funext h]
theorem fi_ne {p : Nat → Bool} {n : Nat} (hc : 0 < cntS p n) (w w' : Nat → Int) : (fiS p w n ≠ fiS p w' n) ↔ bstS p w n ≠ bstS p w' n := by
  rcases bst_is p w n with ⟨_, h2⟩ | ⟨b, b1, b2, b3, _⟩
  · omega
  rcases bst_is p w' n with ⟨_, h2⟩ | ⟨c, c1, c2, c3, _⟩
  · omega
  rw [(fi_bst b1).1, (fi_bst c1).1, b1, c1]
  constructor
  · intro h e
    have : b = c := by omega
    rw [this] at h; exact h rfl
  · intro h e
    have := cnt_inj p b3 c3 e
    rw [this] at h; exact h rfl
theorem agr.fall {v w : Vl} (h : agr v w) (hv : wfV v) {i : Int} (hi : 0 ≤ i ∧ i < v 1) : fallN w i = fallN v i := by
  have hS := wfS hv
  have hH := wfH hv
  unfold fallN
  rw [h 0 (by omega)]
  apply Nat.eq_of_testBit_eq
  intro s
  rw [setN_bit, setN_bit]
  by_cases q : s < (v 0).toNat
  · have e : fallsP w i s ↔ fallsP v i s := by
      unfold fallsP
      rw [h ((58 + (5 * i)) + 0) (by omega), h ((58 + (5 * i)) + 1) (by omega), h ((58 + (5 * i)) + 2) (by omega), h ((8 + (5 * (s : Int))) + 0) (by omega), h ((8 + (5 * (s : Int))) + 1) (by omega), h ((8 + (5 * (s : Int))) + 3) (by omega)]
    rw [decide_eq_decide.2 e]
  · simp [q]
theorem agr.cv {v w : Vl} (h : agr v w) (hv : wfV v) (h4 : w 4 = v 4) {c : Nat} {D : Dm} (hC : CV c v D) : CV c w D := by
  have hS := wfS hv
  have hH := wfH hv
  obtain ⟨a0, a1, a2, a3, a4, a5, a6, a7⟩ := hC
  refine ⟨by rw [h 0 (by omega)]; exact a0, by rw [h 1 (by omega)]; exact a1, by rw [h 2 (by omega)]; exact a2, by rw [h 3 (by omega)]; exact a3, by rw [h4]; exact a4, fun s s0 s1 => ?_, fun i i0 i1 => ?_, fun f f0 f1 => ?_⟩
  · rw [h 0 (by omega)] at s1
    rw [h ((8 + (5 * s)) + 0) (by omega), h ((8 + (5 * s)) + 1) (by omega), h ((8 + (5 * s)) + 2) (by omega), h ((8 + (5 * s)) + 3) (by omega), h ((8 + (5 * s)) + 4) (by omega)]
    exact a5 s s0 s1
  · rw [h 1 (by omega)] at i1
    rw [h ((58 + (5 * i)) + 0) (by omega), h ((58 + (5 * i)) + 3) (by omega), h.fall hv ⟨i0, i1⟩]
    exact a6 i i0 i1
  · rw [h 2 (by omega)] at f1
    rw [h ((88 + (3 * f)) + 0) (by omega), h ((88 + (3 * f)) + 1) (by omega), h ((88 + (3 * f)) + 2) (by omega)]
    exact a7 f f0 f1
theorem agr.rt {v w : Vl} (h : agr v w) (hv : wfV v) {G : Sh} {D : Dm} (hR : RT v G D) : RT w G D := by
  unfold RT
  rw [h 0 (by omega), h 1 (by omega), h 2 (by omega)]
  refine ⟨fun s lot s0 s1 l0 l1 => ?_, fun f S f0 f1 hS => ?_, hR.2.2⟩
  · rw [h.tk hv ⟨s0, s1⟩]; exact hR.1 s lot s0 s1 l0 l1
  · rw [h.rnd hv ⟨f0, f1⟩]; exact hR.2.1 f S f0 f1 hS
section
variable {l : Launch} {E : Ev} {G : Sh} {D : Dm} {v : Vl}
theorem c_X9_edge (hL : Lay G) (hv : wfV v) (hC : CV 1 v D) (hO : CVo 1 v D) (hI : RI v G D) {f k : Int} (hf : -2147483648 ≤ f ∧ f < 2147483648) (hk : -2147483648 ≤ k ∧ k < 2147483648) {a : Ans} (ha : a = q_edge v f k) : Ct l E MX9_edge 0 (mcR G v) (msR G v) [vR E 0, vI f, vI k] G D (cP v G D a) := by
  have h10 := two_le (wfS hv)
  have hU := wfU hv
  have hb01 : bestR v f k = -1 ↔ bstS (obS v f k) (wH v f 0) (nS v) = -1 := (bst_no _).trans (bst_no _).symm
  refine s_X9_edge hL ?_
  refine C0.use (c_X9_whyNoBest hL hv hC hf hk) ?_
  rintro r D1 ⟨rfl, rfl⟩
  try dsimp only
  have hwr : wnb v f k = 1 ∨ wnb v f k = 6 ∨ wnb v f k = 0 := by
    unfold wnb; split
    · split
      · exact Or.inr (Or.inl rfl)
      · exact Or.inr (Or.inr rfl)
    · exact Or.inl rfl
  refine ⟨by omega, fun h0 => ?_, fun hne => ⟨cQ.no ?_ yS.rf, hL, hI.up hL (by omega) _ _, Or.inl rfl⟩⟩
  · have hg : (0 ≤ f ∧ f < v 2) ∧ 1 ≤ k ∧ k ≤ 6 := by
      refine Classical.byContradiction fun q => ?_
      rw [wnb, if_neg q] at h0; omega
    have hb : bestR v f k ≠ -1 := by
      intro q
      rw [wnb, if_pos hg, if_pos q] at h0; omega
    rw [q_edge, if_pos hg, if_neg (fun q => hb (hb01.2 q))] at ha
    refine (c_X5_ready hL hv hC hO hI).mono ?_
    rintro - G1 D2 ⟨hG1, hL1, hR1, hI1, hx1⟩
    refine ⟨hL1, ?_⟩
    refine C0.use (c_X1_listSets hL1 hv hR1 hg.1 hg.2) ?_
    rintro - D3 ⟨hls, hs3⟩
    try dsimp only
    have ho : openN v f < 2 ^ (v 0).toNat := setN_lt _ _
    have hc252 := cnt_252 (o := openN v f) (k := k) (by omega) (n := openN v f + 1) (by omega)
    refine C0.use (c_X1_leastOtherHunger (k := k) hL1 hv hg.1 (show openN v f + 1 ≤ 2 ^ (v 0).toNat by omega) hc252 hls) ?_
    rintro r D4 ⟨hr, rfl⟩
    try dsimp only
    have hcp : 0 < cntS (obS v f k) (openN v f + 1) := by
      rw [(okS_o v f k (worthS v f)).1]
      rcases Nat.eq_zero_or_pos (cntS (obS v f k) (nS v)) with z | z
      · exact absurd ((bst_no (worthS v f)).2 z) hb
      · exact z
    have hre : r = edgeR v f k := by
      rw [hr]
      unfold edgeR
      refine fst_cg (fun h => ?_) _ _
      have e := fi_ne hcp (wH v f h) (wH v f 0)
      rw [(okS_o v f k (wH v f h)).2, (okS_o v f k (wH v f 0)).2] at e
      exact decide_eq_decide.2 e
    have hed := fst_b (fun h => decide (bstS (obS v f k) (wH v f h) (nS v) ≠ bstS (obS v f k) (wH v f 0) (nS v))) 99 1
    have hrb : r = -1 ∨ (1 ≤ r ∧ r < 100) := by rw [hre]; exact hed
    rw [← hre] at ha
    have hI4 := (hI1.cs hL1 hs3)
    refine ⟨by omega, fun q => ?_, fun q => ?_⟩
    · exact ⟨cQ.no (by rw [ha, if_neg q]) (hx1.y.tr hs3.y), hL1, hI4.up hL1 (by omega) _ _, Or.inr hG1⟩
    · exact ⟨cQ.no (by rw [ha, if_pos q]) (hx1.y.tr hs3.y), hL1, hI4.up hL1 (by omega) _ _, Or.inr hG1⟩
  · rw [ha, q_edge]
    by_cases q1 : (0 ≤ f ∧ f < v 2) ∧ 1 ≤ k ∧ k ≤ 6
    · by_cases q2 : bestR v f k = -1
      · rw [wnb, if_pos q1, if_pos q1, if_pos q2, if_pos (hb01.1 q2)]
      · rw [wnb, if_pos q1, if_neg q2] at hne; exact absurd rfl hne
    · rw [wnb, if_neg q1, if_neg q1]
theorem c_X9_change (hL : Lay G) (hv : wfV v) (hC : CV 1 v D) (hO : CVo 1 v D) (hI : RI v G D) {f k h od : Int} (hf : -2147483648 ≤ f ∧ f < 2147483648) (hk : -2147483648 ≤ k ∧ k < 2147483648) (hh2 : -2147483648 ≤ h ∧ h < 2147483648) (ho : -2147483648 ≤ od ∧ od < 2147483648) {a : Ans} (ha : a = q_change v f k h od) : Ct l E MX9_change 0 (mcR G v) (msR G v) [vR E 0, vI f, vI k, vI h, vI od] G D (cP v G D a) := by
  have h10 := two_le (wfS hv)
  have hU := wfU hv
  have hH := wfH hv
  have e1 : D 1 1 = v 1 := hC.2.1
  refine s_X9_change hL ?_
  rw [e1]
  refine ⟨hh2, fun g => ⟨cQ.no ?_ yS.rf, hL, hI.up hL (by omega) _ _, Or.inl rfl⟩, fun g => ⟨ho, fun g2 => ?_, fun g2 => ⟨cQ.no ?_ yS.rf, hL, hI.up hL (by omega) _ _, Or.inl rfl⟩⟩⟩
  · rw [ha, q_change, if_neg (fun q => g q.2.1)]
  · refine C0.use (c_X9_whyNoBest hL hv hC hf hk) ?_
    rintro r D1 ⟨rfl, rfl⟩
    try dsimp only
    have hwr : wnb v f k = 1 ∨ wnb v f k = 6 ∨ wnb v f k = 0 := by
      unfold wnb; split
      · split
        · exact Or.inr (Or.inl rfl)
        · exact Or.inr (Or.inr rfl)
      · exact Or.inl rfl
    refine ⟨by omega, fun h0 => ?_, fun hne => ⟨cQ.no ?_ yS.rf, hL, hI.up hL (by omega) _ _, Or.inl rfl⟩⟩
    · have hg : (0 ≤ f ∧ f < v 2) ∧ 1 ≤ k ∧ k ≤ 6 := by
        refine Classical.byContradiction fun q => ?_
        rw [wnb, if_neg q] at h0; omega
      have hb : bestR v f k ≠ -1 := by
        intro q
        rw [wnb, if_pos hg, if_pos q] at h0; omega
      rw [q_change, if_pos ⟨hg, g, g2⟩, if_neg hb] at ha
      refine (c_X5_ready hL hv hC hO hI).mono ?_
      rintro - G1 D2 ⟨hG1, hL1, hR1, hI1, hx1⟩
      refine ⟨hL1, ?_⟩
      refine C0.use (c_X1_listSets hL1 hv hR1 hg.1 hg.2) ?_
      rintro - D3 ⟨hls, hs3⟩
      try dsimp only
      have hR3 := hs3.ready hL1 hR1
      have hon : openN v f < 2 ^ (v 0).toNat := setN_lt _ _
      have hc252 := cnt_252 (o := openN v f) (k := k) (by omega) (n := openN v f + 1) (by omega)
      rw [show D3 1 4 = v 4 from hR3.1.2.2.2.2.1]
      refine C0.use (c_X1_bestIndex (k := k) hL1 hv hg.1 (show openN v f + 1 ≤ 2 ^ (v 0).toNat by omega) hc252 hls (by omega)) ?_
      rintro r D4 ⟨hr4, rfl⟩
      try dsimp only
      have hO3 : CVo 1 v D4 := (hx1.y.tr hs3.y).lando hO
      refine C0.use (c_X5_weigh hL1 hv hR3.1 hO3 h od (Or.inr ⟨g.1, g.2, g2.1, g2.2⟩)) ?_
      rintro - D5 ⟨ho5, hw5⟩
      try dsimp only
      have hag : agr v (oddV v h od) := agr_ovr v (by omega) od
      have ovo : ovr v h od = oddV v h od := by unfold ovr oddV; rw [if_pos g.1]
      rw [ovo] at hw5
      have hv' : wfV (oddV v h od) := wfV_odd hv g g2
      have o4 : oddV v h od 4 = v 4 := by simp only [oddV, upV]; rw [if_neg (by omega)]
      have o0 : oddV v h od 0 = v 0 := hag 0 (by omega)
      have o1 : oddV v h od 1 = v 1 := hag 1 (by omega)
      have o2 : oddV v h od 2 = v 2 := hag 2 (by omega)
      have oo : openN (oddV v h od) f = openN v f := hag.opn hv f
      have hr1 := rdc_ne hL1
      have hR5 : Rd (oddV v h od) G1 D5 := by
        refine ⟨hag.cv hv o4 (hR3.1.same (fun j hj => ho5 _ (by omega))), ?_, hag.rt hv (hR3.2.2.same (ho5 45 (by decide)) (ho5 _ (by omega)))⟩
        intro lot l0 l1
        rw [o1] at l1
        exact hw5 lot l0 l1
      refine C0.use (c_X1_listSets hL1 hv' hR5 (by rw [o2]; exact hg.1) hg.2) ?_
      rintro - D6 ⟨hls6, hs6⟩
      try dsimp only
      rw [oo] at hls6
      have hR6 := hs6.ready hL1 hR5
      rw [show D6 1 4 = v 4 from hR6.1.2.2.2.2.1.trans o4]
      refine C0.use (c_X1_bestIndex (k := k) hL1 hv' (by rw [o2]; exact hg.1) (show openN v f + 1 ≤ 2 ^ (oddV v h od 0).toNat by rw [o0]; omega) hc252 hls6 (by omega)) ?_
      rintro r2 D7 ⟨hr7, rfl⟩
      try dsimp only
      have hcp : 0 < cntS (obS v f k) (openN v f + 1) := by
        rw [(okS_o v f k (worthS v f)).1]
        rcases Nat.eq_zero_or_pos (cntS (obS v f k) (nS v)) with z | z
        · exact absurd ((bst_no (worthS v f)).2 z) hb
        · exact z
      have ew1 : bstS (obS v f k) (wH v f (v 4)) (openN v f + 1) = bestR v f k := by rw [(okS_o v f k _).2, ← worth_wH]; rfl
      have ew2 : bstS (obS v f k) (wH (oddV v h od) f (v 4)) (openN v f + 1) = chgR v f k h od := by rw [(okS_o v f k _).2, ← o4, ← worth_wH]; rfl
      have hfn := fi_ne hcp (wH (oddV v h od) f (v 4)) (wH v f (v 4))
      rw [ew1, ew2] at hfn
      have hfb : ∀ w : Nat → Int, fiS (obS v f k) w (openN v f + 1) ≤ 252 := by
        intro w
        unfold fiS
        split
        · omega
        · rcases bst_is (obS v f k) w (openN v f + 1) with ⟨b1, b2⟩ | ⟨b, b1, b2, b3, b4⟩
          · omega
          · rw [b1, Int.toNat_natCast]; have := cnt_lt _ b2 b3; exact Nat.le_trans (Nat.le_of_lt this) hc252
      have f1 := hfb (wH v f (v 4))
      have f2 := hfb (wH (oddV v h od) f (v 4))
      have hr4' : r = (fiS (obS v f k) (wH v f (v 4)) (openN v f + 1) : Nat) := hr4
      have hr7' : r2 = (fiS (obS v f k) (wH (oddV v h od) f (v 4)) (openN v f + 1) : Nat) := hr7
      have hy : yS D1 D7 := by
        refine (hx1.y.tr hs3.y).tr (yS.tr ?_ hs6.y)
        intro c i hc
        rw [ho5 c (fun e => hc (by rw [e]; exact Or.inr (Or.inl rfl)))]
      have hI7 : RI v G1 D7 := by
        have a1 := hI1.cs hL1 hs3
        have a2 : RI v G1 D5 := a1.same (by rw [ho5 42 (by decide)]) (ho5 45 (by decide)) (ho5 _ (by omega))
        exact a2.cs hL1 hs6
      refine ⟨⟨by omega, by omega⟩, fun q => ?_, fun q => ?_⟩
      · have q2 : chgR v f k h od ≠ bestR v f k := hfn.1 (fun z => q (by rw [hr4', hr7', z]))
        exact ⟨cQ.no (by rw [ha, if_neg q2]) hy, hL1, hI7.up hL1 (by omega) _ _, Or.inr hG1⟩
      · have q2 : chgR v f k h od = bestR v f k := Classical.byContradiction fun z => hfn.2 z (by omega)
        exact ⟨cQ.no (by rw [ha, if_pos q2]) hy, hL1, hI7.up hL1 (by omega) _ _, Or.inr hG1⟩
    · rw [ha, q_change]
      by_cases q1 : (0 ≤ f ∧ f < v 2) ∧ 1 ≤ k ∧ k ≤ 6
      · by_cases q2 : bestR v f k = -1
        · rw [wnb, if_pos q1, if_pos ⟨q1, g, g2⟩, if_pos q2, if_pos q2]
        · rw [wnb, if_pos q1, if_neg q2] at hne; exact absurd rfl hne
      · rw [wnb, if_neg q1, if_neg (fun q => q1 q.1)]
  · rw [ha, q_change, if_neg (fun q => g2 q.2.2)]
end

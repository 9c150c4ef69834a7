-- beside of the class
section
variable {l : Launch} {E : Ev} {G : Sh} {D : Dm} {v : Vl} {a : Ans}
theorem c_X0_fillOwn (hL : Lay G) (hv : wfV v) (hR : Rd v G D) {f hm pr cv : Int} (hf : 0 ≤ f ∧ f < v 2) (hhm : hm = -1 ∨ (0 ≤ hm ∧ hm < v 1)) (hp : 0 ≤ pr ∧ pr ≤ 99) (hc : 0 ≤ cv ∧ cv ≤ 99) : C0 l E MX0_fillOwn 2 [vR E 53, vI f, vI hm, vI pr, vI cv] G D (fun _ D' => (∀ lot, 0 ≤ lot → lot < iSl 1 (v 1) → D' 54 lot = ownS v f hm pr cv lot) ∧ cS D D') := by
  have hF := wfF hv
  have hH := wfH hv
  have hlb := lotsB hH
  refine s_X0_fillOwn hL ?_
  refine C0.use (c_X8_heldBy hL hv hR.1 f (by omega)) ?_
  rintro r D1 ⟨rfl, rfl⟩
  try dsimp only
  refine C0.use (c_X5_fillNets hL hv hR hf (S := heldN v f) (setN_lt _ _) (by decide)) ?_
  rintro - D2 ⟨hn, ho⟩
  try dsimp only
  have hs2 : cS D1 D2 := (off_kS ho).s
  refine up_from (P := fun i => ∀ D', cS D1 D' → D' 44 = D2 44 → (∀ lot, 0 ≤ lot → lot < i → D' 54 lot = ownS v f hm pr cv lot) → KX0_fillOwn l E _ 20 [(0, vR E 53), (1, vI f), (2, vI hm), (3, vI pr), (4, vI cv), (5, vI i)] G D') (lo := 0) (n := iSl 1 (v 1)) (by omega) ?_ ?_ D2 hs2 rfl (fun lot a b => by omega)
  · intro D' hs' h44 hw
    have e1 : D' 1 1 = v 1 := (hs'.land hR.1).2.1
    exact s_X0_fillOwn_20 hL ⟨by omega, fun _ => ⟨rfl, hw, hs'⟩, fun z => absurd z (by rw [e1]; omega)⟩
  · intro i i0 i1 ih D' hs' h44 hw
    have e1 : D' 1 1 = v 1 := (hs'.land hR.1).2.1
    have en : D' 44 i = hNet v f i := by rw [h44]; exact hn i i0 i1
    have hnb := hNet_b hv hf i
    have fin : ∀ D4 x, D4 = upd2 D' 54 i x ∨ (∃ y z, D4 = upd2 (upd2 (upd2 D' 54 i y) 54 i z) 54 i x) → x = ownS v f hm pr cv i → KX0_fillOwn l E (fun r G' D' => G' = G ∧ (∀ lot, 0 ≤ lot → lot < iSl 1 (v 1) → D' 54 lot = ownS v f hm pr cv lot) ∧ cS D1 D') 20 [(0, vR E 53), (1, vI f), (2, vI hm), (3, vI pr), (4, vI cv), (5, vI (i + 1))] G D4 := by
      intro D4 x hx hx2
      have h4 : D4 = upd2 D' 54 i x := by
        rcases hx with h | ⟨y, z, h⟩
        · exact h
        · rw [h, upd2_twice, upd2_twice]
      subst h4
      refine ih _ (hs'.up (by simp [scrC]) _) ?_ (fun lot a b => ?_)
      · rw [← h44]; funext j; exact upd2_cell _ _ _ _ (by decide)
      · by_cases z : lot = i
        · subst z; rw [upd2_same, hx2]
        · rw [upd2_place _ _ _ z]; exact hw lot a (by omega)
    refine s_X0_fillOwn_20 hL ?_
    rw [en, e1]
    refine ⟨by omega, fun z => absurd z (by omega), fun _ => ⟨by omega, fun z => fin _ _ (Or.inl rfl) (by rw [ownS, if_pos z]), fun z => ⟨by omega, fun z2 => ⟨by omega, fin _ _ (Or.inr ⟨_, _, rfl⟩) ?_⟩, fun z2 => ⟨by omega, fin _ _ (Or.inr ⟨_, _, rfl⟩) ?_⟩⟩⟩⟩
    · rw [ownS, if_neg z, if_pos z2]
    · rw [ownS, if_neg z, if_neg z2]
theorem c_X0_fillGifts (hL : Lay G) (hv : wfV v) (hR : Rd v G D) {c : Int} (hc : c = -1 ∨ (0 ≤ c ∧ c < v 2)) : C0 l E MX0_fillGifts 2 [vR E 53, vI c] G D (fun _ D' => (∀ lot, 0 ≤ lot → lot < iSl 1 (v 1) → D' 55 lot = gftS v c lot) ∧ D' 54 = D 54 ∧ cS D D') := by
  have hF := wfF hv
  have hH := wfH hv
  have hlb := lotsB hH
  have loop : ∀ D2, cS D D2 → D2 54 = D 54 → (c ≠ -1 → ∀ lot, 0 ≤ lot → lot < iSl 1 (v 1) → D2 44 lot = hNet v c lot) → KX0_fillGifts l E (fun r G' D' => G' = G ∧ (∀ lot, 0 ≤ lot → lot < iSl 1 (v 1) → D' 55 lot = gftS v c lot) ∧ D' 54 = D 54 ∧ cS D D') 24 [(0, vR E 53), (1, vI c), (2, vI 0)] G D2 := by
    intro D2 hs2 h54 hn
    refine up_from (P := fun i => ∀ D', cS D D' → D' 54 = D 54 → D' 44 = D2 44 → (∀ lot, 0 ≤ lot → lot < i → D' 55 lot = gftS v c lot) → KX0_fillGifts l E (fun r G' D' => G' = G ∧ (∀ lot, 0 ≤ lot → lot < iSl 1 (v 1) → D' 55 lot = gftS v c lot) ∧ D' 54 = D 54 ∧ cS D D') 24 [(0, vR E 53), (1, vI c), (2, vI i)] G D') (lo := 0) (n := iSl 1 (v 1)) (by omega) ?_ ?_ D2 hs2 h54 rfl (fun lot a b => by omega)
    · intro D' hs' h54' h44 hw
      have e1 : D' 1 1 = v 1 := (hs'.land hR.1).2.1
      exact s_X0_fillGifts_24 hL ⟨by omega, fun _ => ⟨rfl, hw, h54', hs'⟩, fun z => absurd z (by rw [e1]; omega)⟩
    · intro i i0 i1 ih D' hs' h54' h44 hw
      have hC' := hs'.land hR.1
      have e1 : D' 1 1 = v 1 := hC'.2.1
      have fin : ∀ x, x = gftS v c i → KX0_fillGifts l E (fun r G' D' => G' = G ∧ (∀ lot, 0 ≤ lot → lot < iSl 1 (v 1) → D' 55 lot = gftS v c lot) ∧ D' 54 = D 54 ∧ cS D D') 24 [(0, vR E 53), (1, vI c), (2, vI (i + 1))] G (upd2 D' 55 i x) := by
        intro x hx
        refine ih _ (hs'.up (by simp [scrC]) _) ?_ ?_ (fun lot a b => ?_)
        · rw [← h54']; funext j; exact upd2_cell _ _ _ _ (by decide)
        · rw [← h44]; funext j; exact upd2_cell _ _ _ _ (by decide)
        · by_cases z : lot = i
          · subst z; rw [upd2_same, hx]
          · rw [upd2_place _ _ _ z]; exact hw lot a (by omega)
      refine s_X0_fillGifts_24 hL ⟨by omega, fun z => absurd z (by rw [e1]; omega), fun _ => ⟨by omega, fun z => ?_, fun z => ⟨by omega, fin _ (by rw [gftS, if_pos z])⟩⟩⟩
      have hc2 : 0 ≤ c ∧ c < v 2 := by omega
      have en : D' 44 i = hNet v c i := by rw [h44]; exact hn z i i0 i1
      have ed : D' 13 c = v ((88 + (3 * c)) + 2) := (CV_f hC' hc2.1 hc2.2).2.2
      have hnb := hNet_b hv hc2 i
      have hw2 := wff hv hc2.1 hc2.2
      rw [en, ed]
      exact ⟨by omega, fin _ (by rw [gftS, if_neg z])⟩
  refine s_X0_fillGifts hL ⟨by omega, fun z => loop D cS.rf rfl (fun q => absurd z q), fun z => ?_⟩
  have hc2 : 0 ≤ c ∧ c < v 2 := by omega
  refine C0.use (c_X8_heldBy hL hv hR.1 c (by omega)) ?_
  rintro r D1 ⟨rfl, rfl⟩
  try dsimp only
  refine C0.use (c_X5_fillNets hL hv hR hc2 (S := heldN v c) (setN_lt _ _) (by decide)) ?_
  rintro - D2 ⟨hn, ho⟩
  try dsimp only
  exact loop D2 (off_kS ho).s (ho 54 (by decide)) (fun _ => hn)
theorem c_X0_hungryWeight (hL : Lay G) (hv : wfV v) (hR : Rd v G D) {f bn c hm pr cv : Int} (hf : 0 ≤ f ∧ f < v 2) (hb : 0 ≤ bn ∧ bn ≤ 999) (hc : c = -1 ∨ (0 ≤ c ∧ c < v 2)) (hp : 0 ≤ pr ∧ pr ≤ 99) (hcv : 0 ≤ cv ∧ cv ≤ 99) (ho : ∀ lot, 0 ≤ lot → lot < iSl 1 (v 1) → D 54 lot = ownS v f hm pr cv lot) (hg : ∀ lot, 0 ≤ lot → lot < iSl 1 (v 1) → D 55 lot = gftS v c lot) : C0 l E MX0_hungryWeight 1 [vR E 53, vI f, vI bn] G D (fun r D' => r = bsS v f bn c hm pr cv ∧ D' = D) := by
  have hF := wfF hv
  have hlb := lotsB (wfH hv)
  have e1 : D 1 1 = v 1 := hR.1.2.1
  have hn := wff hv hf.1 hf.2
  refine s_X0_hungryWeight hL ⟨by omega, ?_⟩
  rw [e1, show D 13 f = v ((88 + (3 * f)) + 2) from (CV_f hR.1 hf.1 hf.2).2.2]
  refine up_from (P := fun i => KX0_hungryWeight l E _ 25 [(0, vR E 53), (1, vI f), (2, vI bn), (3, vI (v ((88 + (3 * f)) + 2))), (4, vI (iSl 1 (v 1))), (5, vJ (sz (bsO v f bn c hm pr cv) i.toNat)), (7, vI i)] G D) (lo := 0) (n := iSl 1 (v 1)) (by omega) ?_ ?_
  · exact s_X0_hungryWeight_25 hL ⟨by omega, fun _ => ⟨rfl, rfl, rfl⟩, fun z => absurd z (by omega)⟩
  · intro i i0 i1 ih
    rw [sz_s _ i0] at ih
    have hob := ownS_b (hm := hm) hv hf hp hcv i
    have hlb2 := laid_b (v := v) (f := f) (hm := hm) (pr := pr) (cv := cv) (one := i) hb
    have hhf := half_b hlb2
    refine s_X0_hungryWeight_25 hL ?_
    rw [ho i i0 i1]
    refine ⟨by omega, fun z => absurd z (by omega), fun _ => ⟨by unfold laidS at hlb2; omega, ?_⟩⟩
    change KX0_hungryWeight l E _ 68 [(0, vR E 53), (1, vI f), (2, vI bn), (3, vI (v ((88 + (3 * f)) + 2))), (4, vI (iSl 1 (v 1))), (5, vJ (sz (bsO v f bn c hm pr cv) i.toNat)), (7, vI i), (8, vI (laidS v f bn hm pr cv i)), (9, vI (laidS v f bn hm pr cv i - Int.tdiv (laidS v f bn hm pr cv i + 1) 2)), (10, vJ 0), (12, vI 0)] G D
    rw [hhf.2.2]
    refine up_from (P := fun j => KX0_hungryWeight l E _ 68 [(0, vR E 53), (1, vI f), (2, vI bn), (3, vI (v ((88 + (3 * f)) + 2))), (4, vI (iSl 1 (v 1))), (5, vJ (sz (bsO v f bn c hm pr cv) i.toNat)), (7, vI i), (8, vI (laidS v f bn hm pr cv i)), (9, vI (Int.tdiv (laidS v f bn hm pr cv i) 2)), (10, vJ (sz (bsI v f bn c hm pr cv i) j.toNat)), (12, vI j)] G D) (lo := 0) (n := iSl 1 (v 1)) (by omega) ?_ ?_
    · refine s_X0_hungryWeight_68 hL ⟨by omega, fun _ => ⟨by omega, ?_⟩, fun z => absurd z (by omega)⟩
      rw [hR.2.1 i i0 i1]
      exact ih
    · intro j j0 j1 ih2
      rw [sz_s _ j0, bsI] at ih2
      have hoj := ownS_b (hm := hm) hv hf hp hcv j
      have hgj := gftS_b hv (c := c) hc j
      refine s_X0_hungryWeight_68 hL ?_
      rw [ho j j0 j1, hg j j0 j1, hR.2.1 j j0 j1]
      refine ⟨by omega, fun z => absurd z (by omega), fun _ => ⟨by omega, fun z => ?_, fun z => ?_⟩⟩
      · rw [if_neg (by omega), Int.add_zero] at ih2
        exact ih2
      · rw [if_pos z] at ih2
        exact ih2
theorem c_X9_beside (hL : Lay G) (hv : wfV v) (hC : CV 1 v D) (hO : CVo 1 v D) (hI : RI v G D) {f bn c hm pr cv : Int} (hf : iRg f) (hb : iRg bn) (hc : iRg c) (hhm : iRg hm) (hp : iRg pr) (hcv : iRg cv) (ha : a = q_beside v f bn c hm pr cv) : Ct l E MX9_beside 0 (mcR G v) (msR G v) [vR E 0, vI f, vI bn, vI c, vI hm, vI pr, vI cv] G D (cP v G D a) := by
  have hab := all_b hv
  have no : ¬ ((0 ≤ f ∧ f < v 2) ∧ (0 ≤ bn ∧ bn ≤ 999) ∧ (c = -1 ∨ ((0 ≤ c ∧ c < v 2) ∧ c ≠ f)) ∧ (hm = -1 ∨ (0 ≤ hm ∧ hm < v 1)) ∧ (0 ≤ pr ∧ pr ≤ 99) ∧ (0 ≤ cv ∧ cv ≤ 99)) → cP v G D a 0 G (upd2 D 0 11 1) := by
    intro q
    exact cP.no hL hI (by rw [ha, q_beside, if_neg q]) yS.rf (Or.inl rfl)
  have ys : ((0 ≤ f ∧ f < v 2) ∧ (0 ≤ bn ∧ bn ≤ 999) ∧ (c = -1 ∨ ((0 ≤ c ∧ c < v 2) ∧ c ≠ f)) ∧ (hm = -1 ∨ (0 ≤ hm ∧ hm < v 1)) ∧ (0 ≤ pr ∧ pr ≤ 99) ∧ (0 ≤ cv ∧ cv ≤ 99)) → Ct l E MX5_ready 2 (mcR G v) (msR G v) [vR E 42] G D (fun r29 G29 D29 =>
      Lay G29 ∧ C0 l E MX0_fillOwn 2 [vR E 53, vI f, vI hm, vI pr, vI cv] G29 D29 (fun r31 D31 =>
        C0 l E MX0_fillGifts 2 [vR E 53, vI c] G29 D31 (fun r33 D33 =>
          C0 l E MX0_hungryWeight 1 [vR E 53, vI f, vI bn] G29 D33 (fun r36 D36 =>
            C0 l E MX9_tell 0 [vR E 0, vJ r36, vJ ((jSl 1 (4 * (D33 1 1))) * (jSl 1 (4 * (D33 1 1))))] G29 D36 (fun r38 D38 =>
              ((r38 = 0 ∨ r38 = 1)) ∧ cP v G D a r38 G29 D38))))) := by
    intro q
    rw [q_beside, if_pos q] at ha
    obtain ⟨qf, qb, qc, qh, qp, qv⟩ := q
    refine (c_X5_ready hL hv hC hO hI).mono ?_
    rintro - G1 D2 ⟨hG1, hL1, hR1, hI1, hx1⟩
    refine ⟨hL1, ?_⟩
    refine C0.use (c_X0_fillOwn hL1 hv hR1 qf qh qp qv) ?_
    rintro - D3 ⟨ho3, hs3⟩
    try dsimp only
    refine C0.use (c_X0_fillGifts hL1 hv (hs3.ready hL1 hR1) (c := c) (by omega)) ?_
    rintro - D4 ⟨hg4, h54, hs4⟩
    try dsimp only
    have hs24 := hs3.tr hs4
    have hR4 := hs24.ready hL1 hR1
    refine C0.use (c_X0_hungryWeight hL1 hv hR4 (hm := hm) (pr := pr) (cv := cv) qf qb (c := c) (by omega) qp qv (fun j a b => by rw [h54]; exact ho3 j a b) hg4) ?_
    rintro r D5 ⟨rfl, rfl⟩
    try dsimp only
    rw [show D5 1 1 = v 1 from hR4.1.2.1, jAll hv]
    have hbs := bsS_b hv f bn c hm pr cv
    have h2 := mulB (A := 16777216) (B := 16777216) (a := allS v) (b := allS v) (by omega) (by omega)
    have h3 : 0 < allS v * allS v := Int.mul_pos (by omega) (by omega)
    refine C0.use (c_X9_tell hL1 (by omega) (by omega)) ?_
    rintro r D6 ⟨rfl, rfl⟩
    exact ⟨Or.inr rfl, cP.tl hL1 (hI1.cs hL1 hs24) ha (hx1.y.tr hs24.y) (Or.inr hG1)⟩
  refine s_X9_beside hL ?_
  rw [show D 1 2 = v 2 from hC.2.2.1, show D 1 1 = v 1 from hC.2.1]
  repeat' (first | exact no (by omega) | exact ys (by omega) | refine And.intro ?_ ?_ | intro _ | omega)
end

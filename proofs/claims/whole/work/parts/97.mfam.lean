/-! ===== the reference's reader: families, parts ===== -/
section
variable {l : Launch} {E : Ev} {G : Sh} {D : Dm} {T : Int → Int} {n : Int} {K : Tk}
theorem m_family (hL : Lay G) (hn : 0 ≤ n ∧ n ≤ 600) (hT : TB T n) (hl : lvM T n D K) (h4 : K.1 ≠ 4) {w : Vl} {sn fn : Row} (hM : DM D w sn fn) (hB : WB w) : C0 l E MX10_aFamily 0 [vR E 107] G D (fun r D' => AM T n D D' r (fun k => pFam T n w sn fn k K)) := by
  have e0 : D 108 402 = w 2 := hM.1 2 (by decide) (by decide)
  obtain ⟨b0, b1, b2⟩ := hB
  generalize hP0 : (fun k => pFam T n w sn fn k K) = P
  have hP : ∀ k, P k = pFam T n w sn fn k K := fun k => by rw [← hP0]
  generalize hQ : (fun (r : Int) (G' : Sh) (D' : Dm) => G' = G ∧ AM T n D D' r P) = Q
  have dead : ∀ D', rO D D' → (∀ k, ddM D' (P k)) → Q 0 G D' := fun D' h1 h2 => by rw [← hQ]; exact ⟨rfl, h1, Or.inr ⟨rfl, h2⟩⟩
  have fail : ∀ why, why ≠ 0 → iRg why → ∀ D' K', rO D D' → lvM T n D' K' → (∀ k, P k = fl K' why) → C0 l E MX10_fails 0 [vR E 107, vI why] G D' (fun r8 D8 => (r8 = 0 ∨ r8 = 1) ∧ Q r8 G D8) := by
    intro why h0 h1 D' K' hr hl' hf
    refine C0.use (m_fails hL ⟨h0, h1⟩ hl') ?_
    rintro r D2 ⟨g1, rfl, g2⟩
    exact ⟨Or.inl rfl, dead D2 (hr.tr g1.r) (fun k => by rw [hf k]; exact g2)⟩
  suffices main : Ct l E MX10_aFamily 0 0 0 [vR E 107] G D Q by rw [← hQ] at main; exact main
  refine s_X10_aFamily hL ?_
  rw [e0]
  refine ⟨fun z => ?_, fun z => fail 5 (by decide) (by decide) D K rO.rf hl (fun k => by rw [hP k, pFam, if_pos z])⟩
  have hP1 : ∀ k, P k = NM T n fn (w 2) (nxK T n K) (fun x0 K1 => WW T n 24948 K1 (fun K2 => NB T n 0 99 K2 (fun x1 K3 => NB T n 0 99 K3 (fun x2 K4 => WW T n 1852138852 K4 (fun K5 => NB T n 0 99 K5 (fun x3 K6 => pHold T n (w 2) sn (upV fn (w 2) x0) k 601 (wFam w x1 x2 x3) K6)))))) := fun k => by rw [hP k, pFam, if_neg z]
  refine C0.use (m_ahead hL hn hT hl h4) ?_
  rintro - D5 ⟨s5, l5⟩
  try dsimp only
  refine C0.use (m_isName hL hn hT l5) ?_
  rintro r D7 ⟨rfl, rfl⟩
  try dsimp only
  refine ⟨rB _, fun y => ?_, fun y => fail 2 (by decide) (by decide) _ _ s5.r l5 (fun k => ?_)⟩
  rotate_left
  · rw [hP1 k, NM, if_neg (fun q => by rw [if_pos q] at y; omega)]
  have hnm : nmOk (nxK T n K) := Classical.byContradiction (fun q => y (if_neg q))
  have hxJ := wv_J l5.2.2.2.2.2 hnm.1
  refine C0.use (m_here hL hn hT l5 hnm) ?_
  rintro x0 D11 ⟨rfl, rfl⟩
  try dsimp only
  obtain ⟨x0, hx0⟩ : ∃ x, (nxK T n K).2.2.2 = x := ⟨_, rfl⟩
  rw [hx0] at hxJ ⊢
  refine C0.use (c_X10_findf hL b2 hxJ) ?_
  rintro r D13 ⟨rfl, rfl⟩
  try dsimp only
  have hfb := fnd_b (D13 115) b2.1 x0
  have hcg : fnd (D13 115) (w 2) x0 = fnd fn (w 2) x0 := fnd_cg x0 (fun j p q => by rw [s5.c (by decide)]; exact hM.2.2 j p q)
  refine ⟨by omega, fun y2 => ?_, fun y2 => fail 3 (by decide) (by decide) _ _ s5.r l5 (fun k => ?_)⟩
  rotate_left
  · rw [hP1 k, NM, if_pos hnm, hx0, if_neg (by rw [← hcg]; exact y2)]
  have hP2 : ∀ k, P k = _ := fun k => by rw [hP1 k, NM, if_pos hnm, hx0, if_pos (by rw [← hcg]; exact y2)]
  try dsimp only at hP2
  refine C0.use (m_here hL hn hT l5 hnm) ?_
  rw [hx0]
  rintro r D17 ⟨rfl, rfl⟩
  try dsimp only
  refine ⟨⟨by omega, hxJ⟩, ?_⟩
  refine C0.use (m_ahead hL hn hT (l5.up (c := 115) (by decide) (w 2) r) (by omega)) ?_
  rintro - D19 ⟨s19, l19⟩
  try dsimp only
  have o19 : rO D D19 := (s5.r.up (Or.inr (Or.inr rfl)) _).tr s19.r
  refine C0.use (m_word hL hn hT l19 (j := 6) (by decide) (c := 24948) (by decide) rfl) ?_
  rintro r21 D21 h21
  try dsimp only
  rcases h21 with ⟨rfl, s21, l21, p21⟩ | ⟨rfl, s21, d21⟩
  rotate_left
  · exact ⟨by decide, fun _ => dead D21 (o19.tr s21.r) (fun k => by rw [hP2 k]; exact d21 _), fun q => absurd rfl q⟩
  refine ⟨by decide, fun q => absurd q (by decide), fun _ => ?_⟩
  have hP3 := fun k => (hP2 k).trans (p21 _)
  try dsimp only at hP3
  refine C0.use (m_num hL hn hT l21 (by omega) (by decide) (by decide)) ?_
  rintro r26 D26 h26
  try dsimp only
  rcases h26 with ⟨rfl, x1, bx1, s26, l26, p26⟩ | ⟨rfl, s26, d26⟩
  rotate_left
  · exact ⟨by decide, fun _ => dead D26 ((o19.tr s21.r).tr s26.r) (fun k => by rw [hP3 k]; exact d26 _), fun q => absurd rfl q⟩
  refine ⟨by decide, fun q => absurd q (by decide), fun _ => ?_⟩
  have hP4 := fun k => (hP3 k).trans (p26 _)
  try dsimp only at hP4
  have o26 : rO D D26 := ((o19.tr s21.r).up (Or.inl ⟨rfl, by omega, by omega⟩) _).tr s26.r
  refine C0.use (m_num hL hn hT l26 (by omega) (by decide) (by decide)) ?_
  rintro r31 D31 h31
  try dsimp only
  rcases h31 with ⟨rfl, x2, bx2, s31, l31, p31⟩ | ⟨rfl, s31, d31⟩
  rotate_left
  · exact ⟨by decide, fun _ => dead D31 (o26.tr s31.r) (fun k => by rw [hP4 k]; exact d31 _), fun q => absurd rfl q⟩
  refine ⟨by decide, fun q => absurd q (by decide), fun _ => ?_⟩
  have hP5 := fun k => (hP4 k).trans (p31 _)
  try dsimp only at hP5
  have o31 : rO D D31 := (o26.up (Or.inl ⟨rfl, by omega, by omega⟩) _).tr s31.r
  refine C0.use (m_word hL hn hT l31 (j := 10) (by decide) (c := 1852138852) (by decide) rfl) ?_
  rintro r36 D36 h36
  try dsimp only
  rcases h36 with ⟨rfl, s36, l36, p36⟩ | ⟨rfl, s36, d36⟩
  rotate_left
  · exact ⟨by decide, fun _ => dead D36 (o31.tr s36.r) (fun k => by rw [hP5 k]; exact d36 _), fun q => absurd rfl q⟩
  refine ⟨by decide, fun q => absurd q (by decide), fun _ => ?_⟩
  have hP6 := fun k => (hP5 k).trans (p36 _)
  try dsimp only at hP6
  have o36 := o31.tr s36.r
  refine C0.use (m_num hL hn hT l36 (by omega) (by decide) (by decide)) ?_
  rintro r41 D41 h41
  try dsimp only
  rcases h41 with ⟨rfl, x3, bx3, s41, l41, p41⟩ | ⟨rfl, s41, d41⟩
  rotate_left
  · exact ⟨by decide, fun q => absurd rfl q, fun _ => dead D41 (o36.tr s41.r) (fun k => by rw [hP6 k]; exact d41 _)⟩
  have hP7 := fun k => (hP6 k).trans (p41 _)
  try dsimp only at hP7
  have o41 : rO D D41 := (o36.up (Or.inl ⟨rfl, by omega, by omega⟩) _).tr s41.r
  have f19 : D19 108 = D 108 ∧ D19 114 = D 114 ∧ D19 115 = upV (D 115) (w 2) r := by
    refine ⟨?_, ?_, ?_⟩
    · rw [s19.c (by decide)]; funext i; rw [upd2_cell _ _ _ _ (by decide), s5.c (by decide)]
    · rw [s19.c (by decide)]; funext i; rw [upd2_cell _ _ _ _ (by decide), s5.c (by decide)]
    · rw [s19.c (by decide)]; funext i; simp only [upd2, upV]; rw [s5.c (by decide)]; simp
  have f21 := sm_wd s21
  have f26 := sm_num s26
  have f31 := sm_num s31
  have f36 := sm_wd s36
  have f41 := sm_num s41
  have g108 : D41 108 = upV (upV (upV (D 108) (488 + 3 * w 2) x1) (488 + 3 * w 2 + 1) x2) (488 + 3 * w 2 + 2) x3 := by rw [f41.1, f36.1, f31.1, f26.1, f21.1, f19.1]
  have g114 : D41 114 = D 114 := by rw [f41.2.1, f36.2.1, f31.2.1, f26.2.1, f21.2.1, f19.2.1]
  have g115 : D41 115 = upV (D 115) (w 2) r := by rw [f41.2.2, f36.2.2, f31.2.2, f26.2.2, f21.2.2, f19.2.2]
  have g402 : D41 108 402 = w 2 := by
    rw [g108]
    simp only [upV]
    rw [if_neg (by omega), if_neg (by omega), if_neg (by omega), e0]
  rw [g402]
  refine ⟨by decide, fun _ => ⟨by omega, ?_⟩, fun q => absurd q (by decide)⟩
  have wf2 : wFam w x1 x2 x3 2 = w 2 + 1 := by unfold wFam; rw [if_pos rfl]
  have wf0 : wFam w x1 x2 x3 0 = w 0 := by unfold wFam; rw [if_neg (by decide), if_neg (by omega), if_neg (by omega), if_neg (by omega)]
  have loop : ∀ (m : Nat) (w1 : Vl) (K1 : Tk) (D' : Dm), rO D D' → lvM T n D' K1 → DM D' w1 sn (upV fn (w 2) r) → (0 ≤ w1 0 ∧ w1 0 ≤ 10) → (∀ k, P k = pHold T n (w 2) sn (upV fn (w 2) r) k m w1 K1) → n - K1.2.1 < m → KX10_aFamily l E Q 150 [(0, vR E 107), (1, vI (w 2)), (2, vI (488 + (3 * w 2)))] G D' := by
    intro m
    induction m with
    | zero =>
      intro w1 K1 D' ho hl1 hM1 hB1 hP1 hfu
      have := hl1.2.2.2.2.2.2.1
      omega
    | succ m ihm =>
      intro w1 K1 D' ho hl1 hM1 hB1 hPm hfu
      have hk1 := hl1.2.2.2.2.2
      have hs1 := hk1.2.1
      have hkb := kOf_b K1
      have kI := kOf_w (K := K1) (j := 11) (by decide)
      have e11 : kcL.getD 11 0 = 448545973363 := by decide
      rw [e11] at kI
      refine s_X10_aFamily_150 hL ?_
      refine C0.use (m_key hL hn hT hl1) ?_
      rintro rk D2 ⟨rfl, rfl⟩
      try dsimp only
      refine ⟨by omega, fun y => ?_, fun y => ?_⟩
      · rw [← hQ]
        exact ⟨rfl, ho, Or.inl ⟨rfl, K1, w1, sn, _, hl1, hM1, fun k => by rw [hPm k, pHold, if_neg (fun q => y (kI.2 q))]⟩⟩
      · have hkw := kI.1 y
        have hPn : ∀ k, P k = _ := fun k => (hPm k).trans (by rw [pHold, if_pos hkw])
        have hn1 := nx_ok hk1 (by omega)
        have hlt1 := hk1.2.2.2.1 (Or.inl hkw.1)
        refine C0.use (m_ahead hL hn hT hl1 (by omega)) ?_
        rintro - D7 ⟨s7, l7⟩
        try dsimp only
        have o7 := ho.tr s7.r
        have f7 := sm_wd s7
        refine C0.use (m_isName hL hn hT l7) ?_
        rintro rn D9 ⟨rfl, rfl⟩
        try dsimp only
        refine ⟨rB _, fun y1 => ?_, fun y1 => fail 2 (by decide) (by decide) _ _ o7 l7 (fun k => ?_)⟩
        rotate_left
        · rw [hPn k, if_neg (fun q => by rw [if_pos q] at y1; omega)]
        have hnm1 : nmOk (nxK T n K1) := Classical.byContradiction (fun q => y1 (if_neg q))
        have hxJ1 := wv_J l7.2.2.2.2.2 hnm1.1
        refine C0.use (m_here hL hn hT l7 hnm1) ?_
        rintro xx D11 ⟨rfl, rfl⟩
        try dsimp only
        have e400 : D11 108 400 = w1 0 := by rw [f7.1]; exact hM1.1 0 (by decide) (by decide)
        rw [e400]
        refine C0.use (c_X10_finds hL hB1 hxJ1) ?_
        rintro rf D15 ⟨hrf, rfl⟩
        try dsimp only
        have hfb1 := fnd_b (D15 114) hB1.1 (nxK T n K1).2.2.2
        have hcg1 : fnd (D15 114) (w1 0) (nxK T n K1).2.2.2 = fnd sn (w1 0) (nxK T n K1).2.2.2 := fnd_cg _ (fun j p q => by rw [f7.2.1]; exact hM1.2.1 j p q)
        rw [← hrf] at hfb1 hcg1
        have hPf : ∀ k, P k = _ := fun k => (hPn k).trans (by rw [if_pos hnm1, ← hcg1])
        refine ⟨by omega, fun y2 => ⟨by omega, ?_⟩, fun y2 => fail 3 (by decide) (by decide) _ _ o7 l7 (fun k => ?_)⟩
        rotate_left
        · rw [hPf k, if_pos y2]
        have hw1 : D15 108 ((408 + (5 * rf)) + 4) = w1 (8 + 5 * rf + 4) := by
          rw [f7.1, show (408 + (5 * rf)) + 4 = 400 + (8 + 5 * rf + 4) by omega]
          exact hM1.1 _ (by omega) (by omega)
        rw [hw1]
        refine ⟨fun y3 => ⟨by omega, ?_⟩, fun y3 => fail 6 (by decide) (by decide) _ _ o7 l7 (fun k => ?_)⟩
        rotate_left
        · rw [hPf k, if_neg y2, if_neg y3]
        have hlt2 := hn1.1.2.2.2.1 (Or.inl hnm1.1)
        have hn2 := nx_ok hn1.1 (by omega)
        refine C0.use (m_ahead hL hn hT (l7.up (c := 108) (by decide) ((408 + (5 * rf)) + 4) (w 2)) (by omega)) ?_
        rintro - D22 ⟨s22, l22⟩
        try dsimp only
        have f22 := sm_num s22
        refine ihm (upV w1 (8 + 5 * rf + 4) (w 2)) (nxK T n (nxK T n K1)) D22 ((o7.up (Or.inl ⟨rfl, by omega, by omega⟩) _).tr s22.r) l22 ⟨fun i p q => ?_, fun j p q => ?_, fun j p q => ?_⟩ ?_ (fun k => by rw [hPf k, if_neg y2, if_pos y3]) (by omega)
        · rw [f22.1, f7.1]
          have hi := hM1.1 i p q
          simp only [upV]
          by_cases z2 : i = 8 + 5 * rf + 4
          · rw [if_pos (by omega), if_pos z2]
          · rw [if_neg (by omega), if_neg z2, hi]
        · rw [f22.2.1, f7.2.1]
          simp only [upV] at q
          rw [if_neg (by omega)] at q
          exact hM1.2.1 j p q
        · rw [f22.2.2, f7.2.2]
          simp only [upV] at q
          rw [if_neg (by omega)] at q
          exact hM1.2.2 j p q
        · simp only [upV]
          rw [if_neg (by omega)]
          exact hB1
  refine loop 601 (wFam w x1 x2 x3) _ _ (o41.up (Or.inl ⟨rfl, by decide, by decide⟩) _) (l41.up (c := 108) (by decide) 402 (w 2 + 1)) ⟨fun i p q => ?_, fun j p q => ?_, fun j p q => ?_⟩ (by rw [wf0]; exact b0) hP7 ?_
  · have hi := hM.1 i p q
    by_cases y3 : i = 2
    · subst y3
      rw [show (400 : Int) + 2 = 402 from rfl, upd2_same, wf2]
    · rw [upd2_place _ _ _ (by omega), g108]
      simp only [wFam, upV]
      rw [if_neg y3]
      repeat' split
      all_goals omega
  · rw [wf0] at q
    rw [upd2_cell _ _ _ _ (by decide), g114]
    exact hM.2.1 j p q
  · rw [wf2] at q
    rw [upd2_cell _ _ _ _ (by decide), g115]
    simp only [upV]
    by_cases z2 : j = w 2
    · rw [if_pos z2, if_pos z2]
    · rw [if_neg z2, if_neg z2]; exact hM.2.2 j p (by omega)
  · have := l41.2.2.2.2.2.2.1
    omega
end

/-! ===== the reference's reader: strips ===== -/
/-- the draft of the reference -/
def DM (D : Dm) (w : Vl) (sn fn : Row) : Prop := (∀ i, 0 ≤ i → i < 100 → D 108 (400 + i) = w i) ∧ (∀ j, 0 ≤ j → j < w 0 → D 114 j = sn j) ∧ (∀ j, 0 ≤ j → j < w 2 → D 115 j = fn j)
def rO (D D' : Dm) : Prop := ∀ c i, ¬ (c = 107 ∧ 11 ≤ i ∧ i ≤ 17 ∧ i ≠ 15) → ¬ (c = 108 ∧ 400 ≤ i ∧ i < 500) → c ≠ 114 → c ≠ 115 → D' c i = D c i
theorem rO.rf {D : Dm} : rO D D := fun _ _ _ _ _ _ => rfl
theorem rO.tr {D D1 D2 : Dm} (h : rO D D1) (h2 : rO D1 D2) : rO D D2 := fun c i p q r s => (h2 c i p q r s).trans (h c i p q r s)
theorem wO.r {D D' : Dm} (h : wO D D') : rO D D' := fun c i p _ _ _ => h c i p
theorem smO.r {D D' : Dm} (h : smO D D') : rO D D' := h.w.r
theorem rO.up {D D1 : Dm} (h : rO D D1) {c : Nat} {i : Int} (hc : (c = 108 ∧ 400 ≤ i ∧ i < 500) ∨ c = 114 ∨ c = 115) (x : Int) : rO D (upd2 D1 c i x) := fun c' i' p q r s => by
  rw [← h c' i' p q r s]; simp only [upd2]; rw [if_neg (by omega)]
def AM (T : Int → Int) (n : Int) (D D' : Dm) (r : Int) (P : Kt → Rs) : Prop := rO D D' ∧ ((r = 1 ∧ ∃ K w sn fn, lvM T n D' K ∧ DM D' w sn fn ∧ ∀ k, P k = k K w sn fn) ∨ (r = 0 ∧ ∀ k, ddM D' (P k)))
theorem sm_num {D D' : Dm} {to x : Int} (h : smO (upd2 D 108 to x) D') : D' 108 = upV (D 108) to x ∧ D' 114 = D 114 ∧ D' 115 = D 115 := by
  refine ⟨?_, ?_, ?_⟩
  · rw [h.c (by decide)]; funext i; simp only [upd2, upV]; simp
  · rw [h.c (by decide)]; funext i; rw [upd2_cell _ _ _ _ (by decide)]
  · rw [h.c (by decide)]; funext i; rw [upd2_cell _ _ _ _ (by decide)]
theorem sm_wd {D D' : Dm} (h : smO D D') : D' 108 = D 108 ∧ D' 114 = D 114 ∧ D' 115 = D 115 := ⟨h.c (by decide), h.c (by decide), h.c (by decide)⟩
section
variable {l : Launch} {E : Ev} {G : Sh} {D : Dm} {T : Int → Int} {n : Int} {K : Tk}
theorem m_strip (hL : Lay G) (hn : 0 ≤ n ∧ n ≤ 600) (hT : TB T n) (hl : lvM T n D K) (h4 : K.1 ≠ 4) {w : Vl} {sn fn : Row} (hM : DM D w sn fn) (hB : WB w) : C0 l E MX10_aStrip 0 [vR E 107] G D (fun r D' => AM T n D D' r (fun k => pStrip T n w sn fn k K)) := by
  have e0 : D 108 400 = w 0 := hM.1 0 (by decide) (by decide)
  obtain ⟨b0, b1, b2⟩ := hB
  generalize hP0 : (fun k => pStrip T n w sn fn k K) = P
  have hP : ∀ k, P k = pStrip T n w sn fn k K := fun k => by rw [← hP0]
  generalize hQ : (fun (r : Int) (G' : Sh) (D' : Dm) => G' = G ∧ AM T n D D' r P) = Q
  have dead : ∀ D', rO D D' → (∀ k, ddM D' (P k)) → Q 0 G D' := fun D' h1 h2 => by rw [← hQ]; exact ⟨rfl, h1, Or.inr ⟨rfl, h2⟩⟩
  have fail : ∀ why, why ≠ 0 → iRg why → ∀ D' K', rO D D' → lvM T n D' K' → (∀ k, P k = fl K' why) → C0 l E MX10_fails 0 [vR E 107, vI why] G D' (fun r8 D8 => (r8 = 0 ∨ r8 = 1) ∧ Q r8 G D8) := by
    intro why h0 h1 D' K' hr hl' hf
    refine C0.use (m_fails hL ⟨h0, h1⟩ hl') ?_
    rintro r D2 ⟨g1, rfl, g2⟩
    exact ⟨Or.inl rfl, dead D2 (hr.tr g1.r) (fun k => by rw [hf k]; exact g2)⟩
  suffices main : Ct l E MX10_aStrip 0 0 0 [vR E 107] G D Q by rw [← hQ] at main; exact main
  refine s_X10_aStrip hL ?_
  rw [e0]
  refine ⟨fun z => ?_, fun z => fail 5 (by decide) (by decide) D K rO.rf hl (fun k => by rw [hP k, pStrip, if_pos z])⟩
  have hP1 : ∀ k, P k = NM T n sn (w 0) (nxK T n K) (fun x0 K1 => WW T n 24948 K1 (fun K2 => NB T n 0 99 K2 (fun x1 K3 => NB T n 0 99 K3 (fun x2 K4 => WW T n 444150998387 K4 (fun K5 => NB T n 1 99 K5 (fun x3 K6 => if K6.1 = 1 ∧ K6.2.2.2 = 1936681324 then NB T n 1 3 (nxK T n K6) (fun x4 K7 => k K7 (wStrip w x1 x2 x3 x4) (upV sn (w 0) x0) fn) else k K6 (wStrip w x1 x2 x3 1) (upV sn (w 0) x0) fn)))))) := fun k => by rw [hP k, pStrip, if_neg z]
  refine C0.use (m_ahead hL hn hT hl h4) ?_
  rintro - D5 ⟨s5, l5⟩
  try dsimp only
  refine C0.use (m_isName hL hn hT l5) ?_
  rintro r D7 ⟨rfl, rfl⟩
  try dsimp only
  refine ⟨rB _, fun y => ?_, fun y => fail 2 (by decide) (by decide) _ _ s5.r l5 (fun k => ?_)⟩
  rotate_left
  · rw [hP1 k, NM, if_neg (fun q => by rw [if_pos q] at y; omega)]
  have hnm : nmOk (nxK T n K) := Classical.byContradiction (fun q => y (if_neg q))
  have hxJ := wv_J l5.2.2.2.2.2 hnm.1
  refine C0.use (m_here hL hn hT l5 hnm) ?_
  rintro x0 D11 ⟨rfl, rfl⟩
  try dsimp only
  obtain ⟨x0, hx0⟩ : ∃ x, (nxK T n K).2.2.2 = x := ⟨_, rfl⟩
  rw [hx0] at hxJ ⊢
  refine C0.use (c_X10_finds hL b0 hxJ) ?_
  rintro r D13 ⟨rfl, rfl⟩
  try dsimp only
  have hfb := fnd_b (D13 114) b0.1 x0
  have hcg : fnd (D13 114) (w 0) x0 = fnd sn (w 0) x0 := fnd_cg x0 (fun j p q => by rw [s5.c (by decide)]; exact hM.2.1 j p q)
  refine ⟨by omega, fun y2 => ?_, fun y2 => fail 3 (by decide) (by decide) _ _ s5.r l5 (fun k => ?_)⟩
  rotate_left
  · rw [hP1 k, NM, if_pos hnm, hx0, if_neg (by rw [← hcg]; exact y2)]
  have hP2 : ∀ k, P k = _ := fun k => by rw [hP1 k, NM, if_pos hnm, hx0, if_pos (by rw [← hcg]; exact y2)]
  try dsimp only at hP2
  refine C0.use (m_here hL hn hT l5 hnm) ?_
  rw [hx0]
  rintro r D17 ⟨rfl, rfl⟩
  try dsimp only
  refine ⟨⟨by omega, hxJ⟩, ?_⟩
  refine C0.use (m_ahead hL hn hT (l5.up (c := 114) (by decide) (w 0) r) (by omega)) ?_
  rintro - D19 ⟨s19, l19⟩
  try dsimp only
  have o19 : rO D D19 := (s5.r.up (Or.inr (Or.inl rfl)) _).tr s19.r
  refine C0.use (m_word hL hn hT l19 (j := 6) (by decide) (c := 24948) (by decide) rfl) ?_
  rintro r21 D21 h21
  try dsimp only
  rcases h21 with ⟨rfl, s21, l21, p21⟩ | ⟨rfl, s21, d21⟩
  rotate_left
  · exact ⟨by decide, fun _ => dead D21 (o19.tr s21.r) (fun k => by rw [hP2 k]; exact d21 _), fun q => absurd rfl q⟩
  refine ⟨by decide, fun q => absurd q (by decide), fun _ => ?_⟩
  have hP3 := fun k => (hP2 k).trans (p21 _)
  try dsimp only at hP3
  refine C0.use (m_num hL hn hT l21 (by omega) (by decide) (by decide)) ?_
  rintro r26 D26 h26
  try dsimp only
  rcases h26 with ⟨rfl, x1, bx1, s26, l26, p26⟩ | ⟨rfl, s26, d26⟩
  rotate_left
  · exact ⟨by decide, fun _ => dead D26 ((o19.tr s21.r).tr s26.r) (fun k => by rw [hP3 k]; exact d26 _), fun q => absurd rfl q⟩
  refine ⟨by decide, fun q => absurd q (by decide), fun _ => ?_⟩
  have hP4 := fun k => (hP3 k).trans (p26 _)
  try dsimp only at hP4
  have o26 : rO D D26 := ((o19.tr s21.r).up (Or.inl ⟨rfl, by omega, by omega⟩) _).tr s26.r
  refine C0.use (m_num hL hn hT l26 (by omega) (by decide) (by decide)) ?_
  rintro r31 D31 h31
  try dsimp only
  rcases h31 with ⟨rfl, x2, bx2, s31, l31, p31⟩ | ⟨rfl, s31, d31⟩
  rotate_left
  · exact ⟨by decide, fun _ => dead D31 (o26.tr s31.r) (fun k => by rw [hP4 k]; exact d31 _), fun q => absurd rfl q⟩
  refine ⟨by decide, fun q => absurd q (by decide), fun _ => ?_⟩
  have hP5 := fun k => (hP4 k).trans (p31 _)
  try dsimp only at hP5
  have o31 : rO D D31 := (o26.up (Or.inl ⟨rfl, by omega, by omega⟩) _).tr s31.r
  refine C0.use (m_word hL hn hT l31 (j := 7) (by decide) (c := 444150998387) (by decide) rfl) ?_
  rintro r36 D36 h36
  try dsimp only
  rcases h36 with ⟨rfl, s36, l36, p36⟩ | ⟨rfl, s36, d36⟩
  rotate_left
  · exact ⟨by decide, fun _ => dead D36 (o31.tr s36.r) (fun k => by rw [hP5 k]; exact d36 _), fun q => absurd rfl q⟩
  refine ⟨by decide, fun q => absurd q (by decide), fun _ => ?_⟩
  have hP6 := fun k => (hP5 k).trans (p36 _)
  try dsimp only at hP6
  have o36 := o31.tr s36.r
  refine C0.use (m_num hL hn hT l36 (by omega) (by decide) (by decide)) ?_
  rintro r41 D41 h41
  try dsimp only
  rcases h41 with ⟨rfl, x3, bx3, s41, l41, p41⟩ | ⟨rfl, s41, d41⟩
  rotate_left
  · exact ⟨by decide, fun q => absurd rfl q, fun _ => dead D41 (o36.tr s41.r) (fun k => by rw [hP6 k]; exact d41 _)⟩
  have hP7 := fun k => (hP6 k).trans (p41 _)
  try dsimp only at hP7
  have o41 : rO D D41 := (o36.up (Or.inl ⟨rfl, by omega, by omega⟩) _).tr s41.r
  have f19 : D19 108 = D 108 ∧ D19 114 = upV (D 114) (w 0) r ∧ D19 115 = D 115 := by
    refine ⟨?_, ?_, ?_⟩
    · rw [s19.c (by decide)]; funext i; rw [upd2_cell _ _ _ _ (by decide), s5.c (by decide)]
    · rw [s19.c (by decide)]; funext i; simp only [upd2, upV]; rw [s5.c (by decide)]; simp
    · rw [s19.c (by decide)]; funext i; rw [upd2_cell _ _ _ _ (by decide), s5.c (by decide)]
  have f21 := sm_wd s21
  have f26 := sm_num s26
  have f31 := sm_num s31
  have f36 := sm_wd s36
  have f41 := sm_num s41
  have g108 : D41 108 = upV (upV (upV (D 108) (408 + 5 * w 0) x1) (408 + 5 * w 0 + 1) x2) (408 + 5 * w 0 + 2) x3 := by rw [f41.1, f36.1, f31.1, f26.1, f21.1, f19.1]
  have g114 : D41 114 = upV (D 114) (w 0) r := by rw [f41.2.1, f36.2.1, f31.2.1, f26.2.1, f21.2.1, f19.2.1]
  have g115 : D41 115 = D 115 := by rw [f41.2.2, f36.2.2, f31.2.2, f26.2.2, f21.2.2, f19.2.2]
  have g400 : (upd2 (upd2 D41 108 ((408 + 5 * w 0) + 3) 1) 108 ((408 + 5 * w 0) + 4) (-1)) 108 400 = w 0 := by
    rw [upd2_place _ _ _ (by omega), upd2_place _ _ _ (by omega), g108]
    simp only [upV]
    rw [if_neg (by omega), if_neg (by omega), if_neg (by omega), e0]
  rw [g400]
  refine ⟨by decide, fun _ => ⟨⟨by omega, by omega, by omega⟩, ?_⟩, fun q => absurd q (by decide)⟩
  have l45 := ((l41.up (c := 108) (by decide) ((408 + 5 * w 0) + 3) 1).up (c := 108) (by decide) ((408 + 5 * w 0) + 4) (-1)).up (c := 108) (by decide) 400 (w 0 + 1)
  have o45 : rO D (upd2 (upd2 (upd2 D41 108 ((408 + 5 * w 0) + 3) 1) 108 ((408 + 5 * w 0) + 4) (-1)) 108 400 (w 0 + 1)) := ((o41.up (Or.inl ⟨rfl, by omega, by omega⟩) _).up (Or.inl ⟨rfl, by omega, by omega⟩) _).up (Or.inl ⟨rfl, by omega, by omega⟩) _
  generalize hX : upd2 (upd2 (upd2 D41 108 ((408 + 5 * w 0) + 3) 1) 108 ((408 + 5 * w 0) + 4) (-1)) 108 400 (w 0 + 1) = X at l45 o45
  have hM45 : ∀ x4 : Int, ∀ Y : Dm, Y 108 = upV (X 108) (408 + 5 * w 0 + 3) x4 → Y 114 = X 114 → Y 115 = X 115 → DM Y (wStrip w x1 x2 x3 x4) (upV sn (w 0) r) fn := by
    intro x4 Y y8 y14 y15
    have x8 : ∀ i, X 108 i = upV (upV (upV (D41 108) (408 + 5 * w 0 + 3) 1) (408 + 5 * w 0 + 4) (-1)) 400 (w 0 + 1) i := fun i => by rw [← hX]; simp [upd2, upV]
    have x14 : X 114 = D41 114 := by rw [← hX]; funext i; rw [upd2_cell _ _ _ _ (by decide), upd2_cell _ _ _ _ (by decide), upd2_cell _ _ _ _ (by decide)]
    have x15 : X 115 = D41 115 := by rw [← hX]; funext i; rw [upd2_cell _ _ _ _ (by decide), upd2_cell _ _ _ _ (by decide), upd2_cell _ _ _ _ (by decide)]
    refine ⟨fun i p q => ?_, fun j p q => ?_, fun j p q => ?_⟩
    · have hi := hM.1 i p q
      rw [y8]
      simp only [upV, x8, wStrip, g108]
      repeat' split
      all_goals omega
    · rw [y14, x14, g114]
      have : wStrip w x1 x2 x3 x4 0 = w 0 + 1 := by unfold wStrip; rw [if_pos rfl]
      rw [this] at q
      simp only [upV]
      by_cases z2 : j = w 0
      · rw [if_pos z2, if_pos z2]
      · rw [if_neg z2, if_neg z2]; exact hM.2.1 j p (by omega)
    · rw [y15, x15, g115]
      have : wStrip w x1 x2 x3 x4 2 = w 2 := by unfold wStrip; rw [if_neg (by decide), if_neg (by omega), if_neg (by omega), if_neg (by omega), if_neg (by omega), if_neg (by omega)]
      rw [this] at q
      exact hM.2.2 j p q
  refine C0.use (m_key hL hn hT l45) ?_
  rintro rk D45 ⟨rfl, rfl⟩
  try dsimp only
  have hkb := kOf_b (nxK T n (nxK T n (nxK T n (nxK T n (nxK T n (nxK T n (nxK T n K)))))))
  have hkw := kOf_w (K := nxK T n (nxK T n (nxK T n (nxK T n (nxK T n (nxK T n (nxK T n K))))))) (j := 8) (by decide)
  have c8 : kcL.getD 8 0 = 1936681324 := by decide
  rw [c8] at hkw
  refine ⟨by omega, fun y3 => ?_, fun y3 => ?_⟩
  · have hw8 := hkw.1 y3
    have hP8 := fun k => (hP7 k).trans (if_pos hw8)
    refine C0.use (m_ahead hL hn hT l45 (by omega)) ?_
    rintro - D49 ⟨s49, l49⟩
    try dsimp only
    refine C0.use (m_num hL hn hT l49 (by omega) (by decide) (by decide)) ?_
    rintro r51 D51 h51
    try dsimp only
    rcases h51 with ⟨rfl, x4, bx4, s51, l51, p51⟩ | ⟨rfl, s51, d51⟩
    · refine ⟨Or.inr rfl, ?_⟩
      rw [← hQ]
      have f51 := sm_num s51
      have f49 := sm_wd s49
      refine ⟨rfl, (((o45.tr s49.r).up (Or.inl ⟨rfl, by omega, by omega⟩) _).tr s51.r), Or.inl ⟨rfl, _, _, _, _, l51, hM45 x4 D51 (by rw [f51.1, f49.1]) (by rw [f51.2.1, f49.2.1]) (by rw [f51.2.2, f49.2.2]), fun k => (hP8 k).trans (p51 _)⟩⟩
    · exact ⟨Or.inl rfl, dead D51 ((o45.tr s49.r).tr s51.r) (fun k => by rw [hP8 k]; exact d51 _)⟩
  · rw [← hQ]
    refine ⟨rfl, o45, Or.inl ⟨rfl, _, _, _, _, l45, hM45 1 D45 ?_ rfl rfl, fun k => (hP7 k).trans (if_neg (fun q => y3 (hkw.2 q)))⟩⟩
    funext i
    simp only [upV]
    by_cases z2 : i = 408 + 5 * w 0 + 3
    · rw [if_pos z2, ← hX, z2, upd2_place _ _ _ (by omega), upd2_place _ _ _ (by omega), upd2_same]
    · rw [if_neg z2]
end

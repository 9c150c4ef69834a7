/-! ===== the reference's reader: harms ===== -/
section
variable {l : Launch} {E : Ev} {G : Sh} {D : Dm} {T : Int → Int} {n : Int} {K : Tk}
theorem m_htail (hL : Lay G) (hn : 0 ≤ n ∧ n ≤ 600) (hT : TB T n) {w : Vl} {sn fn : Row} (hM : DM D w sn fn) (hB : WB w) (hlt : w 1 ≠ 6) {P : Kt → Rs} {Q : Int → Sh → Dm → Prop} (hQ : (fun (r : Int) (G' : Sh) (D' : Dm) => G' = G ∧ AM T n D D' r P) = Q) {kd a b : Int} {D3 : Dm} (hl : lvM T n D3 K) (ho : rO D D3) (h8 : ∀ i, 0 ≤ i → i < 100 → D3 108 (400 + i) = if i = 58 + 5 * w 1 then kd else if i = 58 + 5 * w 1 + 1 then a else if i = 58 + 5 * w 1 + 2 then b else w i) (h14 : D3 114 = D 114) (h15 : D3 115 = D 115) (hP : ∀ k, P k = hTail T n w sn fn k kd a b K) :
    C0 l E MX10_wantWord 0 [vR E 107, vI 12] G D3 (fun r19 D19 => (-2147483648 ≤ r19 ∧ r19 < 2147483648) ∧ ((r19 = 0 → Q 0 G D19) ∧ (r19 ≠ 0 → C0 l E MX10_number 0 [vR E 107, vI ((458 + (5 * w 1)) + 3), vI 0, vI 8] G D19 (fun r24 D24 => (-2147483648 ≤ r24 ∧ r24 < 2147483648) ∧ ((r24 = 0 → Q 0 G D24) ∧ (r24 ≠ 0 → C0 l E MX10_wantWord 0 [vR E 107, vI 13] G D24 (fun r29 D29 => (-2147483648 ≤ r29 ∧ r29 < 2147483648) ∧ ((r29 = 0 → Q 0 G D29) ∧ (r29 ≠ 0 → C0 l E MX10_number 0 [vR E 107, vI ((458 + (5 * w 1)) + 4), vI 0, vI 16] G D29 (fun r34 D34 => (-2147483648 ≤ r34 ∧ r34 < 2147483648) ∧ ((r34 ≠ 0 → (-2147483648 ≤ D34 108 401 + 1 ∧ D34 108 401 + 1 < 2147483648) ∧ Q 1 G (upd2 D34 108 401 (D34 108 401 + 1))) ∧ (r34 = 0 → Q 0 G D34)))))))))))) := by
  obtain ⟨b0, b1, b2⟩ := hB
  have dead : ∀ D', rO D D' → (∀ k, ddM D' (P k)) → Q 0 G D' := fun D' h1 h2 => by rw [← hQ]; exact ⟨rfl, h1, Or.inr ⟨rfl, h2⟩⟩
  refine C0.use (m_word hL hn hT hl (j := 12) (by decide) (c := 499850634611) (by decide) rfl) ?_
  rintro r21 D21 h21
  try dsimp only
  rcases h21 with ⟨rfl, s21, l21, p21⟩ | ⟨rfl, s21, d21⟩
  rotate_left
  · exact ⟨by decide, fun _ => dead D21 (ho.tr s21.r) (fun k => by rw [hP k]; exact d21 _), fun q => absurd rfl q⟩
  refine ⟨by decide, fun q => absurd q (by decide), fun _ => ?_⟩
  have hP3 := fun k => (hP k).trans (p21 _)
  try dsimp only at hP3
  have o21 := ho.tr s21.r
  refine C0.use (m_num hL hn hT l21 (by omega) (by decide) (by decide)) ?_
  rintro r26 D26 h26
  try dsimp only
  rcases h26 with ⟨rfl, t, bx1, s26, l26, p26⟩ | ⟨rfl, s26, d26⟩
  rotate_left
  · exact ⟨by decide, fun _ => dead D26 (o21.tr s26.r) (fun k => by rw [hP3 k]; exact d26 _), fun q => absurd rfl q⟩
  refine ⟨by decide, fun q => absurd q (by decide), fun _ => ?_⟩
  have hP4 := fun k => (hP3 k).trans (p26 _)
  try dsimp only at hP4
  have o26 : rO D D26 := (o21.up (Or.inl ⟨rfl, by omega, by omega⟩) _).tr s26.r
  refine C0.use (m_word hL hn hT l26 (j := 13) (by decide) (c := 1868850291) (by decide) rfl) ?_
  rintro r36 D36 h36
  try dsimp only
  rcases h36 with ⟨rfl, s36, l36, p36⟩ | ⟨rfl, s36, d36⟩
  rotate_left
  · exact ⟨by decide, fun _ => dead D36 (o26.tr s36.r) (fun k => by rw [hP4 k]; exact d36 _), fun q => absurd rfl q⟩
  refine ⟨by decide, fun q => absurd q (by decide), fun _ => ?_⟩
  have hP5 := fun k => (hP4 k).trans (p36 _)
  try dsimp only at hP5
  have o36 := o26.tr s36.r
  refine C0.use (m_num hL hn hT l36 (by omega) (by decide) (by decide)) ?_
  rintro r41 D41 h41
  try dsimp only
  rcases h41 with ⟨rfl, o, bx3, s41, l41, p41⟩ | ⟨rfl, s41, d41⟩
  rotate_left
  · exact ⟨by decide, fun q => absurd rfl q, fun _ => dead D41 (o36.tr s41.r) (fun k => by rw [hP5 k]; exact d41 _)⟩
  have hP6 := fun k => (hP5 k).trans (p41 _)
  try dsimp only at hP6
  have o41 : rO D D41 := (o36.up (Or.inl ⟨rfl, by omega, by omega⟩) _).tr s41.r
  have f21 := sm_wd s21
  have f26 := sm_num s26
  have f36 := sm_wd s36
  have f41 := sm_num s41
  have g108 : D41 108 = upV (upV (D3 108) (458 + 5 * w 1 + 3) t) (458 + 5 * w 1 + 4) o := by rw [f41.1, f36.1, f26.1, f21.1]
  have g114 : D41 114 = D 114 := by rw [f41.2.1, f36.2.1, f26.2.1, f21.2.1, h14]
  have g115 : D41 115 = D 115 := by rw [f41.2.2, f36.2.2, f26.2.2, f21.2.2, h15]
  have e401 : D3 108 401 = w 1 := by
    have := h8 1 (by decide) (by decide)
    rw [if_neg (by omega), if_neg (by omega), if_neg (by omega)] at this
    exact this
  have g401 : D41 108 401 = w 1 := by
    rw [g108]
    simp only [upV]
    rw [if_neg (by omega), if_neg (by omega), e401]
  rw [g401]
  refine ⟨by decide, fun _ => ⟨by omega, ?_⟩, fun q => absurd q (by decide)⟩
  rw [← hQ]
  refine ⟨rfl, o41.up (Or.inl ⟨rfl, by decide, by decide⟩) _, Or.inl ⟨rfl, _, wHarm w kd a b t o, sn, fn, l41.up (c := 108) (by decide) 401 (w 1 + 1), ⟨fun i p q => ?_, fun j p q => ?_, fun j p q => ?_⟩, hP6⟩⟩
  · have hi := h8 i p q
    by_cases y : i = 1
    · subst y
      rw [show (400 : Int) + 1 = 401 from rfl, upd2_same]; unfold wHarm; rw [if_pos rfl]
    · rw [upd2_place _ _ _ (by omega), g108]
      simp only [wHarm, upV]
      rw [if_neg y]
      repeat' split
      all_goals (first | omega | (repeat' split at hi) <;> omega)
  · have : wHarm w kd a b t o 0 = w 0 := by unfold wHarm; rw [if_neg (by decide), if_neg (by omega), if_neg (by omega), if_neg (by omega), if_neg (by omega), if_neg (by omega)]
    rw [this] at q
    rw [upd2_cell _ _ _ _ (by decide), g114]
    exact hM.2.1 j p q
  · have : wHarm w kd a b t o 2 = w 2 := by unfold wHarm; rw [if_neg (by decide), if_neg (by omega), if_neg (by omega), if_neg (by omega), if_neg (by omega), if_neg (by omega)]
    rw [this] at q
    rw [upd2_cell _ _ _ _ (by decide), g115]
    exact hM.2.2 j p q
theorem m_harm (hL : Lay G) (hn : 0 ≤ n ∧ n ≤ 600) (hT : TB T n) (hl : lvM T n D K) (h4 : K.1 ≠ 4) {w : Vl} {sn fn : Row} (hM : DM D w sn fn) (hB : wfD w) {kd : Int} (hkd : 0 ≤ kd ∧ kd ≤ 3) : C0 l E MX10_aHarm 0 [vR E 107, vI kd] G D (fun r D' => AM T n D D' r (fun k => pHarm T n w sn fn k kd K)) := by
  have e1 : D 108 401 = w 1 := hM.1 1 (by decide) (by decide)
  obtain ⟨b0, b1, b2⟩ := hB.b
  generalize hP0 : (fun k => pHarm T n w sn fn k kd K) = P
  have hP : ∀ k, P k = pHarm T n w sn fn k kd K := fun k => by rw [← hP0]
  generalize hQ : (fun (r : Int) (G' : Sh) (D' : Dm) => G' = G ∧ AM T n D D' r P) = Q
  have dead : ∀ D', rO D D' → (∀ k, ddM D' (P k)) → Q 0 G D' := fun D' h1 h2 => by rw [← hQ]; exact ⟨rfl, h1, Or.inr ⟨rfl, h2⟩⟩
  suffices main : Ct l E MX10_aHarm 0 0 0 [vR E 107, vI kd] G D Q by rw [← hQ] at main; exact main
  refine s_X10_aHarm hL ?_
  rw [e1]
  refine ⟨fun z => ?_, fun z => ?_⟩
  rotate_left
  · refine C0.use (m_fails hL (why := 5) (by decide) hl) ?_
    rintro r D2 ⟨g1, rfl, g2⟩
    exact ⟨Or.inl rfl, dead D2 g1.r (fun k => by rw [hP k, pHarm, if_pos z]; exact g2)⟩
  have hz := hB.2 (w 1) (Int.le_refl _) (by omega)
  have hP1 : ∀ k, P k = _ := fun k => (hP k).trans (by rw [pHarm, if_neg z])
  refine C0.use (m_ahead hL hn hT hl h4) ?_
  rintro - D5 ⟨s5, l5⟩
  try dsimp only
  refine ⟨⟨by omega, by omega⟩, ?_⟩
  have f5 := sm_wd s5
  have l6 := l5.up (c := 108) (by decide) (458 + 5 * w 1) kd
  have o6 : rO D (upd2 D5 108 (458 + 5 * w 1) kd) := s5.r.up (Or.inl ⟨rfl, by omega, by omega⟩) _
  have h6 : (upd2 D5 108 (458 + 5 * w 1) kd) 108 = upV (D 108) (458 + 5 * w 1) kd := by rw [← f5.1]; funext i; simp [upd2, upV]
  have h6b : (upd2 D5 108 (458 + 5 * w 1) kd) 114 = D 114 := by rw [← f5.2.1]; funext i; rw [upd2_cell _ _ _ _ (by decide)]
  have h6c : (upd2 D5 108 (458 + 5 * w 1) kd) 115 = D 115 := by rw [← f5.2.2]; funext i; rw [upd2_cell _ _ _ _ (by decide)]
  generalize upd2 D5 108 (458 + 5 * w 1) kd = D6 at l6 o6 h6 h6b h6c
  -- one number, then the tail
  have one : ∀ a0 a1 : Int, iRg a0 → iRg a1 → (∀ k, P k = NB T n a0 a1 (nxK T n K) (fun a K2 => hTail T n w sn fn k kd a 0 K2)) → C0 l E MX10_number 0 [vR E 107, vI ((458 + (5 * w 1)) + 1), vI a0, vI a1] G D6 (fun r15 D15 => (-2147483648 ≤ r15 ∧ r15 < 2147483648) ∧ ((r15 ≠ 0 → C0 l E MX10_wantWord 0 [vR E 107, vI 12] G D15 (fun r19 D19 => (-2147483648 ≤ r19 ∧ r19 < 2147483648) ∧ ((r19 = 0 → Q 0 G D19) ∧ (r19 ≠ 0 → C0 l E MX10_number 0 [vR E 107, vI ((458 + (5 * w 1)) + 3), vI 0, vI 8] G D19 (fun r24 D24 => (-2147483648 ≤ r24 ∧ r24 < 2147483648) ∧ ((r24 = 0 → Q 0 G D24) ∧ (r24 ≠ 0 → C0 l E MX10_wantWord 0 [vR E 107, vI 13] G D24 (fun r29 D29 => (-2147483648 ≤ r29 ∧ r29 < 2147483648) ∧ ((r29 = 0 → Q 0 G D29) ∧ (r29 ≠ 0 → C0 l E MX10_number 0 [vR E 107, vI ((458 + (5 * w 1)) + 4), vI 0, vI 16] G D29 (fun r34 D34 => (-2147483648 ≤ r34 ∧ r34 < 2147483648) ∧ ((r34 ≠ 0 → (-2147483648 ≤ D34 108 401 + 1 ∧ D34 108 401 + 1 < 2147483648) ∧ Q 1 G (upd2 D34 108 401 (D34 108 401 + 1))) ∧ (r34 = 0 → Q 0 G D34))))))))))))) ∧ (r15 = 0 → Q 0 G D15))) := by
    intro a0 a1 ha0 ha1 hPn
    refine C0.use (m_num hL hn hT l6 (by omega) ha0 ha1) ?_
    rintro r26 D26 h26
    try dsimp only
    rcases h26 with ⟨rfl, a, bx1, s26, l26, p26⟩ | ⟨rfl, s26, d26⟩
    rotate_left
    · exact ⟨by decide, fun q => absurd rfl q, fun _ => dead D26 (o6.tr s26.r) (fun k => by rw [hPn k]; exact d26 _)⟩
    have f26 := sm_num s26
    refine ⟨by decide, fun _ => ?_, fun q => absurd q (by decide)⟩
    refine m_htail hL hn hT hM hB.b z hQ (kd := kd) (a := a) (b := 0) l26 ((o6.up (Or.inl ⟨rfl, by omega, by omega⟩) _).tr s26.r) (fun i p q => ?_) (f26.2.1.trans h6b) (f26.2.2.trans h6c) (fun k => (hPn k).trans (p26 _))
    have hi := hM.1 i p q
    rw [f26.1, h6]
    simp only [upV]
    by_cases y : i = 58 + 5 * w 1 + 2
    · rw [if_neg (by omega), if_neg (by omega), if_neg (by omega), if_neg (by omega), if_pos y, hi, y]; exact hz.2
    · repeat' split
      all_goals omega
  rcases (show kd = 0 ∨ kd = 1 ∨ kd = 2 ∨ kd = 3 by omega) with rfl | rfl | rfl | rfl
  · refine ⟨fun q => absurd rfl q, fun _ => ?_⟩
    have hP2 : ∀ k, P k = _ := fun k => (hP1 k).trans (if_pos rfl)
    refine C0.use (m_num hL hn hT l6 (by omega) (by decide) (by decide)) ?_
    rintro r26 D26 h26
    try dsimp only
    rcases h26 with ⟨rfl, a, bx1, s26, l26, p26⟩ | ⟨rfl, s26, d26⟩
    rotate_left
    · exact ⟨by decide, fun _ => dead D26 (o6.tr s26.r) (fun k => by rw [hP2 k]; exact d26 _), fun q => absurd rfl q⟩
    refine ⟨by decide, fun q => absurd q (by decide), fun _ => ?_⟩
    have hP4 := fun k => (hP2 k).trans (p26 _)
    try dsimp only at hP4
    have o26 : rO D D26 := (o6.up (Or.inl ⟨rfl, by omega, by omega⟩) _).tr s26.r
    have f26 := sm_num s26
    refine C0.use (m_word hL hn hT l26 (j := 9) (by decide) (c := 29807) (by decide) rfl) ?_
    rintro r36 D36 h36
    try dsimp only
    rcases h36 with ⟨rfl, s36, l36, p36⟩ | ⟨rfl, s36, d36⟩
    rotate_left
    · exact ⟨by decide, fun _ => dead D36 (o26.tr s36.r) (fun k => by rw [hP4 k]; exact d36 _), fun q => absurd rfl q⟩
    refine ⟨by decide, fun q => absurd q (by decide), fun _ => ⟨by omega, ?_⟩⟩
    have hP5 := fun k => (hP4 k).trans (p36 _)
    try dsimp only at hP5
    have o36 := o26.tr s36.r
    have f36 := sm_wd s36
    have ea : D36 108 ((458 + (5 * w 1)) + 1) = a := by
      rw [f36.1, f26.1]; simp only [upV]; rw [if_pos trivial]
    rw [ea]
    refine C0.use (m_num hL hn hT l36 (by omega) (by omega) (by decide)) ?_
    rintro r41 D41 h41
    try dsimp only
    rcases h41 with ⟨rfl, b, bx3, s41, l41, p41⟩ | ⟨rfl, s41, d41⟩
    rotate_left
    · exact ⟨by decide, fun q => absurd rfl q, fun _ => dead D41 (o36.tr s41.r) (fun k => by rw [hP5 k]; exact d41 _)⟩
    have f41 := sm_num s41
    refine ⟨by decide, fun _ => ⟨fun q => absurd q (by decide), fun _ => ⟨fun _ => ?_, fun q => absurd q (by decide)⟩⟩, fun q => absurd q (by decide)⟩
    refine m_htail hL hn hT hM hB.b z hQ (kd := 0) (a := a) (b := b) l41 ((o36.up (Or.inl ⟨rfl, by omega, by omega⟩) _).tr s41.r) (fun i p q => ?_) (by rw [f41.2.1, f36.2.1, f26.2.1, h6b]) (by rw [f41.2.2, f36.2.2, f26.2.2, h6c]) (fun k => (hP5 k).trans (p41 _))
    have hi := hM.1 i p q
    rw [f41.1, f36.1, f26.1, h6]
    simp only [upV]
    repeat' split
    all_goals omega
  · refine ⟨fun _ => ⟨fun _ => ⟨fun q => absurd rfl q, fun _ => ⟨fun q => absurd rfl q, fun _ => ?_⟩⟩, fun q => absurd rfl q⟩, fun q => absurd q (by decide)⟩
    exact one 0 99 (by decide) (by decide) (fun k => (hP1 k).trans (by rw [if_neg (by decide), if_pos rfl]))
  · refine ⟨fun _ => ⟨fun q => absurd q (by decide), fun _ => ⟨fun q => absurd rfl q, fun _ => ⟨fun _ => ⟨fun _ => ?_, fun q => absurd q (by decide)⟩, fun q => absurd q (by decide)⟩⟩⟩, fun q => absurd q (by decide)⟩
    exact one 1 3 (by decide) (by decide) (fun k => (hP1 k).trans (by rw [if_neg (by decide), if_neg (by decide), if_pos rfl]))
  · refine ⟨fun _ => ⟨fun q => absurd q (by decide), fun _ => ⟨fun _ => ?_, fun q => absurd q (by decide)⟩⟩, fun q => absurd q (by decide)⟩
    refine m_htail hL hn hT hM hB.b z hQ (kd := 3) (a := 0) (b := 0) l6 o6 (fun i p q => ?_) h6b h6c (fun k => (hP1 k).trans (by rw [if_neg (by decide), if_neg (by decide), if_neg (by decide)]))
    have hi := hM.1 i p q
    rw [h6]
    simp only [upV]
    by_cases y : i = 58 + 5 * w 1 + 2
    · rw [if_neg (by omega), if_neg (by omega), if_neg (by omega), if_pos y, hi, y]; exact hz.2
    · by_cases y2 : i = 58 + 5 * w 1 + 1
      · rw [if_neg (by omega), if_neg (by omega), if_pos y2, hi, y2]; exact hz.1
      · repeat' split
        all_goals omega
end

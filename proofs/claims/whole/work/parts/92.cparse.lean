/-! ===== the class reads a village ===== -/
def fOn (D : Dm) (h s : Int) : Bool := if D 31 h = 0 then decide (D 40 h ≤ D 26 s ∧ D 26 s ≤ D 41 h) else if D 31 h = 1 then decide (D 27 s < D 40 h) else if D 31 h = 2 then decide (D 29 s = D 40 h) else true
/-- the draft as a village, its pace and hunger aside -/
def CVd (w : Vl) (D : Dm) : Prop := (D 25 0 = w 0 ∧ D 25 1 = w 1 ∧ D 25 2 = w 2)
  ∧ (∀ s, 0 ≤ s → s < w 0 → D 26 s = w ((8 + (5 * s)) + 0) ∧ D 27 s = w ((8 + (5 * s)) + 1) ∧ D 28 s = w ((8 + (5 * s)) + 2) ∧ D 29 s = w ((8 + (5 * s)) + 3) ∧ D 30 s = w ((8 + (5 * s)) + 4))
  ∧ (∀ h, 0 ≤ h → h < w 1 → (D 31 h = w ((58 + (5 * h)) + 0) ∧ D 32 h = w ((58 + (5 * h)) + 3) ∧ D 34 h = ((fallN w h : Nat) : Int)) ∧ D 33 h = w ((58 + (5 * h)) + 4))
  ∧ (∀ f, 0 ≤ f → f < w 2 → D 35 f = w ((88 + (3 * f)) + 0) ∧ D 36 f = w ((88 + (3 * f)) + 1) ∧ D 37 f = w ((88 + (3 * f)) + 2))
section
variable {l : Launch} {E : Ev} {G : Sh} {D : Dm} {T : Int → Int} {n : Int} {v : Vl} {a : Ans}
theorem ok40 {D : Dm} (hL : Lay G) (h : okD G D) (i : Int) : iRg (D 40 i) ∧ iRg (D 41 i) ∧ iRg (D 31 i) := ⟨h 40 _ i (hL.1 40 _ rfl), h 41 _ i (hL.1 41 _ rfl), h 31 _ i (hL.1 31 _ rfl)⟩
theorem c_X8_fallen (hL : Lay G) {h : Int} (hB : BD D) (hh : 0 ≤ h ∧ h < 6) : C0 l E MX8_stripsFallenOn 0 [vR E 25, vI h, vI (D 40 h), vI (D 41 h)] G D (fun r D' => r = (setN (fOn D h) (D 25 0).toNat : Nat) ∧ D' = D) := by
  refine Ct.ok (fun hok => ?_)
  obtain ⟨r40, r41, r31⟩ := ok40 hL hok h
  have hb := hB.1
  refine s_X8_stripsFallenOn hL ?_
  refine up_from (P := fun i => KX8_stripsFallenOn l E _ 6 [(0, vR E 25), (1, vI h), (2, vI (D 40 h)), (3, vI (D 41 h)), (4, vI (setN (fOn D h) i.toNat : Nat)), (5, vI i)] G D) (lo := 0) (n := D 25 0) hb.1 ?_ ?_
  · exact s_X8_stripsFallenOn_6 hL ⟨by omega, fun _ => ⟨rfl, rfl, rfl⟩, fun z => absurd z (by omega)⟩
  · intro i i0 i1 ih
    rw [setN_s _ i0] at ih
    have hf : C0 l E MX8_fallsOn 0 [vR E 25, vI (D 31 h), vI (D 40 h), vI (D 41 h), vI i] G D (fun r D' => r = (if fOn D h i then 1 else 0) ∧ D' = D) := by
      refine s_X8_fallsOn hL ⟨r31, fun z => ⟨⟨by omega, r40⟩, fun y => ⟨rfl, ?_, rfl⟩, fun y => ⟨r41, fun y2 => ⟨rfl, ?_, rfl⟩, fun y2 => ⟨rfl, ?_, rfl⟩⟩⟩, fun z => ⟨⟨by omega, r40⟩, fun y => ⟨rfl, ?_, rfl⟩, fun y => ⟨rfl, ?_, rfl⟩⟩, fun z => ⟨⟨by omega, r40⟩, fun y => ⟨rfl, ?_, rfl⟩, fun y => ⟨rfl, ?_, rfl⟩⟩, fun z => ⟨rfl, ?_, rfl⟩⟩
      · unfold fOn; rw [if_pos z, if_neg (by simp only [decide_eq_true_eq]; omega)]
      · unfold fOn; rw [if_pos z, if_neg (by simp only [decide_eq_true_eq]; omega)]
      · unfold fOn; rw [if_pos z, if_pos (by simp only [decide_eq_true_eq]; omega)]
      · have e : fOn D h i = decide (D 27 i < D 40 h) := by unfold fOn; rw [if_neg (show ¬ D 31 h = 0 by omega), if_pos z]
        rw [e, if_neg (by simp only [decide_eq_true_eq]; omega)]
      · have e : fOn D h i = decide (D 27 i < D 40 h) := by unfold fOn; rw [if_neg (show ¬ D 31 h = 0 by omega), if_pos z]
        rw [e, if_pos (by simp only [decide_eq_true_eq]; omega)]
      · have e : fOn D h i = decide (D 29 i = D 40 h) := by unfold fOn; rw [if_neg (show ¬ D 31 h = 0 by omega), if_neg (show ¬ D 31 h = 1 by omega), if_pos z]
        rw [e, if_neg (by simp only [decide_eq_true_eq]; omega)]
      · have e : fOn D h i = decide (D 29 i = D 40 h) := by unfold fOn; rw [if_neg (show ¬ D 31 h = 0 by omega), if_neg (show ¬ D 31 h = 1 by omega), if_pos z]
        rw [e, if_pos (by simp only [decide_eq_true_eq]; omega)]
      · have e : fOn D h i = true := by unfold fOn; rw [if_neg (show ¬ D 31 h = 0 by omega), if_neg (show ¬ D 31 h = 1 by omega), if_neg (show ¬ D 31 h = 2 by omega)]
        rw [e]; rfl
    refine s_X8_stripsFallenOn_6 hL ⟨by omega, fun z => absurd z (by omega), fun _ => ⟨hh, ?_⟩⟩
    refine C0.use hf ?_
    rintro r D1 ⟨rfl, rfl⟩
    try dsimp only
    refine ⟨rB _, fun z => ?_, fun z => ?_⟩
    · rw [if_neg (fun q => by rw [if_pos q] at z; omega)] at ih
      exact ih
    · rw [if_pos (Classical.byContradiction (fun q => by rw [if_neg q] at z; exact z rfl))] at ih
      rw [setN_or (by omega)]
      exact ih
theorem fOn_falls {w : Vl} {sn fn : Row} (hC : CD D w sn fn) (hw : wfV w) {h : Int} (hh : 0 ≤ h ∧ h < w 1) : setN (fOn D h) (D 25 0).toNat = fallN w h := by
  have hS := wfS hw
  rw [hC.1.1]
  unfold fallN
  apply Nat.eq_of_testBit_eq
  intro s
  rw [setN_bit, setN_bit]
  by_cases q : s < (w 0).toNat
  · have hs := hC.2.1 s (by omega) (by omega)
    obtain ⟨⟨a1, a2, a3⟩, a4, a5⟩ := hC.2.2.1 h hh.1 hh.2
    have hwh := wfh hw hh.1 hh.2
    have : fOn D h s = decide (fallsP w h s) := by
      unfold fOn
      rw [a1, hs.1.1, hs.1.2.1, hs.1.2.2.2.1]
      by_cases z0 : w ((58 + (5 * h)) + 0) = 0
      · rw [if_pos z0, a4 (by omega), a5 z0]
        apply decide_eq_decide.2
        unfold fallsP
        omega
      · rw [if_neg z0]
        by_cases z1 : w ((58 + (5 * h)) + 0) = 1
        · rw [if_pos z1, a4 (by omega)]
          apply decide_eq_decide.2
          unfold fallsP
          omega
        · rw [if_neg z1]
          by_cases z2 : w ((58 + (5 * h)) + 0) = 2
          · rw [if_pos z2, a4 (by omega)]
            apply decide_eq_decide.2
            unfold fallsP
            omega
          · rw [if_neg z2]
            have : fallsP w h s := by unfold fallsP; omega
            rw [decide_eq_true this]
    rw [this]
  · rw [decide_eq_false q, Bool.false_and, Bool.false_and]
theorem c_X6_parse (hL : Lay G) (hF : 0 ≤ D 23 1 ∧ D 23 1 ≤ 600) (hn : 0 ≤ n ∧ n ≤ D 23 1) (hT : D 24 = T) {w0 : Vl} {sn0 fn0 : Row} (hw0 : wfD w0) (hz : w0 0 = 0 ∧ w0 1 = 0 ∧ w0 2 = 0) : C0 l E MX6_parse 0 [vR E 23, vI n] G D (fun r D' => pO D D' ∧ ((∃ w, pAll T n 601 w0 sn0 fn0 (tokS T n 0) = .inr w ∧ r = 1 ∧ wfV w ∧ kp w0 w ∧ D' 23 3 = 0 ∧ D' 23 4 = -1 ∧ CVd w D') ∨ (pAll T n 601 w0 sn0 fn0 (tokS T n 0) = .inl (D' 23 3, D' 23 4) ∧ r = 0 ∧ D' 23 3 ≠ 0))) := by
  have hn' : 0 ≤ n ∧ n ≤ 600 := by omega
  generalize hQ : (fun (r : Int) (G' : Sh) (D' : Dm) => G' = G ∧ pO D D' ∧ ((∃ w, pAll T n 601 w0 sn0 fn0 (tokS T n 0) = .inr w ∧ r = 1 ∧ wfV w ∧ kp w0 w ∧ D' 23 3 = 0 ∧ D' 23 4 = -1 ∧ CVd w D') ∨ (pAll T n 601 w0 sn0 fn0 (tokS T n 0) = .inl (D' 23 3, D' 23 4) ∧ r = 0 ∧ D' 23 3 ≠ 0))) = Q
  have main : Ct l E MX6_parse 0 0 0 [vR E 23, vI n] G D Q := by
    refine s_X6_parse hL ?_
    rw [Int.min_eq_left hn.2]
    refine ⟨by omega, ?_⟩
    -- the harms' strips at the end
    have last : ∀ (D' : Dm), pO D D' → BD D' → ((∃ w sn fn, pAll T n 601 w0 sn0 fn0 (tokS T n 0) = .inr w ∧ wfV w ∧ kp w0 w ∧ D' 23 3 = 0 ∧ D' 23 4 = -1 ∧ CD D' w sn fn) ∨ (pAll T n 601 w0 sn0 fn0 (tokS T n 0) = .inl (D' 23 3, D' 23 4) ∧ D' 23 3 ≠ 0)) → KX6_parse l E Q 107 [(0, vR E 23), (1, vI n), (2, vI 0)] G D' := by
      intro D' hp hB hcase
      refine up_from (P := fun h => ∀ X : Dm, (∀ c, c ≠ 34 → X c = D' c) → (∀ j, 0 ≤ j → j < h → X 34 j = (setN (fOn D' j) (D' 25 0).toNat : Nat)) → KX6_parse l E Q 107 [(0, vR E 23), (1, vI n), (2, vI h)] G X) (lo := 0) (n := D' 25 1) hB.2.1.1 ?_ ?_ D' (fun _ _ => rfl) (fun j p q => by omega)
      · intro X hX h34
        have x23 : X 23 = D' 23 := hX 23 (by decide)
        have hpX : pO D X := fun c i p q r => by rw [hX c (fun z => r (by omega))]; exact hp c i p q r
        have hb1 := hB.2.1
        refine s_X6_parse_107 hL ?_
        rw [hX 25 (by decide), x23]
        refine ⟨by omega, fun _ => ⟨fun z => ?_, fun z => ?_⟩, fun z => absurd z (by omega)⟩
        · rw [← hQ]
          refine ⟨rfl, hpX, Or.inr ?_⟩
          rw [x23]
          rcases hcase with ⟨w, sn, fn, _, _, _, q, _⟩ | ⟨q1, q2⟩
          · exact absurd q z
          · exact ⟨q1, rfl, q2⟩
        · rw [← hQ]
          refine ⟨rfl, hpX, Or.inl ?_⟩
          rw [x23]
          rcases hcase with ⟨w, sn, fn, q1, q2, q3, q4, q5, hC⟩ | ⟨_, q⟩
          · refine ⟨w, q1, rfl, q2, q3, q4, q5, ?_, fun s s0 s1 => ?_, fun h h0 h1 => ?_, fun f f0 f1 => ?_⟩
            · rw [hX 25 (by decide)]; exact hC.1
            · rw [hX 26 (by decide), hX 27 (by decide), hX 28 (by decide), hX 29 (by decide), hX 30 (by decide)]; exact (hC.2.1 s s0 s1).1
            · have hh := hC.2.2.1 h h0 h1
              rw [hX 31 (by decide), hX 32 (by decide), hX 33 (by decide), h34 h h0 (by rw [hC.1.2.1]; exact h1), fOn_falls hC q2 ⟨h0, h1⟩]
              exact ⟨⟨hh.1.1, hh.1.2.1, rfl⟩, hh.1.2.2⟩
            · rw [hX 35 (by decide), hX 36 (by decide), hX 37 (by decide)]; exact (hC.2.2.2 f f0 f1).1
          · exact absurd z q
      · intro h h0 h1 ih X hX h34
        have x25 : X 25 = D' 25 := hX 25 (by decide)
        have hb1 := hB.2.1
        have hb0 := hB.1
        have ef : ∀ s, fOn X h s = fOn D' h s := fun s => by unfold fOn; rw [hX 31 (by decide), hX 40 (by decide), hX 26 (by decide), hX 41 (by decide), hX 27 (by decide), hX 29 (by decide)]
        refine s_X6_parse_107 hL ⟨by omega, fun z => absurd z (by rw [x25]; omega), fun _ => ⟨by omega, ?_⟩⟩
        refine C0.use (c_X8_fallen hL (D := X) (h := h) (by unfold BD; rw [x25]; exact hB) (by omega)) ?_
        rintro r D2 ⟨rfl, rfl⟩
        try dsimp only
        have hle := setN_le (p := fOn D2 h) (n := (D2 25 0).toNat) (by rw [x25]; omega)
        refine ⟨by omega, ih _ (fun c hc => ?_) (fun j p q => ?_)⟩
        · funext i; rw [upd2_cell _ _ _ _ hc, hX c hc]
        · by_cases z : j = h
          · subst z
            rw [upd2_same, x25, funext ef]
          · rw [upd2_place _ _ _ z]; exact h34 j p (by omega)
    -- the parts
    have loop : ∀ (m : Nat) (w : Vl) (sn fn : Row) (K : Tk) (D' : Dm) (pt : Int), pO D D' → BD D' → lvC T n D' K → CD D' w sn fn → wfD w → kp w0 w → pAll T n m w sn fn K = pAll T n 601 w0 sn0 fn0 (tokS T n 0) → n - K.2.1 < m → 0 ≤ pt ∧ pt ≤ K.2.1 → KX6_parse l E Q 40 [(0, vR E 23), (1, vI n), (2, vI pt)] G D' := by
      intro m
      induction m with
      | zero =>
        intro w sn fn K D' pt hp hB hl hC hw hk he hf hpt
        have := hl.2.2.2.2.2.2.1
        omega
      | succ m ih =>
        intro w sn fn K D' pt hp hB hl hC hw hk he hf hpt
        have hKo := hl.2.2.2.2.2
        have hs := hKo.2.1
        have e7 : D' 23 7 = K.1 := hl.2.2.2.2.1.1
        have s0 := sees_iff hl (j := 0) (by decide)
        have s5 := sees_iff hl (j := 5) (by decide)
        have c0 : kcL.getD 0 0 = 495874894192 := by decide
        have c5 : kcL.getD 5 0 = 112568633486457 := by decide
        rw [c0] at s0
        rw [c5] at s5
        rw [pAll] at he
        have next : ∀ (res : Rs) (D2 : Dm), pPart T n w sn fn K = res → pO D' D2 → PR T n D2 res → BD D2 → K.1 ≠ 0 → KX6_parse l E Q 40 [(0, vR E 23), (1, vI n), (2, vI (pt + 1))] G D2 := by
          intro res D2 hres hp2 hPR hB2 h0
          rw [if_neg h0, hres] at he
          rcases hPR with ⟨K1, w1, sn1, fn1, hl1, hC1, rfl⟩ | ⟨hd, rfl⟩
          · dsimp only at he
            obtain ⟨_, a2, a3, a4⟩ := part_ok hKo hw hres
            exact ih w1 sn1 fn1 K1 D2 (pt + 1) (hp.tr hp2) hB2 hl1 hC1 a3 (hk.tr a4) he (by omega) (by omega)
          · dsimp only at he
            have go := last D2 (hp.tr hp2) hB2 (Or.inr ⟨he.symm, hd⟩)
            exact s_X6_parse_40 hL ⟨by omega, fun _ => go, fun _ => ⟨fun _ => go, fun y => absurd y hd⟩⟩
        refine s_X6_parse_40 hL ⟨by omega, fun y => absurd y (by omega), fun _ => ⟨fun y => absurd hl.1 y, fun _ => ⟨fun y => ?_, fun y => ⟨fun y0 => ⟨fun y5 => ?_, fun y5 => ?_⟩, fun y0 => ?_⟩⟩⟩⟩
        · rw [if_pos (by omega)] at he
          exact last D' hp hB (Or.inl ⟨w, sn, fn, he.symm, hw.1, hk, hl.1, hl.2.1, hC⟩)
        · have n0 : ¬ kOf K = ((0 : Nat) : Int) := fun q => y0 (s0.2 q)
          have n5 : ¬ kOf K = ((5 : Nat) : Int) := fun q => y5 (s5.2 q)
          have ep : pPart T n w sn fn K = if 1 ≤ kOf K ∧ kOf K ≤ 4 then pHarm T n w sn fn (kEnd T n) (kOf K - 1) K else fl K 2 := by unfold pPart; rw [if_neg (by omega), if_neg (by omega)]
          refine C0.use (o_harm hL hn' hl hC hw.b rfl) ?_
          rintro - D2 ⟨g1, g2, g3⟩
          exact next _ D2 ep g1 g2 g3 (by omega)
        · have k5 : kOf K = 5 := s5.1 y5
          have ep : pPart T n w sn fn K = pFam T n w sn fn (kEnd T n) K := by unfold pPart; rw [if_neg (by omega), if_pos k5]
          refine C0.use (o_family hL hn' hl (by omega) hC hw.b rfl) ?_
          rintro - D2 ⟨g1, g2, g3⟩
          exact next _ D2 ep g1 g2 g3 (by omega)
        · have k0 : kOf K = 0 := s0.1 y0
          have ep : pPart T n w sn fn K = pStrip T n w sn fn (kEnd T n) K := by unfold pPart; rw [if_pos k0]
          refine C0.use (o_strip hL hn' hl (by omega) hC hw.b rfl) ?_
          rintro - D2 ⟨g1, g2, g3⟩
          exact next _ D2 ep g1 g2 g3 (by omega)
    -- the beginning
    generalize hDi : upd2 (upd2 (upd2 (upd2 (upd2 (upd2 (upd2 D 23 5 n) 23 6 0) 23 3 0) 23 4 (-1)) 25 0 0) 25 1 0) 25 2 0 = Di
    have i3 : Di 23 3 = 0 := by rw [← hDi]; simp [upd2]
    have i4 : Di 23 4 = -1 := by rw [← hDi]; simp [upd2]
    have i5 : Di 23 5 = n := by rw [← hDi]; simp [upd2]
    have i6 : Di 23 6 = 0 := by rw [← hDi]; simp [upd2]
    have i24 : Di 24 = T := by rw [← hDi, ← hT]; funext j; simp [upd2]
    have i25 : Di 25 0 = 0 ∧ Di 25 1 = 0 ∧ Di 25 2 = 0 := by rw [← hDi]; simp [upd2]
    have ip : pO D Di := by
      rw [← hDi]
      intro c i p q r
      simp only [upd2]
      rw [if_neg (by omega), if_neg (by omega), if_neg (by omega), if_neg (by omega), if_neg (by omega), if_neg (by omega), if_neg (by omega)]
    refine C0.use (c_X6_step hL hn' (p := 0) (by omega) i3 i5 i6) ?_
    rintro - D4 ⟨h1, h2⟩
    rw [i24] at h1
    have hp4 := ip.tr h2.x.p
    have e25 : D4 25 = Di 25 := h2.c (by decide)
    have tk := tok_ok (T := T) (n := n) (p := 0) (by omega)
    refine loop 601 w0 sn0 fn0 (tokS T n 0) D4 0 hp4 ?_ ⟨by rw [h2 23 3 (by omega)]; exact i3, by rw [h2 23 4 (by omega)]; exact i4, by rw [h2 23 5 (by omega)]; exact i5, by rw [h2.c (by decide)]; exact i24, h1, tk.1⟩ ?_ hw0 kp.rf rfl ?_ ?_
    · unfold BD
      rw [e25, i25.1, i25.2.1, i25.2.2]
      decide
    · refine ⟨?_, fun s p q => by omega, fun s p q => by omega, fun s p q => by omega⟩
      rw [e25, i25.1, i25.2.1, i25.2.2]
      exact ⟨hz.1.symm, hz.2.1.symm, hz.2.2.symm⟩
    · have := tk.2
      omega
    · have := tk.2
      omega
  rw [← hQ] at main
  exact main
end

-- best, edge and change of the class
def scrY (c : Nat) (i : Int) : Prop := 125 ≤ c ∨ scrX c i
def yS (D D' : Dm) : Prop := ∀ c i, ¬ scrY c i → D' c i = D c i
theorem yS.rf {D : Dm} : yS D D := fun _ _ _ => rfl
theorem yS.tr {D D1 D2 : Dm} (h : yS D D1) (h2 : yS D1 D2) : yS D D2 := fun c i hc => (h2 c i hc).trans (h c i hc)
theorem yS.up {D D1 : Dm} {c : Nat} {i : Int} (h : yS D D1) (hs : scrY c i) (x : Int) : yS D (upd2 D1 c i x) := fun c' i' hc => by
  rw [← h c' i' hc]
  simp only [upd2]
  rw [if_neg]
  rintro ⟨rfl, rfl⟩
  exact hc hs
theorem xS.y {D D' : Dm} (h : xS D D') : yS D D' := fun c i hc => h c i (by simp only [scrY] at hc; omega) (fun q => hc (Or.inr q))
theorem cS.y {D D' : Dm} (h : cS D D') : yS D D' := h.x.y
theorem yS.c {D D' : Dm} (h : yS D D') (c : Nat) (hc : ∀ i, ¬ scrY c i) : D' c = D c := funext fun i => h c i (hc i)
theorem yS.land {v : Vl} {D D' : Dm} (h : yS D D') (hC : CV 1 v D) : CV 1 v D' := hC.same (fun j hj => h.c _ (fun i => by simp only [scrY, scrX, scrC]; omega))
theorem yS.lando {v : Vl} {D D' : Dm} (h : yS D D') (hC : CVo 1 v D) : CVo 1 v D' := hC.same (fun j hj => h.c _ (fun i => by simp only [scrY, scrX, scrC]; omega))
abbrev cQ (D D' : Dm) (a : Ans) : Prop := tQ scrY 0 11 12 13 D D' a
theorem cQ.no {D D1 : Dm} {a : Ans} {s r : Int} (ha : a = aNo s r) (h : yS D D1) : r = a.2.1 ∧ cQ D (upd2 D1 0 11 s) a := by
  subst ha
  refine ⟨rfl, upd2_same _ _ _ _, ⟨?_, ?_⟩, fun c i h1 h2 => ?_⟩
  · rw [upd2_place _ _ _ (by decide)]; exact h _ _ (by simp [scrY, scrX, scrC])
  · rw [upd2_place _ _ _ (by decide)]; exact h _ _ (by simp [scrY, scrX, scrC])
  · rw [← h c i h1]; simp only [upd2]; rw [if_neg]; rintro ⟨rfl, rfl⟩; exact h2 ⟨rfl, Or.inl rfl⟩
theorem cQ.tl {D D1 : Dm} {a : Ans} {n d r : Int} (ha : a = aFr r n d) (h : yS D D1) : r = a.2.1 ∧ cQ D (upd2 (upd2 (upd2 D1 0 12 (frT n d)) 0 13 (frB n d)) 0 11 0) a := by
  subst ha
  refine ⟨rfl, upd2_same _ _ _ _, ⟨by simp [upd2], by simp [upd2]⟩, fun c i h1 h2 => ?_⟩
  rw [← h c i h1]
  simp only [upd2]
  rw [if_neg, if_neg, if_neg]
  · rintro ⟨rfl, rfl⟩; exact h2 ⟨rfl, Or.inr (Or.inl rfl)⟩
  · rintro ⟨rfl, rfl⟩; exact h2 ⟨rfl, Or.inr (Or.inr rfl)⟩
  · rintro ⟨rfl, rfl⟩; exact h2 ⟨rfl, Or.inl rfl⟩
theorem RI.same {v : Vl} {G : Sh} {D D' : Dm} (h : RI v G D) (h5 : D' 42 5 = D 42 5) (h1 : D' 45 = D 45) (h2 : D' (rdc G) = D (rdc G)) : RI v G D' := ⟨h.1, by rw [h5]; exact h.2.imp id (fun q => ⟨q.1, q.2.same h1 h2⟩)⟩
theorem RI.cs {v : Vl} {G : Sh} {D D' : Dm} (hL : Lay G) (h : RI v G D) (hs : cS D D') : RI v G D' := by
  have hr := rdc_ne hL
  exact h.same (hs 42 5 (by simp [scrC])) (hs.c 45 (fun i => by simp only [scrC]; omega)) (hs.c _ (fun i => by simp only [scrC]; omega))
theorem RI.up {v : Vl} {G : Sh} {D : Dm} (hL : Lay G) (h : RI v G D) {c : Nat} (hc : c ≤ 41 ∨ (49 ≤ c ∧ c < 125)) (i x : Int) : RI v G (upd2 D c i x) := by
  have hr := rdc_ne hL
  exact h.same (upd2_cell _ _ _ _ (by omega)) (funext fun j => upd2_cell _ _ _ _ (by omega)) (funext fun j => upd2_cell _ _ _ _ (by omega))
/-- what the class does in a question -/
def cP (v : Vl) (G : Sh) (D : Dm) (a : Ans) (r : Int) (G' : Sh) (D' : Dm) : Prop := (r = a.2.1 ∧ cQ D D' a) ∧ Lay G' ∧ RI v G' D' ∧ (G' = G ∨ G' = newG G v)
theorem jAll {v : Vl} (hv : wfV v) : jSl 1 (4 * v 1) = allS v := by
  have hH := wfH hv
  unfold allS
  rcases (show v 1 = 0 ∨ v 1 = 1 ∨ v 1 = 2 ∨ v 1 = 3 ∨ v 1 = 4 ∨ v 1 = 5 ∨ v 1 = 6 by omega) with h | h | h | h | h | h | h <;> rw [h] <;> decide
def wnb (v : Vl) (f k : Int) : Int := if (0 ≤ f ∧ f < v 2) ∧ 1 ≤ k ∧ k ≤ 6 then (if bestR v f k = -1 then 6 else 0) else 1
theorem okS_o (v : Vl) (f k : Int) (w : Nat → Int) : cntS (obS v f k) (openN v f + 1) = cntS (obS v f k) (nS v) ∧ bstS (obS v f k) w (openN v f + 1) = bstS (obS v f k) w (nS v) := by
  have ho : openN v f < 2 ^ (v 0).toNat := setN_lt _ _
  have h := cnt_end (p := obS v f k) (a := openN v f + 1) (b := nS v) ho (fun S h1 h2 => by
    cases hS : obS v f k S with
    | false => rfl
    | true =>
      exfalso
      unfold obS okS at hS
      simp only [Bool.and_eq_true, decide_eq_true_eq] at hS
      have := ndf_le hS.1
      omega) w
  exact ⟨h.1.symm, h.2.symm⟩
theorem bst_no {p : Nat → Bool} {n : Nat} (w : Nat → Int) : bstS p w n = -1 ↔ cntS p n = 0 := by
  rcases bst_is p w n with ⟨h1, h2⟩ | ⟨b, h1, h2, h3, h4⟩
  · exact ⟨fun _ => h2, fun _ => h1⟩
  · exact ⟨fun h => by omega, fun h => by omega⟩
section
variable {l : Launch} {E : Ev} {G : Sh} {D : Dm} {v : Vl}
theorem c_X9_whyNoBest (hL : Lay G) (hv : wfV v) (hC : CV 1 v D) {f k : Int} (hf : -2147483648 ≤ f ∧ f < 2147483648) (hk : -2147483648 ≤ k ∧ k < 2147483648) : C0 l E MX9_whyNoBest 0 [vR E 0, vI f, vI k] G D (fun r D' => r = wnb v f k ∧ D' = D) := by
  have e2 : D 1 2 = v 2 := hC.2.2.1
  have h10 := two_le (wfS hv)
  have ho : openN v f < 2 ^ (v 0).toNat := setN_lt _ _
  refine s_X9_whyNoBest hL ?_
  rw [e2]
  refine ⟨hf, fun g => ⟨rfl, ?_, rfl⟩, fun g => ⟨hk, fun g2 => ?_, fun g2 => ⟨rfl, ?_, rfl⟩⟩⟩
  · rw [wnb, if_neg (by omega)]
  · refine C0.use (c_X8_openTo hL hv hC f hf) ?_
    rintro r D1 ⟨rfl, rfl⟩
    try dsimp only
    refine C0.use (c_J6_bitCount hL (a := openN v f) (by omega)) ?_
    rintro r D2 ⟨rfl, rfl⟩
    try dsimp only
    have hpc := pcT_le (openN v f)
    have hcp := cnt_pos (o := openN v f) (n := nS v) ho h10 (k := k) (by omega)
    have hbn := bst_no (p := obS v f k) (n := nS v) (worthS v f)
    refine ⟨by omega, fun q => ⟨rfl, ?_, rfl⟩, fun q => ⟨rfl, ?_, rfl⟩⟩
    · rw [wnb, if_pos ⟨g, g2⟩, if_neg]
      intro z
      exact absurd (hbn.1 z) (Nat.ne_of_gt (hcp.2 q))
    · rw [wnb, if_pos ⟨g, g2⟩, if_pos]
      refine hbn.2 ?_
      rcases Nat.eq_zero_or_pos (cntS (obS v f k) (nS v)) with z | z
      · exact z
      · have := hcp.1 z; omega
  · rw [wnb, if_neg (by omega)]
theorem fi_bst {p : Nat → Bool} {w : Nat → Int} {n : Nat} {b : Nat} (h : bstS p w n = b) : fiS p w n = cntS p b ∧ b < n ∧ p b = true := by
  rcases bst_is p w n with ⟨h1, h2⟩ | ⟨c, h1, h2, h3, h4⟩
  · omega
  · have : c = b := by omega
    subst this
    refine ⟨?_, h2, h3⟩
    unfold fiS
    rw [if_neg (by omega), h1, Int.toNat_natCast]
theorem worth_wH (v : Vl) (f : Int) : worthS v f = wH v f (v 4) := funext fun S => worth_eq v f S
theorem c_X9_best (hL : Lay G) (hv : wfV v) (hC : CV 1 v D) (hO : CVo 1 v D) (hI : RI v G D) {f k : Int} (hf : -2147483648 ≤ f ∧ f < 2147483648) (hk : -2147483648 ≤ k ∧ k < 2147483648) {a : Ans} (ha : a = q_best v f k) : Ct l E MX9_best 0 (mcR G v) (msR G v) [vR E 0, vI f, vI k] G D (cP v G D a) := by
  have h10 := two_le (wfS hv)
  have hU := wfU hv
  have hab := all_b hv
  refine s_X9_best hL ?_
  refine C0.use (c_X9_whyNoBest hL hv hC hf hk) ?_
  rintro r D1 ⟨rfl, rfl⟩
  try dsimp only
  have hwr : wnb v f k = 1 ∨ wnb v f k = 6 ∨ wnb v f k = 0 := by
    unfold wnb; split
    · split
      · exact Or.inr (Or.inl rfl)
      · exact Or.inr (Or.inr rfl)
    · exact Or.inl rfl
  refine ⟨by omega, fun h0 => ?_, fun hne => ⟨cQ.no ?_ yS.rf, hL, hI.up hL (by omega) _ _, Or.inl rfl⟩⟩
  · have hg : (0 ≤ f ∧ f < v 2) ∧ 1 ≤ k ∧ k ≤ 6 := by
      refine Classical.byContradiction fun q => ?_
      rw [wnb, if_neg q] at h0; omega
    have hb : bestR v f k ≠ -1 := by
      intro q
      rw [wnb, if_pos hg, if_pos q] at h0; omega
    rw [q_best, if_pos hg, if_neg hb] at ha
    obtain ⟨b, hbb⟩ : ∃ b : Nat, bestR v f k = b := by
      rcases bst_is (obS v f k) (worthS v f) (nS v) with ⟨q, _⟩ | ⟨b, q, _⟩
      · exact absurd q hb
      · exact ⟨b, q⟩
    rw [hbb, Int.toNat_natCast] at ha
    refine (c_X5_ready hL hv hC hO hI).mono ?_
    rintro - G1 D2 ⟨hG1, hL1, hR1, hI1, hx1⟩
    refine ⟨hL1, ?_⟩
    refine C0.use (c_X1_listSets hL1 hv hR1 hg.1 hg.2) ?_
    rintro - D3 ⟨hls, hs3⟩
    try dsimp only
    have hR3 := hs3.ready hL1 hR1
    have e4 : D3 1 4 = v 4 := hR3.1.2.2.2.2.1
    have ho : openN v f < 2 ^ (v 0).toNat := setN_lt _ _
    have hc252 := cnt_252 (o := openN v f) (k := k) (by omega) (n := openN v f + 1) (by omega)
    rw [e4]
    refine C0.use (c_X1_bestIndex (k := k) hL1 hv hg.1 (show openN v f + 1 ≤ 2 ^ (v 0).toNat by omega) hc252 hls (by omega)) ?_
    rintro r D4 ⟨rfl, rfl⟩
    try dsimp only
    have hb2 : bstS (okS (openN v f) k) (wH v f (v 4)) (openN v f + 1) = b := by
      rw [← hbb, ← worth_wH]
      exact (okS_o v f k (worthS v f)).2
    obtain ⟨hfi, hlt, hpb⟩ := fi_bst hb2
    obtain ⟨t1, t2, t3⟩ := hls.2 b hlt hpb
    have hcl := cnt_lt _ hlt hpb
    rw [hfi, t2, t3, e4, show D4 1 1 = v 1 from hR3.1.2.1, jAll hv]
    have ew : netSum v f b - v 4 * shortSum v f b = worthS v f b := (worth_eq v f b).symm
    rw [ew]
    have hwb := worth_b hv hg.1 (S := b) (by omega)
    refine ⟨by omega, ?_⟩
    refine C0.use (c_X9_tell hL1 (by omega) (by omega)) ?_
    rintro r5 D5 ⟨rfl, rfl⟩
    try dsimp only
    have e50 : upd2 (upd2 (upd2 D4 0 12 (frT (worthS v f b) (allS v))) 0 13 (frB (worthS v f b) (allS v))) 0 11 0 50 (cntS (okS (openN v f) k) b : Nat) = b := by
      rw [upd2_cell _ _ _ _ (by decide), upd2_cell _ _ _ _ (by decide), upd2_cell _ _ _ _ (by decide)]; exact t1
    have key : cP v G D1 a (upd2 (upd2 (upd2 D4 0 12 (frT (worthS v f b) (allS v))) 0 13 (frB (worthS v f b) (allS v))) 0 11 0 50 (cntS (okS (openN v f) k) b : Nat)) G1 (upd2 (upd2 (upd2 D4 0 12 (frT (worthS v f b) (allS v))) 0 13 (frB (worthS v f b) (allS v))) 0 11 0) := by
      rw [e50]
      refine ⟨cQ.tl ha (hx1.y.tr hs3.y), hL1, ?_, Or.inr hG1⟩
      exact (((hI1.cs hL1 hs3).up hL1 (by omega) _ _).up hL1 (by omega) _ _).up hL1 (by omega) _ _
    exact key
  · rw [ha, q_best]
    unfold wnb
    split
    · split
      · rfl
      · next q1 q2 => rw [wnb, if_pos q1, if_neg q2] at hne; exact absurd rfl hne
    · rfl
end

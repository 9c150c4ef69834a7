-- rows sorted; together
def exF (X : Row) (i j : Int) : Row := fun p => if p = j then X i else if p = i then X j else X p
theorem rowIs_ex {c : Nat} {D : Dm} {n : Int} {X : Row} (h : rowIs c D n X) {i j : Int} (hi : 0 ≤ i ∧ i < n) (hj : 0 ≤ j ∧ j < n) : rowIs c (upd2 (upd2 D c i (D c j)) c j (D c i)) n (exF X i j) := by
  intro p a b
  simp only [upd2, exF]
  by_cases h1 : p = j
  · rw [if_pos ⟨trivial, h1⟩, if_pos h1]; exact h i hi.1 hi.2
  · rw [if_neg (fun z => h1 z.2), if_neg h1]
    by_cases h2 : p = i
    · rw [if_pos ⟨trivial, h2⟩, if_pos h2]; exact h j hj.1 hj.2
    · rw [if_neg (fun z => h2 z.2), if_neg h2]; exact h p a b
theorem rowB_ex {n N : Int} {X : Row} (h : rowB n N X) {i j : Int} (hi : 0 ≤ i ∧ i < n) (hj : 0 ≤ j ∧ j < n) : rowB n N (exF X i j) := by
  intro p a b
  simp only [exF]
  split
  · exact h i hi.1 hi.2
  · split
    · exact h j hj.1 hj.2
    · exact h p a b
abbrev ahP (v : Vl) (s t : Int) : Prop := (v ((8 + (5 * s)) + 0) = v ((8 + (5 * t)) + 0) ∧ v ((8 + (5 * s)) + 1) < v ((8 + (5 * t)) + 1)) ∨ (v ((8 + (5 * s)) + 0) ≠ v ((8 + (5 * t)) + 0) ∧ v ((8 + (5 * s)) + 0) < v ((8 + (5 * t)) + 0))
def insC (v : Vl) : Nat → Row → Row
  | 0, X => X
  | k + 1, X => if ahP v (X ((k : Int) + 1)) (X k) then insC v k (exF X ((k : Int) + 1) k) else X
def srt (v : Vl) (X : Row) : Nat → Row
  | 0 => X
  | k + 1 => insC v (k + 1) (srt v X k)
theorem rowB_ins {v : Vl} {n N : Int} : ∀ (k : Nat) (X : Row), (k : Int) < n → rowB n N X → rowB n N (insC v k X)
  | 0, X, _, h => h
  | k + 1, X, hk, h => by
    rw [insC]
    split
    · exact rowB_ins k _ (by omega) (rowB_ex h (by omega) (by omega))
    · exact h
theorem rowB_srt {v : Vl} {n N : Int} {X : Row} (h : rowB n N X) : ∀ k : Nat, (k : Int) < n → rowB n N (srt v X k)
  | 0, _ => h
  | k + 1, hk => rowB_ins (k + 1) _ hk (rowB_srt h k (by omega))
/-- what stands behind place i is greater than what stands ahead, and goes up -/
def JJ (n i : Int) (X : Row) : Prop := (∀ p q, 0 ≤ p → p ≤ i → i < q → q < n → X p < X q) ∧ (∀ p q, i < p → p < q → q < n → X p < X q)
theorem JJ_s {n i : Int} {X : Row} (h0 : 0 ≤ i) (h : JJ n i X) : JJ n (i + 1) X := by
  refine ⟨fun p q a b c d => ?_, fun p q a b c => h.2 p q (by omega) b c⟩
  by_cases z : p = i + 1
  · exact h.2 p q (by omega) (by omega) d
  · exact h.1 p q a (by omega) (by omega) d
theorem JJ_ex {n i : Int} {X : Row} (h : JJ n i X) {a b : Int} (ha : 0 ≤ a ∧ a ≤ i) (hb : 0 ≤ b ∧ b ≤ i) : JJ n i (exF X a b) := by
  refine ⟨fun p q p0 p1 q0 q1 => ?_, fun p q p0 p1 q1 => ?_⟩
  · simp only [exF]
    rw [if_neg (show ¬ q = b by omega), if_neg (show ¬ q = a by omega)]
    split
    · exact h.1 a q ha.1 ha.2 q0 q1
    · split
      · exact h.1 b q hb.1 hb.2 q0 q1
      · exact h.1 p q p0 p1 q0 q1
  · simp only [exF]
    rw [if_neg (show ¬ q = b by omega), if_neg (show ¬ q = a by omega), if_neg (show ¬ p = b by omega), if_neg (show ¬ p = a by omega)]
    exact h.2 p q p0 p1 q1
theorem JJ_ins {v : Vl} {n i : Int} : ∀ (k : Nat) (X : Row), (k : Int) ≤ i → JJ n i X → JJ n i (insC v k X)
  | 0, X, _, h => h
  | k + 1, X, hk, h => by
    rw [insC]
    split
    · exact JJ_ins k _ (by omega) (JJ_ex h (by omega) (by omega))
    · exact h
theorem JJ_srt {v : Vl} {n : Int} {X : Row} (h : ∀ p q, 0 ≤ p → p < q → q < n → X p < X q) : ∀ k : Nat, JJ n k (srt v X k)
  | 0 => ⟨fun p q a b c d => h p q a (by omega) d, fun p q a b c => h p q (by omega) b c⟩
  | k + 1 => by
    have h1 := JJ_s (by omega) (JJ_srt (v := v) h k)
    exact JJ_ins (k + 1) _ (by omega) h1
def tgX (v : Vl) : Row := srt v (rowX v) (rowN v - 1).toNat
def tgP (v : Vl) (f : Int) : Bool := decide (worthS v f (dlN v (tgX v) f) < worthS v f (heldN v f))
def q_together (v : Vl) : Ans := aNo 0 (setN (tgP v) (v 2).toNat : Nat)
theorem tgX_b {v : Vl} (hv : wfV v) : rowB (rowN v) (v 0) (tgX v) := by
  have hr := row_b hv
  by_cases h : rowN v ≤ 0
  · intro p a b; omega
  · exact rowB_srt hr.2.1 _ (by omega)
theorem dlN_lt {v : Vl} (hv : wfV v) {X : Row} (hX : rowB (rowN v) (v 0) X) {f : Int} (hf : 0 ≤ f ∧ f < v 2) : dlN v X f < 2 ^ (v 0).toNat := by
  have h := fr_le hv hf
  exact orN_lt hX h.1 _ h.2
section
variable {l : Launch} {E : Ev} {G : Sh} {D : Dm} {v : Vl} {a : Ans}
theorem c_X2_sortRow (hL : Lay G) (hv : wfV v) (hC : CV 1 v D) (hn : D 66 3 = rowN v) (hX : rowIs 67 D (rowN v) (rowX v)) : C0 l E MX2_sortRow 2 [vR E 66] G D (fun _ D' => D' 66 3 = rowN v ∧ rowIs 67 D' (rowN v) (tgX v) ∧ cS D D') := by
  have hS := wfS hv
  obtain ⟨hr, hB, hinc⟩ := row_b hv
  refine s_X2_sortRow hL ?_
  refine up_from (P := fun i => ∀ D', offC 67 D D' → rowIs 67 D' (rowN v) (srt v (rowX v) (i - 1).toNat) → KX2_sortRow l E _ 2 [(0, vR E 66), (1, vI i)] G D') (lo := 1) (n := max 1 (rowN v)) (by omega) ?_ ?_ D offC.rf (by rw [show ((1 : Int) - 1).toNat = 0 from rfl]; exact hX)
  · intro D' ho hr'
    have e3 : D' 66 3 = rowN v := by rw [ho 66 (by decide)]; exact hn
    refine s_X2_sortRow_2 hL ⟨by omega, fun _ => ⟨rfl, e3, ?_, cS.rf.off (fun i => by simp [scrC]) ho⟩, fun z => absurd z (by omega)⟩
    have e : (max 1 (rowN v) - 1).toNat = (rowN v - 1).toNat := by omega
    rw [e] at hr'
    exact hr'
  · intro i i0 i1 ih D' ho hr'
    have e3 : D' 66 3 = rowN v := by rw [ho 66 (by decide)]; exact hn
    have hsB := rowB_srt (v := v) hB (i - 1).toNat (by omega)
    refine s_X2_sortRow_2 hL ⟨by omega, fun z => absurd z (by omega), fun _ => ?_⟩
    have inner : ∀ (k : Nat) (Y : Row) (D2 : Dm), (k : Int) ≤ i → offC 67 D D2 → rowIs 67 D2 (rowN v) Y → rowB (rowN v) (v 0) Y → insC v k Y = srt v (rowX v) i.toNat → KX2_sortRow l E (fun r G' D' => G' = G ∧ D' 66 3 = rowN v ∧ rowIs 67 D' (rowN v) (tgX v) ∧ cS D D') 12 [(0, vR E 66), (1, vI i), (2, vI k)] G D2 := by
      intro k
      induction k with
      | zero =>
        intro Y D2 hk ho2 hY hYB hins
        refine s_X2_sortRow_12 hL ⟨by omega, fun _ => ih D2 ho2 ?_, fun z => absurd z (by omega)⟩
        rw [show (i + 1 - 1).toNat = i.toNat by omega, ← hins]
        exact hY
      | succ k ihk =>
        intro Y D2 hk ho2 hY hYB hins
        have hC2 : CV 1 v D2 := hC.same (fun j hj => ho2 _ (by omega))
        have ek : (((k + 1 : Nat) : Int)) = (k : Int) + 1 := by omega
        have ek1 : (k : Int) + 1 - 1 = k := by omega
        have b1 := hYB ((k : Int) + 1) (by omega) (by omega)
        have b0 := hYB k (by omega) (by omega)
        have c1 := CV_s hC2 b1.1 b1.2
        have c0 := CV_s hC2 b0.1 b0.2
        refine s_X2_sortRow_12 hL ?_
        rw [ek, ek1, hY ((k : Int) + 1) (by omega) (by omega), hY k (by omega) (by omega), c1.1, c0.1, c1.2.1, c0.2.1]
        rw [insC] at hins
        refine ⟨by omega, fun z => absurd z (by omega), fun _ => ⟨by omega, fun z => ih D2 ho2 ?_, fun z => ?_⟩⟩
        · rw [if_neg z] at hins
          rw [show (i + 1 - 1).toNat = i.toNat by omega, ← hins]
          exact hY
        · rw [if_pos z] at hins
          have e5 : (k : Int) + 1 + (-1) = k := by omega
          rw [e5]
          have hY2 := rowIs_ex hY (i := (k : Int) + 1) (j := k) (by omega) (by omega)
          rw [hY ((k : Int) + 1) (by omega) (by omega), hY k (by omega) (by omega)] at hY2
          exact ihk _ _ (by omega) ((ho2.up _ _).up _ _) hY2 (rowB_ex hYB (by omega) (by omega)) hins
    have ei : ((i.toNat : Nat) : Int) = i := by omega
    have h1 := inner i.toNat (srt v (rowX v) (i - 1).toNat) D' (by omega) ho hr' hsB (by
      rw [show i.toNat = (i - 1).toNat + 1 by omega]
      rfl)
    rw [ei] at h1
    exact h1
theorem c_X2_losers (hL : Lay G) (hv : wfV v) (hR : Rd v G D) : C0 l E MX2_losersByPlace 0 [vR E 66] G D (fun r D' => r = (setN (tgP v) (v 2).toNat : Nat) ∧ cS D D') := by
  have hF := wfF hv
  refine s_X2_losersByPlace hL ?_
  refine C0.use (c_X2_fillRow hL hv hR.1) ?_
  rintro - D1 ⟨hn1, hX1, _, hs1⟩
  try dsimp only
  have hR1 := hs1.ready hL hR
  refine C0.use (c_X2_sortRow hL hv hR1.1 hn1 hX1) ?_
  rintro - D2 ⟨hn2, hX2, hs2⟩
  try dsimp only
  have hs12 := hs1.tr hs2
  refine up_from (P := fun f => ∀ D', cS D D' → D' 66 3 = rowN v → rowIs 67 D' (rowN v) (tgX v) → KX2_losersByPlace l E _ 12 [(0, vR E 66), (1, vI (setN (tgP v) f.toNat : Nat)), (2, vI f)] G D') (lo := 0) (n := v 2) hF.1 ?_ ?_ D2 hs12 hn2 hX2
  · intro D' hs hn hX
    have e2 : D' 1 2 = v 2 := (hs.land hR.1).2.2.1
    exact s_X2_losersByPlace_12 hL ⟨by omega, fun _ => ⟨rfl, rfl, hs⟩, fun z => absurd z (by omega)⟩
  · intro f f0 f1 ih D' hs hn hX
    have hR' := hs.ready hL hR
    have e2 : D' 1 2 = v 2 := hR'.1.2.2.1
    rw [setN_s _ f0] at ih
    refine s_X2_losersByPlace_12 hL ⟨by omega, fun z => absurd z (by omega), fun _ => ?_⟩
    refine C0.use (c_X8_heldBy hL hv hR'.1 f (by omega)) ?_
    rintro r D3 ⟨rfl, rfl⟩
    try dsimp only
    refine C0.use (c_X5_worthOf hL hv hR' ⟨f0, f1⟩ (S := heldN v f) (setN_lt _ _)) ?_
    rintro r D4 ⟨rfl, hk4⟩
    try dsimp only
    have hR4 := hk4.s.ready hL hR'
    have k66 : ∀ i, D4 66 i = D3 66 i := fun i => hk4 66 i (by simp [scrK])
    have k67 : ∀ i, D4 67 i = D3 67 i := fun i => hk4 67 i (by simp [scrK])
    refine C0.use (c_X2_dealtTo hL hv hR4.1 (X := tgX v) (by rw [k66]; exact hn) (fun p a b => by rw [k67]; exact hX p a b) (tgX_b hv) ⟨f0, f1⟩) ?_
    rintro r D5 ⟨rfl, rfl⟩
    try dsimp only
    refine C0.use (c_X5_worthOf hL hv hR4 ⟨f0, f1⟩ (S := dlN v (tgX v) f) (dlN_lt hv (tgX_b hv) ⟨f0, f1⟩)) ?_
    rintro r D6 ⟨rfl, hk6⟩
    try dsimp only
    have hk := hk4.tr hk6
    have k66' : ∀ i, D6 66 i = D3 66 i := fun i => hk 66 i (by simp [scrK])
    have k67' : ∀ i, D6 67 i = D3 67 i := fun i => hk 67 i (by simp [scrK])
    have w1 := worth_b hv (f := f) ⟨f0, f1⟩ (S := heldN v f) (setN_lt _ _)
    have w2 := worth_b hv (f := f) ⟨f0, f1⟩ (S := dlN v (tgX v) f) (dlN_lt hv (tgX_b hv) ⟨f0, f1⟩)
    refine ⟨⟨by omega, by omega⟩, fun z => ?_, fun z => ?_⟩
    · rw [if_neg (by unfold tgP; simp only [decide_eq_true_eq]; omega)] at ih
      exact ih D6 (hs.tr hk.s) (by rw [k66']; exact hn) (fun p a b => by rw [k67']; exact hX p a b)
    · rw [if_pos (by unfold tgP; simp only [decide_eq_true_eq]; exact z)] at ih
      rw [setN_or (by omega)]
      exact ih D6 (hs.tr hk.s) (by rw [k66']; exact hn) (fun p a b => by rw [k67']; exact hX p a b)
theorem c_X9_together (hL : Lay G) (hv : wfV v) (hC : CV 1 v D) (hO : CVo 1 v D) (hI : RI v G D) (ha : a = q_together v) : Ct l E MX9_together 0 (mcR G v) (msR G v) [vR E 0] G D (cP v G D a) := by
  refine s_X9_together hL ?_
  refine (c_X5_ready hL hv hC hO hI).mono ?_
  rintro - G1 D2 ⟨hG1, hL1, hR1, hI1, hx1⟩
  refine ⟨hL1, ?_⟩
  refine C0.use (c_X2_losers hL1 hv hR1) ?_
  rintro r D3 ⟨rfl, hs3⟩
  try dsimp only
  exact cP.no hL1 (hI1.cs hL1 hs3) ha (hx1.y.tr hs3.y) (Or.inr hG1)
theorem c_X10_together (hL : Lay G) (hv : wfV (D 108)) (hh : D 107 20 = 0) (ha : a = q_together (D 108)) : C0 l E MX10_together 0 [vR E 107] G D (fun r D' => r = a.2.1 ∧ mQ D D' a) := by
  have hS := wfS hv
  have hF := wfF hv
  obtain ⟨hr, hB, hinc⟩ := row_b hv
  refine s_X10_together hL ?_
  refine C0.use (c_X10_laysRow hL hv) ?_
  rintro - D1 ⟨hn1, hX1, hm1⟩
  try dsimp only
  generalize hQ : (fun (r : Int) (G' : Sh) (D' : Dm) => G' = G ∧ r = a.2.1 ∧ mQ D D' a) = Q
  have last : ∀ D', mS D D' → (∀ f, 0 ≤ f → f < D 108 2 → D' 124 f = (dlN (D 108) (tgX (D 108)) f : Nat)) → KX10_together l E Q 84 [(0, vR E 107), (1, vI 0), (2, vI 0)] G D' := by
    intro D' hm hd
    refine up_from (P := fun f => ∀ D', mS D D' → (∀ f, 0 ≤ f → f < D 108 2 → D' 124 f = (dlN (D 108) (tgX (D 108)) f : Nat)) → KX10_together l E Q 84 [(0, vR E 107), (1, vI (setN (tgP (D 108)) f.toNat : Nat)), (2, vI f)] G D') (lo := 0) (n := D 108 2) hF.1 ?_ ?_ D' hm hd
    · intro D' hm hd
      have e := hm.at
      refine s_X10_together_84 hL ⟨by omega, fun _ => ?_, fun z => absurd z (by rw [e]; omega)⟩
      rw [← hQ]
      exact ⟨rfl, mQ.no ha hm⟩
    · intro f f0 f1 ih D' hm hd
      have e := hm.at
      have eh := hm.hv
      have hdl := dlN_lt hv (tgX_b hv) ⟨f0, f1⟩
      rw [setN_s _ f0] at ih
      refine s_X10_together_84 hL ⟨by omega, fun z => absurd z (by rw [e]; omega), fun _ => ⟨by omega, ?_⟩⟩
      rw [hd f f0 f1]
      refine C0.use (c_X10_worthOf hL (by rw [e]; exact hv) (eh.trans hh) (by rw [e]; exact ⟨f0, f1⟩) (S := dlN (D 108) (tgX (D 108)) f) (by rw [e]; exact hdl)) ?_
      rintro r D3 ⟨rfl, hr3⟩
      try dsimp only
      have e3 : D3 108 = D 108 := hr3.at.trans e
      refine C0.use (c_X10_held hL (by rw [e3]; exact hv) f (by omega)) ?_
      rintro r D4 ⟨rfl, rfl⟩
      try dsimp only
      rw [e3, e]
      refine C0.use (c_X10_worthOf hL (by rw [e3]; exact hv) ((hr3.hv.trans eh).trans hh) (by rw [e3]; exact ⟨f0, f1⟩) (S := heldN (D 108) f) (by rw [e3]; exact setN_lt _ _)) ?_
      rintro r D5 ⟨rfl, hr5⟩
      try dsimp only
      rw [e3]
      have hm5 := (hm.tr hr3.m).tr hr5.m
      have hr35 := hr3.tr hr5
      have hd5 : ∀ f, 0 ≤ f → f < D 108 2 → D5 124 f = (dlN (D 108) (tgX (D 108)) f : Nat) := fun f a b => by rw [hr35 124 f (by simp [scrR])]; exact hd f a b
      have w1 := worth_b hv (f := f) ⟨f0, f1⟩ (S := heldN (D 108) f) (setN_lt _ _)
      have w2 := worth_b hv (f := f) ⟨f0, f1⟩ (S := dlN (D 108) (tgX (D 108)) f) hdl
      refine ⟨⟨by omega, by omega⟩, fun z => ?_, fun z => ?_⟩
      · rw [if_neg (by unfold tgP; simp only [decide_eq_true_eq]; omega)] at ih
        rw [iO_z (setN_le (by omega))]
        exact ih D5 hm5 hd5
      · rw [if_pos (by unfold tgP; simp only [decide_eq_true_eq]; exact z)] at ih
        rw [setN_or (by omega)]
        exact ih D5 hm5 hd5
  refine up_from (P := fun i => ∀ D', mS D D' → D' 107 36 = rowN (D 108) → rowIs 123 D' (rowN (D 108)) (srt (D 108) (rowX (D 108)) (i - 1).toNat) → KX10_together l E Q 6 [(0, vR E 107), (1, vI i)] G D') (lo := 1) (n := max 1 (rowN (D 108))) (by omega) ?_ ?_ D1 hm1 hn1 (by rw [show ((1 : Int) - 1).toNat = 0 from rfl]; exact hX1)
  · intro D' hm hn hX
    have e := hm.at
    have e2 : (max 1 (rowN (D 108)) - 1).toNat = (rowN (D 108) - 1).toNat := by omega
    rw [e2] at hX
    refine s_X10_together_6 hL ⟨by omega, fun _ => ?_, fun z => absurd z (by omega)⟩
    refine C0.use (c_X10_deals hL (X := tgX (D 108)) (by rw [e]; exact hv) (by rw [e]; exact hX) (by rw [e]; exact tgX_b hv)) ?_
    rintro - D2 ⟨hd, hm2⟩
    rw [e] at hd
    exact last D2 (hm.tr hm2) hd
  · intro i i0 i1 ih D' hm hn hX
    have e := hm.at
    have hsB := rowB_srt (v := D 108) hB (i - 1).toNat (by omega)
    have hJ := JJ_srt (v := D 108) hinc (i - 1).toNat
    refine s_X10_together_6 hL ⟨by omega, fun z => absurd z (by omega), fun _ => ⟨by omega, ?_⟩⟩
    have inner : ∀ (k : Nat) (Y : Row) (s : Int) (D2 : Dm), (k : Int) ≤ i → mS D D2 → D2 107 36 = rowN (D 108) → s = Y k → (∀ p, 0 ≤ p → p < rowN (D 108) → p ≠ k → D2 123 p = Y p) → (∀ p : Int, 0 ≤ p → p < k → Y p < s) → rowB (rowN (D 108)) (D 108 0) Y → insC (D 108) k Y = srt (D 108) (rowX (D 108)) i.toNat → KX10_together l E Q 23 [(0, vR E 107), (1, vI i), (2, vI s), (3, vI k)] G D2 := by
      have put : ∀ (k : Int) (Y : Row) (s : Int) (D2 : Dm), mS D D2 → D2 107 36 = rowN (D 108) → s = Y k → (∀ p, 0 ≤ p → p < rowN (D 108) → p ≠ k → D2 123 p = Y p) → Y = srt (D 108) (rowX (D 108)) i.toNat → KX10_together l E Q 6 [(0, vR E 107), (1, vI (i + 1))] G (upd2 D2 123 k s) := by
        intro k Y s D2 hm2 hn2 hs hY hf
        refine ih _ (hm2.up (by simp [scrM]) _) (by rw [upd2_cell _ _ _ _ (by decide)]; exact hn2) (fun p a b => ?_)
        rw [show (i + 1 - 1).toNat = i.toNat by omega, ← hf]
        by_cases z : p = k
        · subst z; rw [upd2_same]; exact hs
        · rw [upd2_place _ _ _ z]; exact hY p a b z
      intro k
      induction k with
      | zero =>
        intro Y s D2 hk hm2 hn2 hs hY hlt hYB hins
        have b0 := hYB 0 (by omega) (by omega)
        refine s_X10_together_23 hL ⟨by omega, fun _ => ⟨⟨by omega, ?_⟩, put _ Y s D2 hm2 hn2 hs hY hins⟩, fun z => absurd z (by omega)⟩
        rw [hs]
        have : Y ((0 : Nat) : Int) = Y 0 := rfl
        omega
      | succ k ihk =>
        intro Y s D2 hk hm2 hn2 hs hY hlt hYB hins
        have e2 := hm2.at
        have ek : (((k + 1 : Nat) : Int)) = (k : Int) + 1 := by omega
        have ek1 : (k : Int) + 1 - 1 = k := by omega
        rw [ek] at hs hlt
        have b1 := hYB ((k : Int) + 1) (by omega) (by omega)
        have b0 := hYB k (by omega) (by omega)
        have hl := hlt k (by omega) (by omega)
        rw [ek]
        rw [ek] at hY
        refine s_X10_together_23 hL ?_
        rw [ek1, hY k (by omega) (by omega) (by omega), e2]
        rw [insC, ← hs] at hins
        rw [← hs] at b1
        refine ⟨by omega, fun z => absurd z (by omega), fun _ => ⟨by omega, fun z => ⟨by omega, ?_⟩, fun z => ⟨by omega, ?_⟩⟩⟩
        · rw [if_neg (by unfold ahP; omega)] at hins
          exact put _ Y s D2 hm2 hn2 hs hY hins
        · rw [if_pos (by unfold ahP; omega)] at hins
          rw [show (k : Int) + 1 + (-1) = k by omega]
          refine ihk (exF Y ((k : Int) + 1) k) s _ (by omega) (hm2.up (by simp [scrM]) _) (by rw [upd2_cell _ _ _ _ (by decide)]; exact hn2) ?_ (fun p a b c => ?_) (fun p a b => ?_) (rowB_ex hYB (by omega) (by omega)) hins
          · simp only [exF, if_true]; exact hs
          · simp only [exF, upd2]
            rw [if_neg c]
            by_cases z2 : p = (k : Int) + 1
            · rw [if_pos ⟨trivial, z2⟩, if_pos z2]
            · rw [if_neg (fun y => z2 y.2), if_neg z2]; exact hY p a b z2
          · simp only [exF]
            rw [if_neg (by omega), if_neg (by omega)]
            exact hlt p a (by omega)
    have ei : ((i.toNat : Nat) : Int) = i := by omega
    have h1 := inner i.toNat (srt (D 108) (rowX (D 108)) (i - 1).toNat) (D' 123 i) D' (by omega) hm hn (by rw [ei]; exact hX i (by omega) (by omega)) (fun p a b _ => hX p a b) (fun p a b => by
      rw [hX i (by omega) (by omega)]
      exact hJ.1 p i a (by omega) (by omega) (by omega)) hsB (by
      rw [show i.toNat = (i - 1).toNat + 1 by omega]
      rfl)
    rw [ei] at h1
    exact h1
end

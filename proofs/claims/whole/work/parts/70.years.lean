-- told years; starved
def allOk (y : Int → Int) (n L : Int) : Prop := ∀ i, 0 ≤ i → i < n → 0 ≤ y i ∧ y i < L
noncomputable def whyY (L g : Int) (m : Int → Int) (t n : Int) (y : Int → Int) : Int := if g ≠ 0 ∧ (0 ≤ t ∧ t < 4) ∧ 1 ≤ n ∧ n ≤ 60 then (if m t = -1 then 2 else if m t < n then 3 else @ite Int (allOk y n L) (Classical.propDecidable _) 0 1) else 1
theorem whyY_b (L g : Int) (m : Int → Int) (t n : Int) (y : Int → Int) : 0 ≤ whyY L g m t n y ∧ whyY L g m t n y ≤ 3 := by
  unfold whyY
  split
  · split
    · omega
    · split
      · omega
      · split <;> omega
  · omega
theorem whyY_0 {L g : Int} {m : Int → Int} {t n : Int} {y : Int → Int} (h : whyY L g m t n y = 0) : (g ≠ 0 ∧ (0 ≤ t ∧ t < 4) ∧ 1 ≤ n ∧ n ≤ 60) ∧ m t ≠ -1 ∧ n ≤ m t ∧ allOk y n L := by
  unfold whyY at h
  by_cases h1 : g ≠ 0 ∧ (0 ≤ t ∧ t < 4) ∧ 1 ≤ n ∧ n ≤ 60
  · rw [if_pos h1] at h
    by_cases h2 : m t = -1
    · rw [if_pos h2] at h; omega
    · rw [if_neg h2] at h
      by_cases h3 : m t < n
      · rw [if_pos h3] at h; omega
      · rw [if_neg h3] at h
        by_cases h4 : allOk y n L
        · exact ⟨h1, h2, by omega, h4⟩
        · rw [if_neg h4] at h; omega
  · rw [if_neg h1] at h; omega
def hyI (v : Vl) (f : Int) (S : Nat) (y : Int → Int) (i : Int) : Int := if netS v 0 (costS v f S) S (y i) < v ((88 + (3 * f)) + 2) then 1 else 0
def hyS (v : Vl) (f : Int) (S : Nat) (y : Int → Int) (n : Int) : Int := sz (hyI v f S y) n.toNat
theorem hyS_b (v : Vl) (f : Int) (S : Nat) (y : Int → Int) {n : Int} (hn : 0 ≤ n ∧ n ≤ 60) : 0 ≤ hyS v f S y n ∧ hyS v f S y n ≤ 60 := by
  have := sz_bnd (f := hyI v f S y) (n := n.toNat) (a := 0) (b := 1) (fun i _ _ => by unfold hyI; split <;> omega)
  unfold hyS; omega
def isF (v : Vl) (f : Int) : Int := if 0 ≤ f ∧ f < v 2 then 1 else 0
noncomputable def q_starved (v : Vl) (m : Int → Int) (y : Int → Int) (f t n : Int) : Ans := if whyY (iSl 1 (v 1)) (isF v f) m t n y = 0 then aNo 0 (hyS v f (heldN v f) y n) else aNo (whyY (iSl 1 (v 1)) (isF v f) m t n y) (-1)
theorem whyY_cg {L g : Int} {m m' : Int → Int} {t n : Int} {y y' : Int → Int} (hm : 0 ≤ t → t < 4 → m' t = m t) (hy : 0 ≤ t → t < 4 → ∀ i, 0 ≤ i → i < m t → y' i = y i) : whyY L g m' t n y' = whyY L g m t n y := by
  unfold whyY
  by_cases h1 : g ≠ 0 ∧ (0 ≤ t ∧ t < 4) ∧ 1 ≤ n ∧ n ≤ 60
  · rw [if_pos h1, if_pos h1, hm h1.2.1.1 h1.2.1.2]
    by_cases h2 : m t = -1
    · rw [if_pos h2, if_pos h2]
    · rw [if_neg h2, if_neg h2]
      by_cases h3 : m t < n
      · rw [if_pos h3, if_pos h3]
      · rw [if_neg h3, if_neg h3]
        have e : allOk y' n L ↔ allOk y n L := ⟨fun h i a b => by rw [← hy h1.2.1.1 h1.2.1.2 i a (by omega)]; exact h i a b, fun h i a b => by rw [hy h1.2.1.1 h1.2.1.2 i a (by omega)]; exact h i a b⟩
        by_cases h4 : allOk y n L
        · rw [if_pos h4, if_pos (e.2 h4)]
        · rw [if_neg h4, if_neg (fun z => h4 (e.1 z))]
  · rw [if_neg h1, if_neg h1]
theorem hyS_cg {v : Vl} {f : Int} {S : Nat} {y y' : Int → Int} {n : Int} (hy : ∀ i, 0 ≤ i → i < n → y' i = y i) : hyS v f S y' n = hyS v f S y n := by
  unfold hyS
  refine sz_congr (fun i a b => ?_)
  unfold hyI
  rw [hy i a (by omega)]
section
variable {l : Launch} {E : Ev} {G : Sh} {D : Dm} {v : Vl} {a : Ans}
theorem c_X9_whyNoYears (hL : Lay G) (hv : wfV v) (hC : CV 1 v D) {f t n : Int} (hf : iRg f) (ht : iRg t) (hn : iRg n) : C0 l E MX9_whyNoYears 0 [vR E 0, vI f, vI t, vI n] G D (fun r D' => r = whyY (iSl 1 (v 1)) (isF v f) (D 22) t n (D (17 + t.toNat)) ∧ D' = D) := by
  have e1 : D 1 1 = v 1 := hC.2.1
  have e2 : D 1 2 = v 2 := hC.2.2.1
  have hlb := lotsB (wfH hv)
  have w1 : ¬ (isF v f ≠ 0 ∧ (0 ≤ t ∧ t < 4) ∧ 1 ≤ n ∧ n ≤ 60) → (G = G ∧ 1 = whyY (iSl 1 (v 1)) (isF v f) (D 22) t n (D (17 + t.toNat)) ∧ D = D) := fun z => ⟨rfl, by rw [whyY, if_neg z], rfl⟩
  refine s_X9_whyNoYears hL ?_
  rw [e2]
  refine ⟨hf, fun z => w1 (fun q => q.1 (by rw [isF, if_neg z])), fun z => ⟨ht, fun z2 => w1 (by omega), fun z2 => ⟨hn, fun z3 => ?_, fun z3 => w1 (by omega)⟩⟩⟩
  have ok : isF v f ≠ 0 ∧ (0 ≤ t ∧ t < 4) ∧ 1 ≤ n ∧ n ≤ 60 := ⟨by rw [isF, if_pos z]; decide, by omega, by omega, by omega⟩
  refine ⟨by omega, fun z4 => ⟨by omega, fun z5 => ?_, fun z5 => ⟨rfl, by rw [whyY, if_pos ok, if_neg z4, if_pos (by omega)], rfl⟩⟩, fun z4 => ⟨rfl, by rw [whyY, if_pos ok, if_pos z4], rfl⟩⟩
  have w0 : whyY (iSl 1 (v 1)) (isF v f) (D 22) t n (D (17 + t.toNat)) = @ite Int (allOk (D (17 + t.toNat)) n (iSl 1 (v 1))) (Classical.propDecidable _) 0 1 := by rw [whyY, if_pos ok, if_neg z4, if_neg (by omega)]
  rw [w0]
  refine up_from (P := fun i => allOk (D (17 + t.toNat)) i (iSl 1 (v 1)) → KX9_whyNoYears l E _ 61 [(0, vR E 0), (1, vI f), (2, vI t), (3, vI n), (4, vI i)] G D) (lo := 0) (n := n) (by omega) ?_ ?_ (fun i a b => by omega)
  · intro hok
    exact s_X9_whyNoYears_61 hL ⟨by omega, fun _ => ⟨rfl, by rw [if_pos hok], rfl⟩, fun y => absurd y (by omega)⟩
  · intro i i0 i1 ih hok
    refine s_X9_whyNoYears_61 hL ?_
    rw [e1]
    refine ⟨by omega, fun y => absurd y (by omega), fun _ => ⟨by omega, fun y => ⟨rfl, ?_, rfl⟩, fun y => ⟨fun y2 => ih (fun j a b => ?_), fun y2 => ⟨rfl, ?_, rfl⟩⟩⟩⟩
    · rw [if_neg (fun q => by have := q i i0 i1; omega)]
    · by_cases q : j = i
      · subst q; exact ⟨y, y2⟩
      · exact hok j a (by omega)
    · rw [if_neg (fun q => by have := q i i0 i1; omega)]
theorem c_X10_wrongYears (hL : Lay G) (hv : wfV (D 108)) {g t n : Int} (hg : iRg g) (ht : iRg t) (hn : iRg n) : C0 l E MX10_wrongYears 0 [vR E 107, vI g, vI t, vI n] G D (fun r D' => r = whyY (iSl 1 (D 108 1)) g (D 110) t n (fun i => D 111 ((60 * t) + i)) ∧ D' = D) := by
  have hlb := lotsB (wfH hv)
  have w1 : ¬ (g ≠ 0 ∧ (0 ≤ t ∧ t < 4) ∧ 1 ≤ n ∧ n ≤ 60) → (G = G ∧ 1 = whyY (iSl 1 (D 108 1)) g (D 110) t n (fun i => D 111 ((60 * t) + i)) ∧ D = D) := fun z => ⟨rfl, by rw [whyY, if_neg z], rfl⟩
  refine s_X10_wrongYears hL ⟨hg, fun z => w1 (by omega), fun z => ⟨ht, fun z2 => w1 (by omega), fun z2 => ⟨hn, fun z3 => w1 (by omega), fun z3 => ⟨fun z4 => ?_, fun z4 => w1 (by omega)⟩⟩⟩⟩
  have ok : g ≠ 0 ∧ (0 ≤ t ∧ t < 4) ∧ 1 ≤ n ∧ n ≤ 60 := ⟨z, z2, z3, z4⟩
  refine ⟨z2, fun z5 => ⟨fun z6 => ?_, fun z6 => ⟨rfl, by rw [whyY, if_pos ok, if_neg z5, if_pos z6], rfl⟩⟩, fun z5 => ⟨rfl, by rw [whyY, if_pos ok, if_pos z5], rfl⟩⟩
  have w0 : whyY (iSl 1 (D 108 1)) g (D 110) t n (fun i => D 111 ((60 * t) + i)) = @ite Int (allOk (fun i => D 111 ((60 * t) + i)) n (iSl 1 (D 108 1))) (Classical.propDecidable _) 0 1 := by rw [whyY, if_pos ok, if_neg z5, if_neg (by omega)]
  rw [w0]
  refine up_from (P := fun i => ∀ b : Int, (b = 1 ∧ allOk (fun i => D 111 ((60 * t) + i)) i (iSl 1 (D 108 1))) ∨ (b = 0 ∧ ¬ allOk (fun i => D 111 ((60 * t) + i)) n (iSl 1 (D 108 1))) → KX10_wrongYears l E _ 54 [(0, vR E 107), (1, vI g), (2, vI t), (3, vI n), (4, vI b), (5, vI i)] G D) (lo := 0) (n := n) (by omega) ?_ ?_ 1 (Or.inl ⟨rfl, fun i a b => by omega⟩)
  · intro b hb
    refine s_X10_wrongYears_54 hL ⟨by omega, fun _ => ⟨by omega, fun q => ⟨rfl, ?_, rfl⟩, fun q => ⟨rfl, ?_, rfl⟩⟩, fun y => absurd y (by omega)⟩
    · rcases hb with ⟨h1, _⟩ | ⟨_, h2⟩
      · omega
      · rw [if_neg h2]
    · rcases hb with ⟨_, h2⟩ | ⟨h1, _⟩
      · rw [if_pos h2]
      · omega
  · intro i i0 i1 ih b hb
    refine s_X10_wrongYears_54 hL ⟨by omega, fun y => absurd y (by omega), fun _ => ⟨by omega, fun q => ih 0 ?_, fun q => ⟨by omega, fun y => ih 0 ?_, fun y => ih 1 ?_⟩⟩⟩
    · rcases hb with ⟨h1, _⟩ | ⟨_, h2⟩
      · omega
      · exact Or.inr ⟨rfl, h2⟩
    · refine Or.inr ⟨rfl, fun h => y ?_⟩
      rw [jiSl (wfH hv)]
      exact h i i0 i1
    · rw [jiSl (wfH hv)] at y
      rcases hb with ⟨_, h2⟩ | ⟨h1, _⟩
      · refine Or.inl ⟨rfl, fun j a b => ?_⟩
        by_cases q2 : j = i
        · subst q2; exact y
        · exact h2 j a (by omega)
      · omega
theorem c_X5_hungryYears (hL : Lay G) (hv : wfV v) (hR : Rd v G D) {f t n : Int} (hf : 0 ≤ f ∧ f < v 2) {S : Nat} (hS : S < 2 ^ (v 0).toNat) (ht : 0 ≤ t ∧ t < 4) (hn : 0 ≤ n ∧ n ≤ 60) (hok : allOk (D (17 + t.toNat)) n (iSl 1 (v 1))) : C0 l E MX5_hungryYears 0 [vR E 42, vI f, vI S, vR E (17 + t.toNat), vI n] G D (fun r D' => r = hyS v f S (D (17 + t.toNat)) n ∧ offC 44 D D') := by
  have hF := wfF hv
  have hlb := lotsB (wfH hv)
  have hn2 := wff hv hf.1 hf.2
  refine s_X5_hungryYears hL (lay_rowT hL ht) ?_
  refine C0.use (c_X5_fillNets hL hv hR hf hS (by decide)) ?_
  rintro - D1 ⟨hnt, ho⟩
  try dsimp only
  have hs := (off_kS ho).s
  have hR1 := hs.ready hL hR
  have e1 : D1 1 1 = v 1 := hR1.1.2.1
  have ey : D1 (17 + t.toNat) = D (17 + t.toNat) := ho _ (by omega)
  have en : D1 13 f = v ((88 + (3 * f)) + 2) := (CV_f hR1.1 hf.1 hf.2).2.2
  refine up_from (P := fun i => KX5_hungryYears l E _ 13 [(0, vR E 42), (1, vI f), (2, vI S), (3, vR E (17 + t.toNat)), (4, vI n), (5, vI (sz (hyI v f S (D (17 + t.toNat))) i.toNat)), (6, vI i)] G D1) (lo := 0) (n := n) (by omega) ?_ ?_
  · exact s_X5_hungryYears_13 hL (lay_rowT hL ht) ⟨by omega, fun _ => ⟨rfl, rfl, ho⟩, fun y => absurd y (by omega)⟩
  · intro i i0 i1 ih
    rw [sz_s _ i0, hyI] at ih
    have hy := hok i i0 i1
    refine s_X5_hungryYears_13 hL (lay_rowT hL ht) ?_
    rw [ey, e1, en, hnt _ hy.1 hy.2]
    refine ⟨by omega, fun y => absurd y (by omega), fun _ => ⟨by omega, fun y => absurd hy y, fun y => ⟨by omega, fun q => ?_, fun q => ?_⟩⟩⟩
    · rw [if_neg (by omega), Int.add_zero] at ih
      exact ih
    · rw [if_pos q] at ih
      exact ih
theorem c_X10_starvesIn (hL : Lay G) (hv : wfV (D 108)) (hh : D 107 20 = 0) {f t n : Int} (hf : 0 ≤ f ∧ f < D 108 2) {S : Nat} (hS : S < 2 ^ (D 108 0).toNat) (ht : 0 ≤ t ∧ t < 4) (hn : 0 ≤ n ∧ n ≤ 60) : C0 l E MX10_starvesIn 0 [vR E 107, vI f, vI S, vI t, vI n] G D (fun r D' => r = hyS (D 108) f S (fun i => D 111 ((60 * t) + i)) n ∧ rS D D') := by
  have hF := wfF hv
  have hc := cost_b hv hf hS
  refine s_X10_starvesIn hL ?_
  refine C0.use (c_X10_goesRound hL hv hf hS) ?_
  rintro - D1 ⟨hway, hm⟩
  try dsimp only
  have e := hm.at
  have eh := hm.hv
  have e3 : ∀ i, D1 111 i = D 111 i := fun i => hm 111 i (by simp [scrR])
  refine up_from (P := fun i => KX10_starvesIn l E _ 12 [(0, vR E 107), (1, vI f), (2, vI S), (3, vI t), (4, vI n), (5, vI (sz (hyI (D 108) f S (fun i => D 111 ((60 * t) + i))) i.toNat)), (6, vI i)] G D1) (lo := 0) (n := n) (by omega) ?_ ?_
  · exact s_X10_starvesIn_12 hL ⟨by omega, fun _ => ⟨rfl, rfl, hm⟩, fun y => absurd y (by omega)⟩
  · intro i i0 i1 ih
    rw [sz_s _ i0, hyI] at ih
    refine s_X10_starvesIn_12 hL ⟨by omega, fun y => absurd y (by omega), fun _ => ⟨by omega, ?_⟩⟩
    refine C0.use (c_X10_netOf hL (by rw [e]; exact hv) (by rw [eh, hh]; decide) (by rw [hway]; exact hc) S (D1 111 ((60 * t) + i))) ?_
    rintro r D2 ⟨rfl, rfl⟩
    try dsimp only
    rw [e, eh, hh, hway, e3]
    have hnb := net_b (hh := 0) (w := costS (D 108) f S) (set := S) (lot := D 111 ((60 * t) + i)) hv (by decide) hc
    refine ⟨by omega, fun q => ?_, fun q => ?_⟩
    · rw [if_neg (by omega)] at ih
      exact ih
    · rw [if_pos q] at ih
      exact ih
theorem c_X9_starved (hL : Lay G) (hv : wfV v) (hC : CV 1 v D) (hO : CVo 1 v D) (hI : RI v G D) {f t n : Int} (hf : iRg f) (ht : iRg t) (hn : iRg n) (ha : a = q_starved v (D 22) (D (17 + t.toNat)) f t n) : Ct l E MX9_starved 0 (mcR G v) (msR G v) [vR E 0, vI f, vI t, vI n] G D (cP v G D a) := by
  refine s_X9_starved hL ?_
  refine C0.use (c_X9_whyNoYears hL hv hC hf ht hn) ?_
  rintro r D1 ⟨rfl, rfl⟩
  try dsimp only
  have hb := whyY_b (iSl 1 (v 1)) (isF v f) (D1 22) t n (D1 (17 + t.toNat))
  refine ⟨by omega, fun q => ?_, fun q => cP.no hL hI (by rw [ha, q_starved, if_neg q]) yS.rf (Or.inl rfl)⟩
  rw [q_starved, if_pos q] at ha
  obtain ⟨⟨z1, z2, z3⟩, z4, z5, z6⟩ := whyY_0 q
  have hf2 : 0 ≤ f ∧ f < v 2 := Classical.byContradiction (fun z => z1 (by rw [isF, if_neg z]))
  refine (c_X5_ready hL hv hC hO hI).mono ?_
  rintro - G1 D2 ⟨hG1, hL1, hR1, hI1, hx1⟩
  refine ⟨hL1, ?_⟩
  refine C0.use (c_X8_heldBy hL1 hv hR1.1 f hf) ?_
  rintro r D3 ⟨rfl, rfl⟩
  try dsimp only
  have ey : D3 (17 + t.toNat) = D1 (17 + t.toNat) := hx1.c _ (by omega) (fun i => by simp only [scrX, scrC]; omega)
  refine ⟨z2, ?_⟩
  refine C0.use (c_X5_hungryYears hL1 hv hR1 hf2 (S := heldN v f) (setN_lt _ _) z2 (by omega) (by rw [ey]; exact z6)) ?_
  rintro r D4 ⟨rfl, ho4⟩
  try dsimp only
  have hs4 := (off_kS ho4).s
  rw [ey]
  exact cP.no hL1 (hI1.cs hL1 hs4) ha (hx1.y.tr hs4.y) (Or.inr hG1)
theorem c_X10_starved (hL : Lay G) (hv : wfV (D 108)) (hh : D 107 20 = 0) {f t n : Int} (hf : iRg f) (ht : iRg t) (hn : iRg n) (ha : a = q_starved (D 108) (D 110) (fun i => D 111 ((60 * t) + i)) f t n) : C0 l E MX10_starved 0 [vR E 107, vI f, vI t, vI n] G D (fun r D' => r = a.2.1 ∧ mQ D D' a) := by
  refine s_X10_starved hL ⟨hf, ?_⟩
  refine C0.use (c_X10_wrongYears hL hv (by split <;> decide) ht hn) ?_
  rintro r D1 ⟨rfl, rfl⟩
  try dsimp only
  have hb := whyY_b (iSl 1 (D1 108 1)) (isF (D1 108) f) (D1 110) t n (fun i => D1 111 ((60 * t) + i))
  change _ ∧ (whyY (iSl 1 (D1 108 1)) (isF (D1 108) f) (D1 110) t n (fun i => D1 111 ((60 * t) + i)) ≤ 0 → _) ∧ (0 < whyY (iSl 1 (D1 108 1)) (isF (D1 108) f) (D1 110) t n (fun i => D1 111 ((60 * t) + i)) → _)
  refine ⟨by unfold isF at hb; omega, fun q => ?_, fun q => ⟨rfl, mQ.no (by rw [ha, q_starved, if_neg (by omega)]; rfl) mS.rf⟩⟩
  have q0 : whyY (iSl 1 (D1 108 1)) (isF (D1 108) f) (D1 110) t n (fun i => D1 111 ((60 * t) + i)) = 0 := by omega
  rw [q_starved, if_pos q0] at ha
  obtain ⟨⟨z1, z2, z3⟩, z4, z5, z6⟩ := whyY_0 q0
  have hf2 : 0 ≤ f ∧ f < D1 108 2 := Classical.byContradiction (fun z => z1 (by rw [isF, if_neg z]))
  refine C0.use (c_X10_held hL hv f hf) ?_
  rintro r D2 ⟨rfl, rfl⟩
  try dsimp only
  refine C0.use (c_X10_starvesIn hL hv hh hf2 (S := heldN (D2 108) f) (setN_lt _ _) z2 (by omega)) ?_
  rintro r D3 ⟨rfl, hr3⟩
  try dsimp only
  exact ⟨rfl, mQ.no ha hr3.m⟩
end

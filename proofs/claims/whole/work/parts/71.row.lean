-- rows: filled, dealt; counting
abbrev Row : Type := Int → Int
def rwF (v : Vl) (s : Int) (p : Int × Row) : Int × Row := if v ((8 + (5 * s)) + 4) = -1 then p else (p.1 + 1, upV p.2 p.1 s)
def rwS (v : Vl) : Nat → Int × Row := fz (rwF v) (0, fun _ => 0)
def rowN (v : Vl) : Int := (rwS v (v 0).toNat).1
def rowX (v : Vl) : Row := (rwS v (v 0).toNat).2
/-- the first n places hold X -/
def rowIs (c : Nat) (D : Dm) (n : Int) (X : Row) : Prop := ∀ p, 0 ≤ p → p < n → D c p = X p
/-- the entries are strips -/
def rowB (n N : Int) (X : Row) : Prop := ∀ p, 0 ≤ p → p < n → 0 ≤ X p ∧ X p < N
theorem rwS_s (v : Vl) {i : Int} (h : 0 ≤ i) : rwS v (i + 1).toNat = rwF v i (rwS v i.toNat) := fz_s _ _ h
theorem rw_b (v : Vl) : ∀ k : Nat, (0 ≤ (rwS v k).1 ∧ (rwS v k).1 ≤ k) ∧ rowB (rwS v k).1 k (rwS v k).2 ∧ (∀ p q, 0 ≤ p → p < q → q < (rwS v k).1 → (rwS v k).2 p < (rwS v k).2 q) := by
  intro k
  induction k with
  | zero => exact ⟨⟨Int.le_refl _, Int.le_refl _⟩, fun p a b => absurd b (by show ¬ p < 0; omega), fun p q a b c => absurd c (by show ¬ q < 0; omega)⟩
  | succ k ih =>
    obtain ⟨h1, h2, h3⟩ := ih
    have e : rwS v (k + 1) = rwF v k (rwS v k) := rfl
    rw [e]
    generalize rwS v k = P at h1 h2 h3
    unfold rwF
    by_cases h : v ((8 + (5 * (k : Int))) + 4) = -1
    · rw [if_pos h]
      refine ⟨by omega, fun p a b => ?_, h3⟩
      have := h2 p a b; omega
    · rw [if_neg h]
      refine ⟨by dsimp only; omega, fun p a b => ?_, fun p q a b c => ?_⟩
      · dsimp only at b ⊢
        simp only [upV]
        by_cases z : p = P.1
        · rw [if_pos z]; omega
        · rw [if_neg z]; have := h2 p a (by omega); omega
      · dsimp only at c ⊢
        simp only [upV]
        rw [if_neg (show ¬ p = P.1 by omega)]
        by_cases z : q = P.1
        · rw [if_pos z]; have := h2 p a (by omega); omega
        · rw [if_neg z]; exact h3 p q a b (by omega)
theorem row_b {v : Vl} (hv : wfV v) : (0 ≤ rowN v ∧ rowN v ≤ v 0) ∧ rowB (rowN v) (v 0) (rowX v) ∧ (∀ p q, 0 ≤ p → p < q → q < rowN v → rowX v p < rowX v q) := by
  have hS := wfS hv
  obtain ⟨h1, h2, h3⟩ := rw_b v (v 0).toNat
  have e : (((v 0).toNat : Nat) : Int) = v 0 := by omega
  rw [e] at h1 h2
  exact ⟨h1, h2, h3⟩
/-- bits counted -/
def cnB (p : Int → Bool) (n : Nat) : Int := sz (fun s => if p s then 1 else 0) n
theorem pcT_bit (a : Nat) : (pcT a : Int) = cnB (fun i => a.testBit i.toNat) 10 := by
  have h : ∀ k d : Nat, 2 ^ k = d → (if a.testBit k then (1 : Int) else 0) = ((a / d % 2 : Nat) : Int) := by
    intro k d hd
    rw [Nat.testBit_eq_decide_div_mod_eq, hd]
    rcases Nat.mod_two_eq_zero_or_one (a / d) with q | q <;> rw [q] <;> rfl
  have e : cnB (fun i => a.testBit i.toNat) 10 = 0 + (if a.testBit 0 then (1 : Int) else 0) + (if a.testBit 1 then (1 : Int) else 0) + (if a.testBit 2 then (1 : Int) else 0) + (if a.testBit 3 then (1 : Int) else 0) + (if a.testBit 4 then (1 : Int) else 0) + (if a.testBit 5 then (1 : Int) else 0) + (if a.testBit 6 then (1 : Int) else 0) + (if a.testBit 7 then (1 : Int) else 0) + (if a.testBit 8 then (1 : Int) else 0) + (if a.testBit 9 then (1 : Int) else 0) := rfl
  rw [e, h 0 1 rfl, h 1 2 rfl, h 2 4 rfl, h 3 8 rfl, h 4 16 rfl, h 5 32 rfl, h 6 64 rfl, h 7 128 rfl, h 8 256 rfl, h 9 512 rfl, Nat.div_one, Int.zero_add]
  unfold pcT
  simp only [Int.natCast_add]
theorem cnB_cg {p q : Int → Bool} {n : Nat} (h : ∀ i : Int, 0 ≤ i → i < n → p i = q i) : cnB p n = cnB q n := sz_congr (fun i a b => by simp only [h i a b])
theorem cnB_tail (p : Int → Bool) (n : Nat) : ∀ k : Nat, cnB (fun i => decide (i < n) && p i) (n + k) = cnB p n := by
  intro k
  induction k with
  | zero => exact cnB_cg (fun i a b => by rw [decide_eq_true (show i < (n : Int) from b), Bool.true_and])
  | succ k ih =>
    have e : cnB (fun i => decide (i < n) && p i) (n + (k + 1)) = cnB (fun i => decide (i < n) && p i) (n + k) + (if (decide (((n + k : Nat) : Int) < n) && p ((n + k : Nat) : Int)) then 1 else 0) := rfl
    rw [e, ih, decide_eq_false (by omega), Bool.false_and]
    simp
theorem pcT_set (p : Int → Bool) {n : Nat} (h : n ≤ 10) : (pcT (setN p n) : Int) = cnB p n := by
  rw [pcT_bit, ← cnB_tail p n (10 - n), show n + (10 - n) = 10 by omega]
  refine cnB_cg (fun i a b => ?_)
  rw [setN_bit]
  have e : ((i.toNat : Nat) : Int) = i := by omega
  have e2 : decide (i.toNat < n) = decide (i < (n : Int)) := by apply decide_eq_decide.2; omega
  rw [e, e2]
theorem one_hot (o : Int) : ∀ F : Nat, sz (fun g => if o = g then 1 else 0) F = if 0 ≤ o ∧ o < F then 1 else 0 := by
  intro F
  induction F with
  | zero => rw [sz_0, if_neg (by omega)]
  | succ F ih =>
    rw [sz_n, ih]
    by_cases h : o = F
    · rw [if_pos h, if_neg (by omega), if_pos (by omega)]; rfl
    · rw [if_neg h]
      by_cases h2 : 0 ≤ o ∧ o < F
      · rw [if_pos h2, if_pos (by omega)]; rfl
      · rw [if_neg h2, if_neg (by omega)]; rfl
/-- how many the families ahead hold -/
def frS (v : Vl) (f : Int) : Int := sz (fun g => ((pcT (heldN v g) : Nat) : Int)) f.toNat
theorem fr_row {v : Vl} (hv : wfV v) : ∀ k : Nat, (k : Int) ≤ v 0 → sz (fun g => cnB (fun s => decide (v ((8 + (5 * s)) + 4) = g)) k) (v 2).toNat = (rwS v k).1 := by
  intro k
  induction k with
  | zero =>
    intro _
    have : sz (fun g => cnB (fun s => decide (v ((8 + (5 * s)) + 4) = g)) 0) (v 2).toNat = sz (fun _ => 0 * (0 : Int)) (v 2).toNat := sz_congr (fun _ _ _ => rfl)
    rw [this, sz_mul]; simp; rfl
  | succ k ih =>
    intro hk
    have hs := wfs hv (s := k) (by omega) (by omega)
    have hF := wfF hv
    have e : sz (fun g => cnB (fun s => decide (v ((8 + (5 * s)) + 4) = g)) (k + 1)) (v 2).toNat = sz (fun g => cnB (fun s => decide (v ((8 + (5 * s)) + 4) = g)) k + (if v ((8 + (5 * (k : Int))) + 4) = g then 1 else 0)) (v 2).toNat := by
      refine sz_congr (fun g _ _ => ?_)
      show cnB _ k + (if decide (v ((8 + (5 * (k : Int))) + 4) = g) = true then 1 else 0) = _
      simp only [decide_eq_true_eq]
    rw [e, sz_add, ih (by omega), one_hot]
    show _ = (rwF v k (rwS v k)).1
    unfold rwF
    by_cases h : v ((8 + (5 * (k : Int))) + 4) = -1
    · rw [if_pos h, if_neg (by omega), Int.add_zero]
    · rw [if_neg h, if_pos (by omega)]
theorem fr_all {v : Vl} (hv : wfV v) : frS v (v 2) = rowN v := by
  have hS := wfS hv
  unfold rowN
  rw [← fr_row hv (v 0).toNat (by omega)]
  unfold frS
  refine sz_congr (fun g _ _ => ?_)
  unfold heldN
  exact pcT_set _ (by omega)
theorem fr_s (v : Vl) {f : Int} (h : 0 ≤ f) : frS v (f + 1) = frS v f + ((pcT (heldN v f) : Nat) : Int) := sz_s _ h
theorem fr_mono (v : Vl) {f g : Int} (h0 : 0 ≤ f) (h : f ≤ g) : 0 ≤ frS v f ∧ frS v f ≤ frS v g := by
  constructor
  · have := sz_bnd (f := fun g => ((pcT (heldN v g) : Nat) : Int)) (n := f.toNat) (a := 0) (b := 10) (fun i _ _ => by have := pcT_le (heldN v i); omega)
    unfold frS; omega
  · refine up_from (P := fun k => frS v k ≤ frS v g) (lo := f) (n := g) h (Int.le_refl _) ?_
    intro i i0 i1 ih
    rw [fr_s v (by omega)] at ih
    omega
theorem fr_le {v : Vl} (hv : wfV v) {f : Int} (h : 0 ≤ f ∧ f < v 2) : 0 ≤ frS v f ∧ frS v f + ((pcT (heldN v f) : Nat) : Int) ≤ rowN v := by
  have h1 := fr_mono v h.1 (Int.le_refl f)
  have h2 := fr_mono v (f := f + 1) (g := v 2) (by omega) (by omega)
  rw [fr_s v h.1, fr_all hv] at h2
  exact ⟨h1.1, h2.2⟩
/-- the set of k places from a on -/
def orN (X : Row) (a : Int) : Nat → Nat
  | 0 => 0
  | k + 1 => orN X a k ||| 2 ^ (X (a + k)).toNat
theorem orN_lt {X : Row} {a n N : Int} (hX : rowB n N X) (ha : 0 ≤ a) : ∀ k : Nat, a + k ≤ n → orN X a k < 2 ^ N.toNat := by
  intro k
  induction k with
  | zero => intro _; exact Nat.two_pow_pos _
  | succ k ih =>
    intro h
    have h1 := hX (a + k) (by omega) (by omega)
    exact Nat.or_lt_two_pow (ih (by omega)) (Nat.pow_lt_pow_right (by decide) (by omega))
theorem orN_I {X : Row} {a n N : Int} (hX : rowB n N X) (ha : 0 ≤ a) (hN : N ≤ 10) {k : Nat} (h : a + k < n) : iO (orN X a k : Nat) (iSl 1 (X (a + k))) = ((orN X a (k + 1) : Nat) : Int) := by
  have h1 := hX (a + k) (by omega) h
  have h2 := orN_lt hX ha k (by omega)
  have h3 : 2 ^ N.toNat ≤ 2 ^ 10 := Nat.pow_le_pow_right (by decide) (by omega)
  have h4 : 2 ^ (X (a + k)).toNat < 2 ^ 10 := Nat.pow_lt_pow_right (by decide) (by omega)
  rw [iSl1 (by omega), iO_nat _ _ (by omega) (by omega)]
  rfl
def dlN (v : Vl) (X : Row) (f : Int) : Nat := orN X (frS v f) (pcT (heldN v f))
section
variable {l : Launch} {E : Ev} {G : Sh} {D : Dm} {v : Vl} {a : Ans}
theorem c_X2_fillRow (hL : Lay G) (hv : wfV v) (hC : CV 1 v D) : C0 l E MX2_fillRow 2 [vR E 66] G D (fun _ D' => D' 66 3 = rowN v ∧ rowIs 67 D' (rowN v) (rowX v) ∧ D' 66 4 = D 66 4 ∧ cS D D') := by
  have hS := wfS hv
  refine s_X2_fillRow hL ?_
  refine up_from (P := fun s => ∀ D', D' 66 3 = (rwS v s.toNat).1 → rowIs 67 D' (rwS v s.toNat).1 (rwS v s.toNat).2 → D' 66 4 = D 66 4 → cS D D' → KX2_fillRow l E _ 7 [(0, vR E 66), (1, vI s)] G D') (lo := 0) (n := v 0) (by omega) ?_ ?_ _ (upd2_same _ _ _ _) (fun p a b => absurd b (by show ¬ p < 0; omega)) (by rw [upd2_place _ _ _ (by decide)]) (cS.rf.up (by simp [scrC]) _)
  · intro D' h1 h2 h3 hs
    have e0 : D' 1 0 = v 0 := (hs.land hC).1
    exact s_X2_fillRow_7 hL ⟨by omega, fun _ => ⟨rfl, h1, h2, h3, hs⟩, fun z => absurd z (by omega)⟩
  · intro s s0 s1 ih D' h1 h2 h3 hs
    have hC' := hs.land hC
    have e0 : D' 1 0 = v 0 := hC'.1
    have e6 : D' 6 s = v ((8 + (5 * s)) + 4) := (CV_s hC' s0 s1).2.2.2.2
    have hb := (rw_b v s.toNat).1
    rw [rwS_s v s0] at ih
    unfold rwF at ih
    refine s_X2_fillRow_7 hL ?_
    rw [e6]
    refine ⟨by omega, fun z => absurd z (by omega), fun _ => ⟨by omega, fun z => ?_, fun z => ⟨by omega, ?_⟩⟩⟩
    · rw [if_pos z] at ih
      exact ih D' h1 h2 h3 hs
    · rw [if_neg z] at ih
      rw [h1]
      refine ih _ (upd2_same _ _ _ _) (fun p a b => ?_) ?_ ((hs.up (by simp [scrC]) _).up (by simp [scrC]) _)
      · rw [upd2_cell _ _ _ _ (by decide)]
        dsimp only at b
        simp only [upd2, upV]
        by_cases q : p = (rwS v s.toNat).1
        · rw [if_pos ⟨trivial, q⟩, if_pos q]
        · rw [if_neg (fun z => q z.2), if_neg q]; exact h2 p a (by omega)
      · rw [upd2_place _ _ _ (by decide), upd2_cell _ _ _ _ (by decide)]; exact h3
theorem c_X10_laysRow (hL : Lay G) (hv : wfV (D 108)) : C0 l E MX10_laysRow 2 [vR E 107] G D (fun _ D' => D' 107 36 = rowN (D 108) ∧ rowIs 123 D' (rowN (D 108)) (rowX (D 108)) ∧ mS D D') := by
  have hS := wfS hv
  refine s_X10_laysRow hL ?_
  refine up_from (P := fun s => ∀ D', D' 107 36 = (rwS (D 108) s.toNat).1 → rowIs 123 D' (rwS (D 108) s.toNat).1 (rwS (D 108) s.toNat).2 → mS D D' → KX10_laysRow l E _ 7 [(0, vR E 107), (1, vI s)] G D') (lo := 0) (n := D 108 0) (by omega) ?_ ?_ _ (upd2_same _ _ _ _) (fun p a b => absurd b (by show ¬ p < 0; omega)) (mS.rf.up (by simp [scrM]) _)
  · intro D' h1 h2 hs
    have e := hs.at
    exact s_X10_laysRow_7 hL ⟨by omega, fun _ => ⟨rfl, h1, h2, hs⟩, fun z => absurd z (by rw [e]; omega)⟩
  · intro s s0 s1 ih D' h1 h2 hs
    have e := hs.at
    have hb := (rw_b (D 108) s.toNat).1
    rw [rwS_s (D 108) s0] at ih
    unfold rwF at ih
    refine s_X10_laysRow_7 hL ?_
    rw [e]
    refine ⟨by omega, fun z => absurd z (by omega), fun _ => ⟨by omega, fun z => ⟨by omega, ?_⟩, fun z => ?_⟩⟩
    · rw [if_neg z] at ih
      rw [h1]
      refine ih _ (upd2_same _ _ _ _) (fun p a b => ?_) ((hs.up (by simp [scrM]) _).up (by simp [scrM]) _)
      rw [upd2_cell _ _ _ _ (by decide)]
      dsimp only at b
      simp only [upd2, upV]
      by_cases q : p = (rwS (D 108) s.toNat).1
      · rw [if_pos ⟨trivial, q⟩, if_pos q]
      · rw [if_neg (fun z => q z.2), if_neg q]; exact h2 p a (by omega)
    · rw [if_pos z] at ih
      exact ih D' h1 h2 hs
theorem c_X2_dealtTo (hL : Lay G) (hv : wfV v) (hC : CV 1 v D) {X : Row} (hn : D 66 3 = rowN v) (hX : rowIs 67 D (rowN v) X) (hB : rowB (rowN v) (v 0) X) {f : Int} (hf : 0 ≤ f ∧ f < v 2) : C0 l E MX2_dealtTo 0 [vR E 66, vI f] G D (fun r D' => r = (dlN v X f : Nat) ∧ D' = D) := by
  have hS := wfS hv
  have hF := wfF hv
  have h10 := two_le hS
  have hrb := (row_b hv).1
  have hfr := fr_le hv hf
  have hl : ∀ g, heldN v g < 1024 := fun g => by have : heldN v g < 2 ^ (v 0).toNat := setN_lt _ _; omega
  refine s_X2_dealtTo hL ?_
  refine up_from (P := fun g => KX2_dealtTo l E _ 4 [(0, vR E 66), (1, vI f), (2, vI (frS v g)), (3, vI g)] G D) (lo := 0) (n := f) hf.1 ?_ ?_
  · refine s_X2_dealtTo_4 hL ⟨by omega, fun _ => ?_, fun z => absurd z (by omega)⟩
    refine C0.use (c_X8_heldBy hL hv hC f (by omega)) ?_
    rintro r D1 ⟨rfl, rfl⟩
    try dsimp only
    refine C0.use (c_J6_bitCount hL (hl f)) ?_
    rintro r D2 ⟨rfl, rfl⟩
    try dsimp only
    rw [hn]
    refine ⟨by omega, ?_⟩
    rw [Int.min_eq_right hfr.2]
    refine up_from (P := fun i => ∀ k : Nat, i = frS v f + k → KX2_dealtTo l E _ 56 [(0, vR E 66), (1, vI f), (2, vI (frS v f)), (3, vI (frS v f + (pcT (heldN v f) : Nat))), (4, vI (orN X (frS v f) k : Nat)), (5, vI i)] G D2) (lo := frS v f) (n := frS v f + (pcT (heldN v f) : Nat)) (by omega) ?_ ?_ 0 (by omega)
    · intro k hk
      have e : k = pcT (heldN v f) := by omega
      subst e
      exact s_X2_dealtTo_56 hL ⟨by omega, fun _ => ⟨rfl, rfl, rfl⟩, fun z => absurd z (by omega)⟩
    · intro i i0 i1 ih k hk
      refine s_X2_dealtTo_56 hL ⟨by omega, fun z => absurd z (by omega), fun _ => ⟨by omega, ?_⟩⟩
      rw [hX i (by omega) (by omega), hk, orN_I hB hfr.1 hS.2 (by omega), ← hk]
      exact ih (k + 1) (by omega)
  · intro g g0 g1 ih
    refine s_X2_dealtTo_4 hL ⟨by omega, fun z => absurd z (by omega), fun _ => ?_⟩
    refine C0.use (c_X8_heldBy hL hv hC g (by omega)) ?_
    rintro r D1 ⟨rfl, rfl⟩
    try dsimp only
    refine C0.use (c_J6_bitCount hL (hl g)) ?_
    rintro r D2 ⟨rfl, rfl⟩
    try dsimp only
    rw [fr_s v g0] at ih
    exact ih
theorem deals_go {Q : Int → Sh → Dm → Prop} {x y f j : Int} (h : KX10_deals l E Q 30 [(0, vR E 107), (1, vI x), (2, vI f), (3, vI j)] G D) (e : x = y) : KX10_deals l E Q 30 [(0, vR E 107), (1, vI y), (2, vI f), (3, vI j)] G D := e ▸ h
theorem c_X10_deals (hL : Lay G) (hv : wfV (D 108)) {X : Row} (hX : rowIs 123 D (rowN (D 108)) X) (hB : rowB (rowN (D 108)) (D 108 0) X) : C0 l E MX10_deals 2 [vR E 107] G D (fun _ D' => (∀ f, 0 ≤ f → f < D 108 2 → D' 124 f = (dlN (D 108) X f : Nat)) ∧ mS D D') := by
  have hS := wfS hv
  have hF := wfF hv
  have h10 := two_le hS
  have hrb := (row_b hv).1
  have hl : ∀ g, heldN (D 108) g < 1024 := fun g => by have : heldN (D 108) g < 2 ^ (D 108 0).toNat := setN_lt _ _; omega
  refine s_X10_deals hL ?_
  refine up_from (P := fun f => ∀ D', offC 124 D D' → (∀ g, 0 ≤ g → g < f → D' 124 g = (dlN (D 108) X g : Nat)) → KX10_deals l E _ 4 [(0, vR E 107), (1, vI (frS (D 108) f)), (2, vI f)] G D') (lo := 0) (n := D 108 2) hF.1 ?_ ?_ D offC.rf (fun g a b => by omega)
  · intro D' ho hd
    have e : D' 108 = D 108 := ho 108 (by decide)
    exact s_X10_deals_4 hL ⟨by omega, fun _ => ⟨rfl, hd, mS.rf.off (fun i => by simp [scrM]) ho⟩, fun z => absurd z (by rw [e]; omega)⟩
  · intro f f0 f1 ih D' ho hd
    have e : D' 108 = D 108 := ho 108 (by decide)
    have hfr := fr_le hv ⟨f0, f1⟩
    refine s_X10_deals_4 hL ⟨by omega, fun z => absurd z (by rw [e]; omega), fun _ => ⟨by omega, ?_⟩⟩
    have e2 : upd2 D' 124 f 0 108 = D 108 := by rw [← e]; funext i; exact upd2_cell _ _ _ _ (by decide)
    refine C0.use (c_X10_held hL (by rw [e2]; exact hv) f (by omega)) ?_
    rintro r D1 ⟨rfl, rfl⟩
    try dsimp only
    rw [e2]
    refine C0.use (c_X10_bits hL (hl f)) ?_
    rintro r D2 ⟨rfl, rfl⟩
    try dsimp only
    refine deals_go (x := frS (D 108) f + 0) ?_ (by omega)
    refine up_from (P := fun i => ∀ (k : Nat) (j : Int) (D3 : Dm), i = k → j = (pcT (heldN (D 108) f) : Nat) - i → offC 124 D D3 → (∀ g, 0 ≤ g → g < f → D3 124 g = (dlN (D 108) X g : Nat)) → D3 124 f = (orN X (frS (D 108) f) k : Nat) → KX10_deals l E _ 30 [(0, vR E 107), (1, vI (frS (D 108) f + i)), (2, vI f), (3, vI j)] G D3) (lo := 0) (n := (pcT (heldN (D 108) f) : Nat)) (by omega) ?_ ?_ 0 _ _ rfl (by omega) (ho.up _ _) (fun g a b => by rw [upd2_place _ _ _ (by omega)]; exact hd g a b) (upd2_same _ _ _ _)
    · intro k j D3 hk hj ho3 hd3 hf3
      refine s_X10_deals_30 hL ⟨by omega, fun _ => ?_, fun z => absurd z (by omega)⟩
      rw [← fr_s (D 108) f0]
      refine ih D3 ho3 (fun g a b => ?_)
      by_cases q : g = f
      · subst q; rw [hf3, dlN, show k = pcT (heldN (D 108) g) by omega]
      · exact hd3 g a (by omega)
    · intro i i0 i1 ih2 k j D3 hk hj ho3 hd3 hf3
      have e3 : D3 123 = D 123 := ho3 123 (by decide)
      refine s_X10_deals_30 hL ⟨by omega, fun z => absurd z (by omega), fun _ => ⟨by omega, ?_⟩⟩
      rw [hf3, e3, hX (frS (D 108) f + i) (by omega) (by omega), hk, orN_I hB hfr.1 hS.2 (by omega), ← hk, Int.add_assoc]
      refine ih2 (k + 1) _ _ (by omega) (by omega) (ho3.up _ _) (fun g a b => ?_) (upd2_same _ _ _ _)
      rw [upd2_place _ _ _ (by omega)]; exact hd3 g a b
end

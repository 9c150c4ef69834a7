/-! ===== the class's tables ===== -/
def off2 (a b : Nat) (D D' : Dm) : Prop := ∀ c', c' ≠ a → c' ≠ b → D' c' = D c'
theorem off2.rf {a b : Nat} {D : Dm} : off2 a b D D := fun _ _ _ => rfl
theorem off2.tr {a b : Nat} {D D1 D2 : Dm} (h : off2 a b D D1) (h2 : off2 a b D1 D2) : off2 a b D D2 := fun c' p q => (h2 c' p q).trans (h c' p q)
theorem off2.upA {a b : Nat} {D D1 : Dm} (h : off2 a b D D1) (i x : Int) : off2 a b D (upd2 D1 a i x) := fun c' p q => by rw [← h c' p q]; funext j; exact upd2_cell D1 i x j p
theorem off2.upB {a b : Nat} {D D1 : Dm} (h : off2 a b D D1) (i x : Int) : off2 a b D (upd2 D1 b i x) := fun c' p q => by rw [← h c' p q]; funext j; exact upd2_cell D1 i x j q
theorem wyc_ne {G : Sh} (hL : Lay G) : (wyc G = 48 ∨ 125 ≤ wyc G) ∧ rdc G ≠ wyc G := by rcases hL.2.2.2.2.2.2.2.2.1 with h | h <;> omega
section C4
variable {l : Launch} {E : Ev} {G : Sh} {D : Dm} {v : Vl}
theorem c_X5_fillKept (hL : Lay G) (hv : wfV v) (hC : CV 1 v D) : C0 l E MX5_fillKept 2 [vR E 42] G D (fun _ D' => offC 45 D D' ∧ ∀ s lot, 0 ≤ s → s < v 0 → 0 ≤ lot → lot < iSl 1 (v 1) → D' 45 ((s * 64) + lot) = 8 - min 8 (tkS v s lot)) := by
  have hs := wfS hv
  have hlb := lotsB (wfH hv)
  refine s_X5_fillKept hL ?_
  refine up_from (P := fun i => ∀ D', offC 45 D D' → (∀ s lot, 0 ≤ s → s < i → 0 ≤ lot → lot < iSl 1 (v 1) → D' 45 ((s * 64) + lot) = 8 - min 8 (tkS v s lot)) → KX5_fillKept l E _ 2 [(0, vR E 42), (1, vI i)] G D') (lo := 0) (n := v 0) (by omega) ?_ ?_ D offC.rf (fun s lot a b => by omega)
  · intro D' ho h1
    have e0 : D' 1 0 = v 0 := by rw [ho 1 (by decide)]; exact hC.1
    exact s_X5_fillKept_2 hL ⟨by omega, fun _ => ⟨rfl, ho, h1⟩, fun h => absurd h (by omega)⟩
  · intro i i0 i1 ih D' ho h1
    have e0 : D' 1 0 = v 0 := by rw [ho 1 (by decide)]; exact hC.1
    refine s_X5_fillKept_2 hL ⟨by omega, fun h => absurd h (by omega), fun _ => ?_⟩
    refine up_from (P := fun j => ∀ D', offC 45 D D' → (∀ s lot, 0 ≤ s → s < i → 0 ≤ lot → lot < iSl 1 (v 1) → D' 45 ((s * 64) + lot) = 8 - min 8 (tkS v s lot)) → (∀ lot, 0 ≤ lot → lot < j → D' 45 ((i * 64) + lot) = 8 - min 8 (tkS v i lot)) → KX5_fillKept l E _ 15 [(0, vR E 42), (1, vI i), (2, vI j)] G D') (lo := 0) (n := iSl 1 (v 1)) (by omega) ?_ ?_ D' ho h1 (fun lot a b => by omega)
    · intro D' ho h1 h2
      have e1 : D' 1 1 = v 1 := by rw [ho 1 (by decide)]; exact hC.2.1
      refine s_X5_fillKept_15 hL ⟨by omega, fun _ => ih D' ho (fun s lot a b c d => ?_), fun h => absurd h (by rw [e1]; omega)⟩
      by_cases e : s = i
      · subst e; exact h2 lot c d
      · exact h1 s lot a (by omega) c d
    · intro j j0 j1 ih2 D' ho h1 h2
      have e1 : D' 1 1 = v 1 := by rw [ho 1 (by decide)]; exact hC.2.1
      refine s_X5_fillKept_15 hL ⟨by omega, fun h => absurd h (by rw [e1]; omega), fun _ => ?_⟩
      refine C0.use (c_X5_eighthsKept hL hv (hC.same (fun j hj => ho _ (by omega))) i j ⟨i0, i1⟩) ?_
      rintro r D2 ⟨rfl, rfl⟩
      have ht := tk_b hv i j (v 1).toNat (Nat.le_refl _)
      refine ⟨⟨by omega, by unfold tkS; omega⟩, ih2 _ (ho.up _ _) (fun s lot a b c d => ?_) (fun lot a b => ?_)⟩
      · rw [upd2_place _ _ _ (by omega)]; exact h1 s lot a b c d
      · by_cases e : lot = j
        · subst e; exact upd2_same _ _ _ _
        · rw [upd2_place _ _ _ (by omega)]; exact h2 lot a (by omega)
theorem c_X5_fillApart (hL : Lay G) (hv : wfV v) (hC : CV 1 v D) : C0 l E MX5_fillApart 2 [vR E 42] G D (fun _ D' => offC 46 D D' ∧ ∀ s t, 0 ≤ s → s < v 0 → 0 ≤ t → t < v 0 → D' 46 ((s * 10) + t) = apS v s t) := by
  have hs := wfS hv
  refine s_X5_fillApart hL ?_
  refine up_from (P := fun i => ∀ D', offC 46 D D' → (∀ s t, 0 ≤ s → s < i → 0 ≤ t → t < v 0 → D' 46 ((s * 10) + t) = apS v s t) → KX5_fillApart l E _ 2 [(0, vR E 42), (1, vI i)] G D') (lo := 0) (n := v 0) (by omega) ?_ ?_ D offC.rf (fun s t a b => by omega)
  · intro D' ho h1
    have e0 : D' 1 0 = v 0 := by rw [ho 1 (by decide)]; exact hC.1
    exact s_X5_fillApart_2 hL ⟨by omega, fun _ => ⟨rfl, ho, h1⟩, fun h => absurd h (by omega)⟩
  · intro i i0 i1 ih D' ho h1
    have e0 : D' 1 0 = v 0 := by rw [ho 1 (by decide)]; exact hC.1
    refine s_X5_fillApart_2 hL ⟨by omega, fun h => absurd h (by omega), fun _ => ?_⟩
    refine up_from (P := fun j => ∀ D', offC 46 D D' → (∀ s t, 0 ≤ s → s < i → 0 ≤ t → t < v 0 → D' 46 ((s * 10) + t) = apS v s t) → (∀ t, 0 ≤ t → t < j → D' 46 ((i * 10) + t) = apS v i t) → KX5_fillApart l E _ 15 [(0, vR E 42), (1, vI i), (2, vI j)] G D') (lo := 0) (n := v 0) (by omega) ?_ ?_ D' ho h1 (fun t a b => by omega)
    · intro D' ho h1 h2
      have e0 : D' 1 0 = v 0 := by rw [ho 1 (by decide)]; exact hC.1
      refine s_X5_fillApart_15 hL ⟨by omega, fun _ => ih D' ho (fun s t a b c d => ?_), fun h => absurd h (by omega)⟩
      by_cases e : s = i
      · subst e; exact h2 t c d
      · exact h1 s t a (by omega) c d
    · intro j j0 j1 ih2 D' ho h1 h2
      have hC' := hC.same (D' := D') (fun j hj => ho _ (by omega))
      have e0 : D' 1 0 = v 0 := hC'.1
      have hi := CV_s hC' i0 i1
      have hj := CV_s hC' j0 j1
      have wi := wfs hv i0 i1
      have wj := wfs hv j0 j1
      refine s_X5_fillApart_15 hL ⟨by omega, fun h => absurd h (by omega), fun _ => ⟨⟨by omega, by omega, by omega, by omega, by omega, by omega⟩, ih2 _ (ho.up _ _) (fun s t a b c d => ?_) (fun t a b => ?_)⟩⟩
      · rw [upd2_place _ _ _ (by omega)]; exact h1 s t a b c d
      · by_cases e : t = j
        · subst e; rw [upd2_same, hi.1, hi.2.1, hj.1, hj.2.1, apS]; omega
        · rw [upd2_place _ _ _ (by omega)]; exact h2 t a (by omega)
/-- the least with a larger beginning -/
theorem mn_inf {c : Int → Bool} {g : Int → Int} {n : Nat} {j : Int} (h0 : 0 ≤ j) (h1 : j < n) (hc : c j = true) (hj : g j ≤ 1000000) : mnF c g 2147483647 n = mnF c g 1000000 n := by
  have h := mn_min c g 1000000 2147483647 n
  rw [show min (1000000 : Int) 2147483647 = 1000000 by decide] at h
  have := mn_le (c := c) (g := g) (A := 2147483647) h0 h1 hc
  omega
theorem c_X5_shortestWay (hL : Lay G) (hC0 : D 1 0 = v 0) (hs : 0 ≤ v 0 ∧ v 0 ≤ 10) {R : Nat} (hR : R < 2 ^ (v 0).toNat) {k : Int} (hk : 0 ≤ k ∧ k < v 0) (hw : 10 * 2 ^ (v 0).toNat ≤ wyl G) {g : Int → Int} (hg : ∀ s, 0 ≤ s → s < v 0 → R.testBit s.toNat = true → D (wyc G) (((R : Int) * 10) + s) + D 46 ((s * 10) + k) = g s ∧ 0 ≤ g s ∧ g s ≤ 1000000) : C0 l E MX5_shortestWay 0 [vR E 42, vI R, vI k] G D (fun r D' => r = mnF (fun j => R.testBit j.toNat) g 2147483647 (v 0).toNat ∧ D' = D) := by
  have hp := pow_s (k := v 0) hs
  refine s_X5_shortestWay hL ?_
  refine up_from (P := fun i => KX5_shortestWay l E _ 6 [(0, vR E 42), (1, vI R), (2, vI k), (3, vI (mnF (fun j => R.testBit j.toNat) g 2147483647 i.toNat)), (4, vI i)] G D) (lo := 0) (n := v 0) (by omega) ?_ ?_
  · exact s_X5_shortestWay_6 hL ⟨by omega, fun _ => ⟨rfl, rfl, rfl⟩, fun h => absurd h (by omega)⟩
  · intro i i0 i1 ih
    rw [mn_s _ _ _ i0] at ih
    have hcur : 0 ≤ mnF (fun j => R.testBit j.toNat) g 2147483647 i.toNat := mn_ge (by omega) (fun j j0 j1 hc => (hg j j0 (by omega) hc).2.1)
    have hcurA := mn_A (fun j => R.testBit j.toNat) g 2147483647 i.toNat
    refine s_X5_shortestWay_6 hL ⟨by omega, fun h => absurd h (by omega), fun _ => ⟨fun hb => ?_, fun hb => ?_⟩⟩
    · rw [if_neg (by rw [bitI_eq0 i0 (by omega) (by omega) hb]; simp)] at ih
      exact ih
    · have hb2 := bitI_ne0 i0 (by omega) (by omega) hb
      rw [if_pos hb2] at ih
      have hgi := hg i i0 i1 hb2
      rw [hgi.1]
      refine ⟨⟨by omega, by omega, by omega, by omega⟩, fun hle => ?_, fun hlt => ?_⟩
      · rw [Int.min_eq_left hle] at ih; exact ih
      · rw [Int.min_eq_right (by omega)] at ih; exact ih
theorem c_X5_fillRounds (hL : Lay G) (hv : wfV v) (hC : CV 1 v D) (hA : ∀ s t, 0 ≤ s → s < v 0 → 0 ≤ t → t < v 0 → D 46 ((s * 10) + t) = apS v s t) (hr : 4 * 2 ^ (v 0).toNat ≤ rdl G) (hw : 10 * 2 ^ (v 0).toNat ≤ wyl G) {f : Int} (hf : 0 ≤ f ∧ f < v 2) :
    C0 l E MX5_fillRounds 2 [vR E 42, vI f] G D (fun _ D' => off2 (rdc G) (wyc G) D D' ∧ (∀ S : Nat, S < 2 ^ (v 0).toNat → D' (rdc G) (f * ((2 ^ (v 0).toNat : Nat) : Int) + S) = rndS v f S) ∧ ∀ i, (i < f * ((2 ^ (v 0).toNat : Nat) : Int) ∨ f * ((2 ^ (v 0).toNat : Nat) : Int) + ((2 ^ (v 0).toNat : Nat) : Int) ≤ i) → D' (rdc G) i = D (rdc G) i) := by
  have hs := wfS hv
  have hF := wfF hv
  have hp := pow_s (k := v 0) hs
  have hp1 : 0 < 2 ^ (v 0).toNat := Nat.two_pow_pos _
  have e0 : D 1 0 = v 0 := hC.1
  have hn1 := rdc_ne hL
  have hn2 := wyc_ne hL
  have hN := lay_rdN hL
  have hN2 := lay_wyN hL
  have eR : iSl f (D 1 0) = f * ((2 ^ (v 0).toNat : Nat) : Int) := by rw [e0]; exact iSl_m (by omega) hs
  have eS : iSl 1 (D 1 0) = ((2 ^ (v 0).toNat : Nat) : Int) := by rw [e0]; exact iSl1 (by omega)
  have hff := wff hv hf.1 hf.2
  refine s_X5_fillRounds hL ?_
  rw [eR, eS]
  have hrow := fun S (h : S < 2 ^ (v 0).toNat) => mul_lt (f := f) (by omega) h hr
  generalize hPe : 2 ^ (v 0).toNat = P at *
  refine ⟨by have := hrow 0 hp1; omega, ?_⟩
  generalize hre : f * (P : Int) = row at *
  refine up_from (P := fun S => ∀ D', off2 (rdc G) (wyc G) D D' → (∀ (t : Nat) (k : Int), t ≠ 0 → (t : Int) < S → 0 ≤ k → t.testBit k.toNat = true → D' (wyc G) (((t : Int) * 10) + k) = wayS v f t k) → (∀ t : Nat, (t : Int) < S → D' (rdc G) (row + t) = rndS v f t) → (∀ i, (i < row ∨ row + P ≤ i) → D' (rdc G) i = D (rdc G) i) → KX5_fillRounds l E _ 28 [(0, vR E 42), (1, vI f), (2, vI P), (3, vI row), (4, vI S)] G D') (lo := 1) (n := P) (by omega) ?_ ?_ _ (off2.rf.upA _ _) (fun t k a b => by omega) (fun t a => by
      have : t = 0 := by omega
      subst this
      rw [show row + ((0 : Nat) : Int) = row by omega, upd2_same]; rfl) (fun i hi => by rw [upd2_place _ _ _ (by omega)])
  · intro D' ho h1 h2 h3
    exact s_X5_fillRounds_28 hL ⟨by omega, fun _ => ⟨rfl, ho, fun S hS => h2 S (by omega), h3⟩, fun h => absurd h (by omega)⟩
  · intro Si S0 S1 ih D' ho h1 h2 h3
    obtain ⟨S, rfl⟩ := Int.eq_ofNat_of_zero_le (show 0 ≤ Si by omega)
    have hSP : S < P := by omega
    refine s_X5_fillRounds_28 hL ⟨by omega, fun h => absurd h (by omega), fun _ => ?_⟩
    refine up_from (P := fun k => ∀ D', off2 (rdc G) (wyc G) D D' → (∀ (t : Nat) (k : Int), t ≠ 0 → (t : Int) < S → 0 ≤ k → t.testBit k.toNat = true → D' (wyc G) (((t : Int) * 10) + k) = wayS v f t k) → (∀ j : Int, 0 ≤ j → j < k → S.testBit j.toNat = true → D' (wyc G) (((S : Int) * 10) + j) = wayS v f S j) → (∀ t : Nat, (t : Int) < S → D' (rdc G) (row + t) = rndS v f t) → (∀ i, (i < row ∨ row + P ≤ i) → D' (rdc G) i = D (rdc G) i) → KX5_fillRounds l E _ 41 [(0, vR E 42), (1, vI f), (2, vI P), (3, vI row), (4, vI S), (5, vI (mnF (fun k => S.testBit k.toNat) (fun k => wayS v f S k + hmS v f k) 2147483647 k.toNat)), (6, vI k)] G D') (lo := 0) (n := v 0) (by omega) ?_ ?_ D' ho h1 (fun j a b => by omega) h2 h3
    · intro D' ho h1 hS h2 h3
      have e0' : D' 1 0 = v 0 := by rw [ho 1 (by omega) (by omega)]; exact hC.1
      obtain ⟨i, hi⟩ := Nat.exists_testBit_of_ne_zero (show S ≠ 0 by omega)
      have hi2 := bit_lt (show S < 2 ^ (v 0).toNat by omega) hi
      have hwi := way_b hv hf S S i (Nat.le_refl _) (by omega) (by omega) (by rw [Int.toNat_natCast]; exact hi)
      have hmi := hm_b hv hf (k := i) (by omega)
      have einf := mn_inf (c := fun k => S.testBit k.toNat) (g := fun k => wayS v f S k + hmS v f k) (n := (v 0).toNat) (j := i) (by omega) (by omega) (by simpa using hi) (by omega)
      have ernd : mnF (fun k => S.testBit k.toNat) (fun k => wayS v f S k + hmS v f k) 2147483647 (v 0).toNat = rndS v f S := by rw [einf, rndS, if_neg (by omega)]
      have hrb := rnd_b hv hf (S := S) (by omega)
      have hro := hrow S hSP
      rw [ernd]
      refine s_X5_fillRounds_41 hL ⟨by omega, fun _ => ⟨⟨by omega, by omega⟩, ih _ (ho.upA _ _) (fun t k a b c d => ?_) (fun t a => ?_) (fun i hi => ?_)⟩, fun h => absurd h (by omega)⟩
      · rw [upd2_cell _ _ _ _ (by omega)]
        by_cases et : t = S
        · subst et
          have := bit_lt (show t < 2 ^ (v 0).toNat by omega) d
          exact hS k c (by omega) d
        · exact h1 t k a (by omega) c d
      · by_cases et : t = S
        · subst et; exact upd2_same _ _ _ _
        · rw [upd2_place _ _ _ (by omega)]; exact h2 t (by omega)
      · rw [upd2_place _ _ _ (by omega)]; exact h3 i hi
    · intro k k0 k1 ih2 D' ho h1 hS h2 h3
      rw [mn_s _ _ _ k0] at ih2
      have hC' := hC.same (D' := D') (fun j hj => ho _ (by omega) (by omega))
      have e0' : D' 1 0 = v 0 := hC'.1
      have hk := CV_s hC' k0 k1
      have hfv := CV_f hC' hf.1 hf.2
      have wk := wfs hv k0 k1
      have hhm : ((Int.natAbs (D' 11 f - D' 2 k) : Nat) : Int) + ((Int.natAbs (D' 12 f - D' 3 k) : Nat) : Int) = hmS v f k := by rw [hk.1, hk.2.1, hfv.1, hfv.2.1, hmS]; omega
      have hmb := hm_b hv hf (k := k) ⟨k0, k1⟩
      have hcur : 0 ≤ mnF (fun k => S.testBit k.toNat) (fun k => wayS v f S k + hmS v f k) 2147483647 k.toNat := mn_ge (by omega) (fun j j0 j1 hc => by
        have a1 := way_b hv hf S S j (Nat.le_refl _) (by omega) j0 hc
        have a2 := hm_b hv hf (k := j) ⟨j0, by omega⟩
        omega)
      have hcurA := mn_A (fun k => S.testBit k.toNat) (fun k => wayS v f S k + hmS v f k) 2147483647 k.toNat
      refine s_X5_fillRounds_41 hL ⟨by omega, fun h => absurd h (by omega), fun _ => ⟨fun hb => ?_, fun hb => ?_⟩⟩
      · have hbf := bitI_eq0 k0 (by omega) (by omega) hb
        rw [if_neg (by rw [hbf]; simp)] at ih2
        refine ih2 D' ho h1 (fun j j0 j1 hj => ?_) h2 h3
        by_cases e : j = k
        · subst e; rw [hbf] at hj; cases hj
        · exact hS j j0 (by omega) hj
      · have hbt := bitI_ne0 k0 (by omega) (by omega) hb
        rw [if_pos hbt] at ih2
        have hrl := rest_lt hbt
        have hwS := way_b hv hf S S k (Nat.le_refl _) (by omega) k0 hbt
        have ex : iX S (iSl 1 k) = ((S ^^^ 2 ^ k.toNat : Nat) : Int) := by
          rw [iSl1 (by omega)]
          exact iX_nat _ _ (by omega) (by have : 2 ^ k.toNat < 2 ^ 31 := Nat.pow_lt_pow_right (by decide) (by omega)
                                          omega)
        have hk1 : ∀ (t : Nat) (j : Int), t ≠ 0 → (t : Int) < S → 0 ≤ j → t.testBit j.toNat = true → upd2 D' (wyc G) (((S : Int) * 10) + k) (wayS v f S k) (wyc G) (((t : Int) * 10) + j) = wayS v f t j := by
          intro t j a b c d
          have := bit_lt (show t < 2 ^ (v 0).toNat by omega) d
          rw [upd2_place _ _ _ (by omega)]; exact h1 t j a b c d
        have hk2 : ∀ j : Int, 0 ≤ j → j < k + 1 → S.testBit j.toNat = true → upd2 D' (wyc G) (((S : Int) * 10) + k) (wayS v f S k) (wyc G) (((S : Int) * 10) + j) = wayS v f S j := by
          intro j a b d
          by_cases e : j = k
          · subst e; exact upd2_same _ _ _ _
          · rw [upd2_place _ _ _ (by omega)]; exact hS j a (by omega) d
        have hk3 : ∀ t : Nat, (t : Int) < S → upd2 D' (wyc G) (((S : Int) * 10) + k) (wayS v f S k) (rdc G) (row + t) = rndS v f t := by
          intro t a
          rw [upd2_cell _ _ _ _ hn2.2]; exact h2 t a
        have hk4 : ∀ i, (i < row ∨ row + P ≤ i) → upd2 D' (wyc G) (((S : Int) * 10) + k) (wayS v f S k) (rdc G) i = D (rdc G) i := by
          intro i hi
          rw [upd2_cell _ _ _ _ hn2.2]; exact h3 i hi
        rw [ex, hhm]
        refine ⟨⟨by omega, by omega, by omega, by omega⟩, fun hne => ?_, fun hz => ?_⟩
        · have hRne : S ^^^ 2 ^ k.toNat ≠ 0 := by omega
          refine C0.use (c_X5_shortestWay (v := v) (g := fun j => wayS v f (S ^^^ 2 ^ k.toNat) j + apS v j k) hL e0' hs (R := S ^^^ 2 ^ k.toNat) (k := k) (by omega) ⟨k0, k1⟩ (by omega) (fun j j0 j1 hj => ?_)) ?_
          · have a1 := way_b hv hf _ (S ^^^ 2 ^ k.toNat) j (Nat.le_refl _) (by omega) j0 hj
            have a2 := ap_b hv (j := j) (k := k) ⟨j0, j1⟩ ⟨k0, k1⟩
            refine ⟨?_, by omega, by omega⟩
            rw [h1 _ j hRne (by omega) j0 hj, ho 46 (by omega) (by omega), hA j k j0 j1 k0 k1]
          · rintro r D2 ⟨rfl, rfl⟩
            obtain ⟨i, hi⟩ := Nat.exists_testBit_of_ne_zero hRne
            have hi2 := bit_lt (show S ^^^ 2 ^ k.toNat < 2 ^ (v 0).toNat by omega) hi
            have hwi := way_b hv hf _ (S ^^^ 2 ^ k.toNat) i (Nat.le_refl _) (by omega) (by omega) (by rw [Int.toNat_natCast]; exact hi)
            have hai := ap_b hv (j := i) (k := k) (by omega) ⟨k0, k1⟩
            have einf := mn_inf (c := fun j => (S ^^^ 2 ^ k.toNat).testBit j.toNat) (g := fun j => wayS v f (S ^^^ 2 ^ k.toNat) j + apS v j k) (n := (v 0).toNat) (j := i) (by omega) (by omega) (by simpa using hi) (by omega)
            have eway : mnF (fun j => (S ^^^ 2 ^ k.toNat).testBit j.toNat) (fun j => wayS v f (S ^^^ 2 ^ k.toNat) j + apS v j k) 2147483647 (v 0).toNat = wayS v f S k := by rw [einf, way_eq hbt, if_neg hRne]
            rw [eway]
            exact ⟨⟨by omega, by omega, by omega, by omega⟩, ih2 _ (ho.upB _ _) hk1 hk2 hk3 hk4⟩
        · have hRz : S ^^^ 2 ^ k.toNat = 0 := by omega
          have eway : hmS v f k = wayS v f S k := by
            rw [way_eq hbt, if_pos hRz, mn_none]
            intro j _ _
            rw [hRz]; simp
          refine ⟨⟨by omega, by omega, by omega, by omega⟩, ?_⟩
          rw [← eway] at ih2 hk1 hk2 hk3 hk4
          exact ih2 _ (ho.upB _ _) hk1 hk2 hk3 hk4
end C4

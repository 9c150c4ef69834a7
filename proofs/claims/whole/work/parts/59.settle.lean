-- settle
def stQ (v : Vl) (t : Int) : Bool := decide (t / 10 < t % 10 ∧ t % 10 < v 2 ∧ 0 < swN v (t / 10) (t % 10))
def stF (v : Vl) : Int := fstF (stQ v) 0 (10 * v 2).toNat
/-- the village after the swap of a and b at pair k -/
def swV (v : Vl) (a b : Int) (k : Nat) : Vl := upV (upV v ((8 + (5 * ((k / 10 : Nat) : Int))) + 4) b) ((8 + (5 * ((k % 10 : Nat) : Int))) + 4) a
def stV (v : Vl) : Vl := swV v (stF v / 10) (stF v % 10) (swK v (stF v / 10) (stF v % 10) 0)
theorem st_end {v : Vl} {a t : Int} (h0 : 10 * a + v 2 ≤ t) (h1 : t < 10 * (a + 1)) : stQ v t = false := by
  unfold stQ
  have : ¬ (t / 10 < t % 10 ∧ t % 10 < v 2 ∧ 0 < swN v (t / 10) (t % 10)) := by
    rintro ⟨_, h, _⟩
    omega
  simp only [this, decide_false]
theorem st_low {v : Vl} {a t : Int} (h0 : 10 * a ≤ t) (h1 : t < 10 * a + (a + 1)) (ha : a < 9) : stQ v t = false := by
  unfold stQ
  have : ¬ (t / 10 < t % 10 ∧ t % 10 < v 2 ∧ 0 < swN v (t / 10) (t % 10)) := by
    rintro ⟨h, _, _⟩
    omega
  simp only [this, decide_false]
theorem swK_is {v : Vl} {a b : Int} (h : 0 < swN v a b) : swK v a b 0 < 10 * (v 0).toNat ∧ swQ v a b (swK v a b 0) = true ∧ (cntS (swQ v a b) (swK v a b 0) : Int) = 0 := by
  obtain ⟨t, t1, t2, t3⟩ := kth_ex (p := swQ v a b) (k := 0) (n := 10 * (v 0).toNat) (by omega) (by unfold swN at h; omega)
  have : swK v a b 0 = t := kth_is t1 t2 t3
  rw [this]; exact ⟨t1, t2, t3⟩
theorem swQ_in {v : Vl} {a b : Int} {t : Nat} (h : swQ v a b t = true) : t / 10 < (v 0).toNat ∧ t % 10 < (v 0).toNat := by
  unfold swQ at h
  simp only [Bool.and_eq_true] at h
  exact ⟨tb_lt (setN_lt _ _) h.1, tb_lt (setN_lt _ _) h.2.1⟩
section
variable {l : Launch} {E : Ev} {G : Sh} {D : Dm}
/-- as D, its village w -/
def mV (D D' : Dm) (w : Vl) : Prop := mS (setC D 108 w) D'
theorem c_X10_settles (hL : Lay G) (hv : wfV (D 108)) (hh : D 107 20 = 0) : C0 l E MX10_settles 0 [vR E 107] G D (fun r D' => (stF (D 108) = -1 ∧ r = 0 ∧ mS D D') ∨ (stF (D 108) ≠ -1 ∧ r = 1 ∧ mS (setC D 108 (stV (D 108))) D')) := by
  have hF := wfF hv
  have hs := wfS hv
  refine s_X10_settles hL ?_
  refine up_from (P := fun a => ∀ D', fstF (stQ (D 108)) (10 * a) (10 * D 108 2 - 10 * a).toNat = stF (D 108) → mS D D' → KX10_settles l E _ 2 [(0, vR E 107), (1, vI a)] G D') (lo := 0) (n := D 108 2) (by omega) ?_ ?_ D (by rw [Int.mul_zero, Int.sub_zero]; rfl) mS.rf
  · intro D' he hm
    rw [Int.sub_self] at he
    exact s_X10_settles_2 hL ⟨by omega, fun _ => ⟨rfl, Or.inl ⟨he.symm, rfl, hm⟩⟩, fun z => absurd z (by rw [hm.at]; omega)⟩
  · intro a a0 a1 iha D' he hm
    refine s_X10_settles_2 hL ⟨by omega, fun z => absurd z (by rw [hm.at]; omega), fun _ => ?_⟩
    refine up_from (P := fun b => ∀ D', fstF (stQ (D 108)) (10 * a + b) (10 * D 108 2 - (10 * a + b)).toNat = stF (D 108) → mS D D' → KX10_settles l E _ 16 [(0, vR E 107), (1, vI a), (2, vI b)] G D') (lo := a + 1) (n := D 108 2) (by omega) ?_ ?_ D' ?_ hm
    · intro D' he hm
      refine s_X10_settles_16 hL ⟨by omega, fun _ => iha D' ?_ hm, fun z => absurd z (by rw [hm.at]; omega)⟩
      rw [← he]
      exact (fst_skip (by omega) (by omega) (fun t t0 t1 => st_end t0 t1)).symm
    · intro b b0 b1 ih D' he hm
      have e := hm.at
      have e1 : (10 * D 108 2 - (10 * a + b)).toNat = (10 * D 108 2 - (10 * a + (b + 1))).toNat + 1 := by omega
      have ea : 10 * a + b + 1 = 10 * a + (b + 1) := by omega
      rw [e1, fstF, ea] at he
      have ed : (10 * a + b) / 10 = a := by omega
      have em : (10 * a + b) % 10 = b := by omega
      have hq : stQ (D 108) (10 * a + b) = decide (0 < swN (D 108) a b) := by
        unfold stQ; rw [ed, em]
        refine decide_eq_decide.2 ⟨fun z => z.2.2, fun z => ⟨by omega, by omega, z⟩⟩
      refine s_X10_settles_16 hL ⟨by omega, fun z => absurd z (by rw [e]; omega), fun _ => ?_⟩
      refine C0.use (c_X10_swapsOf hL (by rw [e]; exact hv) (by rw [hm.hv]; exact hh) (f := a) (g := b) (k := 0) (by rw [e]; omega) (by rw [e]; omega) (by omega) (by decide)) ?_
      rintro r D2 ⟨hr, hat, hm2⟩
      try dsimp only
      rw [e] at hr hat
      have hr' : r = (swN (D 108) a b : Nat) := hr
      have hb := sw_b hv a b
      have hm3 := hm.tr hm2
      refine ⟨by omega, fun z => ?_, fun z => ih D2 ?_ hm3⟩
      · have hpos : 0 < swN (D 108) a b := by omega
        obtain ⟨k1, k2, k3⟩ := swK_is hpos
        obtain ⟨t1, t2⟩ := hat _ k1 k2 k3
        obtain ⟨i1, i2⟩ := swQ_in k2
        rw [if_pos (by rw [hq]; simpa using hpos)] at he
        rw [t1, t2]
        refine ⟨⟨by omega, by omega, by omega⟩, rfl, Or.inr ⟨by omega, rfl, ?_⟩⟩
        unfold stV
        rw [← he, ed, em]
        unfold swV
        intro c i hc
        by_cases q : c = 108
        · subst q
          simp only [upd2, setC, upV, hm3.at]
          simp
        · rw [upd2_cell _ _ _ _ q, upd2_cell _ _ _ _ q]
          simp only [setC]
          rw [if_neg q]
          exact hm3 c i hc
      · rw [if_neg (by rw [hq]; simp; omega)] at he
        exact he
    · rw [← he]
      exact (fst_skip (by omega) (by omega) (fun t t0 t1 => st_low t0 t1 (by omega))).symm
end

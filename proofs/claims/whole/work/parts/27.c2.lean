/-! ===== the class's reckoner ===== -/
def scrC (c : Nat) (i : Int) : Prop := c = 44 ∨ c = 50 ∨ c = 51 ∨ c = 52 ∨ c = 54 ∨ c = 55 ∨ c = 57 ∨ c = 58 ∨ c = 59 ∨ c = 61 ∨ c = 62 ∨ c = 63 ∨ c = 64 ∨ c = 67 ∨ (c = 42 ∧ (i = 3 ∨ i = 4)) ∨ (c = 49 ∧ (i = 5 ∨ i = 6 ∨ i = 7)) ∨ (c = 66 ∧ (i = 3 ∨ i = 4))
def cS (D D' : Dm) : Prop := ∀ c i, ¬ scrC c i → D' c i = D c i
theorem cS.rf {D : Dm} : cS D D := fun _ _ _ => rfl
theorem cS.tr {D D1 D2 : Dm} (h : cS D D1) (h2 : cS D1 D2) : cS D D2 := fun c i hc => (h2 c i hc).trans (h c i hc)
theorem cS.up {D D1 : Dm} {c : Nat} {i : Int} (h : cS D D1) (hs : scrC c i) (x : Int) : cS D (upd2 D1 c i x) := fun c' i' hc => by
  rw [← h c' i' hc]
  simp only [upd2]
  rw [if_neg]
  rintro ⟨rfl, rfl⟩
  exact hc hs
theorem cS.off {D D1 D2 : Dm} {c : Nat} (h : cS D D1) (hs : ∀ i, scrC c i) (h2 : offC c D1 D2) : cS D D2 := fun c' i' hc => by
  rw [← h c' i' hc, h2 c' (fun e => hc (by rw [e]; exact hs i'))]
theorem cS.c {D D' : Dm} (h : cS D D') (c : Nat) (hc : ∀ i, ¬ scrC c i) : D' c = D c := funext fun i => h c i (hc i)
theorem CV.same {c : Nat} {v : Vl} {D D' : Dm} (h : CV c v D) (he : ∀ j, j ≤ 12 → D' (c + j) = D (c + j)) : CV c v D' := by
  obtain ⟨a0, a1, a2, a3, a4, a5, a6, a7⟩ := h
  have e0 : D' c = D c := he 0 (by omega)
  refine ⟨by rw [e0]; exact a0, by rw [e0]; exact a1, by rw [e0]; exact a2, by rw [e0]; exact a3, by rw [e0]; exact a4, fun s h0 h1 => ?_, fun s h0 h1 => ?_, fun s h0 h1 => ?_⟩
  · rw [he 1 (by omega), he 2 (by omega), he 3 (by omega), he 4 (by omega), he 5 (by omega)]; exact a5 s h0 h1
  · rw [he 6 (by omega), he 7 (by omega), he 9 (by omega)]; exact a6 s h0 h1
  · rw [he 10 (by omega), he 11 (by omega), he 12 (by omega)]; exact a7 s h0 h1
theorem cS.land {v : Vl} {D D' : Dm} (h : cS D D') (hC : CV 1 v D) : CV 1 v D' := hC.same (fun j hj => h.c _ (fun i => by simp only [scrC]; omega))
/-- the weights stand; the tables stand -/
def RW (v : Vl) (D : Dm) : Prop := ∀ lot, 0 ≤ lot → lot < iSl 1 (v 1) → D 43 lot = wtS v lot
def RT (v : Vl) (G : Sh) (D : Dm) : Prop := (∀ s lot, 0 ≤ s → s < v 0 → 0 ≤ lot → lot < iSl 1 (v 1) → D 45 ((s * 64) + lot) = 8 - min 8 (tkS v s lot))
  ∧ (∀ (f : Int) (S : Nat), 0 ≤ f → f < v 2 → S < 2 ^ (v 0).toNat → D (rdc G) (f * ((2 ^ (v 0).toNat : Nat) : Int) + S) = rndS v f S) ∧ 4 * 2 ^ (v 0).toNat ≤ rdl G
def Rd (v : Vl) (G : Sh) (D : Dm) : Prop := CV 1 v D ∧ RW v D ∧ RT v G D
theorem rdc_ne {G : Sh} (hL : Lay G) : rdc G = 47 ∨ 125 ≤ rdc G := by rcases hL.2.2.2.2.2.2.2.2.1 with h | h <;> omega
theorem RT.same {v : Vl} {G : Sh} {D D' : Dm} (h : RT v G D) (h1 : D' 45 = D 45) (h2 : D' (rdc G) = D (rdc G)) : RT v G D' := ⟨by rw [h1]; exact h.1, by rw [h2]; exact h.2.1, h.2.2⟩
theorem cS.ready {v : Vl} {G : Sh} {D D' : Dm} (hL : Lay G) (h : cS D D') (hR : Rd v G D) : Rd v G D' := by
  have hr := rdc_ne hL
  refine ⟨h.land hR.1, ?_, hR.2.2.same (h.c 45 (fun i => by simp only [scrC]; omega)) (h.c _ (fun i => by simp only [scrC]; omega))⟩
  have e : D' 43 = D 43 := h.c 43 (fun i => by simp only [scrC]; omega)
  intro lot h0 h1
  rw [e]
  exact hR.2.1 lot h0 h1
def upV (v : Vl) (k x : Int) : Vl := fun j => if j = k then x else v j
def ovr (v : Vl) (hm od : Int) : Vl := if 0 ≤ hm then upV v ((58 + (5 * hm)) + 4) od else v
theorem ovr_h (v : Vl) {hm od h : Int} (h0 : 0 ≤ h) : ovr v hm od ((58 + (5 * h)) + 4) = if h = hm then od else v ((58 + (5 * h)) + 4) := by
  unfold ovr
  split
  · simp only [upV]
    by_cases e : h = hm
    · subst e; simp
    · rw [if_neg (by omega), if_neg e]
  · rw [if_neg (by omega)]
theorem ovr_1 (v : Vl) (hm od : Int) : ovr v hm od 1 = v 1 := by
  unfold ovr
  split
  · simp only [upV]; rw [if_neg (by omega)]
  · rfl
section C2
variable {l : Launch} {E : Ev} {G : Sh} {D : Dm} {v : Vl}
theorem c_X8_openTo (hL : Lay G) (hv : wfV v) (hC : CV 1 v D) (f : Int) (hf : -2147483648 ≤ f ∧ f < 2147483648) : C0 l E MX8_openTo 0 [vR E 1, vI f] G D (fun r D' => r = ((openN v f : Nat) : Int) ∧ D' = D) := by
  refine s_X8_openTo hL ?_
  refine C0.use (c_X8_heldBy hL hv hC (-1) (by decide)) ?_
  rintro r D1 ⟨rfl, rfl⟩
  refine C0.use (c_X8_heldBy hL hv hC f hf) ?_
  rintro r D2 ⟨rfl, rfl⟩
  refine ⟨rfl, ?_, rfl⟩
  have hS := wfS hv
  rw [iO_nat _ _ (show heldN v (-1) < 2147483648 from setN_le (by omega)) (show heldN v f < 2147483648 from setN_le (by omega))]
  congr 1
  apply Nat.eq_of_testBit_eq
  intro i
  simp only [Nat.testBit_or, heldN, openN, setN_bit]
  cases decide (i < (v 0).toNat) <;> simp
theorem c_X5_weightOf (hL : Lay G) (hv : wfV v) (hC : CV 1 v D) (hO : CVo 1 v D) (lot hm od : Int) (hh : hm = -1 ∨ (0 ≤ hm ∧ hm < v 1 ∧ 0 ≤ od ∧ od ≤ 16)) : C0 l E MX5_weightOf 1 [vR E 42, vI lot, vI hm, vI od] G D (fun r D' => r = wtS (ovr v hm od) lot ∧ D' = D) := by
  refine s_X5_weightOf hL ?_
  have hH := wfH hv
  have e1 : D 1 1 = v 1 := hC.2.1
  have ew : wtS (ovr v hm od) lot = fz (wtF (ovr v hm od) lot) 1 (v 1).toNat := by unfold wtS; rw [ovr_1]
  rw [ew]
  refine up_from (P := fun i => KX5_weightOf l E _ 6 [(0, vR E 42), (1, vI lot), (2, vI hm), (3, vI od), (4, vJ (fz (wtF (ovr v hm od) lot) 1 i.toNat)), (6, vI i)] G D) (lo := 0) (n := v 1) (by omega) ?_ ?_
  · exact s_X5_weightOf_6 hL ⟨by omega, fun _ => ⟨rfl, rfl, rfl⟩, fun h => absurd h (by omega)⟩
  · intro i h0 h1 ih
    have hi := CV_h hC h0 h1
    have hi9 : D 9 i = v ((58 + (5 * i)) + 4) := hO i h0 h1
    have hw := wfh hv h0 h1
    rw [fz_s _ _ h0, wtF, ovr_h v h0] at ih
    refine s_X5_weightOf_6 hL ⟨by omega, fun h => absurd h (by omega), fun _ => ⟨by omega, fun hne => ⟨by omega, fun hb => ⟨by omega, ?_⟩, fun hb => ?_⟩, fun he => ⟨fun hb => ⟨by omega, ?_⟩, fun hb => ⟨by omega, ?_⟩⟩⟩⟩
    · rw [if_pos hb, if_neg hne] at ih
      rw [hi9]; exact ih
    · rw [if_neg hb, if_neg hne] at ih
      rw [hi9]; exact ih
    · rw [if_pos hb, if_pos he] at ih
      exact ih
    · rw [if_neg hb, if_pos he] at ih
      exact ih
theorem wfV_ovr (hv : wfV v) {hm od : Int} (hh : hm = -1 ∨ (0 ≤ hm ∧ hm < v 1 ∧ 0 ≤ od ∧ od ≤ 16)) : wfV (ovr v hm od) := by
  rcases hh with rfl | hh
  · exact hv
  · have hH := wfH hv
    have hS := wfS hv
    have key : ∀ k, k ≠ (58 + (5 * hm)) + 4 → ovr v hm od k = v k := fun k hk => by unfold ovr; rw [if_pos hh.1]; simp only [upV]; rw [if_neg hk]
    have hF := wfF hv
    refine ⟨by rw [key 0 (by omega)]; exact wfS hv, by rw [key 1 (by omega)]; exact hH, by rw [key 2 (by omega)]; exact hF, by rw [key 3 (by omega)]; exact wfP hv, by rw [key 4 (by omega)]; exact wfU hv, fun s h0 h1 => ?_, fun h h0 h1 => ?_, fun f h0 h1 => ?_⟩
    · rw [key 0 (by omega)] at h1
      rw [key ((8 + (5 * s)) + 0) (by omega), key ((8 + (5 * s)) + 1) (by omega), key ((8 + (5 * s)) + 2) (by omega), key ((8 + (5 * s)) + 3) (by omega), key ((8 + (5 * s)) + 4) (by omega), key 2 (by omega)]
      exact wfs hv h0 h1
    · rw [key 1 (by omega)] at h1
      have := wfh hv h0 h1
      rw [key ((58 + (5 * h)) + 0) (by omega), key ((58 + (5 * h)) + 1) (by omega), key ((58 + (5 * h)) + 2) (by omega), key ((58 + (5 * h)) + 3) (by omega), ovr_h v h0]
      refine ⟨this.1, this.2.1, this.2.2.1, this.2.2.2.1, ?_⟩
      split <;> omega
    · rw [key 2 (by omega)] at h1
      rw [key ((88 + (3 * f)) + 0) (by omega), key ((88 + (3 * f)) + 1) (by omega), key ((88 + (3 * f)) + 2) (by omega)]
      exact wff hv h0 h1
theorem c_X5_weigh (hL : Lay G) (hv : wfV v) (hC : CV 1 v D) (hO : CVo 1 v D) (hm od : Int) (hh : hm = -1 ∨ (0 ≤ hm ∧ hm < v 1 ∧ 0 ≤ od ∧ od ≤ 16)) : C0 l E MX5_weigh 2 [vR E 42, vI hm, vI od] G D (fun _ D' => offC 43 D D' ∧ ∀ lot, 0 ≤ lot → lot < iSl 1 (v 1) → D' 43 lot = wtS (ovr v hm od) lot) := by
  refine s_X5_weigh hL ?_
  have e1 : D 1 1 = v 1 := hC.2.1
  have hlb := lotsB (wfH hv)
  rw [e1]
  refine up_from (P := fun i => ∀ D', offC 43 D D' → (∀ lot, 0 ≤ lot → lot < i → D' 43 lot = wtS (ovr v hm od) lot) → KX5_weigh l E _ 11 [(0, vR E 42), (1, vI hm), (2, vI od), (3, vI (iSl 1 (v 1))), (4, vI i)] G D') (lo := 0) (n := iSl 1 (v 1)) (by omega) ?_ ?_ D offC.rf (fun lot a b => by omega)
  · intro D' ho hw
    exact s_X5_weigh_11 hL ⟨by omega, fun _ => ⟨rfl, ho, hw⟩, fun h => absurd h (by omega)⟩
  · intro i h0 h1 ih D' ho hw
    refine s_X5_weigh_11 hL ⟨by omega, fun h => absurd h (by omega), fun _ => ?_⟩
    refine C0.use (c_X5_weightOf hL hv (hC.same (fun j hj => ho _ (by omega))) (hO.same (fun j hj => ho _ (by omega))) i hm od hh) ?_
    rintro r D2 ⟨rfl, rfl⟩
    have hb := wtS_b (wfV_ovr hv hh) i
    refine ⟨⟨by omega, by omega⟩, ih _ (ho.up _ _) (fun lot a b => ?_)⟩
    by_cases e : lot = i
    · subst e; exact upd2_same _ _ _ _
    · rw [upd2_place _ _ _ e]; exact hw lot a (by omega)
theorem fall_bit {h s : Int} (hv : wfV v) (h0 : 0 ≤ s) (h1 : s < v 0) : iA (iSr (fallN v h : Nat) s) 1 = if fallsP v h s then 1 else 0 := by
  have hS := wfS hv
  rw [bitI h0 (by omega) (show fallN v h < 2147483648 from setN_le (by omega)), fallN, setN_bit]
  have e1 : s.toNat < (v 0).toNat := by omega
  have e2 : ((s.toNat : Nat) : Int) = s := by omega
  rw [e2, decide_eq_true e1, Bool.true_and]
  by_cases hp : fallsP v h s
  · rw [if_pos hp, decide_eq_true hp]; rfl
  · rw [if_neg hp, decide_eq_false hp]; rfl
theorem c_X5_eighthsKept (hL : Lay G) (hv : wfV v) (hC : CV 1 v D) (s lot : Int) (hs : 0 ≤ s ∧ s < v 0) : C0 l E MX5_eighthsKept 0 [vR E 42, vI s, vI lot] G D (fun r D' => r = 8 - min 8 (tkS v s lot) ∧ D' = D) := by
  refine s_X5_eighthsKept hL ?_
  have hH := wfH hv
  have e1 : D 1 1 = v 1 := hC.2.1
  refine up_from (P := fun i => KX5_eighthsKept l E _ 5 [(0, vR E 42), (1, vI s), (2, vI lot), (3, vI (fz (tkF v s lot) 0 i.toNat)), (4, vI i)] G D) (lo := 0) (n := v 1) (by omega) ?_ ?_
  · have ht := tk_b hv s lot (v 1).toNat (Nat.le_refl _)
    refine s_X5_eighthsKept_5 hL ⟨by omega, fun _ => ⟨by omega, rfl, ?_, rfl⟩, fun h => absurd h (by omega)⟩
    unfold tkS; omega
  · intro i h0 h1 ih
    have hi := CV_h hC h0 h1
    rw [fz_s _ _ h0] at ih
    refine s_X5_eighthsKept_5 hL ⟨by omega, fun h => absurd h (by omega), fun _ => ⟨fun hb => ?_, fun hb => ⟨by omega, fun hc => ?_, fun hc => ?_⟩⟩⟩
    · rw [tkF, if_pos hb] at ih; exact ih
    · rw [hi.2.2, fall_bit hv hs.1 hs.2] at hc
      rw [tkF, if_neg hb, if_neg (fun q => by rw [if_pos q] at hc; omega)] at ih
      exact ih
    · rw [hi.2.2, fall_bit hv hs.1 hs.2] at hc
      rw [tkF, if_neg hb, if_pos (Classical.byContradiction fun q => by rw [if_neg q] at hc; omega)] at ih
      rw [hi.2.1]
      exact ih
theorem iSl_m {f n : Int} (hf : 0 ≤ f ∧ f ≤ 4) (hn : 0 ≤ n ∧ n ≤ 10) : iSl f n = f * ((2 ^ n.toNat : Nat) : Int) := by
  obtain ⟨a, rfl⟩ := Int.eq_ofNat_of_zero_le hf.1
  obtain ⟨k, rfl⟩ := Int.eq_ofNat_of_zero_le hn.1
  have hp := pow_s (k := (k : Int)) hn
  rw [Int.toNat_natCast] at hp ⊢
  have h1 : a * 2 ^ k ≤ 4 * 1024 := Nat.mul_le_mul (by omega) hp
  rw [iSl_nat a k (by omega) (by omega), Int.natCast_mul]
theorem mul_lt {f : Int} {n p S : Nat} (hf : 0 ≤ f ∧ f < 4) (hS : S < p) (hn : 4 * p ≤ n) : 0 ≤ f * (p : Int) + S ∧ f * (p : Int) + S < n := by
  obtain ⟨a, rfl⟩ := Int.eq_ofNat_of_zero_le hf.1
  have h1 : (a + 1) * p ≤ 4 * p := Nat.mul_le_mul_right p (by omega)
  rw [Nat.add_mul, Nat.one_mul] at h1
  rw [← Int.natCast_mul]
  omega
theorem c_X5_roundOf (hL : Lay G) (hv : wfV v) (hR : Rd v G D) {f : Int} (hf : 0 ≤ f ∧ f < v 2) {S : Nat} (hS : S < 2 ^ (v 0).toNat) : C0 l E MX5_roundOf 0 [vR E 42, vI f, vI S] G D (fun r D' => r = rndS v f S ∧ D' = D) := by
  have e0 : D 1 0 = v 0 := hR.1.1
  have hs := wfS hv
  have hF := wfF hv
  have hm := mul_lt (f := f) (by omega) hS hR.2.2.2.2
  have hN := lay_rdN hL
  have e : iSl f (D 1 0) = f * ((2 ^ (v 0).toNat : Nat) : Int) := by rw [e0]; exact iSl_m (by omega) hs
  refine s_X5_roundOf hL ?_
  rw [e]
  refine ⟨by omega, fun h => absurd h (by omega), fun _ => ⟨by omega, fun h => absurd h (by omega), fun _ => ⟨by omega, rfl, ?_, rfl⟩⟩⟩
  exact hR.2.2.2.1 f S hf.1 hf.2 hS
end C2

-- the class's list of sets
def LsT (v : Vl) (f : Int) (p : Nat → Bool) (n : Nat) (D : Dm) : Prop := D 49 5 = (cntS p n : Nat) ∧ ∀ S : Nat, S < n → p S = true → D 50 (cntS p S : Nat) = S ∧ D 51 (cntS p S : Nat) = netSum v f S ∧ D 52 (cntS p S : Nat) = shortSum v f S
def wH (v : Vl) (f h : Int) (S : Nat) : Int := netSum v f S - h * shortSum v f S
def fiS (p : Nat → Bool) (w : Nat → Int) (n : Nat) : Nat := if cntS p n = 0 then 0 else cntS p (bstS p w n).toNat
section
variable {l : Launch} {E : Ev} {G : Sh} {D : Dm} {v : Vl}
theorem c_X1_listSets (hL : Lay G) (hv : wfV v) (hR : Rd v G D) {f k : Int} (hf : 0 ≤ f ∧ f < v 2) (hk : 1 ≤ k ∧ k ≤ 6) : C0 l E MX1_listSets 2 [vR E 49, vI f, vI k] G D (fun _ D' => LsT v f (okS (openN v f) k) (openN v f + 1) D' ∧ cS D D') := by
  have hS := wfS hv
  have h10 := two_le hS
  have hF := wfF hv
  have ho : openN v f < 2 ^ (v 0).toNat := setN_lt _ _
  refine s_X1_listSets hL ?_
  refine C0.use (c_X8_openTo hL hv hR.1 f (by omega)) ?_
  rintro r D1 ⟨rfl, rfl⟩
  try dsimp only
  refine up_from (P := fun i => ∀ D', LsT v f (okS (openN v f) k) i.toNat D' → cS D1 D' → KX1_listSets l E _ 17 [(0, vR E 49), (1, vI f), (2, vI k), (3, vI (openN v f : Nat)), (4, vI i)] G D') (lo := 0) (n := ((openN v f + 1 : Nat) : Int)) (by omega) ?_ ?_ _ ⟨upd2_same _ _ _ _, fun S h => absurd h (by simp)⟩ (cS.rf.up (by simp [scrC]) _)
  · intro D' hl hs
    rw [Int.toNat_natCast] at hl
    exact s_X1_listSets_17 hL ⟨⟨by omega, by omega⟩, fun _ => ⟨rfl, hl, hs⟩, fun h => absurd h (by omega)⟩
  · intro i i0 i1 ih D' hl hs
    obtain ⟨S, rfl⟩ := Int.eq_ofNat_of_zero_le i0
    have es : ((S : Int) + 1).toNat = S + 1 := by omega
    rw [Int.toNat_natCast] at hl
    rw [es] at ih
    have hskip : okS (openN v f) k S = false → LsT v f (okS (openN v f) k) (S + 1) D' := by
      intro hp
      refine ⟨by rw [cnt_s, hp]; exact hl.1, fun T hT hpT => ?_⟩
      rcases Nat.lt_or_ge T S with q | q
      · exact hl.2 T q hpT
      · have : T = S := by omega
        rw [this, hp] at hpT; cases hpT
    refine s_X1_listSets_17 hL ⟨⟨by omega, by omega⟩, fun h => absurd h (by omega), fun _ => ⟨fun h => ?_, fun h => ?_⟩⟩
    · rw [iN_nat S _ (by omega)] at h
      exact ih D' (hskip (by unfold okS; simp; intro q; omega)) hs
    · rw [iN_nat S _ (by omega)] at h
      refine C0.use (c_J6_bitCount hL (a := S) (by omega)) ?_
      rintro r D2 ⟨rfl, rfl⟩
      try dsimp only
      have hpc := pcT_le S
      refine ⟨⟨by omega, by omega⟩, fun hk1 => ?_, fun hk1 => ?_⟩
      · exact ih D2 (hskip (by unfold okS; simp; intro _; exact hk1)) hs
      · have hp : okS (openN v f) k S = true := by
          unfold okS; simp; exact ⟨by omega, hk1⟩
        have hc1 := cnt_252 (o := openN v f) (k := k) (by omega) (n := S + 1) (by omega)
        rw [cnt_s, if_pos hp] at hc1
        refine ⟨fun h252 => absurd h252 (by rw [hl.1]; omega), fun _ => ?_⟩
        refine C0.use (c_X5_sumUp hL hv (hs.ready hL hR) hf (S := S) (by omega)) ?_
        rintro - D3 ⟨h3, h4, hk3⟩
        try dsimp only
        have e5 : D3 49 5 = (cntS (okS (openN v f) k) S : Nat) := by rw [← hl.1]; exact hk3 49 5 (by simp [scrK])
        rw [e5, h3, h4]
        refine ⟨⟨by omega, by omega⟩, ?_⟩
        refine ih _ ⟨?_, fun T hT hpT => ?_⟩ (((((hs.tr hk3.s).up (by simp [scrC]) _).up (by simp [scrC]) _).up (by simp [scrC]) _).up (by simp [scrC]) _)
        · rw [upd2_same, cnt_s, if_pos hp]; omega
        · rcases Nat.lt_or_ge T S with q | q
          · have hlt := cnt_lt _ q hpT
            have hT3 := hl.2 T q hpT
            have g50 : D3 50 = D2 50 := hk3.c 50 (fun i => by simp [scrK])
            have g51 : D3 51 = D2 51 := hk3.c 51 (fun i => by simp [scrK])
            have g52 : D3 52 = D2 52 := hk3.c 52 (fun i => by simp [scrK])
            have ne : ((cntS (okS (openN v f) k) T : Nat) : Int) ≠ (cntS (okS (openN v f) k) S : Nat) := by omega
            simp only [upd2]
            simp [ne, g50, g51, g52, hT3]
          · have : T = S := by omega
            subst this
            simp [upd2]
theorem c_X1_bestIndex (hL : Lay G) (hv : wfV v) {f k : Int} (hf : 0 ≤ f ∧ f < v 2) {p : Nat → Bool} {n : Nat} (hn : n ≤ 2 ^ (v 0).toNat) (hc : cntS p n ≤ 252) (hl : LsT v f p n D) {h : Int} (hh : 0 ≤ h ∧ h ≤ 99) : C0 l E MX1_bestIndex 0 [vR E 49, vI h] G D (fun r D' => r = (fiS p (wH v f h) n : Nat) ∧ D' = D) := by
  have hlb := lotsB (wfH hv)
  refine s_X1_bestIndex hL ?_
  have key : ∀ S : Nat, S < n → p S = true → D 51 (cntS p S : Nat) - h * D 52 (cntS p S : Nat) = wH v f h S ∧ -108900000000000 ≤ wH v f h S ∧ wH v f h S ≤ 1100000000000 := by
    intro S hS hp
    obtain ⟨-, h51, h52⟩ := hl.2 S hS hp
    rw [h51, h52]
    refine ⟨rfl, ?_⟩
    have h1 := ns_b hv hf (show S < 2 ^ (v 0).toNat by omega) (iSl 1 (v 1)).toNat (by omega)
    have h2 := ss_b hv hf (show S < 2 ^ (v 0).toNat by omega) (iSl 1 (v 1)).toNat (by omega)
    have h3 := mulB (A := 99) (B := 1100000000000) (a := h) (b := shortSum v f S) (by omega) h2
    unfold wH netSum
    omega
  refine up_from (P := fun i => ∀ x y : Int, x = (fiS p (wH v f h) i.toNat : Nat) → y = (max 1 (cntS p i.toNat) : Nat) → KX1_bestIndex l E _ 4 [(0, vR E 49), (1, vI h), (2, vI x), (3, vI y)] G D) (lo := 0) (n := (n : Int)) (by omega) ?_ ?_ 0 1 rfl rfl
  · intro x y hx hy
    rw [Int.toNat_natCast] at hx hy
    refine s_X1_bestIndex_4 hL ⟨by omega, fun _ => ⟨rfl, hx, rfl⟩, fun hlt => absurd hlt ?_⟩
    rw [hl.1]; omega
  · intro i i0 i1 ih x y hx hy
    obtain ⟨S, rfl⟩ := Int.eq_ofNat_of_zero_le i0
    have es : ((S : Int) + 1).toNat = S + 1 := by omega
    rw [Int.toNat_natCast] at hx hy
    rw [es] at ih
    have hSn : S < n := by omega
    by_cases hp : p S = true
    · have hcl := cnt_lt p hSn hp
      unfold fiS at ih
      rw [cnt_s, bst_s, if_pos hp, if_pos hp, if_neg (by omega)] at ih
      unfold fiS at hx
      rcases bst_is p (wH v f h) S with ⟨b1, b2⟩ | ⟨b, b1, b2, b3, b4⟩
      · rw [if_pos b1, b2] at ih
        rw [if_pos b2] at hx
        rw [b2] at hy
        refine ih x y ?_ hy
        rw [hx, Int.toNat_natCast, b2]
      · rw [b1, if_neg (by omega), Int.toNat_natCast] at ih
        rw [b1, if_neg (by omega), Int.toNat_natCast] at hx
        have hbl := cnt_lt p b2 b3
        have hy2 : y = (cntS p S : Nat) := by omega
        obtain ⟨k1, k2⟩ := key S hSn hp
        obtain ⟨k3, k4⟩ := key b (by omega) b3
        refine s_X1_bestIndex_4 hL ⟨by omega, fun hle => absurd hle (by rw [hl.1]; omega), fun _ => ?_⟩
        rw [hx, hy2, k1, k3]
        refine ⟨⟨by omega, by omega, by omega, by omega, by omega⟩, fun hle => ?_, fun hlt => ?_⟩
        · rw [if_neg (by omega)] at ih
          exact ih _ _ (by rw [Int.toNat_natCast]) (by omega)
        · rw [if_pos hlt] at ih
          exact ih _ _ (by rw [Int.toNat_natCast]) (by omega)
    · have hpf : p S = false := by simpa using hp
      unfold fiS at ih
      rw [cnt_s, bst_s, if_neg hp, if_neg hp] at ih
      exact ih x y hx hy
/-- the first place from lo on that q takes, of k; or -1 -/
def fstF (q : Int → Bool) (lo : Int) : Nat → Int
  | 0 => -1
  | k + 1 => if q lo then lo else fstF q (lo + 1) k
theorem c_X1_leastOtherHunger (hL : Lay G) (hv : wfV v) {f k : Int} (hf : 0 ≤ f ∧ f < v 2) {p : Nat → Bool} {n : Nat} (hn : n ≤ 2 ^ (v 0).toNat) (hc : cntS p n ≤ 252) (hl : LsT v f p n D) : C0 l E MX1_leastOtherHunger 0 [vR E 49] G D (fun r D' => r = fstF (fun h => decide (fiS p (wH v f h) n ≠ fiS p (wH v f 0) n)) 1 99 ∧ D' = D) := by
  have hfi : ∀ h, fiS p (wH v f h) n ≤ 252 := by
    intro h
    unfold fiS
    split
    · omega
    · rcases bst_is p (wH v f h) n with ⟨b1, b2⟩ | ⟨b, b1, b2, b3, b4⟩
      · omega
      · rw [b1, Int.toNat_natCast]; have := cnt_lt p b2 b3; omega
  refine s_X1_leastOtherHunger hL ?_
  refine C0.use (c_X1_bestIndex (k := k) hL hv hf hn hc hl (by decide)) ?_
  rintro r D1 ⟨rfl, rfl⟩
  try dsimp only
  refine up_from (P := fun i => fstF (fun h => decide (fiS p (wH v f h) n ≠ fiS p (wH v f 0) n)) i (100 - i).toNat = fstF (fun h => decide (fiS p (wH v f h) n ≠ fiS p (wH v f 0) n)) 1 99 → KX1_leastOtherHunger l E _ 8 [(0, vR E 49), (1, vI (fiS p (wH v f 0) n : Nat)), (2, vI i)] G D1) (lo := 1) (n := 100) (by omega) ?_ ?_ rfl
  · intro he
    exact s_X1_leastOtherHunger_8 hL ⟨by omega, fun _ => ⟨rfl, he, rfl⟩, fun h => absurd h (by omega)⟩
  · intro i i0 i1 ih he
    have e1 : (100 - i).toNat = (100 - (i + 1)).toNat + 1 := by omega
    rw [e1, fstF] at he
    refine s_X1_leastOtherHunger_8 hL ⟨by omega, fun h => absurd h (by omega), fun _ => ?_⟩
    refine C0.use (c_X1_bestIndex (k := k) hL hv hf hn hc hl (h := i) (by omega)) ?_
    rintro r D2 ⟨rfl, rfl⟩
    try dsimp only
    have g1 := hfi i
    have g2 := hfi 0
    refine ⟨⟨by omega, by omega⟩, fun q => ?_, fun q => ?_⟩
    · rw [if_neg (by simp; omega)] at he
      exact ih he
    · rw [if_pos (by simp; omega)] at he
      exact ⟨rfl, he, rfl⟩
end

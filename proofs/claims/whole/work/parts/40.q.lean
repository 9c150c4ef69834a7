-- plain questions of the reference
def q_many (v : Vl) (w : Int) : Ans := if 0 ≤ w ∧ w ≤ 2 then aNo 0 (v w) else aNo 1 (-1)
def q_strip (v : Vl) (s w : Int) : Ans := if (0 ≤ s ∧ s < v 0) ∧ 0 ≤ w ∧ w ≤ 4 then (if w = 4 ∧ v ((8 + (5 * s)) + w) = -1 then aNo 6 (-1) else aNo 0 (v ((8 + (5 * s)) + w))) else aNo 1 (-1)
def q_harm (v : Vl) (h w : Int) : Ans := if (0 ≤ h ∧ h < v 1) ∧ 0 ≤ w ∧ w ≤ 3 then aNo 0 (if w = 0 then v ((58 + (5 * h)) + 0) else if w < 3 then v ((58 + (5 * h)) + (w + 2)) else (fallN v h : Nat)) else aNo 1 (-1)
def q_family (v : Vl) (f w : Int) : Ans := if (0 ≤ f ∧ f < v 2) ∧ 0 ≤ w ∧ w ≤ 3 then aNo 0 (if w < 3 then v ((88 + (3 * f)) + w) else (heldN v f : Nat)) else aNo 1 (-1)
def q_weight (v : Vl) (lot : Int) : Ans := if 0 ≤ lot ∧ lot < iSl 1 (v 1) then aNo 0 (wtS v lot) else aNo 1 (-1)
def q_left (v : Vl) (s lot : Int) : Ans := if (0 ≤ s ∧ s < v 0) ∧ 0 ≤ lot ∧ lot < iSl 1 (v 1) then aNo 0 (leftS v 0 s lot) else aNo 1 (-1)
def q_round (v : Vl) (f S : Int) : Ans := if (0 ≤ f ∧ f < v 2) ∧ 0 ≤ S ∧ S < iSl 1 (v 0) then aNo 0 (rndS v f S.toNat) else aNo 1 (-1)
def q_net (v : Vl) (f S lot : Int) : Ans := if ((0 ≤ f ∧ f < v 2) ∧ 0 ≤ S ∧ S < iSl 1 (v 0)) ∧ 0 ≤ lot ∧ lot < iSl 1 (v 1) then aNo 0 (netS v 0 (costS v f S.toNat) S lot) else aNo 1 (-1)
def q_odds (v : Vl) (f S x : Int) : Ans := if ((0 ≤ f ∧ f < v 2) ∧ 0 ≤ S ∧ S < iSl 1 (v 0)) ∧ 0 ≤ x ∧ x ≤ 9999 then aFr 1 (atMostS v 0 f S.toNat x) (allS v) else aNo 1 0
def q_hungry (v : Vl) (f S : Int) : Ans := if (0 ≤ f ∧ f < v 2) ∧ 0 ≤ S ∧ S < iSl 1 (v 0) then aFr 1 (atMostS v 0 f S.toNat (v ((88 + (3 * f)) + 2) - 1)) (allS v) else aNo 1 0
def q_worth (v : Vl) (f S : Int) : Ans := if (0 ≤ f ∧ f < v 2) ∧ 0 ≤ S ∧ S < iSl 1 (v 0) then aFr 1 (worthS v f S.toNat) (allS v) else aNo 1 0
theorem jiSl {k : Int} (h : 0 ≤ k ∧ k ≤ 6) : jSl 1 k = iSl 1 k := by
  rcases (show k = 0 ∨ k = 1 ∨ k = 2 ∨ k = 3 ∨ k = 4 ∨ k = 5 ∨ k = 6 by omega) with rfl | rfl | rfl | rfl | rfl | rfl | rfl <;> decide
theorem am_b {v : Vl} (hv : wfV v) (hh f : Int) (S : Nat) (x : Int) : 0 ≤ atMostS v hh f S x ∧ atMostS v hh f S x ≤ 1073741824 := by
  have hlb := lotsB (wfH hv)
  have := sz_bnd (f := amS v hh f S x) (n := (iSl 1 (v 1)).toNat) (a := 0) (b := 16777216) (fun i _ _ => by
    have := wtS_b hv i
    unfold amS; split <;> omega)
  unfold atMostS
  omega
abbrev iRg (x : Int) : Prop := -2147483648 ≤ x ∧ x < 2147483648
section
variable {l : Launch} {E : Ev} {G : Sh} {D : Dm}
theorem c_X10_many (hL : Lay G) {w : Int} (hw : iRg w) {a : Ans} (ha : a = q_many (D 108) w) : C0 l E MX10_many 0 [vR E 107, vI w] G D (fun r D' => r = a.2.1 ∧ mQ D D' a) := by
  refine s_X10_many hL ⟨hw, fun h => ⟨rfl, mQ.no ?_ mS.rf⟩, fun h => ⟨fun h2 => ⟨by omega, rfl, mQ.no ?_ mS.rf⟩, fun h2 => ⟨rfl, mQ.no ?_ mS.rf⟩⟩⟩
  · rw [ha, q_many, if_neg (by omega)]
  · rw [ha, q_many, if_pos ⟨h, h2⟩]
  · rw [ha, q_many, if_neg (by omega)]
theorem c_X10_strip (hL : Lay G) (hv : wfV (D 108)) {s w : Int} (hs : iRg s) (hw : iRg w) {a : Ans} (ha : a = q_strip (D 108) s w) : C0 l E MX10_strip 0 [vR E 107, vI s, vI w] G D (fun r D' => r = a.2.1 ∧ mQ D D' a) := by
  have hS := wfS hv
  refine s_X10_strip hL ⟨hs, fun g => ⟨rfl, mQ.no ?_ mS.rf⟩, fun g => ⟨hw, fun h => ⟨rfl, mQ.no ?_ mS.rf⟩, fun h => ⟨fun h2 => ⟨by omega, fun h3 => ⟨rfl, mQ.no ?_ mS.rf⟩, fun h3 => ⟨fun h4 => ⟨rfl, mQ.no ?_ mS.rf⟩, fun h4 => ⟨rfl, mQ.no ?_ mS.rf⟩⟩⟩, fun h2 => ⟨rfl, mQ.no ?_ mS.rf⟩⟩⟩⟩
  · rw [ha, q_strip, if_neg (by omega)]
  · rw [ha, q_strip, if_neg (by omega)]
  · rw [ha, q_strip, if_pos ⟨g, h, h2⟩, if_neg (by omega)]
  · rw [ha, q_strip, if_pos ⟨g, h, h2⟩, if_neg (by omega)]
  · rw [ha, q_strip, if_pos ⟨g, h, h2⟩, if_pos ⟨h3, h4⟩]
  · rw [ha, q_strip, if_neg (by omega)]
theorem c_X10_family (hL : Lay G) (hv : wfV (D 108)) {f w : Int} (hf : iRg f) (hw : iRg w) {a : Ans} (ha : a = q_family (D 108) f w) : C0 l E MX10_family 0 [vR E 107, vI f, vI w] G D (fun r D' => r = a.2.1 ∧ mQ D D' a) := by
  have hF := wfF hv
  refine s_X10_family hL ⟨hf, fun g => ⟨rfl, mQ.no ?_ mS.rf⟩, fun g => ⟨hw, fun h => ⟨rfl, mQ.no ?_ mS.rf⟩, fun h => ⟨fun h2 => ⟨fun h3 => ?_, fun h3 => ⟨by omega, rfl, mQ.no ?_ mS.rf⟩⟩, fun h2 => ⟨rfl, mQ.no ?_ mS.rf⟩⟩⟩⟩
  · rw [ha, q_family, if_neg (by omega)]
  · rw [ha, q_family, if_neg (by omega)]
  · refine C0.use (c_X10_held hL hv f hf) ?_
    rintro r D1 ⟨rfl, rfl⟩
    try dsimp only
    exact ⟨rfl, mQ.no (by rw [ha, q_family, if_pos ⟨g, h, h2⟩, if_neg (by omega)]) mS.rf⟩
  · rw [ha, q_family, if_pos ⟨g, h, h2⟩, if_pos h3]
  · rw [ha, q_family, if_neg (by omega)]
theorem c_X10_harm (hL : Lay G) (hv : wfV (D 108)) {h w : Int} (hh : iRg h) (hw : iRg w) {a : Ans} (ha : a = q_harm (D 108) h w) : C0 l E MX10_harm 0 [vR E 107, vI h, vI w] G D (fun r D' => r = a.2.1 ∧ mQ D D' a) := by
  have hH := wfH hv
  have hS := wfS hv
  refine s_X10_harm hL ⟨hh, fun g => ⟨rfl, mQ.no ?_ mS.rf⟩, fun g => ⟨hw, fun h1 => ⟨rfl, mQ.no ?_ mS.rf⟩, fun h1 => ⟨fun h2 => ⟨fun h3 => ?_, fun h3 => ⟨fun h4 => ⟨by omega, rfl, mQ.no ?_ mS.rf⟩, fun h4 => ⟨by omega, rfl, mQ.no ?_ mS.rf⟩⟩⟩, fun h2 => ⟨rfl, mQ.no ?_ mS.rf⟩⟩⟩⟩
  · rw [ha, q_harm, if_neg (by omega)]
  · rw [ha, q_harm, if_neg (by omega)]
  · refine up_from (P := fun i => KX10_harm l E _ 54 [(0, vR E 107), (1, vI h), (2, vI w), (3, vI (setN (fun s => decide (fallsP (D 108) h s)) i.toNat : Nat)), (4, vI i)] G D) (lo := 0) (n := D 108 0) (by omega) ?_ ?_
    · refine s_X10_harm_54 hL ⟨by omega, fun _ => ⟨rfl, mQ.no ?_ mS.rf⟩, fun z => absurd z (by omega)⟩
      rw [ha, q_harm, if_pos ⟨g, h1, h2⟩, if_neg (by omega), if_neg (by omega)]
      rfl
    · intro i i0 i1 ih
      rw [setN_s _ i0] at ih
      have hlt := setN_lt (fun s => decide (fallsP (D 108) h s)) i.toNat
      have hle := setN_le (p := fun s => decide (fallsP (D 108) h s)) (n := i.toNat) (by omega)
      refine s_X10_harm_54 hL ⟨by omega, fun z => absurd z (by omega), fun _ => ⟨⟨by omega, by omega, by omega, by omega, by omega, by omega⟩, fun q => ?_, fun q => ?_⟩⟩
      · rw [if_neg (by simpa using q)] at ih
        rw [iO_z hle]; exact ih
      · rw [if_pos (by simpa using q)] at ih
        rw [setN_or (by omega)]; exact ih
  · rw [ha, q_harm, if_pos ⟨g, h1, h2⟩, if_neg h4, if_pos h3]
  · rw [ha, q_harm, if_pos ⟨g, h1, h2⟩, if_pos h4]
  · rw [ha, q_harm, if_neg (by omega)]
theorem c_X10_weight (hL : Lay G) (hv : wfV (D 108)) {lot : Int} (hl : iRg lot) {a : Ans} (ha : a = q_weight (D 108) lot) : C0 l E MX10_weight 1 [vR E 107, vI lot] G D (fun r D' => r = a.2.1 ∧ mQ D D' a) := by
  refine s_X10_weight hL ?_
  rw [jiSl (wfH hv)]
  refine ⟨hl, fun g => ⟨rfl, mQ.no ?_ mS.rf⟩, fun g => ?_⟩
  · rw [ha, q_weight, if_neg g]
  · refine C0.use (c_X10_weightOf hL hv lot) ?_
    rintro r D1 ⟨rfl, rfl⟩
    try dsimp only
    exact ⟨rfl, mQ.no (by rw [ha, q_weight, if_pos g]) mS.rf⟩
theorem c_X10_round (hL : Lay G) (hv : wfV (D 108)) {f S : Int} (hf : iRg f) (hS : iRg S) {a : Ans} (ha : a = q_round (D 108) f S) : C0 l E MX10_round 0 [vR E 107, vI f, vI S] G D (fun r D' => r = a.2.1 ∧ mQ D D' a) := by
  have hs := wfS hv
  refine s_X10_round hL ⟨hf, fun g => ⟨rfl, mQ.no ?_ mS.rf⟩, fun g => ⟨hS, fun g2 => ⟨rfl, mQ.no ?_ mS.rf⟩, fun g2 => ?_⟩⟩
  · rw [ha, q_round, if_neg (by omega)]
  · rw [ha, q_round, if_neg (fun q => g2 q.2)]
  · rw [q_round, if_pos ⟨g, g2⟩] at ha
    obtain ⟨T, rfl⟩ := Int.eq_ofNat_of_zero_le g2.1
    rw [iSl1 (by omega)] at g2
    refine C0.use (c_X10_roundOf hL hv g (S := T) (by omega)) ?_
    rintro r D1 ⟨rfl, ho⟩
    try dsimp only
    exact ⟨rfl, mQ.no ha (mS.rf.off (fun i => Or.inl rfl) ho)⟩
end

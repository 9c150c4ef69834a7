-- edge and change of the reference
/-- as D but place j of the village is x for now -/
def mS4 (D D' : Dm) (j x : Int) : Prop := D' 108 = upV (D 108) j x ∧ ∀ c i, ¬ scrM c i → c ≠ 108 → D' c i = D c i
theorem mS4.mk {D D1 : Dm} (h : mS D D1) (j x : Int) : mS4 D (upd2 D1 108 j x) j x := by
  refine ⟨?_, fun c i h1 h2 => by rw [upd2_cell _ _ _ _ h2]; exact h c i h1⟩
  funext i
  simp only [upd2, upV, h.at]
  simp
theorem mS4.up {D D1 : Dm} {j x : Int} (h : mS4 D D1 j x) (y : Int) : mS4 D (upd2 D1 108 j y) j y := by
  refine ⟨?_, fun c i h1 h2 => by rw [upd2_cell _ _ _ _ h2]; exact h.2 c i h1 h2⟩
  funext i
  simp only [upd2, h.1, upV]
  by_cases q : i = j <;> simp [q]
theorem mS4.tr {D D1 D2 : Dm} {j x : Int} (h : mS4 D D1 j x) (h2 : mS D1 D2) : mS4 D D2 j x := ⟨h2.at.trans h.1, fun c i a b => (h2 c i a).trans (h.2 c i a b)⟩
theorem mS4.back {D D1 : Dm} {j x : Int} (h : mS4 D D1 j x) : mS D (upd2 D1 108 j (D 108 j)) := by
  intro c i hc
  by_cases q : c = 108
  · subst q
    have e : upd2 D1 108 j (D 108 j) 108 i = upV (D1 108) j (D 108 j) i := by simp [upd2, upV]
    rw [e, h.1]
    simp only [upV]
    split
    · next z => rw [z]
    · rfl
  · rw [upd2_cell _ _ _ _ q]; exact h.2 c i hc q
theorem bst_cg {p p' : Nat → Bool} {w w' : Nat → Int} (hp : ∀ S, p S = p' S) (hw : ∀ S, w S = w' S) (n : Nat) : bstS p w n = bstS p' w' n := by
  have e1 : p = p' := funext hp
  have e2 : w = w' := funext hw
  rw [e1, e2]
theorem best_up4 {v : Vl} (hv : wfV v) {f : Int} (hf : 0 ≤ f ∧ f < v 2) (k h : Int) : bstS (okS (openN (upV v 4 h) f) k) (worthS (upV v 4 h) f) (2 ^ (upV v 4 h 0).toNat) = bstS (obS v f k) (wH v f h) (nS v) := by
  have e0 : upV v 4 h 0 = v 0 := by simp [upV]
  rw [e0, (agr_up4 v h).opn hv]
  exact bst_cg (fun _ => rfl) (fun S => worth_up4 hv hf h S) _
def edgeR (v : Vl) (f k : Int) : Int := fstF (fun h => decide (bstS (obS v f k) (wH v f h) (nS v) ≠ bstS (obS v f k) (wH v f 0) (nS v))) 1 99
def q_edge (v : Vl) (f k : Int) : Ans := if (0 ≤ f ∧ f < v 2) ∧ 1 ≤ k ∧ k ≤ 6 then (if bstS (obS v f k) (wH v f 0) (nS v) = -1 then aNo 6 (-1) else if edgeR v f k = -1 then aNo 6 (-1) else aNo 0 (edgeR v f k)) else aNo 1 (-1)
theorem fst_b (q : Int → Bool) : ∀ (n : Nat) (lo : Int), fstF q lo n = -1 ∨ (lo ≤ fstF q lo n ∧ fstF q lo n < lo + n)
  | 0, lo => Or.inl rfl
  | n + 1, lo => by
    rw [fstF]
    split
    · right; omega
    · rcases fst_b q n (lo + 1) with h | h
      · exact Or.inl h
      · right; omega
section
variable {l : Launch} {E : Ev} {G : Sh} {D : Dm}
theorem c_X10_edge (hL : Lay G) (hv : wfV (D 108)) (hh : D 107 20 = 0) {f k : Int} (hf : -2147483648 ≤ f ∧ f < 2147483648) (hk : -2147483648 ≤ k ∧ k < 2147483648) {a : Ans} (ha : a = q_edge (D 108) f k) : C0 l E MX10_edge 0 [vR E 107, vI f, vI k] G D (fun r D' => r = a.2.1 ∧ mQ D D' a) := by
  have h10 := two_le (wfS hv)
  have hU := wfU hv
  refine s_X10_edge hL ⟨hf, fun h => ⟨rfl, mQ.no ?_ mS.rf⟩, fun h => ⟨hk, fun h1 => ⟨rfl, mQ.no ?_ mS.rf⟩, fun h1 => ⟨fun h6 => ?_, fun h6 => ⟨rfl, mQ.no ?_ mS.rf⟩⟩⟩⟩
  · rw [ha, q_edge, if_neg (by omega)]
  · rw [ha, q_edge, if_neg (by omega)]
  · rw [q_edge, if_pos (show (0 ≤ f ∧ f < D 108 2) ∧ 1 ≤ k ∧ k ≤ 6 from ⟨h, h1, h6⟩)] at ha
    have step : ∀ (D1 : Dm) (x : Int), mS4 D D1 4 x → 0 ≤ x ∧ x ≤ 99 → C0 l E MX10_bestOf 0 [vR E 107, vI f, vI k] G D1 (fun r D' => r = bstS (obS (D 108) f k) (wH (D 108) f x) (nS (D 108)) ∧ mS4 D D' 4 x) := by
      intro D1 x h4 hx
      have hv1 : wfV (D1 108) := by rw [h4.1]; exact wfV_up4 hv hx
      have hh1 : D1 107 20 = 0 := by rw [h4.2 107 20 (by simp [scrM]) (by decide)]; exact hh
      have hf1 : 0 ≤ f ∧ f < D1 108 2 := by rw [h4.1]; simpa [upV] using h
      refine C0.use (c_X10_bestOf hL hv1 hh1 hf1 ⟨h1, h6⟩) ?_
      rintro r D' ⟨hr, -, hm⟩
      refine ⟨?_, h4.tr hm⟩
      rw [hr, h4.1]
      exact best_up4 hv h k x
    refine C0.use (step _ 0 (mS4.mk mS.rf 4 0) (by decide)) ?_
    rintro r D1 ⟨rfl, h4⟩
    try dsimp only
    have hb := fun x => bst_b (obS (D 108) f k) (wH (D 108) f x) (nS (D 108))
    have hb0 := hb 0
    have hn10 : nS (D 108) ≤ 1024 := h10
    have hed := fst_b (fun h => decide (bstS (obS (D 108) f k) (wH (D 108) f h) (nS (D 108)) ≠ bstS (obS (D 108) f k) (wH (D 108) f 0) (nS (D 108)))) 99 1
    refine up_from (P := fun i => ∀ (x : Int) (D' : Dm), mS4 D D' 4 x → fstF (fun h => decide (bstS (obS (D 108) f k) (wH (D 108) f h) (nS (D 108)) ≠ bstS (obS (D 108) f k) (wH (D 108) f 0) (nS (D 108)))) i (100 - i).toNat = edgeR (D 108) f k → KX10_edge l E _ 53 [(0, vR E 107), (1, vI f), (2, vI k), (3, vI (D 108 4)), (4, vI (bstS (obS (D 108) f k) (wH (D 108) f 0) (nS (D 108)))), (5, vI (-1)), (6, vI i)] G D') (lo := 1) (n := 100) (by omega) ?_ ?_ 0 D1 h4 rfl
    · intro x D' h4 he
      have he' : edgeR (D 108) f k = -1 := he.symm
      refine s_X10_edge_53 hL ⟨by omega, fun _ => ⟨⟨by omega, by omega⟩, fun z => absurd rfl z, fun _ => ⟨rfl, mQ.no ?_ h4.back⟩⟩, fun z => absurd z (by omega)⟩
      rw [ha, if_pos he', ite_self]
    · intro i i0 i1 ih x D' h4 he
      have e1 : (100 - i).toNat = (100 - (i + 1)).toNat + 1 := by omega
      rw [e1, fstF] at he
      refine s_X10_edge_53 hL ⟨by omega, fun z => absurd z (by omega), fun _ => ⟨by omega, fun hn => ⟨⟨by omega, by omega⟩, fun z => absurd rfl z, fun _ => ⟨rfl, mQ.no ?_ h4.back⟩⟩, fun hn => ⟨by omega, fun z => absurd rfl z, fun _ => ?_⟩⟩⟩
      · rw [ha, if_pos hn]
      · rw [if_neg hn] at ha
        refine C0.use (step _ i (h4.up i) (by omega)) ?_
        rintro r D2 ⟨rfl, h42⟩
        try dsimp only
        have hbi := hb i
        refine ⟨by omega, fun q => ?_, fun q => ?_⟩
        · rw [if_neg (by simpa using q)] at he
          exact ih i D2 h42 he
        · rw [if_pos (by simpa using q)] at he
          rw [← he, if_neg (by omega)] at ha
          refine s_X10_edge_53 hL ⟨by omega, fun _ => ⟨⟨by omega, by omega⟩, fun _ => ⟨rfl, mQ.no ha h42.back⟩, fun z => absurd z (by omega)⟩, fun _ => ⟨by omega, fun z => absurd z hn, fun _ => ⟨by omega, fun _ => ⟨by omega, fun _ => ⟨rfl, mQ.no ha h42.back⟩, fun z => absurd z (by omega)⟩, fun z => absurd z (by omega)⟩⟩⟩
  · rw [ha, q_edge, if_neg (by omega)]
/-- other odds for one harm -/
def oddV (v : Vl) (h od : Int) : Vl := upV v ((58 + (5 * h)) + 4) od
def chgR (v : Vl) (f k h od : Int) : Int := bstS (obS v f k) (worthS (oddV v h od) f) (nS v)
def q_change (v : Vl) (f k h od : Int) : Ans := if ((0 ≤ f ∧ f < v 2) ∧ 1 ≤ k ∧ k ≤ 6) ∧ (0 ≤ h ∧ h < v 1) ∧ 0 ≤ od ∧ od ≤ 16 then (if bestR v f k = -1 then aNo 6 (-1) else if chgR v f k h od = bestR v f k then aNo 0 0 else aNo 0 1) else aNo 1 (-1)
theorem wfV_odd {v : Vl} (hv : wfV v) {h od : Int} (hh : 0 ≤ h ∧ h < v 1) (ho : 0 ≤ od ∧ od ≤ 16) : wfV (oddV v h od) := by
  have := wfV_ovr hv (hm := h) (od := od) (Or.inr ⟨hh.1, hh.2, ho.1, ho.2⟩)
  unfold ovr at this
  rw [if_pos hh.1] at this
  exact this
theorem c_X10_change (hL : Lay G) (hv : wfV (D 108)) (hh : D 107 20 = 0) {f k h od : Int} (hf : -2147483648 ≤ f ∧ f < 2147483648) (hk : -2147483648 ≤ k ∧ k < 2147483648) (hh2 : -2147483648 ≤ h ∧ h < 2147483648) (ho : -2147483648 ≤ od ∧ od < 2147483648) {a : Ans} (ha : a = q_change (D 108) f k h od) : C0 l E MX10_change 0 [vR E 107, vI f, vI k, vI h, vI od] G D (fun r D' => r = a.2.1 ∧ mQ D D' a) := by
  have h10 := two_le (wfS hv)
  have hn10 : nS (D 108) ≤ 1024 := h10
  have hH := wfH hv
  refine s_X10_change hL ⟨hf, fun g => ⟨rfl, mQ.no ?_ mS.rf⟩, fun g => ⟨hk, fun h1 => ⟨rfl, mQ.no ?_ mS.rf⟩, fun h1 => ⟨fun h6 => ⟨rfl, mQ.no ?_ mS.rf⟩, fun h6 => ⟨hh2, fun g2 => ⟨rfl, mQ.no ?_ mS.rf⟩, fun g2 => ⟨ho, fun o1 => ⟨rfl, mQ.no ?_ mS.rf⟩, fun o1 => ⟨fun o2 => ?_, fun o2 => ⟨rfl, mQ.no ?_ mS.rf⟩⟩⟩⟩⟩⟩⟩
  · rw [ha, q_change, if_neg (by omega)]
  · rw [ha, q_change, if_neg (by omega)]
  · rw [ha, q_change, if_neg (by omega)]
  · rw [ha, q_change, if_neg (by omega)]
  · rw [ha, q_change, if_neg (by omega)]
  · rw [q_change, if_pos (show ((0 ≤ f ∧ f < D 108 2) ∧ 1 ≤ k ∧ k ≤ 6) ∧ (0 ≤ h ∧ h < D 108 1) ∧ 0 ≤ od ∧ od ≤ 16 from ⟨⟨g, h1, h6⟩, g2, o1, o2⟩)] at ha
    refine C0.use (c_X10_bestOf hL hv hh g ⟨h1, h6⟩) ?_
    rintro r D1 ⟨hr, -, hm⟩
    try dsimp only
    have hrb := bst_b (obS (D 108) f k) (worthS (D 108) f) (nS (D 108))
    have hbr : bestR (D 108) f k = r := hr.symm
    have hbr2 : bstS (obS (D 108) f k) (worthS (D 108) f) (nS (D 108)) = r := hr.symm
    rw [hbr] at ha
    refine ⟨by omega, fun hne => ⟨by omega, ?_⟩, fun he => ⟨rfl, mQ.no (by rw [ha, if_pos he]) hm⟩⟩
    rw [if_neg hne] at ha
    have h4 := mS4.mk hm ((58 + (5 * h)) + 4) od
    have eo : D1 108 = D 108 := hm.at
    have hv1 : wfV (upd2 D1 108 ((58 + (5 * h)) + 4) od 108) := by rw [h4.1]; exact wfV_odd hv g2 ⟨o1, o2⟩
    have hh1 : upd2 D1 108 ((58 + (5 * h)) + 4) od 107 20 = 0 := by rw [h4.2 107 20 (by simp [scrM]) (by decide)]; exact hh
    have e2 : oddV (D 108) h od 2 = D 108 2 := by simp only [oddV, upV]; rw [if_neg (by omega)]
    have e0 : oddV (D 108) h od 0 = D 108 0 := by simp only [oddV, upV]; rw [if_neg (by omega)]
    have hf1 : 0 ≤ f ∧ f < upd2 D1 108 ((58 + (5 * h)) + 4) od 108 2 := by rw [h4.1]; exact ⟨g.1, by rw [show upV (D 108) ((58 + (5 * h)) + 4) od 2 = D 108 2 from e2]; exact g.2⟩
    refine C0.use (c_X10_bestOf hL hv1 hh1 hf1 ⟨h1, h6⟩) ?_
    rintro r2 D2 ⟨hr2, -, hm2⟩
    try dsimp only
    have hr3 : r2 = chgR (D 108) f k h od := by
      rw [hr2, h4.1]
      unfold chgR obS nS
      have e3 : openN (oddV (D 108) h od) f = openN (D 108) f := (agr_ovr (D 108) (by omega) od).opn hv f
      show bstS (okS (openN (oddV (D 108) h od) f) k) (worthS (oddV (D 108) h od) f) (2 ^ (oddV (D 108) h od 0).toNat) = _
      rw [e3, e0]
    have hb2 := bst_b (obS (D 108) f k) (worthS (oddV (D 108) h od) f) (nS (D 108))
    have hb3 : -1 ≤ r2 ∧ r2 < nS (D 108) := by rw [hr3]; exact hb2
    have hbk := (h4.tr hm2).back
    rw [eo]
    have hod := wfh hv g2.1 g2.2
    rw [← hr3] at ha
    refine ⟨⟨by omega, by omega⟩, fun q => ⟨rfl, mQ.no (by rw [ha, if_pos q]) hbk⟩, fun q => ⟨rfl, mQ.no (by rw [ha, if_neg q]) hbk⟩⟩
  · rw [ha, q_change, if_neg (by omega)]
end

-- ring of the class
def q_ring (v : Vl) (f g h w : Int) : Ans := if (twoP v f g ∧ twoP v g h ∧ f ≠ h) ∧ 0 ≤ w ∧ w ≤ 2 then (if rgF v f g h = -1 then aNo 6 (-1) else aNo 0 (if w = 0 then rgF v f g h / 10 else if w = 1 then rgF v f g h % 10 else rgZ v f g h)) else aNo 1 (-1)
section
variable {l : Launch} {E : Ev} {G : Sh} {D : Dm} {v : Vl} {a : Ans}
theorem c_X9_ring (hL : Lay G) (hv : wfV v) (hC : CV 1 v D) (hO : CVo 1 v D) (hI : RI v G D) {f g h w : Int} (hf : iRg f) (hg : iRg g) (hh : iRg h) (hw : iRg w) (ha : a = q_ring v f g h w) : Ct l E MX9_ring 0 (mcR G v) (msR G v) [vR E 0, vI f, vI g, vI h, vI w] G D (cP v G D a) := by
  refine s_X9_ring hL ?_
  rw [show D 1 2 = v 2 from hC.2.2.1]
  have no : ¬ ((twoP v f g ∧ twoP v g h ∧ f ≠ h) ∧ 0 ≤ w ∧ w ≤ 2) → cP v G D a (-1) G (upd2 D 0 11 1) := fun q => cP.no hL hI (by rw [ha, q_ring, if_neg q]) yS.rf (Or.inl rfl)
  refine ⟨⟨hf, hg⟩, fun q => no (fun z => q z.1.1), fun q => ⟨hh, fun q2 => no (fun z => q2 z.1.2.1), fun q2 => ⟨fun q3 => no (fun z => z.1.2.2 q3), fun q3 => ⟨hw, fun q4 => ?_, fun q4 => no (fun z => q4 z.2)⟩⟩⟩⟩
  rw [q_ring, if_pos ⟨⟨q, q2, q3⟩, q4⟩] at ha
  refine (c_X5_ready hL hv hC hO hI).mono ?_
  rintro - G1 D2 ⟨hG1, hL1, hR1, hI1, hx1⟩
  refine ⟨hL1, ?_⟩
  refine C0.use (c_X4_findRing hL1 hv hR1 q.1 q.2.1 q2.2.1 q.2.2 q3 q2.2.2) ?_
  rintro r D3 ⟨hc, hs3⟩
  try dsimp only
  have hI3 := hI1.cs hL1 hs3
  have hy3 := hx1.y.tr hs3.y
  rcases hc with ⟨c1, rfl⟩ | ⟨c1, rfl, c2, c3, c4⟩
  · rw [if_pos c1] at ha
    exact ⟨by decide, fun _ => cP.no hL1 hI3 ha hy3 (Or.inr hG1), fun z => absurd rfl z⟩
  · rw [if_neg c1] at ha
    refine ⟨by decide, fun z => absurd z (by decide), fun _ => ⟨by omega, ?_⟩⟩
    rcases (show w = 0 ∨ w = 1 ∨ w = 2 by omega) with rfl | rfl | rfl
    · rw [c2]; exact cP.no hL1 hI3 (by rw [ha, if_pos rfl]) hy3 (Or.inr hG1)
    · rw [c3]; exact cP.no hL1 hI3 (by rw [ha, if_neg (by decide), if_pos rfl]) hy3 (Or.inr hG1)
    · rw [c4]; exact cP.no hL1 hI3 (by rw [ha, if_neg (by decide), if_neg (by decide)]) hy3 (Or.inr hG1)
end

-- plain questions of the class
section
variable {l : Launch} {E : Ev} {G G' : Sh} {D D1 : Dm} {v : Vl} {a : Ans}
theorem cP.no {s r : Int} (hL : Lay G') (hI : RI v G' D1) (ha : a = aNo s r) (hy : yS D D1) (hG : G' = G ∨ G' = newG G v) : cP v G D a r G' (upd2 D1 0 11 s) := ⟨cQ.no ha hy, hL, hI.up hL (by omega) _ _, hG⟩
theorem cP.tl {n d r : Int} (hL : Lay G') (hI : RI v G' D1) (ha : a = aFr r n d) (hy : yS D D1) (hG : G' = G ∨ G' = newG G v) : cP v G D a r G' (upd2 (upd2 (upd2 D1 0 12 (frT n d)) 0 13 (frB n d)) 0 11 0) := ⟨cQ.tl ha hy, hL, ((hI.up hL (by omega) _ _).up hL (by omega) _ _).up hL (by omega) _ _, hG⟩
theorem c_X9_many (hL : Lay G) (hC : CV 1 v D) (hI : RI v G D) {w : Int} (hw : iRg w) (ha : a = q_many v w) : Ct l E MX9_many 0 0 0 [vR E 0, vI w] G D (cP v G D a) := by
  refine s_X9_many hL ⟨hw, fun h => ?_, fun h => ?_, fun h => ?_, fun h => ?_⟩
  · subst h; rw [hC.1]; exact cP.no hL hI (by rw [ha, q_many, if_pos (by decide)]) yS.rf (Or.inl rfl)
  · subst h; rw [hC.2.1]; exact cP.no hL hI (by rw [ha, q_many, if_pos (by decide)]) yS.rf (Or.inl rfl)
  · subst h; rw [hC.2.2.1]; exact cP.no hL hI (by rw [ha, q_many, if_pos (by decide)]) yS.rf (Or.inl rfl)
  · exact cP.no hL hI (by rw [ha, q_many, if_neg (by omega)]) yS.rf (Or.inl rfl)
theorem c_X9_strip (hL : Lay G) (hv : wfV v) (hC : CV 1 v D) (hI : RI v G D) {s w : Int} (hs : iRg s) (hw : iRg w) (ha : a = q_strip v s w) : Ct l E MX9_strip 0 0 0 [vR E 0, vI s, vI w] G D (cP v G D a) := by
  have hS := wfS hv
  refine s_X9_strip hL ?_
  rw [show D 1 0 = v 0 from hC.1]
  refine ⟨hs, fun g => ?_, fun g => cP.no hL hI (by rw [ha, q_strip, if_neg (fun q => g q.1)]) yS.rf (Or.inl rfl)⟩
  obtain ⟨e0, e1, e2, e3, e4⟩ := CV_s hC g.1 g.2
  rw [e0, e1, e2, e3, e4]
  refine ⟨hw, fun h => ⟨by omega, ?_⟩, fun h => ⟨by omega, ?_⟩, fun h => ⟨by omega, ?_⟩, fun h => ⟨by omega, ?_⟩, fun h => ⟨by omega, fun q => ?_, fun q => ?_⟩, fun h => ?_⟩
  · subst h; exact cP.no hL hI (by rw [ha, q_strip, if_pos ⟨g, by decide⟩, if_neg (by omega)]) yS.rf (Or.inl rfl)
  · subst h; exact cP.no hL hI (by rw [ha, q_strip, if_pos ⟨g, by decide⟩, if_neg (by omega)]) yS.rf (Or.inl rfl)
  · subst h; exact cP.no hL hI (by rw [ha, q_strip, if_pos ⟨g, by decide⟩, if_neg (by omega)]) yS.rf (Or.inl rfl)
  · subst h; exact cP.no hL hI (by rw [ha, q_strip, if_pos ⟨g, by decide⟩, if_neg (by omega)]) yS.rf (Or.inl rfl)
  · subst h; exact cP.no hL hI (by rw [ha, q_strip, if_pos ⟨g, by decide⟩, if_neg (by omega)]) yS.rf (Or.inl rfl)
  · subst h; exact cP.no hL hI (by rw [ha, q_strip, if_pos ⟨g, by decide⟩, if_pos ⟨rfl, q⟩]) yS.rf (Or.inl rfl)
  · exact cP.no hL hI (by rw [ha, q_strip, if_neg (by omega)]) yS.rf (Or.inl rfl)
theorem c_X9_harm (hL : Lay G) (hv : wfV v) (hC : CV 1 v D) (hO : CVo 1 v D) (hI : RI v G D) {h w : Int} (hh : iRg h) (hw : iRg w) (ha : a = q_harm v h w) : Ct l E MX9_harm 0 0 0 [vR E 0, vI h, vI w] G D (cP v G D a) := by
  have hH := wfH hv
  refine s_X9_harm hL ?_
  rw [show D 1 1 = v 1 from hC.2.1]
  refine ⟨hh, fun g => ?_, fun g => cP.no hL hI (by rw [ha, q_harm, if_neg (fun q => g q.1)]) yS.rf (Or.inl rfl)⟩
  obtain ⟨e0, e1, e3⟩ := CV_h hC g.1 g.2
  rw [e0, e1, e3, show D 9 h = v ((58 + (5 * h)) + 4) from hO h g.1 g.2]
  refine ⟨hw, fun z => ⟨by omega, ?_⟩, fun z => ⟨by omega, ?_⟩, fun z => ⟨by omega, ?_⟩, fun z => ⟨by omega, ?_⟩, fun z => ?_⟩
  · subst z; exact cP.no hL hI (by rw [ha, q_harm, if_pos ⟨g, by decide⟩, if_pos rfl]) yS.rf (Or.inl rfl)
  · subst z; exact cP.no hL hI (by rw [ha, q_harm, if_pos ⟨g, by decide⟩, if_neg (by decide), if_pos (by decide)]; rfl) yS.rf (Or.inl rfl)
  · subst z; exact cP.no hL hI (by rw [ha, q_harm, if_pos ⟨g, by decide⟩, if_neg (by decide), if_pos (by decide)]; rfl) yS.rf (Or.inl rfl)
  · subst z; exact cP.no hL hI (by rw [ha, q_harm, if_pos ⟨g, by decide⟩, if_neg (by decide), if_neg (by decide)]) yS.rf (Or.inl rfl)
  · exact cP.no hL hI (by rw [ha, q_harm, if_neg (by omega)]) yS.rf (Or.inl rfl)
theorem c_X9_family (hL : Lay G) (hv : wfV v) (hC : CV 1 v D) (hI : RI v G D) {f w : Int} (hf : iRg f) (hw : iRg w) (ha : a = q_family v f w) : Ct l E MX9_family 0 0 0 [vR E 0, vI f, vI w] G D (cP v G D a) := by
  have hF := wfF hv
  refine s_X9_family hL ?_
  rw [show D 1 2 = v 2 from hC.2.2.1]
  refine ⟨hf, fun g => ?_, fun g => cP.no hL hI (by rw [ha, q_family, if_neg (fun q => g q.1)]) yS.rf (Or.inl rfl)⟩
  obtain ⟨e0, e1, e3⟩ := CV_f hC g.1 g.2
  rw [e0, e1, e3]
  refine ⟨hw, fun z => ⟨by omega, ?_⟩, fun z => ⟨by omega, ?_⟩, fun z => ⟨by omega, ?_⟩, fun z => ?_, fun z => ?_⟩
  · subst z; exact cP.no hL hI (by rw [ha, q_family, if_pos ⟨g, by decide⟩, if_pos (by decide)]) yS.rf (Or.inl rfl)
  · subst z; exact cP.no hL hI (by rw [ha, q_family, if_pos ⟨g, by decide⟩, if_pos (by decide)]) yS.rf (Or.inl rfl)
  · subst z; exact cP.no hL hI (by rw [ha, q_family, if_pos ⟨g, by decide⟩, if_pos (by decide)]) yS.rf (Or.inl rfl)
  · subst z
    refine C0.use (c_X8_heldBy hL hv hC f hf) ?_
    rintro r D2 ⟨rfl, rfl⟩
    exact cP.no hL hI (by rw [ha, q_family, if_pos ⟨g, by decide⟩, if_neg (by decide)]) yS.rf (Or.inl rfl)
  · exact cP.no hL hI (by rw [ha, q_family, if_neg (by omega)]) yS.rf (Or.inl rfl)
theorem c_X9_weight (hL : Lay G) (hv : wfV v) (hC : CV 1 v D) (hO : CVo 1 v D) (hI : RI v G D) {lot : Int} (hl : iRg lot) (ha : a = q_weight v lot) : Ct l E MX9_weight 1 0 0 [vR E 0, vI lot] G D (cP v G D a) := by
  refine s_X9_weight hL ?_
  rw [show D 1 1 = v 1 from hC.2.1]
  refine ⟨hl, fun g => ?_, fun g => cP.no hL hI (by rw [ha, q_weight, if_neg g]) yS.rf (Or.inl rfl)⟩
  have hs : ∀ j : Nat, j ≤ 12 → upd2 D 0 11 0 (1 + j) = D (1 + j) := fun j _ => funext fun i => upd2_cell _ _ _ _ (by omega)
  refine C0.use (c_X5_weightOf hL hv (hC.same hs) (hO.same hs) lot (-1) 0 (Or.inl rfl)) ?_
  rintro r D2 ⟨rfl, rfl⟩
  exact cP.no hL hI (by rw [ha, q_weight, if_pos g]; rfl) yS.rf (Or.inl rfl)
theorem c_X9_left (hL : Lay G) (hv : wfV v) (hC : CV 1 v D) (hI : RI v G D) {s lot : Int} (hs : iRg s) (hl : iRg lot) (ha : a = q_left v s lot) : Ct l E MX9_left 0 0 0 [vR E 0, vI s, vI lot] G D (cP v G D a) := by
  have hS := wfS hv
  refine s_X9_left hL ?_
  rw [show D 1 1 = v 1 from hC.2.1, show D 1 0 = v 0 from hC.1]
  refine ⟨hs, fun g => cP.no hL hI (by rw [ha, q_left, if_neg (fun q => g q.1)]) yS.rf (Or.inl rfl), fun g => ⟨hl, fun g2 => ⟨by omega, ?_⟩, fun g2 => cP.no hL hI (by rw [ha, q_left, if_neg (fun q => g2 q.2)]) yS.rf (Or.inl rfl)⟩⟩
  refine C0.use (c_X5_eighthsKept hL hv hC s lot g) ?_
  rintro r D2 ⟨rfl, rfl⟩
  try dsimp only
  rw [(CV_s hC g.1 g.2).2.2.1]
  have hw := wfs hv g.1 g.2
  have ht := tk_b hv s lot (v 1).toNat (Nat.le_refl _)
  have hm := mulB (A := 99) (B := 8) (a := v ((8 + (5 * s)) + 2)) (b := 8 - min 8 (tkS v s lot)) (by omega) (by unfold tkS; omega)
  refine ⟨by omega, cP.no hL hI ?_ yS.rf (Or.inl rfl)⟩
  rw [ha, q_left, if_pos ⟨g, g2⟩]
  unfold leftS
  obtain ⟨n, hn⟩ := Int.eq_ofNat_of_zero_le (show 0 ≤ v ((8 + (5 * s)) + 2) by omega)
  rw [hn, show iSr (n : Int) 0 = iSr (n : Int) ((0 : Nat) : Int) from rfl, iSr_nat n 0 (by decide) (by omega), Nat.pow_zero, Nat.div_one]
end

-- round, net, odds, hungry, worth of the class
section
variable {l : Launch} {E : Ev} {G : Sh} {D : Dm} {v : Vl} {a : Ans}
theorem off_kS {D D' : Dm} (h : offC 44 D D') : kS D D' := fun c i hc => by rw [h c (fun e => hc (Or.inl e))]
theorem c_X9_round (hL : Lay G) (hv : wfV v) (hC : CV 1 v D) (hO : CVo 1 v D) (hI : RI v G D) {f S : Int} (hf : iRg f) (hS : iRg S) (ha : a = q_round v f S) : Ct l E MX9_round 0 (mcR G v) (msR G v) [vR E 0, vI f, vI S] G D (cP v G D a) := by
  have hs := wfS hv
  refine s_X9_round hL ?_
  rw [show D 1 2 = v 2 from hC.2.2.1, show D 1 0 = v 0 from hC.1]
  refine ⟨⟨hf, hS⟩, fun g => ?_, fun g => cP.no hL hI (by rw [ha, q_round, if_neg g]) yS.rf (Or.inl rfl)⟩
  rw [q_round, if_pos g] at ha
  obtain ⟨g, g2⟩ := g
  obtain ⟨T, rfl⟩ := Int.eq_ofNat_of_zero_le g2.1
  rw [iSl1 (by omega)] at g2
  refine (c_X5_ready hL hv hC hO hI).mono ?_
  rintro - G1 D2 ⟨hG1, hL1, hR1, hI1, hx1⟩
  refine ⟨hL1, ?_⟩
  refine C0.use (c_X5_roundOf hL1 hv hR1 g (S := T) (by omega)) ?_
  rintro r D3 ⟨rfl, rfl⟩
  exact cP.no hL1 hI1 ha hx1.y (Or.inr hG1)
theorem c_X9_net (hL : Lay G) (hv : wfV v) (hC : CV 1 v D) (hO : CVo 1 v D) (hI : RI v G D) {f S lot : Int} (hf : iRg f) (hS : iRg S) (hl : iRg lot) (ha : a = q_net v f S lot) : Ct l E MX9_net 0 (mcR G v) (msR G v) [vR E 0, vI f, vI S, vI lot] G D (cP v G D a) := by
  have hs := wfS hv
  have hlb := lotsB (wfH hv)
  refine s_X9_net hL ?_
  rw [show D 1 2 = v 2 from hC.2.2.1, show D 1 0 = v 0 from hC.1, show D 1 1 = v 1 from hC.2.1]
  refine ⟨⟨hf, hS⟩, fun g => cP.no hL hI (by rw [ha, q_net, if_neg (fun q => g q.1)]) yS.rf (Or.inl rfl), fun g => ⟨hl, fun g3 => ?_, fun g3 => cP.no hL hI (by rw [ha, q_net, if_neg (fun q => g3 q.2)]) yS.rf (Or.inl rfl)⟩⟩
  rw [q_net, if_pos ⟨g, g3⟩] at ha
  obtain ⟨g, g2⟩ := g
  obtain ⟨T, rfl⟩ := Int.eq_ofNat_of_zero_le g2.1
  rw [iSl1 (by omega)] at g2
  rw [Int.toNat_natCast] at ha
  refine (c_X5_ready hL hv hC hO hI).mono ?_
  rintro - G1 D2 ⟨hG1, hL1, hR1, hI1, hx1⟩
  refine ⟨hL1, ?_⟩
  refine C0.use (c_X5_fillNets hL1 hv hR1 g (S := T) (by omega) (by decide)) ?_
  rintro - D3 ⟨hn, ho⟩
  try dsimp only
  rw [hn lot g3.1 g3.2]
  refine ⟨by omega, ?_⟩
  exact cP.no hL1 (hI1.cs hL1 (off_kS ho).s) ha (hx1.y.tr (off_kS ho).s.y) (Or.inr hG1)
theorem c_X9_odds (hL : Lay G) (hv : wfV v) (hC : CV 1 v D) (hO : CVo 1 v D) (hI : RI v G D) {f S x : Int} (hf : iRg f) (hS : iRg S) (hx : iRg x) (ha : a = q_odds v f S x) : Ct l E MX9_odds 0 (mcR G v) (msR G v) [vR E 0, vI f, vI S, vI x] G D (cP v G D a) := by
  have hs := wfS hv
  have hab := all_b hv
  refine s_X9_odds hL ?_
  rw [show D 1 2 = v 2 from hC.2.2.1, show D 1 0 = v 0 from hC.1]
  refine ⟨⟨hf, hS⟩, fun g => cP.no hL hI (by rw [ha, q_odds, if_neg (fun q => g q.1)]) yS.rf (Or.inl rfl), fun g => ⟨hx, fun g3 => ?_, fun g3 => cP.no hL hI (by rw [ha, q_odds, if_neg (fun q => g3 q.2)]) yS.rf (Or.inl rfl)⟩⟩
  rw [q_odds, if_pos ⟨g, g3⟩] at ha
  obtain ⟨g, g2⟩ := g
  obtain ⟨T, rfl⟩ := Int.eq_ofNat_of_zero_le g2.1
  rw [iSl1 (by omega)] at g2
  rw [Int.toNat_natCast] at ha
  refine (c_X5_ready hL hv hC hO hI).mono ?_
  rintro - G1 D2 ⟨hG1, hL1, hR1, hI1, hx1⟩
  refine ⟨hL1, ?_⟩
  refine C0.use (c_X5_fillNets hL1 hv hR1 g (S := T) (by omega) (by decide)) ?_
  rintro - D3 ⟨hn, ho⟩
  try dsimp only
  have hR3 := (off_kS ho).s.ready hL1 hR1
  refine C0.use (c_X5_weightAtMost hL1 hv hR3 hn x hx) ?_
  rintro r D4 ⟨rfl, rfl⟩
  try dsimp only
  rw [show D4 1 1 = v 1 from hR3.1.2.1, jAll hv]
  have hb := am_b hv 0 f T x
  refine C0.use (c_X9_tell hL1 (by omega) (by omega)) ?_
  rintro r D5 ⟨rfl, rfl⟩
  exact ⟨Or.inr rfl, cP.tl hL1 (hI1.cs hL1 (off_kS ho).s) ha (hx1.y.tr (off_kS ho).s.y) (Or.inr hG1)⟩
theorem c_X9_hungry (hL : Lay G) (hv : wfV v) (hC : CV 1 v D) (hO : CVo 1 v D) (hI : RI v G D) {f S : Int} (hf : iRg f) (hS : iRg S) (ha : a = q_hungry v f S) : Ct l E MX9_hungry 0 (mcR G v) (msR G v) [vR E 0, vI f, vI S] G D (cP v G D a) := by
  have hs := wfS hv
  have hF := wfF hv
  have hab := all_b hv
  refine s_X9_hungry hL ?_
  rw [show D 1 2 = v 2 from hC.2.2.1, show D 1 0 = v 0 from hC.1]
  refine ⟨⟨hf, hS⟩, fun g => ?_, fun g => cP.no hL hI (by rw [ha, q_hungry, if_neg g]) yS.rf (Or.inl rfl)⟩
  rw [q_hungry, if_pos g] at ha
  obtain ⟨g, g2⟩ := g
  have hn := wff hv g.1 g.2
  obtain ⟨T, rfl⟩ := Int.eq_ofNat_of_zero_le g2.1
  rw [iSl1 (by omega)] at g2
  rw [Int.toNat_natCast] at ha
  refine (c_X5_ready hL hv hC hO hI).mono ?_
  rintro - G1 D2 ⟨hG1, hL1, hR1, hI1, hx1⟩
  refine ⟨hL1, ?_⟩
  refine C0.use (c_X5_fillNets hL1 hv hR1 g (S := T) (by omega) (by decide)) ?_
  rintro - D3 ⟨hnt, ho⟩
  try dsimp only
  have hR3 := (off_kS ho).s.ready hL1 hR1
  rw [show D3 13 f = v ((88 + (3 * f)) + 2) from (CV_f hR3.1 g.1 g.2).2.2]
  refine ⟨by omega, ?_⟩
  refine C0.use (c_X5_weightAtMost hL1 hv hR3 hnt (v ((88 + (3 * f)) + 2) - 1) (by omega)) ?_
  rintro r D4 ⟨rfl, rfl⟩
  try dsimp only
  rw [show D4 1 1 = v 1 from hR3.1.2.1, jAll hv]
  have hb := am_b hv 0 f T (v ((88 + (3 * f)) + 2) - 1)
  refine C0.use (c_X9_tell hL1 (by omega) (by omega)) ?_
  rintro r D5 ⟨rfl, rfl⟩
  exact ⟨Or.inr rfl, cP.tl hL1 (hI1.cs hL1 (off_kS ho).s) ha (hx1.y.tr (off_kS ho).s.y) (Or.inr hG1)⟩
theorem c_X9_worth (hL : Lay G) (hv : wfV v) (hC : CV 1 v D) (hO : CVo 1 v D) (hI : RI v G D) {f S : Int} (hf : iRg f) (hS : iRg S) (ha : a = q_worth v f S) : Ct l E MX9_worth 0 (mcR G v) (msR G v) [vR E 0, vI f, vI S] G D (cP v G D a) := by
  have hs := wfS hv
  have hab := all_b hv
  refine s_X9_worth hL ?_
  rw [show D 1 2 = v 2 from hC.2.2.1, show D 1 0 = v 0 from hC.1]
  refine ⟨⟨hf, hS⟩, fun g => ?_, fun g => cP.no hL hI (by rw [ha, q_worth, if_neg g]) yS.rf (Or.inl rfl)⟩
  rw [q_worth, if_pos g] at ha
  obtain ⟨g, g2⟩ := g
  obtain ⟨T, rfl⟩ := Int.eq_ofNat_of_zero_le g2.1
  rw [iSl1 (by omega)] at g2
  rw [Int.toNat_natCast] at ha
  refine (c_X5_ready hL hv hC hO hI).mono ?_
  rintro - G1 D2 ⟨hG1, hL1, hR1, hI1, hx1⟩
  refine ⟨hL1, ?_⟩
  refine C0.use (c_X5_worthOf hL1 hv hR1 g (S := T) (by omega)) ?_
  rintro r D3 ⟨rfl, hk⟩
  try dsimp only
  have hR3 := hk.s.ready hL1 hR1
  rw [show D3 1 1 = v 1 from hR3.1.2.1, jAll hv]
  have hb := worth_b hv g (S := T) (by omega)
  refine C0.use (c_X9_tell hL1 (by omega) (by omega)) ?_
  rintro r D5 ⟨rfl, rfl⟩
  exact ⟨Or.inr rfl, cP.tl hL1 (hI1.cs hL1 hk.s) ha (hx1.y.tr hk.s.y) (Or.inr hG1)⟩
end

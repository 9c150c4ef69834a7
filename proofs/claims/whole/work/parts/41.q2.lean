-- left, net, odds, hungry, worth of the reference
section
variable {l : Launch} {E : Ev} {G : Sh} {D : Dm}
theorem c_X10_left (hL : Lay G) (hv : wfV (D 108)) (hh : D 107 20 = 0) {s lot : Int} (hs : iRg s) (hl : iRg lot) {a : Ans} (ha : a = q_left (D 108) s lot) : C0 l E MX10_left 0 [vR E 107, vI s, vI lot] G D (fun r D' => r = a.2.1 ∧ mQ D D' a) := by
  refine s_X10_left hL ?_
  rw [jiSl (wfH hv)]
  refine ⟨hs, fun g => ⟨rfl, mQ.no ?_ mS.rf⟩, fun g => ⟨hl, fun g2 => ⟨rfl, mQ.no ?_ mS.rf⟩, fun g2 => ?_⟩⟩
  · rw [ha, q_left, if_neg (fun q => g q.1)]
  · rw [ha, q_left, if_neg (fun q => g2 q.2)]
  · rw [q_left, if_pos ⟨g, g2⟩] at ha
    refine C0.use (c_X10_leftOf hL hv (by rw [hh]; decide) s lot g) ?_
    rintro r D1 ⟨rfl, rfl⟩
    try dsimp only
    rw [hh]
    exact ⟨rfl, mQ.no ha mS.rf⟩
theorem c_X10_net (hL : Lay G) (hv : wfV (D 108)) (hh : D 107 20 = 0) {f S lot : Int} (hf : iRg f) (hS : iRg S) (hl : iRg lot) {a : Ans} (ha : a = q_net (D 108) f S lot) : C0 l E MX10_net 0 [vR E 107, vI f, vI S, vI lot] G D (fun r D' => r = a.2.1 ∧ mQ D D' a) := by
  have hs := wfS hv
  refine s_X10_net hL ?_
  rw [jiSl (wfH hv)]
  refine ⟨hf, fun g => ⟨rfl, mQ.no ?_ mS.rf⟩, fun g => ⟨hS, fun g2 => ⟨rfl, mQ.no ?_ mS.rf⟩, fun g2 => ⟨hl, fun g3 => ?_, fun g3 => ⟨rfl, mQ.no ?_ mS.rf⟩⟩⟩⟩
  · rw [ha, q_net, if_neg (fun q => g q.1.1)]
  · rw [ha, q_net, if_neg (fun q => g2 q.1.2)]
  · rw [q_net, if_pos ⟨⟨g, g2⟩, g3⟩] at ha
    obtain ⟨T, rfl⟩ := Int.eq_ofNat_of_zero_le g2.1
    rw [iSl1 (by omega)] at g2
    rw [Int.toNat_natCast] at ha
    refine C0.use (c_X10_goesRound hL hv g (S := T) (by omega)) ?_
    rintro - D1 ⟨hway, hm⟩
    try dsimp only
    have e := hm.at
    have eh := hm.hv
    have hc := cost_b hv g (S := T) (by omega)
    refine C0.use (c_X10_netOf hL (by rw [e]; exact hv) (by rw [eh, hh]; decide) (by rw [hway]; exact hc) T lot) ?_
    rintro r D2 ⟨rfl, rfl⟩
    try dsimp only
    rw [e, eh, hh, hway]
    exact ⟨rfl, mQ.no ha hm.m⟩
  · rw [ha, q_net, if_neg (fun q => g3 q.2)]
theorem c_X10_odds (hL : Lay G) (hv : wfV (D 108)) (hh : D 107 20 = 0) {f S x : Int} (hf : iRg f) (hS : iRg S) (hx : iRg x) {a : Ans} (ha : a = q_odds (D 108) f S x) : C0 l E MX10_odds 0 [vR E 107, vI f, vI S, vI x] G D (fun r D' => r = a.2.1 ∧ mQ D D' a) := by
  have hs := wfS hv
  have hab := all_b hv
  refine s_X10_odds hL ⟨hf, fun g => ⟨rfl, mQ.no ?_ mS.rf⟩, fun g => ⟨hS, fun g2 => ⟨rfl, mQ.no ?_ mS.rf⟩, fun g2 => ⟨hx, fun g3 => ⟨rfl, mQ.no ?_ mS.rf⟩, fun g3 => ⟨fun g4 => ?_, fun g4 => ⟨rfl, mQ.no ?_ mS.rf⟩⟩⟩⟩⟩
  · rw [ha, q_odds, if_neg (fun q => g q.1.1)]
  · rw [ha, q_odds, if_neg (fun q => g2 q.1.2)]
  · rw [ha, q_odds, if_neg (by omega)]
  · rw [q_odds, if_pos ⟨⟨g, g2⟩, g3, g4⟩] at ha
    obtain ⟨T, rfl⟩ := Int.eq_ofNat_of_zero_le g2.1
    rw [iSl1 (by omega)] at g2
    rw [Int.toNat_natCast] at ha
    refine C0.use (c_X10_atMost hL hv (by rw [hh]; decide) g (S := T) (by omega) x hx) ?_
    rintro r D1 ⟨rfl, hm⟩
    try dsimp only
    have e := hm.at
    rw [hh]
    have hb := am_b hv 0 f T x
    refine C0.use (c_X10_allLots hL (by rw [e]; exact hv)) ?_
    rintro r D2 ⟨rfl, rfl⟩
    try dsimp only
    rw [e]
    refine C0.use (c_X10_tells hL (by omega) (by omega)) ?_
    rintro r D3 ⟨rfl, rfl⟩
    exact ⟨Or.inr rfl, rfl, mQ.tl ha hm.m⟩
  · rw [ha, q_odds, if_neg (by omega)]
theorem c_X10_hungry (hL : Lay G) (hv : wfV (D 108)) (hh : D 107 20 = 0) {f S : Int} (hf : iRg f) (hS : iRg S) {a : Ans} (ha : a = q_hungry (D 108) f S) : C0 l E MX10_hungry 0 [vR E 107, vI f, vI S] G D (fun r D' => r = a.2.1 ∧ mQ D D' a) := by
  have hs := wfS hv
  have hF := wfF hv
  have hab := all_b hv
  refine s_X10_hungry hL ⟨hf, fun g => ⟨rfl, mQ.no ?_ mS.rf⟩, fun g => ⟨hS, fun g2 => ⟨by omega, ?_⟩, fun g2 => ⟨rfl, mQ.no ?_ mS.rf⟩⟩⟩
  · rw [ha, q_hungry, if_neg (fun q => g q.1)]
  · rw [q_hungry, if_pos ⟨g, g2⟩] at ha
    have hn := wff hv g.1 g.2
    obtain ⟨T, rfl⟩ := Int.eq_ofNat_of_zero_le g2.1
    rw [iSl1 (by omega)] at g2
    rw [Int.toNat_natCast] at ha
    refine C0.use (c_X10_atMost hL hv (by rw [hh]; decide) g (S := T) (by omega) _ (by omega)) ?_
    rintro r D1 ⟨rfl, hm⟩
    try dsimp only
    have e := hm.at
    rw [hh]
    have hb := am_b hv 0 f T (D 108 ((88 + (3 * f)) + 2) - 1)
    refine C0.use (c_X10_allLots hL (by rw [e]; exact hv)) ?_
    rintro r D2 ⟨rfl, rfl⟩
    try dsimp only
    rw [e]
    refine C0.use (c_X10_tells hL (by omega) (by omega)) ?_
    rintro r D3 ⟨rfl, rfl⟩
    exact ⟨Or.inr rfl, rfl, mQ.tl ha hm.m⟩
  · rw [ha, q_hungry, if_neg (fun q => g2 q.2)]
theorem c_X10_worth (hL : Lay G) (hv : wfV (D 108)) (hh : D 107 20 = 0) {f S : Int} (hf : iRg f) (hS : iRg S) {a : Ans} (ha : a = q_worth (D 108) f S) : C0 l E MX10_worth 0 [vR E 107, vI f, vI S] G D (fun r D' => r = a.2.1 ∧ mQ D D' a) := by
  have hs := wfS hv
  have hab := all_b hv
  refine s_X10_worth hL ⟨hf, fun g => ⟨rfl, mQ.no ?_ mS.rf⟩, fun g => ⟨hS, fun g2 => ?_, fun g2 => ⟨rfl, mQ.no ?_ mS.rf⟩⟩⟩
  · rw [ha, q_worth, if_neg (fun q => g q.1)]
  · rw [q_worth, if_pos ⟨g, g2⟩] at ha
    obtain ⟨T, rfl⟩ := Int.eq_ofNat_of_zero_le g2.1
    rw [iSl1 (by omega)] at g2
    rw [Int.toNat_natCast] at ha
    refine C0.use (c_X10_worthOf hL hv hh g (S := T) (by omega)) ?_
    rintro r D1 ⟨rfl, hm⟩
    try dsimp only
    have e := hm.at
    have hb := worth_b hv g (S := T) (by omega)
    refine C0.use (c_X10_allLots hL (by rw [e]; exact hv)) ?_
    rintro r D2 ⟨rfl, rfl⟩
    try dsimp only
    rw [e]
    refine C0.use (c_X10_tells hL (by omega) (by omega)) ?_
    rintro r D3 ⟨rfl, rfl⟩
    exact ⟨Or.inr rfl, rfl, mQ.tl ha hm.m⟩
  · rw [ha, q_worth, if_neg (fun q => g2 q.2)]
end

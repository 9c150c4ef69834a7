/-! ===== the class's reader: families ===== -/
theorem cd_fam {D X : Dm} {w : Vl} {sn fn : Row} (hC : CD D w sn fn) (hB : WB w) (hlt : w 2 < 4) {x0 x1 x2 x3 : Int} (h25 : X 25 0 = D 25 0 ∧ X 25 1 = D 25 1 ∧ X 25 2 = w 2 + 1) (h35 : ∀ j, X 35 j = if j = w 2 then x1 else D 35 j) (h36 : ∀ j, X 36 j = if j = w 2 then x2 else D 36 j) (h37 : ∀ j, X 37 j = if j = w 2 then x3 else D 37 j) (h39 : ∀ j, X 39 j = if j = w 2 then x0 else D 39 j) (hr : ∀ c, (26 ≤ c ∧ c ≤ 34) ∨ c = 38 ∨ c = 40 ∨ c = 41 → X c = D c) : CD X (wFam w x1 x2 x3) sn (upV fn (w 2) x0) := by
  obtain ⟨a0, b', c, d⟩ := hC
  obtain ⟨b0, b1, b2⟩ := hB
  have w2 : wFam w x1 x2 x3 2 = w 2 + 1 := by unfold wFam; rw [if_pos rfl]
  have key : ∀ i : Int, i ≠ 2 → ¬ (88 + 3 * w 2 ≤ i ∧ i ≤ 88 + 3 * w 2 + 2) → wFam w x1 x2 x3 i = w i := fun i h1 h2 => by
    unfold wFam
    rw [if_neg h1, if_neg (by omega), if_neg (by omega), if_neg (by omega)]
  refine ⟨⟨by rw [h25.1, key 0 (by omega) (by omega)]; exact a0.1, by rw [h25.2.1, key 1 (by omega) (by omega)]; exact a0.2.1, by rw [h25.2.2, w2]⟩, fun s p q => ?_, fun h p q => ?_, fun f p q => ?_⟩
  · rw [key 0 (by omega) (by omega)] at q
    rw [hr 26 (by decide), hr 27 (by decide), hr 28 (by decide), hr 29 (by decide), hr 30 (by decide), hr 38 (by decide), key _ (by omega) (by omega), key _ (by omega) (by omega), key _ (by omega) (by omega), key _ (by omega) (by omega), key _ (by omega) (by omega)]
    exact b' s p q
  · rw [key 1 (by omega) (by omega)] at q
    rw [hr 31 (by decide), hr 32 (by decide), hr 33 (by decide), hr 40 (by decide), hr 41 (by decide), key _ (by omega) (by omega), key _ (by omega) (by omega), key _ (by omega) (by omega), key _ (by omega) (by omega), key _ (by omega) (by omega)]
    exact c h p q
  · rw [w2] at q
    rw [h35, h36, h37, h39]
    by_cases z : f = w 2
    · subst z
      simp only [if_true, upV, and_true]
      unfold wFam
      refine ⟨?_, ?_, ?_⟩
      · rw [if_neg (by omega), if_pos (by omega)]
      · rw [if_neg (by omega), if_neg (by omega), if_pos (by omega)]
      · rw [if_neg (by omega), if_neg (by omega), if_neg (by omega), if_pos (by omega)]
    · simp only [if_neg z, upV]
      rw [key _ (by omega) (by omega), key _ (by omega) (by omega), key _ (by omega) (by omega)]
      exact d f p (by omega)
theorem cd_own {D X : Dm} {w : Vl} {sn fn : Row} (hC : CD D w sn fn) (hB : WB w) {s x : Int} (hs : 0 ≤ s ∧ s < w 0) (h30 : ∀ j, X 30 j = if j = s then x else D 30 j) (hr : ∀ c, (25 ≤ c ∧ c ≤ 41) → c ≠ 30 → X c = D c) : CD X (upV w (8 + 5 * s + 4) x) sn fn := by
  obtain ⟨a0, b', c, d⟩ := hC
  obtain ⟨b0, b1, b2⟩ := hB
  have key : ∀ i : Int, i ≠ 8 + 5 * s + 4 → upV w (8 + 5 * s + 4) x i = w i := fun i h1 => by simp only [upV]; rw [if_neg h1]
  refine ⟨?_, fun t p q => ?_, fun h p q => ?_, fun f p q => ?_⟩
  · rw [hr 25 (by decide) (by decide), key 0 (by omega), key 1 (by omega), key 2 (by omega)]; exact a0
  · rw [key 0 (by omega)] at q
    rw [hr 26 (by decide) (by decide), hr 27 (by decide) (by decide), hr 28 (by decide) (by decide), hr 29 (by decide) (by decide), h30, hr 38 (by decide) (by decide), key _ (by omega), key _ (by omega), key _ (by omega), key _ (by omega)]
    have := b' t p q
    by_cases z : t = s
    · subst z
      refine ⟨⟨this.1.1, this.1.2.1, this.1.2.2.1, this.1.2.2.2.1, ?_⟩, this.2⟩
      rw [if_pos rfl]
      exact (if_pos rfl).symm
    · rw [if_neg z, key _ (by omega)]; exact this
  · rw [key 1 (by omega)] at q
    rw [hr 31 (by decide) (by decide), hr 32 (by decide) (by decide), hr 33 (by decide) (by decide), hr 40 (by decide) (by decide), hr 41 (by decide) (by decide), key _ (by omega), key _ (by omega), key _ (by omega), key _ (by omega), key _ (by omega)]
    exact c h p q
  · rw [key 2 (by omega)] at q
    rw [hr 35 (by decide) (by decide), hr 36 (by decide) (by decide), hr 37 (by decide) (by decide), hr 39 (by decide) (by decide), key _ (by omega), key _ (by omega), key _ (by omega)]
    exact d f p q
/-- where holding goes wrong -/
def hdR (w : Vl) (sn : Row) (K : Tk) : Option Rs := if nmOk K then (if fnd sn (w 0) K.2.2.2 = -1 then some (fl K 3) else if w (8 + 5 * fnd sn (w 0) K.2.2.2 + 4) = -1 then none else some (fl K 6)) else some (fl K 2)
section
variable {l : Launch} {E : Ev} {G : Sh} {D : Dm} {T : Int → Int} {n : Int} {res : Rs}
theorem o_heldD (hL : Lay G) {f : Int} (hf : iRg f) (h3 : D 23 3 ≠ 0) (hBD : BD D) : C0 l E MX6_readHeld 2 [vR E 23, vI f] G D (fun _ D' => pO D D' ∧ D' 23 = D 23 ∧ D' 25 = D 25) := by
  have halt : ∀ (why : Int), why ≠ 0 → iRg why → C0 l E MX6_stop 2 [vR E 23, vI why] G D (fun _ D' => G = G ∧ pO D D' ∧ D' 23 = D 23 ∧ D' 25 = D 25) := fun why h0 h1 => s_X6_stop hL ⟨fun _ => ⟨rfl, rfl, pO.rf, rfl, rfl⟩, fun z => absurd z h3⟩
  refine s_X6_readHeld hL ?_
  refine C0.use (c_X6_seesName hL) ?_
  rintro q D1 ⟨rfl, rfl⟩
  try dsimp only
  refine ⟨rB _, fun z => ?_, fun z => halt 2 (by decide) (by decide)⟩
  refine C0.use (c_X6_idxs hL hBD.1) ?_
  rintro q D2 ⟨rfl, rfl⟩
  try dsimp only
  have hfb := fnd_b (D2 38) hBD.1.1 (D2 23 10)
  have hb0 := hBD.1
  refine ⟨by omega, fun y => ⟨by omega, fun y2 => ⟨hf, ?_⟩, fun y2 => halt 6 (by decide) (by decide)⟩, fun y => halt 3 (by decide) (by decide)⟩
  refine C0.use (c_X6_stepF hL (by rw [upd2_cell _ _ _ _ (by decide)]; exact h3)) ?_
  rintro - D3 rfl
  exact ⟨rfl, pO.rf.up (Or.inr ⟨by decide, by decide⟩) _, funext fun i => upd2_cell _ _ _ _ (by decide), funext fun i => upd2_cell _ _ _ _ (by decide)⟩
theorem o_heldL (hL : Lay G) (hn : 0 ≤ n ∧ n ≤ 600) {f : Int} (hf : iRg f) {K : Tk} {w : Vl} {sn fn : Row} (hl : lvC T n D K) (hC : CD (upd2 D 25 2 (w 2)) w sn fn) (hB : WB w) : C0 l E MX6_readHeld 2 [vR E 23, vI f] G D (fun _ D' => pO D D' ∧ D' 25 = D 25 ∧ ((hdR w sn K = none ∧ lvC T n D' (nxK T n K) ∧ CD (upd2 D' 25 2 (w 2)) (upV w (8 + 5 * fnd sn (w 0) K.2.2.2 + 4) f) sn fn) ∨ (D' 23 3 ≠ 0 ∧ hdR w sn K = some (.inl (D' 23 3, D' 23 4))))) := by
  have e0 : D 25 0 = w 0 := by have := hC.1.1; rw [upd2_place _ _ _ (by decide)] at this; exact this
  have hrow : ∀ j, 0 ≤ j → j < w 0 → D 38 j = sn j := fun j p q => by have := (hC.2.1 j p q).2; rw [upd2_cell _ _ _ _ (by decide)] at this; exact this
  have hown : ∀ j, 0 ≤ j → j < w 0 → D 30 j = w ((8 + (5 * j)) + 4) := fun j p q => by have := (hC.2.1 j p q).1.2.2.2.2; rw [upd2_cell _ _ _ _ (by decide)] at this; exact this
  have halt : ∀ (why : Int), why ≠ 0 → iRg why → hdR w sn K = some (fl K why) → C0 l E MX6_stop 2 [vR E 23, vI why] G D (fun _ D' => G = G ∧ pO D D' ∧ D' 25 = D 25 ∧ ((hdR w sn K = none ∧ lvC T n D' (nxK T n K) ∧ CD (upd2 D' 25 2 (w 2)) (upV w (8 + 5 * fnd sn (w 0) K.2.2.2 + 4) f) sn fn) ∨ (D' 23 3 ≠ 0 ∧ hdR w sn K = some (.inl (D' 23 3, D' 23 4))))) := by
    intro why h0 h1 hh
    refine C0.use (o_stop hL ⟨h0, h1⟩ (res := fl K why) (Or.inl ⟨K, hl, rfl⟩)) ?_
    rintro - D1 ⟨g1, g2, g3, _, _⟩
    exact ⟨rfl, g1.p, g1.c (by decide), Or.inr ⟨g2, by rw [hh, g3]⟩⟩
  refine s_X6_readHeld hL ?_
  refine C0.use (c_X6_seesName hL) ?_
  rintro q D1 ⟨rfl, rfl⟩
  try dsimp only
  have e7 : D1 23 7 = K.1 := hl.2.2.2.2.1.1
  refine ⟨rB _, fun z => ?_, fun z => halt 2 (by decide) (by decide) ?_⟩
  · have z' : D1 23 7 = 1 ∧ kwI (D1 23 10) = -1 ∧ D1 23 10 ≠ 0 := Classical.byContradiction (fun y => z (if_neg y))
    have ex : D1 23 10 = K.2.2.2 := hl.2.2.2.2.1.2.2.2.1 (by omega)
    have hnm : nmOk K := ⟨by omega, by rw [← ex]; exact z'.2.1, by rw [← ex]; exact z'.2.2⟩
    rw [e0]
    refine C0.use (c_X6_idxs hL hB.1) ?_
    rintro q D2 ⟨rfl, rfl⟩
    try dsimp only
    rw [ex, fnd_cg K.2.2.2 hrow]
    have hfb := fnd_b sn hB.1.1 K.2.2.2
    have hb0 := hB.1
    have ehd : hdR w sn K = (if fnd sn (w 0) K.2.2.2 = -1 then some (fl K 3) else if w (8 + 5 * fnd sn (w 0) K.2.2.2 + 4) = -1 then none else some (fl K 6)) := by unfold hdR; rw [if_pos hnm]
    refine ⟨by omega, fun y => ⟨by omega, fun y2 => ⟨hf, ?_⟩, fun y2 => halt 6 (by decide) (by decide) ?_⟩, fun y => halt 3 (by decide) (by decide) ?_⟩
    · rw [hown _ (by omega) (by omega)] at y2
      have hX := (show XS T n D2 (fun K1 => if K1 = K then .inl (0, 0) else .inl (1, 1)) (.inl (0, 0)) from Or.inl ⟨K, hl, if_pos rfl⟩)
      have hl2 : lvC T n (upd2 D2 30 (fnd sn (w 0) K.2.2.2) f) K := by
        obtain ⟨a1, a2, a3, a4, a5, a6⟩ := hl
        have e3 : ∀ j, upd2 D2 30 (fnd sn (w 0) K.2.2.2) f 23 j = D2 23 j := fun j => upd2_cell _ _ _ _ (by decide)
        refine ⟨by rw [e3]; exact a1, by rw [e3]; exact a2, by rw [e3]; exact a3, by rw [← a4]; funext j; exact upd2_cell _ _ _ _ (by decide), ?_, a6⟩
        unfold SC
        rw [e3, e3, e3, e3, e3]
        exact a5
      refine C0.use (o_step hL hn (F := fun K1 => .inr (K1, w, sn, fn)) (res := .inr (nxK T n K, w, sn, fn)) (Or.inl ⟨K, hl2, by omega, rfl⟩)) ?_
      rintro - D3 ⟨x3, X3⟩
      have e25 : D3 25 = D2 25 := by rw [x3.c (by decide)]; funext j; exact upd2_cell _ _ _ _ (by decide)
      refine ⟨rfl, (pO.rf.up (Or.inr ⟨by decide, by decide⟩) _).tr x3.p, e25, Or.inl ⟨by rw [ehd, if_neg y, if_pos y2], ?_, ?_⟩⟩
      · rcases X3 with ⟨K', hl', hF'⟩ | ⟨_, q⟩
        · have : K' = nxK T n K := congrArg (fun r => match r with | Sum.inr x => x.1 | Sum.inl _ => K') hF'
          rw [← this]; exact hl'
        · cases q
      · refine cd_own hC hB (s := fnd sn (w 0) K.2.2.2) (by omega) (fun j => ?_) (fun c hc hc2 => ?_)
        · rw [upd2_cell _ _ _ _ (by decide), x3.c (by decide), upd2_cell (c := 25) _ _ _ _ (by decide)]
          simp only [upd2]; simp
        · funext j
          by_cases z2 : c = 25
          · subst z2
            simp only [upd2]
            rw [e25]
          · rw [upd2_cell _ _ _ _ z2, upd2_cell _ _ _ _ z2, x3.c (by omega), upd2_cell _ _ _ _ hc2]
    · rw [hown _ (by omega) (by omega)] at y2
      rw [ehd, if_neg y, if_neg y2]
    · rw [ehd, if_pos y]
  · have z' : ¬ (D1 23 7 = 1 ∧ kwI (D1 23 10) = -1 ∧ D1 23 10 ≠ 0) := fun y => by rw [if_pos y] at z; omega
    unfold hdR
    rw [if_neg (fun y => z' ⟨by omega, by rw [hl.2.2.2.2.1.2.2.2.1 y.1]; exact y.2.1, by rw [hl.2.2.2.2.1.2.2.2.1 y.1]; exact y.2.2⟩)]
theorem c_X6_signF (hL : Lay G) (h3 : D 23 3 ≠ 0) : C0 l E MX6_expectSign 2 [vR E 23] G D (fun _ D' => D' = D) := by
  have stopF : C0 l E MX6_stop 2 [vR E 23, vI 2] G D (fun _ D' => D' = D) := s_X6_stop hL ⟨fun _ => ⟨rfl, rfl⟩, fun z => absurd z h3⟩
  refine s_X6_expectSign hL ⟨fun z => ?_, fun z => ?_⟩
  · refine C0.use (c_X6_stepF hL h3) ?_
    rintro - D1 rfl
    exact ⟨rfl, rfl⟩
  · refine C0.use stopF ?_
    rintro - D1 rfl
    refine C0.use (c_X6_stepF hL h3) ?_
    rintro - D2 rfl
    exact ⟨rfl, rfl⟩
theorem pHold_s (f : Int) (sn fn : Row) (k : Kt) (m : Nat) (w : Vl) (K : Tk) : pHold T n f sn fn k (m + 1) w K = if K.1 = 1 ∧ K.2.2.2 = 448545973363 then (match hdR w sn (nxK T n K) with | some r => r | none => pHold T n f sn fn k m (upV w (8 + 5 * fnd sn (w 0) (nxK T n K).2.2.2 + 4) f) (nxK T n (nxK T n K))) else k K w sn fn := by
  rw [pHold]
  unfold hdR
  by_cases h : K.1 = 1 ∧ K.2.2.2 = 448545973363
  · rw [if_pos h, if_pos h]
    by_cases h1 : nmOk (nxK T n K)
    · rw [if_pos h1, if_pos h1]
      by_cases h2 : fnd sn (w 0) (nxK T n K).2.2.2 = -1
      · rw [if_pos h2, if_pos h2]
      · rw [if_neg h2, if_neg h2]
        by_cases h3 : w (8 + 5 * fnd sn (w 0) (nxK T n K).2.2.2 + 4) = -1
        · rw [if_pos h3, if_pos h3]
        · rw [if_neg h3, if_neg h3]
    · rw [if_neg h1, if_neg h1]
  · rw [if_neg h, if_neg h]
theorem o_family (hL : Lay G) (hn : 0 ≤ n ∧ n ≤ 600) {K : Tk} {w : Vl} {sn fn : Row} (hl : lvC T n D K) (h4 : K.1 ≠ 4) (hC : CD D w sn fn) (hB : WB w) (hres : pFam T n w sn fn (kEnd T n) K = res) : C0 l E MX6_readFamily 2 [vR E 23] G D (fun _ D' => pO D D' ∧ PR T n D' res ∧ BD D') := by
  have e2 : D 25 2 = w 2 := hC.1.2.2
  have hB' := hB
  obtain ⟨b0, b1, b2⟩ := hB
  have hBD : BD D := ⟨by rw [hC.1.1]; exact b0, by rw [hC.1.2.1]; exact b1, by rw [hC.1.2.2]; exact b2⟩
  refine s_X6_readFamily hL ?_
  rw [e2]
  refine ⟨fun z => ?_, fun z => ?_⟩
  rotate_left
  · rw [pFam, if_pos (by omega)] at hres
    refine C0.use (o_stop hL (why := 5) (by decide) (Or.inl ⟨K, hl, hres⟩)) ?_
    rintro - D1 ⟨g1, g2, g3, _, _⟩
    have e25 : D1 25 = D 25 := g1.c (by decide)
    exact ⟨rfl, g1.p, Or.inr ⟨g2, g3⟩, by unfold BD; rw [e25]; exact hBD⟩
  rw [pFam, if_neg (by omega)] at hres
  refine C0.use (o_step hL hn (F := fun K => NM T n fn (w 2) K (fun x0 K1 => WW T n 24948 K1 (fun K2 => NB T n 0 99 K2 (fun x1 K3 => NB T n 0 99 K3 (fun x2 K4 => WW T n 1852138852 K4 (fun K5 => NB T n 0 99 K5 (fun x3 K6 => pHold T n (w 2) sn (upV fn (w 2) x0) (kEnd T n) 601 (wFam w x1 x2 x3) K6))))))) (Or.inl ⟨K, hl, h4, hres⟩)) ?_
  rintro - D5 ⟨x5, X5⟩
  try dsimp only
  have q5 : eqx D5 D := eqx.rf.x x5
  refine C0.use (o_namef hL hn (r := fn) (m := w 2) b2 (fun j p q => by rw [q5 39 (by decide)]; exact (hC.2.2.2 j p q).2) X5) ?_
  rintro x0 D7 ⟨x7, r7, X7⟩
  try dsimp only
  refine ⟨⟨by omega, r7⟩, ?_⟩
  have q7 := (q5.x x7).up (c := 39) (w 2) x0
  refine C0.use (o_word hL hn (by decide) (X7.up (by decide) _ _)) ?_
  rintro - D9 ⟨x9, X9⟩
  try dsimp only
  refine C0.use (o_num hL hn (by decide) (by decide) X9) ?_
  rintro x1 D11 ⟨x11, r11, X11⟩
  try dsimp only
  refine ⟨r11, ?_⟩
  have q11 := ((q7.x x9).x x11).up (c := 35) (w 2) x1
  refine C0.use (o_num hL hn (by decide) (by decide) (X11.up (by decide) _ _)) ?_
  rintro x2 D13 ⟨x13, r13, X13⟩
  try dsimp only
  refine ⟨r13, ?_⟩
  have q13 := (q11.x x13).up (c := 36) (w 2) x2
  refine C0.use (o_word hL hn (by decide) (X13.up (by decide) _ _)) ?_
  rintro - D15 ⟨x15, X15⟩
  try dsimp only
  refine C0.use (o_num hL hn (by decide) (by decide) X15) ?_
  rintro x3 D17 ⟨x17, r17, X17⟩
  try dsimp only
  refine ⟨r17, ?_⟩
  have q17 : eqx (upd2 D17 37 (w 2) x3) (upd2 (upd2 (upd2 (upd2 D 39 (w 2) x0) 35 (w 2) x1) 36 (w 2) x2) 37 (w 2) x3) := ((q13.x x15).x x17).up (c := 37) (w 2) x3
  have p17 : pO D (upd2 D17 37 (w 2) x3) := ((x5.p.tr x7.p).tr (((((pO.rf.up (Or.inr ⟨by decide, by decide⟩) _).tr x9.p).tr x11.p).tr (((pO.rf.up (Or.inr ⟨by decide, by decide⟩) _).tr x13.p).tr (((pO.rf.up (Or.inr ⟨by decide, by decide⟩) _).tr x15.p).tr x17.p))))).up (Or.inr ⟨by decide, by decide⟩) _
  have X17' := X17.up (c := 37) (by decide) (w 2) x3
  generalize upd2 D17 37 (w 2) x3 = D18 at q17 p17 X17'
  have e25 : D18 25 = D 25 := by
    rw [q17 25 (by decide)]; funext j
    rw [upd2_cell _ _ _ _ (by decide), upd2_cell _ _ _ _ (by decide), upd2_cell _ _ _ _ (by decide), upd2_cell _ _ _ _ (by decide)]
  have wf2 : wFam w x1 x2 x3 2 = w 2 + 1 := by unfold wFam; rw [if_pos rfl]
  have wf0 : wFam w x1 x2 x3 0 = w 0 := by unfold wFam; rw [if_neg (by decide), if_neg (by omega), if_neg (by omega), if_neg (by omega)]
  have wf1 : wFam w x1 x2 x3 1 = w 1 := by unfold wFam; rw [if_neg (by decide), if_neg (by omega), if_neg (by omega), if_neg (by omega)]
  have C18 : CD (upd2 D18 25 2 (wFam w x1 x2 x3 2)) (wFam w x1 x2 x3) sn (upV fn (w 2) x0) := by
    refine cd_fam hC hB' (by omega) ⟨?_, ?_, ?_⟩ (fun j => ?_) (fun j => ?_) (fun j => ?_) (fun j => ?_) (fun c hc => ?_)
    · rw [upd2_place _ _ _ (by decide), e25]
    · rw [upd2_place _ _ _ (by decide), e25]
    · rw [upd2_same, wf2]
    · rw [upd2_cell _ _ _ _ (by decide), q17 35 (by decide)]; simp [upd2]
    · rw [upd2_cell _ _ _ _ (by decide), q17 36 (by decide)]; simp [upd2]
    · rw [upd2_cell _ _ _ _ (by decide), q17 37 (by decide)]; simp [upd2]
    · rw [upd2_cell _ _ _ _ (by decide), q17 39 (by decide)]; simp [upd2]
    · funext j
      rw [upd2_cell _ _ _ _ (by omega), q17 c (by omega), upd2_cell _ _ _ _ (by omega), upd2_cell _ _ _ _ (by omega), upd2_cell _ _ _ _ (by omega), upd2_cell _ _ _ _ (by omega)]
  -- the sign, and the family counted
  generalize hQ : (fun (r : Int) (G' : Sh) (D' : Dm) => G' = G ∧ pO D D' ∧ PR T n D' res ∧ BD D') = Q
  have sign : ∀ (D' : Dm), pO D D' → D' 25 = D 25 → ((∃ K1 w1, lvC T n D' K1 ∧ CD (upd2 D' 25 2 (w1 2)) w1 sn (upV fn (w 2) x0) ∧ w1 2 = w 2 + 1 ∧ kEnd T n K1 w1 sn (upV fn (w 2) x0) = res) ∨ (D' 23 3 ≠ 0 ∧ res = .inl (D' 23 3, D' 23 4))) → C0 l E MX6_expectSign 2 [vR E 23] G D' (fun r4 D4 => ((-2147483648 ≤ w 2 + 1 ∧ w 2 + 1 < 2147483648)) ∧ Q 0 G (upd2 D4 25 2 (w 2 + 1))) := by
    intro D' hp he25 hcase
    have bdd : ∀ D4 : Dm, D4 25 = D 25 → BD (upd2 D4 25 2 (w 2 + 1)) := fun D4 h => ⟨by rw [upd2_place _ _ _ (by decide), h]; exact hBD.1, by rw [upd2_place _ _ _ (by decide), h]; exact hBD.2.1, by rw [upd2_same]; omega⟩
    rcases hcase with ⟨K1, w1, hl1, hC1, hw1, hk1⟩ | hd
    · have hX1 : XS T n D' (fun K4 => SG T n K4 (fun K5 => .inr (K5, w1, sn, upV fn (w 2) x0))) res := Or.inl ⟨K1, hl1, hk1⟩
      refine C0.use (o_sign hL hn hX1) ?_
      rintro - D4 ⟨x4, X4⟩
      try dsimp only
      have e4 : D4 25 = D 25 := (x4.c (by decide)).trans he25
      refine ⟨by omega, ?_⟩
      rw [← hQ]
      refine ⟨rfl, (hp.tr x4.p).up (Or.inl ⟨rfl, by decide, by decide⟩) _, ?_, bdd D4 e4⟩
      have hXS2 := X4.up (c := 25) (by decide) 2 (w 2 + 1)
      rcases hXS2 with ⟨K', hl', hF'⟩ | q
      · refine Or.inl ⟨K', _, _, _, hl', ?_, hF'.symm⟩
        refine hC1.same (fun c p q => ?_)
        funext j
        by_cases z2 : c = 25
        · subst z2
          simp only [upd2]
          rw [x4.c (by decide), hw1]
        · rw [upd2_cell _ _ _ _ z2, upd2_cell _ _ _ _ z2, x4.c (by omega)]
      · exact Or.inr q
    · refine C0.use (c_X6_signF hL hd.1) ?_
      rintro - D4 rfl
      refine ⟨by omega, ?_⟩
      rw [← hQ]
      refine ⟨rfl, hp.up (Or.inl ⟨rfl, by decide, by decide⟩) _, Or.inr ?_, bdd D4 he25⟩
      rw [upd2_cell _ _ _ _ (by decide), upd2_cell _ _ _ _ (by decide)]
      exact hd
  have deadL : ∀ (D' : Dm) (more : Int), pO D D' → D' 25 = D 25 → D' 23 3 ≠ 0 → res = .inl (D' 23 3, D' 23 4) → 0 ≤ more ∧ more ≤ 601 → KX6_readFamily l E Q 102 [(0, vR E 23), (1, vI (w 2)), (2, vI more)] G D' := by
    intro D' more hp he25 hd hr hm
    have sg := sign D' hp he25 (Or.inr ⟨hd, hr⟩)
    exact s_X6_readFamily_102 hL ⟨by omega, fun _ => sg, fun _ => ⟨fun _ => sg, fun y => absurd y.1 hd⟩⟩
  have loop : ∀ (m : Nat) (w1 : Vl) (K1 : Tk) (D' : Dm) (more : Int), pO D D' → D' 25 = D 25 → lvC T n D' K1 → CD (upd2 D' 25 2 (w1 2)) w1 sn (upV fn (w 2) x0) → WB w1 → w1 2 = w 2 + 1 → pHold T n (w 2) sn (upV fn (w 2) x0) (kEnd T n) m w1 K1 = res → n - K1.2.1 < m → 0 ≤ more ∧ more ≤ K1.2.1 → KX6_readFamily l E Q 102 [(0, vR E 23), (1, vI (w 2)), (2, vI more)] G D' := by
    intro m
    induction m with
    | zero =>
      intro w1 K1 D' more hp he25 hl1 hC1 hB1 hw1 hp1 hfu hmo
      have := hl1.2.2.2.2.2.2.1
      omega
    | succ m ihm =>
      intro w1 K1 D' more hp he25 hl1 hC1 hB1 hw1 hp1 hfu hmo
      have hk1 := hl1.2.2.2.2.2
      have hs1 := hk1.2.1
      rw [pHold_s] at hp1
      have sI := sees_iff hl1 (j := 11) (by decide)
      have kI := kOf_w (K := K1) (j := 11) (by decide)
      have e11 : kcL.getD 11 0 = 448545973363 := by decide
      rw [e11] at sI kI
      refine s_X6_readFamily_102 hL ⟨by omega, fun y => absurd y (by omega), fun _ => ⟨fun y => ?_, fun y => ?_⟩⟩
      · rw [if_neg (fun q => y (sI.2 (kI.2 q)))] at hp1
        exact sign D' hp he25 (Or.inl ⟨K1, w1, hl1, hC1, hw1, hp1⟩)
      · have hkw := kI.1 (sI.1 y)
        rw [if_pos hkw] at hp1
        have hn1 := nx_ok hk1 (by omega)
        have hlt1 := hk1.2.2.2.1 (Or.inl hkw.1)
        refine C0.use (o_step hL hn (F := fun K2 => .inr (K2, w1, sn, fn)) (res := .inr (nxK T n K1, w1, sn, fn)) (Or.inl ⟨K1, hl1, by omega, rfl⟩)) ?_
        rintro - D13 ⟨x13', X13'⟩
        try dsimp only
        have hl13 : lvC T n D13 (nxK T n K1) := by
          rcases X13' with ⟨K', hl', hF'⟩ | ⟨_, q⟩
          · have : K' = nxK T n K1 := congrArg (fun r => match r with | Sum.inr x => x.1 | Sum.inl _ => K') hF'
            rw [← this]; exact hl'
          · cases q
        have e13 : D13 25 = D 25 := (x13'.c (by decide)).trans he25
        have hC13 : CD (upd2 D13 25 2 (w1 2)) w1 sn (upV fn (w 2) x0) := by
          refine hC1.same (fun c p q => ?_)
          funext j
          by_cases z2 : c = 25
          · subst z2
            simp only [upd2]
            rw [x13'.c (by decide)]
          · rw [upd2_cell _ _ _ _ z2, upd2_cell _ _ _ _ z2, x13'.c (by omega)]
        refine C0.use (o_heldL hL hn (f := w 2) (by omega) hl13 hC13 hB1) ?_
        rintro - D15 ⟨p15, e15, hcase⟩
        try dsimp only
        have hp15 := (hp.tr x13'.p).tr p15
        rcases hcase with ⟨hno, hl15, hC15⟩ | ⟨hd15, hd15'⟩
        · rw [hno] at hp1
          dsimp only at hp1
          have hk2 : (nxK T n K1).1 = 1 := Classical.byContradiction (fun q => by unfold hdR at hno; rw [if_neg (fun q2 => q q2.1)] at hno; cases hno)
          have hlt2 := hn1.1.2.2.2.1 (Or.inl hk2)
          have hn2 := nx_ok hn1.1 (by omega)
          have hfb := fnd_b sn hB1.1.1 (nxK T n K1).2.2.2
          have hup : ∀ i : Int, i < 8 → upV w1 (8 + 5 * fnd sn (w1 0) (nxK T n K1).2.2.2 + 4) (w 2) i = w1 i := fun i hi => by
            have hne : fnd sn (w1 0) (nxK T n K1).2.2.2 ≠ -1 := fun q => by
              unfold hdR at hno
              by_cases q2 : nmOk (nxK T n K1)
              · rw [if_pos q2, if_pos q] at hno; cases hno
              · rw [if_neg q2] at hno; cases hno
            simp only [upV]; rw [if_neg (by omega)]
          refine ihm _ (nxK T n (nxK T n K1)) D15 (more + 1) hp15 (e15.trans e13) hl15 ?_ ?_ ?_ hp1 (by omega) (by omega)
          · rw [hup 2 (by decide)]; exact hC15
          · unfold WB
            rw [hup 0 (by decide), hup 1 (by decide), hup 2 (by decide)]
            exact hB1
          · rw [hup 2 (by decide)]; exact hw1
        · rw [hd15'] at hp1
          dsimp only at hp1
          exact deadL D15 (more + 1) hp15 (e15.trans e13) hd15 hp1.symm (by omega)
  rcases X17' with ⟨K6, hl6, hF6⟩ | ⟨hd, hr⟩
  · refine loop 601 (wFam w x1 x2 x3) K6 D18 0 p17 e25 hl6 C18 ?_ wf2 hF6 ?_ ?_
    · unfold WB
      rw [wf0, wf1, wf2]
      exact ⟨b0, b1, by omega⟩
    · have := hl6.2.2.2.2.2.2.1
      omega
    · have := hl6.2.2.2.2.2.2.1
      omega
  · exact deadL D18 0 p17 e25 hd hr (by omega)
end

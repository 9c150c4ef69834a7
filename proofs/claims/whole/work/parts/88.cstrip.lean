/-! ===== the class's reader: names, strips ===== -/
/-- the draft of the class -/
def CD (D : Dm) (w : Vl) (sn fn : Row) : Prop := (D 25 0 = w 0 ∧ D 25 1 = w 1 ∧ D 25 2 = w 2)
  ∧ (∀ s, 0 ≤ s → s < w 0 → (D 26 s = w ((8 + (5 * s)) + 0) ∧ D 27 s = w ((8 + (5 * s)) + 1) ∧ D 28 s = w ((8 + (5 * s)) + 2) ∧ D 29 s = w ((8 + (5 * s)) + 3) ∧ D 30 s = w ((8 + (5 * s)) + 4)) ∧ D 38 s = sn s)
  ∧ (∀ h, 0 ≤ h → h < w 1 → (D 31 h = w ((58 + (5 * h)) + 0) ∧ D 32 h = w ((58 + (5 * h)) + 3) ∧ D 33 h = w ((58 + (5 * h)) + 4)) ∧ (w ((58 + (5 * h)) + 0) ≠ 3 → D 40 h = w ((58 + (5 * h)) + 1)) ∧ (w ((58 + (5 * h)) + 0) = 0 → D 41 h = w ((58 + (5 * h)) + 2)))
  ∧ (∀ f, 0 ≤ f → f < w 2 → (D 35 f = w ((88 + (3 * f)) + 0) ∧ D 36 f = w ((88 + (3 * f)) + 1) ∧ D 37 f = w ((88 + (3 * f)) + 2)) ∧ D 39 f = fn f)
def WB (w : Vl) : Prop := (0 ≤ w 0 ∧ w 0 ≤ 10) ∧ (0 ≤ w 1 ∧ w 1 ≤ 6) ∧ (0 ≤ w 2 ∧ w 2 ≤ 4)
theorem CD.same {D D' : Dm} {w : Vl} {sn fn : Row} (h : CD D w sn fn) (he : ∀ c, 25 ≤ c → c ≤ 41 → D' c = D c) : CD D' w sn fn := by
  obtain ⟨a, b, c, d⟩ := h
  refine ⟨?_, fun s p q => ?_, fun s p q => ?_, fun s p q => ?_⟩
  · rw [he 25 (by decide) (by decide)]; exact a
  · rw [he 26 (by decide) (by decide), he 27 (by decide) (by decide), he 28 (by decide) (by decide), he 29 (by decide) (by decide), he 30 (by decide) (by decide), he 38 (by decide) (by decide)]; exact b s p q
  · rw [he 31 (by decide) (by decide), he 32 (by decide) (by decide), he 33 (by decide) (by decide), he 40 (by decide) (by decide), he 41 (by decide) (by decide)]; exact c s p q
  · rw [he 35 (by decide) (by decide), he 36 (by decide) (by decide), he 37 (by decide) (by decide), he 39 (by decide) (by decide)]; exact d s p q
def eqx (D1 D2 : Dm) : Prop := ∀ c, c ≠ 23 → D1 c = D2 c
theorem eqx.rf {D : Dm} : eqx D D := fun _ _ => rfl
theorem eqx.x {D1 D2 X : Dm} (h : eqx D1 X) (h2 : xO D1 D2) : eqx D2 X := fun c hc => (h2.c hc).trans (h c hc)
theorem eqx.up {D1 X : Dm} (h : eqx D1 X) {c : Nat} (i x : Int) : eqx (upd2 D1 c i x) (upd2 X c i x) := fun c' hc => by
  funext j
  simp only [upd2]
  rw [h c' hc]
/-- what the reader of a part writes in -/
def pO (D D' : Dm) : Prop := ∀ c i, ¬ (c = 23 ∧ 3 ≤ i ∧ i ≤ 10) → ¬ (c = 25 ∧ 0 ≤ i ∧ i ≤ 2) → ¬ (26 ≤ c ∧ c ≤ 41) → D' c i = D c i
theorem pO.rf {D : Dm} : pO D D := fun _ _ _ _ _ => rfl
theorem pO.tr {D D1 D2 : Dm} (h : pO D D1) (h2 : pO D1 D2) : pO D D2 := fun c i p q r => (h2 c i p q r).trans (h c i p q r)
theorem xO.p {D D' : Dm} (h : xO D D') : pO D D' := fun c i p _ _ => h c i p
theorem pO.up {D D1 : Dm} (h : pO D D1) {c : Nat} {i : Int} (hc : (c = 25 ∧ 0 ≤ i ∧ i ≤ 2) ∨ (26 ≤ c ∧ c ≤ 41)) (x : Int) : pO D (upd2 D1 c i x) := fun c' i' p q r => by
  rw [← h c' i' p q r]
  simp only [upd2]
  rw [if_neg]
  rintro ⟨rfl, rfl⟩
  rcases hc with z | z
  · exact q z
  · exact r z
def PR (T : Int → Int) (n : Int) (D : Dm) (res : Rs) : Prop := (∃ K w sn fn, lvC T n D K ∧ CD D w sn fn ∧ res = .inr (K, w, sn, fn)) ∨ (D 23 3 ≠ 0 ∧ res = .inl (D 23 3, D 23 4))
def BD (D : Dm) : Prop := (0 ≤ D 25 0 ∧ D 25 0 ≤ 10) ∧ (0 ≤ D 25 1 ∧ D 25 1 ≤ 6) ∧ (0 ≤ D 25 2 ∧ D 25 2 ≤ 4)
theorem cd_strip {D X : Dm} {w : Vl} {sn fn : Row} (hC : CD D w sn fn) (hB : WB w) (hlt : w 0 < 10) {x0 x1 x2 x3 x4 : Int} (h25 : X 25 0 = w 0 + 1 ∧ X 25 1 = D 25 1 ∧ X 25 2 = D 25 2) (h26 : ∀ j, X 26 j = if j = w 0 then x1 else D 26 j) (h27 : ∀ j, X 27 j = if j = w 0 then x2 else D 27 j) (h28 : ∀ j, X 28 j = if j = w 0 then x3 else D 28 j) (h29 : ∀ j, X 29 j = if j = w 0 then x4 else D 29 j) (h30 : ∀ j, X 30 j = if j = w 0 then -1 else D 30 j) (h38 : ∀ j, X 38 j = if j = w 0 then x0 else D 38 j) (hr : ∀ c, (31 ≤ c ∧ c ≤ 37) ∨ (39 ≤ c ∧ c ≤ 41) → X c = D c) : CD X (wStrip w x1 x2 x3 x4) (upV sn (w 0) x0) fn := by
  obtain ⟨a, b, c, d⟩ := hC
  obtain ⟨b0, b1, b2⟩ := hB
  have w0 : wStrip w x1 x2 x3 x4 0 = w 0 + 1 := rfl
  have key : ∀ i : Int, i ≠ 0 → ¬ (8 + 5 * w 0 ≤ i ∧ i ≤ 8 + 5 * w 0 + 4) → wStrip w x1 x2 x3 x4 i = w i := fun i h1 h2 => by
    unfold wStrip
    rw [if_neg h1, if_neg (by omega), if_neg (by omega), if_neg (by omega), if_neg (by omega), if_neg (by omega)]
  refine ⟨⟨h25.1, by rw [h25.2.1, key 1 (by omega) (by omega)]; exact a.2.1, by rw [h25.2.2, key 2 (by omega) (by omega)]; exact a.2.2⟩, fun s p q => ?_, fun h p q => ?_, fun f p q => ?_⟩
  · rw [w0] at q
    rw [h26, h27, h28, h29, h30, h38]
    by_cases z : s = w 0
    · subst z
      simp only [if_true, upV, and_true]
      unfold wStrip
      refine ⟨?_, ?_, ?_, ?_, ?_⟩
      · rw [if_neg (by omega), if_pos (by omega)]
      · rw [if_neg (by omega), if_neg (by omega), if_pos (by omega)]
      · rw [if_neg (by omega), if_neg (by omega), if_neg (by omega), if_pos (by omega)]
      · rw [if_neg (by omega), if_neg (by omega), if_neg (by omega), if_neg (by omega), if_pos (by omega)]
      · rw [if_neg (by omega), if_neg (by omega), if_neg (by omega), if_neg (by omega), if_neg (by omega), if_pos (by omega)]
    · simp only [if_neg z, upV]
      rw [key _ (by omega) (by omega), key _ (by omega) (by omega), key _ (by omega) (by omega), key _ (by omega) (by omega), key _ (by omega) (by omega)]
      exact b s p (by omega)
  · rw [key 1 (by omega) (by omega)] at q
    rw [hr 31 (by decide), hr 32 (by decide), hr 33 (by decide), hr 40 (by decide), hr 41 (by decide), key _ (by omega) (by omega), key _ (by omega) (by omega), key _ (by omega) (by omega), key _ (by omega) (by omega), key _ (by omega) (by omega)]
    exact c h p q
  · rw [key 2 (by omega) (by omega)] at q
    rw [hr 35 (by decide), hr 36 (by decide), hr 37 (by decide), hr 39 (by decide), key _ (by omega) (by omega), key _ (by omega) (by omega), key _ (by omega) (by omega)]
    exact d f p q
section
variable {l : Launch} {E : Ev} {G : Sh} {D : Dm} {T : Int → Int} {n : Int} {res : Rs}
theorem o_names (hL : Lay G) (hn : 0 ≤ n ∧ n ≤ 600) {r : Row} {m : Int} (hm : 0 ≤ m ∧ m ≤ 10) {k : Int → Tk → Rs} (hrow : ∀ j, 0 ≤ j → j < m → D 38 j = r j) (hx : XS T n D (fun K => NM T n r m K k) res) : C0 l E MX6_readNewName 1 [vR E 23, vR E 38, vI m] G D (fun x D' => xO D D' ∧ (-9223372036854775808 ≤ x ∧ x < 9223372036854775808) ∧ XS T n D' (k x) res) := by
  refine Ct.ok (fun hok => ?_)
  have hr := (okI23 hL hok).2.1
  have dead : ∀ why, why ≠ 0 → iRg why → ((∃ K, lvC T n D K ∧ fl K why = res) ∨ (D 23 3 ≠ 0 ∧ res = .inl (D 23 3, D 23 4))) → C0 l E MX6_stop 2 [vR E 23, vI why] G D (fun r8 D8 => C0 l E MX6_step 2 [vR E 23] G D8 (fun r10 D10 => G = G ∧ xO D D10 ∧ (-9223372036854775808 ≤ D8 23 10 ∧ D8 23 10 < 9223372036854775808) ∧ XS T n D10 (k (D8 23 10)) res)) := by
    intro why h0 h1 hx2
    refine C0.use (o_stop hL ⟨h0, h1⟩ hx2) ?_
    rintro - D1 ⟨g1, g2, g3, _, g5⟩
    refine C0.use (c_X6_stepF hL g2) ?_
    rintro - D2 rfl
    exact ⟨rfl, g1, by rw [g5]; exact hr, Or.inr ⟨g2, g3⟩⟩
  refine s_X6_readNewNames hL ?_
  refine C0.use (c_X6_seesName hL) ?_
  rintro q D1 ⟨rfl, rfl⟩
  try dsimp only
  refine ⟨rB _, fun z => ?_, fun z => dead 2 (by decide) (by decide) ?_⟩
  · have z' : D1 23 7 = 1 ∧ kwI (D1 23 10) = -1 ∧ D1 23 10 ≠ 0 := Classical.byContradiction (fun y => z (if_neg y))
    refine C0.use (c_X6_idxs hL hm) ?_
    rintro q D2 ⟨rfl, rfl⟩
    try dsimp only
    have hfb := fnd_b (D2 38) hm.1 (D2 23 10)
    have hcg := fnd_cg (D2 23 10) hrow
    refine ⟨by omega, fun y => ?_, fun y => dead 3 (by decide) (by decide) ?_⟩
    · have hx2 : (∃ K, lvC T n D2 K ∧ K.1 ≠ 4 ∧ k (D2 23 10) (nxK T n K) = res) ∨ (D2 23 3 ≠ 0 ∧ res = .inl (D2 23 3, D2 23 4)) := by
        rcases hx with ⟨K, hl, hF⟩ | q
        · have e7 : D2 23 7 = K.1 := hl.2.2.2.2.1.1
          have ex : D2 23 10 = K.2.2.2 := hl.2.2.2.2.1.2.2.2.1 (by omega)
          dsimp only at hF
          rw [NM, if_pos ⟨by omega, by rw [← ex]; exact z'.2.1, by rw [← ex]; exact z'.2.2⟩, ← ex, if_pos (by rw [← hcg]; exact y)] at hF
          exact Or.inl ⟨K, hl, by omega, hF⟩
        · exact Or.inr q
      refine C0.use (o_step hL hn hx2) ?_
      rintro - D' h
      exact ⟨rfl, h.1, hr, h.2⟩
    · rcases hx with ⟨K, hl, hF⟩ | q
      · have e7 : D2 23 7 = K.1 := hl.2.2.2.2.1.1
        have ex : D2 23 10 = K.2.2.2 := hl.2.2.2.2.1.2.2.2.1 (by omega)
        dsimp only at hF
        rw [NM, if_pos ⟨by omega, by rw [← ex]; exact z'.2.1, by rw [← ex]; exact z'.2.2⟩, ← ex, if_neg (by rw [← hcg]; exact y)] at hF
        exact Or.inl ⟨K, hl, hF⟩
      · exact Or.inr q
  · have z' : ¬ (D1 23 7 = 1 ∧ kwI (D1 23 10) = -1 ∧ D1 23 10 ≠ 0) := fun y => by rw [if_pos y] at z; omega
    rcases hx with ⟨K, hl, hF⟩ | q
    · have e7 : D1 23 7 = K.1 := hl.2.2.2.2.1.1
      dsimp only at hF
      rw [NM, if_neg (fun y => z' ⟨by omega, by rw [hl.2.2.2.2.1.2.2.2.1 y.1]; exact y.2.1, by rw [hl.2.2.2.2.1.2.2.2.1 y.1]; exact y.2.2⟩)] at hF
      exact Or.inl ⟨K, hl, hF⟩
    · exact Or.inr q
theorem o_namef (hL : Lay G) (hn : 0 ≤ n ∧ n ≤ 600) {r : Row} {m : Int} (hm : 0 ≤ m ∧ m ≤ 4) {k : Int → Tk → Rs} (hrow : ∀ j, 0 ≤ j → j < m → D 39 j = r j) (hx : XS T n D (fun K => NM T n r m K k) res) : C0 l E MX6_readNewName 1 [vR E 23, vR E 39, vI m] G D (fun x D' => xO D D' ∧ (-9223372036854775808 ≤ x ∧ x < 9223372036854775808) ∧ XS T n D' (k x) res) := by
  refine Ct.ok (fun hok => ?_)
  have hr := (okI23 hL hok).2.1
  have dead : ∀ why, why ≠ 0 → iRg why → ((∃ K, lvC T n D K ∧ fl K why = res) ∨ (D 23 3 ≠ 0 ∧ res = .inl (D 23 3, D 23 4))) → C0 l E MX6_stop 2 [vR E 23, vI why] G D (fun r8 D8 => C0 l E MX6_step 2 [vR E 23] G D8 (fun r10 D10 => G = G ∧ xO D D10 ∧ (-9223372036854775808 ≤ D8 23 10 ∧ D8 23 10 < 9223372036854775808) ∧ XS T n D10 (k (D8 23 10)) res)) := by
    intro why h0 h1 hx2
    refine C0.use (o_stop hL ⟨h0, h1⟩ hx2) ?_
    rintro - D1 ⟨g1, g2, g3, _, g5⟩
    refine C0.use (c_X6_stepF hL g2) ?_
    rintro - D2 rfl
    exact ⟨rfl, g1, by rw [g5]; exact hr, Or.inr ⟨g2, g3⟩⟩
  refine s_X6_readNewNamef hL ?_
  refine C0.use (c_X6_seesName hL) ?_
  rintro q D1 ⟨rfl, rfl⟩
  try dsimp only
  refine ⟨rB _, fun z => ?_, fun z => dead 2 (by decide) (by decide) ?_⟩
  · have z' : D1 23 7 = 1 ∧ kwI (D1 23 10) = -1 ∧ D1 23 10 ≠ 0 := Classical.byContradiction (fun y => z (if_neg y))
    refine C0.use (c_X6_idxf hL hm) ?_
    rintro q D2 ⟨rfl, rfl⟩
    try dsimp only
    have hfb := fnd_b (D2 39) hm.1 (D2 23 10)
    have hcg := fnd_cg (D2 23 10) hrow
    refine ⟨by omega, fun y => ?_, fun y => dead 3 (by decide) (by decide) ?_⟩
    · have hx2 : (∃ K, lvC T n D2 K ∧ K.1 ≠ 4 ∧ k (D2 23 10) (nxK T n K) = res) ∨ (D2 23 3 ≠ 0 ∧ res = .inl (D2 23 3, D2 23 4)) := by
        rcases hx with ⟨K, hl, hF⟩ | q
        · have e7 : D2 23 7 = K.1 := hl.2.2.2.2.1.1
          have ex : D2 23 10 = K.2.2.2 := hl.2.2.2.2.1.2.2.2.1 (by omega)
          dsimp only at hF
          rw [NM, if_pos ⟨by omega, by rw [← ex]; exact z'.2.1, by rw [← ex]; exact z'.2.2⟩, ← ex, if_pos (by rw [← hcg]; exact y)] at hF
          exact Or.inl ⟨K, hl, by omega, hF⟩
        · exact Or.inr q
      refine C0.use (o_step hL hn hx2) ?_
      rintro - D' h
      exact ⟨rfl, h.1, hr, h.2⟩
    · rcases hx with ⟨K, hl, hF⟩ | q
      · have e7 : D2 23 7 = K.1 := hl.2.2.2.2.1.1
        have ex : D2 23 10 = K.2.2.2 := hl.2.2.2.2.1.2.2.2.1 (by omega)
        dsimp only at hF
        rw [NM, if_pos ⟨by omega, by rw [← ex]; exact z'.2.1, by rw [← ex]; exact z'.2.2⟩, ← ex, if_neg (by rw [← hcg]; exact y)] at hF
        exact Or.inl ⟨K, hl, hF⟩
      · exact Or.inr q
  · have z' : ¬ (D1 23 7 = 1 ∧ kwI (D1 23 10) = -1 ∧ D1 23 10 ≠ 0) := fun y => by rw [if_pos y] at z; omega
    rcases hx with ⟨K, hl, hF⟩ | q
    · have e7 : D1 23 7 = K.1 := hl.2.2.2.2.1.1
      dsimp only at hF
      rw [NM, if_neg (fun y => z' ⟨by omega, by rw [hl.2.2.2.2.1.2.2.2.1 y.1]; exact y.2.1, by rw [hl.2.2.2.2.1.2.2.2.1 y.1]; exact y.2.2⟩)] at hF
      exact Or.inl ⟨K, hl, hF⟩
    · exact Or.inr q
theorem o_strip (hL : Lay G) (hn : 0 ≤ n ∧ n ≤ 600) {K : Tk} {w : Vl} {sn fn : Row} (hl : lvC T n D K) (h4 : K.1 ≠ 4) (hC : CD D w sn fn) (hB : WB w) (hres : pStrip T n w sn fn (kEnd T n) K = res) : C0 l E MX6_readStrip 2 [vR E 23] G D (fun _ D' => pO D D' ∧ PR T n D' res ∧ BD D') := by
  have e0 : D 25 0 = w 0 := hC.1.1
  obtain ⟨b0, b1, b2⟩ := hB
  have hBD : BD D := ⟨by rw [hC.1.1]; exact b0, by rw [hC.1.2.1]; exact b1, by rw [hC.1.2.2]; exact b2⟩
  refine s_X6_readStrip hL ?_
  rw [e0]
  refine ⟨fun z => ?_, fun z => ?_⟩
  rotate_left
  · rw [pStrip, if_pos (by omega)] at hres
    refine C0.use (o_stop hL (why := 5) (by decide) (Or.inl ⟨K, hl, hres⟩)) ?_
    rintro - D1 ⟨g1, g2, g3, _, _⟩
    have e25 : D1 25 = D 25 := g1.c (by decide)
    exact ⟨rfl, g1.p, Or.inr ⟨g2, g3⟩, by unfold BD; rw [e25]; exact hBD⟩
  rw [pStrip, if_neg (by omega)] at hres
  refine C0.use (o_step hL hn (F := fun K => NM T n sn (w 0) K (fun x0 K1 => WW T n 24948 K1 (fun K2 => NB T n 0 99 K2 (fun x1 K3 => NB T n 0 99 K3 (fun x2 K4 => WW T n 444150998387 K4 (fun K5 => NB T n 1 99 K5 (fun x3 K6 => if K6.1 = 1 ∧ K6.2.2.2 = 1936681324 then NB T n 1 3 (nxK T n K6) (fun x4 K7 => kEnd T n K7 (wStrip w x1 x2 x3 x4) (upV sn (w 0) x0) fn) else kEnd T n K6 (wStrip w x1 x2 x3 1) (upV sn (w 0) x0) fn))))))) (Or.inl ⟨K, hl, h4, hres⟩)) ?_
  rintro - D5 ⟨x5, X5⟩
  try dsimp only
  have q5 : eqx D5 D := eqx.rf.x x5
  refine C0.use (o_names hL hn (r := sn) (m := w 0) b0 (fun j p q => by rw [q5 38 (by decide)]; exact (hC.2.1 j p q).2) X5) ?_
  rintro x0 D7 ⟨x7, r7, X7⟩
  try dsimp only
  refine ⟨⟨by omega, r7⟩, ?_⟩
  have q7 := (q5.x x7).up (c := 38) (w 0) x0
  refine C0.use (o_word hL hn (by decide) (X7.up (by decide) _ _)) ?_
  rintro - D9 ⟨x9, X9⟩
  try dsimp only
  refine C0.use (o_num hL hn (by decide) (by decide) X9) ?_
  rintro x1 D11 ⟨x11, r11, X11⟩
  try dsimp only
  refine ⟨r11, ?_⟩
  have q11 := ((q7.x x9).x x11).up (c := 26) (w 0) x1
  refine C0.use (o_num hL hn (by decide) (by decide) (X11.up (by decide) _ _)) ?_
  rintro x2 D13 ⟨x13, r13, X13⟩
  try dsimp only
  refine ⟨r13, ?_⟩
  have q13 := (q11.x x13).up (c := 27) (w 0) x2
  refine C0.use (o_word hL hn (by decide) (X13.up (by decide) _ _)) ?_
  rintro - D15 ⟨x15, X15⟩
  try dsimp only
  refine C0.use (o_num hL hn (by decide) (by decide) X15) ?_
  rintro x3 D17 ⟨x17, r17, X17⟩
  try dsimp only
  refine ⟨r17, ?_⟩
  have q17 := (((q13.x x15).x x17).up (c := 28) (w 0) x3).up (c := 29) (w 0) 1
  have p17 : pO D D17 := (x5.p.tr x7.p).tr (((((pO.rf.up (Or.inr ⟨by decide, by decide⟩) _).tr x9.p).tr x11.p).tr (((pO.rf.up (Or.inr ⟨by decide, by decide⟩) _).tr x13.p).tr (((pO.rf.up (Or.inr ⟨by decide, by decide⟩) _).tr x15.p).tr x17.p))))
  have finish : ∀ (x4 : Int) (D22 X : Dm), xO X D22 → pO D17 X → (∀ c, c ≠ 23 → c ≠ 29 → X c = upd2 (upd2 D17 28 (w 0) x3) 29 (w 0) 1 c) → (∀ j, X 29 j = if j = w 0 then x4 else D17 29 j) → XS T n D22 (fun K1 => .inr (K1, wStrip w x1 x2 x3 x4, upV sn (w 0) x0, fn)) res → ((-2147483648 ≤ w 0 + 1 ∧ w 0 + 1 < 2147483648)) ∧ (G = G ∧ pO D (upd2 (upd2 D22 30 (w 0) (-1)) 25 0 (w 0 + 1)) ∧ PR T n (upd2 (upd2 D22 30 (w 0) (-1)) 25 0 (w 0 + 1)) res ∧ BD (upd2 (upd2 D22 30 (w 0) (-1)) 25 0 (w 0 + 1))) := by
    intro x4 D22 X hxo hpo hX hX29 hXS
    have e22 : ∀ c, c ≠ 23 → c ≠ 29 → D22 c = upd2 (upd2 D17 28 (w 0) x3) 29 (w 0) 1 c := fun c h1 h2 => (hxo.c h1).trans (hX c h1 h2)
    have f17 : ∀ c, c ≠ 23 → c ≠ 28 → c ≠ 29 → D22 c = D17 c := fun c h1 h2 h3 => by
      rw [e22 c h1 h3]; funext j; rw [upd2_cell _ _ _ _ h3, upd2_cell _ _ _ _ h2]
    have g17 : ∀ c, c ≠ 23 → D17 c = upd2 (upd2 (upd2 D 38 (w 0) x0) 26 (w 0) x1) 27 (w 0) x2 c := (q13.x x15).x x17
    have e25 : D22 25 = D 25 := by
      rw [f17 25 (by decide) (by decide) (by decide), g17 25 (by decide)]
      funext j
      rw [upd2_cell _ _ _ _ (by decide), upd2_cell _ _ _ _ (by decide), upd2_cell _ _ _ _ (by decide)]
    refine ⟨by omega, rfl, ?_, ?_, ?_⟩
    · exact ((p17.tr (hpo.tr hxo.p)).up (Or.inr ⟨by decide, by decide⟩) _).up (Or.inl ⟨rfl, by decide, by decide⟩) _
    · have hXS2 := (hXS.up (c := 30) (by decide) (w 0) (-1)).up (c := 25) (by decide) 0 (w 0 + 1)
      rcases hXS2 with ⟨K', hl', hF'⟩ | q
      · refine Or.inl ⟨K', _, _, _, hl', ?_, hF'.symm⟩
        refine cd_strip hC ⟨b0, b1, b2⟩ z ⟨upd2_same _ _ _ _, ?_, ?_⟩ (fun j => ?_) (fun j => ?_) (fun j => ?_) (fun j => ?_) (fun j => ?_) (fun j => ?_) (fun c hc => ?_)
        · rw [upd2_place _ _ _ (by decide), upd2_cell _ _ _ _ (by decide), e25]
        · rw [upd2_place _ _ _ (by decide), upd2_cell _ _ _ _ (by decide), e25]
        · rw [upd2_cell _ _ _ _ (by decide), upd2_cell _ _ _ _ (by decide), f17 26 (by decide) (by decide) (by decide), g17 26 (by decide)]; simp [upd2]
        · rw [upd2_cell _ _ _ _ (by decide), upd2_cell _ _ _ _ (by decide), f17 27 (by decide) (by decide) (by decide), g17 27 (by decide)]; simp [upd2]
        · rw [upd2_cell _ _ _ _ (by decide), upd2_cell _ _ _ _ (by decide), e22 28 (by decide) (by decide), upd2_cell _ _ _ _ (by decide)]
          simp only [upd2]
          rw [g17 28 (by decide)]; simp [upd2]
        · rw [upd2_cell _ _ _ _ (by decide), upd2_cell _ _ _ _ (by decide), hxo.c (by decide), hX29, g17 29 (by decide)]; simp [upd2]
        · rw [upd2_cell _ _ _ _ (by decide)]
          simp only [upd2]
          rw [f17 30 (by decide) (by decide) (by decide), g17 30 (by decide)]; simp [upd2]
        · rw [upd2_cell _ _ _ _ (by decide), upd2_cell _ _ _ _ (by decide), f17 38 (by decide) (by decide) (by decide), g17 38 (by decide)]; simp [upd2]
        · funext j
          rw [upd2_cell _ _ _ _ (by omega), upd2_cell _ _ _ _ (by omega), f17 c (by omega) (by omega) (by omega), g17 c (by omega), upd2_cell _ _ _ _ (by omega), upd2_cell _ _ _ _ (by omega), upd2_cell _ _ _ _ (by omega)]
      · exact Or.inr q
    · refine ⟨?_, ?_, ?_⟩
      · rw [upd2_same]; omega
      · rw [upd2_place _ _ _ (by decide), upd2_cell _ _ _ _ (by decide), e25]; exact hBD.2.1
      · rw [upd2_place _ _ _ (by decide), upd2_cell _ _ _ _ (by decide), e25]; exact hBD.2.2
  refine ⟨fun y => ?_, fun y => ?_⟩
  · -- no soil is told
    have hX2 : XS T n D17 (fun K6 => SG T n K6 (fun K1 => .inr (K1, wStrip w x1 x2 x3 1, upV sn (w 0) x0, fn))) res := by
      rcases X17 with ⟨K6, hl6, hF6⟩ | q
      · refine Or.inl ⟨K6, hl6, ?_⟩
        dsimp only at hF6
        rw [if_neg (fun z2 => y ⟨hl6.1, by rw [hl6.2.2.2.2.1.1]; exact z2.1, by rw [hl6.2.2.2.2.1.2.2.2.1 z2.1]; exact z2.2⟩)] at hF6
        exact hF6
      · exact Or.inr q
    refine C0.use (o_sign hL hn ((hX2.up (by decide) _ _).up (by decide) _ _)) ?_
    rintro - D22 ⟨x22, X22⟩
    try dsimp only
    exact finish 1 D22 _ x22 ((pO.rf.up (Or.inr ⟨by decide, by decide⟩) _).up (Or.inr ⟨by decide, by decide⟩) _) (fun c _ _ => rfl) (fun j => by simp [upd2]) X22
  · have hX2 : (∃ K, lvC T n (upd2 (upd2 D17 28 (w 0) x3) 29 (w 0) 1) K ∧ K.1 ≠ 4 ∧ (fun K => NB T n 1 3 K (fun x4 K7 => kEnd T n K7 (wStrip w x1 x2 x3 x4) (upV sn (w 0) x0) fn)) (nxK T n K) = res) ∨ ((upd2 (upd2 D17 28 (w 0) x3) 29 (w 0) 1) 23 3 ≠ 0 ∧ res = .inl ((upd2 (upd2 D17 28 (w 0) x3) 29 (w 0) 1) 23 3, (upd2 (upd2 D17 28 (w 0) x3) 29 (w 0) 1) 23 4)) := by
      have hX3 := (X17.up (c := 28) (by decide) (w 0) x3).up (c := 29) (by decide) (w 0) 1
      have y1 : (upd2 (upd2 D17 28 (w 0) x3) 29 (w 0) 1) 23 7 = 1 := by rw [upd2_cell _ _ _ _ (by decide), upd2_cell _ _ _ _ (by decide)]; exact y.2.1
      have y2 : (upd2 (upd2 D17 28 (w 0) x3) 29 (w 0) 1) 23 10 = 1936681324 := by rw [upd2_cell _ _ _ _ (by decide), upd2_cell _ _ _ _ (by decide)]; exact y.2.2
      rcases hX3 with ⟨K6, hl6, hF6⟩ | q
      · have k1 : K6.1 = 1 := hl6.2.2.2.2.1.1.symm.trans y1
        have kx : K6.2.2.2 = 1936681324 := (hl6.2.2.2.2.1.2.2.2.1 k1).symm.trans y2
        dsimp only at hF6
        rw [if_pos ⟨k1, kx⟩] at hF6
        exact Or.inl ⟨K6, hl6, by omega, hF6⟩
      · exact Or.inr q
    refine C0.use (o_step hL hn (F := fun K => NB T n 1 3 K (fun x4 K7 => kEnd T n K7 (wStrip w x1 x2 x3 x4) (upV sn (w 0) x0) fn)) hX2) ?_
    rintro - D25 ⟨x25, X25⟩
    try dsimp only
    refine C0.use (o_num hL hn (by decide) (by decide) X25) ?_
    rintro x4 D27 ⟨x27, r27, X27⟩
    try dsimp only
    refine ⟨r27, ?_⟩
    have X27' : XS T n D27 (fun K7 => SG T n K7 (fun K1 => .inr (K1, wStrip w x1 x2 x3 x4, upV sn (w 0) x0, fn))) res := X27
    refine C0.use (o_sign hL hn (X27'.up (by decide) _ _)) ?_
    rintro - D29 ⟨x29, X29⟩
    try dsimp only
    have x2527 := x25.tr x27
    refine finish x4 D29 _ x29 ((((pO.rf.up (Or.inr ⟨by decide, by decide⟩) _).up (Or.inr ⟨by decide, by decide⟩) _).tr x2527.p).up (Or.inr ⟨by decide, by decide⟩) _) (fun c h1 h2 => ?_) (fun j => ?_) X29
    · funext j; rw [upd2_cell _ _ _ _ h2, x2527.c h1]
    · simp only [upd2]
      rw [x2527.c (by decide)]
      simp only [upd2]
      by_cases z2 : j = w 0
      · simp [z2]
      · simp [z2]
end

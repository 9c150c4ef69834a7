/-! ===== the class's reader: harms, families ===== -/
theorem cd_harm {D X : Dm} {w : Vl} {sn fn : Row} (hC : CD D w sn fn) (hB : WB w) (hlt : w 1 < 6) {kd a b t o : Int} (h25 : X 25 0 = D 25 0 ∧ X 25 1 = w 1 + 1 ∧ X 25 2 = D 25 2) (h31 : ∀ j, X 31 j = if j = w 1 then kd else D 31 j) (h32 : ∀ j, X 32 j = if j = w 1 then t else D 32 j) (h33 : ∀ j, X 33 j = if j = w 1 then o else D 33 j) (h40 : ∀ j, j ≠ w 1 → X 40 j = D 40 j ∧ X 41 j = D 41 j) (h40' : kd ≠ 3 → X 40 (w 1) = a) (h41' : kd = 0 → X 41 (w 1) = b) (hr : ∀ c, (26 ≤ c ∧ c ≤ 30) ∨ (35 ≤ c ∧ c ≤ 39) → X c = D c) : CD X (wHarm w kd a b t o) sn fn := by
  obtain ⟨a0, b', c, d⟩ := hC
  obtain ⟨b0, b1, b2⟩ := hB
  have w1 : wHarm w kd a b t o 1 = w 1 + 1 := by unfold wHarm; rw [if_pos rfl]
  have key : ∀ i : Int, i ≠ 1 → ¬ (58 + 5 * w 1 ≤ i ∧ i ≤ 58 + 5 * w 1 + 4) → wHarm w kd a b t o i = w i := fun i h1 h2 => by
    unfold wHarm
    rw [if_neg h1, if_neg (by omega), if_neg (by omega), if_neg (by omega), if_neg (by omega), if_neg (by omega)]
  have v0 : wHarm w kd a b t o ((58 + (5 * w 1)) + 0) = kd := by unfold wHarm; rw [if_neg (by omega), if_pos (by omega)]
  have v1 : wHarm w kd a b t o ((58 + (5 * w 1)) + 1) = a := by unfold wHarm; rw [if_neg (by omega), if_neg (by omega), if_pos (by omega)]
  have v2 : wHarm w kd a b t o ((58 + (5 * w 1)) + 2) = b := by unfold wHarm; rw [if_neg (by omega), if_neg (by omega), if_neg (by omega), if_pos (by omega)]
  have v3 : wHarm w kd a b t o ((58 + (5 * w 1)) + 3) = t := by unfold wHarm; rw [if_neg (by omega), if_neg (by omega), if_neg (by omega), if_neg (by omega), if_pos (by omega)]
  have v4 : wHarm w kd a b t o ((58 + (5 * w 1)) + 4) = o := by unfold wHarm; rw [if_neg (by omega), if_neg (by omega), if_neg (by omega), if_neg (by omega), if_neg (by omega), if_pos (by omega)]
  refine ⟨⟨by rw [h25.1, key 0 (by omega) (by omega)]; exact a0.1, by rw [h25.2.1, w1], by rw [h25.2.2, key 2 (by omega) (by omega)]; exact a0.2.2⟩, fun s p q => ?_, fun h p q => ?_, fun f p q => ?_⟩
  · rw [key 0 (by omega) (by omega)] at q
    rw [hr 26 (by decide), hr 27 (by decide), hr 28 (by decide), hr 29 (by decide), hr 30 (by decide), hr 38 (by decide), key _ (by omega) (by omega), key _ (by omega) (by omega), key _ (by omega) (by omega), key _ (by omega) (by omega), key _ (by omega) (by omega)]
    exact b' s p q
  · rw [w1] at q
    rw [h31, h32, h33]
    by_cases z : h = w 1
    · subst z
      simp only [if_true, v0, v1, v2, v3, v4]
      exact ⟨⟨trivial, trivial, trivial⟩, h40', h41'⟩
    · simp only [if_neg z]
      rw [(h40 h z).1, (h40 h z).2, key _ (by omega) (by omega), key _ (by omega) (by omega), key _ (by omega) (by omega), key _ (by omega) (by omega), key _ (by omega) (by omega)]
      exact c h p (by omega)
  · rw [key 2 (by omega) (by omega)] at q
    rw [hr 35 (by decide), hr 36 (by decide), hr 37 (by decide), hr 39 (by decide), key _ (by omega) (by omega), key _ (by omega) (by omega), key _ (by omega) (by omega)]
    exact d f p q
section
variable {l : Launch} {E : Ev} {G : Sh} {D : Dm} {T : Int → Int} {n : Int} {res : Rs}
theorem kOf_w {K : Tk} {j : Nat} (hj : j < 14) : kOf K = j ↔ (K.1 = 1 ∧ K.2.2.2 = kcL.getD j 0) := by
  unfold kOf
  by_cases h : K.1 = 1
  · rw [if_pos h, kwI_iff hj]
    exact ⟨fun q => ⟨h, q⟩, fun q => q.2⟩
  · rw [if_neg h]
    exact ⟨fun q => by omega, fun q => absurd q.1 h⟩
theorem kOf_b (K : Tk) : -1 ≤ kOf K ∧ kOf K ≤ 13 := by
  unfold kOf
  split
  · rcases kwI_or K.2.2.2 with ⟨h, _⟩ | ⟨j, h1, h2, _⟩ <;> omega
  · omega
theorem sees_iff {K : Tk} (hl : lvC T n D K) {j : Nat} (hj : j < 14) : (D 23 3 = 0 ∧ D 23 7 = 1 ∧ D 23 10 = kcL.getD j 0) ↔ kOf K = j := by
  rw [kOf_w hj]
  constructor
  · rintro ⟨_, h2, h3⟩
    have e : K.1 = 1 := hl.2.2.2.2.1.1.symm.trans h2
    exact ⟨e, (hl.2.2.2.2.1.2.2.2.1 e).symm.trans h3⟩
  · rintro ⟨h1, h2⟩
    exact ⟨hl.1, hl.2.2.2.2.1.1.trans h1, (hl.2.2.2.2.1.2.2.2.1 h1).trans h2⟩
theorem c_X6_kindOfHarm (hL : Lay G) {K : Tk} (hl : lvC T n D K) : C0 l E MX6_kindOfHarm 0 [vR E 23] G D (fun r D' => r = (if 1 ≤ kOf K ∧ kOf K ≤ 4 then kOf K - 1 else -1) ∧ D' = D) := by
  have s1 := sees_iff hl (j := 1) (by decide)
  have s2 := sees_iff hl (j := 2) (by decide)
  have s3 := sees_iff hl (j := 3) (by decide)
  have s4 := sees_iff hl (j := 4) (by decide)
  refine s_X6_kindOfHarm hL ⟨fun z1 => ⟨fun z2 => ⟨fun z3 => ⟨fun z4 => ⟨rfl, ?_, rfl⟩, fun z4 => ⟨rfl, ?_, rfl⟩⟩, fun z3 => ⟨rfl, ?_, rfl⟩⟩, fun z2 => ⟨rfl, ?_, rfl⟩⟩, fun z1 => ⟨rfl, ?_, rfl⟩⟩
  · have n1 : ¬ kOf K = ((1 : Nat) : Int) := fun q => z1 (s1.2 q)
    have n2 : ¬ kOf K = ((2 : Nat) : Int) := fun q => z2 (s2.2 q)
    have n3 : ¬ kOf K = ((3 : Nat) : Int) := fun q => z3 (s3.2 q)
    have n4 : ¬ kOf K = ((4 : Nat) : Int) := fun q => z4 (s4.2 q)
    rw [if_neg (by omega)]
  · have := s4.1 z4
    rw [if_pos (by omega)]; omega
  · have := s3.1 z3
    rw [if_pos (by omega)]; omega
  · have := s2.1 z2
    rw [if_pos (by omega)]; omega
  · have := s1.1 z1
    rw [if_pos (by omega)]; omega
theorem harm_tail (hL : Lay G) (hn : 0 ≤ n ∧ n ≤ 600) {w : Vl} {sn fn : Row} (hC : CD D w sn fn) (hB : WB w) (hlt : w 1 < 6) {kd a b : Int} {D3 : Dm} (hp3 : pO D D3) (h3 : ∀ c, c ≠ 23 → c ≠ 40 → c ≠ 41 → D3 c = D c) (h40 : ∀ j, j ≠ w 1 → D3 40 j = D 40 j ∧ D3 41 j = D 41 j) (h40' : kd ≠ 3 → D3 40 (w 1) = a) (h41' : kd = 0 → D3 41 (w 1) = b) (hX : XS T n D3 (hTail T n w sn fn (kEnd T n) kd a b) res) {B : Int → Prop} (hBB : ∀ r, iRg r → B r) (hh : D 25 1 = w 1) :
    C0 l E MX6_expectWord 2 [vR E 23, vJ 499850634611] G D3 (fun r24 D24 => C0 l E MX6_readNumber 0 [vR E 23, vI 0, vI 8] G D24 (fun r26 D26 => B r26 ∧ C0 l E MX6_expectWord 2 [vR E 23, vJ 1868850291] G (upd2 D26 32 (w 1) r26) (fun r28 D28 => C0 l E MX6_readNumber 0 [vR E 23, vI 0, vI 16] G D28 (fun r30 D30 => ((-2147483648 ≤ r30 ∧ r30 < 2147483648)) ∧ C0 l E MX6_expectSign 2 [vR E 23] G (upd2 D30 33 (w 1) r30) (fun r32 D32 => ((-2147483648 ≤ w 1 + 1 ∧ w 1 + 1 < 2147483648)) ∧ (G = G ∧ pO D (upd2 (upd2 D32 31 (w 1) kd) 25 1 (w 1 + 1)) ∧ PR T n (upd2 (upd2 D32 31 (w 1) kd) 25 1 (w 1 + 1)) res ∧ BD (upd2 (upd2 D32 31 (w 1) kd) 25 1 (w 1 + 1)))))))) := by
  obtain ⟨b0, b1, b2⟩ := hB
  have hBD : BD D := ⟨by rw [hC.1.1]; exact b0, by rw [hC.1.2.1]; exact b1, by rw [hC.1.2.2]; exact b2⟩
  have hX' : XS T n D3 (fun K => WW T n 499850634611 K (fun K1 => NB T n 0 8 K1 (fun t K2 => WW T n 1868850291 K2 (fun K3 => NB T n 0 16 K3 (fun o K4 => kEnd T n K4 (wHarm w kd a b t o) sn fn))))) res := hX
  refine C0.use (o_word hL hn (by decide) hX') ?_
  rintro - D24 ⟨x24, X24⟩
  try dsimp only
  refine C0.use (o_num hL hn (by decide) (by decide) X24) ?_
  rintro t D26 ⟨x26, r26, X26⟩
  try dsimp only
  refine ⟨hBB t r26, ?_⟩
  refine C0.use (o_word hL hn (by decide) (X26.up (by decide) _ _)) ?_
  rintro - D28 ⟨x28, X28⟩
  try dsimp only
  refine C0.use (o_num hL hn (by decide) (by decide) X28) ?_
  rintro o D30 ⟨x30, r30, X30⟩
  try dsimp only
  refine ⟨r30, ?_⟩
  have X30' : XS T n D30 (fun K4 => SG T n K4 (fun K1 => .inr (K1, wHarm w kd a b t o, sn, fn))) res := X30
  refine C0.use (o_sign hL hn (X30'.up (by decide) _ _)) ?_
  rintro - D32 ⟨x32, X32⟩
  try dsimp only
  have q32 : eqx D32 (upd2 (upd2 D3 32 (w 1) t) 33 (w 1) o) := (((((((eqx.rf.x x24).x x26).up (c := 32) (w 1) t).x x28).x x30).up (c := 33) (w 1) o).x x32)
  have p32 : pO D D32 := hp3.tr (((x24.p.tr x26.p).up (Or.inr ⟨by decide, by decide⟩) _).tr (((x28.p.tr x30.p).up (Or.inr ⟨by decide, by decide⟩) _).tr x32.p))
  have f32 : ∀ c, c ≠ 23 → c ≠ 32 → c ≠ 33 → D32 c = D3 c := fun c p q r => by
    rw [q32 c p]; funext j; rw [upd2_cell _ _ _ _ r, upd2_cell _ _ _ _ q]
  have e25 : D32 25 = D 25 := by rw [f32 25 (by decide) (by decide) (by decide), h3 25 (by decide) (by decide) (by decide)]
  refine ⟨by omega, rfl, (p32.up (Or.inr ⟨by decide, by decide⟩) _).up (Or.inl ⟨rfl, by decide, by decide⟩) _, ?_, ?_⟩
  · have hXS2 := (X32.up (c := 31) (by decide) (w 1) kd).up (c := 25) (by decide) 1 (w 1 + 1)
    rcases hXS2 with ⟨K', hl', hF'⟩ | q
    · refine Or.inl ⟨K', _, _, _, hl', ?_, hF'.symm⟩
      refine cd_harm hC ⟨b0, b1, b2⟩ hlt ⟨?_, upd2_same _ _ _ _, ?_⟩ (fun j => ?_) (fun j => ?_) (fun j => ?_) (fun j hj => ⟨?_, ?_⟩) (fun hk => ?_) (fun hk => ?_) (fun c hc => ?_)
      · rw [upd2_place _ _ _ (by decide), upd2_cell _ _ _ _ (by decide), e25]
      · rw [upd2_place _ _ _ (by decide), upd2_cell _ _ _ _ (by decide), e25]
      · rw [upd2_cell _ _ _ _ (by decide)]
        simp only [upd2]
        rw [f32 31 (by decide) (by decide) (by decide), h3 31 (by decide) (by decide) (by decide)]; simp
      · rw [upd2_cell _ _ _ _ (by decide), upd2_cell _ _ _ _ (by decide), q32 32 (by decide), upd2_cell _ _ _ _ (by decide)]
        simp only [upd2]
        rw [h3 32 (by decide) (by decide) (by decide)]; simp
      · rw [upd2_cell _ _ _ _ (by decide), upd2_cell _ _ _ _ (by decide), q32 33 (by decide)]
        simp only [upd2]
        rw [h3 33 (by decide) (by decide) (by decide)]; simp
      · rw [upd2_cell _ _ _ _ (by decide), upd2_cell _ _ _ _ (by decide), f32 40 (by decide) (by decide) (by decide)]; exact (h40 j hj).1
      · rw [upd2_cell _ _ _ _ (by decide), upd2_cell _ _ _ _ (by decide), f32 41 (by decide) (by decide) (by decide)]; exact (h40 j hj).2
      · rw [upd2_cell _ _ _ _ (by decide), upd2_cell _ _ _ _ (by decide), f32 40 (by decide) (by decide) (by decide)]; exact h40' hk
      · rw [upd2_cell _ _ _ _ (by decide), upd2_cell _ _ _ _ (by decide), f32 41 (by decide) (by decide) (by decide)]; exact h41' hk
      · funext j
        rw [upd2_cell _ _ _ _ (by omega), upd2_cell _ _ _ _ (by omega), f32 c (by omega) (by omega) (by omega), h3 c (by omega) (by omega) (by omega)]
    · exact Or.inr q
  · refine ⟨?_, ?_, ?_⟩
    · rw [upd2_place _ _ _ (by decide), upd2_cell _ _ _ _ (by decide), e25]; exact hBD.1
    · rw [upd2_same]; omega
    · rw [upd2_place _ _ _ (by decide), upd2_cell _ _ _ _ (by decide), e25]; exact hBD.2.2
theorem o_harm (hL : Lay G) (hn : 0 ≤ n ∧ n ≤ 600) {K : Tk} {w : Vl} {sn fn : Row} (hl : lvC T n D K) (hC : CD D w sn fn) (hB : WB w) (hres : (if 1 ≤ kOf K ∧ kOf K ≤ 4 then pHarm T n w sn fn (kEnd T n) (kOf K - 1) K else fl K 2) = res) : C0 l E MX6_readHarm 2 [vR E 23] G D (fun _ D' => pO D D' ∧ PR T n D' res ∧ BD D') := by
  have e1 : D 25 1 = w 1 := hC.1.2.1
  have hB' := hB
  obtain ⟨b0, b1, b2⟩ := hB
  have hBD : BD D := ⟨by rw [hC.1.1]; exact b0, by rw [hC.1.2.1]; exact b1, by rw [hC.1.2.2]; exact b2⟩
  have halt : ∀ why, why ≠ 0 → iRg why → fl K why = res → C0 l E MX6_stop 2 [vR E 23, vI why] G D (fun _ D' => G = G ∧ pO D D' ∧ PR T n D' res ∧ BD D') := by
    intro why h0 h1 hf
    refine C0.use (o_stop hL ⟨h0, h1⟩ (Or.inl ⟨K, hl, hf⟩)) ?_
    rintro - D1 ⟨g1, g2, g3, _, _⟩
    have e25 : D1 25 = D 25 := g1.c (by decide)
    exact ⟨rfl, g1.p, Or.inr ⟨g2, g3⟩, by unfold BD; rw [e25]; exact hBD⟩
  refine s_X6_readHarm hL ?_
  refine C0.use (c_X6_kindOfHarm hL hl) ?_
  rintro r D2 ⟨hr, rfl⟩
  try dsimp only
  rw [e1]
  have hkb := kOf_b K
  by_cases hk : 1 ≤ kOf K ∧ kOf K ≤ 4
  · rw [if_pos hk] at hr hres
    rw [← hr] at hres
    have rb : 0 ≤ r ∧ r ≤ 3 := by omega
    have k1 : K.1 = 1 := Classical.byContradiction (fun q => by have : kOf K = -1 := if_neg q; omega)
    refine ⟨by omega, fun z => absurd z (by omega), fun _ => ⟨by omega, fun z => ?_, fun z => ⟨fun _ => halt 5 (by decide) (by decide) ?_, fun y => absurd y (by omega)⟩⟩⟩
    rotate_left
    · rw [pHarm, if_pos (by omega)] at hres; exact hres
    rw [pHarm, if_neg (by omega)] at hres
    have hx0 : ∀ F : Tk → Rs, F (nxK T n K) = res → (∃ K, lvC T n D2 K ∧ K.1 ≠ 4 ∧ F (nxK T n K) = res) ∨ (D2 23 3 ≠ 0 ∧ res = .inl (D2 23 3, D2 23 4)) := fun F hF => Or.inl ⟨K, hl, by omega, hF⟩
    rcases (show r = 0 ∨ r = 1 ∨ r = 2 ∨ r = 3 by omega) with rfl | rfl | rfl | rfl
    · rw [if_pos rfl] at hres
      refine C0.use (o_step hL hn (F := (fun K => NB T n 0 99 K (fun a K2 => WW T n 29807 K2 (fun K3 => NB T n a 99 K3 (fun b K4 => hTail T n w sn fn (kEnd T n) 0 a b K4))))) (hx0 (fun K => NB T n 0 99 K (fun a K2 => WW T n 29807 K2 (fun K3 => NB T n a 99 K3 (fun b K4 => hTail T n w sn fn (kEnd T n) 0 a b K4)))) hres)) ?_
      rintro - D16 ⟨x16, X16⟩
      try dsimp only
      refine ⟨fun y => absurd rfl y, fun _ => ?_⟩
      refine C0.use (o_num hL hn (by decide) (by decide) X16) ?_
      rintro a D61 ⟨x61, r61, X61⟩
      try dsimp only
      refine ⟨⟨by omega, r61⟩, ?_⟩
      refine C0.use (o_word hL hn (by decide) (X61.up (by decide) _ _)) ?_
      rintro - D63 ⟨x63, X63⟩
      try dsimp only
      have e40 : D63 40 (w 1) = a := by rw [x63.c (by decide), upd2_same]
      rw [e40]
      refine C0.use (o_num hL hn r61 (by decide) X63) ?_
      rintro b D65 ⟨x65, r65, X65⟩
      try dsimp only
      refine ⟨r65, ?_⟩
      have q65 : eqx (upd2 D65 41 (w 1) b) (upd2 (upd2 D2 40 (w 1) a) 41 (w 1) b) := ((((eqx.rf.x x16).x x61).up (c := 40) (w 1) a).x x63 |>.x x65).up (c := 41) (w 1) b
      refine harm_tail hL hn hC hB' z (kd := 0) (a := a) (b := b) (D3 := upd2 D65 41 (w 1) b) ?_ (fun c p q r => ?_) (fun j hj => ⟨?_, ?_⟩) (fun _ => ?_) (fun _ => upd2_same _ _ _ _) (X65.up (by decide) _ _) (fun r h => h) e1
      · exact ((((x16.p.tr x61.p).up (Or.inr ⟨by decide, by decide⟩) _).tr (x63.p.tr x65.p)).up (Or.inr ⟨by decide, by decide⟩) _)
      · rw [q65 c p]; funext j; rw [upd2_cell _ _ _ _ r, upd2_cell _ _ _ _ q]
      · rw [q65 40 (by decide), upd2_cell _ _ _ _ (by decide), upd2_place _ _ _ hj]
      · rw [q65 41 (by decide), upd2_place _ _ _ hj, upd2_cell _ _ _ _ (by decide)]
      · rw [q65 40 (by decide), upd2_cell _ _ _ _ (by decide), upd2_same]
    · rw [if_neg (by decide), if_pos rfl] at hres
      refine C0.use (o_step hL hn (F := (fun K => NB T n 0 99 K (fun a K2 => hTail T n w sn fn (kEnd T n) 1 a 0 K2))) (hx0 (fun K => NB T n 0 99 K (fun a K2 => hTail T n w sn fn (kEnd T n) 1 a 0 K2)) hres)) ?_
      rintro - D16 ⟨x16, X16⟩
      try dsimp only
      refine ⟨fun _ => ⟨fun y => absurd rfl y, fun _ => ?_⟩, fun y => absurd y (by decide)⟩
      refine C0.use (o_num hL hn (by decide) (by decide) X16) ?_
      rintro a D61 ⟨x61, r61, X61⟩
      try dsimp only
      refine ⟨⟨by omega, r61⟩, ?_⟩
      have q65 : eqx (upd2 D61 40 (w 1) a) (upd2 D2 40 (w 1) a) := ((eqx.rf.x x16).x x61).up (c := 40) (w 1) a
      refine harm_tail hL hn hC hB' z (kd := 1) (a := a) (b := 0) (D3 := upd2 D61 40 (w 1) a) ?_ (fun c p q r => ?_) (fun j hj => ⟨?_, ?_⟩) (fun _ => upd2_same _ _ _ _) (fun y => absurd y (by decide)) (X61.up (by decide) _ _) (fun r h => h) e1
      · exact (x16.p.tr x61.p).up (Or.inr ⟨by decide, by decide⟩) _
      · rw [q65 c p]; funext j; rw [upd2_cell _ _ _ _ q]
      · rw [q65 40 (by decide), upd2_place _ _ _ hj]
      · rw [q65 41 (by decide), upd2_cell _ _ _ _ (by decide)]
    · rw [if_neg (by decide), if_neg (by decide), if_pos rfl] at hres
      refine C0.use (o_step hL hn (F := (fun K => NB T n 1 3 K (fun a K2 => hTail T n w sn fn (kEnd T n) 2 a 0 K2))) (hx0 (fun K => NB T n 1 3 K (fun a K2 => hTail T n w sn fn (kEnd T n) 2 a 0 K2)) hres)) ?_
      rintro - D16 ⟨x16, X16⟩
      try dsimp only
      refine ⟨fun _ => ⟨fun _ => ⟨fun y => absurd rfl y, fun _ => ?_⟩, fun y => absurd y (by decide)⟩, fun y => absurd y (by decide)⟩
      refine C0.use (o_num hL hn (by decide) (by decide) X16) ?_
      rintro a D61 ⟨x61, r61, X61⟩
      try dsimp only
      refine ⟨⟨by omega, r61⟩, ?_⟩
      have q65 : eqx (upd2 D61 40 (w 1) a) (upd2 D2 40 (w 1) a) := ((eqx.rf.x x16).x x61).up (c := 40) (w 1) a
      refine harm_tail hL hn hC hB' z (kd := 2) (a := a) (b := 0) (D3 := upd2 D61 40 (w 1) a) ?_ (fun c p q r => ?_) (fun j hj => ⟨?_, ?_⟩) (fun _ => upd2_same _ _ _ _) (fun y => absurd y (by decide)) (X61.up (by decide) _ _) (fun r h => h) e1
      · exact (x16.p.tr x61.p).up (Or.inr ⟨by decide, by decide⟩) _
      · rw [q65 c p]; funext j; rw [upd2_cell _ _ _ _ q]
      · rw [q65 40 (by decide), upd2_place _ _ _ hj]
      · rw [q65 41 (by decide), upd2_cell _ _ _ _ (by decide)]
    · rw [if_neg (by decide), if_neg (by decide), if_neg (by decide)] at hres
      refine C0.use (o_step hL hn (F := (fun K => hTail T n w sn fn (kEnd T n) 3 0 0 K)) (hx0 (fun K => hTail T n w sn fn (kEnd T n) 3 0 0 K) hres)) ?_
      rintro - D16 ⟨x16, X16⟩
      try dsimp only
      refine ⟨fun _ => ⟨fun _ => ⟨fun _ => ?_, fun y => absurd y (by decide)⟩, fun y => absurd y (by decide)⟩, fun y => absurd y (by decide)⟩
      exact harm_tail hL hn hC hB' z (kd := 3) (a := 0) (b := 0) (D3 := D16) x16.p (fun c p q r => x16.c p) (fun j hj => ⟨by rw [x16.c (by decide)], by rw [x16.c (by decide)]⟩) (fun y => absurd rfl y) (fun y => absurd y (by decide)) X16 (fun r h => ⟨by omega, h⟩) e1
  · rw [if_neg hk] at hr hres
    subst hr
    exact ⟨by decide, fun _ => ⟨fun y => absurd rfl y, fun _ => halt 2 (by decide) (by decide) hres⟩, fun y => absurd rfl y⟩
end

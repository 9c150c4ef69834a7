-- give of the reference
def FT (v : Vl) (D : Dm) : Prop := ∀ (f : Int) (S : Nat) (lot : Int), 0 ≤ f → f < v 2 → S < 2 ^ (v 0).toNat → 0 ≤ lot → lot < iSl 1 (v 1) → D 119 ((((256 * f) + S) * 64) + lot) = if hgB v f S lot then 1 else 0
def valT (v : Vl) (kd : Int) (T : Int → Nat) : Int := if kd = 0 then v0S v T else v1S v T
/-- the strips from j on that go to f -/
def shP (v : Vl) (w : Row) (j : Nat) (f : Int) : Nat := setN (fun s => decide ((j : Int) ≤ s) && decide (w s = f)) (v 0).toNat
theorem shP_0 (v : Vl) (w : Row) (f : Int) : shP v w 0 f = shN v w f := by
  apply Nat.eq_of_testBit_eq
  intro i
  unfold shP shN
  rw [setN_bit, setN_bit, decide_eq_true (show ((0 : Nat) : Int) ≤ (i : Int) by omega), Bool.true_and]
theorem shP_n {v : Vl} (w : Row) {j : Nat} (h : v 0 ≤ j) (f : Int) : shP v w j f = 0 := by
  apply Nat.eq_of_testBit_eq
  intro i
  unfold shP
  rw [setN_bit, Nat.zero_testBit]
  by_cases q : i < (v 0).toNat
  · rw [decide_eq_false (show ¬ (j : Int) ≤ (i : Int) by omega)]; simp
  · rw [decide_eq_false q, Bool.false_and]
theorem shP_s {v : Vl} {w : Row} {j : Nat} (h : (j : Int) < v 0) (f : Int) : shP v w j f = if w j = f then shP v w (j + 1) f ||| 2 ^ j else shP v w (j + 1) f := by
  apply Nat.eq_of_testBit_eq
  intro i
  have e1 : (shP v w j f).testBit i = (decide (i < (v 0).toNat) && (decide ((j : Int) ≤ i) && decide (w i = f))) := setN_bit _ _ _
  have e2 : (shP v w (j + 1) f).testBit i = (decide (i < (v 0).toNat) && (decide (((j + 1 : Nat) : Int) ≤ i) && decide (w i = f))) := setN_bit _ _ _
  rw [e1]
  by_cases q : i = j
  · subst q
    rw [decide_eq_true (show i < (v 0).toNat by omega), decide_eq_true (show (i : Int) ≤ i by omega), Bool.true_and, Bool.true_and]
    by_cases z : w i = f
    · rw [if_pos z, Nat.testBit_or, Nat.testBit_two_pow, decide_eq_true z, decide_eq_true (rfl : i = i), Bool.or_true]
    · rw [if_neg z, e2, decide_eq_false z, Bool.and_false, Bool.and_false]
  · have e3 : decide ((j : Int) ≤ i) = decide (((j + 1 : Nat) : Int) ≤ i) := by apply decide_eq_decide.2; omega
    rw [e3, ← e2]
    by_cases z : w j = f
    · rw [if_pos z, Nat.testBit_or, Nat.testBit_two_pow, decide_eq_false (show ¬ j = i from fun y => q y.symm), Bool.or_false]
    · rw [if_neg z]
theorem shP_lt (v : Vl) (w : Row) (j : Nat) (f : Int) : shP v w j f < 2 ^ (v 0).toNat := setN_lt _ _
def gM (D D' : Dm) : Prop := ∀ c i, ¬ scrM c i → c ≠ 120 → ¬ (c = 107 ∧ i = 33) → D' c i = D c i
section
variable {l : Launch} {E : Ev} {G : Sh} {D : Dm} {a : Ans}
theorem c_X10_fills (hL : Lay G) (hv : wfV (D 108)) (hh : D 107 20 = 0) (h8 : D 108 0 ≤ 8) (h3 : D 108 2 ≤ 3) : C0 l E MX10_fills 2 [vR E 107, vI (D 108 0)] G D (fun _ D' => FT (D 108) D' ∧ mS D D') := by
  have hF := wfF hv
  have hs := wfS hv
  have hp := p256 (k := D 108 0) (by omega)
  have hpp := Nat.two_pow_pos (D 108 0).toNat
  have hlb := lotsB (wfH hv)
  generalize hQ : (fun (r : Int) (G' : Sh) (D' : Dm) => G' = G ∧ FT (D 108) D' ∧ mS D D') = Q
  have main : Ct l E MX10_fills 2 0 0 [vR E 107, vI (D 108 0)] G D Q := by
    refine s_X10_fills hL ?_
    refine up_from (P := fun f => ∀ D', mS D D' → (∀ (f' : Int) (S : Nat) (lot : Int), 0 ≤ f' → f' < f → S < 2 ^ (D 108 0).toNat → 0 ≤ lot → lot < iSl 1 (D 108 1) → D' 119 ((((256 * f') + S) * 64) + lot) = if hgB (D 108) f' S lot then 1 else 0) → KX10_fills l E Q 2 [(0, vR E 107), (1, vI (D 108 0)), (2, vI f)] G D') (lo := 0) (n := D 108 2) hF.1 ?_ ?_ D mS.rf (fun f' S lot a b => by omega)
    · intro D' hm hT
      have e := hm.at
      refine s_X10_fills_2 hL ⟨by omega, fun _ => ?_, fun z => absurd z (by rw [e]; omega)⟩
      rw [← hQ]
      exact ⟨rfl, hT, hm⟩
    · intro f f0 f1 ih D1 hm1 hT1
      have e := hm1.at
      have hn := wff hv f0 f1
      refine s_X10_fills_2 hL ⟨by omega, fun z => absurd z (by rw [e]; omega), fun _ => ?_⟩
      refine up_from (P := fun i => ∀ (T : Nat) (D' : Dm), i = T → mS D D' → (∀ (f' : Int) (S : Nat) (lot : Int), 0 ≤ f' → (f' < f ∨ (f' = f ∧ S < T)) → S < 2 ^ (D 108 0).toNat → 0 ≤ lot → lot < iSl 1 (D 108 1) → D' 119 ((((256 * f') + S) * 64) + lot) = if hgB (D 108) f' S lot then 1 else 0) → KX10_fills l E Q 14 [(0, vR E 107), (1, vI (D 108 0)), (2, vI f), (3, vI i)] G D') (lo := 0) (n := ((2 ^ (D 108 0).toNat : Nat) : Int)) (by omega) ?_ ?_ 0 D1 rfl hm1 (fun f' S lot p q r => hT1 f' S lot p (by omega) r)
      · intro T D' hT' hm hTT
        refine s_X10_fills_14 hL ?_
        rw [iSl1 (by omega)]
        exact ⟨by omega, fun _ => ih D' hm (fun f' S lot p q r => hTT f' S lot p (by omega) r), fun z => absurd z (by omega)⟩
      · intro i i0 i1 ih2 T D2 hT' hm2 hTT
        have e2 := hm2.at
        refine s_X10_fills_14 hL ?_
        rw [iSl1 (by omega)]
        refine ⟨by omega, fun z => absurd z (by omega), fun _ => ?_⟩
        rw [hT']
        refine C0.use (c_X10_goesRound hL (by rw [e2]; exact hv) (by rw [e2]; exact ⟨f0, f1⟩) (S := T) (by rw [e2]; omega)) ?_
        rintro - D3 ⟨hway, hr3⟩
        try dsimp only
        rw [e2] at hway
        have hc := cost_b hv ⟨f0, f1⟩ (S := T) (by omega)
        refine up_from (P := fun j => ∀ D', mS D D' → D' 107 22 = costS (D 108) f T → (∀ (f' : Int) (S : Nat) (lot : Int), 0 ≤ f' → (f' < f ∨ (f' = f ∧ (S < T ∨ (S = T ∧ lot < j)))) → S < 2 ^ (D 108 0).toNat → 0 ≤ lot → lot < iSl 1 (D 108 1) → D' 119 ((((256 * f') + S) * 64) + lot) = if hgB (D 108) f' S lot then 1 else 0) → KX10_fills l E Q 30 [(0, vR E 107), (1, vI (D 108 0)), (2, vI f), (3, vI T), (4, vI j)] G D') (lo := 0) (n := iSl 1 (D 108 1)) (by omega) ?_ ?_ D3 (hm2.tr hr3.m) hway (fun f' S lot p q r s t => by rw [hr3 119 _ (by simp [scrR])]; exact hTT f' S lot p (by omega) r s t)
        · intro D' hm hw hTj
          have e' := hm.at
          refine s_X10_fills_30 hL ⟨by omega, fun _ => ?_, fun z => absurd z (by rw [e']; omega)⟩
          rw [← hT']
          exact ih2 (T + 1) D' (by omega) hm (fun f' S lot p q r s t => hTj f' S lot p (by omega) r s t)
        · intro j j0 j1 ih3 D' hm hw hTj
          have e' := hm.at
          have eh := hm.hv
          refine s_X10_fills_30 hL ⟨by omega, fun z => absurd z (by rw [e']; omega), fun _ => ?_⟩
          refine C0.use (c_X10_netOf hL (by rw [e']; exact hv) (by rw [eh, hh]; decide) (by rw [hw]; exact hc) T j) ?_
          rintro r D4 ⟨rfl, rfl⟩
          try dsimp only
          rw [e', eh, hh, hw]
          have hnb := net_b (hh := 0) (w := costS (D 108) f T) (set := T) (lot := j) hv (by decide) hc
          have fin : ∀ x : Int, x = (if hgB (D 108) f T j then 1 else 0) → KX10_fills l E Q 30 [(0, vR E 107), (1, vI (D 108 0)), (2, vI f), (3, vI T), (4, vI (j + 1))] G (upd2 D4 119 ((((256 * f) + T) * 64) + j) x) := by
            intro x hx
            refine ih3 _ (hm.up (by simp [scrM]) _) (by rw [upd2_cell _ _ _ _ (by decide)]; exact hw) (fun f' S lot p q r s t => ?_)
            by_cases z : f' = f ∧ S = T ∧ lot = j
            · obtain ⟨rfl, rfl, rfl⟩ := z
              rw [upd2_same]; exact hx
            · rw [upd2_place _ _ _ (by omega)]
              exact hTj f' S lot p (by omega) r s t
          refine ⟨by omega, fun z => ⟨by omega, fin 0 ?_⟩, fun z => ⟨by omega, fin 1 ?_⟩⟩
          · rw [if_neg (by unfold hgB; simp only [decide_eq_true_eq]; omega)]
          · rw [if_pos (by unfold hgB; simp only [decide_eq_true_eq]; omega)]
  rw [← hQ] at main
  exact main
theorem c_X10_hungers (hL : Lay G) (hv : wfV (D 108)) (h8 : D 108 0 ≤ 8) (h3 : D 108 2 ≤ 3) (hT : FT (D 108) D) {T : Int → Nat} (hTl : ∀ f, T f < 2 ^ (D 108 0).toNat) (hS : ∀ f, 0 ≤ f → f < D 108 2 → D 122 f = (T f : Nat)) {kd : Int} (hk : 0 ≤ kd ∧ kd ≤ 1) : C0 l E MX10_hungers 1 [vR E 107, vI kd] G D (fun r D' => r = valT (D 108) kd T ∧ D' = D) := by
  have hF := wfF hv
  have hs := wfS hv
  have hp := p256 (k := D 108 0) (by omega)
  have hlb := lotsB (wfH hv)
  refine s_X10_hungers hL ?_
  refine up_from (P := fun i => KX10_hungers l E _ 8 [(0, vR E 107), (1, vI kd), (2, vJ (sz (fun lot => wtS (D 108) lot * cnL (D 108) T lot (D 108 2).toNat) i.toNat)), (4, vJ (fz (v1F (D 108) T) 0 i.toNat)), (6, vI i)] G D) (lo := 0) (n := iSl 1 (D 108 1)) (by omega) ?_ ?_
  · refine s_X10_hungers_8 hL ⟨by omega, fun _ => ⟨by omega, fun z => ⟨rfl, ?_, rfl⟩, fun z => ⟨rfl, ?_, rfl⟩⟩, fun z => absurd z (by omega)⟩
    · rw [valT, if_neg z]; rfl
    · rw [valT, if_pos z]; exact v0_lots _ _
  · intro i i0 i1 ih
    rw [sz_s _ i0, fz_s _ _ i0] at ih
    have hv1 := v1_b hv h3 T i.toNat
    have hw := wtS_b hv i
    have hcb := cn_b (D 108) T i (D 108 2).toNat
    generalize fz (v1F (D 108) T) 0 i.toNat = t1 at ih hv1 ⊢
    generalize sz (fun lot => wtS (D 108) lot * cnL (D 108) T lot (D 108 2).toNat) i.toNat = t0 at ih ⊢
    refine s_X10_hungers_8 hL ⟨by omega, fun z => absurd z (by omega), fun _ => ?_⟩
    refine C0.use (c_X10_weightOf hL hv i) ?_
    rintro r D1 ⟨rfl, rfl⟩
    try dsimp only
    refine up_from (P := fun f => KX10_hungers l E _ 31 [(0, vR E 107), (1, vI kd), (2, vJ t0), (4, vJ t1), (6, vI i), (7, vJ (wtS (D1 108) i)), (9, vI (cnL (D1 108) T i f.toNat)), (10, vI f)] G D1) (lo := 0) (n := D1 108 2) hF.1 ?_ ?_
    · refine s_X10_hungers_31 hL ⟨by omega, fun _ => ⟨⟨by omega, by omega⟩, fun z => ?_, fun z => ⟨by omega, ?_⟩⟩, fun z => absurd z (by omega)⟩
      · rw [v1F, if_neg (by omega)] at ih
        exact ih
      · rw [v1F, if_pos z] at ih
        exact ih
    · intro f f0 f1 ih2
      rw [cn_s _ _ _ f0, cnF] at ih2
      have hl := hTl f
      refine s_X10_hungers_31 hL ?_
      rw [hS f f0 f1, hT f (T f) i f0 f1 hl i0 i1]
      refine ⟨by omega, fun z => absurd z (by omega), fun _ => ⟨by omega, fun z => ?_, fun z => ?_⟩⟩
      · rw [if_neg (fun q => by rw [if_pos q] at z; omega)] at ih2
        exact ih2
      · rw [if_pos (Classical.byContradiction (fun q => by rw [if_neg q] at z; omega))] at ih2
        exact ih2
theorem gM.at {D' : Dm} (h : gM D D') : D' 108 = D 108 := funext fun i => h 108 i (by simp [scrM]) (by decide) (by omega)
theorem gM.hv {D' : Dm} (h : gM D D') : D' 107 20 = D 107 20 := h 107 20 (by simp [scrM]) (by decide) (by omega)
theorem gM.up {D' : Dm} (h : gM D D') {c : Nat} {i : Int} (hs : scrM c i ∨ c = 120 ∨ (c = 107 ∧ i = 33)) (x : Int) : gM D (upd2 D' c i x) := fun c' i' p q r => by
  rw [← h c' i' p q r]
  simp only [upd2]
  rw [if_neg]
  rintro ⟨rfl, rfl⟩
  rcases hs with z | z | z
  · exact p z
  · exact q z
  · exact r z
theorem c_X10_give (hL : Lay G) (hv : wfV (D 108)) (hh : D 107 20 = 0) {kd : Int} (hk : iRg kd) (ha : a = q_give (D 108) kd) : C0 l E MX10_give 0 [vR E 107, vI kd] G D (fun r D' => ∃ D1, gv1 (D 108) kd D D1 120 107 33 ∧ r = a.2.1 ∧ mQ D1 D' a) := by
  have hab := all_b hv
  have hF := wfF hv
  have hs := wfS hv
  generalize hQ : (fun (r : Int) (G' : Sh) (D' : Dm) => G' = G ∧ ∃ D1, gv1 (D 108) kd D D1 120 107 33 ∧ r = a.2.1 ∧ mQ D1 D' a) = Q
  have no : ∀ x : Int, ¬ gvOk (D 108) kd → a = aNo x 0 → Q 0 G (upd2 D 107 1 x) := fun x q hx => by
    rw [← hQ]
    exact ⟨rfl, D, ⟨fun z => absurd z q, fun _ => rfl, fun _ _ _ _ => rfl⟩, mQ.no hx mS.rf⟩
  have main : Ct l E MX10_give 0 0 0 [vR E 107, vI kd] G D Q := by
    refine s_X10_give hL ⟨hk, fun z => no 1 (fun q => by omega) (by rw [ha, q_give, if_neg (by omega)]), fun z => ⟨fun z1 => ?_, fun z1 => no 1 (fun q => by omega) (by rw [ha, q_give, if_neg (by omega)])⟩⟩
    refine ⟨fun z2 => no 4 (fun q => by omega) (by rw [ha, q_give, if_pos ⟨z, z1⟩, if_neg (by omega)]), fun z2 => ⟨fun z3 => ⟨fun z4 => ?_, fun z4 => no 6 (fun q => by omega) (by rw [ha, q_give, if_pos ⟨z, z1⟩, if_pos ⟨z2, z3⟩, if_pos z4])⟩, fun z3 => no 4 (fun q => by omega) (by rw [ha, q_give, if_pos ⟨z, z1⟩, if_neg (by omega)])⟩⟩
    rw [q_give, if_pos ⟨z, z1⟩, if_pos ⟨z2, z3⟩, if_neg z4] at ha
    have hp := p256 (k := D 108 0) (by omega)
    obtain ⟨w0, w1⟩ := nW_b hv z2 z3 z4
    have hvb := val_b hv z3 kd
    obtain ⟨n, en⟩ : ∃ n : Nat, D 108 0 = n := ⟨(D 108 0).toNat, by omega⟩
    obtain ⟨m, em⟩ : ∃ m : Nat, D 108 2 = m := ⟨(D 108 2).toNat, by omega⟩
    have en' : (D 108 0).toNat = n := by omega
    have em' : (D 108 2).toNat = m := by omega
    have hm : 0 < m := by omega
    have hnw : nW (D 108) = m ^ n := by unfold nW; rw [en', em']
    have wy : ∀ (j : Nat) (s : Nat), wyS (D 108) j s = ((dgN m n j s : Nat) : Int) := fun j s => by unfold wyS; rw [en', em', Int.toNat_natCast]
    refine C0.use (c_X10_fills hL hv hh z2 z3) ?_
    rintro - D1 ⟨hT1, hm1⟩
    try dsimp only
    rw [en, em]
    -- the ways counted
    refine up_from (P := fun i => ∀ j : Nat, i = j → KX10_give l E Q 68 [(0, vR E 107), (1, vI kd), (2, vI n), (3, vI m), (4, vI ((m ^ j : Nat) : Int)), (5, vI i)] G D1) (lo := 0) (n := (n : Int)) (by omega) ?_ ?_ 0 rfl
    rotate_left
    · intro i i0 i1 ih j hj
      have := ih (j + 1) (by omega)
      rw [Nat.pow_succ, Int.natCast_mul] at this
      exact s_X10_give_68 hL ⟨by omega, fun y => absurd y (by omega), fun _ => this⟩
    intro j hj
    have ej : j = n := by omega
    subst ej
    rw [← hnw]
    refine s_X10_give_68 hL ⟨by omega, fun _ => ?_, fun y => absurd y (by omega)⟩
    -- the ways
    refine up_from (P := fun i => ∀ (k : Nat) (D' : Dm), i = k → gM D D' → FT (D 108) D' → (0 < k → ∀ s, 0 ≤ s → s < D 108 0 → D' 120 s = wyS (D 108) (gmS (valS (D 108) kd) k).2 s) → KX10_give l E Q 94 [(0, vR E 107), (1, vI kd), (2, vI j), (3, vI m), (4, vI (nW (D 108) : Nat)), (5, vJ (gmS (valS (D 108) kd) k).1), (7, vI i)] G D') (lo := 0) (n := (nW (D 108) : Nat)) (by omega) ?_ ?_ 0 D1 rfl (fun c i p _ _ => hm1 c i p) hT1 (fun y => absurd y (by decide))
    · intro k D' hkk hg hT hfo
      have ek : k = nW (D 108) := by omega
      subst ek
      have hfo' := hfo w0
      have e := hg.at
      have hgb := gm_b hvb (nW (D 108)) w0
      have fin : ∀ d D5, a = aFr 1 (gmS (valS (D 108) kd) (nW (D 108))).1 d → D5 = upd2 (upd2 (upd2 (upd2 D' 107 33 j) 107 2 (Int.tdiv (gmS (valS (D 108) kd) (nW (D 108))).1 (Nat.gcd (gmS (valS (D 108) kd) (nW (D 108))).1.natAbs d.natAbs : Nat))) 107 3 (Int.tdiv d (Nat.gcd (gmS (valS (D 108) kd) (nW (D 108))).1.natAbs d.natAbs : Nat))) 107 1 0 → Q 1 G D5 := by
        intro d D5 ha' hD5
        subst hD5
        rw [← hQ]
        refine ⟨rfl, mixG D (upd2 D' 107 33 j) 120 107 33, gv1_mix ⟨⟨z, z1⟩, ⟨z2, z3⟩, z4⟩ ((upd2_same _ _ _ _).trans en.symm) (fun s p q => by rw [upd2_cell _ _ _ _ (by decide)]; exact hfo' s p q), mQ.tl ha' ?_⟩
        intro c i hc
        by_cases y : c = 120 ∨ (c = 107 ∧ i = 33)
        · rw [mix_y y]
        · rw [mix_n y, upd2_place' _ _ (fun q => y (Or.inr q))]
          exact hg c i hc (fun q => y (Or.inl q)) (fun q => y (Or.inr q))
      refine s_X10_give_94 hL ⟨by omega, fun _ => ⟨by omega, fun y => ?_, fun y => ?_⟩, fun y => absurd y (by omega)⟩
      · rw [if_neg y] at ha
        refine C0.use (c_X10_tells hL (by omega) (by decide)) ?_
        rintro r D5 ⟨rfl, hD5⟩
        exact ⟨Or.inr rfl, fin 1 D5 ha hD5⟩
      · rw [if_pos y] at ha
        have e33 : upd2 D' 107 33 j 108 = D 108 := by rw [← e]; funext i; exact upd2_cell _ _ _ _ (by decide)
        refine C0.use (c_X10_allLots hL (by rw [e33]; exact hv)) ?_
        rintro r D4 ⟨rfl, rfl⟩
        try dsimp only
        rw [e33]
        refine C0.use (c_X10_tells hL (by omega) (by omega)) ?_
        rintro r D5 ⟨rfl, hD5⟩
        exact ⟨Or.inr rfl, fin _ D5 ha hD5⟩
    · intro i i0 i1 ih k D2 hkk hg hT hfo
      have hgb : -9223372036854775808 ≤ (gmS (valS (D 108) kd) k).1 ∧ (gmS (valS (D 108) kd) k).1 < 9223372036854775808 := by
        by_cases y : k = 0
        · subst y; rw [gmS]; decide
        · have := gm_b hvb k (by omega); omega
      have hvk := hvb k
      refine s_X10_give_94 hL ⟨by omega, fun y => absurd y (by omega), fun _ => ?_⟩
      refine up_from (P := fun f => ∀ D', gM D D' → FT (D 108) D' → D' 120 = D2 120 → (∀ g, 0 ≤ g → g < f → D' 122 g = 0) → KX10_give l E Q 108 [(0, vR E 107), (1, vI kd), (2, vI j), (3, vI m), (4, vI (nW (D 108) : Nat)), (5, vJ (gmS (valS (D 108) kd) k).1), (7, vI i), (8, vI i), (9, vI f)] G D') (lo := 0) (n := (m : Int)) (by omega) ?_ ?_ D2 hg hT rfl (fun g a b => by omega)
      rotate_left
      · intro f f0 f1 ih2 D' hg' hT' h120 hz
        refine s_X10_give_108 hL ⟨by omega, fun y => absurd y (by omega), fun _ => ⟨by omega, ih2 _ (hg'.up (Or.inl (by simp [scrM])) _) (fun f S lot p q r s t => by rw [upd2_cell _ _ _ _ (by decide)]; exact hT' f S lot p q r s t) (by rw [← h120]; funext x; exact upd2_cell _ _ _ _ (by decide)) (fun g a b => ?_)⟩⟩
        by_cases y : g = f
        · subst y; exact upd2_same _ _ _ _
        · rw [upd2_place _ _ _ y]; exact hz g a (by omega)
      intro D3 hg3 hT3 h120 hz
      refine s_X10_give_108 hL ⟨by omega, fun _ => ?_, fun y => absurd y (by omega)⟩
      -- the digits
      have digs : ∀ (t : Nat) (D' : Dm), t ≤ j → gM D D' → FT (D 108) D' → D' 120 = D2 120 → (∀ s : Nat, t ≤ s → s < j → D' 121 s = wyS (D 108) k s) → (∀ g : Int, 0 ≤ g → g < m → D' 122 g = (shP (D 108) (wyS (D 108) k) t g : Nat)) → ∀ lf : Int, lf = ((k / m ^ (j - t) : Nat) : Int) → KX10_give l E Q 133 [(0, vR E 107), (1, vI kd), (2, vI j), (3, vI m), (4, vI (nW (D 108) : Nat)), (5, vJ (gmS (valS (D 108) kd) k).1), (7, vI i), (8, vI lf), (9, vI ((t : Int) - 1))] G D' := by
        intro t
        induction t with
        | zero =>
          intro D' _ hg' hT' h120' h121 h122 lf hlf
          have e := hg'.at
          refine s_X10_give_133 hL ⟨by omega, fun _ => ?_, fun y => absurd y (by omega)⟩
          refine C0.use (c_X10_hungers hL (T := shN (D 108) (wyS (D 108) k)) (by rw [e]; exact hv) (by rw [e]; exact z2) (by rw [e]; exact z3) (by rw [e]; exact hT') (fun f => by rw [e]; exact shN_lt _ _ _) (fun f p q => by rw [h122 f p (by rw [e] at q; omega), shP_0]) ⟨z, z1⟩) ?_
          rintro r D4 ⟨hr, rfl⟩
          try dsimp only
          rw [e] at hr
          have er : r = valS (D 108) kd k := hr
          rw [er]
          -- a better way is kept
          have keep : ∀ b : Int, b = valS (D 108) kd k → gmS (valS (D 108) kd) (k + 1) = (b, k) → KX10_give l E Q 214 [(0, vR E 107), (1, vI kd), (2, vI j), (3, vI m), (4, vI (nW (D 108) : Nat)), (5, vJ b), (7, vI i), (8, vI lf), (9, vJ b), (11, vI 0)] G D4 := by
            intro b hb hgm
            refine up_from (P := fun s => ∀ D', gM D D' → FT (D 108) D' → D' 121 = D4 121 → (∀ u, 0 ≤ u → u < s → D' 120 u = wyS (D 108) k u) → KX10_give l E Q 214 [(0, vR E 107), (1, vI kd), (2, vI j), (3, vI m), (4, vI (nW (D 108) : Nat)), (5, vJ b), (7, vI i), (8, vI lf), (9, vJ b), (11, vI s)] G D') (lo := 0) (n := (j : Int)) (by omega) ?_ ?_ D4 hg' hT' rfl (fun u a b => by omega)
            · intro D5 hg5 hT5 _ h5
              refine s_X10_give_214 hL ⟨by omega, fun _ => ?_, fun y => absurd y (by omega)⟩
              have := ih (k + 1) D5 (by omega) hg5 hT5 (fun _ s p q => by rw [hgm]; exact h5 s p (by omega))
              rw [hgm] at this
              exact this
            · intro s s0 s1 ih5 D5 hg5 hT5 h121' h5
              refine s_X10_give_214 hL ⟨by omega, fun y => absurd y (by omega), fun _ => ⟨by omega, ih5 _ (hg5.up (Or.inr (Or.inl rfl)) _) (fun f S lot p q r s t => by rw [upd2_cell _ _ _ _ (by decide)]; exact hT5 f S lot p q r s t) (by rw [← h121']; funext x; exact upd2_cell _ _ _ _ (by decide)) (fun u a b => ?_)⟩⟩
              by_cases y : u = s
              · subst y
                rw [upd2_same, h121']
                have e8 : u = ((u.toNat : Nat) : Int) := by omega
                rw [e8]
                exact h121 u.toNat (by omega) (by omega)
              · rw [upd2_place _ _ _ y]; exact h5 u a (by omega)
          refine ⟨hgb, fun y => ?_, fun y => ⟨by omega, fun y2 => ?_, fun y2 => ?_⟩⟩
          · refine keep _ rfl ?_
            rw [gmS, if_pos]
            by_cases y3 : k = 0
            · exact Or.inl y3
            · have := gm_b hvb k (by omega); omega
          · exact keep _ rfl (by rw [gmS, if_pos (Or.inr y2)])
          · have k0 : k ≠ 0 := fun y3 => by rw [y3] at y; exact y rfl
            have hgm : gmS (valS (D 108) kd) (k + 1) = gmS (valS (D 108) kd) k := by rw [gmS, if_neg (by omega)]
            have := ih (k + 1) D4 (by omega) hg' hT' (fun _ s p q => by rw [hgm, h120']; exact hfo (by omega) s p q)
            rw [hgm] at this
            exact this
        | succ t iht =>
          intro D' ht hg' hT' h120' h121 h122 lf hlf
          have et : (((t + 1 : Nat) : Int)) - 1 = t := by omega
          rw [et]
          generalize hq : k / m ^ (j - (t + 1)) = q at hlf
          have hkm : k ≤ 6561 := by omega
          have hqk : q ≤ k := by rw [← hq]; exact Nat.div_le_self _ _
          have hmod : Int.tmod lf m = ((q % m : Nat) : Int) := by rw [hlf]; rfl
          have hdiv : Int.tdiv lf m = ((q / m : Nat) : Int) := by rw [hlf]; rfl
          have hd : q % m < m := Nat.mod_lt _ hm
          have hwt : wyS (D 108) k t = ((q % m : Nat) : Int) := by
            rw [wy]; unfold dgN
            rw [show j - 1 - t = j - (t + 1) by omega, hq]
          have hp2 : 2 ^ t ≤ 256 := by
            have : 2 ^ t ≤ 2 ^ 8 := Nat.pow_le_pow_right (by decide) (by omega)
            omega
          refine s_X10_give_133 hL ?_
          rw [hmod, hdiv]
          refine ⟨by omega, fun y => absurd y (by omega), fun _ => ⟨by omega, ?_⟩⟩
          rw [show (t : Int) + (-1) = (t : Int) - 1 by omega]
          refine iht _ (by omega) ((hg'.up (Or.inl (by simp [scrM])) _).up (Or.inl (by simp [scrM])) _) (fun f S lot p q r s u => by rw [upd2_cell _ _ _ _ (by decide), upd2_cell _ _ _ _ (by decide)]; exact hT' f S lot p q r s u) (by rw [← h120']; funext x; rw [upd2_cell _ _ _ _ (by decide), upd2_cell _ _ _ _ (by decide)]) (fun s p r => ?_) (fun g p r => ?_) _ ?_
          · rw [upd2_cell _ _ _ _ (by decide)]
            by_cases y : s = t
            · subst y; rw [upd2_same]; exact hwt.symm
            · rw [upd2_place _ _ _ (by omega)]; exact h121 s (by omega) r
          · have hl := shP_lt (D 108) (wyS (D 108) k) (t + 1) g
            rw [shP_s (by omega) g, hwt]
            by_cases y : ((q % m : Nat) : Int) = g
            · rw [if_pos y, ← y, upd2_same, h122 _ (by omega) (by omega), iSl1 (by omega), Int.toNat_natCast]
              rw [y]
              rw [iO_nat _ _ (by omega) (by omega)]
            · rw [if_neg y, upd2_place _ _ _ (fun x => y x.symm), upd2_cell _ _ _ _ (by decide)]
              exact h122 g p r
          · rw [show j - t = (j - (t + 1)) + 1 by omega, div_up, Nat.pow_one, hq]
      exact digs j D3 (Nat.le_refl _) hg3 hT3 h120 (fun s p q => by omega) (fun g p q => by rw [hz g p q, shP_n _ (by omega)]; rfl) i (by rw [Nat.sub_self, Nat.pow_zero, Nat.div_one]; exact hkk)
  rw [← hQ] at main
  exact main
end

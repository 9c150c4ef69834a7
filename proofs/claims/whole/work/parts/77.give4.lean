-- give of the class: the least
theorem nW_b {v : Vl} (hv : wfV v) (h8 : v 0 ≤ 8) (h3 : v 2 ≤ 3) (h2 : v 2 ≠ 0) : 0 < nW v ∧ nW v ≤ 6561 := by
  have hF := wfF hv
  have hs := wfS hv
  unfold nW
  refine ⟨Nat.pow_pos (by omega), ?_⟩
  have h1 : (v 2).toNat ^ (v 0).toNat ≤ 3 ^ (v 0).toNat := Nat.pow_le_pow_left (by omega) _
  have h4 : 3 ^ (v 0).toNat ≤ 3 ^ 8 := Nat.pow_le_pow_right (by decide) (by omega)
  omega
def gv1 (v : Vl) (kd : Int) (D D1 : Dm) (c0 cn : Nat) (i0 : Int) : Prop := (gvOk v kd → D1 cn i0 = v 0 ∧ ∀ s, 0 ≤ s → s < v 0 → D1 c0 s = wyS v (gmS (valS v kd) (nW v)).2 s) ∧ (¬ gvOk v kd → D1 = D) ∧ (∀ c i, c ≠ c0 → ¬ (c = cn ∧ i = i0) → D1 c i = D c i)
theorem upd2_place' (D : Dm) {c c' : Nat} {i j : Int} (x : Int) (h : ¬ (c' = c ∧ j = i)) : upd2 D c i x c' j = D c' j := by simp only [upd2]; rw [if_neg h]
/-- D, but where the answer is kept -/
def mixG (D D3 : Dm) (c0 cn : Nat) (i0 : Int) : Dm := fun c i => if c = c0 ∨ (c = cn ∧ i = i0) then D3 c i else D c i
theorem mix_y {D D3 : Dm} {c0 cn : Nat} {i0 : Int} {c : Nat} {i : Int} (h : c = c0 ∨ (c = cn ∧ i = i0)) : mixG D D3 c0 cn i0 c i = D3 c i := if_pos h
theorem mix_n {D D3 : Dm} {c0 cn : Nat} {i0 : Int} {c : Nat} {i : Int} (h : ¬ (c = c0 ∨ (c = cn ∧ i = i0))) : mixG D D3 c0 cn i0 c i = D c i := if_neg h
theorem gv1_mix {v : Vl} {kd : Int} {D D3 : Dm} {c0 cn : Nat} {i0 : Int} (hok : gvOk v kd) (h1 : D3 cn i0 = v 0) (h2 : ∀ s, 0 ≤ s → s < v 0 → D3 c0 s = wyS v (gmS (valS v kd) (nW v)).2 s) : gv1 v kd D (mixG D D3 c0 cn i0) c0 cn i0 :=
  ⟨fun _ => ⟨(mix_y (Or.inr ⟨rfl, rfl⟩)).trans h1, fun s p q => (mix_y (Or.inl rfl)).trans (h2 s p q)⟩, fun q => absurd hok q, fun c i p q => mix_n (fun y => y.elim p q)⟩
section
variable {l : Launch} {E : Ev} {G : Sh} {D : Dm} {v : Vl} {a : Ans}
theorem gS.rf : gS D D := fun _ _ _ _ _ => rfl
theorem gS.tr {D1 D2 : Dm} (h : gS D D1) (h2 : gS D1 D2) : gS D D2 := fun c i p q r => (h2 c i p q r).trans (h c i p q r)
theorem cS.g {D' : Dm} (h : cS D D') : gS D D' := fun c i p _ _ => h c i p
theorem gS.land {D' : Dm} (h : gS D D') (hC : CV 1 v D) : CV 1 v D' := hC.same (fun j hj => funext fun i => h _ i (by simp only [scrC]; omega) (by omega) (by omega))
theorem c_X3_findLeast (hL : Lay G) (hv : wfV v) (h8 : v 0 ≤ 8) (h3 : v 2 ≤ 3) (h2 : v 2 ≠ 0) (hR : Rd v G D) {kd : Int} (hk : 0 ≤ kd ∧ kd ≤ 1) : C0 l E MX3_findLeast 1 [vR E 60, vI kd] G D (fun r D' => r = (gmS (valS v kd) (nW v)).1 ∧ D' 60 7 = v 0 ∧ (∀ s, 0 ≤ s → s < v 0 → D' 65 s = wyS v (gmS (valS v kd) (nW v)).2 s) ∧ gS D D') := by
  have hF := wfF hv
  have hs := wfS hv
  have hp := p256 (k := v 0) (by omega)
  obtain ⟨w0, w1⟩ := nW_b hv h8 h3 h2
  have hvb := val_b hv h3 kd
  refine s_X3_findLeast hL ?_
  refine up_from (P := fun f => ∀ D', cS D D' → (∀ (f' : Int) (S : Nat), 0 ≤ f' → f' < f → S < 2 ^ (v 0).toNat → D' 61 ((f' * 256) + S) = hlS v f' S ∧ D' 62 ((f' * 256) + S) = atMostS v 0 f' S (v ((88 + (3 * f')) + 2) - 1)) → KX3_findLeast l E _ 2 [(0, vR E 60), (1, vI kd), (2, vI f)] G D') (lo := 0) (n := v 2) hF.1 ?_ ?_ D cS.rf (fun f' S a b => by omega)
  · intro D1 hs1 hT1
    have hC1 := hs1.land hR.1
    have e2 : D1 1 2 = v 2 := hC1.2.2.1
    refine s_X3_findLeast_2 hL ⟨by omega, fun _ => ?_, fun z => absurd z (by omega)⟩
    refine C0.use (c_X3_startWays hL hv h8 h2 hC1) ?_
    rintro - D2 ⟨hW2, ho2⟩
    try dsimp only
    have e02 : D2 1 0 = v 0 := by rw [ho2 1 (by decide) (by decide)]; exact hC1.1
    rw [e02]
    -- the ways
    refine up_from (P := fun i => ∀ (k : Nat) (le mo : Int) (D' : Dm), i = k → gS D D' → D' 60 7 = v 0 → HT v D' → (k < nW v → WY v D' (wyS v k)) → (mo = if k < nW v then 1 else 0) → (le = if k = 0 then 9223372036854775807 else (gmS (valS v kd) k).1) → (0 < k → ∀ s, 0 ≤ s → s < v 0 → D' 65 s = wyS v (gmS (valS v kd) k).2 s) → KX3_findLeast l E (fun r G' D' => G' = G ∧ r = (gmS (valS v kd) (nW v)).1 ∧ D' 60 7 = v 0 ∧ (∀ s, 0 ≤ s → s < v 0 → D' 65 s = wyS v (gmS (valS v kd) (nW v)).2 s) ∧ gS D D') 69 [(0, vR E 60), (1, vI kd), (2, vJ le), (4, vI mo), (5, vI i)] G D') (lo := 0) (n := (nW v : Nat)) (by omega) ?_ ?_ 0 _ 1 _ rfl ?_ (upd2_same _ _ _ _) ?_ (fun _ => ?_) (by rw [if_pos w0]) (by rw [if_pos rfl]) (fun z => absurd z (by decide))
    · intro k le mo D' hkk hg h60 hT hW hmo hle hfo
      have ek : k = nW v := by omega
      subst ek
      rw [if_neg (by omega)] at hmo
      rw [if_neg (by omega)] at hle
      have hfo' := hfo w0
      refine s_X3_findLeast_69 hL ⟨by omega, fun _ => ⟨rfl, hle, h60, hfo', hg⟩, fun _ => ⟨by omega, fun _ => ⟨rfl, hle, h60, hfo', hg⟩, fun z => absurd hmo z⟩⟩
    · intro i i0 i1 ih k le mo D' hkk hg h60 hT hW hmo hle hfo
      have hkl : k < nW v := by omega
      have hW' := hW hkl
      rw [if_pos hkl] at hmo
      subst hmo
      have hC' := hg.land hR.1
      have hleb : -9223372036854775808 ≤ le ∧ le < 9223372036854775808 := by
        rw [hle]
        split
        · decide
        · have := gm_b hvb k (by omega); omega
      have hval := hvb k
      -- after the value is known
      have rest : ∀ (x : Int), x = valS v kd k → (le ≤ x → C0 l E MX3_turnToNextWay 0 [vR E 60] G D' (fun r14 D14 => KX3_findLeast l E (fun r G' D' => G' = G ∧ r = (gmS (valS v kd) (nW v)).1 ∧ D' 60 7 = v 0 ∧ (∀ s, 0 ≤ s → s < v 0 → D' 65 s = wyS v (gmS (valS v kd) (nW v)).2 s) ∧ gS D D') 69 [(0, vR E 60), (1, vI kd), (2, vJ le), (4, vI r14), (5, vI (i + 1))] G D14)) ∧ (x < le → C0 l E MX3_turnToNextWay 0 [vR E 60] G (cpy2 D' 63 0 65 0 8) (fun r17 D17 => KX3_findLeast l E (fun r G' D' => G' = G ∧ r = (gmS (valS v kd) (nW v)).1 ∧ D' 60 7 = v 0 ∧ (∀ s, 0 ≤ s → s < v 0 → D' 65 s = wyS v (gmS (valS v kd) (nW v)).2 s) ∧ gS D D') 69 [(0, vR E 60), (1, vI kd), (2, vJ x), (4, vI r17), (5, vI (i + 1))] G D17)) := by
        rintro x rfl
        have keep : ∀ D3 D4 : Dm, (∀ c, c ≠ 63 → c ≠ 64 → D4 c = D3 c) → gS D3 D4 := fun D3 D4 h c i p q r => by rw [h c (fun z => p (by simp only [scrC]; omega)) (fun z => p (by simp only [scrC]; omega))]
        refine ⟨fun z => ?_, fun z => ?_⟩
        · have k0 : k ≠ 0 := fun q => by rw [if_pos q] at hle; omega
          rw [if_neg k0] at hle
          have eg : gmS (valS v kd) (k + 1) = gmS (valS v kd) k := by rw [gmS, if_neg (by omega)]
          refine C0.use (c_X3_turn hL hv h8 h3 h2 hC' hkl hW') ?_
          rintro r D4 ⟨hr, hW4, ho4⟩
          try dsimp only
          refine ih (k + 1) le r D4 (by omega) (hg.tr (keep _ _ ho4)) (by rw [ho4 60 (by decide) (by decide)]; exact h60) (fun f S p q r => by rw [ho4 61 (by decide) (by decide), ho4 62 (by decide) (by decide)]; exact hT f S p q r) (fun _ => hW4) ?_ (by rw [if_neg (by omega), eg]; exact hle) (fun _ s p q => by rw [ho4 65 (by decide) (by decide), eg]; exact hfo (by omega) s p q)
          rcases hr with ⟨h1, h2'⟩ | ⟨h1, h2'⟩
          · rw [if_pos h2']; exact h1
          · rw [if_neg (by omega)]; exact h1
        · have eg : gmS (valS v kd) (k + 1) = (valS v kd k, k) := by
            rw [gmS, if_pos]
            by_cases q : k = 0
            · exact Or.inl q
            · rw [if_neg q] at hle; exact Or.inr (by omega)
          have hoc : ∀ c, c ≠ 65 → cpy2 D' 63 0 65 0 8 c = D' c := fun c hc => funext fun j => cpy2_off _ hc j
          have hC3 : CV 1 v (cpy2 D' 63 0 65 0 8) := hC'.same (fun j hj => hoc _ (by omega))
          have hW3 : WY v (cpy2 D' 63 0 65 0 8) (wyS v k) := ⟨fun s p q => by rw [hoc 63 (by decide)]; exact hW'.1 s p q, fun f p q => by rw [hoc 64 (by decide)]; exact hW'.2 f p q⟩
          have hg3 : gS D (cpy2 D' 63 0 65 0 8) := fun c i p q r => by rw [hoc c q]; exact hg c i p q r
          refine C0.use (c_X3_turn hL hv h8 h3 h2 hC3 hkl hW3) ?_
          rintro r D4 ⟨hr, hW4, ho4⟩
          try dsimp only
          refine ih (k + 1) _ r D4 (by omega) (hg3.tr (keep _ _ ho4)) (by rw [ho4 60 (by decide) (by decide), hoc 60 (by decide)]; exact h60) (fun f S p q r => by rw [ho4 61 (by decide) (by decide), ho4 62 (by decide) (by decide), hoc 61 (by decide), hoc 62 (by decide)]; exact hT f S p q r) (fun _ => hW4) ?_ (by rw [if_neg (by omega), eg]) (fun _ s p q => ?_)
          · rcases hr with ⟨h1, h2'⟩ | ⟨h1, h2'⟩
            · rw [if_pos h2']; exact h1
            · rw [if_neg (by omega)]; exact h1
          · rw [ho4 65 (by decide) (by decide), eg]
            simp only [cpy2]
            rw [if_pos ⟨trivial, by omega, by omega⟩, show (0 : Int) + (s - 0) = s by omega]
            exact hW'.1 s p q
      refine s_X3_findLeast_69 hL ⟨by omega, fun z => absurd z (by omega), fun _ => ⟨by omega, fun z => absurd z (by decide), fun _ => ⟨by omega, fun z => ?_, fun z => ?_⟩⟩⟩
      · refine C0.use (c_X3_worstOfWay hL hv h8 h3 hC' hT hW') ?_
        rintro r D3 ⟨hr, rfl⟩
        try dsimp only
        have er : r = valS v kd k := by rw [hr, valS, if_neg z]
        obtain ⟨r1, r2⟩ := rest r er
        have hv1 := v1_b hv h3 (shN v (wyS v k)) (iSl 1 (v 1)).toNat
        have hr3 : 0 ≤ r ∧ r ≤ 3 := by rw [hr]; exact hv1
        exact ⟨⟨by omega, hleb⟩, r1, fun y => ⟨by omega, r2 y⟩⟩
      · refine C0.use (c_X3_weightOfWay hL hv h8 h3 hC' hT hW') ?_
        rintro r D3 ⟨hr, rfl⟩
        try dsimp only
        have er : r = valS v kd k := by rw [hr, valS, if_pos z]
        obtain ⟨r1, r2⟩ := rest r er
        exact ⟨⟨by omega, hleb⟩, r1, fun y => ⟨by omega, r2 y⟩⟩
    · intro c i p q r
      rw [upd2_place' _ _ r, ho2 c (fun z => p (by simp only [scrC]; omega)) (fun z => p (by simp only [scrC]; omega))]
      exact hs1 c i p
    · intro f S p q r
      rw [upd2_cell _ _ _ _ (by decide), upd2_cell _ _ _ _ (by decide), ho2 61 (by decide) (by decide), ho2 62 (by decide) (by decide)]
      exact hT1 f S p q r
    · exact ⟨fun s p q => by rw [upd2_cell _ _ _ _ (by decide)]; exact hW2.1 s p q, fun f p q => by rw [upd2_cell _ _ _ _ (by decide)]; exact hW2.2 f p q⟩
  · intro f f0 f1 ih D1 hs1 hT1
    have e2 : D1 1 2 = v 2 := (hs1.land hR.1).2.2.1
    refine s_X3_findLeast_2 hL ⟨by omega, fun z => absurd z (by omega), fun _ => ?_⟩
    refine up_from (P := fun i => ∀ (T : Nat) (D' : Dm), i = T → cS D D' → (∀ (f' : Int) (S : Nat), 0 ≤ f' → (f' < f ∨ (f' = f ∧ S < T)) → S < 2 ^ (v 0).toNat → D' 61 ((f' * 256) + S) = hlS v f' S ∧ D' 62 ((f' * 256) + S) = atMostS v 0 f' S (v ((88 + (3 * f')) + 2) - 1)) → KX3_findLeast l E _ 15 [(0, vR E 60), (1, vI kd), (2, vI f), (3, vI i)] G D') (lo := 0) (n := ((2 ^ (v 0).toNat : Nat) : Int)) (by have := Nat.two_pow_pos (v 0).toNat; omega) ?_ ?_ 0 D1 rfl hs1 (fun f' S p q r => hT1 f' S p (by omega) r)
    · intro T D' hT' hs' hTT
      have e0 : D' 1 0 = v 0 := (hs'.land hR.1).1
      refine s_X3_findLeast_15 hL ?_
      rw [e0, iSl1 (by omega)]
      refine ⟨by omega, fun _ => ih D' hs' (fun f' S p q r => hTT f' S p (by omega) r), fun z => absurd z (by omega)⟩
    · intro i i0 i1 ih2 T D' hT' hs' hTT
      have hR' := hs'.ready hL hR
      have e0 : D' 1 0 = v 0 := hR'.1.1
      refine s_X3_findLeast_15 hL ?_
      rw [e0, iSl1 (by omega)]
      refine ⟨by omega, fun z => absurd z (by omega), fun _ => ?_⟩
      rw [hT']
      refine C0.use (c_X3_fillHungry hL hv h8 h3 hR' ⟨f0, f1⟩ (S := T) (by omega)) ?_
      rintro - D3 ⟨q1, q2, q3, hs3⟩
      try dsimp only
      rw [← hT']
      refine ih2 (T + 1) D3 (by omega) (hs'.tr hs3) (fun f' S p q r => ?_)
      by_cases z : f' = f ∧ S = T
      · obtain ⟨rfl, rfl⟩ := z
        exact ⟨q1, q2⟩
      · have := q3 ((f' * 256) + S) (by omega)
        rw [this.1, this.2]
        exact hTT f' S p (by omega) r
theorem c_X9_give (hL : Lay G) (hv : wfV v) (hC : CV 1 v D) (hO : CVo 1 v D) (hI : RI v G D) {kd : Int} (hk : iRg kd) (ha : a = q_give v kd) : Ct l E MX9_give 0 (mcR G v) (msR G v) [vR E 0, vI kd] G D (fun r G' D' => ∃ D1, gv1 v kd D D1 65 60 7 ∧ cP v G D1 a r G' D') := by
  have hab := all_b hv
  have no : ∀ x : Int, ¬ gvOk v kd → a = aNo x 0 → (∃ D1, gv1 v kd D D1 65 60 7 ∧ cP v G D1 a 0 G (upd2 D 0 11 x)) := fun x q hx => ⟨D, ⟨fun z => absurd z q, fun _ => rfl, fun _ _ _ _ => rfl⟩, cP.no hL hI hx yS.rf (Or.inl rfl)⟩
  refine s_X9_give hL ?_
  rw [show D 1 2 = v 2 from hC.2.2.1, show D 1 0 = v 0 from hC.1]
  refine ⟨hk, fun z => ⟨fun z2 => ⟨fun z3 => ?_, fun z3 => no 6 (fun q => q.2.2 z3) (by rw [ha, q_give, if_pos z, if_pos z2, if_pos z3])⟩, fun z2 => no 4 (fun q => z2 q.2.1) (by rw [ha, q_give, if_pos z, if_neg z2])⟩, fun z => no 1 (fun q => z q.1) (by rw [ha, q_give, if_neg z])⟩
  rw [q_give, if_pos z, if_pos z2, if_neg z3] at ha
  have hgb := gm_b (val_b hv z2.2 kd) (nW v) (nW_b hv z2.1 z2.2 z3).1
  refine (c_X5_ready hL hv hC hO hI).mono ?_
  rintro - G1 D2 ⟨hG1, hL1, hR1, hI1, hx1⟩
  refine ⟨hL1, ?_⟩
  refine C0.use (c_X3_findLeast hL1 hv z2.1 z2.2 z3 hR1 z) ?_
  rintro r D3 ⟨hr, h60, h65, hg3⟩
  try dsimp only
  have hC3 : CV 1 v D3 := hg3.land hR1.1
  have hI3 : RI v G1 D3 := by
    have hr := rdc_ne hL1
    exact hI1.same (hg3 42 5 (by simp [scrC]) (by decide) (by decide)) (funext fun i => hg3 45 i (by simp only [scrC]; omega) (by decide) (by omega)) (funext fun i => hg3 _ i (by simp only [scrC]; omega) (by omega) (by omega))
  rw [hr]
  have fin : ∀ d D5, a = aFr 1 (gmS (valS v kd) (nW v)).1 d → D5 = upd2 (upd2 (upd2 D3 0 12 (Int.tdiv (gmS (valS v kd) (nW v)).1 (Nat.gcd (gmS (valS v kd) (nW v)).1.natAbs d.natAbs : Nat))) 0 13 (Int.tdiv d (Nat.gcd (gmS (valS v kd) (nW v)).1.natAbs d.natAbs : Nat))) 0 11 0 → ∃ D1, gv1 v kd D D1 65 60 7 ∧ cP v G D1 a 1 G1 D5 := by
    intro d D5 ha' hD5
    subst hD5
    refine ⟨mixG D D3 65 60 7, gv1_mix ⟨z, z2, z3⟩ h60 h65, cP.tl hL1 hI3 ha' ?_ (Or.inr hG1)⟩
    intro c i hc
    by_cases y : c = 65 ∨ (c = 60 ∧ i = 7)
    · rw [mix_y y]
    · rw [mix_n y]
      have h1 : D3 c i = D2 c i := hg3 c i (fun q => hc (Or.inr (by simp only [scrX]; exact Or.inr (Or.inr (Or.inr (Or.inr (Or.inr (Or.inr q)))))))) (fun q => y (Or.inl q)) (fun q => y (Or.inr q))
      rw [h1]
      exact hx1.y c i hc
  refine ⟨fun q => ?_, fun q => ?_⟩
  · rw [if_neg q] at ha
    refine C0.use (c_X9_tell hL1 (by omega) (by decide)) ?_
    rintro r D5 ⟨rfl, hD5⟩
    exact ⟨Or.inr rfl, fin 1 D5 ha hD5⟩
  · rw [if_pos q] at ha
    rw [show D3 1 1 = v 1 from hC3.2.1, jAll hv]
    refine C0.use (c_X9_tell hL1 (by omega) (by omega)) ?_
    rintro r D5 ⟨rfl, hD5⟩
    exact ⟨Or.inr rfl, fin _ D5 ha hD5⟩
end

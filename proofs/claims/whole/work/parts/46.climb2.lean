-- the class's climb
theorem held_open (v : Vl) (f : Int) : ndf (heldN v f) (openN v f) = 0 := by
  apply Nat.eq_of_testBit_eq
  intro i
  rw [ndf_bit, Nat.zero_testBit]
  unfold heldN openN
  rw [setN_bit, setN_bit]
  by_cases q : i < (v 0).toNat
  · by_cases z : v ((8 + (5 * (i : Int))) + 4) = f
    · simp [q, z]
    · simp [q, z]
  · simp [q]
section
variable {l : Launch} {E : Ev} {G : Sh} {D : Dm} {v : Vl}
theorem c_X1_climbFrom (hL : Lay G) (hv : wfV v) (hR : Rd v G D) {f : Int} (hf : 0 ≤ f ∧ f < v 2) : C0 l E MX1_climbFrom 0 [vR E 49, vI f] G D (fun r D' => r = ((clR v f).1 : Nat) ∧ D' 49 6 = ((clR v f).2 : Nat) ∧ cS D D') := by
  have hs := wfS hv
  have hF := wfF hv
  have h10 := two_le hs
  have hn10 : nS v ≤ 1024 := h10
  have hho : heldN v f < 2 ^ (v 0).toNat := setN_lt _ _
  have hoo : openN v f < 2 ^ (v 0).toNat := setN_lt _ _
  refine s_X1_climbFrom hL ?_
  refine C0.use (c_X8_openTo hL hv hR.1 f (by omega)) ?_
  rintro r D1 ⟨rfl, rfl⟩
  try dsimp only
  refine C0.use (c_X8_heldBy hL hv hR.1 f (by omega)) ?_
  rintro r D2 ⟨rfl, rfl⟩
  try dsimp only
  refine C0.use (c_X5_worthOf hL hv hR hf hho) ?_
  rintro r D3 ⟨rfl, hk3⟩
  try dsimp only
  have hwb := worth_b hv hf hho
  refine ⟨by omega, ?_⟩
  have hcl := cl_in (o := openN v f) (w := worthS v f) (n := nS v) (nS v) (heldN v f) hho
  refine up_from (P := fun i => ∀ (S : Nat) (D' : Dm), S < nS v → gtc (worthS v f) (nS v) S + i.toNat < nS v → ndf S (openN v f) = 0 → D' 49 7 = worthS v f S → D' 49 6 = i → (clS (openN v f) (worthS v f) (nS v) S).1 = (clR v f).1 → i + ((clS (openN v f) (worthS v f) (nS v) S).2 : Nat) = ((clR v f).2 : Nat) → cS D2 D' → KX1_climbFrom l E _ 39 [(0, vR E 49), (1, vI f), (2, vI (openN v f : Nat)), (3, vI S), (4, vI i)] G D') (lo := 0) (n := (nS v : Int)) (by omega) ?_ ?_ (heldN v f) _ hho (by rw [show (0 : Int).toNat = 0 from rfl, Nat.add_zero]; exact gtc_n hho) (held_open v f) (by simp [upd2]) (by simp [upd2]) rfl (by rw [Int.zero_add]; rfl) ((hk3.s.up (by simp [scrC]) _).up (by simp [scrC]) _)
  · intro S D' hS hg
    rw [Int.toNat_natCast] at hg
    omega
  · intro i i0 i1 ih S D' hS hg hSo h7 h6 c1 c2 hcs
    have hR' := hcs.ready hL hR
    have e0 : D' 1 0 = v 0 := hR'.1.1
    refine s_X1_climbFrom_39 hL ⟨by omega, fun z => absurd z (by rw [e0, iSl1 (by omega)]; have : (nS v : Int) = ((2 ^ (v 0).toNat : Nat) : Int) := rfl; omega), fun _ => ?_⟩
    refine C0.use (c_X1_bestExchange hL hv hR' hf hS hoo hSo h7) ?_
    rintro r D4 ⟨hr, h74, he⟩
    try dsimp only
    have hrb : -1 ≤ r ∧ r < nS v := by rw [hr]; exact bst_b _ _ _
    have e6 : D4 49 6 = i := by rw [← h6]; exact he 49 6 (by simp [scrK]) (by simp)
    have hc4 := hcs.tr he.s
    refine ⟨by omega, fun q => ?_, fun q => ?_⟩
    · obtain ⟨T, t1, t2, t3, t4⟩ := bex_is (o := openN v f) (w := worthS v f) (n := nS v) (S := S) (by rw [← hr]; exact q)
      have hrT : r = T := by rw [hr]; exact t1
      subst hrT
      rw [if_neg q, Int.toNat_natCast] at h74
      rw [cl_go hS t1] at c1 c2
      dsimp only at c1 c2
      have hlt := gtc_lt t2 t4
      rw [e6]
      refine ⟨by omega, ih T _ t2 (by omega) t3 ?_ (upd2_same _ _ _ _) c1 (by omega) (hc4.up (by simp [scrC]) _)⟩
      rw [upd2_place _ _ _ (by decide)]; exact h74
    · rw [cl_end hS (by rw [← hr]; exact q)] at c1 c2
      dsimp only at c1 c2
      refine ⟨rfl, by rw [c1], ?_, hc4⟩
      rw [e6]; omega
theorem c_X9_climb (hL : Lay G) (hv : wfV v) (hC : CV 1 v D) (hO : CVo 1 v D) (hI : RI v G D) {f : Int} (hf : iRg f) {a : Ans} (ha : a = q_climb v f) : Ct l E MX9_climb 0 (mcR G v) (msR G v) [vR E 0, vI f] G D (cP v G (if 0 ≤ f ∧ f < v 2 then upd2 D 0 16 ((clR v f).2 : Nat) else D) a) := by
  have hs := wfS hv
  have hab := all_b hv
  have h10 := two_le hs
  refine s_X9_climb hL ?_
  rw [show D 1 2 = v 2 from hC.2.2.1]
  refine ⟨hf, fun g => ?_, fun g => ?_⟩
  · rw [q_climb, if_pos g] at ha
    rw [if_pos g]
    refine (c_X5_ready hL hv hC hO hI).mono ?_
    rintro - G1 D2 ⟨hG1, hL1, hR1, hI1, hx1⟩
    refine ⟨hL1, ?_⟩
    refine C0.use (c_X1_climbFrom hL1 hv hR1 g) ?_
    rintro r D3 ⟨rfl, h6, hs3⟩
    try dsimp only
    rw [h6]
    have hR3 := hs3.ready hL1 hR1
    have hr1 := rdc_ne hL1
    have hcn : (clR v f).1 < 2 ^ (v 0).toNat := (cl_in _ _ (setN_lt _ _)).1
    have hR4 : Rd v G1 (upd2 D3 0 16 ((clR v f).2 : Nat)) := by
      refine ⟨hR3.1.same (fun j _ => funext fun i => upd2_cell _ _ _ _ (by omega)), fun lot l0 l1 => ?_, hR3.2.2.same (funext fun i => upd2_cell _ _ _ _ (by decide)) (funext fun i => upd2_cell _ _ _ _ (by omega))⟩
      rw [upd2_cell _ _ _ _ (by decide)]; exact hR3.2.1 lot l0 l1
    refine C0.use (c_X5_worthOf hL1 hv hR4 g hcn) ?_
    rintro r D4 ⟨rfl, hk⟩
    try dsimp only
    have hR5 := hk.s.ready hL1 hR4
    rw [show D4 1 1 = v 1 from hR5.1.2.1, jAll hv]
    have hb := worth_b hv g hcn
    refine C0.use (c_X9_tell hL1 (by omega) (by omega)) ?_
    rintro r D5 ⟨rfl, rfl⟩
    try dsimp only
    have hy : yS (upd2 D 0 16 ((clR v f).2 : Nat)) (upd2 D3 0 16 ((clR v f).2 : Nat)) := by
      intro c i hc
      simp only [upd2]
      split
      · rfl
      · exact (hx1.y.tr hs3.y) c i hc
    exact cP.tl hL1 (((hI1.cs hL1 hs3).up hL1 (by omega) _ _).cs hL1 hk.s) ha (hy.tr hk.s.y) (Or.inr hG1)
  · rw [if_neg g]
    exact cP.no hL hI (by rw [ha, q_climb, if_neg g]) yS.rf (Or.inl rfl)
def q_climbed (k : Int) : Ans := if k = -1 then aNo 6 (-1) else aNo 0 k
theorem c_X9_climbed (hL : Lay G) (hI : RI v G D) {a : Ans} (ha : a = q_climbed (D 0 16)) : Ct l E MX9_climbed 0 0 0 [vR E 0] G D (cP v G D a) :=
  s_X9_climbed hL ⟨fun h => cP.no hL hI (by rw [ha, q_climbed, if_neg h]) yS.rf (Or.inl rfl), fun h => cP.no hL hI (by rw [ha, q_climbed, if_pos h]) yS.rf (Or.inl rfl)⟩
theorem c_X10_climbed (hL : Lay G) {a : Ans} (ha : a = q_climbed (D 107 24)) : C0 l E MX10_climbed 0 [vR E 107] G D (fun r D' => r = a.2.1 ∧ mQ D D' a) :=
  s_X10_climbed hL ⟨fun h => ⟨rfl, mQ.no (by rw [ha, q_climbed, if_neg h]) mS.rf⟩, fun h => ⟨rfl, mQ.no (by rw [ha, q_climbed, if_pos h]) mS.rf⟩⟩
end

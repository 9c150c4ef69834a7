-- luck: the rows dealt anew
abbrev nxD (s : Int) : Int := Int.tmod ((s * 4093) + 15731) 65536
abbrev jD (s k : Int) : Int := Int.tmod (Int.tdiv (nxD s) 8) (k + 1)
def shS : Nat → Int → Row → Int × Row
  | 0, s, X => (s, X)
  | k + 1, s, X => shS k (nxD s) (exF X ((k : Int) + 1) (jD s ((k : Int) + 1)))
theorem nx_b {s : Int} (h : 0 ≤ s ∧ s ≤ 65535) : 0 ≤ nxD s ∧ nxD s ≤ 65535 := by
  unfold nxD
  rw [Int.tmod_eq_emod_of_nonneg (by omega)]
  omega
theorem jd_b {s k : Int} (h : 0 ≤ s ∧ s ≤ 65535) (hk : 0 ≤ k) : (0 ≤ Int.tdiv (nxD s) 8 ∧ Int.tdiv (nxD s) 8 ≤ 65535) ∧ 0 ≤ jD s k ∧ jD s k ≤ k := by
  have h1 := nx_b h
  have h2 : 0 ≤ Int.tdiv (nxD s) 8 ∧ Int.tdiv (nxD s) 8 ≤ 65535 := tdivB h1 (by decide)
  refine ⟨h2, ?_⟩
  unfold jD
  rw [Int.tmod_eq_emod_of_nonneg h2.1]
  have h3 := Int.emod_nonneg (Int.tdiv (nxD s) 8) (show k + 1 ≠ 0 by omega)
  have h4 := Int.emod_lt_of_pos (Int.tdiv (nxD s) 8) (show 0 < k + 1 by omega)
  omega
theorem sh_b {n N : Int} : ∀ (k : Nat) (s : Int) (X : Row), (k : Int) < n → 0 ≤ s ∧ s ≤ 65535 → rowB n N X → (0 ≤ (shS k s X).1 ∧ (shS k s X).1 ≤ 65535) ∧ rowB n N (shS k s X).2
  | 0, s, X, _, hs, h => ⟨hs, h⟩
  | k + 1, s, X, hk, hs, h => by
    have hj := (jd_b (k := (k : Int) + 1) hs (by omega)).2
    exact sh_b k _ _ (by omega) (nx_b hs) (rowB_ex h (by omega) (by omega))
def shV2 (v : Vl) (s : Int) : Int × Row := shS (rowN v - 1).toNat s (rowX v)
theorem shv_b {v : Vl} (hv : wfV v) {s : Int} (hs : 0 ≤ s ∧ s ≤ 65535) : (0 ≤ (shV2 v s).1 ∧ (shV2 v s).1 ≤ 65535) ∧ rowB (rowN v) (v 0) (shV2 v s).2 := by
  obtain ⟨hr, hB, hinc⟩ := row_b hv
  by_cases h : rowN v ≤ 0
  · have e : (rowN v - 1).toNat = 0 := by omega
    unfold shV2
    rw [e]
    exact ⟨hs, hB⟩
  · exact sh_b _ _ _ (by omega) hs hB
def lkF (v : Vl) (f : Int) (y : Int → Int) (n own : Int) (p : Int × Int) : Int × Int := ((shV2 v p.1).1, if hyS v f (dlN v (shV2 v p.1).2 f) y n < own then p.2 + 1 else p.2)
def lkS (v : Vl) (f : Int) (y : Int → Int) (n own sd : Int) : Nat → Int × Int := fz (fun _ p => lkF v f y n own p) (sd, 0)
theorem lkS_s (v : Vl) (f : Int) (y : Int → Int) (n own sd : Int) {i : Int} (h : 0 ≤ i) : lkS v f y n own sd (i + 1).toNat = lkF v f y n own (lkS v f y n own sd i.toNat) := fz_s _ _ h
theorem lk_b {v : Vl} (hv : wfV v) (f : Int) (y : Int → Int) (n own : Int) {sd : Int} (hs : 0 ≤ sd ∧ sd ≤ 65535) : ∀ k : Nat, 0 ≤ (lkS v f y n own sd k).1 ∧ (lkS v f y n own sd k).1 ≤ 65535
  | 0 => hs
  | k + 1 => (shv_b hv (lk_b hv f y n own hs k)).1
abbrev lkG (v : Vl) (f sd dl : Int) : Prop := (0 ≤ f ∧ f < v 2) ∧ (0 ≤ sd ∧ sd ≤ 9999) ∧ (1 ≤ dl ∧ dl ≤ 100)
def lkI (v : Vl) (f sd dl : Int) : Int := if lkG v f sd dl then 1 else 0
noncomputable def q_luck (v : Vl) (m : Int → Int) (y : Int → Int) (f t n sd dl : Int) : Ans := if whyY (iSl 1 (v 1)) (lkI v f sd dl) m t n y = 0 then aNo 0 (lkS v f y n (hyS v f (heldN v f) y n) sd dl.toNat).2 else aNo (whyY (iSl 1 (v 1)) (lkI v f sd dl) m t n y) (-1)
theorem lkF_cg {v : Vl} {f : Int} {y y' : Int → Int} {n own : Int} (hy : ∀ i, 0 ≤ i → i < n → y' i = y i) (p : Int × Int) : lkF v f y' n own p = lkF v f y n own p := by
  unfold lkF
  rw [hyS_cg hy]
theorem lkS_cg {v : Vl} {f : Int} {y y' : Int → Int} {n own sd : Int} (hy : ∀ i, 0 ≤ i → i < n → y' i = y i) (k : Nat) : lkS v f y' n own sd k = lkS v f y n own sd k := fz_congr (fun _ p _ _ => lkF_cg hy p)
section
variable {l : Launch} {E : Ev} {G : Sh} {D : Dm} {v : Vl} {a : Ans}
theorem c_X2_shuffleRow (hL : Lay G) (hv : wfV v) {s : Int} (hs : 0 ≤ s ∧ s ≤ 65535) (h4 : D 66 4 = s) (hn : D 66 3 = rowN v) (hX : rowIs 67 D (rowN v) (rowX v)) : C0 l E MX2_shuffleRow 2 [vR E 66] G D (fun _ D' => D' 66 3 = rowN v ∧ D' 66 4 = (shV2 v s).1 ∧ rowIs 67 D' (rowN v) (shV2 v s).2 ∧ cS D D') := by
  have hS := wfS hv
  obtain ⟨hr, hB, hinc⟩ := row_b hv
  refine s_X2_shuffleRow hL ?_
  rw [hn]
  have inner : ∀ (k : Nat) (s1 : Int) (Y : Row) (D2 : Dm), (k : Int) < max 1 (rowN v) → 0 ≤ s1 ∧ s1 ≤ 65535 → D2 66 4 = s1 → D2 66 3 = rowN v → cS D D2 → rowIs 67 D2 (rowN v) Y → shS k s1 Y = shV2 v s → ∀ kk : Int, (kk = k ∨ (k = 0 ∧ kk = -1)) → KX2_shuffleRow l E (fun r G' D' => G' = G ∧ D' 66 3 = rowN v ∧ D' 66 4 = (shV2 v s).1 ∧ rowIs 67 D' (rowN v) (shV2 v s).2 ∧ cS D D') 7 [(0, vR E 66), (1, vI kk)] G D2 := by
    intro k
    induction k with
    | zero =>
      intro s1 Y D2 hk hs1 hd4 hd3 hcs hY hsh kk hkk
      refine s_X2_shuffleRow_7 hL ⟨by omega, fun _ => ⟨rfl, hd3, ?_, ?_, hcs⟩, fun z => absurd z (by omega)⟩
      · rw [← hsh]; exact hd4
      · rw [← hsh]; exact hY
    | succ k ihk =>
      intro s1 Y D2 hk hs1 hd4 hd3 hcs hY hsh kk hkk
      have ek : kk = (k : Int) + 1 := by omega
      subst ek
      have hnx := nx_b hs1
      obtain ⟨hq, hj⟩ := jd_b (k := (k : Int) + 1) hs1 (by omega)
      have g1 := hnx
      have g2 := hq
      have g3 := hj
      unfold nxD at g1 g2
      unfold jD nxD at g3
      rw [shS] at hsh
      refine s_X2_shuffleRow_7 hL ?_
      rw [hd4, show (k : Int) + 1 + (-1) = k by omega]
      refine ⟨by omega, fun z => absurd z (by omega), fun _ => ⟨⟨by omega, by omega, by omega, by omega, by omega, by omega⟩, ?_⟩⟩
      have hY1 : rowIs 67 (upd2 D2 66 4 (nxD s1)) (rowN v) Y := fun p a b => by rw [upd2_cell _ _ _ _ (by decide)]; exact hY p a b
      have hY2 := rowIs_ex hY1 (i := (k : Int) + 1) (j := jD s1 ((k : Int) + 1)) (by omega) (by omega)
      rw [upd2_cell (c := 66) (c' := 67) _ _ _ _ (by decide), upd2_cell (c := 66) (c' := 67) _ _ _ _ (by decide)] at hY2
      refine ihk (nxD s1) _ _ (by omega) hnx ?_ ?_ (((hcs.up (by simp [scrC]) _).up (by simp [scrC]) _).up (by simp [scrC]) _) hY2 hsh _ (Or.inl rfl)
      · rw [upd2_cell _ _ _ _ (by decide), upd2_cell _ _ _ _ (by decide), upd2_same]
      · rw [upd2_cell _ _ _ _ (by decide), upd2_cell _ _ _ _ (by decide), upd2_place _ _ _ (by decide)]; exact hd3
  exact inner (rowN v - 1).toNat s (rowX v) D (by omega) hs h4 hn cS.rf hX rfl _ (by omega)
theorem c_X2_luckier (hL : Lay G) (hv : wfV v) (hR : Rd v G D) {f t n sd dl : Int} (hf : 0 ≤ f ∧ f < v 2) (ht : 0 ≤ t ∧ t < 4) (hn : 0 ≤ n ∧ n ≤ 60) (hd : 1 ≤ dl ∧ dl ≤ 100) (hsd : 0 ≤ sd ∧ sd ≤ 65535) (h4 : D 66 4 = sd) (hok : allOk (D (17 + t.toNat)) n (iSl 1 (v 1))) : C0 l E MX2_luckierDeals 0 [vR E 66, vI f, vR E (17 + t.toNat), vI n, vI dl] G D (fun r D' => r = (lkS v f (D (17 + t.toNat)) n (hyS v f (heldN v f) (D (17 + t.toNat)) n) sd dl.toNat).2 ∧ cS D D') := by
  have hF := wfF hv
  generalize hy : D (17 + t.toNat) = y at hok ⊢
  have keep : ∀ D', cS D D' → D' (17 + t.toNat) = y := fun D' h => by rw [← hy]; exact h.c _ (fun i => by simp only [scrC]; omega)
  refine s_X2_luckierDeals hL (lay_rowT hL ht) ?_
  refine C0.use (c_X8_heldBy hL hv hR.1 f (by omega)) ?_
  rintro r D1 ⟨rfl, rfl⟩
  try dsimp only
  have ho := hyS_b v f (heldN v f) y hn
  generalize hown : hyS v f (heldN v f) y n = own at ho ⊢
  have first : ∀ D2, cS D1 D2 → D2 66 4 = sd → KX2_luckierDeals l E (fun r G' D' => G' = G ∧ r = (lkS v f y n own sd dl.toNat).2 ∧ cS D1 D') 26 [(0, vR E 66), (1, vI f), (2, vR E (17 + t.toNat)), (3, vI n), (4, vI dl), (5, vI own), (6, vI 0), (7, vI 0)] G D2 := by
    intro D2 hs2 hd4
    refine up_from (P := fun i => ∀ D', cS D1 D' → D' 66 4 = (lkS v f y n own sd i.toNat).1 → KX2_luckierDeals l E (fun r G' D' => G' = G ∧ r = (lkS v f y n own sd dl.toNat).2 ∧ cS D1 D') 26 [(0, vR E 66), (1, vI f), (2, vR E (17 + t.toNat)), (3, vI n), (4, vI dl), (5, vI own), (6, vI (lkS v f y n own sd i.toNat).2), (7, vI i)] G D') (lo := 0) (n := dl) (by omega) ?_ ?_ D2 hs2 hd4
    · intro D' hs' h4'
      exact s_X2_luckierDeals_26 hL (lay_rowT hL ht) ⟨by omega, fun _ => ⟨rfl, rfl, hs'⟩, fun z => absurd z (by omega)⟩
    · intro i i0 i1 ih D' hs' h4'
      have hlb := lk_b hv f y n own hsd i.toNat
      rw [lkS_s _ _ _ _ _ _ i0] at ih
      generalize lkS v f y n own sd i.toNat = P at h4' hlb ih ⊢
      have hsb := shv_b hv hlb
      refine s_X2_luckierDeals_26 hL (lay_rowT hL ht) ⟨by omega, fun z => absurd z (by omega), fun _ => ?_⟩
      refine C0.use (c_X2_fillRow hL hv (hs'.land hR.1)) ?_
      rintro - D3 ⟨hn3, hX3, h43, hs3⟩
      try dsimp only
      refine C0.use (c_X2_shuffleRow hL hv hlb (h43.trans h4') hn3 hX3) ?_
      rintro - D4 ⟨hn4, h44, hX4, hs4⟩
      try dsimp only
      have hs14 := (hs'.tr hs3).tr hs4
      have hR4 := hs14.ready hL hR
      refine C0.use (c_X2_dealtTo hL hv hR4.1 hn4 hX4 hsb.2 hf) ?_
      rintro r D5 ⟨rfl, rfl⟩
      try dsimp only
      refine C0.use (c_X5_hungryYears hL hv hR4 hf (S := dlN v (shV2 v P.1).2 f) (dlN_lt hv hsb.2 hf) ht hn (by rw [keep _ hs14]; exact hok)) ?_
      rintro r D6 ⟨rfl, ho6⟩
      try dsimp only
      rw [keep _ hs14]
      have hyb := hyS_b v f (dlN v (shV2 v P.1).2 f) y hn
      have h46 : D6 66 4 = (shV2 v P.1).1 := by rw [← h44, ho6 66 (by decide)]
      have hs6 := (off_kS ho6).s
      unfold lkF at ih
      refine ⟨by omega, fun z => ?_, fun z => ?_⟩
      · rw [if_neg (by omega)] at ih
        exact ih D6 (hs14.tr hs6) h46
      · rw [if_pos z] at ih
        exact ih D6 (hs14.tr hs6) h46
  refine C0.use (c_X5_hungryYears hL hv hR hf (S := heldN v f) (setN_lt _ _) ht hn (by rw [hy]; exact hok)) ?_
  rintro r D2 ⟨rfl, ho2⟩
  try dsimp only
  rw [hy, hown]
  exact first D2 (off_kS ho2).s (by rw [ho2 66 (by decide)]; exact h4)
theorem c_X9_luck (hL : Lay G) (hv : wfV v) (hC : CV 1 v D) (hO : CVo 1 v D) (hI : RI v G D) {f t n sd dl : Int} (hf : iRg f) (ht : iRg t) (hn : iRg n) (hsd : iRg sd) (hdl : iRg dl) (ha : a = q_luck v (D 22) (D (17 + t.toNat)) f t n sd dl) : Ct l E MX9_luck 0 (mcR G v) (msR G v) [vR E 0, vI f, vI t, vI n, vI sd, vI dl] G D (cP v G D a) := by
  have no : ¬ ((0 ≤ sd ∧ sd ≤ 9999) ∧ (1 ≤ dl ∧ dl ≤ 100)) → cP v G D a (-1) G (upd2 D 0 11 1) := by
    intro q
    have g0 : lkI v f sd dl = 0 := by rw [lkI, if_neg (fun z => q z.2)]
    have w1 : whyY (iSl 1 (v 1)) (lkI v f sd dl) (D 22) t n (D (17 + t.toNat)) = 1 := by rw [whyY, if_neg (fun z => z.1 g0)]
    exact cP.no hL hI (by rw [ha, q_luck, if_neg (by omega), w1]) yS.rf (Or.inl rfl)
  refine s_X9_luck hL ⟨hsd, fun z => no (fun q => z q.1), fun z => ⟨hdl, fun z2 => ?_, fun z2 => no (fun q => z2 q.2)⟩⟩
  have eI : lkI v f sd dl = isF v f := by
    unfold lkI isF
    by_cases q : 0 ≤ f ∧ f < v 2
    · rw [if_pos ⟨q, z, z2⟩, if_pos q]
    · rw [if_neg (fun y => q y.1), if_neg q]
  unfold q_luck at ha
  rw [eI] at ha
  refine C0.use (c_X9_whyNoYears hL hv hC hf ht hn) ?_
  rintro r D1 ⟨rfl, rfl⟩
  try dsimp only
  have hb := whyY_b (iSl 1 (v 1)) (isF v f) (D1 22) t n (D1 (17 + t.toNat))
  refine ⟨by omega, fun q => ?_, fun q => cP.no hL hI (by rw [ha, if_neg q]) yS.rf (Or.inl rfl)⟩
  rw [if_pos q] at ha
  obtain ⟨⟨z1, z2', z3⟩, z4, z5, z6⟩ := whyY_0 q
  have hf2 : 0 ≤ f ∧ f < v 2 := Classical.byContradiction (fun z => z1 (by rw [isF, if_neg z]))
  refine (c_X5_ready hL hv hC hO hI).mono ?_
  rintro - G1 D2 ⟨hG1, hL1, hR1, hI1, hx1⟩
  refine ⟨hL1, z2', ?_⟩
  have hs2 : cS D2 (upd2 D2 66 4 sd) := cS.rf.up (by simp [scrC]) _
  have ey : upd2 D2 66 4 sd (17 + t.toNat) = D1 (17 + t.toNat) := by
    rw [← hx1.c (17 + t.toNat) (by omega) (fun i => by simp only [scrX, scrC]; omega)]
    funext i
    exact upd2_cell _ _ _ _ (by omega)
  refine C0.use (c_X2_luckier hL1 hv (hs2.ready hL1 hR1) (sd := sd) (dl := dl) hf2 z2' (n := n) (by omega) z2 (by omega) (upd2_same _ _ _ _) (by rw [ey]; exact z6)) ?_
  rintro r D3 ⟨rfl, hs3⟩
  try dsimp only
  rw [ey]
  have hs23 := hs2.tr hs3
  exact cP.no hL1 (hI1.cs hL1 hs23) ha (hx1.y.tr hs23.y) (Or.inr hG1)
theorem c_X10_luck (hL : Lay G) (hv : wfV (D 108)) (hh : D 107 20 = 0) {f t n sd dl : Int} (hf : iRg f) (ht : iRg t) (hn : iRg n) (hsd : iRg sd) (hdl : iRg dl) (ha : a = q_luck (D 108) (D 110) (fun i => D 111 ((60 * t) + i)) f t n sd dl) : C0 l E MX10_luck 0 [vR E 107, vI f, vI t, vI n, vI sd, vI dl] G D (fun r D' => r = a.2.1 ∧ mQ D D' a) := by
  have hF := wfF hv
  have hS := wfS hv
  obtain ⟨hr, hB, hinc⟩ := row_b hv
  generalize hQ : (fun (r : Int) (G' : Sh) (D' : Dm) => G' = G ∧ r = a.2.1 ∧ mQ D D' a) = Q
  have no : ¬ ((0 ≤ f ∧ f < D 108 2) ∧ (0 ≤ sd ∧ sd ≤ 9999) ∧ (1 ≤ dl ∧ dl ≤ 100)) → C0 l E MX10_wrongYears 0 [vR E 107, vI 0, vI t, vI n] G D (fun r5 D5 =>
        (-2147483648 ≤ r5 ∧ r5 < 2147483648) ∧ ((r5 ≤ 0 →
            C0 l E MX10_held 0 [vR E 107, vI f] G D5 (fun r9 D9 =>
              C0 l E MX10_starvesIn 0 [vR E 107, vI f, vI r9, vI t, vI n] G D9 (fun r11 D11 =>
                KX10_luck l E Q 83 [(0, vR E 107), (1, vI f), (2, vI t), (3, vI n), (4, vI sd), (5, vI dl), (6, vI r5), (7, vI r11), (8, vI sd), (9, vI 0), (10, vI 0)] G D11))) ∧ (0 < r5 →
            Q (-1) G (upd2 D5 107 1 r5)))) := by
    intro q
    have g0 : lkI (D 108) f sd dl = 0 := by rw [lkI, if_neg q]
    have w0 : ∀ g : Int, g = 0 → whyY (iSl 1 (D 108 1)) g (D 110) t n (fun i => D 111 ((60 * t) + i)) = 1 := fun g hg => by rw [whyY, if_neg (fun z => z.1 hg)]
    refine C0.use (c_X10_wrongYears hL hv (by decide) ht hn) ?_
    rintro r D1 ⟨rfl, rfl⟩
    try dsimp only
    rw [w0 0 rfl]
    refine ⟨by decide, fun z => absurd z (by decide), fun _ => ?_⟩
    rw [← hQ]
    exact ⟨rfl, mQ.no (by rw [ha, q_luck, if_neg (by rw [w0 _ g0]; decide), w0 _ g0]) mS.rf⟩
  have ys : ((0 ≤ f ∧ f < D 108 2) ∧ (0 ≤ sd ∧ sd ≤ 9999) ∧ (1 ≤ dl ∧ dl ≤ 100)) → C0 l E MX10_wrongYears 0 [vR E 107, vI 1, vI t, vI n] G D (fun r5 D5 =>
        (-2147483648 ≤ r5 ∧ r5 < 2147483648) ∧ ((r5 ≤ 0 →
            C0 l E MX10_held 0 [vR E 107, vI f] G D5 (fun r9 D9 =>
              C0 l E MX10_starvesIn 0 [vR E 107, vI f, vI r9, vI t, vI n] G D9 (fun r11 D11 =>
                KX10_luck l E Q 83 [(0, vR E 107), (1, vI f), (2, vI t), (3, vI n), (4, vI sd), (5, vI dl), (6, vI r5), (7, vI r11), (8, vI sd), (9, vI 0), (10, vI 0)] G D11))) ∧ (0 < r5 →
            Q (-1) G (upd2 D5 107 1 r5)))) := by
    intro q
    have g1 : lkI (D 108) f sd dl = 1 := by rw [lkI, if_pos q]
    unfold q_luck at ha
    rw [g1] at ha
    obtain ⟨qf, qs, qd⟩ := q
    refine C0.use (c_X10_wrongYears hL hv (by decide) ht hn) ?_
    rintro r D1 ⟨rfl, rfl⟩
    try dsimp only
    have hb := whyY_b (iSl 1 (D1 108 1)) 1 (D1 110) t n (fun i => D1 111 ((60 * t) + i))
    refine ⟨by omega, fun q => ?_, fun q => ?_⟩
    rotate_left
    · rw [← hQ]
      exact ⟨rfl, mQ.no (by rw [ha, if_neg (by omega)]) mS.rf⟩
    have q0 : whyY (iSl 1 (D1 108 1)) 1 (D1 110) t n (fun i => D1 111 ((60 * t) + i)) = 0 := by omega
    rw [if_pos q0] at ha
    rw [q0]
    obtain ⟨⟨z1, z2, z3⟩, z4, z5, z6⟩ := whyY_0 q0
    refine C0.use (c_X10_held hL hv f hf) ?_
    rintro r D2 ⟨rfl, rfl⟩
    try dsimp only
    refine C0.use (c_X10_starvesIn hL hv hh qf (S := heldN (D2 108) f) (setN_lt _ _) z2 (n := n) (by omega)) ?_
    rintro r D3 ⟨rfl, hr3⟩
    try dsimp only
    have hyo := hyS_b (D2 108) f (heldN (D2 108) f) (fun i => D2 111 ((60 * t) + i)) (n := n) (by omega)
    generalize hyS (D2 108) f (heldN (D2 108) f) (fun i => D2 111 ((60 * t) + i)) n = own at ha hyo ⊢
    generalize hyy : (fun i => D2 111 ((60 * t) + i)) = y at *
    have keep : ∀ D', mS D2 D' → (fun i => D' 111 ((60 * t) + i)) = y := fun D' h => by rw [← hyy]; funext i; exact h 111 _ (by simp [scrM])
    refine up_from (P := fun i => ∀ D', mS D2 D' → KX10_luck l E Q 83 [(0, vR E 107), (1, vI f), (2, vI t), (3, vI n), (4, vI sd), (5, vI dl), (6, vI 0), (7, vI own), (8, vI (lkS (D2 108) f y n own sd i.toNat).1), (9, vI (lkS (D2 108) f y n own sd i.toNat).2), (10, vI i)] G D') (lo := 0) (n := dl) (by omega) ?_ ?_ D3 hr3.m
    · intro D' hm
      refine s_X10_luck_83 hL ⟨by omega, fun _ => ?_, fun z => absurd z (by omega)⟩
      rw [← hQ]
      exact ⟨rfl, mQ.no ha hm⟩
    · intro i i0 i1 ih D' hm
      have e := hm.at
      have hlb := lk_b hv f y n own (sd := sd) (by omega) i.toNat
      rw [lkS_s _ _ _ _ _ _ i0] at ih
      generalize lkS (D2 108) f y n own sd i.toNat = P at hlb ih ⊢
      have hsb := shv_b hv hlb
      have hdlt := dlN_lt hv hsb.2 qf
      refine s_X10_luck_83 hL ⟨by omega, fun z => absurd z (by omega), fun _ => ?_⟩
      refine C0.use (c_X10_laysRow hL (by rw [e]; exact hv)) ?_
      rintro - D4 ⟨hn4, hX4, hm4⟩
      try dsimp only
      rw [e] at hn4 hX4
      rw [hn4]
      have inner : ∀ (k : Nat) (s1 : Int) (Y : Row) (D5 : Dm), (k : Int) < max 1 (rowN (D2 108)) → 0 ≤ s1 ∧ s1 ≤ 65535 → mS D2 D5 → rowIs 123 D5 (rowN (D2 108)) Y → rowB (rowN (D2 108)) (D2 108 0) Y → shS k s1 Y = shV2 (D2 108) P.1 → ∀ kk : Int, (kk = k ∨ (k = 0 ∧ kk = -1)) → KX10_luck l E Q 102 [(0, vR E 107), (1, vI f), (2, vI t), (3, vI n), (4, vI sd), (5, vI dl), (6, vI 0), (7, vI own), (8, vI s1), (9, vI P.2), (10, vI i), (11, vI kk)] G D5 := by
        intro k
        induction k with
        | zero =>
          intro s1 Y D5 hk hs1 hm5 hY hYB hsh kk hkk
          have e5 := hm5.at
          have eY : Y = (shV2 (D2 108) P.1).2 := by rw [← hsh]; rfl
          have es : s1 = (shV2 (D2 108) P.1).1 := by rw [← hsh]; rfl
          refine s_X10_luck_102 hL ⟨by omega, fun _ => ?_, fun z => absurd z (by omega)⟩
          refine C0.use (c_X10_deals hL (X := Y) (by rw [e5]; exact hv) (by rw [e5]; exact hY) (by rw [e5]; exact hYB)) ?_
          rintro - D6 ⟨hd6, hm6⟩
          try dsimp only
          rw [e5] at hd6
          have hm26 := hm5.tr hm6
          have e6 := hm26.at
          refine ⟨by omega, ?_⟩
          rw [hd6 f qf.1 qf.2, eY]
          refine C0.use (c_X10_starvesIn hL (by rw [e6]; exact hv) (hm26.hv.trans hh) (by rw [e6]; exact qf) (S := dlN (D2 108) (shV2 (D2 108) P.1).2 f) (by rw [e6]; exact hdlt) z2 (n := n) (by omega)) ?_
          rintro r D7 ⟨rfl, hr7⟩
          try dsimp only
          rw [keep _ hm26, e6, es]
          have hyb := hyS_b (D2 108) f (dlN (D2 108) (shV2 (D2 108) P.1).2 f) y (n := n) (by omega)
          unfold lkF at ih
          refine ⟨by omega, fun z => ?_, fun z => ?_⟩
          · rw [if_neg (by omega)] at ih
            rw [Int.add_zero]
            exact ih D7 (hm26.tr hr7.m)
          · rw [if_pos z] at ih
            exact ih D7 (hm26.tr hr7.m)
        | succ k ihk =>
          intro s1 Y D5 hk hs1 hm5 hY hYB hsh kk hkk
          have ek : kk = (k : Int) + 1 := by omega
          subst ek
          have hnx := nx_b hs1
          obtain ⟨hq, hj⟩ := jd_b (k := (k : Int) + 1) hs1 (by omega)
          have g1 := hnx
          have g2 := hq
          have g3 := hj
          unfold nxD at g1 g2
          unfold jD nxD at g3
          rw [shS] at hsh
          have b1 := hYB ((k : Int) + 1) (by omega) (by omega)
          refine s_X10_luck_102 hL ?_
          rw [show (k : Int) + 1 + (-1) = k by omega]
          refine ⟨by omega, fun z => absurd z (by omega), fun _ => ⟨⟨by omega, by omega, by omega, by omega, by omega, by omega, by rw [hY ((k : Int) + 1) (by omega) (by omega)]; omega⟩, ?_⟩⟩
          have hY2 := rowIs_ex hY (i := (k : Int) + 1) (j := jD s1 ((k : Int) + 1)) (by omega) (by omega)
          exact ihk (nxD s1) _ _ (by omega) hnx ((hm5.up (by simp [scrM]) _).up (by simp [scrM]) _) hY2 (rowB_ex hYB (by omega) (by omega)) hsh _ (Or.inl rfl)
      exact inner (rowN (D2 108) - 1).toNat P.1 (rowX (D2 108)) D4 (by omega) hlb (hm.tr hm4) hX4 hB rfl _ (by omega)
  have main : Ct l E MX10_luck 0 0 0 [vR E 107, vI f, vI t, vI n, vI sd, vI dl] G D Q := by
    refine s_X10_luck hL ?_
    repeat' (first | exact no (by omega) | exact ys (by omega) | refine And.intro ?_ ?_ | intro _ | omega)
  rw [← hQ] at main
  exact main
end

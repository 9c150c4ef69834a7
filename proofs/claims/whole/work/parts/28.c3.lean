/-! ===== the class's nets, sums, worths ===== -/
section C3
variable {l : Launch} {E : Ev} {G : Sh} {D : Dm} {v : Vl}
theorem Rd.off44 (hL : Lay G) {D' : Dm} (hR : Rd v G D) (h : offC 44 D D') : Rd v G D' := cS.ready hL (cS.rf.off (fun _ => Or.inl rfl) h) hR
/-- the nets stand -/
def NT (v : Vl) (hh f : Int) (S : Nat) (D : Dm) : Prop := ∀ lot, 0 ≤ lot → lot < iSl 1 (v 1) → D 44 lot = netS v hh (costS v f S) S lot
theorem c_X5_fillNets (hL : Lay G) (hv : wfV v) (hR : Rd v G D) {f : Int} (hf : 0 ≤ f ∧ f < v 2) {S : Nat} (hS : S < 2 ^ (v 0).toNat) {hh : Int} (hh0 : 0 ≤ hh ∧ hh ≤ 6) : C0 l E MX5_fillNets 2 [vR E 42, vI f, vI S, vI hh] G D (fun _ D' => NT v hh f S D' ∧ offC 44 D D') := by
  have hs := wfS hv
  have hP := wfP hv
  have hlb := lotsB (wfH hv)
  have hc := cost_b hv hf hS
  have hrb := rnd_b hv hf hS
  have e1 : D 1 1 = v 1 := hR.1.2.1
  have e3 : D 1 3 = v 3 := hR.1.2.2.2.1
  refine s_X5_fillNets hL ⟨fun _ => ?_, fun h => absurd h (by omega)⟩
  refine C0.use (c_X5_roundOf hL hv hR hf hS) ?_
  rintro r D1 ⟨rfl, rfl⟩
  rw [e1, e3]
  refine ⟨by omega, ?_⟩
  have loopD : ∀ D', offC 44 D1 D' → (∀ j, 0 ≤ j → j < iSl 1 (v 1) → D' 44 j = fz (netF v hh S j) (-(costS v f S)) (v 0).toNat) → KX5_fillNets l E (fun r G' D' => G' = G ∧ NT v hh f S D' ∧ offC 44 D1 D') 162 [(0, vR E 42), (1, vI f), (2, vI S), (3, vI hh), (4, vI (iSl 1 (v 1))), (5, vI (costS v f S)), (6, vI 0)] G D' := by
    intro D' ho hn
    refine up_from (P := fun i => ∀ D', offC 44 D1 D' → (∀ j, 0 ≤ j → j < i → D' 44 j = netS v hh (costS v f S) S j) → (∀ j, i ≤ j → j < iSl 1 (v 1) → D' 44 j = fz (netF v hh S j) (-(costS v f S)) (v 0).toNat) → KX5_fillNets l E (fun r G' D' => G' = G ∧ NT v hh f S D' ∧ offC 44 D1 D') 162 [(0, vR E 42), (1, vI f), (2, vI S), (3, vI hh), (4, vI (iSl 1 (v 1))), (5, vI (costS v f S)), (6, vI i)] G D') (lo := 0) (n := iSl 1 (v 1)) (by omega) ?_ ?_ D' ho (fun j a b => by omega) (fun j a b => hn j a b)
    · intro D' ho h1 _
      exact s_X5_fillNets_162 hL ⟨by omega, fun _ => ⟨rfl, fun lot a b => h1 lot a b, ho⟩, fun h => absurd h (by omega)⟩
    · intro i i0 i1 ih D' ho h1 h2
      have hi := h2 i (Int.le_refl _) i1
      refine s_X5_fillNets_162 hL ⟨by omega, fun h => absurd h (by omega), fun _ => ⟨by omega, fun hp => ?_, fun hn => ?_⟩⟩
      · refine ih D' ho (fun j a b => ?_) (fun j a b => h2 j (by omega) b)
        by_cases e : j = i
        · subst e; rw [hi, netS]; omega
        · exact h1 j a (by omega)
      · refine ih _ (ho.up _ _) (fun j a b => ?_) (fun j a b => ?_)
        · by_cases e : j = i
          · subst e; rw [upd2_same, netS]; omega
          · rw [upd2_place _ _ _ e]; exact h1 j a (by omega)
        · rw [upd2_place _ _ _ (by omega)]; exact h2 j (by omega) b
  have loopB : ∀ D', offC 44 D1 D' → (∀ j, 0 ≤ j → j < iSl 1 (v 1) → D' 44 j = -(costS v f S)) → KX5_fillNets l E (fun r G' D' => G' = G ∧ NT v hh f S D' ∧ offC 44 D1 D') 69 [(0, vR E 42), (1, vI f), (2, vI S), (3, vI hh), (4, vI (iSl 1 (v 1))), (5, vI (costS v f S)), (6, vI 0)] G D' := by
    intro D' ho hn
    refine up_from (P := fun s => ∀ D', offC 44 D1 D' → (∀ j, 0 ≤ j → j < iSl 1 (v 1) → D' 44 j = fz (netF v hh S j) (-(costS v f S)) s.toNat) → KX5_fillNets l E (fun r G' D' => G' = G ∧ NT v hh f S D' ∧ offC 44 D1 D') 69 [(0, vR E 42), (1, vI f), (2, vI S), (3, vI hh), (4, vI (iSl 1 (v 1))), (5, vI (costS v f S)), (6, vI s)] G D') (lo := 0) (n := v 0) (by omega) ?_ ?_ D' ho hn
    · intro D' ho hn
      have e0 : D' 1 0 = v 0 := by rw [ho 1 (by decide)]; exact hR.1.1
      exact s_X5_fillNets_69 hL ⟨by omega, fun _ => loopD D' ho hn, fun h => absurd h (by omega)⟩
    · intro s s0 s1 ih D' ho hn
      have e0 : D' 1 0 = v 0 := by rw [ho 1 (by decide)]; exact hR.1.1
      have hg : D' 4 s = v ((8 + (5 * s)) + 2) := by rw [ho 4 (by decide)]; exact (CV_s hR.1 s0 s1).2.2.1
      have hsv := wfs hv s0 s1
      have hgb := iSr_b (x := v ((8 + (5 * s)) + 2)) (hv := hh) (by omega) hh0
      refine s_X5_fillNets_69 hL ⟨by omega, fun h => absurd h (by omega), fun _ => ⟨fun hb => ?_, fun hb => ⟨by omega, ?_⟩⟩⟩
      · refine ih D' ho (fun j a b => ?_)
        rw [fz_s _ _ s0, netF, if_pos hb]
        exact hn j a b
      · rw [hg]
        refine up_from (P := fun i => ∀ D', offC 44 D1 D' → (∀ j, 0 ≤ j → j < i → D' 44 j = fz (netF v hh S j) (-(costS v f S)) (s + 1).toNat) → (∀ j, i ≤ j → j < iSl 1 (v 1) → D' 44 j = fz (netF v hh S j) (-(costS v f S)) s.toNat) → KX5_fillNets l E (fun r G' D' => G' = G ∧ NT v hh f S D' ∧ offC 44 D1 D') 114 [(0, vR E 42), (1, vI f), (2, vI S), (3, vI hh), (4, vI (iSl 1 (v 1))), (5, vI (costS v f S)), (6, vI s), (7, vI (iSr (v ((8 + (5 * s)) + 2)) hh)), (8, vI (s * 64)), (9, vI i)] G D') (lo := 0) (n := iSl 1 (v 1)) (by omega) ?_ ?_ D' ho (fun j a b => by omega) hn
        · intro D' ho h1 _
          exact s_X5_fillNets_114 hL ⟨by omega, fun _ => ih D' ho h1, fun h => absurd h (by omega)⟩
        · intro i i0 i1 ih2 D' ho h1 h2
          have hi := h2 i (Int.le_refl _) i1
          have hk : D' 45 ((s * 64) + i) = 8 - min 8 (tkS v s i) := by rw [ho 45 (by decide)]; exact hR.2.2.1 s i s0 s1 i0 i1
          have ht := tk_b hv s i (v 1).toNat (Nat.le_refl _)
          have hmm := mulB (A := 99) (B := 8) (a := iSr (v ((8 + (5 * s)) + 2)) hh) (b := 8 - min 8 (tkS v s i)) (by omega) (by unfold tkS; omega)
          have hlf := left_b (lot := i) hv hh0 s0 s1
          have hnb := netF_b (set := S) (lot := i) hv hh0 hc s.toNat (by omega)
          have el : Int.tdiv (iSr (v ((8 + (5 * s)) + 2)) hh * (8 - min 8 (tkS v s i))) 8 = leftS v hh s i := rfl
          refine s_X5_fillNets_114 hL ⟨by omega, fun h => absurd h (by omega), fun _ => ?_⟩
          rw [hk, el, hi]
          refine ⟨⟨by omega, by omega, by omega, by omega⟩, ih2 _ (ho.up _ _) (fun j a b => ?_) (fun j a b => ?_)⟩
          · by_cases e : j = i
            · subst e; rw [upd2_same, fz_s _ _ s0, netF, if_neg hb]
            · rw [upd2_place _ _ _ e]; exact h1 j a (by omega)
          · rw [upd2_place _ _ _ (by omega)]; exact h2 j (by omega) b
  refine up_from (P := fun i => ∀ D', offC 44 D1 D' → (∀ j, 0 ≤ j → j < i → D' 44 j = -(costS v f S)) → KX5_fillNets l E (fun r G' D' => G' = G ∧ NT v hh f S D' ∧ offC 44 D1 D') 43 [(0, vR E 42), (1, vI f), (2, vI S), (3, vI hh), (4, vI (iSl 1 (v 1))), (5, vI (costS v f S)), (6, vI i)] G D') (lo := 0) (n := iSl 1 (v 1)) (by omega) ?_ ?_ D1 offC.rf (fun j a b => by omega)
  · intro D' ho h1
    exact s_X5_fillNets_43 hL ⟨by omega, fun _ => loopB D' ho h1, fun h => absurd h (by omega)⟩
  · intro i i0 i1 ih D' ho h1
    refine s_X5_fillNets_43 hL ⟨by omega, fun h => absurd h (by omega), fun _ => ⟨by omega, ih _ (ho.up _ _) (fun j a b => ?_)⟩⟩
    by_cases e : j = i
    · subst e; exact upd2_same _ _ _ _
    · rw [upd2_place _ _ _ e]; exact h1 j a (by omega)
theorem c_X5_weightAtMost (hL : Lay G) (hv : wfV v) (hR : Rd v G D) {hh f : Int} {S : Nat} (hn : NT v hh f S D) (x : Int) (hx : -2147483648 ≤ x ∧ x < 2147483648) : C0 l E MX5_weightAtMost 1 [vR E 42, vI x] G D (fun r D' => r = atMostS v hh f S x ∧ D' = D) := by
  have hlb := lotsB (wfH hv)
  have e1 : D 1 1 = v 1 := hR.1.2.1
  refine s_X5_weightAtMost hL ?_
  refine up_from (P := fun i => KX5_weightAtMost l E _ 5 [(0, vR E 42), (1, vI x), (2, vJ (sz (amS v hh f S x) i.toNat)), (4, vI i)] G D) (lo := 0) (n := iSl 1 (v 1)) (by omega) ?_ ?_
  · exact s_X5_weightAtMost_5 hL ⟨by omega, fun _ => ⟨rfl, rfl, rfl⟩, fun h => absurd h (by rw [e1]; omega)⟩
  · intro i h0 h1 ih
    rw [sz_s _ h0, amS] at ih
    have hni := hn i h0 h1
    have hwi := hR.2.1 i h0 h1
    refine s_X5_weightAtMost_5 hL ⟨by omega, fun h => absurd h (by rw [e1] at h; omega), fun _ => ⟨⟨by omega, hx⟩, fun hb => ?_, fun hb => ?_⟩⟩
    · rw [if_neg (by omega), Int.add_zero] at ih; exact ih
    · rw [if_pos (by omega)] at ih; rw [hwi]; exact ih
/-- sums of nets and of what is short -/
def nsF (v : Vl) (f : Int) (S : Nat) (lot : Int) : Int := wtS v lot * netS v 0 (costS v f S) S lot
def ssF (v : Vl) (f : Int) (S : Nat) (lot : Int) : Int := wtS v lot * max 0 (v ((88 + (3 * f)) + 2) - netS v 0 (costS v f S) S lot)
def netSum (v : Vl) (f : Int) (S : Nat) : Int := sz (nsF v f S) (iSl 1 (v 1)).toNat
def shortSum (v : Vl) (f : Int) (S : Nat) : Int := sz (ssF v f S) (iSl 1 (v 1)).toNat
theorem worth_eq (v : Vl) (f : Int) (S : Nat) : worthS v f S = netSum v f S - v 4 * shortSum v f S := by
  unfold worthS netSum shortSum
  rw [← sz_mul]
  have h : ∀ n, sz (wlF v f S) n + sz (fun i => v 4 * ssF v f S i) n = sz (nsF v f S) n := by
    intro n
    rw [← sz_add]
    refine sz_congr (fun i _ _ => ?_)
    unfold wlF ssF nsF
    rw [Int.mul_sub]
    have : v 4 * (wtS v i * max 0 (v (88 + 3 * f + 2) - netS v 0 (costS v f S) (↑S) i)) = wtS v i * (v 4 * max 0 (v (88 + 3 * f + 2) - netS v 0 (costS v f S) (↑S) i)) := by
      rw [← Int.mul_assoc, Int.mul_comm (v 4), Int.mul_assoc]
    omega
  have := h (iSl 1 (v 1)).toNat
  omega
theorem ns_b (hv : wfV v) {f : Int} (hf : 0 ≤ f ∧ f < v 2) {S : Nat} (hS : S < 2 ^ (v 0).toNat) (n : Nat) (hn : n ≤ 64) : 0 ≤ sz (nsF v f S) n ∧ sz (nsF v f S) n ≤ 1100000000000 := by
  have hc := cost_b hv hf hS
  have := sz_bnd (f := nsF v f S) (n := n) (a := 0) (b := 16777216 * 990) (fun i _ _ => mulB (wtS_b hv i) (net_b hv (by decide) hc))
  omega
theorem ss_b (hv : wfV v) {f : Int} (hf : 0 ≤ f ∧ f < v 2) {S : Nat} (hS : S < 2 ^ (v 0).toNat) (n : Nat) (hn : n ≤ 64) : 0 ≤ sz (ssF v f S) n ∧ sz (ssF v f S) n ≤ 1100000000000 := by
  have hc := cost_b hv hf hS
  have hq := wff hv hf.1 hf.2
  have := sz_bnd (f := ssF v f S) (n := n) (a := 0) (b := 16777216 * 99) (fun i _ _ => mulB (wtS_b hv i) (by have := net_b (hh := 0) (set := S) (lot := i) hv (by decide) hc; omega))
  omega
/-- what sums are told in -/
def scrK (c : Nat) (i : Int) : Prop := c = 44 ∨ (c = 42 ∧ (i = 3 ∨ i = 4))
def kS (D D' : Dm) : Prop := ∀ c i, ¬ scrK c i → D' c i = D c i
theorem kS.rf {D : Dm} : kS D D := fun _ _ _ => rfl
theorem kS.tr {D D1 D2 : Dm} (h : kS D D1) (h2 : kS D1 D2) : kS D D2 := fun c i hc => (h2 c i hc).trans (h c i hc)
theorem kS.up {D D1 : Dm} {c : Nat} {i : Int} (h : kS D D1) (hs : scrK c i) (x : Int) : kS D (upd2 D1 c i x) := fun c' i' hc => by
  rw [← h c' i' hc]
  simp only [upd2]
  rw [if_neg]
  rintro ⟨rfl, rfl⟩
  exact hc hs
theorem kS.off {D D1 D2 : Dm} {c : Nat} (h : kS D D1) (hs : ∀ i, scrK c i) (h2 : offC c D1 D2) : kS D D2 := fun c' i' hc => by
  rw [← h c' i' hc, h2 c' (fun e => hc (by rw [e]; exact hs i'))]
theorem kS.c {D D' : Dm} (h : kS D D') (c : Nat) (hc : ∀ i, ¬ scrK c i) : D' c = D c := funext fun i => h c i (hc i)
theorem kS.s {D D' : Dm} (h : kS D D') : cS D D' := fun c i hc => h c i (fun q => hc (by simp only [scrK, scrC] at q ⊢; omega))
theorem c_X5_sumUp (hL : Lay G) (hv : wfV v) (hR : Rd v G D) {f : Int} (hf : 0 ≤ f ∧ f < v 2) {S : Nat} (hS : S < 2 ^ (v 0).toNat) : C0 l E MX5_sumUp 2 [vR E 42, vI f, vI S] G D (fun _ D' => D' 42 3 = netSum v f S ∧ D' 42 4 = shortSum v f S ∧ kS D D') := by
  have hlb := lotsB (wfH hv)
  have hF := wfF hv
  have hc := cost_b hv hf hS
  refine s_X5_sumUp hL ?_
  refine C0.use (c_X5_fillNets hL hv hR hf hS (by decide)) ?_
  rintro - D1 ⟨hn, ho⟩
  have hR1 := hR.off44 hL ho
  have e1 : D1 1 1 = v 1 := hR1.1.2.1
  have e13 : D1 13 f = v ((88 + (3 * f)) + 2) := (CV_f hR1.1 hf.1 hf.2).2.2
  have hq := wff hv hf.1 hf.2
  rw [e1, e13]
  refine ⟨by omega, ?_⟩
  refine up_from (P := fun i => ∀ D', D' 42 3 = sz (nsF v f S) i.toNat → D' 42 4 = sz (ssF v f S) i.toNat → kS D1 D' → D' 44 = D1 44 → KX5_sumUp l E (fun r G' D' => G' = G ∧ D' 42 3 = netSum v f S ∧ D' 42 4 = shortSum v f S ∧ kS D D') 39 [(0, vR E 42), (1, vI f), (2, vI S), (3, vI (v ((88 + (3 * f)) + 2))), (4, vI (iSl 1 (v 1))), (5, vI i)] G D') (lo := 0) (n := iSl 1 (v 1)) (by omega) ?_ ?_ _ (by simp [upd2, sz_0]) (by simp [upd2, sz_0]) ((kS.rf.up (by simp [scrK]) _).up (by simp [scrK]) _) (by funext i; simp [upd2])
  · intro D' h3 h4 hs _
    exact s_X5_sumUp_39 hL ⟨by omega, fun _ => ⟨rfl, h3, h4, (kS.rf.off (fun _ => Or.inl rfl) ho).tr hs⟩, fun h => absurd h (by omega)⟩
  · intro i i0 i1 ih D' h3 h4 hs h44
    rw [sz_s _ i0, sz_s _ i0] at ih
    have hw : D' 43 i = wtS v i := by rw [hs.c 43 (fun i => by simp only [scrK]; omega)]; exact hR1.2.1 i i0 i1
    have hni : D' 44 i = netS v 0 (costS v f S) S i := by rw [h44]; exact hn i i0 i1
    have hb1 := ns_b hv hf hS i.toNat (by omega)
    have hb1' := ns_b hv hf hS (i + 1).toNat (by omega)
    have hb2 := ss_b hv hf hS i.toNat (by omega)
    have hb2' := ss_b hv hf hS (i + 1).toNat (by omega)
    rw [sz_s _ i0] at hb1' hb2'
    have hnb := net_b (hh := 0) (set := S) (lot := i) hv (by decide) hc
    have ens : wtS v i * netS v 0 (costS v f S) S i = nsF v f S i := rfl
    have ess : ssF v f S i = wtS v i * max 0 (v ((88 + (3 * f)) + 2) - netS v 0 (costS v f S) S i) := rfl
    refine s_X5_sumUp_39 hL ⟨by omega, fun h => absurd h (by omega), fun _ => ?_⟩
    rw [hw, hni, h3, h4, ens]
    refine ⟨⟨by omega, by omega, by omega⟩, fun hle => ?_, fun hlt => ?_⟩
    · have e0 : ssF v f S i = 0 := by rw [ess, Int.max_eq_left (by omega), Int.mul_zero]
      rw [e0, Int.add_zero] at ih
      refine ih _ (by simp [upd2]) (by rw [upd2_place _ _ _ (by decide)]; exact h4) (hs.up (by simp [scrK]) _) (by rw [← h44]; funext j; simp [upd2])
    · have e0 : ssF v f S i = wtS v i * (v ((88 + (3 * f)) + 2) - netS v 0 (costS v f S) S i) := by rw [ess, Int.max_eq_right (by omega)]
      rw [← e0]
      refine ⟨⟨by omega, by omega⟩, ih _ (by simp [upd2]) (by simp [upd2]) ((hs.up (by simp [scrK]) _).up (by simp [scrK]) _) (by rw [← h44]; funext j; simp [upd2])⟩
theorem c_X5_worthOf (hL : Lay G) (hv : wfV v) (hR : Rd v G D) {f : Int} (hf : 0 ≤ f ∧ f < v 2) {S : Nat} (hS : S < 2 ^ (v 0).toNat) : C0 l E MX5_worthOf 1 [vR E 42, vI f, vI S] G D (fun r D' => r = worthS v f S ∧ kS D D') := by
  refine s_X5_worthOf hL ?_
  refine C0.use (c_X5_sumUp hL hv hR hf hS) ?_
  rintro - D1 ⟨h3, h4, hs⟩
  refine ⟨rfl, ?_, hs⟩
  rw [h3, h4, worth_eq]
  have : D1 1 4 = v 4 := (hs.s.land hR.1).2.2.2.2.1
  rw [this]
end C3
theorem worth_b {v : Vl} (hv : wfV v) {f : Int} (hf : 0 ≤ f ∧ f < v 2) {S : Nat} (hS : S < 2 ^ (v 0).toNat) : -108900000000000 ≤ worthS v f S ∧ worthS v f S ≤ 1100000000000 := by
  have hlb := lotsB (wfH hv)
  have h1 := ns_b hv hf hS (iSl 1 (v 1)).toNat (by omega)
  have h2 := ss_b hv hf hS (iSl 1 (v 1)).toNat (by omega)
  have hU := wfU hv
  have h3 := mulB (A := 99) (B := 1100000000000) (a := v 4) (b := shortSum v f S) (by omega) h2
  rw [worth_eq]
  unfold netSum
  omega

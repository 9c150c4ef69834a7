/-! ===== nets and worths ===== -/
/-- what the reference only scribbles in -/
def scrM (c : Nat) (i : Int) : Prop := c = 116 ∨ c = 117 ∨ c = 118 ∨ c = 119 ∨ c = 121 ∨ c = 122 ∨ c = 123 ∨ c = 124 ∨ (c = 107 ∧ (i = 22 ∨ i = 23 ∨ i = 27 ∨ i = 28 ∨ i = 36))
def mS (D D' : Dm) : Prop := ∀ c i, ¬ scrM c i → D' c i = D c i
theorem mS.rf {D : Dm} : mS D D := fun _ _ _ => rfl
theorem mS.tr {D D1 D2 : Dm} (h : mS D D1) (h2 : mS D1 D2) : mS D D2 := fun c i hc => (h2 c i hc).trans (h c i hc)
theorem mS.up {D D1 : Dm} {c : Nat} {i : Int} (h : mS D D1) (hs : scrM c i) (x : Int) : mS D (upd2 D1 c i x) := fun c' i' hc => by
  rw [← h c' i' hc]
  simp only [upd2]
  rw [if_neg]
  rintro ⟨rfl, rfl⟩
  exact hc hs
theorem mS.off {D D1 D2 : Dm} {c : Nat} (h : mS D D1) (hs : ∀ i, scrM c i) (h2 : offC c D1 D2) : mS D D2 := fun c' i' hc => by
  rw [← h c' i' hc, h2 c' (fun e => hc (by rw [e]; exact hs i'))]
theorem mS.at {D D' : Dm} (h : mS D D') : D' 108 = D 108 := funext fun i => h 108 i (by simp [scrM])
theorem mS.hv {D D' : Dm} (h : mS D D') : D' 107 20 = D 107 20 := h 107 20 (by simp [scrM])
/-- what a round and its cost are told in -/
def scrR (c : Nat) (i : Int) : Prop := c = 116 ∨ (c = 107 ∧ i = 22)
def rS (D D' : Dm) : Prop := ∀ c i, ¬ scrR c i → D' c i = D c i
theorem rS.rf {D : Dm} : rS D D := fun _ _ _ => rfl
theorem rS.tr {D D1 D2 : Dm} (h : rS D D1) (h2 : rS D1 D2) : rS D D2 := fun c i hc => (h2 c i hc).trans (h c i hc)
theorem rS.up {D D1 : Dm} {c : Nat} {i : Int} (h : rS D D1) (hs : scrR c i) (x : Int) : rS D (upd2 D1 c i x) := fun c' i' hc => by
  rw [← h c' i' hc]
  simp only [upd2]
  rw [if_neg]
  rintro ⟨rfl, rfl⟩
  exact hc hs
theorem rS.off {D D1 D2 : Dm} {c : Nat} (h : rS D D1) (hs : ∀ i, scrR c i) (h2 : offC c D1 D2) : rS D D2 := fun c' i' hc => by
  rw [← h c' i' hc, h2 c' (fun e => hc (by rw [e]; exact hs i'))]
theorem rS.at {D D' : Dm} (h : rS D D') : D' 108 = D 108 := funext fun i => h 108 i (by simp [scrR])
theorem rS.hv {D D' : Dm} (h : rS D D') : D' 107 20 = D 107 20 := h 107 20 (by simp [scrR])
theorem rS.m {D D' : Dm} (h : rS D D') : mS D D' := fun c i hc => h c i (fun q => hc (by simp only [scrR, scrM] at q ⊢; omega))
def costS (v : Vl) (f : Int) (S : Nat) : Int := Int.tdiv (rndS v f S) (v 3)
theorem tdivB {a b A : Int} (ha : 0 ≤ a ∧ a ≤ A) (hb : 1 ≤ b) : 0 ≤ Int.tdiv a b ∧ Int.tdiv a b ≤ A := by
  have h1 := Int.tdiv_nonneg ha.1 (show 0 ≤ b by omega)
  have h2 : Int.tdiv a b ≤ a := by
    rw [Int.tdiv_eq_ediv_of_nonneg ha.1]
    exact Int.ediv_le_self b ha.1
  omega
theorem cost_b {v : Vl} (hv : wfV v) {f : Int} (hf : 0 ≤ f ∧ f < v 2) {S : Nat} (hlt : S < 2 ^ (v 0).toNat) : 0 ≤ costS v f S ∧ costS v f S ≤ 1000000 := tdivB (rnd_b hv hf hlt) (wfP hv).1
theorem left_b {v : Vl} (hv : wfV v) {hh s lot : Int} (hh0 : 0 ≤ hh ∧ hh ≤ 6) (h0 : 0 ≤ s) (h1 : s < v 0) : 0 ≤ leftS v hh s lot ∧ leftS v hh s lot ≤ 99 := by
  have hs := wfs hv h0 h1
  have ht := tk_b hv s lot (v 1).toNat (Nat.le_refl _)
  have hg := iSr_b (x := v ((8 + (5 * s)) + 2)) (hv := hh) (by omega) hh0
  have hm := mulB (A := 99) (B := 8) (a := iSr (v ((8 + (5 * s)) + 2)) hh) (b := 8 - min 8 (tkS v s lot)) (by omega) (by unfold tkS; omega)
  unfold leftS
  rw [Int.tdiv_eq_ediv_of_nonneg hm.1]
  omega
def netF (v : Vl) (hh set lot s n : Int) : Int := if iA (iSr set s) 1 = 0 then n else n + leftS v hh s lot
/-- the net of a set in a lot, where the way costs w -/
def netS (v : Vl) (hh w set lot : Int) : Int := max 0 (fz (netF v hh set lot) (-w) (v 0).toNat)
theorem netF_b {v : Vl} (hv : wfV v) {hh w set lot : Int} (hh0 : 0 ≤ hh ∧ hh ≤ 6) (hw : 0 ≤ w ∧ w ≤ 1000000) : ∀ k : Nat, k ≤ (v 0).toNat → -1000000 ≤ fz (netF v hh set lot) (-w) k ∧ fz (netF v hh set lot) (-w) k ≤ 99 * k := by
  intro k
  induction k with
  | zero => intro _; simp only [fz_0]; omega
  | succ k ih =>
    intro hk
    have h1 := ih (by omega)
    have h2 := left_b (lot := lot) hv hh0 (s := k) (by omega) (by omega)
    show -1000000 ≤ netF v hh set lot k (fz (netF v hh set lot) (-w) k) ∧ netF v hh set lot k (fz (netF v hh set lot) (-w) k) ≤ _
    generalize fz (netF v hh set lot) (-w) k = t at h1 ⊢
    unfold netF
    split <;> omega
theorem net_b {v : Vl} (hv : wfV v) {hh w set lot : Int} (hh0 : 0 ≤ hh ∧ hh ≤ 6) (hw : 0 ≤ w ∧ w ≤ 1000000) : 0 ≤ netS v hh w set lot ∧ netS v hh w set lot ≤ 990 := by
  have := netF_b (set := set) (lot := lot) hv hh0 hw (v 0).toNat (Nat.le_refl _)
  have hs := wfS hv
  unfold netS; omega
theorem wt_b {v : Vl} (hv : wfV v) (lot : Int) : ∀ k : Nat, k ≤ (v 1).toNat → 0 ≤ fz (wtF v lot) 1 k ∧ fz (wtF v lot) 1 k ≤ 16 ^ k := by
  intro k
  induction k with
  | zero => intro _; simp [fz_0]
  | succ k ih =>
    intro hk
    have h1 := ih (by omega)
    have h2 := wfh hv (i := k) (by omega) (by omega)
    show 0 ≤ wtF v lot k (fz (wtF v lot) 1 k) ∧ wtF v lot k (fz (wtF v lot) 1 k) ≤ _
    generalize fz (wtF v lot) 1 k = t at h1 ⊢
    rw [Int.pow_succ]
    unfold wtF
    split
    · exact mulB h1 (by omega)
    · exact mulB h1 (by omega)
theorem p16 {k : Int} (h : 0 ≤ k ∧ k ≤ 6) : (1 : Int) ≤ 16 ^ k.toNat ∧ (16 : Int) ^ k.toNat ≤ 16777216 := by
  rcases (show k = 0 ∨ k = 1 ∨ k = 2 ∨ k = 3 ∨ k = 4 ∨ k = 5 ∨ k = 6 by omega) with rfl | rfl | rfl | rfl | rfl | rfl | rfl <;> decide
theorem wtS_b {v : Vl} (hv : wfV v) (lot : Int) : 0 ≤ wtS v lot ∧ wtS v lot ≤ 16777216 := by
  have h1 := wt_b hv lot (v 1).toNat (Nat.le_refl _)
  have h2 := p16 (wfH hv)
  unfold wtS; omega
def needV (v : Vl) (f : Int) : Int := v ((88 + (3 * f)) + 2)
/-- worth of one lot -/
def wlF (v : Vl) (f : Int) (S : Nat) (lot : Int) : Int := wtS v lot * (netS v 0 (costS v f S) S lot - v 4 * max 0 (v ((88 + (3 * f)) + 2) - netS v 0 (costS v f S) S lot))
def worthS (v : Vl) (f : Int) (S : Nat) : Int := sz (wlF v f S) (iSl 1 (v 1)).toNat
def amS (v : Vl) (hh f : Int) (S : Nat) (x lot : Int) : Int := if netS v hh (costS v f S) S lot ≤ x then wtS v lot else 0
def atMostS (v : Vl) (hh f : Int) (S : Nat) (x : Int) : Int := sz (amS v hh f S x) (iSl 1 (v 1)).toNat
section M3
variable {l : Launch} {E : Ev} {G : Sh} {D : Dm}
theorem c_X10_goesRound (hL : Lay G) (hv : wfV (D 108)) {f : Int} (hf : 0 ≤ f ∧ f < D 108 2) {S : Nat} (hS : S < 2 ^ (D 108 0).toNat) : C0 l E MX10_goesRound 2 [vR E 107, vI f, vI S] G D (fun _ D' => D' 107 22 = costS (D 108) f S ∧ rS D D') := by
  refine s_X10_goesRound hL ?_
  refine C0.use (c_X10_roundOf hL hv hf hS) ?_
  rintro r D' ⟨rfl, hoff⟩
  try dsimp only
  have e : D' 108 = D 108 := hoff 108 (by decide)
  have hP := wfP hv
  have hr := rnd_b hv hf hS
  have hc := cost_b hv hf hS
  unfold costS at hc
  rw [e]
  refine ⟨⟨by omega, by omega, by omega⟩, rfl, upd2_same _ _ _ _, ?_⟩
  exact (rS.rf.off (fun i => Or.inl rfl) hoff).up (by simp [scrR]) _
theorem c_X10_netOf (hL : Lay G) (hv : wfV (D 108)) (hh : 0 ≤ D 107 20 ∧ D 107 20 ≤ 6) (hw : 0 ≤ D 107 22 ∧ D 107 22 ≤ 1000000) (set lot : Int) : C0 l E MX10_netOf 0 [vR E 107, vI set, vI lot] G D (fun r D' => r = netS (D 108) (D 107 20) (D 107 22) set lot ∧ D' = D) := by
  refine s_X10_netOf hL ?_
  have hS := wfS hv
  refine up_from (P := fun i => KX10_netOf l E _ 9 [(0, vR E 107), (1, vI set), (2, vI lot), (3, vI (fz (netF (D 108) (D 107 20) set lot) (-(D 107 22)) i.toNat)), (4, vI i)] G D) (lo := 0) (n := D 108 0) (by omega) ?_ ?_
  · have hb := netF_b (set := set) (lot := lot) hv hh hw (D 108 0).toNat (Nat.le_refl _)
    exact s_X10_netOf_9 hL ⟨by omega, fun _ => ⟨by omega, rfl, rfl, rfl⟩, fun h => absurd h (by omega)⟩
  · intro i h0 h1 ih
    rw [fz_s _ _ h0] at ih
    refine s_X10_netOf_9 hL ⟨by omega, fun h => absurd h (by omega), fun _ => ⟨fun hb => ?_, fun hb => ?_⟩⟩
    · rw [netF, if_pos (a1_ne1.mp hb)] at ih
      rw [Int.add_zero]; exact ih
    · rw [netF, if_neg (by omega)] at ih
      refine C0.use (c_X10_leftOf hL hv hh i lot ⟨h0, h1⟩) ?_
      rintro r D' ⟨rfl, rfl⟩
      exact ih
theorem c_X10_worthOf (hL : Lay G) (hv : wfV (D 108)) (hh : D 107 20 = 0) {f : Int} (hf : 0 ≤ f ∧ f < D 108 2) {S : Nat} (hS : S < 2 ^ (D 108 0).toNat) : C0 l E MX10_worthOf 1 [vR E 107, vI f, vI S] G D (fun r D' => r = worthS (D 108) f S ∧ rS D D') := by
  refine s_X10_worthOf hL ?_
  refine C0.use (c_X10_goesRound hL hv hf hS) ?_
  rintro - D1 ⟨hway, hm⟩
  have e := hm.at
  have eh := hm.hv
  have hH := wfH hv
  have hlb := lotsB hH
  have hc := cost_b hv hf hS
  have hn := wff hv hf.1 hf.2
  have hU := wfU hv
  have hF := wfF hv
  refine up_from (P := fun i => KX10_worthOf l E _ 11 [(0, vR E 107), (1, vI f), (2, vI S), (3, vJ (sz (wlF (D 108) f S) i.toNat)), (5, vI i)] G D1) (lo := 0) (n := iSl 1 (D 108 1)) (by omega) ?_ ?_
  · exact s_X10_worthOf_11 hL ⟨by omega, fun _ => ⟨rfl, rfl, hm⟩, fun h => absurd h (by rw [e]; omega)⟩
  · intro i h0 h1 ih
    rw [sz_s _ h0] at ih
    have hw := wtS_b hv i
    refine s_X10_worthOf_11 hL ⟨by omega, fun h => absurd h (by rw [e]; omega), fun _ => ?_⟩
    refine C0.use (c_X10_weightOf hL (by rw [e]; exact hv) i) ?_
    rintro r D2 ⟨rfl, rfl⟩
    try dsimp only
    rw [e]
    refine ⟨by omega, fun hne => ?_, fun hz => ?_⟩
    · refine C0.use (c_X10_netOf hL (by rw [e]; exact hv) (by rw [eh, hh]; decide) (by rw [hway]; exact hc) S i) ?_
      rintro r D3 ⟨rfl, rfl⟩
      try dsimp only
      rw [e, hway, eh, hh]
      have hnb := net_b (hh := 0) (w := costS (D 108) f S) (set := S) (lot := i) hv (by decide) hc
      have hmm := mulB (A := 99) (B := 99) (a := D 108 4) (b := max 0 (D 108 ((88 + (3 * f)) + 2) - netS (D 108) 0 (costS (D 108) f S) S i)) (by omega) (by omega)
      refine ⟨⟨by omega, by omega, by omega⟩, ?_⟩
      rw [wlF] at ih
      exact ih
    · rw [wlF, hz, Int.zero_mul, Int.add_zero] at ih
      exact ih
theorem c_X10_atMost (hL : Lay G) (hv : wfV (D 108)) (hh : 0 ≤ D 107 20 ∧ D 107 20 ≤ 6) {f : Int} (hf : 0 ≤ f ∧ f < D 108 2) {S : Nat} (hS : S < 2 ^ (D 108 0).toNat) (x : Int) (hx : -2147483648 ≤ x ∧ x < 2147483648) : C0 l E MX10_atMost 1 [vR E 107, vI f, vI S, vI x] G D (fun r D' => r = atMostS (D 108) (D 107 20) f S x ∧ rS D D') := by
  refine s_X10_atMost hL ?_
  refine C0.use (c_X10_goesRound hL hv hf hS) ?_
  rintro - D1 ⟨hway, hm⟩
  have e := hm.at
  have eh := hm.hv
  have hlb := lotsB (wfH hv)
  have hc := cost_b hv hf hS
  refine up_from (P := fun i => KX10_atMost l E _ 12 [(0, vR E 107), (1, vI f), (2, vI S), (3, vI x), (4, vJ (sz (amS (D 108) (D 107 20) f S x) i.toNat)), (6, vI i)] G D1) (lo := 0) (n := iSl 1 (D 108 1)) (by omega) ?_ ?_
  · exact s_X10_atMost_12 hL ⟨by omega, fun _ => ⟨rfl, rfl, hm⟩, fun h => absurd h (by rw [e]; omega)⟩
  · intro i h0 h1 ih
    rw [sz_s _ h0] at ih
    refine s_X10_atMost_12 hL ⟨by omega, fun h => absurd h (by rw [e]; omega), fun _ => ?_⟩
    refine C0.use (c_X10_netOf hL (by rw [e]; exact hv) (by rw [eh]; exact hh) (by rw [hway]; exact hc) S i) ?_
    rintro r D2 ⟨rfl, rfl⟩
    try dsimp only
    rw [e, hway, eh]
    have hnb := net_b (hh := D 107 20) (w := costS (D 108) f S) (set := S) (lot := i) hv hh hc
    refine ⟨⟨by omega, hx⟩, fun hlt => ?_, fun hle => ?_⟩
    · rw [amS, if_neg (by omega)] at ih
      exact ih
    · refine C0.use (c_X10_weightOf hL (by rw [e]; exact hv) i) ?_
      rintro r D3 ⟨rfl, rfl⟩
      try dsimp only
      rw [e]
      rw [amS, if_pos hle] at ih
      exact ih
end M3

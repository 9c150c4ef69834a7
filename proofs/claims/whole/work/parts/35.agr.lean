-- hunger and odds do not touch nets
def agr (v w : Vl) : Prop := ∀ j : Int, (j ≠ 4 ∧ j ≠ 62 ∧ j ≠ 67 ∧ j ≠ 72 ∧ j ≠ 77 ∧ j ≠ 82 ∧ j ≠ 87) → w j = v j
section
variable {v w : Vl}
theorem agr.tk (h : agr v w) (hv : wfV v) {s : Int} (hs : 0 ≤ s ∧ s < v 0) (lot : Int) : tkS w s lot = tkS v s lot := by
  have hS := wfS hv
  have hH := wfH hv
  unfold tkS
  rw [h 1 (by omega)]
  refine fz_congr (fun i x i0 i1 => ?_)
  unfold tkF
  have e : fallsP w i s ↔ fallsP v i s := by
    unfold fallsP
    rw [h ((58 + (5 * i)) + 0) (by omega), h ((58 + (5 * i)) + 1) (by omega), h ((58 + (5 * i)) + 2) (by omega), h ((8 + (5 * s)) + 0) (by omega), h ((8 + (5 * s)) + 1) (by omega), h ((8 + (5 * s)) + 3) (by omega)]
  rw [h ((58 + (5 * i)) + 3) (by omega)]
  by_cases q : fallsP v i s
  · rw [if_pos q, if_pos (e.2 q)]
  · rw [if_neg q, if_neg (fun z => q (e.1 z))]
theorem agr.left (h : agr v w) (hv : wfV v) {s : Int} (hs : 0 ≤ s ∧ s < v 0) (hh lot : Int) : leftS w hh s lot = leftS v hh s lot := by
  have hS := wfS hv
  unfold leftS
  rw [h.tk hv hs, h ((8 + (5 * s)) + 2) (by omega)]
theorem agr.ap (h : agr v w) (hv : wfV v) {j k : Int} (hj : 0 ≤ j ∧ j < v 0) (hk : 0 ≤ k ∧ k < v 0) : apS w j k = apS v j k := by
  have hS := wfS hv
  unfold apS
  rw [h ((8 + (5 * k)) + 0) (by omega), h ((8 + (5 * k)) + 1) (by omega), h ((8 + (5 * j)) + 0) (by omega), h ((8 + (5 * j)) + 1) (by omega)]
theorem agr.hm (h : agr v w) (hv : wfV v) {f k : Int} (hf : 0 ≤ f ∧ f < v 2) (hk : 0 ≤ k ∧ k < v 0) : hmS w f k = hmS v f k := by
  have hS := wfS hv
  unfold hmS
  rw [h ((8 + (5 * k)) + 0) (by omega), h ((8 + (5 * k)) + 1) (by omega), h ((88 + (3 * f)) + 0) (by omega), h ((88 + (3 * f)) + 1) (by omega)]
theorem mn_cg {c : Int → Bool} {g g' : Int → Int} {A A' : Int} {n : Nat} (hA : A = A') (h : ∀ j : Int, 0 ≤ j → j < n → g j = g' j) : mnF c g A n = mnF c g' A' n := by
  subst hA
  unfold mnF
  exact fz_congr (fun i x i0 i1 => by rw [h i i0 i1])
theorem agr.wayf (h : agr v w) (hv : wfV v) {f : Int} (hf : 0 ≤ f ∧ f < v 2) : ∀ (n S : Nat) (k : Int), 0 ≤ k → k < v 0 → wayF w f n S k = wayF v f n S k := by
  have hS := wfS hv
  intro n
  induction n with
  | zero => intro S k _ _; rfl
  | succ n ih =>
    intro S k k0 k1
    unfold wayF
    rw [h 0 (by omega)]
    refine mn_cg (by rw [h.hm hv hf ⟨k0, k1⟩]) (fun j j0 j1 => ?_)
    rw [ih _ j j0 (by omega), h.ap hv ⟨j0, by omega⟩ ⟨k0, k1⟩]
theorem agr.rnd (h : agr v w) (hv : wfV v) {f : Int} (hf : 0 ≤ f ∧ f < v 2) (S : Nat) : rndS w f S = rndS v f S := by
  have hS := wfS hv
  unfold rndS
  rw [h 0 (by omega)]
  have e : mnF (fun k => S.testBit k.toNat) (fun k => wayS w f S k + hmS w f k) 1000000 (v 0).toNat = mnF (fun k => S.testBit k.toNat) (fun k => wayS v f S k + hmS v f k) 1000000 (v 0).toNat := by
    refine mn_cg rfl (fun j j0 j1 => ?_)
    unfold wayS
    rw [h.wayf hv hf S S j j0 (by omega), h.hm hv hf ⟨j0, by omega⟩]
  rw [e]
theorem agr.cost (h : agr v w) (hv : wfV v) {f : Int} (hf : 0 ≤ f ∧ f < v 2) (S : Nat) : costS w f S = costS v f S := by
  unfold costS
  rw [h.rnd hv hf, h 3 (by omega)]
theorem agr.net (h : agr v w) (hv : wfV v) (hh c set lot : Int) : netS w hh c set lot = netS v hh c set lot := by
  have hS := wfS hv
  unfold netS
  rw [h 0 (by omega)]
  have e : fz (netF w hh set lot) (-c) (v 0).toNat = fz (netF v hh set lot) (-c) (v 0).toNat := by
    refine fz_congr (fun i x i0 i1 => ?_)
    unfold netF
    rw [h.left hv ⟨i0, by omega⟩]
  rw [e]
theorem agr.opn (h : agr v w) (hv : wfV v) (f : Int) : openN w f = openN v f := by
  have hS := wfS hv
  unfold openN
  rw [h 0 (by omega)]
  apply Nat.eq_of_testBit_eq
  intro i
  rw [setN_bit, setN_bit]
  by_cases q : i < (v 0).toNat
  · rw [h ((8 + (5 * (i : Int))) + 4) (by omega)]
  · simp [q]
theorem agr.wt (h : agr v w) (hv : wfV v) (ho : ∀ i : Int, 0 ≤ i → i < v 1 → w ((58 + (5 * i)) + 4) = v ((58 + (5 * i)) + 4)) (lot : Int) : wtS w lot = wtS v lot := by
  have hH := wfH hv
  unfold wtS
  rw [h 1 (by omega)]
  refine fz_congr (fun i x i0 i1 => ?_)
  unfold wtF
  rw [ho i i0 (by omega)]
theorem agr.sums (h : agr v w) (hv : wfV v) (ho : ∀ i : Int, 0 ≤ i → i < v 1 → w ((58 + (5 * i)) + 4) = v ((58 + (5 * i)) + 4)) {f : Int} (hf : 0 ≤ f ∧ f < v 2) (S : Nat) : netSum w f S = netSum v f S ∧ shortSum w f S = shortSum v f S := by
  unfold netSum shortSum
  rw [h 1 (by omega)]
  constructor
  · refine sz_congr (fun i _ _ => ?_)
    unfold nsF
    rw [h.wt hv ho, h.cost hv hf, h.net hv]
  · refine sz_congr (fun i _ _ => ?_)
    unfold ssF
    rw [h.wt hv ho, h.cost hv hf, h.net hv, h ((88 + (3 * f)) + 2) (by omega)]
end
theorem agr_up4 (v : Vl) (x : Int) : agr v (upV v 4 x) := fun j hj => by simp only [upV]; rw [if_neg hj.1]
theorem agr_ovr (v : Vl) {hm : Int} (hh : 0 ≤ hm ∧ hm < 6) (od : Int) : agr v (upV v ((58 + (5 * hm)) + 4) od) := fun j hj => by simp only [upV]; rw [if_neg (by omega)]
theorem wfV_up4 {v : Vl} (hv : wfV v) {x : Int} (hx : 0 ≤ x ∧ x ≤ 99) : wfV (upV v 4 x) := by
  have hS := wfS hv
  have hH := wfH hv
  have key : ∀ k : Int, k ≠ 4 → upV v 4 x k = v k := fun k hk => by simp only [upV]; rw [if_neg hk]
  refine ⟨by rw [key 0 (by omega)]; exact hS, by rw [key 1 (by omega)]; exact hH, by rw [key 2 (by omega)]; exact wfF hv, by rw [key 3 (by omega)]; exact wfP hv, by simp only [upV]; exact hx, fun s h0 h1 => ?_, fun h h0 h1 => ?_, fun f h0 h1 => ?_⟩
  · rw [key 0 (by omega)] at h1
    rw [key ((8 + (5 * s)) + 0) (by omega), key ((8 + (5 * s)) + 1) (by omega), key ((8 + (5 * s)) + 2) (by omega), key ((8 + (5 * s)) + 3) (by omega), key ((8 + (5 * s)) + 4) (by omega), key 2 (by omega)]
    exact wfs hv h0 h1
  · rw [key 1 (by omega)] at h1
    rw [key ((58 + (5 * h)) + 0) (by omega), key ((58 + (5 * h)) + 1) (by omega), key ((58 + (5 * h)) + 2) (by omega), key ((58 + (5 * h)) + 3) (by omega), key ((58 + (5 * h)) + 4) (by omega)]
    exact wfh hv h0 h1
  · rw [key 2 (by omega)] at h1
    rw [key ((88 + (3 * f)) + 0) (by omega), key ((88 + (3 * f)) + 1) (by omega), key ((88 + (3 * f)) + 2) (by omega)]
    exact wff hv h0 h1
theorem worth_up4 {v : Vl} (hv : wfV v) {f : Int} (hf : 0 ≤ f ∧ f < v 2) (x : Int) (S : Nat) : worthS (upV v 4 x) f S = wH v f x S := by
  rw [worth_eq]
  have hH := wfH hv
  have h := (agr_up4 v x).sums hv (fun i i0 i1 => by simp only [upV]; rw [if_neg (by omega)]) hf S
  rw [h.1, h.2]
  unfold wH
  simp only [upV]
  rfl

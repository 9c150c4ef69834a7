-- hold, let, likely do not touch the class's tables
def agt (v w : Vl) : Prop := ∀ j : Int, (j ≠ 3 ∧ j ≠ 4 ∧ (j % 5 ≠ 2 ∨ 88 ≤ j ∨ j = 2)) → w j = v j
section
variable {v w : Vl}
theorem agt.tk (h : agt v w) (hv : wfV v) {s : Int} (hs : 0 ≤ s ∧ s < v 0) (lot : Int) : tkS w s lot = tkS v s lot := by
  have hS := wfS hv
  have hH := wfH hv
  unfold tkS
  rw [h 1 (by omega)]
  refine fz_congr (fun i x i0 i1 => ?_)
  unfold tkF
  have e : fallsP w i s ↔ fallsP v i s := by
    unfold fallsP
    rw [h ((58 + (5 * i)) + 0) (by omega), h ((58 + (5 * i)) + 1) (by omega), h ((58 + (5 * i)) + 2) (by omega), h ((8 + (5 * s)) + 0) (by omega), h ((8 + (5 * s)) + 1) (by omega), h ((8 + (5 * s)) + 3) (by omega)]
  rw [h ((58 + (5 * i)) + 3) (by omega)]
  by_cases q : fallsP v i s
  · rw [if_pos q, if_pos (e.2 q)]
  · rw [if_neg q, if_neg (fun z => q (e.1 z))]
theorem agt.ap (h : agt v w) (hv : wfV v) {j k : Int} (hj : 0 ≤ j ∧ j < v 0) (hk : 0 ≤ k ∧ k < v 0) : apS w j k = apS v j k := by
  have hS := wfS hv
  unfold apS
  rw [h ((8 + (5 * k)) + 0) (by omega), h ((8 + (5 * k)) + 1) (by omega), h ((8 + (5 * j)) + 0) (by omega), h ((8 + (5 * j)) + 1) (by omega)]
theorem agt.hm (h : agt v w) (hv : wfV v) {f k : Int} (hf : 0 ≤ f ∧ f < v 2) (hk : 0 ≤ k ∧ k < v 0) : hmS w f k = hmS v f k := by
  have hS := wfS hv
  unfold hmS
  rw [h ((8 + (5 * k)) + 0) (by omega), h ((8 + (5 * k)) + 1) (by omega), h ((88 + (3 * f)) + 0) (by omega), h ((88 + (3 * f)) + 1) (by omega)]
theorem agt.wayf (h : agt v w) (hv : wfV v) {f : Int} (hf : 0 ≤ f ∧ f < v 2) : ∀ (n S : Nat) (k : Int), 0 ≤ k → k < v 0 → wayF w f n S k = wayF v f n S k := by
  have hS := wfS hv
  intro n
  induction n with
  | zero => intro S k _ _; rfl
  | succ n ih =>
    intro S k k0 k1
    unfold wayF
    rw [h 0 (by omega)]
    refine mn_cg (by rw [h.hm hv hf ⟨k0, k1⟩]) (fun j j0 j1 => ?_)
    rw [ih _ j j0 (by omega), h.ap hv ⟨j0, by omega⟩ ⟨k0, k1⟩]
theorem agt.rnd (h : agt v w) (hv : wfV v) {f : Int} (hf : 0 ≤ f ∧ f < v 2) (S : Nat) : rndS w f S = rndS v f S := by
  have hS := wfS hv
  unfold rndS
  rw [h 0 (by omega)]
  have e : mnF (fun k => S.testBit k.toNat) (fun k => wayS w f S k + hmS w f k) 1000000 (v 0).toNat = mnF (fun k => S.testBit k.toNat) (fun k => wayS v f S k + hmS v f k) 1000000 (v 0).toNat := by
    refine mn_cg rfl (fun j j0 j1 => ?_)
    unfold wayS
    rw [h.wayf hv hf S S j j0 (by omega), h.hm hv hf ⟨j0, by omega⟩]
  rw [e]
theorem agt.fall (h : agt v w) (hv : wfV v) {i : Int} (hi : 0 ≤ i ∧ i < v 1) : fallN w i = fallN v i := by
  have hS := wfS hv
  have hH := wfH hv
  unfold fallN
  rw [h 0 (by omega)]
  apply Nat.eq_of_testBit_eq
  intro s
  rw [setN_bit, setN_bit]
  by_cases q : s < (v 0).toNat
  · have e : fallsP w i s ↔ fallsP v i s := by
      unfold fallsP
      rw [h ((58 + (5 * i)) + 0) (by omega), h ((58 + (5 * i)) + 1) (by omega), h ((58 + (5 * i)) + 2) (by omega), h ((8 + (5 * (s : Int))) + 0) (by omega), h ((8 + (5 * (s : Int))) + 1) (by omega), h ((8 + (5 * (s : Int))) + 3) (by omega)]
    rw [decide_eq_decide.2 e]
  · simp [q]
theorem agt.rt (h : agt v w) (hv : wfV v) {G : Sh} {D : Dm} (hR : RT v G D) : RT w G D := by
  unfold RT
  rw [h 0 (by omega), h 1 (by omega), h 2 (by omega)]
  refine ⟨fun s lot s0 s1 l0 l1 => ?_, fun f S f0 f1 hS => ?_, hR.2.2⟩
  · rw [h.tk hv ⟨s0, s1⟩]; exact hR.1 s lot s0 s1 l0 l1
  · rw [h.rnd hv ⟨f0, f1⟩]; exact hR.2.1 f S f0 f1 hS
end
theorem RI.agt {v w : Vl} {G : Sh} {D : Dm} (h : RI v G D) (ha : agt v w) (hv : wfV v) : RI w G D := ⟨h.1, h.2.imp id (fun q => ⟨q.1, ha.rt hv q.2⟩)⟩
/-- only the village changed -/
def lnd (D D' : Dm) : Prop := ∀ c, ¬ (1 ≤ c ∧ c ≤ 13) → D' c = D c
theorem lnd.rf {D : Dm} : lnd D D := fun _ _ => rfl
theorem lnd.up (D : Dm) {c : Nat} (hc : 1 ≤ c ∧ c ≤ 13) (i x : Int) : lnd D (upd2 D c i x) := fun c' h => funext fun j => upd2_cell _ _ _ _ (fun e => h (by omega))
/-- the class changed its village to w, and answered a -/
def cU (w : Vl) (G : Sh) (D : Dm) (a : Ans) (r : Int) (G' : Sh) (D' : Dm) : Prop := ∃ D1, lnd D D1 ∧ CV 1 w D1 ∧ CVo 1 w D1 ∧ cP w G D1 a r G' D'
section
variable {l : Launch} {E : Ev} {G : Sh} {D : Dm} {v : Vl} {a : Ans}
def q_likely (v : Vl) (h od : Int) : Ans := if (0 ≤ h ∧ h < v 1) ∧ 0 ≤ od ∧ od ≤ 16 then aNo 0 1 else aNo 1 0
def w_likely (v : Vl) (h od : Int) : Vl := if (0 ≤ h ∧ h < v 1) ∧ 0 ≤ od ∧ od ≤ 16 then oddV v h od else v
theorem c_X9_likely (hL : Lay G) (hv : wfV v) (hC : CV 1 v D) (hO : CVo 1 v D) (hI : RI v G D) {h od : Int} (hh : iRg h) (ho : iRg od) (ha : a = q_likely v h od) : Ct l E MX9_likely 0 0 0 [vR E 0, vI h, vI od] G D (cU (w_likely v h od) G D a) := by
  have hH := wfH hv
  refine s_X9_likely hL ?_
  rw [show D 1 1 = v 1 from hC.2.1]
  refine ⟨hh, fun q => ?_, fun q => ⟨ho, fun q2 => ⟨by omega, ?_⟩, fun q2 => ?_⟩⟩
  · rw [w_likely, if_neg (fun z => q z.1)]
    exact ⟨D, lnd.rf, hC, hO, cP.no hL hI (by rw [ha, q_likely, if_neg (fun z => q z.1)]) yS.rf (Or.inl rfl)⟩
  · rw [w_likely, if_pos ⟨q, q2⟩]
    have hag : agr v (oddV v h od) := agr_ovr v (by omega) od
    have o4 : oddV v h od 4 = v 4 := by simp only [oddV, upV]; rw [if_neg (by omega)]
    have hC1 : CV 1 v (upd2 D 9 h od) := by
      obtain ⟨a0, a1, a2, a3, a4, a5, a6, a7⟩ := hC
      refine ⟨by rw [upd2_cell _ _ _ _ (by decide)]; exact a0, by rw [upd2_cell _ _ _ _ (by decide)]; exact a1, by rw [upd2_cell _ _ _ _ (by decide)]; exact a2, by rw [upd2_cell _ _ _ _ (by decide)]; exact a3, by rw [upd2_cell _ _ _ _ (by decide)]; exact a4, fun s s0 s1 => ?_, fun i i0 i1 => ?_, fun f f0 f1 => ?_⟩
      · simp only [upd2_cell _ _ _ _ (show (1 + 1 : Nat) ≠ 9 by decide), upd2_cell _ _ _ _ (show (1 + 2 : Nat) ≠ 9 by decide), upd2_cell _ _ _ _ (show (1 + 3 : Nat) ≠ 9 by decide), upd2_cell _ _ _ _ (show (1 + 4 : Nat) ≠ 9 by decide), upd2_cell _ _ _ _ (show (1 + 5 : Nat) ≠ 9 by decide)]
        exact a5 s s0 s1
      · simp only [upd2_cell _ _ _ _ (show (1 + 6 : Nat) ≠ 9 by decide), upd2_cell _ _ _ _ (show (1 + 7 : Nat) ≠ 9 by decide), upd2_cell _ _ _ _ (show (1 + 9 : Nat) ≠ 9 by decide)]
        exact a6 i i0 i1
      · simp only [upd2_cell _ _ _ _ (show (1 + 10 : Nat) ≠ 9 by decide), upd2_cell _ _ _ _ (show (1 + 11 : Nat) ≠ 9 by decide), upd2_cell _ _ _ _ (show (1 + 12 : Nat) ≠ 9 by decide)]
        exact a7 f f0 f1
    have hO1 : CVo 1 (oddV v h od) (upd2 D 9 h od) := by
      intro i i0 i1
      rw [hag 1 (by omega)] at i1
      simp only [oddV, upV]
      by_cases z : i = h
      · subst z; rw [if_pos rfl]; exact upd2_same _ _ _ _
      · rw [if_neg (by omega)]
        have : upd2 D 9 h od (1 + 8) i = D (1 + 8) i := by rw [show (1 + 8 : Nat) = 9 from rfl, upd2_place _ _ _ z]
        rw [this]; exact hO i i0 i1
    have hI1 : RI (oddV v h od) G (upd2 D 9 h od) := (hI.agt (fun j hj => by simp only [oddV, upV]; rw [if_neg (by omega)]) hv).up hL (by omega) _ _
    exact ⟨_, lnd.up D (by decide) h od, hag.cv hv o4 hC1, hO1, cP.no hL hI1 (by rw [ha, q_likely, if_pos ⟨q, q2⟩]) yS.rf (Or.inl rfl)⟩
  · rw [w_likely, if_neg (fun z => q2 z.2)]
    exact ⟨D, lnd.rf, hC, hO, cP.no hL hI (by rw [ha, q_likely, if_neg (fun z => q2 z.2)]) yS.rf (Or.inl rfl)⟩
end

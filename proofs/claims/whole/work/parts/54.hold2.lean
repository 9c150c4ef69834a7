-- hold and let of the class
section
variable {l : Launch} {E : Ev} {G : Sh} {D : Dm} {v : Vl} {a : Ans}
theorem CV_own {s f : Int} (hv : wfV v) (hs : 0 ≤ s ∧ s < v 0) (hC : CV 1 v D) : CV 1 (upV v ((8 + (5 * s)) + 4) f) (upd2 D 6 s f) := by
  have hS := wfS hv
  have hH := wfH hv
  have key : ∀ k : Int, k ≠ (8 + (5 * s)) + 4 → upV v ((8 + (5 * s)) + 4) f k = v k := fun k hk => by simp only [upV]; rw [if_neg hk]
  have hag : agt v (upV v ((8 + (5 * s)) + 4) f) := fun j hj => key j (by omega)
  obtain ⟨a0, a1, a2, a3, a4, a5, a6, a7⟩ := hC
  refine ⟨by rw [upd2_cell _ _ _ _ (by decide), key 0 (by omega)]; exact a0, by rw [upd2_cell _ _ _ _ (by decide), key 1 (by omega)]; exact a1, by rw [upd2_cell _ _ _ _ (by decide), key 2 (by omega)]; exact a2, by rw [upd2_cell _ _ _ _ (by decide), key 3 (by omega)]; exact a3, by rw [upd2_cell _ _ _ _ (by decide), key 4 (by omega)]; exact a4, fun t t0 t1 => ?_, fun i i0 i1 => ?_, fun g g0 g1 => ?_⟩
  · rw [key 0 (by omega)] at t1
    simp only [upd2_cell _ _ _ _ (show (1 + 1 : Nat) ≠ 6 by decide), upd2_cell _ _ _ _ (show (1 + 2 : Nat) ≠ 6 by decide), upd2_cell _ _ _ _ (show (1 + 3 : Nat) ≠ 6 by decide), upd2_cell _ _ _ _ (show (1 + 4 : Nat) ≠ 6 by decide)]
    rw [key ((8 + (5 * t)) + 0) (by omega), key ((8 + (5 * t)) + 1) (by omega), key ((8 + (5 * t)) + 2) (by omega), key ((8 + (5 * t)) + 3) (by omega)]
    obtain ⟨b0, b1, b2, b3, b4⟩ := a5 t t0 t1
    refine ⟨b0, b1, b2, b3, ?_⟩
    show upd2 D 6 s f 6 t = _
    by_cases z : t = s
    · subst z; rw [upd2_same]; simp [upV]
    · rw [upd2_place _ _ _ z, key ((8 + (5 * t)) + 4) (by omega)]; exact b4
  · rw [key 1 (by omega)] at i1
    simp only [upd2_cell _ _ _ _ (show (1 + 6 : Nat) ≠ 6 by decide), upd2_cell _ _ _ _ (show (1 + 7 : Nat) ≠ 6 by decide), upd2_cell _ _ _ _ (show (1 + 9 : Nat) ≠ 6 by decide)]
    rw [key ((58 + (5 * i)) + 0) (by omega), key ((58 + (5 * i)) + 3) (by omega), hag.fall hv ⟨i0, i1⟩]
    exact a6 i i0 i1
  · rw [key 2 (by omega)] at g1
    simp only [upd2_cell _ _ _ _ (show (1 + 10 : Nat) ≠ 6 by decide), upd2_cell _ _ _ _ (show (1 + 11 : Nat) ≠ 6 by decide), upd2_cell _ _ _ _ (show (1 + 12 : Nat) ≠ 6 by decide)]
    rw [key ((88 + (3 * g)) + 0) (by omega), key ((88 + (3 * g)) + 1) (by omega), key ((88 + (3 * g)) + 2) (by omega)]
    exact a7 g g0 g1
theorem CVo_own {s f : Int} (hv : wfV v) (hs : 0 ≤ s ∧ s < v 0) (hO : CVo 1 v D) : CVo 1 (upV v ((8 + (5 * s)) + 4) f) (upd2 D 6 s f) := by
  have hS := wfS hv
  intro i i0 i1
  have e1 : upV v ((8 + (5 * s)) + 4) f 1 = v 1 := by simp only [upV]; rw [if_neg (by omega)]
  rw [e1] at i1
  rw [upd2_cell _ _ _ _ (by decide)]
  simp only [upV]
  rw [if_neg (by omega)]
  exact hO i i0 i1
theorem RI_own {s f : Int} (hL : Lay G) (hv : wfV v) (hs : 0 ≤ s ∧ s < v 0) (hI : RI v G D) : RI (upV v ((8 + (5 * s)) + 4) f) G (upd2 D 6 s f) := by
  have hS := wfS hv
  exact (hI.agt (fun j hj => by simp only [upV]; rw [if_neg (by omega)]) hv).up hL (by omega) _ _
theorem c_X9_hold (hL : Lay G) (hv : wfV v) (hC : CV 1 v D) (hO : CVo 1 v D) (hI : RI v G D) {s f : Int} (hs : iRg s) (hf : iRg f) (ha : a = q_hold v s f) : Ct l E MX9_hold 0 0 0 [vR E 0, vI s, vI f] G D (cU (w_hold v s f) G D a) := by
  have hS := wfS hv
  refine s_X9_hold hL ?_
  rw [show D 1 0 = v 0 from hC.1, show D 1 2 = v 2 from hC.2.2.1]
  have no : ¬ ((0 ≤ s ∧ s < v 0) ∧ (f = -1 ∨ (0 ≤ f ∧ f < v 2))) → cU (w_hold v s f) G D a 0 G (upd2 D 0 11 1) := by
    intro q
    rw [w_hold, if_neg q]
    exact ⟨D, lnd.rf, hC, hO, cP.no hL hI (by rw [ha, q_hold, if_neg q]) yS.rf (Or.inl rfl)⟩
  refine ⟨hs, fun q => no (fun z => q z.1), fun q => ⟨hf, fun q2 => ⟨by omega, ?_⟩, fun q2 => no (fun z => q2 z.2)⟩⟩
  rw [(CV_s hC q.1 q.2).2.2.2.2]
  refine ⟨fun z => ?_, fun z => ?_⟩
  · rw [w_hold, if_pos ⟨q, q2⟩, if_neg z]
    exact ⟨_, lnd.up D (by decide) s f, CV_own hv q hC, CVo_own hv q hO, cP.no hL (RI_own hL hv q hI) (by rw [ha, q_hold, if_pos ⟨q, q2⟩, if_neg z]) yS.rf (Or.inl rfl)⟩
  · rw [w_hold, if_pos ⟨q, q2⟩, if_pos z]
    exact ⟨D, lnd.rf, hC, hO, cP.no hL hI (by rw [ha, q_hold, if_pos ⟨q, q2⟩, if_pos z]) yS.rf (Or.inl rfl)⟩
theorem c_X9_let (hL : Lay G) (hv : wfV v) (hC : CV 1 v D) (hO : CVo 1 v D) (hI : RI v G D) {k x : Int} (hk : iRg k) (hx : iRg x) (ha : a = q_let k x) : Ct l E MX9_let 0 0 0 [vR E 0, vI k, vI x] G D (cU (w_let v k x) G D a) := by
  have hS := wfS hv
  have hH := wfH hv
  have no : ¬ ((k = 0 ∧ 1 ≤ x ∧ x ≤ 99) ∨ (k = 1 ∧ 0 ≤ x ∧ x ≤ 99)) → cU (w_let v k x) G D a 0 G (upd2 D 0 11 1) := by
    intro q
    rw [w_let, if_neg q]
    exact ⟨D, lnd.rf, hC, hO, cP.no hL hI (by rw [ha, q_let, if_neg q]) yS.rf (Or.inl rfl)⟩
  have ys : ((k = 0 ∧ 1 ≤ x ∧ x ≤ 99) ∨ (k = 1 ∧ 0 ≤ x ∧ x ≤ 99)) → cU (w_let v k x) G D a 1 G (upd2 (upd2 D 1 (3 + k) x) 0 11 0) := by
    intro q
    have k01 : k = 0 ∨ k = 1 := by omega
    rw [w_let, if_pos q]
    have key : ∀ j : Int, j ≠ 3 + k → upV v (3 + k) x j = v j := fun j hj => by simp only [upV]; rw [if_neg hj]
    have hag : agt v (upV v (3 + k) x) := fun j hj => key j (by omega)
    have hcell : ∀ (c : Nat) (i : Int), upd2 D 1 (3 + k) x (1 + (c + 1)) i = D (1 + (c + 1)) i := fun c i => upd2_cell _ _ _ _ (by omega)
    refine ⟨upd2 D 1 (3 + k) x, lnd.up D (by decide) _ _, ?_, ?_, cP.no hL ((hI.agt hag hv).up hL (by omega) _ _) (by rw [ha, q_let, if_pos q]) yS.rf (Or.inl rfl)⟩
    · obtain ⟨a0, a1, a2, a3, a4, a5, a6, a7⟩ := hC
      refine ⟨by rw [upd2_place _ _ _ (by omega), key 0 (by omega)]; exact a0, by rw [upd2_place _ _ _ (by omega), key 1 (by omega)]; exact a1, by rw [upd2_place _ _ _ (by omega), key 2 (by omega)]; exact a2, ?_, ?_, fun t t0 t1 => ?_, fun i i0 i1 => ?_, fun g g0 g1 => ?_⟩
      · rcases k01 with rfl | rfl
        · simp [upd2, upV]
        · rw [upd2_place _ _ _ (by decide), key 3 (by decide)]; exact a3
      · rcases k01 with rfl | rfl
        · rw [upd2_place _ _ _ (by decide), key 4 (by decide)]; exact a4
        · simp [upd2, upV]
      · rw [key 0 (by omega)] at t1
        rw [hcell 0 t, hcell 1 t, hcell 2 t, hcell 3 t, hcell 4 t, key ((8 + (5 * t)) + 0) (by omega), key ((8 + (5 * t)) + 1) (by omega), key ((8 + (5 * t)) + 2) (by omega), key ((8 + (5 * t)) + 3) (by omega), key ((8 + (5 * t)) + 4) (by omega)]
        exact a5 t t0 t1
      · rw [key 1 (by omega)] at i1
        rw [hcell 5 i, hcell 6 i, hcell 8 i, key ((58 + (5 * i)) + 0) (by omega), key ((58 + (5 * i)) + 3) (by omega), hag.fall hv ⟨i0, i1⟩]
        exact a6 i i0 i1
      · rw [key 2 (by omega)] at g1
        rw [hcell 9 g, hcell 10 g, hcell 11 g, key ((88 + (3 * g)) + 0) (by omega), key ((88 + (3 * g)) + 1) (by omega), key ((88 + (3 * g)) + 2) (by omega)]
        exact a7 g g0 g1
    · intro i i0 i1
      rw [key 1 (by omega)] at i1
      rw [hcell 7 i, key ((58 + (5 * i)) + 4) (by omega)]
      exact hO i i0 i1
  refine s_X9_let hL ⟨hk, fun q => ⟨fun q2 => no (by omega), fun q2 => ⟨hx, fun q3 => no (by omega), fun q3 => ?_⟩⟩, fun q => ⟨hx, fun q3 => ⟨fun _ => no (by omega), fun z => absurd z (by omega)⟩, fun q3 => ?_⟩⟩
  · subst q2; exact ys (Or.inr ⟨rfl, q3⟩)
  · subst q; exact ys (Or.inl ⟨rfl, q3⟩)
end

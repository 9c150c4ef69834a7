/-! ===== the class's village ===== -/
def w0V (v : Vl) : Vl := fun i => if i = 3 then v 3 else if i = 4 then v 4 else 0
def r0 : Row := fun _ => 0
def pV (T : Int → Int) (n : Int) (v : Vl) : Sum (Int × Int) Vl := pAll T n 601 (w0V v) r0 r0 (tokS T n 0)
theorem w0_ok {v : Vl} (hv : wfV v) : wfD (w0V v) := by
  have h3 := wfP hv
  have h4 := wfU hv
  have e0 : w0V v 0 = 0 := rfl
  have e1 : w0V v 1 = 0 := rfl
  have e2 : w0V v 2 = 0 := rfl
  have e3 : w0V v 3 = v 3 := rfl
  have e4 : w0V v 4 = v 4 := rfl
  refine ⟨⟨by rw [e0]; decide, by rw [e1]; decide, by rw [e2]; decide, by rw [e3]; exact h3, by rw [e4]; exact h4, fun s p q => ?_, fun s p q => ?_, fun s p q => ?_⟩, fun h p q => ?_⟩
  · rw [e0] at q; omega
  · rw [e1] at q; omega
  · rw [e2] at q; omega
  · rw [e1] at p
    unfold w0V
    rw [if_neg (by omega), if_neg (by omega), if_neg (by omega), if_neg (by omega)]
    exact ⟨rfl, rfl⟩
def q_vil (T : Int → Int) (m n : Int) (v : Vl) : Ans := if 0 ≤ n ∧ n ≤ m then (match pV T n v with | .inl _ => aNo 9 (-1) | .inr w => aNo 0 (w 0)) else aNo 1 (-1)
/-- where the class's village call writes -/
def vO (D D' : Dm) : Prop := ∀ c i, ¬ (c = 0 ∧ (i = 11 ∨ i = 14 ∨ i = 15)) → ¬ (1 ≤ c ∧ c ≤ 13) → ¬ (c = 23 ∧ 1 ≤ i ∧ i ≤ 10) → ¬ (25 ≤ c ∧ c ≤ 41) → ¬ (c = 42 ∧ i = 5) → D' c i = D c i
def vlP (T : Int → Int) (m n : Int) (v : Vl) (D D' : Dm) : Prop :=
  (¬ (0 ≤ n ∧ n ≤ m) → D' = upd2 D 0 11 1) ∧
  (0 ≤ n ∧ n ≤ m → D' 23 1 = 0 ∧ ((∃ f, pV T n v = .inl f ∧ D' 0 14 = f.1 ∧ D' 0 15 = f.2 ∧ (∀ c, 1 ≤ c → c ≤ 13 → D' c = D c) ∧ D' 42 5 = D 42 5) ∨ (∃ w, pV T n v = .inr w ∧ D' 0 14 = 0 ∧ D' 0 15 = -1 ∧ wfV w ∧ CV 1 w D' ∧ CVo 1 w D' ∧ D' 42 5 = 0)))
section
variable {l : Launch} {E : Ev} {G : Sh} {D : Dm} {T : Int → Int} {n : Int} {v : Vl}
theorem c_X9_village (hL : Lay G) (hv : wfV v) (hC : CV 1 v D) (hF : 0 ≤ D 23 1 ∧ D 23 1 ≤ 600) (hn : iRg n) : Ct l E MX9_village 0 0 0 [vR E 0, vI n] G D (fun r G' D' => G' = G ∧ r = (q_vil (D 24) (D 23 1) n v).2.1 ∧ D' 0 11 = (q_vil (D 24) (D 23 1) n v).1 ∧ vO D D' ∧ vlP (D 24) (D 23 1) n v D D') := by
  generalize hQ : (fun (r : Int) (G' : Sh) (D' : Dm) => G' = G ∧ r = (q_vil (D 24) (D 23 1) n v).2.1 ∧ D' 0 11 = (q_vil (D 24) (D 23 1) n v).1 ∧ vO D D' ∧ vlP (D 24) (D 23 1) n v D D') = Q
  have main : Ct l E MX9_village 0 0 0 [vR E 0, vI n] G D Q := by
    have no : ¬ (0 ≤ n ∧ n ≤ D 23 1) → Q (-1) G (upd2 D 0 11 1) := by
      intro h
      rw [← hQ]
      have e : q_vil (D 24) (D 23 1) n v = aNo 1 (-1) := if_neg h
      refine ⟨rfl, by rw [e], by rw [e, upd2_same], fun c i p _ _ _ _ => ?_, fun _ => rfl, fun z => absurd z h⟩
      simp only [upd2]
      rw [if_neg (by omega)]
    refine s_X9_village hL ⟨hn, fun z => no (by omega), fun z => ⟨fun z2 => ?_, fun z2 => no (by omega)⟩⟩
    have hnn : 0 ≤ n ∧ n ≤ D 23 1 := ⟨z, z2⟩
    refine C0.use (c_X6_parse hL hF hnn rfl (w0_ok hv) ⟨rfl, rfl, rfl⟩ (sn0 := r0) (fn0 := r0)) ?_
    rintro r D9 ⟨hp, hcase⟩
    try dsimp only
    rcases hcase with ⟨w, hw, rfl, hwf, hk, h3, h4, hcv⟩ | ⟨hw, rfl, h3⟩
    · refine ⟨by decide, fun _ => ?_, fun y => absurd y (by decide)⟩
      refine C0.use (c_X8_takePlaces hL (lay_vil1 hL) (lay_vil25 hL) (by decide)) ?_
      rintro - D15 rfl
      try dsimp only
      generalize hX : upd2 (upd2 (upd2 D9 23 1 0) 0 14 (D9 23 3)) 0 15 (D9 23 4) = X
      have e25 : ∀ c, 25 ≤ c → X c = D9 c := fun c hc => by
        rw [← hX]; funext i
        rw [upd2_cell _ _ _ _ (by omega), upd2_cell _ _ _ _ (by omega), upd2_cell _ _ _ _ (by omega)]
      have e13 : ∀ c, 1 ≤ c → c ≤ 13 → X c = D c := fun c hc h2 => by
        rw [← hX]; funext i
        rw [upd2_cell _ _ _ _ (by omega), upd2_cell _ _ _ _ (by omega), upd2_cell _ _ _ _ (by omega)]
        exact hp c i (by omega) (by omega) (by omega)
      obtain ⟨hc0, hcS, hcH, hcF⟩ := hcv
      have t0 : ∀ i, 0 ≤ i → i ≤ 2 → tkP X 1 25 12 1 i = D9 25 i := fun i p q => by
        simp only [tkP]; rw [if_pos ⟨trivial, p, q⟩, e25 25 (by decide)]
      have t3 : ∀ i, 3 ≤ i → tkP X 1 25 12 1 i = D 1 i := fun i p => by
        simp only [tkP]; rw [if_neg (by omega), if_neg (by omega), e13 1 (by decide) (by decide)]
      have tj : ∀ (j : Nat) (i : Int), j < 12 → 0 ≤ i → i < vlen j → tkP X 1 25 12 (1 + (j + 1)) i = D9 (25 + (j + 1)) i := fun j i hj p q => by
        simp only [tkP]
        rw [if_neg (by omega), show 1 + (j + 1) - 1 - 1 = j by omega, if_pos (by omega), show 25 + (1 + (j + 1) - 1) = 25 + (j + 1) by omega, e25 _ (by omega)]
      have hS := wfS hwf
      have hH := wfH hwf
      have hFm := wfF hwf
      have rS : ∀ (j : Nat) (i : Int), j < 5 → 0 ≤ i → i < w 0 → tkP X 1 25 12 (1 + (j + 1)) i = D9 (25 + (j + 1)) i := fun j i hj i0 i1 => tj j i (by omega) i0 (by unfold vlen; rw [if_pos hj]; omega)
      have rH : ∀ (j : Nat) (i : Int), 5 ≤ j → j < 9 → 0 ≤ i → i < w 1 → tkP X 1 25 12 (1 + (j + 1)) i = D9 (25 + (j + 1)) i := fun j i hj hj2 i0 i1 => tj j i (by omega) i0 (by unfold vlen; rw [if_neg (by omega), if_pos hj2]; omega)
      have rF : ∀ (j : Nat) (i : Int), 9 ≤ j → j < 12 → 0 ≤ i → i < w 2 → tkP X 1 25 12 (1 + (j + 1)) i = D9 (25 + (j + 1)) i := fun j i hj hj2 i0 i1 => tj j i (by omega) i0 (by unfold vlen; rw [if_neg (by omega), if_neg (by omega)]; omega)
      have hCV : CV 1 w (tkP X 1 25 12) := by
        refine ⟨(t0 0 (by decide) (by decide)).trans hc0.1, (t0 1 (by decide) (by decide)).trans hc0.2.1, (t0 2 (by decide) (by decide)).trans hc0.2.2, ?_, ?_, fun s s0 s1 => ?_, fun s s0 s1 => ?_, fun s s0 s1 => ?_⟩
        · rw [t3 3 (by decide), hC.2.2.2.1]; exact hk.1.symm
        · rw [t3 4 (by decide), hC.2.2.2.2.1]; exact hk.2.symm
        · obtain ⟨b1, b2, b3, b4, b5⟩ := hcS s s0 s1
          exact ⟨(rS 0 s (by decide) s0 s1).trans b1, (rS 1 s (by decide) s0 s1).trans b2, (rS 2 s (by decide) s0 s1).trans b3, (rS 3 s (by decide) s0 s1).trans b4, (rS 4 s (by decide) s0 s1).trans b5⟩
        · obtain ⟨⟨b1, b2, b3⟩, _⟩ := hcH s s0 s1
          exact ⟨(rH 5 s (by decide) (by decide) s0 s1).trans b1, (rH 6 s (by decide) (by decide) s0 s1).trans b2, (rH 8 s (by decide) (by decide) s0 s1).trans b3⟩
        · obtain ⟨b1, b2, b3⟩ := hcF s s0 s1
          exact ⟨(rF 9 s (by decide) (by decide) s0 s1).trans b1, (rF 10 s (by decide) (by decide) s0 s1).trans b2, (rF 11 s (by decide) (by decide) s0 s1).trans b3⟩
      have hCVo : CVo 1 w (tkP X 1 25 12) := fun s s0 s1 => (rH 7 s (by decide) (by decide) s0 s1).trans (hcH s s0 s1).2
      have tO : ∀ c, ¬ (1 ≤ c ∧ c ≤ 13) → tkP X 1 25 12 c = X c := fun c hc => by
        funext i; simp only [tkP]; rw [if_neg (by omega), if_neg (by omega)]
      have up : ∀ c, 1 ≤ c → c ≤ 13 → upd2 (upd2 (tkP X 1 25 12) 42 5 0) 0 11 0 c = tkP X 1 25 12 c := fun c h1 h2 => by
        funext i; rw [upd2_cell _ _ _ _ (by omega), upd2_cell _ _ _ _ (by omega)]
      have e : q_vil (D 24) (D 23 1) n v = aNo 0 (w 0) := by
        unfold q_vil
        rw [if_pos hnn]
        unfold pV
        rw [hw]
      rw [← hQ]
      refine ⟨rfl, ?_, ?_, fun c i p1 p2 p3 p4 p5 => ?_, fun y => absurd hnn y, fun _ => ⟨?_, Or.inr ⟨w, hw, ?_, ?_, hwf, ?_, ?_, ?_⟩⟩⟩
      · rw [e]; exact hCV.1
      · rw [e, upd2_same]
      · rw [show upd2 (upd2 (tkP X 1 25 12) 42 5 0) 0 11 0 c i = X c i by simp only [upd2]; rw [if_neg (by omega), if_neg (by omega), tO c p2], ← hX]
        simp only [upd2]
        rw [if_neg (by omega), if_neg (by omega), if_neg (by omega)]
        exact hp c i (by omega) (by omega) (by omega)
      · rw [upd2_cell _ _ _ _ (by decide), upd2_cell _ _ _ _ (by decide), tO 23 (by decide), ← hX]; simp [upd2]
      · rw [upd2_place _ _ _ (by decide), upd2_cell _ _ _ _ (by decide), tO 0 (by decide), ← hX]; simp [upd2]; exact h3
      · rw [upd2_place _ _ _ (by decide), upd2_cell _ _ _ _ (by decide), tO 0 (by decide), ← hX]; simp [upd2]; exact h4
      · unfold CV
        rw [up 1 (by decide) (by decide), up (1 + 1) (by decide) (by decide), up (1 + 2) (by decide) (by decide), up (1 + 3) (by decide) (by decide), up (1 + 4) (by decide) (by decide), up (1 + 5) (by decide) (by decide), up (1 + 6) (by decide) (by decide), up (1 + 7) (by decide) (by decide), up (1 + 9) (by decide) (by decide), up (1 + 10) (by decide) (by decide), up (1 + 11) (by decide) (by decide), up (1 + 12) (by decide) (by decide)]
        exact hCV
      · unfold CVo
        rw [up (1 + 8) (by decide) (by decide)]
        exact hCVo
      · rw [upd2_cell _ _ _ _ (by decide), upd2_same]
    · refine ⟨by decide, fun y => absurd rfl y, fun _ => ?_⟩
      have e : q_vil (D 24) (D 23 1) n v = aNo 9 (-1) := by
        unfold q_vil
        rw [if_pos hnn]
        unfold pV
        rw [hw]
      rw [← hQ]
      refine ⟨rfl, by rw [e], by rw [e, upd2_same], fun c i p1 p2 p3 p4 p5 => ?_, fun y => absurd hnn y, fun _ => ⟨?_, Or.inl ⟨_, hw, ?_, ?_, fun c h1 h2 => ?_, ?_⟩⟩⟩
      · simp only [upd2]
        rw [if_neg (by omega), if_neg (by omega), if_neg (by omega), if_neg (by omega)]
        exact hp c i (by omega) (by omega) (by omega)
      · simp [upd2]
      · simp [upd2]
      · simp [upd2]
      · funext i
        rw [upd2_cell _ _ _ _ (by omega), upd2_cell _ _ _ _ (by omega), upd2_cell _ _ _ _ (by omega), upd2_cell _ _ _ _ (by omega)]
        exact hp c i (by omega) (by omega) (by omega)
      · rw [upd2_cell _ _ _ _ (by decide), upd2_cell _ _ _ _ (by decide), upd2_cell _ _ _ _ (by decide), upd2_cell _ _ _ _ (by decide)]
        exact hp 42 5 (by omega) (by omega) (by omega)
  exact main
end

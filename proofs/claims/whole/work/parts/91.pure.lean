/-! ===== what a part that is read leaves ===== -/
def wfD (w : Vl) : Prop := wfV w ∧ (∀ h, w 1 ≤ h → h < 6 → w ((58 + (5 * h)) + 1) = 0 ∧ w ((58 + (5 * h)) + 2) = 0)
def kp (w w' : Vl) : Prop := w' 3 = w 3 ∧ w' 4 = w 4
theorem wfD.b {w : Vl} (h : wfD w) : WB w := ⟨wfS h.1, wfH h.1, wfF h.1⟩
section
variable {T : Int → Int} {n : Int}
theorem nx_lt {K : Tk} (h : Kok T n K) (h1 : K.1 = 1 ∨ K.1 = 2 ∨ K.1 = 3) : Kok T n (nxK T n K) ∧ K.2.1 < (nxK T n K).2.1 := by
  have h2 := nx_ok h (by omega)
  have h3 := h.2.2.2.1 h1
  exact ⟨h2.1, by omega⟩
theorem WW_r {c : Int} {K : Tk} {k : Tk → Rs} {r : Tk × Vl × Row × Row} (h : WW T n c K k = .inr r) (hK : Kok T n K) : k (nxK T n K) = .inr r ∧ Kok T n (nxK T n K) ∧ K.2.1 < (nxK T n K).2.1 := by
  unfold WW at h
  split at h
  · next q => exact ⟨h, nx_lt hK (Or.inl q.1)⟩
  · cases h
theorem NB_r {lo hi : Int} {K : Tk} {k : Int → Tk → Rs} {r : Tk × Vl × Row × Row} (h : NB T n lo hi K k = .inr r) (hK : Kok T n K) : (lo ≤ K.2.2.2 ∧ K.2.2.2 ≤ hi) ∧ (0 ≤ K.2.2.2 ∧ K.2.2.2 ≤ 99) ∧ k K.2.2.2 (nxK T n K) = .inr r ∧ Kok T n (nxK T n K) ∧ K.2.1 < (nxK T n K).2.1 := by
  unfold NB at h
  split at h
  · next q =>
    split at h
    · next q2 => exact ⟨q2, hK.2.2.2.2.2 q, h, nx_lt hK (Or.inr (Or.inl q))⟩
    · cases h
  · cases h
theorem SG_r {K : Tk} {k : Tk → Rs} {r : Tk × Vl × Row × Row} (h : SG T n K k = .inr r) (hK : Kok T n K) : k (nxK T n K) = .inr r ∧ Kok T n (nxK T n K) ∧ K.2.1 < (nxK T n K).2.1 := by
  unfold SG at h
  split at h
  · next q => exact ⟨h, nx_lt hK (Or.inr (Or.inr q))⟩
  · cases h
theorem NM_r {rw' : Row} {m : Int} {K : Tk} {k : Int → Tk → Rs} {r : Tk × Vl × Row × Row} (h : NM T n rw' m K k = .inr r) (hK : Kok T n K) : k K.2.2.2 (nxK T n K) = .inr r ∧ Kok T n (nxK T n K) ∧ K.2.1 < (nxK T n K).2.1 := by
  unfold NM at h
  split at h
  · next q =>
    split at h
    · exact ⟨h, nx_lt hK (Or.inl q.1)⟩
    · cases h
  · cases h
theorem kE_r {K : Tk} {w : Vl} {sn fn : Row} {K' : Tk} {w' : Vl} {sn' fn' : Row} (h : kEnd T n K w sn fn = .inr (K', w', sn', fn')) (hK : Kok T n K) : Kok T n K' ∧ K.2.1 < K'.2.1 ∧ w' = w ∧ sn' = sn ∧ fn' = fn := by
  obtain ⟨h1, h2, h3⟩ := SG_r h hK
  cases h1
  exact ⟨h2, h3, rfl, rfl, rfl⟩
theorem wf_strip {w : Vl} (hw : wfD w) (hlt : w 0 < 10) {x1 x2 x3 x4 : Int} (h1 : 0 ≤ x1 ∧ x1 ≤ 99) (h2 : 0 ≤ x2 ∧ x2 ≤ 99) (h3 : 1 ≤ x3 ∧ x3 ≤ 99) (h4 : 1 ≤ x4 ∧ x4 ≤ 3) : wfD (wStrip w x1 x2 x3 x4) ∧ kp w (wStrip w x1 x2 x3 x4) := by
  obtain ⟨hv, hz⟩ := hw
  have hS := wfS hv
  have hH := wfH hv
  have hF := wfF hv
  have w0 : wStrip w x1 x2 x3 x4 0 = w 0 + 1 := rfl
  have key : ∀ i : Int, i ≠ 0 → ¬ (8 + 5 * w 0 ≤ i ∧ i ≤ 8 + 5 * w 0 + 4) → wStrip w x1 x2 x3 x4 i = w i := fun i h1 h2 => by
    unfold wStrip
    rw [if_neg h1, if_neg (by omega), if_neg (by omega), if_neg (by omega), if_neg (by omega), if_neg (by omega)]
  have v0 : wStrip w x1 x2 x3 x4 ((8 + (5 * w 0)) + 0) = x1 := by unfold wStrip; rw [if_neg (by omega), if_pos (by omega)]
  have v1 : wStrip w x1 x2 x3 x4 ((8 + (5 * w 0)) + 1) = x2 := by unfold wStrip; rw [if_neg (by omega), if_neg (by omega), if_pos (by omega)]
  have v2 : wStrip w x1 x2 x3 x4 ((8 + (5 * w 0)) + 2) = x3 := by unfold wStrip; rw [if_neg (by omega), if_neg (by omega), if_neg (by omega), if_pos (by omega)]
  have v3 : wStrip w x1 x2 x3 x4 ((8 + (5 * w 0)) + 3) = x4 := by unfold wStrip; rw [if_neg (by omega), if_neg (by omega), if_neg (by omega), if_neg (by omega), if_pos (by omega)]
  have v4 : wStrip w x1 x2 x3 x4 ((8 + (5 * w 0)) + 4) = -1 := by unfold wStrip; rw [if_neg (by omega), if_neg (by omega), if_neg (by omega), if_neg (by omega), if_neg (by omega), if_pos (by omega)]
  refine ⟨⟨⟨by rw [w0]; omega, by rw [key 1 (by omega) (by omega)]; exact hH, by rw [key 2 (by omega) (by omega)]; exact hF, by rw [key 3 (by omega) (by omega)]; exact wfP hv, by rw [key 4 (by omega) (by omega)]; exact wfU hv, fun s s0 s1 => ?_, fun h p q => ?_, fun f p q => ?_⟩, fun h p q => ?_⟩, key 3 (by omega) (by omega), key 4 (by omega) (by omega)⟩
  · rw [w0] at s1
    rw [key 2 (by omega) (by omega)]
    by_cases z : s = w 0
    · subst z
      rw [v0, v1, v2, v3, v4]
      omega
    · rw [key _ (by omega) (by omega), key _ (by omega) (by omega), key _ (by omega) (by omega), key _ (by omega) (by omega), key _ (by omega) (by omega)]
      exact wfs hv s0 (by omega)
  · rw [key 1 (by omega) (by omega)] at q
    rw [key _ (by omega) (by omega), key _ (by omega) (by omega), key _ (by omega) (by omega), key _ (by omega) (by omega), key _ (by omega) (by omega)]
    exact wfh hv p q
  · rw [key 2 (by omega) (by omega)] at q
    rw [key _ (by omega) (by omega), key _ (by omega) (by omega), key _ (by omega) (by omega)]
    exact wff hv p q
  · rw [key 1 (by omega) (by omega)] at p
    rw [key _ (by omega) (by omega), key _ (by omega) (by omega)]
    exact hz h p q
theorem wf_harm {w : Vl} (hw : wfD w) (hlt : w 1 < 6) {kd a b t o : Int} (h0 : 0 ≤ kd ∧ kd ≤ 3) (h1 : 0 ≤ a ∧ a ≤ 99) (h2 : 0 ≤ b ∧ b ≤ 99) (h3 : 0 ≤ t ∧ t ≤ 8) (h4 : 0 ≤ o ∧ o ≤ 16) : wfD (wHarm w kd a b t o) ∧ kp w (wHarm w kd a b t o) := by
  obtain ⟨hv, hz⟩ := hw
  have hS := wfS hv
  have hH := wfH hv
  have hF := wfF hv
  have w1 : wHarm w kd a b t o 1 = w 1 + 1 := by unfold wHarm; rw [if_pos rfl]
  have key : ∀ i : Int, i ≠ 1 → ¬ (58 + 5 * w 1 ≤ i ∧ i ≤ 58 + 5 * w 1 + 4) → wHarm w kd a b t o i = w i := fun i h1 h2 => by
    unfold wHarm
    rw [if_neg h1, if_neg (by omega), if_neg (by omega), if_neg (by omega), if_neg (by omega), if_neg (by omega)]
  have v0 : wHarm w kd a b t o ((58 + (5 * w 1)) + 0) = kd := by unfold wHarm; rw [if_neg (by omega), if_pos (by omega)]
  have v1 : wHarm w kd a b t o ((58 + (5 * w 1)) + 1) = a := by unfold wHarm; rw [if_neg (by omega), if_neg (by omega), if_pos (by omega)]
  have v2 : wHarm w kd a b t o ((58 + (5 * w 1)) + 2) = b := by unfold wHarm; rw [if_neg (by omega), if_neg (by omega), if_neg (by omega), if_pos (by omega)]
  have v3 : wHarm w kd a b t o ((58 + (5 * w 1)) + 3) = t := by unfold wHarm; rw [if_neg (by omega), if_neg (by omega), if_neg (by omega), if_neg (by omega), if_pos (by omega)]
  have v4 : wHarm w kd a b t o ((58 + (5 * w 1)) + 4) = o := by unfold wHarm; rw [if_neg (by omega), if_neg (by omega), if_neg (by omega), if_neg (by omega), if_neg (by omega), if_pos (by omega)]
  refine ⟨⟨⟨by rw [key 0 (by omega) (by omega)]; exact hS, by rw [w1]; omega, by rw [key 2 (by omega) (by omega)]; exact hF, by rw [key 3 (by omega) (by omega)]; exact wfP hv, by rw [key 4 (by omega) (by omega)]; exact wfU hv, fun s s0 s1 => ?_, fun h p q => ?_, fun f p q => ?_⟩, fun h p q => ?_⟩, key 3 (by omega) (by omega), key 4 (by omega) (by omega)⟩
  · rw [key 0 (by omega) (by omega)] at s1
    rw [key 2 (by omega) (by omega), key _ (by omega) (by omega), key _ (by omega) (by omega), key _ (by omega) (by omega), key _ (by omega) (by omega), key _ (by omega) (by omega)]
    exact wfs hv s0 s1
  · rw [w1] at q
    by_cases z : h = w 1
    · subst z
      rw [v0, v1, v2, v3, v4]
      omega
    · rw [key _ (by omega) (by omega), key _ (by omega) (by omega), key _ (by omega) (by omega), key _ (by omega) (by omega), key _ (by omega) (by omega)]
      exact wfh hv p (by omega)
  · rw [key 2 (by omega) (by omega)] at q
    rw [key _ (by omega) (by omega), key _ (by omega) (by omega), key _ (by omega) (by omega)]
    exact wff hv p q
  · rw [w1] at p
    rw [key _ (by omega) (by omega), key _ (by omega) (by omega)]
    exact hz h (by omega) q
theorem wf_fam {w : Vl} (hw : wfD w) (hlt : w 2 < 4) {x1 x2 x3 : Int} (h1 : 0 ≤ x1 ∧ x1 ≤ 99) (h2 : 0 ≤ x2 ∧ x2 ≤ 99) (h3 : 0 ≤ x3 ∧ x3 ≤ 99) : wfD (wFam w x1 x2 x3) ∧ kp w (wFam w x1 x2 x3) ∧ wFam w x1 x2 x3 2 = w 2 + 1 := by
  obtain ⟨hv, hz⟩ := hw
  have hS := wfS hv
  have hH := wfH hv
  have hF := wfF hv
  have w2 : wFam w x1 x2 x3 2 = w 2 + 1 := by unfold wFam; rw [if_pos rfl]
  have key : ∀ i : Int, i ≠ 2 → ¬ (88 + 3 * w 2 ≤ i ∧ i ≤ 88 + 3 * w 2 + 2) → wFam w x1 x2 x3 i = w i := fun i h1 h2 => by
    unfold wFam
    rw [if_neg h1, if_neg (by omega), if_neg (by omega), if_neg (by omega)]
  have v0 : wFam w x1 x2 x3 ((88 + (3 * w 2)) + 0) = x1 := by unfold wFam; rw [if_neg (by omega), if_pos (by omega)]
  have v1 : wFam w x1 x2 x3 ((88 + (3 * w 2)) + 1) = x2 := by unfold wFam; rw [if_neg (by omega), if_neg (by omega), if_pos (by omega)]
  have v2 : wFam w x1 x2 x3 ((88 + (3 * w 2)) + 2) = x3 := by unfold wFam; rw [if_neg (by omega), if_neg (by omega), if_neg (by omega), if_pos (by omega)]
  refine ⟨⟨⟨by rw [key 0 (by omega) (by omega)]; exact hS, by rw [key 1 (by omega) (by omega)]; exact hH, by rw [w2]; omega, by rw [key 3 (by omega) (by omega)]; exact wfP hv, by rw [key 4 (by omega) (by omega)]; exact wfU hv, fun s s0 s1 => ?_, fun h p q => ?_, fun f p q => ?_⟩, fun h p q => ?_⟩, ⟨key 3 (by omega) (by omega), key 4 (by omega) (by omega)⟩, w2⟩
  · rw [key 0 (by omega) (by omega)] at s1
    have := wfs hv s0 s1
    rw [w2, key _ (by omega) (by omega), key _ (by omega) (by omega), key _ (by omega) (by omega), key _ (by omega) (by omega), key _ (by omega) (by omega)]
    omega
  · rw [key 1 (by omega) (by omega)] at q
    rw [key _ (by omega) (by omega), key _ (by omega) (by omega), key _ (by omega) (by omega), key _ (by omega) (by omega), key _ (by omega) (by omega)]
    exact wfh hv p q
  · rw [w2] at q
    by_cases z : f = w 2
    · subst z
      rw [v0, v1, v2]
      omega
    · rw [key _ (by omega) (by omega), key _ (by omega) (by omega), key _ (by omega) (by omega)]
      exact wff hv p (by omega)
  · rw [key 1 (by omega) (by omega)] at p
    rw [key _ (by omega) (by omega), key _ (by omega) (by omega)]
    exact hz h p q
theorem wf_own {w : Vl} (hw : wfD w) {s f : Int} (hs : 0 ≤ s ∧ s < w 0) (hf : -1 ≤ f ∧ f < w 2) : wfD (upV w (8 + 5 * s + 4) f) ∧ kp w (upV w (8 + 5 * s + 4) f) ∧ upV w (8 + 5 * s + 4) f 2 = w 2 := by
  obtain ⟨hv, hz⟩ := hw
  have hS := wfS hv
  have hH := wfH hv
  have hF := wfF hv
  have key : ∀ i : Int, i ≠ 8 + 5 * s + 4 → upV w (8 + 5 * s + 4) f i = w i := fun i h1 => by simp only [upV]; rw [if_neg h1]
  refine ⟨⟨⟨by rw [key 0 (by omega)]; exact hS, by rw [key 1 (by omega)]; exact hH, by rw [key 2 (by omega)]; exact hF, by rw [key 3 (by omega)]; exact wfP hv, by rw [key 4 (by omega)]; exact wfU hv, fun t s0 s1 => ?_, fun h p q => ?_, fun g p q => ?_⟩, fun h p q => ?_⟩, ⟨key 3 (by omega), key 4 (by omega)⟩, key 2 (by omega)⟩
  · rw [key 0 (by omega)] at s1
    have := wfs hv s0 s1
    rw [key 2 (by omega), key ((8 + (5 * t)) + 0) (by omega), key ((8 + (5 * t)) + 1) (by omega), key ((8 + (5 * t)) + 2) (by omega), key ((8 + (5 * t)) + 3) (by omega)]
    by_cases z : t = s
    · subst z
      have e : upV w (8 + 5 * t + 4) f ((8 + (5 * t)) + 4) = f := if_pos rfl
      rw [e]; omega
    · rw [key _ (by omega)]; exact this
  · rw [key 1 (by omega)] at q
    rw [key _ (by omega), key _ (by omega), key _ (by omega), key _ (by omega), key _ (by omega)]
    exact wfh hv p q
  · rw [key 2 (by omega)] at q
    rw [key _ (by omega), key _ (by omega), key _ (by omega)]
    exact wff hv p q
  · rw [key 1 (by omega)] at p
    rw [key _ (by omega), key _ (by omega)]
    exact hz h p q
theorem kp.tr {w w1 w2 : Vl} (h : kp w w1) (h2 : kp w1 w2) : kp w w2 := ⟨h2.1.trans h.1, h2.2.trans h.2⟩
theorem kp.rf {w : Vl} : kp w w := ⟨rfl, rfl⟩
theorem hold_r {f : Int} {sn fn : Row} {k : Kt} {r : Tk × Vl × Row × Row} : ∀ (m : Nat) (w : Vl) (K : Tk), wfD w → (0 ≤ f ∧ f < w 2) → Kok T n K → pHold T n f sn fn k m w K = .inr r → ∃ K1 w1, Kok T n K1 ∧ K.2.1 ≤ K1.2.1 ∧ wfD w1 ∧ kp w w1 ∧ k K1 w1 sn fn = .inr r
  | 0, w, K, hw, hf, hK, h => ⟨K, w, hK, Int.le_refl _, hw, kp.rf, h⟩
  | m + 1, w, K, hw, hf, hK, h => by
    rw [pHold_s] at h
    by_cases q : K.1 = 1 ∧ K.2.2.2 = 448545973363
    · rw [if_pos q] at h
      have h1 := nx_lt hK (Or.inl q.1)
      cases hd : hdR w sn (nxK T n K) with
      | some r0 =>
        rw [hd] at h
        dsimp only at h
        unfold hdR at hd
        subst h
        split at hd
        · split at hd
          · cases hd
          · split at hd
            · cases hd
            · cases hd
        · cases hd
      | none =>
        rw [hd] at h
        dsimp only at h
        unfold hdR at hd
        by_cases q2 : nmOk (nxK T n K)
        · rw [if_pos q2] at hd
          by_cases q3 : fnd sn (w 0) (nxK T n K).2.2.2 = -1
          · rw [if_pos q3] at hd; cases hd
          · have h2 := nx_lt h1.1 (Or.inl q2.1)
            have hfb := fnd_b sn (wfS hw.1).1 (nxK T n K).2.2.2
            obtain ⟨o1, o2, o3⟩ := wf_own hw (s := fnd sn (w 0) (nxK T n K).2.2.2) (f := f) (by omega) (by omega)
            obtain ⟨K1, w1, a1, a2, a3, a4, a5⟩ := hold_r m _ _ o1 (by rw [o3]; exact hf) h2.1 h
            exact ⟨K1, w1, a1, by omega, a3, o2.tr a4, a5⟩
        · rw [if_neg q2] at hd; cases hd
    · rw [if_neg q] at h
      exact ⟨K, w, hK, Int.le_refl _, hw, kp.rf, h⟩
theorem part_ok {w : Vl} {sn fn : Row} {K K' : Tk} {w' : Vl} {sn' fn' : Row} (hK : Kok T n K) (hw : wfD w) (h : pPart T n w sn fn K = .inr (K', w', sn', fn')) : Kok T n K' ∧ K.2.1 < K'.2.1 ∧ wfD w' ∧ kp w w' := by
  have hS := wfS hw.1
  have hH := wfH hw.1
  have hF := wfF hw.1
  have hkb := kOf_b K
  unfold pPart at h
  by_cases h0 : kOf K = 0
  · rw [if_pos h0] at h
    have k1 : K.1 = 1 := Classical.byContradiction (fun q => by have : kOf K = -1 := if_neg q; omega)
    have n0 := nx_lt hK (Or.inl k1)
    unfold pStrip at h
    by_cases q : w 0 = 10
    · rw [if_pos q] at h; cases h
    · rw [if_neg q] at h
      obtain ⟨e1, c1, d1⟩ := NM_r h n0.1
      obtain ⟨e2, c2, d2⟩ := WW_r e1 c1
      obtain ⟨_, r3, e3, c3, d3⟩ := NB_r e2 c2
      obtain ⟨_, r4, e4, c4, d4⟩ := NB_r e3 c3
      obtain ⟨e5, c5, d5⟩ := WW_r e4 c4
      obtain ⟨l6, r6, e6, c6, d6⟩ := NB_r e5 c5
      split at e6
      · next q6 =>
        have n6 := nx_lt c6 (Or.inl q6.1)
        obtain ⟨l7, r7, e7, c7, d7⟩ := NB_r e6 n6.1
        obtain ⟨a1, a2, a3, _, _⟩ := kE_r e7 c7
        subst a3
        have := wf_strip hw (by omega) r3 r4 l6 l7
        exact ⟨a1, by omega, this.1, this.2⟩
      · obtain ⟨a1, a2, a3, _, _⟩ := kE_r e6 c6
        subst a3
        have := wf_strip hw (by omega) r3 r4 l6 (x4 := 1) (by decide)
        exact ⟨a1, by omega, this.1, this.2⟩
  · rw [if_neg h0] at h
    by_cases h5 : kOf K = 5
    · rw [if_pos h5] at h
      have k1 : K.1 = 1 := Classical.byContradiction (fun q => by have : kOf K = -1 := if_neg q; omega)
      have n0 := nx_lt hK (Or.inl k1)
      unfold pFam at h
      by_cases q : w 2 = 4
      · rw [if_pos q] at h; cases h
      · rw [if_neg q] at h
        obtain ⟨e1, c1, d1⟩ := NM_r h n0.1
        obtain ⟨e2, c2, d2⟩ := WW_r e1 c1
        obtain ⟨_, r3, e3, c3, d3⟩ := NB_r e2 c2
        obtain ⟨_, r4, e4, c4, d4⟩ := NB_r e3 c3
        obtain ⟨e5, c5, d5⟩ := WW_r e4 c4
        obtain ⟨_, r6, e6, c6, d6⟩ := NB_r e5 c5
        obtain ⟨f1, f2, f3⟩ := wf_fam hw (by omega) r3 r4 r6
        obtain ⟨K1, w1, a1, a2, a3, a4, a5⟩ := hold_r 601 _ _ f1 (by rw [f3]; omega) c6 e6
        obtain ⟨b1, b2, b3, _, _⟩ := kE_r a5 a1
        subst b3
        exact ⟨b1, by omega, a3, f2.tr a4⟩
    · rw [if_neg h5] at h
      by_cases h14 : 1 ≤ kOf K ∧ kOf K ≤ 4
      · rw [if_pos h14] at h
        have k1 : K.1 = 1 := Classical.byContradiction (fun q => by have : kOf K = -1 := if_neg q; omega)
        have n0 := nx_lt hK (Or.inl k1)
        unfold pHarm at h
        by_cases q : w 1 = 6
        · rw [if_pos q] at h; cases h
        · rw [if_neg q] at h
          have tail : ∀ (a b : Int) (K2 : Tk), 0 ≤ a ∧ a ≤ 99 → 0 ≤ b ∧ b ≤ 99 → Kok T n K2 → K.2.1 < K2.2.1 → hTail T n w sn fn (kEnd T n) (kOf K - 1) a b K2 = .inr (K', w', sn', fn') → Kok T n K' ∧ K.2.1 < K'.2.1 ∧ wfD w' ∧ kp w w' := by
            intro a b K2 ha hb c2 d2 ht
            unfold hTail at ht
            obtain ⟨e3, c3, d3⟩ := WW_r ht c2
            obtain ⟨l4, r4, e4, c4, d4⟩ := NB_r e3 c3
            obtain ⟨e5, c5, d5⟩ := WW_r e4 c4
            obtain ⟨l6, r6, e6, c6, d6⟩ := NB_r e5 c5
            obtain ⟨a1, a2, a3, _, _⟩ := kE_r e6 c6
            subst a3
            have := wf_harm hw (by omega) (kd := kOf K - 1) (by omega) ha hb l4 l6
            exact ⟨a1, by omega, this.1, this.2⟩
          split at h
          · obtain ⟨_, r1, e1, c1, d1⟩ := NB_r h n0.1
            obtain ⟨e2, c2, d2⟩ := WW_r e1 c1
            obtain ⟨_, r3, e3, c3, d3⟩ := NB_r e2 c2
            exact tail _ _ _ r1 r3 c3 (by omega) e3
          · split at h
            · obtain ⟨_, r1, e1, c1, d1⟩ := NB_r h n0.1
              exact tail _ _ _ r1 (by decide) c1 (by omega) e1
            · split at h
              · obtain ⟨_, r1, e1, c1, d1⟩ := NB_r h n0.1
                exact tail _ _ _ r1 (by decide) c1 (by omega) e1
              · exact tail _ _ _ (by decide) (by decide) n0.1 n0.2 h
      · rw [if_neg h14] at h; cases h
/-- the fault told is one -/
theorem fl_ne {K : Tk} {why : Int} (h : why ≠ 0) {a b : Int} (he : fl K why = .inl (a, b)) : a ≠ 0 := by
  unfold fl at he
  have : a = if K.1 = 4 then 1 else why := by cases he; rfl
  rw [this]; split <;> omega
end

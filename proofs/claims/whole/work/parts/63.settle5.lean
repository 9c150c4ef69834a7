-- settle of the reference, its loop
section
variable {l : Launch} {E : Ev} {G : Sh} {D : Dm}
def q_settle (v : Vl) : Ans := aNo 0 ((slF 100 v).2 : Nat)
theorem set_at (D : Dm) (w : Vl) {D' : Dm} (h : mS (setC D 108 w) D') : D' 108 = w := by
  rw [h.at]; funext i; simp [setC]
theorem set_hv (D : Dm) (w : Vl) {D' : Dm} (h : mS (setC D 108 w) D') : D' 107 20 = D 107 20 := by
  rw [h.hv]; simp [setC]
theorem set_tr (D : Dm) {w w' : Vl} {D1 D2 : Dm} (h : mS (setC D 108 w) D1) (h2 : mS (setC D1 108 w') D2) : mS (setC D 108 w') D2 := by
  intro c i hc
  rw [h2 c i hc]
  simp only [setC]
  split
  · rfl
  · next q =>
    rw [h c i hc]; simp only [setC]; rw [if_neg q]
theorem c_X10_settle (hL : Lay G) (hv : wfV (D 108)) (hh : D 107 20 = 0) {a : Ans} (ha : a = q_settle (D 108)) : C0 l E MX10_settle 0 [vR E 107] G D (fun r D' => r = a.2.1 ∧ mQ (setC D 108 (slF 100 (D 108)).1) D' a) := by
  refine s_X10_settle hL ?_
  refine up_from (P := fun i => ∀ (w : Vl) (D' : Dm), wfV w → mS (setC D 108 w) D' → (slF (100 - i).toNat w).1 = (slF 100 (D 108)).1 → i + ((slF (100 - i).toNat w).2 : Nat) = ((slF 100 (D 108)).2 : Nat) → KX10_settle l E _ 2 [(0, vR E 107), (1, vI i)] G D') (lo := 0) (n := 100) (by omega) ?_ ?_ (D 108) D hv (by rw [set_id]; exact mS.rf) rfl (by rw [Int.zero_add]; rfl)
  · intro w D' hw hm h1 h2
    have e0 : ((100 : Int) - 100).toNat = 0 := rfl
    rw [e0, slF] at h1 h2
    dsimp only at h1 h2
    refine s_X10_settle_2 hL ⟨by omega, fun _ => ⟨rfl, ?_⟩, fun z => absurd z (by omega)⟩
    rw [← h1]
    exact mQ.no (by rw [ha, q_settle, ← h2]; rfl) hm
  · intro i i0 i1 ih w D' hw hm h1 h2
    have e1 : (100 - i).toNat = (100 - (i + 1)).toNat + 1 := by omega
    rw [e1, slF] at h1 h2
    have ew := set_at D w hm
    refine s_X10_settle_2 hL ⟨by omega, fun z => absurd z (by omega), fun _ => ?_⟩
    refine C0.use (c_X10_settles hL (by rw [ew]; exact hw) (by rw [set_hv D w hm]; exact hh)) ?_
    rintro r D2 hc
    try dsimp only
    rw [ew] at hc
    rcases hc with ⟨c1, rfl, c2⟩ | ⟨c1, rfl, c2⟩
    · rw [if_pos c1] at h1 h2
      dsimp only at h1 h2
      refine ⟨by omega, fun _ => ⟨rfl, ?_⟩, fun z => absurd rfl z⟩
      rw [← h1]
      exact mQ.no (by rw [ha, q_settle, ← h2]; simp) (hm.tr c2)
    · rw [if_neg c1] at h1 h2
      dsimp only at h1 h2
      exact ⟨by omega, fun z => absurd z (by decide), fun _ => ih (stV w) D2 (wfV_st hw c1) (set_tr D hm c2) h1 (by omega)⟩
end

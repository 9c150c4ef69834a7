/-! ===== the reference's own: weights, sets, what is left ===== -/
section M1
variable {l : Launch} {E : Ev} {G : Sh} {D : Dm}
theorem c_X10_weightOf (hL : Lay G) (hv : wfV (D 108)) (lot : Int) : C0 l E MX10_weightOf 1 [vR E 107, vI lot] G D (fun r D' => r = wtS (D 108) lot ∧ D' = D) := by
  refine s_X10_weightOf hL ?_
  have hH := wfH hv
  refine up_from (P := fun i => KX10_weightOf l E _ 5 [(0, vR E 107), (1, vI lot), (2, vJ (fz (wtF (D 108) lot) 1 i.toNat)), (4, vI i)] G D) (lo := 0) (n := D 108 1) (by omega) ?_ ?_
  · exact s_X10_weightOf_5 hL ⟨by omega, fun _ => ⟨rfl, rfl, rfl⟩, fun h => absurd h (by omega)⟩
  · intro i h0 h1 ih
    have hh := wfh hv h0 h1
    rw [fz_s _ _ h0] at ih
    refine s_X10_weightOf_5 hL ⟨by omega, fun h => absurd h (by omega), fun _ => ⟨fun hb => ⟨by omega, ?_⟩, fun hb => ⟨by omega, ?_⟩⟩⟩
    · rw [wtF, if_pos (a1_ne1.mp hb)] at ih; exact ih
    · rw [wtF, if_neg (by omega)] at ih; exact ih
theorem c_X10_held (hL : Lay G) (hv : wfV (D 108)) (f : Int) (hf : -2147483648 ≤ f ∧ f < 2147483648) : C0 l E MX10_held 0 [vR E 107, vI f] G D (fun r D' => r = ((heldN (D 108) f : Nat) : Int) ∧ D' = D) := by
  refine s_X10_held hL ?_
  have hS := wfS hv
  refine up_from (P := fun i => KX10_held l E _ 4 [(0, vR E 107), (1, vI f), (2, vI ((setN (fun s => decide (D 108 ((8 + (5 * s)) + 4) = f)) i.toNat : Nat) : Int)), (3, vI i)] G D) (lo := 0) (n := D 108 0) (by omega) ?_ ?_
  · exact s_X10_held_4 hL ⟨by omega, fun _ => ⟨rfl, rfl, rfl⟩, fun h => absurd h (by omega)⟩
  · intro i h0 h1 ih
    rw [setN_s _ h0] at ih
    refine s_X10_held_4 hL ⟨by omega, fun h => absurd h (by omega), fun _ => ⟨⟨by omega, hf⟩, fun hb => ?_, fun hb => ?_⟩⟩
    · rw [if_neg (by simpa using hb)] at ih
      rw [iO_z (setN_le (by omega))]
      exact ih
    · rw [if_pos (by simpa using hb)] at ih
      rw [setN_or (by omega)]
      exact ih
theorem c_X10_mayHave (hL : Lay G) (hv : wfV (D 108)) (f : Int) (hf : -2147483648 ≤ f ∧ f < 2147483648) : C0 l E MX10_mayHave 0 [vR E 107, vI f] G D (fun r D' => r = ((openN (D 108) f : Nat) : Int) ∧ D' = D) := by
  refine s_X10_mayHave hL ?_
  have hS := wfS hv
  refine up_from (P := fun i => KX10_mayHave l E _ 4 [(0, vR E 107), (1, vI f), (2, vI ((setN (fun s => decide (D 108 ((8 + (5 * s)) + 4) = -1 ∨ D 108 ((8 + (5 * s)) + 4) = f)) i.toNat : Nat) : Int)), (3, vI i)] G D) (lo := 0) (n := D 108 0) (by omega) ?_ ?_
  · exact s_X10_mayHave_4 hL ⟨by omega, fun _ => ⟨rfl, rfl, rfl⟩, fun h => absurd h (by omega)⟩
  · intro i h0 h1 ih
    rw [setN_s _ h0] at ih
    refine s_X10_mayHave_4 hL ⟨by omega, fun h => absurd h (by omega), fun _ => ⟨by omega, fun hb => ?_, fun hb => ⟨hf, fun hc => ?_, fun hc => ?_⟩⟩⟩
    · rw [if_pos (by simp [hb])] at ih
      rw [setN_or (by omega)]
      exact ih
    · rw [if_neg (by simp [hb, hc])] at ih
      rw [iO_z (setN_le (by omega))]
      exact ih
    · rw [if_pos (by simp [hc])] at ih
      rw [setN_or (by omega)]
      exact ih
theorem c_X10_allLots (hL : Lay G) (hv : wfV (D 108)) : C0 l E MX10_allLots 1 [vR E 107] G D (fun r D' => r = allS (D 108) ∧ D' = D) := by
  refine s_X10_allLots hL ?_
  have hH := wfH hv
  refine up_from (P := fun i => KX10_allLots l E _ 4 [(0, vR E 107), (1, vJ (16 ^ i.toNat)), (3, vI i)] G D) (lo := 0) (n := D 108 1) (by omega) ?_ ?_
  · exact s_X10_allLots_4 hL ⟨by omega, fun _ => ⟨rfl, rfl, rfl⟩, fun h => absurd h (by omega)⟩
  · intro i h0 h1 ih
    rw [show (i + 1).toNat = i.toNat + 1 by omega, Int.pow_succ] at ih
    exact s_X10_allLots_4 hL ⟨by omega, fun h => absurd h (by omega), fun _ => ih⟩
/-- takes of all harms of a lot on a strip: bounds -/
theorem tk_b {v : Vl} (hv : wfV v) (s lot : Int) : ∀ k : Nat, k ≤ (v 1).toNat → 0 ≤ fz (tkF v s lot) 0 k ∧ fz (tkF v s lot) 0 k ≤ 8 * k := by
  intro k
  induction k with
  | zero => intro _; exact ⟨Int.le_refl _, Int.le_refl _⟩
  | succ k ih =>
    intro hk
    have h1 := ih (by omega)
    have h2 := wfh hv (i := k) (by omega) (by omega)
    show 0 ≤ tkF v s lot k (fz (tkF v s lot) 0 k) ∧ tkF v s lot k (fz (tkF v s lot) 0 k) ≤ _
    generalize fz (tkF v s lot) 0 k = t at h1 ⊢
    unfold tkF
    split
    · omega
    · split <;> omega
theorem iSr_b {x hv : Int} (hx : 0 ≤ x ∧ x ≤ 99) (hh : 0 ≤ hv ∧ hv ≤ 6) : 0 ≤ iSr x hv ∧ iSr x hv ≤ x := by
  obtain ⟨a, rfl⟩ := Int.eq_ofNat_of_zero_le hx.1
  obtain ⟨k, rfl⟩ := Int.eq_ofNat_of_zero_le hh.1
  rw [iSr_nat a k (by omega) (by omega)]
  have := Nat.div_le_self a (2 ^ k)
  generalize a / 2 ^ k = q at this ⊢
  omega
theorem c_X10_leftOf (hL : Lay G) (hv : wfV (D 108)) (hh : 0 ≤ D 107 20 ∧ D 107 20 ≤ 6) (s lot : Int) (hs : 0 ≤ s ∧ s < D 108 0) : C0 l E MX10_leftOf 0 [vR E 107, vI s, vI lot] G D (fun r D' => r = leftS (D 108) (D 107 20) s lot ∧ D' = D) := by
  refine s_X10_leftOf hL ?_
  have hH := wfH hv
  have hS := wfS hv
  have hs2 := wfs hv hs.1 hs.2
  refine up_from (P := fun i => KX10_leftOf l E _ 5 [(0, vR E 107), (1, vI s), (2, vI lot), (3, vI (fz (tkF (D 108) s lot) 0 i.toNat)), (4, vI i)] G D) (lo := 0) (n := D 108 1) (by omega) ?_ ?_
  · have ht := tk_b hv s lot (D 108 1).toNat (Nat.le_refl _)
    have hg := iSr_b (x := D 108 ((8 + (5 * s)) + 2)) (hv := D 107 20) (by omega) hh
    refine s_X10_leftOf_5 hL ⟨by omega, fun _ => ⟨⟨by omega, by omega, ?_⟩, rfl, rfl, rfl⟩, fun h => absurd h (by omega)⟩
    have := mulB (A := 99) (B := 8) (a := iSr (D 108 ((8 + (5 * s)) + 2)) (D 107 20)) (b := 8 - min 8 (fz (tkF (D 108) s lot) 0 (D 108 1).toNat)) (by omega) (by omega)
    omega
  · intro i h0 h1 ih
    have hh := wfh hv h0 h1
    rw [fz_s _ _ h0] at ih
    refine s_X10_leftOf_5 hL ⟨by omega, fun h => absurd h (by omega), fun _ => ⟨fun hb => ?_, fun hb => ?_⟩⟩
    · rw [tkF, if_pos (a1_ne1.mp hb)] at ih
      rw [Int.add_zero]; exact ih
    · rw [tkF, if_neg (by omega)] at ih
      refine ⟨by omega, fun hc => ?_, fun hc => ⟨by omega, ?_⟩⟩
      · rw [if_neg hc] at ih
        rw [Int.add_zero]; exact ih
      · rw [if_pos hc] at ih
        exact ih
end M1

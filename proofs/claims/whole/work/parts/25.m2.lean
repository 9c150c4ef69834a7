/-! ===== the reference's way round, nets, worths ===== -/
theorem bitI {a : Nat} {i : Int} (h0 : 0 ≤ i) (h1 : i < 31) (ha : a < 2147483648) : iA (iSr a i) 1 = if a.testBit i.toNat then 1 else 0 := by
  obtain ⟨k, rfl⟩ := Int.eq_ofNat_of_zero_le h0
  rw [Int.toNat_natCast]
  exact iB_nat a k (by omega) ha
theorem bitI_ne0 {a : Nat} {i : Int} (h0 : 0 ≤ i) (h1 : i < 31) (ha : a < 2147483648) (h : iA (iSr a i) 1 ≠ 0) : a.testBit i.toNat = true := by
  rw [bitI h0 h1 ha] at h; cases hb : a.testBit i.toNat <;> simp_all
theorem bitI_eq1 {a : Nat} {i : Int} (h0 : 0 ≤ i) (h1 : i < 31) (ha : a < 2147483648) (h : iA (iSr a i) 1 = 1) : a.testBit i.toNat = true := by
  rw [bitI h0 h1 ha] at h; cases hb : a.testBit i.toNat <;> simp_all
theorem bitI_eq0 {a : Nat} {i : Int} (h0 : 0 ≤ i) (h1 : i < 31) (ha : a < 2147483648) (h : iA (iSr a i) 1 = 0) : a.testBit i.toNat = false := by
  rw [bitI h0 h1 ha] at h; cases hb : a.testBit i.toNat <;> simp_all
theorem bitI_ne1 {a : Nat} {i : Int} (h0 : 0 ≤ i) (h1 : i < 31) (ha : a < 2147483648) (h : iA (iSr a i) 1 ≠ 1) : a.testBit i.toNat = false := by
  rw [bitI h0 h1 ha] at h; cases hb : a.testBit i.toNat <;> simp_all
/-- nothing but the cell c has changed -/
def offC (c : Nat) (D D' : Dm) : Prop := ∀ c', c' ≠ c → D' c' = D c'
theorem offC.rf {c : Nat} {D : Dm} : offC c D D := fun _ _ => rfl
theorem offC.tr {c : Nat} {D D1 D2 : Dm} (h : offC c D D1) (h2 : offC c D1 D2) : offC c D D2 := fun c' hc => (h2 c' hc).trans (h c' hc)
theorem offC.up {c : Nat} {D D1 : Dm} (h : offC c D D1) (i x : Int) : offC c D (upd2 D1 c i x) := fun c' hc => by rw [← h c' hc]; funext j; exact upd2_cell D1 i x j hc
theorem pow_s {k : Int} (h : 0 ≤ k ∧ k ≤ 10) : 2 ^ k.toNat ≤ 1024 := by
  have : 2 ^ k.toNat ≤ 2 ^ 10 := Nat.pow_le_pow_right (by decide) (by omega)
  omega
section M2
variable {l : Launch} {E : Ev} {G : Sh} {D : Dm}
theorem rndk_b {v : Vl} (hv : wfV v) {f : Int} (hf : 0 ≤ f ∧ f < v 2) {S : Nat} (hS : S < 2 ^ (v 0).toNat) (n : Nat) (hn : n ≤ (v 0).toNat) : 0 ≤ mnF (fun k => S.testBit k.toNat) (fun k => wayS v f S k + hmS v f k) 1000000 n ∧ mnF (fun k => S.testBit k.toNat) (fun k => wayS v f S k + hmS v f k) 1000000 n ≤ 1000000 := by
  have hs := wfS hv
  refine ⟨mn_ge (by omega) (fun k k0 k1 hc => ?_), mn_A _ _ _ _⟩
  have h1 := way_b hv hf S S k (Nat.le_refl _) hS k0 hc
  have h2 := hm_b hv hf (k := k) ⟨k0, by omega⟩
  omega
theorem c_X10_roundOf (hL : Lay G) (hv : wfV (D 108)) {f : Int} (hf : 0 ≤ f ∧ f < D 108 2) {S : Nat} (hS : S < 2 ^ (D 108 0).toNat) : C0 l E MX10_roundOf 0 [vR E 107, vI f, vI S] G D (fun r D' => r = rndS (D 108) f S ∧ offC 116 D D') := by
  have hs0 := wfS hv
  have hF := wfF hv
  have hp := pow_s (k := D 108 0) hs0
  refine s_X10_roundOf hL ⟨by omega, fun hne => ?_, fun h0 => ⟨rfl, ?_, offC.rf⟩⟩
  rotate_left
  · have : S = 0 := by omega
    subst this; rfl
  rw [nxt_0 (by omega) (by omega)]
  generalize hQ : (fun (r : Int) (G' : Sh) (D' : Dm) => G' = G ∧ r = rndS (D 108) f S ∧ offC 116 D D') = Q
  have hQ0 : ∀ D', offC 116 D D' → Q (rndS (D 108) f S) G D' := fun D' h => by rw [← hQ]; exact ⟨rfl, rfl, h⟩
  have hQ1 : (fun (r : Int) (G' : Sh) (D' : Dm) => G' = G ∧ (fun (r : Int) (D' : Dm) => r = rndS (D 108) f S ∧ offC 116 D D') r D') = Q := hQ
  have outer : ∀ s : Nat, s &&& S = s → 0 < s → ∀ D' : Dm, offC 116 D D' → (∀ (t : Nat) (k : Int), t ≠ 0 → t &&& S = t → t < s → 0 ≤ k → t.testBit k.toNat = true → D' 116 ((10 * (t : Int)) + k) = wayS (D 108) f t k) → KX10_roundOf l E Q 23 [(0, vR E 107), (1, vI f), (2, vI S), (3, vI (D 108 0)), (4, vI 1000000), (5, vI s)] G D' := by
    intro s
    refine by_meas (μ := fun s : Nat => S - s) (P := fun s => s &&& S = s → 0 < s → ∀ D' : Dm, offC 116 D D' → (∀ (t : Nat) (k : Int), t ≠ 0 → t &&& S = t → t < s → 0 ≤ k → t.testBit k.toNat = true → D' 116 ((10 * (t : Int)) + k) = wayS (D 108) f t k) → KX10_roundOf l E Q 23 [(0, vR E 107), (1, vI f), (2, vI S), (3, vI (D 108 0)), (4, vI 1000000), (5, vI s)] G D') ?_ s
    intro s IH hsub hpos D0 hoff0 hLS0
    have hle : s ≤ S := by have := Nat.and_le_right (n := s) (m := S); omega
    refine s_X10_roundOf_23 hL ⟨by omega, fun h => absurd h (by omega), fun _ => ?_⟩
    refine up_from (P := fun k => ∀ (D' : Dm) (b : Int), offC 116 D D' → (∀ (t : Nat) (k : Int), t ≠ 0 → t &&& S = t → t < s → 0 ≤ k → t.testBit k.toNat = true → D' 116 ((10 * (t : Int)) + k) = wayS (D 108) f t k) → (∀ j : Int, 0 ≤ j → j < k → s.testBit j.toNat = true → D' 116 ((10 * (s : Int)) + j) = wayS (D 108) f s j) → b = (if s = S then mnF (fun k => S.testBit k.toNat) (fun k => wayS (D 108) f S k + hmS (D 108) f k) 1000000 k.toNat else 1000000) → KX10_roundOf l E Q 31 [(0, vR E 107), (1, vI f), (2, vI S), (3, vI (D 108 0)), (4, vI b), (5, vI s), (6, vI k)] G D') (lo := 0) (n := D 108 0) (by omega) ?_ ?_ D0 1000000 hoff0 hLS0 (fun j a b => by omega) (by split <;> rfl)
    · intro D' b hoff hLS hLC hb
      refine s_X10_roundOf_31 hL ⟨by omega, fun _ => ?_, fun h => absurd h (by omega)⟩
      by_cases hsS : s = S
      · subst hsS
        rw [nxt_end]
        rw [if_pos rfl] at hb
        refine s_X10_roundOf_23 hL ⟨by decide, fun _ => ?_, fun h => absurd rfl h⟩
        have e : b = rndS (D 108) f s := by rw [hb, rndS, if_neg (by omega)]
        rw [e]
        exact hQ0 D' hoff
      · rw [nxt_I (by omega) (by omega)]
        rw [if_neg hsS] at hb
        subst hb
        have hgt := nxt_gt hsub (by omega)
        refine IH (nxt S s) (by have := nxt_le (set := S) (s := s); omega) nxt_sub (by omega) D' hoff (fun t k h1 h2 h3 h4 h5 => ?_)
        rcases Nat.lt_trichotomy t s with q | q | q
        · exact hLS t k h1 h2 q h4 h5
        · subst q
          have := bit_lt (show t < 2 ^ (D 108 0).toNat by omega) h5
          exact hLC k h4 (by omega) h5
        · have := nxt_least hsub h2 q
          omega
    · intro k k0 k1 ih D' b hoff hLS hLC hb
      have e108 : D' 108 = D 108 := hoff 108 (by decide)
      have hbb : 0 ≤ b ∧ b ≤ 1000000 := by
        rw [hb]; split
        · exact rndk_b hv hf (by omega) _ (by omega)
        · omega
      have hk := wfs hv k0 k1
      have hff := wff hv hf.1 hf.2
      refine s_X10_roundOf_31 hL ⟨by omega, fun h => absurd h (by omega), fun _ => ⟨fun hbit => ?_, fun hbit => ?_⟩⟩
      rotate_left
      · have hbf := bitI_eq0 k0 (by omega) (by omega) hbit
        refine ih D' b hoff hLS (fun j j0 j1 hj => ?_) ?_
        · by_cases hjk : j = k
          · subst hjk; rw [hbf] at hj; cases hj
          · exact hLC j j0 (by omega) hj
        · rw [hb]
          split
          · next hsS => rw [mn_s _ _ _ k0]; subst hsS; simp [hbf]
          · rfl
      · have hbt := bitI_ne0 k0 (by omega) (by omega) hbit
        rw [e108]
        refine ⟨by omega, ?_⟩
        have hrest : iA s (iX (iSl 1 k) (-1)) = ((s ^^^ 2 ^ k.toNat : Nat) : Int) := by
          rw [iSl1 (by omega), iN_nat s _ (by omega), rest_eq hbt]
        have hrl := rest_lt hbt
        rw [hrest]
        have inner : KX10_roundOf l E Q 117 [(0, vR E 107), (1, vI f), (2, vI S), (3, vI (D 108 0)), (4, vI b), (5, vI s), (6, vI k), (7, vI (D 108 ((8 + (5 * k)) + 0))), (8, vI (D 108 ((8 + (5 * k)) + 1))), (9, vI (hmS (D 108) f k)), (10, vI ((s ^^^ 2 ^ k.toNat : Nat) : Int)), (11, vI (if s ^^^ 2 ^ k.toNat = 0 then hmS (D 108) f k else 1000000)), (12, vI 0)] G D' := by
          refine up_from (P := fun i => KX10_roundOf l E Q 117 [(0, vR E 107), (1, vI f), (2, vI S), (3, vI (D 108 0)), (4, vI b), (5, vI s), (6, vI k), (7, vI (D 108 ((8 + (5 * k)) + 0))), (8, vI (D 108 ((8 + (5 * k)) + 1))), (9, vI (hmS (D 108) f k)), (10, vI ((s ^^^ 2 ^ k.toNat : Nat) : Int)), (11, vI (mnF (fun j => (s ^^^ 2 ^ k.toNat).testBit j.toNat) (fun j => wayS (D 108) f (s ^^^ 2 ^ k.toNat) j + apS (D 108) j k) (if s ^^^ 2 ^ k.toNat = 0 then hmS (D 108) f k else 1000000) i.toNat)), (12, vI i)] G D') (lo := 0) (n := D 108 0) (by omega) ?_ ?_
          · have hway := way_b hv hf s s k (Nat.le_refl _) (by omega) k0 hbt
            have hhm := hm_b hv hf (k := k) ⟨k0, k1⟩
            rw [← way_eq hbt]
            have hnew : ∀ j : Int, 0 ≤ j → j < k + 1 → s.testBit j.toNat = true → upd2 D' 116 ((10 * (s : Int)) + k) (wayS (D 108) f s k) 116 ((10 * (s : Int)) + j) = wayS (D 108) f s j := by
              intro j j0 j1 hj
              by_cases hjk : j = k
              · subst hjk; exact upd2_same _ _ _ _
              · rw [upd2_place _ _ _ (by omega)]; exact hLC j j0 (by omega) hj
            have hold : ∀ (t : Nat) (j : Int), t ≠ 0 → t &&& S = t → t < s → 0 ≤ j → t.testBit j.toNat = true → upd2 D' 116 ((10 * (s : Int)) + k) (wayS (D 108) f s k) 116 ((10 * (t : Int)) + j) = wayS (D 108) f t j := by
              intro t j h1 h2 h3 h4 h5
              have hj10 := bit_lt (show t < 2 ^ (D 108 0).toNat by omega) h5
              rw [upd2_place _ _ _ (by omega)]
              exact hLS t j h1 h2 h3 h4 h5
            refine s_X10_roundOf_117 hL ⟨by omega, fun _ => ⟨⟨by omega, by omega, by omega, by omega⟩, fun hsS => ?_, fun hsS => ⟨by omega, ?_⟩⟩, fun h => absurd h (by omega)⟩
            · refine ih _ b (hoff.up _ _) hold hnew ?_
              rw [hb, if_neg (by omega), if_neg (by omega)]
            · refine ih _ _ (hoff.up _ _) hold hnew ?_
              have hsS2 : s = S := by omega
              rw [if_pos hsS2] at hb
              rw [if_pos hsS2, mn_s _ _ _ k0, hb, ← hsS2, hbt, if_pos rfl]
          · intro i i0 i1 ih2
            rw [mn_s _ _ _ i0] at ih2
            have hi := wfs hv i0 i1
            have hcur : 0 ≤ mnF (fun j => (s ^^^ 2 ^ k.toNat).testBit j.toNat) (fun j => wayS (D 108) f (s ^^^ 2 ^ k.toNat) j + apS (D 108) j k) (if s ^^^ 2 ^ k.toNat = 0 then hmS (D 108) f k else 1000000) i.toNat ∧ mnF (fun j => (s ^^^ 2 ^ k.toNat).testBit j.toNat) (fun j => wayS (D 108) f (s ^^^ 2 ^ k.toNat) j + apS (D 108) j k) (if s ^^^ 2 ^ k.toNat = 0 then hmS (D 108) f k else 1000000) i.toNat ≤ 1000000 := by
              have hhm := hm_b hv hf (k := k) ⟨k0, k1⟩
              refine ⟨mn_ge (by split <;> omega) (fun j j0 j1 hc => ?_), Int.le_trans (mn_A _ _ _ _) (by split <;> omega)⟩
              have h1 := way_b hv hf _ (s ^^^ 2 ^ k.toNat) j (Nat.le_refl _) (by omega) j0 hc
              have h2 := ap_b hv (j := j) (k := k) ⟨j0, by omega⟩ ⟨k0, k1⟩
              omega
            refine s_X10_roundOf_117 hL ⟨by omega, fun h => absurd h (by omega), fun _ => ⟨fun hb2 => ?_, fun hb2 => ?_⟩⟩
            · rw [bitI_ne1 i0 (by omega) (by omega) hb2] at ih2
              exact ih2
            · have hb3 := bitI_eq1 i0 (by omega) (by omega) hb2
              rw [if_pos hb3] at ih2
              have h1 := way_b hv hf _ (s ^^^ 2 ^ k.toNat) i (Nat.le_refl _) (by omega) i0 hb3
              have hne : s ^^^ 2 ^ k.toNat ≠ 0 := fun e => by rw [e] at hb3; simp at hb3
              have hrd := hLS (s ^^^ 2 ^ k.toNat) i hne (rest_in hbt hsub) hrl i0 hb3
              rw [e108]
              refine ⟨⟨by omega, by omega, by omega, by omega, by omega, by omega, ?_⟩, ?_⟩
              · rw [hrd]; omega
              · rw [hrd]; exact ih2
        refine ⟨fun hz => ?_, fun hz => ?_⟩
        · rw [if_neg (by omega)] at inner
          exact inner
        · rw [if_pos (by omega)] at inner
          exact inner
  exact outer (nxt S 0) nxt_sub (nxt_gt (by simp) (by omega)) D offC.rf (fun t k h1 h2 h3 h4 h5 => by
    have := nxt_least (set := S) (s := 0) (by simp) h2 (by omega)
    omega)
end M2

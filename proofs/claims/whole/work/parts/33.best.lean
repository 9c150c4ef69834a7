-- the best set of a size
def okS (o : Nat) (k : Int) (S : Nat) : Bool := decide (ndf S o = 0) && decide ((pcT S : Int) = k)
def cntS (p : Nat → Bool) : Nat → Nat
  | 0 => 0
  | k + 1 => if p k then cntS p k + 1 else cntS p k
def bstS (p : Nat → Bool) (w : Nat → Int) : Nat → Int
  | 0 => -1
  | k + 1 => if p k then (if bstS p w k = -1 then (k : Int) else if w (bstS p w k).toNat < w k then (k : Int) else bstS p w k) else bstS p w k
theorem cnt_s (p : Nat → Bool) (k : Nat) : cntS p (k + 1) = if p k then cntS p k + 1 else cntS p k := rfl
theorem bst_s (p : Nat → Bool) (w : Nat → Int) (k : Nat) : bstS p w (k + 1) = if p k then (if bstS p w k = -1 then (k : Int) else if w (bstS p w k).toNat < w k then (k : Int) else bstS p w k) else bstS p w k := rfl
theorem bst_is (p : Nat → Bool) (w : Nat → Int) (k : Nat) : (bstS p w k = -1 ∧ cntS p k = 0) ∨ (∃ b : Nat, bstS p w k = b ∧ b < k ∧ p b = true ∧ 0 < cntS p k) := by
  induction k with
  | zero => exact Or.inl ⟨rfl, rfl⟩
  | succ k ih =>
    rw [bst_s, cnt_s]
    by_cases hp : p k = true
    · rw [if_pos hp, if_pos hp]
      right
      rcases ih with ⟨h1, h2⟩ | ⟨b, h1, h2, h3, h4⟩
      · rw [if_pos h1]; exact ⟨k, rfl, by omega, hp, by omega⟩
      · rw [if_neg (by omega)]
        split
        · exact ⟨k, rfl, by omega, hp, by omega⟩
        · exact ⟨b, h1, by omega, h3, by omega⟩
    · rw [if_neg hp, if_neg hp]
      rcases ih with h | ⟨b, h1, h2, h3, h4⟩
      · exact Or.inl h
      · exact Or.inr ⟨b, h1, by omega, h3, h4⟩
theorem cnt_mono (p : Nat → Bool) {a b : Nat} (h : a ≤ b) : cntS p a ≤ cntS p b := by
  induction b with
  | zero => have : a = 0 := by omega
            rw [this]; exact Nat.le_refl _
  | succ b ih =>
    rcases Nat.lt_or_ge b a with q | q
    · have : a = b + 1 := by omega
      rw [this]; exact Nat.le_refl _
    · rw [cnt_s]; have := ih q; split <;> omega
theorem cnt_lt (p : Nat → Bool) {a b : Nat} (h : a < b) (hp : p a = true) : cntS p a < cntS p b := by
  have h1 := cnt_mono p (a := a + 1) (b := b) h
  rw [cnt_s, if_pos hp] at h1
  omega
theorem cnt_inj (p : Nat → Bool) {a b : Nat} (ha : p a = true) (hb : p b = true) (h : cntS p a = cntS p b) : a = b := by
  rcases Nat.lt_trichotomy a b with q | q | q
  · have := cnt_lt p q ha; omega
  · exact q
  · have := cnt_lt p q hb; omega
theorem cnt_imp {p q : Nat → Bool} (h : ∀ k, p k = true → q k = true) (n : Nat) : cntS p n ≤ cntS q n := by
  induction n with
  | zero => exact Nat.le_refl _
  | succ k ih =>
    rw [cnt_s, cnt_s]
    by_cases hp : p k = true
    · rw [if_pos hp, if_pos (h k hp)]; omega
    · rw [if_neg hp]; split <;> omega
theorem cnt_all : ∀ k : Fin 11, cntS (fun S => decide (pcT S = k.val)) 1024 ≤ 252 := by decide +kernel
theorem cnt_252 {o : Nat} {k : Int} (hk : 0 ≤ k ∧ k ≤ 10) {n : Nat} (hn : n ≤ 1024) : cntS (okS o k) n ≤ 252 := by
  refine Nat.le_trans (cnt_mono _ hn) ?_
  refine Nat.le_trans (cnt_imp (q := fun S => decide (pcT S = k.toNat)) ?_ 1024) (cnt_all ⟨k.toNat, by omega⟩)
  intro S h
  unfold okS at h
  simp only [Bool.and_eq_true, decide_eq_true_eq] at h ⊢
  omega
theorem cnt_end {p : Nat → Bool} {a b : Nat} (h : a ≤ b) (hp : ∀ k, a ≤ k → k < b → p k = false) (w : Nat → Int) : cntS p b = cntS p a ∧ bstS p w b = bstS p w a := by
  induction b with
  | zero => have : a = 0 := by omega
            rw [this]; exact ⟨rfl, rfl⟩
  | succ b ih =>
    rcases Nat.lt_or_ge b a with q | q
    · have : a = b + 1 := by omega
      rw [this]; exact ⟨rfl, rfl⟩
    · have h1 := ih q (fun k a1 a2 => hp k a1 (by omega))
      have h2 := hp b q (by omega)
      rw [cnt_s, bst_s, h2]
      simpa using h1
theorem ndf_le {S o : Nat} (h : ndf S o = 0) : S ≤ o := by
  have h1 : S &&& o = S := by
    apply Nat.eq_of_testBit_eq
    intro i
    have h2 := ndf_bit S o i
    rw [h, Nat.zero_testBit] at h2
    rw [Nat.testBit_and]
    cases h3 : S.testBit i <;> cases h4 : o.testBit i <;> simp_all
  rw [← h1]; exact Nat.and_le_right
theorem bitv (a i : Nat) : a / 2 ^ i % 2 = if a.testBit i then 1 else 0 := by
  rw [Nat.testBit_eq_decide_div_mod_eq]
  rcases Nat.mod_two_eq_zero_or_one (a / 2 ^ i) with h | h <;> simp [h]
theorem bit_sub {S o : Nat} (h : ndf S o = 0) (i : Nat) : S / 2 ^ i % 2 ≤ o / 2 ^ i % 2 := by
  rw [bitv, bitv]
  have h2 := ndf_bit S o i
  rw [h, Nat.zero_testBit] at h2
  cases h3 : S.testBit i <;> cases h4 : o.testBit i <;> simp_all
theorem pc_sub {S o : Nat} (h : ndf S o = 0) : pcT S ≤ pcT o := by
  have b0 : S % 2 ≤ o % 2 := by simpa using bit_sub h 0
  have b1 : S / 2 % 2 ≤ o / 2 % 2 := bit_sub h 1
  have b2 : S / 4 % 2 ≤ o / 4 % 2 := bit_sub h 2
  have b3 : S / 8 % 2 ≤ o / 8 % 2 := bit_sub h 3
  have b4 : S / 16 % 2 ≤ o / 16 % 2 := bit_sub h 4
  have b5 : S / 32 % 2 ≤ o / 32 % 2 := bit_sub h 5
  have b6 : S / 64 % 2 ≤ o / 64 % 2 := bit_sub h 6
  have b7 : S / 128 % 2 ≤ o / 128 % 2 := bit_sub h 7
  have b8 : S / 256 % 2 ≤ o / 256 % 2 := bit_sub h 8
  have b9 : S / 512 % 2 ≤ o / 512 % 2 := bit_sub h 9
  exact (Nat.add_le_add (Nat.add_le_add (Nat.add_le_add (Nat.add_le_add (Nat.add_le_add (Nat.add_le_add (Nat.add_le_add (Nat.add_le_add (Nat.add_le_add b0 b1) b2) b3) b4) b5) b6) b7) b8) b9)
theorem ndf_self (a : Nat) : ndf a a = 0 := by unfold ndf; rw [Nat.and_self, Nat.xor_self]
theorem ndf_tr {a b c : Nat} (h1 : ndf a b = 0) (h2 : ndf b c = 0) : ndf a c = 0 := by
  apply Nat.eq_of_testBit_eq
  intro i
  have e1 := ndf_bit a b i
  have e2 := ndf_bit b c i
  rw [h1, Nat.zero_testBit] at e1
  rw [h2, Nat.zero_testBit] at e2
  rw [ndf_bit, Nat.zero_testBit]
  revert e1 e2
  generalize a.testBit i = x
  generalize b.testBit i = y
  generalize c.testBit i = z
  cases x <;> cases y <;> cases z <;> decide
theorem ndf_and (a b : Nat) : ndf (a &&& b) a = 0 := by
  apply Nat.eq_of_testBit_eq
  intro i
  rw [ndf_bit, Nat.zero_testBit, Nat.testBit_and]
  cases a.testBit i <;> simp
theorem pc_ex (o : Nat) (ho : o < 1024) (k : Nat) (hk : k ≤ pcT o) : ∃ S : Nat, ndf S o = 0 ∧ pcT S = k := by
  revert ho hk
  refine by_meas (fun o : Nat => o) (P := fun o => o < 1024 → k ≤ pcT o → ∃ S : Nat, ndf S o = 0 ∧ pcT S = k) ?_ o
  intro o ih ho hk
  rcases Nat.lt_or_ge k (pcT o) with q | q
  · have hne : o ≠ 0 := by
      intro e; subst e; rw [pcT_0] at q; omega
    have h2 : pcT (o &&& (o - 1)) + 1 = pcT o := pcT_and ⟨o, ho⟩ hne
    have h1 : o &&& (o - 1) ≤ o - 1 := Nat.and_le_right
    obtain ⟨S, s1, s2⟩ := ih (o &&& (o - 1)) (show o &&& (o - 1) < o by omega) (by omega) (by omega)
    exact ⟨S, ndf_tr s1 (ndf_and _ _), s2⟩
  · exact ⟨o, ndf_self o, by omega⟩
/-- some set of that size is open just if enough strips are -/
theorem cnt_pos {o : Nat} {n : Nat} (ho : o < n) (hn : n ≤ 1024) {k : Int} (hk : 0 ≤ k) : 0 < cntS (okS o k) n ↔ k ≤ (pcT o : Int) := by
  constructor
  · intro h
    rcases bst_is (okS o k) (fun _ => 0) n with ⟨_, h2⟩ | ⟨b, _, _, h3, _⟩
    · omega
    · unfold okS at h3
      simp only [Bool.and_eq_true, decide_eq_true_eq] at h3
      have := pc_sub h3.1
      omega
  · intro h
    obtain ⟨S, s1, s2⟩ := pc_ex o (by omega) k.toNat (by omega)
    have h3 : okS o k S = true := by
      unfold okS
      simp only [Bool.and_eq_true, decide_eq_true_eq]
      exact ⟨s1, by omega⟩
    have := ndf_le s1
    have := cnt_lt (okS o k) (a := S) (b := n) (by omega) h3
    omega
section
variable {l : Launch} {E : Ev} {G : Sh} {D : Dm} {v : Vl}
theorem two_le {k : Int} (h : 0 ≤ k ∧ k ≤ 10) : 2 ^ k.toNat ≤ 1024 := by
  have h1 : (2 : Nat) ^ k.toNat ≤ 2 ^ 10 := Nat.pow_le_pow_right (by decide) (by omega)
  exact h1
theorem c_X10_bestOf (hL : Lay G) (hv : wfV (D 108)) (hh : D 107 20 = 0) {f k : Int} (hf : 0 ≤ f ∧ f < D 108 2) (hk : 1 ≤ k ∧ k ≤ 6) : C0 l E MX10_bestOf 0 [vR E 107, vI f, vI k] G D (fun r D' => r = bstS (okS (openN (D 108) f) k) (worthS (D 108) f) (2 ^ (D 108 0).toNat) ∧ (r ≠ -1 → D' 107 23 = worthS (D 108) f r.toNat) ∧ mS D D') := by
  have hS := wfS hv
  have h10 := two_le hS
  have hF := wfF hv
  refine s_X10_bestOf hL ?_
  refine C0.use (c_X10_mayHave hL hv f (by omega)) ?_
  rintro r D1 ⟨rfl, rfl⟩
  try dsimp only
  have h0 : okS (openN (D1 108) f) k 0 = false := by
    unfold okS; rw [pcT_0]; simp; omega
  have b1 : bstS (okS (openN (D1 108) f) k) (worthS (D1 108) f) 1 = -1 := by
    rw [show (1 : Nat) = 0 + 1 from rfl, bst_s, h0]; rfl
  have hone : 1 ≤ 2 ^ (D1 108 0).toNat := Nat.one_le_two_pow
  have ho : openN (D1 108) f < 2 ^ (D1 108 0).toNat := setN_lt _ _
  refine up_from (P := fun i => ∀ (x : Int) (D' : Dm), x = bstS (okS (openN (D1 108) f) k) (worthS (D1 108) f) i.toNat → mS D1 D' → (x ≠ -1 → D' 107 23 = worthS (D1 108) f x.toNat) → KX10_bestOf l E _ 12 [(0, vR E 107), (1, vI f), (2, vI k), (3, vI (openN (D1 108) f : Nat)), (4, vI x), (5, vI i)] G D') (lo := 1) (n := ((2 ^ (D1 108 0).toNat : Nat) : Int)) (by omega) ?_ ?_ (-1) D1 b1.symm mS.rf (fun h => absurd rfl h)
  · intro x D' hx hm hw
    have e := hm.at
    refine s_X10_bestOf_12 hL ⟨by omega, fun _ => ⟨rfl, ?_, hw, hm⟩, fun h => absurd h ?_⟩
    · rw [hx]; rfl
    · rw [e, iSl1 (by omega)]; omega
  · intro i i0 i1 ih x D' hx hm hw
    have e := hm.at
    have eh := hm.hv
    obtain ⟨S, rfl⟩ := Int.eq_ofNat_of_zero_le (show 0 ≤ i by omega)
    have es : ((S : Int) + 1).toNat = S + 1 := by omega
    rw [Int.toNat_natCast] at hx
    rw [es] at ih
    have hSl : S < 2 ^ (D1 108 0).toNat := by omega
    refine s_X10_bestOf_12 hL ⟨by omega, fun h => absurd h ?_, fun _ => ⟨fun h => ?_, fun h => ?_⟩⟩
    · rw [e, iSl1 (by omega)]; omega
    · rw [iN_nat S _ (by omega)] at h
      have hp : okS (openN (D1 108) f) k S = false := by
        unfold okS; simp; intro q; omega
      refine ih x D' ?_ hm hw
      rw [bst_s, hp, hx]; rfl
    · rw [iN_nat S _ (by omega)] at h
      refine C0.use (c_X10_bits hL (a := S) (by omega)) ?_
      rintro r D2 ⟨rfl, rfl⟩
      try dsimp only
      have hpc := pcT_le S
      refine ⟨⟨by omega, by omega⟩, fun hk1 => ?_, fun hk1 => ?_⟩
      · have hp : okS (openN (D1 108) f) k S = true := by
          unfold okS; simp; exact ⟨by omega, hk1⟩
        rw [bst_s, if_pos hp, ← hx] at ih
        refine C0.use (c_X10_worthOf hL (by rw [e]; exact hv) (by rw [eh]; exact hh) (by rw [e]; exact hf) (S := S) (by rw [e]; exact hSl)) ?_
        rintro r D3 ⟨rfl, hm3⟩
        try dsimp only
        rw [e]
        have hwb := worth_b hv hf hSl
        have e23 : x ≠ -1 → D3 107 23 = worthS (D1 108) f x.toNat := fun q => by rw [← hw q]; exact hm3 107 23 (by simp [scrR])
        have hm4 := hm.tr hm3.m
        have hxb : -1 ≤ x ∧ x < 1024 := by
          rcases bst_is (okS (openN (D1 108) f) k) (worthS (D1 108) f) S with ⟨q, _⟩ | ⟨b, q, q2, _⟩ <;> omega
        refine ⟨by omega, fun hx1 => ⟨by omega, ?_⟩, fun hx1 => ⟨by omega, fun hlt => ?_, fun hle => ?_⟩⟩
        · rw [if_pos hx1] at ih
          exact ih _ _ rfl (hm4.up (by simp [scrM]) _) (fun _ => by rw [Int.toNat_natCast]; exact upd2_same _ _ _ _)
        · rw [e23 hx1] at hlt
          rw [if_neg hx1, if_pos hlt] at ih
          exact ih _ _ rfl (hm4.up (by simp [scrM]) _) (fun _ => by rw [Int.toNat_natCast]; exact upd2_same _ _ _ _)
        · rw [e23 hx1] at hle
          rw [if_neg hx1, if_neg (by omega)] at ih
          exact ih _ _ rfl hm4 e23
      · have hp : okS (openN (D1 108) f) k S = false := by
          unfold okS; simp; intro _; exact hk1
        refine ih x D2 ?_ hm hw
        rw [bst_s, hp, hx]; rfl
end

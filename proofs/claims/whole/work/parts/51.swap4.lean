-- swaps and swap, both sides
def kth (p : Nat → Bool) (k : Int) : Nat → Nat
  | 0 => 0
  | n + 1 => if p n = true ∧ (cntS p n : Int) = k then n else kth p k n
theorem kth_is {p : Nat → Bool} {k : Int} {n t : Nat} (ht : t < n) (hp : p t = true) (hc : (cntS p t : Int) = k) : kth p k n = t := by
  induction n with
  | zero => omega
  | succ n ih =>
    rw [kth]
    rcases Nat.lt_or_ge t n with q | q
    · rw [if_neg]
      · exact ih q
      · rintro ⟨h1, h2⟩
        have := cnt_lt p q hp
        omega
    · have : t = n := by omega
      subst this
      rw [if_pos ⟨hp, hc⟩]
theorem kth_ex {p : Nat → Bool} {k : Int} {n : Nat} (h0 : 0 ≤ k) (h : k < (cntS p n : Nat)) : ∃ t : Nat, t < n ∧ p t = true ∧ (cntS p t : Int) = k := by
  induction n with
  | zero => rw [cntS] at h; omega
  | succ n ih =>
    rw [cnt_s] at h
    by_cases hp : p n = true
    · rw [if_pos hp] at h
      by_cases q : k < (cntS p n : Nat)
      · obtain ⟨t, a, b, c⟩ := ih q
        exact ⟨t, by omega, b, c⟩
      · exact ⟨n, by omega, hp, by omega⟩
    · rw [if_neg hp] at h
      obtain ⟨t, a, b, c⟩ := ih h
      exact ⟨t, by omega, b, c⟩
abbrev twoP (v : Vl) (f g : Int) : Prop := (0 ≤ f ∧ f < v 2) ∧ ((0 ≤ g ∧ g < v 2) ∧ f ≠ g)
def swN (v : Vl) (f g : Int) : Nat := cntS (swQ v f g) (10 * (v 0).toNat)
def swK (v : Vl) (f g k : Int) : Nat := kth (swQ v f g) k (10 * (v 0).toNat)
def q_swaps (v : Vl) (f g : Int) : Ans := if twoP v f g then aNo 0 (swN v f g : Nat) else aNo 1 (-1)
def q_swap (v : Vl) (f g k w : Int) : Ans := if (twoP v f g ∧ 0 ≤ k) ∧ 0 ≤ w ∧ w ≤ 1 then (if (swN v f g : Nat) ≤ k then aNo 6 (-1) else aNo 0 (if w = 0 then (swK v f g k / 10 : Nat) else (swK v f g k % 10 : Nat))) else aNo 1 (-1)
section
variable {l : Launch} {E : Ev} {G : Sh} {D : Dm}
theorem sw_b {v : Vl} (hv : wfV v) (f g : Int) : swN v f g ≤ 100 := by
  have hs := wfS hv
  exact Nat.le_trans (cnt_le _ _) (by omega)
theorem c_X10_swaps (hL : Lay G) (hv : wfV (D 108)) (hh : D 107 20 = 0) {f g : Int} (hf : iRg f) (hg : iRg g) {a : Ans} (ha : a = q_swaps (D 108) f g) : C0 l E MX10_swaps 0 [vR E 107, vI f, vI g] G D (fun r D' => r = a.2.1 ∧ mQ D D' a) := by
  refine s_X10_swaps hL ⟨⟨hf, hg⟩, fun q => ⟨rfl, mQ.no (by rw [ha, q_swaps, if_neg q]) mS.rf⟩, fun q => ?_⟩
  refine C0.use (c_X10_swapsOf hL hv hh q.1 q.2.1 q.2.2 (by decide)) ?_
  rintro r D1 ⟨rfl, -, hm⟩
  exact ⟨rfl, mQ.no (by rw [ha, q_swaps, if_pos q]; rfl) hm⟩
theorem c_X10_swap (hL : Lay G) (hv : wfV (D 108)) (hh : D 107 20 = 0) {f g k w : Int} (hf : iRg f) (hg : iRg g) (hk : iRg k) (hw : iRg w) {a : Ans} (ha : a = q_swap (D 108) f g k w) : C0 l E MX10_swap 0 [vR E 107, vI f, vI g, vI k, vI w] G D (fun r D' => r = a.2.1 ∧ mQ D D' a) := by
  refine s_X10_swap hL ⟨⟨hf, hg⟩, fun q => ⟨rfl, mQ.no (by rw [ha, q_swap, if_neg (fun z => q z.1.1)]) mS.rf⟩, fun q => ⟨hk, fun q2 => ⟨rfl, mQ.no (by rw [ha, q_swap, if_neg (by omega)]) mS.rf⟩, fun q2 => ⟨hw, fun q3 => ⟨rfl, mQ.no (by rw [ha, q_swap, if_neg (by omega)]) mS.rf⟩, fun q3 => ⟨fun q4 => ?_, fun q4 => ⟨rfl, mQ.no (by rw [ha, q_swap, if_neg (by omega)]) mS.rf⟩⟩⟩⟩⟩
  rw [q_swap, if_pos ⟨⟨q, q2⟩, q3, q4⟩] at ha
  refine C0.use (c_X10_swapsOf hL hv hh q.1 q.2.1 q.2.2 hk) ?_
  rintro r D1 ⟨hr, hat, hm⟩
  try dsimp only
  have hr' : r = (swN (D 108) f g : Nat) := hr
  have hb := sw_b hv f g
  rw [← hr'] at ha
  refine ⟨by omega, fun z => ?_, fun z => ⟨rfl, mQ.no (by rw [ha, if_pos z]) hm⟩⟩
  obtain ⟨t, t1, t2, t3⟩ := kth_ex (p := swQ (D 108) f g) (n := 10 * (D 108 0).toNat) q2 (by rw [hr] at z; exact z)
  obtain ⟨e1, e2⟩ := hat t t1 t2 t3
  have ek : swK (D 108) f g k = t := kth_is t1 t2 t3
  rw [if_neg (by omega), ek] at ha
  rw [e1, e2]
  refine ⟨fun z2 => ⟨rfl, mQ.no (by rw [ha, if_neg z2]) hm⟩, fun z2 => ⟨rfl, mQ.no (by rw [ha, if_pos z2]) hm⟩⟩
end
section
variable {l : Launch} {E : Ev} {G : Sh} {D : Dm} {v : Vl}
theorem c_X9_swaps (hL : Lay G) (hv : wfV v) (hC : CV 1 v D) (hO : CVo 1 v D) (hI : RI v G D) {f g : Int} (hf : iRg f) (hg : iRg g) {a : Ans} (ha : a = q_swaps v f g) : Ct l E MX9_swaps 0 (mcR G v) (msR G v) [vR E 0, vI f, vI g] G D (cP v G D a) := by
  refine s_X9_swaps hL ?_
  rw [show D 1 2 = v 2 from hC.2.2.1]
  refine ⟨⟨hf, hg⟩, fun q => ?_, fun q => cP.no hL hI (by rw [ha, q_swaps, if_neg q]) yS.rf (Or.inl rfl)⟩
  refine (c_X5_ready hL hv hC hO hI).mono ?_
  rintro - G1 D2 ⟨hG1, hL1, hR1, hI1, hx1⟩
  refine ⟨hL1, ?_⟩
  refine C0.use (c_X4_countSwaps hL1 hv hR1 q.1 q.2.1 q.2.2 (by decide)) ?_
  rintro r D3 ⟨⟨hc, r0, r1⟩, hs3⟩
  try dsimp only
  have hr : r = (swN v f g : Nat) := by
    rcases hc with z | z
    · exact z.1
    · have := z.1; omega
  exact cP.no hL1 (hI1.cs hL1 hs3) (by rw [ha, q_swaps, if_pos q, hr]) (hx1.y.tr hs3.y) (Or.inr hG1)
theorem c_X9_swap (hL : Lay G) (hv : wfV v) (hC : CV 1 v D) (hO : CVo 1 v D) (hI : RI v G D) {f g k w : Int} (hf : iRg f) (hg : iRg g) (hk : iRg k) (hw : iRg w) {a : Ans} (ha : a = q_swap v f g k w) : Ct l E MX9_swap 0 (mcR G v) (msR G v) [vR E 0, vI f, vI g, vI k, vI w] G D (cP v G D a) := by
  refine s_X9_swap hL ?_
  rw [show D 1 2 = v 2 from hC.2.2.1]
  refine ⟨⟨hf, hg⟩, fun q => cP.no hL hI (by rw [ha, q_swap, if_neg (fun z => q z.1.1)]) yS.rf (Or.inl rfl), fun q => ⟨hk, fun q2 => cP.no hL hI (by rw [ha, q_swap, if_neg (by omega)]) yS.rf (Or.inl rfl), fun q2 => ⟨hw, fun q3 => ?_, fun q3 => cP.no hL hI (by rw [ha, q_swap, if_neg (fun z => q3 z.2)]) yS.rf (Or.inl rfl)⟩⟩⟩
  rw [q_swap, if_pos ⟨⟨q, q2⟩, q3⟩] at ha
  refine (c_X5_ready hL hv hC hO hI).mono ?_
  rintro - G1 D2 ⟨hG1, hL1, hR1, hI1, hx1⟩
  refine ⟨hL1, ?_⟩
  refine C0.use (c_X4_countSwaps hL1 hv hR1 q.1 q.2.1 q.2.2 (by omega)) ?_
  rintro r D3 ⟨⟨hc, r0, r1⟩, hs3⟩
  try dsimp only
  have hI3 := hI1.cs hL1 hs3
  have hy3 := hx1.y.tr hs3.y
  refine ⟨by omega, fun z => ⟨by omega, ?_⟩, fun z => ?_⟩
  · rcases hc with c | ⟨c1, t, t1, t2, t3, t4, t5⟩
    · have := c.2; omega
    · have ek : swK v f g k = t := kth_is t1 t2 t3
      have hlt : k < (swN v f g : Nat) := by
        have := cnt_lt _ t1 t2
        unfold swN; omega
      rw [if_neg (by omega), ek] at ha
      by_cases w0 : w = 0
      · subst w0
        rw [t4]
        exact cP.no hL1 hI3 (by rw [ha, if_pos rfl]) hy3 (Or.inr hG1)
      · have w1 : w = 1 := by omega
        subst w1
        rw [t5]
        exact cP.no hL1 hI3 (by rw [ha, if_neg (by decide)]) hy3 (Or.inr hG1)
  · rcases hc with c | ⟨c1, _⟩
    · have hr : r = (swN v f g : Nat) := c.1
      exact cP.no hL1 hI3 (by rw [ha, if_pos (by omega)]) hy3 (Or.inr hG1)
    · omega
end

-- marks
def shV (v : Vl) (n : Int) : Vl := fun i => v (n + i)
/-- a village is taken into another, its first k rows -/
def tkP (D : Dm) (c d k : Nat) : Dm := fun c' i => if c' = c ∧ 0 ≤ i ∧ i ≤ 2 then D d i else if (c < c' ∧ c' ≤ c + k) ∧ 0 ≤ i ∧ i < vlen (c' - c - 1) then D (d + (c' - c)) i else D c' i
def tkA (D : Dm) (c d : Nat) : Dm := fun c' i => if c' = c ∧ 0 ≤ i ∧ i ≤ 4 then D d i else if (c < c' ∧ c' ≤ c + 12) ∧ 0 ≤ i ∧ i < vlen (c' - c - 1) then D (d + (c' - c)) i else D c' i
theorem tkP_s {D : Dm} {c d k : Nat} (h : d + 13 ≤ c ∨ c + 13 ≤ d) (hk : k < 12) : cpy2 (tkP D c d k) (d + (k + 1)) 0 (c + (k + 1)) 0 ((vlen k : Nat) : Int) = tkP D c d (k + 1) := by
  funext c' i
  simp only [cpy2, tkP]
  by_cases h1 : c' = c + (k + 1) ∧ 0 ≤ i ∧ i < 0 + ((vlen k : Nat) : Int)
  · obtain ⟨rfl, h2, h3⟩ := h1
    have e1 : c + (k + 1) - c - 1 = k := by omega
    have e2 : d + (c + (k + 1) - c) = d + (k + 1) := by omega
    rw [e1, e2, if_pos ⟨rfl, h2, h3⟩, if_neg (by omega), if_neg (by omega), if_neg (by omega), if_pos ⟨by omega, h2, by omega⟩]
    congr 1; omega
  · rw [if_neg h1]
    by_cases h2 : c' = c ∧ 0 ≤ i ∧ i ≤ 2
    · rw [if_pos h2, if_pos h2]
    · rw [if_neg h2, if_neg h2]
      by_cases h3 : (c < c' ∧ c' ≤ c + k) ∧ 0 ≤ i ∧ i < vlen (c' - c - 1)
      · rw [if_pos h3, if_pos (by omega)]
      · rw [if_neg h3]
        by_cases h4 : c' = c + (k + 1)
        · subst h4
          have e1 : c + (k + 1) - c - 1 = k := by omega
          rw [e1, if_neg (by omega)]
        · rw [if_neg (by omega)]
section
variable {l : Launch} {E : Ev} {G : Sh} {D : Dm} {v : Vl} {a : Ans}
theorem vlen_b (j : Nat) : vlen j ≤ 10 ∧ 4 ≤ vlen j := by unfold vlen; split <;> (try split) <;> omega
theorem c_X8_row (hL : Lay G) {c d : Nat} (hc : isVil G c) (hd : isVil G d) (h : d + 13 ≤ c ∨ c + 13 ≤ d) {k : Nat} (hk : k < 12) : C0 l E MX8_copyRow 2 [vR E (d + (k + 1)), vR E (c + (k + 1))] G (tkP D c d k) (fun _ D' => D' = tkP D c d (k + 1)) := by
  have h1 := (hd.2 k hk).2
  have h2 := (hc.2 k hk).2
  rw [Nat.add_comm 1 k] at h1 h2
  have hb := vlen_b k
  refine s_X8_copyRow hL h1 (by omega) h2 (by omega) ⟨by omega, rfl, ?_⟩
  rw [← tkP_s h hk]
  congr 1
  omega
theorem c_X8_takePlaces (hL : Lay G) {c d : Nat} (hc : isVil G c) (hd : isVil G d) (h : d + 13 ≤ c ∨ c + 13 ≤ d) : C0 l E MX8_takePlaces 2 [vR E c, vR E d] G D (fun _ D' => D' = tkP D c d 12) := by
  refine s_X8_takePlaces hL hc hd ?_
  have e0 : upd2 (upd2 (upd2 D c 0 (D d 0)) c 1 ((upd2 D c 0 (D d 0)) d 1)) c 2 ((upd2 (upd2 D c 0 (D d 0)) c 1 ((upd2 D c 0 (D d 0)) d 1)) d 2) = tkP D c d 0 := by
    funext c' i
    rw [upd2_cell (c := c) (c' := d) _ _ _ _ (by omega), upd2_cell (c := c) (c' := d) _ _ _ _ (by omega), upd2_cell (c := c) (c' := d) _ _ _ _ (by omega)]
    simp only [upd2, tkP]
    by_cases q : c' = c
    · subst q
      by_cases q2 : i = 2
      · subst q2; simp
      · by_cases q1 : i = 1
        · subst q1; simp
        · by_cases q0 : i = 0
          · subst q0; simp
          · rw [if_neg (fun z => q2 z.2), if_neg (fun z => q1 z.2), if_neg (fun z => q0 z.2), if_neg (by omega), if_neg (by omega)]
    · rw [if_neg (fun z => q z.1), if_neg (fun z => q z.1), if_neg (fun z => q z.1), if_neg (fun z => q z.1), if_neg (by omega)]
  rw [e0]
  refine C0.use (c_X8_row hL hc hd h (k := 0) (by decide)) ?_
  rintro - D1 rfl
  refine C0.use (c_X8_row hL hc hd h (k := 1) (by decide)) ?_
  rintro - D1 rfl
  refine C0.use (c_X8_row hL hc hd h (k := 2) (by decide)) ?_
  rintro - D1 rfl
  refine C0.use (c_X8_row hL hc hd h (k := 3) (by decide)) ?_
  rintro - D1 rfl
  refine C0.use (c_X8_row hL hc hd h (k := 4) (by decide)) ?_
  rintro - D1 rfl
  refine C0.use (c_X8_row hL hc hd h (k := 5) (by decide)) ?_
  rintro - D1 rfl
  refine C0.use (c_X8_row hL hc hd h (k := 6) (by decide)) ?_
  rintro - D1 rfl
  refine C0.use (c_X8_row hL hc hd h (k := 7) (by decide)) ?_
  rintro - D1 rfl
  refine C0.use (c_X8_row hL hc hd h (k := 8) (by decide)) ?_
  rintro - D1 rfl
  refine C0.use (c_X8_row hL hc hd h (k := 9) (by decide)) ?_
  rintro - D1 rfl
  refine C0.use (c_X8_row hL hc hd h (k := 10) (by decide)) ?_
  rintro - D1 rfl
  refine C0.use (c_X8_row hL hc hd h (k := 11) (by decide)) ?_
  rintro - D1 rfl
  exact ⟨rfl, rfl⟩
theorem c_X8_takeAll (hL : Lay G) {c d : Nat} (hc : isVil G c) (hd : isVil G d) (h : d + 13 ≤ c ∨ c + 13 ≤ d) : C0 l E MX8_takeAll 2 [vR E c, vR E d] G D (fun _ D' => D' = tkA D c d) := by
  refine s_X8_takeAll hL hc hd ?_
  refine C0.use (c_X8_takePlaces hL hc hd h) ?_
  rintro - D1 rfl
  refine ⟨rfl, ?_⟩
  have e1 : ∀ i, tkP D c d 12 d i = D d i := fun i => by simp only [tkP]; rw [if_neg (by omega), if_neg (by omega)]
  funext c' i
  rw [upd2_cell (c := c) (c' := d) _ _ _ _ (by omega), e1, e1]
  simp only [upd2, tkA, tkP]
  by_cases q : c' = c
  · subst q
    by_cases q4 : i = 4
    · subst q4; simp
    · by_cases q3 : i = 3
      · subst q3; simp
      · rw [if_neg (fun z => q4 z.2), if_neg (fun z => q3 z.2)]
        by_cases q2 : 0 ≤ i ∧ i ≤ 2
        · rw [if_pos ⟨rfl, q2⟩, if_pos (by omega)]
        · rw [if_neg (by omega), if_neg (by omega), if_neg (by omega)]
  · rw [if_neg (fun z => q z.1), if_neg (fun z => q z.1), if_neg (fun z => q z.1), if_neg (show ¬ (c' = c ∧ 0 ≤ i ∧ i ≤ 4) from fun z => q z.1)]
/-- the village taken is the same one -/
theorem CV_take {c d : Nat} {D' : Dm} (hv : wfV v) (hC : CV d v D) (hO : CVo d v D) (h0 : ∀ i, 0 ≤ i → i ≤ 4 → D' c i = D d i) (h1 : ∀ (j : Nat) (i : Int), j < 12 → 0 ≤ i → i < vlen j → D' (c + (j + 1)) i = D (d + (j + 1)) i) : CV c v D' ∧ CVo c v D' := by
  have hS := wfS hv
  have hH := wfH hv
  have hF := wfF hv
  obtain ⟨a0, a1, a2, a3, a4, a5, a6, a7⟩ := hC
  have rw0 : ∀ (j : Nat) (i : Int), j < 5 → 0 ≤ i → i < v 0 → D' (c + (j + 1)) i = D (d + (j + 1)) i := fun j i hj i0 i1 => h1 j i (by omega) i0 (by unfold vlen; rw [if_pos hj]; omega)
  have rw1 : ∀ (j : Nat) (i : Int), 5 ≤ j → j < 9 → 0 ≤ i → i < v 1 → D' (c + (j + 1)) i = D (d + (j + 1)) i := fun j i hj hj2 i0 i1 => h1 j i (by omega) i0 (by unfold vlen; rw [if_neg (by omega), if_pos hj2]; omega)
  have rw2 : ∀ (j : Nat) (i : Int), 9 ≤ j → j < 12 → 0 ≤ i → i < v 2 → D' (c + (j + 1)) i = D (d + (j + 1)) i := fun j i hj hj2 i0 i1 => h1 j i (by omega) i0 (by unfold vlen; rw [if_neg (by omega), if_neg (by omega)]; omega)
  refine ⟨⟨by rw [h0 0 (by decide) (by decide)]; exact a0, by rw [h0 1 (by decide) (by decide)]; exact a1, by rw [h0 2 (by decide) (by decide)]; exact a2, by rw [h0 3 (by decide) (by decide)]; exact a3, by rw [h0 4 (by decide) (by decide)]; exact a4, fun s s0 s1 => ?_, fun s s0 s1 => ?_, fun s s0 s1 => ?_⟩, fun s s0 s1 => ?_⟩
  · obtain ⟨b1, b2, b3, b4, b5⟩ := a5 s s0 s1
    exact ⟨(rw0 0 s (by decide) s0 s1).trans b1, (rw0 1 s (by decide) s0 s1).trans b2, (rw0 2 s (by decide) s0 s1).trans b3, (rw0 3 s (by decide) s0 s1).trans b4, (rw0 4 s (by decide) s0 s1).trans b5⟩
  · obtain ⟨b1, b2, b3⟩ := a6 s s0 s1
    exact ⟨(rw1 5 s (by decide) (by decide) s0 s1).trans b1, (rw1 6 s (by decide) (by decide) s0 s1).trans b2, (rw1 8 s (by decide) (by decide) s0 s1).trans b3⟩
  · obtain ⟨b1, b2, b3⟩ := a7 s s0 s1
    exact ⟨(rw2 9 s (by decide) (by decide) s0 s1).trans b1, (rw2 10 s (by decide) (by decide) s0 s1).trans b2, (rw2 11 s (by decide) (by decide) s0 s1).trans b3⟩
  · exact (rw1 7 s (by decide) (by decide) s0 s1).trans (hO s s0 s1)
def q_mark (n : Int) : Ans := if n = 3 then aNo 4 (-1) else aNo 0 (n + 1)
def q_back (n : Int) : Ans := if n = 0 then aNo 6 (-1) else aNo 0 (n - 1)
def mkC (D : Dm) : Dm := if D 0 2 = 3 then D else upd2 (tkA D (68 + 13 * Int.toNat (D 0 2)) 1) 0 2 (D 0 2 + 1)
def mkM (D : Dm) : Dm := if D 107 37 = 3 then D else upd2 (cpy2 D 108 0 108 (100 * (D 107 37 + 1)) 100) 107 37 (D 107 37 + 1)
def bkC (D : Dm) : Dm := if D 0 2 = 0 then D else upd2 (upd2 (tkA D 1 (68 + 13 * Int.toNat (D 0 2 - 1))) 0 2 (D 0 2 - 1)) 42 5 0
def bkM (D : Dm) : Dm := if D 107 37 = 0 then D else upd2 (cpy2 D 108 (100 * D 107 37) 108 0 100) 107 37 (D 107 37 - 1)
theorem tkA_off {c d c' : Nat} (h : c' < c ∨ c + 12 < c') (i : Int) : tkA D c d c' i = D c' i := by
  simp only [tkA]; rw [if_neg (by omega), if_neg (by omega)]
theorem c_X9_mark (hL : Lay G) (hI : RI v G D) (hn : 0 ≤ D 0 2 ∧ D 0 2 ≤ 3) (ha : a = q_mark (D 0 2)) : Ct l E MX9_mark 0 0 0 [vR E 0] G D (cP v G (mkC D) a) := by
  refine s_X9_mark hL ⟨fun z => ⟨by omega, ?_⟩, fun z => ?_⟩
  · refine C0.use (c_X8_takeAll hL (lay_markV hL (by omega)) (lay_vil1 hL) (by omega)) ?_
    rintro - D1 rfl
    rw [tkA_off (by omega)]
    refine ⟨by omega, ?_⟩
    rw [mkC, if_neg (by omega)]
    refine cP.no hL ?_ (by rw [ha, q_mark, if_neg (by omega)]) yS.rf (Or.inl rfl)
    refine hI.cells hL (fun c i hc => ?_)
    rw [upd2_cell _ _ _ _ (by omega)]
    exact tkA_off (by omega) i
  · rw [mkC, if_pos (by omega)]
    exact cP.no hL hI (by rw [ha, q_mark, if_pos (by omega)]) yS.rf (Or.inl rfl)
theorem c_X9_back (hL : Lay G) (hI : RI v G D) {w : Vl} (hw : D 0 2 = 0 → RI w G D) (hn : 0 ≤ D 0 2 ∧ D 0 2 ≤ 3) (ha : a = q_back (D 0 2)) : Ct l E MX9_back 0 0 0 [vR E 0] G D (cP w G (bkC D) a) := by
  refine s_X9_back hL ⟨fun z => ⟨by omega, ?_⟩, fun z => ?_⟩
  · refine C0.use (c_X8_takeAll hL (lay_vil1 hL) (lay_markV hL (by omega)) (by omega)) ?_
    rintro - D1 rfl
    rw [tkA_off (by omega), upd2_same, bkC, if_neg (by omega)]
    have e : tkA (upd2 D 0 2 (D 0 2 - 1)) 1 (68 + 13 * Int.toNat (D 0 2 - 1)) = upd2 (tkA D 1 (68 + 13 * Int.toNat (D 0 2 - 1))) 0 2 (D 0 2 - 1) := by
      funext c i
      by_cases q : c = 0
      · subst q
        rw [tkA_off (by omega)]
        by_cases q2 : i = 2
        · subst q2; rw [upd2_same, upd2_same]
        · rw [upd2_place _ _ _ q2, upd2_place _ _ _ q2, tkA_off (by omega)]
      · rw [upd2_cell _ _ _ _ q]
        simp only [tkA]
        rw [upd2_cell _ _ _ _ (by omega), upd2_cell _ _ _ _ (by omega), upd2_cell _ _ _ _ q]
    rw [e]
    refine cP.no hL ⟨hI.1, Or.inl (upd2_same _ _ _ _)⟩ (by rw [ha, q_back, if_neg (by omega)]) yS.rf (Or.inl rfl)
  · rw [bkC, if_pos (by omega)]
    exact cP.no hL (hw (by omega)) (by rw [ha, q_back, if_pos (by omega)]) yS.rf (Or.inl rfl)
theorem c_X10_copies (hL : Lay G) {p q : Int} (hp : 0 ≤ p ∧ p ≤ 400) (hq : 0 ≤ q ∧ q ≤ 400) (hd : p + 100 ≤ q ∨ q + 100 ≤ p) : C0 l E MX10_copies 2 [vR E 107, vI p, vI q] G D (fun _ D' => D' = cpy2 D 108 p 108 q 100) := by
  refine s_X10_copies hL ?_
  refine up_from (P := fun k => ∀ D', D' = cpy2 D 108 p 108 q k → KX10_copies l E _ 2 [(0, vR E 107), (1, vI p), (2, vI q), (3, vI k)] G D') (lo := 0) (n := 100) (by omega) ?_ ?_ D ?_
  · rintro D' rfl
    exact s_X10_copies_2 hL ⟨by omega, fun _ => ⟨rfl, rfl⟩, fun z => absurd z (by omega)⟩
  · rintro k k0 k1 ih D' rfl
    refine s_X10_copies_2 hL ⟨by omega, fun z => absurd z (by omega), fun _ => ⟨by omega, ih _ ?_⟩⟩
    funext c i
    simp only [upd2, cpy2]
    by_cases h : c = 108 ∧ i = q + k
    · rw [if_pos h, if_neg (by omega), if_pos (by omega)]
      congr 1; omega
    · rw [if_neg h]
      by_cases h3 : c = 108 ∧ q ≤ i ∧ i < q + k
      · rw [if_pos h3, if_pos (by omega)]
      · rw [if_neg h3, if_neg (by omega)]
  · funext c i
    simp only [cpy2]
    rw [if_neg (by omega)]
theorem c_X10_mark (hL : Lay G) (hn : 0 ≤ D 107 37 ∧ D 107 37 ≤ 3) (ha : a = q_mark (D 107 37)) : C0 l E MX10_mark 0 [vR E 107] G D (fun r D' => r = a.2.1 ∧ mQ (mkM D) D' a) := by
  refine s_X10_mark hL ⟨fun z => ⟨by omega, ?_⟩, fun z => ?_⟩
  · refine C0.use (c_X10_copies hL (by omega) (by omega) (by omega)) ?_
    rintro - D1 rfl
    rw [cpy2_off _ (by decide), upd2_same, mkM, if_neg z]
    have e : cpy2 (upd2 D 107 37 (D 107 37 + 1)) 108 0 108 (100 * (D 107 37 + 1)) 100 = upd2 (cpy2 D 108 0 108 (100 * (D 107 37 + 1)) 100) 107 37 (D 107 37 + 1) := by
      funext c i
      simp only [cpy2, upd2]
      by_cases q : c = 107 ∧ i = 37
      · rw [if_neg (by omega), if_pos q, if_pos q]
      · by_cases q2 : c = 108 ∧ 100 * (D 107 37 + 1) ≤ i ∧ i < 100 * (D 107 37 + 1) + 100
        · rw [if_pos q2, if_neg (by omega), if_neg q, if_pos q2]
        · rw [if_neg q2, if_neg q, if_neg q, if_neg q2]
    rw [e]
    exact ⟨rfl, mQ.no (by rw [ha, q_mark, if_neg z]) mS.rf⟩
  · rw [mkM, if_pos z]
    exact ⟨rfl, mQ.no (by rw [ha, q_mark, if_pos z]) mS.rf⟩
theorem c_X10_back (hL : Lay G) (hn : 0 ≤ D 107 37 ∧ D 107 37 ≤ 3) (ha : a = q_back (D 107 37)) : C0 l E MX10_back 0 [vR E 107] G D (fun r D' => r = a.2.1 ∧ mQ (bkM D) D' a) := by
  refine s_X10_back hL ⟨fun z => ?_, fun z => ?_⟩
  · refine C0.use (c_X10_copies hL (by omega) (by omega) (by omega)) ?_
    rintro - D1 rfl
    rw [cpy2_off _ (by decide), bkM, if_neg z]
    exact ⟨by omega, rfl, mQ.no (by rw [ha, q_back, if_neg z]) mS.rf⟩
  · rw [bkM, if_pos z]
    exact ⟨rfl, mQ.no (by rw [ha, q_back, if_pos z]) mS.rf⟩
end

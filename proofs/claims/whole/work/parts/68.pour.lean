-- pour and feed
abbrev puOk (f p g q n : Int) : Prop := (0 ≤ f ∧ f < 4) ∧ (0 ≤ g ∧ g < 4) ∧ 0 ≤ p ∧ 0 ≤ q ∧ 0 ≤ n
def whyU (m so : Int → Int) (f p g q n : Int) : Int := if puOk f p g q n then (if m f = -1 ∨ m g = -1 then 2 else if so f ≠ so g then 8 else if m f < p + n ∨ m g < q + n then 3 else 0) else 1
def q_pour (m so : Int → Int) (f p g q n : Int) : Ans := if whyU m so f p g q n = 0 then aNo 0 1 else aNo (whyU m so f p g q n) 0
def puC (D : Dm) (f p g q n : Int) : Dm := if whyU (D 22) (D 21) f p g q n = 0 then cpy2 D (17 + f.toNat) p (17 + g.toNat) q n else D
def puM (D : Dm) (f p g q n : Int) : Dm := if whyU (D 110) (D 109) f p g q n = 0 then cpy2 D 111 ((60 * f) + p) 111 ((60 * g) + q) n else D
theorem cpy2_off (D : Dm) {c0 c1 c : Nat} {sp dp n : Int} (h : c ≠ c1) (i : Int) : cpy2 D c0 sp c1 dp n c i = D c i := by simp only [cpy2]; rw [if_neg (fun z => h z.1)]
section
variable {l : Launch} {E : Ev} {G : Sh} {D : Dm} {v : Vl} {a : Ans}
theorem c_X9_pour (hL : Lay G) (hI : RI v G D) (hz : ∀ t, 0 ≤ t → t < 4 → D 22 t ≤ 60) {f p g q n : Int} (hf : iRg f) (hp : iRg p) (hg : iRg g) (hq : iRg q) (hn : iRg n) (ha : a = q_pour (D 22) (D 21) f p g q n) : Ct l E MX9_pour 0 0 0 [vR E 0, vI f, vI p, vI g, vI q, vI n] G D (cP v G (puC D f p g q n) a) := by
  have no : ∀ k : Int, k ≠ 0 → whyU (D 22) (D 21) f p g q n = k → cP v G (puC D f p g q n) a 0 G (upd2 D 0 11 k) := by
    intro k hk hw
    rw [puC, if_neg (by omega)]
    exact cP.no hL hI (by rw [ha, q_pour, if_neg (by omega), hw]) yS.rf (Or.inl rfl)
  have n1 : ¬ ((0 ≤ f ∧ f < 4) ∧ (0 ≤ g ∧ g < 4) ∧ 0 ≤ p ∧ 0 ≤ q ∧ 0 ≤ n) → cP v G (puC D f p g q n) a 0 G (upd2 D 0 11 1) := fun z => no 1 (by decide) (by rw [whyU, if_neg z])
  refine s_X9_pour hL ⟨hf, fun z => n1 (by omega), fun z1 => ⟨hg, fun z => n1 (by omega), fun z2 => ⟨hp, fun z => n1 (by omega), fun z3 => ⟨hq, fun z => n1 (by omega), fun z4 => ⟨hn, fun z5 => ?_, fun z => n1 (by omega)⟩⟩⟩⟩⟩
  have ok : puOk f p g q n := ⟨by omega, by omega, z3, z4, z5⟩
  refine ⟨by omega, fun y1 => no 2 (by decide) (by rw [whyU, if_pos ok, if_pos (Or.inl y1)]), fun y1 => ⟨by omega, fun y2 => ⟨fun y3 => ⟨by omega, fun y4 => no 3 (by decide) (by rw [whyU, if_pos ok, if_neg (by omega), if_neg (by omega), if_pos (by omega)]), fun y4 => ⟨by omega, fun y5 => ?_, fun y5 => no 3 (by decide) (by rw [whyU, if_pos ok, if_neg (by omega), if_neg (by omega), if_pos (by omega)])⟩⟩, fun y3 => no 8 (by decide) (by rw [whyU, if_pos ok, if_neg (by omega), if_pos y3])⟩, fun y2 => no 2 (by decide) (by rw [whyU, if_pos ok, if_pos (Or.inr y2)])⟩⟩
  have h1 := hz f (by omega) (by omega)
  have h2 := hz g (by omega) (by omega)
  have w0 : whyU (D 22) (D 21) f p g q n = 0 := by rw [whyU, if_pos ok, if_neg (by omega), if_neg (by omega), if_neg (by omega)]
  have mv : C0 l E MX7_move 2 [vR E 15, vI f, vI p, vI g, vI q, vI n] G D (fun _ D' => D' = puC D f p g q n) := s_X7_move hL ⟨⟨by omega, by omega, by omega⟩, rfl, by rw [puC, if_pos w0]⟩
  refine C0.use mv ?_
  rintro - D' rfl
  refine cP.no hL (hI.cells hL (fun c i hc => ?_)) (by rw [ha, q_pour, if_pos w0]) yS.rf (Or.inl rfl)
  rw [puC, if_pos w0]
  exact cpy2_off D (by omega) i
theorem pour_go {Q : Int → Sh → Dm → Prop} {L : List (Nat × Value)} {D1 : Dm} (h : KX10_pour l E Q 118 L G D1) (e : D1 = D) : KX10_pour l E Q 118 L G D := e ▸ h
theorem c_X10_pour (hL : Lay G) (hz : ∀ t, 0 ≤ t → t < 4 → -1 ≤ D 110 t ∧ D 110 t ≤ 60) {f p g q n : Int} (hf : iRg f) (hp : iRg p) (hg : iRg g) (hq : iRg q) (hn : iRg n) (ha : a = q_pour (D 110) (D 109) f p g q n) : C0 l E MX10_pour 0 [vR E 107, vI f, vI p, vI g, vI q, vI n] G D (fun r D' => r = a.2.1 ∧ mQ (puM D f p g q n) D' a) := by
  have no : ∀ k : Int, k ≠ 0 → whyU (D 110) (D 109) f p g q n = k → (G = G ∧ 0 = a.2.1 ∧ mQ (puM D f p g q n) (upd2 D 107 1 k) a) := by
    intro k hk hw
    rw [puM, if_neg (by omega)]
    exact ⟨rfl, mQ.no (by rw [ha, q_pour, if_neg (by omega), hw]) mS.rf⟩
  have n1 : ¬ ((0 ≤ f ∧ f < 4) ∧ (0 ≤ g ∧ g < 4) ∧ 0 ≤ p ∧ 0 ≤ q ∧ 0 ≤ n) → (G = G ∧ 0 = a.2.1 ∧ mQ (puM D f p g q n) (upd2 D 107 1 1) a) := fun z => no 1 (by decide) (by rw [whyU, if_neg z])
  refine s_X10_pour hL ⟨hf, fun z => n1 (by omega), fun z1 => ⟨hg, fun z => n1 (by omega), fun z2 => ⟨hp, fun z => n1 (by omega), fun z3 => ⟨hq, fun z => n1 (by omega), fun z4 => ⟨hn, fun z5 => ?_, fun z => n1 (by omega)⟩⟩⟩⟩⟩
  have ok : puOk f p g q n := ⟨by omega, by omega, z3, z4, z5⟩
  have h1 := hz f (by omega) (by omega)
  have h2 := hz g (by omega) (by omega)
  refine ⟨by omega, fun y1 => no 2 (by decide) (by rw [whyU, if_pos ok, if_pos (Or.inl y1)]), fun y1 => ⟨by omega, fun y2 => ⟨fun y3 => ⟨by omega, fun y4 => no 3 (by decide) (by rw [whyU, if_pos ok, if_neg (by omega), if_neg (by omega), if_pos (by omega)]), fun y4 => ⟨by omega, fun y5 => ?_, fun y5 => no 3 (by decide) (by rw [whyU, if_pos ok, if_neg (by omega), if_neg (by omega), if_pos (by omega)])⟩⟩, fun y3 => no 8 (by decide) (by rw [whyU, if_pos ok, if_neg (by omega), if_pos y3])⟩, fun y2 => no 2 (by decide) (by rw [whyU, if_pos ok, if_pos (Or.inr y2)])⟩⟩
  have w0 : whyU (D 110) (D 109) f p g q n = 0 := by rw [whyU, if_pos ok, if_neg (by omega), if_neg (by omega), if_neg (by omega)]
  have fin : ∀ D', D' = puM D f p g q n → ∀ k, k = n → KX10_pour l E (fun r G' D' => G' = G ∧ r = a.2.1 ∧ mQ (puM D f p g q n) D' a) 118 [(0, vR E 107), (1, vI f), (2, vI p), (3, vI g), (4, vI q), (5, vI n), (6, vI k)] G D' := by
    rintro D' rfl k rfl
    exact s_X10_pour_118 hL ⟨by omega, fun _ => ⟨rfl, mQ.no (by rw [ha, q_pour, if_pos w0]) mS.rf⟩, fun z => absurd z (by omega)⟩
  by_cases up : q ≤ p
  · refine pour_go (up_from (P := fun k => KX10_pour l E (fun r G' D' => G' = G ∧ r = a.2.1 ∧ mQ (puM D f p g q n) D' a) 118 [(0, vR E 107), (1, vI f), (2, vI p), (3, vI g), (4, vI q), (5, vI n), (6, vI k)] G (cpy2 D 111 ((60 * f) + p) 111 ((60 * g) + q) k)) (lo := 0) (n := n) (by omega) ?_ ?_) ?_
    · exact fin _ (by rw [puM, if_pos w0]) n rfl
    · intro k k0 k1 ih
      refine s_X10_pour_118 hL ⟨by omega, fun z => absurd z (by omega), fun _ => ⟨by omega, fun _ => ⟨by omega, ?_⟩, fun z => absurd z (by omega)⟩⟩
      have e : upd2 (cpy2 D 111 ((60 * f) + p) 111 ((60 * g) + q) k) 111 (((60 * g) + q) + k) (cpy2 D 111 ((60 * f) + p) 111 ((60 * g) + q) k 111 (((60 * f) + p) + k)) = cpy2 D 111 ((60 * f) + p) 111 ((60 * g) + q) (k + 1) := by
        funext c i
        simp only [upd2, cpy2]
        by_cases h : c = 111 ∧ i = ((60 * g) + q) + k
        · rw [if_pos h, if_neg (by omega), if_pos (by omega)]
          congr 1; omega
        · rw [if_neg h]
          by_cases h3 : c = 111 ∧ (60 * g) + q ≤ i ∧ i < (60 * g) + q + k
          · rw [if_pos h3, if_pos (by omega)]
          · rw [if_neg h3, if_neg (by omega)]
      rw [e]
      exact ih
    · funext c i
      simp only [cpy2]
      rw [if_neg (by omega)]
  · refine pour_go (up_from (P := fun k => KX10_pour l E (fun r G' D' => G' = G ∧ r = a.2.1 ∧ mQ (puM D f p g q n) D' a) 118 [(0, vR E 107), (1, vI f), (2, vI p), (3, vI g), (4, vI q), (5, vI n), (6, vI k)] G (cpy2 D 111 ((60 * f) + p + (n - k)) 111 ((60 * g) + q + (n - k)) k)) (lo := 0) (n := n) (by omega) ?_ ?_) ?_
    · refine fin _ ?_ n rfl
      rw [puM, if_pos w0, Int.sub_self, Int.add_zero, Int.add_zero]
    · intro k k0 k1 ih
      refine s_X10_pour_118 hL ⟨by omega, fun z => absurd z (by omega), fun _ => ⟨by omega, fun z => absurd z (by omega), fun _ => ⟨by omega, ?_⟩⟩⟩
      have e : upd2 (cpy2 D 111 ((60 * f) + p + (n - k)) 111 ((60 * g) + q + (n - k)) k) 111 (((60 * g) + q) + ((n - 1) - k)) (cpy2 D 111 ((60 * f) + p + (n - k)) 111 ((60 * g) + q + (n - k)) k 111 (((60 * f) + p) + ((n - 1) - k))) = cpy2 D 111 ((60 * f) + p + (n - (k + 1))) 111 ((60 * g) + q + (n - (k + 1))) (k + 1) := by
        funext c i
        simp only [upd2, cpy2]
        by_cases h : c = 111 ∧ i = ((60 * g) + q) + ((n - 1) - k)
        · rw [if_pos h, if_neg (by omega), if_pos (by omega)]
          congr 1; omega
        · rw [if_neg h]
          by_cases h3 : c = 111 ∧ (60 * g) + q + (n - k) ≤ i ∧ i < (60 * g) + q + (n - k) + k
          · rw [if_pos h3, if_pos (by omega)]
            congr 1; omega
          · rw [if_neg h3, if_neg (by omega)]
      rw [e]
      exact ih
    · funext c i
      simp only [cpy2]
      rw [if_neg (by omega)]
/-- a byte goes to the end of a text -/
def ap1 (ct cn : Nat) (i0 : Int) (D : Dm) (x : Int) : Dm := upd2 (upd2 D ct (D cn i0) x) cn i0 (D cn i0 + 1)
def apL (ct cn : Nat) (i0 : Int) (D : Dm) (xs : List Int) : Dm := xs.foldl (ap1 ct cn i0) D
def b4 (x : Int) : List Int := [b8 (iSr x 24), b8 (iSr x 16), b8 (iSr x 8), b8 (iSr x 0)]
theorem ap1_n {ct cn : Nat} (h : cn ≠ ct) (i0 : Int) (D : Dm) (x : Int) : ap1 ct cn i0 D x cn i0 = D cn i0 + 1 := upd2_same _ _ _ _
theorem apL_n {ct cn : Nat} (h : cn ≠ ct) (i0 : Int) : ∀ (xs : List Int) (D : Dm), apL ct cn i0 D xs cn i0 = D cn i0 + xs.length
  | [], D => by simp [apL]
  | x :: xs, D => by
    have := apL_n h i0 xs (ap1 ct cn i0 D x)
    show apL ct cn i0 (ap1 ct cn i0 D x) xs cn i0 = _
    rw [this, ap1_n h]
    simp only [List.length_cons]
    omega
theorem apL_t {ct cn : Nat} (h : cn ≠ ct) (i0 : Int) : ∀ (xs : List Int) (D : Dm) (j : Int), apL ct cn i0 D xs ct j = if D cn i0 ≤ j ∧ j < D cn i0 + xs.length then xs.getD (j - D cn i0).toNat 0 else D ct j
  | [], D, j => by
    show D ct j = _
    rw [if_neg (by simp only [List.length_nil]; omega)]
  | x :: xs, D, j => by
    have := apL_t h i0 xs (ap1 ct cn i0 D x) j
    show apL ct cn i0 (ap1 ct cn i0 D x) xs ct j = _
    rw [this, ap1_n h]
    simp only [List.length_cons]
    have e : ap1 ct cn i0 D x ct j = if j = D cn i0 then x else D ct j := by
      unfold ap1
      rw [upd2_cell _ _ _ _ (Ne.symm h)]
      simp only [upd2]
      by_cases q : j = D cn i0
      · rw [if_pos ⟨trivial, q⟩, if_pos q]
      · rw [if_neg (fun z => q z.2), if_neg q]
    rw [e]
    by_cases q : j = D cn i0
    · rw [if_neg (by omega), if_pos q, if_pos (by omega), show (j - D cn i0).toNat = 0 by omega]
      rfl
    · by_cases q2 : D cn i0 + 1 ≤ j ∧ j < D cn i0 + 1 + xs.length
      · rw [if_pos q2, if_pos (by omega), show (j - D cn i0).toNat = (j - (D cn i0 + 1)).toNat + 1 by omega]
        rfl
      · rw [if_neg q2, if_neg q, if_neg (by omega)]
theorem apL_o {ct cn : Nat} (i0 : Int) : ∀ (xs : List Int) (D : Dm) (c : Nat) (j : Int), c ≠ ct → ¬ (c = cn ∧ j = i0) → apL ct cn i0 D xs c j = D c j
  | [], D, c, j, _, _ => rfl
  | x :: xs, D, c, j, h1, h2 => by
    show apL ct cn i0 (ap1 ct cn i0 D x) xs c j = _
    rw [apL_o i0 xs _ c j h1 h2]
    unfold ap1
    simp only [upd2]
    rw [if_neg h2, if_neg (fun z => h1 z.1)]
theorem apL_app (ct cn : Nat) (i0 : Int) (D : Dm) (xs ys : List Int) : apL ct cn i0 (apL ct cn i0 D xs) ys = apL ct cn i0 D (xs ++ ys) := by simp [apL, List.foldl_append]
theorem c_X6_append (hL : Lay G) {x : Int} (h0 : 0 ≤ D 23 1) (h1 : D 23 1 + 4 ≤ 600) : C0 l E MX6_append 2 [vR E 23, vI x] G D (fun _ D' => D' = apL 24 23 1 D (b4 x)) := by
  have st : ∀ (k : Int) (D' : Dm), 0 ≤ k → k ≤ 24 → 0 ≤ D' 23 1 → D' 23 1 < 600 → KX6_append l E (fun r G' D' => G' = G ∧ D' = apL 24 23 1 D (b4 x)) 3 [(0, vR E 23), (1, vI x), (2, vI (k + (-8)))] G (ap1 24 23 1 D' (b8 (iSr x k))) → KX6_append l E (fun r G' D' => G' = G ∧ D' = apL 24 23 1 D (b4 x)) 3 [(0, vR E 23), (1, vI x), (2, vI k)] G D' := by
    intro k D' k0 k1 d0 d1 h
    refine s_X6_append_3 hL ⟨by omega, fun z => absurd z (by omega), fun _ => ⟨fun z => absurd z (by omega), fun _ => ⟨by omega, ?_⟩⟩⟩
    exact h
  have n1 : ∀ D' y, ap1 24 23 1 D' y 23 1 = D' 23 1 + 1 := fun D' y => ap1_n (by decide) 1 D' y
  refine s_X6_append hL ?_
  refine st 24 D (by decide) (by decide) (by omega) (by omega) ?_
  refine st 16 _ (by decide) (by decide) (by rw [n1]; omega) (by rw [n1]; omega) ?_
  refine st 8 _ (by decide) (by decide) (by rw [n1, n1]; omega) (by rw [n1, n1]; omega) ?_
  refine st 0 _ (by decide) (by decide) (by rw [n1, n1, n1]; omega) (by rw [n1, n1, n1]; omega) ?_
  exact s_X6_append_3 hL ⟨by omega, fun _ => ⟨rfl, rfl⟩, fun z => absurd z (by omega)⟩
theorem c_X10_four (hL : Lay G) {x : Int} (h0 : 0 ≤ D 107 9) (h1 : D 107 9 + 4 ≤ 600) : C0 l E MX10_four 2 [vR E 107, vI x] G D (fun _ D' => D' = apL 112 107 9 D (b4 x)) := by
  have st : ∀ (k : Int) (D' : Dm), 0 ≤ k → k ≤ 24 → 0 ≤ D' 107 9 → D' 107 9 < 600 → KX10_four l E (fun r G' D' => G' = G ∧ D' = apL 112 107 9 D (b4 x)) 3 [(0, vR E 107), (1, vI x), (2, vI (k + (-8)))] G (ap1 112 107 9 D' (b8 (iSr x k))) → KX10_four l E (fun r G' D' => G' = G ∧ D' = apL 112 107 9 D (b4 x)) 3 [(0, vR E 107), (1, vI x), (2, vI k)] G D' := by
    intro k D' k0 k1 d0 d1 h
    refine s_X10_four_3 hL ⟨by omega, fun z => absurd z (by omega), fun _ => ⟨by omega, ?_⟩⟩
    exact h
  have n1 : ∀ D' y, ap1 112 107 9 D' y 107 9 = D' 107 9 + 1 := fun D' y => ap1_n (by decide) 9 D' y
  refine s_X10_four hL ?_
  refine st 24 D (by decide) (by decide) (by omega) (by omega) ?_
  refine st 16 _ (by decide) (by decide) (by rw [n1]; omega) (by rw [n1]; omega) ?_
  refine st 8 _ (by decide) (by decide) (by rw [n1, n1]; omega) (by rw [n1, n1]; omega) ?_
  refine st 0 _ (by decide) (by decide) (by rw [n1, n1, n1]; omega) (by rw [n1, n1, n1]; omega) ?_
  exact s_X10_four_3 hL ⟨by omega, fun _ => ⟨rfl, rfl⟩, fun z => absurd z (by omega)⟩
def b20 (a b c d e : Int) : List Int := b4 a ++ b4 b ++ b4 c ++ b4 d ++ b4 e
theorem c_X9_feed (hL : Lay G) (h0 : 0 ≤ D 23 1 ∧ D 23 1 ≤ 600) {a b c d e : Int} : C0 l E MX9_feed 0 [vR E 0, vI a, vI b, vI c, vI d, vI e] G D (fun r D' => (D 23 1 + 20 ≤ 600 → D' = apL 24 23 1 D (b20 a b c d e) ∧ r = D 23 1 + 20) ∧ (600 < D 23 1 + 20 → D' = D ∧ r = -1)) := by
  have n4 : ∀ (D' : Dm) (xs : List Int) (x : Int), apL 24 23 1 D' xs 23 1 = D' 23 1 + xs.length := fun D' xs x => apL_n (by decide) 1 xs D'
  have l4 : ∀ x, (b4 x).length = 4 := fun x => rfl
  refine s_X9_feed hL ⟨by omega, fun z => ?_, fun z => ⟨rfl, fun y => absurd y (by omega), fun _ => ⟨rfl, rfl⟩⟩⟩
  refine C0.use (c_X6_append hL (by omega) (by omega)) ?_
  rintro - D1 rfl
  refine C0.use (c_X6_append hL (by rw [apL_n (by decide), l4]; omega) (by rw [apL_n (by decide), l4]; omega)) ?_
  rintro - D2 rfl
  rw [apL_app]
  refine C0.use (c_X6_append hL (by rw [apL_n (by decide)]; simp only [List.length_append, l4]; omega) (by rw [apL_n (by decide)]; simp only [List.length_append, l4]; omega)) ?_
  rintro - D3 rfl
  rw [apL_app]
  refine C0.use (c_X6_append hL (by rw [apL_n (by decide)]; simp only [List.length_append, l4]; omega) (by rw [apL_n (by decide)]; simp only [List.length_append, l4]; omega)) ?_
  rintro - D4 rfl
  rw [apL_app]
  refine C0.use (c_X6_append hL (by rw [apL_n (by decide)]; simp only [List.length_append, l4]; omega) (by rw [apL_n (by decide)]; simp only [List.length_append, l4]; omega)) ?_
  rintro - D5 rfl
  rw [apL_app]
  refine ⟨rfl, fun _ => ⟨rfl, ?_⟩, fun y => absurd y (by omega)⟩
  rw [apL_n (by decide)]; simp only [List.length_append, l4]; omega
theorem c_X10_feed (hL : Lay G) (h0 : 0 ≤ D 107 9 ∧ D 107 9 ≤ 600) {a b c d e : Int} : C0 l E MX10_feed 0 [vR E 107, vI a, vI b, vI c, vI d, vI e] G D (fun r D' => (D 107 9 + 20 ≤ 600 → D' = apL 112 107 9 D (b20 a b c d e) ∧ r = D 107 9 + 20) ∧ (600 < D 107 9 + 20 → D' = D ∧ r = -1)) := by
  have l4 : ∀ x, (b4 x).length = 4 := fun x => rfl
  refine s_X10_feed hL ⟨by omega, fun z => ?_, fun z => ⟨rfl, fun y => absurd y (by omega), fun _ => ⟨rfl, rfl⟩⟩⟩
  refine C0.use (c_X10_four hL (by omega) (by omega)) ?_
  rintro - D1 rfl
  refine C0.use (c_X10_four hL (by rw [apL_n (by decide), l4]; omega) (by rw [apL_n (by decide), l4]; omega)) ?_
  rintro - D2 rfl
  rw [apL_app]
  refine C0.use (c_X10_four hL (by rw [apL_n (by decide)]; simp only [List.length_append, l4]; omega) (by rw [apL_n (by decide)]; simp only [List.length_append, l4]; omega)) ?_
  rintro - D3 rfl
  rw [apL_app]
  refine C0.use (c_X10_four hL (by rw [apL_n (by decide)]; simp only [List.length_append, l4]; omega) (by rw [apL_n (by decide)]; simp only [List.length_append, l4]; omega)) ?_
  rintro - D4 rfl
  rw [apL_app]
  refine C0.use (c_X10_four hL (by rw [apL_n (by decide)]; simp only [List.length_append, l4]; omega) (by rw [apL_n (by decide)]; simp only [List.length_append, l4]; omega)) ?_
  rintro - D5 rfl
  rw [apL_app]
  refine ⟨rfl, fun _ => ⟨rfl, ?_⟩, fun y => absurd y (by omega)⟩
  rw [apL_n (by decide)]; simp only [List.length_append, l4]; omega
end

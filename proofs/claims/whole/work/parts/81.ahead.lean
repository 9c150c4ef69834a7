-- tokens of the reference
def TB (T : Int → Int) (n : Int) : Prop := ∀ i, 0 ≤ i → i < n → -128 ≤ T i ∧ T i < 128
theorem uB0 : ∀ k : Fin 256, iA ((k.val : Int) - 128) 255 = if (k.val : Int) - 128 < 0 then (k.val : Int) + 128 else (k.val : Int) - 128 := by decide +kernel
theorem uB {b : Int} (h : -128 ≤ b ∧ b < 128) : iA b 255 = if b < 0 then b + 256 else b := by
  have := uB0 ⟨(b + 128).toNat, by omega⟩
  have e : (((b + 128).toNat : Nat) : Int) = b + 128 := by omega
  simp only [e] at this
  rw [show b + 128 - 128 = b by omega, show b + 128 + 128 = b + 256 by omega] at this
  exact this
/-- the byte at p, as the reference asks for it -/
def byS (T : Int → Int) (n p : Int) : Int := if p < n then (if T p < 0 then T p + 256 else T p) else -1
theorem byS_b {T : Int → Int} {n p : Int} (hT : TB T n) (hp : 0 ≤ p) : -1 ≤ byS T n p ∧ byS T n p ≤ 255 := by
  unfold byS
  split
  · next q => have := hT p hp q; split <;> omega
  · omega
def cdM (k : Int) : Int := if k = 0 then 0 else if k = 4 then 1 else k + 1
def RM (D : Dm) (K : Tk) : Prop := D 107 11 = cdM K.1 ∧ D 107 12 = K.2.1 ∧ (K.1 ≠ 4 → D 107 13 = K.2.2.1) ∧ (K.1 = 2 → D 107 14 = K.2.2.2)
theorem RM.mk {D : Dm} {k s e x : Int} (h7 : D 107 11 = cdM k) (h8 : D 107 12 = s) (h6 : k ≠ 4 → D 107 13 = e) (h9 : k = 2 → D 107 14 = x) : RM D (k, s, e, x) := ⟨h7, h8, h6, h9⟩
def smO (D D' : Dm) : Prop := ∀ c i, ¬ (c = 107 ∧ 11 ≤ i ∧ i ≤ 14) → D' c i = D c i
theorem smO.rf {D : Dm} : smO D D := fun _ _ _ => rfl
theorem smO.tr {D D1 D2 : Dm} (h : smO D D1) (h2 : smO D1 D2) : smO D D2 := fun c i p => (h2 c i p).trans (h c i p)
theorem smO.up {D D1 : Dm} (h : smO D D1) {i : Int} (hi : 11 ≤ i ∧ i ≤ 14) (x : Int) : smO D (upd2 D1 107 i x) := fun c j p => by
  rw [← h c j p]; simp only [upd2]; rw [if_neg (by omega)]
theorem smO.c {D D' : Dm} (h : smO D D') {c : Nat} (hc : c ≠ 107) : D' c = D c := funext fun i => h c i (by omega)
section
variable {l : Launch} {E : Ev} {G : Sh} {D : Dm}
theorem c_X10_byteAt (hL : Lay G) {n : Int} (hn : 0 ≤ n ∧ n ≤ 600) (h10 : D 107 10 = n) (hT : TB (D 113) n) {p : Int} (hp : 0 ≤ p ∧ p < 2147483648) : C0 l E MX10_byteAt 0 [vR E 107, vI p] G D (fun r D' => r = byS (D 113) n p ∧ D' = D) := by
  refine s_X10_byteAt hL ?_
  rw [h10]
  refine ⟨by omega, fun z => ⟨rfl, by rw [byS, if_neg (by omega)], rfl⟩, fun z => ⟨by omega, rfl, ?_, rfl⟩⟩
  rw [byS, if_pos z]
  exact uB (hT p hp.1 z)
theorem c_X10_ahead (hL : Lay G) {n p : Int} (hn : 0 ≤ n ∧ n ≤ 600) (hp : 0 ≤ p ∧ p ≤ n) (h10 : D 107 10 = n) (hT : TB (D 113) n) (h13 : D 107 13 = p) : C0 l E MX10_ahead 2 [vR E 107] G D (fun _ D' => RM D' (tokS (D 113) n p) ∧ smO D D') := by
  have he := scE_b (c := whB (D 113)) hp.2
  unfold tokS
  generalize eT : D 113 = T at *
  have k10 : ∀ D', smO D D' → D' 107 10 = n := fun D' h => by rw [h 107 10 (by omega)]; exact h10
  have k113 : ∀ D', smO D D' → D' 113 = T := fun D' h => by rw [h.c (by decide)]; exact eT
  have by0 : ∀ D', smO D D' → ∀ q, 0 ≤ q → q < 2147483648 → C0 l E MX10_byteAt 0 [vR E 107, vI q] G D' (fun r D2 => r = byS T n q ∧ D2 = D') := fun D' h q q0 q1 => by
    have := c_X10_byteAt (l := l) (E := E) hL hn (k10 D' h) (by rw [k113 D' h]; exact hT) (p := q) ⟨q0, q1⟩
    rw [k113 D' h] at this
    exact this
  refine s_X10_ahead hL ?_
  refine up_from (P := fun q => ∀ D', smO D D' → D' 107 13 = q → scE (whB T) n q = scE (whB T) n p → KX10_ahead l E _ 0 [(0, vR E 107)] G D') (lo := p) (n := scE (whB T) n p) he.1 ?_ ?_ D smO.rf h13 rfl
  · intro D' ho g13 hsc
    generalize hE : scE (whB T) n p = s at *
    have hend : ¬ (s < n ∧ whB T s = true) := fun q => by
      rw [scE_s q.1 q.2] at hsc
      have := scE_b (c := whB T) (show s + 1 ≤ n by omega)
      omega
    have hb := byS_b hT (p := s) (by omega)
    have hcase : (n ≤ s ∧ byS T n s = -1) ∨ (s < n ∧ T s ≠ 10 ∧ T s ≠ 32 ∧ ((0 ≤ T s ∧ byS T n s = T s) ∨ (T s < 0 ∧ 128 ≤ byS T n s))) := by
      by_cases q : s < n
      · have h1 := hT s (by omega) q
        have h2 : ¬ (T s = 10 ∨ T s = 32) := fun z => hend ⟨q, by unfold whB; exact decide_eq_true z⟩
        have h3 : byS T n s = if T s < 0 then T s + 256 else T s := by unfold byS; rw [if_pos q]
        refine Or.inr ⟨q, fun z => h2 (Or.inl z), fun z => h2 (Or.inr z), ?_⟩
        by_cases z : T s < 0
        · rw [if_pos z] at h3; exact Or.inr ⟨z, by omega⟩
        · rw [if_neg z] at h3; exact Or.inl ⟨by omega, h3⟩
      · exact Or.inl ⟨by omega, by unfold byS; rw [if_neg q]⟩
    refine s_X10_ahead_0 hL ?_
    rw [g13]
    refine C0.use (by0 D' ho s (by omega) (by omega)) ?_
    rintro r D2 ⟨rfl, rfl⟩
    try dsimp only
    rw [g13]
    refine ⟨by omega, fun z => absurd z (by omega), fun _ => ?_⟩
    refine C0.use (by0 D2 ho s (by omega) (by omega)) ?_
    rintro r D3 ⟨rfl, rfl⟩
    try dsimp only
    rw [g13]
    refine ⟨by omega, fun _ => ?_, fun z => absurd z (by omega)⟩
    have ho12 : smO D (upd2 D3 107 12 s) := ho.up (by decide) _
    refine C0.use (by0 _ ho12 s (by omega) (by omega)) ?_
    rintro r D4 ⟨rfl, rfl⟩
    try dsimp only
    have f13 : ∀ i x, i ≠ 13 → ∀ D5 : Dm, upd2 D5 107 i x 107 13 = D5 107 13 := fun i x hi D5 => upd2_place _ _ _ (by omega)
    have g13' : upd2 D3 107 12 s 107 13 = s := by rw [f13 12 _ (by decide)]; exact g13
    rw [g13']
    have ho14 : smO D (upd2 (upd2 D3 107 12 s) 107 14 (byS T n s)) := ho12.up (by decide) _
    refine ⟨by omega, fun z => ⟨fun z2 => ⟨fun z3 => ⟨by omega, fun z4 => ?_, fun z4 => ?_⟩, fun z3 => ?_⟩, fun z2 => ?_⟩, fun z => ?_⟩
    · -- a bad sign
      refine ⟨rfl, ?_, (ho14.up (by decide) _).up (by decide) _⟩
      rcases hcase with ⟨a, b⟩ | ⟨a, b, c, d⟩
      · omega
      · unfold tkAt
        rw [if_neg (by omega), if_neg (by unfold leB; simp only [decide_eq_true_eq]; omega), if_neg (by unfold diB; simp only [decide_eq_true_eq]; omega), if_neg (by omega)]
        exact RM.mk (upd2_same _ _ _ _) (by simp [upd2]) (fun y => absurd rfl y) (fun y => absurd y (by decide))
    · -- the sign
      refine ⟨rfl, ?_, (ho14.up (by decide) _).up (by decide) _⟩
      rcases hcase with ⟨a, b⟩ | ⟨a, b, c, d⟩
      · omega
      · unfold tkAt
        rw [if_neg (by omega), if_neg (by unfold leB; simp only [decide_eq_true_eq]; omega), if_neg (by unfold diB; simp only [decide_eq_true_eq]; omega), if_pos (by omega)]
        exact RM.mk (upd2_same _ _ _ _) (by simp [upd2]) (fun _ => by simp [upd2]) (fun y => absurd y (by decide))
    · -- digits
      rcases hcase with ⟨a, b⟩ | ⟨a, b, c, d⟩
      · omega
      have hd : diB T s = true := by unfold diB; exact decide_eq_true (by omega)
      have hl0 : leB T s = false := by unfold leB; exact decide_eq_false (by omega)
      have het : tkAt T n s = if 2 < scE (diB T) n s - s then (4, s, scE (diB T) n s, 0) else (2, s, scE (diB T) n s, nv T s (scE (diB T) n s - s).toNat) := by
        unfold tkAt; rw [if_neg (by omega), if_neg (by rw [hl0]; decide), if_pos hd]
      rw [het]
      have hee := scE_b (c := diB T) (show s ≤ n by omega)
      refine up_from (P := fun q => ∀ (k : Nat) (D' : Dm), q = s + k → smO D D' → D' 107 13 = q → D' 107 12 = s → (0 ≤ D' 107 14 ∧ D' 107 14 ≤ 1000) → (k ≤ 2 → D' 107 14 = nv T s k) → scE (diB T) n q = scE (diB T) n s → KX10_ahead l E _ 128 [(0, vR E 107), (1, vI (byS T n s))] G D') (lo := s) (n := scE (diB T) n s) hee.1 ?_ ?_ 0 _ (by omega) (ho14.up (by decide) _) (by simp [upd2]; exact g13) (by simp [upd2]) (by simp [upd2]) (fun _ => by simp [upd2, nv]) rfl
      · intro k D5 hk ho5 e13 e12 e14 e14' hsc5
        generalize hE2 : scE (diB T) n s = e at *
        have hend2 : ¬ (e < n ∧ diB T e = true) := fun q => by
          rw [scE_s q.1 q.2] at hsc5
          have := scE_b (c := diB T) (show e + 1 ≤ n by omega)
          omega
        have ek : (e - s).toNat = k := by omega
        rw [ek]
        refine s_X10_ahead_128 hL ?_
        rw [e13]
        refine C0.use (by0 _ ho5 e (by omega) (by omega)) ?_
        rintro r D6 ⟨rfl, rfl⟩
        try dsimp only
        have hb6 := byS_b hT (p := e) (by omega)
        have hno : ¬ (48 ≤ byS T n e ∧ byS T n e ≤ 57) := fun z => by
          by_cases q : e < n
          · have h1 := hT e (by omega) q
            have h3 : byS T n e = if T e < 0 then T e + 256 else T e := by unfold byS; rw [if_pos q]
            refine hend2 ⟨q, ?_⟩
            unfold diB
            refine decide_eq_true ?_
            by_cases y : T e < 0
            · rw [if_pos y] at h3; omega
            · rw [if_neg y] at h3; omega
          · have h3 : byS T n e = -1 := by unfold byS; rw [if_neg q]
            omega
        rw [e13, e12]
        refine ⟨by omega, fun _ => ⟨by omega, fun y => ⟨rfl, ?_, ho5.up (by decide) _⟩, fun y => ⟨rfl, ?_, ho5.up (by decide) _⟩⟩, fun y => absurd y hno⟩
        · rw [if_neg (by omega)]
          exact RM.mk (upd2_same _ _ _ _) (by rw [upd2_place _ _ _ (by decide)]; exact e12) (fun _ => by rw [upd2_place _ _ _ (by decide)]; exact e13) (fun _ => by rw [upd2_place _ _ _ (by decide)]; exact e14' (by omega))
        · rw [if_pos (by omega)]
          exact RM.mk (upd2_same _ _ _ _) (by rw [upd2_place _ _ _ (by decide)]; exact e12) (fun y => absurd rfl y) (fun y => absurd y (by decide))
      · intro q q0 q1 ih5 k D5 hk ho5 e13 e12 e14 e14' hsc5
        have hdq : diB T q = true := scE_in q0 q1
        have hdq' : 48 ≤ T q ∧ T q ≤ 57 := by unfold diB at hdq; exact of_decide_eq_true hdq
        have hbq : byS T n q = T q := by unfold byS; rw [if_pos (by omega), if_neg (by omega)]
        refine s_X10_ahead_128 hL ?_
        rw [e13]
        refine C0.use (by0 _ ho5 q (by omega) (by omega)) ?_
        rintro r D6 ⟨rfl, rfl⟩
        try dsimp only
        rw [hbq]
        refine ⟨by omega, fun y => absurd hdq' y, fun _ => ?_⟩
        rw [e13]
        refine C0.use (by0 _ ho5 q (by omega) (by omega)) ?_
        rintro r D7 ⟨rfl, rfl⟩
        try dsimp only
        rw [hbq, e13]
        refine ⟨by omega, ih5 (k + 1) _ (by omega) ((ho5.up (by decide) _).up (by decide) _) (upd2_same _ _ _ _) ?_ ?_ (fun hk2 => ?_) ?_⟩
        · rw [upd2_place _ _ _ (by decide), upd2_place _ _ _ (by decide)]; exact e12
        · rw [upd2_place _ _ _ (by decide), upd2_same]; omega
        · have hin : ∀ i, s ≤ i → i < s + ((k + 1 : Nat) : Int) → diB T i = true := fun i a b => scE_in (n := n) a (by omega)
          have hb7 := nv2 hk2 hin
          have e : nv T s (k + 1) = nv T s k * 10 + (T (s + k) - 48) := rfl
          rw [upd2_place _ _ _ (by decide), upd2_same, e14' (by omega), e, hk]
          rw [e] at hb7
          omega
        · rw [← scE_s (by omega) hdq]; exact hsc5
    · -- letters
      rcases hcase with ⟨a, b⟩ | ⟨a, b, c, d⟩
      · omega
      have hd : leB T s = true := by unfold leB; exact decide_eq_true (by omega)
      have het : tkAt T n s = (1, s, scE (leB T) n s, if 8 < scE (leB T) n s - s then 0 else wv T s (scE (leB T) n s - s).toNat) := by
        unfold tkAt; rw [if_neg (by omega), if_pos hd]
      rw [het]
      have hee := scE_b (c := leB T) (show s ≤ n by omega)
      refine up_from (P := fun q => ∀ (D' : Dm), smO D D' → D' 107 13 = q → D' 107 12 = s → scE (leB T) n q = scE (leB T) n s → KX10_ahead l E _ 81 [(0, vR E 107), (1, vI (byS T n s))] G D') (lo := s) (n := scE (leB T) n s) hee.1 ?_ ?_ _ ho14 (by simp [upd2]; exact g13) (by simp [upd2]) rfl
      · intro D5 ho5 e13 e12 hsc5
        generalize hE2 : scE (leB T) n s = e at *
        have hend2 : ¬ (e < n ∧ leB T e = true) := fun q => by
          rw [scE_s q.1 q.2] at hsc5
          have := scE_b (c := leB T) (show e + 1 ≤ n by omega)
          omega
        refine s_X10_ahead_81 hL ?_
        rw [e13]
        refine C0.use (by0 _ ho5 e (by omega) (by omega)) ?_
        rintro r D6 ⟨rfl, rfl⟩
        try dsimp only
        have hb6 := byS_b hT (p := e) (by omega)
        have hno : ¬ (97 ≤ byS T n e ∧ byS T n e ≤ 122) := fun z => by
          by_cases q : e < n
          · have h1 := hT e (by omega) q
            have h3 : byS T n e = if T e < 0 then T e + 256 else T e := by unfold byS; rw [if_pos q]
            refine hend2 ⟨q, ?_⟩
            unfold leB
            refine decide_eq_true ?_
            by_cases y : T e < 0
            · rw [if_pos y] at h3; omega
            · rw [if_neg y] at h3; omega
          · have h3 : byS T n e = -1 := by unfold byS; rw [if_neg q]
            omega
        refine ⟨by omega, fun _ => ⟨rfl, ?_, ho5.up (by decide) _⟩, fun y => absurd y hno⟩
        exact RM.mk (upd2_same _ _ _ _) (by rw [upd2_place _ _ _ (by decide)]; exact e12) (fun _ => by rw [upd2_place _ _ _ (by decide)]; exact e13) (fun y => absurd y (by decide))
      · intro q q0 q1 ih5 D5 ho5 e13 e12 hsc5
        have hdq : leB T q = true := scE_in q0 q1
        have hdq' : 97 ≤ T q ∧ T q ≤ 122 := by unfold leB at hdq; exact of_decide_eq_true hdq
        have hbq : byS T n q = T q := by unfold byS; rw [if_pos (by omega), if_neg (by omega)]
        refine s_X10_ahead_81 hL ?_
        rw [e13]
        refine C0.use (by0 _ ho5 q (by omega) (by omega)) ?_
        rintro r D6 ⟨rfl, rfl⟩
        try dsimp only
        rw [hbq, e13]
        refine ⟨by omega, fun y => absurd hdq' y, fun _ => ⟨by omega, ih5 _ (ho5.up (by decide) _) (upd2_same _ _ _ _) ?_ ?_⟩⟩
        · rw [upd2_place _ _ _ (by decide)]; exact e12
        · rw [← scE_s (by omega) hdq]; exact hsc5
    · -- the end
      refine ⟨rfl, ?_, ho14.up (by decide) _⟩
      rcases hcase with ⟨a, b⟩ | ⟨a, b, c, d⟩
      · unfold tkAt
        rw [if_pos a]
        exact RM.mk (upd2_same _ _ _ _) (by simp [upd2]) (fun _ => by simp [upd2]; exact g13) (fun y => absurd y (by decide))
      · omega
  · intro q q0 q1 ih D' ho g13 hsc
    have hw : whB T q = true := scE_in q0 q1
    have hw' : T q = 10 ∨ T q = 32 := by unfold whB at hw; exact of_decide_eq_true hw
    have hbq : byS T n q = T q := by unfold byS; rw [if_pos (by omega), if_neg (by omega)]
    have go := ih (upd2 D' 107 13 (q + 1)) (ho.up (by decide) _) (upd2_same _ _ _ _) (by rw [← scE_s (by omega) hw]; exact hsc)
    refine s_X10_ahead_0 hL ?_
    rw [g13]
    refine C0.use (by0 D' ho q (by omega) (by omega)) ?_
    rintro r D2 ⟨rfl, rfl⟩
    try dsimp only
    rw [g13, hbq]
    refine ⟨by omega, fun z => ⟨by omega, go⟩, fun z => ?_⟩
    refine C0.use (by0 D2 ho q (by omega) (by omega)) ?_
    rintro r D3 ⟨rfl, rfl⟩
    try dsimp only
    rw [g13, hbq]
    exact ⟨by omega, fun z2 => absurd hw' (by omega), fun z2 => ⟨by omega, go⟩⟩
end

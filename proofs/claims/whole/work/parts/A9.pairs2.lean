/-! ===== the class's tables under villages that agree ===== -/
section
variable {v w : Vl}
theorem eqV.tk (h : eqV v w) (hv : wfV v) {s : Int} (hs : 0 ≤ s ∧ s < v 0) (lot : Int) : tkS w s lot = tkS v s lot := by
  have hS := wfS hv
  have hH := wfH hv
  unfold tkS
  rw [h 1 (by omega) (by omega)]
  refine fz_congr (fun i x i0 i1 => ?_)
  unfold tkF
  have e : fallsP w i s ↔ fallsP v i s := by
    unfold fallsP
    rw [h ((58 + (5 * i)) + 0) (by omega) (by omega), h ((58 + (5 * i)) + 1) (by omega) (by omega), h ((58 + (5 * i)) + 2) (by omega) (by omega), h ((8 + (5 * s)) + 0) (by omega) (by omega), h ((8 + (5 * s)) + 1) (by omega) (by omega), h ((8 + (5 * s)) + 3) (by omega) (by omega)]
  rw [h ((58 + (5 * i)) + 3) (by omega) (by omega)]
  by_cases q : fallsP v i s
  · rw [if_pos q, if_pos (e.2 q)]
  · rw [if_neg q, if_neg (fun z => q (e.1 z))]
theorem eqV.ap (h : eqV v w) (hv : wfV v) {j k : Int} (hj : 0 ≤ j ∧ j < v 0) (hk : 0 ≤ k ∧ k < v 0) : apS w j k = apS v j k := by
  have hS := wfS hv
  unfold apS
  rw [h ((8 + (5 * k)) + 0) (by omega) (by omega), h ((8 + (5 * k)) + 1) (by omega) (by omega), h ((8 + (5 * j)) + 0) (by omega) (by omega), h ((8 + (5 * j)) + 1) (by omega) (by omega)]
theorem eqV.hm (h : eqV v w) (hv : wfV v) {f k : Int} (hf : 0 ≤ f ∧ f < v 2) (hk : 0 ≤ k ∧ k < v 0) : hmS w f k = hmS v f k := by
  have hS := wfS hv
  have hF := wfF hv
  unfold hmS
  rw [h ((8 + (5 * k)) + 0) (by omega) (by omega), h ((8 + (5 * k)) + 1) (by omega) (by omega), h ((88 + (3 * f)) + 0) (by omega) (by omega), h ((88 + (3 * f)) + 1) (by omega) (by omega)]
theorem eqV.wayf (h : eqV v w) (hv : wfV v) {f : Int} (hf : 0 ≤ f ∧ f < v 2) : ∀ (n S : Nat) (k : Int), 0 ≤ k → k < v 0 → wayF w f n S k = wayF v f n S k := by
  have hS := wfS hv
  intro n
  induction n with
  | zero => intro S k _ _; rfl
  | succ n ih =>
    intro S k k0 k1
    unfold wayF
    rw [h 0 (by omega) (by omega)]
    refine mn_cg (by rw [h.hm hv hf ⟨k0, k1⟩]) (fun j j0 j1 => ?_)
    rw [ih _ j j0 (by omega), h.ap hv ⟨j0, by omega⟩ ⟨k0, k1⟩]
theorem eqV.rnd (h : eqV v w) (hv : wfV v) {f : Int} (hf : 0 ≤ f ∧ f < v 2) (S : Nat) : rndS w f S = rndS v f S := by
  have hS := wfS hv
  unfold rndS
  rw [h 0 (by omega) (by omega)]
  have e : mnF (fun k => S.testBit k.toNat) (fun k => wayS w f S k + hmS w f k) 1000000 (v 0).toNat = mnF (fun k => S.testBit k.toNat) (fun k => wayS v f S k + hmS v f k) 1000000 (v 0).toNat := by
    refine mn_cg rfl (fun j j0 j1 => ?_)
    unfold wayS
    rw [h.wayf hv hf S S j j0 (by omega), h.hm hv hf ⟨j0, by omega⟩]
  rw [e]
theorem eqV.rt (h : eqV v w) (hv : wfV v) {G : Sh} {D : Dm} (hR : RT v G D) : RT w G D := by
  unfold RT
  rw [h 0 (by omega) (by omega), h 1 (by omega) (by omega), h 2 (by omega) (by omega)]
  refine ⟨fun s lot s0 s1 l0 l1 => ?_, fun f S f0 f1 hS => ?_, hR.2.2⟩
  · rw [h.tk hv ⟨s0, s1⟩]; exact hR.1 s lot s0 s1 l0 l1
  · rw [h.rnd hv ⟨f0, f1⟩]; exact hR.2.1 f S f0 f1 hS
theorem RI.ev {G : Sh} {D : Dm} (h : RI v G D) (ha : eqV v w) (hv : wfV v) : RI w G D := ⟨h.1, h.2.imp id (fun q => ⟨q.1, ha.rt hv q.2⟩)⟩
end
/-! ===== trays, marks, gifts, texts ===== -/
theorem whyU_cg {m m' so so' : Int → Int} {f p g q n : Int} (hm : ∀ t, 0 ≤ t → t < 4 → m' t = m t) (hs : ∀ t, 0 ≤ t → t < 4 → so' t = so t) : whyU m' so' f p g q n = whyU m so f p g q n := by
  unfold whyU
  by_cases h : puOk f p g q n
  · rw [if_pos h, if_pos h, hm f h.1.1 h.1.2, hm g h.2.1.1 h.2.1.2, hs f h.1.1 h.1.2, hs g h.2.1.1 h.2.1.2]
  · rw [if_neg h, if_neg h]
theorem whyU_0 {m so : Int → Int} {f p g q n : Int} (h : whyU m so f p g q n = 0) : puOk f p g q n ∧ p + n ≤ m f ∧ q + n ≤ m g ∧ so f = so g := by
  unfold whyU at h
  by_cases h1 : puOk f p g q n
  · rw [if_pos h1] at h
    by_cases h2 : m f = -1 ∨ m g = -1
    · rw [if_pos h2] at h; omega
    · rw [if_neg h2] at h
      by_cases h3 : so f ≠ so g
      · rw [if_pos h3] at h; omega
      · rw [if_neg h3] at h
        by_cases h4 : m f < p + n ∨ m g < q + n
        · rw [if_pos h4] at h; omega
        · exact ⟨h1, by omega, by omega, Classical.byContradiction h3⟩
  · rw [if_neg h1] at h; omega
section
variable {l : Launch} {E : Ev} {κ k n : Nat} {G : Sh} {D : Dm} {M1 M2 : Mt} {as : List Value} {a : Ans}
/-- a call that changes trays alone -/
theorem Pr.t {X : Dm} (hJ : J k n G D) (hx : ∀ c, ¬ (17 ≤ c ∧ c ≤ 22) → X c = D c) (h1 : Ct l E M1 κ 0 0 (vR E 0 :: as) G D (cP (D 108) G X a))
    (h2 : ∀ G' D1, Lay G' → eqM D D1 → C0 l E M2 κ (vR E 107 :: as) G' D1 (fun r' D2 => ∃ DX, (∀ c, ¬ (109 ≤ c ∧ c ≤ 111) → DX c = D1 c) ∧ Trs X DX ∧ r' = a.2.1 ∧ mQ DX D2 a)) : Pr l E κ M1 M2 as k n G D := by
  refine Pr.mk2 (a := a) hJ (Or.inl ⟨rfl, rfl⟩) (h1.mono ?_)
  intro r G' D1 hc
  have he : eqM D D1 := fun c i p q => by rw [hc.1.2.eqM c i p q, hx c (by omega)]
  have e8 : D1 108 = D 108 := he.c (by decide) (by decide)
  refine ⟨X, D 108, hc, rfl, C0.use (h2 G' D1 hc.2.1 he) ?_⟩
  rintro r' D2 ⟨DX, hd, hT, g1, g2⟩
  obtain ⟨h20, hLn, hF, -, hP, hM, hV⟩ := hJ.R
  have e7 : DX 107 = D 107 := by rw [hd 107 (by decide)]; exact he.c (by decide) (by decide)
  have ed8 : DX 108 = D 108 := by rw [hd 108 (by decide)]; exact e8
  have x0 := hx 0 (by decide)
  refine ⟨DX, ed8, hJ.S.of ⟨by rw [x0], by rw [x0], by rw [x0]⟩ ⟨by rw [e7], by rw [e7], by rw [e7]⟩, ⟨by rw [e7]; exact h20, hLn.of (fun c h1 h2 => hx c (by omega)) (fun i _ _ => by rw [ed8]), hF.of (Or.inl x0) ⟨by rw [e7], by rw [e7], by rw [e7]⟩, hT, hP.of ⟨by rw [hx 23 (by decide)], hx 24 (by decide)⟩ ⟨by rw [e7], by rw [hd 112 (by decide)]; exact he.c (by decide) (by decide)⟩, hM.of (by rw [x0]) (fun c h1 h2 => hx c (by omega)) (by rw [e7]) (fun i _ _ => by rw [ed8]), hV.of ⟨by rw [hx 60 (by decide)], hx 65 (by decide)⟩ ⟨by rw [e7], by rw [hd 120 (by decide)]; exact he.c (by decide) (by decide)⟩⟩, fun c i p => by rw [hd c (by omega)], g1, g2⟩
theorem pr_tray (hJ : J k n G D) {t s m : Int} (ht : iRg t) (hs : iRg s) (hm : iRg m) : Pr l E 0 MX9_tray MX10_tray [vI t, vI s, vI m] k n G D := by
  have hT := hJ.R.2.2.2.1
  refine Pr.t (X := trC D t s m) hJ (fun c hc => ?_) (c_X9_tray hJ.L hJ.I ht hs hm rfl) (fun G' D1 hL he => C0.use (c_X10_tray hL ht hs hm rfl) ?_)
  · unfold trC
    split
    · funext i
      dsimp only
      rw [if_neg (by omega), if_neg (by omega), if_neg (by omega)]
    · rfl
  · rintro r' D2 ⟨g1, g2⟩
    refine ⟨_, fun c hc => ?_, fun t' p q => ?_, g1, g2⟩
    · unfold trM
      split
      · funext i
        dsimp only
        rw [if_neg (by omega), if_neg (by omega), if_neg (by omega)]
      · rfl
    · obtain ⟨⟨a1, a2⟩, a3, a4⟩ := hT t' p q
      have b9 := he.c (c := 109) (by decide) (by decide)
      have b10 := he.c (c := 110) (by decide) (by decide)
      have b11 := he.c (c := 111) (by decide) (by decide)
      by_cases ok : trOk t s m
      · have ec : trC D t s m = fun c i => if c = 21 ∧ i = t then s else if c = 22 ∧ i = t then m else if c = 17 + t.toNat ∧ 0 ≤ i ∧ i < 60 then 0 else D c i := by unfold trC; rw [if_pos ok]
        have em : trM D1 t s m = fun c i => if c = 109 ∧ i = t then s else if c = 110 ∧ i = t then m else if c = 111 ∧ 60 * t ≤ i ∧ i < 60 * t + m then 0 else D1 c i := by unfold trM; rw [if_pos ok]
        rw [ec, em]
        by_cases z : t' = t
        · subst z
          have x22 : (if (22 : Nat) = 21 ∧ t' = t' then s else if (22 : Nat) = 22 ∧ t' = t' then m else if 22 = 17 + t'.toNat ∧ 0 ≤ t' ∧ t' < 60 then 0 else D 22 t') = m := by rw [if_neg (by omega), if_pos ⟨rfl, rfl⟩]
          have y10 : (if (110 : Nat) = 109 ∧ t' = t' then s else if (110 : Nat) = 110 ∧ t' = t' then m else if (110 : Nat) = 111 ∧ 60 * t' ≤ t' ∧ t' < 60 * t' + m then 0 else D1 110 t') = m := by rw [if_neg (by omega), if_pos ⟨rfl, rfl⟩]
          refine ⟨⟨?_, ?_⟩, ⟨?_, ?_⟩, fun x x0 x1 => ?_⟩
          · show (if (21 : Nat) = 21 ∧ t' = t' then s else _) = (if (109 : Nat) = 109 ∧ t' = t' then s else _)
            rw [if_pos ⟨rfl, rfl⟩, if_pos ⟨rfl, rfl⟩]
          · exact x22.trans y10.symm
          · show 0 ≤ (if (109 : Nat) = 109 ∧ t' = t' then s else _) ∧ (if (109 : Nat) = 109 ∧ t' = t' then s else _) ≤ 3
            rw [if_pos ⟨rfl, rfl⟩]
            exact ok.2.1
          · have := ok.2.2
            have e : (fun (c : Nat) (i : Int) => if c = 109 ∧ i = t' then s else if c = 110 ∧ i = t' then m else if c = 111 ∧ 60 * t' ≤ i ∧ i < 60 * t' + m then 0 else D1 c i) 110 t' = m := y10
            rw [e]; omega
          · have e : (fun (c : Nat) (i : Int) => if c = 109 ∧ i = t' then s else if c = 110 ∧ i = t' then m else if c = 111 ∧ 60 * t' ≤ i ∧ i < 60 * t' + m then 0 else D1 c i) 110 t' = m := y10
            rw [e] at x1
            have := ok.2.2
            show (if 17 + t'.toNat = 21 ∧ x = t' then s else if 17 + t'.toNat = 22 ∧ x = t' then m else if 17 + t'.toNat = 17 + t'.toNat ∧ 0 ≤ x ∧ x < 60 then 0 else _) = (if (111 : Nat) = 109 ∧ _ then s else if (111 : Nat) = 110 ∧ _ then m else if (111 : Nat) = 111 ∧ 60 * t' ≤ 60 * t' + x ∧ 60 * t' + x < 60 * t' + m then 0 else _)
            rw [if_neg (by omega), if_neg (by omega), if_pos (by omega), if_neg (by omega), if_neg (by omega), if_pos (by omega)]
        · have hok := ok.1
          have hm2 := ok.2.2
          refine ⟨⟨?_, ?_⟩, ⟨?_, ?_⟩, fun x x0 x1 => ?_⟩
          · show (if (21 : Nat) = 21 ∧ t' = t then s else if (21 : Nat) = 22 ∧ t' = t then m else if 21 = 17 + t.toNat ∧ _ then 0 else _) = (if (109 : Nat) = 109 ∧ t' = t then s else if (109 : Nat) = 110 ∧ _ then m else if (109 : Nat) = 111 ∧ _ then 0 else _)
            rw [if_neg (by omega), if_neg (by omega), if_neg (by omega), if_neg (by omega), if_neg (by omega), if_neg (by omega), b9]; exact a1
          · show (if (22 : Nat) = 21 ∧ t' = t then s else if (22 : Nat) = 22 ∧ t' = t then m else if 22 = 17 + t.toNat ∧ _ then 0 else _) = (if (110 : Nat) = 109 ∧ t' = t then s else if (110 : Nat) = 110 ∧ _ then m else if (110 : Nat) = 111 ∧ _ then 0 else _)
            rw [if_neg (by omega), if_neg (by omega), if_neg (by omega), if_neg (by omega), if_neg (by omega), if_neg (by omega), b10]; exact a2
          · show 0 ≤ (if (109 : Nat) = 109 ∧ t' = t then s else if (109 : Nat) = 110 ∧ t' = t then m else if (109 : Nat) = 111 ∧ 60 * t ≤ t' ∧ t' < 60 * t + m then 0 else D1 109 t') ∧ (if (109 : Nat) = 109 ∧ t' = t then s else if (109 : Nat) = 110 ∧ t' = t then m else if (109 : Nat) = 111 ∧ 60 * t ≤ t' ∧ t' < 60 * t + m then 0 else D1 109 t') ≤ 3
            rw [if_neg (by omega), if_neg (by omega), if_neg (by omega), b9]; exact a3.1
          · show -1 ≤ (if (110 : Nat) = 109 ∧ t' = t then s else if (110 : Nat) = 110 ∧ t' = t then m else if (110 : Nat) = 111 ∧ 60 * t ≤ t' ∧ t' < 60 * t + m then 0 else D1 110 t') ∧ (if (110 : Nat) = 109 ∧ t' = t then s else if (110 : Nat) = 110 ∧ t' = t then m else if (110 : Nat) = 111 ∧ 60 * t ≤ t' ∧ t' < 60 * t + m then 0 else D1 110 t') ≤ 60
            rw [if_neg (by omega), if_neg (by omega), if_neg (by omega), b10]; exact a3.2
          · have y : (fun (c : Nat) (i : Int) => if c = 109 ∧ i = t then s else if c = 110 ∧ i = t then m else if c = 111 ∧ 60 * t ≤ i ∧ i < 60 * t + m then 0 else D1 c i) 110 t' = D 110 t' := by
              show (if (110 : Nat) = 109 ∧ t' = t then s else if (110 : Nat) = 110 ∧ t' = t then m else if (110 : Nat) = 111 ∧ 60 * t ≤ t' ∧ t' < 60 * t + m then 0 else D1 110 t') = _
              rw [if_neg (by omega), if_neg (by omega), if_neg (by omega), b10]
            rw [y] at x1
            show (if 17 + t'.toNat = 21 ∧ x = t then s else if 17 + t'.toNat = 22 ∧ x = t then m else if 17 + t'.toNat = 17 + t.toNat ∧ 0 ≤ x ∧ x < 60 then 0 else D (17 + t'.toNat) x) = (if (111 : Nat) = 109 ∧ _ then s else if (111 : Nat) = 110 ∧ _ then m else if (111 : Nat) = 111 ∧ 60 * t ≤ 60 * t' + x ∧ 60 * t' + x < 60 * t + m then 0 else D1 111 ((60 * t') + x))
            rw [if_neg (by omega), if_neg (by omega), if_neg (by omega), if_neg (by omega), if_neg (by omega), if_neg (by omega), b11]
            exact a4 x x0 x1
      · have ec : trC D t s m = D := by unfold trC; rw [if_neg ok]
        have em : trM D1 t s m = D1 := by unfold trM; rw [if_neg ok]
        rw [ec, em, b9, b10, b11]
        exact ⟨⟨a1, a2⟩, a3, a4⟩
theorem pr_write (hJ : J k n G D) {t p x : Int} (ht : iRg t) (hp : iRg p) (hx : -9223372036854775808 ≤ x ∧ x < 9223372036854775808) : Pr l E 0 MX9_write MX10_write [vI t, vI p, vJ x] k n G D := by
  have hT := hJ.R.2.2.2.1
  have ew : whyP (D 22) t p = whyP (D 110) t p := whyP_cg (fun a b => (hT t a b).1.2)
  refine Pr.t (X := wrC D t p x) (a := q_write (D 22) t p) hJ (fun c hc => ?_) (c_X9_write hJ.L hJ.I (fun t a b => by have := hT t a b; rw [this.1.1, this.1.2]; omega) ht hp hx rfl) (fun G' D1 hL he => ?_)
  · unfold wrC
    split
    · rename_i h
      obtain ⟨q1, _⟩ := whyP_0 h
      exact funext fun i => upd2_cell _ _ _ _ (by omega)
    · rfl
  · have b9 := he.c (c := 109) (by decide) (by decide)
    have b10 := he.c (c := 110) (by decide) (by decide)
    have b11 := he.c (c := 111) (by decide) (by decide)
    refine C0.use (c_X10_write (a := q_write (D 22) t p) hL (fun t a b => by have := hT t a b; rw [b9, b10]; omega) ht hp hx (by rw [b10]; unfold q_write; rw [ew])) ?_
    rintro r' D2 ⟨g1, g2⟩
    refine ⟨_, fun c hc => ?_, fun t' p' q' => ?_, g1, g2⟩
    · unfold wrM
      split
      · exact funext fun i => upd2_cell _ _ _ _ (by omega)
      · rfl
    · obtain ⟨⟨a1, a2⟩, a3, a4⟩ := hT t' p' q'
      unfold wrC wrM
      rw [b10, ← ew]
      by_cases h : whyP (D 22) t p = 0
      · obtain ⟨q1, q2, q3⟩ := whyP_0 h
        have hsz := (hT t q1.1 q1.2).2.1.2
        have hs2 := (hT t q1.1 q1.2).1.2
        rw [if_pos h, if_pos h]
        rw [upd2_cell _ _ _ _ (show (21 : Nat) ≠ 17 + t.toNat by omega), upd2_cell _ _ _ _ (show (22 : Nat) ≠ 17 + t.toNat by omega), upd2_cell _ _ _ _ (show (109 : Nat) ≠ 111 by decide), upd2_cell _ _ _ _ (show (110 : Nat) ≠ 111 by decide), b9, b10]
        refine ⟨⟨a1, a2⟩, a3, fun i i0 i1 => ?_⟩
        simp only [upd2]
        by_cases z : t' = t ∧ i = p
        · obtain ⟨rfl, rfl⟩ := z
          rw [if_pos (And.intro rfl rfl), if_pos ⟨trivial, rfl⟩, a1]
        · rw [if_neg (by omega), if_neg (by omega), b11]
          exact a4 i i0 i1
      · rw [if_neg h, if_neg h, b9, b10, b11]
        exact ⟨⟨a1, a2⟩, a3, a4⟩
theorem pr_pour (hJ : J k n G D) {f p g q m : Int} (hf : iRg f) (hp : iRg p) (hg : iRg g) (hq : iRg q) (hm : iRg m) : Pr l E 0 MX9_pour MX10_pour [vI f, vI p, vI g, vI q, vI m] k n G D := by
  have hT := hJ.R.2.2.2.1
  have ew : whyU (D 22) (D 21) f p g q m = whyU (D 110) (D 109) f p g q m := whyU_cg (fun t a b => (hT t a b).1.2) (fun t a b => (hT t a b).1.1)
  refine Pr.t (X := puC D f p g q m) (a := q_pour (D 22) (D 21) f p g q m) hJ (fun c hc => ?_) (c_X9_pour hJ.L hJ.I (fun t a b => by have := hT t a b; rw [this.1.2]; omega) hf hp hg hq hm rfl) (fun G' D1 hL he => ?_)
  · unfold puC
    split
    · rename_i h
      obtain ⟨q1, _⟩ := whyU_0 h
      exact funext fun i => cpy2_off _ (by omega) i
    · rfl
  · have b9 := he.c (c := 109) (by decide) (by decide)
    have b10 := he.c (c := 110) (by decide) (by decide)
    have b11 := he.c (c := 111) (by decide) (by decide)
    refine C0.use (c_X10_pour (a := q_pour (D 22) (D 21) f p g q m) hL (fun t a b => by have := hT t a b; rw [b10]; omega) hf hp hg hq hm (by rw [b10, b9]; unfold q_pour; rw [ew])) ?_
    rintro r' D2 ⟨g1, g2⟩
    refine ⟨_, fun c hc => ?_, fun t' p' q' => ?_, g1, g2⟩
    · unfold puM
      split
      · exact funext fun i => cpy2_off _ (by omega) i
      · rfl
    · obtain ⟨⟨a1, a2⟩, a3, a4⟩ := hT t' p' q'
      unfold puC puM
      rw [b10, b9, ← ew]
      by_cases h : whyU (D 22) (D 21) f p g q m = 0
      · obtain ⟨⟨q1, q2, q3, q4, q5⟩, q6, q7, q8⟩ := whyU_0 h
        have hsf := hT f q1.1 q1.2
        have hsg := hT g q2.1 q2.2
        rw [hsf.1.2] at q6
        rw [hsg.1.2] at q7
        rw [if_pos h, if_pos h]
        rw [cpy2_off _ (show (21 : Nat) ≠ 17 + g.toNat by omega), cpy2_off _ (show (22 : Nat) ≠ 17 + g.toNat by omega), cpy2_off _ (show (109 : Nat) ≠ 111 by decide), cpy2_off _ (show (110 : Nat) ≠ 111 by decide), b9, b10]
        refine ⟨⟨a1, a2⟩, a3, fun i i0 i1 => ?_⟩
        have hg60 := hsg.2.1.2.2
        simp only [cpy2]
        by_cases z : t' = g ∧ q ≤ i ∧ i < q + m
        · obtain ⟨rfl, z1, z2⟩ := z
          rw [if_pos ⟨rfl, z1, z2⟩, if_pos ⟨trivial, by omega, by omega⟩, b11, show (60 * f) + p + ((60 * t') + i - ((60 * t') + q)) = (60 * f) + (p + (i - q)) by omega]
          exact hsf.2.2 _ (by omega) (by omega)
        · rw [if_neg (by omega), if_neg (by omega), b11]
          exact a4 i i0 i1
      · rw [if_neg h, if_neg h, b9, b10, b11]
        exact ⟨⟨a1, a2⟩, a3, a4⟩
theorem pr_give (hJ : J k n G D) {kd : Int} (hk : iRg kd) : Pr l E 0 MX9_give MX10_give [vI kd] k n G D := by
  have hv := hJ.v
  have hS := wfS hv
  refine Pr.mk2 (a := q_give (D 108) kd) hJ (Or.inr ⟨rfl, rfl⟩) ((c_X9_give hJ.L hv hJ.C hJ.O hJ.I hk rfl).mono ?_)
  rintro r G' D1 ⟨Dx, hgx, hc⟩
  have ex : ∀ c i, c ≠ 65 → ¬ (c = 60 ∧ i = 7) → Dx c i = D c i := hgx.2.2
  have he : eqM D D1 := fun c i p q => by rw [hc.1.2.eqM c i p q, ex c i (by omega) (by omega)]
  have e8 : D1 108 = D 108 := he.c (by decide) (by decide)
  refine ⟨Dx, D 108, hc, rfl, C0.use (c_X10_give hc.2.1 (by rw [e8]; exact hv) (by rw [he 107 20 (by decide) (by decide)]; exact hJ.R.1) hk (by rw [e8])) ?_⟩
  rintro r' D2 ⟨Dy, hgy, g1, g2⟩
  rw [e8] at hgy
  have ey : ∀ c i, 107 ≤ c → c < 125 → c ≠ 120 → ¬ (c = 107 ∧ i = 33) → Dy c i = D c i := fun c i p q z1 z2 => by rw [hgy.2.2 c i z1 z2]; exact he c i p q
  obtain ⟨h20, hLn, hF, hT, hP, hM, hV⟩ := hJ.R
  have yc : ∀ c, 108 ≤ c → c < 125 → c ≠ 120 → Dy c = D c := fun c p q z => funext fun i => ey c i (by omega) q z (by omega)
  have xc : ∀ c, c ≠ 65 → c ≠ 60 → Dx c = D c := fun c p q => funext fun i => ex c i p (by omega)
  have x0 := xc 0 (by decide) (by decide)
  have y7 : ∀ i, i ≠ 33 → Dy 107 i = D 107 i := fun i hi => ey 107 i (by decide) (by decide) (by decide) (by omega)
  refine ⟨Dy, yc 108 (by decide) (by decide) (by decide), hJ.S.of ⟨by rw [x0], by rw [x0], by rw [x0]⟩ ⟨y7 1 (by decide), y7 2 (by decide), y7 3 (by decide)⟩, ⟨by rw [y7 20 (by decide)]; exact h20, hLn.of (fun c h1 h2 => xc c (by omega) (by omega)) (fun i _ _ => by rw [yc 108 (by decide) (by decide) (by decide)]), hF.of (Or.inl x0) ⟨y7 15 (by decide), y7 16 (by decide), y7 24 (by decide)⟩, hT.of (fun c h1 h2 => xc c (by omega) (by omega)) (fun c h1 h2 => yc c (by omega) (by omega) (by omega)), hP.of ⟨by rw [xc 23 (by decide) (by decide)], xc 24 (by decide) (by decide)⟩ ⟨y7 9 (by decide), yc 112 (by decide) (by decide) (by decide)⟩, hM.of (by rw [x0]) (fun c h1 h2 => xc c (by omega) (by omega)) (y7 37 (by decide)) (fun i _ _ => by rw [yc 108 (by decide) (by decide) (by decide)]), ?_⟩, fun c i p => hgy.2.2 c i (by omega) (by omega), g1, g2⟩
  by_cases ok : gvOk (D 108) kd
  · obtain ⟨a1, a2⟩ := hgx.1 ok
    obtain ⟨b1, b2⟩ := hgy.1 ok
    refine ⟨by rw [a1, b1], by rw [b1]; have := ok.2.1.1; omega, fun s p q => ?_⟩
    rw [b1] at q
    rw [a2 s p q, b2 s p q]
  · have e1 := hgx.2.1 ok
    have e2 := hgy.2.1 ok
    rw [e1, e2]
    exact hV.of ⟨rfl, rfl⟩ ⟨he 107 33 (by decide) (by decide), he.c (by decide) (by decide)⟩
theorem pr_mark (hJ : J k n G D) : Pr l E 0 MX9_mark MX10_mark [] k n G D := by
  have hv := hJ.v
  obtain ⟨h20, hLn, hF, hT, hP, hM, hV⟩ := hJ.R
  obtain ⟨m1, m2, m3⟩ := hM
  have hev : eqV (D 108) ((mkM D) 108) := fun i i0 i1 => by
    unfold mkM
    split
    · rfl
    · rw [upd2_cell _ _ _ _ (by decide)]
      simp only [cpy2]
      rw [if_neg (by omega)]
  refine Pr.mk2 (a := q_mark (D 0 2)) hJ (Or.inl ⟨rfl, rfl⟩) ((c_X9_mark (v := (mkM D) 108) hJ.L (hJ.I.ev hev hv) (by rw [m1]; exact m2) rfl).mono ?_)
  intro r G' D1 hc
  have he : eqM D D1 := fun c i p q => by
    rw [hc.1.2.eqM c i p q]
    unfold mkC
    split
    · rfl
    · rw [upd2_cell _ _ _ _ (by omega), tkA_off (by omega)]
  have e7 : D1 107 = D 107 := he.c (by decide) (by decide)
  have e8 : D1 108 = D 108 := he.c (by decide) (by decide)
  refine ⟨mkC D, _, hc, hev 0 (by decide) (by decide), C0.use (c_X10_mark (a := q_mark (D 0 2)) hc.2.1 (by rw [e7]; exact m2) (by rw [e7, m1])) ?_⟩
  rintro r' D2 ⟨g1, g2⟩
  have em8 : mkM D1 108 = mkM D 108 := by
    unfold mkM
    rw [e7]
    split
    · exact e8
    · funext i
      rw [upd2_cell _ _ _ _ (by decide), upd2_cell _ _ _ _ (by decide)]
      simp only [cpy2]
      rw [e8]
  by_cases z : D 107 37 = 3
  · have ec : mkC D = D := by unfold mkC; rw [m1, if_pos z]
    have em : mkM D1 = D1 := by unfold mkM; rw [e7, if_pos z]
    refine ⟨mkM D1, em8, ?_, ?_, ?_, g1, g2⟩
    · rw [ec, em]; exact hJ.S.eq eqC.rf he
    · rw [ec, em]; exact hJ.R.fr eqC.rf.fr he.fr
    · rw [em]; exact eqC.rf
  · have ec : mkC D = upd2 (tkA D (68 + 13 * Int.toNat (D 107 37)) 1) 0 2 (D 107 37 + 1) := by unfold mkC; rw [m1, if_neg z]
    have em : mkM D1 = upd2 (cpy2 D1 108 0 108 (100 * (D 107 37 + 1)) 100) 107 37 (D 107 37 + 1) := by unfold mkM; rw [e7, if_neg z]
    generalize hm : D 107 37 = m at *
    have hm3 : 0 ≤ m ∧ m ≤ 2 := by omega
    have x0 : ∀ i, i ≠ 2 → mkC D 0 i = D 0 i := fun i hi => by rw [ec, upd2_place _ _ _ hi, tkA_off (by omega)]
    have xc : ∀ c, c ≠ 0 → (c < 68 + 13 * m.toNat ∨ 68 + 13 * m.toNat + 12 < c) → mkC D c = D c := fun c h1 h2 => funext fun i => by rw [ec, upd2_cell _ _ _ _ h1, tkA_off (by omega)]
    have y7 : ∀ i, i ≠ 37 → mkM D1 107 i = D 107 i := fun i hi => by rw [em, upd2_place _ _ _ hi, cpy2_off _ (by decide), e7]
    have yc : ∀ c, 109 ≤ c → c < 125 → mkM D1 c = D c := fun c h1 h2 => funext fun i => by rw [em, upd2_cell _ _ _ _ (by omega), cpy2_off _ (by omega)]; exact he c i (by omega) h2
    have y8 : ∀ i, ¬ (100 * (m + 1) ≤ i ∧ i < 100 * (m + 1) + 100) → mkM D1 108 i = D 108 i := fun i hi => by
      rw [em, upd2_cell _ _ _ _ (by decide)]
      simp only [cpy2]
      rw [if_neg (by omega), e8]
    have y8m : ∀ i, 0 ≤ i → i < 100 → mkM D1 108 (100 * (m + 1) + i) = D 108 i := fun i i0 i1 => by
      rw [em, upd2_cell _ _ _ _ (by decide)]
      simp only [cpy2]
      rw [if_pos ⟨trivial, by omega, by omega⟩, e8]
      congr 1; omega
    refine ⟨mkM D1, em8, hJ.S.of ⟨x0 11 (by decide), x0 12 (by decide), x0 13 (by decide)⟩ ⟨y7 1 (by decide), y7 2 (by decide), y7 3 (by decide)⟩, ⟨by rw [y7 20 (by decide)]; exact h20, hLn.of (fun c h1 h2 => xc c (by omega) (by omega)) (fun i i0 i1 => y8 i (by omega)), hF.of (Or.inr ⟨x0 14 (by decide), x0 15 (by decide), x0 16 (by decide)⟩) ⟨y7 15 (by decide), y7 16 (by decide), y7 24 (by decide)⟩, hT.of (fun c h1 h2 => xc c (by omega) (by omega)) (fun c h1 h2 => yc c (by omega) (by omega)), hP.of ⟨by rw [xc 23 (by decide) (by omega)], xc 24 (by decide) (by omega)⟩ ⟨y7 9 (by decide), yc 112 (by decide) (by decide)⟩, ?_, hV.of ⟨by rw [xc 60 (by decide) (by omega)], xc 65 (by decide) (by omega)⟩ ⟨y7 33 (by decide), yc 120 (by decide) (by decide)⟩⟩, fun c i p => by rw [em, upd2_cell _ _ _ _ (by omega), cpy2_off _ (by omega)], g1, g2⟩
    have e37 : mkM D1 107 37 = m + 1 := by rw [em, upd2_same]
    refine ⟨by rw [e37, ec, upd2_same], by rw [e37]; omega, fun j p q => ?_⟩
    rw [e37] at q
    by_cases zj : j = m
    · subst zj
      have hev2 : eqV (D 108) (shV (mkM D1 108) (100 * (j + 1))) := fun i i0 i1 => y8m i i0 i1
      have ht := CV_take (c := 68 + 13 * j.toNat) (d := 1) (D' := mkC D) hv hJ.C hJ.O (fun i i0 i1 => by
          rw [ec, upd2_cell _ _ _ _ (by omega)]
          simp only [tkA]
          rw [if_pos ⟨trivial, i0, i1⟩]) (fun c i c0 i0 i1 => by
          rw [ec, upd2_cell _ _ _ _ (by omega)]
          simp only [tkA]
          rw [if_neg (by omega), show 68 + 13 * j.toNat + (c + 1) - (68 + 13 * j.toNat) - 1 = c by omega, if_pos ⟨by omega, i0, i1⟩, show 1 + (68 + 13 * j.toNat + (c + 1) - (68 + 13 * j.toNat)) = 1 + (c + 1) by omega])
      have := hev2.cv hv ht.1 ht.2
      exact ⟨hev2.wf hv, this.1, this.2⟩
    · obtain ⟨a1, a2, a3⟩ := m3 j p (by omega)
      have hev2 : eqV (shV (D 108) (100 * (j + 1))) (shV (mkM D1 108) (100 * (j + 1))) := fun i i0 i1 => y8 _ (by omega)
      have hs : ∀ c, c ≤ 12 → mkC D (68 + 13 * j.toNat + c) = D (68 + 13 * j.toNat + c) := fun c hc => xc _ (by omega) (by omega)
      have := hev2.cv a1 (a2.same hs) (a3.same hs)
      exact ⟨hev2.wf a1, this.1, this.2⟩
theorem pr_back (hJ : J k n G D) : Pr l E 0 MX9_back MX10_back [] k n G D := by
  have hv := hJ.v
  obtain ⟨h20, hLn, hF, hT, hP, hM, hV⟩ := hJ.R
  obtain ⟨m1, m2, m3⟩ := hM
  have hb0 : D 107 37 = 0 → bkM D = D := fun z => by unfold bkM; rw [if_pos z]
  have hrow : D 107 37 ≠ 0 → eqV (shV (D 108) (100 * D 107 37)) ((bkM D) 108) := fun z i i0 i1 => by
    unfold bkM
    rw [if_neg z, upd2_cell _ _ _ _ (by decide)]
    simp only [cpy2, shV]
    rw [if_pos ⟨trivial, i0, by omega⟩]
    congr 1; omega
  have hwf : wfV ((bkM D) 108) := by
    by_cases z : D 107 37 = 0
    · rw [hb0 z]; exact hv
    · have := m3 (D 107 37 - 1) (by omega) (by omega)
      rw [show D 107 37 - 1 + 1 = D 107 37 by omega] at this
      exact (hrow z).wf this.1
  have hc9 : Ct l E MX9_back 0 0 0 [vR E 0] G D (cP ((bkM D) 108) G (bkC D) (q_back (D 0 2))) := c_X9_back hJ.L hJ.I (fun z => by rw [hb0 (by rw [← m1]; exact z)]; exact hJ.I) (by rw [m1]; exact m2) rfl
  have hraw : Ct l E MX9_back 0 0 0 [vR E 0] G D (fun r G' D' => cP ((bkM D) 108) G (bkC D) (q_back (D 0 2)) r G' D' ∧ G' = G) := (hc9.len).mono (fun r G' D' h => by
    refine ⟨h.1, ?_⟩
    rcases h.1.2.2.2 with e | e
    · exact e
    · have hl := h.2
      rw [e] at hl ⊢
      unfold newG at hl ⊢
      by_cases y : rdl G < 4 * 2 ^ ((bkM D) 108 0).toNat
      · rw [if_pos y] at hl
        have : (G2r G (2 ^ ((bkM D) 108 0).toNat)).1.length = G.1.length + 2 := by simp [G2r]
        omega
      · rw [if_neg y])
  have hle := hJ.2.le
  refine ⟨0, 0, by omega, hraw.mono ?_⟩
  rintro r G' D1 ⟨hc, rfl⟩
  have he : eqM D D1 := fun c i p q => by
    rw [hc.1.2.eqM c i p q]
    unfold bkC
    split
    · rfl
    · rw [upd2_cell _ _ _ _ (by omega), upd2_cell _ _ _ _ (by omega), tkA_off (by omega)]
  have e7 : D1 107 = D 107 := he.c (by decide) (by decide)
  have e8 : D1 108 = D 108 := he.c (by decide) (by decide)
  refine ⟨k, n, Or.inl ⟨rfl, rfl, rfl⟩, by omega, hc.2.1, Ct.mono (c_X10_back (a := q_back (D 0 2)) hc.2.1 (by rw [e7]; exact m2) (by rw [e7, m1])) ?_⟩
  rintro r' G'' D2 ⟨rfl, g1, g2⟩
  have em8 : bkM D1 108 = bkM D 108 := by
    unfold bkM
    rw [e7]
    split
    · exact e8
    · funext i
      rw [upd2_cell _ _ _ _ (by decide), upd2_cell _ _ _ _ (by decide)]
      simp only [cpy2]
      rw [e8]
  refine ⟨by rw [g1, hc.1.1], ?_, hJ.2⟩
  have hc2 := hc
  rw [← em8] at hc2
  have fin : Sts (bkC D) (bkM D1) → Rest (bkC D) (bkM D1) → eqC D1 (bkM D1) → Iv G'' D2 D2 := fun b1 b2 b3 => (Iv.two b1 b2 hc2 g2).eq (fun c i p => by rw [g2.eqC c i p, b3 c i p]) eqM.rf
  by_cases z : D 107 37 = 0
  · have ec : bkC D = D := by unfold bkC; rw [m1, if_pos z]
    have em : bkM D1 = D1 := by unfold bkM; rw [e7, if_pos z]
    rw [ec, em] at fin
    exact fin (hJ.S.eq eqC.rf he) (hJ.R.fr eqC.rf.fr he.fr) eqC.rf
  · have ec : bkC D = upd2 (upd2 (tkA D 1 (68 + 13 * Int.toNat (D 107 37 - 1))) 0 2 (D 107 37 - 1)) 42 5 0 := by unfold bkC; rw [m1, if_neg z]
    have em : bkM D1 = upd2 (cpy2 D1 108 (100 * D 107 37) 108 0 100) 107 37 (D 107 37 - 1) := by unfold bkM; rw [e7, if_neg z]
    have hr := hrow z
    rw [← em8] at hr
    obtain ⟨n1, n2, n3⟩ := m3 (D 107 37 - 1) (by omega) (by omega)
    rw [show D 107 37 - 1 + 1 = D 107 37 by omega] at n1 n2 n3
    generalize hm : D 107 37 = m at *
    have hm3 : 1 ≤ m ∧ m ≤ 3 := by omega
    have x0 : ∀ i, i ≠ 2 → bkC D 0 i = D 0 i := fun i hi => by rw [ec, upd2_cell _ _ _ _ (by decide), upd2_place _ _ _ hi, tkA_off (by omega)]
    have xc : ∀ c, 13 < c → c ≠ 42 → bkC D c = D c := fun c h1 h2 => funext fun i => by rw [ec, upd2_cell _ _ _ _ h2, upd2_cell _ _ _ _ (by omega), tkA_off (by omega)]
    have y7 : ∀ i, i ≠ 37 → bkM D1 107 i = D 107 i := fun i hi => by rw [em, upd2_place _ _ _ hi, cpy2_off _ (by decide), e7]
    have yc : ∀ c, 109 ≤ c → c < 125 → bkM D1 c = D c := fun c h1 h2 => funext fun i => by rw [em, upd2_cell _ _ _ _ (by omega), cpy2_off _ (by omega)]; exact he c i (by omega) h2
    have y8 : ∀ i, 100 ≤ i → bkM D1 108 i = D 108 i := fun i hi => by
      rw [em, upd2_cell _ _ _ _ (by decide)]
      simp only [cpy2]
      rw [if_neg (by omega), e8]
    have ht := CV_take (c := 1) (d := 68 + 13 * (m - 1).toNat) (D' := bkC D) n1 n2 n3 (fun i i0 i1 => by
        rw [ec, upd2_cell _ _ _ _ (by decide), upd2_cell _ _ _ _ (by decide)]
        simp only [tkA]
        rw [if_pos ⟨trivial, i0, i1⟩]) (fun c i c0 i0 i1 => by
        rw [ec, upd2_cell _ _ _ _ (by omega), upd2_cell _ _ _ _ (by omega)]
        simp only [tkA]
        rw [if_neg (by omega), show 1 + (c + 1) - 1 - 1 = c by omega, if_pos ⟨by omega, i0, i1⟩, show 68 + 13 * (m - 1).toNat + (1 + (c + 1) - 1) = 68 + 13 * (m - 1).toNat + (c + 1) by omega])
    have hcv := hr.cv n1 ht.1 ht.2
    have e37 : bkM D1 107 37 = m - 1 := by rw [em, upd2_same]
    refine fin (hJ.S.of ⟨x0 11 (by decide), x0 12 (by decide), x0 13 (by decide)⟩ ⟨y7 1 (by decide), y7 2 (by decide), y7 3 (by decide)⟩) ⟨by rw [y7 20 (by decide)]; exact h20, ⟨hr.wf n1, hcv.1, hcv.2⟩, hF.of (Or.inr ⟨x0 14 (by decide), x0 15 (by decide), x0 16 (by decide)⟩) ⟨y7 15 (by decide), y7 16 (by decide), y7 24 (by decide)⟩, hT.of (fun c h1 h2 => xc c (by omega) (by omega)) (fun c h1 h2 => yc c (by omega) (by omega)), hP.of ⟨by rw [xc 23 (by decide) (by decide)], xc 24 (by decide) (by decide)⟩ ⟨y7 9 (by decide), yc 112 (by decide) (by decide)⟩, ⟨by rw [e37, ec, upd2_cell _ _ _ _ (by decide), upd2_same], by rw [e37]; omega, fun j p q => ?_⟩, hV.of ⟨by rw [xc 60 (by decide) (by decide)], xc 65 (by decide) (by decide)⟩ ⟨y7 33 (by decide), yc 120 (by decide) (by decide)⟩⟩ (fun c i p => by rw [em, upd2_cell _ _ _ _ (by omega), cpy2_off _ (by omega)])
    rw [e37] at q
    obtain ⟨a1, a2, a3⟩ := m3 j p (by omega)
    have hev2 : eqV (shV (D 108) (100 * (j + 1))) (shV (bkM D1 108) (100 * (j + 1))) := fun i i0 i1 => y8 _ (by omega)
    have hs : ∀ c, c ≤ 12 → bkC D (68 + 13 * j.toNat + c) = D (68 + 13 * j.toNat + c) := fun c hc => xc _ (by omega) (by omega)
    have := hev2.cv a1 (a2.same hs) (a3.same hs)
    exact ⟨hev2.wf a1, this.1, this.2⟩
theorem b20_b (a b c d e : Int) (i : Nat) : -128 ≤ (b20 a b c d e).getD i 0 ∧ (b20 a b c d e).getD i 0 < 128 := by
  have h : ∀ x ∈ b20 a b c d e, -128 ≤ x ∧ x < 128 := by
    intro x hx
    simp only [b20, b4, List.mem_append, List.mem_cons, List.not_mem_nil, or_false] at hx
    rcases hx with ((((hx | hx) | hx) | hx) | hx) <;> rcases hx with rfl | rfl | rfl | rfl <;> exact rb8 _
  rw [List.getD_eq_getElem?_getD]
  cases hg : (b20 a b c d e)[i]? with
  | none => simp
  | some x => exact h x (List.mem_of_getElem? hg)
theorem pr_feed (hJ : J k n G D) {a b c d e : Int} : Pr l E 0 MX9_feed MX10_feed [vI a, vI b, vI c, vI d, vI e] k n G D := by
  obtain ⟨h20, hLn, hF, hT, ⟨t1, t2, t3⟩, hM, hV⟩ := hJ.R
  have l20 : (b20 a b c d e).length = 20 := rfl
  refine Pr.raw hJ (C0.use (c_X9_feed hJ.L (by rw [t1]; exact t2)) ?_)
  rintro r D1 ⟨p1, p2⟩
  rw [t1] at p1 p2
  by_cases z : D 107 9 + 20 ≤ 600
  · obtain ⟨rfl, rfl⟩ := p1 z
    generalize hy : b20 a b c d e = ys at l20 ⊢
    have hyb : ∀ i, -128 ≤ ys.getD i 0 ∧ ys.getD i 0 < 128 := fun i => by rw [← hy]; exact b20_b a b c d e i
    generalize hX : apL 24 23 1 D ys = X
    have xo : ∀ u i, u ≠ 24 → ¬ (u = 23 ∧ i = 1) → X u i = D u i := fun u i h1 h2 => by rw [← hX]; exact apL_o 1 _ D u i h1 h2
    have xn : X 23 1 = D 107 9 + 20 := by rw [← hX, apL_n (by decide), t1, l20]; rfl
    have xt : ∀ j, X 24 j = if D 107 9 ≤ j ∧ j < D 107 9 + 20 then ys.getD (j - D 107 9).toNat 0 else D 24 j := fun j => by
      rw [← hX, apL_t (by decide), t1, l20]; rfl
    have hL := hJ.L
    have e9 : X 107 9 = D 107 9 := xo 107 9 (by decide) (by decide)
    refine C0.use (c_X10_feed hL (by rw [e9]; exact t2)) ?_
    rintro r' D2 ⟨q1, q2⟩
    rw [e9] at q1 q2
    obtain ⟨rfl, rfl⟩ := q1 z
    rw [hy]
    generalize hY : apL 112 107 9 X ys = Y
    have yo : ∀ u i, u ≠ 112 → ¬ (u = 107 ∧ i = 9) → Y u i = X u i := fun u i h1 h2 => by rw [← hY]; exact apL_o 9 _ X u i h1 h2
    have yn : Y 107 9 = D 107 9 + 20 := by rw [← hY, apL_n (by decide), e9, l20]; rfl
    have yt : ∀ j, Y 112 j = if D 107 9 ≤ j ∧ j < D 107 9 + 20 then ys.getD (j - D 107 9).toNat 0 else D 112 j := fun j => by
      rw [← hY, apL_t (by decide), e9, l20, xo 112 j (by decide) (by omega)]; rfl
    have o : ∀ u i, u ≠ 24 → u ≠ 112 → ¬ (u = 23 ∧ i = 1) → ¬ (u = 107 ∧ i = 9) → Y u i = D u i := fun u i h1 h2 h3 h4 => by rw [yo u i h2 h4, xo u i h1 h3]
    have oc : ∀ u, u ≠ 24 → u ≠ 112 → u ≠ 23 → u ≠ 107 → Y u = D u := fun u h1 h2 h3 h4 => funext fun i => o u i h1 h2 (by omega) (by omega)
    have o0 := oc 0 (by decide) (by decide) (by decide) (by decide)
    have o7 : ∀ i, i ≠ 9 → Y 107 i = D 107 i := fun i hi => o 107 i (by decide) (by decide) (by omega) (by omega)
    have o8 := oc 108 (by decide) (by decide) (by decide) (by decide)
    refine ⟨rfl, hL, ?_, hJ.S.of ⟨by rw [o0], by rw [o0], by rw [o0]⟩ ⟨o7 1 (by decide), o7 2 (by decide), o7 3 (by decide)⟩, by rw [o7 20 (by decide)]; exact h20, hLn.of (fun u h1 h2 => oc u (by omega) (by omega) (by omega) (by omega)) (fun i _ _ => by rw [o8]), hF.of (Or.inl o0) ⟨o7 15 (by decide), o7 16 (by decide), o7 24 (by decide)⟩, hT.of (fun u h1 h2 => oc u (by omega) (by omega) (by omega) (by omega)) (fun u h1 h2 => oc u (by omega) (by omega) (by omega) (by omega)), ⟨?_, by rw [yn]; omega, fun i i0 i1 => ?_⟩, hM.of (by rw [o0]) (fun u h1 h2 => oc u (by omega) (by omega) (by omega) (by omega)) (o7 37 (by decide)) (fun i _ _ => by rw [o8]), hV.of ⟨by rw [oc 60 (by decide) (by decide) (by decide) (by decide)], oc 65 (by decide) (by decide) (by decide) (by decide)⟩ ⟨o7 33 (by decide), oc 120 (by decide) (by decide) (by decide) (by decide)⟩⟩
    · rw [o8]
      exact hJ.I.cells hL (fun u i hu => o u i (by omega) (by omega) (by omega) (by omega))
    · rw [yo 23 1 (by decide) (by decide), xn, yn]
    · rw [yn] at i1
      rw [yo 24 i (by decide) (by omega), xt i, yt i]
      by_cases q : D 107 9 ≤ i ∧ i < D 107 9 + 20
      · rw [if_pos q, if_pos q]
        exact ⟨rfl, hyb _⟩
      · rw [if_neg q, if_neg q]
        exact t3 i i0 (by omega)
  · obtain ⟨rfl, rfl⟩ := p2 (by omega)
    refine C0.use (c_X10_feed hJ.L t2) ?_
    rintro r' D2 ⟨q1, q2⟩
    obtain ⟨rfl, rfl⟩ := q2 (by omega)
    exact ⟨rfl, hJ.1⟩
end

/-! ===== the class's tables are made and filled ===== -/
theorem aw_int : Cond.arrayClass .int ∈ gT := wt (i := 245) (by decide +kernel) rfl
theorem aw_long : Cond.arrayClass .long ∈ gT := wt (i := 268) (by decide +kernel) rfl
theorem aw_byte : Cond.arrayClass .byte ∈ gT := wt (i := 327) (by decide +kernel) rfl
theorem aw_bool : Cond.arrayClass .boolean ∈ gT := wt (i := 1347) (by decide +kernel) rfl
/-- two new rows for the rounds and the ways -/
def G2r (G : Sh) (P : Nat) : Sh := (((G.1 ++ [(100, 4 * P)]) ++ [(100, 10 * P)]), updR (newR (updR (newR G.2 G.1.length) 42 8 (some G.1.length)) (G.1.length + 1)) 42 9 (some (G.1.length + 1)))
theorem R0f_lt {c : Nat} {i : Int} {r : Nat} (h : R0f c i = some r) : c < 125 := by
  rcases Nat.lt_or_ge c 125 with q | q
  · exact q
  · have e : R0.getD c [] = [] := by rw [List.getD_eq_getElem?_getD, List.getElem?_eq_none (by simpa [R0] using q)]; rfl
    rw [R0f, e] at h
    simp at h
theorem lay_len {G : Sh} (h : Lay G) : 125 ≤ G.1.length := h.2.2.2.2.2.2.2.2.2
theorem G2r_T {G : Sh} {P c : Nat} (h : c < G.1.length) : (G2r G P).1[c]? = G.1[c]? := by
  simp only [G2r]
  rw [List.getElem?_append_left (by simp; omega), List.getElem?_append_left h]
theorem G2r_rd {G : Sh} {P : Nat} (hl : 125 ≤ G.1.length) : (G2r G P).2 42 8 = some G.1.length := by
  have h1 : ¬ (42 : Nat) = G.1.length + 1 := by omega
  simp [G2r, updR, newR, h1]
theorem G2r_wy {G : Sh} {P : Nat} : (G2r G P).2 42 9 = some (G.1.length + 1) := by simp [G2r, updR]
theorem G2r_lay {G : Sh} {P : Nat} (hL : Lay G) (hP : 10 * P < 2147483648) : Lay (G2r G P) ∧ rdc (G2r G P) = G.1.length ∧ wyc (G2r G P) = G.1.length + 1 ∧ rdl (G2r G P) = 4 * P ∧ wyl (G2r G P) = 10 * P := by
  have hl := lay_len hL
  have e1 : rdc (G2r G P) = G.1.length := by rw [rdc, G2r_rd hl]; rfl
  have e2 : wyc (G2r G P) = G.1.length + 1 := by rw [wyc, G2r_wy]; rfl
  have t1 : (G2r G P).1[G.1.length]? = some (100, 4 * P) := by
    simp only [G2r]
    rw [List.getElem?_append_left (by simp), List.getElem?_append_right (Nat.le_refl _), Nat.sub_self]; rfl
  have t2 : (G2r G P).1[G.1.length + 1]? = some (100, 10 * P) := by
    simp only [G2r]
    rw [List.getElem?_append_right (by simp)]
    simp
  have l1 : rdl (G2r G P) = 4 * P := by rw [rdl, e1, t1]; rfl
  have l2 : wyl (G2r G P) = 10 * P := by rw [wyl, e2, t2]; rfl
  refine ⟨⟨fun c t h => ?_, fun c i r h h0 => ?_, ?_, ?_, ?_, ?_, ?_, ?_, ?_, ?_⟩, e1, e2, l1, l2⟩
  · have hc : c < 125 := by have := (List.getElem?_eq_some_iff.mp h).1; simpa [T0] using this
    rw [G2r_T (by omega)]; exact hL.1 c t h
  · have hc := R0f_lt h
    have hne : ¬ (c = 42 ∧ i = 8) := by rintro ⟨rfl, rfl⟩; rw [show R0f 42 8 = none by decide] at h; cases h
    have hne2 : ¬ (c = 42 ∧ i = 9) := by rintro ⟨rfl, rfl⟩; rw [show R0f 42 9 = none by decide] at h; cases h
    have n1 : ¬ c = G.1.length := by omega
    have n2 : ¬ c = G.1.length + 1 := by omega
    simp only [G2r, updR, newR, if_neg hne, if_neg hne2, if_neg n1, if_neg n2]
    exact hL.2.1 c i r h h0
  · rw [e1]; exact G2r_rd hl
  · rw [e2]; exact G2r_wy
  · rw [e1, l1]; exact t1
  · rw [e2, l2]; exact t2
  · rw [l1]; omega
  · rw [l2]; omega
  · rw [e1, e2]; omega
  · simp [G2r]; omega
def mcR (G : Sh) (v : Vl) : Nat := if rdl G < 4 * 2 ^ (v 0).toNat then 2 else 0
def msR (G : Sh) (v : Vl) : Nat := if rdl G < 4 * 2 ^ (v 0).toNat then 14 * 2 ^ (v 0).toNat else 0
def newG (G : Sh) (v : Vl) : Sh := if rdl G < 4 * 2 ^ (v 0).toNat then G2r G (2 ^ (v 0).toNat) else G
section RD
variable {l : Launch} {E : Ev} {G : Sh} {D : Dm} {v : Vl}
theorem c_X5_makeRoom (hL : Lay G) (hC0 : D 1 0 = v 0) (hs : 0 ≤ v 0 ∧ v 0 ≤ 10) : Ct l E MX5_makeRoom 2 (mcR G v) (msR G v) [vR E 42] G D (fun _ G' D' => G' = newG G v ∧ ∀ c, c < G.1.length → D' c = D c) := by
  have hp := pow_s (k := v 0) hs
  have hl := lay_len hL
  have hN := lay_rdN hL
  have eS : iSl 1 (D 1 0) = ((2 ^ (v 0).toNat : Nat) : Int) := by rw [hC0]; exact iSl1 (by omega)
  unfold mcR msR newG
  generalize hP : 2 ^ (v 0).toNat = P at *
  refine Ct.of (by decide) (Nat.le_of_ble_eq_true rfl) ?_
  show Go l E cX5_makeRoom 2 RX5 (rmO MX5_makeRoom _ _) (PfM MX5_makeRoom) (QfM E 2 _ _ _) 0 0 0 [(0, vR E 42)] [] G D
  refine go_aload_n 0 dX5_makeRoom_0 rfl rfl ?_
  refine go_getR 0 f_X5_42 rfl (hL.1 42 _ rfl) (hL.2.1 42 0 _ rfl (by decide)) dX5_makeRoom_1 ?_
  refine go_vIp (M := MX8_sets) [] [] mv_X5_111 (hL.1 1 _ rfl) rfl (by decide) ⟨Nat.le_of_ble_eq_true rfl, Nat.le_of_ble_eq_true rfl⟩ ⟨Nat.zero_le _, Nat.zero_le _⟩ rfl rfl (Nat.le_of_ble_eq_true rfl) dX5_makeRoom_4 (p_X8_sets hL) ?_
  rw [eS]
  refine go_istore_n [1, 0] (L' := [(0, vR E 42), (1, vI P)]) dX5_makeRoom_7 rfl (by decide) rfl ?_
  refine go_aload_n 0 dX5_makeRoom_8 rfl rfl ?_
  refine go_getR 8 f_X5_36 rfl (hL.1 42 _ rfl) (lay_rd hL) dX5_makeRoom_9 ?_
  refine go_alen 0 (lay_rdT hL) (by decide) rfl (b := ((rdl G : Nat) : Int)) rfl dX5_makeRoom_12 ?_
  refine go_iconst dX5_makeRoom_13 ?_
  refine go_iload_n 1 dX5_makeRoom_14 rfl rfl ?_
  refine go_imul dX5_makeRoom_15 ?_
  refine go_icmp_ge 38 dX5_makeRoom_16 (by decide) (by omega) (by omega) (fun hge => ?_) (fun hlt => ?_)
  · exact go_return (Nat.zero_le _) (Nat.zero_le _) rfl dX5_makeRoom_38 ⟨by rw [if_neg (by omega)], fun _ _ => rfl⟩
  · have hlt2 : rdl G < 4 * P := by omega
    refine go_aload_n 0 dX5_makeRoom_19 rfl rfl ?_
    refine go_iconst dX5_makeRoom_20 ?_
    refine go_iload_n 1 dX5_makeRoom_21 rfl rfl ?_
    refine go_imul dX5_makeRoom_22 ?_
    have e4 : (4 * (P : Int)).toNat = 4 * P := by omega
    have e10 : (10 * (P : Int)).toNat = 10 * P := by omega
    have ec : ∀ x : Nat, (rmO MX5_makeRoom (if rdl G < 4 * P then 2 else 0) x).cells = 2 := fun x => by rw [if_pos hlt2]; rfl
    have es : ∀ x : Nat, (rmO MX5_makeRoom x (if rdl G < 4 * P then 14 * P else 0)).slots = 14 * P := fun x => by rw [if_pos hlt2]; rfl
    refine go_newaI (by omega) aw_int ⟨by rw [ec]; omega, by rw [es, e4]; omega⟩ dX5_makeRoom_23 ?_
    have t42 : ∀ X : Sh, X.1 = (grow G (100, (4 * (P : Int)).toNat)).1 → X.1[42]? = some (5, 10) := fun X hX => by
      rw [hX]; simp only [grow]; rw [List.getElem?_append_left (by omega)]; exact hL.1 42 _ rfl
    refine go_putR 8 (i := 8) f_X5_36 rfl (t42 _ rfl) dX5_makeRoom_25 ?_
    refine go_aload_n 0 dX5_makeRoom_28 rfl rfl ?_
    refine go_bipush dX5_makeRoom_29 (by decide) ?_
    refine go_iload_n 1 dX5_makeRoom_31 rfl rfl ?_
    refine go_imul dX5_makeRoom_32 ?_
    refine go_newaI (by omega) aw_int ⟨by rw [ec]; omega, by rw [es, e4, e10]; omega⟩ dX5_makeRoom_33 ?_
    refine go_putR 9 (i := 9) f_X5_39 rfl (by
      simp only [grow]
      rw [List.getElem?_append_left (by simp; omega)]
      exact t42 _ rfl) dX5_makeRoom_35 ?_
    refine go_return (by rw [if_pos hlt2]; omega) (by rw [if_pos hlt2, e4, e10]; omega) rfl dX5_makeRoom_38 ⟨?_, fun c hc => ?_⟩
    · rw [if_pos hlt2]
      simp only [grow, G2r, e4, e10, List.length_append, List.length_cons, List.length_nil]
    · funext i
      have n1 : ¬ c = G.1.length := by omega
      have n2 : ¬ c = G.1.length + 1 := by omega
      simp [newD, grow, n1, n2]
/-- what stands between the calls: rounds and ways of one make; the tables stand where they are said to -/
def RI (v : Vl) (G : Sh) (D : Dm) : Prop := 4 * wyl G = 10 * rdl G ∧ (D 42 5 = 0 ∨ (D 42 5 = 1 ∧ RT v G D))
/-- what the class scribbles in, its tables too -/
def scrX (c : Nat) (i : Int) : Prop := c = 43 ∨ c = 45 ∨ c = 46 ∨ c = 47 ∨ c = 48 ∨ (c = 42 ∧ i = 5) ∨ scrC c i
def xS (D D' : Dm) : Prop := ∀ c i, c < 125 → ¬ scrX c i → D' c i = D c i
theorem xS.rf : xS D D := fun _ _ _ _ => rfl
theorem xS.tr {D1 D2 : Dm} (h : xS D D1) (h2 : xS D1 D2) : xS D D2 := fun c i a b => (h2 c i a b).trans (h c i a b)
theorem cS.x {D' : Dm} (h : cS D D') : xS D D' := fun c i _ b => h c i (fun q => b (Or.inr (Or.inr (Or.inr (Or.inr (Or.inr (Or.inr q)))))))
theorem xS.c {D' : Dm} (h : xS D D') (c : Nat) (h1 : c < 125) (hc : ∀ i, ¬ scrX c i) : D' c = D c := funext fun i => h c i h1 (hc i)
theorem newG_lay (hL : Lay G) (hs : 0 ≤ v 0 ∧ v 0 ≤ 10) (hW : 4 * wyl G = 10 * rdl G) : Lay (newG G v) ∧ 4 * wyl (newG G v) = 10 * rdl (newG G v) ∧ 4 * 2 ^ (v 0).toNat ≤ rdl (newG G v) ∧ 10 * 2 ^ (v 0).toNat ≤ wyl (newG G v) := by
  have hp := pow_s (k := v 0) hs
  unfold newG
  by_cases h : rdl G < 4 * 2 ^ (v 0).toNat
  · rw [if_pos h]
    obtain ⟨a, b, c, d, e⟩ := G2r_lay (P := 2 ^ (v 0).toNat) hL (by omega)
    exact ⟨a, by omega, by omega, by omega⟩
  · rw [if_neg h]
    exact ⟨hL, hW, by omega, by omega⟩
theorem newG_same (h : RT v G D) : newG G v = G := by unfold newG; rw [if_neg]; have := h.2.2; omega
theorem c_X5_ready (hL : Lay G) (hv : wfV v) (hC : CV 1 v D) (hO : CVo 1 v D) (hI : RI v G D) : Ct l E MX5_ready 2 (mcR G v) (msR G v) [vR E 42] G D (fun _ G' D' => G' = newG G v ∧ Lay G' ∧ Rd v G' D' ∧ RI v G' D' ∧ xS D D') := by
  have hs := wfS hv
  have hF := wfF hv
  have hp := pow_s (k := v 0) hs
  have hl := lay_len hL
  refine s_X5_ready hL ?_
  refine C0.use (c_X5_weigh hL hv hC hO (-1) 0 (Or.inl rfl)) ?_
  rintro - D1 ⟨ho1, hw1⟩
  have hw1 : RW v D1 := hw1
  have e5 : D1 42 5 = D 42 5 := by rw [ho1 42 (by decide)]
  have hC1 : CV 1 v D1 := hC.same (fun j hj => ho1 _ (by omega))
  have hx1 : xS D D1 := fun c i _ b => by rw [ho1 c (fun e => b (by simp only [scrX]; omega))]
  refine ⟨fun h0 => ?_, fun h1 => ?_⟩
  · have hC2 : CV 1 v (upd2 D1 42 5 1) := hC1.same (fun j hj => by funext i; exact upd2_cell _ _ _ _ (by omega))
    refine C0.use (c_X5_fillKept hL hv hC2) ?_
    rintro - D7 ⟨ho7, hk7⟩
    have hC7 : CV 1 v D7 := hC2.same (fun j hj => ho7 _ (by omega))
    refine C0.use (c_X5_fillApart hL hv hC7) ?_
    rintro - D9 ⟨ho9, ha9⟩
    have hC9 : CV 1 v D9 := hC7.same (fun j hj => ho9 _ (by omega))
    refine (c_X5_makeRoom hL hC9.1 hs).mono ?_
    rintro - G11 D11 ⟨rfl, ho11⟩
    obtain ⟨hL2, hW2, hr2, hwy2⟩ := newG_lay hL hs hI.1
    refine ⟨hL2, ?_⟩
    have hn1 := rdc_ne hL2
    have hn2 := wyc_ne hL2
    have hC11 : CV 1 v D11 := hC9.same (fun j hj => ho11 _ (by omega))
    have hk11 : D11 45 = D7 45 := by rw [ho11 45 (by omega), ho9 45 (by decide)]
    have ha11 : D11 46 = D9 46 := ho11 46 (by omega)
    have hw11 : D11 43 = D1 43 := by
      rw [ho11 43 (by omega), ho9 43 (by decide), ho7 43 (by decide)]
      funext i; exact upd2_cell _ _ _ _ (by decide)
    have h511 : D11 42 5 = 1 := by rw [ho11 42 (by omega), ho9 42 (by decide), ho7 42 (by decide)]; exact upd2_same _ _ _ _
    have hx11 : xS D D11 := fun c i a b => by
      rw [ho11 c (by omega), ho9 c (fun e => b (by simp only [scrX]; omega)), ho7 c (fun e => b (by simp only [scrX]; omega))]
      have : upd2 D1 42 5 1 c i = D1 c i := by
        simp only [upd2]; rw [if_neg (fun q => b (by simp only [scrX]; omega))]
      rw [this]; exact hx1 c i a b
    generalize newG G v = G' at *
    refine up_from (P := fun f => ∀ D', off2 (rdc G') (wyc G') D11 D' → (∀ (f' : Int) (S : Nat), 0 ≤ f' → f' < f → S < 2 ^ (v 0).toNat → D' (rdc G') (f' * ((2 ^ (v 0).toNat : Nat) : Int) + S) = rndS v f' S) → KX5_ready l E (mcR G v) (msR G v) (0 + mcR G v) (0 + msR G v) _ 33 [(0, vR E 42), (1, vI f)] G' D') (lo := 0) (n := v 2) (by omega) ?_ ?_ D11 off2.rf (fun f' S a b => by omega)
    · intro D' ho hrows
      have e2 : D' 1 2 = v 2 := by rw [ho 1 (by omega) (by omega)]; exact hC11.2.2.1
      have hCf : CV 1 v D' := hC11.same (fun j hj => ho _ (by omega) (by omega))
      have hRT : RT v G' D' := ⟨by rw [ho 45 (by omega) (by omega), hk11]; exact hk7, fun f S a b c => hrows f S a b c, hr2⟩
      have h5 : D' 42 5 = 1 := by rw [ho 42 (by omega) (by omega)]; exact h511
      refine s_X5_ready_33 hL2 (by omega) (by omega) ⟨by omega, fun _ => ⟨rfl, hL2, ⟨hCf, fun lot a b => ?_, hRT⟩, ⟨hW2, Or.inr ⟨h5, hRT⟩⟩, fun c i a b => ?_⟩, fun h => absurd h (by omega)⟩
      · rw [ho 43 (by omega) (by omega), hw11]; exact hw1 lot a b
      · rw [ho c (fun e => b (by simp only [scrX]; omega)) (fun e => b (by simp only [scrX]; omega))]; exact hx11 c i a b
    · intro f f0 f1 ih D' ho hrows
      have e2 : D' 1 2 = v 2 := by rw [ho 1 (by omega) (by omega)]; exact hC11.2.2.1
      have hCf : CV 1 v D' := hC11.same (fun j hj => ho _ (by omega) (by omega))
      refine s_X5_ready_33 hL2 (by omega) (by omega) ⟨by omega, fun h => absurd h (by omega), fun _ => ?_⟩
      refine C0.use (c_X5_fillRounds hL2 hv hCf (fun s t a b c d => by rw [ho 46 (by omega) (by omega), ha11]; exact ha9 s t a b c d) hr2 hwy2 ⟨f0, f1⟩) ?_
      rintro - D6 ⟨ho6, hrow6, hkeep6⟩
      refine ih D6 (ho.tr ho6) (fun f' S a b c => ?_)
      by_cases e : f' = f
      · subst e; exact hrow6 S c
      · rw [hkeep6 _ (Or.inl ?_)]
        · exact hrows f' S a (by omega) c
        · have : (f' + 1) * ((2 ^ (v 0).toNat : Nat) : Int) ≤ f * ((2 ^ (v 0).toNat : Nat) : Int) := Int.mul_le_mul_of_nonneg_right (by omega) (by omega)
          rw [Int.add_mul, Int.one_mul] at this
          omega
  · rcases hI.2 with h | ⟨h, hT⟩
    · exact absurd (e5.trans h) h1
    · have hT1 : RT v G D1 := hT.same (ho1 45 (by decide)) (ho1 _ (by have := rdc_ne hL; omega))
      rw [newG_same hT]
      exact ⟨rfl, hL, ⟨hC1, hw1, hT1⟩, ⟨hI.1, Or.inr ⟨e5.trans h, hT1⟩⟩, hx1⟩
end RD

-- trays: cut, tray, write, read
def cutS (x s : Int) : Int := if s = 0 then b8 x else if s = 1 then s16 x else if s = 2 then w32 x else x
theorem w32_b (x : Int) : -2147483648 ≤ w32 x ∧ w32 x < 2147483648 := by
  have h1 := Int32.le_toInt (Int32.ofInt x)
  have h2 := Int32.toInt_lt (Int32.ofInt x)
  unfold w32
  omega
theorem vI_w32 (x : Int) : vI x = vI (w32 x) := by unfold vI w32; rw [Int32.ofInt_toInt]
theorem cut_b {x s : Int} (h : -9223372036854775808 ≤ x ∧ x < 9223372036854775808) : -9223372036854775808 ≤ cutS x s ∧ cutS x s < 9223372036854775808 := by
  have h1 := rb8I x
  have h2 := rs16I x
  have h3 := w32_b x
  unfold cutS
  split
  · omega
  · split
    · omega
    · split <;> omega
section
variable {l : Launch} {E : Ev} {G : Sh} {D : Dm} {v : Vl} {a : Ans}
theorem c_X7_cut (hL : Lay G) {x s : Int} (hs : 0 ≤ s ∧ s ≤ 3) : C0 l E MX7_cut 1 [vJ x, vI s] G D (fun r D' => r = cutS x s ∧ D' = D) := by
  by_cases h2 : s = 2
  · subst h2
    refine Ct.of (by decide) (Nat.le_of_ble_eq_true rfl) ?_
    show KX7_cut l E _ 0 [(0, vJ x), (2, vI 2)] G D
    refine go_iload_n 1 dX7_cut_0 rfl rfl ?_
    refine go_tableIn 2 38 dX7_cut_1 (by decide) (by decide) rfl (by decide) ?_
    refine go_lload_n 0 dX7_cut_38 rfl rfl ?_
    refine go_l2i dX7_cut_39 ?_
    rw [vI_w32 x]
    refine go_i2l (w32_b x) dX7_cut_40 ?_
    exact go_lreturn (Nat.le_refl _) (Nat.le_refl _) rfl dX7_cut_41 ⟨rfl, rfl, rfl⟩
  · refine s_X7_cut hL ⟨by omega, fun z => ⟨rfl, by rw [cutS, if_pos z], rfl⟩, fun z => ⟨rfl, by rw [cutS, if_neg (by omega), if_pos z], rfl⟩, fun z => absurd z h2, fun z => ⟨rfl, by rw [cutS, if_neg (by omega), if_neg (by omega), if_neg h2], rfl⟩⟩
theorem c_X10_cut (hL : Lay G) {x s : Int} (hs : 0 ≤ s ∧ s ≤ 3) : C0 l E MX10_cut 1 [vJ x, vI s] G D (fun r D' => r = cutS x s ∧ D' = D) := by
  by_cases h2 : s = 2
  · subst h2
    refine Ct.of (by decide) (Nat.le_of_ble_eq_true rfl) ?_
    show KX10_cut l E _ 0 [(0, vJ x), (2, vI 2)] G D
    refine go_iload_n 1 dX10_cut_0 rfl rfl ?_
    refine go_if_ne 11 dX10_cut_1 (by decide) (by decide) (fun c2 => ?_) (fun c2 => absurd c2 (by decide))
    refine go_iload_n 1 dX10_cut_11 rfl rfl ?_
    refine go_iconst dX10_cut_12 ?_
    refine go_icmp_ne 23 dX10_cut_13 (by decide) (by decide) (by decide) (fun c4 => ?_) (fun c4 => absurd c4 (by decide))
    refine go_iload_n 1 dX10_cut_23 rfl rfl ?_
    refine go_iconst dX10_cut_24 ?_
    refine go_icmp_ne 34 dX10_cut_25 (by decide) (by decide) (by decide) (fun c6 => absurd rfl c6) (fun c6 => ?_)
    refine go_lload_n 0 dX10_cut_28 rfl rfl ?_
    refine go_l2i dX10_cut_29 ?_
    rw [vI_w32 x]
    refine go_i2l (w32_b x) dX10_cut_30 ?_
    refine go_goto 35 dX10_cut_31 (by decide) ?_
    exact go_lreturn (Nat.le_refl _) (Nat.le_refl _) rfl dX10_cut_35 ⟨rfl, rfl, rfl⟩
  · refine s_X10_cut hL ⟨by omega, fun z => ⟨fun z1 => ⟨fun _ => ⟨rfl, by rw [cutS, if_neg z, if_neg z1, if_neg h2], rfl⟩, fun z2 => absurd z2 h2⟩, fun z1 => ⟨rfl, by rw [cutS, if_neg z, if_pos z1], rfl⟩⟩, fun z => ⟨rfl, by rw [cutS, if_pos z], rfl⟩⟩
abbrev trOk (t s n : Int) : Prop := (0 ≤ t ∧ t < 4) ∧ (0 ≤ s ∧ s ≤ 3) ∧ (0 ≤ n ∧ n ≤ 60)
def q_tray (t s n : Int) : Ans := if trOk t s n then aNo 0 1 else aNo 1 0
def trC (D : Dm) (t s n : Int) : Dm := if trOk t s n then (fun c i => if c = 21 ∧ i = t then s else if c = 22 ∧ i = t then n else if c = 17 + t.toNat ∧ 0 ≤ i ∧ i < 60 then 0 else D c i) else D
def trM (D : Dm) (t s n : Int) : Dm := if trOk t s n then (fun c i => if c = 109 ∧ i = t then s else if c = 110 ∧ i = t then n else if c = 111 ∧ 60 * t ≤ i ∧ i < 60 * t + n then 0 else D c i) else D
theorem RI.cells {D' : Dm} (hL : Lay G) (h : RI v G D) (hs : ∀ c i, c = 42 ∨ c = 45 ∨ c = 47 ∨ 125 ≤ c → D' c i = D c i) : RI v G D' := by
  have hr := rdc_ne hL
  exact h.same (hs 42 5 (by omega)) (funext fun i => hs 45 i (by omega)) (funext fun i => hs _ i (by omega))
theorem c_X9_tray (hL : Lay G) (hI : RI v G D) {t s n : Int} (ht : iRg t) (hs : iRg s) (hn : iRg n) (ha : a = q_tray t s n) : Ct l E MX9_tray 0 0 0 [vR E 0, vI t, vI s, vI n] G D (cP v G (trC D t s n) a) := by
  have no : ¬ ((0 ≤ t ∧ t < 4) ∧ (0 ≤ s ∧ s ≤ 3) ∧ (0 ≤ n ∧ n ≤ 60)) → cP v G (trC D t s n) a 0 G (upd2 D 0 11 1) := by
    intro q
    rw [trC, if_neg q]
    exact cP.no hL hI (by rw [ha, q_tray, if_neg q]) yS.rf (Or.inl rfl)
  refine s_X9_tray hL ⟨ht, fun q => no (by omega), fun q => ⟨hs, fun q2 => no (by omega), fun q2 => ⟨hn, fun q3 => ?_, fun q3 => no (by omega)⟩⟩⟩
  have ok : trOk t s n := ⟨by omega, q2, q3⟩
  have lay : C0 l E MX7_lay 2 [vR E 15, vI t, vI s, vI n] G D (fun _ D' => D' = trC D t s n) := by
    refine s_X7_lay hL ⟨by omega, ?_⟩
    refine up_from (P := fun k => ∀ D', D' = (fun c i => if c = 21 ∧ i = t then s else if c = 22 ∧ i = t then n else if c = 17 + t.toNat ∧ 0 ≤ i ∧ i < k then 0 else D c i) → KX7_lay l E _ 17 [(0, vR E 15), (1, vI t), (2, vI s), (3, vI n), (4, vI k)] G D') (lo := 0) (n := 60) (by omega) ?_ ?_ _ ?_
    · rintro D' rfl
      refine s_X7_lay_17 hL ⟨by omega, fun _ => ⟨rfl, ?_⟩, fun z => absurd z (by omega)⟩
      rw [trC, if_pos ok]
    · rintro k k0 k1 ih D' rfl
      refine s_X7_lay_17 hL ⟨by omega, fun z => absurd z (by omega), fun _ => ⟨by omega, ih _ ?_⟩⟩
      funext c i
      simp only [upd2]
      by_cases h1 : c = 17 + t.toNat ∧ i = k
      · rw [if_pos h1, if_neg (by omega), if_neg (by omega), if_pos (by omega)]
      · rw [if_neg h1]
        by_cases h2 : c = 21 ∧ i = t
        · rw [if_pos h2, if_pos h2]
        · rw [if_neg h2, if_neg h2]
          by_cases h3 : c = 22 ∧ i = t
          · rw [if_pos h3, if_pos h3]
          · rw [if_neg h3, if_neg h3]
            by_cases h4 : c = 17 + t.toNat ∧ 0 ≤ i ∧ i < k
            · rw [if_pos h4, if_pos (by omega)]
            · rw [if_neg h4, if_neg (by omega)]
    · funext c i
      simp only [upd2]
      by_cases h2 : c = 21 ∧ i = t
      · rw [if_neg (by omega), if_pos h2, if_pos h2]
      · rw [if_neg h2, if_neg h2]
        by_cases h3 : c = 22 ∧ i = t
        · rw [if_pos h3, if_pos h3]
        · rw [if_neg h3, if_neg h3, if_neg (by omega)]
  refine C0.use lay ?_
  rintro - D' rfl
  refine cP.no hL (hI.cells hL (fun c i hc => ?_)) (by rw [ha, q_tray, if_pos ok]) yS.rf (Or.inl rfl)
  rw [trC, if_pos ok]
  rw [if_neg (by omega), if_neg (by omega), if_neg (by omega)]
theorem c_X10_tray (hL : Lay G) {t s n : Int} (ht : iRg t) (hs : iRg s) (hn : iRg n) (ha : a = q_tray t s n) : C0 l E MX10_tray 0 [vR E 107, vI t, vI s, vI n] G D (fun r D' => r = a.2.1 ∧ mQ (trM D t s n) D' a) := by
  have no : ¬ ((0 ≤ t ∧ t < 4) ∧ (0 ≤ s ∧ s ≤ 3) ∧ (0 ≤ n ∧ n ≤ 60)) → (G = G ∧ 0 = a.2.1 ∧ mQ (trM D t s n) (upd2 D 107 1 1) a) := by
    intro q
    rw [trM, if_neg q]
    exact ⟨rfl, mQ.no (by rw [ha, q_tray, if_neg q]) mS.rf⟩
  refine s_X10_tray hL ⟨ht, fun q => no (by omega), fun q => ⟨hs, fun q2 => no (by omega), fun q2 => ⟨fun q3 => no (by omega), fun q3 => ⟨hn, fun q4 => no (by omega), fun q4 => ⟨fun q5 => ⟨q, ?_⟩, fun q5 => no (by omega)⟩⟩⟩⟩⟩
  have ok : trOk t s n := ⟨by omega, by omega, by omega⟩
  refine up_from (P := fun k => ∀ D', D' = (fun c i => if c = 109 ∧ i = t then s else if c = 110 ∧ i = t then n else if c = 111 ∧ 60 * t ≤ i ∧ i < 60 * t + k then 0 else D c i) → KX10_tray l E _ 49 [(0, vR E 107), (1, vI t), (2, vI s), (3, vI n), (4, vI k)] G D') (lo := 0) (n := n) (by omega) ?_ ?_ _ ?_
  · rintro D' rfl
    refine s_X10_tray_49 hL ⟨by omega, fun _ => ⟨rfl, ?_⟩, fun z => absurd z (by omega)⟩
    rw [trM, if_pos ok]
    exact mQ.no (by rw [ha, q_tray, if_pos ok]) mS.rf
  · rintro k k0 k1 ih D' rfl
    refine s_X10_tray_49 hL ⟨by omega, fun z => absurd z (by omega), fun _ => ⟨by omega, ih _ ?_⟩⟩
    funext c i
    simp only [upd2]
    by_cases h1 : c = 111 ∧ i = 60 * t + k
    · rw [if_pos h1, if_neg (by omega), if_neg (by omega), if_pos (by omega)]
    · rw [if_neg h1]
      by_cases h2 : c = 109 ∧ i = t
      · rw [if_pos h2, if_pos h2]
      · rw [if_neg h2, if_neg h2]
        by_cases h3 : c = 110 ∧ i = t
        · rw [if_pos h3, if_pos h3]
        · rw [if_neg h3, if_neg h3]
          by_cases h4 : c = 111 ∧ 60 * t ≤ i ∧ i < 60 * t + k
          · rw [if_pos h4, if_pos (by omega)]
          · rw [if_neg h4, if_neg (by omega)]
  · funext c i
    simp only [upd2]
    by_cases h2 : c = 109 ∧ i = t
    · rw [if_neg (by omega), if_pos h2, if_pos h2]
    · rw [if_neg h2, if_neg h2]
      by_cases h3 : c = 110 ∧ i = t
      · rw [if_pos h3, if_pos h3]
      · rw [if_neg h3, if_neg h3, if_neg (by omega)]
def whyP (m : Int → Int) (t p : Int) : Int := if 0 ≤ t ∧ t < 4 then (if m t = -1 then 2 else if 0 ≤ p ∧ p < m t then 0 else 3) else 1
theorem whyP_0 {m : Int → Int} {t p : Int} (h : whyP m t p = 0) : (0 ≤ t ∧ t < 4) ∧ m t ≠ -1 ∧ 0 ≤ p ∧ p < m t := by
  unfold whyP at h
  by_cases h1 : 0 ≤ t ∧ t < 4
  · rw [if_pos h1] at h
    by_cases h2 : m t = -1
    · rw [if_pos h2] at h; omega
    · rw [if_neg h2] at h
      by_cases h3 : 0 ≤ p ∧ p < m t
      · exact ⟨h1, h2, h3⟩
      · rw [if_neg h3] at h; omega
  · rw [if_neg h1] at h; omega
theorem whyP_b (m : Int → Int) (t p : Int) : 0 ≤ whyP m t p ∧ whyP m t p ≤ 3 := by
  unfold whyP
  split
  · split
    · omega
    · split <;> omega
  · omega
theorem c_X9_whyNoPlace (hL : Lay G) {t p : Int} (ht : iRg t) (hp : iRg p) : C0 l E MX9_whyNoPlace 0 [vR E 0, vI t, vI p] G D (fun r D' => r = whyP (D 22) t p ∧ D' = D) :=
  s_X9_whyNoPlace hL ⟨ht, fun q => ⟨by omega, fun q2 => ⟨hp, fun q3 => ⟨rfl, by rw [whyP, if_pos (by omega), if_neg q2, if_neg (by omega)], rfl⟩, fun q3 => ⟨fun q4 => ⟨rfl, by rw [whyP, if_pos (by omega), if_neg q2, if_pos ⟨q3, q4⟩], rfl⟩, fun q4 => ⟨rfl, by rw [whyP, if_pos (by omega), if_neg q2, if_neg (by omega)], rfl⟩⟩⟩, fun q2 => ⟨rfl, by rw [whyP, if_pos (by omega), if_pos q2], rfl⟩⟩, fun q => ⟨rfl, by rw [whyP, if_neg (by omega)], rfl⟩⟩
theorem c_X10_wrongPlace (hL : Lay G) {t p : Int} (ht : iRg t) (hp : iRg p) : C0 l E MX10_wrongPlace 0 [vR E 107, vI t, vI p] G D (fun r D' => r = whyP (D 110) t p ∧ D' = D) :=
  s_X10_wrongPlace hL ⟨ht, fun q => ⟨by omega, fun q2 => ⟨hp, fun q3 => ⟨rfl, by rw [whyP, if_pos (by omega), if_neg q2, if_neg (by omega)], rfl⟩, fun q3 => ⟨fun q4 => ⟨rfl, by rw [whyP, if_pos (by omega), if_neg q2, if_pos ⟨q3, q4⟩], rfl⟩, fun q4 => ⟨rfl, by rw [whyP, if_pos (by omega), if_neg q2, if_neg (by omega)], rfl⟩⟩⟩, fun q2 => ⟨rfl, by rw [whyP, if_pos (by omega), if_pos q2], rfl⟩⟩, fun q => ⟨rfl, by rw [whyP, if_neg (by omega)], rfl⟩⟩
def q_write (m : Int → Int) (t p : Int) : Ans := if whyP m t p = 0 then aNo 0 1 else aNo (whyP m t p) 0
def q_read (m : Int → Int) (t p x : Int) : Ans := if whyP m t p = 0 then aNo 0 x else aNo (whyP m t p) (-1)
def wrC (D : Dm) (t p x : Int) : Dm := if whyP (D 22) t p = 0 then upd2 D (17 + t.toNat) p (cutS x (D 21 t)) else D
def wrM (D : Dm) (t p x : Int) : Dm := if whyP (D 110) t p = 0 then upd2 D 111 ((60 * t) + p) (cutS x (D 109 t)) else D
theorem c_X9_write (hL : Lay G) (hI : RI v G D) (hz : ∀ t, 0 ≤ t → t < 4 → D 22 t ≤ 60 ∧ 0 ≤ D 21 t ∧ D 21 t ≤ 3) {t p x : Int} (ht : iRg t) (hp : iRg p) (hx : -9223372036854775808 ≤ x ∧ x < 9223372036854775808) (ha : a = q_write (D 22) t p) : Ct l E MX9_write 0 0 0 [vR E 0, vI t, vI p, vJ x] G D (cP v G (wrC D t p x) a) := by
  refine s_X9_write hL ?_
  refine C0.use (c_X9_whyNoPlace hL ht hp) ?_
  rintro r D1 ⟨rfl, rfl⟩
  try dsimp only
  have hb := whyP_b (D1 22) t p
  refine ⟨by omega, fun q => ?_, fun q => ?_⟩
  · obtain ⟨q1, q2, q3⟩ := whyP_0 q
    have hz2 := hz t q1.1 q1.2
    have hc := cut_b (s := D1 21 t) hx
    have put : C0 l E MX7_put 2 [vR E 15, vI t, vI p, vJ x] G D1 (fun _ D' => D' = upd2 D1 (17 + t.toNat) p (cutS x (D1 21 t))) := by
      refine s_X7_put hL ⟨q1, ?_⟩
      refine C0.use (c_X7_cut hL (by omega)) ?_
      rintro r D2 ⟨rfl, rfl⟩
      exact ⟨⟨by omega, hc⟩, rfl, rfl⟩
    refine C0.use put ?_
    rintro - D2 rfl
    rw [wrC, if_pos q]
    refine cP.no hL (hI.cells hL (fun c i hc => upd2_cell _ _ _ _ (by omega))) (by rw [ha, q_write, if_pos q]) yS.rf (Or.inl rfl)
  · rw [wrC, if_neg q]
    exact cP.no hL hI (by rw [ha, q_write, if_neg q]) yS.rf (Or.inl rfl)
theorem c_X10_write (hL : Lay G) (hz : ∀ t, 0 ≤ t → t < 4 → D 110 t ≤ 60 ∧ 0 ≤ D 109 t ∧ D 109 t ≤ 3) {t p x : Int} (ht : iRg t) (hp : iRg p) (hx : -9223372036854775808 ≤ x ∧ x < 9223372036854775808) (ha : a = q_write (D 110) t p) : C0 l E MX10_write 0 [vR E 107, vI t, vI p, vJ x] G D (fun r D' => r = a.2.1 ∧ mQ (wrM D t p x) D' a) := by
  refine s_X10_write hL ?_
  refine C0.use (c_X10_wrongPlace hL ht hp) ?_
  rintro r D1 ⟨rfl, rfl⟩
  try dsimp only
  have hb := whyP_b (D1 110) t p
  refine ⟨by omega, fun q => ?_, fun q => ?_⟩
  · rw [wrM, if_neg q, if_neg q]
    exact ⟨rfl, mQ.no (by rw [ha, q_write, if_neg q]) mS.rf⟩
  · obtain ⟨q1, q2, q3⟩ := whyP_0 q
    have hz2 := hz t q1.1 q1.2
    have hc := cut_b (s := D1 109 t) hx
    refine ⟨q1, ?_⟩
    refine C0.use (c_X10_cut hL (by omega)) ?_
    rintro r D2 ⟨rfl, rfl⟩
    try dsimp only
    rw [wrM, if_pos q, if_pos q, q]
    exact ⟨⟨by omega, hc⟩, rfl, mQ.no (by rw [ha, q_write, if_pos q]) mS.rf⟩
theorem c_X9_read (hL : Lay G) (hI : RI v G D) (hz : ∀ t, 0 ≤ t → t < 4 → D 22 t ≤ 60) {t p : Int} (ht : iRg t) (hp : iRg p) (ha : a = q_read (D 22) t p (D (17 + t.toNat) p)) : Ct l E MX9_read 1 0 0 [vR E 0, vI t, vI p] G D (cP v G D a) := by
  refine s_X9_read hL ?_
  refine C0.use (c_X9_whyNoPlace hL ht hp) ?_
  rintro r D1 ⟨rfl, rfl⟩
  try dsimp only
  have hb := whyP_b (D1 22) t p
  refine ⟨by omega, fun q => ?_, fun q => ?_⟩
  · obtain ⟨q1, q2, q3⟩ := whyP_0 q
    have hz2 := hz t q1.1 q1.2
    refine ⟨⟨q1, by omega⟩, ?_⟩
    rw [upd2_cell _ _ _ _ (by omega)]
    exact cP.no hL hI (by rw [ha, q_read, if_pos q]) yS.rf (Or.inl rfl)
  · exact cP.no hL hI (by rw [ha, q_read, if_neg q]) yS.rf (Or.inl rfl)
theorem c_X10_read (hL : Lay G) (hz : ∀ t, 0 ≤ t → t < 4 → D 110 t ≤ 60) {t p : Int} (ht : iRg t) (hp : iRg p) (ha : a = q_read (D 110) t p (D 111 ((60 * t) + p))) : C0 l E MX10_read 1 [vR E 107, vI t, vI p] G D (fun r D' => r = a.2.1 ∧ mQ D D' a) := by
  refine s_X10_read hL ?_
  refine C0.use (c_X10_wrongPlace hL ht hp) ?_
  rintro r D1 ⟨rfl, rfl⟩
  try dsimp only
  have hb := whyP_b (D1 110) t p
  refine ⟨by omega, fun q => ?_, fun q => ?_⟩
  · have q0 : whyP (D1 110) t p = 0 := by omega
    obtain ⟨q1, q2, q3⟩ := whyP_0 q0
    have hz2 := hz t q1.1 q1.2
    rw [q0]
    exact ⟨by omega, rfl, mQ.no (by rw [ha, q_read, if_pos q0]) mS.rf⟩
  · exact ⟨rfl, mQ.no (by rw [ha, q_read, if_neg (by omega)]) mS.rf⟩
end

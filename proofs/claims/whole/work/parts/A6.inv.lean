/-! ===== what holds between the calls: X what the class holds, Y what the reference holds ===== -/
def cFr (X X1 : Dm) : Prop := ∀ c i, c < 107 → ¬ scrY c i → ¬ (c = 0 ∧ (i = 11 ∨ i = 12 ∨ i = 13)) → X1 c i = X c i
def mFr (Y Y1 : Dm) : Prop := ∀ c i, 107 ≤ c → c < 125 → ¬ scrM c i → ¬ (c = 107 ∧ (i = 1 ∨ i = 2 ∨ i = 3)) → Y1 c i = Y c i
def eqC (X X1 : Dm) : Prop := ∀ c i, ¬ (107 ≤ c ∧ c < 125) → X1 c i = X c i
def eqM (Y Y1 : Dm) : Prop := ∀ c i, 107 ≤ c → c < 125 → Y1 c i = Y c i
theorem eqC.rf {X : Dm} : eqC X X := fun _ _ _ => rfl
theorem eqM.rf {X : Dm} : eqM X X := fun _ _ _ _ => rfl
theorem eqC.fr {X X1 : Dm} (h : eqC X X1) : cFr X X1 := fun c i a _ _ => h c i (by omega)
theorem eqM.fr {X X1 : Dm} (h : eqM X X1) : mFr X X1 := fun c i a b _ _ => h c i a b
theorem eqM.c {X X1 : Dm} (h : eqM X X1) {c : Nat} (h1 : 107 ≤ c) (h2 : c < 125) : X1 c = X c := funext fun i => h c i h1 h2
def Flt (X Y : Dm) : Prop := X 0 14 = Y 107 15 ∧ X 0 15 = Y 107 16 ∧ X 0 16 = Y 107 24
def Trs (X Y : Dm) : Prop := ∀ t, 0 ≤ t → t < 4 → (X 21 t = Y 109 t ∧ X 22 t = Y 110 t) ∧ ((0 ≤ Y 109 t ∧ Y 109 t ≤ 3) ∧ -1 ≤ Y 110 t ∧ Y 110 t ≤ 60) ∧ ∀ p, 0 ≤ p → p < Y 110 t → X (17 + t.toNat) p = Y 111 ((60 * t) + p)
def Tap (X Y : Dm) : Prop := X 23 1 = Y 107 9 ∧ (0 ≤ Y 107 9 ∧ Y 107 9 ≤ 600) ∧ ∀ i, 0 ≤ i → i < Y 107 9 → X 24 i = Y 112 i ∧ -128 ≤ Y 112 i ∧ Y 112 i < 128
def Mks (X Y : Dm) : Prop := X 0 2 = Y 107 37 ∧ (0 ≤ Y 107 37 ∧ Y 107 37 ≤ 3) ∧ ∀ j : Int, 0 ≤ j → j < Y 107 37 → wfV (shV (Y 108) (100 * (j + 1))) ∧ CV (68 + 13 * j.toNat) (shV (Y 108) (100 * (j + 1))) X ∧ CVo (68 + 13 * j.toNat) (shV (Y 108) (100 * (j + 1))) X
def Gvn (X Y : Dm) : Prop := X 60 7 = Y 107 33 ∧ (-1 ≤ Y 107 33 ∧ Y 107 33 ≤ 8) ∧ ∀ s, 0 ≤ s → s < Y 107 33 → X 65 s = Y 120 s
def Lnd (X Y : Dm) : Prop := wfV (Y 108) ∧ CV 1 (Y 108) X ∧ CVo 1 (Y 108) X
def Sts (X Y : Dm) : Prop := X 0 11 = Y 107 1 ∧ X 0 12 = Y 107 2 ∧ X 0 13 = Y 107 3
def Rest (X Y : Dm) : Prop := Y 107 20 = 0 ∧ Lnd X Y ∧ Flt X Y ∧ Trs X Y ∧ Tap X Y ∧ Mks X Y ∧ Gvn X Y
def Iv (G : Sh) (X Y : Dm) : Prop := Lay G ∧ RI (Y 108) G X ∧ Sts X Y ∧ Rest X Y
theorem CV_same {c : Nat} {v : Vl} {X X1 : Dm} (h : CV c v X) (ho : CVo c v X) (hc : c + 12 < 107 ∧ (c = 1 ∨ c = 68 ∨ c = 81 ∨ c = 94)) (hf : cFr X X1) : CV c v X1 ∧ CVo c v X1 := by
  have he : ∀ j, j ≤ 12 → X1 (c + j) = X (c + j) := fun j hj => funext fun i => hf _ _ (by omega) (by simp only [scrY, scrX, scrC]; omega) (by omega)
  exact ⟨h.same he, ho.same he⟩
theorem Rest.fr {X Y X1 Y1 : Dm} (h : Rest X Y) (hc : cFr X X1) (hm : mFr Y Y1) : Rest X1 Y1 := by
  obtain ⟨h20, ⟨w1, w2, w3⟩, ⟨f1, f2, f3⟩, ht, ⟨t1, t2, t3⟩, ⟨m1, m2, m3⟩, ⟨g1, g2, g3⟩⟩ := h
  have y7 : ∀ i, (i = 9 ∨ i = 15 ∨ i = 16 ∨ i = 20 ∨ i = 24 ∨ i = 33 ∨ i = 37) → Y1 107 i = Y 107 i := fun i hi => hm _ _ (by decide) (by decide) (by simp only [scrM]; omega) (by omega)
  have y108 : Y1 108 = Y 108 := funext fun i => hm _ _ (by decide) (by decide) (by simp only [scrM]; omega) (by omega)
  have yc : ∀ c, (c = 109 ∨ c = 110 ∨ c = 111 ∨ c = 112 ∨ c = 120) → ∀ i, Y1 c i = Y c i := fun c hc i => hm _ _ (by omega) (by omega) (by simp only [scrM]; omega) (by omega)
  have x0 : ∀ i, (i = 2 ∨ i = 14 ∨ i = 15 ∨ i = 16) → X1 0 i = X 0 i := fun i hi => hc _ _ (by decide) (by simp only [scrY, scrX, scrC]; omega) (by omega)
  have xc : ∀ c, ((17 ≤ c ∧ c ≤ 24) ∨ c = 60 ∨ c = 65) → ∀ i, X1 c i = X c i := fun c h i => hc _ _ (by omega) (by simp only [scrY, scrX, scrC]; omega) (by omega)
  refine ⟨by rw [y7 20 (by omega)]; exact h20, ?_, ⟨by rw [x0 14 (by omega), y7 15 (by omega)]; exact f1, by rw [x0 15 (by omega), y7 16 (by omega)]; exact f2, by rw [x0 16 (by omega), y7 24 (by omega)]; exact f3⟩, fun t p q => ?_, ⟨by rw [xc 23 (by omega), y7 9 (by omega)]; exact t1, by rw [y7 9 (by omega)]; exact t2, fun i p q => ?_⟩, ⟨by rw [x0 2 (by omega), y7 37 (by omega)]; exact m1, by rw [y7 37 (by omega)]; exact m2, fun j p q => ?_⟩, ⟨by rw [xc 60 (by omega), y7 33 (by omega)]; exact g1, by rw [y7 33 (by omega)]; exact g2, fun s p q => ?_⟩⟩
  · unfold Lnd
    rw [y108]
    have := CV_same w2 w3 (by decide) hc
    exact ⟨w1, this.1, this.2⟩
  · obtain ⟨a1, a2, a3⟩ := ht t p q
    rw [xc 21 (by omega), xc 22 (by omega), yc 109 (by omega), yc 110 (by omega)]
    exact ⟨a1, a2, fun z z0 z1 => by rw [xc _ (by omega), yc 111 (by omega)]; exact a3 z z0 z1⟩
  · rw [y7 9 (by omega)] at q
    rw [xc 24 (by omega), yc 112 (by omega)]
    exact t3 i p q
  · rw [y7 37 (by omega)] at q
    rw [y108]
    obtain ⟨a1, a2, a3⟩ := m3 j p q
    have := CV_same a2 a3 (by omega) hc
    exact ⟨a1, this.1, this.2⟩
  · rw [y7 33 (by omega)] at q
    rw [xc 65 (by omega), yc 120 (by omega)]
    exact g3 s p q
theorem cQ.fr {X X1 : Dm} {a : Ans} (h : cQ X X1 a) : cFr X X1 := fun c i _ p q => h.2.2 c i p q
theorem mQ.fr {X X1 : Dm} {a : Ans} (h : mQ X X1 a) : mFr X X1 := fun c i _ _ p q => h.2.2 c i p q
theorem cQ.eqM {X X1 : Dm} {a : Ans} (h : cQ X X1 a) : eqM X X1 := fun c i p q => h.2.2 c i (by simp only [scrY, scrX, scrC]; omega) (by omega)
theorem mQ.eqC {X X1 : Dm} {a : Ans} (h : mQ X X1 a) : eqC X X1 := fun c i p => h.2.2 c i (by simp only [scrM]; omega) (by omega)
theorem RI.eq {v : Vl} {G : Sh} {X X1 : Dm} (hL : Lay G) (h : RI v G X) (he : eqC X X1) : RI v G X1 := h.cells hL (fun c i hc => he c i (by omega))
theorem Sts.eq {X Y X1 Y1 : Dm} (h : Sts X Y) (hx : eqC X X1) (hy : eqM Y Y1) : Sts X1 Y1 := by
  unfold Sts
  rw [hx 0 11 (by omega), hx 0 12 (by omega), hx 0 13 (by omega), hy 107 1 (by omega) (by omega), hy 107 2 (by omega) (by omega), hy 107 3 (by omega) (by omega)]
  exact h
theorem Iv.eq {G : Sh} {X Y X1 Y1 : Dm} (h : Iv G X Y) (hx : eqC X X1) (hy : eqM Y Y1) : Iv G X1 Y1 :=
  ⟨h.1, by rw [hy.c (by decide) (by decide)]; exact h.2.1.eq h.1 hx, h.2.2.1.eq hx hy, h.2.2.2.fr hx.fr hy.fr⟩
theorem Iv.two {G G' : Sh} {X Y X1 Y1 : Dm} {a : Ans} {r : Int} (hs : Sts X Y) (hr : Rest X Y) (h1 : cP (Y 108) G X a r G' X1) (h2 : mQ Y Y1 a) : Iv G' X1 Y1 := by
  obtain ⟨⟨-, hq⟩, hL, hI, -⟩ := h1
  have y108 : Y1 108 = Y 108 := funext fun i => h2.2.2 _ _ (by simp only [scrM]; omega) (by omega)
  refine ⟨hL, by rw [y108]; exact hI, ⟨by rw [hq.1, h2.1], ?_⟩, hr.fr hq.fr h2.fr⟩
  have e1 := hq.2.1
  have e2 := h2.2.1
  cases ha : a.2.2 with
  | none =>
    rw [ha] at e1 e2
    rw [e1.1, e1.2, e2.1, e2.2]
    exact hs.2
  | some x =>
    rw [ha] at e1 e2
    rw [e1.1, e1.2, e2.1, e2.2]
    exact ⟨rfl, rfl⟩
theorem Iv.stp {G G' : Sh} {X Y D1 DX D2 : Dm} {a : Ans} {r : Int} (hs : Sts X Y) (hr : Rest X Y) (h1 : cP (Y 108) G X a r G' D1) (hy : eqM Y DX) (hx : eqC D1 DX) (h2 : mQ DX D2 a) : Iv G' D2 D2 := by
  rw [← hy.c (c := 108) (by decide) (by decide)] at h1
  have h := Iv.two (hs.eq eqC.rf hy) (hr.fr eqC.rf.fr hy.fr) h1 h2
  refine h.eq (fun c i p => ?_) eqM.rf
  rw [h2.eqC c i p, hx c i p]
/-! ===== the room that is left ===== -/
def Rm (k n : Nat) (G : Sh) : Prop := (rdl G = 0 ∨ ∃ e, e ≤ 10 ∧ rdl G = 4 * 2 ^ e) ∧ k ≤ 125 + rdl G ∧ n ≤ 66357 + 7 * rdl G
theorem Rm.le {k n : Nat} {G : Sh} (h : Rm k n G) : k + 2 ≤ 600000 ∧ n + 14336 ≤ 7302250 := by
  obtain ⟨h1, h2, h3⟩ := h
  have : rdl G ≤ 4096 := by
    rcases h1 with h | ⟨e, he, h⟩
    · omega
    · have := Nat.pow_le_pow_right (n := 2) (by decide) he
      omega
  omega
theorem mcR_le (G : Sh) (v : Vl) : mcR G v ≤ 2 := by unfold mcR; split <;> omega
theorem msR_le (G : Sh) {v : Vl} (hv : wfV v) : msR G v ≤ 14336 := by
  have hS := wfS hv
  have := Nat.pow_le_pow_right (n := 2) (by decide) (show (v 0).toNat ≤ 10 by omega)
  unfold msR
  split <;> omega
theorem Rm.new {k n : Nat} {G : Sh} {v : Vl} (h : Rm k n G) (hL : Lay G) (hv : wfV v) : Rm (k + mcR G v) (n + msR G v) (newG G v) := by
  have hS := wfS hv
  obtain ⟨h1, h2, h3⟩ := h
  unfold mcR msR newG
  by_cases q : rdl G < 4 * 2 ^ (v 0).toNat
  · rw [if_pos q, if_pos q, if_pos q]
    have hp := Nat.pow_le_pow_right (n := 2) (by decide) (show (v 0).toNat ≤ 10 by omega)
    obtain ⟨-, -, -, e1, -⟩ := G2r_lay (P := 2 ^ (v 0).toNat) hL (by omega)
    have key : 2 * rdl G ≤ 4 * 2 ^ (v 0).toNat ∧ rdl G + 4 ≤ 4 * 2 ^ (v 0).toNat := by
      have h2p : 0 < 2 ^ (v 0).toNat := Nat.pow_pos (by decide)
      rcases h1 with h | ⟨e, he, h⟩
      · omega
      · have hlt : e < (v 0).toNat := by
          rcases Nat.lt_or_ge e (v 0).toNat with z | z
          · exact z
          · have := Nat.pow_le_pow_right (n := 2) (by decide) z
            omega
        have := Nat.pow_le_pow_right (n := 2) (by decide) (show e + 1 ≤ (v 0).toNat from hlt)
        rw [Nat.pow_succ] at this
        have h2e : 0 < 2 ^ e := Nat.pow_pos (by decide)
        omega
    refine ⟨Or.inr ⟨(v 0).toNat, by omega, e1⟩, ?_, ?_⟩
    · rw [e1]; omega
    · rw [e1]; omega
  · rw [if_neg q, if_neg q, if_neg q]
    exact ⟨h1, h2, h3⟩
def J (k n : Nat) (G : Sh) (D : Dm) : Prop := Iv G D D ∧ Rm k n G
/-- a call of the class, and the same call of the reference -/
def Pr (l : Launch) (E : Ev) (κ : Nat) (M1 M2 : Mt) (as : List Value) (k n : Nat) (G : Sh) (D : Dm) : Prop := ∃ mc ms, (k + mc ≤ 600000 ∧ n + ms ≤ 7302250) ∧ Ct l E M1 κ mc ms (vR E 0 :: as) G D (fun r G' D1 => ∃ k' n', ((G'.1.length = G.1.length ∧ k' = k ∧ n' = n) ∨ (k' = k + mc ∧ n' = n + ms)) ∧ (k' ≤ 600000 ∧ n' ≤ 7302250) ∧ Lay G' ∧ Ct l E M2 κ 0 0 (vR E 107 :: as) G' D1 (fun r' G'' D2 => r' = r ∧ J k' n' G'' D2))
theorem nG_0 {G : Sh} {v w : Vl} (h : w 0 = v 0) : newG G w = newG G v := by unfold newG; rw [h]
theorem Pr.mk {l : Launch} {E : Ev} {κ : Nat} {M1 M2 : Mt} {as : List Value} {k n mc ms : Nat} {G : Sh} {D : Dm} {a : Ans} (hJ : J k n G D) (hmc : (mc = 0 ∧ ms = 0) ∨ (mc = mcR G (D 108) ∧ ms = msR G (D 108)))
    (h1 : Ct l E M1 κ mc ms (vR E 0 :: as) G D (fun r G' D1 => ∃ X Y, Sts X Y ∧ Rest X Y ∧ cP (Y 108) G X a r G' D1 ∧ Y 108 0 = D 108 0 ∧ C0 l E M2 κ (vR E 107 :: as) G' D1 (fun r' D2 => ∃ DX, eqM Y DX ∧ eqC D1 DX ∧ r' = a.2.1 ∧ mQ DX D2 a))) : Pr l E κ M1 M2 as k n G D := by
  have hv : wfV (D 108) := hJ.1.2.2.2.2.1.1
  have hle := hJ.2.le
  have hb1 := mcR_le G (D 108)
  have hb2 := msR_le G hv
  refine ⟨mc, ms, by rcases hmc with ⟨rfl, rfl⟩ | ⟨rfl, rfl⟩ <;> omega, h1.len.mono ?_⟩
  rintro r G' D1 ⟨⟨X, Y, hs, hr, hc, h0, h2⟩, hlen⟩
  obtain ⟨⟨hr1, hq⟩, hL', hI', hG⟩ := hc
  rw [nG_0 h0] at hG
  -- what is taken of the room
  have key : ∃ k' n', ((G'.1.length = G.1.length ∧ k' = k ∧ n' = n) ∨ (k' = k + mc ∧ n' = n + ms)) ∧ (k' ≤ 600000 ∧ n' ≤ 7302250) ∧ Rm k' n' G' := by
    by_cases q : rdl G < 4 * 2 ^ (D 108 0).toNat
    · rcases hG with rfl | rfl
      · exact ⟨k, n, Or.inl ⟨rfl, rfl, rfl⟩, by omega, hJ.2⟩
      · have e2 : (newG G (D 108)).1.length = G.1.length + 2 := by unfold newG; rw [if_pos q]; simp [G2r]
        have hm2 : mc = mcR G (D 108) ∧ ms = msR G (D 108) := by
          rcases hmc with ⟨rfl, rfl⟩ | h
          · omega
          · exact h
        exact ⟨k + mc, n + ms, Or.inr ⟨rfl, rfl⟩, by omega, by rw [hm2.1, hm2.2]; exact hJ.2.new hJ.1.1 hv⟩
    · have e2 : newG G (D 108) = G := by unfold newG; rw [if_neg q]
      have e3 : G' = G := by rcases hG with h | h; exact h; rw [h, e2]
      subst e3
      exact ⟨k, n, Or.inl ⟨rfl, rfl, rfl⟩, by omega, hJ.2⟩
  obtain ⟨k', n', a1, a2, a3⟩ := key
  refine ⟨k', n', a1, a2, hL', h2.mono ?_⟩
  rintro r' G'' D2 ⟨rfl, DX, b1, b2, b3, b4⟩
  exact ⟨by rw [b3, hr1], Iv.stp hs hr ⟨⟨hr1, hq⟩, hL', hI', by rw [nG_0 h0]; exact hG⟩ b1 b2 b4, a3⟩
/-- a plain question -/
theorem Pr.q {l : Launch} {E : Ev} {κ : Nat} {M1 M2 : Mt} {as : List Value} {k n mc ms : Nat} {G : Sh} {D : Dm} {a : Ans} (hJ : J k n G D) (hmc : (mc = 0 ∧ ms = 0) ∨ (mc = mcR G (D 108) ∧ ms = msR G (D 108))) (h1 : Ct l E M1 κ mc ms (vR E 0 :: as) G D (cP (D 108) G D a))
    (h2 : ∀ G' D1, Lay G' → eqM D D1 → wfV (D1 108) → D1 107 20 = 0 → D1 108 = D 108 → C0 l E M2 κ (vR E 107 :: as) G' D1 (fun r' D2 => r' = a.2.1 ∧ mQ D1 D2 a)) : Pr l E κ M1 M2 as k n G D := by
  refine Pr.mk (a := a) hJ hmc (h1.mono ?_)
  intro r G' D1 hc
  have he := hc.1.2.eqM
  have e8 : D1 108 = D 108 := he.c (by decide) (by decide)
  refine ⟨D, D, hJ.1.2.2.1, hJ.1.2.2.2, hc, rfl, C0.use (h2 G' D1 hc.2.1 he (by rw [e8]; exact hJ.1.2.2.2.2.1.1) (by rw [he 107 20 (by decide) (by decide)]; exact hJ.1.2.2.2.1) e8) ?_⟩
  rintro r' D2 ⟨g1, g2⟩
  exact ⟨D1, he, eqC.rf, g1, g2⟩

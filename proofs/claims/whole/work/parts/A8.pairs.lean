/-! ===== villages that agree in their hundred places ===== -/
def eqV (v w : Vl) : Prop := ∀ i, 0 ≤ i → i < 100 → w i = v i
theorem eqV.wf {v w : Vl} (h : eqV v w) (hv : wfV v) : wfV w := by
  have h0 := h 0 (by decide) (by decide)
  have h1 := h 1 (by decide) (by decide)
  have h2 := h 2 (by decide) (by decide)
  have h3 := h 3 (by decide) (by decide)
  have h4 := h 4 (by decide) (by decide)
  have hS := wfS hv
  have hH := wfH hv
  have hF := wfF hv
  refine ⟨by rw [h0]; exact hS, by rw [h1]; exact hH, by rw [h2]; exact hF, by rw [h3]; exact wfP hv, by rw [h4]; exact wfU hv, fun s p q => ?_, fun s p q => ?_, fun s p q => ?_⟩
  · rw [h0] at q
    rw [h ((8 + (5 * s)) + 0) (by omega) (by omega), h ((8 + (5 * s)) + 1) (by omega) (by omega), h ((8 + (5 * s)) + 2) (by omega) (by omega), h ((8 + (5 * s)) + 3) (by omega) (by omega), h ((8 + (5 * s)) + 4) (by omega) (by omega), h2]
    exact wfs hv p q
  · rw [h1] at q
    rw [h ((58 + (5 * s)) + 0) (by omega) (by omega), h ((58 + (5 * s)) + 1) (by omega) (by omega), h ((58 + (5 * s)) + 2) (by omega) (by omega), h ((58 + (5 * s)) + 3) (by omega) (by omega), h ((58 + (5 * s)) + 4) (by omega) (by omega)]
    exact wfh hv p q
  · rw [h2] at q
    rw [h ((88 + (3 * s)) + 0) (by omega) (by omega), h ((88 + (3 * s)) + 1) (by omega) (by omega), h ((88 + (3 * s)) + 2) (by omega) (by omega)]
    exact wff hv p q
theorem eqV.fall {v w : Vl} (h : eqV v w) (hv : wfV v) {i : Int} (hi : 0 ≤ i ∧ i < v 1) : fallN w i = fallN v i := by
  have hS := wfS hv
  have hH := wfH hv
  unfold fallN
  rw [h 0 (by decide) (by decide)]
  apply Nat.eq_of_testBit_eq
  intro s
  rw [setN_bit, setN_bit]
  by_cases q : s < (v 0).toNat
  · have e : fallsP w i s ↔ fallsP v i s := by
      unfold fallsP
      rw [h ((58 + (5 * i)) + 0) (by omega) (by omega), h ((58 + (5 * i)) + 1) (by omega) (by omega), h ((58 + (5 * i)) + 2) (by omega) (by omega), h ((8 + (5 * (s : Int))) + 0) (by omega) (by omega), h ((8 + (5 * (s : Int))) + 1) (by omega) (by omega), h ((8 + (5 * (s : Int))) + 3) (by omega) (by omega)]
    rw [decide_eq_decide.2 e]
  · simp [q]
theorem eqV.cv {v w : Vl} (h : eqV v w) (hv : wfV v) {c : Nat} {X : Dm} (hC : CV c v X) (hO : CVo c v X) : CV c w X ∧ CVo c w X := by
  have h0 := h 0 (by decide) (by decide)
  have h1 := h 1 (by decide) (by decide)
  have h2 := h 2 (by decide) (by decide)
  have h3 := h 3 (by decide) (by decide)
  have h4 := h 4 (by decide) (by decide)
  have hS := wfS hv
  have hH := wfH hv
  have hF := wfF hv
  obtain ⟨a0, a1, a2, a3, a4, a5, a6, a7⟩ := hC
  refine ⟨⟨by rw [h0]; exact a0, by rw [h1]; exact a1, by rw [h2]; exact a2, by rw [h3]; exact a3, by rw [h4]; exact a4, fun s p q => ?_, fun s p q => ?_, fun s p q => ?_⟩, fun s p q => ?_⟩
  · rw [h0] at q
    rw [h ((8 + (5 * s)) + 0) (by omega) (by omega), h ((8 + (5 * s)) + 1) (by omega) (by omega), h ((8 + (5 * s)) + 2) (by omega) (by omega), h ((8 + (5 * s)) + 3) (by omega) (by omega), h ((8 + (5 * s)) + 4) (by omega) (by omega)]
    exact a5 s p q
  · rw [h1] at q
    rw [h ((58 + (5 * s)) + 0) (by omega) (by omega), h ((58 + (5 * s)) + 3) (by omega) (by omega), h.fall hv ⟨p, q⟩]
    exact a6 s p q
  · rw [h2] at q
    rw [h ((88 + (3 * s)) + 0) (by omega) (by omega), h ((88 + (3 * s)) + 1) (by omega) (by omega), h ((88 + (3 * s)) + 2) (by omega) (by omega)]
    exact a7 s p q
  · rw [h1] at q
    rw [h ((58 + (5 * s)) + 4) (by omega) (by omega)]
    exact hO s p q
/-! ===== the parts of the invariant, one by one ===== -/
section
variable {X Y X1 Y1 : Dm}
theorem Flt.of (h : Flt X Y) (hx : X1 0 = X 0 ∨ (X1 0 14 = X 0 14 ∧ X1 0 15 = X 0 15 ∧ X1 0 16 = X 0 16)) (hy : Y1 107 15 = Y 107 15 ∧ Y1 107 16 = Y 107 16 ∧ Y1 107 24 = Y 107 24) : Flt X1 Y1 := by
  have hx2 : X1 0 14 = X 0 14 ∧ X1 0 15 = X 0 15 ∧ X1 0 16 = X 0 16 := by
    rcases hx with h | h
    · rw [h]; exact ⟨rfl, rfl, rfl⟩
    · exact h
  unfold Flt
  rw [hx2.1, hx2.2.1, hx2.2.2, hy.1, hy.2.1, hy.2.2]
  exact h
theorem Trs.of (h : Trs X Y) (hx : ∀ c, 17 ≤ c → c ≤ 22 → X1 c = X c) (hy : ∀ c, 109 ≤ c → c ≤ 111 → Y1 c = Y c) : Trs X1 Y1 := fun t p q => by
  rw [hx 21 (by decide) (by decide), hx 22 (by decide) (by decide), hy 109 (by decide) (by decide), hy 110 (by decide) (by decide), hy 111 (by decide) (by decide), hx (17 + t.toNat) (by omega) (by omega)]
  exact h t p q
theorem Tap.of (h : Tap X Y) (hx : X1 23 1 = X 23 1 ∧ X1 24 = X 24) (hy : Y1 107 9 = Y 107 9 ∧ Y1 112 = Y 112) : Tap X1 Y1 := by
  unfold Tap
  rw [hx.1, hx.2, hy.1, hy.2]
  exact h
theorem Gvn.of (h : Gvn X Y) (hx : X1 60 7 = X 60 7 ∧ X1 65 = X 65) (hy : Y1 107 33 = Y 107 33 ∧ Y1 120 = Y 120) : Gvn X1 Y1 := by
  unfold Gvn
  rw [hx.1, hx.2, hy.1, hy.2]
  exact h
theorem Mks.of (h : Mks X Y) (hx0 : X1 0 2 = X 0 2) (hx : ∀ c, 68 ≤ c → c ≤ 106 → X1 c = X c) (hy0 : Y1 107 37 = Y 107 37) (hy : ∀ i, 100 ≤ i → i < 400 → Y1 108 i = Y 108 i) : Mks X1 Y1 := by
  obtain ⟨m1, m2, m3⟩ := h
  refine ⟨by rw [hx0, hy0]; exact m1, by rw [hy0]; exact m2, fun j p q => ?_⟩
  rw [hy0] at q
  obtain ⟨a1, a2, a3⟩ := m3 j p q
  have he : eqV (shV (Y 108) (100 * (j + 1))) (shV (Y1 108) (100 * (j + 1))) := fun i i0 i1 => hy _ (by omega) (by omega)
  have hs : ∀ k, k ≤ 12 → X1 (68 + 13 * j.toNat + k) = X (68 + 13 * j.toNat + k) := fun k hk => hx _ (by omega) (by omega)
  have := he.cv a1 (a2.same hs) (a3.same hs)
  exact ⟨he.wf a1, this.1, this.2⟩
theorem Lnd.of (h : Lnd X Y) (hx : ∀ c, 1 ≤ c → c ≤ 13 → X1 c = X c) (hy : eqV (Y 108) (Y1 108)) : Lnd X1 Y1 := by
  have hs : ∀ k, k ≤ 12 → X1 (1 + k) = X (1 + k) := fun k hk => hx _ (by omega) (by omega)
  have := hy.cv h.1 (h.2.1.same hs) (h.2.2.same hs)
  exact ⟨hy.wf h.1, this.1, this.2⟩
theorem Sts.of (h : Sts X Y) (hx : X1 0 11 = X 0 11 ∧ X1 0 12 = X 0 12 ∧ X1 0 13 = X 0 13) (hy : Y1 107 1 = Y 107 1 ∧ Y1 107 2 = Y 107 2 ∧ Y1 107 3 = Y 107 3) : Sts X1 Y1 := by
  unfold Sts
  rw [hx.1, hx.2.1, hx.2.2, hy.1, hy.2.1, hy.2.2]
  exact h
end
section
variable {l : Launch} {E : Ev} {κ k n : Nat} {G : Sh} {D : Dm} {M1 M2 : Mt} {as : List Value} {a : Ans}
/-- a call that changes what is held -/
theorem Pr.mk2 {mc ms : Nat} (hJ : J k n G D) (hmc : (mc = 0 ∧ ms = 0) ∨ (mc = mcR G (D 108) ∧ ms = msR G (D 108)))
    (h1 : Ct l E M1 κ mc ms (vR E 0 :: as) G D (fun r G' D1 => ∃ X v, cP v G X a r G' D1 ∧ v 0 = D 108 0 ∧ C0 l E M2 κ (vR E 107 :: as) G' D1 (fun r' D2 => ∃ DX, DX 108 = v ∧ Sts X DX ∧ Rest X DX ∧ eqC D1 DX ∧ r' = a.2.1 ∧ mQ DX D2 a))) : Pr l E κ M1 M2 as k n G D := by
  have hv := hJ.v
  have hle := hJ.2.le
  have hb1 := mcR_le G (D 108)
  have hb2 := msR_le G hv
  refine ⟨mc, ms, by rcases hmc with ⟨rfl, rfl⟩ | ⟨rfl, rfl⟩ <;> omega, h1.len.mono ?_⟩
  rintro r G' D1 ⟨⟨X, v, hc, h0, h2⟩, hlen⟩
  have hG := hc.2.2.2
  have hr1 := hc.1.1
  rw [nG_0 h0] at hG
  have key : ∃ k' n', ((G'.1.length = G.1.length ∧ k' = k ∧ n' = n) ∨ (k' = k + mc ∧ n' = n + ms)) ∧ (k' ≤ 600000 ∧ n' ≤ 7302250) ∧ Rm k' n' G' := by
    by_cases q : rdl G < 4 * 2 ^ (D 108 0).toNat
    · rcases hG with rfl | rfl
      · exact ⟨k, n, Or.inl ⟨rfl, rfl, rfl⟩, by omega, hJ.2⟩
      · have e2 : (newG G (D 108)).1.length = G.1.length + 2 := by unfold newG; rw [if_pos q]; simp [G2r]
        have hm2 : mc = mcR G (D 108) ∧ ms = msR G (D 108) := by
          rcases hmc with ⟨rfl, rfl⟩ | h
          · omega
          · exact h
        exact ⟨k + mc, n + ms, Or.inr ⟨rfl, rfl⟩, by omega, by rw [hm2.1, hm2.2]; exact hJ.2.new hJ.1.1 hv⟩
    · have e2 : newG G (D 108) = G := by unfold newG; rw [if_neg q]
      have e3 : G' = G := by rcases hG with h | h; exact h; rw [h, e2]
      subst e3
      exact ⟨k, n, Or.inl ⟨rfl, rfl, rfl⟩, by omega, hJ.2⟩
  obtain ⟨k', n', a1, a2, a3⟩ := key
  refine ⟨k', n', a1, a2, hc.2.1, h2.mono ?_⟩
  rintro r' G'' D2 ⟨rfl, DX, b0, b1, b2, b3, b4, b5⟩
  rw [← b0] at hc
  refine ⟨by rw [b4, hr1], (Iv.two b1 b2 hc b5).eq (fun c i p => ?_) eqM.rf, a3⟩
  rw [b5.eqC c i p, b3 c i p]
/-- a call that makes nothing -/
theorem Pr.raw (hJ : J k n G D) (h1 : C0 l E M1 κ (vR E 0 :: as) G D (fun r D1 => C0 l E M2 κ (vR E 107 :: as) G D1 (fun r' D2 => r' = r ∧ Iv G D2 D2))) : Pr l E κ M1 M2 as k n G D := by
  have hle := hJ.2.le
  refine ⟨0, 0, by omega, Ct.mono h1 ?_⟩
  rintro r G' D1 ⟨rfl, h2⟩
  refine ⟨k, n, Or.inl ⟨rfl, rfl, rfl⟩, by omega, hJ.L, Ct.mono h2 ?_⟩
  rintro r' G'' D2 ⟨rfl, e, h⟩
  exact ⟨e, h, hJ.2⟩
theorem pr_status (hJ : J k n G D) : Pr l E 0 MX9_status MX10_status [] k n G D := by
  refine Pr.raw hJ (C0.use (p_X9_status hJ.L) ?_)
  rintro r D1 ⟨rfl, rfl⟩
  refine C0.use (p_X10_status hJ.L) ?_
  rintro r D2 ⟨rfl, rfl⟩
  exact ⟨hJ.S.1.symm, hJ.1⟩
theorem pr_top (hJ : J k n G D) : Pr l E 1 MX9_top MX10_top [] k n G D := by
  refine Pr.raw hJ (C0.use (p_X9_top hJ.L) ?_)
  rintro r D1 ⟨rfl, rfl⟩
  refine C0.use (p_X10_top hJ.L) ?_
  rintro r D2 ⟨rfl, rfl⟩
  exact ⟨hJ.S.2.1.symm, hJ.1⟩
theorem pr_bottom (hJ : J k n G D) : Pr l E 1 MX9_bottom MX10_bottom [] k n G D := by
  refine Pr.raw hJ (C0.use (p_X9_bottom hJ.L) ?_)
  rintro r D1 ⟨rfl, rfl⟩
  refine C0.use (p_X10_bottom hJ.L) ?_
  rintro r D2 ⟨rfl, rfl⟩
  exact ⟨hJ.S.2.2.symm, hJ.1⟩
theorem pr_fault (hJ : J k n G D) {x : Int} (hx : iRg x) : Pr l E 0 MX9_fault MX10_fault [vI x] k n G D := by
  have hF := hJ.R.2.2.1
  have h1 : C0 l E MX9_fault 0 [vR E 0, vI x] G D (fun r D' => r = (if x = 0 then D 0 14 else if x = 1 then D 0 15 else -1) ∧ D' = D) :=
    s_X9_fault hJ.L ⟨hx, fun z => ⟨fun z1 => ⟨rfl, by rw [if_neg z, if_neg z1], rfl⟩, fun z1 => ⟨rfl, by rw [if_neg z, if_pos z1], rfl⟩⟩, fun z => ⟨rfl, by rw [if_pos z], rfl⟩⟩
  have h2 : C0 l E MX10_fault 0 [vR E 107, vI x] G D (fun r D' => r = (if x = 0 then D 107 15 else if x = 1 then D 107 16 else -1) ∧ D' = D) :=
    s_X10_fault hJ.L ⟨hx, fun z => ⟨fun z1 => ⟨rfl, by rw [if_neg z, if_neg z1], rfl⟩, fun z1 => ⟨rfl, by rw [if_neg z, if_pos z1], rfl⟩⟩, fun z => ⟨rfl, by rw [if_pos z], rfl⟩⟩
  refine Pr.raw hJ (C0.use h1 ?_)
  rintro r D1 ⟨rfl, rfl⟩
  refine C0.use h2 ?_
  rintro r D2 ⟨rfl, rfl⟩
  exact ⟨by rw [hF.1, hF.2.1], hJ.1⟩
theorem pr_climbed (hJ : J k n G D) : Pr l E 0 MX9_climbed MX10_climbed [] k n G D :=
  Pr.q hJ (Or.inl ⟨rfl, rfl⟩) (c_X9_climbed hJ.L hJ.I rfl) (fun G' D1 hL he _ _ _ => c_X10_climbed hL (by rw [he 107 24 (by decide) (by decide), hJ.R.2.2.1.2.2]))
theorem pr_given (hJ : J k n G D) {s : Int} (hs : iRg s) : Pr l E 0 MX9_given MX10_given [vI s] k n G D := by
  obtain ⟨g1, g2, g3⟩ := hJ.R.2.2.2.2.2.2
  refine Pr.q hJ (Or.inl ⟨rfl, rfl⟩) (c_X9_given hJ.L hJ.I (by rw [g1]; exact g2.2) hs rfl) (fun G' D1 hL he _ _ _ => c_X10_given hL (by rw [he 107 33 (by decide) (by decide)]; exact g2.2) hs ?_)
  rw [he 107 33 (by decide) (by decide), he.c (c := 120) (by decide) (by decide), g1]
  unfold q_given
  by_cases h : D 107 33 = -1
  · rw [if_pos h, if_pos h]
  · rw [if_neg h, if_neg h]
    by_cases h3 : 0 ≤ s ∧ s < D 107 33
    · rw [if_pos h3, if_pos h3, g3 s h3.1 h3.2]
    · rw [if_neg h3, if_neg h3]
theorem whyP_cg {m m' : Int → Int} {t p : Int} (h : 0 ≤ t → t < 4 → m' t = m t) : whyP m' t p = whyP m t p := by
  unfold whyP
  by_cases q : 0 ≤ t ∧ t < 4
  · rw [if_pos q, if_pos q, h q.1 q.2]
  · rw [if_neg q, if_neg q]
theorem pr_read (hJ : J k n G D) {t p : Int} (ht : iRg t) (hp : iRg p) : Pr l E 1 MX9_read MX10_read [vI t, vI p] k n G D := by
  have hT := hJ.R.2.2.2.1
  refine Pr.q hJ (Or.inl ⟨rfl, rfl⟩) (c_X9_read hJ.L hJ.I (fun t a b => by rw [(hT t a b).1.2]; exact (hT t a b).2.1.2.2) ht hp rfl) (fun G' D1 hL he _ _ _ => c_X10_read hL (fun t a b => by rw [he 110 t (by decide) (by decide)]; exact (hT t a b).2.1.2.2) ht hp ?_)
  rw [he.c (c := 110) (by decide) (by decide), he.c (c := 111) (by decide) (by decide)]
  unfold q_read
  have e : whyP (D 22) t p = whyP (D 110) t p := whyP_cg (fun a b => (hT t a b).1.2)
  rw [e]
  by_cases h : whyP (D 110) t p = 0
  · obtain ⟨q1, q2, q3⟩ := whyP_0 h
    rw [if_pos h, if_pos h, (hT t q1.1 q1.2).2.2 p q3.1 q3.2]
  · rw [if_neg h, if_neg h]
theorem pr_starved (hJ : J k n G D) {f t m : Int} (hf : iRg f) (ht : iRg t) (hm : iRg m) : Pr l E 0 MX9_starved MX10_starved [vI f, vI t, vI m] k n G D := by
  have hT := hJ.R.2.2.2.1
  refine Pr.q hJ (Or.inr ⟨rfl, rfl⟩) (c_X9_starved hJ.L hJ.v hJ.C hJ.O hJ.I hf ht hm rfl) (fun G' D1 hL he hv h0 e8 => c_X10_starved hL hv h0 hf ht hm ?_)
  rw [e8, he.c (c := 110) (by decide) (by decide), he.c (c := 111) (by decide) (by decide)]
  unfold q_starved
  have e : whyY (iSl 1 (D 108 1)) (isF (D 108) f) (D 22) t m (D (17 + t.toNat)) = whyY (iSl 1 (D 108 1)) (isF (D 108) f) (D 110) t m (fun i => D 111 ((60 * t) + i)) := whyY_cg (fun a b => (hT t a b).1.2) (fun a b i i0 i1 => (hT t a b).2.2 i i0 i1)
  rw [e]
  by_cases h : whyY (iSl 1 (D 108 1)) (isF (D 108) f) (D 110) t m (fun i => D 111 ((60 * t) + i)) = 0
  · obtain ⟨q1, q2, q3, q4⟩ := whyY_0 h
    rw [if_pos h, if_pos h, hyS_cg (fun i i0 i1 => (hT t q1.2.1.1 q1.2.1.2).2.2 i i0 (by omega))]
  · rw [if_neg h, if_neg h]
theorem pr_luck (hJ : J k n G D) {f t m sd dl : Int} (hf : iRg f) (ht : iRg t) (hm : iRg m) (hsd : iRg sd) (hdl : iRg dl) : Pr l E 0 MX9_luck MX10_luck [vI f, vI t, vI m, vI sd, vI dl] k n G D := by
  have hT := hJ.R.2.2.2.1
  refine Pr.q hJ (Or.inr ⟨rfl, rfl⟩) (c_X9_luck hJ.L hJ.v hJ.C hJ.O hJ.I hf ht hm hsd hdl rfl) (fun G' D1 hL he hv h0 e8 => c_X10_luck hL hv h0 hf ht hm hsd hdl ?_)
  rw [e8, he.c (c := 110) (by decide) (by decide), he.c (c := 111) (by decide) (by decide)]
  unfold q_luck
  have e : whyY (iSl 1 (D 108 1)) (lkI (D 108) f sd dl) (D 22) t m (D (17 + t.toNat)) = whyY (iSl 1 (D 108 1)) (lkI (D 108) f sd dl) (D 110) t m (fun i => D 111 ((60 * t) + i)) := whyY_cg (fun a b => (hT t a b).1.2) (fun a b i i0 i1 => (hT t a b).2.2 i i0 i1)
  rw [e]
  by_cases h : whyY (iSl 1 (D 108 1)) (lkI (D 108) f sd dl) (D 110) t m (fun i => D 111 ((60 * t) + i)) = 0
  · obtain ⟨q1, q2, q3, q4⟩ := whyY_0 h
    have hy : ∀ i, 0 ≤ i → i < m → D (17 + t.toNat) i = D 111 ((60 * t) + i) := fun i i0 i1 => (hT t q1.2.1.1 q1.2.1.2).2.2 i i0 (by omega)
    rw [if_pos h, if_pos h, hyS_cg (y := fun i => D 111 ((60 * t) + i)) hy, lkS_cg (y := fun i => D 111 ((60 * t) + i)) hy]
  · rw [if_neg h, if_neg h]
theorem pr_climb (hJ : J k n G D) {f : Int} (hf : iRg f) : Pr l E 0 MX9_climb MX10_climb [vI f] k n G D := by
  refine Pr.mk2 (a := q_climb (D 108) f) hJ (Or.inr ⟨rfl, rfl⟩) ((c_X9_climb hJ.L hJ.v hJ.C hJ.O hJ.I hf rfl).mono ?_)
  intro r G' D1 hc
  have he : eqM D D1 := fun c i p q => by
    rw [hc.1.2.eqM c i p q]
    split
    · rw [upd2_cell _ _ _ _ (by omega)]
    · rfl
  have e8 : D1 108 = D 108 := he.c (by decide) (by decide)
  refine ⟨_, _, hc, rfl, C0.use (c_X10_climb hc.2.1 (by rw [e8]; exact hJ.v) (by rw [he 107 20 (by decide) (by decide)]; exact hJ.R.1) hf (by rw [e8])) ?_⟩
  rintro r' D2 ⟨g1, g2⟩
  obtain ⟨h20, hLn, hF, hT, hP, hM, hV⟩ := hJ.R
  rw [e8] at g2
  by_cases q : 0 ≤ f ∧ f < D 108 2
  · rw [if_pos q] at g2 ⊢
    generalize hx : (((clR (D 108) f).2 : Nat) : Int) = x at g2 ⊢
    have ex : ∀ c, c ≠ 0 → upd2 D 0 16 x c = D c := fun c hc => funext fun i => upd2_cell _ _ _ _ hc
    have ey : ∀ c, 107 < c → c < 125 → upd2 D1 107 24 x c = D c := fun c h1 h2 => funext fun i => by rw [upd2_cell _ _ _ _ (by omega)]; exact he c i (by omega) h2
    have ey7 : ∀ i, i ≠ 24 → upd2 D1 107 24 x 107 i = D 107 i := fun i hi => by rw [upd2_place _ _ _ hi]; exact he 107 i (by decide) (by decide)
    have ex0 : ∀ i, i ≠ 16 → upd2 D 0 16 x 0 i = D 0 i := fun i hi => upd2_place _ _ _ hi
    refine ⟨_, (ey 108 (by decide) (by decide)), hJ.S.of ⟨ex0 11 (by decide), ex0 12 (by decide), ex0 13 (by decide)⟩ ⟨ey7 1 (by decide), ey7 2 (by decide), ey7 3 (by decide)⟩, ⟨by rw [ey7 20 (by decide)]; exact h20, hLn.of (fun c h1 h2 => ex c (by omega)) (fun i _ _ => by rw [ey 108 (by decide) (by decide)]), ⟨by rw [ex0 14 (by decide), ey7 15 (by decide)]; exact hF.1, by rw [ex0 15 (by decide), ey7 16 (by decide)]; exact hF.2.1, by rw [upd2_same, upd2_same]⟩, hT.of (fun c h1 h2 => ex c (by omega)) (fun c h1 h2 => ey c (by omega) (by omega)), hP.of ⟨by rw [ex 23 (by decide)], ex 24 (by decide)⟩ ⟨ey7 9 (by decide), ey 112 (by decide) (by decide)⟩, hM.of (ex0 2 (by decide)) (fun c h1 h2 => ex c (by omega)) (ey7 37 (by decide)) (fun i _ _ => by rw [ey 108 (by decide) (by decide)]), hV.of ⟨by rw [ex 60 (by decide)], ex 65 (by decide)⟩ ⟨ey7 33 (by decide), ey 120 (by decide) (by decide)⟩⟩, fun c i p => upd2_cell _ _ _ _ (by omega), g1, g2⟩
  · rw [if_neg q] at g2 ⊢
    exact ⟨D1, e8, hJ.S.eq eqC.rf he, hJ.R.fr eqC.rf.fr he.fr, eqC.rf, g1, g2⟩
/-- a call that changes the village alone -/
theorem Pr.u {mc ms : Nat} {w : Vl} (hJ : J k n G D) (hmc : (mc = 0 ∧ ms = 0) ∨ (mc = mcR G (D 108) ∧ ms = msR G (D 108))) (hw : wfV w) (h0 : w 0 = D 108 0) (hi : ∀ i, 100 ≤ i → w i = D 108 i) (h1 : Ct l E M1 κ mc ms (vR E 0 :: as) G D (cU w G D a))
    (h2 : ∀ G' D1, Lay G' → eqM D D1 → wfV (D1 108) → D1 107 20 = 0 → D1 108 = D 108 → C0 l E M2 κ (vR E 107 :: as) G' D1 (fun r' D2 => r' = a.2.1 ∧ mQ (setC D1 108 w) D2 a)) : Pr l E κ M1 M2 as k n G D := by
  refine Pr.mk2 (a := a) hJ hmc (h1.mono ?_)
  rintro r G' D1 ⟨Dx, hl, hC, hO, hc⟩
  have he : eqM D D1 := fun c i p q => by rw [hc.1.2.eqM c i p q, hl c (by omega)]
  have e8 : D1 108 = D 108 := he.c (by decide) (by decide)
  refine ⟨Dx, w, hc, h0, C0.use (h2 G' D1 hc.2.1 he (by rw [e8]; exact hJ.v) (by rw [he 107 20 (by decide) (by decide)]; exact hJ.R.1) e8) ?_⟩
  rintro r' D2 ⟨g1, g2⟩
  obtain ⟨h20, hLn, hF, hT, hP, hM, hV⟩ := hJ.R
  have ey8 : setC D1 108 w 108 = w := funext fun i => by simp [setC]
  have ey : ∀ c, c ≠ 108 → 107 ≤ c → c < 125 → setC D1 108 w c = D c := fun c h1 h2 h3 => funext fun i => by simp only [setC]; rw [if_neg h1]; exact he c i h2 h3
  have ex : ∀ c, ¬ (1 ≤ c ∧ c ≤ 13) → Dx c = D c := hl
  have e7 := ey 107 (by decide) (by decide) (by decide)
  refine ⟨setC D1 108 w, ey8, hJ.S.of ⟨by rw [ex 0 (by decide)], by rw [ex 0 (by decide)], by rw [ex 0 (by decide)]⟩ ⟨by rw [e7], by rw [e7], by rw [e7]⟩, ⟨by rw [e7]; exact h20, ⟨by rw [ey8]; exact hw, by rw [ey8]; exact hC, by rw [ey8]; exact hO⟩, hF.of (Or.inl (ex 0 (by decide))) ⟨by rw [e7], by rw [e7], by rw [e7]⟩, hT.of (fun c h1 h2 => ex c (by omega)) (fun c h1 h2 => ey c (by omega) (by omega) (by omega)), hP.of ⟨by rw [ex 23 (by decide)], ex 24 (by decide)⟩ ⟨by rw [e7], ey 112 (by decide) (by decide) (by decide)⟩, hM.of (by rw [ex 0 (by decide)]) (fun c h1 h2 => ex c (by omega)) (by rw [e7]) (fun i i0 _ => by rw [ey8]; exact hi i i0), hV.of ⟨by rw [ex 60 (by decide)], ex 65 (by decide)⟩ ⟨by rw [e7], ey 120 (by decide) (by decide) (by decide)⟩⟩, fun c i p => ?_, g1, g2⟩
  simp only [setC]
  rw [if_neg (by omega)]
theorem pr_hold (hJ : J k n G D) {s f : Int} (hs : iRg s) (hf : iRg f) : Pr l E 0 MX9_hold MX10_hold [vI s, vI f] k n G D := by
  have hv := hJ.v
  have hS := wfS hv
  have hF := wfF hv
  refine Pr.u (w := w_hold (D 108) s f) hJ (Or.inl ⟨rfl, rfl⟩) ?_ ?_ (fun i hi => ?_) (c_X9_hold hJ.L hv hJ.C hJ.O hJ.I hs hf rfl) (fun G' D1 hL he hv1 h0 e8 => by
    have := c_X10_hold (l := l) (E := E) (D := D1) hL hv1 hs hf (a := q_hold (D 108) s f) (by rw [e8])
    rw [e8] at this
    exact this)
  · unfold w_hold
    split
    · rename_i h
      split
      · exact hv
      · exact wfV_own hv h.1 (by omega)
    · exact hv
  · unfold w_hold
    split
    · rename_i h
      split
      · rfl
      · simp only [upV]; rw [if_neg (by omega)]
    · rfl
  · unfold w_hold
    split
    · rename_i h
      split
      · rfl
      · simp only [upV]; rw [if_neg (by omega)]
    · rfl
theorem wfV_up3 {v : Vl} (hv : wfV v) {x : Int} (hx : 1 ≤ x ∧ x ≤ 99) : wfV (upV v 3 x) := by
  have key : ∀ j : Int, j ≠ 3 → upV v 3 x j = v j := fun j hj => by simp only [upV]; rw [if_neg hj]
  have hS := wfS hv
  have hH := wfH hv
  have hF := wfF hv
  refine ⟨by rw [key 0 (by decide)]; exact hS, by rw [key 1 (by decide)]; exact hH, by rw [key 2 (by decide)]; exact hF, ?_, by rw [key 4 (by decide)]; exact wfU hv, fun s p q => ?_, fun s p q => ?_, fun s p q => ?_⟩
  · have : upV v 3 x 3 = x := by simp [upV]
    rw [this]; exact hx
  · rw [key 0 (by decide)] at q
    rw [key ((8 + (5 * s)) + 0) (by omega), key ((8 + (5 * s)) + 1) (by omega), key ((8 + (5 * s)) + 2) (by omega), key ((8 + (5 * s)) + 3) (by omega), key ((8 + (5 * s)) + 4) (by omega), key 2 (by decide)]
    exact wfs hv p q
  · rw [key 1 (by decide)] at q
    rw [key ((58 + (5 * s)) + 0) (by omega), key ((58 + (5 * s)) + 1) (by omega), key ((58 + (5 * s)) + 2) (by omega), key ((58 + (5 * s)) + 3) (by omega), key ((58 + (5 * s)) + 4) (by omega)]
    exact wfh hv p q
  · rw [key 2 (by decide)] at q
    rw [key ((88 + (3 * s)) + 0) (by omega), key ((88 + (3 * s)) + 1) (by omega), key ((88 + (3 * s)) + 2) (by omega)]
    exact wff hv p q
theorem pr_let (hJ : J k n G D) {y x : Int} (hy : iRg y) (hx : iRg x) : Pr l E 0 MX9_let MX10_let [vI y, vI x] k n G D := by
  have hv := hJ.v
  refine Pr.u (w := w_let (D 108) y x) hJ (Or.inl ⟨rfl, rfl⟩) ?_ ?_ (fun i hi => ?_) (c_X9_let hJ.L hv hJ.C hJ.O hJ.I hy hx rfl) (fun G' D1 hL he hv1 h0 e8 => by
    have := c_X10_let (l := l) (E := E) (D := D1) hL hy hx (a := q_let y x) rfl
    rw [e8] at this
    exact this)
  · unfold w_let
    split
    · rename_i h
      rcases h with ⟨rfl, h⟩ | ⟨rfl, h⟩
      · exact wfV_up3 hv h
      · exact wfV_up4 hv h
    · exact hv
  · unfold w_let
    split
    · simp only [upV]; rw [if_neg (by omega)]
    · rfl
  · unfold w_let
    split
    · simp only [upV]; rw [if_neg (by omega)]
    · rfl
theorem pr_likely (hJ : J k n G D) {h od : Int} (hh : iRg h) (ho : iRg od) : Pr l E 0 MX9_likely MX10_likely [vI h, vI od] k n G D := by
  have hv := hJ.v
  have hH := wfH hv
  refine Pr.u (w := w_likely (D 108) h od) hJ (Or.inl ⟨rfl, rfl⟩) ?_ ?_ (fun i hi => ?_) (c_X9_likely hJ.L hv hJ.C hJ.O hJ.I hh ho rfl) (fun G' D1 hL he hv1 h0 e8 => by
    have := c_X10_likely (l := l) (E := E) (D := D1) hL hv1 hh ho (a := q_likely (D 108) h od) (by rw [e8])
    rw [e8] at this
    exact this)
  · unfold w_likely
    split
    · rename_i q
      exact wfV_odd hv q.1 q.2
    · exact hv
  · unfold w_likely
    split
    · simp only [oddV, upV]; rw [if_neg (by omega)]
    · rfl
  · unfold w_likely
    split
    · simp only [oddV, upV]; rw [if_neg (by omega)]
    · rfl
theorem fst_at (q : Int → Bool) : ∀ (n : Nat) (lo : Int), fstF q lo n ≠ -1 → q (fstF q lo n) = true := by
  intro n
  induction n with
  | zero => intro lo z; exact absurd rfl z
  | succ n ih =>
    intro lo z
    rw [fstF] at z ⊢
    by_cases y : q lo = true
    · rw [if_pos y]; exact y
    · rw [if_neg y] at z ⊢; exact ih _ z
theorem st_far {v : Vl} (hv : wfV v) (h : stF v ≠ -1) : stV v 0 = v 0 ∧ ∀ i, 100 ≤ i → stV v i = v i := by
  have hS := wfS hv
  have hF := wfF hv
  have hq : stQ v (stF v) = true := fst_at _ _ _ h
  have hw : 0 < swN v (stF v / 10) (stF v % 10) := by
    unfold stQ at hq
    exact (of_decide_eq_true hq).2.2
  obtain ⟨k1, k2, -⟩ := swK_is hw
  have k3 := swQ_in k2
  unfold stV swV
  constructor
  · simp only [upV]; rw [if_neg (by omega), if_neg (by omega)]
  · intro i hi
    simp only [upV]; rw [if_neg (by omega), if_neg (by omega)]
theorem sl_ok : ∀ (m : Nat) (v : Vl), wfV v → wfV (slF m v).1 ∧ (slF m v).1 0 = v 0 ∧ ∀ i, 100 ≤ i → (slF m v).1 i = v i
  | 0, v, hv => ⟨hv, rfl, fun _ _ => rfl⟩
  | m + 1, v, hv => by
    rw [slF]
    by_cases h : stF v = -1
    · rw [if_pos h]; exact ⟨hv, rfl, fun _ _ => rfl⟩
    · rw [if_neg h]
      obtain ⟨a, b, c⟩ := sl_ok m (stV v) (wfV_st hv h)
      obtain ⟨d, e⟩ := st_far hv h
      exact ⟨a, by rw [b, d], fun i hi => by rw [c i hi, e i hi]⟩
theorem pr_settle (hJ : J k n G D) : Pr l E 0 MX9_settle MX10_settle [] k n G D := by
  have hv := hJ.v
  obtain ⟨a, b, c⟩ := sl_ok 100 (D 108) hv
  refine Pr.u (w := (slF 100 (D 108)).1) hJ (Or.inr ⟨rfl, rfl⟩) a b c (c_X9_settle hJ.L hv hJ.C hJ.O hJ.I rfl) (fun G' D1 hL he hv1 h0 e8 => by
    have := c_X10_settle (l := l) (E := E) (D := D1) hL hv1 h0 (a := q_settle (D 108)) (by rw [e8])
    rw [e8] at this
    exact this)
end

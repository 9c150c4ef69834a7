/-! ===== village, of both ===== -/
section
variable {l : Launch} {E : Ev} {k n : Nat} {G : Sh} {D : Dm}
theorem pr_village (hJ : J k n G D) {m : Int} (hm : iRg m) : Pr l E 0 MX9_village MX10_village [vI m] k n G D := by
  have hv := hJ.v
  have hL := hJ.L
  obtain ⟨h20, hLn, hF, hT, ⟨t1, t2, t3⟩, hM, hV⟩ := hJ.R
  have hC9 : C0 l E MX9_village 0 [vR E 0, vI m] G D (fun r D' => r = (q_vil (D 24) (D 23 1) m (D 108)).2.1 ∧ D' 0 11 = (q_vil (D 24) (D 23 1) m (D 108)).1 ∧ vO D D' ∧ vlP (D 24) (D 23 1) m (D 108) D D') := c_X9_village hL hv hJ.C (by rw [t1]; exact t2) hm
  refine Pr.raw hJ (C0.use hC9 ?_)
  rintro r D1 ⟨e1, e2, ho, hp⟩
  rw [t1] at e1 e2 hp
  have o1 : ∀ c, 107 ≤ c → c < 125 → D1 c = D c := fun c p q => funext fun i => ho c i (by omega) (by omega) (by omega) (by omega) (by omega)
  have o7 := o1 107 (by decide) (by decide)
  have o8 := o1 108 (by decide) (by decide)
  refine C0.use (c_X10_village (T := D 24) hL (by rw [o8]; exact hv) (by rw [o7]; exact t2) hm (fun i p q => by rw [o1 112 (by decide) (by decide)]; rw [o7] at q; exact (t3 i p q).1.symm) (fun i p q => by rw [o7] at q; rw [(t3 i p q).1]; exact (t3 i p q).2)) ?_
  rintro r' D2 ⟨f1, f2, ho2, hp2⟩
  rw [o7, o8] at f1 f2
  rw [o7] at hp2
  refine ⟨by rw [f1, e1], ?_⟩
  unfold mvP at hp2
  rw [o8] at hp2
  have c2 : ∀ c, ¬ (107 ≤ c ∧ c < 125) → D2 c = D1 c := fun c hc => funext fun i => ho2 c i (by omega) (by omega) (by omega) (by omega) (by omega)
  have x0 : ∀ i, i ≠ 11 → i ≠ 14 → i ≠ 15 → D2 0 i = D 0 i := fun i h1 h2 h3 => by rw [c2 0 (by decide)]; exact ho 0 i (by omega) (by omega) (by omega) (by omega) (by omega)
  have xc : ∀ c, c < 107 → 13 < c → c ≠ 23 → ¬ (25 ≤ c ∧ c ≤ 42) → D2 c = D c := fun c h1 h2 h3 h4 => by rw [c2 c (by omega)]; exact funext fun i => ho c i (by omega) (by omega) (by omega) (by omega) (by omega)
  have y7 : ∀ i, ¬ (i = 1 ∨ (9 ≤ i ∧ i ≤ 17)) → D2 107 i = D 107 i := fun i hi => by rw [ho2 107 i (by omega) (by omega) (by decide) (by decide) (by decide), o7]
  have yc : ∀ c, 109 ≤ c → c < 125 → c ≠ 113 → c ≠ 114 → c ≠ 115 → D2 c = D c := fun c h1 h2 h3 h4 h5 => funext fun i => by rw [ho2 c i (by omega) (by omega) h3 h4 h5, o1 c (by omega) h2]
  have y8 : ∀ i, 100 ≤ i → i < 400 → D2 108 i = D 108 i := fun i h1 h2 => by rw [ho2 108 i (by omega) (by omega) (by decide) (by decide) (by decide), o8]
  have hS2 : Sts D2 D2 := ⟨by rw [c2 0 (by decide), e2, f2], by rw [x0 12 (by decide) (by decide) (by decide), y7 2 (by omega)]; exact hJ.S.2.1, by rw [x0 13 (by decide) (by decide) (by decide), y7 3 (by omega)]; exact hJ.S.2.2⟩
  have hT2 : Trs D2 D2 := hT.of (fun c h1 h2 => xc c (by omega) (by omega) (by omega) (by omega)) (fun c h1 h2 => yc c (by omega) (by omega) (by omega) (by omega) (by omega))
  have hM2 : Mks D2 D2 := hM.of (x0 2 (by decide) (by decide) (by decide)) (fun c h1 h2 => xc c (by omega) (by omega) (by omega) (by omega)) (y7 37 (by omega)) y8
  have hV2 : Gvn D2 D2 := hV.of ⟨by rw [xc 60 (by decide) (by decide) (by decide) (by decide)], xc 65 (by decide) (by decide) (by decide) (by decide)⟩ ⟨y7 33 (by omega), yc 120 (by decide) (by decide) (by decide) (by decide) (by decide)⟩
  have h20' : D2 107 20 = 0 := by rw [y7 20 (by omega)]; exact h20
  have f16 : D2 0 16 = D2 107 24 := by rw [x0 16 (by decide) (by decide) (by decide), y7 24 (by omega)]; exact hF.2.2
  have hr := rdc_ne hL
  by_cases z : 0 ≤ m ∧ m ≤ D 107 9
  · obtain ⟨a1, a2⟩ := hp.2 z
    obtain ⟨b1, b2⟩ := hp2.2 z
    have hP2 : Tap D2 D2 := ⟨by rw [c2 23 (by decide), a1, b1], by rw [b1]; decide, fun i p q => by rw [b1] at q; omega⟩
    rcases a2 with ⟨f, g1, g2, g3, g4, g5⟩ | ⟨w, g1, g2, g3, g4, g5, g6, g7⟩
    · rcases b2 with ⟨f', h1, h2, h3, h4⟩ | ⟨w', h1, _⟩
      · rw [g1] at h1
        cases h1
        have hev : eqV (D 108) (D2 108) := fun i p q => h4 i p q
        refine ⟨hL, ?_, hS2, h20', hLn.of (fun c h1 h2 => by rw [c2 c (by omega)]; exact g4 c h1 h2) hev, ⟨by rw [c2 0 (by decide), g2, h2], by rw [c2 0 (by decide), g3, h3], f16⟩, hT2, hP2, hM2, hV2⟩
        refine (hJ.I.ev hev hv).same ?_ (xc 45 (by decide) (by decide) (by decide) (by decide)) ?_
        · rw [c2 42 (by decide)]; exact g5
        · rw [c2 _ (by omega)]; exact funext fun i => ho _ i (by omega) (by omega) (by omega) (by omega) (by omega)
      · rw [g1] at h1
        cases h1
    · rcases b2 with ⟨f', h1, _⟩ | ⟨w', h1, h2, h3, h4, h5⟩
      · rw [g1] at h1
        cases h1
      · rw [g1] at h1
        cases h1
        have hev : eqV w (D2 108) := fun i p q => h5 i p q
        have hs : ∀ j, j ≤ 12 → D2 (1 + j) = D1 (1 + j) := fun j hj => c2 _ (by omega)
        have hcv := hev.cv g4 (g5.same hs) (g6.same hs)
        exact ⟨hL, ⟨hJ.I.1, Or.inl (by rw [c2 42 (by decide)]; exact g7)⟩, hS2, h20', ⟨hev.wf g4, hcv.1, hcv.2⟩, ⟨by rw [c2 0 (by decide), g2, h2], by rw [c2 0 (by decide), g3, h3], f16⟩, hT2, hP2, hM2, hV2⟩
  · have ed1 := hp.1 z
    have ed2 := hp2.1 z
    have x23 : D2 23 = D 23 := by rw [ed2, ed1]; exact funext fun i => by rw [upd2_cell _ _ _ _ (by decide), upd2_cell _ _ _ _ (by decide)]
    have x42 : D2 42 = D 42 := by rw [ed2, ed1]; exact funext fun i => by rw [upd2_cell _ _ _ _ (by decide), upd2_cell _ _ _ _ (by decide)]
    have xl : ∀ c, 1 ≤ c → c ≤ 13 → D2 c = D c := fun c h1 h2 => by rw [ed2, ed1]; exact funext fun i => by rw [upd2_cell _ _ _ _ (by omega), upd2_cell _ _ _ _ (by omega)]
    have x00 : ∀ i, i ≠ 11 → D2 0 i = D 0 i := fun i hi => by rw [ed2, ed1, upd2_cell _ _ _ _ (by decide), upd2_place _ _ _ hi]
    have y77 : ∀ i, i ≠ 1 → D2 107 i = D 107 i := fun i hi => by rw [ed2, upd2_place _ _ _ hi, o7]
    have y88 : D2 108 = D 108 := by rw [ed2]; exact funext fun i => by rw [upd2_cell _ _ _ _ (by decide), o8]
    refine ⟨hL, ?_, hS2, h20', hLn.of xl (fun i _ _ => by rw [y88]), hF.of (Or.inr ⟨x00 14 (by decide), x00 15 (by decide), x00 16 (by decide)⟩) ⟨y77 15 (by decide), y77 16 (by decide), y77 24 (by decide)⟩, hT2, ?_, hM2, hV2⟩
    · rw [y88]
      refine hJ.I.same (by rw [x42]) (xc 45 (by decide) (by decide) (by decide) (by decide)) ?_
      rw [c2 _ (by omega)]; exact funext fun i => ho _ i (by omega) (by omega) (by omega) (by omega) (by omega)
    · exact Tap.of ⟨t1, t2, t3⟩ ⟨by rw [x23], xc 24 (by decide) (by decide) (by decide) (by decide)⟩ ⟨y77 9 (by decide), yc 112 (by decide) (by decide) (by decide) (by decide) (by decide)⟩
end

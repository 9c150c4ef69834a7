/-! ===== the reference's reader: a part ===== -/
section
variable {l : Launch} {E : Ev} {G : Sh} {D : Dm} {T : Int → Int} {n : Int} {K : Tk}
theorem m_part (hL : Lay G) (hn : 0 ≤ n ∧ n ≤ 600) (hT : TB T n) (hl : lvM T n D K) {w : Vl} {sn fn : Row} (hM : DM D w sn fn) (hB : wfD w) : C0 l E MX10_part 0 [vR E 107] G D (fun r D' => rO D D' ∧ ((r = 1 ∧ ∃ K' w' sn' fn', lvM T n D' K' ∧ DM D' w' sn' fn' ∧ pPart T n w sn fn K = .inr (K', w', sn', fn')) ∨ (r = 0 ∧ ddM D' (pPart T n w sn fn K)))) := by
  generalize hres : pPart T n w sn fn K = res
  generalize hQ : (fun (r : Int) (G' : Sh) (D' : Dm) => G' = G ∧ rO D D' ∧ ((r = 1 ∧ ∃ K' w' sn' fn', lvM T n D' K' ∧ DM D' w' sn' fn' ∧ res = .inr (K', w', sn', fn')) ∨ (r = 0 ∧ ddM D' res))) = Q
  suffices main : Ct l E MX10_part 0 0 0 [vR E 107] G D Q by rw [← hQ] at main; exact main
  have dead : ∀ D', rO D D' → ddM D' res → Q 0 G D' := fun D' h1 h2 => by rw [← hQ]; exact ⟨rfl, h1, Or.inr ⟨rfl, h2⟩⟩
  have fin : ∀ (P : Kt → Rs) (r : Int) (D' : Dm), AM T n D D' r P → P (kEnd T n) = res → ((-2147483648 ≤ r ∧ r < 2147483648)) ∧ ((r ≠ 0 → ((D' 107 11 = 4 → C0 l E MX10_ahead 2 [vR E 107] G D' (fun r17 D17 => Q 1 G D17)) ∧ (D' 107 11 ≠ 4 → C0 l E MX10_fails 0 [vR E 107, vI 2] G D' (fun r20 D20 => (r20 = 0 ∨ r20 = 1) ∧ Q r20 G D20)))) ∧ (r = 0 → Q 0 G D')) := by
    rintro P r D' ⟨ho, hcase⟩ hP
    rcases hcase with ⟨rfl, K1, w1, sn1, fn1, l1, M1, p1⟩ | ⟨rfl, d1⟩
    · rw [p1, kEnd] at hP
      have hk := (RM.k l1.2.2.2.2.1 l1.2.2.2.2.2.1).2.2.1
      refine ⟨by decide, fun _ => ⟨fun y => ?_, fun y => ?_⟩, fun q => absurd q (by decide)⟩
      · have h3 := hk.1 y
        rw [SG, if_pos h3] at hP
        refine C0.use (m_ahead hL hn hT l1 (by omega)) ?_
        rintro - D2 ⟨s2, l2⟩
        have f2 := sm_wd s2
        rw [← hQ]
        refine ⟨rfl, ho.tr s2.r, Or.inl ⟨rfl, _, w1, sn1, fn1, l2, ?_, hP.symm⟩⟩
        unfold DM
        rw [f2.1, f2.2.1, f2.2.2]
        exact M1
      · rw [SG, if_neg (fun q => y (hk.2 q))] at hP
        refine C0.use (m_fails hL (why := 2) (by decide) l1) ?_
        rintro r2 D2 ⟨g1, rfl, g2⟩
        exact ⟨Or.inl rfl, dead D2 (ho.tr g1.r) (by rw [← hP]; exact g2)⟩
    · exact ⟨by decide, fun q => absurd rfl q, fun _ => dead D' ho (by rw [← hP]; exact d1 _)⟩
  have hkb := kOf_b K
  have k4 : kOf K ≠ -1 → K.1 ≠ 4 := fun h q => h (by unfold kOf; rw [if_neg (by omega)])
  refine s_X10_part hL ?_
  refine C0.use (m_key hL hn hT hl) ?_
  rintro r D1 ⟨rfl, rfl⟩
  try dsimp only
  have fam : kOf K = 5 → C0 l E MX10_aFamily 0 [vR E 107] G D1 (fun r24 D24 => ((-2147483648 ≤ r24 ∧ r24 < 2147483648)) ∧ ((r24 ≠ 0 → ((D24 107 11 = 4 → C0 l E MX10_ahead 2 [vR E 107] G D24 (fun r17 D17 => Q 1 G D17)) ∧ (D24 107 11 ≠ 4 → C0 l E MX10_fails 0 [vR E 107, vI 2] G D24 (fun r20 D20 => (r20 = 0 ∨ r20 = 1) ∧ Q r20 G D20)))) ∧ (r24 = 0 → Q 0 G D24))) := by
    intro h5
    refine C0.use (m_family hL hn hT hl (k4 (by omega)) hM hB.b) ?_
    intro r D2 hA
    refine fin _ r D2 hA ?_
    rw [← hres, pPart, if_neg (by omega), if_pos h5]
  have oth : (kOf K ≠ 0 ∧ kOf K ≠ 5 ∧ ¬ (1 ≤ kOf K ∧ kOf K ≤ 4)) → C0 l E MX10_fails 0 [vR E 107, vI 2] G D1 (fun r24 D24 => ((-2147483648 ≤ r24 ∧ r24 < 2147483648)) ∧ ((r24 ≠ 0 → ((D24 107 11 = 4 → C0 l E MX10_ahead 2 [vR E 107] G D24 (fun r17 D17 => Q 1 G D17)) ∧ (D24 107 11 ≠ 4 → C0 l E MX10_fails 0 [vR E 107, vI 2] G D24 (fun r20 D20 => (r20 = 0 ∨ r20 = 1) ∧ Q r20 G D20)))) ∧ (r24 = 0 → Q 0 G D24))) := by
    intro h5
    refine C0.use (m_fails hL (why := 2) (by decide) hl) ?_
    rintro r2 D2 ⟨g1, rfl, g2⟩
    refine ⟨by decide, fun q => absurd rfl q, fun _ => dead D2 g1.r ?_⟩
    rw [← hres, pPart, if_neg h5.1, if_neg h5.2.1, if_neg h5.2.2]; exact g2
  refine ⟨by omega, fun y0 => ⟨fun y1 => ⟨fun y5 => oth (by omega), fun y5 => fam y5⟩, fun y1 => ⟨fun y4 => ⟨fun y5 => oth (by omega), fun y5 => fam y5⟩, fun y4 => ?_⟩⟩, fun y0 => ?_⟩
  · refine C0.use (m_harm hL hn hT hl (k4 (by omega)) hM hB (kd := kOf K - 1) (by omega)) ?_
    intro r D2 hA
    refine fin _ r D2 hA ?_
    rw [← hres, pPart, if_neg y0, if_neg (by omega), if_pos (by omega)]
  · refine C0.use (m_strip hL hn hT hl (k4 (by omega)) hM hB.b) ?_
    intro r D2 hA
    refine fin _ r D2 hA ?_
    rw [← hres, pPart, if_pos y0]
end

/-! ===== the reference's reader, step by step ===== -/
theorem scF_cg {c d : Int → Bool} {n : Int} : ∀ (k : Nat) (p : Int), (∀ i, p ≤ i → i < n → c i = d i) → scF c n k p = scF d n k p
  | 0, _, _ => rfl
  | k + 1, p, h => by
    rw [scF, scF]
    by_cases q : p < n
    · rw [h p (Int.le_refl _) q, scF_cg k (p + 1) (fun i a b => h i (by omega) b)]
    · rw [if_neg (fun z => q z.1), if_neg (fun z => q z.1)]
theorem nv_cg {T U : Int → Int} {s : Int} : ∀ k : Nat, (∀ i : Nat, i < k → T (s + i) = U (s + i)) → nv T s k = nv U s k
  | 0, _ => rfl
  | k + 1, h => by
    show nv T s k * 10 + (T (s + k) - 48) = nv U s k * 10 + (U (s + k) - 48)
    rw [nv_cg k (fun i hi => h i (by omega)), h k (by omega)]
theorem tok_cg {T U : Int → Int} {n p : Int} (h : ∀ i, 0 ≤ i → i < n → T i = U i) (hp : 0 ≤ p ∧ p ≤ n) : tokS T n p = tokS U n p := by
  have e1 : scE (whB T) n p = scE (whB U) n p := scF_cg _ _ (fun i a b => by unfold whB; rw [h i (by omega) b])
  have hb := scE_b (c := whB U) hp.2
  unfold tokS
  rw [e1]
  generalize scE (whB U) n p = s at hb
  unfold tkAt
  by_cases q : n ≤ s
  · rw [if_pos q, if_pos q]
  · rw [if_neg q, if_neg q]
    have el : leB T s = leB U s := by unfold leB; rw [h s (by omega) (by omega)]
    have ed : diB T s = diB U s := by unfold diB; rw [h s (by omega) (by omega)]
    have sl : scE (leB T) n s = scE (leB U) n s := scF_cg _ _ (fun i a b => by unfold leB; rw [h i (by omega) b])
    have sd : scE (diB T) n s = scE (diB U) n s := scF_cg _ _ (fun i a b => by unfold diB; rw [h i (by omega) b])
    have bl := scE_b (c := leB U) (show s ≤ n by omega)
    have bd := scE_b (c := diB U) (show s ≤ n by omega)
    rw [el, ed, sl, sd, h s (by omega) (by omega), wv_cg (T := T) (U := U) (s := s) (u := s) _ (fun i hi => h _ (by omega) (by omega)), nv_cg (T := T) (U := U) _ (fun i hi => h _ (by omega) (by omega))]
def lvM (T : Int → Int) (n : Int) (D : Dm) (K : Tk) : Prop := D 107 17 = 0 ∧ D 107 16 = -1 ∧ D 107 10 = n ∧ (∀ i, 0 ≤ i → i < n → D 113 i = T i) ∧ RM D K ∧ Kok T n K
def ddM (D : Dm) (r : Rs) : Prop := D 107 17 ≠ 0 ∧ r = .inl (D 107 17, D 107 16)
def wO (D D' : Dm) : Prop := ∀ c i, ¬ (c = 107 ∧ 11 ≤ i ∧ i ≤ 17 ∧ i ≠ 15) → D' c i = D c i
theorem wO.rf {D : Dm} : wO D D := fun _ _ _ => rfl
theorem wO.tr {D D1 D2 : Dm} (h : wO D D1) (h2 : wO D1 D2) : wO D D2 := fun c i p => (h2 c i p).trans (h c i p)
theorem smO.w {D D' : Dm} (h : smO D D') : wO D D' := fun c i p => h c i (fun q => p ⟨q.1, by omega, by omega, by omega⟩)
theorem wO.c {D D' : Dm} (h : wO D D') {c : Nat} (hc : c ≠ 107) : D' c = D c := funext fun i => h c i (fun q => hc q.1)
theorem lvM.up {T : Int → Int} {n : Int} {D : Dm} {K : Tk} (h : lvM T n D K) {c : Nat} (hc : c ≠ 107 ∧ c ≠ 113) (i x : Int) : lvM T n (upd2 D c i x) K := by
  have e3 : ∀ j, upd2 D c i x 107 j = D 107 j := fun j => upd2_cell _ _ _ _ (fun q => hc.1 q.symm)
  have e4 : ∀ j, upd2 D c i x 113 j = D 113 j := fun j => upd2_cell _ _ _ _ (fun q => hc.2 q.symm)
  obtain ⟨a1, a2, a3, a4, a5, a6⟩ := h
  refine ⟨by rw [e3]; exact a1, by rw [e3]; exact a2, by rw [e3]; exact a3, fun j p q => by rw [e4]; exact a4 j p q, ?_, a6⟩
  unfold RM
  rw [e3, e3, e3, e3]
  exact a5
theorem RM.k {D : Dm} {K : Tk} (h : RM D K) (h2 : 0 ≤ K.1 ∧ K.1 ≤ 4) : (D 107 11 = 2 ↔ K.1 = 1) ∧ (D 107 11 = 3 ↔ K.1 = 2) ∧ (D 107 11 = 4 ↔ K.1 = 3) ∧ (D 107 11 = 1 ↔ K.1 = 4) ∧ (D 107 11 = 0 ↔ K.1 = 0) := by
  have h1 := h.1
  unfold cdM at h1
  generalize D 107 11 = x at h1
  generalize K.1 = k at h1 h2
  split at h1
  · omega
  · split at h1 <;> omega
section
variable {l : Launch} {E : Ev} {G : Sh} {D : Dm} {T : Int → Int} {n : Int} {K : Tk}
theorem lv_TB (hT : TB T n) (hl : lvM T n D K) : TB (D 113) n := fun i p q => by rw [hl.2.2.2.1 i p q]; exact hT i p q
theorem m_ahead (hL : Lay G) (hn : 0 ≤ n ∧ n ≤ 600) (hT : TB T n) (hl : lvM T n D K) (h4 : K.1 ≠ 4) : C0 l E MX10_ahead 2 [vR E 107] G D (fun _ D' => smO D D' ∧ lvM T n D' (nxK T n K)) := by
  have hTB := lv_TB hT hl
  obtain ⟨a1, a2, a3, a4, a5, a6⟩ := hl
  have hp := a6.2.2.1 h4
  have hp0 := a6.2.1
  refine C0.use (c_X10_ahead hL hn (p := K.2.2.1) (by omega) a3 hTB (a5.2.2.1 h4)) ?_
  rintro - D' ⟨h1, h2⟩
  rw [tok_cg a4 (by omega)] at h1
  exact ⟨h2, by rw [h2 107 17 (by omega)]; exact a1, by rw [h2 107 16 (by omega)]; exact a2, by rw [h2 107 10 (by omega)]; exact a3, fun i p q => by rw [h2 113 i (by omega)]; exact a4 i p q, h1, (nx_ok a6 h4).1⟩
theorem m_fails (hL : Lay G) {why : Int} (hw : why ≠ 0 ∧ iRg why) (hl : lvM T n D K) : C0 l E MX10_fails 0 [vR E 107, vI why] G D (fun r D' => wO D D' ∧ r = 0 ∧ ddM D' (fl K why)) := by
  obtain ⟨a1, a2, a3, a4, a5, a6⟩ := hl
  have hk := (RM.k a5 a6.1).2.2.2.1
  have fin : ∀ x : Int, x = (if K.1 = 4 then 1 else why) → wO D (upd2 (upd2 D 107 17 x) 107 16 (D 107 12)) ∧ (0 : Int) = 0 ∧ ddM (upd2 (upd2 D 107 17 x) 107 16 (D 107 12)) (fl K why) := by
    intro x hx
    have x0 : x ≠ 0 := by rw [hx]; split <;> omega
    refine ⟨fun c i p => ?_, rfl, ?_, ?_⟩
    · simp only [upd2]; rw [if_neg (by omega), if_neg (by omega)]
    · rw [upd2_place _ _ _ (by decide), upd2_same]; exact x0
    · rw [upd2_place _ _ _ (by decide), upd2_same, upd2_same, a5.2.1, hx]; rfl
  refine s_X10_fails hL ⟨fun z => absurd a1 z, fun _ => ⟨fun z => ⟨hw.2, rfl, fin why ?_⟩, fun z => ⟨rfl, fin 1 ?_⟩⟩⟩
  · rw [if_neg (fun q => z (hk.2 q))]
  · rw [if_pos (hk.1 z)]
theorem m_key (hL : Lay G) (hn : 0 ≤ n ∧ n ≤ 600) (hT : TB T n) (hl : lvM T n D K) : C0 l E MX10_keyWord 0 [vR E 107] G D (fun r D' => r = kOf K ∧ D' = D) := by
  have hTB := lv_TB hT hl
  obtain ⟨a1, a2, a3, a4, a5, a6⟩ := hl
  have hk := (RM.k a5 a6.1).1
  have hp0 := a6.2.1
  by_cases h1 : K.1 = 1
  · have hp := a6.2.2.1 (by omega)
    have hlt := a6.2.2.2.1 (Or.inl h1)
    have hw := a6.2.2.2.2.1 h1
    have hlet : ∀ i, K.2.1 ≤ i → i < K.2.2.1 → leB (D 113) i = true := fun i p q => by
      have := hw.1 i p q
      unfold leB at this ⊢
      rw [a4 i (by omega) (by omega)]; exact this
    refine C0.use (c_X10_keyWord hL hn a3 hTB hp0.1 hp.1 hp.2 a5.2.1 (fun _ => a5.2.2.1 (by omega)) (fun _ => hlet)) ?_
    rintro r D1 ⟨rfl, rfl⟩
    try dsimp only
    refine ⟨?_, rfl⟩
    rw [if_pos (hk.2 h1), kwF_I hlt hlet]
    unfold kOf
    rw [if_pos h1, hw.2]
    by_cases q : 8 < K.2.2.1 - K.2.1
    · rw [if_pos q, if_pos q]
    · rw [if_neg q, if_neg q, wv_cg (T := D1 113) (U := T) (s := K.2.1) (u := K.2.1) _ (fun i hi => a4 _ (by omega) (by omega))]
  · refine C0.use (c_X10_keyWord hL hn a3 hTB hp0.1 (Int.le_refl _) hp0.2 a5.2.1 (fun q => absurd (hk.1 q) h1) (fun q => absurd (hk.1 q) h1)) ?_
    rintro r D1 ⟨rfl, rfl⟩
    try dsimp only
    refine ⟨?_, rfl⟩
    rw [if_neg (fun q => h1 (hk.1 q))]
    unfold kOf
    rw [if_neg h1]
theorem m_word (hL : Lay G) (hn : 0 ≤ n ∧ n ≤ 600) (hT : TB T n) (hl : lvM T n D K) {j : Nat} (hj : j < 14) {c : Int} (hc : kcL.getD j 0 = c) {x : Int} (hx : x = j) : C0 l E MX10_wantWord 0 [vR E 107, vI x] G D (fun r D' => (r = 1 ∧ smO D D' ∧ lvM T n D' (nxK T n K) ∧ ∀ k, WW T n c K k = k (nxK T n K)) ∨ (r = 0 ∧ wO D D' ∧ ∀ k, ddM D' (WW T n c K k))) := by
  refine s_X10_wantWord hL ?_
  refine C0.use (m_key hL hn hT hl) ?_
  rintro r D1 ⟨rfl, rfl⟩
  try dsimp only
  have hb := kOf_b K
  have hi := kOf_w (K := K) hj
  rw [hc] at hi
  subst hx
  refine ⟨⟨by omega, by omega⟩, fun z => ?_, fun z => ?_⟩
  · have hw := hi.1 z
    refine C0.use (m_ahead hL hn hT hl (by omega)) ?_
    rintro - D2 ⟨h1, h2⟩
    exact ⟨rfl, Or.inl ⟨rfl, h1, h2, fun k => by rw [WW, if_pos hw]⟩⟩
  · refine C0.use (m_fails hL (why := 2) (by decide) hl) ?_
    rintro r D2 ⟨h1, rfl, h2⟩
    try dsimp only
    exact ⟨Or.inl rfl, rfl, Or.inr ⟨rfl, h1, fun k => by rw [WW, if_neg (fun q => z (hi.2 q))]; exact h2⟩⟩
theorem m_num (hL : Lay G) (hn : 0 ≤ n ∧ n ≤ 600) (hT : TB T n) (hl : lvM T n D K) {to lo hi : Int} (ht : 0 ≤ to ∧ to < 500) (hlo : iRg lo) (hhi : iRg hi) : C0 l E MX10_number 0 [vR E 107, vI to, vI lo, vI hi] G D (fun r D' => (r = 1 ∧ ∃ x, (lo ≤ x ∧ x ≤ hi) ∧ smO (upd2 D 108 to x) D' ∧ lvM T n D' (nxK T n K) ∧ ∀ k, NB T n lo hi K k = k x (nxK T n K)) ∨ (r = 0 ∧ wO D D' ∧ ∀ k, ddM D' (NB T n lo hi K k))) := by
  have hk := (RM.k hl.2.2.2.2.1 hl.2.2.2.2.2.1).2.1
  have e14 : K.1 = 2 → D 107 14 = K.2.2.2 := hl.2.2.2.2.1.2.2.2
  have bad : ∀ why, why ≠ 0 → iRg why → (∀ k, NB T n lo hi K k = fl K why) → C0 l E MX10_fails 0 [vR E 107, vI why] G D (fun r8 D8 => (r8 = 0 ∨ r8 = 1) ∧ G = G ∧ ((r8 = 1 ∧ ∃ x, (lo ≤ x ∧ x ≤ hi) ∧ smO (upd2 D 108 to x) D8 ∧ lvM T n D8 (nxK T n K) ∧ ∀ k, NB T n lo hi K k = k x (nxK T n K)) ∨ (r8 = 0 ∧ wO D D8 ∧ ∀ k, ddM D8 (NB T n lo hi K k)))) := by
    intro why h0 h1 hf
    refine C0.use (m_fails hL ⟨h0, h1⟩ hl) ?_
    rintro r D2 ⟨g1, rfl, g2⟩
    exact ⟨Or.inl rfl, rfl, Or.inr ⟨rfl, g1, fun k => by rw [hf k]; exact g2⟩⟩
  refine s_X10_number hL ⟨fun z => ⟨hlo, fun z2 => bad 4 (by decide) (by decide) (fun k => ?_), fun z2 => ⟨hhi, fun z3 => ⟨ht, ?_⟩, fun z3 => bad 4 (by decide) (by decide) (fun k => ?_)⟩⟩, fun z => bad 2 (by decide) (by decide) (fun k => ?_)⟩
  · have h1 := hk.1 z
    have := e14 h1
    rw [NB, if_pos h1, if_neg (by omega)]
  · have h1 := hk.1 z
    have e := e14 h1
    refine C0.use (m_ahead hL hn hT (hl.up (c := 108) (by decide) to (D 107 14)) (by omega)) ?_
    rintro - D2 ⟨g1, g2⟩
    exact ⟨rfl, Or.inl ⟨rfl, D 107 14, ⟨by omega, by omega⟩, g1, g2, fun k => by rw [NB, if_pos h1, if_pos (by omega), e]⟩⟩
  · have h1 := hk.1 z
    have := e14 h1
    rw [NB, if_pos h1, if_neg (by omega)]
  · rw [NB, if_neg (fun q => z (hk.2 q))]
theorem nm_k (hK : Kok T n K) : nmOk K ↔ (K.1 = 1 ∧ K.2.2.1 - K.2.1 ≤ 8 ∧ kOf K = -1) := by
  constructor
  · rintro ⟨h1, h2, h3⟩
    have hw := hK.2.2.2.2.1 h1
    refine ⟨h1, Classical.byContradiction (fun q => h3 (by rw [hw.2, if_pos (by omega)])), ?_⟩
    unfold kOf
    rw [if_pos h1]; exact h2
  · rintro ⟨h1, h2, h3⟩
    have hw := hK.2.2.2.2.1 h1
    have hlt := hK.2.2.2.1 (Or.inl h1)
    unfold kOf at h3
    rw [if_pos h1] at h3
    refine ⟨h1, h3, ?_⟩
    rw [hw.2, if_neg (by omega)]
    have := wv_pos (T := T) (s := K.2.1) (k := (K.2.2.1 - K.2.1).toNat) (by omega) (by omega) (fun i a b => hw.1 i a (by omega))
    omega
theorem m_isName (hL : Lay G) (hn : 0 ≤ n ∧ n ≤ 600) (hT : TB T n) (hl : lvM T n D K) : C0 l E MX10_isName 0 [vR E 107] G D (fun r D' => r = (if nmOk K then 1 else 0) ∧ D' = D) := by
  have hk := (RM.k hl.2.2.2.2.1 hl.2.2.2.2.2.1).1
  have hKo := hl.2.2.2.2.2
  have hi := nm_k hKo
  have e12 : D 107 12 = K.2.1 := hl.2.2.2.2.1.2.1
  have h0 := hKo.2.1
  refine s_X10_isName hL ⟨fun z => ⟨rfl, by rw [if_neg (fun q => z (hk.2 (hi.1 q).1))], rfl⟩, fun z => ?_⟩
  have h1 := hk.1 z
  have e13 : D 107 13 = K.2.2.1 := hl.2.2.2.2.1.2.2.1 (by omega)
  have hp := hKo.2.2.1 (by omega)
  rw [e12, e13]
  refine ⟨by omega, fun z2 => ⟨rfl, by rw [if_neg (fun q => by have := (hi.1 q).2.1; omega)], rfl⟩, fun z2 => ?_⟩
  refine C0.use (m_key hL hn hT hl) ?_
  rintro r D1 ⟨rfl, rfl⟩
  try dsimp only
  have hb := kOf_b K
  exact ⟨by omega, fun y => ⟨rfl, by rw [if_neg (fun q => y (hi.1 q).2.2)], rfl⟩, fun y => ⟨rfl, by rw [if_pos (hi.2 ⟨h1, z2, y⟩)], rfl⟩⟩
theorem m_here (hL : Lay G) (hn : 0 ≤ n ∧ n ≤ 600) (hT : TB T n) (hl : lvM T n D K) (hm : nmOk K) : C0 l E MX10_nameHere 1 [vR E 107] G D (fun r D' => r = K.2.2.2 ∧ D' = D) := by
  have hTB := lv_TB hT hl
  obtain ⟨a1, a2, a3, a4, a5, a6⟩ := hl
  obtain ⟨h1, h8, _⟩ := (nm_k a6).1 hm
  have hp := a6.2.2.1 (by omega)
  have hp0 := a6.2.1
  have hw := a6.2.2.2.2.1 h1
  have e13 : D 107 13 = K.2.2.1 := a5.2.2.1 (by omega)
  have ev : K.2.2.2 = wv T K.2.1 (K.2.2.1 - K.2.1).toNat := by rw [hw.2, if_neg (by omega)]
  refine s_X10_nameHere hL ?_
  rw [a5.2.1]
  refine up_from (P := fun i => KX10_nameHere l E _ 7 [(0, vR E 107), (1, vJ (wv T K.2.1 (i - K.2.1).toNat)), (3, vI i)] G D) (lo := K.2.1) (n := K.2.2.1) hp.1 ?_ ?_ |> (fun h => by rw [Int.sub_self] at h; exact h)
  · refine s_X10_nameHere_7 hL ⟨by omega, fun _ => ⟨rfl, ev.symm, rfl⟩, fun z => absurd z (by omega)⟩
  · intro i i0 i1 ih
    refine s_X10_nameHere_7 hL ⟨by omega, fun z => absurd z (by omega), fun _ => ?_⟩
    refine C0.use (c_X10_byteAt hL hn a3 hTB (p := i) (by omega)) ?_
    rintro r D1 ⟨rfl, rfl⟩
    try dsimp only
    have hlt := hw.1 i i0 i1
    have hlt' : 97 ≤ T i ∧ T i ≤ 122 := by unfold leB at hlt; exact of_decide_eq_true hlt
    have eb : byS (D1 113) n i = T i := by
      unfold byS
      rw [if_pos (by omega), a4 i (by omega) (by omega), if_neg (by omega)]
    rw [eb]
    refine ⟨by omega, ?_⟩
    have e1 : (i + 1 - K.2.1).toNat = (i - K.2.1).toNat + 1 := by omega
    rw [e1] at ih
    have e2 : wv T K.2.1 ((i - K.2.1).toNat + 1) = jO (jSl (wv T K.2.1 (i - K.2.1).toNat) 8) (T (K.2.1 + (i - K.2.1).toNat)) := rfl
    rw [e2, show K.2.1 + ((i - K.2.1).toNat : Int) = i by omega] at ih
    exact ih
theorem wv_J (hK : Kok T n K) (h1 : K.1 = 1) : -9223372036854775808 ≤ K.2.2.2 ∧ K.2.2.2 < 9223372036854775808 := by
  have hw := hK.2.2.2.2.1 h1
  rw [hw.2]
  by_cases q : 8 < K.2.2.1 - K.2.1
  · rw [if_pos q]; decide
  · rw [if_neg q]
    have := (wv_1 (T := T) (s := K.2.1) (K.2.2.1 - K.2.1).toNat (by omega) (fun i a b => hw.1 i a (by omega))).1
    have hlt := hK.2.2.2.1 (Or.inl h1)
    generalize hg : (K.2.2.1 - K.2.1).toNat = k at this
    have hb : bdL k ≤ 8863084066665136128 := by
      rcases (show k = 0 ∨ k = 1 ∨ k = 2 ∨ k = 3 ∨ k = 4 ∨ k = 5 ∨ k = 6 ∨ k = 7 ∨ k = 8 by omega) with rfl | rfl | rfl | rfl | rfl | rfl | rfl | rfl | rfl <;> decide
    omega
theorem c_X10_finds (hL : Lay G) {m x : Int} (hm : 0 ≤ m ∧ m ≤ 10) (hx : -9223372036854775808 ≤ x ∧ x < 9223372036854775808) : C0 l E MX10_find 0 [vR E 114, vI m, vJ x] G D (fun r D' => r = fnd (D 114) m x ∧ D' = D) := by
  refine s_X10_finds hL ?_
  refine up_from (P := fun i => fstF (fun j => decide (D 114 j = x)) i (m - i).toNat = fnd (D 114) m x → KX10_find l E _ 3 [(0, vR E 114), (1, vI m), (2, vJ x), (4, vI i)] G D) (lo := 0) (n := m) hm.1 ?_ ?_ (by rw [Int.sub_zero]; rfl)
  · intro he
    rw [Int.sub_self] at he
    exact s_X10_finds_3 hL ⟨by omega, fun _ => ⟨rfl, he, rfl⟩, fun z => absurd z (by omega)⟩
  · intro i i0 i1 ih he
    rw [show (m - i).toNat = (m - (i + 1)).toNat + 1 by omega, fstF] at he
    refine s_X10_finds_3 hL ⟨by omega, fun z => absurd z (by omega), fun _ => ⟨⟨by omega, hx⟩, fun z => ih ?_, fun z => ⟨rfl, ?_, rfl⟩⟩⟩
    · rw [if_neg (by simp only [decide_eq_true_eq]; exact z)] at he; exact he
    · rw [if_pos (by simp only [decide_eq_true_eq]; exact z)] at he; exact he
theorem c_X10_findf (hL : Lay G) {m x : Int} (hm : 0 ≤ m ∧ m ≤ 4) (hx : -9223372036854775808 ≤ x ∧ x < 9223372036854775808) : C0 l E MX10_find 0 [vR E 115, vI m, vJ x] G D (fun r D' => r = fnd (D 115) m x ∧ D' = D) := by
  refine s_X10_findf hL ?_
  refine up_from (P := fun i => fstF (fun j => decide (D 115 j = x)) i (m - i).toNat = fnd (D 115) m x → KX10_find l E _ 3 [(0, vR E 115), (1, vI m), (2, vJ x), (4, vI i)] G D) (lo := 0) (n := m) hm.1 ?_ ?_ (by rw [Int.sub_zero]; rfl)
  · intro he
    rw [Int.sub_self] at he
    exact s_X10_findf_3 hL ⟨by omega, fun _ => ⟨rfl, he, rfl⟩, fun z => absurd z (by omega)⟩
  · intro i i0 i1 ih he
    rw [show (m - i).toNat = (m - (i + 1)).toNat + 1 by omega, fstF] at he
    refine s_X10_findf_3 hL ⟨by omega, fun z => absurd z (by omega), fun _ => ⟨⟨by omega, hx⟩, fun z => ih ?_, fun z => ⟨rfl, ?_, rfl⟩⟩⟩
    · rw [if_neg (by simp only [decide_eq_true_eq]; exact z)] at he; exact he
    · rw [if_pos (by simp only [decide_eq_true_eq]; exact z)] at he; exact he
end
